theorem ins_X4 : Cond.instantiable RX4 8 ∈ bg := bg_in 90 (by decide +kernel) (by decide +kernel)
theorem ini_X4 : Cond.initialized RX4 ∈ bg := bg_in 74 (by decide +kernel) (by decide +kernel)
theorem ins_X5 : Cond.instantiable RX5 24 ∈ bg := bg_in 860 (by decide +kernel) (by decide +kernel)
theorem ini_X5 : Cond.initialized RX5 ∈ bg := bg_in 79 (by decide +kernel) (by decide +kernel)
theorem cl_L_7 : Cond.classLink R_law 7 RX4 ∈ bg := bg_in 89 (by decide +kernel) (by decide +kernel)
theorem cl_L_10 : Cond.classLink R_law 10 RX5 ∈ bg := bg_in 859 (by decide +kernel) (by decide +kernel)
theorem ml_L_9 : Cond.methodLink R_law 9 yX4_init ∈ bg := bg_in 91 (by decide +kernel) (by decide +kernel)
theorem ml_L_12 : Cond.methodLink R_law 12 yX5_init ∈ bg := bg_in 861 (by decide +kernel) (by decide +kernel)
theorem dj_range {A : Nat → Prop} {ws : va_W} (hD : va_D A ws) {p m q n : Nat} (h : p + m ≤ q ∨ q + n ≤ p) : dj (((ws.drop p).take m).map (fun q => q.1)) (((ws.drop q).take n).map (fun q => q.1)) := by
  have key : ∀ (x p m : Nat), x ∈ ((ws.drop p).take m).map (fun q => q.1) → ∃ (a : Nat) (e : va_E), a < m ∧ ws[p + a]? = some (x, e) := by
    intro x p m hx
    obtain ⟨⟨x', e⟩, h1, h2⟩ := List.mem_map.mp hx
    obtain ⟨a, ha⟩ := List.getElem?_of_mem h1
    have hlt : a < m := by
      have := (List.getElem?_eq_some_iff.mp ha).1
      rw [List.length_take] at this
      omega
    rw [List.getElem?_take_of_lt hlt, List.getElem?_drop] at ha
    have h2 : x' = x := h2
    subst h2
    exact ⟨a, e, hlt, ha⟩
  intro x hx hx2
  obtain ⟨a, e1, h1, h2⟩ := key x p m hx
  obtain ⟨b, e2, h3, h4⟩ := key x q n hx2
  have := hD.1 _ _ _ _ h2 h4 rfl
  omega
set_option maxRecDepth 100000 in
set_option maxHeartbeats 4000000 in
theorem LC_of {A : Nat → Prop} {a_T a_n a_k a_t a_s a_r a_c a_M : Nat → Nat} {ws : va_W} (hD : va_D A ws) (hw : ws.map (fun q => q.1) = [a_T 0, a_T 1, a_n 0, a_n 1, a_n 2, a_n 3, a_n 4, a_n 5, a_k 0, a_k 1, a_k 2, a_k 3, a_k 4, a_k 5, a_t 0, a_t 1, a_t 2, a_t 3, a_t 4, a_t 5, a_s 0, a_s 1, a_r 0, a_r 1, a_c 0, a_c 1, a_c 2, a_M 0, a_M 1, a_M 2, a_M 3, a_M 4, a_M 5, a_M 6, a_M 7, a_M 8, a_M 9, a_M 10, a_M 11, a_M 12, a_M 13]) : LC a_T a_n a_k a_t a_s a_r a_c a_M A := by
  have hD2 : va_D A ([a_T 0, a_T 1, a_n 0, a_n 1, a_n 2, a_n 3, a_n 4, a_n 5, a_k 0, a_k 1, a_k 2, a_k 3, a_k 4, a_k 5, a_t 0, a_t 1, a_t 2, a_t 3, a_t 4, a_t 5, a_s 0, a_s 1, a_r 0, a_r 1, a_c 0, a_c 1, a_c 2, a_M 0, a_M 1, a_M 2, a_M 3, a_M 4, a_M 5, a_M 6, a_M 7, a_M 8, a_M 9, a_M 10, a_M 11, a_M 12, a_M 13].map (fun a => (a, (.inl (0, 0, .inl (fun _ => 0)) : va_E)))) := zD hD (by rw [hw]; rfl)
  refine ⟨fun i j hne hi hj => ?_, ?_, ?_, ?_, ?_, ?_, ?_, ?_, ?_, ?_, ?_, ?_⟩
  · rcases (show i = 0 ∨ i = 1 ∨ i = 2 ∨ i = 3 ∨ i = 4 ∨ i = 5 ∨ i = 6 ∨ i = 7 by omega) with rfl | rfl | rfl | rfl | rfl | rfl | rfl | rfl
    · rcases (show j = 0 ∨ j = 1 ∨ j = 2 ∨ j = 3 ∨ j = 4 ∨ j = 5 ∨ j = 6 ∨ j = 7 by omega) with rfl | rfl | rfl | rfl | rfl | rfl | rfl | rfl
      · exact absurd rfl hne
      · exact dj_range hD2 (p := 0) (m := 2) (q := 2) (n := 6) (by decide)
      · exact dj_range hD2 (p := 0) (m := 2) (q := 8) (n := 6) (by decide)
      · exact dj_range hD2 (p := 0) (m := 2) (q := 14) (n := 6) (by decide)
      · exact dj_range hD2 (p := 0) (m := 2) (q := 20) (n := 2) (by decide)
      · exact dj_range hD2 (p := 0) (m := 2) (q := 22) (n := 2) (by decide)
      · exact dj_range hD2 (p := 0) (m := 2) (q := 24) (n := 3) (by decide)
      · exact dj_range hD2 (p := 0) (m := 2) (q := 27) (n := 14) (by decide)
    · rcases (show j = 0 ∨ j = 1 ∨ j = 2 ∨ j = 3 ∨ j = 4 ∨ j = 5 ∨ j = 6 ∨ j = 7 by omega) with rfl | rfl | rfl | rfl | rfl | rfl | rfl | rfl
      · exact dj_range hD2 (p := 2) (m := 6) (q := 0) (n := 2) (by decide)
      · exact absurd rfl hne
      · exact dj_range hD2 (p := 2) (m := 6) (q := 8) (n := 6) (by decide)
      · exact dj_range hD2 (p := 2) (m := 6) (q := 14) (n := 6) (by decide)
      · exact dj_range hD2 (p := 2) (m := 6) (q := 20) (n := 2) (by decide)
      · exact dj_range hD2 (p := 2) (m := 6) (q := 22) (n := 2) (by decide)
      · exact dj_range hD2 (p := 2) (m := 6) (q := 24) (n := 3) (by decide)
      · exact dj_range hD2 (p := 2) (m := 6) (q := 27) (n := 14) (by decide)
    · rcases (show j = 0 ∨ j = 1 ∨ j = 2 ∨ j = 3 ∨ j = 4 ∨ j = 5 ∨ j = 6 ∨ j = 7 by omega) with rfl | rfl | rfl | rfl | rfl | rfl | rfl | rfl
      · exact dj_range hD2 (p := 8) (m := 6) (q := 0) (n := 2) (by decide)
      · exact dj_range hD2 (p := 8) (m := 6) (q := 2) (n := 6) (by decide)
      · exact absurd rfl hne
      · exact dj_range hD2 (p := 8) (m := 6) (q := 14) (n := 6) (by decide)
      · exact dj_range hD2 (p := 8) (m := 6) (q := 20) (n := 2) (by decide)
      · exact dj_range hD2 (p := 8) (m := 6) (q := 22) (n := 2) (by decide)
      · exact dj_range hD2 (p := 8) (m := 6) (q := 24) (n := 3) (by decide)
      · exact dj_range hD2 (p := 8) (m := 6) (q := 27) (n := 14) (by decide)
    · rcases (show j = 0 ∨ j = 1 ∨ j = 2 ∨ j = 3 ∨ j = 4 ∨ j = 5 ∨ j = 6 ∨ j = 7 by omega) with rfl | rfl | rfl | rfl | rfl | rfl | rfl | rfl
      · exact dj_range hD2 (p := 14) (m := 6) (q := 0) (n := 2) (by decide)
      · exact dj_range hD2 (p := 14) (m := 6) (q := 2) (n := 6) (by decide)
      · exact dj_range hD2 (p := 14) (m := 6) (q := 8) (n := 6) (by decide)
      · exact absurd rfl hne
      · exact dj_range hD2 (p := 14) (m := 6) (q := 20) (n := 2) (by decide)
      · exact dj_range hD2 (p := 14) (m := 6) (q := 22) (n := 2) (by decide)
      · exact dj_range hD2 (p := 14) (m := 6) (q := 24) (n := 3) (by decide)
      · exact dj_range hD2 (p := 14) (m := 6) (q := 27) (n := 14) (by decide)
    · rcases (show j = 0 ∨ j = 1 ∨ j = 2 ∨ j = 3 ∨ j = 4 ∨ j = 5 ∨ j = 6 ∨ j = 7 by omega) with rfl | rfl | rfl | rfl | rfl | rfl | rfl | rfl
      · exact dj_range hD2 (p := 20) (m := 2) (q := 0) (n := 2) (by decide)
      · exact dj_range hD2 (p := 20) (m := 2) (q := 2) (n := 6) (by decide)
      · exact dj_range hD2 (p := 20) (m := 2) (q := 8) (n := 6) (by decide)
      · exact dj_range hD2 (p := 20) (m := 2) (q := 14) (n := 6) (by decide)
      · exact absurd rfl hne
      · exact dj_range hD2 (p := 20) (m := 2) (q := 22) (n := 2) (by decide)
      · exact dj_range hD2 (p := 20) (m := 2) (q := 24) (n := 3) (by decide)
      · exact dj_range hD2 (p := 20) (m := 2) (q := 27) (n := 14) (by decide)
    · rcases (show j = 0 ∨ j = 1 ∨ j = 2 ∨ j = 3 ∨ j = 4 ∨ j = 5 ∨ j = 6 ∨ j = 7 by omega) with rfl | rfl | rfl | rfl | rfl | rfl | rfl | rfl
      · exact dj_range hD2 (p := 22) (m := 2) (q := 0) (n := 2) (by decide)
      · exact dj_range hD2 (p := 22) (m := 2) (q := 2) (n := 6) (by decide)
      · exact dj_range hD2 (p := 22) (m := 2) (q := 8) (n := 6) (by decide)
      · exact dj_range hD2 (p := 22) (m := 2) (q := 14) (n := 6) (by decide)
      · exact dj_range hD2 (p := 22) (m := 2) (q := 20) (n := 2) (by decide)
      · exact absurd rfl hne
      · exact dj_range hD2 (p := 22) (m := 2) (q := 24) (n := 3) (by decide)
      · exact dj_range hD2 (p := 22) (m := 2) (q := 27) (n := 14) (by decide)
    · rcases (show j = 0 ∨ j = 1 ∨ j = 2 ∨ j = 3 ∨ j = 4 ∨ j = 5 ∨ j = 6 ∨ j = 7 by omega) with rfl | rfl | rfl | rfl | rfl | rfl | rfl | rfl
      · exact dj_range hD2 (p := 24) (m := 3) (q := 0) (n := 2) (by decide)
      · exact dj_range hD2 (p := 24) (m := 3) (q := 2) (n := 6) (by decide)
      · exact dj_range hD2 (p := 24) (m := 3) (q := 8) (n := 6) (by decide)
      · exact dj_range hD2 (p := 24) (m := 3) (q := 14) (n := 6) (by decide)
      · exact dj_range hD2 (p := 24) (m := 3) (q := 20) (n := 2) (by decide)
      · exact dj_range hD2 (p := 24) (m := 3) (q := 22) (n := 2) (by decide)
      · exact absurd rfl hne
      · exact dj_range hD2 (p := 24) (m := 3) (q := 27) (n := 14) (by decide)
    · rcases (show j = 0 ∨ j = 1 ∨ j = 2 ∨ j = 3 ∨ j = 4 ∨ j = 5 ∨ j = 6 ∨ j = 7 by omega) with rfl | rfl | rfl | rfl | rfl | rfl | rfl | rfl
      · exact dj_range hD2 (p := 27) (m := 14) (q := 0) (n := 2) (by decide)
      · exact dj_range hD2 (p := 27) (m := 14) (q := 2) (n := 6) (by decide)
      · exact dj_range hD2 (p := 27) (m := 14) (q := 8) (n := 6) (by decide)
      · exact dj_range hD2 (p := 27) (m := 14) (q := 14) (n := 6) (by decide)
      · exact dj_range hD2 (p := 27) (m := 14) (q := 20) (n := 2) (by decide)
      · exact dj_range hD2 (p := 27) (m := 14) (q := 22) (n := 2) (by decide)
      · exact dj_range hD2 (p := 27) (m := 14) (q := 24) (n := 3) (by decide)
      · exact absurd rfl hne
  · exact fun ws2 h2 => zD (hD2.sub (ws' := [a_T 0, a_T 1, a_s 0, a_s 1].map (fun a => (a, (.inl (0, 0, .inl (fun _ => 0)) : va_E)))) [0, 1, 20, 21] (by decide) rfl) (by rw [h2]; rfl)
  · exact fun ws2 h2 => zD (hD2.sub (ws' := [a_T 0, a_T 1, a_n 0, a_n 1, a_n 2, a_n 3, a_n 4, a_n 5, a_t 0, a_t 1, a_t 2, a_t 3, a_t 4, a_t 5, a_s 0, a_s 1].map (fun a => (a, (.inl (0, 0, .inl (fun _ => 0)) : va_E)))) [0, 1, 2, 3, 4, 5, 6, 7, 14, 15, 16, 17, 18, 19, 20, 21] (by decide) rfl) (by rw [h2]; rfl)
  · exact fun ws2 h2 => zD (hD2.sub (ws' := [a_T 0, a_T 1, a_n 0, a_n 1, a_n 2, a_n 3, a_n 4, a_n 5].map (fun a => (a, (.inl (0, 0, .inl (fun _ => 0)) : va_E)))) [0, 1, 2, 3, 4, 5, 6, 7] (by decide) rfl) (by rw [h2]; rfl)
  · exact fun ws2 h2 => zD (hD2.sub (ws' := [a_T 0, a_T 1].map (fun a => (a, (.inl (0, 0, .inl (fun _ => 0)) : va_E)))) [0, 1] (by decide) rfl) (by rw [h2]; rfl)
  · exact fun ws2 h2 => zD (hD2.sub (ws' := [a_T 0, a_T 1, a_n 0, a_n 1, a_n 2, a_n 3, a_n 4, a_n 5, a_c 0, a_c 1, a_c 2].map (fun a => (a, (.inl (0, 0, .inl (fun _ => 0)) : va_E)))) [0, 1, 2, 3, 4, 5, 6, 7, 24, 25, 26] (by decide) rfl) (by rw [h2]; rfl)
  · exact fun ws2 h2 => zD (hD2.sub (ws' := [a_T 0, a_T 1, a_r 0, a_r 1].map (fun a => (a, (.inl (0, 0, .inl (fun _ => 0)) : va_E)))) [0, 1, 22, 23] (by decide) rfl) (by rw [h2]; rfl)
  · exact fun ws2 h2 => zD (hD2.sub (ws' := [a_T 0, a_T 1, a_n 0, a_n 1, a_n 2, a_n 3, a_n 4, a_n 5, a_r 0, a_r 1].map (fun a => (a, (.inl (0, 0, .inl (fun _ => 0)) : va_E)))) [0, 1, 2, 3, 4, 5, 6, 7, 22, 23] (by decide) rfl) (by rw [h2]; rfl)
  · exact fun ws2 h2 => zD (hD2.sub (ws' := [a_T 0, a_T 1, a_n 0, a_n 1, a_n 2, a_n 3, a_n 4, a_n 5, a_k 0, a_k 1, a_k 2, a_k 3, a_k 4, a_k 5].map (fun a => (a, (.inl (0, 0, .inl (fun _ => 0)) : va_E)))) [0, 1, 2, 3, 4, 5, 6, 7, 8, 9, 10, 11, 12, 13] (by decide) rfl) (by rw [h2]; rfl)
  · exact fun ws2 h2 => zD (hD2.sub (ws' := [a_T 0, a_T 1, a_n 0, a_n 1, a_n 2, a_n 3, a_n 4, a_n 5, a_s 0, a_s 1, a_r 0, a_r 1].map (fun a => (a, (.inl (0, 0, .inl (fun _ => 0)) : va_E)))) [0, 1, 2, 3, 4, 5, 6, 7, 20, 21, 22, 23] (by decide) rfl) (by rw [h2]; rfl)
  · exact fun ws2 h2 => zD (hD2.sub (ws' := [].map (fun a => (a, (.inl (0, 0, .inl (fun _ => 0)) : va_E)))) [] (by decide) rfl) (by rw [h2]; rfl)
  · exact fun ws2 h2 => zD (hD2.sub (ws' := [a_M 0, a_M 1, a_M 2, a_M 3, a_M 4, a_M 5, a_M 6, a_M 7, a_M 8, a_M 9, a_M 10, a_M 11, a_M 12, a_M 13].map (fun a => (a, (.inl (0, 0, .inl (fun _ => 0)) : va_E)))) [27, 28, 29, 30, 31, 32, 33, 34, 35, 36, 37, 38, 39, 40] (by decide) rfl) (by rw [h2]; rfl)
/-- what the constructors leave -/
def RInit (RL : RT) (Pw : Int32 → Int64 → Int32 → (Nat → Int64) → (Nat → Int32) → (Nat → Int64) → Prop) : Prop := wpX3_beginAnew Pw (16 : Int32) (2 : Int32) (20 : Int32) (0 : Int32) (fun _ => 0) (fun _ => 0) (fun _ => 0) ∧ ∀ (n_used : Int32) (n_total : Int64) (n_open : Int32) (n_weights : Nat → Int64) (n_woods : Nat → Int32) (n_sums : Nat → Int64) (k_used : Int32) (k_total : Int64) (k_open : Int32) (k_weights : Nat → Int64) (k_woods : Nat → Int32) (k_sums : Nat → Int64), Pw n_used n_total n_open n_weights n_woods n_sums → Pw k_used k_total k_open k_weights k_woods k_sums → wpX5_alike (fun (M_used : Int32) (M_weight : Nat → Int32) => RL ((0 : Int32), (fun _ => 0)) ((16 : Int32), (2 : Int32), (20 : Int32), (0 : Int32), n_used, (0 : Int32), (0 : Int64), n_total, n_open, (fun _ => 0), (fun _ => 0), n_weights, n_woods, n_sums) ((16 : Int32), (2 : Int32), (20 : Int32), (0 : Int32), k_used, (0 : Int32), (0 : Int64), k_total, k_open, (fun _ => 0), (fun _ => 0), k_weights, k_woods, k_sums) ((0 : Int32), (0 : Int32), (fun _ => 0)) ((0 : Int32), (fun _ => 0)) (0, M_used, 0, 0, 0, 0, 0, 0, 0, 0, 0, (fun _ => 0), (upd (upd (upd (fun _ => 0) 0 (16 : Int32)) 1 (2 : Int32)) 2 (20 : Int32)), (fun _ => 0), (fun _ => 0), (fun _ => 0), M_weight, (fun _ => 0), (fun _ => 0), (fun _ => 0), (fun _ => 0), (fun _ => 0), (fun _ => 0), (fun _ => 0))) (fun _ => 0)
set_option maxHeartbeats 4000000 in
set_option maxRecDepth 100000 in
theorem law_start {RL : RT} (hp : PHall RL) {Pw : Int32 → Int64 → Int32 → (Nat → Int64) → (Nat → Int32) → (Nat → Int64) → Prop} (hI : RInit RL Pw) {p : Program} {e : Env} {s : State} {m : MethodId} {below : List Frame} {meth : Method} {c : Code} (l : Launch) {b L : Nat} {xs : Nat → Int32} (hL : L ≤ 2048) (C0 : lw_At p s m meth c b L xs) : W p l e room_1 s m #[Value.ref b] below meth c s.heap [] 0 0 (lw_Z below #[Value.ref b] s) (entryFrame m ([Value.ref b] : List Value).toArray 4) := by
  obtain ⟨hx, hb, hr, hml, hown, hts, hX, hbl, hlocks, hgv⟩ := id C0
  have ht := bg_tbl hts
  have hA : ∀ q : Nat, s.heap.size ≤ q → (fun q : Nat => s.heap.size ≤ q) q := fun _ h => h
  obtain ⟨c0, iS0, hKn0⟩ := u_known (C := RX0) (T := TX0) (N := 2) (n := 2) ht inX0 (ht _ ins_X0)
  obtain ⟨c1, iS1, hKn1⟩ := u_known (C := RX1) (T := TX1) (N := 5) (n := 5) ht inX1 (ht _ ins_X1)
  obtain ⟨c2, iS2, hKn2⟩ := u_known (C := RX2) (T := TX2) (N := 3) (n := 3) ht inX2 (ht _ ins_X2)
  obtain ⟨c3, iS3, hKn3⟩ := u_known (C := RX3) (T := TX3) (N := 14) (n := 14) ht inX3 (ht _ ins_X3)
  obtain ⟨c4, iS4, hKn4⟩ := u_known (C := RX4) (T := TX4) (N := 8) (n := 8) ht inX4 (ht _ ins_X4)
  obtain ⟨c5, iS5, hKn5⟩ := u_known (C := RX5) (T := TX5) (N := 24) (n := 24) ht inX5 (ht _ ins_X5)
  obtain ⟨dC, dI, hKc⟩ : ∃ (dC : Nat → ClassId) (dI : Nat → Nat → Nat), ∀ (k : Nat) (q : vw_C), vwCl[k]? = some q → u_Kn s q.1 q.2.1 q.2.2 (dC k) (dI k) := by
    refine ⟨fun k => if k = 0 then c0 else if k = 1 then c1 else if k = 2 then c2 else if k = 3 then c3 else if k = 4 then c4 else c5, fun k => if k = 0 then iS0 else if k = 1 then iS1 else if k = 2 then iS2 else if k = 3 then iS3 else if k = 4 then iS4 else iS5, ?_⟩
    intro k q hq
    match k, hq with
    | 0, hq => cases hq; exact hKn0
    | 1, hq => cases hq; exact hKn1
    | 2, hq => cases hq; exact hKn2
    | 3, hq => cases hq; exact hKn3
    | 4, hq => cases hq; exact hKn4
    | 5, hq => cases hq; exact hKn5
    | k + 6, hq => simp [vwCl] at hq
  obtain ⟨cI, kcI, mcI, f1cI, f2cI, f3cI⟩ := Cond.arrayClass_spec (ht _ ac_int)
  obtain ⟨cJ, kcJ, mcJ, f1cJ, f2cJ, f3cJ⟩ := Cond.arrayClass_spec (ht _ ac_long)
  obtain ⟨cC, kcC, mcC, f1cC, f2cC, f3cC⟩ := Cond.arrayClass_spec (ht _ ac_char)
  have hK : va_K (dC, dI) vwCl (tz cI cJ cC) s := by
    refine ⟨hKc, fun k q h => ?_⟩
    match k, h with
    | 0, h => cases h; exact ⟨fun n z => ⟨fun k h => (by cases h), kcI, f2cI, mcI, f3cI⟩, f1cI⟩
    | 1, h => cases h; exact ⟨fun n z => ⟨fun k h => (by cases h), kcJ, f2cJ, mcJ, f3cJ⟩, f1cJ⟩
    | 2, h => cases h; exact ⟨fun n z => ⟨fun k h => (by cases h), kcC, f2cC, mcC, f3cC⟩, f1cC⟩
    | k + 3, h => simp [tz] at h
  obtain ⟨G, hE⟩ := law_env (A := fun q : Nat => s.heap.size ≤ q) hts hgv (fun a h => Nat.not_le.mpr h)
  have S : CallFix p m c code 4 s #[Value.ref b] bg R_law := ⟨hx, hb, hml, hown, ht⟩
  have hS : va_S (fun q : Nat => s.heap.size ≤ q) s.heap s.heap [] := va_S.rf
  have hl := lv_entry ([.ref b]) (n := 4) (Nat.le_of_ble_eq_true rfl)
  rw [lg_entry_eq]
  generalize (lg_sl ([.ref b]) ++ List.replicate (4 - (lg_sl ([.ref b])).length) Slot.unset).toArray = ls at hl ⊢
  have hl : lv_has ls 4 [(0, .ref b)] := hl
  refine va_new (D := (dC, dI)) (ws := []) (ci := 4) (fs := [.null, .null, .null, .null, .null, .null, .null, .int 0]) (C := RX4) (T := TX4) (N := 8) hx hb ht inX4 tyX4 tyX4_ok hown (ht _ cl_L_7) (ht _ ins_X4) (ht _ ini_X4) hK zP0 zD0 hS hA rfl (fun j hj => by rcases (show j = 0 ∨ j = 1 ∨ j = 2 ∨ j = 3 ∨ j = 4 ∨ j = 5 ∨ j = 6 ∨ j = 7 by omega) with rfl | rfl | rfl | rfl | rfl | rfl | rfl | rfl <;> rfl) (by decide) (by decide) dL_law_0 (fun q4 H hP hD hS => ?_)
  have hP : va_P (dC, dI) vwCl ([] ++ [(q4, .inr (4, [.null, .null, .null, .null, .null, .null, .null, .int 0]))]) H := hP
  refine lv_dup hx hb dL_law_3 rfl ?_
  have hPw := zlastP hP
  have hDw := zlastD hD
  have hF := zF hA hDw hS
  refine zcN (post := fun (_ : Unit) => True) (B := fun (u : Unit) (H9 : Heap) => (fun (A : Nat → Prop) (_ : Unit) (H : Heap) => ∃ (a_T a_n a_k a_t a_s a_r a_c : Nat → Nat) (n_used : Int32) (n_total : Int64) (n_open : Int32) (n_weights : Nat → Int64) (n_woods : Nat → Int32) (n_sums : Nat → Int64) (k_used : Int32) (k_total : Int64) (k_open : Int32) (k_weights : Nat → Int64) (k_woods : Nat → Int32) (k_sums : Nat → Int64) (t_used : Int32) (t_total : Int64) (t_open : Int32) (t_weights : Nat → Int64) (t_woods : Nat → Int32) (t_sums : Nat → Int64), a_T 0 = q4 ∧ Pw n_used n_total n_open n_weights n_woods n_sums ∧ Pw k_used k_total k_open k_weights k_woods k_sums ∧ Pw t_used t_total t_open t_weights t_woods t_sums ∧ va_P (dC, dI) vwCl ((bX4 cI cJ cC a_T a_n a_k a_t a_s a_r a_c (0 : Int32) (fun _ => 0)) ++ (bX3 cI cJ cC a_n (16 : Int32) (2 : Int32) (20 : Int32) (0 : Int32) n_used (0 : Int32) (0 : Int64) n_total n_open (fun _ => 0) (fun _ => 0) n_weights n_woods n_sums) ++ (bX3 cI cJ cC a_k (16 : Int32) (2 : Int32) (20 : Int32) (0 : Int32) k_used (0 : Int32) (0 : Int64) k_total k_open (fun _ => 0) (fun _ => 0) k_weights k_woods k_sums) ++ (bX3 cI cJ cC a_t (16 : Int32) (2 : Int32) (20 : Int32) (0 : Int32) t_used (0 : Int32) (0 : Int64) t_total t_open (fun _ => 0) (fun _ => 0) t_weights t_woods t_sums) ++ (bX2 cI cJ cC a_s (0 : Int32) (0 : Int32) (fun _ => 0)) ++ (bX0 cI cJ cC a_r (0 : Int32) (fun _ => 0)) ++ (bX1 cI cJ cC a_c (0 : Int32) (0 : Int64) (0 : Int32) (fun _ => 0) (fun _ => 0))) H ∧ va_D A ((bX4 cI cJ cC a_T a_n a_k a_t a_s a_r a_c (0 : Int32) (fun _ => 0)) ++ (bX3 cI cJ cC a_n (16 : Int32) (2 : Int32) (20 : Int32) (0 : Int32) n_used (0 : Int32) (0 : Int64) n_total n_open (fun _ => 0) (fun _ => 0) n_weights n_woods n_sums) ++ (bX3 cI cJ cC a_k (16 : Int32) (2 : Int32) (20 : Int32) (0 : Int32) k_used (0 : Int32) (0 : Int64) k_total k_open (fun _ => 0) (fun _ => 0) k_weights k_woods k_sums) ++ (bX3 cI cJ cC a_t (16 : Int32) (2 : Int32) (20 : Int32) (0 : Int32) t_used (0 : Int32) (0 : Int64) t_total t_open (fun _ => 0) (fun _ => 0) t_weights t_woods t_sums) ++ (bX2 cI cJ cC a_s (0 : Int32) (0 : Int32) (fun _ => 0)) ++ (bX0 cI cJ cC a_r (0 : Int32) (fun _ => 0)) ++ (bX1 cI cJ cC a_c (0 : Int32) (0 : Int64) (0 : Int32) (fun _ => 0) (fun _ => 0)))) (va_A [(q4, .inr (4, [.null, .null, .null, .null, .null, .null, .null, .int 0]))] H.size) u H9) hA hDw hS (zrunI (As := []) (rest := [.ref q4]) S hK hA hE hPw hDw hS (iX4 l (dC, dI) cI cJ cC G q4 H.size Pw hI.1) kX4_init ml_L_9 ⟨rfl, rfl, by decide, by decide⟩ rfl hl.1 rfl (Nat.le_of_ble_eq_true rfl) dL_law_4 ⟨by decide, by decide⟩) (fun u H locs _ hB hk1 hS => ?_)
  obtain ⟨a_T, a_n, a_k, a_t, a_s, a_r, a_c, n_used, n_total, n_open, n_weights, n_woods, n_sums, k_used, k_total, k_open, k_weights, k_woods, k_sums, t_used, t_total, t_open, t_weights, t_woods, t_sums, ea, hn, hk, hq_t, hP1, hD1⟩ := hB
  subst ea
  obtain ⟨hP, hD⟩ := zjoin hP hD hF hk1 hP1 hD1
  refine lv_astore_n (lv' := [(1, .ref (a_T 0)), (0, .ref b)]) hx hb dL_law_7 rfl hl (by decide) rfl (fun ls hl => ?_)
  refine va_new (D := (dC, dI)) (ci := 5) (fs := [.null, .null, .null, .null, .null, .null, .int 0, .int 0, .null, .null, .null, .null, .int 0, .int 0, .int 0, .null, .int 0, .int 0, .int 0, .null, .int 0, .long 0, .null, .int 0]) (C := RX5) (T := TX5) (N := 24) hx hb ht inX5 tyX5 tyX5_ok hown (ht _ cl_L_10) (ht _ ins_X5) (ht _ ini_X5) hK hP hD hS hA rfl (fun j hj => by rcases (show j = 0 ∨ j = 1 ∨ j = 2 ∨ j = 3 ∨ j = 4 ∨ j = 5 ∨ j = 6 ∨ j = 7 ∨ j = 8 ∨ j = 9 ∨ j = 10 ∨ j = 11 ∨ j = 12 ∨ j = 13 ∨ j = 14 ∨ j = 15 ∨ j = 16 ∨ j = 17 ∨ j = 18 ∨ j = 19 ∨ j = 20 ∨ j = 21 ∨ j = 22 ∨ j = 23 by omega) with rfl | rfl | rfl | rfl | rfl | rfl | rfl | rfl | rfl | rfl | rfl | rfl | rfl | rfl | rfl | rfl | rfl | rfl | rfl | rfl | rfl | rfl | rfl | rfl <;> rfl) (by decide) (by decide) dL_law_8 (fun q5 H hP hD hS => ?_)
  refine lv_dup hx hb dL_law_11 rfl ?_
  have hPw := zlastP hP
  have hDw := zlastD hD
  have hF := zF hA hDw hS
  refine zcN (B := (fun (u : Int32 × (Nat → Int32)) (H9 : Heap) => ∃ a : Nat → Nat, a 0 = q5 ∧ va_P (dC, dI) vwCl (bX5 cI cJ cC a 0 u.1 0 0 0 0 0 0 0 0 0 (fun _ => 0) (upd (upd (upd (fun _ => 0) 0 (16 : Int32)) 1 (2 : Int32)) 2 (20 : Int32)) (fun _ => 0) (fun _ => 0) (fun _ => 0) u.2 (fun _ => 0) (fun _ => 0) (fun _ => 0) (fun _ => 0) (fun _ => 0) (fun _ => 0) (fun _ => 0)) H9 ∧ va_D (va_A [(q5, .inr (5, [.null, .null, .null, .null, .null, .null, .int 0, .int 0, .null, .null, .null, .null, .int 0, .int 0, .int 0, .null, .int 0, .int 0, .int 0, .null, .int 0, .long 0, .null, .int 0]))] H.size) (bX5 cI cJ cC a 0 u.1 0 0 0 0 0 0 0 0 0 (fun _ => 0) (upd (upd (upd (fun _ => 0) 0 (16 : Int32)) 1 (2 : Int32)) 2 (20 : Int32)) (fun _ => 0) (fun _ => 0) (fun _ => 0) u.2 (fun _ => 0) (fun _ => 0) (fun _ => 0) (fun _ => 0) (fun _ => 0) (fun _ => 0) (fun _ => 0)))) hA hDw hS (zrunI (As := []) (rest := [.ref q5]) S hK hA hE hPw hDw hS (iX5 l (dC, dI) cI cJ cC G q5 H.size _ (hI.2 n_used n_total n_open n_weights n_woods n_sums k_used k_total k_open k_weights k_woods k_sums hn hk)) kX5_init ml_L_12 ⟨rfl, rfl, by decide, by decide⟩ rfl hl.1 rfl (Nat.le_of_ble_eq_true rfl) dL_law_12 ⟨by decide, by decide⟩) (fun u H locs hRL hB hk1 hS => ?_)
  obtain ⟨M_used, M_weight⟩ := u
  obtain ⟨a_M, ea, hP1, hD1⟩ := hB
  subst ea
  obtain ⟨hP, hD⟩ := zjoin hP hD hF hk1 hP1 hD1
  refine lv_astore_n (lv' := [(2, .ref (a_M 0)), (1, .ref (a_T 0)), (0, .ref b)]) hx hb dL_law_15 rfl hl (by decide) rfl (fun ls hl => ?_)
  refine lv_iconst (v := (0 : Int32)) hx hb dL_law_16 (by decide) ?_
  refine lv_istore_n (lv' := [(3, .int (0 : Int32)), (2, .ref (a_M 0)), (1, .ref (a_T 0)), (0, .ref b)]) hx hb dL_law_17 rfl hl (by decide) rfl (fun ls hl => ?_)
  have hLC : LC a_T a_n a_k a_t a_s a_r a_c a_M (fun q : Nat => s.heap.size ≤ q) := LC_of hD rfl
  exact law_loop RL hp hL hr hlocks S hX hbl hK hLC hE (L + 1) 0 0 (Nat.zero_le L) (by omega) rfl _ _ _ ⟨((0 : Int32), (fun _ => 0)), ((16 : Int32), (2 : Int32), (20 : Int32), (0 : Int32), n_used, (0 : Int32), (0 : Int64), n_total, n_open, (fun _ => 0), (fun _ => 0), n_weights, n_woods, n_sums), ((16 : Int32), (2 : Int32), (20 : Int32), (0 : Int32), k_used, (0 : Int32), (0 : Int64), k_total, k_open, (fun _ => 0), (fun _ => 0), k_weights, k_woods, k_sums), ((16 : Int32), (2 : Int32), (20 : Int32), (0 : Int32), t_used, (0 : Int32), (0 : Int64), t_total, t_open, (fun _ => 0), (fun _ => 0), t_weights, t_woods, t_sums), ((0 : Int32), (0 : Int32), (fun _ => 0)), ((0 : Int32), (fun _ => 0)), ((0 : Int32), (0 : Int64), (0 : Int32), (fun _ => 0), (fun _ => 0)), (0, M_used, 0, 0, 0, 0, 0, 0, 0, 0, 0, (fun _ => 0), (upd (upd (upd (fun _ => 0) 0 (16 : Int32)) 1 (2 : Int32)) 2 (20 : Int32)), (fun _ => 0), (fun _ => 0), (fun _ => 0), M_weight, (fun _ => 0), (fun _ => 0), (fun _ => 0), (fun _ => 0), (fun _ => 0), (fun _ => 0), (fun _ => 0)), hRL, zPl (zPl (zPl (zPl (zPl (zPl (zPl hP)))))), zPr (zPl (zPl (zPl (zPl (zPl (zPl hP)))))), zPr (zPl (zPl (zPl (zPl (zPl hP))))), zPr (zPl (zPl (zPl (zPl hP)))), zPr (zPl (zPl (zPl hP))), zPr (zPl (zPl hP)), zPr (zPl hP), zPr hP⟩ hS (lv_sub hl [3, 2, 1, 0] rfl)
