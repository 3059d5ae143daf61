def lpX4_from_14 (K : Int32 → Int64 → Int32 → Prop) (n_beam : Int32) (n_weights : Nat → Int64) (n_woods : Nat → Int32) : Nat → Int32 → Int64 → Int32 → Prop
  | 0, _, _, _ => False
  | n + 1, x1, x2, x4 => (((48 : Int32) ≤ x4 → (K x1 x2 x4)) ∧ (¬ ((48 : Int32) ≤ x4) → (wpX3_allTillWood (fun (r_2 : Int64) => ((x2 ≤ r_2 → (lpX4_from_14 K n_beam n_weights n_woods n x1 x2 (x4 + (1 : Int32)))) ∧ (¬ (x2 ≤ r_2) → (lpX4_from_14 K n_beam n_weights n_woods n x4 r_2 (x4 + (1 : Int32)))))) n_beam n_weights n_woods x4)))
set_option maxHeartbeats 4000000 in
set_option maxRecDepth 100000 in
theorem wX4_from_14 (l : Launch) (D : va_G) (cI cJ cC : ClassId) (G : Nat → Nat → Nat) (a_T : Nat → Nat) (a_n : Nat → Nat) (a_k : Nat → Nat) (a_t : Nat → Nat) (a_s : Nat → Nat) (a_r : Nat → Nat) (a_c : Nat → Nat) {p : Program} {e : Env} {s : State} {m : MethodId} {below : List Frame} {meth : Method} {c : Code} {A : Nat → Prop} {Q : State → Prop} (T_isKept : Int32) (T_refusals : Nat → Int32) (n_space : Int32) (n_beam : Int32) (n_door : Int32) (n_law : Int32) (n_used : Int32) (n_pipes : Int32) (n_drilled : Int64) (n_total : Int64) (n_open : Int32) (n_pipeInches : Nat → Int32) (n_pipeChances : Nat → Int32) (n_weights : Nat → Int64) (n_woods : Nat → Int32) (n_sums : Nat → Int64) (K : Int32 → Int64 → Int32 → Prop) (S : CallFix p m c cX4_from 7 s ([.ref (a_T 0)] : List Value).toArray bg RX4) (hK : va_K D vwCl (tz cI cJ cC) s) (hDD : ∀ ws : va_W, ws.map (fun q => q.1) = [a_T 0, a_T 1, a_n 0, a_n 1, a_n 2, a_n 3, a_n 4, a_n 5] → va_D A ws) (hA : ∀ q, s.heap.size ≤ q → A q) (hE : EV G A s) (hKK : ∀ (x1 : Int32) (x2 : Int64) (x4 : Int32) (H : Heap) (locs : List Loc) (ls : Array Slot), K x1 x2 x4 → va_P D vwCl ((bX4 cI cJ cC a_T a_n a_k a_t a_s a_r a_c T_isKept T_refusals) ++ (bX3 cI cJ cC a_n n_space n_beam n_door n_law n_used n_pipes n_drilled n_total n_open n_pipeInches n_pipeChances n_weights n_woods n_sums)) H → va_S A s.heap H locs → lv_has ls 7 [(1, .int x1)] → W p l e ({ frames := 4, cells := 0, slots := 0, locals := 91 }) s m ([.ref (a_T 0)] : List Value).toArray below meth c H locs 0 0 Q (F0 m 51 ls [])) :
    ∀ (n : Nat) (x1 : Int32) (x2 : Int64) (x4 : Int32) (H : Heap) (locs : List Loc) (ls : Array Slot), lpX4_from_14 K n_beam n_weights n_woods n x1 x2 x4 → va_P D vwCl ((bX4 cI cJ cC a_T a_n a_k a_t a_s a_r a_c T_isKept T_refusals) ++ (bX3 cI cJ cC a_n n_space n_beam n_door n_law n_used n_pipes n_drilled n_total n_open n_pipeInches n_pipeChances n_weights n_woods n_sums)) H → va_S A s.heap H locs → lv_has ls 7 [(0, .ref (a_T 0)), (1, .int x1), (2, .long x2), (4, .int x4)] → W p l e ({ frames := 4, cells := 0, slots := 0, locals := 91 }) s m ([.ref (a_T 0)] : List Value).toArray below meth c H locs 0 0 Q (F0 m 14 ls []) := by
  obtain ⟨hx, hb, hml, hown, ht⟩ := id S
  intro n
  induction n with
  | zero =>
    intro x1 x2 x4 H locs ls h
    exact absurd h (by simp [lpX4_from_14])
  | succ n ih =>
    intro x1 x2 x4 H locs ls h hP hS hl
    rw [lpX4_from_14] at h
    refine lv_iload hx hb dX4_from_14 (lv_at hl 3 rfl) ?_
    refine lv_bipush (v := (48 : Int32)) hx hb dX4_from_16 (by decide) ?_
    refine lv_icmp_ge (tgt := 51) hx hb dX4_from_18 (by decide) (fun z => ?_) (fun z => ?_)
    · replace h := h.1 z
      exact hKK x1 x2 x4 _ _ _ h hP hS (lv_sub hl [1] rfl)
    · replace h := h.2 z
      refine lv_aload_n hx hb dX4_from_21 rfl (lv_at hl 0 rfl) ?_
      refine va_get (D := D) (ci := 4) (v := .ref (a_n 0)) (C := RX4) (T := TX4) (N := 8) hx hb ht inX4 hown hK hP 0 rfl rfl 0 (by decide) (ht _ fl_X4_10) (fun _ h9 => h9) rfl dX4_from_22 ?_
      refine lv_iload hx hb dX4_from_25 (lv_at hl 3 rfl) ?_
      have hPw : va_P D vwCl ((bX3 cI cJ cC a_n n_space n_beam n_door n_law n_used n_pipes n_drilled n_total n_open n_pipeInches n_pipeChances n_weights n_woods n_sums)) _ := hP.sub [2, 3, 4, 5, 6, 7] rfl
      have hDw : va_D A ((bX3 cI cJ cC a_n n_space n_beam n_door n_law n_used n_pipes n_drilled n_total n_open n_pipeInches n_pipeChances n_weights n_woods n_sums)) := (hDD _ rfl).sub (ws := (bX4 cI cJ cC a_T a_n a_k a_t a_s a_r a_c T_isKept T_refusals) ++ (bX3 cI cJ cC a_n n_space n_beam n_door n_law n_used n_pipes n_drilled n_total n_open n_pipeInches n_pipeChances n_weights n_woods n_sums)) [2, 3, 4, 5, 6, 7] (by decide) rfl
      refine zcl hA hDw hS (zrunV (As := [.int x4]) (rest := []) S hK hA hE hPw hDw hS (mX3_allTillWood l D cI cJ cC G a_n _ n_space n_beam n_door n_law n_used n_pipes n_drilled n_total n_open n_pipeInches n_pipeChances n_weights n_woods n_sums x4 _ h) kX3_allTillWood ml_X4_198 ⟨rfl, rfl, by decide, by decide⟩ (q0 := 0) (ci := 3) rfl rfl rfl rfl hl.1 rfl (Nat.le_of_ble_eq_true rfl) dX4_from_27 ⟨Nat.zero_le _, Nat.zero_le _⟩) (fun r_2 u H locs h hP1 hk1 hS => ?_)
      try dsimp only at h
      have hP : va_P D vwCl ((bX4 cI cJ cC a_T a_n a_k a_t a_s a_r a_c T_isKept T_refusals) ++ (bX3 cI cJ cC a_n n_space n_beam n_door n_law n_used n_pipes n_drilled n_total n_open n_pipeInches n_pipeChances n_weights n_woods n_sums)) H := zMerge hP (hDD _ rfl) [2, 3, 4, 5, 6, 7] rfl rfl hk1 hP1
      refine lv_lstore (lv' := [(5, .long r_2), (0, .ref (a_T 0)), (1, .int x1), (2, .long x2), (4, .int x4)]) hx hb dX4_from_30 hl (by decide) rfl (fun ls hl => ?_)
      refine lv_lload hx hb dX4_from_32 (lv_at hl 0 rfl) ?_
      refine lv_lload_n hx hb dX4_from_34 rfl (lv_at hl 3 rfl) ?_
      refine W.lcmp hx hb dX4_from_35 ?_
      refine lv_if_ge (tgt := 45) hx hb dX4_from_36 (by decide) (fun z => ?_) (fun z => ?_)
      · replace h := h.1 (zl_ge.mp z)
        refine lv_iinc (v := x4 + (1 : Int32)) (lv' := [(4, .int (x4 + (1 : Int32))), (5, .long r_2), (0, .ref (a_T 0)), (1, .int x1), (2, .long x2)]) hx hb dX4_from_45 hl (k := 4) rfl (by rfl) (by decide) rfl (fun ls hl => ?_)
        refine lv_goto (tgt := 14) hx hb dX4_from_48 (by decide) ?_
        exact ih x1 x2 (x4 + (1 : Int32)) _ _ _ h hP hS (lv_sub hl [2, 3, 4, 0] rfl)
      · replace h := h.2 (fun q => z (zl_ge.mpr q))
        refine lv_iload hx hb dX4_from_39 (lv_at hl 4 rfl) ?_
        refine lv_istore_n (lv' := [(1, .int x4), (5, .long r_2), (0, .ref (a_T 0)), (2, .long x2), (4, .int x4)]) hx hb dX4_from_41 rfl hl (by decide) rfl (fun ls hl => ?_)
        refine lv_lload hx hb dX4_from_42 (lv_at hl 1 rfl) ?_
        refine lv_lstore_n (lv' := [(2, .long r_2), (1, .int x4), (5, .long r_2), (0, .ref (a_T 0)), (4, .int x4)]) hx hb dX4_from_44 rfl hl (by decide) rfl (fun ls hl => ?_)
        refine lv_iinc (v := x4 + (1 : Int32)) (lv' := [(4, .int (x4 + (1 : Int32))), (2, .long r_2), (1, .int x4), (5, .long r_2), (0, .ref (a_T 0))]) hx hb dX4_from_45 hl (k := 4) rfl (by rfl) (by decide) rfl (fun ls hl => ?_)
        refine lv_goto (tgt := 14) hx hb dX4_from_48 (by decide) ?_
        exact ih x4 r_2 (x4 + (1 : Int32)) _ _ _ h hP hS (lv_sub hl [4, 2, 1, 0] rfl)
def wpX4_from (post : Int32 → Prop) (n_beam : Int32) (n_weights : Nat → Int64) (n_woods : Nat → Int32) : Prop := wpX3_allTillWood (fun (r_1 : Int64) => ∃ n_3 : Nat, lpX4_from_14 (fun (x1_4 : Int32) (x2_5 : Int64) (x4_6 : Int32) => post x1_4) n_beam n_weights n_woods n_3 (0 : Int32) r_1 (1 : Int32)) n_beam n_weights n_woods (0 : Int32)
set_option maxHeartbeats 4000000 in
set_option maxRecDepth 100000 in
theorem mX4_from (l : Launch) (D : va_G) (cI cJ cC : ClassId) (G : Nat → Nat → Nat) (a_T : Nat → Nat) (a_n : Nat → Nat) (a_k : Nat → Nat) (a_t : Nat → Nat) (a_s : Nat → Nat) (a_r : Nat → Nat) (a_c : Nat → Nat) (sz : Nat) (T_isKept : Int32) (T_refusals : Nat → Int32) (n_space : Int32) (n_beam : Int32) (n_door : Int32) (n_law : Int32) (n_used : Int32) (n_pipes : Int32) (n_drilled : Int64) (n_total : Int64) (n_open : Int32) (n_pipeInches : Nat → Int32) (n_pipeChances : Nat → Int32) (n_weights : Nat → Int64) (n_woods : Nat → Int32) (n_sums : Nat → Int64) (post : Int32 → Prop) (h : wpX4_from post n_beam n_weights n_woods) : Met l yX4_from (wz yX4_from cX4_from 7 (some .int)) ({ frames := 4, cells := 0, slots := 0, locals := 91 }) (va_Pc [.ref (a_T 0)] (PW D (tz cI cJ cC) G ((bX4 cI cJ cC a_T a_n a_k a_t a_s a_r a_c T_isKept T_refusals) ++ (bX3 cI cJ cC a_n n_space n_beam n_door n_law n_used n_pipes n_drilled n_total n_open n_pipeInches n_pipeChances n_weights n_woods n_sums)) sz)) (va_Qi (fun (r : Int32) (u : Unit) => post r ) (fun (u : Unit) t => va_P D vwCl ((bX4 cI cJ cC a_T a_n a_k a_t a_s a_r a_c T_isKept T_refusals) ++ (bX3 cI cJ cC a_n n_space n_beam n_door n_law n_used n_pipes n_drilled n_total n_open n_pipeInches n_pipeChances n_weights n_woods n_sums)) t.heap) (va_A ((bX4 cI cJ cC a_T a_n a_k a_t a_s a_r a_c T_isKept T_refusals) ++ (bX3 cI cJ cC a_n n_space n_beam n_door n_law n_used n_pipes n_drilled n_total n_open n_pipeInches n_pipeChances n_weights n_woods n_sums)) sz)) 0 0 (va_A ((bX4 cI cJ cC a_T a_n a_k a_t a_s a_r a_c T_isKept T_refusals) ++ (bX3 cI cJ cC a_n n_space n_beam n_door n_law n_used n_pipes n_drilled n_total n_open n_pipeInches n_pipeChances n_weights n_woods n_sums)) sz) := by
  refine zmi (gw := fun (u : Unit) => (bX4 cI cJ cC a_T a_n a_k a_t a_s a_r a_c T_isKept T_refusals) ++ (bX3 cI cJ cC a_n n_space n_beam n_door n_law n_used n_pipes n_drilled n_total n_open n_pipeInches n_pipeChances n_weights n_woods n_sums)) (plainFor_of_name (by decide)) (Nat.le_of_ble_eq_true rfl) ?_
  intro p e s m below meth c A Q ls S hK hD hA hE hP hl hret
  obtain ⟨hx, hb, hml, hown, ht⟩ := id S
  have hS : va_S A s.heap s.heap [] := va_S.rf
  have hDD : ∀ ws : va_W, ws.map (fun q => q.1) = [a_T 0, a_T 1, a_n 0, a_n 1, a_n 2, a_n 3, a_n 4, a_n 5] → va_D A ws := fun ws hw => zD hD (hw.trans rfl)
  have hl : lv_has ls 7 [(0, .ref (a_T 0))] := hl
  unfold wpX4_from at h
  refine lv_iconst (v := (0 : Int32)) hx hb dX4_from_0 (by decide) ?_
  refine lv_istore_n (lv' := [(1, .int (0 : Int32)), (0, .ref (a_T 0))]) hx hb dX4_from_1 rfl hl (by decide) rfl (fun ls hl => ?_)
  refine lv_aload_n hx hb dX4_from_2 rfl (lv_at hl 1 rfl) ?_
  refine va_get (D := D) (ci := 4) (v := .ref (a_n 0)) (C := RX4) (T := TX4) (N := 8) hx hb ht inX4 hown hK hP 0 rfl rfl 0 (by decide) (ht _ fl_X4_10) (fun _ h9 => h9) rfl dX4_from_3 ?_
  refine lv_iconst (v := (0 : Int32)) hx hb dX4_from_6 (by decide) ?_
  have hPw : va_P D vwCl ((bX3 cI cJ cC a_n n_space n_beam n_door n_law n_used n_pipes n_drilled n_total n_open n_pipeInches n_pipeChances n_weights n_woods n_sums)) _ := hP.sub [2, 3, 4, 5, 6, 7] rfl
  have hDw : va_D A ((bX3 cI cJ cC a_n n_space n_beam n_door n_law n_used n_pipes n_drilled n_total n_open n_pipeInches n_pipeChances n_weights n_woods n_sums)) := (hDD _ rfl).sub (ws := (bX4 cI cJ cC a_T a_n a_k a_t a_s a_r a_c T_isKept T_refusals) ++ (bX3 cI cJ cC a_n n_space n_beam n_door n_law n_used n_pipes n_drilled n_total n_open n_pipeInches n_pipeChances n_weights n_woods n_sums)) [2, 3, 4, 5, 6, 7] (by decide) rfl
  refine zcl hA hDw hS (zrunV (As := [.int (0 : Int32)]) (rest := []) S hK hA hE hPw hDw hS (mX3_allTillWood l D cI cJ cC G a_n _ n_space n_beam n_door n_law n_used n_pipes n_drilled n_total n_open n_pipeInches n_pipeChances n_weights n_woods n_sums (0 : Int32) _ h) kX3_allTillWood ml_X4_198 ⟨rfl, rfl, by decide, by decide⟩ (q0 := 0) (ci := 3) rfl rfl rfl rfl hl.1 rfl (Nat.le_of_ble_eq_true rfl) dX4_from_7 ⟨Nat.zero_le _, Nat.zero_le _⟩) (fun r_1 u H locs h hP1 hk1 hS => ?_)
  try dsimp only at h
  have hP : va_P D vwCl ((bX4 cI cJ cC a_T a_n a_k a_t a_s a_r a_c T_isKept T_refusals) ++ (bX3 cI cJ cC a_n n_space n_beam n_door n_law n_used n_pipes n_drilled n_total n_open n_pipeInches n_pipeChances n_weights n_woods n_sums)) H := zMerge hP (hDD _ rfl) [2, 3, 4, 5, 6, 7] rfl rfl hk1 hP1
  refine lv_lstore_n (lv' := [(2, .long r_1), (1, .int (0 : Int32)), (0, .ref (a_T 0))]) hx hb dX4_from_10 rfl hl (by decide) rfl (fun ls hl => ?_)
  refine lv_iconst (v := (1 : Int32)) hx hb dX4_from_11 (by decide) ?_
  refine lv_istore (lv' := [(4, .int (1 : Int32)), (2, .long r_1), (1, .int (0 : Int32)), (0, .ref (a_T 0))]) hx hb dX4_from_12 hl (by decide) rfl (fun ls hl => ?_)
  obtain ⟨n_3, h⟩ := h
  refine wX4_from_14 l D cI cJ cC G a_T a_n a_k a_t a_s a_r a_c T_isKept T_refusals n_space n_beam n_door n_law n_used n_pipes n_drilled n_total n_open n_pipeInches n_pipeChances n_weights n_woods n_sums _ S hK hDD hA hE (fun x1_4 x2_5 x4_6 H locs ls h hP hS hl => ?_) n_3 (0 : Int32) r_1 (1 : Int32) _ _ _ h hP hS (lv_sub hl [3, 2, 1, 0] rfl)
  try dsimp only at h
  refine lv_iload_n hx hb dX4_from_51 rfl (lv_at hl 0 rfl) ?_
  exact hret x1_4 () _ _ _ _ rfl h hP hS dX4_from_52
def wpX4_next (post : Int32 → (Nat → Int32) → Int32 → Int64 → Int32 → (Nat → Int32) → (Nat → Int64) → Prop) (T_refusals : Nat → Int32) (n_weights : Nat → Int64) (n_woods : Nat → Int32) (n_sums : Nat → Int64) (c_inch : Int32) (c_gain : Int64) (c_unlikes : Int32) (c_unlike : Nat → Int32) (c_shared : Nat → Int64) (p1 : Int32) : Prop := wpX4_isNoTool (fun (r_1 : Int32) => ((r_1 = (0 : Int32) → (wpX1_lookWith (fun (c_inch_2 : Int32) (c_gain_3 : Int64) (c_unlikes_4 : Int32) (c_unlike_5 : Nat → Int32) (c_shared_6 : Nat → Int64) => post c_inch_2 T_refusals c_inch_2 c_gain_3 c_unlikes_4 c_unlike_5 c_shared_6) c_unlike c_shared n_weights n_woods n_sums p1)) ∧ (¬ (r_1 = (0 : Int32)) → (wpX4_refuse (fun (r_7 : Int32) (T_refusals_8 : Nat → Int32) => post r_7 T_refusals_8 c_inch c_gain c_unlikes c_unlike c_shared) T_refusals (-2 : Int32))))) p1
set_option maxHeartbeats 4000000 in
set_option maxRecDepth 100000 in
theorem mX4_next (l : Launch) (D : va_G) (cI cJ cC : ClassId) (G : Nat → Nat → Nat) (a_T : Nat → Nat) (a_n : Nat → Nat) (a_k : Nat → Nat) (a_t : Nat → Nat) (a_s : Nat → Nat) (a_r : Nat → Nat) (a_c : Nat → Nat) (sz : Nat) (T_isKept : Int32) (T_refusals : Nat → Int32) (n_space : Int32) (n_beam : Int32) (n_door : Int32) (n_law : Int32) (n_used : Int32) (n_pipes : Int32) (n_drilled : Int64) (n_total : Int64) (n_open : Int32) (n_pipeInches : Nat → Int32) (n_pipeChances : Nat → Int32) (n_weights : Nat → Int64) (n_woods : Nat → Int32) (n_sums : Nat → Int64) (c_inch : Int32) (c_gain : Int64) (c_unlikes : Int32) (c_unlike : Nat → Int32) (c_shared : Nat → Int64) (p1 : Int32) (post : Int32 → (Nat → Int32) → Int32 → Int64 → Int32 → (Nat → Int32) → (Nat → Int64) → Prop) (h : wpX4_next post T_refusals n_weights n_woods n_sums c_inch c_gain c_unlikes c_unlike c_shared p1) : Met l yX4_next (wz yX4_next cX4_next 2 (some .int)) ({ frames := 4, cells := 0, slots := 0, locals := 95 }) (va_Pc [.ref (a_T 0), .int p1] (PW D (tz cI cJ cC) G ((bX4 cI cJ cC a_T a_n a_k a_t a_s a_r a_c T_isKept T_refusals) ++ (bX3 cI cJ cC a_n n_space n_beam n_door n_law n_used n_pipes n_drilled n_total n_open n_pipeInches n_pipeChances n_weights n_woods n_sums) ++ (bX1 cI cJ cC a_c c_inch c_gain c_unlikes c_unlike c_shared)) sz)) (va_Qi (fun (r : Int32) (u : (Nat → Int32) × Int32 × Int64 × Int32 × (Nat → Int32) × (Nat → Int64)) => post r u.1 u.2.1 u.2.2.1 u.2.2.2.1 u.2.2.2.2.1 u.2.2.2.2.2) (fun (u : (Nat → Int32) × Int32 × Int64 × Int32 × (Nat → Int32) × (Nat → Int64)) t => va_P D vwCl ((bX4 cI cJ cC a_T a_n a_k a_t a_s a_r a_c T_isKept u.1) ++ (bX3 cI cJ cC a_n n_space n_beam n_door n_law n_used n_pipes n_drilled n_total n_open n_pipeInches n_pipeChances n_weights n_woods n_sums) ++ (bX1 cI cJ cC a_c u.2.1 u.2.2.1 u.2.2.2.1 u.2.2.2.2.1 u.2.2.2.2.2)) t.heap) (va_A ((bX4 cI cJ cC a_T a_n a_k a_t a_s a_r a_c T_isKept T_refusals) ++ (bX3 cI cJ cC a_n n_space n_beam n_door n_law n_used n_pipes n_drilled n_total n_open n_pipeInches n_pipeChances n_weights n_woods n_sums) ++ (bX1 cI cJ cC a_c c_inch c_gain c_unlikes c_unlike c_shared)) sz)) 0 0 (va_A ((bX4 cI cJ cC a_T a_n a_k a_t a_s a_r a_c T_isKept T_refusals) ++ (bX3 cI cJ cC a_n n_space n_beam n_door n_law n_used n_pipes n_drilled n_total n_open n_pipeInches n_pipeChances n_weights n_woods n_sums) ++ (bX1 cI cJ cC a_c c_inch c_gain c_unlikes c_unlike c_shared)) sz) := by
  refine zmi (gw := fun (u : (Nat → Int32) × Int32 × Int64 × Int32 × (Nat → Int32) × (Nat → Int64)) => (bX4 cI cJ cC a_T a_n a_k a_t a_s a_r a_c T_isKept u.1) ++ (bX3 cI cJ cC a_n n_space n_beam n_door n_law n_used n_pipes n_drilled n_total n_open n_pipeInches n_pipeChances n_weights n_woods n_sums) ++ (bX1 cI cJ cC a_c u.2.1 u.2.2.1 u.2.2.2.1 u.2.2.2.2.1 u.2.2.2.2.2)) (plainFor_of_name (by decide)) (Nat.le_of_ble_eq_true rfl) ?_
  intro p e s m below meth c A Q ls S hK hD hA hE hP hl hret
  obtain ⟨hx, hb, hml, hown, ht⟩ := id S
  have hS : va_S A s.heap s.heap [] := va_S.rf
  have hDD : ∀ ws : va_W, ws.map (fun q => q.1) = [a_T 0, a_T 1, a_n 0, a_n 1, a_n 2, a_n 3, a_n 4, a_n 5, a_c 0, a_c 1, a_c 2] → va_D A ws := fun ws hw => zD hD (hw.trans rfl)
  have hl : lv_has ls 2 [(0, .ref (a_T 0)), (1, .int p1)] := hl
  unfold wpX4_next at h
  refine lv_iload_n hx hb dX4_next_0 rfl (lv_at hl 1 rfl) ?_
  refine zci hA zD0 hS (zrunS (As := [.int p1]) (rest := []) S hK hA hE zP0 zD0 hS (mX4_isNoTool l D cI cJ cC G _ p1 _ h) kX4_isNoTool ml_X4_113 ⟨rfl, rfl, by decide, by decide⟩ rfl hl.1 rfl (Nat.le_of_ble_eq_true rfl) dX4_next_1 ⟨Nat.zero_le _, Nat.zero_le _⟩) (fun r_1 u H locs h hP1 hk1 hS => ?_)
  try dsimp only at h
  have hP : va_P D vwCl ((bX4 cI cJ cC a_T a_n a_k a_t a_s a_r a_c T_isKept T_refusals) ++ (bX3 cI cJ cC a_n n_space n_beam n_door n_law n_used n_pipes n_drilled n_total n_open n_pipeInches n_pipeChances n_weights n_woods n_sums) ++ (bX1 cI cJ cC a_c c_inch c_gain c_unlikes c_unlike c_shared)) H := zKeep hP hk1
  refine lv_if_eq (tgt := 14) hx hb dX4_next_4 (by decide) (fun z => ?_) (fun z => ?_)
  · replace h := h.1 z
    refine lv_aload_n hx hb dX4_next_14 rfl (lv_at hl 0 rfl) ?_
    refine va_get (D := D) (ci := 4) (v := .ref (a_c 0)) (C := RX4) (T := TX4) (N := 8) hx hb ht inX4 hown hK hP 0 rfl rfl 5 (by decide) (ht _ fl_X4_39) (fun _ h9 => h9) rfl dX4_next_15 ?_
    refine lv_aload_n hx hb dX4_next_18 rfl (lv_at hl 0 rfl) ?_
    refine va_get (D := D) (ci := 4) (v := .ref (a_n 0)) (C := RX4) (T := TX4) (N := 8) hx hb ht inX4 hown hK hP 0 rfl rfl 0 (by decide) (ht _ fl_X4_10) (fun _ h9 => h9) rfl dX4_next_19 ?_
    refine lv_iload_n hx hb dX4_next_22 rfl (lv_at hl 1 rfl) ?_
    have hPw : va_P D vwCl ((bX1 cI cJ cC a_c c_inch c_gain c_unlikes c_unlike c_shared) ++ (bX3 cI cJ cC a_n n_space n_beam n_door n_law n_used n_pipes n_drilled n_total n_open n_pipeInches n_pipeChances n_weights n_woods n_sums)) _ := hP.sub [8, 9, 10, 2, 3, 4, 5, 6, 7] rfl
    have hDw : va_D A ((bX1 cI cJ cC a_c c_inch c_gain c_unlikes c_unlike c_shared) ++ (bX3 cI cJ cC a_n n_space n_beam n_door n_law n_used n_pipes n_drilled n_total n_open n_pipeInches n_pipeChances n_weights n_woods n_sums)) := (hDD _ rfl).sub (ws := (bX4 cI cJ cC a_T a_n a_k a_t a_s a_r a_c T_isKept T_refusals) ++ (bX3 cI cJ cC a_n n_space n_beam n_door n_law n_used n_pipes n_drilled n_total n_open n_pipeInches n_pipeChances n_weights n_woods n_sums) ++ (bX1 cI cJ cC a_c c_inch c_gain c_unlikes c_unlike c_shared)) [8, 9, 10, 2, 3, 4, 5, 6, 7] (by decide) rfl
    refine zcv hA hDw hS (zrunV (As := [.ref (a_n 0), .int p1]) (rest := []) S hK hA hE hPw hDw hS (mX1_lookWith l D cI cJ cC G a_c a_n _ c_inch c_gain c_unlikes c_unlike c_shared n_space n_beam n_door n_law n_used n_pipes n_drilled n_total n_open n_pipeInches n_pipeChances n_weights n_woods n_sums p1 _ h) kX1_lookWith ml_X4_201 ⟨rfl, rfl, by decide, by decide⟩ (q0 := 0) (ci := 1) rfl rfl rfl rfl hl.1 rfl (Nat.le_of_ble_eq_true rfl) dX4_next_23 ⟨Nat.zero_le _, Nat.zero_le _⟩) (fun u H locs h hP1 hk1 hS => ?_)
    obtain ⟨c_inch_2, c_gain_3, c_unlikes_4, c_unlike_5, c_shared_6⟩ := u
    dsimp only at h
    have hP : va_P D vwCl ((bX4 cI cJ cC a_T a_n a_k a_t a_s a_r a_c T_isKept T_refusals) ++ (bX3 cI cJ cC a_n n_space n_beam n_door n_law n_used n_pipes n_drilled n_total n_open n_pipeInches n_pipeChances n_weights n_woods n_sums) ++ (bX1 cI cJ cC a_c c_inch_2 c_gain_3 c_unlikes_4 c_unlike_5 c_shared_6)) H := zMerge hP (hDD _ rfl) [8, 9, 10, 2, 3, 4, 5, 6, 7] rfl rfl hk1 hP1
    refine lv_aload_n hx hb dX4_next_26 rfl (lv_at hl 0 rfl) ?_
    refine va_get (D := D) (ci := 4) (v := .ref (a_c 0)) (C := RX4) (T := TX4) (N := 8) hx hb ht inX4 hown hK hP 0 rfl rfl 5 (by decide) (ht _ fl_X4_39) (fun _ h9 => h9) rfl dX4_next_27 ?_
    refine va_get (D := D) (ci := 1) (v := .int c_inch_2) (C := RX1) (T := TX1) (N := 5) hx hb ht inX1 hown hK hP 8 rfl rfl 0 (by decide) (ht _ fl_X4_205) (fun _ h9 => h9) rfl dX4_next_30 ?_
    exact hret c_inch_2 (T_refusals, c_inch_2, c_gain_3, c_unlikes_4, c_unlike_5, c_shared_6) _ _ _ _ rfl h hP hS dX4_next_33
  · replace h := h.2 z
    refine lv_aload_n hx hb dX4_next_7 rfl (lv_at hl 0 rfl) ?_
    refine lv_bipush (v := (-2 : Int32)) hx hb dX4_next_8 (by decide) ?_
    have hPw : va_P D vwCl ((bX4 cI cJ cC a_T a_n a_k a_t a_s a_r a_c T_isKept T_refusals)) _ := hP.sub [0, 1] rfl
    have hDw : va_D A ((bX4 cI cJ cC a_T a_n a_k a_t a_s a_r a_c T_isKept T_refusals)) := (hDD _ rfl).sub (ws := (bX4 cI cJ cC a_T a_n a_k a_t a_s a_r a_c T_isKept T_refusals) ++ (bX3 cI cJ cC a_n n_space n_beam n_door n_law n_used n_pipes n_drilled n_total n_open n_pipeInches n_pipeChances n_weights n_woods n_sums) ++ (bX1 cI cJ cC a_c c_inch c_gain c_unlikes c_unlike c_shared)) [0, 1] (by decide) rfl
    refine zci hA hDw hS (zrunV (As := [.int (-2 : Int32)]) (rest := []) S hK hA hE hPw hDw hS (mX4_refuse l D cI cJ cC G a_T a_n a_k a_t a_s a_r a_c _ T_isKept T_refusals (-2 : Int32) _ h) kX4_refuse ml_X4_51 ⟨rfl, rfl, by decide, by decide⟩ (q0 := 0) (ci := 4) rfl rfl rfl rfl hl.1 rfl (Nat.le_of_ble_eq_true rfl) dX4_next_10 ⟨Nat.zero_le _, Nat.zero_le _⟩) (fun r_7 T_refusals_8 H locs h hP1 hk1 hS => ?_)
    try dsimp only at h
    have hP : va_P D vwCl ((bX4 cI cJ cC a_T a_n a_k a_t a_s a_r a_c T_isKept T_refusals_8) ++ (bX3 cI cJ cC a_n n_space n_beam n_door n_law n_used n_pipes n_drilled n_total n_open n_pipeInches n_pipeChances n_weights n_woods n_sums) ++ (bX1 cI cJ cC a_c c_inch c_gain c_unlikes c_unlike c_shared)) H := zMerge hP (hDD _ rfl) [0, 1] rfl rfl hk1 hP1
    exact hret r_7 (T_refusals_8, c_inch, c_gain, c_unlikes, c_unlike, c_shared) _ _ _ _ rfl h hP hS dX4_next_13
def wpX4_worth (post : Int64 → (Nat → Int32) → Int32 → Int64 → Int32 → (Nat → Int32) → (Nat → Int64) → Prop) (T_refusals : Nat → Int32) (n_total : Int64) (n_weights : Nat → Int64) (n_woods : Nat → Int32) (n_sums : Nat → Int64) (c_inch : Int32) (c_gain : Int64) (c_unlikes : Int32) (c_unlike : Nat → Int32) (c_shared : Nat → Int64) (p1 : Int32) (p2 : Int32) : Prop := wpX4_isNoTool (fun (r_1 : Int32) => ((r_1 = (0 : Int32) → (wpX4_isNoPart (fun (r_4 : Int32) => ((r_4 = (0 : Int32) → (wpX1_lookWith (fun (c_inch_5 : Int32) (c_gain_6 : Int64) (c_unlikes_7 : Int32) (c_unlike_8 : Nat → Int32) (c_shared_9 : Nat → Int64) => wpX4_partOf (fun (r_10 : Int64) => post r_10 T_refusals c_inch_5 c_gain_6 c_unlikes_7 c_unlike_8 c_shared_9) c_gain_6 ((10 : Int64) * n_total) p2) c_unlike c_shared n_weights n_woods n_sums p1)) ∧ (¬ (r_4 = (0 : Int32)) → (wpX4_refuseLong (fun (r_11 : Int64) (T_refusals_12 : Nat → Int32) => post r_11 T_refusals_12 c_inch c_gain c_unlikes c_unlike c_shared) T_refusals (-2 : Int32))))) p2)) ∧ (¬ (r_1 = (0 : Int32)) → (wpX4_refuseLong (fun (r_2 : Int64) (T_refusals_3 : Nat → Int32) => post r_2 T_refusals_3 c_inch c_gain c_unlikes c_unlike c_shared) T_refusals (-2 : Int32))))) p1
set_option maxHeartbeats 4000000 in
set_option maxRecDepth 100000 in
theorem mX4_worth (l : Launch) (D : va_G) (cI cJ cC : ClassId) (G : Nat → Nat → Nat) (a_T : Nat → Nat) (a_n : Nat → Nat) (a_k : Nat → Nat) (a_t : Nat → Nat) (a_s : Nat → Nat) (a_r : Nat → Nat) (a_c : Nat → Nat) (sz : Nat) (T_isKept : Int32) (T_refusals : Nat → Int32) (n_space : Int32) (n_beam : Int32) (n_door : Int32) (n_law : Int32) (n_used : Int32) (n_pipes : Int32) (n_drilled : Int64) (n_total : Int64) (n_open : Int32) (n_pipeInches : Nat → Int32) (n_pipeChances : Nat → Int32) (n_weights : Nat → Int64) (n_woods : Nat → Int32) (n_sums : Nat → Int64) (c_inch : Int32) (c_gain : Int64) (c_unlikes : Int32) (c_unlike : Nat → Int32) (c_shared : Nat → Int64) (p1 : Int32) (p2 : Int32) (post : Int64 → (Nat → Int32) → Int32 → Int64 → Int32 → (Nat → Int32) → (Nat → Int64) → Prop) (h : wpX4_worth post T_refusals n_total n_weights n_woods n_sums c_inch c_gain c_unlikes c_unlike c_shared p1 p2) : Met l yX4_worth (wz yX4_worth cX4_worth 3 (some .long)) ({ frames := 4, cells := 0, slots := 0, locals := 95 }) (va_Pc [.ref (a_T 0), .int p1, .int p2] (PW D (tz cI cJ cC) G ((bX4 cI cJ cC a_T a_n a_k a_t a_s a_r a_c T_isKept T_refusals) ++ (bX3 cI cJ cC a_n n_space n_beam n_door n_law n_used n_pipes n_drilled n_total n_open n_pipeInches n_pipeChances n_weights n_woods n_sums) ++ (bX1 cI cJ cC a_c c_inch c_gain c_unlikes c_unlike c_shared)) sz)) (va_Ql (fun (r : Int64) (u : (Nat → Int32) × Int32 × Int64 × Int32 × (Nat → Int32) × (Nat → Int64)) => post r u.1 u.2.1 u.2.2.1 u.2.2.2.1 u.2.2.2.2.1 u.2.2.2.2.2) (fun (u : (Nat → Int32) × Int32 × Int64 × Int32 × (Nat → Int32) × (Nat → Int64)) t => va_P D vwCl ((bX4 cI cJ cC a_T a_n a_k a_t a_s a_r a_c T_isKept u.1) ++ (bX3 cI cJ cC a_n n_space n_beam n_door n_law n_used n_pipes n_drilled n_total n_open n_pipeInches n_pipeChances n_weights n_woods n_sums) ++ (bX1 cI cJ cC a_c u.2.1 u.2.2.1 u.2.2.2.1 u.2.2.2.2.1 u.2.2.2.2.2)) t.heap) (va_A ((bX4 cI cJ cC a_T a_n a_k a_t a_s a_r a_c T_isKept T_refusals) ++ (bX3 cI cJ cC a_n n_space n_beam n_door n_law n_used n_pipes n_drilled n_total n_open n_pipeInches n_pipeChances n_weights n_woods n_sums) ++ (bX1 cI cJ cC a_c c_inch c_gain c_unlikes c_unlike c_shared)) sz)) 0 0 (va_A ((bX4 cI cJ cC a_T a_n a_k a_t a_s a_r a_c T_isKept T_refusals) ++ (bX3 cI cJ cC a_n n_space n_beam n_door n_law n_used n_pipes n_drilled n_total n_open n_pipeInches n_pipeChances n_weights n_woods n_sums) ++ (bX1 cI cJ cC a_c c_inch c_gain c_unlikes c_unlike c_shared)) sz) := by
  refine zml (gw := fun (u : (Nat → Int32) × Int32 × Int64 × Int32 × (Nat → Int32) × (Nat → Int64)) => (bX4 cI cJ cC a_T a_n a_k a_t a_s a_r a_c T_isKept u.1) ++ (bX3 cI cJ cC a_n n_space n_beam n_door n_law n_used n_pipes n_drilled n_total n_open n_pipeInches n_pipeChances n_weights n_woods n_sums) ++ (bX1 cI cJ cC a_c u.2.1 u.2.2.1 u.2.2.2.1 u.2.2.2.2.1 u.2.2.2.2.2)) (plainFor_of_name (by decide)) (Nat.le_of_ble_eq_true rfl) ?_
  intro p e s m below meth c A Q ls S hK hD hA hE hP hl hret
  obtain ⟨hx, hb, hml, hown, ht⟩ := id S
  have hS : va_S A s.heap s.heap [] := va_S.rf
  have hDD : ∀ ws : va_W, ws.map (fun q => q.1) = [a_T 0, a_T 1, a_n 0, a_n 1, a_n 2, a_n 3, a_n 4, a_n 5, a_c 0, a_c 1, a_c 2] → va_D A ws := fun ws hw => zD hD (hw.trans rfl)
  have hl : lv_has ls 3 [(0, .ref (a_T 0)), (1, .int p1), (2, .int p2)] := hl
  unfold wpX4_worth at h
  refine lv_iload_n hx hb dX4_worth_0 rfl (lv_at hl 1 rfl) ?_
  refine zci hA zD0 hS (zrunS (As := [.int p1]) (rest := []) S hK hA hE zP0 zD0 hS (mX4_isNoTool l D cI cJ cC G _ p1 _ h) kX4_isNoTool ml_X4_113 ⟨rfl, rfl, by decide, by decide⟩ rfl hl.1 rfl (Nat.le_of_ble_eq_true rfl) dX4_worth_1 ⟨Nat.zero_le _, Nat.zero_le _⟩) (fun r_1 u H locs h hP1 hk1 hS => ?_)
  try dsimp only at h
  have hP : va_P D vwCl ((bX4 cI cJ cC a_T a_n a_k a_t a_s a_r a_c T_isKept T_refusals) ++ (bX3 cI cJ cC a_n n_space n_beam n_door n_law n_used n_pipes n_drilled n_total n_open n_pipeInches n_pipeChances n_weights n_woods n_sums) ++ (bX1 cI cJ cC a_c c_inch c_gain c_unlikes c_unlike c_shared)) H := zKeep hP hk1
  refine lv_if_ne (tgt := 14) hx hb dX4_worth_4 (by decide) (fun z => ?_) (fun z => ?_)
  · replace h := h.2 z
    refine lv_aload_n hx hb dX4_worth_14 rfl (lv_at hl 0 rfl) ?_
    refine lv_bipush (v := (-2 : Int32)) hx hb dX4_worth_15 (by decide) ?_
    have hPw : va_P D vwCl ((bX4 cI cJ cC a_T a_n a_k a_t a_s a_r a_c T_isKept T_refusals)) _ := hP.sub [0, 1] rfl
    have hDw : va_D A ((bX4 cI cJ cC a_T a_n a_k a_t a_s a_r a_c T_isKept T_refusals)) := (hDD _ rfl).sub (ws := (bX4 cI cJ cC a_T a_n a_k a_t a_s a_r a_c T_isKept T_refusals) ++ (bX3 cI cJ cC a_n n_space n_beam n_door n_law n_used n_pipes n_drilled n_total n_open n_pipeInches n_pipeChances n_weights n_woods n_sums) ++ (bX1 cI cJ cC a_c c_inch c_gain c_unlikes c_unlike c_shared)) [0, 1] (by decide) rfl
    refine zcl hA hDw hS (zrunV (As := [.int (-2 : Int32)]) (rest := []) S hK hA hE hPw hDw hS (mX4_refuseLong l D cI cJ cC G a_T a_n a_k a_t a_s a_r a_c _ T_isKept T_refusals (-2 : Int32) _ h) kX4_refuseLong ml_X4_105 ⟨rfl, rfl, by decide, by decide⟩ (q0 := 0) (ci := 4) rfl rfl rfl rfl hl.1 rfl (Nat.le_of_ble_eq_true rfl) dX4_worth_17 ⟨Nat.zero_le _, Nat.zero_le _⟩) (fun r_2 T_refusals_3 H locs h hP1 hk1 hS => ?_)
    try dsimp only at h
    have hP : va_P D vwCl ((bX4 cI cJ cC a_T a_n a_k a_t a_s a_r a_c T_isKept T_refusals_3) ++ (bX3 cI cJ cC a_n n_space n_beam n_door n_law n_used n_pipes n_drilled n_total n_open n_pipeInches n_pipeChances n_weights n_woods n_sums) ++ (bX1 cI cJ cC a_c c_inch c_gain c_unlikes c_unlike c_shared)) H := zMerge hP (hDD _ rfl) [0, 1] rfl rfl hk1 hP1
    exact hret r_2 (T_refusals_3, c_inch, c_gain, c_unlikes, c_unlike, c_shared) _ _ _ _ h hP hS dX4_worth_20
  · replace h := h.1 z
    refine lv_iload_n hx hb dX4_worth_7 rfl (lv_at hl 2 rfl) ?_
    refine zci hA zD0 hS (zrunS (As := [.int p2]) (rest := []) S hK hA hE zP0 zD0 hS (mX4_isNoPart l D cI cJ cC G _ p2 _ h) kX4_isNoPart ml_X4_173 ⟨rfl, rfl, by decide, by decide⟩ rfl hl.1 rfl (Nat.le_of_ble_eq_true rfl) dX4_worth_8 ⟨Nat.zero_le _, Nat.zero_le _⟩) (fun r_4 u H locs h hP1 hk1 hS => ?_)
    try dsimp only at h
    have hP : va_P D vwCl ((bX4 cI cJ cC a_T a_n a_k a_t a_s a_r a_c T_isKept T_refusals) ++ (bX3 cI cJ cC a_n n_space n_beam n_door n_law n_used n_pipes n_drilled n_total n_open n_pipeInches n_pipeChances n_weights n_woods n_sums) ++ (bX1 cI cJ cC a_c c_inch c_gain c_unlikes c_unlike c_shared)) H := zKeep hP hk1
    refine lv_if_eq (tgt := 21) hx hb dX4_worth_11 (by decide) (fun z => ?_) (fun z => ?_)
    · replace h := h.1 z
      refine lv_aload_n hx hb dX4_worth_21 rfl (lv_at hl 0 rfl) ?_
      refine va_get (D := D) (ci := 4) (v := .ref (a_c 0)) (C := RX4) (T := TX4) (N := 8) hx hb ht inX4 hown hK hP 0 rfl rfl 5 (by decide) (ht _ fl_X4_39) (fun _ h9 => h9) rfl dX4_worth_22 ?_
      refine lv_aload_n hx hb dX4_worth_25 rfl (lv_at hl 0 rfl) ?_
      refine va_get (D := D) (ci := 4) (v := .ref (a_n 0)) (C := RX4) (T := TX4) (N := 8) hx hb ht inX4 hown hK hP 0 rfl rfl 0 (by decide) (ht _ fl_X4_10) (fun _ h9 => h9) rfl dX4_worth_26 ?_
      refine lv_iload_n hx hb dX4_worth_29 rfl (lv_at hl 1 rfl) ?_
      have hPw : va_P D vwCl ((bX1 cI cJ cC a_c c_inch c_gain c_unlikes c_unlike c_shared) ++ (bX3 cI cJ cC a_n n_space n_beam n_door n_law n_used n_pipes n_drilled n_total n_open n_pipeInches n_pipeChances n_weights n_woods n_sums)) _ := hP.sub [8, 9, 10, 2, 3, 4, 5, 6, 7] rfl
      have hDw : va_D A ((bX1 cI cJ cC a_c c_inch c_gain c_unlikes c_unlike c_shared) ++ (bX3 cI cJ cC a_n n_space n_beam n_door n_law n_used n_pipes n_drilled n_total n_open n_pipeInches n_pipeChances n_weights n_woods n_sums)) := (hDD _ rfl).sub (ws := (bX4 cI cJ cC a_T a_n a_k a_t a_s a_r a_c T_isKept T_refusals) ++ (bX3 cI cJ cC a_n n_space n_beam n_door n_law n_used n_pipes n_drilled n_total n_open n_pipeInches n_pipeChances n_weights n_woods n_sums) ++ (bX1 cI cJ cC a_c c_inch c_gain c_unlikes c_unlike c_shared)) [8, 9, 10, 2, 3, 4, 5, 6, 7] (by decide) rfl
      refine zcv hA hDw hS (zrunV (As := [.ref (a_n 0), .int p1]) (rest := []) S hK hA hE hPw hDw hS (mX1_lookWith l D cI cJ cC G a_c a_n _ c_inch c_gain c_unlikes c_unlike c_shared n_space n_beam n_door n_law n_used n_pipes n_drilled n_total n_open n_pipeInches n_pipeChances n_weights n_woods n_sums p1 _ h) kX1_lookWith ml_X4_201 ⟨rfl, rfl, by decide, by decide⟩ (q0 := 0) (ci := 1) rfl rfl rfl rfl hl.1 rfl (Nat.le_of_ble_eq_true rfl) dX4_worth_30 ⟨Nat.zero_le _, Nat.zero_le _⟩) (fun u H locs h hP1 hk1 hS => ?_)
      obtain ⟨c_inch_5, c_gain_6, c_unlikes_7, c_unlike_8, c_shared_9⟩ := u
      dsimp only at h
      have hP : va_P D vwCl ((bX4 cI cJ cC a_T a_n a_k a_t a_s a_r a_c T_isKept T_refusals) ++ (bX3 cI cJ cC a_n n_space n_beam n_door n_law n_used n_pipes n_drilled n_total n_open n_pipeInches n_pipeChances n_weights n_woods n_sums) ++ (bX1 cI cJ cC a_c c_inch_5 c_gain_6 c_unlikes_7 c_unlike_8 c_shared_9)) H := zMerge hP (hDD _ rfl) [8, 9, 10, 2, 3, 4, 5, 6, 7] rfl rfl hk1 hP1
      refine lv_aload_n hx hb dX4_worth_33 rfl (lv_at hl 0 rfl) ?_
      refine va_get (D := D) (ci := 4) (v := .ref (a_c 0)) (C := RX4) (T := TX4) (N := 8) hx hb ht inX4 hown hK hP 0 rfl rfl 5 (by decide) (ht _ fl_X4_39) (fun _ h9 => h9) rfl dX4_worth_34 ?_
      refine va_get (D := D) (ci := 1) (v := .long c_gain_6) (C := RX1) (T := TX1) (N := 5) hx hb ht inX1 hown hK hP 8 rfl rfl 1 (by decide) (ht _ fl_X4_208) (fun _ h9 => h9) rfl dX4_worth_37 ?_
      refine lv_ldc2 hx hb hown (ht _ kc_X4_211) dX4_worth_40 ?_
      refine lv_aload_n hx hb dX4_worth_43 rfl (lv_at hl 0 rfl) ?_
      refine va_get (D := D) (ci := 4) (v := .ref (a_n 0)) (C := RX4) (T := TX4) (N := 8) hx hb ht inX4 hown hK hP 0 rfl rfl 0 (by decide) (ht _ fl_X4_10) (fun _ h9 => h9) rfl dX4_worth_44 ?_
      refine va_get (D := D) (ci := 3) (v := .long n_total) (C := RX3) (T := TX3) (N := 14) hx hb ht inX3 hown hK hP 2 rfl rfl 12 (by decide) (ht _ fl_X4_179) (fun _ h9 => h9) rfl dX4_worth_47 ?_
      refine lv_lmul hx hb dX4_worth_50 ?_
      refine lv_iload_n hx hb dX4_worth_51 rfl (lv_at hl 2 rfl) ?_
      refine zcl hA zD0 hS (zrunS (As := [.long c_gain_6, .long ((10 : Int64) * n_total), .int p2]) (rest := []) S hK hA hE zP0 zD0 hS (mX4_partOf l D cI cJ cC G _ c_gain_6 ((10 : Int64) * n_total) p2 _ h) kX4_partOf ml_X4_182 ⟨rfl, rfl, by decide, by decide⟩ rfl hl.1 rfl (Nat.le_of_ble_eq_true rfl) dX4_worth_52 ⟨Nat.zero_le _, Nat.zero_le _⟩) (fun r_10 u H locs h hP1 hk1 hS => ?_)
      try dsimp only at h
      have hP : va_P D vwCl ((bX4 cI cJ cC a_T a_n a_k a_t a_s a_r a_c T_isKept T_refusals) ++ (bX3 cI cJ cC a_n n_space n_beam n_door n_law n_used n_pipes n_drilled n_total n_open n_pipeInches n_pipeChances n_weights n_woods n_sums) ++ (bX1 cI cJ cC a_c c_inch_5 c_gain_6 c_unlikes_7 c_unlike_8 c_shared_9)) H := zKeep hP hk1
      exact hret r_10 (T_refusals, c_inch_5, c_gain_6, c_unlikes_7, c_unlike_8, c_shared_9) _ _ _ _ h hP hS dX4_worth_55
    · replace h := h.2 z
      refine lv_aload_n hx hb dX4_worth_14 rfl (lv_at hl 0 rfl) ?_
      refine lv_bipush (v := (-2 : Int32)) hx hb dX4_worth_15 (by decide) ?_
      have hPw : va_P D vwCl ((bX4 cI cJ cC a_T a_n a_k a_t a_s a_r a_c T_isKept T_refusals)) _ := hP.sub [0, 1] rfl
      have hDw : va_D A ((bX4 cI cJ cC a_T a_n a_k a_t a_s a_r a_c T_isKept T_refusals)) := (hDD _ rfl).sub (ws := (bX4 cI cJ cC a_T a_n a_k a_t a_s a_r a_c T_isKept T_refusals) ++ (bX3 cI cJ cC a_n n_space n_beam n_door n_law n_used n_pipes n_drilled n_total n_open n_pipeInches n_pipeChances n_weights n_woods n_sums) ++ (bX1 cI cJ cC a_c c_inch c_gain c_unlikes c_unlike c_shared)) [0, 1] (by decide) rfl
      refine zcl hA hDw hS (zrunV (As := [.int (-2 : Int32)]) (rest := []) S hK hA hE hPw hDw hS (mX4_refuseLong l D cI cJ cC G a_T a_n a_k a_t a_s a_r a_c _ T_isKept T_refusals (-2 : Int32) _ h) kX4_refuseLong ml_X4_105 ⟨rfl, rfl, by decide, by decide⟩ (q0 := 0) (ci := 4) rfl rfl rfl rfl hl.1 rfl (Nat.le_of_ble_eq_true rfl) dX4_worth_17 ⟨Nat.zero_le _, Nat.zero_le _⟩) (fun r_11 T_refusals_12 H locs h hP1 hk1 hS => ?_)
      try dsimp only at h
      have hP : va_P D vwCl ((bX4 cI cJ cC a_T a_n a_k a_t a_s a_r a_c T_isKept T_refusals_12) ++ (bX3 cI cJ cC a_n n_space n_beam n_door n_law n_used n_pipes n_drilled n_total n_open n_pipeInches n_pipeChances n_weights n_woods n_sums) ++ (bX1 cI cJ cC a_c c_inch c_gain c_unlikes c_unlike c_shared)) H := zMerge hP (hDD _ rfl) [0, 1] rfl rfl hk1 hP1
      exact hret r_11 (T_refusals_12, c_inch, c_gain, c_unlikes, c_unlike, c_shared) _ _ _ _ h hP hS dX4_worth_20
def lpX4_kind_7 (K : Int32 → Int64 → Int32 → Int32 → Int64 → Int32 → (Nat → Int32) → (Nat → Int64) → Prop) (n_weights : Nat → Int64) (n_woods : Nat → Int32) (n_sums : Nat → Int64) : Nat → Int32 → Int64 → Int32 → Int32 → Int64 → Int32 → (Nat → Int32) → (Nat → Int64) → Prop
  | 0, _, _, _, _, _, _, _, _ => False
  | n + 1, x1, x2, x4, c_inch, c_gain, c_unlikes, c_unlike, c_shared => (((5 : Int32) ≤ x4 → (K x1 x2 x4 c_inch c_gain c_unlikes c_unlike c_shared)) ∧ (¬ ((5 : Int32) ≤ x4) → (wpX1_lookWith (fun (c_inch_1 : Int32) (c_gain_2 : Int64) (c_unlikes_3 : Int32) (c_unlike_4 : Nat → Int32) (c_shared_5 : Nat → Int64) => vp_in x1 5 ∧ (vp_in x4 5 ∧ ((((c_gain_2 * ((([1, 3, 2, 1, 5] : List Int32).getD x1.toNatClampNeg 0).toInt64)) ≤ (x2 * ((([1, 3, 2, 1, 5] : List Int32).getD x4.toNatClampNeg 0).toInt64)) → (lpX4_kind_7 K n_weights n_woods n_sums n x1 x2 (x4 + (1 : Int32)) c_inch_1 c_gain_2 c_unlikes_3 c_unlike_4 c_shared_5)) ∧ (¬ ((c_gain_2 * ((([1, 3, 2, 1, 5] : List Int32).getD x1.toNatClampNeg 0).toInt64)) ≤ (x2 * ((([1, 3, 2, 1, 5] : List Int32).getD x4.toNatClampNeg 0).toInt64))) → (lpX4_kind_7 K n_weights n_woods n_sums n x4 c_gain_2 (x4 + (1 : Int32)) c_inch_1 c_gain_2 c_unlikes_3 c_unlike_4 c_shared_5)))))) c_unlike c_shared n_weights n_woods n_sums x4)))
set_option maxHeartbeats 4000000 in
set_option maxRecDepth 100000 in
theorem wX4_kind_7 (l : Launch) (D : va_G) (cI cJ cC : ClassId) (G : Nat → Nat → Nat) (a_T : Nat → Nat) (a_n : Nat → Nat) (a_k : Nat → Nat) (a_t : Nat → Nat) (a_s : Nat → Nat) (a_r : Nat → Nat) (a_c : Nat → Nat) {p : Program} {e : Env} {s : State} {m : MethodId} {below : List Frame} {meth : Method} {c : Code} {A : Nat → Prop} {Q : State → Prop} (T_isKept : Int32) (T_refusals : Nat → Int32) (n_space : Int32) (n_beam : Int32) (n_door : Int32) (n_law : Int32) (n_used : Int32) (n_pipes : Int32) (n_drilled : Int64) (n_total : Int64) (n_open : Int32) (n_pipeInches : Nat → Int32) (n_pipeChances : Nat → Int32) (n_weights : Nat → Int64) (n_woods : Nat → Int32) (n_sums : Nat → Int64) (K : Int32 → Int64 → Int32 → Int32 → Int64 → Int32 → (Nat → Int32) → (Nat → Int64) → Prop) (S : CallFix p m c cX4_kind 5 s ([.ref (a_T 0)] : List Value).toArray bg RX4) (hK : va_K D vwCl (tz cI cJ cC) s) (hDD : ∀ ws : va_W, ws.map (fun q => q.1) = [a_T 0, a_T 1, a_n 0, a_n 1, a_n 2, a_n 3, a_n 4, a_n 5, a_c 0, a_c 1, a_c 2] → va_D A ws) (hA : ∀ q, s.heap.size ≤ q → A q) (hE : EV G A s) (hKK : ∀ (x1 : Int32) (x2 : Int64) (x4 : Int32) (c_inch : Int32) (c_gain : Int64) (c_unlikes : Int32) (c_unlike : Nat → Int32) (c_shared : Nat → Int64) (H : Heap) (locs : List Loc) (ls : Array Slot), K x1 x2 x4 c_inch c_gain c_unlikes c_unlike c_shared → va_P D vwCl ((bX4 cI cJ cC a_T a_n a_k a_t a_s a_r a_c T_isKept T_refusals) ++ (bX3 cI cJ cC a_n n_space n_beam n_door n_law n_used n_pipes n_drilled n_total n_open n_pipeInches n_pipeChances n_weights n_woods n_sums) ++ (bX1 cI cJ cC a_c c_inch c_gain c_unlikes c_unlike c_shared)) H → va_S A s.heap H locs → lv_has ls 5 [(1, .int x1)] → W p l e ({ frames := 4, cells := 0, slots := 0, locals := 95 }) s m ([.ref (a_T 0)] : List Value).toArray below meth c H locs 0 0 Q (F0 m 70 ls [])) :
    ∀ (n : Nat) (x1 : Int32) (x2 : Int64) (x4 : Int32) (c_inch : Int32) (c_gain : Int64) (c_unlikes : Int32) (c_unlike : Nat → Int32) (c_shared : Nat → Int64) (H : Heap) (locs : List Loc) (ls : Array Slot), lpX4_kind_7 K n_weights n_woods n_sums n x1 x2 x4 c_inch c_gain c_unlikes c_unlike c_shared → va_P D vwCl ((bX4 cI cJ cC a_T a_n a_k a_t a_s a_r a_c T_isKept T_refusals) ++ (bX3 cI cJ cC a_n n_space n_beam n_door n_law n_used n_pipes n_drilled n_total n_open n_pipeInches n_pipeChances n_weights n_woods n_sums) ++ (bX1 cI cJ cC a_c c_inch c_gain c_unlikes c_unlike c_shared)) H → va_S A s.heap H locs → lv_has ls 5 [(0, .ref (a_T 0)), (1, .int x1), (2, .long x2), (4, .int x4)] → W p l e ({ frames := 4, cells := 0, slots := 0, locals := 95 }) s m ([.ref (a_T 0)] : List Value).toArray below meth c H locs 0 0 Q (F0 m 7 ls []) := by
  obtain ⟨hx, hb, hml, hown, ht⟩ := id S
  intro n
  induction n with
  | zero =>
    intro x1 x2 x4 c_inch c_gain c_unlikes c_unlike c_shared H locs ls h
    exact absurd h (by simp [lpX4_kind_7])
  | succ n ih =>
    intro x1 x2 x4 c_inch c_gain c_unlikes c_unlike c_shared H locs ls h hP hS hl
    rw [lpX4_kind_7] at h
    refine lv_iload hx hb dX4_kind_7 (lv_at hl 3 rfl) ?_
    refine lv_iconst (v := (5 : Int32)) hx hb dX4_kind_9 (by decide) ?_
    refine lv_icmp_ge (tgt := 70) hx hb dX4_kind_10 (by decide) (fun z => ?_) (fun z => ?_)
    · replace h := h.1 z
      exact hKK x1 x2 x4 c_inch c_gain c_unlikes c_unlike c_shared _ _ _ h hP hS (lv_sub hl [1] rfl)
    · replace h := h.2 z
      refine lv_aload_n hx hb dX4_kind_13 rfl (lv_at hl 0 rfl) ?_
      refine va_get (D := D) (ci := 4) (v := .ref (a_c 0)) (C := RX4) (T := TX4) (N := 8) hx hb ht inX4 hown hK hP 0 rfl rfl 5 (by decide) (ht _ fl_X4_39) (fun _ h9 => h9) rfl dX4_kind_14 ?_
      refine lv_aload_n hx hb dX4_kind_17 rfl (lv_at hl 0 rfl) ?_
      refine va_get (D := D) (ci := 4) (v := .ref (a_n 0)) (C := RX4) (T := TX4) (N := 8) hx hb ht inX4 hown hK hP 0 rfl rfl 0 (by decide) (ht _ fl_X4_10) (fun _ h9 => h9) rfl dX4_kind_18 ?_
      refine lv_iload hx hb dX4_kind_21 (lv_at hl 3 rfl) ?_
      have hPw : va_P D vwCl ((bX1 cI cJ cC a_c c_inch c_gain c_unlikes c_unlike c_shared) ++ (bX3 cI cJ cC a_n n_space n_beam n_door n_law n_used n_pipes n_drilled n_total n_open n_pipeInches n_pipeChances n_weights n_woods n_sums)) _ := hP.sub [8, 9, 10, 2, 3, 4, 5, 6, 7] rfl
      have hDw : va_D A ((bX1 cI cJ cC a_c c_inch c_gain c_unlikes c_unlike c_shared) ++ (bX3 cI cJ cC a_n n_space n_beam n_door n_law n_used n_pipes n_drilled n_total n_open n_pipeInches n_pipeChances n_weights n_woods n_sums)) := (hDD _ rfl).sub (ws := (bX4 cI cJ cC a_T a_n a_k a_t a_s a_r a_c T_isKept T_refusals) ++ (bX3 cI cJ cC a_n n_space n_beam n_door n_law n_used n_pipes n_drilled n_total n_open n_pipeInches n_pipeChances n_weights n_woods n_sums) ++ (bX1 cI cJ cC a_c c_inch c_gain c_unlikes c_unlike c_shared)) [8, 9, 10, 2, 3, 4, 5, 6, 7] (by decide) rfl
      refine zcv hA hDw hS (zrunV (As := [.ref (a_n 0), .int x4]) (rest := []) S hK hA hE hPw hDw hS (mX1_lookWith l D cI cJ cC G a_c a_n _ c_inch c_gain c_unlikes c_unlike c_shared n_space n_beam n_door n_law n_used n_pipes n_drilled n_total n_open n_pipeInches n_pipeChances n_weights n_woods n_sums x4 _ h) kX1_lookWith ml_X4_201 ⟨rfl, rfl, by decide, by decide⟩ (q0 := 0) (ci := 1) rfl rfl rfl rfl hl.1 rfl (Nat.le_of_ble_eq_true rfl) dX4_kind_23 ⟨Nat.zero_le _, Nat.zero_le _⟩) (fun u H locs h hP1 hk1 hS => ?_)
      obtain ⟨c_inch_1, c_gain_2, c_unlikes_3, c_unlike_4, c_shared_5⟩ := u
      dsimp only at h
      have hP : va_P D vwCl ((bX4 cI cJ cC a_T a_n a_k a_t a_s a_r a_c T_isKept T_refusals) ++ (bX3 cI cJ cC a_n n_space n_beam n_door n_law n_used n_pipes n_drilled n_total n_open n_pipeInches n_pipeChances n_weights n_woods n_sums) ++ (bX1 cI cJ cC a_c c_inch_1 c_gain_2 c_unlikes_3 c_unlike_4 c_shared_5)) H := zMerge hP (hDD _ rfl) [8, 9, 10, 2, 3, 4, 5, 6, 7] rfl rfl hk1 hP1
      refine lv_aload_n hx hb dX4_kind_26 rfl (lv_at hl 0 rfl) ?_
      refine va_get (D := D) (ci := 4) (v := .ref (a_c 0)) (C := RX4) (T := TX4) (N := 8) hx hb ht inX4 hown hK hP 0 rfl rfl 5 (by decide) (ht _ fl_X4_39) (fun _ h9 => h9) rfl dX4_kind_27 ?_
      refine va_get (D := D) (ci := 1) (v := .long c_gain_2) (C := RX1) (T := TX1) (N := 5) hx hb ht inX1 hown hK hP 8 rfl rfl 1 (by decide) (ht _ fl_X4_208) (fun _ h9 => h9) rfl dX4_kind_30 ?_
      refine va_gets (v := .ref (G 0 4)) hx hb (hE.2.1 4 _ rfl).1 hS hown (ht _ fl_X4_122) (fun _ h9 => h9) dX4_kind_33 ?_
      refine lv_iload_n hx hb dX4_kind_36 rfl (lv_at hl 1 rfl) ?_
      obtain ⟨hin, h⟩ := h
      refine va_ti (v := .int (([1, 3, 2, 1, 5] : List Int32).getD x1.toNatClampNeg 0)) hx hb (hE.2.1 4 _ rfl).2 hS hin rfl dX4_kind_37 ?_
      refine lv_i2l hx hb dX4_kind_38 rfl ?_
      refine lv_lmul hx hb dX4_kind_39 ?_
      refine lv_lload_n hx hb dX4_kind_40 rfl (lv_at hl 2 rfl) ?_
      refine va_gets (v := .ref (G 0 4)) hx hb (hE.2.1 4 _ rfl).1 hS hown (ht _ fl_X4_122) (fun _ h9 => h9) dX4_kind_41 ?_
      refine lv_iload hx hb dX4_kind_44 (lv_at hl 3 rfl) ?_
      obtain ⟨hin, h⟩ := h
      refine va_ti (v := .int (([1, 3, 2, 1, 5] : List Int32).getD x4.toNatClampNeg 0)) hx hb (hE.2.1 4 _ rfl).2 hS hin rfl dX4_kind_46 ?_
      refine lv_i2l hx hb dX4_kind_47 rfl ?_
      refine lv_lmul hx hb dX4_kind_48 ?_
      refine W.lcmp hx hb dX4_kind_49 ?_
      refine lv_if_le (tgt := 64) hx hb dX4_kind_50 (by decide) (fun z => ?_) (fun z => ?_)
      · replace h := h.1 (zl_le.mp z)
        refine lv_iinc (v := x4 + (1 : Int32)) (lv' := [(4, .int (x4 + (1 : Int32))), (0, .ref (a_T 0)), (1, .int x1), (2, .long x2)]) hx hb dX4_kind_64 hl (k := 3) rfl (by rfl) (by decide) rfl (fun ls hl => ?_)
        refine lv_goto (tgt := 7) hx hb dX4_kind_67 (by decide) ?_
        exact ih x1 x2 (x4 + (1 : Int32)) c_inch_1 c_gain_2 c_unlikes_3 c_unlike_4 c_shared_5 _ _ _ h hP hS (lv_sub hl [1, 2, 3, 0] rfl)
      · replace h := h.2 (fun q => z (zl_le.mpr q))
        refine lv_iload hx hb dX4_kind_53 (lv_at hl 3 rfl) ?_
        refine lv_istore_n (lv' := [(1, .int x4), (0, .ref (a_T 0)), (2, .long x2), (4, .int x4)]) hx hb dX4_kind_55 rfl hl (by decide) rfl (fun ls hl => ?_)
        refine lv_aload_n hx hb dX4_kind_56 rfl (lv_at hl 1 rfl) ?_
        refine va_get (D := D) (ci := 4) (v := .ref (a_c 0)) (C := RX4) (T := TX4) (N := 8) hx hb ht inX4 hown hK hP 0 rfl rfl 5 (by decide) (ht _ fl_X4_39) (fun _ h9 => h9) rfl dX4_kind_57 ?_
        refine va_get (D := D) (ci := 1) (v := .long c_gain_2) (C := RX1) (T := TX1) (N := 5) hx hb ht inX1 hown hK hP 8 rfl rfl 1 (by decide) (ht _ fl_X4_208) (fun _ h9 => h9) rfl dX4_kind_60 ?_
        refine lv_lstore_n (lv' := [(2, .long c_gain_2), (1, .int x4), (0, .ref (a_T 0)), (4, .int x4)]) hx hb dX4_kind_63 rfl hl (by decide) rfl (fun ls hl => ?_)
        refine lv_iinc (v := x4 + (1 : Int32)) (lv' := [(4, .int (x4 + (1 : Int32))), (2, .long c_gain_2), (1, .int x4), (0, .ref (a_T 0))]) hx hb dX4_kind_64 hl (k := 3) rfl (by rfl) (by decide) rfl (fun ls hl => ?_)
        refine lv_goto (tgt := 7) hx hb dX4_kind_67 (by decide) ?_
        exact ih x4 c_gain_2 (x4 + (1 : Int32)) c_inch_1 c_gain_2 c_unlikes_3 c_unlike_4 c_shared_5 _ _ _ h hP hS (lv_sub hl [3, 2, 1, 0] rfl)
def wpX4_kind (post : Int32 → Int32 → Int64 → Int32 → (Nat → Int32) → (Nat → Int64) → Prop) (n_weights : Nat → Int64) (n_woods : Nat → Int32) (n_sums : Nat → Int64) (c_inch : Int32) (c_gain : Int64) (c_unlikes : Int32) (c_unlike : Nat → Int32) (c_shared : Nat → Int64) : Prop := ∃ n_6 : Nat, lpX4_kind_7 (fun (x1_7 : Int32) (x2_8 : Int64) (x4_9 : Int32) (c_inch_10 : Int32) (c_gain_11 : Int64) (c_unlikes_12 : Int32) (c_unlike_13 : Nat → Int32) (c_shared_14 : Nat → Int64) => post x1_7 c_inch_10 c_gain_11 c_unlikes_12 c_unlike_13 c_shared_14) n_weights n_woods n_sums n_6 (0 : Int32) (0 : Int64) (0 : Int32) c_inch c_gain c_unlikes c_unlike c_shared
set_option maxHeartbeats 4000000 in
set_option maxRecDepth 100000 in
theorem mX4_kind (l : Launch) (D : va_G) (cI cJ cC : ClassId) (G : Nat → Nat → Nat) (a_T : Nat → Nat) (a_n : Nat → Nat) (a_k : Nat → Nat) (a_t : Nat → Nat) (a_s : Nat → Nat) (a_r : Nat → Nat) (a_c : Nat → Nat) (sz : Nat) (T_isKept : Int32) (T_refusals : Nat → Int32) (n_space : Int32) (n_beam : Int32) (n_door : Int32) (n_law : Int32) (n_used : Int32) (n_pipes : Int32) (n_drilled : Int64) (n_total : Int64) (n_open : Int32) (n_pipeInches : Nat → Int32) (n_pipeChances : Nat → Int32) (n_weights : Nat → Int64) (n_woods : Nat → Int32) (n_sums : Nat → Int64) (c_inch : Int32) (c_gain : Int64) (c_unlikes : Int32) (c_unlike : Nat → Int32) (c_shared : Nat → Int64) (post : Int32 → Int32 → Int64 → Int32 → (Nat → Int32) → (Nat → Int64) → Prop) (h : wpX4_kind post n_weights n_woods n_sums c_inch c_gain c_unlikes c_unlike c_shared) : Met l yX4_kind (wz yX4_kind cX4_kind 5 (some .int)) ({ frames := 4, cells := 0, slots := 0, locals := 95 }) (va_Pc [.ref (a_T 0)] (PW D (tz cI cJ cC) G ((bX4 cI cJ cC a_T a_n a_k a_t a_s a_r a_c T_isKept T_refusals) ++ (bX3 cI cJ cC a_n n_space n_beam n_door n_law n_used n_pipes n_drilled n_total n_open n_pipeInches n_pipeChances n_weights n_woods n_sums) ++ (bX1 cI cJ cC a_c c_inch c_gain c_unlikes c_unlike c_shared)) sz)) (va_Qi (fun (r : Int32) (u : Int32 × Int64 × Int32 × (Nat → Int32) × (Nat → Int64)) => post r u.1 u.2.1 u.2.2.1 u.2.2.2.1 u.2.2.2.2) (fun (u : Int32 × Int64 × Int32 × (Nat → Int32) × (Nat → Int64)) t => va_P D vwCl ((bX4 cI cJ cC a_T a_n a_k a_t a_s a_r a_c T_isKept T_refusals) ++ (bX3 cI cJ cC a_n n_space n_beam n_door n_law n_used n_pipes n_drilled n_total n_open n_pipeInches n_pipeChances n_weights n_woods n_sums) ++ (bX1 cI cJ cC a_c u.1 u.2.1 u.2.2.1 u.2.2.2.1 u.2.2.2.2)) t.heap) (va_A ((bX4 cI cJ cC a_T a_n a_k a_t a_s a_r a_c T_isKept T_refusals) ++ (bX3 cI cJ cC a_n n_space n_beam n_door n_law n_used n_pipes n_drilled n_total n_open n_pipeInches n_pipeChances n_weights n_woods n_sums) ++ (bX1 cI cJ cC a_c c_inch c_gain c_unlikes c_unlike c_shared)) sz)) 0 0 (va_A ((bX4 cI cJ cC a_T a_n a_k a_t a_s a_r a_c T_isKept T_refusals) ++ (bX3 cI cJ cC a_n n_space n_beam n_door n_law n_used n_pipes n_drilled n_total n_open n_pipeInches n_pipeChances n_weights n_woods n_sums) ++ (bX1 cI cJ cC a_c c_inch c_gain c_unlikes c_unlike c_shared)) sz) := by
  refine zmi (gw := fun (u : Int32 × Int64 × Int32 × (Nat → Int32) × (Nat → Int64)) => (bX4 cI cJ cC a_T a_n a_k a_t a_s a_r a_c T_isKept T_refusals) ++ (bX3 cI cJ cC a_n n_space n_beam n_door n_law n_used n_pipes n_drilled n_total n_open n_pipeInches n_pipeChances n_weights n_woods n_sums) ++ (bX1 cI cJ cC a_c u.1 u.2.1 u.2.2.1 u.2.2.2.1 u.2.2.2.2)) (plainFor_of_name (by decide)) (Nat.le_of_ble_eq_true rfl) ?_
  intro p e s m below meth c A Q ls S hK hD hA hE hP hl hret
  obtain ⟨hx, hb, hml, hown, ht⟩ := id S
  have hS : va_S A s.heap s.heap [] := va_S.rf
  have hDD : ∀ ws : va_W, ws.map (fun q => q.1) = [a_T 0, a_T 1, a_n 0, a_n 1, a_n 2, a_n 3, a_n 4, a_n 5, a_c 0, a_c 1, a_c 2] → va_D A ws := fun ws hw => zD hD (hw.trans rfl)
  have hl : lv_has ls 5 [(0, .ref (a_T 0))] := hl
  unfold wpX4_kind at h
  refine lv_iconst (v := (0 : Int32)) hx hb dX4_kind_0 (by decide) ?_
  refine lv_istore_n (lv' := [(1, .int (0 : Int32)), (0, .ref (a_T 0))]) hx hb dX4_kind_1 rfl hl (by decide) rfl (fun ls hl => ?_)
  refine lv_lconst (v := (0 : Int64)) hx hb dX4_kind_2 (by decide) ?_
  refine lv_lstore_n (lv' := [(2, .long (0 : Int64)), (1, .int (0 : Int32)), (0, .ref (a_T 0))]) hx hb dX4_kind_3 rfl hl (by decide) rfl (fun ls hl => ?_)
  refine lv_iconst (v := (0 : Int32)) hx hb dX4_kind_4 (by decide) ?_
  refine lv_istore (lv' := [(4, .int (0 : Int32)), (2, .long (0 : Int64)), (1, .int (0 : Int32)), (0, .ref (a_T 0))]) hx hb dX4_kind_5 hl (by decide) rfl (fun ls hl => ?_)
  obtain ⟨n_6, h⟩ := h
  refine wX4_kind_7 l D cI cJ cC G a_T a_n a_k a_t a_s a_r a_c T_isKept T_refusals n_space n_beam n_door n_law n_used n_pipes n_drilled n_total n_open n_pipeInches n_pipeChances n_weights n_woods n_sums _ S hK hDD hA hE (fun x1_7 x2_8 x4_9 c_inch_10 c_gain_11 c_unlikes_12 c_unlike_13 c_shared_14 H locs ls h hP hS hl => ?_) n_6 (0 : Int32) (0 : Int64) (0 : Int32) c_inch c_gain c_unlikes c_unlike c_shared _ _ _ h hP hS (lv_sub hl [3, 2, 1, 0] rfl)
  try dsimp only at h
  refine lv_iload_n hx hb dX4_kind_70 rfl (lv_at hl 0 rfl) ?_
  exact hret x1_7 (c_inch_10, c_gain_11, c_unlikes_12, c_unlike_13, c_shared_14) _ _ _ _ rfl h hP hS dX4_kind_71
def wpX4_covers (post : Int32 → (Nat → Int32) → Prop) (T_refusals : Nat → Int32) (n_drilled : Int64) (p1 : Int32) (p2 : Int32) : Prop := ((p1 < (0 : Int32) → (wpX4_refuse (fun (r_1 : Int32) (T_refusals_2 : Nat → Int32) => post r_1 T_refusals_2) T_refusals (-4 : Int32))) ∧ (¬ (p1 < (0 : Int32)) → ((((1 : Int32) ≤ p2 → ((((40 : Int32) < p2 → (wpX4_refuse (fun (r_3 : Int32) (T_refusals_4 : Nat → Int32) => post r_3 T_refusals_4) T_refusals (-6 : Int32))) ∧ (¬ ((40 : Int32) < p2) → (((p1 ≤ ((48 : Int32) - p2) → (wpX3_holesWithin (fun (r_5 : Int32) => post r_5 T_refusals) n_drilled p1 p2)) ∧ (¬ (p1 ≤ ((48 : Int32) - p2)) → (wpX4_refuse (fun (r_6 : Int32) (T_refusals_7 : Nat → Int32) => post r_6 T_refusals_7) T_refusals (-6 : Int32))))))))) ∧ (¬ ((1 : Int32) ≤ p2) → (wpX4_refuse (fun (r_8 : Int32) (T_refusals_9 : Nat → Int32) => post r_8 T_refusals_9) T_refusals (-4 : Int32)))))))
set_option maxHeartbeats 4000000 in
set_option maxRecDepth 100000 in
theorem mX4_covers (l : Launch) (D : va_G) (cI cJ cC : ClassId) (G : Nat → Nat → Nat) (a_T : Nat → Nat) (a_n : Nat → Nat) (a_k : Nat → Nat) (a_t : Nat → Nat) (a_s : Nat → Nat) (a_r : Nat → Nat) (a_c : Nat → Nat) (sz : Nat) (T_isKept : Int32) (T_refusals : Nat → Int32) (n_space : Int32) (n_beam : Int32) (n_door : Int32) (n_law : Int32) (n_used : Int32) (n_pipes : Int32) (n_drilled : Int64) (n_total : Int64) (n_open : Int32) (n_pipeInches : Nat → Int32) (n_pipeChances : Nat → Int32) (n_weights : Nat → Int64) (n_woods : Nat → Int32) (n_sums : Nat → Int64) (p1 : Int32) (p2 : Int32) (post : Int32 → (Nat → Int32) → Prop) (h : wpX4_covers post T_refusals n_drilled p1 p2) : Met l yX4_covers (wz yX4_covers cX4_covers 3 (some .int)) ({ frames := 2, cells := 0, slots := 0, locals := 45 }) (va_Pc [.ref (a_T 0), .int p1, .int p2] (PW D (tz cI cJ cC) G ((bX4 cI cJ cC a_T a_n a_k a_t a_s a_r a_c T_isKept T_refusals) ++ (bX3 cI cJ cC a_n n_space n_beam n_door n_law n_used n_pipes n_drilled n_total n_open n_pipeInches n_pipeChances n_weights n_woods n_sums)) sz)) (va_Qi (fun (r : Int32) (u : (Nat → Int32)) => post r u) (fun (u : (Nat → Int32)) t => va_P D vwCl ((bX4 cI cJ cC a_T a_n a_k a_t a_s a_r a_c T_isKept u) ++ (bX3 cI cJ cC a_n n_space n_beam n_door n_law n_used n_pipes n_drilled n_total n_open n_pipeInches n_pipeChances n_weights n_woods n_sums)) t.heap) (va_A ((bX4 cI cJ cC a_T a_n a_k a_t a_s a_r a_c T_isKept T_refusals) ++ (bX3 cI cJ cC a_n n_space n_beam n_door n_law n_used n_pipes n_drilled n_total n_open n_pipeInches n_pipeChances n_weights n_woods n_sums)) sz)) 0 0 (va_A ((bX4 cI cJ cC a_T a_n a_k a_t a_s a_r a_c T_isKept T_refusals) ++ (bX3 cI cJ cC a_n n_space n_beam n_door n_law n_used n_pipes n_drilled n_total n_open n_pipeInches n_pipeChances n_weights n_woods n_sums)) sz) := by
  refine zmi (gw := fun (u : (Nat → Int32)) => (bX4 cI cJ cC a_T a_n a_k a_t a_s a_r a_c T_isKept u) ++ (bX3 cI cJ cC a_n n_space n_beam n_door n_law n_used n_pipes n_drilled n_total n_open n_pipeInches n_pipeChances n_weights n_woods n_sums)) (plainFor_of_name (by decide)) (Nat.le_of_ble_eq_true rfl) ?_
  intro p e s m below meth c A Q ls S hK hD hA hE hP hl hret
  obtain ⟨hx, hb, hml, hown, ht⟩ := id S
  have hS : va_S A s.heap s.heap [] := va_S.rf
  have hDD : ∀ ws : va_W, ws.map (fun q => q.1) = [a_T 0, a_T 1, a_n 0, a_n 1, a_n 2, a_n 3, a_n 4, a_n 5] → va_D A ws := fun ws hw => zD hD (hw.trans rfl)
  have hl : lv_has ls 3 [(0, .ref (a_T 0)), (1, .int p1), (2, .int p2)] := hl
  unfold wpX4_covers at h
  refine lv_iload_n hx hb dX4_covers_0 rfl (lv_at hl 1 rfl) ?_
  refine lv_if_lt (tgt := 9) hx hb dX4_covers_1 (by decide) (fun z => ?_) (fun z => ?_)
  · replace h := h.1 z
    refine lv_aload_n hx hb dX4_covers_9 rfl (lv_at hl 0 rfl) ?_
    refine lv_bipush (v := (-4 : Int32)) hx hb dX4_covers_10 (by decide) ?_
    have hPw : va_P D vwCl ((bX4 cI cJ cC a_T a_n a_k a_t a_s a_r a_c T_isKept T_refusals)) _ := hP.sub [0, 1] rfl
    have hDw : va_D A ((bX4 cI cJ cC a_T a_n a_k a_t a_s a_r a_c T_isKept T_refusals)) := (hDD _ rfl).sub (ws := (bX4 cI cJ cC a_T a_n a_k a_t a_s a_r a_c T_isKept T_refusals) ++ (bX3 cI cJ cC a_n n_space n_beam n_door n_law n_used n_pipes n_drilled n_total n_open n_pipeInches n_pipeChances n_weights n_woods n_sums)) [0, 1] (by decide) rfl
    refine zci hA hDw hS (zrunV (As := [.int (-4 : Int32)]) (rest := []) S hK hA hE hPw hDw hS (mX4_refuse l D cI cJ cC G a_T a_n a_k a_t a_s a_r a_c _ T_isKept T_refusals (-4 : Int32) _ h) kX4_refuse ml_X4_51 ⟨rfl, rfl, by decide, by decide⟩ (q0 := 0) (ci := 4) rfl rfl rfl rfl hl.1 rfl (Nat.le_of_ble_eq_true rfl) dX4_covers_12 ⟨Nat.zero_le _, Nat.zero_le _⟩) (fun r_1 T_refusals_2 H locs h hP1 hk1 hS => ?_)
    try dsimp only at h
    have hP : va_P D vwCl ((bX4 cI cJ cC a_T a_n a_k a_t a_s a_r a_c T_isKept T_refusals_2) ++ (bX3 cI cJ cC a_n n_space n_beam n_door n_law n_used n_pipes n_drilled n_total n_open n_pipeInches n_pipeChances n_weights n_woods n_sums)) H := zMerge hP (hDD _ rfl) [0, 1] rfl rfl hk1 hP1
    exact hret r_1 T_refusals_2 _ _ _ _ rfl h hP hS dX4_covers_15
  · replace h := h.2 z
    refine lv_iload_n hx hb dX4_covers_4 rfl (lv_at hl 2 rfl) ?_
    refine lv_iconst (v := (1 : Int32)) hx hb dX4_covers_5 (by decide) ?_
    refine lv_icmp_ge (tgt := 16) hx hb dX4_covers_6 (by decide) (fun z => ?_) (fun z => ?_)
    · replace h := h.1 z
      refine lv_iload_n hx hb dX4_covers_16 rfl (lv_at hl 2 rfl) ?_
      refine lv_bipush (v := (40 : Int32)) hx hb dX4_covers_17 (by decide) ?_
      refine lv_icmp_gt (tgt := 30) hx hb dX4_covers_19 (by decide) (fun z => ?_) (fun z => ?_)
      · replace h := h.1 z
        refine lv_aload_n hx hb dX4_covers_30 rfl (lv_at hl 0 rfl) ?_
        refine lv_bipush (v := (-6 : Int32)) hx hb dX4_covers_31 (by decide) ?_
        have hPw : va_P D vwCl ((bX4 cI cJ cC a_T a_n a_k a_t a_s a_r a_c T_isKept T_refusals)) _ := hP.sub [0, 1] rfl
        have hDw : va_D A ((bX4 cI cJ cC a_T a_n a_k a_t a_s a_r a_c T_isKept T_refusals)) := (hDD _ rfl).sub (ws := (bX4 cI cJ cC a_T a_n a_k a_t a_s a_r a_c T_isKept T_refusals) ++ (bX3 cI cJ cC a_n n_space n_beam n_door n_law n_used n_pipes n_drilled n_total n_open n_pipeInches n_pipeChances n_weights n_woods n_sums)) [0, 1] (by decide) rfl
        refine zci hA hDw hS (zrunV (As := [.int (-6 : Int32)]) (rest := []) S hK hA hE hPw hDw hS (mX4_refuse l D cI cJ cC G a_T a_n a_k a_t a_s a_r a_c _ T_isKept T_refusals (-6 : Int32) _ h) kX4_refuse ml_X4_51 ⟨rfl, rfl, by decide, by decide⟩ (q0 := 0) (ci := 4) rfl rfl rfl rfl hl.1 rfl (Nat.le_of_ble_eq_true rfl) dX4_covers_33 ⟨Nat.zero_le _, Nat.zero_le _⟩) (fun r_3 T_refusals_4 H locs h hP1 hk1 hS => ?_)
        try dsimp only at h
        have hP : va_P D vwCl ((bX4 cI cJ cC a_T a_n a_k a_t a_s a_r a_c T_isKept T_refusals_4) ++ (bX3 cI cJ cC a_n n_space n_beam n_door n_law n_used n_pipes n_drilled n_total n_open n_pipeInches n_pipeChances n_weights n_woods n_sums)) H := zMerge hP (hDD _ rfl) [0, 1] rfl rfl hk1 hP1
        exact hret r_3 T_refusals_4 _ _ _ _ rfl h hP hS dX4_covers_36
      · replace h := h.2 z
        refine lv_iload_n hx hb dX4_covers_22 rfl (lv_at hl 1 rfl) ?_
        refine lv_bipush (v := (48 : Int32)) hx hb dX4_covers_23 (by decide) ?_
        refine lv_iload_n hx hb dX4_covers_25 rfl (lv_at hl 2 rfl) ?_
        refine lv_isub hx hb dX4_covers_26 ?_
        refine lv_icmp_le (tgt := 37) hx hb dX4_covers_27 (by decide) (fun z => ?_) (fun z => ?_)
        · replace h := h.1 z
          refine lv_aload_n hx hb dX4_covers_37 rfl (lv_at hl 0 rfl) ?_
          refine va_get (D := D) (ci := 4) (v := .ref (a_n 0)) (C := RX4) (T := TX4) (N := 8) hx hb ht inX4 hown hK hP 0 rfl rfl 0 (by decide) (ht _ fl_X4_10) (fun _ h9 => h9) rfl dX4_covers_38 ?_
          refine lv_iload_n hx hb dX4_covers_41 rfl (lv_at hl 1 rfl) ?_
          refine lv_iload_n hx hb dX4_covers_42 rfl (lv_at hl 2 rfl) ?_
          have hPw : va_P D vwCl ((bX3 cI cJ cC a_n n_space n_beam n_door n_law n_used n_pipes n_drilled n_total n_open n_pipeInches n_pipeChances n_weights n_woods n_sums)) _ := hP.sub [2, 3, 4, 5, 6, 7] rfl
          have hDw : va_D A ((bX3 cI cJ cC a_n n_space n_beam n_door n_law n_used n_pipes n_drilled n_total n_open n_pipeInches n_pipeChances n_weights n_woods n_sums)) := (hDD _ rfl).sub (ws := (bX4 cI cJ cC a_T a_n a_k a_t a_s a_r a_c T_isKept T_refusals) ++ (bX3 cI cJ cC a_n n_space n_beam n_door n_law n_used n_pipes n_drilled n_total n_open n_pipeInches n_pipeChances n_weights n_woods n_sums)) [2, 3, 4, 5, 6, 7] (by decide) rfl
          refine zci hA hDw hS (zrunV (As := [.int p1, .int p2]) (rest := []) S hK hA hE hPw hDw hS (mX3_holesWithin l D cI cJ cC G a_n _ n_space n_beam n_door n_law n_used n_pipes n_drilled n_total n_open n_pipeInches n_pipeChances n_weights n_woods n_sums p1 p2 _ h) kX3_holesWithin ml_X4_160 ⟨rfl, rfl, by decide, by decide⟩ (q0 := 0) (ci := 3) rfl rfl rfl rfl hl.1 rfl (Nat.le_of_ble_eq_true rfl) dX4_covers_43 ⟨Nat.zero_le _, Nat.zero_le _⟩) (fun r_5 u H locs h hP1 hk1 hS => ?_)
          try dsimp only at h
          have hP : va_P D vwCl ((bX4 cI cJ cC a_T a_n a_k a_t a_s a_r a_c T_isKept T_refusals) ++ (bX3 cI cJ cC a_n n_space n_beam n_door n_law n_used n_pipes n_drilled n_total n_open n_pipeInches n_pipeChances n_weights n_woods n_sums)) H := zMerge hP (hDD _ rfl) [2, 3, 4, 5, 6, 7] rfl rfl hk1 hP1
          exact hret r_5 T_refusals _ _ _ _ rfl h hP hS dX4_covers_46
        · replace h := h.2 z
          refine lv_aload_n hx hb dX4_covers_30 rfl (lv_at hl 0 rfl) ?_
          refine lv_bipush (v := (-6 : Int32)) hx hb dX4_covers_31 (by decide) ?_
          have hPw : va_P D vwCl ((bX4 cI cJ cC a_T a_n a_k a_t a_s a_r a_c T_isKept T_refusals)) _ := hP.sub [0, 1] rfl
          have hDw : va_D A ((bX4 cI cJ cC a_T a_n a_k a_t a_s a_r a_c T_isKept T_refusals)) := (hDD _ rfl).sub (ws := (bX4 cI cJ cC a_T a_n a_k a_t a_s a_r a_c T_isKept T_refusals) ++ (bX3 cI cJ cC a_n n_space n_beam n_door n_law n_used n_pipes n_drilled n_total n_open n_pipeInches n_pipeChances n_weights n_woods n_sums)) [0, 1] (by decide) rfl
          refine zci hA hDw hS (zrunV (As := [.int (-6 : Int32)]) (rest := []) S hK hA hE hPw hDw hS (mX4_refuse l D cI cJ cC G a_T a_n a_k a_t a_s a_r a_c _ T_isKept T_refusals (-6 : Int32) _ h) kX4_refuse ml_X4_51 ⟨rfl, rfl, by decide, by decide⟩ (q0 := 0) (ci := 4) rfl rfl rfl rfl hl.1 rfl (Nat.le_of_ble_eq_true rfl) dX4_covers_33 ⟨Nat.zero_le _, Nat.zero_le _⟩) (fun r_6 T_refusals_7 H locs h hP1 hk1 hS => ?_)
          try dsimp only at h
          have hP : va_P D vwCl ((bX4 cI cJ cC a_T a_n a_k a_t a_s a_r a_c T_isKept T_refusals_7) ++ (bX3 cI cJ cC a_n n_space n_beam n_door n_law n_used n_pipes n_drilled n_total n_open n_pipeInches n_pipeChances n_weights n_woods n_sums)) H := zMerge hP (hDD _ rfl) [0, 1] rfl rfl hk1 hP1
          exact hret r_6 T_refusals_7 _ _ _ _ rfl h hP hS dX4_covers_36
    · replace h := h.2 z
      refine lv_aload_n hx hb dX4_covers_9 rfl (lv_at hl 0 rfl) ?_
      refine lv_bipush (v := (-4 : Int32)) hx hb dX4_covers_10 (by decide) ?_
      have hPw : va_P D vwCl ((bX4 cI cJ cC a_T a_n a_k a_t a_s a_r a_c T_isKept T_refusals)) _ := hP.sub [0, 1] rfl
      have hDw : va_D A ((bX4 cI cJ cC a_T a_n a_k a_t a_s a_r a_c T_isKept T_refusals)) := (hDD _ rfl).sub (ws := (bX4 cI cJ cC a_T a_n a_k a_t a_s a_r a_c T_isKept T_refusals) ++ (bX3 cI cJ cC a_n n_space n_beam n_door n_law n_used n_pipes n_drilled n_total n_open n_pipeInches n_pipeChances n_weights n_woods n_sums)) [0, 1] (by decide) rfl
      refine zci hA hDw hS (zrunV (As := [.int (-4 : Int32)]) (rest := []) S hK hA hE hPw hDw hS (mX4_refuse l D cI cJ cC G a_T a_n a_k a_t a_s a_r a_c _ T_isKept T_refusals (-4 : Int32) _ h) kX4_refuse ml_X4_51 ⟨rfl, rfl, by decide, by decide⟩ (q0 := 0) (ci := 4) rfl rfl rfl rfl hl.1 rfl (Nat.le_of_ble_eq_true rfl) dX4_covers_12 ⟨Nat.zero_le _, Nat.zero_le _⟩) (fun r_8 T_refusals_9 H locs h hP1 hk1 hS => ?_)
      try dsimp only at h
      have hP : va_P D vwCl ((bX4 cI cJ cC a_T a_n a_k a_t a_s a_r a_c T_isKept T_refusals_9) ++ (bX3 cI cJ cC a_n n_space n_beam n_door n_law n_used n_pipes n_drilled n_total n_open n_pipeInches n_pipeChances n_weights n_woods n_sums)) H := zMerge hP (hDD _ rfl) [0, 1] rfl rfl hk1 hP1
      exact hret r_8 T_refusals_9 _ _ _ _ rfl h hP hS dX4_covers_15
def lpX4_hang_37 (K : Int32 → Int32 → Int64 → Int32 → Prop) (x1 : Int32) (n_drilled : Int64) (n_sums : Nat → Int64) : Nat → Int32 → Int32 → Int64 → Int32 → Prop
  | 0, _, _, _, _ => False
  | n + 1, x2, x3, x4, x6 => ((((48 : Int32) - x1) < x6 → (K x2 x3 x4 x6)) ∧ (¬ (((48 : Int32) - x1) < x6) → (wpX3_holesWithin (fun (r_1 : Int32) => wpX3_likeliest (fun (r_2 : Int32) => vp_in r_2 48 ∧ (((x3 < r_1 → (lpX4_hang_37 K x1 n_drilled n_sums n x6 r_1 (n_sums r_2.toNatClampNeg) (x6 + (1 : Int32)))) ∧ (¬ (x3 < r_1) → (((r_1 = x3 → ((((n_sums r_2.toNatClampNeg) ≤ x4 → (lpX4_hang_37 K x1 n_drilled n_sums n x2 x3 x4 (x6 + (1 : Int32)))) ∧ (¬ ((n_sums r_2.toNatClampNeg) ≤ x4) → (lpX4_hang_37 K x1 n_drilled n_sums n x6 r_1 (n_sums r_2.toNatClampNeg) (x6 + (1 : Int32))))))) ∧ (¬ (r_1 = x3) → (lpX4_hang_37 K x1 n_drilled n_sums n x2 x3 x4 (x6 + (1 : Int32)))))))))) n_sums x6 (x6 + x1)) n_drilled x6 x1)))
set_option maxHeartbeats 4000000 in
set_option maxRecDepth 100000 in
theorem wX4_hang_37 (l : Launch) (D : va_G) (cI cJ cC : ClassId) (G : Nat → Nat → Nat) (a_T : Nat → Nat) (a_n : Nat → Nat) (a_k : Nat → Nat) (a_t : Nat → Nat) (a_s : Nat → Nat) (a_r : Nat → Nat) (a_c : Nat → Nat) {p : Program} {e : Env} {s : State} {m : MethodId} {below : List Frame} {meth : Method} {c : Code} {A : Nat → Prop} {Q : State → Prop} (p1 : Int32) (x1 : Int32) (T_isKept : Int32) (T_refusals : Nat → Int32) (n_space : Int32) (n_beam : Int32) (n_door : Int32) (n_law : Int32) (n_used : Int32) (n_pipes : Int32) (n_drilled : Int64) (n_total : Int64) (n_open : Int32) (n_pipeInches : Nat → Int32) (n_pipeChances : Nat → Int32) (n_weights : Nat → Int64) (n_woods : Nat → Int32) (n_sums : Nat → Int64) (K : Int32 → Int32 → Int64 → Int32 → Prop) (S : CallFix p m c cX4_hang 10 s ([.ref (a_T 0), .int p1] : List Value).toArray bg RX4) (hK : va_K D vwCl (tz cI cJ cC) s) (hDD : ∀ ws : va_W, ws.map (fun q => q.1) = [a_T 0, a_T 1, a_n 0, a_n 1, a_n 2, a_n 3, a_n 4, a_n 5] → va_D A ws) (hA : ∀ q, s.heap.size ≤ q → A q) (hE : EV G A s) (hKK : ∀ (x2 : Int32) (x3 : Int32) (x4 : Int64) (x6 : Int32) (H : Heap) (locs : List Loc) (ls : Array Slot), K x2 x3 x4 x6 → va_P D vwCl ((bX4 cI cJ cC a_T a_n a_k a_t a_s a_r a_c T_isKept T_refusals) ++ (bX3 cI cJ cC a_n n_space n_beam n_door n_law n_used n_pipes n_drilled n_total n_open n_pipeInches n_pipeChances n_weights n_woods n_sums)) H → va_S A s.heap H locs → lv_has ls 10 [(2, .int x2)] → W p l e ({ frames := 2, cells := 0, slots := 0, locals := 45 }) s m ([.ref (a_T 0), .int p1] : List Value).toArray below meth c H locs 0 0 Q (F0 m 117 ls [])) :
    ∀ (n : Nat) (x2 : Int32) (x3 : Int32) (x4 : Int64) (x6 : Int32) (H : Heap) (locs : List Loc) (ls : Array Slot), lpX4_hang_37 K x1 n_drilled n_sums n x2 x3 x4 x6 → va_P D vwCl ((bX4 cI cJ cC a_T a_n a_k a_t a_s a_r a_c T_isKept T_refusals) ++ (bX3 cI cJ cC a_n n_space n_beam n_door n_law n_used n_pipes n_drilled n_total n_open n_pipeInches n_pipeChances n_weights n_woods n_sums)) H → va_S A s.heap H locs → lv_has ls 10 [(0, .ref (a_T 0)), (1, .int x1), (2, .int x2), (3, .int x3), (4, .long x4), (6, .int x6)] → W p l e ({ frames := 2, cells := 0, slots := 0, locals := 45 }) s m ([.ref (a_T 0), .int p1] : List Value).toArray below meth c H locs 0 0 Q (F0 m 37 ls []) := by
  obtain ⟨hx, hb, hml, hown, ht⟩ := id S
  intro n
  induction n with
  | zero =>
    intro x2 x3 x4 x6 H locs ls h
    exact absurd h (by simp [lpX4_hang_37])
  | succ n ih =>
    intro x2 x3 x4 x6 H locs ls h hP hS hl
    rw [lpX4_hang_37] at h
    refine lv_iload hx hb dX4_hang_37 (lv_at hl 5 rfl) ?_
    refine lv_bipush (v := (48 : Int32)) hx hb dX4_hang_39 (by decide) ?_
    refine lv_iload_n hx hb dX4_hang_41 rfl (lv_at hl 1 rfl) ?_
    refine lv_isub hx hb dX4_hang_42 ?_
    refine lv_icmp_gt (tgt := 117) hx hb dX4_hang_43 (by decide) (fun z => ?_) (fun z => ?_)
    · replace h := h.1 z
      exact hKK x2 x3 x4 x6 _ _ _ h hP hS (lv_sub hl [2] rfl)
    · replace h := h.2 z
      refine lv_aload_n hx hb dX4_hang_46 rfl (lv_at hl 0 rfl) ?_
      refine va_get (D := D) (ci := 4) (v := .ref (a_n 0)) (C := RX4) (T := TX4) (N := 8) hx hb ht inX4 hown hK hP 0 rfl rfl 0 (by decide) (ht _ fl_X4_10) (fun _ h9 => h9) rfl dX4_hang_47 ?_
      refine lv_iload hx hb dX4_hang_50 (lv_at hl 5 rfl) ?_
      refine lv_iload_n hx hb dX4_hang_52 rfl (lv_at hl 1 rfl) ?_
      have hPw : va_P D vwCl ((bX3 cI cJ cC a_n n_space n_beam n_door n_law n_used n_pipes n_drilled n_total n_open n_pipeInches n_pipeChances n_weights n_woods n_sums)) _ := hP.sub [2, 3, 4, 5, 6, 7] rfl
      have hDw : va_D A ((bX3 cI cJ cC a_n n_space n_beam n_door n_law n_used n_pipes n_drilled n_total n_open n_pipeInches n_pipeChances n_weights n_woods n_sums)) := (hDD _ rfl).sub (ws := (bX4 cI cJ cC a_T a_n a_k a_t a_s a_r a_c T_isKept T_refusals) ++ (bX3 cI cJ cC a_n n_space n_beam n_door n_law n_used n_pipes n_drilled n_total n_open n_pipeInches n_pipeChances n_weights n_woods n_sums)) [2, 3, 4, 5, 6, 7] (by decide) rfl
      refine zci hA hDw hS (zrunV (As := [.int x6, .int x1]) (rest := []) S hK hA hE hPw hDw hS (mX3_holesWithin l D cI cJ cC G a_n _ n_space n_beam n_door n_law n_used n_pipes n_drilled n_total n_open n_pipeInches n_pipeChances n_weights n_woods n_sums x6 x1 _ h) kX3_holesWithin ml_X4_160 ⟨rfl, rfl, by decide, by decide⟩ (q0 := 0) (ci := 3) rfl rfl rfl rfl hl.1 rfl (Nat.le_of_ble_eq_true rfl) dX4_hang_53 ⟨Nat.zero_le _, Nat.zero_le _⟩) (fun r_1 u H locs h hP1 hk1 hS => ?_)
      try dsimp only at h
      have hP : va_P D vwCl ((bX4 cI cJ cC a_T a_n a_k a_t a_s a_r a_c T_isKept T_refusals) ++ (bX3 cI cJ cC a_n n_space n_beam n_door n_law n_used n_pipes n_drilled n_total n_open n_pipeInches n_pipeChances n_weights n_woods n_sums)) H := zMerge hP (hDD _ rfl) [2, 3, 4, 5, 6, 7] rfl rfl hk1 hP1
      refine lv_istore (lv' := [(7, .int r_1), (0, .ref (a_T 0)), (1, .int x1), (2, .int x2), (3, .int x3), (4, .long x4), (6, .int x6)]) hx hb dX4_hang_56 hl (by decide) rfl (fun ls hl => ?_)
      refine lv_aload_n hx hb dX4_hang_58 rfl (lv_at hl 1 rfl) ?_
      refine va_get (D := D) (ci := 4) (v := .ref (a_n 0)) (C := RX4) (T := TX4) (N := 8) hx hb ht inX4 hown hK hP 0 rfl rfl 0 (by decide) (ht _ fl_X4_10) (fun _ h9 => h9) rfl dX4_hang_59 ?_
      refine va_get (D := D) (ci := 3) (v := .ref (a_n 5)) (C := RX3) (T := TX3) (N := 14) hx hb ht inX3 hown hK hP 2 rfl rfl 11 (by decide) (ht _ fl_X4_176) (fun _ h9 => h9) rfl dX4_hang_62 ?_
      refine lv_aload_n hx hb dX4_hang_65 rfl (lv_at hl 1 rfl) ?_
      refine va_get (D := D) (ci := 4) (v := .ref (a_n 0)) (C := RX4) (T := TX4) (N := 8) hx hb ht inX4 hown hK hP 0 rfl rfl 0 (by decide) (ht _ fl_X4_10) (fun _ h9 => h9) rfl dX4_hang_66 ?_
      refine lv_iload hx hb dX4_hang_69 (lv_at hl 6 rfl) ?_
      refine lv_iload hx hb dX4_hang_71 (lv_at hl 6 rfl) ?_
      refine lv_iload_n hx hb dX4_hang_73 rfl (lv_at hl 2 rfl) ?_
      refine lv_iadd hx hb dX4_hang_74 ?_
      have hPw : va_P D vwCl ((bX3 cI cJ cC a_n n_space n_beam n_door n_law n_used n_pipes n_drilled n_total n_open n_pipeInches n_pipeChances n_weights n_woods n_sums)) _ := hP.sub [2, 3, 4, 5, 6, 7] rfl
      have hDw : va_D A ((bX3 cI cJ cC a_n n_space n_beam n_door n_law n_used n_pipes n_drilled n_total n_open n_pipeInches n_pipeChances n_weights n_woods n_sums)) := (hDD _ rfl).sub (ws := (bX4 cI cJ cC a_T a_n a_k a_t a_s a_r a_c T_isKept T_refusals) ++ (bX3 cI cJ cC a_n n_space n_beam n_door n_law n_used n_pipes n_drilled n_total n_open n_pipeInches n_pipeChances n_weights n_woods n_sums)) [2, 3, 4, 5, 6, 7] (by decide) rfl
      refine zci hA hDw hS (zrunV (As := [.int x6, .int (x6 + x1)]) (rest := [.ref (a_n 5)]) S hK hA hE hPw hDw hS (mX3_likeliest l D cI cJ cC G a_n _ n_space n_beam n_door n_law n_used n_pipes n_drilled n_total n_open n_pipeInches n_pipeChances n_weights n_woods n_sums x6 (x6 + x1) _ h) kX3_likeliest ml_X4_189 ⟨rfl, rfl, by decide, by decide⟩ (q0 := 0) (ci := 3) rfl rfl rfl rfl hl.1 rfl (Nat.le_of_ble_eq_true rfl) dX4_hang_75 ⟨Nat.zero_le _, Nat.zero_le _⟩) (fun r_2 u H locs h hP1 hk1 hS => ?_)
      try dsimp only at h
      have hP : va_P D vwCl ((bX4 cI cJ cC a_T a_n a_k a_t a_s a_r a_c T_isKept T_refusals) ++ (bX3 cI cJ cC a_n n_space n_beam n_door n_law n_used n_pipes n_drilled n_total n_open n_pipeInches n_pipeChances n_weights n_woods n_sums)) H := zMerge hP (hDD _ rfl) [2, 3, 4, 5, 6, 7] rfl rfl hk1 hP1
      obtain ⟨hin, h⟩ := h
      refine va_lald hx hb hK hP 7 1 rfl rfl hin dX4_hang_78 ?_
      refine lv_lstore (lv' := [(8, .long (n_sums r_2.toNatClampNeg)), (7, .int r_1), (0, .ref (a_T 0)), (1, .int x1), (2, .int x2), (3, .int x3), (4, .long x4), (6, .int x6)]) hx hb dX4_hang_79 hl (by decide) rfl (fun ls hl => ?_)
      refine lv_iload hx hb dX4_hang_81 (lv_at hl 1 rfl) ?_
      refine lv_iload_n hx hb dX4_hang_83 rfl (lv_at hl 5 rfl) ?_
      refine lv_icmp_gt (tgt := 101) hx hb dX4_hang_84 (by decide) (fun z => ?_) (fun z => ?_)
      · replace h := h.1 z
        refine lv_iload hx hb dX4_hang_101 (lv_at hl 7 rfl) ?_
        refine lv_istore_n (lv' := [(2, .int x6), (8, .long (n_sums r_2.toNatClampNeg)), (7, .int r_1), (0, .ref (a_T 0)), (1, .int x1), (3, .int x3), (4, .long x4), (6, .int x6)]) hx hb dX4_hang_103 rfl hl (by decide) rfl (fun ls hl => ?_)
        refine lv_iload hx hb dX4_hang_104 (lv_at hl 2 rfl) ?_
        refine lv_istore_n (lv' := [(3, .int r_1), (2, .int x6), (8, .long (n_sums r_2.toNatClampNeg)), (7, .int r_1), (0, .ref (a_T 0)), (1, .int x1), (4, .long x4), (6, .int x6)]) hx hb dX4_hang_106 rfl hl (by decide) rfl (fun ls hl => ?_)
        refine lv_lload hx hb dX4_hang_107 (lv_at hl 2 rfl) ?_
        refine lv_lstore (lv' := [(4, .long (n_sums r_2.toNatClampNeg)), (3, .int r_1), (2, .int x6), (8, .long (n_sums r_2.toNatClampNeg)), (7, .int r_1), (0, .ref (a_T 0)), (1, .int x1), (6, .int x6)]) hx hb dX4_hang_109 hl (by decide) rfl (fun ls hl => ?_)
        refine lv_iinc (v := x6 + (1 : Int32)) (lv' := [(6, .int (x6 + (1 : Int32))), (4, .long (n_sums r_2.toNatClampNeg)), (3, .int r_1), (2, .int x6), (8, .long (n_sums r_2.toNatClampNeg)), (7, .int r_1), (0, .ref (a_T 0)), (1, .int x1)]) hx hb dX4_hang_111 hl (k := 7) rfl (by rfl) (by decide) rfl (fun ls hl => ?_)
        refine lv_goto (tgt := 37) hx hb dX4_hang_114 (by decide) ?_
        exact ih x6 r_1 (n_sums r_2.toNatClampNeg) (x6 + (1 : Int32)) _ _ _ h hP hS (lv_sub hl [6, 7, 3, 2, 1, 0] rfl)
      · replace h := h.2 z
        refine lv_iload hx hb dX4_hang_87 (lv_at hl 1 rfl) ?_
        refine lv_iload_n hx hb dX4_hang_89 rfl (lv_at hl 5 rfl) ?_
        refine lv_icmp_ne (tgt := 111) hx hb dX4_hang_90 (by decide) (fun z => ?_) (fun z => ?_)
        · replace h := h.2 z
          refine lv_iinc (v := x6 + (1 : Int32)) (lv' := [(6, .int (x6 + (1 : Int32))), (8, .long (n_sums r_2.toNatClampNeg)), (7, .int r_1), (0, .ref (a_T 0)), (1, .int x1), (2, .int x2), (3, .int x3), (4, .long x4)]) hx hb dX4_hang_111 hl (k := 7) rfl (by rfl) (by decide) rfl (fun ls hl => ?_)
          refine lv_goto (tgt := 37) hx hb dX4_hang_114 (by decide) ?_
          exact ih x2 x3 x4 (x6 + (1 : Int32)) _ _ _ h hP hS (lv_sub hl [3, 4, 5, 6, 7, 0] rfl)
        · replace h := h.1 z
          refine lv_lload hx hb dX4_hang_93 (lv_at hl 0 rfl) ?_
          refine lv_lload hx hb dX4_hang_95 (lv_at hl 6 rfl) ?_
          refine W.lcmp hx hb dX4_hang_97 ?_
          refine lv_if_le (tgt := 111) hx hb dX4_hang_98 (by decide) (fun z => ?_) (fun z => ?_)
          · replace h := h.1 (zl_le.mp z)
            refine lv_iinc (v := x6 + (1 : Int32)) (lv' := [(6, .int (x6 + (1 : Int32))), (8, .long (n_sums r_2.toNatClampNeg)), (7, .int r_1), (0, .ref (a_T 0)), (1, .int x1), (2, .int x2), (3, .int x3), (4, .long x4)]) hx hb dX4_hang_111 hl (k := 7) rfl (by rfl) (by decide) rfl (fun ls hl => ?_)
            refine lv_goto (tgt := 37) hx hb dX4_hang_114 (by decide) ?_
            exact ih x2 x3 x4 (x6 + (1 : Int32)) _ _ _ h hP hS (lv_sub hl [3, 4, 5, 6, 7, 0] rfl)
          · replace h := h.2 (fun q => z (zl_le.mpr q))
            refine lv_iload hx hb dX4_hang_101 (lv_at hl 7 rfl) ?_
            refine lv_istore_n (lv' := [(2, .int x6), (8, .long (n_sums r_2.toNatClampNeg)), (7, .int r_1), (0, .ref (a_T 0)), (1, .int x1), (3, .int x3), (4, .long x4), (6, .int x6)]) hx hb dX4_hang_103 rfl hl (by decide) rfl (fun ls hl => ?_)
            refine lv_iload hx hb dX4_hang_104 (lv_at hl 2 rfl) ?_
            refine lv_istore_n (lv' := [(3, .int r_1), (2, .int x6), (8, .long (n_sums r_2.toNatClampNeg)), (7, .int r_1), (0, .ref (a_T 0)), (1, .int x1), (4, .long x4), (6, .int x6)]) hx hb dX4_hang_106 rfl hl (by decide) rfl (fun ls hl => ?_)
            refine lv_lload hx hb dX4_hang_107 (lv_at hl 2 rfl) ?_
            refine lv_lstore (lv' := [(4, .long (n_sums r_2.toNatClampNeg)), (3, .int r_1), (2, .int x6), (8, .long (n_sums r_2.toNatClampNeg)), (7, .int r_1), (0, .ref (a_T 0)), (1, .int x1), (6, .int x6)]) hx hb dX4_hang_109 hl (by decide) rfl (fun ls hl => ?_)
            refine lv_iinc (v := x6 + (1 : Int32)) (lv' := [(6, .int (x6 + (1 : Int32))), (4, .long (n_sums r_2.toNatClampNeg)), (3, .int r_1), (2, .int x6), (8, .long (n_sums r_2.toNatClampNeg)), (7, .int r_1), (0, .ref (a_T 0)), (1, .int x1)]) hx hb dX4_hang_111 hl (k := 7) rfl (by rfl) (by decide) rfl (fun ls hl => ?_)
            refine lv_goto (tgt := 37) hx hb dX4_hang_114 (by decide) ?_
            exact ih x6 r_1 (n_sums r_2.toNatClampNeg) (x6 + (1 : Int32)) _ _ _ h hP hS (lv_sub hl [6, 7, 3, 2, 1, 0] rfl)
def wpX4_hang (post : Int32 → (Nat → Int32) → Prop) (T_refusals : Nat → Int32) (n_drilled : Int64) (n_sums : Nat → Int64) (p1 : Int32) : Prop := (((1 : Int32) ≤ p1 → (((p1 ≤ (40 : Int32) → (∃ n_3 : Nat, lpX4_hang_37 (fun (x2_4 : Int32) (x3_5 : Int32) (x4_6 : Int64) (x6_7 : Int32) => post x2_4 T_refusals) p1 n_drilled n_sums n_3 (0 : Int32) (-1 : Int32) (-1 : Int64) (0 : Int32))) ∧ (¬ (p1 ≤ (40 : Int32)) → (wpX4_refuse (fun (r_8 : Int32) (T_refusals_9 : Nat → Int32) => post r_8 T_refusals_9) T_refusals (-6 : Int32)))))) ∧ (¬ ((1 : Int32) ≤ p1) → (wpX4_refuse (fun (r_10 : Int32) (T_refusals_11 : Nat → Int32) => post r_10 T_refusals_11) T_refusals (-4 : Int32))))
set_option maxHeartbeats 4000000 in
set_option maxRecDepth 100000 in
theorem mX4_hang (l : Launch) (D : va_G) (cI cJ cC : ClassId) (G : Nat → Nat → Nat) (a_T : Nat → Nat) (a_n : Nat → Nat) (a_k : Nat → Nat) (a_t : Nat → Nat) (a_s : Nat → Nat) (a_r : Nat → Nat) (a_c : Nat → Nat) (sz : Nat) (T_isKept : Int32) (T_refusals : Nat → Int32) (n_space : Int32) (n_beam : Int32) (n_door : Int32) (n_law : Int32) (n_used : Int32) (n_pipes : Int32) (n_drilled : Int64) (n_total : Int64) (n_open : Int32) (n_pipeInches : Nat → Int32) (n_pipeChances : Nat → Int32) (n_weights : Nat → Int64) (n_woods : Nat → Int32) (n_sums : Nat → Int64) (p1 : Int32) (post : Int32 → (Nat → Int32) → Prop) (h : wpX4_hang post T_refusals n_drilled n_sums p1) : Met l yX4_hang (wz yX4_hang cX4_hang 10 (some .int)) ({ frames := 2, cells := 0, slots := 0, locals := 45 }) (va_Pc [.ref (a_T 0), .int p1] (PW D (tz cI cJ cC) G ((bX4 cI cJ cC a_T a_n a_k a_t a_s a_r a_c T_isKept T_refusals) ++ (bX3 cI cJ cC a_n n_space n_beam n_door n_law n_used n_pipes n_drilled n_total n_open n_pipeInches n_pipeChances n_weights n_woods n_sums)) sz)) (va_Qi (fun (r : Int32) (u : (Nat → Int32)) => post r u) (fun (u : (Nat → Int32)) t => va_P D vwCl ((bX4 cI cJ cC a_T a_n a_k a_t a_s a_r a_c T_isKept u) ++ (bX3 cI cJ cC a_n n_space n_beam n_door n_law n_used n_pipes n_drilled n_total n_open n_pipeInches n_pipeChances n_weights n_woods n_sums)) t.heap) (va_A ((bX4 cI cJ cC a_T a_n a_k a_t a_s a_r a_c T_isKept T_refusals) ++ (bX3 cI cJ cC a_n n_space n_beam n_door n_law n_used n_pipes n_drilled n_total n_open n_pipeInches n_pipeChances n_weights n_woods n_sums)) sz)) 0 0 (va_A ((bX4 cI cJ cC a_T a_n a_k a_t a_s a_r a_c T_isKept T_refusals) ++ (bX3 cI cJ cC a_n n_space n_beam n_door n_law n_used n_pipes n_drilled n_total n_open n_pipeInches n_pipeChances n_weights n_woods n_sums)) sz) := by
  refine zmi (gw := fun (u : (Nat → Int32)) => (bX4 cI cJ cC a_T a_n a_k a_t a_s a_r a_c T_isKept u) ++ (bX3 cI cJ cC a_n n_space n_beam n_door n_law n_used n_pipes n_drilled n_total n_open n_pipeInches n_pipeChances n_weights n_woods n_sums)) (plainFor_of_name (by decide)) (Nat.le_of_ble_eq_true rfl) ?_
  intro p e s m below meth c A Q ls S hK hD hA hE hP hl hret
  obtain ⟨hx, hb, hml, hown, ht⟩ := id S
  have hS : va_S A s.heap s.heap [] := va_S.rf
  have hDD : ∀ ws : va_W, ws.map (fun q => q.1) = [a_T 0, a_T 1, a_n 0, a_n 1, a_n 2, a_n 3, a_n 4, a_n 5] → va_D A ws := fun ws hw => zD hD (hw.trans rfl)
  have hl : lv_has ls 10 [(0, .ref (a_T 0)), (1, .int p1)] := hl
  unfold wpX4_hang at h
  refine lv_iload_n hx hb dX4_hang_0 rfl (lv_at hl 1 rfl) ?_
  refine lv_iconst (v := (1 : Int32)) hx hb dX4_hang_1 (by decide) ?_
  refine lv_icmp_ge (tgt := 12) hx hb dX4_hang_2 (by decide) (fun z => ?_) (fun z => ?_)
  · replace h := h.1 z
    refine lv_iload_n hx hb dX4_hang_12 rfl (lv_at hl 1 rfl) ?_
    refine lv_bipush (v := (40 : Int32)) hx hb dX4_hang_13 (by decide) ?_
    refine lv_icmp_le (tgt := 25) hx hb dX4_hang_15 (by decide) (fun z => ?_) (fun z => ?_)
    · replace h := h.1 z
      refine lv_iconst (v := (0 : Int32)) hx hb dX4_hang_25 (by decide) ?_
      refine lv_istore_n (lv' := [(2, .int (0 : Int32)), (0, .ref (a_T 0)), (1, .int p1)]) hx hb dX4_hang_26 rfl hl (by decide) rfl (fun ls hl => ?_)
      refine lv_iconst (v := (-1 : Int32)) hx hb dX4_hang_27 (by decide) ?_
      refine lv_istore_n (lv' := [(3, .int (-1 : Int32)), (2, .int (0 : Int32)), (0, .ref (a_T 0)), (1, .int p1)]) hx hb dX4_hang_28 rfl hl (by decide) rfl (fun ls hl => ?_)
      refine lv_ldc2 hx hb hown (ht _ kc_X4_213) dX4_hang_29 ?_
      refine lv_lstore (lv' := [(4, .long (-1 : Int64)), (3, .int (-1 : Int32)), (2, .int (0 : Int32)), (0, .ref (a_T 0)), (1, .int p1)]) hx hb dX4_hang_32 hl (by decide) rfl (fun ls hl => ?_)
      refine lv_iconst (v := (0 : Int32)) hx hb dX4_hang_34 (by decide) ?_
      refine lv_istore (lv' := [(6, .int (0 : Int32)), (4, .long (-1 : Int64)), (3, .int (-1 : Int32)), (2, .int (0 : Int32)), (0, .ref (a_T 0)), (1, .int p1)]) hx hb dX4_hang_35 hl (by decide) rfl (fun ls hl => ?_)
      obtain ⟨n_3, h⟩ := h
      refine wX4_hang_37 l D cI cJ cC G a_T a_n a_k a_t a_s a_r a_c p1 p1 T_isKept T_refusals n_space n_beam n_door n_law n_used n_pipes n_drilled n_total n_open n_pipeInches n_pipeChances n_weights n_woods n_sums _ S hK hDD hA hE (fun x2_4 x3_5 x4_6 x6_7 H locs ls h hP hS hl => ?_) n_3 (0 : Int32) (-1 : Int32) (-1 : Int64) (0 : Int32) _ _ _ h hP hS (lv_sub hl [4, 5, 3, 2, 1, 0] rfl)
      try dsimp only at h
      refine lv_iload_n hx hb dX4_hang_117 rfl (lv_at hl 0 rfl) ?_
      exact hret x2_4 T_refusals _ _ _ _ rfl h hP hS dX4_hang_118
    · replace h := h.2 z
      refine lv_aload_n hx hb dX4_hang_18 rfl (lv_at hl 0 rfl) ?_
      refine lv_bipush (v := (-6 : Int32)) hx hb dX4_hang_19 (by decide) ?_
      have hPw : va_P D vwCl ((bX4 cI cJ cC a_T a_n a_k a_t a_s a_r a_c T_isKept T_refusals)) _ := hP.sub [0, 1] rfl
      have hDw : va_D A ((bX4 cI cJ cC a_T a_n a_k a_t a_s a_r a_c T_isKept T_refusals)) := (hDD _ rfl).sub (ws := (bX4 cI cJ cC a_T a_n a_k a_t a_s a_r a_c T_isKept T_refusals) ++ (bX3 cI cJ cC a_n n_space n_beam n_door n_law n_used n_pipes n_drilled n_total n_open n_pipeInches n_pipeChances n_weights n_woods n_sums)) [0, 1] (by decide) rfl
      refine zci hA hDw hS (zrunV (As := [.int (-6 : Int32)]) (rest := []) S hK hA hE hPw hDw hS (mX4_refuse l D cI cJ cC G a_T a_n a_k a_t a_s a_r a_c _ T_isKept T_refusals (-6 : Int32) _ h) kX4_refuse ml_X4_51 ⟨rfl, rfl, by decide, by decide⟩ (q0 := 0) (ci := 4) rfl rfl rfl rfl hl.1 rfl (Nat.le_of_ble_eq_true rfl) dX4_hang_21 ⟨Nat.zero_le _, Nat.zero_le _⟩) (fun r_8 T_refusals_9 H locs h hP1 hk1 hS => ?_)
      try dsimp only at h
      have hP : va_P D vwCl ((bX4 cI cJ cC a_T a_n a_k a_t a_s a_r a_c T_isKept T_refusals_9) ++ (bX3 cI cJ cC a_n n_space n_beam n_door n_law n_used n_pipes n_drilled n_total n_open n_pipeInches n_pipeChances n_weights n_woods n_sums)) H := zMerge hP (hDD _ rfl) [0, 1] rfl rfl hk1 hP1
      exact hret r_8 T_refusals_9 _ _ _ _ rfl h hP hS dX4_hang_24
  · replace h := h.2 z
    refine lv_aload_n hx hb dX4_hang_5 rfl (lv_at hl 0 rfl) ?_
    refine lv_bipush (v := (-4 : Int32)) hx hb dX4_hang_6 (by decide) ?_
    have hPw : va_P D vwCl ((bX4 cI cJ cC a_T a_n a_k a_t a_s a_r a_c T_isKept T_refusals)) _ := hP.sub [0, 1] rfl
    have hDw : va_D A ((bX4 cI cJ cC a_T a_n a_k a_t a_s a_r a_c T_isKept T_refusals)) := (hDD _ rfl).sub (ws := (bX4 cI cJ cC a_T a_n a_k a_t a_s a_r a_c T_isKept T_refusals) ++ (bX3 cI cJ cC a_n n_space n_beam n_door n_law n_used n_pipes n_drilled n_total n_open n_pipeInches n_pipeChances n_weights n_woods n_sums)) [0, 1] (by decide) rfl
    refine zci hA hDw hS (zrunV (As := [.int (-4 : Int32)]) (rest := []) S hK hA hE hPw hDw hS (mX4_refuse l D cI cJ cC G a_T a_n a_k a_t a_s a_r a_c _ T_isKept T_refusals (-4 : Int32) _ h) kX4_refuse ml_X4_51 ⟨rfl, rfl, by decide, by decide⟩ (q0 := 0) (ci := 4) rfl rfl rfl rfl hl.1 rfl (Nat.le_of_ble_eq_true rfl) dX4_hang_8 ⟨Nat.zero_le _, Nat.zero_le _⟩) (fun r_10 T_refusals_11 H locs h hP1 hk1 hS => ?_)
    try dsimp only at h
    have hP : va_P D vwCl ((bX4 cI cJ cC a_T a_n a_k a_t a_s a_r a_c T_isKept T_refusals_11) ++ (bX3 cI cJ cC a_n n_space n_beam n_door n_law n_used n_pipes n_drilled n_total n_open n_pipeInches n_pipeChances n_weights n_woods n_sums)) H := zMerge hP (hDD _ rfl) [0, 1] rfl rfl hk1 hP1
    exact hret r_10 T_refusals_11 _ _ _ _ rfl h hP hS dX4_hang_11
def wpJ9_abs_0f7a4 (post : Int32 → Prop) (p0 : Int32) : Prop := (((0 : Int32) ≤ p0 → (post p0)) ∧ (¬ ((0 : Int32) ≤ p0) → (post (-p0))))
set_option maxHeartbeats 4000000 in
set_option maxRecDepth 100000 in
theorem mJ9_abs_0f7a4 (l : Launch) (D : va_G) (cI cJ cC : ClassId) (G : Nat → Nat → Nat) (sz : Nat) (p0 : Int32) (post : Int32 → Prop) (h : wpJ9_abs_0f7a4 post p0) : Met l yJ9_abs_0f7a4 (wz yJ9_abs_0f7a4 cJ9_abs_0f7a4 1 (some .int)) ({ frames := 0, cells := 0, slots := 0, locals := 0 }) (va_Pc [.int p0] (PW D (tz cI cJ cC) G ([]) sz)) (va_Qi (fun (r : Int32) (u : Unit) => post r ) (fun (u : Unit) t => va_P D vwCl ([]) t.heap) (va_A ([]) sz)) 0 0 (va_A ([]) sz) := by
  refine zmi (gw := fun (u : Unit) => []) (by decide +kernel) (Nat.le_of_ble_eq_true rfl) ?_
  intro p e s m below meth c A Q ls S hK hD hA hE hP hl hret
  obtain ⟨hx, hb, hml, hown, ht⟩ := id S
  have hS : va_S A s.heap s.heap [] := va_S.rf
  have hDD : ∀ ws : va_W, ws.map (fun q => q.1) = [] → va_D A ws := fun ws hw => zD hD (hw.trans rfl)
  have hl : lv_has ls 1 [(0, .int p0)] := hl
  unfold wpJ9_abs_0f7a4 at h
  refine lv_iload_n hx hb dJ9_abs_0f7a4_0 rfl (lv_at hl 0 rfl) ?_
  refine lv_if_ge (tgt := 9) hx hb dJ9_abs_0f7a4_1 (by decide) (fun z => ?_) (fun z => ?_)
  · replace h := h.1 z
    refine lv_iload_n hx hb dJ9_abs_0f7a4_9 rfl (lv_at hl 0 rfl) ?_
    exact hret p0 () _ _ _ _ rfl h hP hS dJ9_abs_0f7a4_10
  · replace h := h.2 z
    refine lv_iload_n hx hb dJ9_abs_0f7a4_4 rfl (lv_at hl 0 rfl) ?_
    refine lv_ineg hx hb dJ9_abs_0f7a4_5 ?_
    refine lv_goto (tgt := 10) hx hb dJ9_abs_0f7a4_6 (by decide) ?_
    exact hret (-p0) () _ _ _ _ rfl h hP hS dJ9_abs_0f7a4_10
def lpX4_middle_61 (K : Int32 → Int32 → Int32 → Prop) (x1 : Int32) (x2 : Int32) (x3 : Int32) (n_drilled : Int64) : Nat → Int32 → Int32 → Int32 → Prop
  | 0, _, _, _ => False
  | n + 1, x4, x5, x6 => ((((48 : Int32) - x1) < x6 → (K x4 x5 x6)) ∧ (¬ (((48 : Int32) - x1) < x6) → (wpJ9_abs_0f7a4 (fun (r_3 : Int32) => wpX3_holesWithin (fun (r_4 : Int32) => ((r_4 = x3 → (((x5 ≤ r_3 → (lpX4_middle_61 K x1 x2 x3 n_drilled n x4 x5 (x6 + (1 : Int32)))) ∧ (¬ (x5 ≤ r_3) → (lpX4_middle_61 K x1 x2 x3 n_drilled n x6 r_3 (x6 + (1 : Int32))))))) ∧ (¬ (r_4 = x3) → (lpX4_middle_61 K x1 x2 x3 n_drilled n x4 x5 (x6 + (1 : Int32)))))) n_drilled x6 x1) ((((2 : Int32) * x6) + x1) - ((2 : Int32) * x2)))))
set_option maxHeartbeats 4000000 in
set_option maxRecDepth 100000 in
theorem wX4_middle_61 (l : Launch) (D : va_G) (cI cJ cC : ClassId) (G : Nat → Nat → Nat) (a_T : Nat → Nat) (a_n : Nat → Nat) (a_k : Nat → Nat) (a_t : Nat → Nat) (a_s : Nat → Nat) (a_r : Nat → Nat) (a_c : Nat → Nat) {p : Program} {e : Env} {s : State} {m : MethodId} {below : List Frame} {meth : Method} {c : Code} {A : Nat → Prop} {Q : State → Prop} (p1 : Int32) (p2 : Int32) (x1 : Int32) (x2 : Int32) (x3 : Int32) (T_isKept : Int32) (T_refusals : Nat → Int32) (n_space : Int32) (n_beam : Int32) (n_door : Int32) (n_law : Int32) (n_used : Int32) (n_pipes : Int32) (n_drilled : Int64) (n_total : Int64) (n_open : Int32) (n_pipeInches : Nat → Int32) (n_pipeChances : Nat → Int32) (n_weights : Nat → Int64) (n_woods : Nat → Int32) (n_sums : Nat → Int64) (K : Int32 → Int32 → Int32 → Prop) (S : CallFix p m c cX4_middle 8 s ([.ref (a_T 0), .int p1, .int p2] : List Value).toArray bg RX4) (hK : va_K D vwCl (tz cI cJ cC) s) (hDD : ∀ ws : va_W, ws.map (fun q => q.1) = [a_T 0, a_T 1, a_n 0, a_n 1, a_n 2, a_n 3, a_n 4, a_n 5] → va_D A ws) (hA : ∀ q, s.heap.size ≤ q → A q) (hE : EV G A s) (hKK : ∀ (x4 : Int32) (x5 : Int32) (x6 : Int32) (H : Heap) (locs : List Loc) (ls : Array Slot), K x4 x5 x6 → va_P D vwCl ((bX4 cI cJ cC a_T a_n a_k a_t a_s a_r a_c T_isKept T_refusals) ++ (bX3 cI cJ cC a_n n_space n_beam n_door n_law n_used n_pipes n_drilled n_total n_open n_pipeInches n_pipeChances n_weights n_woods n_sums)) H → va_S A s.heap H locs → lv_has ls 8 [(4, .int x4)] → W p l e ({ frames := 2, cells := 0, slots := 0, locals := 45 }) s m ([.ref (a_T 0), .int p1, .int p2] : List Value).toArray below meth c H locs 0 0 Q (F0 m 120 ls [])) :
    ∀ (n : Nat) (x4 : Int32) (x5 : Int32) (x6 : Int32) (H : Heap) (locs : List Loc) (ls : Array Slot), lpX4_middle_61 K x1 x2 x3 n_drilled n x4 x5 x6 → va_P D vwCl ((bX4 cI cJ cC a_T a_n a_k a_t a_s a_r a_c T_isKept T_refusals) ++ (bX3 cI cJ cC a_n n_space n_beam n_door n_law n_used n_pipes n_drilled n_total n_open n_pipeInches n_pipeChances n_weights n_woods n_sums)) H → va_S A s.heap H locs → lv_has ls 8 [(0, .ref (a_T 0)), (1, .int x1), (2, .int x2), (3, .int x3), (4, .int x4), (5, .int x5), (6, .int x6)] → W p l e ({ frames := 2, cells := 0, slots := 0, locals := 45 }) s m ([.ref (a_T 0), .int p1, .int p2] : List Value).toArray below meth c H locs 0 0 Q (F0 m 61 ls []) := by
  obtain ⟨hx, hb, hml, hown, ht⟩ := id S
  intro n
  induction n with
  | zero =>
    intro x4 x5 x6 H locs ls h
    exact absurd h (by simp [lpX4_middle_61])
  | succ n ih =>
    intro x4 x5 x6 H locs ls h hP hS hl
    rw [lpX4_middle_61] at h
    refine lv_iload hx hb dX4_middle_61 (lv_at hl 6 rfl) ?_
    refine lv_bipush (v := (48 : Int32)) hx hb dX4_middle_63 (by decide) ?_
    refine lv_iload_n hx hb dX4_middle_65 rfl (lv_at hl 1 rfl) ?_
    refine lv_isub hx hb dX4_middle_66 ?_
    refine lv_icmp_gt (tgt := 120) hx hb dX4_middle_67 (by decide) (fun z => ?_) (fun z => ?_)
    · replace h := h.1 z
      exact hKK x4 x5 x6 _ _ _ h hP hS (lv_sub hl [4] rfl)
    · replace h := h.2 z
      refine lv_iconst (v := (2 : Int32)) hx hb dX4_middle_70 (by decide) ?_
      refine lv_iload hx hb dX4_middle_71 (lv_at hl 6 rfl) ?_
      refine lv_imul hx hb dX4_middle_73 ?_
      refine lv_iload_n hx hb dX4_middle_74 rfl (lv_at hl 1 rfl) ?_
      refine lv_iadd hx hb dX4_middle_75 ?_
      refine lv_iconst (v := (2 : Int32)) hx hb dX4_middle_76 (by decide) ?_
      refine lv_iload_n hx hb dX4_middle_77 rfl (lv_at hl 2 rfl) ?_
      refine lv_imul hx hb dX4_middle_78 ?_
      refine lv_isub hx hb dX4_middle_79 ?_
      refine zci hA zD0 hS (zrunS (As := [.int ((((2 : Int32) * x6) + x1) - ((2 : Int32) * x2))]) (rest := []) S hK hA hE zP0 zD0 hS (mJ9_abs_0f7a4 l D cI cJ cC G _ ((((2 : Int32) * x6) + x1) - ((2 : Int32) * x2)) _ h) kJ9_abs_0f7a4 ml_X4_215 ⟨rfl, rfl, by decide, by decide⟩ rfl hl.1 rfl (Nat.le_of_ble_eq_true rfl) dX4_middle_80 ⟨Nat.zero_le _, Nat.zero_le _⟩) (fun r_3 u H locs h hP1 hk1 hS => ?_)
      try dsimp only at h
      have hP : va_P D vwCl ((bX4 cI cJ cC a_T a_n a_k a_t a_s a_r a_c T_isKept T_refusals) ++ (bX3 cI cJ cC a_n n_space n_beam n_door n_law n_used n_pipes n_drilled n_total n_open n_pipeInches n_pipeChances n_weights n_woods n_sums)) H := zKeep hP hk1
      refine lv_istore (lv' := [(7, .int r_3), (0, .ref (a_T 0)), (1, .int x1), (2, .int x2), (3, .int x3), (4, .int x4), (5, .int x5), (6, .int x6)]) hx hb dX4_middle_83 hl (by decide) rfl (fun ls hl => ?_)
      refine lv_aload_n hx hb dX4_middle_85 rfl (lv_at hl 1 rfl) ?_
      refine va_get (D := D) (ci := 4) (v := .ref (a_n 0)) (C := RX4) (T := TX4) (N := 8) hx hb ht inX4 hown hK hP 0 rfl rfl 0 (by decide) (ht _ fl_X4_10) (fun _ h9 => h9) rfl dX4_middle_86 ?_
      refine lv_iload hx hb dX4_middle_89 (lv_at hl 7 rfl) ?_
      refine lv_iload_n hx hb dX4_middle_91 rfl (lv_at hl 2 rfl) ?_
      have hPw : va_P D vwCl ((bX3 cI cJ cC a_n n_space n_beam n_door n_law n_used n_pipes n_drilled n_total n_open n_pipeInches n_pipeChances n_weights n_woods n_sums)) _ := hP.sub [2, 3, 4, 5, 6, 7] rfl
      have hDw : va_D A ((bX3 cI cJ cC a_n n_space n_beam n_door n_law n_used n_pipes n_drilled n_total n_open n_pipeInches n_pipeChances n_weights n_woods n_sums)) := (hDD _ rfl).sub (ws := (bX4 cI cJ cC a_T a_n a_k a_t a_s a_r a_c T_isKept T_refusals) ++ (bX3 cI cJ cC a_n n_space n_beam n_door n_law n_used n_pipes n_drilled n_total n_open n_pipeInches n_pipeChances n_weights n_woods n_sums)) [2, 3, 4, 5, 6, 7] (by decide) rfl
      refine zci hA hDw hS (zrunV (As := [.int x6, .int x1]) (rest := []) S hK hA hE hPw hDw hS (mX3_holesWithin l D cI cJ cC G a_n _ n_space n_beam n_door n_law n_used n_pipes n_drilled n_total n_open n_pipeInches n_pipeChances n_weights n_woods n_sums x6 x1 _ h) kX3_holesWithin ml_X4_160 ⟨rfl, rfl, by decide, by decide⟩ (q0 := 0) (ci := 3) rfl rfl rfl rfl hl.1 rfl (Nat.le_of_ble_eq_true rfl) dX4_middle_92 ⟨Nat.zero_le _, Nat.zero_le _⟩) (fun r_4 u H locs h hP1 hk1 hS => ?_)
      try dsimp only at h
      have hP : va_P D vwCl ((bX4 cI cJ cC a_T a_n a_k a_t a_s a_r a_c T_isKept T_refusals) ++ (bX3 cI cJ cC a_n n_space n_beam n_door n_law n_used n_pipes n_drilled n_total n_open n_pipeInches n_pipeChances n_weights n_woods n_sums)) H := zMerge hP (hDD _ rfl) [2, 3, 4, 5, 6, 7] rfl rfl hk1 hP1
      refine lv_iload_n hx hb dX4_middle_95 rfl (lv_at hl 4 rfl) ?_
      refine lv_icmp_ne (tgt := 114) hx hb dX4_middle_96 (by decide) (fun z => ?_) (fun z => ?_)
      · replace h := h.2 z
        refine lv_iinc (v := x6 + (1 : Int32)) (lv' := [(6, .int (x6 + (1 : Int32))), (7, .int r_3), (0, .ref (a_T 0)), (1, .int x1), (2, .int x2), (3, .int x3), (4, .int x4), (5, .int x5)]) hx hb dX4_middle_114 hl (k := 7) rfl (by rfl) (by decide) rfl (fun ls hl => ?_)
        refine lv_goto (tgt := 61) hx hb dX4_middle_117 (by decide) ?_
        exact ih x4 x5 (x6 + (1 : Int32)) _ _ _ h hP hS (lv_sub hl [2, 3, 4, 5, 6, 7, 0] rfl)
      · replace h := h.1 z
        refine lv_iload hx hb dX4_middle_99 (lv_at hl 0 rfl) ?_
        refine lv_iload hx hb dX4_middle_101 (lv_at hl 6 rfl) ?_
        refine lv_icmp_ge (tgt := 114) hx hb dX4_middle_103 (by decide) (fun z => ?_) (fun z => ?_)
        · replace h := h.1 z
          refine lv_iinc (v := x6 + (1 : Int32)) (lv' := [(6, .int (x6 + (1 : Int32))), (7, .int r_3), (0, .ref (a_T 0)), (1, .int x1), (2, .int x2), (3, .int x3), (4, .int x4), (5, .int x5)]) hx hb dX4_middle_114 hl (k := 7) rfl (by rfl) (by decide) rfl (fun ls hl => ?_)
          refine lv_goto (tgt := 61) hx hb dX4_middle_117 (by decide) ?_
          exact ih x4 x5 (x6 + (1 : Int32)) _ _ _ h hP hS (lv_sub hl [2, 3, 4, 5, 6, 7, 0] rfl)
        · replace h := h.2 z
          refine lv_iload hx hb dX4_middle_106 (lv_at hl 7 rfl) ?_
          refine lv_istore (lv' := [(4, .int x6), (7, .int r_3), (0, .ref (a_T 0)), (1, .int x1), (2, .int x2), (3, .int x3), (5, .int x5), (6, .int x6)]) hx hb dX4_middle_108 hl (by decide) rfl (fun ls hl => ?_)
          refine lv_iload hx hb dX4_middle_110 (lv_at hl 1 rfl) ?_
          refine lv_istore (lv' := [(5, .int r_3), (4, .int x6), (7, .int r_3), (0, .ref (a_T 0)), (1, .int x1), (2, .int x2), (3, .int x3), (6, .int x6)]) hx hb dX4_middle_112 hl (by decide) rfl (fun ls hl => ?_)
          refine lv_iinc (v := x6 + (1 : Int32)) (lv' := [(6, .int (x6 + (1 : Int32))), (5, .int r_3), (4, .int x6), (7, .int r_3), (0, .ref (a_T 0)), (1, .int x1), (2, .int x2), (3, .int x3)]) hx hb dX4_middle_114 hl (k := 7) rfl (by rfl) (by decide) rfl (fun ls hl => ?_)
          refine lv_goto (tgt := 61) hx hb dX4_middle_117 (by decide) ?_
          exact ih x6 r_3 (x6 + (1 : Int32)) _ _ _ h hP hS (lv_sub hl [4, 5, 6, 7, 2, 1, 0] rfl)
def wpX4_middle (post : Int32 → (Nat → Int32) → Prop) (T_refusals : Nat → Int32) (n_drilled : Int64) (p1 : Int32) (p2 : Int32) : Prop := wpX4_isNoInch (fun (r_1 : Int32) => ((r_1 = (0 : Int32) → ((((1 : Int32) ≤ p1 → (((p1 ≤ (40 : Int32) → (wpJ13_bitCount_95d88 (fun (r_2 : Int32) => ∃ n_5 : Nat, lpX4_middle_61 (fun (x4_6 : Int32) (x5_7 : Int32) (x6_8 : Int32) => post x4_6 T_refusals) p1 p2 r_2 n_drilled n_5 (-9 : Int32) (192 : Int32) (0 : Int32)) n_drilled)) ∧ (¬ (p1 ≤ (40 : Int32)) → (wpX4_refuse (fun (r_9 : Int32) (T_refusals_10 : Nat → Int32) => post r_9 T_refusals_10) T_refusals (-6 : Int32)))))) ∧ (¬ ((1 : Int32) ≤ p1) → (wpX4_refuse (fun (r_11 : Int32) (T_refusals_12 : Nat → Int32) => post r_11 T_refusals_12) T_refusals (-4 : Int32)))))) ∧ (¬ (r_1 = (0 : Int32)) → (wpX4_refuse (fun (r_13 : Int32) (T_refusals_14 : Nat → Int32) => post r_13 T_refusals_14) T_refusals (-1 : Int32))))) p2
set_option maxHeartbeats 4000000 in
set_option maxRecDepth 100000 in
theorem mX4_middle (l : Launch) (D : va_G) (cI cJ cC : ClassId) (G : Nat → Nat → Nat) (a_T : Nat → Nat) (a_n : Nat → Nat) (a_k : Nat → Nat) (a_t : Nat → Nat) (a_s : Nat → Nat) (a_r : Nat → Nat) (a_c : Nat → Nat) (sz : Nat) (T_isKept : Int32) (T_refusals : Nat → Int32) (n_space : Int32) (n_beam : Int32) (n_door : Int32) (n_law : Int32) (n_used : Int32) (n_pipes : Int32) (n_drilled : Int64) (n_total : Int64) (n_open : Int32) (n_pipeInches : Nat → Int32) (n_pipeChances : Nat → Int32) (n_weights : Nat → Int64) (n_woods : Nat → Int32) (n_sums : Nat → Int64) (p1 : Int32) (p2 : Int32) (post : Int32 → (Nat → Int32) → Prop) (h : wpX4_middle post T_refusals n_drilled p1 p2) : Met l yX4_middle (wz yX4_middle cX4_middle 8 (some .int)) ({ frames := 2, cells := 0, slots := 0, locals := 45 }) (va_Pc [.ref (a_T 0), .int p1, .int p2] (PW D (tz cI cJ cC) G ((bX4 cI cJ cC a_T a_n a_k a_t a_s a_r a_c T_isKept T_refusals) ++ (bX3 cI cJ cC a_n n_space n_beam n_door n_law n_used n_pipes n_drilled n_total n_open n_pipeInches n_pipeChances n_weights n_woods n_sums)) sz)) (va_Qi (fun (r : Int32) (u : (Nat → Int32)) => post r u) (fun (u : (Nat → Int32)) t => va_P D vwCl ((bX4 cI cJ cC a_T a_n a_k a_t a_s a_r a_c T_isKept u) ++ (bX3 cI cJ cC a_n n_space n_beam n_door n_law n_used n_pipes n_drilled n_total n_open n_pipeInches n_pipeChances n_weights n_woods n_sums)) t.heap) (va_A ((bX4 cI cJ cC a_T a_n a_k a_t a_s a_r a_c T_isKept T_refusals) ++ (bX3 cI cJ cC a_n n_space n_beam n_door n_law n_used n_pipes n_drilled n_total n_open n_pipeInches n_pipeChances n_weights n_woods n_sums)) sz)) 0 0 (va_A ((bX4 cI cJ cC a_T a_n a_k a_t a_s a_r a_c T_isKept T_refusals) ++ (bX3 cI cJ cC a_n n_space n_beam n_door n_law n_used n_pipes n_drilled n_total n_open n_pipeInches n_pipeChances n_weights n_woods n_sums)) sz) := by
  refine zmi (gw := fun (u : (Nat → Int32)) => (bX4 cI cJ cC a_T a_n a_k a_t a_s a_r a_c T_isKept u) ++ (bX3 cI cJ cC a_n n_space n_beam n_door n_law n_used n_pipes n_drilled n_total n_open n_pipeInches n_pipeChances n_weights n_woods n_sums)) (plainFor_of_name (by decide)) (Nat.le_of_ble_eq_true rfl) ?_
  intro p e s m below meth c A Q ls S hK hD hA hE hP hl hret
  obtain ⟨hx, hb, hml, hown, ht⟩ := id S
  have hS : va_S A s.heap s.heap [] := va_S.rf
  have hDD : ∀ ws : va_W, ws.map (fun q => q.1) = [a_T 0, a_T 1, a_n 0, a_n 1, a_n 2, a_n 3, a_n 4, a_n 5] → va_D A ws := fun ws hw => zD hD (hw.trans rfl)
  have hl : lv_has ls 8 [(0, .ref (a_T 0)), (1, .int p1), (2, .int p2)] := hl
  unfold wpX4_middle at h
  refine lv_iload_n hx hb dX4_middle_0 rfl (lv_at hl 2 rfl) ?_
  refine zci hA zD0 hS (zrunS (As := [.int p2]) (rest := []) S hK hA hE zP0 zD0 hS (mX4_isNoInch l D cI cJ cC G _ p2 _ h) kX4_isNoInch ml_X4_95 ⟨rfl, rfl, by decide, by decide⟩ rfl hl.1 rfl (Nat.le_of_ble_eq_true rfl) dX4_middle_1 ⟨Nat.zero_le _, Nat.zero_le _⟩) (fun r_1 u H locs h hP1 hk1 hS => ?_)
  try dsimp only at h
  have hP : va_P D vwCl ((bX4 cI cJ cC a_T a_n a_k a_t a_s a_r a_c T_isKept T_refusals) ++ (bX3 cI cJ cC a_n n_space n_beam n_door n_law n_used n_pipes n_drilled n_total n_open n_pipeInches n_pipeChances n_weights n_woods n_sums)) H := zKeep hP hk1
  refine lv_if_eq (tgt := 13) hx hb dX4_middle_4 (by decide) (fun z => ?_) (fun z => ?_)
  · replace h := h.1 z
    refine lv_iload_n hx hb dX4_middle_13 rfl (lv_at hl 1 rfl) ?_
    refine lv_iconst (v := (1 : Int32)) hx hb dX4_middle_14 (by decide) ?_
    refine lv_icmp_ge (tgt := 25) hx hb dX4_middle_15 (by decide) (fun z => ?_) (fun z => ?_)
    · replace h := h.1 z
      refine lv_iload_n hx hb dX4_middle_25 rfl (lv_at hl 1 rfl) ?_
      refine lv_bipush (v := (40 : Int32)) hx hb dX4_middle_26 (by decide) ?_
      refine lv_icmp_le (tgt := 38) hx hb dX4_middle_28 (by decide) (fun z => ?_) (fun z => ?_)
      · replace h := h.1 z
        refine lv_aload_n hx hb dX4_middle_38 rfl (lv_at hl 0 rfl) ?_
        refine va_get (D := D) (ci := 4) (v := .ref (a_n 0)) (C := RX4) (T := TX4) (N := 8) hx hb ht inX4 hown hK hP 0 rfl rfl 0 (by decide) (ht _ fl_X4_10) (fun _ h9 => h9) rfl dX4_middle_39 ?_
        refine va_get (D := D) (ci := 3) (v := .long n_drilled) (C := RX3) (T := TX3) (N := 14) hx hb ht inX3 hown hK hP 2 rfl rfl 6 (by decide) (ht _ fl_X4_164) (fun _ h9 => h9) rfl dX4_middle_42 ?_
        refine zci hA zD0 hS (zrunS (As := [.long n_drilled]) (rest := []) S hK hA hE zP0 zD0 hS (mJ13_bitCount_95d88 l D cI cJ cC G _ n_drilled _ h) kJ13_bitCount_95d88 ml_X4_168 ⟨rfl, rfl, by decide, by decide⟩ rfl hl.1 rfl (Nat.le_of_ble_eq_true rfl) dX4_middle_45 ⟨Nat.zero_le _, Nat.zero_le _⟩) (fun r_2 u H locs h hP1 hk1 hS => ?_)
        try dsimp only at h
        have hP : va_P D vwCl ((bX4 cI cJ cC a_T a_n a_k a_t a_s a_r a_c T_isKept T_refusals) ++ (bX3 cI cJ cC a_n n_space n_beam n_door n_law n_used n_pipes n_drilled n_total n_open n_pipeInches n_pipeChances n_weights n_woods n_sums)) H := zKeep hP hk1
        refine lv_istore_n (lv' := [(3, .int r_2), (0, .ref (a_T 0)), (1, .int p1), (2, .int p2)]) hx hb dX4_middle_48 rfl hl (by decide) rfl (fun ls hl => ?_)
        refine lv_bipush (v := (-9 : Int32)) hx hb dX4_middle_49 (by decide) ?_
        refine lv_istore (lv' := [(4, .int (-9 : Int32)), (3, .int r_2), (0, .ref (a_T 0)), (1, .int p1), (2, .int p2)]) hx hb dX4_middle_51 hl (by decide) rfl (fun ls hl => ?_)
        refine lv_sipush (v := (192 : Int32)) hx hb dX4_middle_53 (by decide) ?_
        refine lv_istore (lv' := [(5, .int (192 : Int32)), (4, .int (-9 : Int32)), (3, .int r_2), (0, .ref (a_T 0)), (1, .int p1), (2, .int p2)]) hx hb dX4_middle_56 hl (by decide) rfl (fun ls hl => ?_)
        refine lv_iconst (v := (0 : Int32)) hx hb dX4_middle_58 (by decide) ?_
        refine lv_istore (lv' := [(6, .int (0 : Int32)), (5, .int (192 : Int32)), (4, .int (-9 : Int32)), (3, .int r_2), (0, .ref (a_T 0)), (1, .int p1), (2, .int p2)]) hx hb dX4_middle_59 hl (by decide) rfl (fun ls hl => ?_)
        obtain ⟨n_5, h⟩ := h
        refine wX4_middle_61 l D cI cJ cC G a_T a_n a_k a_t a_s a_r a_c p1 p2 p1 p2 r_2 T_isKept T_refusals n_space n_beam n_door n_law n_used n_pipes n_drilled n_total n_open n_pipeInches n_pipeChances n_weights n_woods n_sums _ S hK hDD hA hE (fun x4_6 x5_7 x6_8 H locs ls h hP hS hl => ?_) n_5 (-9 : Int32) (192 : Int32) (0 : Int32) _ _ _ h hP hS (lv_sub hl [4, 5, 6, 3, 2, 1, 0] rfl)
        try dsimp only at h
        refine lv_iload hx hb dX4_middle_120 (lv_at hl 0 rfl) ?_
        exact hret x4_6 T_refusals _ _ _ _ rfl h hP hS dX4_middle_122
      · replace h := h.2 z
        refine lv_aload_n hx hb dX4_middle_31 rfl (lv_at hl 0 rfl) ?_
        refine lv_bipush (v := (-6 : Int32)) hx hb dX4_middle_32 (by decide) ?_
        have hPw : va_P D vwCl ((bX4 cI cJ cC a_T a_n a_k a_t a_s a_r a_c T_isKept T_refusals)) _ := hP.sub [0, 1] rfl
        have hDw : va_D A ((bX4 cI cJ cC a_T a_n a_k a_t a_s a_r a_c T_isKept T_refusals)) := (hDD _ rfl).sub (ws := (bX4 cI cJ cC a_T a_n a_k a_t a_s a_r a_c T_isKept T_refusals) ++ (bX3 cI cJ cC a_n n_space n_beam n_door n_law n_used n_pipes n_drilled n_total n_open n_pipeInches n_pipeChances n_weights n_woods n_sums)) [0, 1] (by decide) rfl
        refine zci hA hDw hS (zrunV (As := [.int (-6 : Int32)]) (rest := []) S hK hA hE hPw hDw hS (mX4_refuse l D cI cJ cC G a_T a_n a_k a_t a_s a_r a_c _ T_isKept T_refusals (-6 : Int32) _ h) kX4_refuse ml_X4_51 ⟨rfl, rfl, by decide, by decide⟩ (q0 := 0) (ci := 4) rfl rfl rfl rfl hl.1 rfl (Nat.le_of_ble_eq_true rfl) dX4_middle_34 ⟨Nat.zero_le _, Nat.zero_le _⟩) (fun r_9 T_refusals_10 H locs h hP1 hk1 hS => ?_)
        try dsimp only at h
        have hP : va_P D vwCl ((bX4 cI cJ cC a_T a_n a_k a_t a_s a_r a_c T_isKept T_refusals_10) ++ (bX3 cI cJ cC a_n n_space n_beam n_door n_law n_used n_pipes n_drilled n_total n_open n_pipeInches n_pipeChances n_weights n_woods n_sums)) H := zMerge hP (hDD _ rfl) [0, 1] rfl rfl hk1 hP1
        exact hret r_9 T_refusals_10 _ _ _ _ rfl h hP hS dX4_middle_37
    · replace h := h.2 z
      refine lv_aload_n hx hb dX4_middle_18 rfl (lv_at hl 0 rfl) ?_
      refine lv_bipush (v := (-4 : Int32)) hx hb dX4_middle_19 (by decide) ?_
      have hPw : va_P D vwCl ((bX4 cI cJ cC a_T a_n a_k a_t a_s a_r a_c T_isKept T_refusals)) _ := hP.sub [0, 1] rfl
      have hDw : va_D A ((bX4 cI cJ cC a_T a_n a_k a_t a_s a_r a_c T_isKept T_refusals)) := (hDD _ rfl).sub (ws := (bX4 cI cJ cC a_T a_n a_k a_t a_s a_r a_c T_isKept T_refusals) ++ (bX3 cI cJ cC a_n n_space n_beam n_door n_law n_used n_pipes n_drilled n_total n_open n_pipeInches n_pipeChances n_weights n_woods n_sums)) [0, 1] (by decide) rfl
      refine zci hA hDw hS (zrunV (As := [.int (-4 : Int32)]) (rest := []) S hK hA hE hPw hDw hS (mX4_refuse l D cI cJ cC G a_T a_n a_k a_t a_s a_r a_c _ T_isKept T_refusals (-4 : Int32) _ h) kX4_refuse ml_X4_51 ⟨rfl, rfl, by decide, by decide⟩ (q0 := 0) (ci := 4) rfl rfl rfl rfl hl.1 rfl (Nat.le_of_ble_eq_true rfl) dX4_middle_21 ⟨Nat.zero_le _, Nat.zero_le _⟩) (fun r_11 T_refusals_12 H locs h hP1 hk1 hS => ?_)
      try dsimp only at h
      have hP : va_P D vwCl ((bX4 cI cJ cC a_T a_n a_k a_t a_s a_r a_c T_isKept T_refusals_12) ++ (bX3 cI cJ cC a_n n_space n_beam n_door n_law n_used n_pipes n_drilled n_total n_open n_pipeInches n_pipeChances n_weights n_woods n_sums)) H := zMerge hP (hDD _ rfl) [0, 1] rfl rfl hk1 hP1
      exact hret r_11 T_refusals_12 _ _ _ _ rfl h hP hS dX4_middle_24
  · replace h := h.2 z
    refine lv_aload_n hx hb dX4_middle_7 rfl (lv_at hl 0 rfl) ?_
    refine lv_iconst (v := (-1 : Int32)) hx hb dX4_middle_8 (by decide) ?_
    have hPw : va_P D vwCl ((bX4 cI cJ cC a_T a_n a_k a_t a_s a_r a_c T_isKept T_refusals)) _ := hP.sub [0, 1] rfl
    have hDw : va_D A ((bX4 cI cJ cC a_T a_n a_k a_t a_s a_r a_c T_isKept T_refusals)) := (hDD _ rfl).sub (ws := (bX4 cI cJ cC a_T a_n a_k a_t a_s a_r a_c T_isKept T_refusals) ++ (bX3 cI cJ cC a_n n_space n_beam n_door n_law n_used n_pipes n_drilled n_total n_open n_pipeInches n_pipeChances n_weights n_woods n_sums)) [0, 1] (by decide) rfl
    refine zci hA hDw hS (zrunV (As := [.int (-1 : Int32)]) (rest := []) S hK hA hE hPw hDw hS (mX4_refuse l D cI cJ cC G a_T a_n a_k a_t a_s a_r a_c _ T_isKept T_refusals (-1 : Int32) _ h) kX4_refuse ml_X4_51 ⟨rfl, rfl, by decide, by decide⟩ (q0 := 0) (ci := 4) rfl rfl rfl rfl hl.1 rfl (Nat.le_of_ble_eq_true rfl) dX4_middle_9 ⟨Nat.zero_le _, Nat.zero_le _⟩) (fun r_13 T_refusals_14 H locs h hP1 hk1 hS => ?_)
    try dsimp only at h
    have hP : va_P D vwCl ((bX4 cI cJ cC a_T a_n a_k a_t a_s a_r a_c T_isKept T_refusals_14) ++ (bX3 cI cJ cC a_n n_space n_beam n_door n_law n_used n_pipes n_drilled n_total n_open n_pipeInches n_pipeChances n_weights n_woods n_sums)) H := zMerge hP (hDD _ rfl) [0, 1] rfl rfl hk1 hP1
    exact hret r_13 T_refusals_14 _ _ _ _ rfl h hP hS dX4_middle_12
def wpX4_two (post : Int32 → (Nat → Int32) → Prop) (T_refusals : Nat → Int32) (n_weights : Nat → Int64) (n_woods : Nat → Int32) (p1 : Int32) : Prop := (((1 : Int32) ≤ p1 → (((p1 ≤ (40 : Int32) → (wpX3_likeliestPair (fun (r_1 : Int32) => post r_1 T_refusals) n_weights n_woods p1)) ∧ (¬ (p1 ≤ (40 : Int32)) → (wpX4_refuse (fun (r_2 : Int32) (T_refusals_3 : Nat → Int32) => post r_2 T_refusals_3) T_refusals (-6 : Int32)))))) ∧ (¬ ((1 : Int32) ≤ p1) → (wpX4_refuse (fun (r_4 : Int32) (T_refusals_5 : Nat → Int32) => post r_4 T_refusals_5) T_refusals (-4 : Int32))))
set_option maxHeartbeats 4000000 in
set_option maxRecDepth 100000 in
theorem mX4_two (l : Launch) (D : va_G) (cI cJ cC : ClassId) (G : Nat → Nat → Nat) (a_T : Nat → Nat) (a_n : Nat → Nat) (a_k : Nat → Nat) (a_t : Nat → Nat) (a_s : Nat → Nat) (a_r : Nat → Nat) (a_c : Nat → Nat) (sz : Nat) (T_isKept : Int32) (T_refusals : Nat → Int32) (n_space : Int32) (n_beam : Int32) (n_door : Int32) (n_law : Int32) (n_used : Int32) (n_pipes : Int32) (n_drilled : Int64) (n_total : Int64) (n_open : Int32) (n_pipeInches : Nat → Int32) (n_pipeChances : Nat → Int32) (n_weights : Nat → Int64) (n_woods : Nat → Int32) (n_sums : Nat → Int64) (p1 : Int32) (post : Int32 → (Nat → Int32) → Prop) (h : wpX4_two post T_refusals n_weights n_woods p1) : Met l yX4_two (wz yX4_two cX4_two 2 (some .int)) ({ frames := 4, cells := 0, slots := 0, locals := 94 }) (va_Pc [.ref (a_T 0), .int p1] (PW D (tz cI cJ cC) G ((bX4 cI cJ cC a_T a_n a_k a_t a_s a_r a_c T_isKept T_refusals) ++ (bX3 cI cJ cC a_n n_space n_beam n_door n_law n_used n_pipes n_drilled n_total n_open n_pipeInches n_pipeChances n_weights n_woods n_sums)) sz)) (va_Qi (fun (r : Int32) (u : (Nat → Int32)) => post r u) (fun (u : (Nat → Int32)) t => va_P D vwCl ((bX4 cI cJ cC a_T a_n a_k a_t a_s a_r a_c T_isKept u) ++ (bX3 cI cJ cC a_n n_space n_beam n_door n_law n_used n_pipes n_drilled n_total n_open n_pipeInches n_pipeChances n_weights n_woods n_sums)) t.heap) (va_A ((bX4 cI cJ cC a_T a_n a_k a_t a_s a_r a_c T_isKept T_refusals) ++ (bX3 cI cJ cC a_n n_space n_beam n_door n_law n_used n_pipes n_drilled n_total n_open n_pipeInches n_pipeChances n_weights n_woods n_sums)) sz)) 0 0 (va_A ((bX4 cI cJ cC a_T a_n a_k a_t a_s a_r a_c T_isKept T_refusals) ++ (bX3 cI cJ cC a_n n_space n_beam n_door n_law n_used n_pipes n_drilled n_total n_open n_pipeInches n_pipeChances n_weights n_woods n_sums)) sz) := by
  refine zmi (gw := fun (u : (Nat → Int32)) => (bX4 cI cJ cC a_T a_n a_k a_t a_s a_r a_c T_isKept u) ++ (bX3 cI cJ cC a_n n_space n_beam n_door n_law n_used n_pipes n_drilled n_total n_open n_pipeInches n_pipeChances n_weights n_woods n_sums)) (plainFor_of_name (by decide)) (Nat.le_of_ble_eq_true rfl) ?_
  intro p e s m below meth c A Q ls S hK hD hA hE hP hl hret
  obtain ⟨hx, hb, hml, hown, ht⟩ := id S
  have hS : va_S A s.heap s.heap [] := va_S.rf
  have hDD : ∀ ws : va_W, ws.map (fun q => q.1) = [a_T 0, a_T 1, a_n 0, a_n 1, a_n 2, a_n 3, a_n 4, a_n 5] → va_D A ws := fun ws hw => zD hD (hw.trans rfl)
  have hl : lv_has ls 2 [(0, .ref (a_T 0)), (1, .int p1)] := hl
  unfold wpX4_two at h
  refine lv_iload_n hx hb dX4_two_0 rfl (lv_at hl 1 rfl) ?_
  refine lv_iconst (v := (1 : Int32)) hx hb dX4_two_1 (by decide) ?_
  refine lv_icmp_ge (tgt := 12) hx hb dX4_two_2 (by decide) (fun z => ?_) (fun z => ?_)
  · replace h := h.1 z
    refine lv_iload_n hx hb dX4_two_12 rfl (lv_at hl 1 rfl) ?_
    refine lv_bipush (v := (40 : Int32)) hx hb dX4_two_13 (by decide) ?_
    refine lv_icmp_le (tgt := 25) hx hb dX4_two_15 (by decide) (fun z => ?_) (fun z => ?_)
    · replace h := h.1 z
      refine lv_aload_n hx hb dX4_two_25 rfl (lv_at hl 0 rfl) ?_
      refine va_get (D := D) (ci := 4) (v := .ref (a_n 0)) (C := RX4) (T := TX4) (N := 8) hx hb ht inX4 hown hK hP 0 rfl rfl 0 (by decide) (ht _ fl_X4_10) (fun _ h9 => h9) rfl dX4_two_26 ?_
      refine lv_iload_n hx hb dX4_two_29 rfl (lv_at hl 1 rfl) ?_
      have hPw : va_P D vwCl ((bX3 cI cJ cC a_n n_space n_beam n_door n_law n_used n_pipes n_drilled n_total n_open n_pipeInches n_pipeChances n_weights n_woods n_sums)) _ := hP.sub [2, 3, 4, 5, 6, 7] rfl
      have hDw : va_D A ((bX3 cI cJ cC a_n n_space n_beam n_door n_law n_used n_pipes n_drilled n_total n_open n_pipeInches n_pipeChances n_weights n_woods n_sums)) := (hDD _ rfl).sub (ws := (bX4 cI cJ cC a_T a_n a_k a_t a_s a_r a_c T_isKept T_refusals) ++ (bX3 cI cJ cC a_n n_space n_beam n_door n_law n_used n_pipes n_drilled n_total n_open n_pipeInches n_pipeChances n_weights n_woods n_sums)) [2, 3, 4, 5, 6, 7] (by decide) rfl
      refine zci hA hDw hS (zrunV (As := [.int p1]) (rest := []) S hK hA hE hPw hDw hS (mX3_likeliestPair l D cI cJ cC G a_n _ n_space n_beam n_door n_law n_used n_pipes n_drilled n_total n_open n_pipeInches n_pipeChances n_weights n_woods n_sums p1 _ h) kX3_likeliestPair ml_X4_220 ⟨rfl, rfl, by decide, by decide⟩ (q0 := 0) (ci := 3) rfl rfl rfl rfl hl.1 rfl (Nat.le_of_ble_eq_true rfl) dX4_two_30 ⟨Nat.zero_le _, Nat.zero_le _⟩) (fun r_1 u H locs h hP1 hk1 hS => ?_)
      try dsimp only at h
      have hP : va_P D vwCl ((bX4 cI cJ cC a_T a_n a_k a_t a_s a_r a_c T_isKept T_refusals) ++ (bX3 cI cJ cC a_n n_space n_beam n_door n_law n_used n_pipes n_drilled n_total n_open n_pipeInches n_pipeChances n_weights n_woods n_sums)) H := zMerge hP (hDD _ rfl) [2, 3, 4, 5, 6, 7] rfl rfl hk1 hP1
      exact hret r_1 T_refusals _ _ _ _ rfl h hP hS dX4_two_33
    · replace h := h.2 z
      refine lv_aload_n hx hb dX4_two_18 rfl (lv_at hl 0 rfl) ?_
      refine lv_bipush (v := (-6 : Int32)) hx hb dX4_two_19 (by decide) ?_
      have hPw : va_P D vwCl ((bX4 cI cJ cC a_T a_n a_k a_t a_s a_r a_c T_isKept T_refusals)) _ := hP.sub [0, 1] rfl
      have hDw : va_D A ((bX4 cI cJ cC a_T a_n a_k a_t a_s a_r a_c T_isKept T_refusals)) := (hDD _ rfl).sub (ws := (bX4 cI cJ cC a_T a_n a_k a_t a_s a_r a_c T_isKept T_refusals) ++ (bX3 cI cJ cC a_n n_space n_beam n_door n_law n_used n_pipes n_drilled n_total n_open n_pipeInches n_pipeChances n_weights n_woods n_sums)) [0, 1] (by decide) rfl
      refine zci hA hDw hS (zrunV (As := [.int (-6 : Int32)]) (rest := []) S hK hA hE hPw hDw hS (mX4_refuse l D cI cJ cC G a_T a_n a_k a_t a_s a_r a_c _ T_isKept T_refusals (-6 : Int32) _ h) kX4_refuse ml_X4_51 ⟨rfl, rfl, by decide, by decide⟩ (q0 := 0) (ci := 4) rfl rfl rfl rfl hl.1 rfl (Nat.le_of_ble_eq_true rfl) dX4_two_21 ⟨Nat.zero_le _, Nat.zero_le _⟩) (fun r_2 T_refusals_3 H locs h hP1 hk1 hS => ?_)
      try dsimp only at h
      have hP : va_P D vwCl ((bX4 cI cJ cC a_T a_n a_k a_t a_s a_r a_c T_isKept T_refusals_3) ++ (bX3 cI cJ cC a_n n_space n_beam n_door n_law n_used n_pipes n_drilled n_total n_open n_pipeInches n_pipeChances n_weights n_woods n_sums)) H := zMerge hP (hDD _ rfl) [0, 1] rfl rfl hk1 hP1
      exact hret r_2 T_refusals_3 _ _ _ _ rfl h hP hS dX4_two_24
  · replace h := h.2 z
    refine lv_aload_n hx hb dX4_two_5 rfl (lv_at hl 0 rfl) ?_
    refine lv_bipush (v := (-4 : Int32)) hx hb dX4_two_6 (by decide) ?_
    have hPw : va_P D vwCl ((bX4 cI cJ cC a_T a_n a_k a_t a_s a_r a_c T_isKept T_refusals)) _ := hP.sub [0, 1] rfl
    have hDw : va_D A ((bX4 cI cJ cC a_T a_n a_k a_t a_s a_r a_c T_isKept T_refusals)) := (hDD _ rfl).sub (ws := (bX4 cI cJ cC a_T a_n a_k a_t a_s a_r a_c T_isKept T_refusals) ++ (bX3 cI cJ cC a_n n_space n_beam n_door n_law n_used n_pipes n_drilled n_total n_open n_pipeInches n_pipeChances n_weights n_woods n_sums)) [0, 1] (by decide) rfl
    refine zci hA hDw hS (zrunV (As := [.int (-4 : Int32)]) (rest := []) S hK hA hE hPw hDw hS (mX4_refuse l D cI cJ cC G a_T a_n a_k a_t a_s a_r a_c _ T_isKept T_refusals (-4 : Int32) _ h) kX4_refuse ml_X4_51 ⟨rfl, rfl, by decide, by decide⟩ (q0 := 0) (ci := 4) rfl rfl rfl rfl hl.1 rfl (Nat.le_of_ble_eq_true rfl) dX4_two_8 ⟨Nat.zero_le _, Nat.zero_le _⟩) (fun r_4 T_refusals_5 H locs h hP1 hk1 hS => ?_)
    try dsimp only at h
    have hP : va_P D vwCl ((bX4 cI cJ cC a_T a_n a_k a_t a_s a_r a_c T_isKept T_refusals_5) ++ (bX3 cI cJ cC a_n n_space n_beam n_door n_law n_used n_pipes n_drilled n_total n_open n_pipeInches n_pipeChances n_weights n_woods n_sums)) H := zMerge hP (hDD _ rfl) [0, 1] rfl rfl hk1 hP1
    exact hret r_4 T_refusals_5 _ _ _ _ rfl h hP hS dX4_two_11
def wpX4_both (post : Int64 → (Nat → Int32) → Prop) (T_refusals : Nat → Int32) (n_total : Int64) (n_weights : Nat → Int64) (n_woods : Nat → Int32) (p1 : Int32) (p2 : Int32) : Prop := (((1 : Int32) ≤ p1 → (((p1 ≤ (40 : Int32) → (wpX4_isNoPart (fun (r_1 : Int32) => ((r_1 = (0 : Int32) → (wpX3_likeliestPair (fun (r_2 : Int32) => wpX3_sumAtBoth (fun (r_3 : Int64) => wpX4_partOf (fun (r_4 : Int64) => post r_4 T_refusals) r_3 n_total p2) n_weights n_woods r_2 (r_2 + p1)) n_weights n_woods p1)) ∧ (¬ (r_1 = (0 : Int32)) → (wpX4_refuseLong (fun (r_5 : Int64) (T_refusals_6 : Nat → Int32) => post r_5 T_refusals_6) T_refusals (-2 : Int32))))) p2)) ∧ (¬ (p1 ≤ (40 : Int32)) → (wpX4_refuseLong (fun (r_7 : Int64) (T_refusals_8 : Nat → Int32) => post r_7 T_refusals_8) T_refusals (-6 : Int32)))))) ∧ (¬ ((1 : Int32) ≤ p1) → (wpX4_refuseLong (fun (r_9 : Int64) (T_refusals_10 : Nat → Int32) => post r_9 T_refusals_10) T_refusals (-4 : Int32))))
set_option maxHeartbeats 4000000 in
set_option maxRecDepth 100000 in
theorem mX4_both (l : Launch) (D : va_G) (cI cJ cC : ClassId) (G : Nat → Nat → Nat) (a_T : Nat → Nat) (a_n : Nat → Nat) (a_k : Nat → Nat) (a_t : Nat → Nat) (a_s : Nat → Nat) (a_r : Nat → Nat) (a_c : Nat → Nat) (sz : Nat) (T_isKept : Int32) (T_refusals : Nat → Int32) (n_space : Int32) (n_beam : Int32) (n_door : Int32) (n_law : Int32) (n_used : Int32) (n_pipes : Int32) (n_drilled : Int64) (n_total : Int64) (n_open : Int32) (n_pipeInches : Nat → Int32) (n_pipeChances : Nat → Int32) (n_weights : Nat → Int64) (n_woods : Nat → Int32) (n_sums : Nat → Int64) (p1 : Int32) (p2 : Int32) (post : Int64 → (Nat → Int32) → Prop) (h : wpX4_both post T_refusals n_total n_weights n_woods p1 p2) : Met l yX4_both (wz yX4_both cX4_both 4 (some .long)) ({ frames := 4, cells := 0, slots := 0, locals := 94 }) (va_Pc [.ref (a_T 0), .int p1, .int p2] (PW D (tz cI cJ cC) G ((bX4 cI cJ cC a_T a_n a_k a_t a_s a_r a_c T_isKept T_refusals) ++ (bX3 cI cJ cC a_n n_space n_beam n_door n_law n_used n_pipes n_drilled n_total n_open n_pipeInches n_pipeChances n_weights n_woods n_sums)) sz)) (va_Ql (fun (r : Int64) (u : (Nat → Int32)) => post r u) (fun (u : (Nat → Int32)) t => va_P D vwCl ((bX4 cI cJ cC a_T a_n a_k a_t a_s a_r a_c T_isKept u) ++ (bX3 cI cJ cC a_n n_space n_beam n_door n_law n_used n_pipes n_drilled n_total n_open n_pipeInches n_pipeChances n_weights n_woods n_sums)) t.heap) (va_A ((bX4 cI cJ cC a_T a_n a_k a_t a_s a_r a_c T_isKept T_refusals) ++ (bX3 cI cJ cC a_n n_space n_beam n_door n_law n_used n_pipes n_drilled n_total n_open n_pipeInches n_pipeChances n_weights n_woods n_sums)) sz)) 0 0 (va_A ((bX4 cI cJ cC a_T a_n a_k a_t a_s a_r a_c T_isKept T_refusals) ++ (bX3 cI cJ cC a_n n_space n_beam n_door n_law n_used n_pipes n_drilled n_total n_open n_pipeInches n_pipeChances n_weights n_woods n_sums)) sz) := by
  refine zml (gw := fun (u : (Nat → Int32)) => (bX4 cI cJ cC a_T a_n a_k a_t a_s a_r a_c T_isKept u) ++ (bX3 cI cJ cC a_n n_space n_beam n_door n_law n_used n_pipes n_drilled n_total n_open n_pipeInches n_pipeChances n_weights n_woods n_sums)) (plainFor_of_name (by decide)) (Nat.le_of_ble_eq_true rfl) ?_
  intro p e s m below meth c A Q ls S hK hD hA hE hP hl hret
  obtain ⟨hx, hb, hml, hown, ht⟩ := id S
  have hS : va_S A s.heap s.heap [] := va_S.rf
  have hDD : ∀ ws : va_W, ws.map (fun q => q.1) = [a_T 0, a_T 1, a_n 0, a_n 1, a_n 2, a_n 3, a_n 4, a_n 5] → va_D A ws := fun ws hw => zD hD (hw.trans rfl)
  have hl : lv_has ls 4 [(0, .ref (a_T 0)), (1, .int p1), (2, .int p2)] := hl
  unfold wpX4_both at h
  refine lv_iload_n hx hb dX4_both_0 rfl (lv_at hl 1 rfl) ?_
  refine lv_iconst (v := (1 : Int32)) hx hb dX4_both_1 (by decide) ?_
  refine lv_icmp_ge (tgt := 12) hx hb dX4_both_2 (by decide) (fun z => ?_) (fun z => ?_)
  · replace h := h.1 z
    refine lv_iload_n hx hb dX4_both_12 rfl (lv_at hl 1 rfl) ?_
    refine lv_bipush (v := (40 : Int32)) hx hb dX4_both_13 (by decide) ?_
    refine lv_icmp_le (tgt := 25) hx hb dX4_both_15 (by decide) (fun z => ?_) (fun z => ?_)
    · replace h := h.1 z
      refine lv_iload_n hx hb dX4_both_25 rfl (lv_at hl 2 rfl) ?_
      refine zci hA zD0 hS (zrunS (As := [.int p2]) (rest := []) S hK hA hE zP0 zD0 hS (mX4_isNoPart l D cI cJ cC G _ p2 _ h) kX4_isNoPart ml_X4_173 ⟨rfl, rfl, by decide, by decide⟩ rfl hl.1 rfl (Nat.le_of_ble_eq_true rfl) dX4_both_26 ⟨Nat.zero_le _, Nat.zero_le _⟩) (fun r_1 u H locs h hP1 hk1 hS => ?_)
      try dsimp only at h
      have hP : va_P D vwCl ((bX4 cI cJ cC a_T a_n a_k a_t a_s a_r a_c T_isKept T_refusals) ++ (bX3 cI cJ cC a_n n_space n_beam n_door n_law n_used n_pipes n_drilled n_total n_open n_pipeInches n_pipeChances n_weights n_woods n_sums)) H := zKeep hP hk1
      refine lv_if_eq (tgt := 39) hx hb dX4_both_29 (by decide) (fun z => ?_) (fun z => ?_)
      · replace h := h.1 z
        refine lv_aload_n hx hb dX4_both_39 rfl (lv_at hl 0 rfl) ?_
        refine va_get (D := D) (ci := 4) (v := .ref (a_n 0)) (C := RX4) (T := TX4) (N := 8) hx hb ht inX4 hown hK hP 0 rfl rfl 0 (by decide) (ht _ fl_X4_10) (fun _ h9 => h9) rfl dX4_both_40 ?_
        refine lv_iload_n hx hb dX4_both_43 rfl (lv_at hl 1 rfl) ?_
        have hPw : va_P D vwCl ((bX3 cI cJ cC a_n n_space n_beam n_door n_law n_used n_pipes n_drilled n_total n_open n_pipeInches n_pipeChances n_weights n_woods n_sums)) _ := hP.sub [2, 3, 4, 5, 6, 7] rfl
        have hDw : va_D A ((bX3 cI cJ cC a_n n_space n_beam n_door n_law n_used n_pipes n_drilled n_total n_open n_pipeInches n_pipeChances n_weights n_woods n_sums)) := (hDD _ rfl).sub (ws := (bX4 cI cJ cC a_T a_n a_k a_t a_s a_r a_c T_isKept T_refusals) ++ (bX3 cI cJ cC a_n n_space n_beam n_door n_law n_used n_pipes n_drilled n_total n_open n_pipeInches n_pipeChances n_weights n_woods n_sums)) [2, 3, 4, 5, 6, 7] (by decide) rfl
        refine zci hA hDw hS (zrunV (As := [.int p1]) (rest := []) S hK hA hE hPw hDw hS (mX3_likeliestPair l D cI cJ cC G a_n _ n_space n_beam n_door n_law n_used n_pipes n_drilled n_total n_open n_pipeInches n_pipeChances n_weights n_woods n_sums p1 _ h) kX3_likeliestPair ml_X4_220 ⟨rfl, rfl, by decide, by decide⟩ (q0 := 0) (ci := 3) rfl rfl rfl rfl hl.1 rfl (Nat.le_of_ble_eq_true rfl) dX4_both_44 ⟨Nat.zero_le _, Nat.zero_le _⟩) (fun r_2 u H locs h hP1 hk1 hS => ?_)
        try dsimp only at h
        have hP : va_P D vwCl ((bX4 cI cJ cC a_T a_n a_k a_t a_s a_r a_c T_isKept T_refusals) ++ (bX3 cI cJ cC a_n n_space n_beam n_door n_law n_used n_pipes n_drilled n_total n_open n_pipeInches n_pipeChances n_weights n_woods n_sums)) H := zMerge hP (hDD _ rfl) [2, 3, 4, 5, 6, 7] rfl rfl hk1 hP1
        refine lv_istore_n (lv' := [(3, .int r_2), (0, .ref (a_T 0)), (1, .int p1), (2, .int p2)]) hx hb dX4_both_47 rfl hl (by decide) rfl (fun ls hl => ?_)
        refine lv_aload_n hx hb dX4_both_48 rfl (lv_at hl 1 rfl) ?_
        refine va_get (D := D) (ci := 4) (v := .ref (a_n 0)) (C := RX4) (T := TX4) (N := 8) hx hb ht inX4 hown hK hP 0 rfl rfl 0 (by decide) (ht _ fl_X4_10) (fun _ h9 => h9) rfl dX4_both_49 ?_
        refine lv_iload_n hx hb dX4_both_52 rfl (lv_at hl 0 rfl) ?_
        refine lv_iload_n hx hb dX4_both_53 rfl (lv_at hl 0 rfl) ?_
        refine lv_iload_n hx hb dX4_both_54 rfl (lv_at hl 2 rfl) ?_
        refine lv_iadd hx hb dX4_both_55 ?_
        have hPw : va_P D vwCl ((bX3 cI cJ cC a_n n_space n_beam n_door n_law n_used n_pipes n_drilled n_total n_open n_pipeInches n_pipeChances n_weights n_woods n_sums)) _ := hP.sub [2, 3, 4, 5, 6, 7] rfl
        have hDw : va_D A ((bX3 cI cJ cC a_n n_space n_beam n_door n_law n_used n_pipes n_drilled n_total n_open n_pipeInches n_pipeChances n_weights n_woods n_sums)) := (hDD _ rfl).sub (ws := (bX4 cI cJ cC a_T a_n a_k a_t a_s a_r a_c T_isKept T_refusals) ++ (bX3 cI cJ cC a_n n_space n_beam n_door n_law n_used n_pipes n_drilled n_total n_open n_pipeInches n_pipeChances n_weights n_woods n_sums)) [2, 3, 4, 5, 6, 7] (by decide) rfl
        refine zcl hA hDw hS (zrunV (As := [.int r_2, .int (r_2 + p1)]) (rest := []) S hK hA hE hPw hDw hS (mX3_sumAtBoth l D cI cJ cC G a_n _ n_space n_beam n_door n_law n_used n_pipes n_drilled n_total n_open n_pipeInches n_pipeChances n_weights n_woods n_sums r_2 (r_2 + p1) _ h) kX3_sumAtBoth ml_X4_223 ⟨rfl, rfl, by decide, by decide⟩ (q0 := 0) (ci := 3) rfl rfl rfl rfl hl.1 rfl (Nat.le_of_ble_eq_true rfl) dX4_both_56 ⟨Nat.zero_le _, Nat.zero_le _⟩) (fun r_3 u H locs h hP1 hk1 hS => ?_)
        try dsimp only at h
        have hP : va_P D vwCl ((bX4 cI cJ cC a_T a_n a_k a_t a_s a_r a_c T_isKept T_refusals) ++ (bX3 cI cJ cC a_n n_space n_beam n_door n_law n_used n_pipes n_drilled n_total n_open n_pipeInches n_pipeChances n_weights n_woods n_sums)) H := zMerge hP (hDD _ rfl) [2, 3, 4, 5, 6, 7] rfl rfl hk1 hP1
        refine lv_aload_n hx hb dX4_both_59 rfl (lv_at hl 1 rfl) ?_
        refine va_get (D := D) (ci := 4) (v := .ref (a_n 0)) (C := RX4) (T := TX4) (N := 8) hx hb ht inX4 hown hK hP 0 rfl rfl 0 (by decide) (ht _ fl_X4_10) (fun _ h9 => h9) rfl dX4_both_60 ?_
        refine va_get (D := D) (ci := 3) (v := .long n_total) (C := RX3) (T := TX3) (N := 14) hx hb ht inX3 hown hK hP 2 rfl rfl 12 (by decide) (ht _ fl_X4_179) (fun _ h9 => h9) rfl dX4_both_63 ?_
        refine lv_iload_n hx hb dX4_both_66 rfl (lv_at hl 3 rfl) ?_
        refine zcl hA zD0 hS (zrunS (As := [.long r_3, .long n_total, .int p2]) (rest := []) S hK hA hE zP0 zD0 hS (mX4_partOf l D cI cJ cC G _ r_3 n_total p2 _ h) kX4_partOf ml_X4_182 ⟨rfl, rfl, by decide, by decide⟩ rfl hl.1 rfl (Nat.le_of_ble_eq_true rfl) dX4_both_67 ⟨Nat.zero_le _, Nat.zero_le _⟩) (fun r_4 u H locs h hP1 hk1 hS => ?_)
        try dsimp only at h
        have hP : va_P D vwCl ((bX4 cI cJ cC a_T a_n a_k a_t a_s a_r a_c T_isKept T_refusals) ++ (bX3 cI cJ cC a_n n_space n_beam n_door n_law n_used n_pipes n_drilled n_total n_open n_pipeInches n_pipeChances n_weights n_woods n_sums)) H := zKeep hP hk1
        exact hret r_4 T_refusals _ _ _ _ h hP hS dX4_both_70
      · replace h := h.2 z
        refine lv_aload_n hx hb dX4_both_32 rfl (lv_at hl 0 rfl) ?_
        refine lv_bipush (v := (-2 : Int32)) hx hb dX4_both_33 (by decide) ?_
        have hPw : va_P D vwCl ((bX4 cI cJ cC a_T a_n a_k a_t a_s a_r a_c T_isKept T_refusals)) _ := hP.sub [0, 1] rfl
        have hDw : va_D A ((bX4 cI cJ cC a_T a_n a_k a_t a_s a_r a_c T_isKept T_refusals)) := (hDD _ rfl).sub (ws := (bX4 cI cJ cC a_T a_n a_k a_t a_s a_r a_c T_isKept T_refusals) ++ (bX3 cI cJ cC a_n n_space n_beam n_door n_law n_used n_pipes n_drilled n_total n_open n_pipeInches n_pipeChances n_weights n_woods n_sums)) [0, 1] (by decide) rfl
        refine zcl hA hDw hS (zrunV (As := [.int (-2 : Int32)]) (rest := []) S hK hA hE hPw hDw hS (mX4_refuseLong l D cI cJ cC G a_T a_n a_k a_t a_s a_r a_c _ T_isKept T_refusals (-2 : Int32) _ h) kX4_refuseLong ml_X4_105 ⟨rfl, rfl, by decide, by decide⟩ (q0 := 0) (ci := 4) rfl rfl rfl rfl hl.1 rfl (Nat.le_of_ble_eq_true rfl) dX4_both_35 ⟨Nat.zero_le _, Nat.zero_le _⟩) (fun r_5 T_refusals_6 H locs h hP1 hk1 hS => ?_)
        try dsimp only at h
        have hP : va_P D vwCl ((bX4 cI cJ cC a_T a_n a_k a_t a_s a_r a_c T_isKept T_refusals_6) ++ (bX3 cI cJ cC a_n n_space n_beam n_door n_law n_used n_pipes n_drilled n_total n_open n_pipeInches n_pipeChances n_weights n_woods n_sums)) H := zMerge hP (hDD _ rfl) [0, 1] rfl rfl hk1 hP1
        exact hret r_5 T_refusals_6 _ _ _ _ h hP hS dX4_both_38
    · replace h := h.2 z
      refine lv_aload_n hx hb dX4_both_18 rfl (lv_at hl 0 rfl) ?_
      refine lv_bipush (v := (-6 : Int32)) hx hb dX4_both_19 (by decide) ?_
      have hPw : va_P D vwCl ((bX4 cI cJ cC a_T a_n a_k a_t a_s a_r a_c T_isKept T_refusals)) _ := hP.sub [0, 1] rfl
      have hDw : va_D A ((bX4 cI cJ cC a_T a_n a_k a_t a_s a_r a_c T_isKept T_refusals)) := (hDD _ rfl).sub (ws := (bX4 cI cJ cC a_T a_n a_k a_t a_s a_r a_c T_isKept T_refusals) ++ (bX3 cI cJ cC a_n n_space n_beam n_door n_law n_used n_pipes n_drilled n_total n_open n_pipeInches n_pipeChances n_weights n_woods n_sums)) [0, 1] (by decide) rfl
      refine zcl hA hDw hS (zrunV (As := [.int (-6 : Int32)]) (rest := []) S hK hA hE hPw hDw hS (mX4_refuseLong l D cI cJ cC G a_T a_n a_k a_t a_s a_r a_c _ T_isKept T_refusals (-6 : Int32) _ h) kX4_refuseLong ml_X4_105 ⟨rfl, rfl, by decide, by decide⟩ (q0 := 0) (ci := 4) rfl rfl rfl rfl hl.1 rfl (Nat.le_of_ble_eq_true rfl) dX4_both_21 ⟨Nat.zero_le _, Nat.zero_le _⟩) (fun r_7 T_refusals_8 H locs h hP1 hk1 hS => ?_)
      try dsimp only at h
      have hP : va_P D vwCl ((bX4 cI cJ cC a_T a_n a_k a_t a_s a_r a_c T_isKept T_refusals_8) ++ (bX3 cI cJ cC a_n n_space n_beam n_door n_law n_used n_pipes n_drilled n_total n_open n_pipeInches n_pipeChances n_weights n_woods n_sums)) H := zMerge hP (hDD _ rfl) [0, 1] rfl rfl hk1 hP1
      exact hret r_7 T_refusals_8 _ _ _ _ h hP hS dX4_both_24
  · replace h := h.2 z
    refine lv_aload_n hx hb dX4_both_5 rfl (lv_at hl 0 rfl) ?_
    refine lv_bipush (v := (-4 : Int32)) hx hb dX4_both_6 (by decide) ?_
    have hPw : va_P D vwCl ((bX4 cI cJ cC a_T a_n a_k a_t a_s a_r a_c T_isKept T_refusals)) _ := hP.sub [0, 1] rfl
    have hDw : va_D A ((bX4 cI cJ cC a_T a_n a_k a_t a_s a_r a_c T_isKept T_refusals)) := (hDD _ rfl).sub (ws := (bX4 cI cJ cC a_T a_n a_k a_t a_s a_r a_c T_isKept T_refusals) ++ (bX3 cI cJ cC a_n n_space n_beam n_door n_law n_used n_pipes n_drilled n_total n_open n_pipeInches n_pipeChances n_weights n_woods n_sums)) [0, 1] (by decide) rfl
    refine zcl hA hDw hS (zrunV (As := [.int (-4 : Int32)]) (rest := []) S hK hA hE hPw hDw hS (mX4_refuseLong l D cI cJ cC G a_T a_n a_k a_t a_s a_r a_c _ T_isKept T_refusals (-4 : Int32) _ h) kX4_refuseLong ml_X4_105 ⟨rfl, rfl, by decide, by decide⟩ (q0 := 0) (ci := 4) rfl rfl rfl rfl hl.1 rfl (Nat.le_of_ble_eq_true rfl) dX4_both_8 ⟨Nat.zero_le _, Nat.zero_le _⟩) (fun r_9 T_refusals_10 H locs h hP1 hk1 hS => ?_)
    try dsimp only at h
    have hP : va_P D vwCl ((bX4 cI cJ cC a_T a_n a_k a_t a_s a_r a_c T_isKept T_refusals_10) ++ (bX3 cI cJ cC a_n n_space n_beam n_door n_law n_used n_pipes n_drilled n_total n_open n_pipeInches n_pipeChances n_weights n_woods n_sums)) H := zMerge hP (hDD _ rfl) [0, 1] rfl rfl hk1 hP1
    exact hret r_9 T_refusals_10 _ _ _ _ h hP hS dX4_both_11
def lpX4_wire_48 (K : Int32 → Prop) (x3 : Int32) : Nat → Int32 → Prop
  | 0, _ => False
  | n + 1, x4 => ((x3 ≤ x4 → (K x4)) ∧ (¬ (x3 ≤ x4) → (((x3 ≤ (x4 * x4) → (K x4)) ∧ (¬ (x3 ≤ (x4 * x4)) → (lpX4_wire_48 K x3 n (x4 + (1 : Int32))))))))
set_option maxHeartbeats 4000000 in
set_option maxRecDepth 100000 in
theorem wX4_wire_48 (l : Launch) (D : va_G) (cI cJ cC : ClassId) (G : Nat → Nat → Nat) (a_T : Nat → Nat) (a_n : Nat → Nat) (a_k : Nat → Nat) (a_t : Nat → Nat) (a_s : Nat → Nat) (a_r : Nat → Nat) (a_c : Nat → Nat) {p : Program} {e : Env} {s : State} {m : MethodId} {below : List Frame} {meth : Method} {c : Code} {A : Nat → Prop} {Q : State → Prop} (p1 : Int32) (p2 : Int32) (x3 : Int32) (T_isKept : Int32) (T_refusals : Nat → Int32) (K : Int32 → Prop) (S : CallFix p m c cX4_wire 5 s ([.ref (a_T 0), .int p1, .int p2] : List Value).toArray bg RX4) (hK : va_K D vwCl (tz cI cJ cC) s) (hDD : ∀ ws : va_W, ws.map (fun q => q.1) = [a_T 0, a_T 1] → va_D A ws) (hA : ∀ q, s.heap.size ≤ q → A q) (hE : EV G A s) (hKK : ∀ (x4 : Int32) (H : Heap) (locs : List Loc) (ls : Array Slot), K x4 → va_P D vwCl ((bX4 cI cJ cC a_T a_n a_k a_t a_s a_r a_c T_isKept T_refusals)) H → va_S A s.heap H locs → lv_has ls 5 [(4, .int x4)] → W p l e ({ frames := 1, cells := 0, slots := 0, locals := 21 }) s m ([.ref (a_T 0), .int p1, .int p2] : List Value).toArray below meth c H locs 0 0 Q (F0 m 69 ls [])) :
    ∀ (n : Nat) (x4 : Int32) (H : Heap) (locs : List Loc) (ls : Array Slot), lpX4_wire_48 K x3 n x4 → va_P D vwCl ((bX4 cI cJ cC a_T a_n a_k a_t a_s a_r a_c T_isKept T_refusals)) H → va_S A s.heap H locs → lv_has ls 5 [(3, .int x3), (4, .int x4)] → W p l e ({ frames := 1, cells := 0, slots := 0, locals := 21 }) s m ([.ref (a_T 0), .int p1, .int p2] : List Value).toArray below meth c H locs 0 0 Q (F0 m 48 ls []) := by
  obtain ⟨hx, hb, hml, hown, ht⟩ := id S
  intro n
  induction n with
  | zero =>
    intro x4 H locs ls h
    exact absurd h (by simp [lpX4_wire_48])
  | succ n ih =>
    intro x4 H locs ls h hP hS hl
    rw [lpX4_wire_48] at h
    refine lv_iload hx hb dX4_wire_48 (lv_at hl 1 rfl) ?_
    refine lv_iload_n hx hb dX4_wire_50 rfl (lv_at hl 0 rfl) ?_
    refine lv_icmp_ge (tgt := 69) hx hb dX4_wire_51 (by decide) (fun z => ?_) (fun z => ?_)
    · replace h := h.1 z
      exact hKK x4 _ _ _ h hP hS (lv_sub hl [1] rfl)
    · replace h := h.2 z
      refine lv_iload hx hb dX4_wire_54 (lv_at hl 1 rfl) ?_
      refine lv_iload hx hb dX4_wire_56 (lv_at hl 1 rfl) ?_
      refine lv_imul hx hb dX4_wire_58 ?_
      refine lv_iload_n hx hb dX4_wire_59 rfl (lv_at hl 0 rfl) ?_
      refine lv_icmp_ge (tgt := 69) hx hb dX4_wire_60 (by decide) (fun z => ?_) (fun z => ?_)
      · replace h := h.1 z
        exact hKK x4 _ _ _ h hP hS (lv_sub hl [1] rfl)
      · replace h := h.2 z
        refine lv_iinc (v := x4 + (1 : Int32)) (lv' := [(4, .int (x4 + (1 : Int32))), (3, .int x3)]) hx hb dX4_wire_63 hl (k := 1) rfl (by rfl) (by decide) rfl (fun ls hl => ?_)
        refine lv_goto (tgt := 48) hx hb dX4_wire_66 (by decide) ?_
        exact ih (x4 + (1 : Int32)) _ _ _ h hP hS (lv_sub hl [1, 0] rfl)
def wpX4_wire (post : Int32 → (Nat → Int32) → Prop) (T_refusals : Nat → Int32) (p1 : Int32) (p2 : Int32) : Prop := ((p1 < (1 : Int32) → (wpX4_refuse (fun (r_1 : Int32) (T_refusals_2 : Nat → Int32) => post r_1 T_refusals_2) T_refusals (-4 : Int32))) ∧ (¬ (p1 < (1 : Int32)) → ((((0 : Int32) ≤ p2 → ((((40 : Int32) < p1 → (wpX4_refuse (fun (r_3 : Int32) (T_refusals_4 : Nat → Int32) => post r_3 T_refusals_4) T_refusals (-6 : Int32))) ∧ (¬ ((40 : Int32) < p1) → (((p2 ≤ (40 : Int32) → (∃ n_5 : Nat, lpX4_wire_48 (fun (x4_6 : Int32) => post x4_6 T_refusals) ((p1 * p1) + (((4 : Int32) * p2) * p2)) n_5 (1 : Int32))) ∧ (¬ (p2 ≤ (40 : Int32)) → (wpX4_refuse (fun (r_7 : Int32) (T_refusals_8 : Nat → Int32) => post r_7 T_refusals_8) T_refusals (-6 : Int32))))))))) ∧ (¬ ((0 : Int32) ≤ p2) → (wpX4_refuse (fun (r_9 : Int32) (T_refusals_10 : Nat → Int32) => post r_9 T_refusals_10) T_refusals (-4 : Int32)))))))
set_option maxHeartbeats 4000000 in
set_option maxRecDepth 100000 in
theorem mX4_wire (l : Launch) (D : va_G) (cI cJ cC : ClassId) (G : Nat → Nat → Nat) (a_T : Nat → Nat) (a_n : Nat → Nat) (a_k : Nat → Nat) (a_t : Nat → Nat) (a_s : Nat → Nat) (a_r : Nat → Nat) (a_c : Nat → Nat) (sz : Nat) (T_isKept : Int32) (T_refusals : Nat → Int32) (p1 : Int32) (p2 : Int32) (post : Int32 → (Nat → Int32) → Prop) (h : wpX4_wire post T_refusals p1 p2) : Met l yX4_wire (wz yX4_wire cX4_wire 5 (some .int)) ({ frames := 1, cells := 0, slots := 0, locals := 21 }) (va_Pc [.ref (a_T 0), .int p1, .int p2] (PW D (tz cI cJ cC) G ((bX4 cI cJ cC a_T a_n a_k a_t a_s a_r a_c T_isKept T_refusals)) sz)) (va_Qi (fun (r : Int32) (u : (Nat → Int32)) => post r u) (fun (u : (Nat → Int32)) t => va_P D vwCl ((bX4 cI cJ cC a_T a_n a_k a_t a_s a_r a_c T_isKept u)) t.heap) (va_A ((bX4 cI cJ cC a_T a_n a_k a_t a_s a_r a_c T_isKept T_refusals)) sz)) 0 0 (va_A ((bX4 cI cJ cC a_T a_n a_k a_t a_s a_r a_c T_isKept T_refusals)) sz) := by
  refine zmi (gw := fun (u : (Nat → Int32)) => (bX4 cI cJ cC a_T a_n a_k a_t a_s a_r a_c T_isKept u)) (plainFor_of_name (by decide)) (Nat.le_of_ble_eq_true rfl) ?_
  intro p e s m below meth c A Q ls S hK hD hA hE hP hl hret
  obtain ⟨hx, hb, hml, hown, ht⟩ := id S
  have hS : va_S A s.heap s.heap [] := va_S.rf
  have hDD : ∀ ws : va_W, ws.map (fun q => q.1) = [a_T 0, a_T 1] → va_D A ws := fun ws hw => zD hD (hw.trans rfl)
  have hl : lv_has ls 5 [(0, .ref (a_T 0)), (1, .int p1), (2, .int p2)] := hl
  unfold wpX4_wire at h
  refine lv_iload_n hx hb dX4_wire_0 rfl (lv_at hl 1 rfl) ?_
  refine lv_iconst (v := (1 : Int32)) hx hb dX4_wire_1 (by decide) ?_
  refine lv_icmp_lt (tgt := 9) hx hb dX4_wire_2 (by decide) (fun z => ?_) (fun z => ?_)
  · replace h := h.1 z
    refine lv_aload_n hx hb dX4_wire_9 rfl (lv_at hl 0 rfl) ?_
    refine lv_bipush (v := (-4 : Int32)) hx hb dX4_wire_10 (by decide) ?_
    refine zci hA (hDD _ rfl) hS (zrunV (As := [.int (-4 : Int32)]) (rest := []) S hK hA hE hP (hDD _ rfl) hS (mX4_refuse l D cI cJ cC G a_T a_n a_k a_t a_s a_r a_c _ T_isKept T_refusals (-4 : Int32) _ h) kX4_refuse ml_X4_51 ⟨rfl, rfl, by decide, by decide⟩ (q0 := 0) (ci := 4) rfl rfl rfl rfl hl.1 rfl (Nat.le_of_ble_eq_true rfl) dX4_wire_12 ⟨Nat.zero_le _, Nat.zero_le _⟩) (fun r_1 T_refusals_2 H locs h hP1 hk1 hS => ?_)
    try dsimp only at h
    have hP : va_P D vwCl ((bX4 cI cJ cC a_T a_n a_k a_t a_s a_r a_c T_isKept T_refusals_2)) H := hP1
    exact hret r_1 T_refusals_2 _ _ _ _ rfl h hP hS dX4_wire_15
  · replace h := h.2 z
    refine lv_iload_n hx hb dX4_wire_5 rfl (lv_at hl 2 rfl) ?_
    refine lv_if_ge (tgt := 16) hx hb dX4_wire_6 (by decide) (fun z => ?_) (fun z => ?_)
    · replace h := h.1 z
      refine lv_iload_n hx hb dX4_wire_16 rfl (lv_at hl 1 rfl) ?_
      refine lv_bipush (v := (40 : Int32)) hx hb dX4_wire_17 (by decide) ?_
      refine lv_icmp_gt (tgt := 28) hx hb dX4_wire_19 (by decide) (fun z => ?_) (fun z => ?_)
      · replace h := h.1 z
        refine lv_aload_n hx hb dX4_wire_28 rfl (lv_at hl 0 rfl) ?_
        refine lv_bipush (v := (-6 : Int32)) hx hb dX4_wire_29 (by decide) ?_
        refine zci hA (hDD _ rfl) hS (zrunV (As := [.int (-6 : Int32)]) (rest := []) S hK hA hE hP (hDD _ rfl) hS (mX4_refuse l D cI cJ cC G a_T a_n a_k a_t a_s a_r a_c _ T_isKept T_refusals (-6 : Int32) _ h) kX4_refuse ml_X4_51 ⟨rfl, rfl, by decide, by decide⟩ (q0 := 0) (ci := 4) rfl rfl rfl rfl hl.1 rfl (Nat.le_of_ble_eq_true rfl) dX4_wire_31 ⟨Nat.zero_le _, Nat.zero_le _⟩) (fun r_3 T_refusals_4 H locs h hP1 hk1 hS => ?_)
        try dsimp only at h
        have hP : va_P D vwCl ((bX4 cI cJ cC a_T a_n a_k a_t a_s a_r a_c T_isKept T_refusals_4)) H := hP1
        exact hret r_3 T_refusals_4 _ _ _ _ rfl h hP hS dX4_wire_34
      · replace h := h.2 z
        refine lv_iload_n hx hb dX4_wire_22 rfl (lv_at hl 2 rfl) ?_
        refine lv_bipush (v := (40 : Int32)) hx hb dX4_wire_23 (by decide) ?_
        refine lv_icmp_le (tgt := 35) hx hb dX4_wire_25 (by decide) (fun z => ?_) (fun z => ?_)
        · replace h := h.1 z
          refine lv_iload_n hx hb dX4_wire_35 rfl (lv_at hl 1 rfl) ?_
          refine lv_iload_n hx hb dX4_wire_36 rfl (lv_at hl 1 rfl) ?_
          refine lv_imul hx hb dX4_wire_37 ?_
          refine lv_iconst (v := (4 : Int32)) hx hb dX4_wire_38 (by decide) ?_
          refine lv_iload_n hx hb dX4_wire_39 rfl (lv_at hl 2 rfl) ?_
          refine lv_imul hx hb dX4_wire_40 ?_
          refine lv_iload_n hx hb dX4_wire_41 rfl (lv_at hl 2 rfl) ?_
          refine lv_imul hx hb dX4_wire_42 ?_
          refine lv_iadd hx hb dX4_wire_43 ?_
          refine lv_istore_n (lv' := [(3, .int ((p1 * p1) + (((4 : Int32) * p2) * p2))), (0, .ref (a_T 0)), (1, .int p1), (2, .int p2)]) hx hb dX4_wire_44 rfl hl (by decide) rfl (fun ls hl => ?_)
          refine lv_iconst (v := (1 : Int32)) hx hb dX4_wire_45 (by decide) ?_
          refine lv_istore (lv' := [(4, .int (1 : Int32)), (3, .int ((p1 * p1) + (((4 : Int32) * p2) * p2))), (0, .ref (a_T 0)), (1, .int p1), (2, .int p2)]) hx hb dX4_wire_46 hl (by decide) rfl (fun ls hl => ?_)
          obtain ⟨n_5, h⟩ := h
          refine wX4_wire_48 l D cI cJ cC G a_T a_n a_k a_t a_s a_r a_c p1 p2 ((p1 * p1) + (((4 : Int32) * p2) * p2)) T_isKept T_refusals _ S hK hDD hA hE (fun x4_6 H locs ls h hP hS hl => ?_) n_5 (1 : Int32) _ _ _ h hP hS (lv_sub hl [1, 0] rfl)
          try dsimp only at h
          refine lv_iload hx hb dX4_wire_69 (lv_at hl 0 rfl) ?_
          exact hret x4_6 T_refusals _ _ _ _ rfl h hP hS dX4_wire_71
        · replace h := h.2 z
          refine lv_aload_n hx hb dX4_wire_28 rfl (lv_at hl 0 rfl) ?_
          refine lv_bipush (v := (-6 : Int32)) hx hb dX4_wire_29 (by decide) ?_
          refine zci hA (hDD _ rfl) hS (zrunV (As := [.int (-6 : Int32)]) (rest := []) S hK hA hE hP (hDD _ rfl) hS (mX4_refuse l D cI cJ cC G a_T a_n a_k a_t a_s a_r a_c _ T_isKept T_refusals (-6 : Int32) _ h) kX4_refuse ml_X4_51 ⟨rfl, rfl, by decide, by decide⟩ (q0 := 0) (ci := 4) rfl rfl rfl rfl hl.1 rfl (Nat.le_of_ble_eq_true rfl) dX4_wire_31 ⟨Nat.zero_le _, Nat.zero_le _⟩) (fun r_7 T_refusals_8 H locs h hP1 hk1 hS => ?_)
          try dsimp only at h
          have hP : va_P D vwCl ((bX4 cI cJ cC a_T a_n a_k a_t a_s a_r a_c T_isKept T_refusals_8)) H := hP1
          exact hret r_7 T_refusals_8 _ _ _ _ rfl h hP hS dX4_wire_34
    · replace h := h.2 z
      refine lv_aload_n hx hb dX4_wire_9 rfl (lv_at hl 0 rfl) ?_
      refine lv_bipush (v := (-4 : Int32)) hx hb dX4_wire_10 (by decide) ?_
      refine zci hA (hDD _ rfl) hS (zrunV (As := [.int (-4 : Int32)]) (rest := []) S hK hA hE hP (hDD _ rfl) hS (mX4_refuse l D cI cJ cC G a_T a_n a_k a_t a_s a_r a_c _ T_isKept T_refusals (-4 : Int32) _ h) kX4_refuse ml_X4_51 ⟨rfl, rfl, by decide, by decide⟩ (q0 := 0) (ci := 4) rfl rfl rfl rfl hl.1 rfl (Nat.le_of_ble_eq_true rfl) dX4_wire_12 ⟨Nat.zero_le _, Nat.zero_le _⟩) (fun r_9 T_refusals_10 H locs h hP1 hk1 hS => ?_)
      try dsimp only at h
      have hP : va_P D vwCl ((bX4 cI cJ cC a_T a_n a_k a_t a_s a_r a_c T_isKept T_refusals_10)) H := hP1
      exact hret r_9 T_refusals_10 _ _ _ _ rfl h hP hS dX4_wire_15
def wpX4_twin (post : Int32 → (Nat → Int32) → Prop) (T_refusals : Nat → Int32) (n_open : Int32) (n_woods : Nat → Int32) (p1 : Int32) : Prop := wpX4_isNoInch (fun (r_1 : Int32) => ((r_1 = (0 : Int32) → (vp_in ((47 : Int32) - p1) 48 ∧ (wpJ6_bitCount_0f7a4 (fun (r_2 : Int32) => post r_2 T_refusals) (n_open &&& (n_woods ((47 : Int32) - p1).toNatClampNeg))))) ∧ (¬ (r_1 = (0 : Int32)) → (wpX4_refuse (fun (r_3 : Int32) (T_refusals_4 : Nat → Int32) => post r_3 T_refusals_4) T_refusals (-1 : Int32))))) p1
set_option maxHeartbeats 4000000 in
set_option maxRecDepth 100000 in
theorem mX4_twin (l : Launch) (D : va_G) (cI cJ cC : ClassId) (G : Nat → Nat → Nat) (a_T : Nat → Nat) (a_n : Nat → Nat) (a_k : Nat → Nat) (a_t : Nat → Nat) (a_s : Nat → Nat) (a_r : Nat → Nat) (a_c : Nat → Nat) (sz : Nat) (T_isKept : Int32) (T_refusals : Nat → Int32) (n_space : Int32) (n_beam : Int32) (n_door : Int32) (n_law : Int32) (n_used : Int32) (n_pipes : Int32) (n_drilled : Int64) (n_total : Int64) (n_open : Int32) (n_pipeInches : Nat → Int32) (n_pipeChances : Nat → Int32) (n_weights : Nat → Int64) (n_woods : Nat → Int32) (n_sums : Nat → Int64) (p1 : Int32) (post : Int32 → (Nat → Int32) → Prop) (h : wpX4_twin post T_refusals n_open n_woods p1) : Met l yX4_twin (wz yX4_twin cX4_twin 2 (some .int)) ({ frames := 1, cells := 0, slots := 0, locals := 21 }) (va_Pc [.ref (a_T 0), .int p1] (PW D (tz cI cJ cC) G ((bX4 cI cJ cC a_T a_n a_k a_t a_s a_r a_c T_isKept T_refusals) ++ (bX3 cI cJ cC a_n n_space n_beam n_door n_law n_used n_pipes n_drilled n_total n_open n_pipeInches n_pipeChances n_weights n_woods n_sums)) sz)) (va_Qi (fun (r : Int32) (u : (Nat → Int32)) => post r u) (fun (u : (Nat → Int32)) t => va_P D vwCl ((bX4 cI cJ cC a_T a_n a_k a_t a_s a_r a_c T_isKept u) ++ (bX3 cI cJ cC a_n n_space n_beam n_door n_law n_used n_pipes n_drilled n_total n_open n_pipeInches n_pipeChances n_weights n_woods n_sums)) t.heap) (va_A ((bX4 cI cJ cC a_T a_n a_k a_t a_s a_r a_c T_isKept T_refusals) ++ (bX3 cI cJ cC a_n n_space n_beam n_door n_law n_used n_pipes n_drilled n_total n_open n_pipeInches n_pipeChances n_weights n_woods n_sums)) sz)) 0 0 (va_A ((bX4 cI cJ cC a_T a_n a_k a_t a_s a_r a_c T_isKept T_refusals) ++ (bX3 cI cJ cC a_n n_space n_beam n_door n_law n_used n_pipes n_drilled n_total n_open n_pipeInches n_pipeChances n_weights n_woods n_sums)) sz) := by
  refine zmi (gw := fun (u : (Nat → Int32)) => (bX4 cI cJ cC a_T a_n a_k a_t a_s a_r a_c T_isKept u) ++ (bX3 cI cJ cC a_n n_space n_beam n_door n_law n_used n_pipes n_drilled n_total n_open n_pipeInches n_pipeChances n_weights n_woods n_sums)) (plainFor_of_name (by decide)) (Nat.le_of_ble_eq_true rfl) ?_
  intro p e s m below meth c A Q ls S hK hD hA hE hP hl hret
  obtain ⟨hx, hb, hml, hown, ht⟩ := id S
  have hS : va_S A s.heap s.heap [] := va_S.rf
  have hDD : ∀ ws : va_W, ws.map (fun q => q.1) = [a_T 0, a_T 1, a_n 0, a_n 1, a_n 2, a_n 3, a_n 4, a_n 5] → va_D A ws := fun ws hw => zD hD (hw.trans rfl)
  have hl : lv_has ls 2 [(0, .ref (a_T 0)), (1, .int p1)] := hl
  unfold wpX4_twin at h
  refine lv_iload_n hx hb dX4_twin_0 rfl (lv_at hl 1 rfl) ?_
  refine zci hA zD0 hS (zrunS (As := [.int p1]) (rest := []) S hK hA hE zP0 zD0 hS (mX4_isNoInch l D cI cJ cC G _ p1 _ h) kX4_isNoInch ml_X4_95 ⟨rfl, rfl, by decide, by decide⟩ rfl hl.1 rfl (Nat.le_of_ble_eq_true rfl) dX4_twin_1 ⟨Nat.zero_le _, Nat.zero_le _⟩) (fun r_1 u H locs h hP1 hk1 hS => ?_)
  try dsimp only at h
  have hP : va_P D vwCl ((bX4 cI cJ cC a_T a_n a_k a_t a_s a_r a_c T_isKept T_refusals) ++ (bX3 cI cJ cC a_n n_space n_beam n_door n_law n_used n_pipes n_drilled n_total n_open n_pipeInches n_pipeChances n_weights n_woods n_sums)) H := zKeep hP hk1
  refine lv_if_eq (tgt := 13) hx hb dX4_twin_4 (by decide) (fun z => ?_) (fun z => ?_)
  · replace h := h.1 z
    refine lv_aload_n hx hb dX4_twin_13 rfl (lv_at hl 0 rfl) ?_
    refine va_get (D := D) (ci := 4) (v := .ref (a_n 0)) (C := RX4) (T := TX4) (N := 8) hx hb ht inX4 hown hK hP 0 rfl rfl 0 (by decide) (ht _ fl_X4_10) (fun _ h9 => h9) rfl dX4_twin_14 ?_
    refine va_get (D := D) (ci := 3) (v := .int n_open) (C := RX3) (T := TX3) (N := 14) hx hb ht inX3 hown hK hP 2 rfl rfl 13 (by decide) (ht _ fl_X4_140) (fun _ h9 => h9) rfl dX4_twin_17 ?_
    refine lv_aload_n hx hb dX4_twin_20 rfl (lv_at hl 0 rfl) ?_
    refine va_get (D := D) (ci := 4) (v := .ref (a_n 0)) (C := RX4) (T := TX4) (N := 8) hx hb ht inX4 hown hK hP 0 rfl rfl 0 (by decide) (ht _ fl_X4_10) (fun _ h9 => h9) rfl dX4_twin_21 ?_
    refine va_get (D := D) (ci := 3) (v := .ref (a_n 4)) (C := RX3) (T := TX3) (N := 14) hx hb ht inX3 hown hK hP 2 rfl rfl 10 (by decide) (ht _ fl_X4_227) (fun _ h9 => h9) rfl dX4_twin_24 ?_
    refine lv_bipush (v := (47 : Int32)) hx hb dX4_twin_27 (by decide) ?_
    refine lv_iload_n hx hb dX4_twin_29 rfl (lv_at hl 1 rfl) ?_
    refine lv_isub hx hb dX4_twin_30 ?_
    obtain ⟨hin, h⟩ := h
    refine va_iald hx hb hK hP 6 0 rfl rfl hin dX4_twin_31 ?_
    refine lv_iand hx hb dX4_twin_32 ?_
    refine zci hA zD0 hS (zrunS (As := [.int (n_open &&& (n_woods ((47 : Int32) - p1).toNatClampNeg))]) (rest := []) S hK hA hE zP0 zD0 hS (mJ6_bitCount_0f7a4 l D cI cJ cC G _ (n_open &&& (n_woods ((47 : Int32) - p1).toNatClampNeg)) _ h) kJ6_bitCount_0f7a4 ml_X4_143 ⟨rfl, rfl, by decide, by decide⟩ rfl hl.1 rfl (Nat.le_of_ble_eq_true rfl) dX4_twin_33 ⟨Nat.zero_le _, Nat.zero_le _⟩) (fun r_2 u H locs h hP1 hk1 hS => ?_)
    try dsimp only at h
    have hP : va_P D vwCl ((bX4 cI cJ cC a_T a_n a_k a_t a_s a_r a_c T_isKept T_refusals) ++ (bX3 cI cJ cC a_n n_space n_beam n_door n_law n_used n_pipes n_drilled n_total n_open n_pipeInches n_pipeChances n_weights n_woods n_sums)) H := zKeep hP hk1
    exact hret r_2 T_refusals _ _ _ _ rfl h hP hS dX4_twin_36
  · replace h := h.2 z
    refine lv_aload_n hx hb dX4_twin_7 rfl (lv_at hl 0 rfl) ?_
    refine lv_iconst (v := (-1 : Int32)) hx hb dX4_twin_8 (by decide) ?_
    have hPw : va_P D vwCl ((bX4 cI cJ cC a_T a_n a_k a_t a_s a_r a_c T_isKept T_refusals)) _ := hP.sub [0, 1] rfl
    have hDw : va_D A ((bX4 cI cJ cC a_T a_n a_k a_t a_s a_r a_c T_isKept T_refusals)) := (hDD _ rfl).sub (ws := (bX4 cI cJ cC a_T a_n a_k a_t a_s a_r a_c T_isKept T_refusals) ++ (bX3 cI cJ cC a_n n_space n_beam n_door n_law n_used n_pipes n_drilled n_total n_open n_pipeInches n_pipeChances n_weights n_woods n_sums)) [0, 1] (by decide) rfl
    refine zci hA hDw hS (zrunV (As := [.int (-1 : Int32)]) (rest := []) S hK hA hE hPw hDw hS (mX4_refuse l D cI cJ cC G a_T a_n a_k a_t a_s a_r a_c _ T_isKept T_refusals (-1 : Int32) _ h) kX4_refuse ml_X4_51 ⟨rfl, rfl, by decide, by decide⟩ (q0 := 0) (ci := 4) rfl rfl rfl rfl hl.1 rfl (Nat.le_of_ble_eq_true rfl) dX4_twin_9 ⟨Nat.zero_le _, Nat.zero_le _⟩) (fun r_3 T_refusals_4 H locs h hP1 hk1 hS => ?_)
    try dsimp only at h
    have hP : va_P D vwCl ((bX4 cI cJ cC a_T a_n a_k a_t a_s a_r a_c T_isKept T_refusals_4) ++ (bX3 cI cJ cC a_n n_space n_beam n_door n_law n_used n_pipes n_drilled n_total n_open n_pipeInches n_pipeChances n_weights n_woods n_sums)) H := zMerge hP (hDD _ rfl) [0, 1] rfl rfl hk1 hP1
    exact hret r_3 T_refusals_4 _ _ _ _ rfl h hP hS dX4_twin_12
def wpX4_twinLikely (post : Int64 → (Nat → Int32) → Prop) (T_refusals : Nat → Int32) (n_weights : Nat → Int64) (n_woods : Nat → Int32) (n_sums : Nat → Int64) (p1 : Int32) (p2 : Int32) (p3 : Int32) : Prop := wpX4_isNoInch (fun (r_1 : Int32) => ((r_1 = (0 : Int32) → (wpX4_isNoInch (fun (r_4 : Int32) => ((r_4 = (0 : Int32) → (wpX4_isNoPart (fun (r_5 : Int32) => ((r_5 = (0 : Int32) → (wpX3_sumAtBoth (fun (r_6 : Int64) => vp_in ((47 : Int32) - p1) 48 ∧ (wpX4_partOf (fun (r_7 : Int64) => post r_7 T_refusals) r_6 (n_sums ((47 : Int32) - p1).toNatClampNeg) p3)) n_weights n_woods ((47 : Int32) - p1) p2)) ∧ (¬ (r_5 = (0 : Int32)) → (wpX4_refuseLong (fun (r_8 : Int64) (T_refusals_9 : Nat → Int32) => post r_8 T_refusals_9) T_refusals (-2 : Int32))))) p3)) ∧ (¬ (r_4 = (0 : Int32)) → (wpX4_refuseLong (fun (r_10 : Int64) (T_refusals_11 : Nat → Int32) => post r_10 T_refusals_11) T_refusals (-1 : Int32))))) p2)) ∧ (¬ (r_1 = (0 : Int32)) → (wpX4_refuseLong (fun (r_2 : Int64) (T_refusals_3 : Nat → Int32) => post r_2 T_refusals_3) T_refusals (-1 : Int32))))) p1
set_option maxHeartbeats 4000000 in
set_option maxRecDepth 100000 in
theorem mX4_twinLikely (l : Launch) (D : va_G) (cI cJ cC : ClassId) (G : Nat → Nat → Nat) (a_T : Nat → Nat) (a_n : Nat → Nat) (a_k : Nat → Nat) (a_t : Nat → Nat) (a_s : Nat → Nat) (a_r : Nat → Nat) (a_c : Nat → Nat) (sz : Nat) (T_isKept : Int32) (T_refusals : Nat → Int32) (n_space : Int32) (n_beam : Int32) (n_door : Int32) (n_law : Int32) (n_used : Int32) (n_pipes : Int32) (n_drilled : Int64) (n_total : Int64) (n_open : Int32) (n_pipeInches : Nat → Int32) (n_pipeChances : Nat → Int32) (n_weights : Nat → Int64) (n_woods : Nat → Int32) (n_sums : Nat → Int64) (p1 : Int32) (p2 : Int32) (p3 : Int32) (post : Int64 → (Nat → Int32) → Prop) (h : wpX4_twinLikely post T_refusals n_weights n_woods n_sums p1 p2 p3) : Met l yX4_twinLikely (wz yX4_twinLikely cX4_twinLikely 5 (some .long)) ({ frames := 3, cells := 0, slots := 0, locals := 67 }) (va_Pc [.ref (a_T 0), .int p1, .int p2, .int p3] (PW D (tz cI cJ cC) G ((bX4 cI cJ cC a_T a_n a_k a_t a_s a_r a_c T_isKept T_refusals) ++ (bX3 cI cJ cC a_n n_space n_beam n_door n_law n_used n_pipes n_drilled n_total n_open n_pipeInches n_pipeChances n_weights n_woods n_sums)) sz)) (va_Ql (fun (r : Int64) (u : (Nat → Int32)) => post r u) (fun (u : (Nat → Int32)) t => va_P D vwCl ((bX4 cI cJ cC a_T a_n a_k a_t a_s a_r a_c T_isKept u) ++ (bX3 cI cJ cC a_n n_space n_beam n_door n_law n_used n_pipes n_drilled n_total n_open n_pipeInches n_pipeChances n_weights n_woods n_sums)) t.heap) (va_A ((bX4 cI cJ cC a_T a_n a_k a_t a_s a_r a_c T_isKept T_refusals) ++ (bX3 cI cJ cC a_n n_space n_beam n_door n_law n_used n_pipes n_drilled n_total n_open n_pipeInches n_pipeChances n_weights n_woods n_sums)) sz)) 0 0 (va_A ((bX4 cI cJ cC a_T a_n a_k a_t a_s a_r a_c T_isKept T_refusals) ++ (bX3 cI cJ cC a_n n_space n_beam n_door n_law n_used n_pipes n_drilled n_total n_open n_pipeInches n_pipeChances n_weights n_woods n_sums)) sz) := by
  refine zml (gw := fun (u : (Nat → Int32)) => (bX4 cI cJ cC a_T a_n a_k a_t a_s a_r a_c T_isKept u) ++ (bX3 cI cJ cC a_n n_space n_beam n_door n_law n_used n_pipes n_drilled n_total n_open n_pipeInches n_pipeChances n_weights n_woods n_sums)) (plainFor_of_name (by decide)) (Nat.le_of_ble_eq_true rfl) ?_
  intro p e s m below meth c A Q ls S hK hD hA hE hP hl hret
  obtain ⟨hx, hb, hml, hown, ht⟩ := id S
  have hS : va_S A s.heap s.heap [] := va_S.rf
  have hDD : ∀ ws : va_W, ws.map (fun q => q.1) = [a_T 0, a_T 1, a_n 0, a_n 1, a_n 2, a_n 3, a_n 4, a_n 5] → va_D A ws := fun ws hw => zD hD (hw.trans rfl)
  have hl : lv_has ls 5 [(0, .ref (a_T 0)), (1, .int p1), (2, .int p2), (3, .int p3)] := hl
  unfold wpX4_twinLikely at h
  refine lv_iload_n hx hb dX4_twinLikely_0 rfl (lv_at hl 1 rfl) ?_
  refine zci hA zD0 hS (zrunS (As := [.int p1]) (rest := []) S hK hA hE zP0 zD0 hS (mX4_isNoInch l D cI cJ cC G _ p1 _ h) kX4_isNoInch ml_X4_95 ⟨rfl, rfl, by decide, by decide⟩ rfl hl.1 rfl (Nat.le_of_ble_eq_true rfl) dX4_twinLikely_1 ⟨Nat.zero_le _, Nat.zero_le _⟩) (fun r_1 u H locs h hP1 hk1 hS => ?_)
  try dsimp only at h
  have hP : va_P D vwCl ((bX4 cI cJ cC a_T a_n a_k a_t a_s a_r a_c T_isKept T_refusals) ++ (bX3 cI cJ cC a_n n_space n_beam n_door n_law n_used n_pipes n_drilled n_total n_open n_pipeInches n_pipeChances n_weights n_woods n_sums)) H := zKeep hP hk1
  refine lv_if_ne (tgt := 14) hx hb dX4_twinLikely_4 (by decide) (fun z => ?_) (fun z => ?_)
  · replace h := h.2 z
    refine lv_aload_n hx hb dX4_twinLikely_14 rfl (lv_at hl 0 rfl) ?_
    refine lv_iconst (v := (-1 : Int32)) hx hb dX4_twinLikely_15 (by decide) ?_
    have hPw : va_P D vwCl ((bX4 cI cJ cC a_T a_n a_k a_t a_s a_r a_c T_isKept T_refusals)) _ := hP.sub [0, 1] rfl
    have hDw : va_D A ((bX4 cI cJ cC a_T a_n a_k a_t a_s a_r a_c T_isKept T_refusals)) := (hDD _ rfl).sub (ws := (bX4 cI cJ cC a_T a_n a_k a_t a_s a_r a_c T_isKept T_refusals) ++ (bX3 cI cJ cC a_n n_space n_beam n_door n_law n_used n_pipes n_drilled n_total n_open n_pipeInches n_pipeChances n_weights n_woods n_sums)) [0, 1] (by decide) rfl
    refine zcl hA hDw hS (zrunV (As := [.int (-1 : Int32)]) (rest := []) S hK hA hE hPw hDw hS (mX4_refuseLong l D cI cJ cC G a_T a_n a_k a_t a_s a_r a_c _ T_isKept T_refusals (-1 : Int32) _ h) kX4_refuseLong ml_X4_105 ⟨rfl, rfl, by decide, by decide⟩ (q0 := 0) (ci := 4) rfl rfl rfl rfl hl.1 rfl (Nat.le_of_ble_eq_true rfl) dX4_twinLikely_16 ⟨Nat.zero_le _, Nat.zero_le _⟩) (fun r_2 T_refusals_3 H locs h hP1 hk1 hS => ?_)
    try dsimp only at h
    have hP : va_P D vwCl ((bX4 cI cJ cC a_T a_n a_k a_t a_s a_r a_c T_isKept T_refusals_3) ++ (bX3 cI cJ cC a_n n_space n_beam n_door n_law n_used n_pipes n_drilled n_total n_open n_pipeInches n_pipeChances n_weights n_woods n_sums)) H := zMerge hP (hDD _ rfl) [0, 1] rfl rfl hk1 hP1
    exact hret r_2 T_refusals_3 _ _ _ _ h hP hS dX4_twinLikely_19
  · replace h := h.1 z
    refine lv_iload_n hx hb dX4_twinLikely_7 rfl (lv_at hl 2 rfl) ?_
    refine zci hA zD0 hS (zrunS (As := [.int p2]) (rest := []) S hK hA hE zP0 zD0 hS (mX4_isNoInch l D cI cJ cC G _ p2 _ h) kX4_isNoInch ml_X4_95 ⟨rfl, rfl, by decide, by decide⟩ rfl hl.1 rfl (Nat.le_of_ble_eq_true rfl) dX4_twinLikely_8 ⟨Nat.zero_le _, Nat.zero_le _⟩) (fun r_4 u H locs h hP1 hk1 hS => ?_)
    try dsimp only at h
    have hP : va_P D vwCl ((bX4 cI cJ cC a_T a_n a_k a_t a_s a_r a_c T_isKept T_refusals) ++ (bX3 cI cJ cC a_n n_space n_beam n_door n_law n_used n_pipes n_drilled n_total n_open n_pipeInches n_pipeChances n_weights n_woods n_sums)) H := zKeep hP hk1
    refine lv_if_eq (tgt := 20) hx hb dX4_twinLikely_11 (by decide) (fun z => ?_) (fun z => ?_)
    · replace h := h.1 z
      refine lv_iload_n hx hb dX4_twinLikely_20 rfl (lv_at hl 3 rfl) ?_
      refine zci hA zD0 hS (zrunS (As := [.int p3]) (rest := []) S hK hA hE zP0 zD0 hS (mX4_isNoPart l D cI cJ cC G _ p3 _ h) kX4_isNoPart ml_X4_173 ⟨rfl, rfl, by decide, by decide⟩ rfl hl.1 rfl (Nat.le_of_ble_eq_true rfl) dX4_twinLikely_21 ⟨Nat.zero_le _, Nat.zero_le _⟩) (fun r_5 u H locs h hP1 hk1 hS => ?_)
      try dsimp only at h
      have hP : va_P D vwCl ((bX4 cI cJ cC a_T a_n a_k a_t a_s a_r a_c T_isKept T_refusals) ++ (bX3 cI cJ cC a_n n_space n_beam n_door n_law n_used n_pipes n_drilled n_total n_open n_pipeInches n_pipeChances n_weights n_woods n_sums)) H := zKeep hP hk1
      refine lv_if_eq (tgt := 34) hx hb dX4_twinLikely_24 (by decide) (fun z => ?_) (fun z => ?_)
      · replace h := h.1 z
        refine lv_bipush (v := (47 : Int32)) hx hb dX4_twinLikely_34 (by decide) ?_
        refine lv_iload_n hx hb dX4_twinLikely_36 rfl (lv_at hl 1 rfl) ?_
        refine lv_isub hx hb dX4_twinLikely_37 ?_
        refine lv_istore (lv' := [(4, .int ((47 : Int32) - p1)), (0, .ref (a_T 0)), (1, .int p1), (2, .int p2), (3, .int p3)]) hx hb dX4_twinLikely_38 hl (by decide) rfl (fun ls hl => ?_)
        refine lv_aload_n hx hb dX4_twinLikely_40 rfl (lv_at hl 1 rfl) ?_
        refine va_get (D := D) (ci := 4) (v := .ref (a_n 0)) (C := RX4) (T := TX4) (N := 8) hx hb ht inX4 hown hK hP 0 rfl rfl 0 (by decide) (ht _ fl_X4_10) (fun _ h9 => h9) rfl dX4_twinLikely_41 ?_
        refine lv_iload hx hb dX4_twinLikely_44 (lv_at hl 0 rfl) ?_
        refine lv_iload_n hx hb dX4_twinLikely_46 rfl (lv_at hl 3 rfl) ?_
        have hPw : va_P D vwCl ((bX3 cI cJ cC a_n n_space n_beam n_door n_law n_used n_pipes n_drilled n_total n_open n_pipeInches n_pipeChances n_weights n_woods n_sums)) _ := hP.sub [2, 3, 4, 5, 6, 7] rfl
        have hDw : va_D A ((bX3 cI cJ cC a_n n_space n_beam n_door n_law n_used n_pipes n_drilled n_total n_open n_pipeInches n_pipeChances n_weights n_woods n_sums)) := (hDD _ rfl).sub (ws := (bX4 cI cJ cC a_T a_n a_k a_t a_s a_r a_c T_isKept T_refusals) ++ (bX3 cI cJ cC a_n n_space n_beam n_door n_law n_used n_pipes n_drilled n_total n_open n_pipeInches n_pipeChances n_weights n_woods n_sums)) [2, 3, 4, 5, 6, 7] (by decide) rfl
        refine zcl hA hDw hS (zrunV (As := [.int ((47 : Int32) - p1), .int p2]) (rest := []) S hK hA hE hPw hDw hS (mX3_sumAtBoth l D cI cJ cC G a_n _ n_space n_beam n_door n_law n_used n_pipes n_drilled n_total n_open n_pipeInches n_pipeChances n_weights n_woods n_sums ((47 : Int32) - p1) p2 _ h) kX3_sumAtBoth ml_X4_223 ⟨rfl, rfl, by decide, by decide⟩ (q0 := 0) (ci := 3) rfl rfl rfl rfl hl.1 rfl (Nat.le_of_ble_eq_true rfl) dX4_twinLikely_47 ⟨Nat.zero_le _, Nat.zero_le _⟩) (fun r_6 u H locs h hP1 hk1 hS => ?_)
        try dsimp only at h
        have hP : va_P D vwCl ((bX4 cI cJ cC a_T a_n a_k a_t a_s a_r a_c T_isKept T_refusals) ++ (bX3 cI cJ cC a_n n_space n_beam n_door n_law n_used n_pipes n_drilled n_total n_open n_pipeInches n_pipeChances n_weights n_woods n_sums)) H := zMerge hP (hDD _ rfl) [2, 3, 4, 5, 6, 7] rfl rfl hk1 hP1
        refine lv_aload_n hx hb dX4_twinLikely_50 rfl (lv_at hl 1 rfl) ?_
        refine va_get (D := D) (ci := 4) (v := .ref (a_n 0)) (C := RX4) (T := TX4) (N := 8) hx hb ht inX4 hown hK hP 0 rfl rfl 0 (by decide) (ht _ fl_X4_10) (fun _ h9 => h9) rfl dX4_twinLikely_51 ?_
        refine va_get (D := D) (ci := 3) (v := .ref (a_n 5)) (C := RX3) (T := TX3) (N := 14) hx hb ht inX3 hown hK hP 2 rfl rfl 11 (by decide) (ht _ fl_X4_176) (fun _ h9 => h9) rfl dX4_twinLikely_54 ?_
        refine lv_iload hx hb dX4_twinLikely_57 (lv_at hl 0 rfl) ?_
        obtain ⟨hin, h⟩ := h
        refine va_lald hx hb hK hP 7 1 rfl rfl hin dX4_twinLikely_59 ?_
        refine lv_iload_n hx hb dX4_twinLikely_60 rfl (lv_at hl 4 rfl) ?_
        refine zcl hA zD0 hS (zrunS (As := [.long r_6, .long (n_sums ((47 : Int32) - p1).toNatClampNeg), .int p3]) (rest := []) S hK hA hE zP0 zD0 hS (mX4_partOf l D cI cJ cC G _ r_6 (n_sums ((47 : Int32) - p1).toNatClampNeg) p3 _ h) kX4_partOf ml_X4_182 ⟨rfl, rfl, by decide, by decide⟩ rfl hl.1 rfl (Nat.le_of_ble_eq_true rfl) dX4_twinLikely_61 ⟨Nat.zero_le _, Nat.zero_le _⟩) (fun r_7 u H locs h hP1 hk1 hS => ?_)
        try dsimp only at h
        have hP : va_P D vwCl ((bX4 cI cJ cC a_T a_n a_k a_t a_s a_r a_c T_isKept T_refusals) ++ (bX3 cI cJ cC a_n n_space n_beam n_door n_law n_used n_pipes n_drilled n_total n_open n_pipeInches n_pipeChances n_weights n_woods n_sums)) H := zKeep hP hk1
        exact hret r_7 T_refusals _ _ _ _ h hP hS dX4_twinLikely_64
      · replace h := h.2 z
        refine lv_aload_n hx hb dX4_twinLikely_27 rfl (lv_at hl 0 rfl) ?_
        refine lv_bipush (v := (-2 : Int32)) hx hb dX4_twinLikely_28 (by decide) ?_
        have hPw : va_P D vwCl ((bX4 cI cJ cC a_T a_n a_k a_t a_s a_r a_c T_isKept T_refusals)) _ := hP.sub [0, 1] rfl
        have hDw : va_D A ((bX4 cI cJ cC a_T a_n a_k a_t a_s a_r a_c T_isKept T_refusals)) := (hDD _ rfl).sub (ws := (bX4 cI cJ cC a_T a_n a_k a_t a_s a_r a_c T_isKept T_refusals) ++ (bX3 cI cJ cC a_n n_space n_beam n_door n_law n_used n_pipes n_drilled n_total n_open n_pipeInches n_pipeChances n_weights n_woods n_sums)) [0, 1] (by decide) rfl
        refine zcl hA hDw hS (zrunV (As := [.int (-2 : Int32)]) (rest := []) S hK hA hE hPw hDw hS (mX4_refuseLong l D cI cJ cC G a_T a_n a_k a_t a_s a_r a_c _ T_isKept T_refusals (-2 : Int32) _ h) kX4_refuseLong ml_X4_105 ⟨rfl, rfl, by decide, by decide⟩ (q0 := 0) (ci := 4) rfl rfl rfl rfl hl.1 rfl (Nat.le_of_ble_eq_true rfl) dX4_twinLikely_30 ⟨Nat.zero_le _, Nat.zero_le _⟩) (fun r_8 T_refusals_9 H locs h hP1 hk1 hS => ?_)
        try dsimp only at h
        have hP : va_P D vwCl ((bX4 cI cJ cC a_T a_n a_k a_t a_s a_r a_c T_isKept T_refusals_9) ++ (bX3 cI cJ cC a_n n_space n_beam n_door n_law n_used n_pipes n_drilled n_total n_open n_pipeInches n_pipeChances n_weights n_woods n_sums)) H := zMerge hP (hDD _ rfl) [0, 1] rfl rfl hk1 hP1
        exact hret r_8 T_refusals_9 _ _ _ _ h hP hS dX4_twinLikely_33
    · replace h := h.2 z
      refine lv_aload_n hx hb dX4_twinLikely_14 rfl (lv_at hl 0 rfl) ?_
      refine lv_iconst (v := (-1 : Int32)) hx hb dX4_twinLikely_15 (by decide) ?_
      have hPw : va_P D vwCl ((bX4 cI cJ cC a_T a_n a_k a_t a_s a_r a_c T_isKept T_refusals)) _ := hP.sub [0, 1] rfl
      have hDw : va_D A ((bX4 cI cJ cC a_T a_n a_k a_t a_s a_r a_c T_isKept T_refusals)) := (hDD _ rfl).sub (ws := (bX4 cI cJ cC a_T a_n a_k a_t a_s a_r a_c T_isKept T_refusals) ++ (bX3 cI cJ cC a_n n_space n_beam n_door n_law n_used n_pipes n_drilled n_total n_open n_pipeInches n_pipeChances n_weights n_woods n_sums)) [0, 1] (by decide) rfl
      refine zcl hA hDw hS (zrunV (As := [.int (-1 : Int32)]) (rest := []) S hK hA hE hPw hDw hS (mX4_refuseLong l D cI cJ cC G a_T a_n a_k a_t a_s a_r a_c _ T_isKept T_refusals (-1 : Int32) _ h) kX4_refuseLong ml_X4_105 ⟨rfl, rfl, by decide, by decide⟩ (q0 := 0) (ci := 4) rfl rfl rfl rfl hl.1 rfl (Nat.le_of_ble_eq_true rfl) dX4_twinLikely_16 ⟨Nat.zero_le _, Nat.zero_le _⟩) (fun r_10 T_refusals_11 H locs h hP1 hk1 hS => ?_)
      try dsimp only at h
      have hP : va_P D vwCl ((bX4 cI cJ cC a_T a_n a_k a_t a_s a_r a_c T_isKept T_refusals_11) ++ (bX3 cI cJ cC a_n n_space n_beam n_door n_law n_used n_pipes n_drilled n_total n_open n_pipeInches n_pipeChances n_weights n_woods n_sums)) H := zMerge hP (hDD _ rfl) [0, 1] rfl rfl hk1 hP1
      exact hret r_10 T_refusals_11 _ _ _ _ h hP hS dX4_twinLikely_19
