abbrev PX0 : Type := Int32 × (Nat → Int32)
abbrev pX0 (cI cJ cC : ClassId) (a : Nat → Nat) (v : PX0) : va_W := bX0 cI cJ cC a v.1 v.2
abbrev PX1 : Type := Int32 × Int64 × Int32 × (Nat → Int32) × (Nat → Int64)
abbrev pX1 (cI cJ cC : ClassId) (a : Nat → Nat) (v : PX1) : va_W := bX1 cI cJ cC a v.1 v.2.1 v.2.2.1 v.2.2.2.1 v.2.2.2.2
abbrev PX2 : Type := Int32 × Int32 × (Nat → Int32)
abbrev pX2 (cI cJ cC : ClassId) (a : Nat → Nat) (v : PX2) : va_W := bX2 cI cJ cC a v.1 v.2.1 v.2.2
abbrev PX3 : Type := Int32 × Int32 × Int32 × Int32 × Int32 × Int32 × Int64 × Int64 × Int32 × (Nat → Int32) × (Nat → Int32) × (Nat → Int64) × (Nat → Int32) × (Nat → Int64)
abbrev pX3 (cI cJ cC : ClassId) (a : Nat → Nat) (v : PX3) : va_W := bX3 cI cJ cC a v.1 v.2.1 v.2.2.1 v.2.2.2.1 v.2.2.2.2.1 v.2.2.2.2.2.1 v.2.2.2.2.2.2.1 v.2.2.2.2.2.2.2.1 v.2.2.2.2.2.2.2.2.1 v.2.2.2.2.2.2.2.2.2.1 v.2.2.2.2.2.2.2.2.2.2.1 v.2.2.2.2.2.2.2.2.2.2.2.1 v.2.2.2.2.2.2.2.2.2.2.2.2.1 v.2.2.2.2.2.2.2.2.2.2.2.2.2
abbrev PX4 : Type := Int32 × (Nat → Int32)
abbrev pX4 (cI cJ cC : ClassId) (a : Nat → Nat) (a_n : Nat → Nat) (a_k : Nat → Nat) (a_t : Nat → Nat) (a_s : Nat → Nat) (a_r : Nat → Nat) (a_c : Nat → Nat) (v : PX4) : va_W := bX4 cI cJ cC a a_n a_k a_t a_s a_r a_c v.1 v.2
abbrev PX5 : Type := Int32 × Int32 × Int32 × Int32 × Int32 × Int32 × Int32 × Int32 × Int32 × Int64 × Int32 × (Nat → Int32) × (Nat → Int32) × (Nat → Int32) × (Nat → Int32) × (Nat → Int32) × (Nat → Int32) × (Nat → Int32) × (Nat → Int32) × (Nat → Int32) × (Nat → Int32) × (Nat → Int32) × (Nat → Int64) × (Nat → Int32)
abbrev pX5 (cI cJ cC : ClassId) (a : Nat → Nat) (v : PX5) : va_W := bX5 cI cJ cC a v.1 v.2.1 v.2.2.1 v.2.2.2.1 v.2.2.2.2.1 v.2.2.2.2.2.1 v.2.2.2.2.2.2.1 v.2.2.2.2.2.2.2.1 v.2.2.2.2.2.2.2.2.1 v.2.2.2.2.2.2.2.2.2.1 v.2.2.2.2.2.2.2.2.2.2.1 v.2.2.2.2.2.2.2.2.2.2.2.1 v.2.2.2.2.2.2.2.2.2.2.2.2.1 v.2.2.2.2.2.2.2.2.2.2.2.2.2.1 v.2.2.2.2.2.2.2.2.2.2.2.2.2.2.1 v.2.2.2.2.2.2.2.2.2.2.2.2.2.2.2.1 v.2.2.2.2.2.2.2.2.2.2.2.2.2.2.2.2.1 v.2.2.2.2.2.2.2.2.2.2.2.2.2.2.2.2.2.1 v.2.2.2.2.2.2.2.2.2.2.2.2.2.2.2.2.2.2.1 v.2.2.2.2.2.2.2.2.2.2.2.2.2.2.2.2.2.2.2.1 v.2.2.2.2.2.2.2.2.2.2.2.2.2.2.2.2.2.2.2.2.1 v.2.2.2.2.2.2.2.2.2.2.2.2.2.2.2.2.2.2.2.2.2.1 v.2.2.2.2.2.2.2.2.2.2.2.2.2.2.2.2.2.2.2.2.2.2.1 v.2.2.2.2.2.2.2.2.2.2.2.2.2.2.2.2.2.2.2.2.2.2.2
abbrev RT : Type := PX4 → PX3 → PX3 → PX2 → PX0 → PX5 → Prop
def dj (l1 l2 : List Nat) : Prop := ∀ q, q ∈ l1 → q ∉ l2
theorem dj_app {l a b : List Nat} (h1 : dj l a) (h2 : dj l b) : dj l (a ++ b) := fun q hq h => (List.mem_append.mp h).elim (h1 q hq) (h2 q hq)
theorem zKeepB {D : va_G} {wB wc : va_W} {H H1 : Heap} (hP : va_P D vwCl wB H) (hk : ∀ q : Nat, q < H.size → ¬ va_A wc H.size q → H1[q]? = H[q]?) (hd : dj (wB.map (fun q => q.1)) (wc.map (fun q => q.1))) : va_P D vwCl wB H1 :=
  hP.kept fun k q hq => hk q.1 (hP k q hq).lt (by
    intro h
    rcases h with ⟨k2, e, h⟩ | h
    · exact hd q.1 (List.mem_map.mpr ⟨q, List.mem_of_getElem? hq, rfl⟩) (List.mem_map.mpr ⟨(q.1, e), List.mem_of_getElem? h, rfl⟩)
    · exact absurd (hP k q hq).lt (by omega))
theorem zPl {D : va_G} {a b : va_W} {H : Heap} (h : va_P D vwCl (a ++ b) H) : va_P D vwCl a H := fun k q hq => h k q (by rw [List.getElem?_append_left (List.getElem?_eq_some_iff.mp hq).1]; exact hq)
theorem zPr {D : va_G} {a b : va_W} {H : Heap} (h : va_P D vwCl (a ++ b) H) : va_P D vwCl b H := fun k q hq => h (a.length + k) q (by rw [List.getElem?_append_right (Nat.le_add_right _ _), Nat.add_sub_cancel_left]; exact hq)
abbrev adr (a_T a_n a_k a_t a_s a_r a_c a_M : Nat → Nat) (k : Nat) : List Nat := match k with
  | 0 => [a_T 0, a_T 1]
  | 1 => [a_n 0, a_n 1, a_n 2, a_n 3, a_n 4, a_n 5]
  | 2 => [a_k 0, a_k 1, a_k 2, a_k 3, a_k 4, a_k 5]
  | 3 => [a_t 0, a_t 1, a_t 2, a_t 3, a_t 4, a_t 5]
  | 4 => [a_s 0, a_s 1]
  | 5 => [a_r 0, a_r 1]
  | 6 => [a_c 0, a_c 1, a_c 2]
  | _ => [a_M 0, a_M 1, a_M 2, a_M 3, a_M 4, a_M 5, a_M 6, a_M 7, a_M 8, a_M 9, a_M 10, a_M 11, a_M 12, a_M 13]
def LC (a_T a_n a_k a_t a_s a_r a_c a_M : Nat → Nat) (A : Nat → Prop) : Prop := (∀ i j : Nat, i ≠ j → i < 8 → j < 8 → dj (adr a_T a_n a_k a_t a_s a_r a_c a_M i) (adr a_T a_n a_k a_t a_s a_r a_c a_M j)) ∧ (∀ ws : va_W, ws.map (fun q => q.1) = [a_T 0, a_T 1, a_s 0, a_s 1] → va_D A ws) ∧ (∀ ws : va_W, ws.map (fun q => q.1) = [a_T 0, a_T 1, a_n 0, a_n 1, a_n 2, a_n 3, a_n 4, a_n 5, a_t 0, a_t 1, a_t 2, a_t 3, a_t 4, a_t 5, a_s 0, a_s 1] → va_D A ws) ∧ (∀ ws : va_W, ws.map (fun q => q.1) = [a_T 0, a_T 1, a_n 0, a_n 1, a_n 2, a_n 3, a_n 4, a_n 5] → va_D A ws) ∧ (∀ ws : va_W, ws.map (fun q => q.1) = [a_T 0, a_T 1] → va_D A ws) ∧ (∀ ws : va_W, ws.map (fun q => q.1) = [a_T 0, a_T 1, a_n 0, a_n 1, a_n 2, a_n 3, a_n 4, a_n 5, a_c 0, a_c 1, a_c 2] → va_D A ws) ∧ (∀ ws : va_W, ws.map (fun q => q.1) = [a_T 0, a_T 1, a_r 0, a_r 1] → va_D A ws) ∧ (∀ ws : va_W, ws.map (fun q => q.1) = [a_T 0, a_T 1, a_n 0, a_n 1, a_n 2, a_n 3, a_n 4, a_n 5, a_r 0, a_r 1] → va_D A ws) ∧ (∀ ws : va_W, ws.map (fun q => q.1) = [a_T 0, a_T 1, a_n 0, a_n 1, a_n 2, a_n 3, a_n 4, a_n 5, a_k 0, a_k 1, a_k 2, a_k 3, a_k 4, a_k 5] → va_D A ws) ∧ (∀ ws : va_W, ws.map (fun q => q.1) = [a_T 0, a_T 1, a_n 0, a_n 1, a_n 2, a_n 3, a_n 4, a_n 5, a_s 0, a_s 1, a_r 0, a_r 1] → va_D A ws) ∧ (∀ ws : va_W, ws.map (fun q => q.1) = [] → va_D A ws) ∧ (∀ ws : va_W, ws.map (fun q => q.1) = [a_M 0, a_M 1, a_M 2, a_M 3, a_M 4, a_M 5, a_M 6, a_M 7, a_M 8, a_M 9, a_M 10, a_M 11, a_M 12, a_M 13] → va_D A ws)
def JW (RL : RT) (D : va_G) (cI cJ cC : ClassId) (a_T a_n a_k a_t a_s a_r a_c a_M : Nat → Nat) (H : Heap) : Prop := ∃ (v_T : PX4) (v_n : PX3) (v_k : PX3) (v_t : PX3) (v_s : PX2) (v_r : PX0) (v_c : PX1) (v_M : PX5), RL v_T v_n v_k v_s v_r v_M ∧ va_P D vwCl (pX4 cI cJ cC a_T a_n a_k a_t a_s a_r a_c v_T) H ∧ va_P D vwCl (pX3 cI cJ cC a_n v_n) H ∧ va_P D vwCl (pX3 cI cJ cC a_k v_k) H ∧ va_P D vwCl (pX3 cI cJ cC a_t v_t) H ∧ va_P D vwCl (pX2 cI cJ cC a_s v_s) H ∧ va_P D vwCl (pX0 cI cJ cC a_r v_r) H ∧ va_P D vwCl (pX1 cI cJ cC a_c v_c) H ∧ va_P D vwCl (pX5 cI cJ cC a_M v_M) H
def PH_letter (RL : RT) : Prop := ∀ (v_T : PX4) (v_n : PX3) (v_k : PX3) (v_t : PX3) (v_s : PX2) (v_r : PX0) (v_c : PX1) (v_M : PX5) (p0 : Int32), RL v_T v_n v_k v_s v_r v_M → wpX4_letter (fun (r_1 : Int32) (T_refusals_2 : Nat → Int32) (s_length_3 : Int32) (s_signs_4 : Nat → Int32) => wpX5_letter (fun (r_5 : Int32) (M_taped_6 : Int32) (M_refused_7 : Nat → Int32) (M_tape_8 : Nat → Int32) => r_1 = r_5 ∧ RL (v_T.1, T_refusals_2) v_n v_k (s_length_3, v_s.2.1, s_signs_4) v_r (v_M.1, v_M.2.1, M_taped_6, v_M.2.2.2.1, v_M.2.2.2.2.1, v_M.2.2.2.2.2.1, v_M.2.2.2.2.2.2.1, v_M.2.2.2.2.2.2.2.1, v_M.2.2.2.2.2.2.2.2.1, v_M.2.2.2.2.2.2.2.2.2.1, v_M.2.2.2.2.2.2.2.2.2.2.1, M_refused_7, v_M.2.2.2.2.2.2.2.2.2.2.2.2.1, v_M.2.2.2.2.2.2.2.2.2.2.2.2.2.1, v_M.2.2.2.2.2.2.2.2.2.2.2.2.2.2.1, v_M.2.2.2.2.2.2.2.2.2.2.2.2.2.2.2.1, v_M.2.2.2.2.2.2.2.2.2.2.2.2.2.2.2.2.1, M_tape_8, v_M.2.2.2.2.2.2.2.2.2.2.2.2.2.2.2.2.2.2.1, v_M.2.2.2.2.2.2.2.2.2.2.2.2.2.2.2.2.2.2.2.1, v_M.2.2.2.2.2.2.2.2.2.2.2.2.2.2.2.2.2.2.2.2.1, v_M.2.2.2.2.2.2.2.2.2.2.2.2.2.2.2.2.2.2.2.2.2.1, v_M.2.2.2.2.2.2.2.2.2.2.2.2.2.2.2.2.2.2.2.2.2.2.1, v_M.2.2.2.2.2.2.2.2.2.2.2.2.2.2.2.2.2.2.2.2.2.2.2)) v_M.2.2.1 v_M.2.2.2.2.2.2.2.2.2.2.2.1 v_M.2.2.2.2.2.2.2.2.2.2.2.2.2.2.2.2.2.1 p0) v_T.2 v_s.1 v_s.2.2 p0
set_option maxHeartbeats 4000000 in
set_option maxRecDepth 100000 in
theorem lawC_letter {p : Program} {l : Launch} {e : Env} {s : State} {m : MethodId} {below : List Frame} {meth : Method} {c : Code} {Q : State → Prop} {b L : Nat} {xs : Nat → Int32} {D : va_G} {cI cJ cC : ClassId} {G : Nat → Nat → Nat} {a_T a_n a_k a_t a_s a_r a_c a_M : Nat → Nat} (RL : RT) (hp : PH_letter RL) (S : CallFix p m c code 4 s #[Value.ref b] bg R_law) (hX : va_X b L xs s s.heap) (hbl : b < s.heap.size) (hK : va_K D vwCl (tz cI cJ cC) s) (hLC : LC a_T a_n a_k a_t a_s a_r a_c a_M (fun q : Nat => s.heap.size ≤ q)) (hE : EV G (fun q : Nat => s.heap.size ≤ q) s) {i : Nat} {x3 : Int32} (hi : ∀ k : Nat, k < 4 → vp_in (x3 + Int32.ofNat k) L) (hv : ∀ k : Nat, k < 4 → xs (x3 + Int32.ofNat k).toNatClampNeg = xs (i + k)) {H : Heap} {locs : List Loc} {ls : Array Slot} (hJ : JW RL D cI cJ cC a_T a_n a_k a_t a_s a_r a_c a_M H) (hS : va_S (fun q : Nat => s.heap.size ≤ q) s.heap H locs) (hl : lv_has ls 4 [(0, .ref b), (1, .ref (a_T 0)), (2, .ref (a_M 0)), (3, .int x3)])
    (hnext : ∀ (H : Heap) (locs : List Loc) (ls : Array Slot), JW RL D cI cJ cC a_T a_n a_k a_t a_s a_r a_c a_M H → va_S (fun q : Nat => s.heap.size ≤ q) s.heap H locs → lv_has ls 4 [(0, .ref b), (1, .ref (a_T 0)), (2, .ref (a_M 0)), (3, .int x3)] → W p l e room_1 s m #[Value.ref b] below meth c H locs 41 1350 Q (F0 m 1171 ls [])) : W p l e room_1 s m #[Value.ref b] below meth c H locs 41 1350 Q (F0 m 200 ls []) := by
  obtain ⟨hx, hb, hml, hown, ht⟩ := id S
  have hA : ∀ q : Nat, s.heap.size ≤ q → (fun q : Nat => s.heap.size ≤ q) q := fun _ h => h
  have hbA : ¬ (fun q : Nat => s.heap.size ≤ q) b := Nat.not_le.mpr hbl
  obtain ⟨v_T, v_n, v_k, v_t, v_s, v_r, v_c, v_M, hR, hP_T, hP_n, hP_k, hP_t, hP_s, hP_r, hP_c, hP_M⟩ := hJ
  have h := hp v_T v_n v_k v_t v_s v_r v_c v_M (xs (i + 1)) hR
  refine lv_aload_n hx hb dL_law_200 rfl (lv_at hl 1 rfl) ?_
  refine lv_aload_n hx hb dL_law_201 rfl (lv_at hl 0 rfl) ?_
  refine lv_iload_n hx hb dL_law_202 rfl (lv_at hl 3 rfl) ?_
  refine lv_iconst (v := (1 : Int32)) hx hb dL_law_203 (by decide) ?_
  refine lv_iadd hx hb dL_law_204 ?_
  refine va_sld hx hb hX hbl hbA hS (hi 1 (by decide)) dL_law_205 ?_
  refine zti (hv 1 (by decide)) ?_
  have hPw : va_P D vwCl ((pX4 cI cJ cC a_T a_n a_k a_t a_s a_r a_c v_T) ++ (pX2 cI cJ cC a_s v_s)) _ := (hP_T.app hP_s)
  have hDw : va_D (fun q : Nat => s.heap.size ≤ q) ((pX4 cI cJ cC a_T a_n a_k a_t a_s a_r a_c v_T) ++ (pX2 cI cJ cC a_s v_s)) := hLC.2.1 _ rfl
  refine zci hA hDw hS (zrunV (As := [.int (xs (i + 1))]) (rest := []) S hK hA hE hPw hDw hS (mX4_letter l D cI cJ cC G a_T a_n a_k a_t a_s a_r a_c _ v_T.1 v_T.2 v_s.1 v_s.2.1 v_s.2.2 (xs (i + 1)) _ h) kX4_letter ml_L_13 ⟨rfl, rfl, by decide, by decide⟩ (q0 := 0) (ci := 4) rfl rfl rfl rfl hl.1 rfl (Nat.le_of_ble_eq_true rfl) dL_law_206 ⟨by decide, by decide⟩) (fun r_1 u H locs h hP1 hk1 hS => ?_)
  obtain ⟨T_refusals_2, s_length_3, s_signs_4⟩ := u
  try dsimp only at h
  have hP_s : va_P D vwCl (bX2 cI cJ cC a_s s_length_3 v_s.2.1 s_signs_4) H := zPr hP1
  have hP_T : va_P D vwCl (bX4 cI cJ cC a_T a_n a_k a_t a_s a_r a_c v_T.1 T_refusals_2) H := zPl (hP1)
  have hP_n : va_P D vwCl (pX3 cI cJ cC a_n v_n) H := zKeepB hP_n hk1 (dj_app (hLC.1 1 0 (by decide) (by decide) (by decide)) (hLC.1 1 4 (by decide) (by decide) (by decide)))
  have hP_k : va_P D vwCl (pX3 cI cJ cC a_k v_k) H := zKeepB hP_k hk1 (dj_app (hLC.1 2 0 (by decide) (by decide) (by decide)) (hLC.1 2 4 (by decide) (by decide) (by decide)))
  have hP_t : va_P D vwCl (pX3 cI cJ cC a_t v_t) H := zKeepB hP_t hk1 (dj_app (hLC.1 3 0 (by decide) (by decide) (by decide)) (hLC.1 3 4 (by decide) (by decide) (by decide)))
  have hP_r : va_P D vwCl (pX0 cI cJ cC a_r v_r) H := zKeepB hP_r hk1 (dj_app (hLC.1 5 0 (by decide) (by decide) (by decide)) (hLC.1 5 4 (by decide) (by decide) (by decide)))
  have hP_c : va_P D vwCl (pX1 cI cJ cC a_c v_c) H := zKeepB hP_c hk1 (dj_app (hLC.1 6 0 (by decide) (by decide) (by decide)) (hLC.1 6 4 (by decide) (by decide) (by decide)))
  have hP_M : va_P D vwCl (pX5 cI cJ cC a_M v_M) H := zKeepB hP_M hk1 (dj_app (hLC.1 7 0 (by decide) (by decide) (by decide)) (hLC.1 7 4 (by decide) (by decide) (by decide)))
  refine lv_aload_n hx hb dL_law_209 rfl (lv_at hl 2 rfl) ?_
  refine lv_aload_n hx hb dL_law_210 rfl (lv_at hl 0 rfl) ?_
  refine lv_iload_n hx hb dL_law_211 rfl (lv_at hl 3 rfl) ?_
  refine lv_iconst (v := (1 : Int32)) hx hb dL_law_212 (by decide) ?_
  refine lv_iadd hx hb dL_law_213 ?_
  refine va_sld hx hb hX hbl hbA hS (hi 1 (by decide)) dL_law_214 ?_
  refine zti (hv 1 (by decide)) ?_
  have hPw : va_P D vwCl ((pX5 cI cJ cC a_M v_M)) _ := hP_M
  have hDw : va_D (fun q : Nat => s.heap.size ≤ q) ((pX5 cI cJ cC a_M v_M)) := hLC.2.2.2.2.2.2.2.2.2.2.2 _ rfl
  refine zci hA hDw hS (zrunV (As := [.int (xs (i + 1))]) (rest := [.int r_1]) S hK hA hE hPw hDw hS (mX5_letter l D cI cJ cC G a_M _ v_M.1 v_M.2.1 v_M.2.2.1 v_M.2.2.2.1 v_M.2.2.2.2.1 v_M.2.2.2.2.2.1 v_M.2.2.2.2.2.2.1 v_M.2.2.2.2.2.2.2.1 v_M.2.2.2.2.2.2.2.2.1 v_M.2.2.2.2.2.2.2.2.2.1 v_M.2.2.2.2.2.2.2.2.2.2.1 v_M.2.2.2.2.2.2.2.2.2.2.2.1 v_M.2.2.2.2.2.2.2.2.2.2.2.2.1 v_M.2.2.2.2.2.2.2.2.2.2.2.2.2.1 v_M.2.2.2.2.2.2.2.2.2.2.2.2.2.2.1 v_M.2.2.2.2.2.2.2.2.2.2.2.2.2.2.2.1 v_M.2.2.2.2.2.2.2.2.2.2.2.2.2.2.2.2.1 v_M.2.2.2.2.2.2.2.2.2.2.2.2.2.2.2.2.2.1 v_M.2.2.2.2.2.2.2.2.2.2.2.2.2.2.2.2.2.2.1 v_M.2.2.2.2.2.2.2.2.2.2.2.2.2.2.2.2.2.2.2.1 v_M.2.2.2.2.2.2.2.2.2.2.2.2.2.2.2.2.2.2.2.2.1 v_M.2.2.2.2.2.2.2.2.2.2.2.2.2.2.2.2.2.2.2.2.2.1 v_M.2.2.2.2.2.2.2.2.2.2.2.2.2.2.2.2.2.2.2.2.2.2.1 v_M.2.2.2.2.2.2.2.2.2.2.2.2.2.2.2.2.2.2.2.2.2.2.2 (xs (i + 1)) _ h) kX5_letter ml_L_17 ⟨rfl, rfl, by decide, by decide⟩ (q0 := 0) (ci := 5) rfl rfl rfl rfl hl.1 rfl (Nat.le_of_ble_eq_true rfl) dL_law_215 ⟨by decide, by decide⟩) (fun r_5 u H locs h hP1 hk1 hS => ?_)
  obtain ⟨M_taped_6, M_refused_7, M_tape_8⟩ := u
  try dsimp only at h
  have hP_M : va_P D vwCl (bX5 cI cJ cC a_M v_M.1 v_M.2.1 M_taped_6 v_M.2.2.2.1 v_M.2.2.2.2.1 v_M.2.2.2.2.2.1 v_M.2.2.2.2.2.2.1 v_M.2.2.2.2.2.2.2.1 v_M.2.2.2.2.2.2.2.2.1 v_M.2.2.2.2.2.2.2.2.2.1 v_M.2.2.2.2.2.2.2.2.2.2.1 M_refused_7 v_M.2.2.2.2.2.2.2.2.2.2.2.2.1 v_M.2.2.2.2.2.2.2.2.2.2.2.2.2.1 v_M.2.2.2.2.2.2.2.2.2.2.2.2.2.2.1 v_M.2.2.2.2.2.2.2.2.2.2.2.2.2.2.2.1 v_M.2.2.2.2.2.2.2.2.2.2.2.2.2.2.2.2.1 M_tape_8 v_M.2.2.2.2.2.2.2.2.2.2.2.2.2.2.2.2.2.2.1 v_M.2.2.2.2.2.2.2.2.2.2.2.2.2.2.2.2.2.2.2.1 v_M.2.2.2.2.2.2.2.2.2.2.2.2.2.2.2.2.2.2.2.2.1 v_M.2.2.2.2.2.2.2.2.2.2.2.2.2.2.2.2.2.2.2.2.2.1 v_M.2.2.2.2.2.2.2.2.2.2.2.2.2.2.2.2.2.2.2.2.2.2.1 v_M.2.2.2.2.2.2.2.2.2.2.2.2.2.2.2.2.2.2.2.2.2.2.2) H := hP1
  have hP_T : va_P D vwCl (bX4 cI cJ cC a_T a_n a_k a_t a_s a_r a_c v_T.1 T_refusals_2) H := zKeepB hP_T hk1 (hLC.1 0 7 (by decide) (by decide) (by decide))
  have hP_n : va_P D vwCl (pX3 cI cJ cC a_n v_n) H := zKeepB hP_n hk1 (hLC.1 1 7 (by decide) (by decide) (by decide))
  have hP_k : va_P D vwCl (pX3 cI cJ cC a_k v_k) H := zKeepB hP_k hk1 (hLC.1 2 7 (by decide) (by decide) (by decide))
  have hP_t : va_P D vwCl (pX3 cI cJ cC a_t v_t) H := zKeepB hP_t hk1 (hLC.1 3 7 (by decide) (by decide) (by decide))
  have hP_s : va_P D vwCl (bX2 cI cJ cC a_s s_length_3 v_s.2.1 s_signs_4) H := zKeepB hP_s hk1 (hLC.1 4 7 (by decide) (by decide) (by decide))
  have hP_r : va_P D vwCl (pX0 cI cJ cC a_r v_r) H := zKeepB hP_r hk1 (hLC.1 5 7 (by decide) (by decide) (by decide))
  have hP_c : va_P D vwCl (pX1 cI cJ cC a_c v_c) H := zKeepB hP_c hk1 (hLC.1 6 7 (by decide) (by decide) (by decide))
  refine lv_icmp_eq (tgt := 1171) hx hb dL_law_218 (by decide) (fun z => ?_) (fun z => absurd h.1 z)
  exact hnext _ _ _ ⟨(v_T.1, T_refusals_2), v_n, v_k, v_t, (s_length_3, v_s.2.1, s_signs_4), v_r, v_c, (v_M.1, v_M.2.1, M_taped_6, v_M.2.2.2.1, v_M.2.2.2.2.1, v_M.2.2.2.2.2.1, v_M.2.2.2.2.2.2.1, v_M.2.2.2.2.2.2.2.1, v_M.2.2.2.2.2.2.2.2.1, v_M.2.2.2.2.2.2.2.2.2.1, v_M.2.2.2.2.2.2.2.2.2.2.1, M_refused_7, v_M.2.2.2.2.2.2.2.2.2.2.2.2.1, v_M.2.2.2.2.2.2.2.2.2.2.2.2.2.1, v_M.2.2.2.2.2.2.2.2.2.2.2.2.2.2.1, v_M.2.2.2.2.2.2.2.2.2.2.2.2.2.2.2.1, v_M.2.2.2.2.2.2.2.2.2.2.2.2.2.2.2.2.1, M_tape_8, v_M.2.2.2.2.2.2.2.2.2.2.2.2.2.2.2.2.2.2.1, v_M.2.2.2.2.2.2.2.2.2.2.2.2.2.2.2.2.2.2.2.1, v_M.2.2.2.2.2.2.2.2.2.2.2.2.2.2.2.2.2.2.2.2.1, v_M.2.2.2.2.2.2.2.2.2.2.2.2.2.2.2.2.2.2.2.2.2.1, v_M.2.2.2.2.2.2.2.2.2.2.2.2.2.2.2.2.2.2.2.2.2.2.1, v_M.2.2.2.2.2.2.2.2.2.2.2.2.2.2.2.2.2.2.2.2.2.2.2), h.2, hP_T, hP_n, hP_k, hP_t, hP_s, hP_r, hP_c, hP_M⟩ hS hl
def PH_wall (RL : RT) : Prop := ∀ (v_T : PX4) (v_n : PX3) (v_k : PX3) (v_t : PX3) (v_s : PX2) (v_r : PX0) (v_c : PX1) (v_M : PX5), RL v_T v_n v_k v_s v_r v_M → wpX4_wall (fun (r_1 : Int32) (n_space_2 : Int32) (n_beam_3 : Int32) (n_door_4 : Int32) (n_law_5 : Int32) (n_used_6 : Int32) (n_pipes_7 : Int32) (n_drilled_8 : Int64) (n_total_9 : Int64) (n_open_10 : Int32) (n_pipeInches_11 : Nat → Int32) (n_pipeChances_12 : Nat → Int32) (n_weights_13 : Nat → Int64) (n_woods_14 : Nat → Int32) (n_sums_15 : Nat → Int64) (t_space_16 : Int32) (t_beam_17 : Int32) (t_door_18 : Int32) (t_law_19 : Int32) (t_used_20 : Int32) (t_pipes_21 : Int32) (t_drilled_22 : Int64) (t_total_23 : Int64) (t_open_24 : Int32) (t_pipeInches_25 : Nat → Int32) (t_pipeChances_26 : Nat → Int32) (t_weights_27 : Nat → Int64) (t_woods_28 : Nat → Int32) (t_sums_29 : Nat → Int64) (s_length_30 : Int32) (s_place_31 : Int32) => wpX5_wall (fun (r_32 : Int32) (M_pipes_33 : Int32) (M_used_34 : Int32) (M_taped_35 : Int32) (M_at_36 : Int32) (M_statements_37 : Int32) (M_isKeeping_38 : Int32) (M_cursor_39 : Int32) (M_setting_40 : Nat → Int32) (M_hole_41 : Nat → Int32) (M_pipeAt_42 : Nat → Int32) (M_chance_43 : Nat → Int32) (M_weight_44 : Nat → Int32) (M_letter_45 : Nat → Int32) (M_letterAt_46 : Nat → Int32) (M_told_47 : Nat → Int32) (M_kept_48 : Nat → Int32) => r_1 = r_32 ∧ RL v_T (n_space_2, n_beam_3, n_door_4, n_law_5, n_used_6, n_pipes_7, n_drilled_8, n_total_9, n_open_10, n_pipeInches_11, n_pipeChances_12, n_weights_13, n_woods_14, n_sums_15) v_k (s_length_30, s_place_31, v_s.2.2) v_r (M_pipes_33, M_used_34, M_taped_35, M_at_36, M_statements_37, v_M.2.2.2.2.2.1, M_isKeeping_38, M_cursor_39, v_M.2.2.2.2.2.2.2.2.1, v_M.2.2.2.2.2.2.2.2.2.1, v_M.2.2.2.2.2.2.2.2.2.2.1, v_M.2.2.2.2.2.2.2.2.2.2.2.1, M_setting_40, M_hole_41, M_pipeAt_42, M_chance_43, M_weight_44, v_M.2.2.2.2.2.2.2.2.2.2.2.2.2.2.2.2.2.1, M_letter_45, M_letterAt_46, M_told_47, M_kept_48, v_M.2.2.2.2.2.2.2.2.2.2.2.2.2.2.2.2.2.2.2.2.2.2.1, v_M.2.2.2.2.2.2.2.2.2.2.2.2.2.2.2.2.2.2.2.2.2.2.2)) v_M.1 v_M.2.1 v_M.2.2.1 v_M.2.2.2.2.2.2.1 v_M.2.2.2.2.2.2.2.1 v_M.2.2.2.2.2.2.2.2.2.2.2.2.1 v_M.2.2.2.2.2.2.2.2.2.2.2.2.2.1 v_M.2.2.2.2.2.2.2.2.2.2.2.2.2.2.1 v_M.2.2.2.2.2.2.2.2.2.2.2.2.2.2.2.1 v_M.2.2.2.2.2.2.2.2.2.2.2.2.2.2.2.2.1 v_M.2.2.2.2.2.2.2.2.2.2.2.2.2.2.2.2.2.1 v_M.2.2.2.2.2.2.2.2.2.2.2.2.2.2.2.2.2.2.1 v_M.2.2.2.2.2.2.2.2.2.2.2.2.2.2.2.2.2.2.2.1 v_M.2.2.2.2.2.2.2.2.2.2.2.2.2.2.2.2.2.2.2.2.1 v_M.2.2.2.2.2.2.2.2.2.2.2.2.2.2.2.2.2.2.2.2.2.1) v_n.1 v_n.2.1 v_n.2.2.1 v_n.2.2.2.1 v_n.2.2.2.2.1 v_n.2.2.2.2.2.1 v_n.2.2.2.2.2.2.1 v_n.2.2.2.2.2.2.2.1 v_n.2.2.2.2.2.2.2.2.1 v_n.2.2.2.2.2.2.2.2.2.1 v_n.2.2.2.2.2.2.2.2.2.2.1 v_n.2.2.2.2.2.2.2.2.2.2.2.1 v_n.2.2.2.2.2.2.2.2.2.2.2.2.1 v_n.2.2.2.2.2.2.2.2.2.2.2.2.2 v_t.2.2.2.2.2.2.2.2.2.1 v_t.2.2.2.2.2.2.2.2.2.2.1 v_t.2.2.2.2.2.2.2.2.2.2.2.1 v_t.2.2.2.2.2.2.2.2.2.2.2.2.1 v_t.2.2.2.2.2.2.2.2.2.2.2.2.2 v_s.1 v_s.2.2
set_option maxHeartbeats 4000000 in
set_option maxRecDepth 100000 in
theorem lawC_wall {p : Program} {l : Launch} {e : Env} {s : State} {m : MethodId} {below : List Frame} {meth : Method} {c : Code} {Q : State → Prop} {b L : Nat} {xs : Nat → Int32} {D : va_G} {cI cJ cC : ClassId} {G : Nat → Nat → Nat} {a_T a_n a_k a_t a_s a_r a_c a_M : Nat → Nat} (RL : RT) (hp : PH_wall RL) (S : CallFix p m c code 4 s #[Value.ref b] bg R_law) (hX : va_X b L xs s s.heap) (hbl : b < s.heap.size) (hK : va_K D vwCl (tz cI cJ cC) s) (hLC : LC a_T a_n a_k a_t a_s a_r a_c a_M (fun q : Nat => s.heap.size ≤ q)) (hE : EV G (fun q : Nat => s.heap.size ≤ q) s) {i : Nat} {x3 : Int32} (hi : ∀ k : Nat, k < 4 → vp_in (x3 + Int32.ofNat k) L) (hv : ∀ k : Nat, k < 4 → xs (x3 + Int32.ofNat k).toNatClampNeg = xs (i + k)) {H : Heap} {locs : List Loc} {ls : Array Slot} (hJ : JW RL D cI cJ cC a_T a_n a_k a_t a_s a_r a_c a_M H) (hS : va_S (fun q : Nat => s.heap.size ≤ q) s.heap H locs) (hl : lv_has ls 4 [(0, .ref b), (1, .ref (a_T 0)), (2, .ref (a_M 0)), (3, .int x3)])
    (hnext : ∀ (H : Heap) (locs : List Loc) (ls : Array Slot), JW RL D cI cJ cC a_T a_n a_k a_t a_s a_r a_c a_M H → va_S (fun q : Nat => s.heap.size ≤ q) s.heap H locs → lv_has ls 4 [(0, .ref b), (1, .ref (a_T 0)), (2, .ref (a_M 0)), (3, .int x3)] → W p l e room_1 s m #[Value.ref b] below meth c H locs 41 1350 Q (F0 m 1171 ls [])) : W p l e room_1 s m #[Value.ref b] below meth c H locs 41 1350 Q (F0 m 223 ls []) := by
  obtain ⟨hx, hb, hml, hown, ht⟩ := id S
  have hA : ∀ q : Nat, s.heap.size ≤ q → (fun q : Nat => s.heap.size ≤ q) q := fun _ h => h
  have hbA : ¬ (fun q : Nat => s.heap.size ≤ q) b := Nat.not_le.mpr hbl
  obtain ⟨v_T, v_n, v_k, v_t, v_s, v_r, v_c, v_M, hR, hP_T, hP_n, hP_k, hP_t, hP_s, hP_r, hP_c, hP_M⟩ := hJ
  have h := hp v_T v_n v_k v_t v_s v_r v_c v_M  hR
  refine lv_aload_n hx hb dL_law_223 rfl (lv_at hl 1 rfl) ?_
  have hPw : va_P D vwCl ((pX4 cI cJ cC a_T a_n a_k a_t a_s a_r a_c v_T) ++ (pX3 cI cJ cC a_n v_n) ++ (pX3 cI cJ cC a_t v_t) ++ (pX2 cI cJ cC a_s v_s)) _ := (va_P.app (va_P.app (va_P.app hP_T hP_n) hP_t) hP_s)
  have hDw : va_D (fun q : Nat => s.heap.size ≤ q) ((pX4 cI cJ cC a_T a_n a_k a_t a_s a_r a_c v_T) ++ (pX3 cI cJ cC a_n v_n) ++ (pX3 cI cJ cC a_t v_t) ++ (pX2 cI cJ cC a_s v_s)) := hLC.2.2.1 _ rfl
  refine zci hA hDw hS (zrunV (As := []) (rest := []) S hK hA hE hPw hDw hS (mX4_wall l D cI cJ cC G a_T a_n a_k a_t a_s a_r a_c _ v_T.1 v_T.2 v_n.1 v_n.2.1 v_n.2.2.1 v_n.2.2.2.1 v_n.2.2.2.2.1 v_n.2.2.2.2.2.1 v_n.2.2.2.2.2.2.1 v_n.2.2.2.2.2.2.2.1 v_n.2.2.2.2.2.2.2.2.1 v_n.2.2.2.2.2.2.2.2.2.1 v_n.2.2.2.2.2.2.2.2.2.2.1 v_n.2.2.2.2.2.2.2.2.2.2.2.1 v_n.2.2.2.2.2.2.2.2.2.2.2.2.1 v_n.2.2.2.2.2.2.2.2.2.2.2.2.2 v_t.1 v_t.2.1 v_t.2.2.1 v_t.2.2.2.1 v_t.2.2.2.2.1 v_t.2.2.2.2.2.1 v_t.2.2.2.2.2.2.1 v_t.2.2.2.2.2.2.2.1 v_t.2.2.2.2.2.2.2.2.1 v_t.2.2.2.2.2.2.2.2.2.1 v_t.2.2.2.2.2.2.2.2.2.2.1 v_t.2.2.2.2.2.2.2.2.2.2.2.1 v_t.2.2.2.2.2.2.2.2.2.2.2.2.1 v_t.2.2.2.2.2.2.2.2.2.2.2.2.2 v_s.1 v_s.2.1 v_s.2.2 _ h) kX4_wall ml_L_18 ⟨rfl, rfl, by decide, by decide⟩ (q0 := 0) (ci := 4) rfl rfl rfl rfl hl.1 rfl (Nat.le_of_ble_eq_true rfl) dL_law_224 ⟨by decide, by decide⟩) (fun r_1 u H locs h hP1 hk1 hS => ?_)
  obtain ⟨n_space_2, n_beam_3, n_door_4, n_law_5, n_used_6, n_pipes_7, n_drilled_8, n_total_9, n_open_10, n_pipeInches_11, n_pipeChances_12, n_weights_13, n_woods_14, n_sums_15, t_space_16, t_beam_17, t_door_18, t_law_19, t_used_20, t_pipes_21, t_drilled_22, t_total_23, t_open_24, t_pipeInches_25, t_pipeChances_26, t_weights_27, t_woods_28, t_sums_29, s_length_30, s_place_31⟩ := u
  try dsimp only at h
  have hP_s : va_P D vwCl (bX2 cI cJ cC a_s s_length_30 s_place_31 v_s.2.2) H := zPr hP1
  have hP_t : va_P D vwCl (bX3 cI cJ cC a_t t_space_16 t_beam_17 t_door_18 t_law_19 t_used_20 t_pipes_21 t_drilled_22 t_total_23 t_open_24 t_pipeInches_25 t_pipeChances_26 t_weights_27 t_woods_28 t_sums_29) H := zPr (zPl (hP1))
  have hP_n : va_P D vwCl (bX3 cI cJ cC a_n n_space_2 n_beam_3 n_door_4 n_law_5 n_used_6 n_pipes_7 n_drilled_8 n_total_9 n_open_10 n_pipeInches_11 n_pipeChances_12 n_weights_13 n_woods_14 n_sums_15) H := zPr (zPl (zPl (hP1)))
  have hP_T : va_P D vwCl (pX4 cI cJ cC a_T a_n a_k a_t a_s a_r a_c v_T) H := zPl (zPl (zPl (hP1)))
  have hP_k : va_P D vwCl (pX3 cI cJ cC a_k v_k) H := zKeepB hP_k hk1 (dj_app (dj_app (dj_app (hLC.1 2 0 (by decide) (by decide) (by decide)) (hLC.1 2 1 (by decide) (by decide) (by decide))) (hLC.1 2 3 (by decide) (by decide) (by decide))) (hLC.1 2 4 (by decide) (by decide) (by decide)))
  have hP_r : va_P D vwCl (pX0 cI cJ cC a_r v_r) H := zKeepB hP_r hk1 (dj_app (dj_app (dj_app (hLC.1 5 0 (by decide) (by decide) (by decide)) (hLC.1 5 1 (by decide) (by decide) (by decide))) (hLC.1 5 3 (by decide) (by decide) (by decide))) (hLC.1 5 4 (by decide) (by decide) (by decide)))
  have hP_c : va_P D vwCl (pX1 cI cJ cC a_c v_c) H := zKeepB hP_c hk1 (dj_app (dj_app (dj_app (hLC.1 6 0 (by decide) (by decide) (by decide)) (hLC.1 6 1 (by decide) (by decide) (by decide))) (hLC.1 6 3 (by decide) (by decide) (by decide))) (hLC.1 6 4 (by decide) (by decide) (by decide)))
  have hP_M : va_P D vwCl (pX5 cI cJ cC a_M v_M) H := zKeepB hP_M hk1 (dj_app (dj_app (dj_app (hLC.1 7 0 (by decide) (by decide) (by decide)) (hLC.1 7 1 (by decide) (by decide) (by decide))) (hLC.1 7 3 (by decide) (by decide) (by decide))) (hLC.1 7 4 (by decide) (by decide) (by decide)))
  refine lv_aload_n hx hb dL_law_227 rfl (lv_at hl 2 rfl) ?_
  have hPw : va_P D vwCl ((pX5 cI cJ cC a_M v_M)) _ := hP_M
  have hDw : va_D (fun q : Nat => s.heap.size ≤ q) ((pX5 cI cJ cC a_M v_M)) := hLC.2.2.2.2.2.2.2.2.2.2.2 _ rfl
  refine zci hA hDw hS (zrunV (As := []) (rest := [.int r_1]) S hK hA hE hPw hDw hS (mX5_wall l D cI cJ cC G a_M _ v_M.1 v_M.2.1 v_M.2.2.1 v_M.2.2.2.1 v_M.2.2.2.2.1 v_M.2.2.2.2.2.1 v_M.2.2.2.2.2.2.1 v_M.2.2.2.2.2.2.2.1 v_M.2.2.2.2.2.2.2.2.1 v_M.2.2.2.2.2.2.2.2.2.1 v_M.2.2.2.2.2.2.2.2.2.2.1 v_M.2.2.2.2.2.2.2.2.2.2.2.1 v_M.2.2.2.2.2.2.2.2.2.2.2.2.1 v_M.2.2.2.2.2.2.2.2.2.2.2.2.2.1 v_M.2.2.2.2.2.2.2.2.2.2.2.2.2.2.1 v_M.2.2.2.2.2.2.2.2.2.2.2.2.2.2.2.1 v_M.2.2.2.2.2.2.2.2.2.2.2.2.2.2.2.2.1 v_M.2.2.2.2.2.2.2.2.2.2.2.2.2.2.2.2.2.1 v_M.2.2.2.2.2.2.2.2.2.2.2.2.2.2.2.2.2.2.1 v_M.2.2.2.2.2.2.2.2.2.2.2.2.2.2.2.2.2.2.2.1 v_M.2.2.2.2.2.2.2.2.2.2.2.2.2.2.2.2.2.2.2.2.1 v_M.2.2.2.2.2.2.2.2.2.2.2.2.2.2.2.2.2.2.2.2.2.1 v_M.2.2.2.2.2.2.2.2.2.2.2.2.2.2.2.2.2.2.2.2.2.2.1 v_M.2.2.2.2.2.2.2.2.2.2.2.2.2.2.2.2.2.2.2.2.2.2.2 _ h) kX5_wall ml_L_22 ⟨rfl, rfl, by decide, by decide⟩ (q0 := 0) (ci := 5) rfl rfl rfl rfl hl.1 rfl (Nat.le_of_ble_eq_true rfl) dL_law_228 ⟨by decide, by decide⟩) (fun r_32 u H locs h hP1 hk1 hS => ?_)
  obtain ⟨M_pipes_33, M_used_34, M_taped_35, M_at_36, M_statements_37, M_isKeeping_38, M_cursor_39, M_setting_40, M_hole_41, M_pipeAt_42, M_chance_43, M_weight_44, M_letter_45, M_letterAt_46, M_told_47, M_kept_48⟩ := u
  try dsimp only at h
  have hP_M : va_P D vwCl (bX5 cI cJ cC a_M M_pipes_33 M_used_34 M_taped_35 M_at_36 M_statements_37 v_M.2.2.2.2.2.1 M_isKeeping_38 M_cursor_39 v_M.2.2.2.2.2.2.2.2.1 v_M.2.2.2.2.2.2.2.2.2.1 v_M.2.2.2.2.2.2.2.2.2.2.1 v_M.2.2.2.2.2.2.2.2.2.2.2.1 M_setting_40 M_hole_41 M_pipeAt_42 M_chance_43 M_weight_44 v_M.2.2.2.2.2.2.2.2.2.2.2.2.2.2.2.2.2.1 M_letter_45 M_letterAt_46 M_told_47 M_kept_48 v_M.2.2.2.2.2.2.2.2.2.2.2.2.2.2.2.2.2.2.2.2.2.2.1 v_M.2.2.2.2.2.2.2.2.2.2.2.2.2.2.2.2.2.2.2.2.2.2.2) H := hP1
  have hP_T : va_P D vwCl (pX4 cI cJ cC a_T a_n a_k a_t a_s a_r a_c v_T) H := zKeepB hP_T hk1 (hLC.1 0 7 (by decide) (by decide) (by decide))
  have hP_n : va_P D vwCl (bX3 cI cJ cC a_n n_space_2 n_beam_3 n_door_4 n_law_5 n_used_6 n_pipes_7 n_drilled_8 n_total_9 n_open_10 n_pipeInches_11 n_pipeChances_12 n_weights_13 n_woods_14 n_sums_15) H := zKeepB hP_n hk1 (hLC.1 1 7 (by decide) (by decide) (by decide))
  have hP_k : va_P D vwCl (pX3 cI cJ cC a_k v_k) H := zKeepB hP_k hk1 (hLC.1 2 7 (by decide) (by decide) (by decide))
  have hP_t : va_P D vwCl (bX3 cI cJ cC a_t t_space_16 t_beam_17 t_door_18 t_law_19 t_used_20 t_pipes_21 t_drilled_22 t_total_23 t_open_24 t_pipeInches_25 t_pipeChances_26 t_weights_27 t_woods_28 t_sums_29) H := zKeepB hP_t hk1 (hLC.1 3 7 (by decide) (by decide) (by decide))
  have hP_s : va_P D vwCl (bX2 cI cJ cC a_s s_length_30 s_place_31 v_s.2.2) H := zKeepB hP_s hk1 (hLC.1 4 7 (by decide) (by decide) (by decide))
  have hP_r : va_P D vwCl (pX0 cI cJ cC a_r v_r) H := zKeepB hP_r hk1 (hLC.1 5 7 (by decide) (by decide) (by decide))
  have hP_c : va_P D vwCl (pX1 cI cJ cC a_c v_c) H := zKeepB hP_c hk1 (hLC.1 6 7 (by decide) (by decide) (by decide))
  refine lv_icmp_eq (tgt := 1171) hx hb dL_law_231 (by decide) (fun z => ?_) (fun z => absurd h.1 z)
  exact hnext _ _ _ ⟨v_T, (n_space_2, n_beam_3, n_door_4, n_law_5, n_used_6, n_pipes_7, n_drilled_8, n_total_9, n_open_10, n_pipeInches_11, n_pipeChances_12, n_weights_13, n_woods_14, n_sums_15), v_k, (t_space_16, t_beam_17, t_door_18, t_law_19, t_used_20, t_pipes_21, t_drilled_22, t_total_23, t_open_24, t_pipeInches_25, t_pipeChances_26, t_weights_27, t_woods_28, t_sums_29), (s_length_30, s_place_31, v_s.2.2), v_r, v_c, (M_pipes_33, M_used_34, M_taped_35, M_at_36, M_statements_37, v_M.2.2.2.2.2.1, M_isKeeping_38, M_cursor_39, v_M.2.2.2.2.2.2.2.2.1, v_M.2.2.2.2.2.2.2.2.2.1, v_M.2.2.2.2.2.2.2.2.2.2.1, v_M.2.2.2.2.2.2.2.2.2.2.2.1, M_setting_40, M_hole_41, M_pipeAt_42, M_chance_43, M_weight_44, v_M.2.2.2.2.2.2.2.2.2.2.2.2.2.2.2.2.2.1, M_letter_45, M_letterAt_46, M_told_47, M_kept_48, v_M.2.2.2.2.2.2.2.2.2.2.2.2.2.2.2.2.2.2.2.2.2.2.1, v_M.2.2.2.2.2.2.2.2.2.2.2.2.2.2.2.2.2.2.2.2.2.2.2), h.2, hP_T, hP_n, hP_k, hP_t, hP_s, hP_r, hP_c, hP_M⟩ hS hl
def PH_set (RL : RT) : Prop := ∀ (v_T : PX4) (v_n : PX3) (v_k : PX3) (v_t : PX3) (v_s : PX2) (v_r : PX0) (v_c : PX1) (v_M : PX5) (p0 : Int32) (p1 : Int32), RL v_T v_n v_k v_s v_r v_M → wpX4_set (fun (r_1 : Int32) (T_refusals_2 : Nat → Int32) (n_space_3 : Int32) (n_beam_4 : Int32) (n_door_5 : Int32) (n_law_6 : Int32) (n_used_7 : Int32) (n_total_8 : Int64) (n_open_9 : Int32) (n_weights_10 : Nat → Int64) (n_woods_11 : Nat → Int32) (n_sums_12 : Nat → Int64) => wpX5_set (fun (r_13 : Int32) (M_used_14 : Int32) (M_refused_15 : Nat → Int32) (M_setting_16 : Nat → Int32) (M_weight_17 : Nat → Int32) => r_1 = r_13 ∧ RL (v_T.1, T_refusals_2) (n_space_3, n_beam_4, n_door_5, n_law_6, n_used_7, v_n.2.2.2.2.2.1, v_n.2.2.2.2.2.2.1, n_total_8, n_open_9, v_n.2.2.2.2.2.2.2.2.2.1, v_n.2.2.2.2.2.2.2.2.2.2.1, n_weights_10, n_woods_11, n_sums_12) v_k v_s v_r (v_M.1, M_used_14, v_M.2.2.1, v_M.2.2.2.1, v_M.2.2.2.2.1, v_M.2.2.2.2.2.1, v_M.2.2.2.2.2.2.1, v_M.2.2.2.2.2.2.2.1, v_M.2.2.2.2.2.2.2.2.1, v_M.2.2.2.2.2.2.2.2.2.1, v_M.2.2.2.2.2.2.2.2.2.2.1, M_refused_15, M_setting_16, v_M.2.2.2.2.2.2.2.2.2.2.2.2.2.1, v_M.2.2.2.2.2.2.2.2.2.2.2.2.2.2.1, v_M.2.2.2.2.2.2.2.2.2.2.2.2.2.2.2.1, M_weight_17, v_M.2.2.2.2.2.2.2.2.2.2.2.2.2.2.2.2.2.1, v_M.2.2.2.2.2.2.2.2.2.2.2.2.2.2.2.2.2.2.1, v_M.2.2.2.2.2.2.2.2.2.2.2.2.2.2.2.2.2.2.2.1, v_M.2.2.2.2.2.2.2.2.2.2.2.2.2.2.2.2.2.2.2.2.1, v_M.2.2.2.2.2.2.2.2.2.2.2.2.2.2.2.2.2.2.2.2.2.1, v_M.2.2.2.2.2.2.2.2.2.2.2.2.2.2.2.2.2.2.2.2.2.2.1, v_M.2.2.2.2.2.2.2.2.2.2.2.2.2.2.2.2.2.2.2.2.2.2.2)) v_M.2.1 v_M.2.2.2.2.2.2.2.2.2.2.2.1 v_M.2.2.2.2.2.2.2.2.2.2.2.2.1 v_M.2.2.2.2.2.2.2.2.2.2.2.2.2.2.2.2.1 p0 p1) v_T.2 v_n.1 v_n.2.1 v_n.2.2.1 v_n.2.2.2.1 v_n.2.2.2.2.1 v_n.2.2.2.2.2.2.2.1 v_n.2.2.2.2.2.2.2.2.1 v_n.2.2.2.2.2.2.2.2.2.2.2.1 v_n.2.2.2.2.2.2.2.2.2.2.2.2.1 v_n.2.2.2.2.2.2.2.2.2.2.2.2.2 p0 p1
set_option maxHeartbeats 4000000 in
set_option maxRecDepth 100000 in
theorem lawC_set {p : Program} {l : Launch} {e : Env} {s : State} {m : MethodId} {below : List Frame} {meth : Method} {c : Code} {Q : State → Prop} {b L : Nat} {xs : Nat → Int32} {D : va_G} {cI cJ cC : ClassId} {G : Nat → Nat → Nat} {a_T a_n a_k a_t a_s a_r a_c a_M : Nat → Nat} (RL : RT) (hp : PH_set RL) (S : CallFix p m c code 4 s #[Value.ref b] bg R_law) (hX : va_X b L xs s s.heap) (hbl : b < s.heap.size) (hK : va_K D vwCl (tz cI cJ cC) s) (hLC : LC a_T a_n a_k a_t a_s a_r a_c a_M (fun q : Nat => s.heap.size ≤ q)) (hE : EV G (fun q : Nat => s.heap.size ≤ q) s) {i : Nat} {x3 : Int32} (hi : ∀ k : Nat, k < 4 → vp_in (x3 + Int32.ofNat k) L) (hv : ∀ k : Nat, k < 4 → xs (x3 + Int32.ofNat k).toNatClampNeg = xs (i + k)) {H : Heap} {locs : List Loc} {ls : Array Slot} (hJ : JW RL D cI cJ cC a_T a_n a_k a_t a_s a_r a_c a_M H) (hS : va_S (fun q : Nat => s.heap.size ≤ q) s.heap H locs) (hl : lv_has ls 4 [(0, .ref b), (1, .ref (a_T 0)), (2, .ref (a_M 0)), (3, .int x3)])
    (hnext : ∀ (H : Heap) (locs : List Loc) (ls : Array Slot), JW RL D cI cJ cC a_T a_n a_k a_t a_s a_r a_c a_M H → va_S (fun q : Nat => s.heap.size ≤ q) s.heap H locs → lv_has ls 4 [(0, .ref b), (1, .ref (a_T 0)), (2, .ref (a_M 0)), (3, .int x3)] → W p l e room_1 s m #[Value.ref b] below meth c H locs 41 1350 Q (F0 m 1171 ls [])) : W p l e room_1 s m #[Value.ref b] below meth c H locs 41 1350 Q (F0 m 236 ls []) := by
  obtain ⟨hx, hb, hml, hown, ht⟩ := id S
  have hA : ∀ q : Nat, s.heap.size ≤ q → (fun q : Nat => s.heap.size ≤ q) q := fun _ h => h
  have hbA : ¬ (fun q : Nat => s.heap.size ≤ q) b := Nat.not_le.mpr hbl
  obtain ⟨v_T, v_n, v_k, v_t, v_s, v_r, v_c, v_M, hR, hP_T, hP_n, hP_k, hP_t, hP_s, hP_r, hP_c, hP_M⟩ := hJ
  have h := hp v_T v_n v_k v_t v_s v_r v_c v_M (xs (i + 1)) (xs (i + 2)) hR
  refine lv_aload_n hx hb dL_law_236 rfl (lv_at hl 1 rfl) ?_
  refine lv_aload_n hx hb dL_law_237 rfl (lv_at hl 0 rfl) ?_
  refine lv_iload_n hx hb dL_law_238 rfl (lv_at hl 3 rfl) ?_
  refine lv_iconst (v := (1 : Int32)) hx hb dL_law_239 (by decide) ?_
  refine lv_iadd hx hb dL_law_240 ?_
  refine va_sld hx hb hX hbl hbA hS (hi 1 (by decide)) dL_law_241 ?_
  refine zti (hv 1 (by decide)) ?_
  refine lv_aload_n hx hb dL_law_242 rfl (lv_at hl 0 rfl) ?_
  refine lv_iload_n hx hb dL_law_243 rfl (lv_at hl 3 rfl) ?_
  refine lv_iconst (v := (2 : Int32)) hx hb dL_law_244 (by decide) ?_
  refine lv_iadd hx hb dL_law_245 ?_
  refine va_sld hx hb hX hbl hbA hS (hi 2 (by decide)) dL_law_246 ?_
  refine zti (hv 2 (by decide)) ?_
  have hPw : va_P D vwCl ((pX4 cI cJ cC a_T a_n a_k a_t a_s a_r a_c v_T) ++ (pX3 cI cJ cC a_n v_n)) _ := (hP_T.app hP_n)
  have hDw : va_D (fun q : Nat => s.heap.size ≤ q) ((pX4 cI cJ cC a_T a_n a_k a_t a_s a_r a_c v_T) ++ (pX3 cI cJ cC a_n v_n)) := hLC.2.2.2.1 _ rfl
  refine zci hA hDw hS (zrunV (As := [.int (xs (i + 1)), .int (xs (i + 2))]) (rest := []) S hK hA hE hPw hDw hS (mX4_set l D cI cJ cC G a_T a_n a_k a_t a_s a_r a_c _ v_T.1 v_T.2 v_n.1 v_n.2.1 v_n.2.2.1 v_n.2.2.2.1 v_n.2.2.2.2.1 v_n.2.2.2.2.2.1 v_n.2.2.2.2.2.2.1 v_n.2.2.2.2.2.2.2.1 v_n.2.2.2.2.2.2.2.2.1 v_n.2.2.2.2.2.2.2.2.2.1 v_n.2.2.2.2.2.2.2.2.2.2.1 v_n.2.2.2.2.2.2.2.2.2.2.2.1 v_n.2.2.2.2.2.2.2.2.2.2.2.2.1 v_n.2.2.2.2.2.2.2.2.2.2.2.2.2 (xs (i + 1)) (xs (i + 2)) _ h) kX4_set ml_L_23 ⟨rfl, rfl, by decide, by decide⟩ (q0 := 0) (ci := 4) rfl rfl rfl rfl hl.1 rfl (Nat.le_of_ble_eq_true rfl) dL_law_247 ⟨by decide, by decide⟩) (fun r_1 u H locs h hP1 hk1 hS => ?_)
  obtain ⟨T_refusals_2, n_space_3, n_beam_4, n_door_5, n_law_6, n_used_7, n_total_8, n_open_9, n_weights_10, n_woods_11, n_sums_12⟩ := u
  try dsimp only at h
  have hP_n : va_P D vwCl (bX3 cI cJ cC a_n n_space_3 n_beam_4 n_door_5 n_law_6 n_used_7 v_n.2.2.2.2.2.1 v_n.2.2.2.2.2.2.1 n_total_8 n_open_9 v_n.2.2.2.2.2.2.2.2.2.1 v_n.2.2.2.2.2.2.2.2.2.2.1 n_weights_10 n_woods_11 n_sums_12) H := zPr hP1
  have hP_T : va_P D vwCl (bX4 cI cJ cC a_T a_n a_k a_t a_s a_r a_c v_T.1 T_refusals_2) H := zPl (hP1)
  have hP_k : va_P D vwCl (pX3 cI cJ cC a_k v_k) H := zKeepB hP_k hk1 (dj_app (hLC.1 2 0 (by decide) (by decide) (by decide)) (hLC.1 2 1 (by decide) (by decide) (by decide)))
  have hP_t : va_P D vwCl (pX3 cI cJ cC a_t v_t) H := zKeepB hP_t hk1 (dj_app (hLC.1 3 0 (by decide) (by decide) (by decide)) (hLC.1 3 1 (by decide) (by decide) (by decide)))
  have hP_s : va_P D vwCl (pX2 cI cJ cC a_s v_s) H := zKeepB hP_s hk1 (dj_app (hLC.1 4 0 (by decide) (by decide) (by decide)) (hLC.1 4 1 (by decide) (by decide) (by decide)))
  have hP_r : va_P D vwCl (pX0 cI cJ cC a_r v_r) H := zKeepB hP_r hk1 (dj_app (hLC.1 5 0 (by decide) (by decide) (by decide)) (hLC.1 5 1 (by decide) (by decide) (by decide)))
  have hP_c : va_P D vwCl (pX1 cI cJ cC a_c v_c) H := zKeepB hP_c hk1 (dj_app (hLC.1 6 0 (by decide) (by decide) (by decide)) (hLC.1 6 1 (by decide) (by decide) (by decide)))
  have hP_M : va_P D vwCl (pX5 cI cJ cC a_M v_M) H := zKeepB hP_M hk1 (dj_app (hLC.1 7 0 (by decide) (by decide) (by decide)) (hLC.1 7 1 (by decide) (by decide) (by decide)))
  refine lv_aload_n hx hb dL_law_250 rfl (lv_at hl 2 rfl) ?_
  refine lv_aload_n hx hb dL_law_251 rfl (lv_at hl 0 rfl) ?_
  refine lv_iload_n hx hb dL_law_252 rfl (lv_at hl 3 rfl) ?_
  refine lv_iconst (v := (1 : Int32)) hx hb dL_law_253 (by decide) ?_
  refine lv_iadd hx hb dL_law_254 ?_
  refine va_sld hx hb hX hbl hbA hS (hi 1 (by decide)) dL_law_255 ?_
  refine zti (hv 1 (by decide)) ?_
  refine lv_aload_n hx hb dL_law_256 rfl (lv_at hl 0 rfl) ?_
  refine lv_iload_n hx hb dL_law_257 rfl (lv_at hl 3 rfl) ?_
  refine lv_iconst (v := (2 : Int32)) hx hb dL_law_258 (by decide) ?_
  refine lv_iadd hx hb dL_law_259 ?_
  refine va_sld hx hb hX hbl hbA hS (hi 2 (by decide)) dL_law_260 ?_
  refine zti (hv 2 (by decide)) ?_
  have hPw : va_P D vwCl ((pX5 cI cJ cC a_M v_M)) _ := hP_M
  have hDw : va_D (fun q : Nat => s.heap.size ≤ q) ((pX5 cI cJ cC a_M v_M)) := hLC.2.2.2.2.2.2.2.2.2.2.2 _ rfl
  refine zci hA hDw hS (zrunV (As := [.int (xs (i + 1)), .int (xs (i + 2))]) (rest := [.int r_1]) S hK hA hE hPw hDw hS (mX5_set l D cI cJ cC G a_M _ v_M.1 v_M.2.1 v_M.2.2.1 v_M.2.2.2.1 v_M.2.2.2.2.1 v_M.2.2.2.2.2.1 v_M.2.2.2.2.2.2.1 v_M.2.2.2.2.2.2.2.1 v_M.2.2.2.2.2.2.2.2.1 v_M.2.2.2.2.2.2.2.2.2.1 v_M.2.2.2.2.2.2.2.2.2.2.1 v_M.2.2.2.2.2.2.2.2.2.2.2.1 v_M.2.2.2.2.2.2.2.2.2.2.2.2.1 v_M.2.2.2.2.2.2.2.2.2.2.2.2.2.1 v_M.2.2.2.2.2.2.2.2.2.2.2.2.2.2.1 v_M.2.2.2.2.2.2.2.2.2.2.2.2.2.2.2.1 v_M.2.2.2.2.2.2.2.2.2.2.2.2.2.2.2.2.1 v_M.2.2.2.2.2.2.2.2.2.2.2.2.2.2.2.2.2.1 v_M.2.2.2.2.2.2.2.2.2.2.2.2.2.2.2.2.2.2.1 v_M.2.2.2.2.2.2.2.2.2.2.2.2.2.2.2.2.2.2.2.1 v_M.2.2.2.2.2.2.2.2.2.2.2.2.2.2.2.2.2.2.2.2.1 v_M.2.2.2.2.2.2.2.2.2.2.2.2.2.2.2.2.2.2.2.2.2.1 v_M.2.2.2.2.2.2.2.2.2.2.2.2.2.2.2.2.2.2.2.2.2.2.1 v_M.2.2.2.2.2.2.2.2.2.2.2.2.2.2.2.2.2.2.2.2.2.2.2 (xs (i + 1)) (xs (i + 2)) _ h) kX5_set ml_L_27 ⟨rfl, rfl, by decide, by decide⟩ (q0 := 0) (ci := 5) rfl rfl rfl rfl hl.1 rfl (Nat.le_of_ble_eq_true rfl) dL_law_261 ⟨by decide, by decide⟩) (fun r_13 u H locs h hP1 hk1 hS => ?_)
  obtain ⟨M_used_14, M_refused_15, M_setting_16, M_weight_17⟩ := u
  try dsimp only at h
  have hP_M : va_P D vwCl (bX5 cI cJ cC a_M v_M.1 M_used_14 v_M.2.2.1 v_M.2.2.2.1 v_M.2.2.2.2.1 v_M.2.2.2.2.2.1 v_M.2.2.2.2.2.2.1 v_M.2.2.2.2.2.2.2.1 v_M.2.2.2.2.2.2.2.2.1 v_M.2.2.2.2.2.2.2.2.2.1 v_M.2.2.2.2.2.2.2.2.2.2.1 M_refused_15 M_setting_16 v_M.2.2.2.2.2.2.2.2.2.2.2.2.2.1 v_M.2.2.2.2.2.2.2.2.2.2.2.2.2.2.1 v_M.2.2.2.2.2.2.2.2.2.2.2.2.2.2.2.1 M_weight_17 v_M.2.2.2.2.2.2.2.2.2.2.2.2.2.2.2.2.2.1 v_M.2.2.2.2.2.2.2.2.2.2.2.2.2.2.2.2.2.2.1 v_M.2.2.2.2.2.2.2.2.2.2.2.2.2.2.2.2.2.2.2.1 v_M.2.2.2.2.2.2.2.2.2.2.2.2.2.2.2.2.2.2.2.2.1 v_M.2.2.2.2.2.2.2.2.2.2.2.2.2.2.2.2.2.2.2.2.2.1 v_M.2.2.2.2.2.2.2.2.2.2.2.2.2.2.2.2.2.2.2.2.2.2.1 v_M.2.2.2.2.2.2.2.2.2.2.2.2.2.2.2.2.2.2.2.2.2.2.2) H := hP1
  have hP_T : va_P D vwCl (bX4 cI cJ cC a_T a_n a_k a_t a_s a_r a_c v_T.1 T_refusals_2) H := zKeepB hP_T hk1 (hLC.1 0 7 (by decide) (by decide) (by decide))
  have hP_n : va_P D vwCl (bX3 cI cJ cC a_n n_space_3 n_beam_4 n_door_5 n_law_6 n_used_7 v_n.2.2.2.2.2.1 v_n.2.2.2.2.2.2.1 n_total_8 n_open_9 v_n.2.2.2.2.2.2.2.2.2.1 v_n.2.2.2.2.2.2.2.2.2.2.1 n_weights_10 n_woods_11 n_sums_12) H := zKeepB hP_n hk1 (hLC.1 1 7 (by decide) (by decide) (by decide))
  have hP_k : va_P D vwCl (pX3 cI cJ cC a_k v_k) H := zKeepB hP_k hk1 (hLC.1 2 7 (by decide) (by decide) (by decide))
  have hP_t : va_P D vwCl (pX3 cI cJ cC a_t v_t) H := zKeepB hP_t hk1 (hLC.1 3 7 (by decide) (by decide) (by decide))
  have hP_s : va_P D vwCl (pX2 cI cJ cC a_s v_s) H := zKeepB hP_s hk1 (hLC.1 4 7 (by decide) (by decide) (by decide))
  have hP_r : va_P D vwCl (pX0 cI cJ cC a_r v_r) H := zKeepB hP_r hk1 (hLC.1 5 7 (by decide) (by decide) (by decide))
  have hP_c : va_P D vwCl (pX1 cI cJ cC a_c v_c) H := zKeepB hP_c hk1 (hLC.1 6 7 (by decide) (by decide) (by decide))
  refine lv_icmp_eq (tgt := 1171) hx hb dL_law_264 (by decide) (fun z => ?_) (fun z => absurd h.1 z)
  exact hnext _ _ _ ⟨(v_T.1, T_refusals_2), (n_space_3, n_beam_4, n_door_5, n_law_6, n_used_7, v_n.2.2.2.2.2.1, v_n.2.2.2.2.2.2.1, n_total_8, n_open_9, v_n.2.2.2.2.2.2.2.2.2.1, v_n.2.2.2.2.2.2.2.2.2.2.1, n_weights_10, n_woods_11, n_sums_12), v_k, v_t, v_s, v_r, v_c, (v_M.1, M_used_14, v_M.2.2.1, v_M.2.2.2.1, v_M.2.2.2.2.1, v_M.2.2.2.2.2.1, v_M.2.2.2.2.2.2.1, v_M.2.2.2.2.2.2.2.1, v_M.2.2.2.2.2.2.2.2.1, v_M.2.2.2.2.2.2.2.2.2.1, v_M.2.2.2.2.2.2.2.2.2.2.1, M_refused_15, M_setting_16, v_M.2.2.2.2.2.2.2.2.2.2.2.2.2.1, v_M.2.2.2.2.2.2.2.2.2.2.2.2.2.2.1, v_M.2.2.2.2.2.2.2.2.2.2.2.2.2.2.2.1, M_weight_17, v_M.2.2.2.2.2.2.2.2.2.2.2.2.2.2.2.2.2.1, v_M.2.2.2.2.2.2.2.2.2.2.2.2.2.2.2.2.2.2.1, v_M.2.2.2.2.2.2.2.2.2.2.2.2.2.2.2.2.2.2.2.1, v_M.2.2.2.2.2.2.2.2.2.2.2.2.2.2.2.2.2.2.2.2.1, v_M.2.2.2.2.2.2.2.2.2.2.2.2.2.2.2.2.2.2.2.2.2.1, v_M.2.2.2.2.2.2.2.2.2.2.2.2.2.2.2.2.2.2.2.2.2.2.1, v_M.2.2.2.2.2.2.2.2.2.2.2.2.2.2.2.2.2.2.2.2.2.2.2), h.2, hP_T, hP_n, hP_k, hP_t, hP_s, hP_r, hP_c, hP_M⟩ hS hl
def PH_wood (RL : RT) : Prop := ∀ (v_T : PX4) (v_n : PX3) (v_k : PX3) (v_t : PX3) (v_s : PX2) (v_r : PX0) (v_c : PX1) (v_M : PX5) (p0 : Int32) (p1 : Int32), RL v_T v_n v_k v_s v_r v_M → wpX4_wood (fun (r_1 : Int32) (T_refusals_2 : Nat → Int32) => wpX5_wood (fun (r_3 : Int32) (M_refused_4 : Nat → Int32) => r_1 = r_3 ∧ RL (v_T.1, T_refusals_2) v_n v_k v_s v_r (v_M.1, v_M.2.1, v_M.2.2.1, v_M.2.2.2.1, v_M.2.2.2.2.1, v_M.2.2.2.2.2.1, v_M.2.2.2.2.2.2.1, v_M.2.2.2.2.2.2.2.1, v_M.2.2.2.2.2.2.2.2.1, v_M.2.2.2.2.2.2.2.2.2.1, v_M.2.2.2.2.2.2.2.2.2.2.1, M_refused_4, v_M.2.2.2.2.2.2.2.2.2.2.2.2.1, v_M.2.2.2.2.2.2.2.2.2.2.2.2.2.1, v_M.2.2.2.2.2.2.2.2.2.2.2.2.2.2.1, v_M.2.2.2.2.2.2.2.2.2.2.2.2.2.2.2.1, v_M.2.2.2.2.2.2.2.2.2.2.2.2.2.2.2.2.1, v_M.2.2.2.2.2.2.2.2.2.2.2.2.2.2.2.2.2.1, v_M.2.2.2.2.2.2.2.2.2.2.2.2.2.2.2.2.2.2.1, v_M.2.2.2.2.2.2.2.2.2.2.2.2.2.2.2.2.2.2.2.1, v_M.2.2.2.2.2.2.2.2.2.2.2.2.2.2.2.2.2.2.2.2.1, v_M.2.2.2.2.2.2.2.2.2.2.2.2.2.2.2.2.2.2.2.2.2.1, v_M.2.2.2.2.2.2.2.2.2.2.2.2.2.2.2.2.2.2.2.2.2.2.1, v_M.2.2.2.2.2.2.2.2.2.2.2.2.2.2.2.2.2.2.2.2.2.2.2)) v_M.2.2.2.2.2.2.2.2.2.2.2.1 v_M.2.2.2.2.2.2.2.2.2.2.2.2.1 p0 p1) v_T.2 v_n.1 v_n.2.2.2.2.2.2.2.2.2.2.2.2.1 p0 p1
set_option maxHeartbeats 4000000 in
set_option maxRecDepth 100000 in
theorem lawC_wood {p : Program} {l : Launch} {e : Env} {s : State} {m : MethodId} {below : List Frame} {meth : Method} {c : Code} {Q : State → Prop} {b L : Nat} {xs : Nat → Int32} {D : va_G} {cI cJ cC : ClassId} {G : Nat → Nat → Nat} {a_T a_n a_k a_t a_s a_r a_c a_M : Nat → Nat} (RL : RT) (hp : PH_wood RL) (S : CallFix p m c code 4 s #[Value.ref b] bg R_law) (hX : va_X b L xs s s.heap) (hbl : b < s.heap.size) (hK : va_K D vwCl (tz cI cJ cC) s) (hLC : LC a_T a_n a_k a_t a_s a_r a_c a_M (fun q : Nat => s.heap.size ≤ q)) (hE : EV G (fun q : Nat => s.heap.size ≤ q) s) {i : Nat} {x3 : Int32} (hi : ∀ k : Nat, k < 4 → vp_in (x3 + Int32.ofNat k) L) (hv : ∀ k : Nat, k < 4 → xs (x3 + Int32.ofNat k).toNatClampNeg = xs (i + k)) {H : Heap} {locs : List Loc} {ls : Array Slot} (hJ : JW RL D cI cJ cC a_T a_n a_k a_t a_s a_r a_c a_M H) (hS : va_S (fun q : Nat => s.heap.size ≤ q) s.heap H locs) (hl : lv_has ls 4 [(0, .ref b), (1, .ref (a_T 0)), (2, .ref (a_M 0)), (3, .int x3)])
    (hnext : ∀ (H : Heap) (locs : List Loc) (ls : Array Slot), JW RL D cI cJ cC a_T a_n a_k a_t a_s a_r a_c a_M H → va_S (fun q : Nat => s.heap.size ≤ q) s.heap H locs → lv_has ls 4 [(0, .ref b), (1, .ref (a_T 0)), (2, .ref (a_M 0)), (3, .int x3)] → W p l e room_1 s m #[Value.ref b] below meth c H locs 41 1350 Q (F0 m 1171 ls [])) : W p l e room_1 s m #[Value.ref b] below meth c H locs 41 1350 Q (F0 m 269 ls []) := by
  obtain ⟨hx, hb, hml, hown, ht⟩ := id S
  have hA : ∀ q : Nat, s.heap.size ≤ q → (fun q : Nat => s.heap.size ≤ q) q := fun _ h => h
  have hbA : ¬ (fun q : Nat => s.heap.size ≤ q) b := Nat.not_le.mpr hbl
  obtain ⟨v_T, v_n, v_k, v_t, v_s, v_r, v_c, v_M, hR, hP_T, hP_n, hP_k, hP_t, hP_s, hP_r, hP_c, hP_M⟩ := hJ
  have h := hp v_T v_n v_k v_t v_s v_r v_c v_M (xs (i + 1)) (xs (i + 2)) hR
  refine lv_aload_n hx hb dL_law_269 rfl (lv_at hl 1 rfl) ?_
  refine lv_aload_n hx hb dL_law_270 rfl (lv_at hl 0 rfl) ?_
  refine lv_iload_n hx hb dL_law_271 rfl (lv_at hl 3 rfl) ?_
  refine lv_iconst (v := (1 : Int32)) hx hb dL_law_272 (by decide) ?_
  refine lv_iadd hx hb dL_law_273 ?_
  refine va_sld hx hb hX hbl hbA hS (hi 1 (by decide)) dL_law_274 ?_
  refine zti (hv 1 (by decide)) ?_
  refine lv_aload_n hx hb dL_law_275 rfl (lv_at hl 0 rfl) ?_
  refine lv_iload_n hx hb dL_law_276 rfl (lv_at hl 3 rfl) ?_
  refine lv_iconst (v := (2 : Int32)) hx hb dL_law_277 (by decide) ?_
  refine lv_iadd hx hb dL_law_278 ?_
  refine va_sld hx hb hX hbl hbA hS (hi 2 (by decide)) dL_law_279 ?_
  refine zti (hv 2 (by decide)) ?_
  have hPw : va_P D vwCl ((pX4 cI cJ cC a_T a_n a_k a_t a_s a_r a_c v_T) ++ (pX3 cI cJ cC a_n v_n)) _ := (hP_T.app hP_n)
  have hDw : va_D (fun q : Nat => s.heap.size ≤ q) ((pX4 cI cJ cC a_T a_n a_k a_t a_s a_r a_c v_T) ++ (pX3 cI cJ cC a_n v_n)) := hLC.2.2.2.1 _ rfl
  refine zci hA hDw hS (zrunV (As := [.int (xs (i + 1)), .int (xs (i + 2))]) (rest := []) S hK hA hE hPw hDw hS (mX4_wood l D cI cJ cC G a_T a_n a_k a_t a_s a_r a_c _ v_T.1 v_T.2 v_n.1 v_n.2.1 v_n.2.2.1 v_n.2.2.2.1 v_n.2.2.2.2.1 v_n.2.2.2.2.2.1 v_n.2.2.2.2.2.2.1 v_n.2.2.2.2.2.2.2.1 v_n.2.2.2.2.2.2.2.2.1 v_n.2.2.2.2.2.2.2.2.2.1 v_n.2.2.2.2.2.2.2.2.2.2.1 v_n.2.2.2.2.2.2.2.2.2.2.2.1 v_n.2.2.2.2.2.2.2.2.2.2.2.2.1 v_n.2.2.2.2.2.2.2.2.2.2.2.2.2 (xs (i + 1)) (xs (i + 2)) _ h) kX4_wood ml_L_28 ⟨rfl, rfl, by decide, by decide⟩ (q0 := 0) (ci := 4) rfl rfl rfl rfl hl.1 rfl (Nat.le_of_ble_eq_true rfl) dL_law_280 ⟨by decide, by decide⟩) (fun r_1 T_refusals_2 H locs h hP1 hk1 hS => ?_)
  try dsimp only at h
  have hP_n : va_P D vwCl (pX3 cI cJ cC a_n v_n) H := zPr hP1
  have hP_T : va_P D vwCl (bX4 cI cJ cC a_T a_n a_k a_t a_s a_r a_c v_T.1 T_refusals_2) H := zPl (hP1)
  have hP_k : va_P D vwCl (pX3 cI cJ cC a_k v_k) H := zKeepB hP_k hk1 (dj_app (hLC.1 2 0 (by decide) (by decide) (by decide)) (hLC.1 2 1 (by decide) (by decide) (by decide)))
  have hP_t : va_P D vwCl (pX3 cI cJ cC a_t v_t) H := zKeepB hP_t hk1 (dj_app (hLC.1 3 0 (by decide) (by decide) (by decide)) (hLC.1 3 1 (by decide) (by decide) (by decide)))
  have hP_s : va_P D vwCl (pX2 cI cJ cC a_s v_s) H := zKeepB hP_s hk1 (dj_app (hLC.1 4 0 (by decide) (by decide) (by decide)) (hLC.1 4 1 (by decide) (by decide) (by decide)))
  have hP_r : va_P D vwCl (pX0 cI cJ cC a_r v_r) H := zKeepB hP_r hk1 (dj_app (hLC.1 5 0 (by decide) (by decide) (by decide)) (hLC.1 5 1 (by decide) (by decide) (by decide)))
  have hP_c : va_P D vwCl (pX1 cI cJ cC a_c v_c) H := zKeepB hP_c hk1 (dj_app (hLC.1 6 0 (by decide) (by decide) (by decide)) (hLC.1 6 1 (by decide) (by decide) (by decide)))
  have hP_M : va_P D vwCl (pX5 cI cJ cC a_M v_M) H := zKeepB hP_M hk1 (dj_app (hLC.1 7 0 (by decide) (by decide) (by decide)) (hLC.1 7 1 (by decide) (by decide) (by decide)))
  refine lv_aload_n hx hb dL_law_283 rfl (lv_at hl 2 rfl) ?_
  refine lv_aload_n hx hb dL_law_284 rfl (lv_at hl 0 rfl) ?_
  refine lv_iload_n hx hb dL_law_285 rfl (lv_at hl 3 rfl) ?_
  refine lv_iconst (v := (1 : Int32)) hx hb dL_law_286 (by decide) ?_
  refine lv_iadd hx hb dL_law_287 ?_
  refine va_sld hx hb hX hbl hbA hS (hi 1 (by decide)) dL_law_288 ?_
  refine zti (hv 1 (by decide)) ?_
  refine lv_aload_n hx hb dL_law_289 rfl (lv_at hl 0 rfl) ?_
  refine lv_iload_n hx hb dL_law_290 rfl (lv_at hl 3 rfl) ?_
  refine lv_iconst (v := (2 : Int32)) hx hb dL_law_291 (by decide) ?_
  refine lv_iadd hx hb dL_law_292 ?_
  refine va_sld hx hb hX hbl hbA hS (hi 2 (by decide)) dL_law_293 ?_
  refine zti (hv 2 (by decide)) ?_
  have hPw : va_P D vwCl ((pX5 cI cJ cC a_M v_M)) _ := hP_M
  have hDw : va_D (fun q : Nat => s.heap.size ≤ q) ((pX5 cI cJ cC a_M v_M)) := hLC.2.2.2.2.2.2.2.2.2.2.2 _ rfl
  refine zci hA hDw hS (zrunV (As := [.int (xs (i + 1)), .int (xs (i + 2))]) (rest := [.int r_1]) S hK hA hE hPw hDw hS (mX5_wood l D cI cJ cC G a_M _ v_M.1 v_M.2.1 v_M.2.2.1 v_M.2.2.2.1 v_M.2.2.2.2.1 v_M.2.2.2.2.2.1 v_M.2.2.2.2.2.2.1 v_M.2.2.2.2.2.2.2.1 v_M.2.2.2.2.2.2.2.2.1 v_M.2.2.2.2.2.2.2.2.2.1 v_M.2.2.2.2.2.2.2.2.2.2.1 v_M.2.2.2.2.2.2.2.2.2.2.2.1 v_M.2.2.2.2.2.2.2.2.2.2.2.2.1 v_M.2.2.2.2.2.2.2.2.2.2.2.2.2.1 v_M.2.2.2.2.2.2.2.2.2.2.2.2.2.2.1 v_M.2.2.2.2.2.2.2.2.2.2.2.2.2.2.2.1 v_M.2.2.2.2.2.2.2.2.2.2.2.2.2.2.2.2.1 v_M.2.2.2.2.2.2.2.2.2.2.2.2.2.2.2.2.2.1 v_M.2.2.2.2.2.2.2.2.2.2.2.2.2.2.2.2.2.2.1 v_M.2.2.2.2.2.2.2.2.2.2.2.2.2.2.2.2.2.2.2.1 v_M.2.2.2.2.2.2.2.2.2.2.2.2.2.2.2.2.2.2.2.2.1 v_M.2.2.2.2.2.2.2.2.2.2.2.2.2.2.2.2.2.2.2.2.2.1 v_M.2.2.2.2.2.2.2.2.2.2.2.2.2.2.2.2.2.2.2.2.2.2.1 v_M.2.2.2.2.2.2.2.2.2.2.2.2.2.2.2.2.2.2.2.2.2.2.2 (xs (i + 1)) (xs (i + 2)) _ h) kX5_wood ml_L_31 ⟨rfl, rfl, by decide, by decide⟩ (q0 := 0) (ci := 5) rfl rfl rfl rfl hl.1 rfl (Nat.le_of_ble_eq_true rfl) dL_law_294 ⟨by decide, by decide⟩) (fun r_3 M_refused_4 H locs h hP1 hk1 hS => ?_)
  try dsimp only at h
  have hP_M : va_P D vwCl (bX5 cI cJ cC a_M v_M.1 v_M.2.1 v_M.2.2.1 v_M.2.2.2.1 v_M.2.2.2.2.1 v_M.2.2.2.2.2.1 v_M.2.2.2.2.2.2.1 v_M.2.2.2.2.2.2.2.1 v_M.2.2.2.2.2.2.2.2.1 v_M.2.2.2.2.2.2.2.2.2.1 v_M.2.2.2.2.2.2.2.2.2.2.1 M_refused_4 v_M.2.2.2.2.2.2.2.2.2.2.2.2.1 v_M.2.2.2.2.2.2.2.2.2.2.2.2.2.1 v_M.2.2.2.2.2.2.2.2.2.2.2.2.2.2.1 v_M.2.2.2.2.2.2.2.2.2.2.2.2.2.2.2.1 v_M.2.2.2.2.2.2.2.2.2.2.2.2.2.2.2.2.1 v_M.2.2.2.2.2.2.2.2.2.2.2.2.2.2.2.2.2.1 v_M.2.2.2.2.2.2.2.2.2.2.2.2.2.2.2.2.2.2.1 v_M.2.2.2.2.2.2.2.2.2.2.2.2.2.2.2.2.2.2.2.1 v_M.2.2.2.2.2.2.2.2.2.2.2.2.2.2.2.2.2.2.2.2.1 v_M.2.2.2.2.2.2.2.2.2.2.2.2.2.2.2.2.2.2.2.2.2.1 v_M.2.2.2.2.2.2.2.2.2.2.2.2.2.2.2.2.2.2.2.2.2.2.1 v_M.2.2.2.2.2.2.2.2.2.2.2.2.2.2.2.2.2.2.2.2.2.2.2) H := hP1
  have hP_T : va_P D vwCl (bX4 cI cJ cC a_T a_n a_k a_t a_s a_r a_c v_T.1 T_refusals_2) H := zKeepB hP_T hk1 (hLC.1 0 7 (by decide) (by decide) (by decide))
  have hP_n : va_P D vwCl (pX3 cI cJ cC a_n v_n) H := zKeepB hP_n hk1 (hLC.1 1 7 (by decide) (by decide) (by decide))
  have hP_k : va_P D vwCl (pX3 cI cJ cC a_k v_k) H := zKeepB hP_k hk1 (hLC.1 2 7 (by decide) (by decide) (by decide))
  have hP_t : va_P D vwCl (pX3 cI cJ cC a_t v_t) H := zKeepB hP_t hk1 (hLC.1 3 7 (by decide) (by decide) (by decide))
  have hP_s : va_P D vwCl (pX2 cI cJ cC a_s v_s) H := zKeepB hP_s hk1 (hLC.1 4 7 (by decide) (by decide) (by decide))
  have hP_r : va_P D vwCl (pX0 cI cJ cC a_r v_r) H := zKeepB hP_r hk1 (hLC.1 5 7 (by decide) (by decide) (by decide))
  have hP_c : va_P D vwCl (pX1 cI cJ cC a_c v_c) H := zKeepB hP_c hk1 (hLC.1 6 7 (by decide) (by decide) (by decide))
  refine lv_icmp_eq (tgt := 1171) hx hb dL_law_297 (by decide) (fun z => ?_) (fun z => absurd h.1 z)
  exact hnext _ _ _ ⟨(v_T.1, T_refusals_2), v_n, v_k, v_t, v_s, v_r, v_c, (v_M.1, v_M.2.1, v_M.2.2.1, v_M.2.2.2.1, v_M.2.2.2.2.1, v_M.2.2.2.2.2.1, v_M.2.2.2.2.2.2.1, v_M.2.2.2.2.2.2.2.1, v_M.2.2.2.2.2.2.2.2.1, v_M.2.2.2.2.2.2.2.2.2.1, v_M.2.2.2.2.2.2.2.2.2.2.1, M_refused_4, v_M.2.2.2.2.2.2.2.2.2.2.2.2.1, v_M.2.2.2.2.2.2.2.2.2.2.2.2.2.1, v_M.2.2.2.2.2.2.2.2.2.2.2.2.2.2.1, v_M.2.2.2.2.2.2.2.2.2.2.2.2.2.2.2.1, v_M.2.2.2.2.2.2.2.2.2.2.2.2.2.2.2.2.1, v_M.2.2.2.2.2.2.2.2.2.2.2.2.2.2.2.2.2.1, v_M.2.2.2.2.2.2.2.2.2.2.2.2.2.2.2.2.2.2.1, v_M.2.2.2.2.2.2.2.2.2.2.2.2.2.2.2.2.2.2.2.1, v_M.2.2.2.2.2.2.2.2.2.2.2.2.2.2.2.2.2.2.2.2.1, v_M.2.2.2.2.2.2.2.2.2.2.2.2.2.2.2.2.2.2.2.2.2.1, v_M.2.2.2.2.2.2.2.2.2.2.2.2.2.2.2.2.2.2.2.2.2.2.1, v_M.2.2.2.2.2.2.2.2.2.2.2.2.2.2.2.2.2.2.2.2.2.2.2), h.2, hP_T, hP_n, hP_k, hP_t, hP_s, hP_r, hP_c, hP_M⟩ hS hl
def PH_weight (RL : RT) : Prop := ∀ (v_T : PX4) (v_n : PX3) (v_k : PX3) (v_t : PX3) (v_s : PX2) (v_r : PX0) (v_c : PX1) (v_M : PX5) (p0 : Int32), RL v_T v_n v_k v_s v_r v_M → wpX4_weight (fun (r_1 : Int64) (T_refusals_2 : Nat → Int32) => wpX5_weight (fun (r_3 : Int64) (M_refused_4 : Nat → Int32) => r_1 = r_3 ∧ RL (v_T.1, T_refusals_2) v_n v_k v_s v_r (v_M.1, v_M.2.1, v_M.2.2.1, v_M.2.2.2.1, v_M.2.2.2.2.1, v_M.2.2.2.2.2.1, v_M.2.2.2.2.2.2.1, v_M.2.2.2.2.2.2.2.1, v_M.2.2.2.2.2.2.2.2.1, v_M.2.2.2.2.2.2.2.2.2.1, v_M.2.2.2.2.2.2.2.2.2.2.1, M_refused_4, v_M.2.2.2.2.2.2.2.2.2.2.2.2.1, v_M.2.2.2.2.2.2.2.2.2.2.2.2.2.1, v_M.2.2.2.2.2.2.2.2.2.2.2.2.2.2.1, v_M.2.2.2.2.2.2.2.2.2.2.2.2.2.2.2.1, v_M.2.2.2.2.2.2.2.2.2.2.2.2.2.2.2.2.1, v_M.2.2.2.2.2.2.2.2.2.2.2.2.2.2.2.2.2.1, v_M.2.2.2.2.2.2.2.2.2.2.2.2.2.2.2.2.2.2.1, v_M.2.2.2.2.2.2.2.2.2.2.2.2.2.2.2.2.2.2.2.1, v_M.2.2.2.2.2.2.2.2.2.2.2.2.2.2.2.2.2.2.2.2.1, v_M.2.2.2.2.2.2.2.2.2.2.2.2.2.2.2.2.2.2.2.2.2.1, v_M.2.2.2.2.2.2.2.2.2.2.2.2.2.2.2.2.2.2.2.2.2.2.1, v_M.2.2.2.2.2.2.2.2.2.2.2.2.2.2.2.2.2.2.2.2.2.2.2)) v_M.2.2.2.2.2.2.2.2.2.2.2.1 v_M.2.2.2.2.2.2.2.2.2.2.2.2.1 v_M.2.2.2.2.2.2.2.2.2.2.2.2.2.2.2.2.1 p0) v_T.2 v_n.1 v_n.2.2.2.2.2.2.2.2.2.2.2.1 p0
set_option maxHeartbeats 4000000 in
set_option maxRecDepth 100000 in
theorem lawC_weight {p : Program} {l : Launch} {e : Env} {s : State} {m : MethodId} {below : List Frame} {meth : Method} {c : Code} {Q : State → Prop} {b L : Nat} {xs : Nat → Int32} {D : va_G} {cI cJ cC : ClassId} {G : Nat → Nat → Nat} {a_T a_n a_k a_t a_s a_r a_c a_M : Nat → Nat} (RL : RT) (hp : PH_weight RL) (S : CallFix p m c code 4 s #[Value.ref b] bg R_law) (hX : va_X b L xs s s.heap) (hbl : b < s.heap.size) (hK : va_K D vwCl (tz cI cJ cC) s) (hLC : LC a_T a_n a_k a_t a_s a_r a_c a_M (fun q : Nat => s.heap.size ≤ q)) (hE : EV G (fun q : Nat => s.heap.size ≤ q) s) {i : Nat} {x3 : Int32} (hi : ∀ k : Nat, k < 4 → vp_in (x3 + Int32.ofNat k) L) (hv : ∀ k : Nat, k < 4 → xs (x3 + Int32.ofNat k).toNatClampNeg = xs (i + k)) {H : Heap} {locs : List Loc} {ls : Array Slot} (hJ : JW RL D cI cJ cC a_T a_n a_k a_t a_s a_r a_c a_M H) (hS : va_S (fun q : Nat => s.heap.size ≤ q) s.heap H locs) (hl : lv_has ls 4 [(0, .ref b), (1, .ref (a_T 0)), (2, .ref (a_M 0)), (3, .int x3)])
    (hnext : ∀ (H : Heap) (locs : List Loc) (ls : Array Slot), JW RL D cI cJ cC a_T a_n a_k a_t a_s a_r a_c a_M H → va_S (fun q : Nat => s.heap.size ≤ q) s.heap H locs → lv_has ls 4 [(0, .ref b), (1, .ref (a_T 0)), (2, .ref (a_M 0)), (3, .int x3)] → W p l e room_1 s m #[Value.ref b] below meth c H locs 41 1350 Q (F0 m 1171 ls [])) : W p l e room_1 s m #[Value.ref b] below meth c H locs 41 1350 Q (F0 m 302 ls []) := by
  obtain ⟨hx, hb, hml, hown, ht⟩ := id S
  have hA : ∀ q : Nat, s.heap.size ≤ q → (fun q : Nat => s.heap.size ≤ q) q := fun _ h => h
  have hbA : ¬ (fun q : Nat => s.heap.size ≤ q) b := Nat.not_le.mpr hbl
  obtain ⟨v_T, v_n, v_k, v_t, v_s, v_r, v_c, v_M, hR, hP_T, hP_n, hP_k, hP_t, hP_s, hP_r, hP_c, hP_M⟩ := hJ
  have h := hp v_T v_n v_k v_t v_s v_r v_c v_M (xs (i + 1)) hR
  refine lv_aload_n hx hb dL_law_302 rfl (lv_at hl 1 rfl) ?_
  refine lv_aload_n hx hb dL_law_303 rfl (lv_at hl 0 rfl) ?_
  refine lv_iload_n hx hb dL_law_304 rfl (lv_at hl 3 rfl) ?_
  refine lv_iconst (v := (1 : Int32)) hx hb dL_law_305 (by decide) ?_
  refine lv_iadd hx hb dL_law_306 ?_
  refine va_sld hx hb hX hbl hbA hS (hi 1 (by decide)) dL_law_307 ?_
  refine zti (hv 1 (by decide)) ?_
  have hPw : va_P D vwCl ((pX4 cI cJ cC a_T a_n a_k a_t a_s a_r a_c v_T) ++ (pX3 cI cJ cC a_n v_n)) _ := (hP_T.app hP_n)
  have hDw : va_D (fun q : Nat => s.heap.size ≤ q) ((pX4 cI cJ cC a_T a_n a_k a_t a_s a_r a_c v_T) ++ (pX3 cI cJ cC a_n v_n)) := hLC.2.2.2.1 _ rfl
  refine zcl hA hDw hS (zrunV (As := [.int (xs (i + 1))]) (rest := []) S hK hA hE hPw hDw hS (mX4_weight l D cI cJ cC G a_T a_n a_k a_t a_s a_r a_c _ v_T.1 v_T.2 v_n.1 v_n.2.1 v_n.2.2.1 v_n.2.2.2.1 v_n.2.2.2.2.1 v_n.2.2.2.2.2.1 v_n.2.2.2.2.2.2.1 v_n.2.2.2.2.2.2.2.1 v_n.2.2.2.2.2.2.2.2.1 v_n.2.2.2.2.2.2.2.2.2.1 v_n.2.2.2.2.2.2.2.2.2.2.1 v_n.2.2.2.2.2.2.2.2.2.2.2.1 v_n.2.2.2.2.2.2.2.2.2.2.2.2.1 v_n.2.2.2.2.2.2.2.2.2.2.2.2.2 (xs (i + 1)) _ h) kX4_weight ml_L_32 ⟨rfl, rfl, by decide, by decide⟩ (q0 := 0) (ci := 4) rfl rfl rfl rfl hl.1 rfl (Nat.le_of_ble_eq_true rfl) dL_law_308 ⟨by decide, by decide⟩) (fun r_1 T_refusals_2 H locs h hP1 hk1 hS => ?_)
  try dsimp only at h
  have hP_n : va_P D vwCl (pX3 cI cJ cC a_n v_n) H := zPr hP1
  have hP_T : va_P D vwCl (bX4 cI cJ cC a_T a_n a_k a_t a_s a_r a_c v_T.1 T_refusals_2) H := zPl (hP1)
  have hP_k : va_P D vwCl (pX3 cI cJ cC a_k v_k) H := zKeepB hP_k hk1 (dj_app (hLC.1 2 0 (by decide) (by decide) (by decide)) (hLC.1 2 1 (by decide) (by decide) (by decide)))
  have hP_t : va_P D vwCl (pX3 cI cJ cC a_t v_t) H := zKeepB hP_t hk1 (dj_app (hLC.1 3 0 (by decide) (by decide) (by decide)) (hLC.1 3 1 (by decide) (by decide) (by decide)))
  have hP_s : va_P D vwCl (pX2 cI cJ cC a_s v_s) H := zKeepB hP_s hk1 (dj_app (hLC.1 4 0 (by decide) (by decide) (by decide)) (hLC.1 4 1 (by decide) (by decide) (by decide)))
  have hP_r : va_P D vwCl (pX0 cI cJ cC a_r v_r) H := zKeepB hP_r hk1 (dj_app (hLC.1 5 0 (by decide) (by decide) (by decide)) (hLC.1 5 1 (by decide) (by decide) (by decide)))
  have hP_c : va_P D vwCl (pX1 cI cJ cC a_c v_c) H := zKeepB hP_c hk1 (dj_app (hLC.1 6 0 (by decide) (by decide) (by decide)) (hLC.1 6 1 (by decide) (by decide) (by decide)))
  have hP_M : va_P D vwCl (pX5 cI cJ cC a_M v_M) H := zKeepB hP_M hk1 (dj_app (hLC.1 7 0 (by decide) (by decide) (by decide)) (hLC.1 7 1 (by decide) (by decide) (by decide)))
  refine lv_aload_n hx hb dL_law_311 rfl (lv_at hl 2 rfl) ?_
  refine lv_aload_n hx hb dL_law_312 rfl (lv_at hl 0 rfl) ?_
  refine lv_iload_n hx hb dL_law_313 rfl (lv_at hl 3 rfl) ?_
  refine lv_iconst (v := (1 : Int32)) hx hb dL_law_314 (by decide) ?_
  refine lv_iadd hx hb dL_law_315 ?_
  refine va_sld hx hb hX hbl hbA hS (hi 1 (by decide)) dL_law_316 ?_
  refine zti (hv 1 (by decide)) ?_
  have hPw : va_P D vwCl ((pX5 cI cJ cC a_M v_M)) _ := hP_M
  have hDw : va_D (fun q : Nat => s.heap.size ≤ q) ((pX5 cI cJ cC a_M v_M)) := hLC.2.2.2.2.2.2.2.2.2.2.2 _ rfl
  refine zcl hA hDw hS (zrunV (As := [.int (xs (i + 1))]) (rest := [.long r_1]) S hK hA hE hPw hDw hS (mX5_weight l D cI cJ cC G a_M _ v_M.1 v_M.2.1 v_M.2.2.1 v_M.2.2.2.1 v_M.2.2.2.2.1 v_M.2.2.2.2.2.1 v_M.2.2.2.2.2.2.1 v_M.2.2.2.2.2.2.2.1 v_M.2.2.2.2.2.2.2.2.1 v_M.2.2.2.2.2.2.2.2.2.1 v_M.2.2.2.2.2.2.2.2.2.2.1 v_M.2.2.2.2.2.2.2.2.2.2.2.1 v_M.2.2.2.2.2.2.2.2.2.2.2.2.1 v_M.2.2.2.2.2.2.2.2.2.2.2.2.2.1 v_M.2.2.2.2.2.2.2.2.2.2.2.2.2.2.1 v_M.2.2.2.2.2.2.2.2.2.2.2.2.2.2.2.1 v_M.2.2.2.2.2.2.2.2.2.2.2.2.2.2.2.2.1 v_M.2.2.2.2.2.2.2.2.2.2.2.2.2.2.2.2.2.1 v_M.2.2.2.2.2.2.2.2.2.2.2.2.2.2.2.2.2.2.1 v_M.2.2.2.2.2.2.2.2.2.2.2.2.2.2.2.2.2.2.2.1 v_M.2.2.2.2.2.2.2.2.2.2.2.2.2.2.2.2.2.2.2.2.1 v_M.2.2.2.2.2.2.2.2.2.2.2.2.2.2.2.2.2.2.2.2.2.1 v_M.2.2.2.2.2.2.2.2.2.2.2.2.2.2.2.2.2.2.2.2.2.2.1 v_M.2.2.2.2.2.2.2.2.2.2.2.2.2.2.2.2.2.2.2.2.2.2.2 (xs (i + 1)) _ h) kX5_weight ml_L_36 ⟨rfl, rfl, by decide, by decide⟩ (q0 := 0) (ci := 5) rfl rfl rfl rfl hl.1 rfl (Nat.le_of_ble_eq_true rfl) dL_law_317 ⟨by decide, by decide⟩) (fun r_3 M_refused_4 H locs h hP1 hk1 hS => ?_)
  try dsimp only at h
  have hP_M : va_P D vwCl (bX5 cI cJ cC a_M v_M.1 v_M.2.1 v_M.2.2.1 v_M.2.2.2.1 v_M.2.2.2.2.1 v_M.2.2.2.2.2.1 v_M.2.2.2.2.2.2.1 v_M.2.2.2.2.2.2.2.1 v_M.2.2.2.2.2.2.2.2.1 v_M.2.2.2.2.2.2.2.2.2.1 v_M.2.2.2.2.2.2.2.2.2.2.1 M_refused_4 v_M.2.2.2.2.2.2.2.2.2.2.2.2.1 v_M.2.2.2.2.2.2.2.2.2.2.2.2.2.1 v_M.2.2.2.2.2.2.2.2.2.2.2.2.2.2.1 v_M.2.2.2.2.2.2.2.2.2.2.2.2.2.2.2.1 v_M.2.2.2.2.2.2.2.2.2.2.2.2.2.2.2.2.1 v_M.2.2.2.2.2.2.2.2.2.2.2.2.2.2.2.2.2.1 v_M.2.2.2.2.2.2.2.2.2.2.2.2.2.2.2.2.2.2.1 v_M.2.2.2.2.2.2.2.2.2.2.2.2.2.2.2.2.2.2.2.1 v_M.2.2.2.2.2.2.2.2.2.2.2.2.2.2.2.2.2.2.2.2.1 v_M.2.2.2.2.2.2.2.2.2.2.2.2.2.2.2.2.2.2.2.2.2.1 v_M.2.2.2.2.2.2.2.2.2.2.2.2.2.2.2.2.2.2.2.2.2.2.1 v_M.2.2.2.2.2.2.2.2.2.2.2.2.2.2.2.2.2.2.2.2.2.2.2) H := hP1
  have hP_T : va_P D vwCl (bX4 cI cJ cC a_T a_n a_k a_t a_s a_r a_c v_T.1 T_refusals_2) H := zKeepB hP_T hk1 (hLC.1 0 7 (by decide) (by decide) (by decide))
  have hP_n : va_P D vwCl (pX3 cI cJ cC a_n v_n) H := zKeepB hP_n hk1 (hLC.1 1 7 (by decide) (by decide) (by decide))
  have hP_k : va_P D vwCl (pX3 cI cJ cC a_k v_k) H := zKeepB hP_k hk1 (hLC.1 2 7 (by decide) (by decide) (by decide))
  have hP_t : va_P D vwCl (pX3 cI cJ cC a_t v_t) H := zKeepB hP_t hk1 (hLC.1 3 7 (by decide) (by decide) (by decide))
  have hP_s : va_P D vwCl (pX2 cI cJ cC a_s v_s) H := zKeepB hP_s hk1 (hLC.1 4 7 (by decide) (by decide) (by decide))
  have hP_r : va_P D vwCl (pX0 cI cJ cC a_r v_r) H := zKeepB hP_r hk1 (hLC.1 5 7 (by decide) (by decide) (by decide))
  have hP_c : va_P D vwCl (pX1 cI cJ cC a_c v_c) H := zKeepB hP_c hk1 (hLC.1 6 7 (by decide) (by decide) (by decide))
  refine W.lcmp hx hb dL_law_320 ?_
  refine lv_if_eq (tgt := 1171) hx hb dL_law_321 (by decide) (fun z => ?_) (fun z => absurd (zl_eq.mpr h.1) z)
  exact hnext _ _ _ ⟨(v_T.1, T_refusals_2), v_n, v_k, v_t, v_s, v_r, v_c, (v_M.1, v_M.2.1, v_M.2.2.1, v_M.2.2.2.1, v_M.2.2.2.2.1, v_M.2.2.2.2.2.1, v_M.2.2.2.2.2.2.1, v_M.2.2.2.2.2.2.2.1, v_M.2.2.2.2.2.2.2.2.1, v_M.2.2.2.2.2.2.2.2.2.1, v_M.2.2.2.2.2.2.2.2.2.2.1, M_refused_4, v_M.2.2.2.2.2.2.2.2.2.2.2.2.1, v_M.2.2.2.2.2.2.2.2.2.2.2.2.2.1, v_M.2.2.2.2.2.2.2.2.2.2.2.2.2.2.1, v_M.2.2.2.2.2.2.2.2.2.2.2.2.2.2.2.1, v_M.2.2.2.2.2.2.2.2.2.2.2.2.2.2.2.2.1, v_M.2.2.2.2.2.2.2.2.2.2.2.2.2.2.2.2.2.1, v_M.2.2.2.2.2.2.2.2.2.2.2.2.2.2.2.2.2.2.1, v_M.2.2.2.2.2.2.2.2.2.2.2.2.2.2.2.2.2.2.2.1, v_M.2.2.2.2.2.2.2.2.2.2.2.2.2.2.2.2.2.2.2.2.1, v_M.2.2.2.2.2.2.2.2.2.2.2.2.2.2.2.2.2.2.2.2.2.1, v_M.2.2.2.2.2.2.2.2.2.2.2.2.2.2.2.2.2.2.2.2.2.2.1, v_M.2.2.2.2.2.2.2.2.2.2.2.2.2.2.2.2.2.2.2.2.2.2.2), h.2, hP_T, hP_n, hP_k, hP_t, hP_s, hP_r, hP_c, hP_M⟩ hS hl
def PH_tool (RL : RT) : Prop := ∀ (v_T : PX4) (v_n : PX3) (v_k : PX3) (v_t : PX3) (v_s : PX2) (v_r : PX0) (v_c : PX1) (v_M : PX5) (p0 : Int32) (p1 : Int32), RL v_T v_n v_k v_s v_r v_M → wpX4_tool (fun (r_1 : Int32) (T_refusals_2 : Nat → Int32) => wpX5_tool (fun (r_3 : Int32) (M_refused_4 : Nat → Int32) => r_1 = r_3 ∧ RL (v_T.1, T_refusals_2) v_n v_k v_s v_r (v_M.1, v_M.2.1, v_M.2.2.1, v_M.2.2.2.1, v_M.2.2.2.2.1, v_M.2.2.2.2.2.1, v_M.2.2.2.2.2.2.1, v_M.2.2.2.2.2.2.2.1, v_M.2.2.2.2.2.2.2.2.1, v_M.2.2.2.2.2.2.2.2.2.1, v_M.2.2.2.2.2.2.2.2.2.2.1, M_refused_4, v_M.2.2.2.2.2.2.2.2.2.2.2.2.1, v_M.2.2.2.2.2.2.2.2.2.2.2.2.2.1, v_M.2.2.2.2.2.2.2.2.2.2.2.2.2.2.1, v_M.2.2.2.2.2.2.2.2.2.2.2.2.2.2.2.1, v_M.2.2.2.2.2.2.2.2.2.2.2.2.2.2.2.2.1, v_M.2.2.2.2.2.2.2.2.2.2.2.2.2.2.2.2.2.1, v_M.2.2.2.2.2.2.2.2.2.2.2.2.2.2.2.2.2.2.1, v_M.2.2.2.2.2.2.2.2.2.2.2.2.2.2.2.2.2.2.2.1, v_M.2.2.2.2.2.2.2.2.2.2.2.2.2.2.2.2.2.2.2.2.1, v_M.2.2.2.2.2.2.2.2.2.2.2.2.2.2.2.2.2.2.2.2.2.1, v_M.2.2.2.2.2.2.2.2.2.2.2.2.2.2.2.2.2.2.2.2.2.2.1, v_M.2.2.2.2.2.2.2.2.2.2.2.2.2.2.2.2.2.2.2.2.2.2.2)) v_M.2.2.2.2.2.2.2.2.2.2.2.1 p0 p1) v_T.2 p0 p1
set_option maxHeartbeats 4000000 in
set_option maxRecDepth 100000 in
theorem lawC_tool {p : Program} {l : Launch} {e : Env} {s : State} {m : MethodId} {below : List Frame} {meth : Method} {c : Code} {Q : State → Prop} {b L : Nat} {xs : Nat → Int32} {D : va_G} {cI cJ cC : ClassId} {G : Nat → Nat → Nat} {a_T a_n a_k a_t a_s a_r a_c a_M : Nat → Nat} (RL : RT) (hp : PH_tool RL) (S : CallFix p m c code 4 s #[Value.ref b] bg R_law) (hX : va_X b L xs s s.heap) (hbl : b < s.heap.size) (hK : va_K D vwCl (tz cI cJ cC) s) (hLC : LC a_T a_n a_k a_t a_s a_r a_c a_M (fun q : Nat => s.heap.size ≤ q)) (hE : EV G (fun q : Nat => s.heap.size ≤ q) s) {i : Nat} {x3 : Int32} (hi : ∀ k : Nat, k < 4 → vp_in (x3 + Int32.ofNat k) L) (hv : ∀ k : Nat, k < 4 → xs (x3 + Int32.ofNat k).toNatClampNeg = xs (i + k)) {H : Heap} {locs : List Loc} {ls : Array Slot} (hJ : JW RL D cI cJ cC a_T a_n a_k a_t a_s a_r a_c a_M H) (hS : va_S (fun q : Nat => s.heap.size ≤ q) s.heap H locs) (hl : lv_has ls 4 [(0, .ref b), (1, .ref (a_T 0)), (2, .ref (a_M 0)), (3, .int x3)])
    (hnext : ∀ (H : Heap) (locs : List Loc) (ls : Array Slot), JW RL D cI cJ cC a_T a_n a_k a_t a_s a_r a_c a_M H → va_S (fun q : Nat => s.heap.size ≤ q) s.heap H locs → lv_has ls 4 [(0, .ref b), (1, .ref (a_T 0)), (2, .ref (a_M 0)), (3, .int x3)] → W p l e room_1 s m #[Value.ref b] below meth c H locs 41 1350 Q (F0 m 1171 ls [])) : W p l e room_1 s m #[Value.ref b] below meth c H locs 41 1350 Q (F0 m 326 ls []) := by
  obtain ⟨hx, hb, hml, hown, ht⟩ := id S
  have hA : ∀ q : Nat, s.heap.size ≤ q → (fun q : Nat => s.heap.size ≤ q) q := fun _ h => h
  have hbA : ¬ (fun q : Nat => s.heap.size ≤ q) b := Nat.not_le.mpr hbl
  obtain ⟨v_T, v_n, v_k, v_t, v_s, v_r, v_c, v_M, hR, hP_T, hP_n, hP_k, hP_t, hP_s, hP_r, hP_c, hP_M⟩ := hJ
  have h := hp v_T v_n v_k v_t v_s v_r v_c v_M (xs (i + 1)) (xs (i + 2)) hR
  refine lv_aload_n hx hb dL_law_326 rfl (lv_at hl 1 rfl) ?_
  refine lv_aload_n hx hb dL_law_327 rfl (lv_at hl 0 rfl) ?_
  refine lv_iload_n hx hb dL_law_328 rfl (lv_at hl 3 rfl) ?_
  refine lv_iconst (v := (1 : Int32)) hx hb dL_law_329 (by decide) ?_
  refine lv_iadd hx hb dL_law_330 ?_
  refine va_sld hx hb hX hbl hbA hS (hi 1 (by decide)) dL_law_331 ?_
  refine zti (hv 1 (by decide)) ?_
  refine lv_aload_n hx hb dL_law_332 rfl (lv_at hl 0 rfl) ?_
  refine lv_iload_n hx hb dL_law_333 rfl (lv_at hl 3 rfl) ?_
  refine lv_iconst (v := (2 : Int32)) hx hb dL_law_334 (by decide) ?_
  refine lv_iadd hx hb dL_law_335 ?_
  refine va_sld hx hb hX hbl hbA hS (hi 2 (by decide)) dL_law_336 ?_
  refine zti (hv 2 (by decide)) ?_
  have hPw : va_P D vwCl ((pX4 cI cJ cC a_T a_n a_k a_t a_s a_r a_c v_T)) _ := hP_T
  have hDw : va_D (fun q : Nat => s.heap.size ≤ q) ((pX4 cI cJ cC a_T a_n a_k a_t a_s a_r a_c v_T)) := hLC.2.2.2.2.1 _ rfl
  refine zci hA hDw hS (zrunV (As := [.int (xs (i + 1)), .int (xs (i + 2))]) (rest := []) S hK hA hE hPw hDw hS (mX4_tool l D cI cJ cC G a_T a_n a_k a_t a_s a_r a_c _ v_T.1 v_T.2 (xs (i + 1)) (xs (i + 2)) _ h) kX4_tool ml_L_37 ⟨rfl, rfl, by decide, by decide⟩ (q0 := 0) (ci := 4) rfl rfl rfl rfl hl.1 rfl (Nat.le_of_ble_eq_true rfl) dL_law_337 ⟨by decide, by decide⟩) (fun r_1 T_refusals_2 H locs h hP1 hk1 hS => ?_)
  try dsimp only at h
  have hP_T : va_P D vwCl (bX4 cI cJ cC a_T a_n a_k a_t a_s a_r a_c v_T.1 T_refusals_2) H := hP1
  have hP_n : va_P D vwCl (pX3 cI cJ cC a_n v_n) H := zKeepB hP_n hk1 (hLC.1 1 0 (by decide) (by decide) (by decide))
  have hP_k : va_P D vwCl (pX3 cI cJ cC a_k v_k) H := zKeepB hP_k hk1 (hLC.1 2 0 (by decide) (by decide) (by decide))
  have hP_t : va_P D vwCl (pX3 cI cJ cC a_t v_t) H := zKeepB hP_t hk1 (hLC.1 3 0 (by decide) (by decide) (by decide))
  have hP_s : va_P D vwCl (pX2 cI cJ cC a_s v_s) H := zKeepB hP_s hk1 (hLC.1 4 0 (by decide) (by decide) (by decide))
  have hP_r : va_P D vwCl (pX0 cI cJ cC a_r v_r) H := zKeepB hP_r hk1 (hLC.1 5 0 (by decide) (by decide) (by decide))
  have hP_c : va_P D vwCl (pX1 cI cJ cC a_c v_c) H := zKeepB hP_c hk1 (hLC.1 6 0 (by decide) (by decide) (by decide))
  have hP_M : va_P D vwCl (pX5 cI cJ cC a_M v_M) H := zKeepB hP_M hk1 (hLC.1 7 0 (by decide) (by decide) (by decide))
  refine lv_aload_n hx hb dL_law_340 rfl (lv_at hl 2 rfl) ?_
  refine lv_aload_n hx hb dL_law_341 rfl (lv_at hl 0 rfl) ?_
  refine lv_iload_n hx hb dL_law_342 rfl (lv_at hl 3 rfl) ?_
  refine lv_iconst (v := (1 : Int32)) hx hb dL_law_343 (by decide) ?_
  refine lv_iadd hx hb dL_law_344 ?_
  refine va_sld hx hb hX hbl hbA hS (hi 1 (by decide)) dL_law_345 ?_
  refine zti (hv 1 (by decide)) ?_
  refine lv_aload_n hx hb dL_law_346 rfl (lv_at hl 0 rfl) ?_
  refine lv_iload_n hx hb dL_law_347 rfl (lv_at hl 3 rfl) ?_
  refine lv_iconst (v := (2 : Int32)) hx hb dL_law_348 (by decide) ?_
  refine lv_iadd hx hb dL_law_349 ?_
  refine va_sld hx hb hX hbl hbA hS (hi 2 (by decide)) dL_law_350 ?_
  refine zti (hv 2 (by decide)) ?_
  have hPw : va_P D vwCl ((pX5 cI cJ cC a_M v_M)) _ := hP_M
  have hDw : va_D (fun q : Nat => s.heap.size ≤ q) ((pX5 cI cJ cC a_M v_M)) := hLC.2.2.2.2.2.2.2.2.2.2.2 _ rfl
  refine zci hA hDw hS (zrunV (As := [.int (xs (i + 1)), .int (xs (i + 2))]) (rest := [.int r_1]) S hK hA hE hPw hDw hS (mX5_tool l D cI cJ cC G a_M _ v_M.1 v_M.2.1 v_M.2.2.1 v_M.2.2.2.1 v_M.2.2.2.2.1 v_M.2.2.2.2.2.1 v_M.2.2.2.2.2.2.1 v_M.2.2.2.2.2.2.2.1 v_M.2.2.2.2.2.2.2.2.1 v_M.2.2.2.2.2.2.2.2.2.1 v_M.2.2.2.2.2.2.2.2.2.2.1 v_M.2.2.2.2.2.2.2.2.2.2.2.1 v_M.2.2.2.2.2.2.2.2.2.2.2.2.1 v_M.2.2.2.2.2.2.2.2.2.2.2.2.2.1 v_M.2.2.2.2.2.2.2.2.2.2.2.2.2.2.1 v_M.2.2.2.2.2.2.2.2.2.2.2.2.2.2.2.1 v_M.2.2.2.2.2.2.2.2.2.2.2.2.2.2.2.2.1 v_M.2.2.2.2.2.2.2.2.2.2.2.2.2.2.2.2.2.1 v_M.2.2.2.2.2.2.2.2.2.2.2.2.2.2.2.2.2.2.1 v_M.2.2.2.2.2.2.2.2.2.2.2.2.2.2.2.2.2.2.2.1 v_M.2.2.2.2.2.2.2.2.2.2.2.2.2.2.2.2.2.2.2.2.1 v_M.2.2.2.2.2.2.2.2.2.2.2.2.2.2.2.2.2.2.2.2.2.1 v_M.2.2.2.2.2.2.2.2.2.2.2.2.2.2.2.2.2.2.2.2.2.2.1 v_M.2.2.2.2.2.2.2.2.2.2.2.2.2.2.2.2.2.2.2.2.2.2.2 (xs (i + 1)) (xs (i + 2)) _ h) kX5_tool ml_L_40 ⟨rfl, rfl, by decide, by decide⟩ (q0 := 0) (ci := 5) rfl rfl rfl rfl hl.1 rfl (Nat.le_of_ble_eq_true rfl) dL_law_351 ⟨by decide, by decide⟩) (fun r_3 M_refused_4 H locs h hP1 hk1 hS => ?_)
  try dsimp only at h
  have hP_M : va_P D vwCl (bX5 cI cJ cC a_M v_M.1 v_M.2.1 v_M.2.2.1 v_M.2.2.2.1 v_M.2.2.2.2.1 v_M.2.2.2.2.2.1 v_M.2.2.2.2.2.2.1 v_M.2.2.2.2.2.2.2.1 v_M.2.2.2.2.2.2.2.2.1 v_M.2.2.2.2.2.2.2.2.2.1 v_M.2.2.2.2.2.2.2.2.2.2.1 M_refused_4 v_M.2.2.2.2.2.2.2.2.2.2.2.2.1 v_M.2.2.2.2.2.2.2.2.2.2.2.2.2.1 v_M.2.2.2.2.2.2.2.2.2.2.2.2.2.2.1 v_M.2.2.2.2.2.2.2.2.2.2.2.2.2.2.2.1 v_M.2.2.2.2.2.2.2.2.2.2.2.2.2.2.2.2.1 v_M.2.2.2.2.2.2.2.2.2.2.2.2.2.2.2.2.2.1 v_M.2.2.2.2.2.2.2.2.2.2.2.2.2.2.2.2.2.2.1 v_M.2.2.2.2.2.2.2.2.2.2.2.2.2.2.2.2.2.2.2.1 v_M.2.2.2.2.2.2.2.2.2.2.2.2.2.2.2.2.2.2.2.2.1 v_M.2.2.2.2.2.2.2.2.2.2.2.2.2.2.2.2.2.2.2.2.2.1 v_M.2.2.2.2.2.2.2.2.2.2.2.2.2.2.2.2.2.2.2.2.2.2.1 v_M.2.2.2.2.2.2.2.2.2.2.2.2.2.2.2.2.2.2.2.2.2.2.2) H := hP1
  have hP_T : va_P D vwCl (bX4 cI cJ cC a_T a_n a_k a_t a_s a_r a_c v_T.1 T_refusals_2) H := zKeepB hP_T hk1 (hLC.1 0 7 (by decide) (by decide) (by decide))
  have hP_n : va_P D vwCl (pX3 cI cJ cC a_n v_n) H := zKeepB hP_n hk1 (hLC.1 1 7 (by decide) (by decide) (by decide))
  have hP_k : va_P D vwCl (pX3 cI cJ cC a_k v_k) H := zKeepB hP_k hk1 (hLC.1 2 7 (by decide) (by decide) (by decide))
  have hP_t : va_P D vwCl (pX3 cI cJ cC a_t v_t) H := zKeepB hP_t hk1 (hLC.1 3 7 (by decide) (by decide) (by decide))
  have hP_s : va_P D vwCl (pX2 cI cJ cC a_s v_s) H := zKeepB hP_s hk1 (hLC.1 4 7 (by decide) (by decide) (by decide))
  have hP_r : va_P D vwCl (pX0 cI cJ cC a_r v_r) H := zKeepB hP_r hk1 (hLC.1 5 7 (by decide) (by decide) (by decide))
  have hP_c : va_P D vwCl (pX1 cI cJ cC a_c v_c) H := zKeepB hP_c hk1 (hLC.1 6 7 (by decide) (by decide) (by decide))
  refine lv_icmp_eq (tgt := 1171) hx hb dL_law_354 (by decide) (fun z => ?_) (fun z => absurd h.1 z)
  exact hnext _ _ _ ⟨(v_T.1, T_refusals_2), v_n, v_k, v_t, v_s, v_r, v_c, (v_M.1, v_M.2.1, v_M.2.2.1, v_M.2.2.2.1, v_M.2.2.2.2.1, v_M.2.2.2.2.2.1, v_M.2.2.2.2.2.2.1, v_M.2.2.2.2.2.2.2.1, v_M.2.2.2.2.2.2.2.2.1, v_M.2.2.2.2.2.2.2.2.2.1, v_M.2.2.2.2.2.2.2.2.2.2.1, M_refused_4, v_M.2.2.2.2.2.2.2.2.2.2.2.2.1, v_M.2.2.2.2.2.2.2.2.2.2.2.2.2.1, v_M.2.2.2.2.2.2.2.2.2.2.2.2.2.2.1, v_M.2.2.2.2.2.2.2.2.2.2.2.2.2.2.2.1, v_M.2.2.2.2.2.2.2.2.2.2.2.2.2.2.2.2.1, v_M.2.2.2.2.2.2.2.2.2.2.2.2.2.2.2.2.2.1, v_M.2.2.2.2.2.2.2.2.2.2.2.2.2.2.2.2.2.2.1, v_M.2.2.2.2.2.2.2.2.2.2.2.2.2.2.2.2.2.2.2.1, v_M.2.2.2.2.2.2.2.2.2.2.2.2.2.2.2.2.2.2.2.2.1, v_M.2.2.2.2.2.2.2.2.2.2.2.2.2.2.2.2.2.2.2.2.2.1, v_M.2.2.2.2.2.2.2.2.2.2.2.2.2.2.2.2.2.2.2.2.2.2.1, v_M.2.2.2.2.2.2.2.2.2.2.2.2.2.2.2.2.2.2.2.2.2.2.2), h.2, hP_T, hP_n, hP_k, hP_t, hP_s, hP_r, hP_c, hP_M⟩ hS hl
def PH_telling (RL : RT) : Prop := ∀ (v_T : PX4) (v_n : PX3) (v_k : PX3) (v_t : PX3) (v_s : PX2) (v_r : PX0) (v_c : PX1) (v_M : PX5) (p0 : Int32) (p1 : Int32) (p2 : Int32), RL v_T v_n v_k v_s v_r v_M → wpX4_telling (fun (r_1 : Int32) (T_refusals_2 : Nat → Int32) (n_used_3 : Int32) (n_drilled_4 : Int64) (n_total_5 : Int64) (n_open_6 : Int32) (n_weights_7 : Nat → Int64) (n_sums_8 : Nat → Int64) => wpX5_telling (fun (r_9 : Int32) (M_used_10 : Int32) (M_refused_11 : Nat → Int32) (M_hole_12 : Nat → Int32) (M_weight_13 : Nat → Int32) => r_1 = r_9 ∧ RL (v_T.1, T_refusals_2) (v_n.1, v_n.2.1, v_n.2.2.1, v_n.2.2.2.1, n_used_3, v_n.2.2.2.2.2.1, n_drilled_4, n_total_5, n_open_6, v_n.2.2.2.2.2.2.2.2.2.1, v_n.2.2.2.2.2.2.2.2.2.2.1, n_weights_7, v_n.2.2.2.2.2.2.2.2.2.2.2.2.1, n_sums_8) v_k v_s v_r (v_M.1, M_used_10, v_M.2.2.1, v_M.2.2.2.1, v_M.2.2.2.2.1, v_M.2.2.2.2.2.1, v_M.2.2.2.2.2.2.1, v_M.2.2.2.2.2.2.2.1, v_M.2.2.2.2.2.2.2.2.1, v_M.2.2.2.2.2.2.2.2.2.1, v_M.2.2.2.2.2.2.2.2.2.2.1, M_refused_11, v_M.2.2.2.2.2.2.2.2.2.2.2.2.1, M_hole_12, v_M.2.2.2.2.2.2.2.2.2.2.2.2.2.2.1, v_M.2.2.2.2.2.2.2.2.2.2.2.2.2.2.2.1, M_weight_13, v_M.2.2.2.2.2.2.2.2.2.2.2.2.2.2.2.2.2.1, v_M.2.2.2.2.2.2.2.2.2.2.2.2.2.2.2.2.2.2.1, v_M.2.2.2.2.2.2.2.2.2.2.2.2.2.2.2.2.2.2.2.1, v_M.2.2.2.2.2.2.2.2.2.2.2.2.2.2.2.2.2.2.2.2.1, v_M.2.2.2.2.2.2.2.2.2.2.2.2.2.2.2.2.2.2.2.2.2.1, v_M.2.2.2.2.2.2.2.2.2.2.2.2.2.2.2.2.2.2.2.2.2.2.1, v_M.2.2.2.2.2.2.2.2.2.2.2.2.2.2.2.2.2.2.2.2.2.2.2)) v_M.2.1 v_M.2.2.2.2.2.2.2.2.2.2.2.1 v_M.2.2.2.2.2.2.2.2.2.2.2.2.1 v_M.2.2.2.2.2.2.2.2.2.2.2.2.2.1 v_M.2.2.2.2.2.2.2.2.2.2.2.2.2.2.2.2.1 p0 p1 p2) v_T.2 v_n.2.2.2.2.1 v_n.2.2.2.2.2.2.1 v_n.2.2.2.2.2.2.2.1 v_n.2.2.2.2.2.2.2.2.1 v_n.2.2.2.2.2.2.2.2.2.2.2.1 v_n.2.2.2.2.2.2.2.2.2.2.2.2.1 v_n.2.2.2.2.2.2.2.2.2.2.2.2.2 p0 p1 p2
set_option maxHeartbeats 4000000 in
set_option maxRecDepth 100000 in
theorem lawC_telling {p : Program} {l : Launch} {e : Env} {s : State} {m : MethodId} {below : List Frame} {meth : Method} {c : Code} {Q : State → Prop} {b L : Nat} {xs : Nat → Int32} {D : va_G} {cI cJ cC : ClassId} {G : Nat → Nat → Nat} {a_T a_n a_k a_t a_s a_r a_c a_M : Nat → Nat} (RL : RT) (hp : PH_telling RL) (S : CallFix p m c code 4 s #[Value.ref b] bg R_law) (hX : va_X b L xs s s.heap) (hbl : b < s.heap.size) (hK : va_K D vwCl (tz cI cJ cC) s) (hLC : LC a_T a_n a_k a_t a_s a_r a_c a_M (fun q : Nat => s.heap.size ≤ q)) (hE : EV G (fun q : Nat => s.heap.size ≤ q) s) {i : Nat} {x3 : Int32} (hi : ∀ k : Nat, k < 4 → vp_in (x3 + Int32.ofNat k) L) (hv : ∀ k : Nat, k < 4 → xs (x3 + Int32.ofNat k).toNatClampNeg = xs (i + k)) {H : Heap} {locs : List Loc} {ls : Array Slot} (hJ : JW RL D cI cJ cC a_T a_n a_k a_t a_s a_r a_c a_M H) (hS : va_S (fun q : Nat => s.heap.size ≤ q) s.heap H locs) (hl : lv_has ls 4 [(0, .ref b), (1, .ref (a_T 0)), (2, .ref (a_M 0)), (3, .int x3)])
    (hnext : ∀ (H : Heap) (locs : List Loc) (ls : Array Slot), JW RL D cI cJ cC a_T a_n a_k a_t a_s a_r a_c a_M H → va_S (fun q : Nat => s.heap.size ≤ q) s.heap H locs → lv_has ls 4 [(0, .ref b), (1, .ref (a_T 0)), (2, .ref (a_M 0)), (3, .int x3)] → W p l e room_1 s m #[Value.ref b] below meth c H locs 41 1350 Q (F0 m 1171 ls [])) : W p l e room_1 s m #[Value.ref b] below meth c H locs 41 1350 Q (F0 m 359 ls []) := by
  obtain ⟨hx, hb, hml, hown, ht⟩ := id S
  have hA : ∀ q : Nat, s.heap.size ≤ q → (fun q : Nat => s.heap.size ≤ q) q := fun _ h => h
  have hbA : ¬ (fun q : Nat => s.heap.size ≤ q) b := Nat.not_le.mpr hbl
  obtain ⟨v_T, v_n, v_k, v_t, v_s, v_r, v_c, v_M, hR, hP_T, hP_n, hP_k, hP_t, hP_s, hP_r, hP_c, hP_M⟩ := hJ
  have h := hp v_T v_n v_k v_t v_s v_r v_c v_M (xs (i + 1)) (xs (i + 2)) (xs (i + 3)) hR
  refine lv_aload_n hx hb dL_law_359 rfl (lv_at hl 1 rfl) ?_
  refine lv_aload_n hx hb dL_law_360 rfl (lv_at hl 0 rfl) ?_
  refine lv_iload_n hx hb dL_law_361 rfl (lv_at hl 3 rfl) ?_
  refine lv_iconst (v := (1 : Int32)) hx hb dL_law_362 (by decide) ?_
  refine lv_iadd hx hb dL_law_363 ?_
  refine va_sld hx hb hX hbl hbA hS (hi 1 (by decide)) dL_law_364 ?_
  refine zti (hv 1 (by decide)) ?_
  refine lv_aload_n hx hb dL_law_365 rfl (lv_at hl 0 rfl) ?_
  refine lv_iload_n hx hb dL_law_366 rfl (lv_at hl 3 rfl) ?_
  refine lv_iconst (v := (2 : Int32)) hx hb dL_law_367 (by decide) ?_
  refine lv_iadd hx hb dL_law_368 ?_
  refine va_sld hx hb hX hbl hbA hS (hi 2 (by decide)) dL_law_369 ?_
  refine zti (hv 2 (by decide)) ?_
  refine lv_aload_n hx hb dL_law_370 rfl (lv_at hl 0 rfl) ?_
  refine lv_iload_n hx hb dL_law_371 rfl (lv_at hl 3 rfl) ?_
  refine lv_iconst (v := (3 : Int32)) hx hb dL_law_372 (by decide) ?_
  refine lv_iadd hx hb dL_law_373 ?_
  refine va_sld hx hb hX hbl hbA hS (hi 3 (by decide)) dL_law_374 ?_
  refine zti (hv 3 (by decide)) ?_
  have hPw : va_P D vwCl ((pX4 cI cJ cC a_T a_n a_k a_t a_s a_r a_c v_T) ++ (pX3 cI cJ cC a_n v_n)) _ := (hP_T.app hP_n)
  have hDw : va_D (fun q : Nat => s.heap.size ≤ q) ((pX4 cI cJ cC a_T a_n a_k a_t a_s a_r a_c v_T) ++ (pX3 cI cJ cC a_n v_n)) := hLC.2.2.2.1 _ rfl
  refine zci hA hDw hS (zrunV (As := [.int (xs (i + 1)), .int (xs (i + 2)), .int (xs (i + 3))]) (rest := []) S hK hA hE hPw hDw hS (mX4_telling l D cI cJ cC G a_T a_n a_k a_t a_s a_r a_c _ v_T.1 v_T.2 v_n.1 v_n.2.1 v_n.2.2.1 v_n.2.2.2.1 v_n.2.2.2.2.1 v_n.2.2.2.2.2.1 v_n.2.2.2.2.2.2.1 v_n.2.2.2.2.2.2.2.1 v_n.2.2.2.2.2.2.2.2.1 v_n.2.2.2.2.2.2.2.2.2.1 v_n.2.2.2.2.2.2.2.2.2.2.1 v_n.2.2.2.2.2.2.2.2.2.2.2.1 v_n.2.2.2.2.2.2.2.2.2.2.2.2.1 v_n.2.2.2.2.2.2.2.2.2.2.2.2.2 (xs (i + 1)) (xs (i + 2)) (xs (i + 3)) _ h) kX4_telling ml_L_41 ⟨rfl, rfl, by decide, by decide⟩ (q0 := 0) (ci := 4) rfl rfl rfl rfl hl.1 rfl (Nat.le_of_ble_eq_true rfl) dL_law_375 ⟨by decide, by decide⟩) (fun r_1 u H locs h hP1 hk1 hS => ?_)
  obtain ⟨T_refusals_2, n_used_3, n_drilled_4, n_total_5, n_open_6, n_weights_7, n_sums_8⟩ := u
  try dsimp only at h
  have hP_n : va_P D vwCl (bX3 cI cJ cC a_n v_n.1 v_n.2.1 v_n.2.2.1 v_n.2.2.2.1 n_used_3 v_n.2.2.2.2.2.1 n_drilled_4 n_total_5 n_open_6 v_n.2.2.2.2.2.2.2.2.2.1 v_n.2.2.2.2.2.2.2.2.2.2.1 n_weights_7 v_n.2.2.2.2.2.2.2.2.2.2.2.2.1 n_sums_8) H := zPr hP1
  have hP_T : va_P D vwCl (bX4 cI cJ cC a_T a_n a_k a_t a_s a_r a_c v_T.1 T_refusals_2) H := zPl (hP1)
  have hP_k : va_P D vwCl (pX3 cI cJ cC a_k v_k) H := zKeepB hP_k hk1 (dj_app (hLC.1 2 0 (by decide) (by decide) (by decide)) (hLC.1 2 1 (by decide) (by decide) (by decide)))
  have hP_t : va_P D vwCl (pX3 cI cJ cC a_t v_t) H := zKeepB hP_t hk1 (dj_app (hLC.1 3 0 (by decide) (by decide) (by decide)) (hLC.1 3 1 (by decide) (by decide) (by decide)))
  have hP_s : va_P D vwCl (pX2 cI cJ cC a_s v_s) H := zKeepB hP_s hk1 (dj_app (hLC.1 4 0 (by decide) (by decide) (by decide)) (hLC.1 4 1 (by decide) (by decide) (by decide)))
  have hP_r : va_P D vwCl (pX0 cI cJ cC a_r v_r) H := zKeepB hP_r hk1 (dj_app (hLC.1 5 0 (by decide) (by decide) (by decide)) (hLC.1 5 1 (by decide) (by decide) (by decide)))
  have hP_c : va_P D vwCl (pX1 cI cJ cC a_c v_c) H := zKeepB hP_c hk1 (dj_app (hLC.1 6 0 (by decide) (by decide) (by decide)) (hLC.1 6 1 (by decide) (by decide) (by decide)))
  have hP_M : va_P D vwCl (pX5 cI cJ cC a_M v_M) H := zKeepB hP_M hk1 (dj_app (hLC.1 7 0 (by decide) (by decide) (by decide)) (hLC.1 7 1 (by decide) (by decide) (by decide)))
  refine lv_aload_n hx hb dL_law_378 rfl (lv_at hl 2 rfl) ?_
  refine lv_aload_n hx hb dL_law_379 rfl (lv_at hl 0 rfl) ?_
  refine lv_iload_n hx hb dL_law_380 rfl (lv_at hl 3 rfl) ?_
  refine lv_iconst (v := (1 : Int32)) hx hb dL_law_381 (by decide) ?_
  refine lv_iadd hx hb dL_law_382 ?_
  refine va_sld hx hb hX hbl hbA hS (hi 1 (by decide)) dL_law_383 ?_
  refine zti (hv 1 (by decide)) ?_
  refine lv_aload_n hx hb dL_law_384 rfl (lv_at hl 0 rfl) ?_
  refine lv_iload_n hx hb dL_law_385 rfl (lv_at hl 3 rfl) ?_
  refine lv_iconst (v := (2 : Int32)) hx hb dL_law_386 (by decide) ?_
  refine lv_iadd hx hb dL_law_387 ?_
  refine va_sld hx hb hX hbl hbA hS (hi 2 (by decide)) dL_law_388 ?_
  refine zti (hv 2 (by decide)) ?_
  refine lv_aload_n hx hb dL_law_389 rfl (lv_at hl 0 rfl) ?_
  refine lv_iload_n hx hb dL_law_390 rfl (lv_at hl 3 rfl) ?_
  refine lv_iconst (v := (3 : Int32)) hx hb dL_law_391 (by decide) ?_
  refine lv_iadd hx hb dL_law_392 ?_
  refine va_sld hx hb hX hbl hbA hS (hi 3 (by decide)) dL_law_393 ?_
  refine zti (hv 3 (by decide)) ?_
  have hPw : va_P D vwCl ((pX5 cI cJ cC a_M v_M)) _ := hP_M
  have hDw : va_D (fun q : Nat => s.heap.size ≤ q) ((pX5 cI cJ cC a_M v_M)) := hLC.2.2.2.2.2.2.2.2.2.2.2 _ rfl
  refine zci hA hDw hS (zrunV (As := [.int (xs (i + 1)), .int (xs (i + 2)), .int (xs (i + 3))]) (rest := [.int r_1]) S hK hA hE hPw hDw hS (mX5_telling l D cI cJ cC G a_M _ v_M.1 v_M.2.1 v_M.2.2.1 v_M.2.2.2.1 v_M.2.2.2.2.1 v_M.2.2.2.2.2.1 v_M.2.2.2.2.2.2.1 v_M.2.2.2.2.2.2.2.1 v_M.2.2.2.2.2.2.2.2.1 v_M.2.2.2.2.2.2.2.2.2.1 v_M.2.2.2.2.2.2.2.2.2.2.1 v_M.2.2.2.2.2.2.2.2.2.2.2.1 v_M.2.2.2.2.2.2.2.2.2.2.2.2.1 v_M.2.2.2.2.2.2.2.2.2.2.2.2.2.1 v_M.2.2.2.2.2.2.2.2.2.2.2.2.2.2.1 v_M.2.2.2.2.2.2.2.2.2.2.2.2.2.2.2.1 v_M.2.2.2.2.2.2.2.2.2.2.2.2.2.2.2.2.1 v_M.2.2.2.2.2.2.2.2.2.2.2.2.2.2.2.2.2.1 v_M.2.2.2.2.2.2.2.2.2.2.2.2.2.2.2.2.2.2.1 v_M.2.2.2.2.2.2.2.2.2.2.2.2.2.2.2.2.2.2.2.1 v_M.2.2.2.2.2.2.2.2.2.2.2.2.2.2.2.2.2.2.2.2.1 v_M.2.2.2.2.2.2.2.2.2.2.2.2.2.2.2.2.2.2.2.2.2.1 v_M.2.2.2.2.2.2.2.2.2.2.2.2.2.2.2.2.2.2.2.2.2.2.1 v_M.2.2.2.2.2.2.2.2.2.2.2.2.2.2.2.2.2.2.2.2.2.2.2 (xs (i + 1)) (xs (i + 2)) (xs (i + 3)) _ h) kX5_telling ml_L_45 ⟨rfl, rfl, by decide, by decide⟩ (q0 := 0) (ci := 5) rfl rfl rfl rfl hl.1 rfl (Nat.le_of_ble_eq_true rfl) dL_law_394 ⟨by decide, by decide⟩) (fun r_9 u H locs h hP1 hk1 hS => ?_)
  obtain ⟨M_used_10, M_refused_11, M_hole_12, M_weight_13⟩ := u
  try dsimp only at h
  have hP_M : va_P D vwCl (bX5 cI cJ cC a_M v_M.1 M_used_10 v_M.2.2.1 v_M.2.2.2.1 v_M.2.2.2.2.1 v_M.2.2.2.2.2.1 v_M.2.2.2.2.2.2.1 v_M.2.2.2.2.2.2.2.1 v_M.2.2.2.2.2.2.2.2.1 v_M.2.2.2.2.2.2.2.2.2.1 v_M.2.2.2.2.2.2.2.2.2.2.1 M_refused_11 v_M.2.2.2.2.2.2.2.2.2.2.2.2.1 M_hole_12 v_M.2.2.2.2.2.2.2.2.2.2.2.2.2.2.1 v_M.2.2.2.2.2.2.2.2.2.2.2.2.2.2.2.1 M_weight_13 v_M.2.2.2.2.2.2.2.2.2.2.2.2.2.2.2.2.2.1 v_M.2.2.2.2.2.2.2.2.2.2.2.2.2.2.2.2.2.2.1 v_M.2.2.2.2.2.2.2.2.2.2.2.2.2.2.2.2.2.2.2.1 v_M.2.2.2.2.2.2.2.2.2.2.2.2.2.2.2.2.2.2.2.2.1 v_M.2.2.2.2.2.2.2.2.2.2.2.2.2.2.2.2.2.2.2.2.2.1 v_M.2.2.2.2.2.2.2.2.2.2.2.2.2.2.2.2.2.2.2.2.2.2.1 v_M.2.2.2.2.2.2.2.2.2.2.2.2.2.2.2.2.2.2.2.2.2.2.2) H := hP1
  have hP_T : va_P D vwCl (bX4 cI cJ cC a_T a_n a_k a_t a_s a_r a_c v_T.1 T_refusals_2) H := zKeepB hP_T hk1 (hLC.1 0 7 (by decide) (by decide) (by decide))
  have hP_n : va_P D vwCl (bX3 cI cJ cC a_n v_n.1 v_n.2.1 v_n.2.2.1 v_n.2.2.2.1 n_used_3 v_n.2.2.2.2.2.1 n_drilled_4 n_total_5 n_open_6 v_n.2.2.2.2.2.2.2.2.2.1 v_n.2.2.2.2.2.2.2.2.2.2.1 n_weights_7 v_n.2.2.2.2.2.2.2.2.2.2.2.2.1 n_sums_8) H := zKeepB hP_n hk1 (hLC.1 1 7 (by decide) (by decide) (by decide))
  have hP_k : va_P D vwCl (pX3 cI cJ cC a_k v_k) H := zKeepB hP_k hk1 (hLC.1 2 7 (by decide) (by decide) (by decide))
  have hP_t : va_P D vwCl (pX3 cI cJ cC a_t v_t) H := zKeepB hP_t hk1 (hLC.1 3 7 (by decide) (by decide) (by decide))
  have hP_s : va_P D vwCl (pX2 cI cJ cC a_s v_s) H := zKeepB hP_s hk1 (hLC.1 4 7 (by decide) (by decide) (by decide))
  have hP_r : va_P D vwCl (pX0 cI cJ cC a_r v_r) H := zKeepB hP_r hk1 (hLC.1 5 7 (by decide) (by decide) (by decide))
  have hP_c : va_P D vwCl (pX1 cI cJ cC a_c v_c) H := zKeepB hP_c hk1 (hLC.1 6 7 (by decide) (by decide) (by decide))
  refine lv_icmp_eq (tgt := 1171) hx hb dL_law_397 (by decide) (fun z => ?_) (fun z => absurd h.1 z)
  exact hnext _ _ _ ⟨(v_T.1, T_refusals_2), (v_n.1, v_n.2.1, v_n.2.2.1, v_n.2.2.2.1, n_used_3, v_n.2.2.2.2.2.1, n_drilled_4, n_total_5, n_open_6, v_n.2.2.2.2.2.2.2.2.2.1, v_n.2.2.2.2.2.2.2.2.2.2.1, n_weights_7, v_n.2.2.2.2.2.2.2.2.2.2.2.2.1, n_sums_8), v_k, v_t, v_s, v_r, v_c, (v_M.1, M_used_10, v_M.2.2.1, v_M.2.2.2.1, v_M.2.2.2.2.1, v_M.2.2.2.2.2.1, v_M.2.2.2.2.2.2.1, v_M.2.2.2.2.2.2.2.1, v_M.2.2.2.2.2.2.2.2.1, v_M.2.2.2.2.2.2.2.2.2.1, v_M.2.2.2.2.2.2.2.2.2.2.1, M_refused_11, v_M.2.2.2.2.2.2.2.2.2.2.2.2.1, M_hole_12, v_M.2.2.2.2.2.2.2.2.2.2.2.2.2.2.1, v_M.2.2.2.2.2.2.2.2.2.2.2.2.2.2.2.1, M_weight_13, v_M.2.2.2.2.2.2.2.2.2.2.2.2.2.2.2.2.2.1, v_M.2.2.2.2.2.2.2.2.2.2.2.2.2.2.2.2.2.2.1, v_M.2.2.2.2.2.2.2.2.2.2.2.2.2.2.2.2.2.2.2.1, v_M.2.2.2.2.2.2.2.2.2.2.2.2.2.2.2.2.2.2.2.2.1, v_M.2.2.2.2.2.2.2.2.2.2.2.2.2.2.2.2.2.2.2.2.2.1, v_M.2.2.2.2.2.2.2.2.2.2.2.2.2.2.2.2.2.2.2.2.2.2.1, v_M.2.2.2.2.2.2.2.2.2.2.2.2.2.2.2.2.2.2.2.2.2.2.2), h.2, hP_T, hP_n, hP_k, hP_t, hP_s, hP_r, hP_c, hP_M⟩ hS hl
def PH_nail (RL : RT) : Prop := ∀ (v_T : PX4) (v_n : PX3) (v_k : PX3) (v_t : PX3) (v_s : PX2) (v_r : PX0) (v_c : PX1) (v_M : PX5) (p0 : Int32) (p1 : Int32), RL v_T v_n v_k v_s v_r v_M → wpX4_nail (fun (r_1 : Int32) (T_refusals_2 : Nat → Int32) (n_drilled_3 : Int64) (n_total_4 : Int64) (n_open_5 : Int32) (n_weights_6 : Nat → Int64) (n_sums_7 : Nat → Int64) => wpX5_nail (fun (r_8 : Int32) (M_refused_9 : Nat → Int32) (M_hole_10 : Nat → Int32) (M_weight_11 : Nat → Int32) => r_1 = r_8 ∧ RL (v_T.1, T_refusals_2) (v_n.1, v_n.2.1, v_n.2.2.1, v_n.2.2.2.1, v_n.2.2.2.2.1, v_n.2.2.2.2.2.1, n_drilled_3, n_total_4, n_open_5, v_n.2.2.2.2.2.2.2.2.2.1, v_n.2.2.2.2.2.2.2.2.2.2.1, n_weights_6, v_n.2.2.2.2.2.2.2.2.2.2.2.2.1, n_sums_7) v_k v_s v_r (v_M.1, v_M.2.1, v_M.2.2.1, v_M.2.2.2.1, v_M.2.2.2.2.1, v_M.2.2.2.2.2.1, v_M.2.2.2.2.2.2.1, v_M.2.2.2.2.2.2.2.1, v_M.2.2.2.2.2.2.2.2.1, v_M.2.2.2.2.2.2.2.2.2.1, v_M.2.2.2.2.2.2.2.2.2.2.1, M_refused_9, v_M.2.2.2.2.2.2.2.2.2.2.2.2.1, M_hole_10, v_M.2.2.2.2.2.2.2.2.2.2.2.2.2.2.1, v_M.2.2.2.2.2.2.2.2.2.2.2.2.2.2.2.1, M_weight_11, v_M.2.2.2.2.2.2.2.2.2.2.2.2.2.2.2.2.2.1, v_M.2.2.2.2.2.2.2.2.2.2.2.2.2.2.2.2.2.2.1, v_M.2.2.2.2.2.2.2.2.2.2.2.2.2.2.2.2.2.2.2.1, v_M.2.2.2.2.2.2.2.2.2.2.2.2.2.2.2.2.2.2.2.2.1, v_M.2.2.2.2.2.2.2.2.2.2.2.2.2.2.2.2.2.2.2.2.2.1, v_M.2.2.2.2.2.2.2.2.2.2.2.2.2.2.2.2.2.2.2.2.2.2.1, v_M.2.2.2.2.2.2.2.2.2.2.2.2.2.2.2.2.2.2.2.2.2.2.2)) v_M.2.2.2.2.2.2.2.2.2.2.2.1 v_M.2.2.2.2.2.2.2.2.2.2.2.2.1 v_M.2.2.2.2.2.2.2.2.2.2.2.2.2.1 v_M.2.2.2.2.2.2.2.2.2.2.2.2.2.2.2.2.1 p0 p1) v_T.2 v_n.2.2.2.2.2.2.1 v_n.2.2.2.2.2.2.2.1 v_n.2.2.2.2.2.2.2.2.1 v_n.2.2.2.2.2.2.2.2.2.2.2.1 v_n.2.2.2.2.2.2.2.2.2.2.2.2.1 v_n.2.2.2.2.2.2.2.2.2.2.2.2.2 p0 p1
set_option maxHeartbeats 4000000 in
set_option maxRecDepth 100000 in
theorem lawC_nail {p : Program} {l : Launch} {e : Env} {s : State} {m : MethodId} {below : List Frame} {meth : Method} {c : Code} {Q : State → Prop} {b L : Nat} {xs : Nat → Int32} {D : va_G} {cI cJ cC : ClassId} {G : Nat → Nat → Nat} {a_T a_n a_k a_t a_s a_r a_c a_M : Nat → Nat} (RL : RT) (hp : PH_nail RL) (S : CallFix p m c code 4 s #[Value.ref b] bg R_law) (hX : va_X b L xs s s.heap) (hbl : b < s.heap.size) (hK : va_K D vwCl (tz cI cJ cC) s) (hLC : LC a_T a_n a_k a_t a_s a_r a_c a_M (fun q : Nat => s.heap.size ≤ q)) (hE : EV G (fun q : Nat => s.heap.size ≤ q) s) {i : Nat} {x3 : Int32} (hi : ∀ k : Nat, k < 4 → vp_in (x3 + Int32.ofNat k) L) (hv : ∀ k : Nat, k < 4 → xs (x3 + Int32.ofNat k).toNatClampNeg = xs (i + k)) {H : Heap} {locs : List Loc} {ls : Array Slot} (hJ : JW RL D cI cJ cC a_T a_n a_k a_t a_s a_r a_c a_M H) (hS : va_S (fun q : Nat => s.heap.size ≤ q) s.heap H locs) (hl : lv_has ls 4 [(0, .ref b), (1, .ref (a_T 0)), (2, .ref (a_M 0)), (3, .int x3)])
    (hnext : ∀ (H : Heap) (locs : List Loc) (ls : Array Slot), JW RL D cI cJ cC a_T a_n a_k a_t a_s a_r a_c a_M H → va_S (fun q : Nat => s.heap.size ≤ q) s.heap H locs → lv_has ls 4 [(0, .ref b), (1, .ref (a_T 0)), (2, .ref (a_M 0)), (3, .int x3)] → W p l e room_1 s m #[Value.ref b] below meth c H locs 41 1350 Q (F0 m 1171 ls [])) : W p l e room_1 s m #[Value.ref b] below meth c H locs 41 1350 Q (F0 m 402 ls []) := by
  obtain ⟨hx, hb, hml, hown, ht⟩ := id S
  have hA : ∀ q : Nat, s.heap.size ≤ q → (fun q : Nat => s.heap.size ≤ q) q := fun _ h => h
  have hbA : ¬ (fun q : Nat => s.heap.size ≤ q) b := Nat.not_le.mpr hbl
  obtain ⟨v_T, v_n, v_k, v_t, v_s, v_r, v_c, v_M, hR, hP_T, hP_n, hP_k, hP_t, hP_s, hP_r, hP_c, hP_M⟩ := hJ
  have h := hp v_T v_n v_k v_t v_s v_r v_c v_M (xs (i + 1)) (xs (i + 2)) hR
  refine lv_aload_n hx hb dL_law_402 rfl (lv_at hl 1 rfl) ?_
  refine lv_aload_n hx hb dL_law_403 rfl (lv_at hl 0 rfl) ?_
  refine lv_iload_n hx hb dL_law_404 rfl (lv_at hl 3 rfl) ?_
  refine lv_iconst (v := (1 : Int32)) hx hb dL_law_405 (by decide) ?_
  refine lv_iadd hx hb dL_law_406 ?_
  refine va_sld hx hb hX hbl hbA hS (hi 1 (by decide)) dL_law_407 ?_
  refine zti (hv 1 (by decide)) ?_
  refine lv_aload_n hx hb dL_law_408 rfl (lv_at hl 0 rfl) ?_
  refine lv_iload_n hx hb dL_law_409 rfl (lv_at hl 3 rfl) ?_
  refine lv_iconst (v := (2 : Int32)) hx hb dL_law_410 (by decide) ?_
  refine lv_iadd hx hb dL_law_411 ?_
  refine va_sld hx hb hX hbl hbA hS (hi 2 (by decide)) dL_law_412 ?_
  refine zti (hv 2 (by decide)) ?_
  have hPw : va_P D vwCl ((pX4 cI cJ cC a_T a_n a_k a_t a_s a_r a_c v_T) ++ (pX3 cI cJ cC a_n v_n)) _ := (hP_T.app hP_n)
  have hDw : va_D (fun q : Nat => s.heap.size ≤ q) ((pX4 cI cJ cC a_T a_n a_k a_t a_s a_r a_c v_T) ++ (pX3 cI cJ cC a_n v_n)) := hLC.2.2.2.1 _ rfl
  refine zci hA hDw hS (zrunV (As := [.int (xs (i + 1)), .int (xs (i + 2))]) (rest := []) S hK hA hE hPw hDw hS (mX4_nail l D cI cJ cC G a_T a_n a_k a_t a_s a_r a_c _ v_T.1 v_T.2 v_n.1 v_n.2.1 v_n.2.2.1 v_n.2.2.2.1 v_n.2.2.2.2.1 v_n.2.2.2.2.2.1 v_n.2.2.2.2.2.2.1 v_n.2.2.2.2.2.2.2.1 v_n.2.2.2.2.2.2.2.2.1 v_n.2.2.2.2.2.2.2.2.2.1 v_n.2.2.2.2.2.2.2.2.2.2.1 v_n.2.2.2.2.2.2.2.2.2.2.2.1 v_n.2.2.2.2.2.2.2.2.2.2.2.2.1 v_n.2.2.2.2.2.2.2.2.2.2.2.2.2 (xs (i + 1)) (xs (i + 2)) _ h) kX4_nail ml_L_46 ⟨rfl, rfl, by decide, by decide⟩ (q0 := 0) (ci := 4) rfl rfl rfl rfl hl.1 rfl (Nat.le_of_ble_eq_true rfl) dL_law_413 ⟨by decide, by decide⟩) (fun r_1 u H locs h hP1 hk1 hS => ?_)
  obtain ⟨T_refusals_2, n_drilled_3, n_total_4, n_open_5, n_weights_6, n_sums_7⟩ := u
  try dsimp only at h
  have hP_n : va_P D vwCl (bX3 cI cJ cC a_n v_n.1 v_n.2.1 v_n.2.2.1 v_n.2.2.2.1 v_n.2.2.2.2.1 v_n.2.2.2.2.2.1 n_drilled_3 n_total_4 n_open_5 v_n.2.2.2.2.2.2.2.2.2.1 v_n.2.2.2.2.2.2.2.2.2.2.1 n_weights_6 v_n.2.2.2.2.2.2.2.2.2.2.2.2.1 n_sums_7) H := zPr hP1
  have hP_T : va_P D vwCl (bX4 cI cJ cC a_T a_n a_k a_t a_s a_r a_c v_T.1 T_refusals_2) H := zPl (hP1)
  have hP_k : va_P D vwCl (pX3 cI cJ cC a_k v_k) H := zKeepB hP_k hk1 (dj_app (hLC.1 2 0 (by decide) (by decide) (by decide)) (hLC.1 2 1 (by decide) (by decide) (by decide)))
  have hP_t : va_P D vwCl (pX3 cI cJ cC a_t v_t) H := zKeepB hP_t hk1 (dj_app (hLC.1 3 0 (by decide) (by decide) (by decide)) (hLC.1 3 1 (by decide) (by decide) (by decide)))
  have hP_s : va_P D vwCl (pX2 cI cJ cC a_s v_s) H := zKeepB hP_s hk1 (dj_app (hLC.1 4 0 (by decide) (by decide) (by decide)) (hLC.1 4 1 (by decide) (by decide) (by decide)))
  have hP_r : va_P D vwCl (pX0 cI cJ cC a_r v_r) H := zKeepB hP_r hk1 (dj_app (hLC.1 5 0 (by decide) (by decide) (by decide)) (hLC.1 5 1 (by decide) (by decide) (by decide)))
  have hP_c : va_P D vwCl (pX1 cI cJ cC a_c v_c) H := zKeepB hP_c hk1 (dj_app (hLC.1 6 0 (by decide) (by decide) (by decide)) (hLC.1 6 1 (by decide) (by decide) (by decide)))
  have hP_M : va_P D vwCl (pX5 cI cJ cC a_M v_M) H := zKeepB hP_M hk1 (dj_app (hLC.1 7 0 (by decide) (by decide) (by decide)) (hLC.1 7 1 (by decide) (by decide) (by decide)))
  refine lv_aload_n hx hb dL_law_416 rfl (lv_at hl 2 rfl) ?_
  refine lv_aload_n hx hb dL_law_417 rfl (lv_at hl 0 rfl) ?_
  refine lv_iload_n hx hb dL_law_418 rfl (lv_at hl 3 rfl) ?_
  refine lv_iconst (v := (1 : Int32)) hx hb dL_law_419 (by decide) ?_
  refine lv_iadd hx hb dL_law_420 ?_
  refine va_sld hx hb hX hbl hbA hS (hi 1 (by decide)) dL_law_421 ?_
  refine zti (hv 1 (by decide)) ?_
  refine lv_aload_n hx hb dL_law_422 rfl (lv_at hl 0 rfl) ?_
  refine lv_iload_n hx hb dL_law_423 rfl (lv_at hl 3 rfl) ?_
  refine lv_iconst (v := (2 : Int32)) hx hb dL_law_424 (by decide) ?_
  refine lv_iadd hx hb dL_law_425 ?_
  refine va_sld hx hb hX hbl hbA hS (hi 2 (by decide)) dL_law_426 ?_
  refine zti (hv 2 (by decide)) ?_
  have hPw : va_P D vwCl ((pX5 cI cJ cC a_M v_M)) _ := hP_M
  have hDw : va_D (fun q : Nat => s.heap.size ≤ q) ((pX5 cI cJ cC a_M v_M)) := hLC.2.2.2.2.2.2.2.2.2.2.2 _ rfl
  refine zci hA hDw hS (zrunV (As := [.int (xs (i + 1)), .int (xs (i + 2))]) (rest := [.int r_1]) S hK hA hE hPw hDw hS (mX5_nail l D cI cJ cC G a_M _ v_M.1 v_M.2.1 v_M.2.2.1 v_M.2.2.2.1 v_M.2.2.2.2.1 v_M.2.2.2.2.2.1 v_M.2.2.2.2.2.2.1 v_M.2.2.2.2.2.2.2.1 v_M.2.2.2.2.2.2.2.2.1 v_M.2.2.2.2.2.2.2.2.2.1 v_M.2.2.2.2.2.2.2.2.2.2.1 v_M.2.2.2.2.2.2.2.2.2.2.2.1 v_M.2.2.2.2.2.2.2.2.2.2.2.2.1 v_M.2.2.2.2.2.2.2.2.2.2.2.2.2.1 v_M.2.2.2.2.2.2.2.2.2.2.2.2.2.2.1 v_M.2.2.2.2.2.2.2.2.2.2.2.2.2.2.2.1 v_M.2.2.2.2.2.2.2.2.2.2.2.2.2.2.2.2.1 v_M.2.2.2.2.2.2.2.2.2.2.2.2.2.2.2.2.2.1 v_M.2.2.2.2.2.2.2.2.2.2.2.2.2.2.2.2.2.2.1 v_M.2.2.2.2.2.2.2.2.2.2.2.2.2.2.2.2.2.2.2.1 v_M.2.2.2.2.2.2.2.2.2.2.2.2.2.2.2.2.2.2.2.2.1 v_M.2.2.2.2.2.2.2.2.2.2.2.2.2.2.2.2.2.2.2.2.2.1 v_M.2.2.2.2.2.2.2.2.2.2.2.2.2.2.2.2.2.2.2.2.2.2.1 v_M.2.2.2.2.2.2.2.2.2.2.2.2.2.2.2.2.2.2.2.2.2.2.2 (xs (i + 1)) (xs (i + 2)) _ h) kX5_nail ml_L_49 ⟨rfl, rfl, by decide, by decide⟩ (q0 := 0) (ci := 5) rfl rfl rfl rfl hl.1 rfl (Nat.le_of_ble_eq_true rfl) dL_law_427 ⟨by decide, by decide⟩) (fun r_8 u H locs h hP1 hk1 hS => ?_)
  obtain ⟨M_refused_9, M_hole_10, M_weight_11⟩ := u
  try dsimp only at h
  have hP_M : va_P D vwCl (bX5 cI cJ cC a_M v_M.1 v_M.2.1 v_M.2.2.1 v_M.2.2.2.1 v_M.2.2.2.2.1 v_M.2.2.2.2.2.1 v_M.2.2.2.2.2.2.1 v_M.2.2.2.2.2.2.2.1 v_M.2.2.2.2.2.2.2.2.1 v_M.2.2.2.2.2.2.2.2.2.1 v_M.2.2.2.2.2.2.2.2.2.2.1 M_refused_9 v_M.2.2.2.2.2.2.2.2.2.2.2.2.1 M_hole_10 v_M.2.2.2.2.2.2.2.2.2.2.2.2.2.2.1 v_M.2.2.2.2.2.2.2.2.2.2.2.2.2.2.2.1 M_weight_11 v_M.2.2.2.2.2.2.2.2.2.2.2.2.2.2.2.2.2.1 v_M.2.2.2.2.2.2.2.2.2.2.2.2.2.2.2.2.2.2.1 v_M.2.2.2.2.2.2.2.2.2.2.2.2.2.2.2.2.2.2.2.1 v_M.2.2.2.2.2.2.2.2.2.2.2.2.2.2.2.2.2.2.2.2.1 v_M.2.2.2.2.2.2.2.2.2.2.2.2.2.2.2.2.2.2.2.2.2.1 v_M.2.2.2.2.2.2.2.2.2.2.2.2.2.2.2.2.2.2.2.2.2.2.1 v_M.2.2.2.2.2.2.2.2.2.2.2.2.2.2.2.2.2.2.2.2.2.2.2) H := hP1
  have hP_T : va_P D vwCl (bX4 cI cJ cC a_T a_n a_k a_t a_s a_r a_c v_T.1 T_refusals_2) H := zKeepB hP_T hk1 (hLC.1 0 7 (by decide) (by decide) (by decide))
  have hP_n : va_P D vwCl (bX3 cI cJ cC a_n v_n.1 v_n.2.1 v_n.2.2.1 v_n.2.2.2.1 v_n.2.2.2.2.1 v_n.2.2.2.2.2.1 n_drilled_3 n_total_4 n_open_5 v_n.2.2.2.2.2.2.2.2.2.1 v_n.2.2.2.2.2.2.2.2.2.2.1 n_weights_6 v_n.2.2.2.2.2.2.2.2.2.2.2.2.1 n_sums_7) H := zKeepB hP_n hk1 (hLC.1 1 7 (by decide) (by decide) (by decide))
  have hP_k : va_P D vwCl (pX3 cI cJ cC a_k v_k) H := zKeepB hP_k hk1 (hLC.1 2 7 (by decide) (by decide) (by decide))
  have hP_t : va_P D vwCl (pX3 cI cJ cC a_t v_t) H := zKeepB hP_t hk1 (hLC.1 3 7 (by decide) (by decide) (by decide))
  have hP_s : va_P D vwCl (pX2 cI cJ cC a_s v_s) H := zKeepB hP_s hk1 (hLC.1 4 7 (by decide) (by decide) (by decide))
  have hP_r : va_P D vwCl (pX0 cI cJ cC a_r v_r) H := zKeepB hP_r hk1 (hLC.1 5 7 (by decide) (by decide) (by decide))
  have hP_c : va_P D vwCl (pX1 cI cJ cC a_c v_c) H := zKeepB hP_c hk1 (hLC.1 6 7 (by decide) (by decide) (by decide))
  refine lv_icmp_eq (tgt := 1171) hx hb dL_law_430 (by decide) (fun z => ?_) (fun z => absurd h.1 z)
  exact hnext _ _ _ ⟨(v_T.1, T_refusals_2), (v_n.1, v_n.2.1, v_n.2.2.1, v_n.2.2.2.1, v_n.2.2.2.2.1, v_n.2.2.2.2.2.1, n_drilled_3, n_total_4, n_open_5, v_n.2.2.2.2.2.2.2.2.2.1, v_n.2.2.2.2.2.2.2.2.2.2.1, n_weights_6, v_n.2.2.2.2.2.2.2.2.2.2.2.2.1, n_sums_7), v_k, v_t, v_s, v_r, v_c, (v_M.1, v_M.2.1, v_M.2.2.1, v_M.2.2.2.1, v_M.2.2.2.2.1, v_M.2.2.2.2.2.1, v_M.2.2.2.2.2.2.1, v_M.2.2.2.2.2.2.2.1, v_M.2.2.2.2.2.2.2.2.1, v_M.2.2.2.2.2.2.2.2.2.1, v_M.2.2.2.2.2.2.2.2.2.2.1, M_refused_9, v_M.2.2.2.2.2.2.2.2.2.2.2.2.1, M_hole_10, v_M.2.2.2.2.2.2.2.2.2.2.2.2.2.2.1, v_M.2.2.2.2.2.2.2.2.2.2.2.2.2.2.2.1, M_weight_11, v_M.2.2.2.2.2.2.2.2.2.2.2.2.2.2.2.2.2.1, v_M.2.2.2.2.2.2.2.2.2.2.2.2.2.2.2.2.2.2.1, v_M.2.2.2.2.2.2.2.2.2.2.2.2.2.2.2.2.2.2.2.1, v_M.2.2.2.2.2.2.2.2.2.2.2.2.2.2.2.2.2.2.2.2.1, v_M.2.2.2.2.2.2.2.2.2.2.2.2.2.2.2.2.2.2.2.2.2.1, v_M.2.2.2.2.2.2.2.2.2.2.2.2.2.2.2.2.2.2.2.2.2.2.1, v_M.2.2.2.2.2.2.2.2.2.2.2.2.2.2.2.2.2.2.2.2.2.2.2), h.2, hP_T, hP_n, hP_k, hP_t, hP_s, hP_r, hP_c, hP_M⟩ hS hl
def PH_pipe (RL : RT) : Prop := ∀ (v_T : PX4) (v_n : PX3) (v_k : PX3) (v_t : PX3) (v_s : PX2) (v_r : PX0) (v_c : PX1) (v_M : PX5) (p0 : Int32) (p1 : Int32), RL v_T v_n v_k v_s v_r v_M → wpX4_pipe (fun (r_1 : Int32) (T_refusals_2 : Nat → Int32) (n_pipes_3 : Int32) (n_pipeInches_4 : Nat → Int32) (n_pipeChances_5 : Nat → Int32) => wpX5_pipe (fun (r_6 : Int32) (M_pipes_7 : Int32) (M_refused_8 : Nat → Int32) (M_pipeAt_9 : Nat → Int32) (M_chance_10 : Nat → Int32) => r_1 = r_6 ∧ RL (v_T.1, T_refusals_2) (v_n.1, v_n.2.1, v_n.2.2.1, v_n.2.2.2.1, v_n.2.2.2.2.1, n_pipes_3, v_n.2.2.2.2.2.2.1, v_n.2.2.2.2.2.2.2.1, v_n.2.2.2.2.2.2.2.2.1, n_pipeInches_4, n_pipeChances_5, v_n.2.2.2.2.2.2.2.2.2.2.2.1, v_n.2.2.2.2.2.2.2.2.2.2.2.2.1, v_n.2.2.2.2.2.2.2.2.2.2.2.2.2) v_k v_s v_r (M_pipes_7, v_M.2.1, v_M.2.2.1, v_M.2.2.2.1, v_M.2.2.2.2.1, v_M.2.2.2.2.2.1, v_M.2.2.2.2.2.2.1, v_M.2.2.2.2.2.2.2.1, v_M.2.2.2.2.2.2.2.2.1, v_M.2.2.2.2.2.2.2.2.2.1, v_M.2.2.2.2.2.2.2.2.2.2.1, M_refused_8, v_M.2.2.2.2.2.2.2.2.2.2.2.2.1, v_M.2.2.2.2.2.2.2.2.2.2.2.2.2.1, M_pipeAt_9, M_chance_10, v_M.2.2.2.2.2.2.2.2.2.2.2.2.2.2.2.2.1, v_M.2.2.2.2.2.2.2.2.2.2.2.2.2.2.2.2.2.1, v_M.2.2.2.2.2.2.2.2.2.2.2.2.2.2.2.2.2.2.1, v_M.2.2.2.2.2.2.2.2.2.2.2.2.2.2.2.2.2.2.2.1, v_M.2.2.2.2.2.2.2.2.2.2.2.2.2.2.2.2.2.2.2.2.1, v_M.2.2.2.2.2.2.2.2.2.2.2.2.2.2.2.2.2.2.2.2.2.1, v_M.2.2.2.2.2.2.2.2.2.2.2.2.2.2.2.2.2.2.2.2.2.2.1, v_M.2.2.2.2.2.2.2.2.2.2.2.2.2.2.2.2.2.2.2.2.2.2.2)) v_M.1 v_M.2.2.2.2.2.2.2.2.2.2.2.1 v_M.2.2.2.2.2.2.2.2.2.2.2.2.2.2.1 v_M.2.2.2.2.2.2.2.2.2.2.2.2.2.2.2.1 p0 p1) v_T.2 v_n.2.2.2.2.2.1 v_n.2.2.2.2.2.2.2.2.2.1 v_n.2.2.2.2.2.2.2.2.2.2.1 p0 p1
set_option maxHeartbeats 4000000 in
set_option maxRecDepth 100000 in
theorem lawC_pipe {p : Program} {l : Launch} {e : Env} {s : State} {m : MethodId} {below : List Frame} {meth : Method} {c : Code} {Q : State → Prop} {b L : Nat} {xs : Nat → Int32} {D : va_G} {cI cJ cC : ClassId} {G : Nat → Nat → Nat} {a_T a_n a_k a_t a_s a_r a_c a_M : Nat → Nat} (RL : RT) (hp : PH_pipe RL) (S : CallFix p m c code 4 s #[Value.ref b] bg R_law) (hX : va_X b L xs s s.heap) (hbl : b < s.heap.size) (hK : va_K D vwCl (tz cI cJ cC) s) (hLC : LC a_T a_n a_k a_t a_s a_r a_c a_M (fun q : Nat => s.heap.size ≤ q)) (hE : EV G (fun q : Nat => s.heap.size ≤ q) s) {i : Nat} {x3 : Int32} (hi : ∀ k : Nat, k < 4 → vp_in (x3 + Int32.ofNat k) L) (hv : ∀ k : Nat, k < 4 → xs (x3 + Int32.ofNat k).toNatClampNeg = xs (i + k)) {H : Heap} {locs : List Loc} {ls : Array Slot} (hJ : JW RL D cI cJ cC a_T a_n a_k a_t a_s a_r a_c a_M H) (hS : va_S (fun q : Nat => s.heap.size ≤ q) s.heap H locs) (hl : lv_has ls 4 [(0, .ref b), (1, .ref (a_T 0)), (2, .ref (a_M 0)), (3, .int x3)])
    (hnext : ∀ (H : Heap) (locs : List Loc) (ls : Array Slot), JW RL D cI cJ cC a_T a_n a_k a_t a_s a_r a_c a_M H → va_S (fun q : Nat => s.heap.size ≤ q) s.heap H locs → lv_has ls 4 [(0, .ref b), (1, .ref (a_T 0)), (2, .ref (a_M 0)), (3, .int x3)] → W p l e room_1 s m #[Value.ref b] below meth c H locs 41 1350 Q (F0 m 1171 ls [])) : W p l e room_1 s m #[Value.ref b] below meth c H locs 41 1350 Q (F0 m 435 ls []) := by
  obtain ⟨hx, hb, hml, hown, ht⟩ := id S
  have hA : ∀ q : Nat, s.heap.size ≤ q → (fun q : Nat => s.heap.size ≤ q) q := fun _ h => h
  have hbA : ¬ (fun q : Nat => s.heap.size ≤ q) b := Nat.not_le.mpr hbl
  obtain ⟨v_T, v_n, v_k, v_t, v_s, v_r, v_c, v_M, hR, hP_T, hP_n, hP_k, hP_t, hP_s, hP_r, hP_c, hP_M⟩ := hJ
  have h := hp v_T v_n v_k v_t v_s v_r v_c v_M (xs (i + 1)) (xs (i + 2)) hR
  refine lv_aload_n hx hb dL_law_435 rfl (lv_at hl 1 rfl) ?_
  refine lv_aload_n hx hb dL_law_436 rfl (lv_at hl 0 rfl) ?_
  refine lv_iload_n hx hb dL_law_437 rfl (lv_at hl 3 rfl) ?_
  refine lv_iconst (v := (1 : Int32)) hx hb dL_law_438 (by decide) ?_
  refine lv_iadd hx hb dL_law_439 ?_
  refine va_sld hx hb hX hbl hbA hS (hi 1 (by decide)) dL_law_440 ?_
  refine zti (hv 1 (by decide)) ?_
  refine lv_aload_n hx hb dL_law_441 rfl (lv_at hl 0 rfl) ?_
  refine lv_iload_n hx hb dL_law_442 rfl (lv_at hl 3 rfl) ?_
  refine lv_iconst (v := (2 : Int32)) hx hb dL_law_443 (by decide) ?_
  refine lv_iadd hx hb dL_law_444 ?_
  refine va_sld hx hb hX hbl hbA hS (hi 2 (by decide)) dL_law_445 ?_
  refine zti (hv 2 (by decide)) ?_
  have hPw : va_P D vwCl ((pX4 cI cJ cC a_T a_n a_k a_t a_s a_r a_c v_T) ++ (pX3 cI cJ cC a_n v_n)) _ := (hP_T.app hP_n)
  have hDw : va_D (fun q : Nat => s.heap.size ≤ q) ((pX4 cI cJ cC a_T a_n a_k a_t a_s a_r a_c v_T) ++ (pX3 cI cJ cC a_n v_n)) := hLC.2.2.2.1 _ rfl
  refine zci hA hDw hS (zrunV (As := [.int (xs (i + 1)), .int (xs (i + 2))]) (rest := []) S hK hA hE hPw hDw hS (mX4_pipe l D cI cJ cC G a_T a_n a_k a_t a_s a_r a_c _ v_T.1 v_T.2 v_n.1 v_n.2.1 v_n.2.2.1 v_n.2.2.2.1 v_n.2.2.2.2.1 v_n.2.2.2.2.2.1 v_n.2.2.2.2.2.2.1 v_n.2.2.2.2.2.2.2.1 v_n.2.2.2.2.2.2.2.2.1 v_n.2.2.2.2.2.2.2.2.2.1 v_n.2.2.2.2.2.2.2.2.2.2.1 v_n.2.2.2.2.2.2.2.2.2.2.2.1 v_n.2.2.2.2.2.2.2.2.2.2.2.2.1 v_n.2.2.2.2.2.2.2.2.2.2.2.2.2 (xs (i + 1)) (xs (i + 2)) _ h) kX4_pipe ml_L_50 ⟨rfl, rfl, by decide, by decide⟩ (q0 := 0) (ci := 4) rfl rfl rfl rfl hl.1 rfl (Nat.le_of_ble_eq_true rfl) dL_law_446 ⟨by decide, by decide⟩) (fun r_1 u H locs h hP1 hk1 hS => ?_)
  obtain ⟨T_refusals_2, n_pipes_3, n_pipeInches_4, n_pipeChances_5⟩ := u
  try dsimp only at h
  have hP_n : va_P D vwCl (bX3 cI cJ cC a_n v_n.1 v_n.2.1 v_n.2.2.1 v_n.2.2.2.1 v_n.2.2.2.2.1 n_pipes_3 v_n.2.2.2.2.2.2.1 v_n.2.2.2.2.2.2.2.1 v_n.2.2.2.2.2.2.2.2.1 n_pipeInches_4 n_pipeChances_5 v_n.2.2.2.2.2.2.2.2.2.2.2.1 v_n.2.2.2.2.2.2.2.2.2.2.2.2.1 v_n.2.2.2.2.2.2.2.2.2.2.2.2.2) H := zPr hP1
  have hP_T : va_P D vwCl (bX4 cI cJ cC a_T a_n a_k a_t a_s a_r a_c v_T.1 T_refusals_2) H := zPl (hP1)
  have hP_k : va_P D vwCl (pX3 cI cJ cC a_k v_k) H := zKeepB hP_k hk1 (dj_app (hLC.1 2 0 (by decide) (by decide) (by decide)) (hLC.1 2 1 (by decide) (by decide) (by decide)))
  have hP_t : va_P D vwCl (pX3 cI cJ cC a_t v_t) H := zKeepB hP_t hk1 (dj_app (hLC.1 3 0 (by decide) (by decide) (by decide)) (hLC.1 3 1 (by decide) (by decide) (by decide)))
  have hP_s : va_P D vwCl (pX2 cI cJ cC a_s v_s) H := zKeepB hP_s hk1 (dj_app (hLC.1 4 0 (by decide) (by decide) (by decide)) (hLC.1 4 1 (by decide) (by decide) (by decide)))
  have hP_r : va_P D vwCl (pX0 cI cJ cC a_r v_r) H := zKeepB hP_r hk1 (dj_app (hLC.1 5 0 (by decide) (by decide) (by decide)) (hLC.1 5 1 (by decide) (by decide) (by decide)))
  have hP_c : va_P D vwCl (pX1 cI cJ cC a_c v_c) H := zKeepB hP_c hk1 (dj_app (hLC.1 6 0 (by decide) (by decide) (by decide)) (hLC.1 6 1 (by decide) (by decide) (by decide)))
  have hP_M : va_P D vwCl (pX5 cI cJ cC a_M v_M) H := zKeepB hP_M hk1 (dj_app (hLC.1 7 0 (by decide) (by decide) (by decide)) (hLC.1 7 1 (by decide) (by decide) (by decide)))
  refine lv_aload_n hx hb dL_law_449 rfl (lv_at hl 2 rfl) ?_
  refine lv_aload_n hx hb dL_law_450 rfl (lv_at hl 0 rfl) ?_
  refine lv_iload_n hx hb dL_law_451 rfl (lv_at hl 3 rfl) ?_
  refine lv_iconst (v := (1 : Int32)) hx hb dL_law_452 (by decide) ?_
  refine lv_iadd hx hb dL_law_453 ?_
  refine va_sld hx hb hX hbl hbA hS (hi 1 (by decide)) dL_law_454 ?_
  refine zti (hv 1 (by decide)) ?_
  refine lv_aload_n hx hb dL_law_455 rfl (lv_at hl 0 rfl) ?_
  refine lv_iload_n hx hb dL_law_456 rfl (lv_at hl 3 rfl) ?_
  refine lv_iconst (v := (2 : Int32)) hx hb dL_law_457 (by decide) ?_
  refine lv_iadd hx hb dL_law_458 ?_
  refine va_sld hx hb hX hbl hbA hS (hi 2 (by decide)) dL_law_459 ?_
  refine zti (hv 2 (by decide)) ?_
  have hPw : va_P D vwCl ((pX5 cI cJ cC a_M v_M)) _ := hP_M
  have hDw : va_D (fun q : Nat => s.heap.size ≤ q) ((pX5 cI cJ cC a_M v_M)) := hLC.2.2.2.2.2.2.2.2.2.2.2 _ rfl
  refine zci hA hDw hS (zrunV (As := [.int (xs (i + 1)), .int (xs (i + 2))]) (rest := [.int r_1]) S hK hA hE hPw hDw hS (mX5_pipe l D cI cJ cC G a_M _ v_M.1 v_M.2.1 v_M.2.2.1 v_M.2.2.2.1 v_M.2.2.2.2.1 v_M.2.2.2.2.2.1 v_M.2.2.2.2.2.2.1 v_M.2.2.2.2.2.2.2.1 v_M.2.2.2.2.2.2.2.2.1 v_M.2.2.2.2.2.2.2.2.2.1 v_M.2.2.2.2.2.2.2.2.2.2.1 v_M.2.2.2.2.2.2.2.2.2.2.2.1 v_M.2.2.2.2.2.2.2.2.2.2.2.2.1 v_M.2.2.2.2.2.2.2.2.2.2.2.2.2.1 v_M.2.2.2.2.2.2.2.2.2.2.2.2.2.2.1 v_M.2.2.2.2.2.2.2.2.2.2.2.2.2.2.2.1 v_M.2.2.2.2.2.2.2.2.2.2.2.2.2.2.2.2.1 v_M.2.2.2.2.2.2.2.2.2.2.2.2.2.2.2.2.2.1 v_M.2.2.2.2.2.2.2.2.2.2.2.2.2.2.2.2.2.2.1 v_M.2.2.2.2.2.2.2.2.2.2.2.2.2.2.2.2.2.2.2.1 v_M.2.2.2.2.2.2.2.2.2.2.2.2.2.2.2.2.2.2.2.2.1 v_M.2.2.2.2.2.2.2.2.2.2.2.2.2.2.2.2.2.2.2.2.2.1 v_M.2.2.2.2.2.2.2.2.2.2.2.2.2.2.2.2.2.2.2.2.2.2.1 v_M.2.2.2.2.2.2.2.2.2.2.2.2.2.2.2.2.2.2.2.2.2.2.2 (xs (i + 1)) (xs (i + 2)) _ h) kX5_pipe ml_L_53 ⟨rfl, rfl, by decide, by decide⟩ (q0 := 0) (ci := 5) rfl rfl rfl rfl hl.1 rfl (Nat.le_of_ble_eq_true rfl) dL_law_460 ⟨by decide, by decide⟩) (fun r_6 u H locs h hP1 hk1 hS => ?_)
  obtain ⟨M_pipes_7, M_refused_8, M_pipeAt_9, M_chance_10⟩ := u
  try dsimp only at h
  have hP_M : va_P D vwCl (bX5 cI cJ cC a_M M_pipes_7 v_M.2.1 v_M.2.2.1 v_M.2.2.2.1 v_M.2.2.2.2.1 v_M.2.2.2.2.2.1 v_M.2.2.2.2.2.2.1 v_M.2.2.2.2.2.2.2.1 v_M.2.2.2.2.2.2.2.2.1 v_M.2.2.2.2.2.2.2.2.2.1 v_M.2.2.2.2.2.2.2.2.2.2.1 M_refused_8 v_M.2.2.2.2.2.2.2.2.2.2.2.2.1 v_M.2.2.2.2.2.2.2.2.2.2.2.2.2.1 M_pipeAt_9 M_chance_10 v_M.2.2.2.2.2.2.2.2.2.2.2.2.2.2.2.2.1 v_M.2.2.2.2.2.2.2.2.2.2.2.2.2.2.2.2.2.1 v_M.2.2.2.2.2.2.2.2.2.2.2.2.2.2.2.2.2.2.1 v_M.2.2.2.2.2.2.2.2.2.2.2.2.2.2.2.2.2.2.2.1 v_M.2.2.2.2.2.2.2.2.2.2.2.2.2.2.2.2.2.2.2.2.1 v_M.2.2.2.2.2.2.2.2.2.2.2.2.2.2.2.2.2.2.2.2.2.1 v_M.2.2.2.2.2.2.2.2.2.2.2.2.2.2.2.2.2.2.2.2.2.2.1 v_M.2.2.2.2.2.2.2.2.2.2.2.2.2.2.2.2.2.2.2.2.2.2.2) H := hP1
  have hP_T : va_P D vwCl (bX4 cI cJ cC a_T a_n a_k a_t a_s a_r a_c v_T.1 T_refusals_2) H := zKeepB hP_T hk1 (hLC.1 0 7 (by decide) (by decide) (by decide))
  have hP_n : va_P D vwCl (bX3 cI cJ cC a_n v_n.1 v_n.2.1 v_n.2.2.1 v_n.2.2.2.1 v_n.2.2.2.2.1 n_pipes_3 v_n.2.2.2.2.2.2.1 v_n.2.2.2.2.2.2.2.1 v_n.2.2.2.2.2.2.2.2.1 n_pipeInches_4 n_pipeChances_5 v_n.2.2.2.2.2.2.2.2.2.2.2.1 v_n.2.2.2.2.2.2.2.2.2.2.2.2.1 v_n.2.2.2.2.2.2.2.2.2.2.2.2.2) H := zKeepB hP_n hk1 (hLC.1 1 7 (by decide) (by decide) (by decide))
  have hP_k : va_P D vwCl (pX3 cI cJ cC a_k v_k) H := zKeepB hP_k hk1 (hLC.1 2 7 (by decide) (by decide) (by decide))
  have hP_t : va_P D vwCl (pX3 cI cJ cC a_t v_t) H := zKeepB hP_t hk1 (hLC.1 3 7 (by decide) (by decide) (by decide))
  have hP_s : va_P D vwCl (pX2 cI cJ cC a_s v_s) H := zKeepB hP_s hk1 (hLC.1 4 7 (by decide) (by decide) (by decide))
  have hP_r : va_P D vwCl (pX0 cI cJ cC a_r v_r) H := zKeepB hP_r hk1 (hLC.1 5 7 (by decide) (by decide) (by decide))
  have hP_c : va_P D vwCl (pX1 cI cJ cC a_c v_c) H := zKeepB hP_c hk1 (hLC.1 6 7 (by decide) (by decide) (by decide))
  refine lv_icmp_eq (tgt := 1171) hx hb dL_law_463 (by decide) (fun z => ?_) (fun z => absurd h.1 z)
  exact hnext _ _ _ ⟨(v_T.1, T_refusals_2), (v_n.1, v_n.2.1, v_n.2.2.1, v_n.2.2.2.1, v_n.2.2.2.2.1, n_pipes_3, v_n.2.2.2.2.2.2.1, v_n.2.2.2.2.2.2.2.1, v_n.2.2.2.2.2.2.2.2.1, n_pipeInches_4, n_pipeChances_5, v_n.2.2.2.2.2.2.2.2.2.2.2.1, v_n.2.2.2.2.2.2.2.2.2.2.2.2.1, v_n.2.2.2.2.2.2.2.2.2.2.2.2.2), v_k, v_t, v_s, v_r, v_c, (M_pipes_7, v_M.2.1, v_M.2.2.1, v_M.2.2.2.1, v_M.2.2.2.2.1, v_M.2.2.2.2.2.1, v_M.2.2.2.2.2.2.1, v_M.2.2.2.2.2.2.2.1, v_M.2.2.2.2.2.2.2.2.1, v_M.2.2.2.2.2.2.2.2.2.1, v_M.2.2.2.2.2.2.2.2.2.2.1, M_refused_8, v_M.2.2.2.2.2.2.2.2.2.2.2.2.1, v_M.2.2.2.2.2.2.2.2.2.2.2.2.2.1, M_pipeAt_9, M_chance_10, v_M.2.2.2.2.2.2.2.2.2.2.2.2.2.2.2.2.1, v_M.2.2.2.2.2.2.2.2.2.2.2.2.2.2.2.2.2.1, v_M.2.2.2.2.2.2.2.2.2.2.2.2.2.2.2.2.2.2.1, v_M.2.2.2.2.2.2.2.2.2.2.2.2.2.2.2.2.2.2.2.1, v_M.2.2.2.2.2.2.2.2.2.2.2.2.2.2.2.2.2.2.2.2.1, v_M.2.2.2.2.2.2.2.2.2.2.2.2.2.2.2.2.2.2.2.2.2.1, v_M.2.2.2.2.2.2.2.2.2.2.2.2.2.2.2.2.2.2.2.2.2.2.1, v_M.2.2.2.2.2.2.2.2.2.2.2.2.2.2.2.2.2.2.2.2.2.2.2), h.2, hP_T, hP_n, hP_k, hP_t, hP_s, hP_r, hP_c, hP_M⟩ hS hl
def PH_risk (RL : RT) : Prop := ∀ (v_T : PX4) (v_n : PX3) (v_k : PX3) (v_t : PX3) (v_s : PX2) (v_r : PX0) (v_c : PX1) (v_M : PX5) (p0 : Int32), RL v_T v_n v_k v_s v_r v_M → wpX4_risk (fun (r_1 : Int32) (T_refusals_2 : Nat → Int32) => wpX5_risk (fun (r_3 : Int32) (M_refused_4 : Nat → Int32) => r_1 = r_3 ∧ RL (v_T.1, T_refusals_2) v_n v_k v_s v_r (v_M.1, v_M.2.1, v_M.2.2.1, v_M.2.2.2.1, v_M.2.2.2.2.1, v_M.2.2.2.2.2.1, v_M.2.2.2.2.2.2.1, v_M.2.2.2.2.2.2.2.1, v_M.2.2.2.2.2.2.2.2.1, v_M.2.2.2.2.2.2.2.2.2.1, v_M.2.2.2.2.2.2.2.2.2.2.1, M_refused_4, v_M.2.2.2.2.2.2.2.2.2.2.2.2.1, v_M.2.2.2.2.2.2.2.2.2.2.2.2.2.1, v_M.2.2.2.2.2.2.2.2.2.2.2.2.2.2.1, v_M.2.2.2.2.2.2.2.2.2.2.2.2.2.2.2.1, v_M.2.2.2.2.2.2.2.2.2.2.2.2.2.2.2.2.1, v_M.2.2.2.2.2.2.2.2.2.2.2.2.2.2.2.2.2.1, v_M.2.2.2.2.2.2.2.2.2.2.2.2.2.2.2.2.2.2.1, v_M.2.2.2.2.2.2.2.2.2.2.2.2.2.2.2.2.2.2.2.1, v_M.2.2.2.2.2.2.2.2.2.2.2.2.2.2.2.2.2.2.2.2.1, v_M.2.2.2.2.2.2.2.2.2.2.2.2.2.2.2.2.2.2.2.2.2.1, v_M.2.2.2.2.2.2.2.2.2.2.2.2.2.2.2.2.2.2.2.2.2.2.1, v_M.2.2.2.2.2.2.2.2.2.2.2.2.2.2.2.2.2.2.2.2.2.2.2)) v_M.1 v_M.2.2.2.2.2.2.2.2.2.2.2.1 v_M.2.2.2.2.2.2.2.2.2.2.2.2.2.2.1 v_M.2.2.2.2.2.2.2.2.2.2.2.2.2.2.2.1 p0) v_T.2 v_n.2.2.2.2.2.1 v_n.2.2.2.2.2.2.2.2.2.1 v_n.2.2.2.2.2.2.2.2.2.2.1 p0
set_option maxHeartbeats 4000000 in
set_option maxRecDepth 100000 in
theorem lawC_risk {p : Program} {l : Launch} {e : Env} {s : State} {m : MethodId} {below : List Frame} {meth : Method} {c : Code} {Q : State → Prop} {b L : Nat} {xs : Nat → Int32} {D : va_G} {cI cJ cC : ClassId} {G : Nat → Nat → Nat} {a_T a_n a_k a_t a_s a_r a_c a_M : Nat → Nat} (RL : RT) (hp : PH_risk RL) (S : CallFix p m c code 4 s #[Value.ref b] bg R_law) (hX : va_X b L xs s s.heap) (hbl : b < s.heap.size) (hK : va_K D vwCl (tz cI cJ cC) s) (hLC : LC a_T a_n a_k a_t a_s a_r a_c a_M (fun q : Nat => s.heap.size ≤ q)) (hE : EV G (fun q : Nat => s.heap.size ≤ q) s) {i : Nat} {x3 : Int32} (hi : ∀ k : Nat, k < 4 → vp_in (x3 + Int32.ofNat k) L) (hv : ∀ k : Nat, k < 4 → xs (x3 + Int32.ofNat k).toNatClampNeg = xs (i + k)) {H : Heap} {locs : List Loc} {ls : Array Slot} (hJ : JW RL D cI cJ cC a_T a_n a_k a_t a_s a_r a_c a_M H) (hS : va_S (fun q : Nat => s.heap.size ≤ q) s.heap H locs) (hl : lv_has ls 4 [(0, .ref b), (1, .ref (a_T 0)), (2, .ref (a_M 0)), (3, .int x3)])
    (hnext : ∀ (H : Heap) (locs : List Loc) (ls : Array Slot), JW RL D cI cJ cC a_T a_n a_k a_t a_s a_r a_c a_M H → va_S (fun q : Nat => s.heap.size ≤ q) s.heap H locs → lv_has ls 4 [(0, .ref b), (1, .ref (a_T 0)), (2, .ref (a_M 0)), (3, .int x3)] → W p l e room_1 s m #[Value.ref b] below meth c H locs 41 1350 Q (F0 m 1171 ls [])) : W p l e room_1 s m #[Value.ref b] below meth c H locs 41 1350 Q (F0 m 468 ls []) := by
  obtain ⟨hx, hb, hml, hown, ht⟩ := id S
  have hA : ∀ q : Nat, s.heap.size ≤ q → (fun q : Nat => s.heap.size ≤ q) q := fun _ h => h
  have hbA : ¬ (fun q : Nat => s.heap.size ≤ q) b := Nat.not_le.mpr hbl
  obtain ⟨v_T, v_n, v_k, v_t, v_s, v_r, v_c, v_M, hR, hP_T, hP_n, hP_k, hP_t, hP_s, hP_r, hP_c, hP_M⟩ := hJ
  have h := hp v_T v_n v_k v_t v_s v_r v_c v_M (xs (i + 1)) hR
  refine lv_aload_n hx hb dL_law_468 rfl (lv_at hl 1 rfl) ?_
  refine lv_aload_n hx hb dL_law_469 rfl (lv_at hl 0 rfl) ?_
  refine lv_iload_n hx hb dL_law_470 rfl (lv_at hl 3 rfl) ?_
  refine lv_iconst (v := (1 : Int32)) hx hb dL_law_471 (by decide) ?_
  refine lv_iadd hx hb dL_law_472 ?_
  refine va_sld hx hb hX hbl hbA hS (hi 1 (by decide)) dL_law_473 ?_
  refine zti (hv 1 (by decide)) ?_
  have hPw : va_P D vwCl ((pX4 cI cJ cC a_T a_n a_k a_t a_s a_r a_c v_T) ++ (pX3 cI cJ cC a_n v_n)) _ := (hP_T.app hP_n)
  have hDw : va_D (fun q : Nat => s.heap.size ≤ q) ((pX4 cI cJ cC a_T a_n a_k a_t a_s a_r a_c v_T) ++ (pX3 cI cJ cC a_n v_n)) := hLC.2.2.2.1 _ rfl
  refine zci hA hDw hS (zrunV (As := [.int (xs (i + 1))]) (rest := []) S hK hA hE hPw hDw hS (mX4_risk l D cI cJ cC G a_T a_n a_k a_t a_s a_r a_c _ v_T.1 v_T.2 v_n.1 v_n.2.1 v_n.2.2.1 v_n.2.2.2.1 v_n.2.2.2.2.1 v_n.2.2.2.2.2.1 v_n.2.2.2.2.2.2.1 v_n.2.2.2.2.2.2.2.1 v_n.2.2.2.2.2.2.2.2.1 v_n.2.2.2.2.2.2.2.2.2.1 v_n.2.2.2.2.2.2.2.2.2.2.1 v_n.2.2.2.2.2.2.2.2.2.2.2.1 v_n.2.2.2.2.2.2.2.2.2.2.2.2.1 v_n.2.2.2.2.2.2.2.2.2.2.2.2.2 (xs (i + 1)) _ h) kX4_risk ml_L_54 ⟨rfl, rfl, by decide, by decide⟩ (q0 := 0) (ci := 4) rfl rfl rfl rfl hl.1 rfl (Nat.le_of_ble_eq_true rfl) dL_law_474 ⟨by decide, by decide⟩) (fun r_1 T_refusals_2 H locs h hP1 hk1 hS => ?_)
  try dsimp only at h
  have hP_n : va_P D vwCl (pX3 cI cJ cC a_n v_n) H := zPr hP1
  have hP_T : va_P D vwCl (bX4 cI cJ cC a_T a_n a_k a_t a_s a_r a_c v_T.1 T_refusals_2) H := zPl (hP1)
  have hP_k : va_P D vwCl (pX3 cI cJ cC a_k v_k) H := zKeepB hP_k hk1 (dj_app (hLC.1 2 0 (by decide) (by decide) (by decide)) (hLC.1 2 1 (by decide) (by decide) (by decide)))
  have hP_t : va_P D vwCl (pX3 cI cJ cC a_t v_t) H := zKeepB hP_t hk1 (dj_app (hLC.1 3 0 (by decide) (by decide) (by decide)) (hLC.1 3 1 (by decide) (by decide) (by decide)))
  have hP_s : va_P D vwCl (pX2 cI cJ cC a_s v_s) H := zKeepB hP_s hk1 (dj_app (hLC.1 4 0 (by decide) (by decide) (by decide)) (hLC.1 4 1 (by decide) (by decide) (by decide)))
  have hP_r : va_P D vwCl (pX0 cI cJ cC a_r v_r) H := zKeepB hP_r hk1 (dj_app (hLC.1 5 0 (by decide) (by decide) (by decide)) (hLC.1 5 1 (by decide) (by decide) (by decide)))
  have hP_c : va_P D vwCl (pX1 cI cJ cC a_c v_c) H := zKeepB hP_c hk1 (dj_app (hLC.1 6 0 (by decide) (by decide) (by decide)) (hLC.1 6 1 (by decide) (by decide) (by decide)))
  have hP_M : va_P D vwCl (pX5 cI cJ cC a_M v_M) H := zKeepB hP_M hk1 (dj_app (hLC.1 7 0 (by decide) (by decide) (by decide)) (hLC.1 7 1 (by decide) (by decide) (by decide)))
  refine lv_aload_n hx hb dL_law_477 rfl (lv_at hl 2 rfl) ?_
  refine lv_aload_n hx hb dL_law_478 rfl (lv_at hl 0 rfl) ?_
  refine lv_iload_n hx hb dL_law_479 rfl (lv_at hl 3 rfl) ?_
  refine lv_iconst (v := (1 : Int32)) hx hb dL_law_480 (by decide) ?_
  refine lv_iadd hx hb dL_law_481 ?_
  refine va_sld hx hb hX hbl hbA hS (hi 1 (by decide)) dL_law_482 ?_
  refine zti (hv 1 (by decide)) ?_
  have hPw : va_P D vwCl ((pX5 cI cJ cC a_M v_M)) _ := hP_M
  have hDw : va_D (fun q : Nat => s.heap.size ≤ q) ((pX5 cI cJ cC a_M v_M)) := hLC.2.2.2.2.2.2.2.2.2.2.2 _ rfl
  refine zci hA hDw hS (zrunV (As := [.int (xs (i + 1))]) (rest := [.int r_1]) S hK hA hE hPw hDw hS (mX5_risk l D cI cJ cC G a_M _ v_M.1 v_M.2.1 v_M.2.2.1 v_M.2.2.2.1 v_M.2.2.2.2.1 v_M.2.2.2.2.2.1 v_M.2.2.2.2.2.2.1 v_M.2.2.2.2.2.2.2.1 v_M.2.2.2.2.2.2.2.2.1 v_M.2.2.2.2.2.2.2.2.2.1 v_M.2.2.2.2.2.2.2.2.2.2.1 v_M.2.2.2.2.2.2.2.2.2.2.2.1 v_M.2.2.2.2.2.2.2.2.2.2.2.2.1 v_M.2.2.2.2.2.2.2.2.2.2.2.2.2.1 v_M.2.2.2.2.2.2.2.2.2.2.2.2.2.2.1 v_M.2.2.2.2.2.2.2.2.2.2.2.2.2.2.2.1 v_M.2.2.2.2.2.2.2.2.2.2.2.2.2.2.2.2.1 v_M.2.2.2.2.2.2.2.2.2.2.2.2.2.2.2.2.2.1 v_M.2.2.2.2.2.2.2.2.2.2.2.2.2.2.2.2.2.2.1 v_M.2.2.2.2.2.2.2.2.2.2.2.2.2.2.2.2.2.2.2.1 v_M.2.2.2.2.2.2.2.2.2.2.2.2.2.2.2.2.2.2.2.2.1 v_M.2.2.2.2.2.2.2.2.2.2.2.2.2.2.2.2.2.2.2.2.2.1 v_M.2.2.2.2.2.2.2.2.2.2.2.2.2.2.2.2.2.2.2.2.2.2.1 v_M.2.2.2.2.2.2.2.2.2.2.2.2.2.2.2.2.2.2.2.2.2.2.2 (xs (i + 1)) _ h) kX5_risk ml_L_57 ⟨rfl, rfl, by decide, by decide⟩ (q0 := 0) (ci := 5) rfl rfl rfl rfl hl.1 rfl (Nat.le_of_ble_eq_true rfl) dL_law_483 ⟨by decide, by decide⟩) (fun r_3 M_refused_4 H locs h hP1 hk1 hS => ?_)
  try dsimp only at h
  have hP_M : va_P D vwCl (bX5 cI cJ cC a_M v_M.1 v_M.2.1 v_M.2.2.1 v_M.2.2.2.1 v_M.2.2.2.2.1 v_M.2.2.2.2.2.1 v_M.2.2.2.2.2.2.1 v_M.2.2.2.2.2.2.2.1 v_M.2.2.2.2.2.2.2.2.1 v_M.2.2.2.2.2.2.2.2.2.1 v_M.2.2.2.2.2.2.2.2.2.2.1 M_refused_4 v_M.2.2.2.2.2.2.2.2.2.2.2.2.1 v_M.2.2.2.2.2.2.2.2.2.2.2.2.2.1 v_M.2.2.2.2.2.2.2.2.2.2.2.2.2.2.1 v_M.2.2.2.2.2.2.2.2.2.2.2.2.2.2.2.1 v_M.2.2.2.2.2.2.2.2.2.2.2.2.2.2.2.2.1 v_M.2.2.2.2.2.2.2.2.2.2.2.2.2.2.2.2.2.1 v_M.2.2.2.2.2.2.2.2.2.2.2.2.2.2.2.2.2.2.1 v_M.2.2.2.2.2.2.2.2.2.2.2.2.2.2.2.2.2.2.2.1 v_M.2.2.2.2.2.2.2.2.2.2.2.2.2.2.2.2.2.2.2.2.1 v_M.2.2.2.2.2.2.2.2.2.2.2.2.2.2.2.2.2.2.2.2.2.1 v_M.2.2.2.2.2.2.2.2.2.2.2.2.2.2.2.2.2.2.2.2.2.2.1 v_M.2.2.2.2.2.2.2.2.2.2.2.2.2.2.2.2.2.2.2.2.2.2.2) H := hP1
  have hP_T : va_P D vwCl (bX4 cI cJ cC a_T a_n a_k a_t a_s a_r a_c v_T.1 T_refusals_2) H := zKeepB hP_T hk1 (hLC.1 0 7 (by decide) (by decide) (by decide))
  have hP_n : va_P D vwCl (pX3 cI cJ cC a_n v_n) H := zKeepB hP_n hk1 (hLC.1 1 7 (by decide) (by decide) (by decide))
  have hP_k : va_P D vwCl (pX3 cI cJ cC a_k v_k) H := zKeepB hP_k hk1 (hLC.1 2 7 (by decide) (by decide) (by decide))
  have hP_t : va_P D vwCl (pX3 cI cJ cC a_t v_t) H := zKeepB hP_t hk1 (hLC.1 3 7 (by decide) (by decide) (by decide))
  have hP_s : va_P D vwCl (pX2 cI cJ cC a_s v_s) H := zKeepB hP_s hk1 (hLC.1 4 7 (by decide) (by decide) (by decide))
  have hP_r : va_P D vwCl (pX0 cI cJ cC a_r v_r) H := zKeepB hP_r hk1 (hLC.1 5 7 (by decide) (by decide) (by decide))
  have hP_c : va_P D vwCl (pX1 cI cJ cC a_c v_c) H := zKeepB hP_c hk1 (hLC.1 6 7 (by decide) (by decide) (by decide))
  refine lv_icmp_eq (tgt := 1171) hx hb dL_law_486 (by decide) (fun z => ?_) (fun z => absurd h.1 z)
  exact hnext _ _ _ ⟨(v_T.1, T_refusals_2), v_n, v_k, v_t, v_s, v_r, v_c, (v_M.1, v_M.2.1, v_M.2.2.1, v_M.2.2.2.1, v_M.2.2.2.2.1, v_M.2.2.2.2.2.1, v_M.2.2.2.2.2.2.1, v_M.2.2.2.2.2.2.2.1, v_M.2.2.2.2.2.2.2.2.1, v_M.2.2.2.2.2.2.2.2.2.1, v_M.2.2.2.2.2.2.2.2.2.2.1, M_refused_4, v_M.2.2.2.2.2.2.2.2.2.2.2.2.1, v_M.2.2.2.2.2.2.2.2.2.2.2.2.2.1, v_M.2.2.2.2.2.2.2.2.2.2.2.2.2.2.1, v_M.2.2.2.2.2.2.2.2.2.2.2.2.2.2.2.1, v_M.2.2.2.2.2.2.2.2.2.2.2.2.2.2.2.2.1, v_M.2.2.2.2.2.2.2.2.2.2.2.2.2.2.2.2.2.1, v_M.2.2.2.2.2.2.2.2.2.2.2.2.2.2.2.2.2.2.1, v_M.2.2.2.2.2.2.2.2.2.2.2.2.2.2.2.2.2.2.2.1, v_M.2.2.2.2.2.2.2.2.2.2.2.2.2.2.2.2.2.2.2.2.1, v_M.2.2.2.2.2.2.2.2.2.2.2.2.2.2.2.2.2.2.2.2.2.1, v_M.2.2.2.2.2.2.2.2.2.2.2.2.2.2.2.2.2.2.2.2.2.2.1, v_M.2.2.2.2.2.2.2.2.2.2.2.2.2.2.2.2.2.2.2.2.2.2.2), h.2, hP_T, hP_n, hP_k, hP_t, hP_s, hP_r, hP_c, hP_M⟩ hS hl
def PH_hole (RL : RT) : Prop := ∀ (v_T : PX4) (v_n : PX3) (v_k : PX3) (v_t : PX3) (v_s : PX2) (v_r : PX0) (v_c : PX1) (v_M : PX5) (p0 : Int32), RL v_T v_n v_k v_s v_r v_M → wpX4_hole (fun (r_1 : Int32) (T_refusals_2 : Nat → Int32) => wpX5_hole (fun (r_3 : Int32) (M_refused_4 : Nat → Int32) => r_1 = r_3 ∧ RL (v_T.1, T_refusals_2) v_n v_k v_s v_r (v_M.1, v_M.2.1, v_M.2.2.1, v_M.2.2.2.1, v_M.2.2.2.2.1, v_M.2.2.2.2.2.1, v_M.2.2.2.2.2.2.1, v_M.2.2.2.2.2.2.2.1, v_M.2.2.2.2.2.2.2.2.1, v_M.2.2.2.2.2.2.2.2.2.1, v_M.2.2.2.2.2.2.2.2.2.2.1, M_refused_4, v_M.2.2.2.2.2.2.2.2.2.2.2.2.1, v_M.2.2.2.2.2.2.2.2.2.2.2.2.2.1, v_M.2.2.2.2.2.2.2.2.2.2.2.2.2.2.1, v_M.2.2.2.2.2.2.2.2.2.2.2.2.2.2.2.1, v_M.2.2.2.2.2.2.2.2.2.2.2.2.2.2.2.2.1, v_M.2.2.2.2.2.2.2.2.2.2.2.2.2.2.2.2.2.1, v_M.2.2.2.2.2.2.2.2.2.2.2.2.2.2.2.2.2.2.1, v_M.2.2.2.2.2.2.2.2.2.2.2.2.2.2.2.2.2.2.2.1, v_M.2.2.2.2.2.2.2.2.2.2.2.2.2.2.2.2.2.2.2.2.1, v_M.2.2.2.2.2.2.2.2.2.2.2.2.2.2.2.2.2.2.2.2.2.1, v_M.2.2.2.2.2.2.2.2.2.2.2.2.2.2.2.2.2.2.2.2.2.2.1, v_M.2.2.2.2.2.2.2.2.2.2.2.2.2.2.2.2.2.2.2.2.2.2.2)) v_M.2.2.2.2.2.2.2.2.2.2.2.1 v_M.2.2.2.2.2.2.2.2.2.2.2.2.2.1 p0) v_T.2 v_n.2.2.2.2.2.2.1 p0
set_option maxHeartbeats 4000000 in
set_option maxRecDepth 100000 in
theorem lawC_hole {p : Program} {l : Launch} {e : Env} {s : State} {m : MethodId} {below : List Frame} {meth : Method} {c : Code} {Q : State → Prop} {b L : Nat} {xs : Nat → Int32} {D : va_G} {cI cJ cC : ClassId} {G : Nat → Nat → Nat} {a_T a_n a_k a_t a_s a_r a_c a_M : Nat → Nat} (RL : RT) (hp : PH_hole RL) (S : CallFix p m c code 4 s #[Value.ref b] bg R_law) (hX : va_X b L xs s s.heap) (hbl : b < s.heap.size) (hK : va_K D vwCl (tz cI cJ cC) s) (hLC : LC a_T a_n a_k a_t a_s a_r a_c a_M (fun q : Nat => s.heap.size ≤ q)) (hE : EV G (fun q : Nat => s.heap.size ≤ q) s) {i : Nat} {x3 : Int32} (hi : ∀ k : Nat, k < 4 → vp_in (x3 + Int32.ofNat k) L) (hv : ∀ k : Nat, k < 4 → xs (x3 + Int32.ofNat k).toNatClampNeg = xs (i + k)) {H : Heap} {locs : List Loc} {ls : Array Slot} (hJ : JW RL D cI cJ cC a_T a_n a_k a_t a_s a_r a_c a_M H) (hS : va_S (fun q : Nat => s.heap.size ≤ q) s.heap H locs) (hl : lv_has ls 4 [(0, .ref b), (1, .ref (a_T 0)), (2, .ref (a_M 0)), (3, .int x3)])
    (hnext : ∀ (H : Heap) (locs : List Loc) (ls : Array Slot), JW RL D cI cJ cC a_T a_n a_k a_t a_s a_r a_c a_M H → va_S (fun q : Nat => s.heap.size ≤ q) s.heap H locs → lv_has ls 4 [(0, .ref b), (1, .ref (a_T 0)), (2, .ref (a_M 0)), (3, .int x3)] → W p l e room_1 s m #[Value.ref b] below meth c H locs 41 1350 Q (F0 m 1171 ls [])) : W p l e room_1 s m #[Value.ref b] below meth c H locs 41 1350 Q (F0 m 491 ls []) := by
  obtain ⟨hx, hb, hml, hown, ht⟩ := id S
  have hA : ∀ q : Nat, s.heap.size ≤ q → (fun q : Nat => s.heap.size ≤ q) q := fun _ h => h
  have hbA : ¬ (fun q : Nat => s.heap.size ≤ q) b := Nat.not_le.mpr hbl
  obtain ⟨v_T, v_n, v_k, v_t, v_s, v_r, v_c, v_M, hR, hP_T, hP_n, hP_k, hP_t, hP_s, hP_r, hP_c, hP_M⟩ := hJ
  have h := hp v_T v_n v_k v_t v_s v_r v_c v_M (xs (i + 1)) hR
  refine lv_aload_n hx hb dL_law_491 rfl (lv_at hl 1 rfl) ?_
  refine lv_aload_n hx hb dL_law_492 rfl (lv_at hl 0 rfl) ?_
  refine lv_iload_n hx hb dL_law_493 rfl (lv_at hl 3 rfl) ?_
  refine lv_iconst (v := (1 : Int32)) hx hb dL_law_494 (by decide) ?_
  refine lv_iadd hx hb dL_law_495 ?_
  refine va_sld hx hb hX hbl hbA hS (hi 1 (by decide)) dL_law_496 ?_
  refine zti (hv 1 (by decide)) ?_
  have hPw : va_P D vwCl ((pX4 cI cJ cC a_T a_n a_k a_t a_s a_r a_c v_T) ++ (pX3 cI cJ cC a_n v_n)) _ := (hP_T.app hP_n)
  have hDw : va_D (fun q : Nat => s.heap.size ≤ q) ((pX4 cI cJ cC a_T a_n a_k a_t a_s a_r a_c v_T) ++ (pX3 cI cJ cC a_n v_n)) := hLC.2.2.2.1 _ rfl
  refine zci hA hDw hS (zrunV (As := [.int (xs (i + 1))]) (rest := []) S hK hA hE hPw hDw hS (mX4_hole l D cI cJ cC G a_T a_n a_k a_t a_s a_r a_c _ v_T.1 v_T.2 v_n.1 v_n.2.1 v_n.2.2.1 v_n.2.2.2.1 v_n.2.2.2.2.1 v_n.2.2.2.2.2.1 v_n.2.2.2.2.2.2.1 v_n.2.2.2.2.2.2.2.1 v_n.2.2.2.2.2.2.2.2.1 v_n.2.2.2.2.2.2.2.2.2.1 v_n.2.2.2.2.2.2.2.2.2.2.1 v_n.2.2.2.2.2.2.2.2.2.2.2.1 v_n.2.2.2.2.2.2.2.2.2.2.2.2.1 v_n.2.2.2.2.2.2.2.2.2.2.2.2.2 (xs (i + 1)) _ h) kX4_hole ml_L_58 ⟨rfl, rfl, by decide, by decide⟩ (q0 := 0) (ci := 4) rfl rfl rfl rfl hl.1 rfl (Nat.le_of_ble_eq_true rfl) dL_law_497 ⟨by decide, by decide⟩) (fun r_1 T_refusals_2 H locs h hP1 hk1 hS => ?_)
  try dsimp only at h
  have hP_n : va_P D vwCl (pX3 cI cJ cC a_n v_n) H := zPr hP1
  have hP_T : va_P D vwCl (bX4 cI cJ cC a_T a_n a_k a_t a_s a_r a_c v_T.1 T_refusals_2) H := zPl (hP1)
  have hP_k : va_P D vwCl (pX3 cI cJ cC a_k v_k) H := zKeepB hP_k hk1 (dj_app (hLC.1 2 0 (by decide) (by decide) (by decide)) (hLC.1 2 1 (by decide) (by decide) (by decide)))
  have hP_t : va_P D vwCl (pX3 cI cJ cC a_t v_t) H := zKeepB hP_t hk1 (dj_app (hLC.1 3 0 (by decide) (by decide) (by decide)) (hLC.1 3 1 (by decide) (by decide) (by decide)))
  have hP_s : va_P D vwCl (pX2 cI cJ cC a_s v_s) H := zKeepB hP_s hk1 (dj_app (hLC.1 4 0 (by decide) (by decide) (by decide)) (hLC.1 4 1 (by decide) (by decide) (by decide)))
  have hP_r : va_P D vwCl (pX0 cI cJ cC a_r v_r) H := zKeepB hP_r hk1 (dj_app (hLC.1 5 0 (by decide) (by decide) (by decide)) (hLC.1 5 1 (by decide) (by decide) (by decide)))
  have hP_c : va_P D vwCl (pX1 cI cJ cC a_c v_c) H := zKeepB hP_c hk1 (dj_app (hLC.1 6 0 (by decide) (by decide) (by decide)) (hLC.1 6 1 (by decide) (by decide) (by decide)))
  have hP_M : va_P D vwCl (pX5 cI cJ cC a_M v_M) H := zKeepB hP_M hk1 (dj_app (hLC.1 7 0 (by decide) (by decide) (by decide)) (hLC.1 7 1 (by decide) (by decide) (by decide)))
  refine lv_aload_n hx hb dL_law_500 rfl (lv_at hl 2 rfl) ?_
  refine lv_aload_n hx hb dL_law_501 rfl (lv_at hl 0 rfl) ?_
  refine lv_iload_n hx hb dL_law_502 rfl (lv_at hl 3 rfl) ?_
  refine lv_iconst (v := (1 : Int32)) hx hb dL_law_503 (by decide) ?_
  refine lv_iadd hx hb dL_law_504 ?_
  refine va_sld hx hb hX hbl hbA hS (hi 1 (by decide)) dL_law_505 ?_
  refine zti (hv 1 (by decide)) ?_
  have hPw : va_P D vwCl ((pX5 cI cJ cC a_M v_M)) _ := hP_M
  have hDw : va_D (fun q : Nat => s.heap.size ≤ q) ((pX5 cI cJ cC a_M v_M)) := hLC.2.2.2.2.2.2.2.2.2.2.2 _ rfl
  refine zci hA hDw hS (zrunV (As := [.int (xs (i + 1))]) (rest := [.int r_1]) S hK hA hE hPw hDw hS (mX5_hole l D cI cJ cC G a_M _ v_M.1 v_M.2.1 v_M.2.2.1 v_M.2.2.2.1 v_M.2.2.2.2.1 v_M.2.2.2.2.2.1 v_M.2.2.2.2.2.2.1 v_M.2.2.2.2.2.2.2.1 v_M.2.2.2.2.2.2.2.2.1 v_M.2.2.2.2.2.2.2.2.2.1 v_M.2.2.2.2.2.2.2.2.2.2.1 v_M.2.2.2.2.2.2.2.2.2.2.2.1 v_M.2.2.2.2.2.2.2.2.2.2.2.2.1 v_M.2.2.2.2.2.2.2.2.2.2.2.2.2.1 v_M.2.2.2.2.2.2.2.2.2.2.2.2.2.2.1 v_M.2.2.2.2.2.2.2.2.2.2.2.2.2.2.2.1 v_M.2.2.2.2.2.2.2.2.2.2.2.2.2.2.2.2.1 v_M.2.2.2.2.2.2.2.2.2.2.2.2.2.2.2.2.2.1 v_M.2.2.2.2.2.2.2.2.2.2.2.2.2.2.2.2.2.2.1 v_M.2.2.2.2.2.2.2.2.2.2.2.2.2.2.2.2.2.2.2.1 v_M.2.2.2.2.2.2.2.2.2.2.2.2.2.2.2.2.2.2.2.2.1 v_M.2.2.2.2.2.2.2.2.2.2.2.2.2.2.2.2.2.2.2.2.2.1 v_M.2.2.2.2.2.2.2.2.2.2.2.2.2.2.2.2.2.2.2.2.2.2.1 v_M.2.2.2.2.2.2.2.2.2.2.2.2.2.2.2.2.2.2.2.2.2.2.2 (xs (i + 1)) _ h) kX5_hole ml_L_61 ⟨rfl, rfl, by decide, by decide⟩ (q0 := 0) (ci := 5) rfl rfl rfl rfl hl.1 rfl (Nat.le_of_ble_eq_true rfl) dL_law_506 ⟨by decide, by decide⟩) (fun r_3 M_refused_4 H locs h hP1 hk1 hS => ?_)
  try dsimp only at h
  have hP_M : va_P D vwCl (bX5 cI cJ cC a_M v_M.1 v_M.2.1 v_M.2.2.1 v_M.2.2.2.1 v_M.2.2.2.2.1 v_M.2.2.2.2.2.1 v_M.2.2.2.2.2.2.1 v_M.2.2.2.2.2.2.2.1 v_M.2.2.2.2.2.2.2.2.1 v_M.2.2.2.2.2.2.2.2.2.1 v_M.2.2.2.2.2.2.2.2.2.2.1 M_refused_4 v_M.2.2.2.2.2.2.2.2.2.2.2.2.1 v_M.2.2.2.2.2.2.2.2.2.2.2.2.2.1 v_M.2.2.2.2.2.2.2.2.2.2.2.2.2.2.1 v_M.2.2.2.2.2.2.2.2.2.2.2.2.2.2.2.1 v_M.2.2.2.2.2.2.2.2.2.2.2.2.2.2.2.2.1 v_M.2.2.2.2.2.2.2.2.2.2.2.2.2.2.2.2.2.1 v_M.2.2.2.2.2.2.2.2.2.2.2.2.2.2.2.2.2.2.1 v_M.2.2.2.2.2.2.2.2.2.2.2.2.2.2.2.2.2.2.2.1 v_M.2.2.2.2.2.2.2.2.2.2.2.2.2.2.2.2.2.2.2.2.1 v_M.2.2.2.2.2.2.2.2.2.2.2.2.2.2.2.2.2.2.2.2.2.1 v_M.2.2.2.2.2.2.2.2.2.2.2.2.2.2.2.2.2.2.2.2.2.2.1 v_M.2.2.2.2.2.2.2.2.2.2.2.2.2.2.2.2.2.2.2.2.2.2.2) H := hP1
  have hP_T : va_P D vwCl (bX4 cI cJ cC a_T a_n a_k a_t a_s a_r a_c v_T.1 T_refusals_2) H := zKeepB hP_T hk1 (hLC.1 0 7 (by decide) (by decide) (by decide))
  have hP_n : va_P D vwCl (pX3 cI cJ cC a_n v_n) H := zKeepB hP_n hk1 (hLC.1 1 7 (by decide) (by decide) (by decide))
  have hP_k : va_P D vwCl (pX3 cI cJ cC a_k v_k) H := zKeepB hP_k hk1 (hLC.1 2 7 (by decide) (by decide) (by decide))
  have hP_t : va_P D vwCl (pX3 cI cJ cC a_t v_t) H := zKeepB hP_t hk1 (hLC.1 3 7 (by decide) (by decide) (by decide))
  have hP_s : va_P D vwCl (pX2 cI cJ cC a_s v_s) H := zKeepB hP_s hk1 (hLC.1 4 7 (by decide) (by decide) (by decide))
  have hP_r : va_P D vwCl (pX0 cI cJ cC a_r v_r) H := zKeepB hP_r hk1 (hLC.1 5 7 (by decide) (by decide) (by decide))
  have hP_c : va_P D vwCl (pX1 cI cJ cC a_c v_c) H := zKeepB hP_c hk1 (hLC.1 6 7 (by decide) (by decide) (by decide))
  refine lv_icmp_eq (tgt := 1171) hx hb dL_law_509 (by decide) (fun z => ?_) (fun z => absurd h.1 z)
  exact hnext _ _ _ ⟨(v_T.1, T_refusals_2), v_n, v_k, v_t, v_s, v_r, v_c, (v_M.1, v_M.2.1, v_M.2.2.1, v_M.2.2.2.1, v_M.2.2.2.2.1, v_M.2.2.2.2.2.1, v_M.2.2.2.2.2.2.1, v_M.2.2.2.2.2.2.2.1, v_M.2.2.2.2.2.2.2.2.1, v_M.2.2.2.2.2.2.2.2.2.1, v_M.2.2.2.2.2.2.2.2.2.2.1, M_refused_4, v_M.2.2.2.2.2.2.2.2.2.2.2.2.1, v_M.2.2.2.2.2.2.2.2.2.2.2.2.2.1, v_M.2.2.2.2.2.2.2.2.2.2.2.2.2.2.1, v_M.2.2.2.2.2.2.2.2.2.2.2.2.2.2.2.1, v_M.2.2.2.2.2.2.2.2.2.2.2.2.2.2.2.2.1, v_M.2.2.2.2.2.2.2.2.2.2.2.2.2.2.2.2.2.1, v_M.2.2.2.2.2.2.2.2.2.2.2.2.2.2.2.2.2.2.1, v_M.2.2.2.2.2.2.2.2.2.2.2.2.2.2.2.2.2.2.2.1, v_M.2.2.2.2.2.2.2.2.2.2.2.2.2.2.2.2.2.2.2.2.1, v_M.2.2.2.2.2.2.2.2.2.2.2.2.2.2.2.2.2.2.2.2.2.1, v_M.2.2.2.2.2.2.2.2.2.2.2.2.2.2.2.2.2.2.2.2.2.2.1, v_M.2.2.2.2.2.2.2.2.2.2.2.2.2.2.2.2.2.2.2.2.2.2.2), h.2, hP_T, hP_n, hP_k, hP_t, hP_s, hP_r, hP_c, hP_M⟩ hS hl
def PH_fill (RL : RT) : Prop := ∀ (v_T : PX4) (v_n : PX3) (v_k : PX3) (v_t : PX3) (v_s : PX2) (v_r : PX0) (v_c : PX1) (v_M : PX5), RL v_T v_n v_k v_s v_r v_M → wpX4_fill (fun (r_1 : Int32) (n_drilled_2 : Int64) => wpX5_fill (fun (r_3 : Int32) (M_hole_4 : Nat → Int32) => r_1 = r_3 ∧ RL v_T (v_n.1, v_n.2.1, v_n.2.2.1, v_n.2.2.2.1, v_n.2.2.2.2.1, v_n.2.2.2.2.2.1, n_drilled_2, v_n.2.2.2.2.2.2.2.1, v_n.2.2.2.2.2.2.2.2.1, v_n.2.2.2.2.2.2.2.2.2.1, v_n.2.2.2.2.2.2.2.2.2.2.1, v_n.2.2.2.2.2.2.2.2.2.2.2.1, v_n.2.2.2.2.2.2.2.2.2.2.2.2.1, v_n.2.2.2.2.2.2.2.2.2.2.2.2.2) v_k v_s v_r (v_M.1, v_M.2.1, v_M.2.2.1, v_M.2.2.2.1, v_M.2.2.2.2.1, v_M.2.2.2.2.2.1, v_M.2.2.2.2.2.2.1, v_M.2.2.2.2.2.2.2.1, v_M.2.2.2.2.2.2.2.2.1, v_M.2.2.2.2.2.2.2.2.2.1, v_M.2.2.2.2.2.2.2.2.2.2.1, v_M.2.2.2.2.2.2.2.2.2.2.2.1, v_M.2.2.2.2.2.2.2.2.2.2.2.2.1, M_hole_4, v_M.2.2.2.2.2.2.2.2.2.2.2.2.2.2.1, v_M.2.2.2.2.2.2.2.2.2.2.2.2.2.2.2.1, v_M.2.2.2.2.2.2.2.2.2.2.2.2.2.2.2.2.1, v_M.2.2.2.2.2.2.2.2.2.2.2.2.2.2.2.2.2.1, v_M.2.2.2.2.2.2.2.2.2.2.2.2.2.2.2.2.2.2.1, v_M.2.2.2.2.2.2.2.2.2.2.2.2.2.2.2.2.2.2.2.1, v_M.2.2.2.2.2.2.2.2.2.2.2.2.2.2.2.2.2.2.2.2.1, v_M.2.2.2.2.2.2.2.2.2.2.2.2.2.2.2.2.2.2.2.2.2.1, v_M.2.2.2.2.2.2.2.2.2.2.2.2.2.2.2.2.2.2.2.2.2.2.1, v_M.2.2.2.2.2.2.2.2.2.2.2.2.2.2.2.2.2.2.2.2.2.2.2)) v_M.2.2.2.2.2.2.2.2.2.2.2.2.2.1) v_n.2.2.2.2.2.2.1
set_option maxHeartbeats 4000000 in
set_option maxRecDepth 100000 in
theorem lawC_fill {p : Program} {l : Launch} {e : Env} {s : State} {m : MethodId} {below : List Frame} {meth : Method} {c : Code} {Q : State → Prop} {b L : Nat} {xs : Nat → Int32} {D : va_G} {cI cJ cC : ClassId} {G : Nat → Nat → Nat} {a_T a_n a_k a_t a_s a_r a_c a_M : Nat → Nat} (RL : RT) (hp : PH_fill RL) (S : CallFix p m c code 4 s #[Value.ref b] bg R_law) (hX : va_X b L xs s s.heap) (hbl : b < s.heap.size) (hK : va_K D vwCl (tz cI cJ cC) s) (hLC : LC a_T a_n a_k a_t a_s a_r a_c a_M (fun q : Nat => s.heap.size ≤ q)) (hE : EV G (fun q : Nat => s.heap.size ≤ q) s) {i : Nat} {x3 : Int32} (hi : ∀ k : Nat, k < 4 → vp_in (x3 + Int32.ofNat k) L) (hv : ∀ k : Nat, k < 4 → xs (x3 + Int32.ofNat k).toNatClampNeg = xs (i + k)) {H : Heap} {locs : List Loc} {ls : Array Slot} (hJ : JW RL D cI cJ cC a_T a_n a_k a_t a_s a_r a_c a_M H) (hS : va_S (fun q : Nat => s.heap.size ≤ q) s.heap H locs) (hl : lv_has ls 4 [(0, .ref b), (1, .ref (a_T 0)), (2, .ref (a_M 0)), (3, .int x3)])
    (hnext : ∀ (H : Heap) (locs : List Loc) (ls : Array Slot), JW RL D cI cJ cC a_T a_n a_k a_t a_s a_r a_c a_M H → va_S (fun q : Nat => s.heap.size ≤ q) s.heap H locs → lv_has ls 4 [(0, .ref b), (1, .ref (a_T 0)), (2, .ref (a_M 0)), (3, .int x3)] → W p l e room_1 s m #[Value.ref b] below meth c H locs 41 1350 Q (F0 m 1171 ls [])) : W p l e room_1 s m #[Value.ref b] below meth c H locs 41 1350 Q (F0 m 514 ls []) := by
  obtain ⟨hx, hb, hml, hown, ht⟩ := id S
  have hA : ∀ q : Nat, s.heap.size ≤ q → (fun q : Nat => s.heap.size ≤ q) q := fun _ h => h
  have hbA : ¬ (fun q : Nat => s.heap.size ≤ q) b := Nat.not_le.mpr hbl
  obtain ⟨v_T, v_n, v_k, v_t, v_s, v_r, v_c, v_M, hR, hP_T, hP_n, hP_k, hP_t, hP_s, hP_r, hP_c, hP_M⟩ := hJ
  have h := hp v_T v_n v_k v_t v_s v_r v_c v_M  hR
  refine lv_aload_n hx hb dL_law_514 rfl (lv_at hl 1 rfl) ?_
  have hPw : va_P D vwCl ((pX4 cI cJ cC a_T a_n a_k a_t a_s a_r a_c v_T) ++ (pX3 cI cJ cC a_n v_n)) _ := (hP_T.app hP_n)
  have hDw : va_D (fun q : Nat => s.heap.size ≤ q) ((pX4 cI cJ cC a_T a_n a_k a_t a_s a_r a_c v_T) ++ (pX3 cI cJ cC a_n v_n)) := hLC.2.2.2.1 _ rfl
  refine zci hA hDw hS (zrunV (As := []) (rest := []) S hK hA hE hPw hDw hS (mX4_fill l D cI cJ cC G a_T a_n a_k a_t a_s a_r a_c _ v_T.1 v_T.2 v_n.1 v_n.2.1 v_n.2.2.1 v_n.2.2.2.1 v_n.2.2.2.2.1 v_n.2.2.2.2.2.1 v_n.2.2.2.2.2.2.1 v_n.2.2.2.2.2.2.2.1 v_n.2.2.2.2.2.2.2.2.1 v_n.2.2.2.2.2.2.2.2.2.1 v_n.2.2.2.2.2.2.2.2.2.2.1 v_n.2.2.2.2.2.2.2.2.2.2.2.1 v_n.2.2.2.2.2.2.2.2.2.2.2.2.1 v_n.2.2.2.2.2.2.2.2.2.2.2.2.2 _ h) kX4_fill ml_L_62 ⟨rfl, rfl, by decide, by decide⟩ (q0 := 0) (ci := 4) rfl rfl rfl rfl hl.1 rfl (Nat.le_of_ble_eq_true rfl) dL_law_515 ⟨by decide, by decide⟩) (fun r_1 n_drilled_2 H locs h hP1 hk1 hS => ?_)
  try dsimp only at h
  have hP_n : va_P D vwCl (bX3 cI cJ cC a_n v_n.1 v_n.2.1 v_n.2.2.1 v_n.2.2.2.1 v_n.2.2.2.2.1 v_n.2.2.2.2.2.1 n_drilled_2 v_n.2.2.2.2.2.2.2.1 v_n.2.2.2.2.2.2.2.2.1 v_n.2.2.2.2.2.2.2.2.2.1 v_n.2.2.2.2.2.2.2.2.2.2.1 v_n.2.2.2.2.2.2.2.2.2.2.2.1 v_n.2.2.2.2.2.2.2.2.2.2.2.2.1 v_n.2.2.2.2.2.2.2.2.2.2.2.2.2) H := zPr hP1
  have hP_T : va_P D vwCl (pX4 cI cJ cC a_T a_n a_k a_t a_s a_r a_c v_T) H := zPl (hP1)
  have hP_k : va_P D vwCl (pX3 cI cJ cC a_k v_k) H := zKeepB hP_k hk1 (dj_app (hLC.1 2 0 (by decide) (by decide) (by decide)) (hLC.1 2 1 (by decide) (by decide) (by decide)))
  have hP_t : va_P D vwCl (pX3 cI cJ cC a_t v_t) H := zKeepB hP_t hk1 (dj_app (hLC.1 3 0 (by decide) (by decide) (by decide)) (hLC.1 3 1 (by decide) (by decide) (by decide)))
  have hP_s : va_P D vwCl (pX2 cI cJ cC a_s v_s) H := zKeepB hP_s hk1 (dj_app (hLC.1 4 0 (by decide) (by decide) (by decide)) (hLC.1 4 1 (by decide) (by decide) (by decide)))
  have hP_r : va_P D vwCl (pX0 cI cJ cC a_r v_r) H := zKeepB hP_r hk1 (dj_app (hLC.1 5 0 (by decide) (by decide) (by decide)) (hLC.1 5 1 (by decide) (by decide) (by decide)))
  have hP_c : va_P D vwCl (pX1 cI cJ cC a_c v_c) H := zKeepB hP_c hk1 (dj_app (hLC.1 6 0 (by decide) (by decide) (by decide)) (hLC.1 6 1 (by decide) (by decide) (by decide)))
  have hP_M : va_P D vwCl (pX5 cI cJ cC a_M v_M) H := zKeepB hP_M hk1 (dj_app (hLC.1 7 0 (by decide) (by decide) (by decide)) (hLC.1 7 1 (by decide) (by decide) (by decide)))
  refine lv_aload_n hx hb dL_law_518 rfl (lv_at hl 2 rfl) ?_
  have hPw : va_P D vwCl ((pX5 cI cJ cC a_M v_M)) _ := hP_M
  have hDw : va_D (fun q : Nat => s.heap.size ≤ q) ((pX5 cI cJ cC a_M v_M)) := hLC.2.2.2.2.2.2.2.2.2.2.2 _ rfl
  refine zci hA hDw hS (zrunV (As := []) (rest := [.int r_1]) S hK hA hE hPw hDw hS (mX5_fill l D cI cJ cC G a_M _ v_M.1 v_M.2.1 v_M.2.2.1 v_M.2.2.2.1 v_M.2.2.2.2.1 v_M.2.2.2.2.2.1 v_M.2.2.2.2.2.2.1 v_M.2.2.2.2.2.2.2.1 v_M.2.2.2.2.2.2.2.2.1 v_M.2.2.2.2.2.2.2.2.2.1 v_M.2.2.2.2.2.2.2.2.2.2.1 v_M.2.2.2.2.2.2.2.2.2.2.2.1 v_M.2.2.2.2.2.2.2.2.2.2.2.2.1 v_M.2.2.2.2.2.2.2.2.2.2.2.2.2.1 v_M.2.2.2.2.2.2.2.2.2.2.2.2.2.2.1 v_M.2.2.2.2.2.2.2.2.2.2.2.2.2.2.2.1 v_M.2.2.2.2.2.2.2.2.2.2.2.2.2.2.2.2.1 v_M.2.2.2.2.2.2.2.2.2.2.2.2.2.2.2.2.2.1 v_M.2.2.2.2.2.2.2.2.2.2.2.2.2.2.2.2.2.2.1 v_M.2.2.2.2.2.2.2.2.2.2.2.2.2.2.2.2.2.2.2.1 v_M.2.2.2.2.2.2.2.2.2.2.2.2.2.2.2.2.2.2.2.2.1 v_M.2.2.2.2.2.2.2.2.2.2.2.2.2.2.2.2.2.2.2.2.2.1 v_M.2.2.2.2.2.2.2.2.2.2.2.2.2.2.2.2.2.2.2.2.2.2.1 v_M.2.2.2.2.2.2.2.2.2.2.2.2.2.2.2.2.2.2.2.2.2.2.2 _ h) kX5_fill ml_L_65 ⟨rfl, rfl, by decide, by decide⟩ (q0 := 0) (ci := 5) rfl rfl rfl rfl hl.1 rfl (Nat.le_of_ble_eq_true rfl) dL_law_519 ⟨by decide, by decide⟩) (fun r_3 M_hole_4 H locs h hP1 hk1 hS => ?_)
  try dsimp only at h
  have hP_M : va_P D vwCl (bX5 cI cJ cC a_M v_M.1 v_M.2.1 v_M.2.2.1 v_M.2.2.2.1 v_M.2.2.2.2.1 v_M.2.2.2.2.2.1 v_M.2.2.2.2.2.2.1 v_M.2.2.2.2.2.2.2.1 v_M.2.2.2.2.2.2.2.2.1 v_M.2.2.2.2.2.2.2.2.2.1 v_M.2.2.2.2.2.2.2.2.2.2.1 v_M.2.2.2.2.2.2.2.2.2.2.2.1 v_M.2.2.2.2.2.2.2.2.2.2.2.2.1 M_hole_4 v_M.2.2.2.2.2.2.2.2.2.2.2.2.2.2.1 v_M.2.2.2.2.2.2.2.2.2.2.2.2.2.2.2.1 v_M.2.2.2.2.2.2.2.2.2.2.2.2.2.2.2.2.1 v_M.2.2.2.2.2.2.2.2.2.2.2.2.2.2.2.2.2.1 v_M.2.2.2.2.2.2.2.2.2.2.2.2.2.2.2.2.2.2.1 v_M.2.2.2.2.2.2.2.2.2.2.2.2.2.2.2.2.2.2.2.1 v_M.2.2.2.2.2.2.2.2.2.2.2.2.2.2.2.2.2.2.2.2.1 v_M.2.2.2.2.2.2.2.2.2.2.2.2.2.2.2.2.2.2.2.2.2.1 v_M.2.2.2.2.2.2.2.2.2.2.2.2.2.2.2.2.2.2.2.2.2.2.1 v_M.2.2.2.2.2.2.2.2.2.2.2.2.2.2.2.2.2.2.2.2.2.2.2) H := hP1
  have hP_T : va_P D vwCl (pX4 cI cJ cC a_T a_n a_k a_t a_s a_r a_c v_T) H := zKeepB hP_T hk1 (hLC.1 0 7 (by decide) (by decide) (by decide))
  have hP_n : va_P D vwCl (bX3 cI cJ cC a_n v_n.1 v_n.2.1 v_n.2.2.1 v_n.2.2.2.1 v_n.2.2.2.2.1 v_n.2.2.2.2.2.1 n_drilled_2 v_n.2.2.2.2.2.2.2.1 v_n.2.2.2.2.2.2.2.2.1 v_n.2.2.2.2.2.2.2.2.2.1 v_n.2.2.2.2.2.2.2.2.2.2.1 v_n.2.2.2.2.2.2.2.2.2.2.2.1 v_n.2.2.2.2.2.2.2.2.2.2.2.2.1 v_n.2.2.2.2.2.2.2.2.2.2.2.2.2) H := zKeepB hP_n hk1 (hLC.1 1 7 (by decide) (by decide) (by decide))
  have hP_k : va_P D vwCl (pX3 cI cJ cC a_k v_k) H := zKeepB hP_k hk1 (hLC.1 2 7 (by decide) (by decide) (by decide))
  have hP_t : va_P D vwCl (pX3 cI cJ cC a_t v_t) H := zKeepB hP_t hk1 (hLC.1 3 7 (by decide) (by decide) (by decide))
  have hP_s : va_P D vwCl (pX2 cI cJ cC a_s v_s) H := zKeepB hP_s hk1 (hLC.1 4 7 (by decide) (by decide) (by decide))
  have hP_r : va_P D vwCl (pX0 cI cJ cC a_r v_r) H := zKeepB hP_r hk1 (hLC.1 5 7 (by decide) (by decide) (by decide))
  have hP_c : va_P D vwCl (pX1 cI cJ cC a_c v_c) H := zKeepB hP_c hk1 (hLC.1 6 7 (by decide) (by decide) (by decide))
  refine lv_icmp_eq (tgt := 1171) hx hb dL_law_522 (by decide) (fun z => ?_) (fun z => absurd h.1 z)
  exact hnext _ _ _ ⟨v_T, (v_n.1, v_n.2.1, v_n.2.2.1, v_n.2.2.2.1, v_n.2.2.2.2.1, v_n.2.2.2.2.2.1, n_drilled_2, v_n.2.2.2.2.2.2.2.1, v_n.2.2.2.2.2.2.2.2.1, v_n.2.2.2.2.2.2.2.2.2.1, v_n.2.2.2.2.2.2.2.2.2.2.1, v_n.2.2.2.2.2.2.2.2.2.2.2.1, v_n.2.2.2.2.2.2.2.2.2.2.2.2.1, v_n.2.2.2.2.2.2.2.2.2.2.2.2.2), v_k, v_t, v_s, v_r, v_c, (v_M.1, v_M.2.1, v_M.2.2.1, v_M.2.2.2.1, v_M.2.2.2.2.1, v_M.2.2.2.2.2.1, v_M.2.2.2.2.2.2.1, v_M.2.2.2.2.2.2.2.1, v_M.2.2.2.2.2.2.2.2.1, v_M.2.2.2.2.2.2.2.2.2.1, v_M.2.2.2.2.2.2.2.2.2.2.1, v_M.2.2.2.2.2.2.2.2.2.2.2.1, v_M.2.2.2.2.2.2.2.2.2.2.2.2.1, M_hole_4, v_M.2.2.2.2.2.2.2.2.2.2.2.2.2.2.1, v_M.2.2.2.2.2.2.2.2.2.2.2.2.2.2.2.1, v_M.2.2.2.2.2.2.2.2.2.2.2.2.2.2.2.2.1, v_M.2.2.2.2.2.2.2.2.2.2.2.2.2.2.2.2.2.1, v_M.2.2.2.2.2.2.2.2.2.2.2.2.2.2.2.2.2.2.1, v_M.2.2.2.2.2.2.2.2.2.2.2.2.2.2.2.2.2.2.2.1, v_M.2.2.2.2.2.2.2.2.2.2.2.2.2.2.2.2.2.2.2.2.1, v_M.2.2.2.2.2.2.2.2.2.2.2.2.2.2.2.2.2.2.2.2.2.1, v_M.2.2.2.2.2.2.2.2.2.2.2.2.2.2.2.2.2.2.2.2.2.2.1, v_M.2.2.2.2.2.2.2.2.2.2.2.2.2.2.2.2.2.2.2.2.2.2.2), h.2, hP_T, hP_n, hP_k, hP_t, hP_s, hP_r, hP_c, hP_M⟩ hS hl
def PH_likely (RL : RT) : Prop := ∀ (v_T : PX4) (v_n : PX3) (v_k : PX3) (v_t : PX3) (v_s : PX2) (v_r : PX0) (v_c : PX1) (v_M : PX5) (p0 : Int32) (p1 : Int32), RL v_T v_n v_k v_s v_r v_M → wpX4_likely (fun (r_1 : Int64) (T_refusals_2 : Nat → Int32) => wpX5_likely (fun (r_3 : Int64) (M_refused_4 : Nat → Int32) => r_1 = r_3 ∧ RL (v_T.1, T_refusals_2) v_n v_k v_s v_r (v_M.1, v_M.2.1, v_M.2.2.1, v_M.2.2.2.1, v_M.2.2.2.2.1, v_M.2.2.2.2.2.1, v_M.2.2.2.2.2.2.1, v_M.2.2.2.2.2.2.2.1, v_M.2.2.2.2.2.2.2.2.1, v_M.2.2.2.2.2.2.2.2.2.1, v_M.2.2.2.2.2.2.2.2.2.2.1, M_refused_4, v_M.2.2.2.2.2.2.2.2.2.2.2.2.1, v_M.2.2.2.2.2.2.2.2.2.2.2.2.2.1, v_M.2.2.2.2.2.2.2.2.2.2.2.2.2.2.1, v_M.2.2.2.2.2.2.2.2.2.2.2.2.2.2.2.1, v_M.2.2.2.2.2.2.2.2.2.2.2.2.2.2.2.2.1, v_M.2.2.2.2.2.2.2.2.2.2.2.2.2.2.2.2.2.1, v_M.2.2.2.2.2.2.2.2.2.2.2.2.2.2.2.2.2.2.1, v_M.2.2.2.2.2.2.2.2.2.2.2.2.2.2.2.2.2.2.2.1, v_M.2.2.2.2.2.2.2.2.2.2.2.2.2.2.2.2.2.2.2.2.1, v_M.2.2.2.2.2.2.2.2.2.2.2.2.2.2.2.2.2.2.2.2.2.1, v_M.2.2.2.2.2.2.2.2.2.2.2.2.2.2.2.2.2.2.2.2.2.2.1, v_M.2.2.2.2.2.2.2.2.2.2.2.2.2.2.2.2.2.2.2.2.2.2.2)) v_M.2.2.2.2.2.2.2.2.2.2.2.1 v_M.2.2.2.2.2.2.2.2.2.2.2.2.1 v_M.2.2.2.2.2.2.2.2.2.2.2.2.2.2.2.2.1 p0 p1) v_T.2 v_n.2.2.2.2.2.2.2.1 v_n.2.2.2.2.2.2.2.2.2.2.2.2.2 p0 p1
set_option maxHeartbeats 4000000 in
set_option maxRecDepth 100000 in
theorem lawC_likely {p : Program} {l : Launch} {e : Env} {s : State} {m : MethodId} {below : List Frame} {meth : Method} {c : Code} {Q : State → Prop} {b L : Nat} {xs : Nat → Int32} {D : va_G} {cI cJ cC : ClassId} {G : Nat → Nat → Nat} {a_T a_n a_k a_t a_s a_r a_c a_M : Nat → Nat} (RL : RT) (hp : PH_likely RL) (S : CallFix p m c code 4 s #[Value.ref b] bg R_law) (hX : va_X b L xs s s.heap) (hbl : b < s.heap.size) (hK : va_K D vwCl (tz cI cJ cC) s) (hLC : LC a_T a_n a_k a_t a_s a_r a_c a_M (fun q : Nat => s.heap.size ≤ q)) (hE : EV G (fun q : Nat => s.heap.size ≤ q) s) {i : Nat} {x3 : Int32} (hi : ∀ k : Nat, k < 4 → vp_in (x3 + Int32.ofNat k) L) (hv : ∀ k : Nat, k < 4 → xs (x3 + Int32.ofNat k).toNatClampNeg = xs (i + k)) {H : Heap} {locs : List Loc} {ls : Array Slot} (hJ : JW RL D cI cJ cC a_T a_n a_k a_t a_s a_r a_c a_M H) (hS : va_S (fun q : Nat => s.heap.size ≤ q) s.heap H locs) (hl : lv_has ls 4 [(0, .ref b), (1, .ref (a_T 0)), (2, .ref (a_M 0)), (3, .int x3)])
    (hnext : ∀ (H : Heap) (locs : List Loc) (ls : Array Slot), JW RL D cI cJ cC a_T a_n a_k a_t a_s a_r a_c a_M H → va_S (fun q : Nat => s.heap.size ≤ q) s.heap H locs → lv_has ls 4 [(0, .ref b), (1, .ref (a_T 0)), (2, .ref (a_M 0)), (3, .int x3)] → W p l e room_1 s m #[Value.ref b] below meth c H locs 41 1350 Q (F0 m 1171 ls [])) : W p l e room_1 s m #[Value.ref b] below meth c H locs 41 1350 Q (F0 m 527 ls []) := by
  obtain ⟨hx, hb, hml, hown, ht⟩ := id S
  have hA : ∀ q : Nat, s.heap.size ≤ q → (fun q : Nat => s.heap.size ≤ q) q := fun _ h => h
  have hbA : ¬ (fun q : Nat => s.heap.size ≤ q) b := Nat.not_le.mpr hbl
  obtain ⟨v_T, v_n, v_k, v_t, v_s, v_r, v_c, v_M, hR, hP_T, hP_n, hP_k, hP_t, hP_s, hP_r, hP_c, hP_M⟩ := hJ
  have h := hp v_T v_n v_k v_t v_s v_r v_c v_M (xs (i + 1)) (xs (i + 2)) hR
  refine lv_aload_n hx hb dL_law_527 rfl (lv_at hl 1 rfl) ?_
  refine lv_aload_n hx hb dL_law_528 rfl (lv_at hl 0 rfl) ?_
  refine lv_iload_n hx hb dL_law_529 rfl (lv_at hl 3 rfl) ?_
  refine lv_iconst (v := (1 : Int32)) hx hb dL_law_530 (by decide) ?_
  refine lv_iadd hx hb dL_law_531 ?_
  refine va_sld hx hb hX hbl hbA hS (hi 1 (by decide)) dL_law_532 ?_
  refine zti (hv 1 (by decide)) ?_
  refine lv_aload_n hx hb dL_law_533 rfl (lv_at hl 0 rfl) ?_
  refine lv_iload_n hx hb dL_law_534 rfl (lv_at hl 3 rfl) ?_
  refine lv_iconst (v := (2 : Int32)) hx hb dL_law_535 (by decide) ?_
  refine lv_iadd hx hb dL_law_536 ?_
  refine va_sld hx hb hX hbl hbA hS (hi 2 (by decide)) dL_law_537 ?_
  refine zti (hv 2 (by decide)) ?_
  have hPw : va_P D vwCl ((pX4 cI cJ cC a_T a_n a_k a_t a_s a_r a_c v_T) ++ (pX3 cI cJ cC a_n v_n)) _ := (hP_T.app hP_n)
  have hDw : va_D (fun q : Nat => s.heap.size ≤ q) ((pX4 cI cJ cC a_T a_n a_k a_t a_s a_r a_c v_T) ++ (pX3 cI cJ cC a_n v_n)) := hLC.2.2.2.1 _ rfl
  refine zcl hA hDw hS (zrunV (As := [.int (xs (i + 1)), .int (xs (i + 2))]) (rest := []) S hK hA hE hPw hDw hS (mX4_likely l D cI cJ cC G a_T a_n a_k a_t a_s a_r a_c _ v_T.1 v_T.2 v_n.1 v_n.2.1 v_n.2.2.1 v_n.2.2.2.1 v_n.2.2.2.2.1 v_n.2.2.2.2.2.1 v_n.2.2.2.2.2.2.1 v_n.2.2.2.2.2.2.2.1 v_n.2.2.2.2.2.2.2.2.1 v_n.2.2.2.2.2.2.2.2.2.1 v_n.2.2.2.2.2.2.2.2.2.2.1 v_n.2.2.2.2.2.2.2.2.2.2.2.1 v_n.2.2.2.2.2.2.2.2.2.2.2.2.1 v_n.2.2.2.2.2.2.2.2.2.2.2.2.2 (xs (i + 1)) (xs (i + 2)) _ h) kX4_likely ml_L_66 ⟨rfl, rfl, by decide, by decide⟩ (q0 := 0) (ci := 4) rfl rfl rfl rfl hl.1 rfl (Nat.le_of_ble_eq_true rfl) dL_law_538 ⟨by decide, by decide⟩) (fun r_1 T_refusals_2 H locs h hP1 hk1 hS => ?_)
  try dsimp only at h
  have hP_n : va_P D vwCl (pX3 cI cJ cC a_n v_n) H := zPr hP1
  have hP_T : va_P D vwCl (bX4 cI cJ cC a_T a_n a_k a_t a_s a_r a_c v_T.1 T_refusals_2) H := zPl (hP1)
  have hP_k : va_P D vwCl (pX3 cI cJ cC a_k v_k) H := zKeepB hP_k hk1 (dj_app (hLC.1 2 0 (by decide) (by decide) (by decide)) (hLC.1 2 1 (by decide) (by decide) (by decide)))
  have hP_t : va_P D vwCl (pX3 cI cJ cC a_t v_t) H := zKeepB hP_t hk1 (dj_app (hLC.1 3 0 (by decide) (by decide) (by decide)) (hLC.1 3 1 (by decide) (by decide) (by decide)))
  have hP_s : va_P D vwCl (pX2 cI cJ cC a_s v_s) H := zKeepB hP_s hk1 (dj_app (hLC.1 4 0 (by decide) (by decide) (by decide)) (hLC.1 4 1 (by decide) (by decide) (by decide)))
  have hP_r : va_P D vwCl (pX0 cI cJ cC a_r v_r) H := zKeepB hP_r hk1 (dj_app (hLC.1 5 0 (by decide) (by decide) (by decide)) (hLC.1 5 1 (by decide) (by decide) (by decide)))
  have hP_c : va_P D vwCl (pX1 cI cJ cC a_c v_c) H := zKeepB hP_c hk1 (dj_app (hLC.1 6 0 (by decide) (by decide) (by decide)) (hLC.1 6 1 (by decide) (by decide) (by decide)))
  have hP_M : va_P D vwCl (pX5 cI cJ cC a_M v_M) H := zKeepB hP_M hk1 (dj_app (hLC.1 7 0 (by decide) (by decide) (by decide)) (hLC.1 7 1 (by decide) (by decide) (by decide)))
  refine lv_aload_n hx hb dL_law_541 rfl (lv_at hl 2 rfl) ?_
  refine lv_aload_n hx hb dL_law_542 rfl (lv_at hl 0 rfl) ?_
  refine lv_iload_n hx hb dL_law_543 rfl (lv_at hl 3 rfl) ?_
  refine lv_iconst (v := (1 : Int32)) hx hb dL_law_544 (by decide) ?_
  refine lv_iadd hx hb dL_law_545 ?_
  refine va_sld hx hb hX hbl hbA hS (hi 1 (by decide)) dL_law_546 ?_
  refine zti (hv 1 (by decide)) ?_
  refine lv_aload_n hx hb dL_law_547 rfl (lv_at hl 0 rfl) ?_
  refine lv_iload_n hx hb dL_law_548 rfl (lv_at hl 3 rfl) ?_
  refine lv_iconst (v := (2 : Int32)) hx hb dL_law_549 (by decide) ?_
  refine lv_iadd hx hb dL_law_550 ?_
  refine va_sld hx hb hX hbl hbA hS (hi 2 (by decide)) dL_law_551 ?_
  refine zti (hv 2 (by decide)) ?_
  have hPw : va_P D vwCl ((pX5 cI cJ cC a_M v_M)) _ := hP_M
  have hDw : va_D (fun q : Nat => s.heap.size ≤ q) ((pX5 cI cJ cC a_M v_M)) := hLC.2.2.2.2.2.2.2.2.2.2.2 _ rfl
  refine zcl hA hDw hS (zrunV (As := [.int (xs (i + 1)), .int (xs (i + 2))]) (rest := [.long r_1]) S hK hA hE hPw hDw hS (mX5_likely l D cI cJ cC G a_M _ v_M.1 v_M.2.1 v_M.2.2.1 v_M.2.2.2.1 v_M.2.2.2.2.1 v_M.2.2.2.2.2.1 v_M.2.2.2.2.2.2.1 v_M.2.2.2.2.2.2.2.1 v_M.2.2.2.2.2.2.2.2.1 v_M.2.2.2.2.2.2.2.2.2.1 v_M.2.2.2.2.2.2.2.2.2.2.1 v_M.2.2.2.2.2.2.2.2.2.2.2.1 v_M.2.2.2.2.2.2.2.2.2.2.2.2.1 v_M.2.2.2.2.2.2.2.2.2.2.2.2.2.1 v_M.2.2.2.2.2.2.2.2.2.2.2.2.2.2.1 v_M.2.2.2.2.2.2.2.2.2.2.2.2.2.2.2.1 v_M.2.2.2.2.2.2.2.2.2.2.2.2.2.2.2.2.1 v_M.2.2.2.2.2.2.2.2.2.2.2.2.2.2.2.2.2.1 v_M.2.2.2.2.2.2.2.2.2.2.2.2.2.2.2.2.2.2.1 v_M.2.2.2.2.2.2.2.2.2.2.2.2.2.2.2.2.2.2.2.1 v_M.2.2.2.2.2.2.2.2.2.2.2.2.2.2.2.2.2.2.2.2.1 v_M.2.2.2.2.2.2.2.2.2.2.2.2.2.2.2.2.2.2.2.2.2.1 v_M.2.2.2.2.2.2.2.2.2.2.2.2.2.2.2.2.2.2.2.2.2.2.1 v_M.2.2.2.2.2.2.2.2.2.2.2.2.2.2.2.2.2.2.2.2.2.2.2 (xs (i + 1)) (xs (i + 2)) _ h) kX5_likely ml_L_70 ⟨rfl, rfl, by decide, by decide⟩ (q0 := 0) (ci := 5) rfl rfl rfl rfl hl.1 rfl (Nat.le_of_ble_eq_true rfl) dL_law_552 ⟨by decide, by decide⟩) (fun r_3 M_refused_4 H locs h hP1 hk1 hS => ?_)
  try dsimp only at h
  have hP_M : va_P D vwCl (bX5 cI cJ cC a_M v_M.1 v_M.2.1 v_M.2.2.1 v_M.2.2.2.1 v_M.2.2.2.2.1 v_M.2.2.2.2.2.1 v_M.2.2.2.2.2.2.1 v_M.2.2.2.2.2.2.2.1 v_M.2.2.2.2.2.2.2.2.1 v_M.2.2.2.2.2.2.2.2.2.1 v_M.2.2.2.2.2.2.2.2.2.2.1 M_refused_4 v_M.2.2.2.2.2.2.2.2.2.2.2.2.1 v_M.2.2.2.2.2.2.2.2.2.2.2.2.2.1 v_M.2.2.2.2.2.2.2.2.2.2.2.2.2.2.1 v_M.2.2.2.2.2.2.2.2.2.2.2.2.2.2.2.1 v_M.2.2.2.2.2.2.2.2.2.2.2.2.2.2.2.2.1 v_M.2.2.2.2.2.2.2.2.2.2.2.2.2.2.2.2.2.1 v_M.2.2.2.2.2.2.2.2.2.2.2.2.2.2.2.2.2.2.1 v_M.2.2.2.2.2.2.2.2.2.2.2.2.2.2.2.2.2.2.2.1 v_M.2.2.2.2.2.2.2.2.2.2.2.2.2.2.2.2.2.2.2.2.1 v_M.2.2.2.2.2.2.2.2.2.2.2.2.2.2.2.2.2.2.2.2.2.1 v_M.2.2.2.2.2.2.2.2.2.2.2.2.2.2.2.2.2.2.2.2.2.2.1 v_M.2.2.2.2.2.2.2.2.2.2.2.2.2.2.2.2.2.2.2.2.2.2.2) H := hP1
  have hP_T : va_P D vwCl (bX4 cI cJ cC a_T a_n a_k a_t a_s a_r a_c v_T.1 T_refusals_2) H := zKeepB hP_T hk1 (hLC.1 0 7 (by decide) (by decide) (by decide))
  have hP_n : va_P D vwCl (pX3 cI cJ cC a_n v_n) H := zKeepB hP_n hk1 (hLC.1 1 7 (by decide) (by decide) (by decide))
  have hP_k : va_P D vwCl (pX3 cI cJ cC a_k v_k) H := zKeepB hP_k hk1 (hLC.1 2 7 (by decide) (by decide) (by decide))
  have hP_t : va_P D vwCl (pX3 cI cJ cC a_t v_t) H := zKeepB hP_t hk1 (hLC.1 3 7 (by decide) (by decide) (by decide))
  have hP_s : va_P D vwCl (pX2 cI cJ cC a_s v_s) H := zKeepB hP_s hk1 (hLC.1 4 7 (by decide) (by decide) (by decide))
  have hP_r : va_P D vwCl (pX0 cI cJ cC a_r v_r) H := zKeepB hP_r hk1 (hLC.1 5 7 (by decide) (by decide) (by decide))
  have hP_c : va_P D vwCl (pX1 cI cJ cC a_c v_c) H := zKeepB hP_c hk1 (hLC.1 6 7 (by decide) (by decide) (by decide))
  refine W.lcmp hx hb dL_law_555 ?_
  refine lv_if_eq (tgt := 1171) hx hb dL_law_556 (by decide) (fun z => ?_) (fun z => absurd (zl_eq.mpr h.1) z)
  exact hnext _ _ _ ⟨(v_T.1, T_refusals_2), v_n, v_k, v_t, v_s, v_r, v_c, (v_M.1, v_M.2.1, v_M.2.2.1, v_M.2.2.2.1, v_M.2.2.2.2.1, v_M.2.2.2.2.2.1, v_M.2.2.2.2.2.2.1, v_M.2.2.2.2.2.2.2.1, v_M.2.2.2.2.2.2.2.2.1, v_M.2.2.2.2.2.2.2.2.2.1, v_M.2.2.2.2.2.2.2.2.2.2.1, M_refused_4, v_M.2.2.2.2.2.2.2.2.2.2.2.2.1, v_M.2.2.2.2.2.2.2.2.2.2.2.2.2.1, v_M.2.2.2.2.2.2.2.2.2.2.2.2.2.2.1, v_M.2.2.2.2.2.2.2.2.2.2.2.2.2.2.2.1, v_M.2.2.2.2.2.2.2.2.2.2.2.2.2.2.2.2.1, v_M.2.2.2.2.2.2.2.2.2.2.2.2.2.2.2.2.2.1, v_M.2.2.2.2.2.2.2.2.2.2.2.2.2.2.2.2.2.2.1, v_M.2.2.2.2.2.2.2.2.2.2.2.2.2.2.2.2.2.2.2.1, v_M.2.2.2.2.2.2.2.2.2.2.2.2.2.2.2.2.2.2.2.2.1, v_M.2.2.2.2.2.2.2.2.2.2.2.2.2.2.2.2.2.2.2.2.2.1, v_M.2.2.2.2.2.2.2.2.2.2.2.2.2.2.2.2.2.2.2.2.2.2.1, v_M.2.2.2.2.2.2.2.2.2.2.2.2.2.2.2.2.2.2.2.2.2.2.2), h.2, hP_T, hP_n, hP_k, hP_t, hP_s, hP_r, hP_c, hP_M⟩ hS hl
