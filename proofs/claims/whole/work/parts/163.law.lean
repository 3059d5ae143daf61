def PH_both (RL : RT) : Prop := ∀ (v_T : PX4) (v_n : PX3) (v_k : PX3) (v_t : PX3) (v_s : PX2) (v_r : PX0) (v_c : PX1) (v_M : PX5) (p0 : Int32) (p1 : Int32), RL v_T v_n v_k v_s v_r v_M → wpX4_both (fun (r_1 : Int64) (T_refusals_2 : Nat → Int32) => wpX5_both (fun (r_3 : Int64) (M_refused_4 : Nat → Int32) => r_1 = r_3 ∧ RL (v_T.1, T_refusals_2) v_n v_k v_s v_r (v_M.1, v_M.2.1, v_M.2.2.1, v_M.2.2.2.1, v_M.2.2.2.2.1, v_M.2.2.2.2.2.1, v_M.2.2.2.2.2.2.1, v_M.2.2.2.2.2.2.2.1, v_M.2.2.2.2.2.2.2.2.1, v_M.2.2.2.2.2.2.2.2.2.1, v_M.2.2.2.2.2.2.2.2.2.2.1, M_refused_4, v_M.2.2.2.2.2.2.2.2.2.2.2.2.1, v_M.2.2.2.2.2.2.2.2.2.2.2.2.2.1, v_M.2.2.2.2.2.2.2.2.2.2.2.2.2.2.1, v_M.2.2.2.2.2.2.2.2.2.2.2.2.2.2.2.1, v_M.2.2.2.2.2.2.2.2.2.2.2.2.2.2.2.2.1, v_M.2.2.2.2.2.2.2.2.2.2.2.2.2.2.2.2.2.1, v_M.2.2.2.2.2.2.2.2.2.2.2.2.2.2.2.2.2.2.1, v_M.2.2.2.2.2.2.2.2.2.2.2.2.2.2.2.2.2.2.2.1, v_M.2.2.2.2.2.2.2.2.2.2.2.2.2.2.2.2.2.2.2.2.1, v_M.2.2.2.2.2.2.2.2.2.2.2.2.2.2.2.2.2.2.2.2.2.1, v_M.2.2.2.2.2.2.2.2.2.2.2.2.2.2.2.2.2.2.2.2.2.2.1, v_M.2.2.2.2.2.2.2.2.2.2.2.2.2.2.2.2.2.2.2.2.2.2.2)) v_M.2.2.2.2.2.2.2.2.2.2.2.1 v_M.2.2.2.2.2.2.2.2.2.2.2.2.1 v_M.2.2.2.2.2.2.2.2.2.2.2.2.2.2.2.2.1 p0 p1) v_T.2 v_n.2.2.2.2.2.2.2.1 v_n.2.2.2.2.2.2.2.2.2.2.2.1 v_n.2.2.2.2.2.2.2.2.2.2.2.2.1 p0 p1
set_option maxHeartbeats 4000000 in
set_option maxRecDepth 100000 in
theorem lawC_both {p : Program} {l : Launch} {e : Env} {s : State} {m : MethodId} {below : List Frame} {meth : Method} {c : Code} {Q : State → Prop} {b L : Nat} {xs : Nat → Int32} {D : va_G} {cI cJ cC : ClassId} {G : Nat → Nat → Nat} {a_T a_n a_k a_t a_s a_r a_c a_M : Nat → Nat} (RL : RT) (hp : PH_both RL) (S : CallFix p m c code 4 s #[Value.ref b] bg R_law) (hX : va_X b L xs s s.heap) (hbl : b < s.heap.size) (hK : va_K D vwCl (tz cI cJ cC) s) (hLC : LC a_T a_n a_k a_t a_s a_r a_c a_M (fun q : Nat => s.heap.size ≤ q)) (hE : EV G (fun q : Nat => s.heap.size ≤ q) s) {i : Nat} {x3 : Int32} (hi : ∀ k : Nat, k < 4 → vp_in (x3 + Int32.ofNat k) L) (hv : ∀ k : Nat, k < 4 → xs (x3 + Int32.ofNat k).toNatClampNeg = xs (i + k)) {H : Heap} {locs : List Loc} {ls : Array Slot} (hJ : JW RL D cI cJ cC a_T a_n a_k a_t a_s a_r a_c a_M H) (hS : va_S (fun q : Nat => s.heap.size ≤ q) s.heap H locs) (hl : lv_has ls 4 [(0, .ref b), (1, .ref (a_T 0)), (2, .ref (a_M 0)), (3, .int x3)])
    (hnext : ∀ (H : Heap) (locs : List Loc) (ls : Array Slot), JW RL D cI cJ cC a_T a_n a_k a_t a_s a_r a_c a_M H → va_S (fun q : Nat => s.heap.size ≤ q) s.heap H locs → lv_has ls 4 [(0, .ref b), (1, .ref (a_T 0)), (2, .ref (a_M 0)), (3, .int x3)] → W p l e room_1 s m #[Value.ref b] below meth c H locs 41 1350 Q (F0 m 1171 ls [])) : W p l e room_1 s m #[Value.ref b] below meth c H locs 41 1350 Q (F0 m 872 ls []) := by
  obtain ⟨hx, hb, hml, hown, ht⟩ := id S
  have hA : ∀ q : Nat, s.heap.size ≤ q → (fun q : Nat => s.heap.size ≤ q) q := fun _ h => h
  have hbA : ¬ (fun q : Nat => s.heap.size ≤ q) b := Nat.not_le.mpr hbl
  obtain ⟨v_T, v_n, v_k, v_t, v_s, v_r, v_c, v_M, hR, hP_T, hP_n, hP_k, hP_t, hP_s, hP_r, hP_c, hP_M⟩ := hJ
  have h := hp v_T v_n v_k v_t v_s v_r v_c v_M (xs (i + 1)) (xs (i + 2)) hR
  refine lv_aload_n hx hb dL_law_872 rfl (lv_at hl 1 rfl) ?_
  refine lv_aload_n hx hb dL_law_873 rfl (lv_at hl 0 rfl) ?_
  refine lv_iload_n hx hb dL_law_874 rfl (lv_at hl 3 rfl) ?_
  refine lv_iconst (v := (1 : Int32)) hx hb dL_law_875 (by decide) ?_
  refine lv_iadd hx hb dL_law_876 ?_
  refine va_sld hx hb hX hbl hbA hS (hi 1 (by decide)) dL_law_877 ?_
  refine zti (hv 1 (by decide)) ?_
  refine lv_aload_n hx hb dL_law_878 rfl (lv_at hl 0 rfl) ?_
  refine lv_iload_n hx hb dL_law_879 rfl (lv_at hl 3 rfl) ?_
  refine lv_iconst (v := (2 : Int32)) hx hb dL_law_880 (by decide) ?_
  refine lv_iadd hx hb dL_law_881 ?_
  refine va_sld hx hb hX hbl hbA hS (hi 2 (by decide)) dL_law_882 ?_
  refine zti (hv 2 (by decide)) ?_
  have hPw : va_P D vwCl ((pX4 cI cJ cC a_T a_n a_k a_t a_s a_r a_c v_T) ++ (pX3 cI cJ cC a_n v_n)) _ := (hP_T.app hP_n)
  have hDw : va_D (fun q : Nat => s.heap.size ≤ q) ((pX4 cI cJ cC a_T a_n a_k a_t a_s a_r a_c v_T) ++ (pX3 cI cJ cC a_n v_n)) := hLC.2.2.2.1 _ rfl
  refine zcl hA hDw hS (zrunV (As := [.int (xs (i + 1)), .int (xs (i + 2))]) (rest := []) S hK hA hE hPw hDw hS (mX4_both l D cI cJ cC G a_T a_n a_k a_t a_s a_r a_c _ v_T.1 v_T.2 v_n.1 v_n.2.1 v_n.2.2.1 v_n.2.2.2.1 v_n.2.2.2.2.1 v_n.2.2.2.2.2.1 v_n.2.2.2.2.2.2.1 v_n.2.2.2.2.2.2.2.1 v_n.2.2.2.2.2.2.2.2.1 v_n.2.2.2.2.2.2.2.2.2.1 v_n.2.2.2.2.2.2.2.2.2.2.1 v_n.2.2.2.2.2.2.2.2.2.2.2.1 v_n.2.2.2.2.2.2.2.2.2.2.2.2.1 v_n.2.2.2.2.2.2.2.2.2.2.2.2.2 (xs (i + 1)) (xs (i + 2)) _ h) kX4_both ml_L_123 ⟨rfl, rfl, by decide, by decide⟩ (q0 := 0) (ci := 4) rfl rfl rfl rfl hl.1 rfl (Nat.le_of_ble_eq_true rfl) dL_law_883 ⟨by decide, by decide⟩) (fun r_1 T_refusals_2 H locs h hP1 hk1 hS => ?_)
  try dsimp only at h
  have hP_n : va_P D vwCl (pX3 cI cJ cC a_n v_n) H := zPr hP1
  have hP_T : va_P D vwCl (bX4 cI cJ cC a_T a_n a_k a_t a_s a_r a_c v_T.1 T_refusals_2) H := zPl (hP1)
  have hP_k : va_P D vwCl (pX3 cI cJ cC a_k v_k) H := zKeepB hP_k hk1 (dj_app (hLC.1 2 0 (by decide) (by decide) (by decide)) (hLC.1 2 1 (by decide) (by decide) (by decide)))
  have hP_t : va_P D vwCl (pX3 cI cJ cC a_t v_t) H := zKeepB hP_t hk1 (dj_app (hLC.1 3 0 (by decide) (by decide) (by decide)) (hLC.1 3 1 (by decide) (by decide) (by decide)))
  have hP_s : va_P D vwCl (pX2 cI cJ cC a_s v_s) H := zKeepB hP_s hk1 (dj_app (hLC.1 4 0 (by decide) (by decide) (by decide)) (hLC.1 4 1 (by decide) (by decide) (by decide)))
  have hP_r : va_P D vwCl (pX0 cI cJ cC a_r v_r) H := zKeepB hP_r hk1 (dj_app (hLC.1 5 0 (by decide) (by decide) (by decide)) (hLC.1 5 1 (by decide) (by decide) (by decide)))
  have hP_c : va_P D vwCl (pX1 cI cJ cC a_c v_c) H := zKeepB hP_c hk1 (dj_app (hLC.1 6 0 (by decide) (by decide) (by decide)) (hLC.1 6 1 (by decide) (by decide) (by decide)))
  have hP_M : va_P D vwCl (pX5 cI cJ cC a_M v_M) H := zKeepB hP_M hk1 (dj_app (hLC.1 7 0 (by decide) (by decide) (by decide)) (hLC.1 7 1 (by decide) (by decide) (by decide)))
  refine lv_aload_n hx hb dL_law_886 rfl (lv_at hl 2 rfl) ?_
  refine lv_aload_n hx hb dL_law_887 rfl (lv_at hl 0 rfl) ?_
  refine lv_iload_n hx hb dL_law_888 rfl (lv_at hl 3 rfl) ?_
  refine lv_iconst (v := (1 : Int32)) hx hb dL_law_889 (by decide) ?_
  refine lv_iadd hx hb dL_law_890 ?_
  refine va_sld hx hb hX hbl hbA hS (hi 1 (by decide)) dL_law_891 ?_
  refine zti (hv 1 (by decide)) ?_
  refine lv_aload_n hx hb dL_law_892 rfl (lv_at hl 0 rfl) ?_
  refine lv_iload_n hx hb dL_law_893 rfl (lv_at hl 3 rfl) ?_
  refine lv_iconst (v := (2 : Int32)) hx hb dL_law_894 (by decide) ?_
  refine lv_iadd hx hb dL_law_895 ?_
  refine va_sld hx hb hX hbl hbA hS (hi 2 (by decide)) dL_law_896 ?_
  refine zti (hv 2 (by decide)) ?_
  have hPw : va_P D vwCl ((pX5 cI cJ cC a_M v_M)) _ := hP_M
  have hDw : va_D (fun q : Nat => s.heap.size ≤ q) ((pX5 cI cJ cC a_M v_M)) := hLC.2.2.2.2.2.2.2.2.2.2.2 _ rfl
  refine zcl hA hDw hS (zrunV (As := [.int (xs (i + 1)), .int (xs (i + 2))]) (rest := [.long r_1]) S hK hA hE hPw hDw hS (mX5_both l D cI cJ cC G a_M _ v_M.1 v_M.2.1 v_M.2.2.1 v_M.2.2.2.1 v_M.2.2.2.2.1 v_M.2.2.2.2.2.1 v_M.2.2.2.2.2.2.1 v_M.2.2.2.2.2.2.2.1 v_M.2.2.2.2.2.2.2.2.1 v_M.2.2.2.2.2.2.2.2.2.1 v_M.2.2.2.2.2.2.2.2.2.2.1 v_M.2.2.2.2.2.2.2.2.2.2.2.1 v_M.2.2.2.2.2.2.2.2.2.2.2.2.1 v_M.2.2.2.2.2.2.2.2.2.2.2.2.2.1 v_M.2.2.2.2.2.2.2.2.2.2.2.2.2.2.1 v_M.2.2.2.2.2.2.2.2.2.2.2.2.2.2.2.1 v_M.2.2.2.2.2.2.2.2.2.2.2.2.2.2.2.2.1 v_M.2.2.2.2.2.2.2.2.2.2.2.2.2.2.2.2.2.1 v_M.2.2.2.2.2.2.2.2.2.2.2.2.2.2.2.2.2.2.1 v_M.2.2.2.2.2.2.2.2.2.2.2.2.2.2.2.2.2.2.2.1 v_M.2.2.2.2.2.2.2.2.2.2.2.2.2.2.2.2.2.2.2.2.1 v_M.2.2.2.2.2.2.2.2.2.2.2.2.2.2.2.2.2.2.2.2.2.1 v_M.2.2.2.2.2.2.2.2.2.2.2.2.2.2.2.2.2.2.2.2.2.2.1 v_M.2.2.2.2.2.2.2.2.2.2.2.2.2.2.2.2.2.2.2.2.2.2.2 (xs (i + 1)) (xs (i + 2)) _ h) kX5_both ml_L_126 ⟨rfl, rfl, by decide, by decide⟩ (q0 := 0) (ci := 5) rfl rfl rfl rfl hl.1 rfl (Nat.le_of_ble_eq_true rfl) dL_law_897 ⟨by decide, by decide⟩) (fun r_3 M_refused_4 H locs h hP1 hk1 hS => ?_)
  try dsimp only at h
  have hP_M : va_P D vwCl (bX5 cI cJ cC a_M v_M.1 v_M.2.1 v_M.2.2.1 v_M.2.2.2.1 v_M.2.2.2.2.1 v_M.2.2.2.2.2.1 v_M.2.2.2.2.2.2.1 v_M.2.2.2.2.2.2.2.1 v_M.2.2.2.2.2.2.2.2.1 v_M.2.2.2.2.2.2.2.2.2.1 v_M.2.2.2.2.2.2.2.2.2.2.1 M_refused_4 v_M.2.2.2.2.2.2.2.2.2.2.2.2.1 v_M.2.2.2.2.2.2.2.2.2.2.2.2.2.1 v_M.2.2.2.2.2.2.2.2.2.2.2.2.2.2.1 v_M.2.2.2.2.2.2.2.2.2.2.2.2.2.2.2.1 v_M.2.2.2.2.2.2.2.2.2.2.2.2.2.2.2.2.1 v_M.2.2.2.2.2.2.2.2.2.2.2.2.2.2.2.2.2.1 v_M.2.2.2.2.2.2.2.2.2.2.2.2.2.2.2.2.2.2.1 v_M.2.2.2.2.2.2.2.2.2.2.2.2.2.2.2.2.2.2.2.1 v_M.2.2.2.2.2.2.2.2.2.2.2.2.2.2.2.2.2.2.2.2.1 v_M.2.2.2.2.2.2.2.2.2.2.2.2.2.2.2.2.2.2.2.2.2.1 v_M.2.2.2.2.2.2.2.2.2.2.2.2.2.2.2.2.2.2.2.2.2.2.1 v_M.2.2.2.2.2.2.2.2.2.2.2.2.2.2.2.2.2.2.2.2.2.2.2) H := hP1
  have hP_T : va_P D vwCl (bX4 cI cJ cC a_T a_n a_k a_t a_s a_r a_c v_T.1 T_refusals_2) H := zKeepB hP_T hk1 (hLC.1 0 7 (by decide) (by decide) (by decide))
  have hP_n : va_P D vwCl (pX3 cI cJ cC a_n v_n) H := zKeepB hP_n hk1 (hLC.1 1 7 (by decide) (by decide) (by decide))
  have hP_k : va_P D vwCl (pX3 cI cJ cC a_k v_k) H := zKeepB hP_k hk1 (hLC.1 2 7 (by decide) (by decide) (by decide))
  have hP_t : va_P D vwCl (pX3 cI cJ cC a_t v_t) H := zKeepB hP_t hk1 (hLC.1 3 7 (by decide) (by decide) (by decide))
  have hP_s : va_P D vwCl (pX2 cI cJ cC a_s v_s) H := zKeepB hP_s hk1 (hLC.1 4 7 (by decide) (by decide) (by decide))
  have hP_r : va_P D vwCl (pX0 cI cJ cC a_r v_r) H := zKeepB hP_r hk1 (hLC.1 5 7 (by decide) (by decide) (by decide))
  have hP_c : va_P D vwCl (pX1 cI cJ cC a_c v_c) H := zKeepB hP_c hk1 (hLC.1 6 7 (by decide) (by decide) (by decide))
  refine W.lcmp hx hb dL_law_900 ?_
  refine lv_if_eq (tgt := 1171) hx hb dL_law_901 (by decide) (fun z => ?_) (fun z => absurd (zl_eq.mpr h.1) z)
  exact hnext _ _ _ ⟨(v_T.1, T_refusals_2), v_n, v_k, v_t, v_s, v_r, v_c, (v_M.1, v_M.2.1, v_M.2.2.1, v_M.2.2.2.1, v_M.2.2.2.2.1, v_M.2.2.2.2.2.1, v_M.2.2.2.2.2.2.1, v_M.2.2.2.2.2.2.2.1, v_M.2.2.2.2.2.2.2.2.1, v_M.2.2.2.2.2.2.2.2.2.1, v_M.2.2.2.2.2.2.2.2.2.2.1, M_refused_4, v_M.2.2.2.2.2.2.2.2.2.2.2.2.1, v_M.2.2.2.2.2.2.2.2.2.2.2.2.2.1, v_M.2.2.2.2.2.2.2.2.2.2.2.2.2.2.1, v_M.2.2.2.2.2.2.2.2.2.2.2.2.2.2.2.1, v_M.2.2.2.2.2.2.2.2.2.2.2.2.2.2.2.2.1, v_M.2.2.2.2.2.2.2.2.2.2.2.2.2.2.2.2.2.1, v_M.2.2.2.2.2.2.2.2.2.2.2.2.2.2.2.2.2.2.1, v_M.2.2.2.2.2.2.2.2.2.2.2.2.2.2.2.2.2.2.2.1, v_M.2.2.2.2.2.2.2.2.2.2.2.2.2.2.2.2.2.2.2.2.1, v_M.2.2.2.2.2.2.2.2.2.2.2.2.2.2.2.2.2.2.2.2.2.1, v_M.2.2.2.2.2.2.2.2.2.2.2.2.2.2.2.2.2.2.2.2.2.2.1, v_M.2.2.2.2.2.2.2.2.2.2.2.2.2.2.2.2.2.2.2.2.2.2.2), h.2, hP_T, hP_n, hP_k, hP_t, hP_s, hP_r, hP_c, hP_M⟩ hS hl
def PH_wire (RL : RT) : Prop := ∀ (v_T : PX4) (v_n : PX3) (v_k : PX3) (v_t : PX3) (v_s : PX2) (v_r : PX0) (v_c : PX1) (v_M : PX5) (p0 : Int32) (p1 : Int32), RL v_T v_n v_k v_s v_r v_M → wpX4_wire (fun (r_1 : Int32) (T_refusals_2 : Nat → Int32) => wpX5_wire (fun (r_3 : Int32) (M_refused_4 : Nat → Int32) => r_1 = r_3 ∧ RL (v_T.1, T_refusals_2) v_n v_k v_s v_r (v_M.1, v_M.2.1, v_M.2.2.1, v_M.2.2.2.1, v_M.2.2.2.2.1, v_M.2.2.2.2.2.1, v_M.2.2.2.2.2.2.1, v_M.2.2.2.2.2.2.2.1, v_M.2.2.2.2.2.2.2.2.1, v_M.2.2.2.2.2.2.2.2.2.1, v_M.2.2.2.2.2.2.2.2.2.2.1, M_refused_4, v_M.2.2.2.2.2.2.2.2.2.2.2.2.1, v_M.2.2.2.2.2.2.2.2.2.2.2.2.2.1, v_M.2.2.2.2.2.2.2.2.2.2.2.2.2.2.1, v_M.2.2.2.2.2.2.2.2.2.2.2.2.2.2.2.1, v_M.2.2.2.2.2.2.2.2.2.2.2.2.2.2.2.2.1, v_M.2.2.2.2.2.2.2.2.2.2.2.2.2.2.2.2.2.1, v_M.2.2.2.2.2.2.2.2.2.2.2.2.2.2.2.2.2.2.1, v_M.2.2.2.2.2.2.2.2.2.2.2.2.2.2.2.2.2.2.2.1, v_M.2.2.2.2.2.2.2.2.2.2.2.2.2.2.2.2.2.2.2.2.1, v_M.2.2.2.2.2.2.2.2.2.2.2.2.2.2.2.2.2.2.2.2.2.1, v_M.2.2.2.2.2.2.2.2.2.2.2.2.2.2.2.2.2.2.2.2.2.2.1, v_M.2.2.2.2.2.2.2.2.2.2.2.2.2.2.2.2.2.2.2.2.2.2.2)) v_M.2.2.2.2.2.2.2.2.2.2.2.1 p0 p1) v_T.2 p0 p1
set_option maxHeartbeats 4000000 in
set_option maxRecDepth 100000 in
theorem lawC_wire {p : Program} {l : Launch} {e : Env} {s : State} {m : MethodId} {below : List Frame} {meth : Method} {c : Code} {Q : State → Prop} {b L : Nat} {xs : Nat → Int32} {D : va_G} {cI cJ cC : ClassId} {G : Nat → Nat → Nat} {a_T a_n a_k a_t a_s a_r a_c a_M : Nat → Nat} (RL : RT) (hp : PH_wire RL) (S : CallFix p m c code 4 s #[Value.ref b] bg R_law) (hX : va_X b L xs s s.heap) (hbl : b < s.heap.size) (hK : va_K D vwCl (tz cI cJ cC) s) (hLC : LC a_T a_n a_k a_t a_s a_r a_c a_M (fun q : Nat => s.heap.size ≤ q)) (hE : EV G (fun q : Nat => s.heap.size ≤ q) s) {i : Nat} {x3 : Int32} (hi : ∀ k : Nat, k < 4 → vp_in (x3 + Int32.ofNat k) L) (hv : ∀ k : Nat, k < 4 → xs (x3 + Int32.ofNat k).toNatClampNeg = xs (i + k)) {H : Heap} {locs : List Loc} {ls : Array Slot} (hJ : JW RL D cI cJ cC a_T a_n a_k a_t a_s a_r a_c a_M H) (hS : va_S (fun q : Nat => s.heap.size ≤ q) s.heap H locs) (hl : lv_has ls 4 [(0, .ref b), (1, .ref (a_T 0)), (2, .ref (a_M 0)), (3, .int x3)])
    (hnext : ∀ (H : Heap) (locs : List Loc) (ls : Array Slot), JW RL D cI cJ cC a_T a_n a_k a_t a_s a_r a_c a_M H → va_S (fun q : Nat => s.heap.size ≤ q) s.heap H locs → lv_has ls 4 [(0, .ref b), (1, .ref (a_T 0)), (2, .ref (a_M 0)), (3, .int x3)] → W p l e room_1 s m #[Value.ref b] below meth c H locs 41 1350 Q (F0 m 1171 ls [])) : W p l e room_1 s m #[Value.ref b] below meth c H locs 41 1350 Q (F0 m 906 ls []) := by
  obtain ⟨hx, hb, hml, hown, ht⟩ := id S
  have hA : ∀ q : Nat, s.heap.size ≤ q → (fun q : Nat => s.heap.size ≤ q) q := fun _ h => h
  have hbA : ¬ (fun q : Nat => s.heap.size ≤ q) b := Nat.not_le.mpr hbl
  obtain ⟨v_T, v_n, v_k, v_t, v_s, v_r, v_c, v_M, hR, hP_T, hP_n, hP_k, hP_t, hP_s, hP_r, hP_c, hP_M⟩ := hJ
  have h := hp v_T v_n v_k v_t v_s v_r v_c v_M (xs (i + 1)) (xs (i + 2)) hR
  refine lv_aload_n hx hb dL_law_906 rfl (lv_at hl 1 rfl) ?_
  refine lv_aload_n hx hb dL_law_907 rfl (lv_at hl 0 rfl) ?_
  refine lv_iload_n hx hb dL_law_908 rfl (lv_at hl 3 rfl) ?_
  refine lv_iconst (v := (1 : Int32)) hx hb dL_law_909 (by decide) ?_
  refine lv_iadd hx hb dL_law_910 ?_
  refine va_sld hx hb hX hbl hbA hS (hi 1 (by decide)) dL_law_911 ?_
  refine zti (hv 1 (by decide)) ?_
  refine lv_aload_n hx hb dL_law_912 rfl (lv_at hl 0 rfl) ?_
  refine lv_iload_n hx hb dL_law_913 rfl (lv_at hl 3 rfl) ?_
  refine lv_iconst (v := (2 : Int32)) hx hb dL_law_914 (by decide) ?_
  refine lv_iadd hx hb dL_law_915 ?_
  refine va_sld hx hb hX hbl hbA hS (hi 2 (by decide)) dL_law_916 ?_
  refine zti (hv 2 (by decide)) ?_
  have hPw : va_P D vwCl ((pX4 cI cJ cC a_T a_n a_k a_t a_s a_r a_c v_T)) _ := hP_T
  have hDw : va_D (fun q : Nat => s.heap.size ≤ q) ((pX4 cI cJ cC a_T a_n a_k a_t a_s a_r a_c v_T)) := hLC.2.2.2.2.1 _ rfl
  refine zci hA hDw hS (zrunV (As := [.int (xs (i + 1)), .int (xs (i + 2))]) (rest := []) S hK hA hE hPw hDw hS (mX4_wire l D cI cJ cC G a_T a_n a_k a_t a_s a_r a_c _ v_T.1 v_T.2 (xs (i + 1)) (xs (i + 2)) _ h) kX4_wire ml_L_127 ⟨rfl, rfl, by decide, by decide⟩ (q0 := 0) (ci := 4) rfl rfl rfl rfl hl.1 rfl (Nat.le_of_ble_eq_true rfl) dL_law_917 ⟨by decide, by decide⟩) (fun r_1 T_refusals_2 H locs h hP1 hk1 hS => ?_)
  try dsimp only at h
  have hP_T : va_P D vwCl (bX4 cI cJ cC a_T a_n a_k a_t a_s a_r a_c v_T.1 T_refusals_2) H := hP1
  have hP_n : va_P D vwCl (pX3 cI cJ cC a_n v_n) H := zKeepB hP_n hk1 (hLC.1 1 0 (by decide) (by decide) (by decide))
  have hP_k : va_P D vwCl (pX3 cI cJ cC a_k v_k) H := zKeepB hP_k hk1 (hLC.1 2 0 (by decide) (by decide) (by decide))
  have hP_t : va_P D vwCl (pX3 cI cJ cC a_t v_t) H := zKeepB hP_t hk1 (hLC.1 3 0 (by decide) (by decide) (by decide))
  have hP_s : va_P D vwCl (pX2 cI cJ cC a_s v_s) H := zKeepB hP_s hk1 (hLC.1 4 0 (by decide) (by decide) (by decide))
  have hP_r : va_P D vwCl (pX0 cI cJ cC a_r v_r) H := zKeepB hP_r hk1 (hLC.1 5 0 (by decide) (by decide) (by decide))
  have hP_c : va_P D vwCl (pX1 cI cJ cC a_c v_c) H := zKeepB hP_c hk1 (hLC.1 6 0 (by decide) (by decide) (by decide))
  have hP_M : va_P D vwCl (pX5 cI cJ cC a_M v_M) H := zKeepB hP_M hk1 (hLC.1 7 0 (by decide) (by decide) (by decide))
  refine lv_aload_n hx hb dL_law_920 rfl (lv_at hl 2 rfl) ?_
  refine lv_aload_n hx hb dL_law_921 rfl (lv_at hl 0 rfl) ?_
  refine lv_iload_n hx hb dL_law_922 rfl (lv_at hl 3 rfl) ?_
  refine lv_iconst (v := (1 : Int32)) hx hb dL_law_923 (by decide) ?_
  refine lv_iadd hx hb dL_law_924 ?_
  refine va_sld hx hb hX hbl hbA hS (hi 1 (by decide)) dL_law_925 ?_
  refine zti (hv 1 (by decide)) ?_
  refine lv_aload_n hx hb dL_law_926 rfl (lv_at hl 0 rfl) ?_
  refine lv_iload_n hx hb dL_law_927 rfl (lv_at hl 3 rfl) ?_
  refine lv_iconst (v := (2 : Int32)) hx hb dL_law_928 (by decide) ?_
  refine lv_iadd hx hb dL_law_929 ?_
  refine va_sld hx hb hX hbl hbA hS (hi 2 (by decide)) dL_law_930 ?_
  refine zti (hv 2 (by decide)) ?_
  have hPw : va_P D vwCl ((pX5 cI cJ cC a_M v_M)) _ := hP_M
  have hDw : va_D (fun q : Nat => s.heap.size ≤ q) ((pX5 cI cJ cC a_M v_M)) := hLC.2.2.2.2.2.2.2.2.2.2.2 _ rfl
  refine zci hA hDw hS (zrunV (As := [.int (xs (i + 1)), .int (xs (i + 2))]) (rest := [.int r_1]) S hK hA hE hPw hDw hS (mX5_wire l D cI cJ cC G a_M _ v_M.1 v_M.2.1 v_M.2.2.1 v_M.2.2.2.1 v_M.2.2.2.2.1 v_M.2.2.2.2.2.1 v_M.2.2.2.2.2.2.1 v_M.2.2.2.2.2.2.2.1 v_M.2.2.2.2.2.2.2.2.1 v_M.2.2.2.2.2.2.2.2.2.1 v_M.2.2.2.2.2.2.2.2.2.2.1 v_M.2.2.2.2.2.2.2.2.2.2.2.1 v_M.2.2.2.2.2.2.2.2.2.2.2.2.1 v_M.2.2.2.2.2.2.2.2.2.2.2.2.2.1 v_M.2.2.2.2.2.2.2.2.2.2.2.2.2.2.1 v_M.2.2.2.2.2.2.2.2.2.2.2.2.2.2.2.1 v_M.2.2.2.2.2.2.2.2.2.2.2.2.2.2.2.2.1 v_M.2.2.2.2.2.2.2.2.2.2.2.2.2.2.2.2.2.1 v_M.2.2.2.2.2.2.2.2.2.2.2.2.2.2.2.2.2.2.1 v_M.2.2.2.2.2.2.2.2.2.2.2.2.2.2.2.2.2.2.2.1 v_M.2.2.2.2.2.2.2.2.2.2.2.2.2.2.2.2.2.2.2.2.1 v_M.2.2.2.2.2.2.2.2.2.2.2.2.2.2.2.2.2.2.2.2.2.1 v_M.2.2.2.2.2.2.2.2.2.2.2.2.2.2.2.2.2.2.2.2.2.2.1 v_M.2.2.2.2.2.2.2.2.2.2.2.2.2.2.2.2.2.2.2.2.2.2.2 (xs (i + 1)) (xs (i + 2)) _ h) kX5_wire ml_L_130 ⟨rfl, rfl, by decide, by decide⟩ (q0 := 0) (ci := 5) rfl rfl rfl rfl hl.1 rfl (Nat.le_of_ble_eq_true rfl) dL_law_931 ⟨by decide, by decide⟩) (fun r_3 M_refused_4 H locs h hP1 hk1 hS => ?_)
  try dsimp only at h
  have hP_M : va_P D vwCl (bX5 cI cJ cC a_M v_M.1 v_M.2.1 v_M.2.2.1 v_M.2.2.2.1 v_M.2.2.2.2.1 v_M.2.2.2.2.2.1 v_M.2.2.2.2.2.2.1 v_M.2.2.2.2.2.2.2.1 v_M.2.2.2.2.2.2.2.2.1 v_M.2.2.2.2.2.2.2.2.2.1 v_M.2.2.2.2.2.2.2.2.2.2.1 M_refused_4 v_M.2.2.2.2.2.2.2.2.2.2.2.2.1 v_M.2.2.2.2.2.2.2.2.2.2.2.2.2.1 v_M.2.2.2.2.2.2.2.2.2.2.2.2.2.2.1 v_M.2.2.2.2.2.2.2.2.2.2.2.2.2.2.2.1 v_M.2.2.2.2.2.2.2.2.2.2.2.2.2.2.2.2.1 v_M.2.2.2.2.2.2.2.2.2.2.2.2.2.2.2.2.2.1 v_M.2.2.2.2.2.2.2.2.2.2.2.2.2.2.2.2.2.2.1 v_M.2.2.2.2.2.2.2.2.2.2.2.2.2.2.2.2.2.2.2.1 v_M.2.2.2.2.2.2.2.2.2.2.2.2.2.2.2.2.2.2.2.2.1 v_M.2.2.2.2.2.2.2.2.2.2.2.2.2.2.2.2.2.2.2.2.2.1 v_M.2.2.2.2.2.2.2.2.2.2.2.2.2.2.2.2.2.2.2.2.2.2.1 v_M.2.2.2.2.2.2.2.2.2.2.2.2.2.2.2.2.2.2.2.2.2.2.2) H := hP1
  have hP_T : va_P D vwCl (bX4 cI cJ cC a_T a_n a_k a_t a_s a_r a_c v_T.1 T_refusals_2) H := zKeepB hP_T hk1 (hLC.1 0 7 (by decide) (by decide) (by decide))
  have hP_n : va_P D vwCl (pX3 cI cJ cC a_n v_n) H := zKeepB hP_n hk1 (hLC.1 1 7 (by decide) (by decide) (by decide))
  have hP_k : va_P D vwCl (pX3 cI cJ cC a_k v_k) H := zKeepB hP_k hk1 (hLC.1 2 7 (by decide) (by decide) (by decide))
  have hP_t : va_P D vwCl (pX3 cI cJ cC a_t v_t) H := zKeepB hP_t hk1 (hLC.1 3 7 (by decide) (by decide) (by decide))
  have hP_s : va_P D vwCl (pX2 cI cJ cC a_s v_s) H := zKeepB hP_s hk1 (hLC.1 4 7 (by decide) (by decide) (by decide))
  have hP_r : va_P D vwCl (pX0 cI cJ cC a_r v_r) H := zKeepB hP_r hk1 (hLC.1 5 7 (by decide) (by decide) (by decide))
  have hP_c : va_P D vwCl (pX1 cI cJ cC a_c v_c) H := zKeepB hP_c hk1 (hLC.1 6 7 (by decide) (by decide) (by decide))
  refine lv_icmp_eq (tgt := 1171) hx hb dL_law_934 (by decide) (fun z => ?_) (fun z => absurd h.1 z)
  exact hnext _ _ _ ⟨(v_T.1, T_refusals_2), v_n, v_k, v_t, v_s, v_r, v_c, (v_M.1, v_M.2.1, v_M.2.2.1, v_M.2.2.2.1, v_M.2.2.2.2.1, v_M.2.2.2.2.2.1, v_M.2.2.2.2.2.2.1, v_M.2.2.2.2.2.2.2.1, v_M.2.2.2.2.2.2.2.2.1, v_M.2.2.2.2.2.2.2.2.2.1, v_M.2.2.2.2.2.2.2.2.2.2.1, M_refused_4, v_M.2.2.2.2.2.2.2.2.2.2.2.2.1, v_M.2.2.2.2.2.2.2.2.2.2.2.2.2.1, v_M.2.2.2.2.2.2.2.2.2.2.2.2.2.2.1, v_M.2.2.2.2.2.2.2.2.2.2.2.2.2.2.2.1, v_M.2.2.2.2.2.2.2.2.2.2.2.2.2.2.2.2.1, v_M.2.2.2.2.2.2.2.2.2.2.2.2.2.2.2.2.2.1, v_M.2.2.2.2.2.2.2.2.2.2.2.2.2.2.2.2.2.2.1, v_M.2.2.2.2.2.2.2.2.2.2.2.2.2.2.2.2.2.2.2.1, v_M.2.2.2.2.2.2.2.2.2.2.2.2.2.2.2.2.2.2.2.2.1, v_M.2.2.2.2.2.2.2.2.2.2.2.2.2.2.2.2.2.2.2.2.2.1, v_M.2.2.2.2.2.2.2.2.2.2.2.2.2.2.2.2.2.2.2.2.2.2.1, v_M.2.2.2.2.2.2.2.2.2.2.2.2.2.2.2.2.2.2.2.2.2.2.2), h.2, hP_T, hP_n, hP_k, hP_t, hP_s, hP_r, hP_c, hP_M⟩ hS hl
def PH_twin (RL : RT) : Prop := ∀ (v_T : PX4) (v_n : PX3) (v_k : PX3) (v_t : PX3) (v_s : PX2) (v_r : PX0) (v_c : PX1) (v_M : PX5) (p0 : Int32), RL v_T v_n v_k v_s v_r v_M → wpX4_twin (fun (r_1 : Int32) (T_refusals_2 : Nat → Int32) => wpX5_twin (fun (r_3 : Int32) (M_refused_4 : Nat → Int32) => r_1 = r_3 ∧ RL (v_T.1, T_refusals_2) v_n v_k v_s v_r (v_M.1, v_M.2.1, v_M.2.2.1, v_M.2.2.2.1, v_M.2.2.2.2.1, v_M.2.2.2.2.2.1, v_M.2.2.2.2.2.2.1, v_M.2.2.2.2.2.2.2.1, v_M.2.2.2.2.2.2.2.2.1, v_M.2.2.2.2.2.2.2.2.2.1, v_M.2.2.2.2.2.2.2.2.2.2.1, M_refused_4, v_M.2.2.2.2.2.2.2.2.2.2.2.2.1, v_M.2.2.2.2.2.2.2.2.2.2.2.2.2.1, v_M.2.2.2.2.2.2.2.2.2.2.2.2.2.2.1, v_M.2.2.2.2.2.2.2.2.2.2.2.2.2.2.2.1, v_M.2.2.2.2.2.2.2.2.2.2.2.2.2.2.2.2.1, v_M.2.2.2.2.2.2.2.2.2.2.2.2.2.2.2.2.2.1, v_M.2.2.2.2.2.2.2.2.2.2.2.2.2.2.2.2.2.2.1, v_M.2.2.2.2.2.2.2.2.2.2.2.2.2.2.2.2.2.2.2.1, v_M.2.2.2.2.2.2.2.2.2.2.2.2.2.2.2.2.2.2.2.2.1, v_M.2.2.2.2.2.2.2.2.2.2.2.2.2.2.2.2.2.2.2.2.2.1, v_M.2.2.2.2.2.2.2.2.2.2.2.2.2.2.2.2.2.2.2.2.2.2.1, v_M.2.2.2.2.2.2.2.2.2.2.2.2.2.2.2.2.2.2.2.2.2.2.2)) v_M.2.2.2.2.2.2.2.2.2.2.2.1 v_M.2.2.2.2.2.2.2.2.2.2.2.2.1 v_M.2.2.2.2.2.2.2.2.2.2.2.2.2.2.2.2.1 p0) v_T.2 v_n.2.2.2.2.2.2.2.2.1 v_n.2.2.2.2.2.2.2.2.2.2.2.2.1 p0
set_option maxHeartbeats 4000000 in
set_option maxRecDepth 100000 in
theorem lawC_twin {p : Program} {l : Launch} {e : Env} {s : State} {m : MethodId} {below : List Frame} {meth : Method} {c : Code} {Q : State → Prop} {b L : Nat} {xs : Nat → Int32} {D : va_G} {cI cJ cC : ClassId} {G : Nat → Nat → Nat} {a_T a_n a_k a_t a_s a_r a_c a_M : Nat → Nat} (RL : RT) (hp : PH_twin RL) (S : CallFix p m c code 4 s #[Value.ref b] bg R_law) (hX : va_X b L xs s s.heap) (hbl : b < s.heap.size) (hK : va_K D vwCl (tz cI cJ cC) s) (hLC : LC a_T a_n a_k a_t a_s a_r a_c a_M (fun q : Nat => s.heap.size ≤ q)) (hE : EV G (fun q : Nat => s.heap.size ≤ q) s) {i : Nat} {x3 : Int32} (hi : ∀ k : Nat, k < 4 → vp_in (x3 + Int32.ofNat k) L) (hv : ∀ k : Nat, k < 4 → xs (x3 + Int32.ofNat k).toNatClampNeg = xs (i + k)) {H : Heap} {locs : List Loc} {ls : Array Slot} (hJ : JW RL D cI cJ cC a_T a_n a_k a_t a_s a_r a_c a_M H) (hS : va_S (fun q : Nat => s.heap.size ≤ q) s.heap H locs) (hl : lv_has ls 4 [(0, .ref b), (1, .ref (a_T 0)), (2, .ref (a_M 0)), (3, .int x3)])
    (hnext : ∀ (H : Heap) (locs : List Loc) (ls : Array Slot), JW RL D cI cJ cC a_T a_n a_k a_t a_s a_r a_c a_M H → va_S (fun q : Nat => s.heap.size ≤ q) s.heap H locs → lv_has ls 4 [(0, .ref b), (1, .ref (a_T 0)), (2, .ref (a_M 0)), (3, .int x3)] → W p l e room_1 s m #[Value.ref b] below meth c H locs 41 1350 Q (F0 m 1171 ls [])) : W p l e room_1 s m #[Value.ref b] below meth c H locs 41 1350 Q (F0 m 939 ls []) := by
  obtain ⟨hx, hb, hml, hown, ht⟩ := id S
  have hA : ∀ q : Nat, s.heap.size ≤ q → (fun q : Nat => s.heap.size ≤ q) q := fun _ h => h
  have hbA : ¬ (fun q : Nat => s.heap.size ≤ q) b := Nat.not_le.mpr hbl
  obtain ⟨v_T, v_n, v_k, v_t, v_s, v_r, v_c, v_M, hR, hP_T, hP_n, hP_k, hP_t, hP_s, hP_r, hP_c, hP_M⟩ := hJ
  have h := hp v_T v_n v_k v_t v_s v_r v_c v_M (xs (i + 1)) hR
  refine lv_aload_n hx hb dL_law_939 rfl (lv_at hl 1 rfl) ?_
  refine lv_aload_n hx hb dL_law_940 rfl (lv_at hl 0 rfl) ?_
  refine lv_iload_n hx hb dL_law_941 rfl (lv_at hl 3 rfl) ?_
  refine lv_iconst (v := (1 : Int32)) hx hb dL_law_942 (by decide) ?_
  refine lv_iadd hx hb dL_law_943 ?_
  refine va_sld hx hb hX hbl hbA hS (hi 1 (by decide)) dL_law_944 ?_
  refine zti (hv 1 (by decide)) ?_
  have hPw : va_P D vwCl ((pX4 cI cJ cC a_T a_n a_k a_t a_s a_r a_c v_T) ++ (pX3 cI cJ cC a_n v_n)) _ := (hP_T.app hP_n)
  have hDw : va_D (fun q : Nat => s.heap.size ≤ q) ((pX4 cI cJ cC a_T a_n a_k a_t a_s a_r a_c v_T) ++ (pX3 cI cJ cC a_n v_n)) := hLC.2.2.2.1 _ rfl
  refine zci hA hDw hS (zrunV (As := [.int (xs (i + 1))]) (rest := []) S hK hA hE hPw hDw hS (mX4_twin l D cI cJ cC G a_T a_n a_k a_t a_s a_r a_c _ v_T.1 v_T.2 v_n.1 v_n.2.1 v_n.2.2.1 v_n.2.2.2.1 v_n.2.2.2.2.1 v_n.2.2.2.2.2.1 v_n.2.2.2.2.2.2.1 v_n.2.2.2.2.2.2.2.1 v_n.2.2.2.2.2.2.2.2.1 v_n.2.2.2.2.2.2.2.2.2.1 v_n.2.2.2.2.2.2.2.2.2.2.1 v_n.2.2.2.2.2.2.2.2.2.2.2.1 v_n.2.2.2.2.2.2.2.2.2.2.2.2.1 v_n.2.2.2.2.2.2.2.2.2.2.2.2.2 (xs (i + 1)) _ h) kX4_twin ml_L_131 ⟨rfl, rfl, by decide, by decide⟩ (q0 := 0) (ci := 4) rfl rfl rfl rfl hl.1 rfl (Nat.le_of_ble_eq_true rfl) dL_law_945 ⟨by decide, by decide⟩) (fun r_1 T_refusals_2 H locs h hP1 hk1 hS => ?_)
  try dsimp only at h
  have hP_n : va_P D vwCl (pX3 cI cJ cC a_n v_n) H := zPr hP1
  have hP_T : va_P D vwCl (bX4 cI cJ cC a_T a_n a_k a_t a_s a_r a_c v_T.1 T_refusals_2) H := zPl (hP1)
  have hP_k : va_P D vwCl (pX3 cI cJ cC a_k v_k) H := zKeepB hP_k hk1 (dj_app (hLC.1 2 0 (by decide) (by decide) (by decide)) (hLC.1 2 1 (by decide) (by decide) (by decide)))
  have hP_t : va_P D vwCl (pX3 cI cJ cC a_t v_t) H := zKeepB hP_t hk1 (dj_app (hLC.1 3 0 (by decide) (by decide) (by decide)) (hLC.1 3 1 (by decide) (by decide) (by decide)))
  have hP_s : va_P D vwCl (pX2 cI cJ cC a_s v_s) H := zKeepB hP_s hk1 (dj_app (hLC.1 4 0 (by decide) (by decide) (by decide)) (hLC.1 4 1 (by decide) (by decide) (by decide)))
  have hP_r : va_P D vwCl (pX0 cI cJ cC a_r v_r) H := zKeepB hP_r hk1 (dj_app (hLC.1 5 0 (by decide) (by decide) (by decide)) (hLC.1 5 1 (by decide) (by decide) (by decide)))
  have hP_c : va_P D vwCl (pX1 cI cJ cC a_c v_c) H := zKeepB hP_c hk1 (dj_app (hLC.1 6 0 (by decide) (by decide) (by decide)) (hLC.1 6 1 (by decide) (by decide) (by decide)))
  have hP_M : va_P D vwCl (pX5 cI cJ cC a_M v_M) H := zKeepB hP_M hk1 (dj_app (hLC.1 7 0 (by decide) (by decide) (by decide)) (hLC.1 7 1 (by decide) (by decide) (by decide)))
  refine lv_aload_n hx hb dL_law_948 rfl (lv_at hl 2 rfl) ?_
  refine lv_aload_n hx hb dL_law_949 rfl (lv_at hl 0 rfl) ?_
  refine lv_iload_n hx hb dL_law_950 rfl (lv_at hl 3 rfl) ?_
  refine lv_iconst (v := (1 : Int32)) hx hb dL_law_951 (by decide) ?_
  refine lv_iadd hx hb dL_law_952 ?_
  refine va_sld hx hb hX hbl hbA hS (hi 1 (by decide)) dL_law_953 ?_
  refine zti (hv 1 (by decide)) ?_
  have hPw : va_P D vwCl ((pX5 cI cJ cC a_M v_M)) _ := hP_M
  have hDw : va_D (fun q : Nat => s.heap.size ≤ q) ((pX5 cI cJ cC a_M v_M)) := hLC.2.2.2.2.2.2.2.2.2.2.2 _ rfl
  refine zci hA hDw hS (zrunV (As := [.int (xs (i + 1))]) (rest := [.int r_1]) S hK hA hE hPw hDw hS (mX5_twin l D cI cJ cC G a_M _ v_M.1 v_M.2.1 v_M.2.2.1 v_M.2.2.2.1 v_M.2.2.2.2.1 v_M.2.2.2.2.2.1 v_M.2.2.2.2.2.2.1 v_M.2.2.2.2.2.2.2.1 v_M.2.2.2.2.2.2.2.2.1 v_M.2.2.2.2.2.2.2.2.2.1 v_M.2.2.2.2.2.2.2.2.2.2.1 v_M.2.2.2.2.2.2.2.2.2.2.2.1 v_M.2.2.2.2.2.2.2.2.2.2.2.2.1 v_M.2.2.2.2.2.2.2.2.2.2.2.2.2.1 v_M.2.2.2.2.2.2.2.2.2.2.2.2.2.2.1 v_M.2.2.2.2.2.2.2.2.2.2.2.2.2.2.2.1 v_M.2.2.2.2.2.2.2.2.2.2.2.2.2.2.2.2.1 v_M.2.2.2.2.2.2.2.2.2.2.2.2.2.2.2.2.2.1 v_M.2.2.2.2.2.2.2.2.2.2.2.2.2.2.2.2.2.2.1 v_M.2.2.2.2.2.2.2.2.2.2.2.2.2.2.2.2.2.2.2.1 v_M.2.2.2.2.2.2.2.2.2.2.2.2.2.2.2.2.2.2.2.2.1 v_M.2.2.2.2.2.2.2.2.2.2.2.2.2.2.2.2.2.2.2.2.2.1 v_M.2.2.2.2.2.2.2.2.2.2.2.2.2.2.2.2.2.2.2.2.2.2.1 v_M.2.2.2.2.2.2.2.2.2.2.2.2.2.2.2.2.2.2.2.2.2.2.2 (xs (i + 1)) _ h) kX5_twin ml_L_134 ⟨rfl, rfl, by decide, by decide⟩ (q0 := 0) (ci := 5) rfl rfl rfl rfl hl.1 rfl (Nat.le_of_ble_eq_true rfl) dL_law_954 ⟨by decide, by decide⟩) (fun r_3 M_refused_4 H locs h hP1 hk1 hS => ?_)
  try dsimp only at h
  have hP_M : va_P D vwCl (bX5 cI cJ cC a_M v_M.1 v_M.2.1 v_M.2.2.1 v_M.2.2.2.1 v_M.2.2.2.2.1 v_M.2.2.2.2.2.1 v_M.2.2.2.2.2.2.1 v_M.2.2.2.2.2.2.2.1 v_M.2.2.2.2.2.2.2.2.1 v_M.2.2.2.2.2.2.2.2.2.1 v_M.2.2.2.2.2.2.2.2.2.2.1 M_refused_4 v_M.2.2.2.2.2.2.2.2.2.2.2.2.1 v_M.2.2.2.2.2.2.2.2.2.2.2.2.2.1 v_M.2.2.2.2.2.2.2.2.2.2.2.2.2.2.1 v_M.2.2.2.2.2.2.2.2.2.2.2.2.2.2.2.1 v_M.2.2.2.2.2.2.2.2.2.2.2.2.2.2.2.2.1 v_M.2.2.2.2.2.2.2.2.2.2.2.2.2.2.2.2.2.1 v_M.2.2.2.2.2.2.2.2.2.2.2.2.2.2.2.2.2.2.1 v_M.2.2.2.2.2.2.2.2.2.2.2.2.2.2.2.2.2.2.2.1 v_M.2.2.2.2.2.2.2.2.2.2.2.2.2.2.2.2.2.2.2.2.1 v_M.2.2.2.2.2.2.2.2.2.2.2.2.2.2.2.2.2.2.2.2.2.1 v_M.2.2.2.2.2.2.2.2.2.2.2.2.2.2.2.2.2.2.2.2.2.2.1 v_M.2.2.2.2.2.2.2.2.2.2.2.2.2.2.2.2.2.2.2.2.2.2.2) H := hP1
  have hP_T : va_P D vwCl (bX4 cI cJ cC a_T a_n a_k a_t a_s a_r a_c v_T.1 T_refusals_2) H := zKeepB hP_T hk1 (hLC.1 0 7 (by decide) (by decide) (by decide))
  have hP_n : va_P D vwCl (pX3 cI cJ cC a_n v_n) H := zKeepB hP_n hk1 (hLC.1 1 7 (by decide) (by decide) (by decide))
  have hP_k : va_P D vwCl (pX3 cI cJ cC a_k v_k) H := zKeepB hP_k hk1 (hLC.1 2 7 (by decide) (by decide) (by decide))
  have hP_t : va_P D vwCl (pX3 cI cJ cC a_t v_t) H := zKeepB hP_t hk1 (hLC.1 3 7 (by decide) (by decide) (by decide))
  have hP_s : va_P D vwCl (pX2 cI cJ cC a_s v_s) H := zKeepB hP_s hk1 (hLC.1 4 7 (by decide) (by decide) (by decide))
  have hP_r : va_P D vwCl (pX0 cI cJ cC a_r v_r) H := zKeepB hP_r hk1 (hLC.1 5 7 (by decide) (by decide) (by decide))
  have hP_c : va_P D vwCl (pX1 cI cJ cC a_c v_c) H := zKeepB hP_c hk1 (hLC.1 6 7 (by decide) (by decide) (by decide))
  refine lv_icmp_eq (tgt := 1171) hx hb dL_law_957 (by decide) (fun z => ?_) (fun z => absurd h.1 z)
  exact hnext _ _ _ ⟨(v_T.1, T_refusals_2), v_n, v_k, v_t, v_s, v_r, v_c, (v_M.1, v_M.2.1, v_M.2.2.1, v_M.2.2.2.1, v_M.2.2.2.2.1, v_M.2.2.2.2.2.1, v_M.2.2.2.2.2.2.1, v_M.2.2.2.2.2.2.2.1, v_M.2.2.2.2.2.2.2.2.1, v_M.2.2.2.2.2.2.2.2.2.1, v_M.2.2.2.2.2.2.2.2.2.2.1, M_refused_4, v_M.2.2.2.2.2.2.2.2.2.2.2.2.1, v_M.2.2.2.2.2.2.2.2.2.2.2.2.2.1, v_M.2.2.2.2.2.2.2.2.2.2.2.2.2.2.1, v_M.2.2.2.2.2.2.2.2.2.2.2.2.2.2.2.1, v_M.2.2.2.2.2.2.2.2.2.2.2.2.2.2.2.2.1, v_M.2.2.2.2.2.2.2.2.2.2.2.2.2.2.2.2.2.1, v_M.2.2.2.2.2.2.2.2.2.2.2.2.2.2.2.2.2.2.1, v_M.2.2.2.2.2.2.2.2.2.2.2.2.2.2.2.2.2.2.2.1, v_M.2.2.2.2.2.2.2.2.2.2.2.2.2.2.2.2.2.2.2.2.1, v_M.2.2.2.2.2.2.2.2.2.2.2.2.2.2.2.2.2.2.2.2.2.1, v_M.2.2.2.2.2.2.2.2.2.2.2.2.2.2.2.2.2.2.2.2.2.2.1, v_M.2.2.2.2.2.2.2.2.2.2.2.2.2.2.2.2.2.2.2.2.2.2.2), h.2, hP_T, hP_n, hP_k, hP_t, hP_s, hP_r, hP_c, hP_M⟩ hS hl
def PH_twinLikely (RL : RT) : Prop := ∀ (v_T : PX4) (v_n : PX3) (v_k : PX3) (v_t : PX3) (v_s : PX2) (v_r : PX0) (v_c : PX1) (v_M : PX5) (p0 : Int32) (p1 : Int32) (p2 : Int32), RL v_T v_n v_k v_s v_r v_M → wpX4_twinLikely (fun (r_1 : Int64) (T_refusals_2 : Nat → Int32) => wpX5_twinLikely (fun (r_3 : Int64) (M_refused_4 : Nat → Int32) => r_1 = r_3 ∧ RL (v_T.1, T_refusals_2) v_n v_k v_s v_r (v_M.1, v_M.2.1, v_M.2.2.1, v_M.2.2.2.1, v_M.2.2.2.2.1, v_M.2.2.2.2.2.1, v_M.2.2.2.2.2.2.1, v_M.2.2.2.2.2.2.2.1, v_M.2.2.2.2.2.2.2.2.1, v_M.2.2.2.2.2.2.2.2.2.1, v_M.2.2.2.2.2.2.2.2.2.2.1, M_refused_4, v_M.2.2.2.2.2.2.2.2.2.2.2.2.1, v_M.2.2.2.2.2.2.2.2.2.2.2.2.2.1, v_M.2.2.2.2.2.2.2.2.2.2.2.2.2.2.1, v_M.2.2.2.2.2.2.2.2.2.2.2.2.2.2.2.1, v_M.2.2.2.2.2.2.2.2.2.2.2.2.2.2.2.2.1, v_M.2.2.2.2.2.2.2.2.2.2.2.2.2.2.2.2.2.1, v_M.2.2.2.2.2.2.2.2.2.2.2.2.2.2.2.2.2.2.1, v_M.2.2.2.2.2.2.2.2.2.2.2.2.2.2.2.2.2.2.2.1, v_M.2.2.2.2.2.2.2.2.2.2.2.2.2.2.2.2.2.2.2.2.1, v_M.2.2.2.2.2.2.2.2.2.2.2.2.2.2.2.2.2.2.2.2.2.1, v_M.2.2.2.2.2.2.2.2.2.2.2.2.2.2.2.2.2.2.2.2.2.2.1, v_M.2.2.2.2.2.2.2.2.2.2.2.2.2.2.2.2.2.2.2.2.2.2.2)) v_M.2.2.2.2.2.2.2.2.2.2.2.1 v_M.2.2.2.2.2.2.2.2.2.2.2.2.1 v_M.2.2.2.2.2.2.2.2.2.2.2.2.2.2.2.2.1 p0 p1 p2) v_T.2 v_n.2.2.2.2.2.2.2.2.2.2.2.1 v_n.2.2.2.2.2.2.2.2.2.2.2.2.1 v_n.2.2.2.2.2.2.2.2.2.2.2.2.2 p0 p1 p2
set_option maxHeartbeats 4000000 in
set_option maxRecDepth 100000 in
theorem lawC_twinLikely {p : Program} {l : Launch} {e : Env} {s : State} {m : MethodId} {below : List Frame} {meth : Method} {c : Code} {Q : State → Prop} {b L : Nat} {xs : Nat → Int32} {D : va_G} {cI cJ cC : ClassId} {G : Nat → Nat → Nat} {a_T a_n a_k a_t a_s a_r a_c a_M : Nat → Nat} (RL : RT) (hp : PH_twinLikely RL) (S : CallFix p m c code 4 s #[Value.ref b] bg R_law) (hX : va_X b L xs s s.heap) (hbl : b < s.heap.size) (hK : va_K D vwCl (tz cI cJ cC) s) (hLC : LC a_T a_n a_k a_t a_s a_r a_c a_M (fun q : Nat => s.heap.size ≤ q)) (hE : EV G (fun q : Nat => s.heap.size ≤ q) s) {i : Nat} {x3 : Int32} (hi : ∀ k : Nat, k < 4 → vp_in (x3 + Int32.ofNat k) L) (hv : ∀ k : Nat, k < 4 → xs (x3 + Int32.ofNat k).toNatClampNeg = xs (i + k)) {H : Heap} {locs : List Loc} {ls : Array Slot} (hJ : JW RL D cI cJ cC a_T a_n a_k a_t a_s a_r a_c a_M H) (hS : va_S (fun q : Nat => s.heap.size ≤ q) s.heap H locs) (hl : lv_has ls 4 [(0, .ref b), (1, .ref (a_T 0)), (2, .ref (a_M 0)), (3, .int x3)])
    (hnext : ∀ (H : Heap) (locs : List Loc) (ls : Array Slot), JW RL D cI cJ cC a_T a_n a_k a_t a_s a_r a_c a_M H → va_S (fun q : Nat => s.heap.size ≤ q) s.heap H locs → lv_has ls 4 [(0, .ref b), (1, .ref (a_T 0)), (2, .ref (a_M 0)), (3, .int x3)] → W p l e room_1 s m #[Value.ref b] below meth c H locs 41 1350 Q (F0 m 1171 ls [])) : W p l e room_1 s m #[Value.ref b] below meth c H locs 41 1350 Q (F0 m 962 ls []) := by
  obtain ⟨hx, hb, hml, hown, ht⟩ := id S
  have hA : ∀ q : Nat, s.heap.size ≤ q → (fun q : Nat => s.heap.size ≤ q) q := fun _ h => h
  have hbA : ¬ (fun q : Nat => s.heap.size ≤ q) b := Nat.not_le.mpr hbl
  obtain ⟨v_T, v_n, v_k, v_t, v_s, v_r, v_c, v_M, hR, hP_T, hP_n, hP_k, hP_t, hP_s, hP_r, hP_c, hP_M⟩ := hJ
  have h := hp v_T v_n v_k v_t v_s v_r v_c v_M (xs (i + 1)) (xs (i + 2)) (xs (i + 3)) hR
  refine lv_aload_n hx hb dL_law_962 rfl (lv_at hl 1 rfl) ?_
  refine lv_aload_n hx hb dL_law_963 rfl (lv_at hl 0 rfl) ?_
  refine lv_iload_n hx hb dL_law_964 rfl (lv_at hl 3 rfl) ?_
  refine lv_iconst (v := (1 : Int32)) hx hb dL_law_965 (by decide) ?_
  refine lv_iadd hx hb dL_law_966 ?_
  refine va_sld hx hb hX hbl hbA hS (hi 1 (by decide)) dL_law_967 ?_
  refine zti (hv 1 (by decide)) ?_
  refine lv_aload_n hx hb dL_law_968 rfl (lv_at hl 0 rfl) ?_
  refine lv_iload_n hx hb dL_law_969 rfl (lv_at hl 3 rfl) ?_
  refine lv_iconst (v := (2 : Int32)) hx hb dL_law_970 (by decide) ?_
  refine lv_iadd hx hb dL_law_971 ?_
  refine va_sld hx hb hX hbl hbA hS (hi 2 (by decide)) dL_law_972 ?_
  refine zti (hv 2 (by decide)) ?_
  refine lv_aload_n hx hb dL_law_973 rfl (lv_at hl 0 rfl) ?_
  refine lv_iload_n hx hb dL_law_974 rfl (lv_at hl 3 rfl) ?_
  refine lv_iconst (v := (3 : Int32)) hx hb dL_law_975 (by decide) ?_
  refine lv_iadd hx hb dL_law_976 ?_
  refine va_sld hx hb hX hbl hbA hS (hi 3 (by decide)) dL_law_977 ?_
  refine zti (hv 3 (by decide)) ?_
  have hPw : va_P D vwCl ((pX4 cI cJ cC a_T a_n a_k a_t a_s a_r a_c v_T) ++ (pX3 cI cJ cC a_n v_n)) _ := (hP_T.app hP_n)
  have hDw : va_D (fun q : Nat => s.heap.size ≤ q) ((pX4 cI cJ cC a_T a_n a_k a_t a_s a_r a_c v_T) ++ (pX3 cI cJ cC a_n v_n)) := hLC.2.2.2.1 _ rfl
  refine zcl hA hDw hS (zrunV (As := [.int (xs (i + 1)), .int (xs (i + 2)), .int (xs (i + 3))]) (rest := []) S hK hA hE hPw hDw hS (mX4_twinLikely l D cI cJ cC G a_T a_n a_k a_t a_s a_r a_c _ v_T.1 v_T.2 v_n.1 v_n.2.1 v_n.2.2.1 v_n.2.2.2.1 v_n.2.2.2.2.1 v_n.2.2.2.2.2.1 v_n.2.2.2.2.2.2.1 v_n.2.2.2.2.2.2.2.1 v_n.2.2.2.2.2.2.2.2.1 v_n.2.2.2.2.2.2.2.2.2.1 v_n.2.2.2.2.2.2.2.2.2.2.1 v_n.2.2.2.2.2.2.2.2.2.2.2.1 v_n.2.2.2.2.2.2.2.2.2.2.2.2.1 v_n.2.2.2.2.2.2.2.2.2.2.2.2.2 (xs (i + 1)) (xs (i + 2)) (xs (i + 3)) _ h) kX4_twinLikely ml_L_135 ⟨rfl, rfl, by decide, by decide⟩ (q0 := 0) (ci := 4) rfl rfl rfl rfl hl.1 rfl (Nat.le_of_ble_eq_true rfl) dL_law_978 ⟨by decide, by decide⟩) (fun r_1 T_refusals_2 H locs h hP1 hk1 hS => ?_)
  try dsimp only at h
  have hP_n : va_P D vwCl (pX3 cI cJ cC a_n v_n) H := zPr hP1
  have hP_T : va_P D vwCl (bX4 cI cJ cC a_T a_n a_k a_t a_s a_r a_c v_T.1 T_refusals_2) H := zPl (hP1)
  have hP_k : va_P D vwCl (pX3 cI cJ cC a_k v_k) H := zKeepB hP_k hk1 (dj_app (hLC.1 2 0 (by decide) (by decide) (by decide)) (hLC.1 2 1 (by decide) (by decide) (by decide)))
  have hP_t : va_P D vwCl (pX3 cI cJ cC a_t v_t) H := zKeepB hP_t hk1 (dj_app (hLC.1 3 0 (by decide) (by decide) (by decide)) (hLC.1 3 1 (by decide) (by decide) (by decide)))
  have hP_s : va_P D vwCl (pX2 cI cJ cC a_s v_s) H := zKeepB hP_s hk1 (dj_app (hLC.1 4 0 (by decide) (by decide) (by decide)) (hLC.1 4 1 (by decide) (by decide) (by decide)))
  have hP_r : va_P D vwCl (pX0 cI cJ cC a_r v_r) H := zKeepB hP_r hk1 (dj_app (hLC.1 5 0 (by decide) (by decide) (by decide)) (hLC.1 5 1 (by decide) (by decide) (by decide)))
  have hP_c : va_P D vwCl (pX1 cI cJ cC a_c v_c) H := zKeepB hP_c hk1 (dj_app (hLC.1 6 0 (by decide) (by decide) (by decide)) (hLC.1 6 1 (by decide) (by decide) (by decide)))
  have hP_M : va_P D vwCl (pX5 cI cJ cC a_M v_M) H := zKeepB hP_M hk1 (dj_app (hLC.1 7 0 (by decide) (by decide) (by decide)) (hLC.1 7 1 (by decide) (by decide) (by decide)))
  refine lv_aload_n hx hb dL_law_981 rfl (lv_at hl 2 rfl) ?_
  refine lv_aload_n hx hb dL_law_982 rfl (lv_at hl 0 rfl) ?_
  refine lv_iload_n hx hb dL_law_983 rfl (lv_at hl 3 rfl) ?_
  refine lv_iconst (v := (1 : Int32)) hx hb dL_law_984 (by decide) ?_
  refine lv_iadd hx hb dL_law_985 ?_
  refine va_sld hx hb hX hbl hbA hS (hi 1 (by decide)) dL_law_986 ?_
  refine zti (hv 1 (by decide)) ?_
  refine lv_aload_n hx hb dL_law_987 rfl (lv_at hl 0 rfl) ?_
  refine lv_iload_n hx hb dL_law_988 rfl (lv_at hl 3 rfl) ?_
  refine lv_iconst (v := (2 : Int32)) hx hb dL_law_989 (by decide) ?_
  refine lv_iadd hx hb dL_law_990 ?_
  refine va_sld hx hb hX hbl hbA hS (hi 2 (by decide)) dL_law_991 ?_
  refine zti (hv 2 (by decide)) ?_
  refine lv_aload_n hx hb dL_law_992 rfl (lv_at hl 0 rfl) ?_
  refine lv_iload_n hx hb dL_law_993 rfl (lv_at hl 3 rfl) ?_
  refine lv_iconst (v := (3 : Int32)) hx hb dL_law_994 (by decide) ?_
  refine lv_iadd hx hb dL_law_995 ?_
  refine va_sld hx hb hX hbl hbA hS (hi 3 (by decide)) dL_law_996 ?_
  refine zti (hv 3 (by decide)) ?_
  have hPw : va_P D vwCl ((pX5 cI cJ cC a_M v_M)) _ := hP_M
  have hDw : va_D (fun q : Nat => s.heap.size ≤ q) ((pX5 cI cJ cC a_M v_M)) := hLC.2.2.2.2.2.2.2.2.2.2.2 _ rfl
  refine zcl hA hDw hS (zrunV (As := [.int (xs (i + 1)), .int (xs (i + 2)), .int (xs (i + 3))]) (rest := [.long r_1]) S hK hA hE hPw hDw hS (mX5_twinLikely l D cI cJ cC G a_M _ v_M.1 v_M.2.1 v_M.2.2.1 v_M.2.2.2.1 v_M.2.2.2.2.1 v_M.2.2.2.2.2.1 v_M.2.2.2.2.2.2.1 v_M.2.2.2.2.2.2.2.1 v_M.2.2.2.2.2.2.2.2.1 v_M.2.2.2.2.2.2.2.2.2.1 v_M.2.2.2.2.2.2.2.2.2.2.1 v_M.2.2.2.2.2.2.2.2.2.2.2.1 v_M.2.2.2.2.2.2.2.2.2.2.2.2.1 v_M.2.2.2.2.2.2.2.2.2.2.2.2.2.1 v_M.2.2.2.2.2.2.2.2.2.2.2.2.2.2.1 v_M.2.2.2.2.2.2.2.2.2.2.2.2.2.2.2.1 v_M.2.2.2.2.2.2.2.2.2.2.2.2.2.2.2.2.1 v_M.2.2.2.2.2.2.2.2.2.2.2.2.2.2.2.2.2.1 v_M.2.2.2.2.2.2.2.2.2.2.2.2.2.2.2.2.2.2.1 v_M.2.2.2.2.2.2.2.2.2.2.2.2.2.2.2.2.2.2.2.1 v_M.2.2.2.2.2.2.2.2.2.2.2.2.2.2.2.2.2.2.2.2.1 v_M.2.2.2.2.2.2.2.2.2.2.2.2.2.2.2.2.2.2.2.2.2.1 v_M.2.2.2.2.2.2.2.2.2.2.2.2.2.2.2.2.2.2.2.2.2.2.1 v_M.2.2.2.2.2.2.2.2.2.2.2.2.2.2.2.2.2.2.2.2.2.2.2 (xs (i + 1)) (xs (i + 2)) (xs (i + 3)) _ h) kX5_twinLikely ml_L_139 ⟨rfl, rfl, by decide, by decide⟩ (q0 := 0) (ci := 5) rfl rfl rfl rfl hl.1 rfl (Nat.le_of_ble_eq_true rfl) dL_law_997 ⟨by decide, by decide⟩) (fun r_3 M_refused_4 H locs h hP1 hk1 hS => ?_)
  try dsimp only at h
  have hP_M : va_P D vwCl (bX5 cI cJ cC a_M v_M.1 v_M.2.1 v_M.2.2.1 v_M.2.2.2.1 v_M.2.2.2.2.1 v_M.2.2.2.2.2.1 v_M.2.2.2.2.2.2.1 v_M.2.2.2.2.2.2.2.1 v_M.2.2.2.2.2.2.2.2.1 v_M.2.2.2.2.2.2.2.2.2.1 v_M.2.2.2.2.2.2.2.2.2.2.1 M_refused_4 v_M.2.2.2.2.2.2.2.2.2.2.2.2.1 v_M.2.2.2.2.2.2.2.2.2.2.2.2.2.1 v_M.2.2.2.2.2.2.2.2.2.2.2.2.2.2.1 v_M.2.2.2.2.2.2.2.2.2.2.2.2.2.2.2.1 v_M.2.2.2.2.2.2.2.2.2.2.2.2.2.2.2.2.1 v_M.2.2.2.2.2.2.2.2.2.2.2.2.2.2.2.2.2.1 v_M.2.2.2.2.2.2.2.2.2.2.2.2.2.2.2.2.2.2.1 v_M.2.2.2.2.2.2.2.2.2.2.2.2.2.2.2.2.2.2.2.1 v_M.2.2.2.2.2.2.2.2.2.2.2.2.2.2.2.2.2.2.2.2.1 v_M.2.2.2.2.2.2.2.2.2.2.2.2.2.2.2.2.2.2.2.2.2.1 v_M.2.2.2.2.2.2.2.2.2.2.2.2.2.2.2.2.2.2.2.2.2.2.1 v_M.2.2.2.2.2.2.2.2.2.2.2.2.2.2.2.2.2.2.2.2.2.2.2) H := hP1
  have hP_T : va_P D vwCl (bX4 cI cJ cC a_T a_n a_k a_t a_s a_r a_c v_T.1 T_refusals_2) H := zKeepB hP_T hk1 (hLC.1 0 7 (by decide) (by decide) (by decide))
  have hP_n : va_P D vwCl (pX3 cI cJ cC a_n v_n) H := zKeepB hP_n hk1 (hLC.1 1 7 (by decide) (by decide) (by decide))
  have hP_k : va_P D vwCl (pX3 cI cJ cC a_k v_k) H := zKeepB hP_k hk1 (hLC.1 2 7 (by decide) (by decide) (by decide))
  have hP_t : va_P D vwCl (pX3 cI cJ cC a_t v_t) H := zKeepB hP_t hk1 (hLC.1 3 7 (by decide) (by decide) (by decide))
  have hP_s : va_P D vwCl (pX2 cI cJ cC a_s v_s) H := zKeepB hP_s hk1 (hLC.1 4 7 (by decide) (by decide) (by decide))
  have hP_r : va_P D vwCl (pX0 cI cJ cC a_r v_r) H := zKeepB hP_r hk1 (hLC.1 5 7 (by decide) (by decide) (by decide))
  have hP_c : va_P D vwCl (pX1 cI cJ cC a_c v_c) H := zKeepB hP_c hk1 (hLC.1 6 7 (by decide) (by decide) (by decide))
  refine W.lcmp hx hb dL_law_1000 ?_
  refine lv_if_eq (tgt := 1171) hx hb dL_law_1001 (by decide) (fun z => ?_) (fun z => absurd (zl_eq.mpr h.1) z)
  exact hnext _ _ _ ⟨(v_T.1, T_refusals_2), v_n, v_k, v_t, v_s, v_r, v_c, (v_M.1, v_M.2.1, v_M.2.2.1, v_M.2.2.2.1, v_M.2.2.2.2.1, v_M.2.2.2.2.2.1, v_M.2.2.2.2.2.2.1, v_M.2.2.2.2.2.2.2.1, v_M.2.2.2.2.2.2.2.2.1, v_M.2.2.2.2.2.2.2.2.2.1, v_M.2.2.2.2.2.2.2.2.2.2.1, M_refused_4, v_M.2.2.2.2.2.2.2.2.2.2.2.2.1, v_M.2.2.2.2.2.2.2.2.2.2.2.2.2.1, v_M.2.2.2.2.2.2.2.2.2.2.2.2.2.2.1, v_M.2.2.2.2.2.2.2.2.2.2.2.2.2.2.2.1, v_M.2.2.2.2.2.2.2.2.2.2.2.2.2.2.2.2.1, v_M.2.2.2.2.2.2.2.2.2.2.2.2.2.2.2.2.2.1, v_M.2.2.2.2.2.2.2.2.2.2.2.2.2.2.2.2.2.2.1, v_M.2.2.2.2.2.2.2.2.2.2.2.2.2.2.2.2.2.2.2.1, v_M.2.2.2.2.2.2.2.2.2.2.2.2.2.2.2.2.2.2.2.2.1, v_M.2.2.2.2.2.2.2.2.2.2.2.2.2.2.2.2.2.2.2.2.2.1, v_M.2.2.2.2.2.2.2.2.2.2.2.2.2.2.2.2.2.2.2.2.2.2.1, v_M.2.2.2.2.2.2.2.2.2.2.2.2.2.2.2.2.2.2.2.2.2.2.2), h.2, hP_T, hP_n, hP_k, hP_t, hP_s, hP_r, hP_c, hP_M⟩ hS hl
def PH_row (RL : RT) : Prop := ∀ (v_T : PX4) (v_n : PX3) (v_k : PX3) (v_t : PX3) (v_s : PX2) (v_r : PX0) (v_c : PX1) (v_M : PX5) (p0 : Int32), RL v_T v_n v_k v_s v_r v_M → wpX4_row (fun (r_1 : Int32) (T_refusals_2 : Nat → Int32) (r_length_3 : Int32) (r_numbers_4 : Nat → Int32) => wpX5_row (fun (r_5 : Int32) (M_rowMany_6 : Int32) (M_refused_7 : Nat → Int32) (M_row_8 : Nat → Int32) => r_1 = r_5 ∧ RL (v_T.1, T_refusals_2) v_n v_k v_s (r_length_3, r_numbers_4) (v_M.1, v_M.2.1, v_M.2.2.1, v_M.2.2.2.1, v_M.2.2.2.2.1, v_M.2.2.2.2.2.1, v_M.2.2.2.2.2.2.1, v_M.2.2.2.2.2.2.2.1, v_M.2.2.2.2.2.2.2.2.1, v_M.2.2.2.2.2.2.2.2.2.1, M_rowMany_6, M_refused_7, v_M.2.2.2.2.2.2.2.2.2.2.2.2.1, v_M.2.2.2.2.2.2.2.2.2.2.2.2.2.1, v_M.2.2.2.2.2.2.2.2.2.2.2.2.2.2.1, v_M.2.2.2.2.2.2.2.2.2.2.2.2.2.2.2.1, v_M.2.2.2.2.2.2.2.2.2.2.2.2.2.2.2.2.1, v_M.2.2.2.2.2.2.2.2.2.2.2.2.2.2.2.2.2.1, v_M.2.2.2.2.2.2.2.2.2.2.2.2.2.2.2.2.2.2.1, v_M.2.2.2.2.2.2.2.2.2.2.2.2.2.2.2.2.2.2.2.1, v_M.2.2.2.2.2.2.2.2.2.2.2.2.2.2.2.2.2.2.2.2.1, v_M.2.2.2.2.2.2.2.2.2.2.2.2.2.2.2.2.2.2.2.2.2.1, v_M.2.2.2.2.2.2.2.2.2.2.2.2.2.2.2.2.2.2.2.2.2.2.1, M_row_8)) v_M.2.2.2.2.2.2.2.2.2.2.1 v_M.2.2.2.2.2.2.2.2.2.2.2.1 v_M.2.2.2.2.2.2.2.2.2.2.2.2.2.2.2.2.2.2.2.2.2.2.2 p0) v_T.2 v_r.1 v_r.2 p0
set_option maxHeartbeats 4000000 in
set_option maxRecDepth 100000 in
theorem lawC_row {p : Program} {l : Launch} {e : Env} {s : State} {m : MethodId} {below : List Frame} {meth : Method} {c : Code} {Q : State → Prop} {b L : Nat} {xs : Nat → Int32} {D : va_G} {cI cJ cC : ClassId} {G : Nat → Nat → Nat} {a_T a_n a_k a_t a_s a_r a_c a_M : Nat → Nat} (RL : RT) (hp : PH_row RL) (S : CallFix p m c code 4 s #[Value.ref b] bg R_law) (hX : va_X b L xs s s.heap) (hbl : b < s.heap.size) (hK : va_K D vwCl (tz cI cJ cC) s) (hLC : LC a_T a_n a_k a_t a_s a_r a_c a_M (fun q : Nat => s.heap.size ≤ q)) (hE : EV G (fun q : Nat => s.heap.size ≤ q) s) {i : Nat} {x3 : Int32} (hi : ∀ k : Nat, k < 4 → vp_in (x3 + Int32.ofNat k) L) (hv : ∀ k : Nat, k < 4 → xs (x3 + Int32.ofNat k).toNatClampNeg = xs (i + k)) {H : Heap} {locs : List Loc} {ls : Array Slot} (hJ : JW RL D cI cJ cC a_T a_n a_k a_t a_s a_r a_c a_M H) (hS : va_S (fun q : Nat => s.heap.size ≤ q) s.heap H locs) (hl : lv_has ls 4 [(0, .ref b), (1, .ref (a_T 0)), (2, .ref (a_M 0)), (3, .int x3)])
    (hnext : ∀ (H : Heap) (locs : List Loc) (ls : Array Slot), JW RL D cI cJ cC a_T a_n a_k a_t a_s a_r a_c a_M H → va_S (fun q : Nat => s.heap.size ≤ q) s.heap H locs → lv_has ls 4 [(0, .ref b), (1, .ref (a_T 0)), (2, .ref (a_M 0)), (3, .int x3)] → W p l e room_1 s m #[Value.ref b] below meth c H locs 41 1350 Q (F0 m 1171 ls [])) : W p l e room_1 s m #[Value.ref b] below meth c H locs 41 1350 Q (F0 m 1006 ls []) := by
  obtain ⟨hx, hb, hml, hown, ht⟩ := id S
  have hA : ∀ q : Nat, s.heap.size ≤ q → (fun q : Nat => s.heap.size ≤ q) q := fun _ h => h
  have hbA : ¬ (fun q : Nat => s.heap.size ≤ q) b := Nat.not_le.mpr hbl
  obtain ⟨v_T, v_n, v_k, v_t, v_s, v_r, v_c, v_M, hR, hP_T, hP_n, hP_k, hP_t, hP_s, hP_r, hP_c, hP_M⟩ := hJ
  have h := hp v_T v_n v_k v_t v_s v_r v_c v_M (xs (i + 1)) hR
  refine lv_aload_n hx hb dL_law_1006 rfl (lv_at hl 1 rfl) ?_
  refine lv_aload_n hx hb dL_law_1007 rfl (lv_at hl 0 rfl) ?_
  refine lv_iload_n hx hb dL_law_1008 rfl (lv_at hl 3 rfl) ?_
  refine lv_iconst (v := (1 : Int32)) hx hb dL_law_1009 (by decide) ?_
  refine lv_iadd hx hb dL_law_1010 ?_
  refine va_sld hx hb hX hbl hbA hS (hi 1 (by decide)) dL_law_1011 ?_
  refine zti (hv 1 (by decide)) ?_
  have hPw : va_P D vwCl ((pX4 cI cJ cC a_T a_n a_k a_t a_s a_r a_c v_T) ++ (pX0 cI cJ cC a_r v_r)) _ := (hP_T.app hP_r)
  have hDw : va_D (fun q : Nat => s.heap.size ≤ q) ((pX4 cI cJ cC a_T a_n a_k a_t a_s a_r a_c v_T) ++ (pX0 cI cJ cC a_r v_r)) := hLC.2.2.2.2.2.2.1 _ rfl
  refine zci hA hDw hS (zrunV (As := [.int (xs (i + 1))]) (rest := []) S hK hA hE hPw hDw hS (mX4_row l D cI cJ cC G a_T a_n a_k a_t a_s a_r a_c _ v_T.1 v_T.2 v_r.1 v_r.2 (xs (i + 1)) _ h) kX4_row ml_L_140 ⟨rfl, rfl, by decide, by decide⟩ (q0 := 0) (ci := 4) rfl rfl rfl rfl hl.1 rfl (Nat.le_of_ble_eq_true rfl) dL_law_1012 ⟨by decide, by decide⟩) (fun r_1 u H locs h hP1 hk1 hS => ?_)
  obtain ⟨T_refusals_2, r_length_3, r_numbers_4⟩ := u
  try dsimp only at h
  have hP_r : va_P D vwCl (bX0 cI cJ cC a_r r_length_3 r_numbers_4) H := zPr hP1
  have hP_T : va_P D vwCl (bX4 cI cJ cC a_T a_n a_k a_t a_s a_r a_c v_T.1 T_refusals_2) H := zPl (hP1)
  have hP_n : va_P D vwCl (pX3 cI cJ cC a_n v_n) H := zKeepB hP_n hk1 (dj_app (hLC.1 1 0 (by decide) (by decide) (by decide)) (hLC.1 1 5 (by decide) (by decide) (by decide)))
  have hP_k : va_P D vwCl (pX3 cI cJ cC a_k v_k) H := zKeepB hP_k hk1 (dj_app (hLC.1 2 0 (by decide) (by decide) (by decide)) (hLC.1 2 5 (by decide) (by decide) (by decide)))
  have hP_t : va_P D vwCl (pX3 cI cJ cC a_t v_t) H := zKeepB hP_t hk1 (dj_app (hLC.1 3 0 (by decide) (by decide) (by decide)) (hLC.1 3 5 (by decide) (by decide) (by decide)))
  have hP_s : va_P D vwCl (pX2 cI cJ cC a_s v_s) H := zKeepB hP_s hk1 (dj_app (hLC.1 4 0 (by decide) (by decide) (by decide)) (hLC.1 4 5 (by decide) (by decide) (by decide)))
  have hP_c : va_P D vwCl (pX1 cI cJ cC a_c v_c) H := zKeepB hP_c hk1 (dj_app (hLC.1 6 0 (by decide) (by decide) (by decide)) (hLC.1 6 5 (by decide) (by decide) (by decide)))
  have hP_M : va_P D vwCl (pX5 cI cJ cC a_M v_M) H := zKeepB hP_M hk1 (dj_app (hLC.1 7 0 (by decide) (by decide) (by decide)) (hLC.1 7 5 (by decide) (by decide) (by decide)))
  refine lv_aload_n hx hb dL_law_1015 rfl (lv_at hl 2 rfl) ?_
  refine lv_aload_n hx hb dL_law_1016 rfl (lv_at hl 0 rfl) ?_
  refine lv_iload_n hx hb dL_law_1017 rfl (lv_at hl 3 rfl) ?_
  refine lv_iconst (v := (1 : Int32)) hx hb dL_law_1018 (by decide) ?_
  refine lv_iadd hx hb dL_law_1019 ?_
  refine va_sld hx hb hX hbl hbA hS (hi 1 (by decide)) dL_law_1020 ?_
  refine zti (hv 1 (by decide)) ?_
  have hPw : va_P D vwCl ((pX5 cI cJ cC a_M v_M)) _ := hP_M
  have hDw : va_D (fun q : Nat => s.heap.size ≤ q) ((pX5 cI cJ cC a_M v_M)) := hLC.2.2.2.2.2.2.2.2.2.2.2 _ rfl
  refine zci hA hDw hS (zrunV (As := [.int (xs (i + 1))]) (rest := [.int r_1]) S hK hA hE hPw hDw hS (mX5_row l D cI cJ cC G a_M _ v_M.1 v_M.2.1 v_M.2.2.1 v_M.2.2.2.1 v_M.2.2.2.2.1 v_M.2.2.2.2.2.1 v_M.2.2.2.2.2.2.1 v_M.2.2.2.2.2.2.2.1 v_M.2.2.2.2.2.2.2.2.1 v_M.2.2.2.2.2.2.2.2.2.1 v_M.2.2.2.2.2.2.2.2.2.2.1 v_M.2.2.2.2.2.2.2.2.2.2.2.1 v_M.2.2.2.2.2.2.2.2.2.2.2.2.1 v_M.2.2.2.2.2.2.2.2.2.2.2.2.2.1 v_M.2.2.2.2.2.2.2.2.2.2.2.2.2.2.1 v_M.2.2.2.2.2.2.2.2.2.2.2.2.2.2.2.1 v_M.2.2.2.2.2.2.2.2.2.2.2.2.2.2.2.2.1 v_M.2.2.2.2.2.2.2.2.2.2.2.2.2.2.2.2.2.1 v_M.2.2.2.2.2.2.2.2.2.2.2.2.2.2.2.2.2.2.1 v_M.2.2.2.2.2.2.2.2.2.2.2.2.2.2.2.2.2.2.2.1 v_M.2.2.2.2.2.2.2.2.2.2.2.2.2.2.2.2.2.2.2.2.1 v_M.2.2.2.2.2.2.2.2.2.2.2.2.2.2.2.2.2.2.2.2.2.1 v_M.2.2.2.2.2.2.2.2.2.2.2.2.2.2.2.2.2.2.2.2.2.2.1 v_M.2.2.2.2.2.2.2.2.2.2.2.2.2.2.2.2.2.2.2.2.2.2.2 (xs (i + 1)) _ h) kX5_row ml_L_143 ⟨rfl, rfl, by decide, by decide⟩ (q0 := 0) (ci := 5) rfl rfl rfl rfl hl.1 rfl (Nat.le_of_ble_eq_true rfl) dL_law_1021 ⟨by decide, by decide⟩) (fun r_5 u H locs h hP1 hk1 hS => ?_)
  obtain ⟨M_rowMany_6, M_refused_7, M_row_8⟩ := u
  try dsimp only at h
  have hP_M : va_P D vwCl (bX5 cI cJ cC a_M v_M.1 v_M.2.1 v_M.2.2.1 v_M.2.2.2.1 v_M.2.2.2.2.1 v_M.2.2.2.2.2.1 v_M.2.2.2.2.2.2.1 v_M.2.2.2.2.2.2.2.1 v_M.2.2.2.2.2.2.2.2.1 v_M.2.2.2.2.2.2.2.2.2.1 M_rowMany_6 M_refused_7 v_M.2.2.2.2.2.2.2.2.2.2.2.2.1 v_M.2.2.2.2.2.2.2.2.2.2.2.2.2.1 v_M.2.2.2.2.2.2.2.2.2.2.2.2.2.2.1 v_M.2.2.2.2.2.2.2.2.2.2.2.2.2.2.2.1 v_M.2.2.2.2.2.2.2.2.2.2.2.2.2.2.2.2.1 v_M.2.2.2.2.2.2.2.2.2.2.2.2.2.2.2.2.2.1 v_M.2.2.2.2.2.2.2.2.2.2.2.2.2.2.2.2.2.2.1 v_M.2.2.2.2.2.2.2.2.2.2.2.2.2.2.2.2.2.2.2.1 v_M.2.2.2.2.2.2.2.2.2.2.2.2.2.2.2.2.2.2.2.2.1 v_M.2.2.2.2.2.2.2.2.2.2.2.2.2.2.2.2.2.2.2.2.2.1 v_M.2.2.2.2.2.2.2.2.2.2.2.2.2.2.2.2.2.2.2.2.2.2.1 M_row_8) H := hP1
  have hP_T : va_P D vwCl (bX4 cI cJ cC a_T a_n a_k a_t a_s a_r a_c v_T.1 T_refusals_2) H := zKeepB hP_T hk1 (hLC.1 0 7 (by decide) (by decide) (by decide))
  have hP_n : va_P D vwCl (pX3 cI cJ cC a_n v_n) H := zKeepB hP_n hk1 (hLC.1 1 7 (by decide) (by decide) (by decide))
  have hP_k : va_P D vwCl (pX3 cI cJ cC a_k v_k) H := zKeepB hP_k hk1 (hLC.1 2 7 (by decide) (by decide) (by decide))
  have hP_t : va_P D vwCl (pX3 cI cJ cC a_t v_t) H := zKeepB hP_t hk1 (hLC.1 3 7 (by decide) (by decide) (by decide))
  have hP_s : va_P D vwCl (pX2 cI cJ cC a_s v_s) H := zKeepB hP_s hk1 (hLC.1 4 7 (by decide) (by decide) (by decide))
  have hP_r : va_P D vwCl (bX0 cI cJ cC a_r r_length_3 r_numbers_4) H := zKeepB hP_r hk1 (hLC.1 5 7 (by decide) (by decide) (by decide))
  have hP_c : va_P D vwCl (pX1 cI cJ cC a_c v_c) H := zKeepB hP_c hk1 (hLC.1 6 7 (by decide) (by decide) (by decide))
  refine lv_icmp_eq (tgt := 1171) hx hb dL_law_1024 (by decide) (fun z => ?_) (fun z => absurd h.1 z)
  exact hnext _ _ _ ⟨(v_T.1, T_refusals_2), v_n, v_k, v_t, v_s, (r_length_3, r_numbers_4), v_c, (v_M.1, v_M.2.1, v_M.2.2.1, v_M.2.2.2.1, v_M.2.2.2.2.1, v_M.2.2.2.2.2.1, v_M.2.2.2.2.2.2.1, v_M.2.2.2.2.2.2.2.1, v_M.2.2.2.2.2.2.2.2.1, v_M.2.2.2.2.2.2.2.2.2.1, M_rowMany_6, M_refused_7, v_M.2.2.2.2.2.2.2.2.2.2.2.2.1, v_M.2.2.2.2.2.2.2.2.2.2.2.2.2.1, v_M.2.2.2.2.2.2.2.2.2.2.2.2.2.2.1, v_M.2.2.2.2.2.2.2.2.2.2.2.2.2.2.2.1, v_M.2.2.2.2.2.2.2.2.2.2.2.2.2.2.2.2.1, v_M.2.2.2.2.2.2.2.2.2.2.2.2.2.2.2.2.2.1, v_M.2.2.2.2.2.2.2.2.2.2.2.2.2.2.2.2.2.2.1, v_M.2.2.2.2.2.2.2.2.2.2.2.2.2.2.2.2.2.2.2.1, v_M.2.2.2.2.2.2.2.2.2.2.2.2.2.2.2.2.2.2.2.2.1, v_M.2.2.2.2.2.2.2.2.2.2.2.2.2.2.2.2.2.2.2.2.2.1, v_M.2.2.2.2.2.2.2.2.2.2.2.2.2.2.2.2.2.2.2.2.2.2.1, M_row_8), h.2, hP_T, hP_n, hP_k, hP_t, hP_s, hP_r, hP_c, hP_M⟩ hS hl
def PH_old (RL : RT) : Prop := ∀ (v_T : PX4) (v_n : PX3) (v_k : PX3) (v_t : PX3) (v_s : PX2) (v_r : PX0) (v_c : PX1) (v_M : PX5), RL v_T v_n v_k v_s v_r v_M → wpX4_old (fun (r_1 : Int32) => wpX5_old (fun (r_2 : Int32) => r_1 = r_2 ∧ RL v_T v_n v_k v_s v_r v_M) v_M.2.2.2.2.2.2.2.2.2.2.1 v_M.2.2.2.2.2.2.2.2.2.2.2.2.1 v_M.2.2.2.2.2.2.2.2.2.2.2.2.2.2.2.2.1 v_M.2.2.2.2.2.2.2.2.2.2.2.2.2.2.2.2.2.2.2.2.2.2.2) v_n.2.2.2.2.2.2.2.2.1 v_n.2.2.2.2.2.2.2.2.2.2.2.2.1 v_r.1 v_r.2
set_option maxHeartbeats 4000000 in
set_option maxRecDepth 100000 in
theorem lawC_old {p : Program} {l : Launch} {e : Env} {s : State} {m : MethodId} {below : List Frame} {meth : Method} {c : Code} {Q : State → Prop} {b L : Nat} {xs : Nat → Int32} {D : va_G} {cI cJ cC : ClassId} {G : Nat → Nat → Nat} {a_T a_n a_k a_t a_s a_r a_c a_M : Nat → Nat} (RL : RT) (hp : PH_old RL) (S : CallFix p m c code 4 s #[Value.ref b] bg R_law) (hX : va_X b L xs s s.heap) (hbl : b < s.heap.size) (hK : va_K D vwCl (tz cI cJ cC) s) (hLC : LC a_T a_n a_k a_t a_s a_r a_c a_M (fun q : Nat => s.heap.size ≤ q)) (hE : EV G (fun q : Nat => s.heap.size ≤ q) s) {i : Nat} {x3 : Int32} (hi : ∀ k : Nat, k < 4 → vp_in (x3 + Int32.ofNat k) L) (hv : ∀ k : Nat, k < 4 → xs (x3 + Int32.ofNat k).toNatClampNeg = xs (i + k)) {H : Heap} {locs : List Loc} {ls : Array Slot} (hJ : JW RL D cI cJ cC a_T a_n a_k a_t a_s a_r a_c a_M H) (hS : va_S (fun q : Nat => s.heap.size ≤ q) s.heap H locs) (hl : lv_has ls 4 [(0, .ref b), (1, .ref (a_T 0)), (2, .ref (a_M 0)), (3, .int x3)])
    (hnext : ∀ (H : Heap) (locs : List Loc) (ls : Array Slot), JW RL D cI cJ cC a_T a_n a_k a_t a_s a_r a_c a_M H → va_S (fun q : Nat => s.heap.size ≤ q) s.heap H locs → lv_has ls 4 [(0, .ref b), (1, .ref (a_T 0)), (2, .ref (a_M 0)), (3, .int x3)] → W p l e room_1 s m #[Value.ref b] below meth c H locs 41 1350 Q (F0 m 1171 ls [])) : W p l e room_1 s m #[Value.ref b] below meth c H locs 41 1350 Q (F0 m 1029 ls []) := by
  obtain ⟨hx, hb, hml, hown, ht⟩ := id S
  have hA : ∀ q : Nat, s.heap.size ≤ q → (fun q : Nat => s.heap.size ≤ q) q := fun _ h => h
  have hbA : ¬ (fun q : Nat => s.heap.size ≤ q) b := Nat.not_le.mpr hbl
  obtain ⟨v_T, v_n, v_k, v_t, v_s, v_r, v_c, v_M, hR, hP_T, hP_n, hP_k, hP_t, hP_s, hP_r, hP_c, hP_M⟩ := hJ
  have h := hp v_T v_n v_k v_t v_s v_r v_c v_M  hR
  refine lv_aload_n hx hb dL_law_1029 rfl (lv_at hl 1 rfl) ?_
  have hPw : va_P D vwCl ((pX4 cI cJ cC a_T a_n a_k a_t a_s a_r a_c v_T) ++ (pX3 cI cJ cC a_n v_n) ++ (pX0 cI cJ cC a_r v_r)) _ := (va_P.app (va_P.app hP_T hP_n) hP_r)
  have hDw : va_D (fun q : Nat => s.heap.size ≤ q) ((pX4 cI cJ cC a_T a_n a_k a_t a_s a_r a_c v_T) ++ (pX3 cI cJ cC a_n v_n) ++ (pX0 cI cJ cC a_r v_r)) := hLC.2.2.2.2.2.2.2.1 _ rfl
  refine zci hA hDw hS (zrunV (As := []) (rest := []) S hK hA hE hPw hDw hS (mX4_old l D cI cJ cC G a_T a_n a_k a_t a_s a_r a_c _ v_T.1 v_T.2 v_n.1 v_n.2.1 v_n.2.2.1 v_n.2.2.2.1 v_n.2.2.2.2.1 v_n.2.2.2.2.2.1 v_n.2.2.2.2.2.2.1 v_n.2.2.2.2.2.2.2.1 v_n.2.2.2.2.2.2.2.2.1 v_n.2.2.2.2.2.2.2.2.2.1 v_n.2.2.2.2.2.2.2.2.2.2.1 v_n.2.2.2.2.2.2.2.2.2.2.2.1 v_n.2.2.2.2.2.2.2.2.2.2.2.2.1 v_n.2.2.2.2.2.2.2.2.2.2.2.2.2 v_r.1 v_r.2 _ h) kX4_old ml_L_144 ⟨rfl, rfl, by decide, by decide⟩ (q0 := 0) (ci := 4) rfl rfl rfl rfl hl.1 rfl (Nat.le_of_ble_eq_true rfl) dL_law_1030 ⟨by decide, by decide⟩) (fun r_1 u H locs h hP1 hk1 hS => ?_)
  try dsimp only at h
  have hP_r : va_P D vwCl (pX0 cI cJ cC a_r v_r) H := zPr hP1
  have hP_n : va_P D vwCl (pX3 cI cJ cC a_n v_n) H := zPr (zPl (hP1))
  have hP_T : va_P D vwCl (pX4 cI cJ cC a_T a_n a_k a_t a_s a_r a_c v_T) H := zPl (zPl (hP1))
  have hP_k : va_P D vwCl (pX3 cI cJ cC a_k v_k) H := zKeepB hP_k hk1 (dj_app (dj_app (hLC.1 2 0 (by decide) (by decide) (by decide)) (hLC.1 2 1 (by decide) (by decide) (by decide))) (hLC.1 2 5 (by decide) (by decide) (by decide)))
  have hP_t : va_P D vwCl (pX3 cI cJ cC a_t v_t) H := zKeepB hP_t hk1 (dj_app (dj_app (hLC.1 3 0 (by decide) (by decide) (by decide)) (hLC.1 3 1 (by decide) (by decide) (by decide))) (hLC.1 3 5 (by decide) (by decide) (by decide)))
  have hP_s : va_P D vwCl (pX2 cI cJ cC a_s v_s) H := zKeepB hP_s hk1 (dj_app (dj_app (hLC.1 4 0 (by decide) (by decide) (by decide)) (hLC.1 4 1 (by decide) (by decide) (by decide))) (hLC.1 4 5 (by decide) (by decide) (by decide)))
  have hP_c : va_P D vwCl (pX1 cI cJ cC a_c v_c) H := zKeepB hP_c hk1 (dj_app (dj_app (hLC.1 6 0 (by decide) (by decide) (by decide)) (hLC.1 6 1 (by decide) (by decide) (by decide))) (hLC.1 6 5 (by decide) (by decide) (by decide)))
  have hP_M : va_P D vwCl (pX5 cI cJ cC a_M v_M) H := zKeepB hP_M hk1 (dj_app (dj_app (hLC.1 7 0 (by decide) (by decide) (by decide)) (hLC.1 7 1 (by decide) (by decide) (by decide))) (hLC.1 7 5 (by decide) (by decide) (by decide)))
  refine lv_aload_n hx hb dL_law_1033 rfl (lv_at hl 2 rfl) ?_
  have hPw : va_P D vwCl ((pX5 cI cJ cC a_M v_M)) _ := hP_M
  have hDw : va_D (fun q : Nat => s.heap.size ≤ q) ((pX5 cI cJ cC a_M v_M)) := hLC.2.2.2.2.2.2.2.2.2.2.2 _ rfl
  refine zci hA hDw hS (zrunV (As := []) (rest := [.int r_1]) S hK hA hE hPw hDw hS (mX5_old l D cI cJ cC G a_M _ v_M.1 v_M.2.1 v_M.2.2.1 v_M.2.2.2.1 v_M.2.2.2.2.1 v_M.2.2.2.2.2.1 v_M.2.2.2.2.2.2.1 v_M.2.2.2.2.2.2.2.1 v_M.2.2.2.2.2.2.2.2.1 v_M.2.2.2.2.2.2.2.2.2.1 v_M.2.2.2.2.2.2.2.2.2.2.1 v_M.2.2.2.2.2.2.2.2.2.2.2.1 v_M.2.2.2.2.2.2.2.2.2.2.2.2.1 v_M.2.2.2.2.2.2.2.2.2.2.2.2.2.1 v_M.2.2.2.2.2.2.2.2.2.2.2.2.2.2.1 v_M.2.2.2.2.2.2.2.2.2.2.2.2.2.2.2.1 v_M.2.2.2.2.2.2.2.2.2.2.2.2.2.2.2.2.1 v_M.2.2.2.2.2.2.2.2.2.2.2.2.2.2.2.2.2.1 v_M.2.2.2.2.2.2.2.2.2.2.2.2.2.2.2.2.2.2.1 v_M.2.2.2.2.2.2.2.2.2.2.2.2.2.2.2.2.2.2.2.1 v_M.2.2.2.2.2.2.2.2.2.2.2.2.2.2.2.2.2.2.2.2.1 v_M.2.2.2.2.2.2.2.2.2.2.2.2.2.2.2.2.2.2.2.2.2.1 v_M.2.2.2.2.2.2.2.2.2.2.2.2.2.2.2.2.2.2.2.2.2.2.1 v_M.2.2.2.2.2.2.2.2.2.2.2.2.2.2.2.2.2.2.2.2.2.2.2 _ h) kX5_old ml_L_147 ⟨rfl, rfl, by decide, by decide⟩ (q0 := 0) (ci := 5) rfl rfl rfl rfl hl.1 rfl (Nat.le_of_ble_eq_true rfl) dL_law_1034 ⟨by decide, by decide⟩) (fun r_2 u H locs h hP1 hk1 hS => ?_)
  try dsimp only at h
  have hP_M : va_P D vwCl (pX5 cI cJ cC a_M v_M) H := hP1
  have hP_T : va_P D vwCl (pX4 cI cJ cC a_T a_n a_k a_t a_s a_r a_c v_T) H := zKeepB hP_T hk1 (hLC.1 0 7 (by decide) (by decide) (by decide))
  have hP_n : va_P D vwCl (pX3 cI cJ cC a_n v_n) H := zKeepB hP_n hk1 (hLC.1 1 7 (by decide) (by decide) (by decide))
  have hP_k : va_P D vwCl (pX3 cI cJ cC a_k v_k) H := zKeepB hP_k hk1 (hLC.1 2 7 (by decide) (by decide) (by decide))
  have hP_t : va_P D vwCl (pX3 cI cJ cC a_t v_t) H := zKeepB hP_t hk1 (hLC.1 3 7 (by decide) (by decide) (by decide))
  have hP_s : va_P D vwCl (pX2 cI cJ cC a_s v_s) H := zKeepB hP_s hk1 (hLC.1 4 7 (by decide) (by decide) (by decide))
  have hP_r : va_P D vwCl (pX0 cI cJ cC a_r v_r) H := zKeepB hP_r hk1 (hLC.1 5 7 (by decide) (by decide) (by decide))
  have hP_c : va_P D vwCl (pX1 cI cJ cC a_c v_c) H := zKeepB hP_c hk1 (hLC.1 6 7 (by decide) (by decide) (by decide))
  refine lv_icmp_eq (tgt := 1171) hx hb dL_law_1037 (by decide) (fun z => ?_) (fun z => absurd h.1 z)
  exact hnext _ _ _ ⟨v_T, v_n, v_k, v_t, v_s, v_r, v_c, v_M, h.2, hP_T, hP_n, hP_k, hP_t, hP_s, hP_r, hP_c, hP_M⟩ hS hl
def PH_happened (RL : RT) : Prop := ∀ (v_T : PX4) (v_n : PX3) (v_k : PX3) (v_t : PX3) (v_s : PX2) (v_r : PX0) (v_c : PX1) (v_M : PX5) (p0 : Int32) (p1 : Int32), RL v_T v_n v_k v_s v_r v_M → wpX4_happened (fun (r_1 : Int64) (T_refusals_2 : Nat → Int32) => wpX5_happened (fun (r_3 : Int64) (M_refused_4 : Nat → Int32) => r_1 = r_3 ∧ RL (v_T.1, T_refusals_2) v_n v_k v_s v_r (v_M.1, v_M.2.1, v_M.2.2.1, v_M.2.2.2.1, v_M.2.2.2.2.1, v_M.2.2.2.2.2.1, v_M.2.2.2.2.2.2.1, v_M.2.2.2.2.2.2.2.1, v_M.2.2.2.2.2.2.2.2.1, v_M.2.2.2.2.2.2.2.2.2.1, v_M.2.2.2.2.2.2.2.2.2.2.1, M_refused_4, v_M.2.2.2.2.2.2.2.2.2.2.2.2.1, v_M.2.2.2.2.2.2.2.2.2.2.2.2.2.1, v_M.2.2.2.2.2.2.2.2.2.2.2.2.2.2.1, v_M.2.2.2.2.2.2.2.2.2.2.2.2.2.2.2.1, v_M.2.2.2.2.2.2.2.2.2.2.2.2.2.2.2.2.1, v_M.2.2.2.2.2.2.2.2.2.2.2.2.2.2.2.2.2.1, v_M.2.2.2.2.2.2.2.2.2.2.2.2.2.2.2.2.2.2.1, v_M.2.2.2.2.2.2.2.2.2.2.2.2.2.2.2.2.2.2.2.1, v_M.2.2.2.2.2.2.2.2.2.2.2.2.2.2.2.2.2.2.2.2.1, v_M.2.2.2.2.2.2.2.2.2.2.2.2.2.2.2.2.2.2.2.2.2.1, v_M.2.2.2.2.2.2.2.2.2.2.2.2.2.2.2.2.2.2.2.2.2.2.1, v_M.2.2.2.2.2.2.2.2.2.2.2.2.2.2.2.2.2.2.2.2.2.2.2)) v_M.2.2.2.2.2.2.2.2.2.2.1 v_M.2.2.2.2.2.2.2.2.2.2.2.1 v_M.2.2.2.2.2.2.2.2.2.2.2.2.1 v_M.2.2.2.2.2.2.2.2.2.2.2.2.2.2.2.2.1 v_M.2.2.2.2.2.2.2.2.2.2.2.2.2.2.2.2.2.2.2.2.2.2.2 p0 p1) v_T.2 v_n.2.2.2.2.2.2.2.1 v_n.2.2.2.2.2.2.2.2.2.2.2.1 v_n.2.2.2.2.2.2.2.2.2.2.2.2.1 v_r.1 v_r.2 p0 p1
set_option maxHeartbeats 4000000 in
set_option maxRecDepth 100000 in
theorem lawC_happened {p : Program} {l : Launch} {e : Env} {s : State} {m : MethodId} {below : List Frame} {meth : Method} {c : Code} {Q : State → Prop} {b L : Nat} {xs : Nat → Int32} {D : va_G} {cI cJ cC : ClassId} {G : Nat → Nat → Nat} {a_T a_n a_k a_t a_s a_r a_c a_M : Nat → Nat} (RL : RT) (hp : PH_happened RL) (S : CallFix p m c code 4 s #[Value.ref b] bg R_law) (hX : va_X b L xs s s.heap) (hbl : b < s.heap.size) (hK : va_K D vwCl (tz cI cJ cC) s) (hLC : LC a_T a_n a_k a_t a_s a_r a_c a_M (fun q : Nat => s.heap.size ≤ q)) (hE : EV G (fun q : Nat => s.heap.size ≤ q) s) {i : Nat} {x3 : Int32} (hi : ∀ k : Nat, k < 4 → vp_in (x3 + Int32.ofNat k) L) (hv : ∀ k : Nat, k < 4 → xs (x3 + Int32.ofNat k).toNatClampNeg = xs (i + k)) {H : Heap} {locs : List Loc} {ls : Array Slot} (hJ : JW RL D cI cJ cC a_T a_n a_k a_t a_s a_r a_c a_M H) (hS : va_S (fun q : Nat => s.heap.size ≤ q) s.heap H locs) (hl : lv_has ls 4 [(0, .ref b), (1, .ref (a_T 0)), (2, .ref (a_M 0)), (3, .int x3)])
    (hnext : ∀ (H : Heap) (locs : List Loc) (ls : Array Slot), JW RL D cI cJ cC a_T a_n a_k a_t a_s a_r a_c a_M H → va_S (fun q : Nat => s.heap.size ≤ q) s.heap H locs → lv_has ls 4 [(0, .ref b), (1, .ref (a_T 0)), (2, .ref (a_M 0)), (3, .int x3)] → W p l e room_1 s m #[Value.ref b] below meth c H locs 41 1350 Q (F0 m 1171 ls [])) : W p l e room_1 s m #[Value.ref b] below meth c H locs 41 1350 Q (F0 m 1042 ls []) := by
  obtain ⟨hx, hb, hml, hown, ht⟩ := id S
  have hA : ∀ q : Nat, s.heap.size ≤ q → (fun q : Nat => s.heap.size ≤ q) q := fun _ h => h
  have hbA : ¬ (fun q : Nat => s.heap.size ≤ q) b := Nat.not_le.mpr hbl
  obtain ⟨v_T, v_n, v_k, v_t, v_s, v_r, v_c, v_M, hR, hP_T, hP_n, hP_k, hP_t, hP_s, hP_r, hP_c, hP_M⟩ := hJ
  have h := hp v_T v_n v_k v_t v_s v_r v_c v_M (xs (i + 1)) (xs (i + 2)) hR
  refine lv_aload_n hx hb dL_law_1042 rfl (lv_at hl 1 rfl) ?_
  refine lv_aload_n hx hb dL_law_1043 rfl (lv_at hl 0 rfl) ?_
  refine lv_iload_n hx hb dL_law_1044 rfl (lv_at hl 3 rfl) ?_
  refine lv_iconst (v := (1 : Int32)) hx hb dL_law_1045 (by decide) ?_
  refine lv_iadd hx hb dL_law_1046 ?_
  refine va_sld hx hb hX hbl hbA hS (hi 1 (by decide)) dL_law_1047 ?_
  refine zti (hv 1 (by decide)) ?_
  refine lv_aload_n hx hb dL_law_1048 rfl (lv_at hl 0 rfl) ?_
  refine lv_iload_n hx hb dL_law_1049 rfl (lv_at hl 3 rfl) ?_
  refine lv_iconst (v := (2 : Int32)) hx hb dL_law_1050 (by decide) ?_
  refine lv_iadd hx hb dL_law_1051 ?_
  refine va_sld hx hb hX hbl hbA hS (hi 2 (by decide)) dL_law_1052 ?_
  refine zti (hv 2 (by decide)) ?_
  have hPw : va_P D vwCl ((pX4 cI cJ cC a_T a_n a_k a_t a_s a_r a_c v_T) ++ (pX3 cI cJ cC a_n v_n) ++ (pX0 cI cJ cC a_r v_r)) _ := (va_P.app (va_P.app hP_T hP_n) hP_r)
  have hDw : va_D (fun q : Nat => s.heap.size ≤ q) ((pX4 cI cJ cC a_T a_n a_k a_t a_s a_r a_c v_T) ++ (pX3 cI cJ cC a_n v_n) ++ (pX0 cI cJ cC a_r v_r)) := hLC.2.2.2.2.2.2.2.1 _ rfl
  refine zcl hA hDw hS (zrunV (As := [.int (xs (i + 1)), .int (xs (i + 2))]) (rest := []) S hK hA hE hPw hDw hS (mX4_happened l D cI cJ cC G a_T a_n a_k a_t a_s a_r a_c _ v_T.1 v_T.2 v_n.1 v_n.2.1 v_n.2.2.1 v_n.2.2.2.1 v_n.2.2.2.2.1 v_n.2.2.2.2.2.1 v_n.2.2.2.2.2.2.1 v_n.2.2.2.2.2.2.2.1 v_n.2.2.2.2.2.2.2.2.1 v_n.2.2.2.2.2.2.2.2.2.1 v_n.2.2.2.2.2.2.2.2.2.2.1 v_n.2.2.2.2.2.2.2.2.2.2.2.1 v_n.2.2.2.2.2.2.2.2.2.2.2.2.1 v_n.2.2.2.2.2.2.2.2.2.2.2.2.2 v_r.1 v_r.2 (xs (i + 1)) (xs (i + 2)) _ h) kX4_happened ml_L_148 ⟨rfl, rfl, by decide, by decide⟩ (q0 := 0) (ci := 4) rfl rfl rfl rfl hl.1 rfl (Nat.le_of_ble_eq_true rfl) dL_law_1053 ⟨by decide, by decide⟩) (fun r_1 T_refusals_2 H locs h hP1 hk1 hS => ?_)
  try dsimp only at h
  have hP_r : va_P D vwCl (pX0 cI cJ cC a_r v_r) H := zPr hP1
  have hP_n : va_P D vwCl (pX3 cI cJ cC a_n v_n) H := zPr (zPl (hP1))
  have hP_T : va_P D vwCl (bX4 cI cJ cC a_T a_n a_k a_t a_s a_r a_c v_T.1 T_refusals_2) H := zPl (zPl (hP1))
  have hP_k : va_P D vwCl (pX3 cI cJ cC a_k v_k) H := zKeepB hP_k hk1 (dj_app (dj_app (hLC.1 2 0 (by decide) (by decide) (by decide)) (hLC.1 2 1 (by decide) (by decide) (by decide))) (hLC.1 2 5 (by decide) (by decide) (by decide)))
  have hP_t : va_P D vwCl (pX3 cI cJ cC a_t v_t) H := zKeepB hP_t hk1 (dj_app (dj_app (hLC.1 3 0 (by decide) (by decide) (by decide)) (hLC.1 3 1 (by decide) (by decide) (by decide))) (hLC.1 3 5 (by decide) (by decide) (by decide)))
  have hP_s : va_P D vwCl (pX2 cI cJ cC a_s v_s) H := zKeepB hP_s hk1 (dj_app (dj_app (hLC.1 4 0 (by decide) (by decide) (by decide)) (hLC.1 4 1 (by decide) (by decide) (by decide))) (hLC.1 4 5 (by decide) (by decide) (by decide)))
  have hP_c : va_P D vwCl (pX1 cI cJ cC a_c v_c) H := zKeepB hP_c hk1 (dj_app (dj_app (hLC.1 6 0 (by decide) (by decide) (by decide)) (hLC.1 6 1 (by decide) (by decide) (by decide))) (hLC.1 6 5 (by decide) (by decide) (by decide)))
  have hP_M : va_P D vwCl (pX5 cI cJ cC a_M v_M) H := zKeepB hP_M hk1 (dj_app (dj_app (hLC.1 7 0 (by decide) (by decide) (by decide)) (hLC.1 7 1 (by decide) (by decide) (by decide))) (hLC.1 7 5 (by decide) (by decide) (by decide)))
  refine lv_aload_n hx hb dL_law_1056 rfl (lv_at hl 2 rfl) ?_
  refine lv_aload_n hx hb dL_law_1057 rfl (lv_at hl 0 rfl) ?_
  refine lv_iload_n hx hb dL_law_1058 rfl (lv_at hl 3 rfl) ?_
  refine lv_iconst (v := (1 : Int32)) hx hb dL_law_1059 (by decide) ?_
  refine lv_iadd hx hb dL_law_1060 ?_
  refine va_sld hx hb hX hbl hbA hS (hi 1 (by decide)) dL_law_1061 ?_
  refine zti (hv 1 (by decide)) ?_
  refine lv_aload_n hx hb dL_law_1062 rfl (lv_at hl 0 rfl) ?_
  refine lv_iload_n hx hb dL_law_1063 rfl (lv_at hl 3 rfl) ?_
  refine lv_iconst (v := (2 : Int32)) hx hb dL_law_1064 (by decide) ?_
  refine lv_iadd hx hb dL_law_1065 ?_
  refine va_sld hx hb hX hbl hbA hS (hi 2 (by decide)) dL_law_1066 ?_
  refine zti (hv 2 (by decide)) ?_
  have hPw : va_P D vwCl ((pX5 cI cJ cC a_M v_M)) _ := hP_M
  have hDw : va_D (fun q : Nat => s.heap.size ≤ q) ((pX5 cI cJ cC a_M v_M)) := hLC.2.2.2.2.2.2.2.2.2.2.2 _ rfl
  refine zcl hA hDw hS (zrunV (As := [.int (xs (i + 1)), .int (xs (i + 2))]) (rest := [.long r_1]) S hK hA hE hPw hDw hS (mX5_happened l D cI cJ cC G a_M _ v_M.1 v_M.2.1 v_M.2.2.1 v_M.2.2.2.1 v_M.2.2.2.2.1 v_M.2.2.2.2.2.1 v_M.2.2.2.2.2.2.1 v_M.2.2.2.2.2.2.2.1 v_M.2.2.2.2.2.2.2.2.1 v_M.2.2.2.2.2.2.2.2.2.1 v_M.2.2.2.2.2.2.2.2.2.2.1 v_M.2.2.2.2.2.2.2.2.2.2.2.1 v_M.2.2.2.2.2.2.2.2.2.2.2.2.1 v_M.2.2.2.2.2.2.2.2.2.2.2.2.2.1 v_M.2.2.2.2.2.2.2.2.2.2.2.2.2.2.1 v_M.2.2.2.2.2.2.2.2.2.2.2.2.2.2.2.1 v_M.2.2.2.2.2.2.2.2.2.2.2.2.2.2.2.2.1 v_M.2.2.2.2.2.2.2.2.2.2.2.2.2.2.2.2.2.1 v_M.2.2.2.2.2.2.2.2.2.2.2.2.2.2.2.2.2.2.1 v_M.2.2.2.2.2.2.2.2.2.2.2.2.2.2.2.2.2.2.2.1 v_M.2.2.2.2.2.2.2.2.2.2.2.2.2.2.2.2.2.2.2.2.1 v_M.2.2.2.2.2.2.2.2.2.2.2.2.2.2.2.2.2.2.2.2.2.1 v_M.2.2.2.2.2.2.2.2.2.2.2.2.2.2.2.2.2.2.2.2.2.2.1 v_M.2.2.2.2.2.2.2.2.2.2.2.2.2.2.2.2.2.2.2.2.2.2.2 (xs (i + 1)) (xs (i + 2)) _ h) kX5_happened ml_L_151 ⟨rfl, rfl, by decide, by decide⟩ (q0 := 0) (ci := 5) rfl rfl rfl rfl hl.1 rfl (Nat.le_of_ble_eq_true rfl) dL_law_1067 ⟨by decide, by decide⟩) (fun r_3 M_refused_4 H locs h hP1 hk1 hS => ?_)
  try dsimp only at h
  have hP_M : va_P D vwCl (bX5 cI cJ cC a_M v_M.1 v_M.2.1 v_M.2.2.1 v_M.2.2.2.1 v_M.2.2.2.2.1 v_M.2.2.2.2.2.1 v_M.2.2.2.2.2.2.1 v_M.2.2.2.2.2.2.2.1 v_M.2.2.2.2.2.2.2.2.1 v_M.2.2.2.2.2.2.2.2.2.1 v_M.2.2.2.2.2.2.2.2.2.2.1 M_refused_4 v_M.2.2.2.2.2.2.2.2.2.2.2.2.1 v_M.2.2.2.2.2.2.2.2.2.2.2.2.2.1 v_M.2.2.2.2.2.2.2.2.2.2.2.2.2.2.1 v_M.2.2.2.2.2.2.2.2.2.2.2.2.2.2.2.1 v_M.2.2.2.2.2.2.2.2.2.2.2.2.2.2.2.2.1 v_M.2.2.2.2.2.2.2.2.2.2.2.2.2.2.2.2.2.1 v_M.2.2.2.2.2.2.2.2.2.2.2.2.2.2.2.2.2.2.1 v_M.2.2.2.2.2.2.2.2.2.2.2.2.2.2.2.2.2.2.2.1 v_M.2.2.2.2.2.2.2.2.2.2.2.2.2.2.2.2.2.2.2.2.1 v_M.2.2.2.2.2.2.2.2.2.2.2.2.2.2.2.2.2.2.2.2.2.1 v_M.2.2.2.2.2.2.2.2.2.2.2.2.2.2.2.2.2.2.2.2.2.2.1 v_M.2.2.2.2.2.2.2.2.2.2.2.2.2.2.2.2.2.2.2.2.2.2.2) H := hP1
  have hP_T : va_P D vwCl (bX4 cI cJ cC a_T a_n a_k a_t a_s a_r a_c v_T.1 T_refusals_2) H := zKeepB hP_T hk1 (hLC.1 0 7 (by decide) (by decide) (by decide))
  have hP_n : va_P D vwCl (pX3 cI cJ cC a_n v_n) H := zKeepB hP_n hk1 (hLC.1 1 7 (by decide) (by decide) (by decide))
  have hP_k : va_P D vwCl (pX3 cI cJ cC a_k v_k) H := zKeepB hP_k hk1 (hLC.1 2 7 (by decide) (by decide) (by decide))
  have hP_t : va_P D vwCl (pX3 cI cJ cC a_t v_t) H := zKeepB hP_t hk1 (hLC.1 3 7 (by decide) (by decide) (by decide))
  have hP_s : va_P D vwCl (pX2 cI cJ cC a_s v_s) H := zKeepB hP_s hk1 (hLC.1 4 7 (by decide) (by decide) (by decide))
  have hP_r : va_P D vwCl (pX0 cI cJ cC a_r v_r) H := zKeepB hP_r hk1 (hLC.1 5 7 (by decide) (by decide) (by decide))
  have hP_c : va_P D vwCl (pX1 cI cJ cC a_c v_c) H := zKeepB hP_c hk1 (hLC.1 6 7 (by decide) (by decide) (by decide))
  refine W.lcmp hx hb dL_law_1070 ?_
  refine lv_if_eq (tgt := 1171) hx hb dL_law_1071 (by decide) (fun z => ?_) (fun z => absurd (zl_eq.mpr h.1) z)
  exact hnext _ _ _ ⟨(v_T.1, T_refusals_2), v_n, v_k, v_t, v_s, v_r, v_c, (v_M.1, v_M.2.1, v_M.2.2.1, v_M.2.2.2.1, v_M.2.2.2.2.1, v_M.2.2.2.2.2.1, v_M.2.2.2.2.2.2.1, v_M.2.2.2.2.2.2.2.1, v_M.2.2.2.2.2.2.2.2.1, v_M.2.2.2.2.2.2.2.2.2.1, v_M.2.2.2.2.2.2.2.2.2.2.1, M_refused_4, v_M.2.2.2.2.2.2.2.2.2.2.2.2.1, v_M.2.2.2.2.2.2.2.2.2.2.2.2.2.1, v_M.2.2.2.2.2.2.2.2.2.2.2.2.2.2.1, v_M.2.2.2.2.2.2.2.2.2.2.2.2.2.2.2.1, v_M.2.2.2.2.2.2.2.2.2.2.2.2.2.2.2.2.1, v_M.2.2.2.2.2.2.2.2.2.2.2.2.2.2.2.2.2.1, v_M.2.2.2.2.2.2.2.2.2.2.2.2.2.2.2.2.2.2.1, v_M.2.2.2.2.2.2.2.2.2.2.2.2.2.2.2.2.2.2.2.1, v_M.2.2.2.2.2.2.2.2.2.2.2.2.2.2.2.2.2.2.2.2.1, v_M.2.2.2.2.2.2.2.2.2.2.2.2.2.2.2.2.2.2.2.2.2.1, v_M.2.2.2.2.2.2.2.2.2.2.2.2.2.2.2.2.2.2.2.2.2.2.1, v_M.2.2.2.2.2.2.2.2.2.2.2.2.2.2.2.2.2.2.2.2.2.2.2), h.2, hP_T, hP_n, hP_k, hP_t, hP_s, hP_r, hP_c, hP_M⟩ hS hl
def PH_judge (RL : RT) : Prop := ∀ (v_T : PX4) (v_n : PX3) (v_k : PX3) (v_t : PX3) (v_s : PX2) (v_r : PX0) (v_c : PX1) (v_M : PX5), RL v_T v_n v_k v_s v_r v_M → wpX4_judge (fun (r_1 : Int32) (r_length_2 : Int32) => wpX5_judge (fun (r_3 : Int32) (M_pipes_4 : Int32) (M_used_5 : Int32) (M_isKeeping_6 : Int32) (M_cursor_7 : Int32) (M_rowMany_8 : Int32) (M_setting_9 : Nat → Int32) (M_hole_10 : Nat → Int32) (M_pipeAt_11 : Nat → Int32) (M_chance_12 : Nat → Int32) (M_weight_13 : Nat → Int32) (M_kept_14 : Nat → Int32) => r_1 = r_3 ∧ RL v_T v_n v_k v_s (r_length_2, v_r.2) (M_pipes_4, M_used_5, v_M.2.2.1, v_M.2.2.2.1, v_M.2.2.2.2.1, v_M.2.2.2.2.2.1, M_isKeeping_6, M_cursor_7, v_M.2.2.2.2.2.2.2.2.1, v_M.2.2.2.2.2.2.2.2.2.1, M_rowMany_8, v_M.2.2.2.2.2.2.2.2.2.2.2.1, M_setting_9, M_hole_10, M_pipeAt_11, M_chance_12, M_weight_13, v_M.2.2.2.2.2.2.2.2.2.2.2.2.2.2.2.2.2.1, v_M.2.2.2.2.2.2.2.2.2.2.2.2.2.2.2.2.2.2.1, v_M.2.2.2.2.2.2.2.2.2.2.2.2.2.2.2.2.2.2.2.1, v_M.2.2.2.2.2.2.2.2.2.2.2.2.2.2.2.2.2.2.2.2.1, M_kept_14, v_M.2.2.2.2.2.2.2.2.2.2.2.2.2.2.2.2.2.2.2.2.2.2.1, v_M.2.2.2.2.2.2.2.2.2.2.2.2.2.2.2.2.2.2.2.2.2.2.2)) v_M.1 v_M.2.1 v_M.2.2.2.2.2.2.2.2.2.2.1 v_M.2.2.2.2.2.2.2.2.2.2.2.2.1 v_M.2.2.2.2.2.2.2.2.2.2.2.2.2.1 v_M.2.2.2.2.2.2.2.2.2.2.2.2.2.2.1 v_M.2.2.2.2.2.2.2.2.2.2.2.2.2.2.2.1 v_M.2.2.2.2.2.2.2.2.2.2.2.2.2.2.2.2.1 v_M.2.2.2.2.2.2.2.2.2.2.2.2.2.2.2.2.2.2.2.2.2.1 v_M.2.2.2.2.2.2.2.2.2.2.2.2.2.2.2.2.2.2.2.2.2.2.2) v_n.2.2.2.2.2.2.2.2.1 v_n.2.2.2.2.2.2.2.2.2.2.2.2.1 v_r.1 v_r.2
set_option maxHeartbeats 4000000 in
set_option maxRecDepth 100000 in
theorem lawC_judge {p : Program} {l : Launch} {e : Env} {s : State} {m : MethodId} {below : List Frame} {meth : Method} {c : Code} {Q : State → Prop} {b L : Nat} {xs : Nat → Int32} {D : va_G} {cI cJ cC : ClassId} {G : Nat → Nat → Nat} {a_T a_n a_k a_t a_s a_r a_c a_M : Nat → Nat} (RL : RT) (hp : PH_judge RL) (S : CallFix p m c code 4 s #[Value.ref b] bg R_law) (hX : va_X b L xs s s.heap) (hbl : b < s.heap.size) (hK : va_K D vwCl (tz cI cJ cC) s) (hLC : LC a_T a_n a_k a_t a_s a_r a_c a_M (fun q : Nat => s.heap.size ≤ q)) (hE : EV G (fun q : Nat => s.heap.size ≤ q) s) {i : Nat} {x3 : Int32} (hi : ∀ k : Nat, k < 4 → vp_in (x3 + Int32.ofNat k) L) (hv : ∀ k : Nat, k < 4 → xs (x3 + Int32.ofNat k).toNatClampNeg = xs (i + k)) {H : Heap} {locs : List Loc} {ls : Array Slot} (hJ : JW RL D cI cJ cC a_T a_n a_k a_t a_s a_r a_c a_M H) (hS : va_S (fun q : Nat => s.heap.size ≤ q) s.heap H locs) (hl : lv_has ls 4 [(0, .ref b), (1, .ref (a_T 0)), (2, .ref (a_M 0)), (3, .int x3)])
    (hnext : ∀ (H : Heap) (locs : List Loc) (ls : Array Slot), JW RL D cI cJ cC a_T a_n a_k a_t a_s a_r a_c a_M H → va_S (fun q : Nat => s.heap.size ≤ q) s.heap H locs → lv_has ls 4 [(0, .ref b), (1, .ref (a_T 0)), (2, .ref (a_M 0)), (3, .int x3)] → W p l e room_1 s m #[Value.ref b] below meth c H locs 41 1350 Q (F0 m 1171 ls [])) : W p l e room_1 s m #[Value.ref b] below meth c H locs 41 1350 Q (F0 m 1076 ls []) := by
  obtain ⟨hx, hb, hml, hown, ht⟩ := id S
  have hA : ∀ q : Nat, s.heap.size ≤ q → (fun q : Nat => s.heap.size ≤ q) q := fun _ h => h
  have hbA : ¬ (fun q : Nat => s.heap.size ≤ q) b := Nat.not_le.mpr hbl
  obtain ⟨v_T, v_n, v_k, v_t, v_s, v_r, v_c, v_M, hR, hP_T, hP_n, hP_k, hP_t, hP_s, hP_r, hP_c, hP_M⟩ := hJ
  have h := hp v_T v_n v_k v_t v_s v_r v_c v_M  hR
  refine lv_aload_n hx hb dL_law_1076 rfl (lv_at hl 1 rfl) ?_
  have hPw : va_P D vwCl ((pX4 cI cJ cC a_T a_n a_k a_t a_s a_r a_c v_T) ++ (pX3 cI cJ cC a_n v_n) ++ (pX0 cI cJ cC a_r v_r)) _ := (va_P.app (va_P.app hP_T hP_n) hP_r)
  have hDw : va_D (fun q : Nat => s.heap.size ≤ q) ((pX4 cI cJ cC a_T a_n a_k a_t a_s a_r a_c v_T) ++ (pX3 cI cJ cC a_n v_n) ++ (pX0 cI cJ cC a_r v_r)) := hLC.2.2.2.2.2.2.2.1 _ rfl
  refine zci hA hDw hS (zrunV (As := []) (rest := []) S hK hA hE hPw hDw hS (mX4_judge l D cI cJ cC G a_T a_n a_k a_t a_s a_r a_c _ v_T.1 v_T.2 v_n.1 v_n.2.1 v_n.2.2.1 v_n.2.2.2.1 v_n.2.2.2.2.1 v_n.2.2.2.2.2.1 v_n.2.2.2.2.2.2.1 v_n.2.2.2.2.2.2.2.1 v_n.2.2.2.2.2.2.2.2.1 v_n.2.2.2.2.2.2.2.2.2.1 v_n.2.2.2.2.2.2.2.2.2.2.1 v_n.2.2.2.2.2.2.2.2.2.2.2.1 v_n.2.2.2.2.2.2.2.2.2.2.2.2.1 v_n.2.2.2.2.2.2.2.2.2.2.2.2.2 v_r.1 v_r.2 _ h) kX4_judge ml_L_152 ⟨rfl, rfl, by decide, by decide⟩ (q0 := 0) (ci := 4) rfl rfl rfl rfl hl.1 rfl (Nat.le_of_ble_eq_true rfl) dL_law_1077 ⟨by decide, by decide⟩) (fun r_1 r_length_2 H locs h hP1 hk1 hS => ?_)
  try dsimp only at h
  have hP_r : va_P D vwCl (bX0 cI cJ cC a_r r_length_2 v_r.2) H := zPr hP1
  have hP_n : va_P D vwCl (pX3 cI cJ cC a_n v_n) H := zPr (zPl (hP1))
  have hP_T : va_P D vwCl (pX4 cI cJ cC a_T a_n a_k a_t a_s a_r a_c v_T) H := zPl (zPl (hP1))
  have hP_k : va_P D vwCl (pX3 cI cJ cC a_k v_k) H := zKeepB hP_k hk1 (dj_app (dj_app (hLC.1 2 0 (by decide) (by decide) (by decide)) (hLC.1 2 1 (by decide) (by decide) (by decide))) (hLC.1 2 5 (by decide) (by decide) (by decide)))
  have hP_t : va_P D vwCl (pX3 cI cJ cC a_t v_t) H := zKeepB hP_t hk1 (dj_app (dj_app (hLC.1 3 0 (by decide) (by decide) (by decide)) (hLC.1 3 1 (by decide) (by decide) (by decide))) (hLC.1 3 5 (by decide) (by decide) (by decide)))
  have hP_s : va_P D vwCl (pX2 cI cJ cC a_s v_s) H := zKeepB hP_s hk1 (dj_app (dj_app (hLC.1 4 0 (by decide) (by decide) (by decide)) (hLC.1 4 1 (by decide) (by decide) (by decide))) (hLC.1 4 5 (by decide) (by decide) (by decide)))
  have hP_c : va_P D vwCl (pX1 cI cJ cC a_c v_c) H := zKeepB hP_c hk1 (dj_app (dj_app (hLC.1 6 0 (by decide) (by decide) (by decide)) (hLC.1 6 1 (by decide) (by decide) (by decide))) (hLC.1 6 5 (by decide) (by decide) (by decide)))
  have hP_M : va_P D vwCl (pX5 cI cJ cC a_M v_M) H := zKeepB hP_M hk1 (dj_app (dj_app (hLC.1 7 0 (by decide) (by decide) (by decide)) (hLC.1 7 1 (by decide) (by decide) (by decide))) (hLC.1 7 5 (by decide) (by decide) (by decide)))
  refine lv_aload_n hx hb dL_law_1080 rfl (lv_at hl 2 rfl) ?_
  have hPw : va_P D vwCl ((pX5 cI cJ cC a_M v_M)) _ := hP_M
  have hDw : va_D (fun q : Nat => s.heap.size ≤ q) ((pX5 cI cJ cC a_M v_M)) := hLC.2.2.2.2.2.2.2.2.2.2.2 _ rfl
  refine zci hA hDw hS (zrunV (As := []) (rest := [.int r_1]) S hK hA hE hPw hDw hS (mX5_judge l D cI cJ cC G a_M _ v_M.1 v_M.2.1 v_M.2.2.1 v_M.2.2.2.1 v_M.2.2.2.2.1 v_M.2.2.2.2.2.1 v_M.2.2.2.2.2.2.1 v_M.2.2.2.2.2.2.2.1 v_M.2.2.2.2.2.2.2.2.1 v_M.2.2.2.2.2.2.2.2.2.1 v_M.2.2.2.2.2.2.2.2.2.2.1 v_M.2.2.2.2.2.2.2.2.2.2.2.1 v_M.2.2.2.2.2.2.2.2.2.2.2.2.1 v_M.2.2.2.2.2.2.2.2.2.2.2.2.2.1 v_M.2.2.2.2.2.2.2.2.2.2.2.2.2.2.1 v_M.2.2.2.2.2.2.2.2.2.2.2.2.2.2.2.1 v_M.2.2.2.2.2.2.2.2.2.2.2.2.2.2.2.2.1 v_M.2.2.2.2.2.2.2.2.2.2.2.2.2.2.2.2.2.1 v_M.2.2.2.2.2.2.2.2.2.2.2.2.2.2.2.2.2.2.1 v_M.2.2.2.2.2.2.2.2.2.2.2.2.2.2.2.2.2.2.2.1 v_M.2.2.2.2.2.2.2.2.2.2.2.2.2.2.2.2.2.2.2.2.1 v_M.2.2.2.2.2.2.2.2.2.2.2.2.2.2.2.2.2.2.2.2.2.1 v_M.2.2.2.2.2.2.2.2.2.2.2.2.2.2.2.2.2.2.2.2.2.2.1 v_M.2.2.2.2.2.2.2.2.2.2.2.2.2.2.2.2.2.2.2.2.2.2.2 _ h) kX5_judge ml_L_155 ⟨rfl, rfl, by decide, by decide⟩ (q0 := 0) (ci := 5) rfl rfl rfl rfl hl.1 rfl (Nat.le_of_ble_eq_true rfl) dL_law_1081 ⟨by decide, by decide⟩) (fun r_3 u H locs h hP1 hk1 hS => ?_)
  obtain ⟨M_pipes_4, M_used_5, M_isKeeping_6, M_cursor_7, M_rowMany_8, M_setting_9, M_hole_10, M_pipeAt_11, M_chance_12, M_weight_13, M_kept_14⟩ := u
  try dsimp only at h
  have hP_M : va_P D vwCl (bX5 cI cJ cC a_M M_pipes_4 M_used_5 v_M.2.2.1 v_M.2.2.2.1 v_M.2.2.2.2.1 v_M.2.2.2.2.2.1 M_isKeeping_6 M_cursor_7 v_M.2.2.2.2.2.2.2.2.1 v_M.2.2.2.2.2.2.2.2.2.1 M_rowMany_8 v_M.2.2.2.2.2.2.2.2.2.2.2.1 M_setting_9 M_hole_10 M_pipeAt_11 M_chance_12 M_weight_13 v_M.2.2.2.2.2.2.2.2.2.2.2.2.2.2.2.2.2.1 v_M.2.2.2.2.2.2.2.2.2.2.2.2.2.2.2.2.2.2.1 v_M.2.2.2.2.2.2.2.2.2.2.2.2.2.2.2.2.2.2.2.1 v_M.2.2.2.2.2.2.2.2.2.2.2.2.2.2.2.2.2.2.2.2.1 M_kept_14 v_M.2.2.2.2.2.2.2.2.2.2.2.2.2.2.2.2.2.2.2.2.2.2.1 v_M.2.2.2.2.2.2.2.2.2.2.2.2.2.2.2.2.2.2.2.2.2.2.2) H := hP1
  have hP_T : va_P D vwCl (pX4 cI cJ cC a_T a_n a_k a_t a_s a_r a_c v_T) H := zKeepB hP_T hk1 (hLC.1 0 7 (by decide) (by decide) (by decide))
  have hP_n : va_P D vwCl (pX3 cI cJ cC a_n v_n) H := zKeepB hP_n hk1 (hLC.1 1 7 (by decide) (by decide) (by decide))
  have hP_k : va_P D vwCl (pX3 cI cJ cC a_k v_k) H := zKeepB hP_k hk1 (hLC.1 2 7 (by decide) (by decide) (by decide))
  have hP_t : va_P D vwCl (pX3 cI cJ cC a_t v_t) H := zKeepB hP_t hk1 (hLC.1 3 7 (by decide) (by decide) (by decide))
  have hP_s : va_P D vwCl (pX2 cI cJ cC a_s v_s) H := zKeepB hP_s hk1 (hLC.1 4 7 (by decide) (by decide) (by decide))
  have hP_r : va_P D vwCl (bX0 cI cJ cC a_r r_length_2 v_r.2) H := zKeepB hP_r hk1 (hLC.1 5 7 (by decide) (by decide) (by decide))
  have hP_c : va_P D vwCl (pX1 cI cJ cC a_c v_c) H := zKeepB hP_c hk1 (hLC.1 6 7 (by decide) (by decide) (by decide))
  refine lv_icmp_eq (tgt := 1171) hx hb dL_law_1084 (by decide) (fun z => ?_) (fun z => absurd h.1 z)
  exact hnext _ _ _ ⟨v_T, v_n, v_k, v_t, v_s, (r_length_2, v_r.2), v_c, (M_pipes_4, M_used_5, v_M.2.2.1, v_M.2.2.2.1, v_M.2.2.2.2.1, v_M.2.2.2.2.2.1, M_isKeeping_6, M_cursor_7, v_M.2.2.2.2.2.2.2.2.1, v_M.2.2.2.2.2.2.2.2.2.1, M_rowMany_8, v_M.2.2.2.2.2.2.2.2.2.2.2.1, M_setting_9, M_hole_10, M_pipeAt_11, M_chance_12, M_weight_13, v_M.2.2.2.2.2.2.2.2.2.2.2.2.2.2.2.2.2.1, v_M.2.2.2.2.2.2.2.2.2.2.2.2.2.2.2.2.2.2.1, v_M.2.2.2.2.2.2.2.2.2.2.2.2.2.2.2.2.2.2.2.1, v_M.2.2.2.2.2.2.2.2.2.2.2.2.2.2.2.2.2.2.2.2.1, M_kept_14, v_M.2.2.2.2.2.2.2.2.2.2.2.2.2.2.2.2.2.2.2.2.2.2.1, v_M.2.2.2.2.2.2.2.2.2.2.2.2.2.2.2.2.2.2.2.2.2.2.2), h.2, hP_T, hP_n, hP_k, hP_t, hP_s, hP_r, hP_c, hP_M⟩ hS hl
def PH_lots (RL : RT) : Prop := ∀ (v_T : PX4) (v_n : PX3) (v_k : PX3) (v_t : PX3) (v_s : PX2) (v_r : PX0) (v_c : PX1) (v_M : PX5) (p0 : Int32) (p1 : Int32), RL v_T v_n v_k v_s v_r v_M → wpX4_lots (fun (r_1 : Int32) (T_refusals_2 : Nat → Int32) => wpX5_lots (fun (r_3 : Int32) (M_pipes_4 : Int32) (M_used_5 : Int32) (M_isKeeping_6 : Int32) (M_cursor_7 : Int32) (M_refused_8 : Nat → Int32) (M_setting_9 : Nat → Int32) (M_hole_10 : Nat → Int32) (M_pipeAt_11 : Nat → Int32) (M_chance_12 : Nat → Int32) (M_weight_13 : Nat → Int32) (M_kept_14 : Nat → Int32) => r_1 = r_3 ∧ RL (v_T.1, T_refusals_2) v_n v_k v_s v_r (M_pipes_4, M_used_5, v_M.2.2.1, v_M.2.2.2.1, v_M.2.2.2.2.1, v_M.2.2.2.2.2.1, M_isKeeping_6, M_cursor_7, v_M.2.2.2.2.2.2.2.2.1, v_M.2.2.2.2.2.2.2.2.2.1, v_M.2.2.2.2.2.2.2.2.2.2.1, M_refused_8, M_setting_9, M_hole_10, M_pipeAt_11, M_chance_12, M_weight_13, v_M.2.2.2.2.2.2.2.2.2.2.2.2.2.2.2.2.2.1, v_M.2.2.2.2.2.2.2.2.2.2.2.2.2.2.2.2.2.2.1, v_M.2.2.2.2.2.2.2.2.2.2.2.2.2.2.2.2.2.2.2.1, v_M.2.2.2.2.2.2.2.2.2.2.2.2.2.2.2.2.2.2.2.2.1, M_kept_14, v_M.2.2.2.2.2.2.2.2.2.2.2.2.2.2.2.2.2.2.2.2.2.2.1, v_M.2.2.2.2.2.2.2.2.2.2.2.2.2.2.2.2.2.2.2.2.2.2.2)) v_M.1 v_M.2.1 v_M.2.2.2.2.2.2.1 v_M.2.2.2.2.2.2.2.1 v_M.2.2.2.2.2.2.2.2.2.2.2.1 v_M.2.2.2.2.2.2.2.2.2.2.2.2.1 v_M.2.2.2.2.2.2.2.2.2.2.2.2.2.1 v_M.2.2.2.2.2.2.2.2.2.2.2.2.2.2.1 v_M.2.2.2.2.2.2.2.2.2.2.2.2.2.2.2.1 v_M.2.2.2.2.2.2.2.2.2.2.2.2.2.2.2.2.1 v_M.2.2.2.2.2.2.2.2.2.2.2.2.2.2.2.2.2.2.2.2.2.1 p0 p1) v_T.2 v_n.1 v_n.2.2.2.2.2.2.2.2.2.2.2.2.1 p0 p1
set_option maxHeartbeats 4000000 in
set_option maxRecDepth 100000 in
theorem lawC_lots {p : Program} {l : Launch} {e : Env} {s : State} {m : MethodId} {below : List Frame} {meth : Method} {c : Code} {Q : State → Prop} {b L : Nat} {xs : Nat → Int32} {D : va_G} {cI cJ cC : ClassId} {G : Nat → Nat → Nat} {a_T a_n a_k a_t a_s a_r a_c a_M : Nat → Nat} (RL : RT) (hp : PH_lots RL) (S : CallFix p m c code 4 s #[Value.ref b] bg R_law) (hX : va_X b L xs s s.heap) (hbl : b < s.heap.size) (hK : va_K D vwCl (tz cI cJ cC) s) (hLC : LC a_T a_n a_k a_t a_s a_r a_c a_M (fun q : Nat => s.heap.size ≤ q)) (hE : EV G (fun q : Nat => s.heap.size ≤ q) s) {i : Nat} {x3 : Int32} (hi : ∀ k : Nat, k < 4 → vp_in (x3 + Int32.ofNat k) L) (hv : ∀ k : Nat, k < 4 → xs (x3 + Int32.ofNat k).toNatClampNeg = xs (i + k)) {H : Heap} {locs : List Loc} {ls : Array Slot} (hJ : JW RL D cI cJ cC a_T a_n a_k a_t a_s a_r a_c a_M H) (hS : va_S (fun q : Nat => s.heap.size ≤ q) s.heap H locs) (hl : lv_has ls 4 [(0, .ref b), (1, .ref (a_T 0)), (2, .ref (a_M 0)), (3, .int x3)])
    (hnext : ∀ (H : Heap) (locs : List Loc) (ls : Array Slot), JW RL D cI cJ cC a_T a_n a_k a_t a_s a_r a_c a_M H → va_S (fun q : Nat => s.heap.size ≤ q) s.heap H locs → lv_has ls 4 [(0, .ref b), (1, .ref (a_T 0)), (2, .ref (a_M 0)), (3, .int x3)] → W p l e room_1 s m #[Value.ref b] below meth c H locs 41 1350 Q (F0 m 1171 ls [])) : W p l e room_1 s m #[Value.ref b] below meth c H locs 41 1350 Q (F0 m 1089 ls []) := by
  obtain ⟨hx, hb, hml, hown, ht⟩ := id S
  have hA : ∀ q : Nat, s.heap.size ≤ q → (fun q : Nat => s.heap.size ≤ q) q := fun _ h => h
  have hbA : ¬ (fun q : Nat => s.heap.size ≤ q) b := Nat.not_le.mpr hbl
  obtain ⟨v_T, v_n, v_k, v_t, v_s, v_r, v_c, v_M, hR, hP_T, hP_n, hP_k, hP_t, hP_s, hP_r, hP_c, hP_M⟩ := hJ
  have h := hp v_T v_n v_k v_t v_s v_r v_c v_M (xs (i + 1)) (xs (i + 2)) hR
  refine lv_aload_n hx hb dL_law_1089 rfl (lv_at hl 1 rfl) ?_
  refine lv_aload_n hx hb dL_law_1090 rfl (lv_at hl 0 rfl) ?_
  refine lv_iload_n hx hb dL_law_1091 rfl (lv_at hl 3 rfl) ?_
  refine lv_iconst (v := (1 : Int32)) hx hb dL_law_1092 (by decide) ?_
  refine lv_iadd hx hb dL_law_1093 ?_
  refine va_sld hx hb hX hbl hbA hS (hi 1 (by decide)) dL_law_1094 ?_
  refine zti (hv 1 (by decide)) ?_
  refine lv_aload_n hx hb dL_law_1095 rfl (lv_at hl 0 rfl) ?_
  refine lv_iload_n hx hb dL_law_1096 rfl (lv_at hl 3 rfl) ?_
  refine lv_iconst (v := (2 : Int32)) hx hb dL_law_1097 (by decide) ?_
  refine lv_iadd hx hb dL_law_1098 ?_
  refine va_sld hx hb hX hbl hbA hS (hi 2 (by decide)) dL_law_1099 ?_
  refine zti (hv 2 (by decide)) ?_
  have hPw : va_P D vwCl ((pX4 cI cJ cC a_T a_n a_k a_t a_s a_r a_c v_T) ++ (pX3 cI cJ cC a_n v_n)) _ := (hP_T.app hP_n)
  have hDw : va_D (fun q : Nat => s.heap.size ≤ q) ((pX4 cI cJ cC a_T a_n a_k a_t a_s a_r a_c v_T) ++ (pX3 cI cJ cC a_n v_n)) := hLC.2.2.2.1 _ rfl
  refine zci hA hDw hS (zrunV (As := [.int (xs (i + 1)), .int (xs (i + 2))]) (rest := []) S hK hA hE hPw hDw hS (mX4_lots l D cI cJ cC G a_T a_n a_k a_t a_s a_r a_c _ v_T.1 v_T.2 v_n.1 v_n.2.1 v_n.2.2.1 v_n.2.2.2.1 v_n.2.2.2.2.1 v_n.2.2.2.2.2.1 v_n.2.2.2.2.2.2.1 v_n.2.2.2.2.2.2.2.1 v_n.2.2.2.2.2.2.2.2.1 v_n.2.2.2.2.2.2.2.2.2.1 v_n.2.2.2.2.2.2.2.2.2.2.1 v_n.2.2.2.2.2.2.2.2.2.2.2.1 v_n.2.2.2.2.2.2.2.2.2.2.2.2.1 v_n.2.2.2.2.2.2.2.2.2.2.2.2.2 (xs (i + 1)) (xs (i + 2)) _ h) kX4_lots ml_L_156 ⟨rfl, rfl, by decide, by decide⟩ (q0 := 0) (ci := 4) rfl rfl rfl rfl hl.1 rfl (Nat.le_of_ble_eq_true rfl) dL_law_1100 ⟨by decide, by decide⟩) (fun r_1 T_refusals_2 H locs h hP1 hk1 hS => ?_)
  try dsimp only at h
  have hP_n : va_P D vwCl (pX3 cI cJ cC a_n v_n) H := zPr hP1
  have hP_T : va_P D vwCl (bX4 cI cJ cC a_T a_n a_k a_t a_s a_r a_c v_T.1 T_refusals_2) H := zPl (hP1)
  have hP_k : va_P D vwCl (pX3 cI cJ cC a_k v_k) H := zKeepB hP_k hk1 (dj_app (hLC.1 2 0 (by decide) (by decide) (by decide)) (hLC.1 2 1 (by decide) (by decide) (by decide)))
  have hP_t : va_P D vwCl (pX3 cI cJ cC a_t v_t) H := zKeepB hP_t hk1 (dj_app (hLC.1 3 0 (by decide) (by decide) (by decide)) (hLC.1 3 1 (by decide) (by decide) (by decide)))
  have hP_s : va_P D vwCl (pX2 cI cJ cC a_s v_s) H := zKeepB hP_s hk1 (dj_app (hLC.1 4 0 (by decide) (by decide) (by decide)) (hLC.1 4 1 (by decide) (by decide) (by decide)))
  have hP_r : va_P D vwCl (pX0 cI cJ cC a_r v_r) H := zKeepB hP_r hk1 (dj_app (hLC.1 5 0 (by decide) (by decide) (by decide)) (hLC.1 5 1 (by decide) (by decide) (by decide)))
  have hP_c : va_P D vwCl (pX1 cI cJ cC a_c v_c) H := zKeepB hP_c hk1 (dj_app (hLC.1 6 0 (by decide) (by decide) (by decide)) (hLC.1 6 1 (by decide) (by decide) (by decide)))
  have hP_M : va_P D vwCl (pX5 cI cJ cC a_M v_M) H := zKeepB hP_M hk1 (dj_app (hLC.1 7 0 (by decide) (by decide) (by decide)) (hLC.1 7 1 (by decide) (by decide) (by decide)))
  refine lv_aload_n hx hb dL_law_1103 rfl (lv_at hl 2 rfl) ?_
  refine lv_aload_n hx hb dL_law_1104 rfl (lv_at hl 0 rfl) ?_
  refine lv_iload_n hx hb dL_law_1105 rfl (lv_at hl 3 rfl) ?_
  refine lv_iconst (v := (1 : Int32)) hx hb dL_law_1106 (by decide) ?_
  refine lv_iadd hx hb dL_law_1107 ?_
  refine va_sld hx hb hX hbl hbA hS (hi 1 (by decide)) dL_law_1108 ?_
  refine zti (hv 1 (by decide)) ?_
  refine lv_aload_n hx hb dL_law_1109 rfl (lv_at hl 0 rfl) ?_
  refine lv_iload_n hx hb dL_law_1110 rfl (lv_at hl 3 rfl) ?_
  refine lv_iconst (v := (2 : Int32)) hx hb dL_law_1111 (by decide) ?_
  refine lv_iadd hx hb dL_law_1112 ?_
  refine va_sld hx hb hX hbl hbA hS (hi 2 (by decide)) dL_law_1113 ?_
  refine zti (hv 2 (by decide)) ?_
  have hPw : va_P D vwCl ((pX5 cI cJ cC a_M v_M)) _ := hP_M
  have hDw : va_D (fun q : Nat => s.heap.size ≤ q) ((pX5 cI cJ cC a_M v_M)) := hLC.2.2.2.2.2.2.2.2.2.2.2 _ rfl
  refine zci hA hDw hS (zrunV (As := [.int (xs (i + 1)), .int (xs (i + 2))]) (rest := [.int r_1]) S hK hA hE hPw hDw hS (mX5_lots l D cI cJ cC G a_M _ v_M.1 v_M.2.1 v_M.2.2.1 v_M.2.2.2.1 v_M.2.2.2.2.1 v_M.2.2.2.2.2.1 v_M.2.2.2.2.2.2.1 v_M.2.2.2.2.2.2.2.1 v_M.2.2.2.2.2.2.2.2.1 v_M.2.2.2.2.2.2.2.2.2.1 v_M.2.2.2.2.2.2.2.2.2.2.1 v_M.2.2.2.2.2.2.2.2.2.2.2.1 v_M.2.2.2.2.2.2.2.2.2.2.2.2.1 v_M.2.2.2.2.2.2.2.2.2.2.2.2.2.1 v_M.2.2.2.2.2.2.2.2.2.2.2.2.2.2.1 v_M.2.2.2.2.2.2.2.2.2.2.2.2.2.2.2.1 v_M.2.2.2.2.2.2.2.2.2.2.2.2.2.2.2.2.1 v_M.2.2.2.2.2.2.2.2.2.2.2.2.2.2.2.2.2.1 v_M.2.2.2.2.2.2.2.2.2.2.2.2.2.2.2.2.2.2.1 v_M.2.2.2.2.2.2.2.2.2.2.2.2.2.2.2.2.2.2.2.1 v_M.2.2.2.2.2.2.2.2.2.2.2.2.2.2.2.2.2.2.2.2.1 v_M.2.2.2.2.2.2.2.2.2.2.2.2.2.2.2.2.2.2.2.2.2.1 v_M.2.2.2.2.2.2.2.2.2.2.2.2.2.2.2.2.2.2.2.2.2.2.1 v_M.2.2.2.2.2.2.2.2.2.2.2.2.2.2.2.2.2.2.2.2.2.2.2 (xs (i + 1)) (xs (i + 2)) _ h) kX5_lots ml_L_159 ⟨rfl, rfl, by decide, by decide⟩ (q0 := 0) (ci := 5) rfl rfl rfl rfl hl.1 rfl (Nat.le_of_ble_eq_true rfl) dL_law_1114 ⟨by decide, by decide⟩) (fun r_3 u H locs h hP1 hk1 hS => ?_)
  obtain ⟨M_pipes_4, M_used_5, M_isKeeping_6, M_cursor_7, M_refused_8, M_setting_9, M_hole_10, M_pipeAt_11, M_chance_12, M_weight_13, M_kept_14⟩ := u
  try dsimp only at h
  have hP_M : va_P D vwCl (bX5 cI cJ cC a_M M_pipes_4 M_used_5 v_M.2.2.1 v_M.2.2.2.1 v_M.2.2.2.2.1 v_M.2.2.2.2.2.1 M_isKeeping_6 M_cursor_7 v_M.2.2.2.2.2.2.2.2.1 v_M.2.2.2.2.2.2.2.2.2.1 v_M.2.2.2.2.2.2.2.2.2.2.1 M_refused_8 M_setting_9 M_hole_10 M_pipeAt_11 M_chance_12 M_weight_13 v_M.2.2.2.2.2.2.2.2.2.2.2.2.2.2.2.2.2.1 v_M.2.2.2.2.2.2.2.2.2.2.2.2.2.2.2.2.2.2.1 v_M.2.2.2.2.2.2.2.2.2.2.2.2.2.2.2.2.2.2.2.1 v_M.2.2.2.2.2.2.2.2.2.2.2.2.2.2.2.2.2.2.2.2.1 M_kept_14 v_M.2.2.2.2.2.2.2.2.2.2.2.2.2.2.2.2.2.2.2.2.2.2.1 v_M.2.2.2.2.2.2.2.2.2.2.2.2.2.2.2.2.2.2.2.2.2.2.2) H := hP1
  have hP_T : va_P D vwCl (bX4 cI cJ cC a_T a_n a_k a_t a_s a_r a_c v_T.1 T_refusals_2) H := zKeepB hP_T hk1 (hLC.1 0 7 (by decide) (by decide) (by decide))
  have hP_n : va_P D vwCl (pX3 cI cJ cC a_n v_n) H := zKeepB hP_n hk1 (hLC.1 1 7 (by decide) (by decide) (by decide))
  have hP_k : va_P D vwCl (pX3 cI cJ cC a_k v_k) H := zKeepB hP_k hk1 (hLC.1 2 7 (by decide) (by decide) (by decide))
  have hP_t : va_P D vwCl (pX3 cI cJ cC a_t v_t) H := zKeepB hP_t hk1 (hLC.1 3 7 (by decide) (by decide) (by decide))
  have hP_s : va_P D vwCl (pX2 cI cJ cC a_s v_s) H := zKeepB hP_s hk1 (hLC.1 4 7 (by decide) (by decide) (by decide))
  have hP_r : va_P D vwCl (pX0 cI cJ cC a_r v_r) H := zKeepB hP_r hk1 (hLC.1 5 7 (by decide) (by decide) (by decide))
  have hP_c : va_P D vwCl (pX1 cI cJ cC a_c v_c) H := zKeepB hP_c hk1 (hLC.1 6 7 (by decide) (by decide) (by decide))
  refine lv_icmp_eq (tgt := 1171) hx hb dL_law_1117 (by decide) (fun z => ?_) (fun z => absurd h.1 z)
  exact hnext _ _ _ ⟨(v_T.1, T_refusals_2), v_n, v_k, v_t, v_s, v_r, v_c, (M_pipes_4, M_used_5, v_M.2.2.1, v_M.2.2.2.1, v_M.2.2.2.2.1, v_M.2.2.2.2.2.1, M_isKeeping_6, M_cursor_7, v_M.2.2.2.2.2.2.2.2.1, v_M.2.2.2.2.2.2.2.2.2.1, v_M.2.2.2.2.2.2.2.2.2.2.1, M_refused_8, M_setting_9, M_hole_10, M_pipeAt_11, M_chance_12, M_weight_13, v_M.2.2.2.2.2.2.2.2.2.2.2.2.2.2.2.2.2.1, v_M.2.2.2.2.2.2.2.2.2.2.2.2.2.2.2.2.2.2.1, v_M.2.2.2.2.2.2.2.2.2.2.2.2.2.2.2.2.2.2.2.1, v_M.2.2.2.2.2.2.2.2.2.2.2.2.2.2.2.2.2.2.2.2.1, M_kept_14, v_M.2.2.2.2.2.2.2.2.2.2.2.2.2.2.2.2.2.2.2.2.2.2.1, v_M.2.2.2.2.2.2.2.2.2.2.2.2.2.2.2.2.2.2.2.2.2.2.2), h.2, hP_T, hP_n, hP_k, hP_t, hP_s, hP_r, hP_c, hP_M⟩ hS hl
def PH_image (RL : RT) : Prop := ∀ (v_T : PX4) (v_n : PX3) (v_k : PX3) (v_t : PX3) (v_s : PX2) (v_r : PX0) (v_c : PX1) (v_M : PX5), RL v_T v_n v_k v_s v_r v_M → wpX4_image (fun (r_1 : Int32) (T_isKept_2 : Int32) (k_space_3 : Int32) (k_beam_4 : Int32) (k_door_5 : Int32) (k_law_6 : Int32) (k_used_7 : Int32) (k_pipes_8 : Int32) (k_drilled_9 : Int64) (k_total_10 : Int64) (k_open_11 : Int32) (k_pipeInches_12 : Nat → Int32) (k_pipeChances_13 : Nat → Int32) (k_weights_14 : Nat → Int64) (k_woods_15 : Nat → Int32) (k_sums_16 : Nat → Int64) => wpX5_image (fun (r_17 : Int32) (M_pipes_18 : Int32) (M_used_19 : Int32) (M_hasImage_20 : Int32) (M_isKeeping_21 : Int32) (M_cursor_22 : Int32) (M_setting_23 : Nat → Int32) (M_hole_24 : Nat → Int32) (M_pipeAt_25 : Nat → Int32) (M_chance_26 : Nat → Int32) (M_weight_27 : Nat → Int32) (M_kept_28 : Nat → Int32) => r_1 = r_17 ∧ RL (T_isKept_2, v_T.2) v_n (k_space_3, k_beam_4, k_door_5, k_law_6, k_used_7, k_pipes_8, k_drilled_9, k_total_10, k_open_11, k_pipeInches_12, k_pipeChances_13, k_weights_14, k_woods_15, k_sums_16) v_s v_r (M_pipes_18, M_used_19, v_M.2.2.1, v_M.2.2.2.1, v_M.2.2.2.2.1, M_hasImage_20, M_isKeeping_21, M_cursor_22, v_M.2.2.2.2.2.2.2.2.1, v_M.2.2.2.2.2.2.2.2.2.1, v_M.2.2.2.2.2.2.2.2.2.2.1, v_M.2.2.2.2.2.2.2.2.2.2.2.1, M_setting_23, M_hole_24, M_pipeAt_25, M_chance_26, M_weight_27, v_M.2.2.2.2.2.2.2.2.2.2.2.2.2.2.2.2.2.1, v_M.2.2.2.2.2.2.2.2.2.2.2.2.2.2.2.2.2.2.1, v_M.2.2.2.2.2.2.2.2.2.2.2.2.2.2.2.2.2.2.2.1, v_M.2.2.2.2.2.2.2.2.2.2.2.2.2.2.2.2.2.2.2.2.1, M_kept_28, v_M.2.2.2.2.2.2.2.2.2.2.2.2.2.2.2.2.2.2.2.2.2.2.1, v_M.2.2.2.2.2.2.2.2.2.2.2.2.2.2.2.2.2.2.2.2.2.2.2)) v_M.1 v_M.2.1 v_M.2.2.2.2.2.2.2.2.2.2.2.2.1 v_M.2.2.2.2.2.2.2.2.2.2.2.2.2.1 v_M.2.2.2.2.2.2.2.2.2.2.2.2.2.2.1 v_M.2.2.2.2.2.2.2.2.2.2.2.2.2.2.2.1 v_M.2.2.2.2.2.2.2.2.2.2.2.2.2.2.2.2.1 v_M.2.2.2.2.2.2.2.2.2.2.2.2.2.2.2.2.2.2.2.2.2.1) v_n.1 v_n.2.1 v_n.2.2.1 v_n.2.2.2.1 v_n.2.2.2.2.1 v_n.2.2.2.2.2.1 v_n.2.2.2.2.2.2.1 v_n.2.2.2.2.2.2.2.1 v_n.2.2.2.2.2.2.2.2.1 v_n.2.2.2.2.2.2.2.2.2.1 v_n.2.2.2.2.2.2.2.2.2.2.1 v_n.2.2.2.2.2.2.2.2.2.2.2.1 v_n.2.2.2.2.2.2.2.2.2.2.2.2.1 v_n.2.2.2.2.2.2.2.2.2.2.2.2.2 v_k.2.2.2.2.2.2.2.2.2.1 v_k.2.2.2.2.2.2.2.2.2.2.1 v_k.2.2.2.2.2.2.2.2.2.2.2.1 v_k.2.2.2.2.2.2.2.2.2.2.2.2.1 v_k.2.2.2.2.2.2.2.2.2.2.2.2.2
set_option maxHeartbeats 4000000 in
set_option maxRecDepth 100000 in
theorem lawC_image {p : Program} {l : Launch} {e : Env} {s : State} {m : MethodId} {below : List Frame} {meth : Method} {c : Code} {Q : State → Prop} {b L : Nat} {xs : Nat → Int32} {D : va_G} {cI cJ cC : ClassId} {G : Nat → Nat → Nat} {a_T a_n a_k a_t a_s a_r a_c a_M : Nat → Nat} (RL : RT) (hp : PH_image RL) (S : CallFix p m c code 4 s #[Value.ref b] bg R_law) (hX : va_X b L xs s s.heap) (hbl : b < s.heap.size) (hK : va_K D vwCl (tz cI cJ cC) s) (hLC : LC a_T a_n a_k a_t a_s a_r a_c a_M (fun q : Nat => s.heap.size ≤ q)) (hE : EV G (fun q : Nat => s.heap.size ≤ q) s) {i : Nat} {x3 : Int32} (hi : ∀ k : Nat, k < 4 → vp_in (x3 + Int32.ofNat k) L) (hv : ∀ k : Nat, k < 4 → xs (x3 + Int32.ofNat k).toNatClampNeg = xs (i + k)) {H : Heap} {locs : List Loc} {ls : Array Slot} (hJ : JW RL D cI cJ cC a_T a_n a_k a_t a_s a_r a_c a_M H) (hS : va_S (fun q : Nat => s.heap.size ≤ q) s.heap H locs) (hl : lv_has ls 4 [(0, .ref b), (1, .ref (a_T 0)), (2, .ref (a_M 0)), (3, .int x3)])
    (hnext : ∀ (H : Heap) (locs : List Loc) (ls : Array Slot), JW RL D cI cJ cC a_T a_n a_k a_t a_s a_r a_c a_M H → va_S (fun q : Nat => s.heap.size ≤ q) s.heap H locs → lv_has ls 4 [(0, .ref b), (1, .ref (a_T 0)), (2, .ref (a_M 0)), (3, .int x3)] → W p l e room_1 s m #[Value.ref b] below meth c H locs 41 1350 Q (F0 m 1171 ls [])) : W p l e room_1 s m #[Value.ref b] below meth c H locs 41 1350 Q (F0 m 1122 ls []) := by
  obtain ⟨hx, hb, hml, hown, ht⟩ := id S
  have hA : ∀ q : Nat, s.heap.size ≤ q → (fun q : Nat => s.heap.size ≤ q) q := fun _ h => h
  have hbA : ¬ (fun q : Nat => s.heap.size ≤ q) b := Nat.not_le.mpr hbl
  obtain ⟨v_T, v_n, v_k, v_t, v_s, v_r, v_c, v_M, hR, hP_T, hP_n, hP_k, hP_t, hP_s, hP_r, hP_c, hP_M⟩ := hJ
  have h := hp v_T v_n v_k v_t v_s v_r v_c v_M  hR
  refine lv_aload_n hx hb dL_law_1122 rfl (lv_at hl 1 rfl) ?_
  have hPw : va_P D vwCl ((pX4 cI cJ cC a_T a_n a_k a_t a_s a_r a_c v_T) ++ (pX3 cI cJ cC a_n v_n) ++ (pX3 cI cJ cC a_k v_k)) _ := (va_P.app (va_P.app hP_T hP_n) hP_k)
  have hDw : va_D (fun q : Nat => s.heap.size ≤ q) ((pX4 cI cJ cC a_T a_n a_k a_t a_s a_r a_c v_T) ++ (pX3 cI cJ cC a_n v_n) ++ (pX3 cI cJ cC a_k v_k)) := hLC.2.2.2.2.2.2.2.2.1 _ rfl
  refine zci hA hDw hS (zrunV (As := []) (rest := []) S hK hA hE hPw hDw hS (mX4_image l D cI cJ cC G a_T a_n a_k a_t a_s a_r a_c _ v_T.1 v_T.2 v_n.1 v_n.2.1 v_n.2.2.1 v_n.2.2.2.1 v_n.2.2.2.2.1 v_n.2.2.2.2.2.1 v_n.2.2.2.2.2.2.1 v_n.2.2.2.2.2.2.2.1 v_n.2.2.2.2.2.2.2.2.1 v_n.2.2.2.2.2.2.2.2.2.1 v_n.2.2.2.2.2.2.2.2.2.2.1 v_n.2.2.2.2.2.2.2.2.2.2.2.1 v_n.2.2.2.2.2.2.2.2.2.2.2.2.1 v_n.2.2.2.2.2.2.2.2.2.2.2.2.2 v_k.1 v_k.2.1 v_k.2.2.1 v_k.2.2.2.1 v_k.2.2.2.2.1 v_k.2.2.2.2.2.1 v_k.2.2.2.2.2.2.1 v_k.2.2.2.2.2.2.2.1 v_k.2.2.2.2.2.2.2.2.1 v_k.2.2.2.2.2.2.2.2.2.1 v_k.2.2.2.2.2.2.2.2.2.2.1 v_k.2.2.2.2.2.2.2.2.2.2.2.1 v_k.2.2.2.2.2.2.2.2.2.2.2.2.1 v_k.2.2.2.2.2.2.2.2.2.2.2.2.2 _ h) kX4_image ml_L_160 ⟨rfl, rfl, by decide, by decide⟩ (q0 := 0) (ci := 4) rfl rfl rfl rfl hl.1 rfl (Nat.le_of_ble_eq_true rfl) dL_law_1123 ⟨by decide, by decide⟩) (fun r_1 u H locs h hP1 hk1 hS => ?_)
  obtain ⟨T_isKept_2, k_space_3, k_beam_4, k_door_5, k_law_6, k_used_7, k_pipes_8, k_drilled_9, k_total_10, k_open_11, k_pipeInches_12, k_pipeChances_13, k_weights_14, k_woods_15, k_sums_16⟩ := u
  try dsimp only at h
  have hP_k : va_P D vwCl (bX3 cI cJ cC a_k k_space_3 k_beam_4 k_door_5 k_law_6 k_used_7 k_pipes_8 k_drilled_9 k_total_10 k_open_11 k_pipeInches_12 k_pipeChances_13 k_weights_14 k_woods_15 k_sums_16) H := zPr hP1
  have hP_n : va_P D vwCl (pX3 cI cJ cC a_n v_n) H := zPr (zPl (hP1))
  have hP_T : va_P D vwCl (bX4 cI cJ cC a_T a_n a_k a_t a_s a_r a_c T_isKept_2 v_T.2) H := zPl (zPl (hP1))
  have hP_t : va_P D vwCl (pX3 cI cJ cC a_t v_t) H := zKeepB hP_t hk1 (dj_app (dj_app (hLC.1 3 0 (by decide) (by decide) (by decide)) (hLC.1 3 1 (by decide) (by decide) (by decide))) (hLC.1 3 2 (by decide) (by decide) (by decide)))
  have hP_s : va_P D vwCl (pX2 cI cJ cC a_s v_s) H := zKeepB hP_s hk1 (dj_app (dj_app (hLC.1 4 0 (by decide) (by decide) (by decide)) (hLC.1 4 1 (by decide) (by decide) (by decide))) (hLC.1 4 2 (by decide) (by decide) (by decide)))
  have hP_r : va_P D vwCl (pX0 cI cJ cC a_r v_r) H := zKeepB hP_r hk1 (dj_app (dj_app (hLC.1 5 0 (by decide) (by decide) (by decide)) (hLC.1 5 1 (by decide) (by decide) (by decide))) (hLC.1 5 2 (by decide) (by decide) (by decide)))
  have hP_c : va_P D vwCl (pX1 cI cJ cC a_c v_c) H := zKeepB hP_c hk1 (dj_app (dj_app (hLC.1 6 0 (by decide) (by decide) (by decide)) (hLC.1 6 1 (by decide) (by decide) (by decide))) (hLC.1 6 2 (by decide) (by decide) (by decide)))
  have hP_M : va_P D vwCl (pX5 cI cJ cC a_M v_M) H := zKeepB hP_M hk1 (dj_app (dj_app (hLC.1 7 0 (by decide) (by decide) (by decide)) (hLC.1 7 1 (by decide) (by decide) (by decide))) (hLC.1 7 2 (by decide) (by decide) (by decide)))
  refine lv_aload_n hx hb dL_law_1126 rfl (lv_at hl 2 rfl) ?_
  have hPw : va_P D vwCl ((pX5 cI cJ cC a_M v_M)) _ := hP_M
  have hDw : va_D (fun q : Nat => s.heap.size ≤ q) ((pX5 cI cJ cC a_M v_M)) := hLC.2.2.2.2.2.2.2.2.2.2.2 _ rfl
  refine zci hA hDw hS (zrunV (As := []) (rest := [.int r_1]) S hK hA hE hPw hDw hS (mX5_image l D cI cJ cC G a_M _ v_M.1 v_M.2.1 v_M.2.2.1 v_M.2.2.2.1 v_M.2.2.2.2.1 v_M.2.2.2.2.2.1 v_M.2.2.2.2.2.2.1 v_M.2.2.2.2.2.2.2.1 v_M.2.2.2.2.2.2.2.2.1 v_M.2.2.2.2.2.2.2.2.2.1 v_M.2.2.2.2.2.2.2.2.2.2.1 v_M.2.2.2.2.2.2.2.2.2.2.2.1 v_M.2.2.2.2.2.2.2.2.2.2.2.2.1 v_M.2.2.2.2.2.2.2.2.2.2.2.2.2.1 v_M.2.2.2.2.2.2.2.2.2.2.2.2.2.2.1 v_M.2.2.2.2.2.2.2.2.2.2.2.2.2.2.2.1 v_M.2.2.2.2.2.2.2.2.2.2.2.2.2.2.2.2.1 v_M.2.2.2.2.2.2.2.2.2.2.2.2.2.2.2.2.2.1 v_M.2.2.2.2.2.2.2.2.2.2.2.2.2.2.2.2.2.2.1 v_M.2.2.2.2.2.2.2.2.2.2.2.2.2.2.2.2.2.2.2.1 v_M.2.2.2.2.2.2.2.2.2.2.2.2.2.2.2.2.2.2.2.2.1 v_M.2.2.2.2.2.2.2.2.2.2.2.2.2.2.2.2.2.2.2.2.2.1 v_M.2.2.2.2.2.2.2.2.2.2.2.2.2.2.2.2.2.2.2.2.2.2.1 v_M.2.2.2.2.2.2.2.2.2.2.2.2.2.2.2.2.2.2.2.2.2.2.2 _ h) kX5_image ml_L_163 ⟨rfl, rfl, by decide, by decide⟩ (q0 := 0) (ci := 5) rfl rfl rfl rfl hl.1 rfl (Nat.le_of_ble_eq_true rfl) dL_law_1127 ⟨by decide, by decide⟩) (fun r_17 u H locs h hP1 hk1 hS => ?_)
  obtain ⟨M_pipes_18, M_used_19, M_hasImage_20, M_isKeeping_21, M_cursor_22, M_setting_23, M_hole_24, M_pipeAt_25, M_chance_26, M_weight_27, M_kept_28⟩ := u
  try dsimp only at h
  have hP_M : va_P D vwCl (bX5 cI cJ cC a_M M_pipes_18 M_used_19 v_M.2.2.1 v_M.2.2.2.1 v_M.2.2.2.2.1 M_hasImage_20 M_isKeeping_21 M_cursor_22 v_M.2.2.2.2.2.2.2.2.1 v_M.2.2.2.2.2.2.2.2.2.1 v_M.2.2.2.2.2.2.2.2.2.2.1 v_M.2.2.2.2.2.2.2.2.2.2.2.1 M_setting_23 M_hole_24 M_pipeAt_25 M_chance_26 M_weight_27 v_M.2.2.2.2.2.2.2.2.2.2.2.2.2.2.2.2.2.1 v_M.2.2.2.2.2.2.2.2.2.2.2.2.2.2.2.2.2.2.1 v_M.2.2.2.2.2.2.2.2.2.2.2.2.2.2.2.2.2.2.2.1 v_M.2.2.2.2.2.2.2.2.2.2.2.2.2.2.2.2.2.2.2.2.1 M_kept_28 v_M.2.2.2.2.2.2.2.2.2.2.2.2.2.2.2.2.2.2.2.2.2.2.1 v_M.2.2.2.2.2.2.2.2.2.2.2.2.2.2.2.2.2.2.2.2.2.2.2) H := hP1
  have hP_T : va_P D vwCl (bX4 cI cJ cC a_T a_n a_k a_t a_s a_r a_c T_isKept_2 v_T.2) H := zKeepB hP_T hk1 (hLC.1 0 7 (by decide) (by decide) (by decide))
  have hP_n : va_P D vwCl (pX3 cI cJ cC a_n v_n) H := zKeepB hP_n hk1 (hLC.1 1 7 (by decide) (by decide) (by decide))
  have hP_k : va_P D vwCl (bX3 cI cJ cC a_k k_space_3 k_beam_4 k_door_5 k_law_6 k_used_7 k_pipes_8 k_drilled_9 k_total_10 k_open_11 k_pipeInches_12 k_pipeChances_13 k_weights_14 k_woods_15 k_sums_16) H := zKeepB hP_k hk1 (hLC.1 2 7 (by decide) (by decide) (by decide))
  have hP_t : va_P D vwCl (pX3 cI cJ cC a_t v_t) H := zKeepB hP_t hk1 (hLC.1 3 7 (by decide) (by decide) (by decide))
  have hP_s : va_P D vwCl (pX2 cI cJ cC a_s v_s) H := zKeepB hP_s hk1 (hLC.1 4 7 (by decide) (by decide) (by decide))
  have hP_r : va_P D vwCl (pX0 cI cJ cC a_r v_r) H := zKeepB hP_r hk1 (hLC.1 5 7 (by decide) (by decide) (by decide))
  have hP_c : va_P D vwCl (pX1 cI cJ cC a_c v_c) H := zKeepB hP_c hk1 (hLC.1 6 7 (by decide) (by decide) (by decide))
  refine lv_icmp_eq (tgt := 1171) hx hb dL_law_1130 (by decide) (fun z => ?_) (fun z => absurd h.1 z)
  exact hnext _ _ _ ⟨(T_isKept_2, v_T.2), v_n, (k_space_3, k_beam_4, k_door_5, k_law_6, k_used_7, k_pipes_8, k_drilled_9, k_total_10, k_open_11, k_pipeInches_12, k_pipeChances_13, k_weights_14, k_woods_15, k_sums_16), v_t, v_s, v_r, v_c, (M_pipes_18, M_used_19, v_M.2.2.1, v_M.2.2.2.1, v_M.2.2.2.2.1, M_hasImage_20, M_isKeeping_21, M_cursor_22, v_M.2.2.2.2.2.2.2.2.1, v_M.2.2.2.2.2.2.2.2.2.1, v_M.2.2.2.2.2.2.2.2.2.2.1, v_M.2.2.2.2.2.2.2.2.2.2.2.1, M_setting_23, M_hole_24, M_pipeAt_25, M_chance_26, M_weight_27, v_M.2.2.2.2.2.2.2.2.2.2.2.2.2.2.2.2.2.1, v_M.2.2.2.2.2.2.2.2.2.2.2.2.2.2.2.2.2.2.1, v_M.2.2.2.2.2.2.2.2.2.2.2.2.2.2.2.2.2.2.2.1, v_M.2.2.2.2.2.2.2.2.2.2.2.2.2.2.2.2.2.2.2.2.1, M_kept_28, v_M.2.2.2.2.2.2.2.2.2.2.2.2.2.2.2.2.2.2.2.2.2.2.1, v_M.2.2.2.2.2.2.2.2.2.2.2.2.2.2.2.2.2.2.2.2.2.2.2), h.2, hP_T, hP_n, hP_k, hP_t, hP_s, hP_r, hP_c, hP_M⟩ hS hl
def PH_on (RL : RT) : Prop := ∀ (v_T : PX4) (v_n : PX3) (v_k : PX3) (v_t : PX3) (v_s : PX2) (v_r : PX0) (v_c : PX1) (v_M : PX5), RL v_T v_n v_k v_s v_r v_M → wpX4_on (fun (r_1 : Int32) (T_refusals_2 : Nat → Int32) (n_space_3 : Int32) (n_beam_4 : Int32) (n_door_5 : Int32) (n_law_6 : Int32) (n_used_7 : Int32) (n_pipes_8 : Int32) (n_drilled_9 : Int64) (n_total_10 : Int64) (n_open_11 : Int32) (n_pipeInches_12 : Nat → Int32) (n_pipeChances_13 : Nat → Int32) (n_weights_14 : Nat → Int64) (n_woods_15 : Nat → Int32) (n_sums_16 : Nat → Int64) => wpX5_on (fun (r_17 : Int32) (M_pipes_18 : Int32) (M_used_19 : Int32) (M_isKeeping_20 : Int32) (M_cursor_21 : Int32) (M_refused_22 : Nat → Int32) (M_setting_23 : Nat → Int32) (M_hole_24 : Nat → Int32) (M_pipeAt_25 : Nat → Int32) (M_chance_26 : Nat → Int32) (M_weight_27 : Nat → Int32) (M_kept_28 : Nat → Int32) => r_1 = r_17 ∧ RL (v_T.1, T_refusals_2) (n_space_3, n_beam_4, n_door_5, n_law_6, n_used_7, n_pipes_8, n_drilled_9, n_total_10, n_open_11, n_pipeInches_12, n_pipeChances_13, n_weights_14, n_woods_15, n_sums_16) v_k v_s v_r (M_pipes_18, M_used_19, v_M.2.2.1, v_M.2.2.2.1, v_M.2.2.2.2.1, v_M.2.2.2.2.2.1, M_isKeeping_20, M_cursor_21, v_M.2.2.2.2.2.2.2.2.1, v_M.2.2.2.2.2.2.2.2.2.1, v_M.2.2.2.2.2.2.2.2.2.2.1, M_refused_22, M_setting_23, M_hole_24, M_pipeAt_25, M_chance_26, M_weight_27, v_M.2.2.2.2.2.2.2.2.2.2.2.2.2.2.2.2.2.1, v_M.2.2.2.2.2.2.2.2.2.2.2.2.2.2.2.2.2.2.1, v_M.2.2.2.2.2.2.2.2.2.2.2.2.2.2.2.2.2.2.2.1, v_M.2.2.2.2.2.2.2.2.2.2.2.2.2.2.2.2.2.2.2.2.1, M_kept_28, v_M.2.2.2.2.2.2.2.2.2.2.2.2.2.2.2.2.2.2.2.2.2.2.1, v_M.2.2.2.2.2.2.2.2.2.2.2.2.2.2.2.2.2.2.2.2.2.2.2)) v_M.1 v_M.2.1 v_M.2.2.2.2.2.1 v_M.2.2.2.2.2.2.1 v_M.2.2.2.2.2.2.2.1 v_M.2.2.2.2.2.2.2.2.2.2.2.1 v_M.2.2.2.2.2.2.2.2.2.2.2.2.1 v_M.2.2.2.2.2.2.2.2.2.2.2.2.2.1 v_M.2.2.2.2.2.2.2.2.2.2.2.2.2.2.1 v_M.2.2.2.2.2.2.2.2.2.2.2.2.2.2.2.1 v_M.2.2.2.2.2.2.2.2.2.2.2.2.2.2.2.2.1 v_M.2.2.2.2.2.2.2.2.2.2.2.2.2.2.2.2.2.2.2.2.2.1) v_T.1 v_T.2 v_n.1 v_n.2.1 v_n.2.2.1 v_n.2.2.2.1 v_n.2.2.2.2.1 v_n.2.2.2.2.2.1 v_n.2.2.2.2.2.2.1 v_n.2.2.2.2.2.2.2.1 v_n.2.2.2.2.2.2.2.2.1 v_n.2.2.2.2.2.2.2.2.2.1 v_n.2.2.2.2.2.2.2.2.2.2.1 v_n.2.2.2.2.2.2.2.2.2.2.2.1 v_n.2.2.2.2.2.2.2.2.2.2.2.2.1 v_n.2.2.2.2.2.2.2.2.2.2.2.2.2 v_k.1 v_k.2.1 v_k.2.2.1 v_k.2.2.2.1 v_k.2.2.2.2.1 v_k.2.2.2.2.2.1 v_k.2.2.2.2.2.2.1 v_k.2.2.2.2.2.2.2.1 v_k.2.2.2.2.2.2.2.2.1 v_k.2.2.2.2.2.2.2.2.2.1 v_k.2.2.2.2.2.2.2.2.2.2.1 v_k.2.2.2.2.2.2.2.2.2.2.2.1 v_k.2.2.2.2.2.2.2.2.2.2.2.2.1 v_k.2.2.2.2.2.2.2.2.2.2.2.2.2
set_option maxHeartbeats 4000000 in
set_option maxRecDepth 100000 in
theorem lawC_on {p : Program} {l : Launch} {e : Env} {s : State} {m : MethodId} {below : List Frame} {meth : Method} {c : Code} {Q : State → Prop} {b L : Nat} {xs : Nat → Int32} {D : va_G} {cI cJ cC : ClassId} {G : Nat → Nat → Nat} {a_T a_n a_k a_t a_s a_r a_c a_M : Nat → Nat} (RL : RT) (hp : PH_on RL) (S : CallFix p m c code 4 s #[Value.ref b] bg R_law) (hX : va_X b L xs s s.heap) (hbl : b < s.heap.size) (hK : va_K D vwCl (tz cI cJ cC) s) (hLC : LC a_T a_n a_k a_t a_s a_r a_c a_M (fun q : Nat => s.heap.size ≤ q)) (hE : EV G (fun q : Nat => s.heap.size ≤ q) s) {i : Nat} {x3 : Int32} (hi : ∀ k : Nat, k < 4 → vp_in (x3 + Int32.ofNat k) L) (hv : ∀ k : Nat, k < 4 → xs (x3 + Int32.ofNat k).toNatClampNeg = xs (i + k)) {H : Heap} {locs : List Loc} {ls : Array Slot} (hJ : JW RL D cI cJ cC a_T a_n a_k a_t a_s a_r a_c a_M H) (hS : va_S (fun q : Nat => s.heap.size ≤ q) s.heap H locs) (hl : lv_has ls 4 [(0, .ref b), (1, .ref (a_T 0)), (2, .ref (a_M 0)), (3, .int x3)])
    (hnext : ∀ (H : Heap) (locs : List Loc) (ls : Array Slot), JW RL D cI cJ cC a_T a_n a_k a_t a_s a_r a_c a_M H → va_S (fun q : Nat => s.heap.size ≤ q) s.heap H locs → lv_has ls 4 [(0, .ref b), (1, .ref (a_T 0)), (2, .ref (a_M 0)), (3, .int x3)] → W p l e room_1 s m #[Value.ref b] below meth c H locs 41 1350 Q (F0 m 1171 ls [])) : W p l e room_1 s m #[Value.ref b] below meth c H locs 41 1350 Q (F0 m 1135 ls []) := by
  obtain ⟨hx, hb, hml, hown, ht⟩ := id S
  have hA : ∀ q : Nat, s.heap.size ≤ q → (fun q : Nat => s.heap.size ≤ q) q := fun _ h => h
  have hbA : ¬ (fun q : Nat => s.heap.size ≤ q) b := Nat.not_le.mpr hbl
  obtain ⟨v_T, v_n, v_k, v_t, v_s, v_r, v_c, v_M, hR, hP_T, hP_n, hP_k, hP_t, hP_s, hP_r, hP_c, hP_M⟩ := hJ
  have h := hp v_T v_n v_k v_t v_s v_r v_c v_M  hR
  refine lv_aload_n hx hb dL_law_1135 rfl (lv_at hl 1 rfl) ?_
  have hPw : va_P D vwCl ((pX4 cI cJ cC a_T a_n a_k a_t a_s a_r a_c v_T) ++ (pX3 cI cJ cC a_n v_n) ++ (pX3 cI cJ cC a_k v_k)) _ := (va_P.app (va_P.app hP_T hP_n) hP_k)
  have hDw : va_D (fun q : Nat => s.heap.size ≤ q) ((pX4 cI cJ cC a_T a_n a_k a_t a_s a_r a_c v_T) ++ (pX3 cI cJ cC a_n v_n) ++ (pX3 cI cJ cC a_k v_k)) := hLC.2.2.2.2.2.2.2.2.1 _ rfl
  refine zci hA hDw hS (zrunV (As := []) (rest := []) S hK hA hE hPw hDw hS (mX4_on l D cI cJ cC G a_T a_n a_k a_t a_s a_r a_c _ v_T.1 v_T.2 v_n.1 v_n.2.1 v_n.2.2.1 v_n.2.2.2.1 v_n.2.2.2.2.1 v_n.2.2.2.2.2.1 v_n.2.2.2.2.2.2.1 v_n.2.2.2.2.2.2.2.1 v_n.2.2.2.2.2.2.2.2.1 v_n.2.2.2.2.2.2.2.2.2.1 v_n.2.2.2.2.2.2.2.2.2.2.1 v_n.2.2.2.2.2.2.2.2.2.2.2.1 v_n.2.2.2.2.2.2.2.2.2.2.2.2.1 v_n.2.2.2.2.2.2.2.2.2.2.2.2.2 v_k.1 v_k.2.1 v_k.2.2.1 v_k.2.2.2.1 v_k.2.2.2.2.1 v_k.2.2.2.2.2.1 v_k.2.2.2.2.2.2.1 v_k.2.2.2.2.2.2.2.1 v_k.2.2.2.2.2.2.2.2.1 v_k.2.2.2.2.2.2.2.2.2.1 v_k.2.2.2.2.2.2.2.2.2.2.1 v_k.2.2.2.2.2.2.2.2.2.2.2.1 v_k.2.2.2.2.2.2.2.2.2.2.2.2.1 v_k.2.2.2.2.2.2.2.2.2.2.2.2.2 _ h) kX4_on ml_L_164 ⟨rfl, rfl, by decide, by decide⟩ (q0 := 0) (ci := 4) rfl rfl rfl rfl hl.1 rfl (Nat.le_of_ble_eq_true rfl) dL_law_1136 ⟨by decide, by decide⟩) (fun r_1 u H locs h hP1 hk1 hS => ?_)
  obtain ⟨T_refusals_2, n_space_3, n_beam_4, n_door_5, n_law_6, n_used_7, n_pipes_8, n_drilled_9, n_total_10, n_open_11, n_pipeInches_12, n_pipeChances_13, n_weights_14, n_woods_15, n_sums_16⟩ := u
  try dsimp only at h
  have hP_k : va_P D vwCl (pX3 cI cJ cC a_k v_k) H := zPr hP1
  have hP_n : va_P D vwCl (bX3 cI cJ cC a_n n_space_3 n_beam_4 n_door_5 n_law_6 n_used_7 n_pipes_8 n_drilled_9 n_total_10 n_open_11 n_pipeInches_12 n_pipeChances_13 n_weights_14 n_woods_15 n_sums_16) H := zPr (zPl (hP1))
  have hP_T : va_P D vwCl (bX4 cI cJ cC a_T a_n a_k a_t a_s a_r a_c v_T.1 T_refusals_2) H := zPl (zPl (hP1))
  have hP_t : va_P D vwCl (pX3 cI cJ cC a_t v_t) H := zKeepB hP_t hk1 (dj_app (dj_app (hLC.1 3 0 (by decide) (by decide) (by decide)) (hLC.1 3 1 (by decide) (by decide) (by decide))) (hLC.1 3 2 (by decide) (by decide) (by decide)))
  have hP_s : va_P D vwCl (pX2 cI cJ cC a_s v_s) H := zKeepB hP_s hk1 (dj_app (dj_app (hLC.1 4 0 (by decide) (by decide) (by decide)) (hLC.1 4 1 (by decide) (by decide) (by decide))) (hLC.1 4 2 (by decide) (by decide) (by decide)))
  have hP_r : va_P D vwCl (pX0 cI cJ cC a_r v_r) H := zKeepB hP_r hk1 (dj_app (dj_app (hLC.1 5 0 (by decide) (by decide) (by decide)) (hLC.1 5 1 (by decide) (by decide) (by decide))) (hLC.1 5 2 (by decide) (by decide) (by decide)))
  have hP_c : va_P D vwCl (pX1 cI cJ cC a_c v_c) H := zKeepB hP_c hk1 (dj_app (dj_app (hLC.1 6 0 (by decide) (by decide) (by decide)) (hLC.1 6 1 (by decide) (by decide) (by decide))) (hLC.1 6 2 (by decide) (by decide) (by decide)))
  have hP_M : va_P D vwCl (pX5 cI cJ cC a_M v_M) H := zKeepB hP_M hk1 (dj_app (dj_app (hLC.1 7 0 (by decide) (by decide) (by decide)) (hLC.1 7 1 (by decide) (by decide) (by decide))) (hLC.1 7 2 (by decide) (by decide) (by decide)))
  refine lv_aload_n hx hb dL_law_1139 rfl (lv_at hl 2 rfl) ?_
  have hPw : va_P D vwCl ((pX5 cI cJ cC a_M v_M)) _ := hP_M
  have hDw : va_D (fun q : Nat => s.heap.size ≤ q) ((pX5 cI cJ cC a_M v_M)) := hLC.2.2.2.2.2.2.2.2.2.2.2 _ rfl
  refine zci hA hDw hS (zrunV (As := []) (rest := [.int r_1]) S hK hA hE hPw hDw hS (mX5_on l D cI cJ cC G a_M _ v_M.1 v_M.2.1 v_M.2.2.1 v_M.2.2.2.1 v_M.2.2.2.2.1 v_M.2.2.2.2.2.1 v_M.2.2.2.2.2.2.1 v_M.2.2.2.2.2.2.2.1 v_M.2.2.2.2.2.2.2.2.1 v_M.2.2.2.2.2.2.2.2.2.1 v_M.2.2.2.2.2.2.2.2.2.2.1 v_M.2.2.2.2.2.2.2.2.2.2.2.1 v_M.2.2.2.2.2.2.2.2.2.2.2.2.1 v_M.2.2.2.2.2.2.2.2.2.2.2.2.2.1 v_M.2.2.2.2.2.2.2.2.2.2.2.2.2.2.1 v_M.2.2.2.2.2.2.2.2.2.2.2.2.2.2.2.1 v_M.2.2.2.2.2.2.2.2.2.2.2.2.2.2.2.2.1 v_M.2.2.2.2.2.2.2.2.2.2.2.2.2.2.2.2.2.1 v_M.2.2.2.2.2.2.2.2.2.2.2.2.2.2.2.2.2.2.1 v_M.2.2.2.2.2.2.2.2.2.2.2.2.2.2.2.2.2.2.2.1 v_M.2.2.2.2.2.2.2.2.2.2.2.2.2.2.2.2.2.2.2.2.1 v_M.2.2.2.2.2.2.2.2.2.2.2.2.2.2.2.2.2.2.2.2.2.1 v_M.2.2.2.2.2.2.2.2.2.2.2.2.2.2.2.2.2.2.2.2.2.2.1 v_M.2.2.2.2.2.2.2.2.2.2.2.2.2.2.2.2.2.2.2.2.2.2.2 _ h) kX5_on ml_L_167 ⟨rfl, rfl, by decide, by decide⟩ (q0 := 0) (ci := 5) rfl rfl rfl rfl hl.1 rfl (Nat.le_of_ble_eq_true rfl) dL_law_1140 ⟨by decide, by decide⟩) (fun r_17 u H locs h hP1 hk1 hS => ?_)
  obtain ⟨M_pipes_18, M_used_19, M_isKeeping_20, M_cursor_21, M_refused_22, M_setting_23, M_hole_24, M_pipeAt_25, M_chance_26, M_weight_27, M_kept_28⟩ := u
  try dsimp only at h
  have hP_M : va_P D vwCl (bX5 cI cJ cC a_M M_pipes_18 M_used_19 v_M.2.2.1 v_M.2.2.2.1 v_M.2.2.2.2.1 v_M.2.2.2.2.2.1 M_isKeeping_20 M_cursor_21 v_M.2.2.2.2.2.2.2.2.1 v_M.2.2.2.2.2.2.2.2.2.1 v_M.2.2.2.2.2.2.2.2.2.2.1 M_refused_22 M_setting_23 M_hole_24 M_pipeAt_25 M_chance_26 M_weight_27 v_M.2.2.2.2.2.2.2.2.2.2.2.2.2.2.2.2.2.1 v_M.2.2.2.2.2.2.2.2.2.2.2.2.2.2.2.2.2.2.1 v_M.2.2.2.2.2.2.2.2.2.2.2.2.2.2.2.2.2.2.2.1 v_M.2.2.2.2.2.2.2.2.2.2.2.2.2.2.2.2.2.2.2.2.1 M_kept_28 v_M.2.2.2.2.2.2.2.2.2.2.2.2.2.2.2.2.2.2.2.2.2.2.1 v_M.2.2.2.2.2.2.2.2.2.2.2.2.2.2.2.2.2.2.2.2.2.2.2) H := hP1
  have hP_T : va_P D vwCl (bX4 cI cJ cC a_T a_n a_k a_t a_s a_r a_c v_T.1 T_refusals_2) H := zKeepB hP_T hk1 (hLC.1 0 7 (by decide) (by decide) (by decide))
  have hP_n : va_P D vwCl (bX3 cI cJ cC a_n n_space_3 n_beam_4 n_door_5 n_law_6 n_used_7 n_pipes_8 n_drilled_9 n_total_10 n_open_11 n_pipeInches_12 n_pipeChances_13 n_weights_14 n_woods_15 n_sums_16) H := zKeepB hP_n hk1 (hLC.1 1 7 (by decide) (by decide) (by decide))
  have hP_k : va_P D vwCl (pX3 cI cJ cC a_k v_k) H := zKeepB hP_k hk1 (hLC.1 2 7 (by decide) (by decide) (by decide))
  have hP_t : va_P D vwCl (pX3 cI cJ cC a_t v_t) H := zKeepB hP_t hk1 (hLC.1 3 7 (by decide) (by decide) (by decide))
  have hP_s : va_P D vwCl (pX2 cI cJ cC a_s v_s) H := zKeepB hP_s hk1 (hLC.1 4 7 (by decide) (by decide) (by decide))
  have hP_r : va_P D vwCl (pX0 cI cJ cC a_r v_r) H := zKeepB hP_r hk1 (hLC.1 5 7 (by decide) (by decide) (by decide))
  have hP_c : va_P D vwCl (pX1 cI cJ cC a_c v_c) H := zKeepB hP_c hk1 (hLC.1 6 7 (by decide) (by decide) (by decide))
  refine lv_icmp_eq (tgt := 1171) hx hb dL_law_1143 (by decide) (fun z => ?_) (fun z => absurd h.1 z)
  exact hnext _ _ _ ⟨(v_T.1, T_refusals_2), (n_space_3, n_beam_4, n_door_5, n_law_6, n_used_7, n_pipes_8, n_drilled_9, n_total_10, n_open_11, n_pipeInches_12, n_pipeChances_13, n_weights_14, n_woods_15, n_sums_16), v_k, v_t, v_s, v_r, v_c, (M_pipes_18, M_used_19, v_M.2.2.1, v_M.2.2.2.1, v_M.2.2.2.2.1, v_M.2.2.2.2.2.1, M_isKeeping_20, M_cursor_21, v_M.2.2.2.2.2.2.2.2.1, v_M.2.2.2.2.2.2.2.2.2.1, v_M.2.2.2.2.2.2.2.2.2.2.1, M_refused_22, M_setting_23, M_hole_24, M_pipeAt_25, M_chance_26, M_weight_27, v_M.2.2.2.2.2.2.2.2.2.2.2.2.2.2.2.2.2.1, v_M.2.2.2.2.2.2.2.2.2.2.2.2.2.2.2.2.2.2.1, v_M.2.2.2.2.2.2.2.2.2.2.2.2.2.2.2.2.2.2.2.1, v_M.2.2.2.2.2.2.2.2.2.2.2.2.2.2.2.2.2.2.2.2.1, M_kept_28, v_M.2.2.2.2.2.2.2.2.2.2.2.2.2.2.2.2.2.2.2.2.2.2.1, v_M.2.2.2.2.2.2.2.2.2.2.2.2.2.2.2.2.2.2.2.2.2.2.2), h.2, hP_T, hP_n, hP_k, hP_t, hP_s, hP_r, hP_c, hP_M⟩ hS hl
def PH_count (RL : RT) : Prop := ∀ (v_T : PX4) (v_n : PX3) (v_k : PX3) (v_t : PX3) (v_s : PX2) (v_r : PX0) (v_c : PX1) (v_M : PX5) (p0 : Int32), RL v_T v_n v_k v_s v_r v_M → wpX4_count (fun (r_1 : Int32) => wpX5_count (fun (r_2 : Int32) => r_1 = r_2 ∧ RL v_T v_n v_k v_s v_r v_M) v_M.1 v_M.2.1 v_M.2.2.1 v_M.2.2.2.2.2.2.2.2.2.2.1 v_M.2.2.2.2.2.2.2.2.2.2.2.1 v_M.2.2.2.2.2.2.2.2.2.2.2.2.1 v_M.2.2.2.2.2.2.2.2.2.2.2.2.2.1 v_M.2.2.2.2.2.2.2.2.2.2.2.2.2.2.2.2.1 p0) v_T.2 v_n.1 v_n.2.1 v_n.2.2.1 v_n.2.2.2.1 v_n.2.2.2.2.1 v_n.2.2.2.2.2.1 v_n.2.2.2.2.2.2.1 v_n.2.2.2.2.2.2.2.2.1 v_s.1 v_r.1 p0
set_option maxHeartbeats 4000000 in
set_option maxRecDepth 100000 in
theorem lawC_count {p : Program} {l : Launch} {e : Env} {s : State} {m : MethodId} {below : List Frame} {meth : Method} {c : Code} {Q : State → Prop} {b L : Nat} {xs : Nat → Int32} {D : va_G} {cI cJ cC : ClassId} {G : Nat → Nat → Nat} {a_T a_n a_k a_t a_s a_r a_c a_M : Nat → Nat} (RL : RT) (hp : PH_count RL) (S : CallFix p m c code 4 s #[Value.ref b] bg R_law) (hX : va_X b L xs s s.heap) (hbl : b < s.heap.size) (hK : va_K D vwCl (tz cI cJ cC) s) (hLC : LC a_T a_n a_k a_t a_s a_r a_c a_M (fun q : Nat => s.heap.size ≤ q)) (hE : EV G (fun q : Nat => s.heap.size ≤ q) s) {i : Nat} {x3 : Int32} (hi : ∀ k : Nat, k < 4 → vp_in (x3 + Int32.ofNat k) L) (hv : ∀ k : Nat, k < 4 → xs (x3 + Int32.ofNat k).toNatClampNeg = xs (i + k)) {H : Heap} {locs : List Loc} {ls : Array Slot} (hJ : JW RL D cI cJ cC a_T a_n a_k a_t a_s a_r a_c a_M H) (hS : va_S (fun q : Nat => s.heap.size ≤ q) s.heap H locs) (hl : lv_has ls 4 [(0, .ref b), (1, .ref (a_T 0)), (2, .ref (a_M 0)), (3, .int x3)])
    (hnext : ∀ (H : Heap) (locs : List Loc) (ls : Array Slot), JW RL D cI cJ cC a_T a_n a_k a_t a_s a_r a_c a_M H → va_S (fun q : Nat => s.heap.size ≤ q) s.heap H locs → lv_has ls 4 [(0, .ref b), (1, .ref (a_T 0)), (2, .ref (a_M 0)), (3, .int x3)] → W p l e room_1 s m #[Value.ref b] below meth c H locs 41 1350 Q (F0 m 1171 ls [])) : W p l e room_1 s m #[Value.ref b] below meth c H locs 41 1350 Q (F0 m 1148 ls []) := by
  obtain ⟨hx, hb, hml, hown, ht⟩ := id S
  have hA : ∀ q : Nat, s.heap.size ≤ q → (fun q : Nat => s.heap.size ≤ q) q := fun _ h => h
  have hbA : ¬ (fun q : Nat => s.heap.size ≤ q) b := Nat.not_le.mpr hbl
  obtain ⟨v_T, v_n, v_k, v_t, v_s, v_r, v_c, v_M, hR, hP_T, hP_n, hP_k, hP_t, hP_s, hP_r, hP_c, hP_M⟩ := hJ
  have h := hp v_T v_n v_k v_t v_s v_r v_c v_M (xs (i + 1)) hR
  refine lv_aload_n hx hb dL_law_1148 rfl (lv_at hl 1 rfl) ?_
  refine lv_aload_n hx hb dL_law_1149 rfl (lv_at hl 0 rfl) ?_
  refine lv_iload_n hx hb dL_law_1150 rfl (lv_at hl 3 rfl) ?_
  refine lv_iconst (v := (1 : Int32)) hx hb dL_law_1151 (by decide) ?_
  refine lv_iadd hx hb dL_law_1152 ?_
  refine va_sld hx hb hX hbl hbA hS (hi 1 (by decide)) dL_law_1153 ?_
  refine zti (hv 1 (by decide)) ?_
  have hPw : va_P D vwCl ((pX4 cI cJ cC a_T a_n a_k a_t a_s a_r a_c v_T) ++ (pX3 cI cJ cC a_n v_n) ++ (pX2 cI cJ cC a_s v_s) ++ (pX0 cI cJ cC a_r v_r)) _ := (va_P.app (va_P.app (va_P.app hP_T hP_n) hP_s) hP_r)
  have hDw : va_D (fun q : Nat => s.heap.size ≤ q) ((pX4 cI cJ cC a_T a_n a_k a_t a_s a_r a_c v_T) ++ (pX3 cI cJ cC a_n v_n) ++ (pX2 cI cJ cC a_s v_s) ++ (pX0 cI cJ cC a_r v_r)) := hLC.2.2.2.2.2.2.2.2.2.1 _ rfl
  refine zci hA hDw hS (zrunV (As := [.int (xs (i + 1))]) (rest := []) S hK hA hE hPw hDw hS (mX4_count l D cI cJ cC G a_T a_n a_k a_t a_s a_r a_c _ v_T.1 v_T.2 v_n.1 v_n.2.1 v_n.2.2.1 v_n.2.2.2.1 v_n.2.2.2.2.1 v_n.2.2.2.2.2.1 v_n.2.2.2.2.2.2.1 v_n.2.2.2.2.2.2.2.1 v_n.2.2.2.2.2.2.2.2.1 v_n.2.2.2.2.2.2.2.2.2.1 v_n.2.2.2.2.2.2.2.2.2.2.1 v_n.2.2.2.2.2.2.2.2.2.2.2.1 v_n.2.2.2.2.2.2.2.2.2.2.2.2.1 v_n.2.2.2.2.2.2.2.2.2.2.2.2.2 v_s.1 v_s.2.1 v_s.2.2 v_r.1 v_r.2 (xs (i + 1)) _ h) kX4_count ml_L_168 ⟨rfl, rfl, by decide, by decide⟩ (q0 := 0) (ci := 4) rfl rfl rfl rfl hl.1 rfl (Nat.le_of_ble_eq_true rfl) dL_law_1154 ⟨by decide, by decide⟩) (fun r_1 u H locs h hP1 hk1 hS => ?_)
  try dsimp only at h
  have hP_r : va_P D vwCl (pX0 cI cJ cC a_r v_r) H := zPr hP1
  have hP_s : va_P D vwCl (pX2 cI cJ cC a_s v_s) H := zPr (zPl (hP1))
  have hP_n : va_P D vwCl (pX3 cI cJ cC a_n v_n) H := zPr (zPl (zPl (hP1)))
  have hP_T : va_P D vwCl (pX4 cI cJ cC a_T a_n a_k a_t a_s a_r a_c v_T) H := zPl (zPl (zPl (hP1)))
  have hP_k : va_P D vwCl (pX3 cI cJ cC a_k v_k) H := zKeepB hP_k hk1 (dj_app (dj_app (dj_app (hLC.1 2 0 (by decide) (by decide) (by decide)) (hLC.1 2 1 (by decide) (by decide) (by decide))) (hLC.1 2 4 (by decide) (by decide) (by decide))) (hLC.1 2 5 (by decide) (by decide) (by decide)))
  have hP_t : va_P D vwCl (pX3 cI cJ cC a_t v_t) H := zKeepB hP_t hk1 (dj_app (dj_app (dj_app (hLC.1 3 0 (by decide) (by decide) (by decide)) (hLC.1 3 1 (by decide) (by decide) (by decide))) (hLC.1 3 4 (by decide) (by decide) (by decide))) (hLC.1 3 5 (by decide) (by decide) (by decide)))
  have hP_c : va_P D vwCl (pX1 cI cJ cC a_c v_c) H := zKeepB hP_c hk1 (dj_app (dj_app (dj_app (hLC.1 6 0 (by decide) (by decide) (by decide)) (hLC.1 6 1 (by decide) (by decide) (by decide))) (hLC.1 6 4 (by decide) (by decide) (by decide))) (hLC.1 6 5 (by decide) (by decide) (by decide)))
  have hP_M : va_P D vwCl (pX5 cI cJ cC a_M v_M) H := zKeepB hP_M hk1 (dj_app (dj_app (dj_app (hLC.1 7 0 (by decide) (by decide) (by decide)) (hLC.1 7 1 (by decide) (by decide) (by decide))) (hLC.1 7 4 (by decide) (by decide) (by decide))) (hLC.1 7 5 (by decide) (by decide) (by decide)))
  refine lv_aload_n hx hb dL_law_1157 rfl (lv_at hl 2 rfl) ?_
  refine lv_aload_n hx hb dL_law_1158 rfl (lv_at hl 0 rfl) ?_
  refine lv_iload_n hx hb dL_law_1159 rfl (lv_at hl 3 rfl) ?_
  refine lv_iconst (v := (1 : Int32)) hx hb dL_law_1160 (by decide) ?_
  refine lv_iadd hx hb dL_law_1161 ?_
  refine va_sld hx hb hX hbl hbA hS (hi 1 (by decide)) dL_law_1162 ?_
  refine zti (hv 1 (by decide)) ?_
  have hPw : va_P D vwCl ((pX5 cI cJ cC a_M v_M)) _ := hP_M
  have hDw : va_D (fun q : Nat => s.heap.size ≤ q) ((pX5 cI cJ cC a_M v_M)) := hLC.2.2.2.2.2.2.2.2.2.2.2 _ rfl
  refine zci hA hDw hS (zrunV (As := [.int (xs (i + 1))]) (rest := [.int r_1]) S hK hA hE hPw hDw hS (mX5_count l D cI cJ cC G a_M _ v_M.1 v_M.2.1 v_M.2.2.1 v_M.2.2.2.1 v_M.2.2.2.2.1 v_M.2.2.2.2.2.1 v_M.2.2.2.2.2.2.1 v_M.2.2.2.2.2.2.2.1 v_M.2.2.2.2.2.2.2.2.1 v_M.2.2.2.2.2.2.2.2.2.1 v_M.2.2.2.2.2.2.2.2.2.2.1 v_M.2.2.2.2.2.2.2.2.2.2.2.1 v_M.2.2.2.2.2.2.2.2.2.2.2.2.1 v_M.2.2.2.2.2.2.2.2.2.2.2.2.2.1 v_M.2.2.2.2.2.2.2.2.2.2.2.2.2.2.1 v_M.2.2.2.2.2.2.2.2.2.2.2.2.2.2.2.1 v_M.2.2.2.2.2.2.2.2.2.2.2.2.2.2.2.2.1 v_M.2.2.2.2.2.2.2.2.2.2.2.2.2.2.2.2.2.1 v_M.2.2.2.2.2.2.2.2.2.2.2.2.2.2.2.2.2.2.1 v_M.2.2.2.2.2.2.2.2.2.2.2.2.2.2.2.2.2.2.2.1 v_M.2.2.2.2.2.2.2.2.2.2.2.2.2.2.2.2.2.2.2.2.1 v_M.2.2.2.2.2.2.2.2.2.2.2.2.2.2.2.2.2.2.2.2.2.1 v_M.2.2.2.2.2.2.2.2.2.2.2.2.2.2.2.2.2.2.2.2.2.2.1 v_M.2.2.2.2.2.2.2.2.2.2.2.2.2.2.2.2.2.2.2.2.2.2.2 (xs (i + 1)) _ h) kX5_count ml_L_171 ⟨rfl, rfl, by decide, by decide⟩ (q0 := 0) (ci := 5) rfl rfl rfl rfl hl.1 rfl (Nat.le_of_ble_eq_true rfl) dL_law_1163 ⟨by decide, by decide⟩) (fun r_2 u H locs h hP1 hk1 hS => ?_)
  try dsimp only at h
  have hP_M : va_P D vwCl (pX5 cI cJ cC a_M v_M) H := hP1
  have hP_T : va_P D vwCl (pX4 cI cJ cC a_T a_n a_k a_t a_s a_r a_c v_T) H := zKeepB hP_T hk1 (hLC.1 0 7 (by decide) (by decide) (by decide))
  have hP_n : va_P D vwCl (pX3 cI cJ cC a_n v_n) H := zKeepB hP_n hk1 (hLC.1 1 7 (by decide) (by decide) (by decide))
  have hP_k : va_P D vwCl (pX3 cI cJ cC a_k v_k) H := zKeepB hP_k hk1 (hLC.1 2 7 (by decide) (by decide) (by decide))
  have hP_t : va_P D vwCl (pX3 cI cJ cC a_t v_t) H := zKeepB hP_t hk1 (hLC.1 3 7 (by decide) (by decide) (by decide))
  have hP_s : va_P D vwCl (pX2 cI cJ cC a_s v_s) H := zKeepB hP_s hk1 (hLC.1 4 7 (by decide) (by decide) (by decide))
  have hP_r : va_P D vwCl (pX0 cI cJ cC a_r v_r) H := zKeepB hP_r hk1 (hLC.1 5 7 (by decide) (by decide) (by decide))
  have hP_c : va_P D vwCl (pX1 cI cJ cC a_c v_c) H := zKeepB hP_c hk1 (hLC.1 6 7 (by decide) (by decide) (by decide))
  refine lv_icmp_eq (tgt := 1171) hx hb dL_law_1166 (by decide) (fun z => ?_) (fun z => absurd h.1 z)
  exact hnext _ _ _ ⟨v_T, v_n, v_k, v_t, v_s, v_r, v_c, v_M, h.2, hP_T, hP_n, hP_k, hP_t, hP_s, hP_r, hP_c, hP_M⟩ hS hl
