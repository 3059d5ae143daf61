def PH_sure (RL : RT) : Prop := ∀ (v_T : PX4) (v_n : PX3) (v_k : PX3) (v_t : PX3) (v_s : PX2) (v_r : PX0) (v_c : PX1) (v_M : PX5) (p0 : Int32) (p1 : Int32), RL v_T v_n v_k v_s v_r v_M → wpX4_sure (fun (r_1 : Int32) (T_refusals_2 : Nat → Int32) => wpX5_sure (fun (r_3 : Int32) (M_refused_4 : Nat → Int32) => r_1 = r_3 ∧ RL (v_T.1, T_refusals_2) v_n v_k v_s v_r (v_M.1, v_M.2.1, v_M.2.2.1, v_M.2.2.2.1, v_M.2.2.2.2.1, v_M.2.2.2.2.2.1, v_M.2.2.2.2.2.2.1, v_M.2.2.2.2.2.2.2.1, v_M.2.2.2.2.2.2.2.2.1, v_M.2.2.2.2.2.2.2.2.2.1, v_M.2.2.2.2.2.2.2.2.2.2.1, M_refused_4, v_M.2.2.2.2.2.2.2.2.2.2.2.2.1, v_M.2.2.2.2.2.2.2.2.2.2.2.2.2.1, v_M.2.2.2.2.2.2.2.2.2.2.2.2.2.2.1, v_M.2.2.2.2.2.2.2.2.2.2.2.2.2.2.2.1, v_M.2.2.2.2.2.2.2.2.2.2.2.2.2.2.2.2.1, v_M.2.2.2.2.2.2.2.2.2.2.2.2.2.2.2.2.2.1, v_M.2.2.2.2.2.2.2.2.2.2.2.2.2.2.2.2.2.2.1, v_M.2.2.2.2.2.2.2.2.2.2.2.2.2.2.2.2.2.2.2.1, v_M.2.2.2.2.2.2.2.2.2.2.2.2.2.2.2.2.2.2.2.2.1, v_M.2.2.2.2.2.2.2.2.2.2.2.2.2.2.2.2.2.2.2.2.2.1, v_M.2.2.2.2.2.2.2.2.2.2.2.2.2.2.2.2.2.2.2.2.2.2.1, v_M.2.2.2.2.2.2.2.2.2.2.2.2.2.2.2.2.2.2.2.2.2.2.2)) v_M.2.2.2.2.2.2.2.2.2.2.2.1 v_M.2.2.2.2.2.2.2.2.2.2.2.2.1 v_M.2.2.2.2.2.2.2.2.2.2.2.2.2.2.2.2.1 p0 p1) v_T.2 v_n.2.2.2.2.2.2.2.2.1 v_n.2.2.2.2.2.2.2.2.2.2.2.2.1 p0 p1
set_option maxHeartbeats 4000000 in
set_option maxRecDepth 100000 in
theorem lawC_sure {p : Program} {l : Launch} {e : Env} {s : State} {m : MethodId} {below : List Frame} {meth : Method} {c : Code} {Q : State → Prop} {b L : Nat} {xs : Nat → Int32} {D : va_G} {cI cJ cC : ClassId} {G : Nat → Nat → Nat} {a_T a_n a_k a_t a_s a_r a_c a_M : Nat → Nat} (RL : RT) (hp : PH_sure RL) (S : CallFix p m c code 4 s #[Value.ref b] bg R_law) (hX : va_X b L xs s s.heap) (hbl : b < s.heap.size) (hK : va_K D vwCl (tz cI cJ cC) s) (hLC : LC a_T a_n a_k a_t a_s a_r a_c a_M (fun q : Nat => s.heap.size ≤ q)) (hE : EV G (fun q : Nat => s.heap.size ≤ q) s) {i : Nat} {x3 : Int32} (hi : ∀ k : Nat, k < 4 → vp_in (x3 + Int32.ofNat k) L) (hv : ∀ k : Nat, k < 4 → xs (x3 + Int32.ofNat k).toNatClampNeg = xs (i + k)) {H : Heap} {locs : List Loc} {ls : Array Slot} (hJ : JW RL D cI cJ cC a_T a_n a_k a_t a_s a_r a_c a_M H) (hS : va_S (fun q : Nat => s.heap.size ≤ q) s.heap H locs) (hl : lv_has ls 4 [(0, .ref b), (1, .ref (a_T 0)), (2, .ref (a_M 0)), (3, .int x3)])
    (hnext : ∀ (H : Heap) (locs : List Loc) (ls : Array Slot), JW RL D cI cJ cC a_T a_n a_k a_t a_s a_r a_c a_M H → va_S (fun q : Nat => s.heap.size ≤ q) s.heap H locs → lv_has ls 4 [(0, .ref b), (1, .ref (a_T 0)), (2, .ref (a_M 0)), (3, .int x3)] → W p l e room_1 s m #[Value.ref b] below meth c H locs 41 1350 Q (F0 m 1171 ls [])) : W p l e room_1 s m #[Value.ref b] below meth c H locs 41 1350 Q (F0 m 561 ls []) := by
  obtain ⟨hx, hb, hml, hown, ht⟩ := id S
  have hA : ∀ q : Nat, s.heap.size ≤ q → (fun q : Nat => s.heap.size ≤ q) q := fun _ h => h
  have hbA : ¬ (fun q : Nat => s.heap.size ≤ q) b := Nat.not_le.mpr hbl
  obtain ⟨v_T, v_n, v_k, v_t, v_s, v_r, v_c, v_M, hR, hP_T, hP_n, hP_k, hP_t, hP_s, hP_r, hP_c, hP_M⟩ := hJ
  have h := hp v_T v_n v_k v_t v_s v_r v_c v_M (xs (i + 1)) (xs (i + 2)) hR
  refine lv_aload_n hx hb dL_law_561 rfl (lv_at hl 1 rfl) ?_
  refine lv_aload_n hx hb dL_law_562 rfl (lv_at hl 0 rfl) ?_
  refine lv_iload_n hx hb dL_law_563 rfl (lv_at hl 3 rfl) ?_
  refine lv_iconst (v := (1 : Int32)) hx hb dL_law_564 (by decide) ?_
  refine lv_iadd hx hb dL_law_565 ?_
  refine va_sld hx hb hX hbl hbA hS (hi 1 (by decide)) dL_law_566 ?_
  refine zti (hv 1 (by decide)) ?_
  refine lv_aload_n hx hb dL_law_567 rfl (lv_at hl 0 rfl) ?_
  refine lv_iload_n hx hb dL_law_568 rfl (lv_at hl 3 rfl) ?_
  refine lv_iconst (v := (2 : Int32)) hx hb dL_law_569 (by decide) ?_
  refine lv_iadd hx hb dL_law_570 ?_
  refine va_sld hx hb hX hbl hbA hS (hi 2 (by decide)) dL_law_571 ?_
  refine zti (hv 2 (by decide)) ?_
  have hPw : va_P D vwCl ((pX4 cI cJ cC a_T a_n a_k a_t a_s a_r a_c v_T) ++ (pX3 cI cJ cC a_n v_n)) _ := (hP_T.app hP_n)
  have hDw : va_D (fun q : Nat => s.heap.size ≤ q) ((pX4 cI cJ cC a_T a_n a_k a_t a_s a_r a_c v_T) ++ (pX3 cI cJ cC a_n v_n)) := hLC.2.2.2.1 _ rfl
  refine zci hA hDw hS (zrunV (As := [.int (xs (i + 1)), .int (xs (i + 2))]) (rest := []) S hK hA hE hPw hDw hS (mX4_sure l D cI cJ cC G a_T a_n a_k a_t a_s a_r a_c _ v_T.1 v_T.2 v_n.1 v_n.2.1 v_n.2.2.1 v_n.2.2.2.1 v_n.2.2.2.2.1 v_n.2.2.2.2.2.1 v_n.2.2.2.2.2.2.1 v_n.2.2.2.2.2.2.2.1 v_n.2.2.2.2.2.2.2.2.1 v_n.2.2.2.2.2.2.2.2.2.1 v_n.2.2.2.2.2.2.2.2.2.2.1 v_n.2.2.2.2.2.2.2.2.2.2.2.1 v_n.2.2.2.2.2.2.2.2.2.2.2.2.1 v_n.2.2.2.2.2.2.2.2.2.2.2.2.2 (xs (i + 1)) (xs (i + 2)) _ h) kX4_sure ml_L_71 ⟨rfl, rfl, by decide, by decide⟩ (q0 := 0) (ci := 4) rfl rfl rfl rfl hl.1 rfl (Nat.le_of_ble_eq_true rfl) dL_law_572 ⟨by decide, by decide⟩) (fun r_1 T_refusals_2 H locs h hP1 hk1 hS => ?_)
  try dsimp only at h
  have hP_n : va_P D vwCl (pX3 cI cJ cC a_n v_n) H := zPr hP1
  have hP_T : va_P D vwCl (bX4 cI cJ cC a_T a_n a_k a_t a_s a_r a_c v_T.1 T_refusals_2) H := zPl (hP1)
  have hP_k : va_P D vwCl (pX3 cI cJ cC a_k v_k) H := zKeepB hP_k hk1 (dj_app (hLC.1 2 0 (by decide) (by decide) (by decide)) (hLC.1 2 1 (by decide) (by decide) (by decide)))
  have hP_t : va_P D vwCl (pX3 cI cJ cC a_t v_t) H := zKeepB hP_t hk1 (dj_app (hLC.1 3 0 (by decide) (by decide) (by decide)) (hLC.1 3 1 (by decide) (by decide) (by decide)))
  have hP_s : va_P D vwCl (pX2 cI cJ cC a_s v_s) H := zKeepB hP_s hk1 (dj_app (hLC.1 4 0 (by decide) (by decide) (by decide)) (hLC.1 4 1 (by decide) (by decide) (by decide)))
  have hP_r : va_P D vwCl (pX0 cI cJ cC a_r v_r) H := zKeepB hP_r hk1 (dj_app (hLC.1 5 0 (by decide) (by decide) (by decide)) (hLC.1 5 1 (by decide) (by decide) (by decide)))
  have hP_c : va_P D vwCl (pX1 cI cJ cC a_c v_c) H := zKeepB hP_c hk1 (dj_app (hLC.1 6 0 (by decide) (by decide) (by decide)) (hLC.1 6 1 (by decide) (by decide) (by decide)))
  have hP_M : va_P D vwCl (pX5 cI cJ cC a_M v_M) H := zKeepB hP_M hk1 (dj_app (hLC.1 7 0 (by decide) (by decide) (by decide)) (hLC.1 7 1 (by decide) (by decide) (by decide)))
  refine lv_aload_n hx hb dL_law_575 rfl (lv_at hl 2 rfl) ?_
  refine lv_aload_n hx hb dL_law_576 rfl (lv_at hl 0 rfl) ?_
  refine lv_iload_n hx hb dL_law_577 rfl (lv_at hl 3 rfl) ?_
  refine lv_iconst (v := (1 : Int32)) hx hb dL_law_578 (by decide) ?_
  refine lv_iadd hx hb dL_law_579 ?_
  refine va_sld hx hb hX hbl hbA hS (hi 1 (by decide)) dL_law_580 ?_
  refine zti (hv 1 (by decide)) ?_
  refine lv_aload_n hx hb dL_law_581 rfl (lv_at hl 0 rfl) ?_
  refine lv_iload_n hx hb dL_law_582 rfl (lv_at hl 3 rfl) ?_
  refine lv_iconst (v := (2 : Int32)) hx hb dL_law_583 (by decide) ?_
  refine lv_iadd hx hb dL_law_584 ?_
  refine va_sld hx hb hX hbl hbA hS (hi 2 (by decide)) dL_law_585 ?_
  refine zti (hv 2 (by decide)) ?_
  have hPw : va_P D vwCl ((pX5 cI cJ cC a_M v_M)) _ := hP_M
  have hDw : va_D (fun q : Nat => s.heap.size ≤ q) ((pX5 cI cJ cC a_M v_M)) := hLC.2.2.2.2.2.2.2.2.2.2.2 _ rfl
  refine zci hA hDw hS (zrunV (As := [.int (xs (i + 1)), .int (xs (i + 2))]) (rest := [.int r_1]) S hK hA hE hPw hDw hS (mX5_sure l D cI cJ cC G a_M _ v_M.1 v_M.2.1 v_M.2.2.1 v_M.2.2.2.1 v_M.2.2.2.2.1 v_M.2.2.2.2.2.1 v_M.2.2.2.2.2.2.1 v_M.2.2.2.2.2.2.2.1 v_M.2.2.2.2.2.2.2.2.1 v_M.2.2.2.2.2.2.2.2.2.1 v_M.2.2.2.2.2.2.2.2.2.2.1 v_M.2.2.2.2.2.2.2.2.2.2.2.1 v_M.2.2.2.2.2.2.2.2.2.2.2.2.1 v_M.2.2.2.2.2.2.2.2.2.2.2.2.2.1 v_M.2.2.2.2.2.2.2.2.2.2.2.2.2.2.1 v_M.2.2.2.2.2.2.2.2.2.2.2.2.2.2.2.1 v_M.2.2.2.2.2.2.2.2.2.2.2.2.2.2.2.2.1 v_M.2.2.2.2.2.2.2.2.2.2.2.2.2.2.2.2.2.1 v_M.2.2.2.2.2.2.2.2.2.2.2.2.2.2.2.2.2.2.1 v_M.2.2.2.2.2.2.2.2.2.2.2.2.2.2.2.2.2.2.2.1 v_M.2.2.2.2.2.2.2.2.2.2.2.2.2.2.2.2.2.2.2.2.1 v_M.2.2.2.2.2.2.2.2.2.2.2.2.2.2.2.2.2.2.2.2.2.1 v_M.2.2.2.2.2.2.2.2.2.2.2.2.2.2.2.2.2.2.2.2.2.2.1 v_M.2.2.2.2.2.2.2.2.2.2.2.2.2.2.2.2.2.2.2.2.2.2.2 (xs (i + 1)) (xs (i + 2)) _ h) kX5_sure ml_L_74 ⟨rfl, rfl, by decide, by decide⟩ (q0 := 0) (ci := 5) rfl rfl rfl rfl hl.1 rfl (Nat.le_of_ble_eq_true rfl) dL_law_586 ⟨by decide, by decide⟩) (fun r_3 M_refused_4 H locs h hP1 hk1 hS => ?_)
  try dsimp only at h
  have hP_M : va_P D vwCl (bX5 cI cJ cC a_M v_M.1 v_M.2.1 v_M.2.2.1 v_M.2.2.2.1 v_M.2.2.2.2.1 v_M.2.2.2.2.2.1 v_M.2.2.2.2.2.2.1 v_M.2.2.2.2.2.2.2.1 v_M.2.2.2.2.2.2.2.2.1 v_M.2.2.2.2.2.2.2.2.2.1 v_M.2.2.2.2.2.2.2.2.2.2.1 M_refused_4 v_M.2.2.2.2.2.2.2.2.2.2.2.2.1 v_M.2.2.2.2.2.2.2.2.2.2.2.2.2.1 v_M.2.2.2.2.2.2.2.2.2.2.2.2.2.2.1 v_M.2.2.2.2.2.2.2.2.2.2.2.2.2.2.2.1 v_M.2.2.2.2.2.2.2.2.2.2.2.2.2.2.2.2.1 v_M.2.2.2.2.2.2.2.2.2.2.2.2.2.2.2.2.2.1 v_M.2.2.2.2.2.2.2.2.2.2.2.2.2.2.2.2.2.2.1 v_M.2.2.2.2.2.2.2.2.2.2.2.2.2.2.2.2.2.2.2.1 v_M.2.2.2.2.2.2.2.2.2.2.2.2.2.2.2.2.2.2.2.2.1 v_M.2.2.2.2.2.2.2.2.2.2.2.2.2.2.2.2.2.2.2.2.2.1 v_M.2.2.2.2.2.2.2.2.2.2.2.2.2.2.2.2.2.2.2.2.2.2.1 v_M.2.2.2.2.2.2.2.2.2.2.2.2.2.2.2.2.2.2.2.2.2.2.2) H := hP1
  have hP_T : va_P D vwCl (bX4 cI cJ cC a_T a_n a_k a_t a_s a_r a_c v_T.1 T_refusals_2) H := zKeepB hP_T hk1 (hLC.1 0 7 (by decide) (by decide) (by decide))
  have hP_n : va_P D vwCl (pX3 cI cJ cC a_n v_n) H := zKeepB hP_n hk1 (hLC.1 1 7 (by decide) (by decide) (by decide))
  have hP_k : va_P D vwCl (pX3 cI cJ cC a_k v_k) H := zKeepB hP_k hk1 (hLC.1 2 7 (by decide) (by decide) (by decide))
  have hP_t : va_P D vwCl (pX3 cI cJ cC a_t v_t) H := zKeepB hP_t hk1 (hLC.1 3 7 (by decide) (by decide) (by decide))
  have hP_s : va_P D vwCl (pX2 cI cJ cC a_s v_s) H := zKeepB hP_s hk1 (hLC.1 4 7 (by decide) (by decide) (by decide))
  have hP_r : va_P D vwCl (pX0 cI cJ cC a_r v_r) H := zKeepB hP_r hk1 (hLC.1 5 7 (by decide) (by decide) (by decide))
  have hP_c : va_P D vwCl (pX1 cI cJ cC a_c v_c) H := zKeepB hP_c hk1 (hLC.1 6 7 (by decide) (by decide) (by decide))
  refine lv_icmp_eq (tgt := 1171) hx hb dL_law_589 (by decide) (fun z => ?_) (fun z => absurd h.1 z)
  exact hnext _ _ _ ⟨(v_T.1, T_refusals_2), v_n, v_k, v_t, v_s, v_r, v_c, (v_M.1, v_M.2.1, v_M.2.2.1, v_M.2.2.2.1, v_M.2.2.2.2.1, v_M.2.2.2.2.2.1, v_M.2.2.2.2.2.2.1, v_M.2.2.2.2.2.2.2.1, v_M.2.2.2.2.2.2.2.2.1, v_M.2.2.2.2.2.2.2.2.2.1, v_M.2.2.2.2.2.2.2.2.2.2.1, M_refused_4, v_M.2.2.2.2.2.2.2.2.2.2.2.2.1, v_M.2.2.2.2.2.2.2.2.2.2.2.2.2.1, v_M.2.2.2.2.2.2.2.2.2.2.2.2.2.2.1, v_M.2.2.2.2.2.2.2.2.2.2.2.2.2.2.2.1, v_M.2.2.2.2.2.2.2.2.2.2.2.2.2.2.2.2.1, v_M.2.2.2.2.2.2.2.2.2.2.2.2.2.2.2.2.2.1, v_M.2.2.2.2.2.2.2.2.2.2.2.2.2.2.2.2.2.2.1, v_M.2.2.2.2.2.2.2.2.2.2.2.2.2.2.2.2.2.2.2.1, v_M.2.2.2.2.2.2.2.2.2.2.2.2.2.2.2.2.2.2.2.2.1, v_M.2.2.2.2.2.2.2.2.2.2.2.2.2.2.2.2.2.2.2.2.2.1, v_M.2.2.2.2.2.2.2.2.2.2.2.2.2.2.2.2.2.2.2.2.2.2.1, v_M.2.2.2.2.2.2.2.2.2.2.2.2.2.2.2.2.2.2.2.2.2.2.2), h.2, hP_T, hP_n, hP_k, hP_t, hP_s, hP_r, hP_c, hP_M⟩ hS hl
def PH_best (RL : RT) : Prop := ∀ (v_T : PX4) (v_n : PX3) (v_k : PX3) (v_t : PX3) (v_s : PX2) (v_r : PX0) (v_c : PX1) (v_M : PX5), RL v_T v_n v_k v_s v_r v_M → wpX4_best (fun (r_1 : Int32) => wpX5_best (fun (r_2 : Int32) => r_1 = r_2 ∧ RL v_T v_n v_k v_s v_r v_M) v_M.2.2.2.2.2.2.2.2.2.2.2.2.1 v_M.2.2.2.2.2.2.2.2.2.2.2.2.2.2.2.2.1) v_n.2.2.2.2.2.2.2.2.2.2.2.2.2
set_option maxHeartbeats 4000000 in
set_option maxRecDepth 100000 in
theorem lawC_best {p : Program} {l : Launch} {e : Env} {s : State} {m : MethodId} {below : List Frame} {meth : Method} {c : Code} {Q : State → Prop} {b L : Nat} {xs : Nat → Int32} {D : va_G} {cI cJ cC : ClassId} {G : Nat → Nat → Nat} {a_T a_n a_k a_t a_s a_r a_c a_M : Nat → Nat} (RL : RT) (hp : PH_best RL) (S : CallFix p m c code 4 s #[Value.ref b] bg R_law) (hX : va_X b L xs s s.heap) (hbl : b < s.heap.size) (hK : va_K D vwCl (tz cI cJ cC) s) (hLC : LC a_T a_n a_k a_t a_s a_r a_c a_M (fun q : Nat => s.heap.size ≤ q)) (hE : EV G (fun q : Nat => s.heap.size ≤ q) s) {i : Nat} {x3 : Int32} (hi : ∀ k : Nat, k < 4 → vp_in (x3 + Int32.ofNat k) L) (hv : ∀ k : Nat, k < 4 → xs (x3 + Int32.ofNat k).toNatClampNeg = xs (i + k)) {H : Heap} {locs : List Loc} {ls : Array Slot} (hJ : JW RL D cI cJ cC a_T a_n a_k a_t a_s a_r a_c a_M H) (hS : va_S (fun q : Nat => s.heap.size ≤ q) s.heap H locs) (hl : lv_has ls 4 [(0, .ref b), (1, .ref (a_T 0)), (2, .ref (a_M 0)), (3, .int x3)])
    (hnext : ∀ (H : Heap) (locs : List Loc) (ls : Array Slot), JW RL D cI cJ cC a_T a_n a_k a_t a_s a_r a_c a_M H → va_S (fun q : Nat => s.heap.size ≤ q) s.heap H locs → lv_has ls 4 [(0, .ref b), (1, .ref (a_T 0)), (2, .ref (a_M 0)), (3, .int x3)] → W p l e room_1 s m #[Value.ref b] below meth c H locs 41 1350 Q (F0 m 1171 ls [])) : W p l e room_1 s m #[Value.ref b] below meth c H locs 41 1350 Q (F0 m 594 ls []) := by
  obtain ⟨hx, hb, hml, hown, ht⟩ := id S
  have hA : ∀ q : Nat, s.heap.size ≤ q → (fun q : Nat => s.heap.size ≤ q) q := fun _ h => h
  have hbA : ¬ (fun q : Nat => s.heap.size ≤ q) b := Nat.not_le.mpr hbl
  obtain ⟨v_T, v_n, v_k, v_t, v_s, v_r, v_c, v_M, hR, hP_T, hP_n, hP_k, hP_t, hP_s, hP_r, hP_c, hP_M⟩ := hJ
  have h := hp v_T v_n v_k v_t v_s v_r v_c v_M  hR
  refine lv_aload_n hx hb dL_law_594 rfl (lv_at hl 1 rfl) ?_
  have hPw : va_P D vwCl ((pX4 cI cJ cC a_T a_n a_k a_t a_s a_r a_c v_T) ++ (pX3 cI cJ cC a_n v_n)) _ := (hP_T.app hP_n)
  have hDw : va_D (fun q : Nat => s.heap.size ≤ q) ((pX4 cI cJ cC a_T a_n a_k a_t a_s a_r a_c v_T) ++ (pX3 cI cJ cC a_n v_n)) := hLC.2.2.2.1 _ rfl
  refine zci hA hDw hS (zrunV (As := []) (rest := []) S hK hA hE hPw hDw hS (mX4_best l D cI cJ cC G a_T a_n a_k a_t a_s a_r a_c _ v_T.1 v_T.2 v_n.1 v_n.2.1 v_n.2.2.1 v_n.2.2.2.1 v_n.2.2.2.2.1 v_n.2.2.2.2.2.1 v_n.2.2.2.2.2.2.1 v_n.2.2.2.2.2.2.2.1 v_n.2.2.2.2.2.2.2.2.1 v_n.2.2.2.2.2.2.2.2.2.1 v_n.2.2.2.2.2.2.2.2.2.2.1 v_n.2.2.2.2.2.2.2.2.2.2.2.1 v_n.2.2.2.2.2.2.2.2.2.2.2.2.1 v_n.2.2.2.2.2.2.2.2.2.2.2.2.2 _ h) kX4_best ml_L_75 ⟨rfl, rfl, by decide, by decide⟩ (q0 := 0) (ci := 4) rfl rfl rfl rfl hl.1 rfl (Nat.le_of_ble_eq_true rfl) dL_law_595 ⟨by decide, by decide⟩) (fun r_1 u H locs h hP1 hk1 hS => ?_)
  try dsimp only at h
  have hP_n : va_P D vwCl (pX3 cI cJ cC a_n v_n) H := zPr hP1
  have hP_T : va_P D vwCl (pX4 cI cJ cC a_T a_n a_k a_t a_s a_r a_c v_T) H := zPl (hP1)
  have hP_k : va_P D vwCl (pX3 cI cJ cC a_k v_k) H := zKeepB hP_k hk1 (dj_app (hLC.1 2 0 (by decide) (by decide) (by decide)) (hLC.1 2 1 (by decide) (by decide) (by decide)))
  have hP_t : va_P D vwCl (pX3 cI cJ cC a_t v_t) H := zKeepB hP_t hk1 (dj_app (hLC.1 3 0 (by decide) (by decide) (by decide)) (hLC.1 3 1 (by decide) (by decide) (by decide)))
  have hP_s : va_P D vwCl (pX2 cI cJ cC a_s v_s) H := zKeepB hP_s hk1 (dj_app (hLC.1 4 0 (by decide) (by decide) (by decide)) (hLC.1 4 1 (by decide) (by decide) (by decide)))
  have hP_r : va_P D vwCl (pX0 cI cJ cC a_r v_r) H := zKeepB hP_r hk1 (dj_app (hLC.1 5 0 (by decide) (by decide) (by decide)) (hLC.1 5 1 (by decide) (by decide) (by decide)))
  have hP_c : va_P D vwCl (pX1 cI cJ cC a_c v_c) H := zKeepB hP_c hk1 (dj_app (hLC.1 6 0 (by decide) (by decide) (by decide)) (hLC.1 6 1 (by decide) (by decide) (by decide)))
  have hP_M : va_P D vwCl (pX5 cI cJ cC a_M v_M) H := zKeepB hP_M hk1 (dj_app (hLC.1 7 0 (by decide) (by decide) (by decide)) (hLC.1 7 1 (by decide) (by decide) (by decide)))
  refine lv_aload_n hx hb dL_law_598 rfl (lv_at hl 2 rfl) ?_
  have hPw : va_P D vwCl ((pX5 cI cJ cC a_M v_M)) _ := hP_M
  have hDw : va_D (fun q : Nat => s.heap.size ≤ q) ((pX5 cI cJ cC a_M v_M)) := hLC.2.2.2.2.2.2.2.2.2.2.2 _ rfl
  refine zci hA hDw hS (zrunV (As := []) (rest := [.int r_1]) S hK hA hE hPw hDw hS (mX5_best l D cI cJ cC G a_M _ v_M.1 v_M.2.1 v_M.2.2.1 v_M.2.2.2.1 v_M.2.2.2.2.1 v_M.2.2.2.2.2.1 v_M.2.2.2.2.2.2.1 v_M.2.2.2.2.2.2.2.1 v_M.2.2.2.2.2.2.2.2.1 v_M.2.2.2.2.2.2.2.2.2.1 v_M.2.2.2.2.2.2.2.2.2.2.1 v_M.2.2.2.2.2.2.2.2.2.2.2.1 v_M.2.2.2.2.2.2.2.2.2.2.2.2.1 v_M.2.2.2.2.2.2.2.2.2.2.2.2.2.1 v_M.2.2.2.2.2.2.2.2.2.2.2.2.2.2.1 v_M.2.2.2.2.2.2.2.2.2.2.2.2.2.2.2.1 v_M.2.2.2.2.2.2.2.2.2.2.2.2.2.2.2.2.1 v_M.2.2.2.2.2.2.2.2.2.2.2.2.2.2.2.2.2.1 v_M.2.2.2.2.2.2.2.2.2.2.2.2.2.2.2.2.2.2.1 v_M.2.2.2.2.2.2.2.2.2.2.2.2.2.2.2.2.2.2.2.1 v_M.2.2.2.2.2.2.2.2.2.2.2.2.2.2.2.2.2.2.2.2.1 v_M.2.2.2.2.2.2.2.2.2.2.2.2.2.2.2.2.2.2.2.2.2.1 v_M.2.2.2.2.2.2.2.2.2.2.2.2.2.2.2.2.2.2.2.2.2.2.1 v_M.2.2.2.2.2.2.2.2.2.2.2.2.2.2.2.2.2.2.2.2.2.2.2 _ h) kX5_best ml_L_78 ⟨rfl, rfl, by decide, by decide⟩ (q0 := 0) (ci := 5) rfl rfl rfl rfl hl.1 rfl (Nat.le_of_ble_eq_true rfl) dL_law_599 ⟨by decide, by decide⟩) (fun r_2 u H locs h hP1 hk1 hS => ?_)
  try dsimp only at h
  have hP_M : va_P D vwCl (pX5 cI cJ cC a_M v_M) H := hP1
  have hP_T : va_P D vwCl (pX4 cI cJ cC a_T a_n a_k a_t a_s a_r a_c v_T) H := zKeepB hP_T hk1 (hLC.1 0 7 (by decide) (by decide) (by decide))
  have hP_n : va_P D vwCl (pX3 cI cJ cC a_n v_n) H := zKeepB hP_n hk1 (hLC.1 1 7 (by decide) (by decide) (by decide))
  have hP_k : va_P D vwCl (pX3 cI cJ cC a_k v_k) H := zKeepB hP_k hk1 (hLC.1 2 7 (by decide) (by decide) (by decide))
  have hP_t : va_P D vwCl (pX3 cI cJ cC a_t v_t) H := zKeepB hP_t hk1 (hLC.1 3 7 (by decide) (by decide) (by decide))
  have hP_s : va_P D vwCl (pX2 cI cJ cC a_s v_s) H := zKeepB hP_s hk1 (hLC.1 4 7 (by decide) (by decide) (by decide))
  have hP_r : va_P D vwCl (pX0 cI cJ cC a_r v_r) H := zKeepB hP_r hk1 (hLC.1 5 7 (by decide) (by decide) (by decide))
  have hP_c : va_P D vwCl (pX1 cI cJ cC a_c v_c) H := zKeepB hP_c hk1 (hLC.1 6 7 (by decide) (by decide) (by decide))
  refine lv_icmp_eq (tgt := 1171) hx hb dL_law_602 (by decide) (fun z => ?_) (fun z => absurd h.1 z)
  exact hnext _ _ _ ⟨v_T, v_n, v_k, v_t, v_s, v_r, v_c, v_M, h.2, hP_T, hP_n, hP_k, hP_t, hP_s, hP_r, hP_c, hP_M⟩ hS hl
def PH_safest (RL : RT) : Prop := ∀ (v_T : PX4) (v_n : PX3) (v_k : PX3) (v_t : PX3) (v_s : PX2) (v_r : PX0) (v_c : PX1) (v_M : PX5), RL v_T v_n v_k v_s v_r v_M → wpX4_safest (fun (r_1 : Int32) => wpX5_safest (fun (r_2 : Int32) => r_1 = r_2 ∧ RL v_T v_n v_k v_s v_r v_M) v_M.1 v_M.2.2.2.2.2.2.2.2.2.2.2.2.1 v_M.2.2.2.2.2.2.2.2.2.2.2.2.2.2.1 v_M.2.2.2.2.2.2.2.2.2.2.2.2.2.2.2.1 v_M.2.2.2.2.2.2.2.2.2.2.2.2.2.2.2.2.1) v_n.2.2.2.2.2.1 v_n.2.2.2.2.2.2.2.2.2.1 v_n.2.2.2.2.2.2.2.2.2.2.1 v_n.2.2.2.2.2.2.2.2.2.2.2.2.2
set_option maxHeartbeats 4000000 in
set_option maxRecDepth 100000 in
theorem lawC_safest {p : Program} {l : Launch} {e : Env} {s : State} {m : MethodId} {below : List Frame} {meth : Method} {c : Code} {Q : State → Prop} {b L : Nat} {xs : Nat → Int32} {D : va_G} {cI cJ cC : ClassId} {G : Nat → Nat → Nat} {a_T a_n a_k a_t a_s a_r a_c a_M : Nat → Nat} (RL : RT) (hp : PH_safest RL) (S : CallFix p m c code 4 s #[Value.ref b] bg R_law) (hX : va_X b L xs s s.heap) (hbl : b < s.heap.size) (hK : va_K D vwCl (tz cI cJ cC) s) (hLC : LC a_T a_n a_k a_t a_s a_r a_c a_M (fun q : Nat => s.heap.size ≤ q)) (hE : EV G (fun q : Nat => s.heap.size ≤ q) s) {i : Nat} {x3 : Int32} (hi : ∀ k : Nat, k < 4 → vp_in (x3 + Int32.ofNat k) L) (hv : ∀ k : Nat, k < 4 → xs (x3 + Int32.ofNat k).toNatClampNeg = xs (i + k)) {H : Heap} {locs : List Loc} {ls : Array Slot} (hJ : JW RL D cI cJ cC a_T a_n a_k a_t a_s a_r a_c a_M H) (hS : va_S (fun q : Nat => s.heap.size ≤ q) s.heap H locs) (hl : lv_has ls 4 [(0, .ref b), (1, .ref (a_T 0)), (2, .ref (a_M 0)), (3, .int x3)])
    (hnext : ∀ (H : Heap) (locs : List Loc) (ls : Array Slot), JW RL D cI cJ cC a_T a_n a_k a_t a_s a_r a_c a_M H → va_S (fun q : Nat => s.heap.size ≤ q) s.heap H locs → lv_has ls 4 [(0, .ref b), (1, .ref (a_T 0)), (2, .ref (a_M 0)), (3, .int x3)] → W p l e room_1 s m #[Value.ref b] below meth c H locs 41 1350 Q (F0 m 1171 ls [])) : W p l e room_1 s m #[Value.ref b] below meth c H locs 41 1350 Q (F0 m 607 ls []) := by
  obtain ⟨hx, hb, hml, hown, ht⟩ := id S
  have hA : ∀ q : Nat, s.heap.size ≤ q → (fun q : Nat => s.heap.size ≤ q) q := fun _ h => h
  have hbA : ¬ (fun q : Nat => s.heap.size ≤ q) b := Nat.not_le.mpr hbl
  obtain ⟨v_T, v_n, v_k, v_t, v_s, v_r, v_c, v_M, hR, hP_T, hP_n, hP_k, hP_t, hP_s, hP_r, hP_c, hP_M⟩ := hJ
  have h := hp v_T v_n v_k v_t v_s v_r v_c v_M  hR
  refine lv_aload_n hx hb dL_law_607 rfl (lv_at hl 1 rfl) ?_
  have hPw : va_P D vwCl ((pX4 cI cJ cC a_T a_n a_k a_t a_s a_r a_c v_T) ++ (pX3 cI cJ cC a_n v_n)) _ := (hP_T.app hP_n)
  have hDw : va_D (fun q : Nat => s.heap.size ≤ q) ((pX4 cI cJ cC a_T a_n a_k a_t a_s a_r a_c v_T) ++ (pX3 cI cJ cC a_n v_n)) := hLC.2.2.2.1 _ rfl
  refine zci hA hDw hS (zrunV (As := []) (rest := []) S hK hA hE hPw hDw hS (mX4_safest l D cI cJ cC G a_T a_n a_k a_t a_s a_r a_c _ v_T.1 v_T.2 v_n.1 v_n.2.1 v_n.2.2.1 v_n.2.2.2.1 v_n.2.2.2.2.1 v_n.2.2.2.2.2.1 v_n.2.2.2.2.2.2.1 v_n.2.2.2.2.2.2.2.1 v_n.2.2.2.2.2.2.2.2.1 v_n.2.2.2.2.2.2.2.2.2.1 v_n.2.2.2.2.2.2.2.2.2.2.1 v_n.2.2.2.2.2.2.2.2.2.2.2.1 v_n.2.2.2.2.2.2.2.2.2.2.2.2.1 v_n.2.2.2.2.2.2.2.2.2.2.2.2.2 _ h) kX4_safest ml_L_79 ⟨rfl, rfl, by decide, by decide⟩ (q0 := 0) (ci := 4) rfl rfl rfl rfl hl.1 rfl (Nat.le_of_ble_eq_true rfl) dL_law_608 ⟨by decide, by decide⟩) (fun r_1 u H locs h hP1 hk1 hS => ?_)
  try dsimp only at h
  have hP_n : va_P D vwCl (pX3 cI cJ cC a_n v_n) H := zPr hP1
  have hP_T : va_P D vwCl (pX4 cI cJ cC a_T a_n a_k a_t a_s a_r a_c v_T) H := zPl (hP1)
  have hP_k : va_P D vwCl (pX3 cI cJ cC a_k v_k) H := zKeepB hP_k hk1 (dj_app (hLC.1 2 0 (by decide) (by decide) (by decide)) (hLC.1 2 1 (by decide) (by decide) (by decide)))
  have hP_t : va_P D vwCl (pX3 cI cJ cC a_t v_t) H := zKeepB hP_t hk1 (dj_app (hLC.1 3 0 (by decide) (by decide) (by decide)) (hLC.1 3 1 (by decide) (by decide) (by decide)))
  have hP_s : va_P D vwCl (pX2 cI cJ cC a_s v_s) H := zKeepB hP_s hk1 (dj_app (hLC.1 4 0 (by decide) (by decide) (by decide)) (hLC.1 4 1 (by decide) (by decide) (by decide)))
  have hP_r : va_P D vwCl (pX0 cI cJ cC a_r v_r) H := zKeepB hP_r hk1 (dj_app (hLC.1 5 0 (by decide) (by decide) (by decide)) (hLC.1 5 1 (by decide) (by decide) (by decide)))
  have hP_c : va_P D vwCl (pX1 cI cJ cC a_c v_c) H := zKeepB hP_c hk1 (dj_app (hLC.1 6 0 (by decide) (by decide) (by decide)) (hLC.1 6 1 (by decide) (by decide) (by decide)))
  have hP_M : va_P D vwCl (pX5 cI cJ cC a_M v_M) H := zKeepB hP_M hk1 (dj_app (hLC.1 7 0 (by decide) (by decide) (by decide)) (hLC.1 7 1 (by decide) (by decide) (by decide)))
  refine lv_aload_n hx hb dL_law_611 rfl (lv_at hl 2 rfl) ?_
  have hPw : va_P D vwCl ((pX5 cI cJ cC a_M v_M)) _ := hP_M
  have hDw : va_D (fun q : Nat => s.heap.size ≤ q) ((pX5 cI cJ cC a_M v_M)) := hLC.2.2.2.2.2.2.2.2.2.2.2 _ rfl
  refine zci hA hDw hS (zrunV (As := []) (rest := [.int r_1]) S hK hA hE hPw hDw hS (mX5_safest l D cI cJ cC G a_M _ v_M.1 v_M.2.1 v_M.2.2.1 v_M.2.2.2.1 v_M.2.2.2.2.1 v_M.2.2.2.2.2.1 v_M.2.2.2.2.2.2.1 v_M.2.2.2.2.2.2.2.1 v_M.2.2.2.2.2.2.2.2.1 v_M.2.2.2.2.2.2.2.2.2.1 v_M.2.2.2.2.2.2.2.2.2.2.1 v_M.2.2.2.2.2.2.2.2.2.2.2.1 v_M.2.2.2.2.2.2.2.2.2.2.2.2.1 v_M.2.2.2.2.2.2.2.2.2.2.2.2.2.1 v_M.2.2.2.2.2.2.2.2.2.2.2.2.2.2.1 v_M.2.2.2.2.2.2.2.2.2.2.2.2.2.2.2.1 v_M.2.2.2.2.2.2.2.2.2.2.2.2.2.2.2.2.1 v_M.2.2.2.2.2.2.2.2.2.2.2.2.2.2.2.2.2.1 v_M.2.2.2.2.2.2.2.2.2.2.2.2.2.2.2.2.2.2.1 v_M.2.2.2.2.2.2.2.2.2.2.2.2.2.2.2.2.2.2.2.1 v_M.2.2.2.2.2.2.2.2.2.2.2.2.2.2.2.2.2.2.2.2.1 v_M.2.2.2.2.2.2.2.2.2.2.2.2.2.2.2.2.2.2.2.2.2.1 v_M.2.2.2.2.2.2.2.2.2.2.2.2.2.2.2.2.2.2.2.2.2.2.1 v_M.2.2.2.2.2.2.2.2.2.2.2.2.2.2.2.2.2.2.2.2.2.2.2 _ h) kX5_safest ml_L_82 ⟨rfl, rfl, by decide, by decide⟩ (q0 := 0) (ci := 5) rfl rfl rfl rfl hl.1 rfl (Nat.le_of_ble_eq_true rfl) dL_law_612 ⟨by decide, by decide⟩) (fun r_2 u H locs h hP1 hk1 hS => ?_)
  try dsimp only at h
  have hP_M : va_P D vwCl (pX5 cI cJ cC a_M v_M) H := hP1
  have hP_T : va_P D vwCl (pX4 cI cJ cC a_T a_n a_k a_t a_s a_r a_c v_T) H := zKeepB hP_T hk1 (hLC.1 0 7 (by decide) (by decide) (by decide))
  have hP_n : va_P D vwCl (pX3 cI cJ cC a_n v_n) H := zKeepB hP_n hk1 (hLC.1 1 7 (by decide) (by decide) (by decide))
  have hP_k : va_P D vwCl (pX3 cI cJ cC a_k v_k) H := zKeepB hP_k hk1 (hLC.1 2 7 (by decide) (by decide) (by decide))
  have hP_t : va_P D vwCl (pX3 cI cJ cC a_t v_t) H := zKeepB hP_t hk1 (hLC.1 3 7 (by decide) (by decide) (by decide))
  have hP_s : va_P D vwCl (pX2 cI cJ cC a_s v_s) H := zKeepB hP_s hk1 (hLC.1 4 7 (by decide) (by decide) (by decide))
  have hP_r : va_P D vwCl (pX0 cI cJ cC a_r v_r) H := zKeepB hP_r hk1 (hLC.1 5 7 (by decide) (by decide) (by decide))
  have hP_c : va_P D vwCl (pX1 cI cJ cC a_c v_c) H := zKeepB hP_c hk1 (hLC.1 6 7 (by decide) (by decide) (by decide))
  refine lv_icmp_eq (tgt := 1171) hx hb dL_law_615 (by decide) (fun z => ?_) (fun z => absurd h.1 z)
  exact hnext _ _ _ ⟨v_T, v_n, v_k, v_t, v_s, v_r, v_c, v_M, h.2, hP_T, hP_n, hP_k, hP_t, hP_s, hP_r, hP_c, hP_M⟩ hS hl
def PH_holes (RL : RT) : Prop := ∀ (v_T : PX4) (v_n : PX3) (v_k : PX3) (v_t : PX3) (v_s : PX2) (v_r : PX0) (v_c : PX1) (v_M : PX5) (p0 : Int32), RL v_T v_n v_k v_s v_r v_M → wpX4_holes (fun (r_1 : Int32) (T_refusals_2 : Nat → Int32) => wpX5_holes (fun (r_3 : Int32) (M_refused_4 : Nat → Int32) => r_1 = r_3 ∧ RL (v_T.1, T_refusals_2) v_n v_k v_s v_r (v_M.1, v_M.2.1, v_M.2.2.1, v_M.2.2.2.1, v_M.2.2.2.2.1, v_M.2.2.2.2.2.1, v_M.2.2.2.2.2.2.1, v_M.2.2.2.2.2.2.2.1, v_M.2.2.2.2.2.2.2.2.1, v_M.2.2.2.2.2.2.2.2.2.1, v_M.2.2.2.2.2.2.2.2.2.2.1, M_refused_4, v_M.2.2.2.2.2.2.2.2.2.2.2.2.1, v_M.2.2.2.2.2.2.2.2.2.2.2.2.2.1, v_M.2.2.2.2.2.2.2.2.2.2.2.2.2.2.1, v_M.2.2.2.2.2.2.2.2.2.2.2.2.2.2.2.1, v_M.2.2.2.2.2.2.2.2.2.2.2.2.2.2.2.2.1, v_M.2.2.2.2.2.2.2.2.2.2.2.2.2.2.2.2.2.1, v_M.2.2.2.2.2.2.2.2.2.2.2.2.2.2.2.2.2.2.1, v_M.2.2.2.2.2.2.2.2.2.2.2.2.2.2.2.2.2.2.2.1, v_M.2.2.2.2.2.2.2.2.2.2.2.2.2.2.2.2.2.2.2.2.1, v_M.2.2.2.2.2.2.2.2.2.2.2.2.2.2.2.2.2.2.2.2.2.1, v_M.2.2.2.2.2.2.2.2.2.2.2.2.2.2.2.2.2.2.2.2.2.2.1, v_M.2.2.2.2.2.2.2.2.2.2.2.2.2.2.2.2.2.2.2.2.2.2.2)) v_M.2.2.2.2.2.2.2.2.2.2.2.1 v_M.2.2.2.2.2.2.2.2.2.2.2.2.1 v_M.2.2.2.2.2.2.2.2.2.2.2.2.2.2.2.2.1 p0) v_T.2 v_n.2.1 v_n.2.2.2.2.2.2.2.2.2.2.2.1 v_n.2.2.2.2.2.2.2.2.2.2.2.2.1 p0
set_option maxHeartbeats 4000000 in
set_option maxRecDepth 100000 in
theorem lawC_holes {p : Program} {l : Launch} {e : Env} {s : State} {m : MethodId} {below : List Frame} {meth : Method} {c : Code} {Q : State → Prop} {b L : Nat} {xs : Nat → Int32} {D : va_G} {cI cJ cC : ClassId} {G : Nat → Nat → Nat} {a_T a_n a_k a_t a_s a_r a_c a_M : Nat → Nat} (RL : RT) (hp : PH_holes RL) (S : CallFix p m c code 4 s #[Value.ref b] bg R_law) (hX : va_X b L xs s s.heap) (hbl : b < s.heap.size) (hK : va_K D vwCl (tz cI cJ cC) s) (hLC : LC a_T a_n a_k a_t a_s a_r a_c a_M (fun q : Nat => s.heap.size ≤ q)) (hE : EV G (fun q : Nat => s.heap.size ≤ q) s) {i : Nat} {x3 : Int32} (hi : ∀ k : Nat, k < 4 → vp_in (x3 + Int32.ofNat k) L) (hv : ∀ k : Nat, k < 4 → xs (x3 + Int32.ofNat k).toNatClampNeg = xs (i + k)) {H : Heap} {locs : List Loc} {ls : Array Slot} (hJ : JW RL D cI cJ cC a_T a_n a_k a_t a_s a_r a_c a_M H) (hS : va_S (fun q : Nat => s.heap.size ≤ q) s.heap H locs) (hl : lv_has ls 4 [(0, .ref b), (1, .ref (a_T 0)), (2, .ref (a_M 0)), (3, .int x3)])
    (hnext : ∀ (H : Heap) (locs : List Loc) (ls : Array Slot), JW RL D cI cJ cC a_T a_n a_k a_t a_s a_r a_c a_M H → va_S (fun q : Nat => s.heap.size ≤ q) s.heap H locs → lv_has ls 4 [(0, .ref b), (1, .ref (a_T 0)), (2, .ref (a_M 0)), (3, .int x3)] → W p l e room_1 s m #[Value.ref b] below meth c H locs 41 1350 Q (F0 m 1171 ls [])) : W p l e room_1 s m #[Value.ref b] below meth c H locs 41 1350 Q (F0 m 620 ls []) := by
  obtain ⟨hx, hb, hml, hown, ht⟩ := id S
  have hA : ∀ q : Nat, s.heap.size ≤ q → (fun q : Nat => s.heap.size ≤ q) q := fun _ h => h
  have hbA : ¬ (fun q : Nat => s.heap.size ≤ q) b := Nat.not_le.mpr hbl
  obtain ⟨v_T, v_n, v_k, v_t, v_s, v_r, v_c, v_M, hR, hP_T, hP_n, hP_k, hP_t, hP_s, hP_r, hP_c, hP_M⟩ := hJ
  have h := hp v_T v_n v_k v_t v_s v_r v_c v_M (xs (i + 1)) hR
  refine lv_aload_n hx hb dL_law_620 rfl (lv_at hl 1 rfl) ?_
  refine lv_aload_n hx hb dL_law_621 rfl (lv_at hl 0 rfl) ?_
  refine lv_iload_n hx hb dL_law_622 rfl (lv_at hl 3 rfl) ?_
  refine lv_iconst (v := (1 : Int32)) hx hb dL_law_623 (by decide) ?_
  refine lv_iadd hx hb dL_law_624 ?_
  refine va_sld hx hb hX hbl hbA hS (hi 1 (by decide)) dL_law_625 ?_
  refine zti (hv 1 (by decide)) ?_
  have hPw : va_P D vwCl ((pX4 cI cJ cC a_T a_n a_k a_t a_s a_r a_c v_T) ++ (pX3 cI cJ cC a_n v_n)) _ := (hP_T.app hP_n)
  have hDw : va_D (fun q : Nat => s.heap.size ≤ q) ((pX4 cI cJ cC a_T a_n a_k a_t a_s a_r a_c v_T) ++ (pX3 cI cJ cC a_n v_n)) := hLC.2.2.2.1 _ rfl
  refine zci hA hDw hS (zrunV (As := [.int (xs (i + 1))]) (rest := []) S hK hA hE hPw hDw hS (mX4_holes l D cI cJ cC G a_T a_n a_k a_t a_s a_r a_c _ v_T.1 v_T.2 v_n.1 v_n.2.1 v_n.2.2.1 v_n.2.2.2.1 v_n.2.2.2.2.1 v_n.2.2.2.2.2.1 v_n.2.2.2.2.2.2.1 v_n.2.2.2.2.2.2.2.1 v_n.2.2.2.2.2.2.2.2.1 v_n.2.2.2.2.2.2.2.2.2.1 v_n.2.2.2.2.2.2.2.2.2.2.1 v_n.2.2.2.2.2.2.2.2.2.2.2.1 v_n.2.2.2.2.2.2.2.2.2.2.2.2.1 v_n.2.2.2.2.2.2.2.2.2.2.2.2.2 (xs (i + 1)) _ h) kX4_holes ml_L_83 ⟨rfl, rfl, by decide, by decide⟩ (q0 := 0) (ci := 4) rfl rfl rfl rfl hl.1 rfl (Nat.le_of_ble_eq_true rfl) dL_law_626 ⟨by decide, by decide⟩) (fun r_1 T_refusals_2 H locs h hP1 hk1 hS => ?_)
  try dsimp only at h
  have hP_n : va_P D vwCl (pX3 cI cJ cC a_n v_n) H := zPr hP1
  have hP_T : va_P D vwCl (bX4 cI cJ cC a_T a_n a_k a_t a_s a_r a_c v_T.1 T_refusals_2) H := zPl (hP1)
  have hP_k : va_P D vwCl (pX3 cI cJ cC a_k v_k) H := zKeepB hP_k hk1 (dj_app (hLC.1 2 0 (by decide) (by decide) (by decide)) (hLC.1 2 1 (by decide) (by decide) (by decide)))
  have hP_t : va_P D vwCl (pX3 cI cJ cC a_t v_t) H := zKeepB hP_t hk1 (dj_app (hLC.1 3 0 (by decide) (by decide) (by decide)) (hLC.1 3 1 (by decide) (by decide) (by decide)))
  have hP_s : va_P D vwCl (pX2 cI cJ cC a_s v_s) H := zKeepB hP_s hk1 (dj_app (hLC.1 4 0 (by decide) (by decide) (by decide)) (hLC.1 4 1 (by decide) (by decide) (by decide)))
  have hP_r : va_P D vwCl (pX0 cI cJ cC a_r v_r) H := zKeepB hP_r hk1 (dj_app (hLC.1 5 0 (by decide) (by decide) (by decide)) (hLC.1 5 1 (by decide) (by decide) (by decide)))
  have hP_c : va_P D vwCl (pX1 cI cJ cC a_c v_c) H := zKeepB hP_c hk1 (dj_app (hLC.1 6 0 (by decide) (by decide) (by decide)) (hLC.1 6 1 (by decide) (by decide) (by decide)))
  have hP_M : va_P D vwCl (pX5 cI cJ cC a_M v_M) H := zKeepB hP_M hk1 (dj_app (hLC.1 7 0 (by decide) (by decide) (by decide)) (hLC.1 7 1 (by decide) (by decide) (by decide)))
  refine lv_aload_n hx hb dL_law_629 rfl (lv_at hl 2 rfl) ?_
  refine lv_aload_n hx hb dL_law_630 rfl (lv_at hl 0 rfl) ?_
  refine lv_iload_n hx hb dL_law_631 rfl (lv_at hl 3 rfl) ?_
  refine lv_iconst (v := (1 : Int32)) hx hb dL_law_632 (by decide) ?_
  refine lv_iadd hx hb dL_law_633 ?_
  refine va_sld hx hb hX hbl hbA hS (hi 1 (by decide)) dL_law_634 ?_
  refine zti (hv 1 (by decide)) ?_
  have hPw : va_P D vwCl ((pX5 cI cJ cC a_M v_M)) _ := hP_M
  have hDw : va_D (fun q : Nat => s.heap.size ≤ q) ((pX5 cI cJ cC a_M v_M)) := hLC.2.2.2.2.2.2.2.2.2.2.2 _ rfl
  refine zci hA hDw hS (zrunV (As := [.int (xs (i + 1))]) (rest := [.int r_1]) S hK hA hE hPw hDw hS (mX5_holes l D cI cJ cC G a_M _ v_M.1 v_M.2.1 v_M.2.2.1 v_M.2.2.2.1 v_M.2.2.2.2.1 v_M.2.2.2.2.2.1 v_M.2.2.2.2.2.2.1 v_M.2.2.2.2.2.2.2.1 v_M.2.2.2.2.2.2.2.2.1 v_M.2.2.2.2.2.2.2.2.2.1 v_M.2.2.2.2.2.2.2.2.2.2.1 v_M.2.2.2.2.2.2.2.2.2.2.2.1 v_M.2.2.2.2.2.2.2.2.2.2.2.2.1 v_M.2.2.2.2.2.2.2.2.2.2.2.2.2.1 v_M.2.2.2.2.2.2.2.2.2.2.2.2.2.2.1 v_M.2.2.2.2.2.2.2.2.2.2.2.2.2.2.2.1 v_M.2.2.2.2.2.2.2.2.2.2.2.2.2.2.2.2.1 v_M.2.2.2.2.2.2.2.2.2.2.2.2.2.2.2.2.2.1 v_M.2.2.2.2.2.2.2.2.2.2.2.2.2.2.2.2.2.2.1 v_M.2.2.2.2.2.2.2.2.2.2.2.2.2.2.2.2.2.2.2.1 v_M.2.2.2.2.2.2.2.2.2.2.2.2.2.2.2.2.2.2.2.2.1 v_M.2.2.2.2.2.2.2.2.2.2.2.2.2.2.2.2.2.2.2.2.2.1 v_M.2.2.2.2.2.2.2.2.2.2.2.2.2.2.2.2.2.2.2.2.2.2.1 v_M.2.2.2.2.2.2.2.2.2.2.2.2.2.2.2.2.2.2.2.2.2.2.2 (xs (i + 1)) _ h) kX5_holes ml_L_86 ⟨rfl, rfl, by decide, by decide⟩ (q0 := 0) (ci := 5) rfl rfl rfl rfl hl.1 rfl (Nat.le_of_ble_eq_true rfl) dL_law_635 ⟨by decide, by decide⟩) (fun r_3 M_refused_4 H locs h hP1 hk1 hS => ?_)
  try dsimp only at h
  have hP_M : va_P D vwCl (bX5 cI cJ cC a_M v_M.1 v_M.2.1 v_M.2.2.1 v_M.2.2.2.1 v_M.2.2.2.2.1 v_M.2.2.2.2.2.1 v_M.2.2.2.2.2.2.1 v_M.2.2.2.2.2.2.2.1 v_M.2.2.2.2.2.2.2.2.1 v_M.2.2.2.2.2.2.2.2.2.1 v_M.2.2.2.2.2.2.2.2.2.2.1 M_refused_4 v_M.2.2.2.2.2.2.2.2.2.2.2.2.1 v_M.2.2.2.2.2.2.2.2.2.2.2.2.2.1 v_M.2.2.2.2.2.2.2.2.2.2.2.2.2.2.1 v_M.2.2.2.2.2.2.2.2.2.2.2.2.2.2.2.1 v_M.2.2.2.2.2.2.2.2.2.2.2.2.2.2.2.2.1 v_M.2.2.2.2.2.2.2.2.2.2.2.2.2.2.2.2.2.1 v_M.2.2.2.2.2.2.2.2.2.2.2.2.2.2.2.2.2.2.1 v_M.2.2.2.2.2.2.2.2.2.2.2.2.2.2.2.2.2.2.2.1 v_M.2.2.2.2.2.2.2.2.2.2.2.2.2.2.2.2.2.2.2.2.1 v_M.2.2.2.2.2.2.2.2.2.2.2.2.2.2.2.2.2.2.2.2.2.1 v_M.2.2.2.2.2.2.2.2.2.2.2.2.2.2.2.2.2.2.2.2.2.2.1 v_M.2.2.2.2.2.2.2.2.2.2.2.2.2.2.2.2.2.2.2.2.2.2.2) H := hP1
  have hP_T : va_P D vwCl (bX4 cI cJ cC a_T a_n a_k a_t a_s a_r a_c v_T.1 T_refusals_2) H := zKeepB hP_T hk1 (hLC.1 0 7 (by decide) (by decide) (by decide))
  have hP_n : va_P D vwCl (pX3 cI cJ cC a_n v_n) H := zKeepB hP_n hk1 (hLC.1 1 7 (by decide) (by decide) (by decide))
  have hP_k : va_P D vwCl (pX3 cI cJ cC a_k v_k) H := zKeepB hP_k hk1 (hLC.1 2 7 (by decide) (by decide) (by decide))
  have hP_t : va_P D vwCl (pX3 cI cJ cC a_t v_t) H := zKeepB hP_t hk1 (hLC.1 3 7 (by decide) (by decide) (by decide))
  have hP_s : va_P D vwCl (pX2 cI cJ cC a_s v_s) H := zKeepB hP_s hk1 (hLC.1 4 7 (by decide) (by decide) (by decide))
  have hP_r : va_P D vwCl (pX0 cI cJ cC a_r v_r) H := zKeepB hP_r hk1 (hLC.1 5 7 (by decide) (by decide) (by decide))
  have hP_c : va_P D vwCl (pX1 cI cJ cC a_c v_c) H := zKeepB hP_c hk1 (hLC.1 6 7 (by decide) (by decide) (by decide))
  refine lv_icmp_eq (tgt := 1171) hx hb dL_law_638 (by decide) (fun z => ?_) (fun z => absurd h.1 z)
  exact hnext _ _ _ ⟨(v_T.1, T_refusals_2), v_n, v_k, v_t, v_s, v_r, v_c, (v_M.1, v_M.2.1, v_M.2.2.1, v_M.2.2.2.1, v_M.2.2.2.2.1, v_M.2.2.2.2.2.1, v_M.2.2.2.2.2.2.1, v_M.2.2.2.2.2.2.2.1, v_M.2.2.2.2.2.2.2.2.1, v_M.2.2.2.2.2.2.2.2.2.1, v_M.2.2.2.2.2.2.2.2.2.2.1, M_refused_4, v_M.2.2.2.2.2.2.2.2.2.2.2.2.1, v_M.2.2.2.2.2.2.2.2.2.2.2.2.2.1, v_M.2.2.2.2.2.2.2.2.2.2.2.2.2.2.1, v_M.2.2.2.2.2.2.2.2.2.2.2.2.2.2.2.1, v_M.2.2.2.2.2.2.2.2.2.2.2.2.2.2.2.2.1, v_M.2.2.2.2.2.2.2.2.2.2.2.2.2.2.2.2.2.1, v_M.2.2.2.2.2.2.2.2.2.2.2.2.2.2.2.2.2.2.1, v_M.2.2.2.2.2.2.2.2.2.2.2.2.2.2.2.2.2.2.2.1, v_M.2.2.2.2.2.2.2.2.2.2.2.2.2.2.2.2.2.2.2.2.1, v_M.2.2.2.2.2.2.2.2.2.2.2.2.2.2.2.2.2.2.2.2.2.1, v_M.2.2.2.2.2.2.2.2.2.2.2.2.2.2.2.2.2.2.2.2.2.2.1, v_M.2.2.2.2.2.2.2.2.2.2.2.2.2.2.2.2.2.2.2.2.2.2.2), h.2, hP_T, hP_n, hP_k, hP_t, hP_s, hP_r, hP_c, hP_M⟩ hS hl
def PH_mean (RL : RT) : Prop := ∀ (v_T : PX4) (v_n : PX3) (v_k : PX3) (v_t : PX3) (v_s : PX2) (v_r : PX0) (v_c : PX1) (v_M : PX5) (p0 : Int32) (p1 : Int32), RL v_T v_n v_k v_s v_r v_M → wpX4_mean (fun (r_1 : Int64) (T_refusals_2 : Nat → Int32) => wpX5_mean (fun (r_3 : Int64) (M_refused_4 : Nat → Int32) => r_1 = r_3 ∧ RL (v_T.1, T_refusals_2) v_n v_k v_s v_r (v_M.1, v_M.2.1, v_M.2.2.1, v_M.2.2.2.1, v_M.2.2.2.2.1, v_M.2.2.2.2.2.1, v_M.2.2.2.2.2.2.1, v_M.2.2.2.2.2.2.2.1, v_M.2.2.2.2.2.2.2.2.1, v_M.2.2.2.2.2.2.2.2.2.1, v_M.2.2.2.2.2.2.2.2.2.2.1, M_refused_4, v_M.2.2.2.2.2.2.2.2.2.2.2.2.1, v_M.2.2.2.2.2.2.2.2.2.2.2.2.2.1, v_M.2.2.2.2.2.2.2.2.2.2.2.2.2.2.1, v_M.2.2.2.2.2.2.2.2.2.2.2.2.2.2.2.1, v_M.2.2.2.2.2.2.2.2.2.2.2.2.2.2.2.2.1, v_M.2.2.2.2.2.2.2.2.2.2.2.2.2.2.2.2.2.1, v_M.2.2.2.2.2.2.2.2.2.2.2.2.2.2.2.2.2.2.1, v_M.2.2.2.2.2.2.2.2.2.2.2.2.2.2.2.2.2.2.2.1, v_M.2.2.2.2.2.2.2.2.2.2.2.2.2.2.2.2.2.2.2.2.1, v_M.2.2.2.2.2.2.2.2.2.2.2.2.2.2.2.2.2.2.2.2.2.1, v_M.2.2.2.2.2.2.2.2.2.2.2.2.2.2.2.2.2.2.2.2.2.2.1, v_M.2.2.2.2.2.2.2.2.2.2.2.2.2.2.2.2.2.2.2.2.2.2.2)) v_M.2.2.2.2.2.2.2.2.2.2.2.1 v_M.2.2.2.2.2.2.2.2.2.2.2.2.1 v_M.2.2.2.2.2.2.2.2.2.2.2.2.2.2.2.2.1 p0 p1) v_T.2 v_n.2.1 v_n.2.2.2.2.2.2.2.1 v_n.2.2.2.2.2.2.2.2.2.2.2.1 v_n.2.2.2.2.2.2.2.2.2.2.2.2.1 p0 p1
set_option maxHeartbeats 4000000 in
set_option maxRecDepth 100000 in
theorem lawC_mean {p : Program} {l : Launch} {e : Env} {s : State} {m : MethodId} {below : List Frame} {meth : Method} {c : Code} {Q : State → Prop} {b L : Nat} {xs : Nat → Int32} {D : va_G} {cI cJ cC : ClassId} {G : Nat → Nat → Nat} {a_T a_n a_k a_t a_s a_r a_c a_M : Nat → Nat} (RL : RT) (hp : PH_mean RL) (S : CallFix p m c code 4 s #[Value.ref b] bg R_law) (hX : va_X b L xs s s.heap) (hbl : b < s.heap.size) (hK : va_K D vwCl (tz cI cJ cC) s) (hLC : LC a_T a_n a_k a_t a_s a_r a_c a_M (fun q : Nat => s.heap.size ≤ q)) (hE : EV G (fun q : Nat => s.heap.size ≤ q) s) {i : Nat} {x3 : Int32} (hi : ∀ k : Nat, k < 4 → vp_in (x3 + Int32.ofNat k) L) (hv : ∀ k : Nat, k < 4 → xs (x3 + Int32.ofNat k).toNatClampNeg = xs (i + k)) {H : Heap} {locs : List Loc} {ls : Array Slot} (hJ : JW RL D cI cJ cC a_T a_n a_k a_t a_s a_r a_c a_M H) (hS : va_S (fun q : Nat => s.heap.size ≤ q) s.heap H locs) (hl : lv_has ls 4 [(0, .ref b), (1, .ref (a_T 0)), (2, .ref (a_M 0)), (3, .int x3)])
    (hnext : ∀ (H : Heap) (locs : List Loc) (ls : Array Slot), JW RL D cI cJ cC a_T a_n a_k a_t a_s a_r a_c a_M H → va_S (fun q : Nat => s.heap.size ≤ q) s.heap H locs → lv_has ls 4 [(0, .ref b), (1, .ref (a_T 0)), (2, .ref (a_M 0)), (3, .int x3)] → W p l e room_1 s m #[Value.ref b] below meth c H locs 41 1350 Q (F0 m 1171 ls [])) : W p l e room_1 s m #[Value.ref b] below meth c H locs 41 1350 Q (F0 m 643 ls []) := by
  obtain ⟨hx, hb, hml, hown, ht⟩ := id S
  have hA : ∀ q : Nat, s.heap.size ≤ q → (fun q : Nat => s.heap.size ≤ q) q := fun _ h => h
  have hbA : ¬ (fun q : Nat => s.heap.size ≤ q) b := Nat.not_le.mpr hbl
  obtain ⟨v_T, v_n, v_k, v_t, v_s, v_r, v_c, v_M, hR, hP_T, hP_n, hP_k, hP_t, hP_s, hP_r, hP_c, hP_M⟩ := hJ
  have h := hp v_T v_n v_k v_t v_s v_r v_c v_M (xs (i + 1)) (xs (i + 2)) hR
  refine lv_aload_n hx hb dL_law_643 rfl (lv_at hl 1 rfl) ?_
  refine lv_aload_n hx hb dL_law_644 rfl (lv_at hl 0 rfl) ?_
  refine lv_iload_n hx hb dL_law_645 rfl (lv_at hl 3 rfl) ?_
  refine lv_iconst (v := (1 : Int32)) hx hb dL_law_646 (by decide) ?_
  refine lv_iadd hx hb dL_law_647 ?_
  refine va_sld hx hb hX hbl hbA hS (hi 1 (by decide)) dL_law_648 ?_
  refine zti (hv 1 (by decide)) ?_
  refine lv_aload_n hx hb dL_law_649 rfl (lv_at hl 0 rfl) ?_
  refine lv_iload_n hx hb dL_law_650 rfl (lv_at hl 3 rfl) ?_
  refine lv_iconst (v := (2 : Int32)) hx hb dL_law_651 (by decide) ?_
  refine lv_iadd hx hb dL_law_652 ?_
  refine va_sld hx hb hX hbl hbA hS (hi 2 (by decide)) dL_law_653 ?_
  refine zti (hv 2 (by decide)) ?_
  have hPw : va_P D vwCl ((pX4 cI cJ cC a_T a_n a_k a_t a_s a_r a_c v_T) ++ (pX3 cI cJ cC a_n v_n)) _ := (hP_T.app hP_n)
  have hDw : va_D (fun q : Nat => s.heap.size ≤ q) ((pX4 cI cJ cC a_T a_n a_k a_t a_s a_r a_c v_T) ++ (pX3 cI cJ cC a_n v_n)) := hLC.2.2.2.1 _ rfl
  refine zcl hA hDw hS (zrunV (As := [.int (xs (i + 1)), .int (xs (i + 2))]) (rest := []) S hK hA hE hPw hDw hS (mX4_mean l D cI cJ cC G a_T a_n a_k a_t a_s a_r a_c _ v_T.1 v_T.2 v_n.1 v_n.2.1 v_n.2.2.1 v_n.2.2.2.1 v_n.2.2.2.2.1 v_n.2.2.2.2.2.1 v_n.2.2.2.2.2.2.1 v_n.2.2.2.2.2.2.2.1 v_n.2.2.2.2.2.2.2.2.1 v_n.2.2.2.2.2.2.2.2.2.1 v_n.2.2.2.2.2.2.2.2.2.2.1 v_n.2.2.2.2.2.2.2.2.2.2.2.1 v_n.2.2.2.2.2.2.2.2.2.2.2.2.1 v_n.2.2.2.2.2.2.2.2.2.2.2.2.2 (xs (i + 1)) (xs (i + 2)) _ h) kX4_mean ml_L_87 ⟨rfl, rfl, by decide, by decide⟩ (q0 := 0) (ci := 4) rfl rfl rfl rfl hl.1 rfl (Nat.le_of_ble_eq_true rfl) dL_law_654 ⟨by decide, by decide⟩) (fun r_1 T_refusals_2 H locs h hP1 hk1 hS => ?_)
  try dsimp only at h
  have hP_n : va_P D vwCl (pX3 cI cJ cC a_n v_n) H := zPr hP1
  have hP_T : va_P D vwCl (bX4 cI cJ cC a_T a_n a_k a_t a_s a_r a_c v_T.1 T_refusals_2) H := zPl (hP1)
  have hP_k : va_P D vwCl (pX3 cI cJ cC a_k v_k) H := zKeepB hP_k hk1 (dj_app (hLC.1 2 0 (by decide) (by decide) (by decide)) (hLC.1 2 1 (by decide) (by decide) (by decide)))
  have hP_t : va_P D vwCl (pX3 cI cJ cC a_t v_t) H := zKeepB hP_t hk1 (dj_app (hLC.1 3 0 (by decide) (by decide) (by decide)) (hLC.1 3 1 (by decide) (by decide) (by decide)))
  have hP_s : va_P D vwCl (pX2 cI cJ cC a_s v_s) H := zKeepB hP_s hk1 (dj_app (hLC.1 4 0 (by decide) (by decide) (by decide)) (hLC.1 4 1 (by decide) (by decide) (by decide)))
  have hP_r : va_P D vwCl (pX0 cI cJ cC a_r v_r) H := zKeepB hP_r hk1 (dj_app (hLC.1 5 0 (by decide) (by decide) (by decide)) (hLC.1 5 1 (by decide) (by decide) (by decide)))
  have hP_c : va_P D vwCl (pX1 cI cJ cC a_c v_c) H := zKeepB hP_c hk1 (dj_app (hLC.1 6 0 (by decide) (by decide) (by decide)) (hLC.1 6 1 (by decide) (by decide) (by decide)))
  have hP_M : va_P D vwCl (pX5 cI cJ cC a_M v_M) H := zKeepB hP_M hk1 (dj_app (hLC.1 7 0 (by decide) (by decide) (by decide)) (hLC.1 7 1 (by decide) (by decide) (by decide)))
  refine lv_aload_n hx hb dL_law_657 rfl (lv_at hl 2 rfl) ?_
  refine lv_aload_n hx hb dL_law_658 rfl (lv_at hl 0 rfl) ?_
  refine lv_iload_n hx hb dL_law_659 rfl (lv_at hl 3 rfl) ?_
  refine lv_iconst (v := (1 : Int32)) hx hb dL_law_660 (by decide) ?_
  refine lv_iadd hx hb dL_law_661 ?_
  refine va_sld hx hb hX hbl hbA hS (hi 1 (by decide)) dL_law_662 ?_
  refine zti (hv 1 (by decide)) ?_
  refine lv_aload_n hx hb dL_law_663 rfl (lv_at hl 0 rfl) ?_
  refine lv_iload_n hx hb dL_law_664 rfl (lv_at hl 3 rfl) ?_
  refine lv_iconst (v := (2 : Int32)) hx hb dL_law_665 (by decide) ?_
  refine lv_iadd hx hb dL_law_666 ?_
  refine va_sld hx hb hX hbl hbA hS (hi 2 (by decide)) dL_law_667 ?_
  refine zti (hv 2 (by decide)) ?_
  have hPw : va_P D vwCl ((pX5 cI cJ cC a_M v_M)) _ := hP_M
  have hDw : va_D (fun q : Nat => s.heap.size ≤ q) ((pX5 cI cJ cC a_M v_M)) := hLC.2.2.2.2.2.2.2.2.2.2.2 _ rfl
  refine zcl hA hDw hS (zrunV (As := [.int (xs (i + 1)), .int (xs (i + 2))]) (rest := [.long r_1]) S hK hA hE hPw hDw hS (mX5_mean l D cI cJ cC G a_M _ v_M.1 v_M.2.1 v_M.2.2.1 v_M.2.2.2.1 v_M.2.2.2.2.1 v_M.2.2.2.2.2.1 v_M.2.2.2.2.2.2.1 v_M.2.2.2.2.2.2.2.1 v_M.2.2.2.2.2.2.2.2.1 v_M.2.2.2.2.2.2.2.2.2.1 v_M.2.2.2.2.2.2.2.2.2.2.1 v_M.2.2.2.2.2.2.2.2.2.2.2.1 v_M.2.2.2.2.2.2.2.2.2.2.2.2.1 v_M.2.2.2.2.2.2.2.2.2.2.2.2.2.1 v_M.2.2.2.2.2.2.2.2.2.2.2.2.2.2.1 v_M.2.2.2.2.2.2.2.2.2.2.2.2.2.2.2.1 v_M.2.2.2.2.2.2.2.2.2.2.2.2.2.2.2.2.1 v_M.2.2.2.2.2.2.2.2.2.2.2.2.2.2.2.2.2.1 v_M.2.2.2.2.2.2.2.2.2.2.2.2.2.2.2.2.2.2.1 v_M.2.2.2.2.2.2.2.2.2.2.2.2.2.2.2.2.2.2.2.1 v_M.2.2.2.2.2.2.2.2.2.2.2.2.2.2.2.2.2.2.2.2.1 v_M.2.2.2.2.2.2.2.2.2.2.2.2.2.2.2.2.2.2.2.2.2.1 v_M.2.2.2.2.2.2.2.2.2.2.2.2.2.2.2.2.2.2.2.2.2.2.1 v_M.2.2.2.2.2.2.2.2.2.2.2.2.2.2.2.2.2.2.2.2.2.2.2 (xs (i + 1)) (xs (i + 2)) _ h) kX5_mean ml_L_90 ⟨rfl, rfl, by decide, by decide⟩ (q0 := 0) (ci := 5) rfl rfl rfl rfl hl.1 rfl (Nat.le_of_ble_eq_true rfl) dL_law_668 ⟨by decide, by decide⟩) (fun r_3 M_refused_4 H locs h hP1 hk1 hS => ?_)
  try dsimp only at h
  have hP_M : va_P D vwCl (bX5 cI cJ cC a_M v_M.1 v_M.2.1 v_M.2.2.1 v_M.2.2.2.1 v_M.2.2.2.2.1 v_M.2.2.2.2.2.1 v_M.2.2.2.2.2.2.1 v_M.2.2.2.2.2.2.2.1 v_M.2.2.2.2.2.2.2.2.1 v_M.2.2.2.2.2.2.2.2.2.1 v_M.2.2.2.2.2.2.2.2.2.2.1 M_refused_4 v_M.2.2.2.2.2.2.2.2.2.2.2.2.1 v_M.2.2.2.2.2.2.2.2.2.2.2.2.2.1 v_M.2.2.2.2.2.2.2.2.2.2.2.2.2.2.1 v_M.2.2.2.2.2.2.2.2.2.2.2.2.2.2.2.1 v_M.2.2.2.2.2.2.2.2.2.2.2.2.2.2.2.2.1 v_M.2.2.2.2.2.2.2.2.2.2.2.2.2.2.2.2.2.1 v_M.2.2.2.2.2.2.2.2.2.2.2.2.2.2.2.2.2.2.1 v_M.2.2.2.2.2.2.2.2.2.2.2.2.2.2.2.2.2.2.2.1 v_M.2.2.2.2.2.2.2.2.2.2.2.2.2.2.2.2.2.2.2.2.1 v_M.2.2.2.2.2.2.2.2.2.2.2.2.2.2.2.2.2.2.2.2.2.1 v_M.2.2.2.2.2.2.2.2.2.2.2.2.2.2.2.2.2.2.2.2.2.2.1 v_M.2.2.2.2.2.2.2.2.2.2.2.2.2.2.2.2.2.2.2.2.2.2.2) H := hP1
  have hP_T : va_P D vwCl (bX4 cI cJ cC a_T a_n a_k a_t a_s a_r a_c v_T.1 T_refusals_2) H := zKeepB hP_T hk1 (hLC.1 0 7 (by decide) (by decide) (by decide))
  have hP_n : va_P D vwCl (pX3 cI cJ cC a_n v_n) H := zKeepB hP_n hk1 (hLC.1 1 7 (by decide) (by decide) (by decide))
  have hP_k : va_P D vwCl (pX3 cI cJ cC a_k v_k) H := zKeepB hP_k hk1 (hLC.1 2 7 (by decide) (by decide) (by decide))
  have hP_t : va_P D vwCl (pX3 cI cJ cC a_t v_t) H := zKeepB hP_t hk1 (hLC.1 3 7 (by decide) (by decide) (by decide))
  have hP_s : va_P D vwCl (pX2 cI cJ cC a_s v_s) H := zKeepB hP_s hk1 (hLC.1 4 7 (by decide) (by decide) (by decide))
  have hP_r : va_P D vwCl (pX0 cI cJ cC a_r v_r) H := zKeepB hP_r hk1 (hLC.1 5 7 (by decide) (by decide) (by decide))
  have hP_c : va_P D vwCl (pX1 cI cJ cC a_c v_c) H := zKeepB hP_c hk1 (hLC.1 6 7 (by decide) (by decide) (by decide))
  refine W.lcmp hx hb dL_law_671 ?_
  refine lv_if_eq (tgt := 1171) hx hb dL_law_672 (by decide) (fun z => ?_) (fun z => absurd (zl_eq.mpr h.1) z)
  exact hnext _ _ _ ⟨(v_T.1, T_refusals_2), v_n, v_k, v_t, v_s, v_r, v_c, (v_M.1, v_M.2.1, v_M.2.2.1, v_M.2.2.2.1, v_M.2.2.2.2.1, v_M.2.2.2.2.2.1, v_M.2.2.2.2.2.2.1, v_M.2.2.2.2.2.2.2.1, v_M.2.2.2.2.2.2.2.2.1, v_M.2.2.2.2.2.2.2.2.2.1, v_M.2.2.2.2.2.2.2.2.2.2.1, M_refused_4, v_M.2.2.2.2.2.2.2.2.2.2.2.2.1, v_M.2.2.2.2.2.2.2.2.2.2.2.2.2.1, v_M.2.2.2.2.2.2.2.2.2.2.2.2.2.2.1, v_M.2.2.2.2.2.2.2.2.2.2.2.2.2.2.2.1, v_M.2.2.2.2.2.2.2.2.2.2.2.2.2.2.2.2.1, v_M.2.2.2.2.2.2.2.2.2.2.2.2.2.2.2.2.2.1, v_M.2.2.2.2.2.2.2.2.2.2.2.2.2.2.2.2.2.2.1, v_M.2.2.2.2.2.2.2.2.2.2.2.2.2.2.2.2.2.2.2.1, v_M.2.2.2.2.2.2.2.2.2.2.2.2.2.2.2.2.2.2.2.2.1, v_M.2.2.2.2.2.2.2.2.2.2.2.2.2.2.2.2.2.2.2.2.2.1, v_M.2.2.2.2.2.2.2.2.2.2.2.2.2.2.2.2.2.2.2.2.2.2.1, v_M.2.2.2.2.2.2.2.2.2.2.2.2.2.2.2.2.2.2.2.2.2.2.2), h.2, hP_T, hP_n, hP_k, hP_t, hP_s, hP_r, hP_c, hP_M⟩ hS hl
def PH_from (RL : RT) : Prop := ∀ (v_T : PX4) (v_n : PX3) (v_k : PX3) (v_t : PX3) (v_s : PX2) (v_r : PX0) (v_c : PX1) (v_M : PX5), RL v_T v_n v_k v_s v_r v_M → wpX4_from (fun (r_1 : Int32) => wpX5_from (fun (r_2 : Int32) => r_1 = r_2 ∧ RL v_T v_n v_k v_s v_r v_M) v_M.2.2.2.2.2.2.2.2.2.2.2.2.1 v_M.2.2.2.2.2.2.2.2.2.2.2.2.2.2.2.2.1) v_n.2.1 v_n.2.2.2.2.2.2.2.2.2.2.2.1 v_n.2.2.2.2.2.2.2.2.2.2.2.2.1
set_option maxHeartbeats 4000000 in
set_option maxRecDepth 100000 in
theorem lawC_from {p : Program} {l : Launch} {e : Env} {s : State} {m : MethodId} {below : List Frame} {meth : Method} {c : Code} {Q : State → Prop} {b L : Nat} {xs : Nat → Int32} {D : va_G} {cI cJ cC : ClassId} {G : Nat → Nat → Nat} {a_T a_n a_k a_t a_s a_r a_c a_M : Nat → Nat} (RL : RT) (hp : PH_from RL) (S : CallFix p m c code 4 s #[Value.ref b] bg R_law) (hX : va_X b L xs s s.heap) (hbl : b < s.heap.size) (hK : va_K D vwCl (tz cI cJ cC) s) (hLC : LC a_T a_n a_k a_t a_s a_r a_c a_M (fun q : Nat => s.heap.size ≤ q)) (hE : EV G (fun q : Nat => s.heap.size ≤ q) s) {i : Nat} {x3 : Int32} (hi : ∀ k : Nat, k < 4 → vp_in (x3 + Int32.ofNat k) L) (hv : ∀ k : Nat, k < 4 → xs (x3 + Int32.ofNat k).toNatClampNeg = xs (i + k)) {H : Heap} {locs : List Loc} {ls : Array Slot} (hJ : JW RL D cI cJ cC a_T a_n a_k a_t a_s a_r a_c a_M H) (hS : va_S (fun q : Nat => s.heap.size ≤ q) s.heap H locs) (hl : lv_has ls 4 [(0, .ref b), (1, .ref (a_T 0)), (2, .ref (a_M 0)), (3, .int x3)])
    (hnext : ∀ (H : Heap) (locs : List Loc) (ls : Array Slot), JW RL D cI cJ cC a_T a_n a_k a_t a_s a_r a_c a_M H → va_S (fun q : Nat => s.heap.size ≤ q) s.heap H locs → lv_has ls 4 [(0, .ref b), (1, .ref (a_T 0)), (2, .ref (a_M 0)), (3, .int x3)] → W p l e room_1 s m #[Value.ref b] below meth c H locs 41 1350 Q (F0 m 1171 ls [])) : W p l e room_1 s m #[Value.ref b] below meth c H locs 41 1350 Q (F0 m 677 ls []) := by
  obtain ⟨hx, hb, hml, hown, ht⟩ := id S
  have hA : ∀ q : Nat, s.heap.size ≤ q → (fun q : Nat => s.heap.size ≤ q) q := fun _ h => h
  have hbA : ¬ (fun q : Nat => s.heap.size ≤ q) b := Nat.not_le.mpr hbl
  obtain ⟨v_T, v_n, v_k, v_t, v_s, v_r, v_c, v_M, hR, hP_T, hP_n, hP_k, hP_t, hP_s, hP_r, hP_c, hP_M⟩ := hJ
  have h := hp v_T v_n v_k v_t v_s v_r v_c v_M  hR
  refine lv_aload_n hx hb dL_law_677 rfl (lv_at hl 1 rfl) ?_
  have hPw : va_P D vwCl ((pX4 cI cJ cC a_T a_n a_k a_t a_s a_r a_c v_T) ++ (pX3 cI cJ cC a_n v_n)) _ := (hP_T.app hP_n)
  have hDw : va_D (fun q : Nat => s.heap.size ≤ q) ((pX4 cI cJ cC a_T a_n a_k a_t a_s a_r a_c v_T) ++ (pX3 cI cJ cC a_n v_n)) := hLC.2.2.2.1 _ rfl
  refine zci hA hDw hS (zrunV (As := []) (rest := []) S hK hA hE hPw hDw hS (mX4_from l D cI cJ cC G a_T a_n a_k a_t a_s a_r a_c _ v_T.1 v_T.2 v_n.1 v_n.2.1 v_n.2.2.1 v_n.2.2.2.1 v_n.2.2.2.2.1 v_n.2.2.2.2.2.1 v_n.2.2.2.2.2.2.1 v_n.2.2.2.2.2.2.2.1 v_n.2.2.2.2.2.2.2.2.1 v_n.2.2.2.2.2.2.2.2.2.1 v_n.2.2.2.2.2.2.2.2.2.2.1 v_n.2.2.2.2.2.2.2.2.2.2.2.1 v_n.2.2.2.2.2.2.2.2.2.2.2.2.1 v_n.2.2.2.2.2.2.2.2.2.2.2.2.2 _ h) kX4_from ml_L_91 ⟨rfl, rfl, by decide, by decide⟩ (q0 := 0) (ci := 4) rfl rfl rfl rfl hl.1 rfl (Nat.le_of_ble_eq_true rfl) dL_law_678 ⟨by decide, by decide⟩) (fun r_1 u H locs h hP1 hk1 hS => ?_)
  try dsimp only at h
  have hP_n : va_P D vwCl (pX3 cI cJ cC a_n v_n) H := zPr hP1
  have hP_T : va_P D vwCl (pX4 cI cJ cC a_T a_n a_k a_t a_s a_r a_c v_T) H := zPl (hP1)
  have hP_k : va_P D vwCl (pX3 cI cJ cC a_k v_k) H := zKeepB hP_k hk1 (dj_app (hLC.1 2 0 (by decide) (by decide) (by decide)) (hLC.1 2 1 (by decide) (by decide) (by decide)))
  have hP_t : va_P D vwCl (pX3 cI cJ cC a_t v_t) H := zKeepB hP_t hk1 (dj_app (hLC.1 3 0 (by decide) (by decide) (by decide)) (hLC.1 3 1 (by decide) (by decide) (by decide)))
  have hP_s : va_P D vwCl (pX2 cI cJ cC a_s v_s) H := zKeepB hP_s hk1 (dj_app (hLC.1 4 0 (by decide) (by decide) (by decide)) (hLC.1 4 1 (by decide) (by decide) (by decide)))
  have hP_r : va_P D vwCl (pX0 cI cJ cC a_r v_r) H := zKeepB hP_r hk1 (dj_app (hLC.1 5 0 (by decide) (by decide) (by decide)) (hLC.1 5 1 (by decide) (by decide) (by decide)))
  have hP_c : va_P D vwCl (pX1 cI cJ cC a_c v_c) H := zKeepB hP_c hk1 (dj_app (hLC.1 6 0 (by decide) (by decide) (by decide)) (hLC.1 6 1 (by decide) (by decide) (by decide)))
  have hP_M : va_P D vwCl (pX5 cI cJ cC a_M v_M) H := zKeepB hP_M hk1 (dj_app (hLC.1 7 0 (by decide) (by decide) (by decide)) (hLC.1 7 1 (by decide) (by decide) (by decide)))
  refine lv_aload_n hx hb dL_law_681 rfl (lv_at hl 2 rfl) ?_
  have hPw : va_P D vwCl ((pX5 cI cJ cC a_M v_M)) _ := hP_M
  have hDw : va_D (fun q : Nat => s.heap.size ≤ q) ((pX5 cI cJ cC a_M v_M)) := hLC.2.2.2.2.2.2.2.2.2.2.2 _ rfl
  refine zci hA hDw hS (zrunV (As := []) (rest := [.int r_1]) S hK hA hE hPw hDw hS (mX5_from l D cI cJ cC G a_M _ v_M.1 v_M.2.1 v_M.2.2.1 v_M.2.2.2.1 v_M.2.2.2.2.1 v_M.2.2.2.2.2.1 v_M.2.2.2.2.2.2.1 v_M.2.2.2.2.2.2.2.1 v_M.2.2.2.2.2.2.2.2.1 v_M.2.2.2.2.2.2.2.2.2.1 v_M.2.2.2.2.2.2.2.2.2.2.1 v_M.2.2.2.2.2.2.2.2.2.2.2.1 v_M.2.2.2.2.2.2.2.2.2.2.2.2.1 v_M.2.2.2.2.2.2.2.2.2.2.2.2.2.1 v_M.2.2.2.2.2.2.2.2.2.2.2.2.2.2.1 v_M.2.2.2.2.2.2.2.2.2.2.2.2.2.2.2.1 v_M.2.2.2.2.2.2.2.2.2.2.2.2.2.2.2.2.1 v_M.2.2.2.2.2.2.2.2.2.2.2.2.2.2.2.2.2.1 v_M.2.2.2.2.2.2.2.2.2.2.2.2.2.2.2.2.2.2.1 v_M.2.2.2.2.2.2.2.2.2.2.2.2.2.2.2.2.2.2.2.1 v_M.2.2.2.2.2.2.2.2.2.2.2.2.2.2.2.2.2.2.2.2.1 v_M.2.2.2.2.2.2.2.2.2.2.2.2.2.2.2.2.2.2.2.2.2.1 v_M.2.2.2.2.2.2.2.2.2.2.2.2.2.2.2.2.2.2.2.2.2.2.1 v_M.2.2.2.2.2.2.2.2.2.2.2.2.2.2.2.2.2.2.2.2.2.2.2 _ h) kX5_from ml_L_94 ⟨rfl, rfl, by decide, by decide⟩ (q0 := 0) (ci := 5) rfl rfl rfl rfl hl.1 rfl (Nat.le_of_ble_eq_true rfl) dL_law_682 ⟨by decide, by decide⟩) (fun r_2 u H locs h hP1 hk1 hS => ?_)
  try dsimp only at h
  have hP_M : va_P D vwCl (pX5 cI cJ cC a_M v_M) H := hP1
  have hP_T : va_P D vwCl (pX4 cI cJ cC a_T a_n a_k a_t a_s a_r a_c v_T) H := zKeepB hP_T hk1 (hLC.1 0 7 (by decide) (by decide) (by decide))
  have hP_n : va_P D vwCl (pX3 cI cJ cC a_n v_n) H := zKeepB hP_n hk1 (hLC.1 1 7 (by decide) (by decide) (by decide))
  have hP_k : va_P D vwCl (pX3 cI cJ cC a_k v_k) H := zKeepB hP_k hk1 (hLC.1 2 7 (by decide) (by decide) (by decide))
  have hP_t : va_P D vwCl (pX3 cI cJ cC a_t v_t) H := zKeepB hP_t hk1 (hLC.1 3 7 (by decide) (by decide) (by decide))
  have hP_s : va_P D vwCl (pX2 cI cJ cC a_s v_s) H := zKeepB hP_s hk1 (hLC.1 4 7 (by decide) (by decide) (by decide))
  have hP_r : va_P D vwCl (pX0 cI cJ cC a_r v_r) H := zKeepB hP_r hk1 (hLC.1 5 7 (by decide) (by decide) (by decide))
  have hP_c : va_P D vwCl (pX1 cI cJ cC a_c v_c) H := zKeepB hP_c hk1 (hLC.1 6 7 (by decide) (by decide) (by decide))
  refine lv_icmp_eq (tgt := 1171) hx hb dL_law_685 (by decide) (fun z => ?_) (fun z => absurd h.1 z)
  exact hnext _ _ _ ⟨v_T, v_n, v_k, v_t, v_s, v_r, v_c, v_M, h.2, hP_T, hP_n, hP_k, hP_t, hP_s, hP_r, hP_c, hP_M⟩ hS hl
def PH_next (RL : RT) : Prop := ∀ (v_T : PX4) (v_n : PX3) (v_k : PX3) (v_t : PX3) (v_s : PX2) (v_r : PX0) (v_c : PX1) (v_M : PX5) (p0 : Int32), RL v_T v_n v_k v_s v_r v_M → wpX4_next (fun (r_1 : Int32) (T_refusals_2 : Nat → Int32) (c_inch_3 : Int32) (c_gain_4 : Int64) (c_unlikes_5 : Int32) (c_unlike_6 : Nat → Int32) (c_shared_7 : Nat → Int64) => wpX5_next_ (fun (r_8 : Int32) (M_nextAt_9 : Int32) (M_nextMost_10 : Int64) (M_refused_11 : Nat → Int32) (M_then_12 : Nat → Int64) => r_1 = r_8 ∧ RL (v_T.1, T_refusals_2) v_n v_k v_s v_r (v_M.1, v_M.2.1, v_M.2.2.1, v_M.2.2.2.1, v_M.2.2.2.2.1, v_M.2.2.2.2.2.1, v_M.2.2.2.2.2.2.1, v_M.2.2.2.2.2.2.2.1, M_nextAt_9, M_nextMost_10, v_M.2.2.2.2.2.2.2.2.2.2.1, M_refused_11, v_M.2.2.2.2.2.2.2.2.2.2.2.2.1, v_M.2.2.2.2.2.2.2.2.2.2.2.2.2.1, v_M.2.2.2.2.2.2.2.2.2.2.2.2.2.2.1, v_M.2.2.2.2.2.2.2.2.2.2.2.2.2.2.2.1, v_M.2.2.2.2.2.2.2.2.2.2.2.2.2.2.2.2.1, v_M.2.2.2.2.2.2.2.2.2.2.2.2.2.2.2.2.2.1, v_M.2.2.2.2.2.2.2.2.2.2.2.2.2.2.2.2.2.2.1, v_M.2.2.2.2.2.2.2.2.2.2.2.2.2.2.2.2.2.2.2.1, v_M.2.2.2.2.2.2.2.2.2.2.2.2.2.2.2.2.2.2.2.2.1, v_M.2.2.2.2.2.2.2.2.2.2.2.2.2.2.2.2.2.2.2.2.2.1, M_then_12, v_M.2.2.2.2.2.2.2.2.2.2.2.2.2.2.2.2.2.2.2.2.2.2.2)) v_M.2.2.2.2.2.2.2.2.1 v_M.2.2.2.2.2.2.2.2.2.1 v_M.2.2.2.2.2.2.2.2.2.2.2.1 v_M.2.2.2.2.2.2.2.2.2.2.2.2.1 v_M.2.2.2.2.2.2.2.2.2.2.2.2.2.2.2.2.1 v_M.2.2.2.2.2.2.2.2.2.2.2.2.2.2.2.2.2.2.2.2.2.2.1 p0) v_T.2 v_n.2.2.2.2.2.2.2.2.2.2.2.1 v_n.2.2.2.2.2.2.2.2.2.2.2.2.1 v_n.2.2.2.2.2.2.2.2.2.2.2.2.2 v_c.1 v_c.2.1 v_c.2.2.1 v_c.2.2.2.1 v_c.2.2.2.2 p0
set_option maxHeartbeats 4000000 in
set_option maxRecDepth 100000 in
theorem lawC_next {p : Program} {l : Launch} {e : Env} {s : State} {m : MethodId} {below : List Frame} {meth : Method} {c : Code} {Q : State → Prop} {b L : Nat} {xs : Nat → Int32} {D : va_G} {cI cJ cC : ClassId} {G : Nat → Nat → Nat} {a_T a_n a_k a_t a_s a_r a_c a_M : Nat → Nat} (RL : RT) (hp : PH_next RL) (S : CallFix p m c code 4 s #[Value.ref b] bg R_law) (hX : va_X b L xs s s.heap) (hbl : b < s.heap.size) (hK : va_K D vwCl (tz cI cJ cC) s) (hLC : LC a_T a_n a_k a_t a_s a_r a_c a_M (fun q : Nat => s.heap.size ≤ q)) (hE : EV G (fun q : Nat => s.heap.size ≤ q) s) {i : Nat} {x3 : Int32} (hi : ∀ k : Nat, k < 4 → vp_in (x3 + Int32.ofNat k) L) (hv : ∀ k : Nat, k < 4 → xs (x3 + Int32.ofNat k).toNatClampNeg = xs (i + k)) {H : Heap} {locs : List Loc} {ls : Array Slot} (hJ : JW RL D cI cJ cC a_T a_n a_k a_t a_s a_r a_c a_M H) (hS : va_S (fun q : Nat => s.heap.size ≤ q) s.heap H locs) (hl : lv_has ls 4 [(0, .ref b), (1, .ref (a_T 0)), (2, .ref (a_M 0)), (3, .int x3)])
    (hnext : ∀ (H : Heap) (locs : List Loc) (ls : Array Slot), JW RL D cI cJ cC a_T a_n a_k a_t a_s a_r a_c a_M H → va_S (fun q : Nat => s.heap.size ≤ q) s.heap H locs → lv_has ls 4 [(0, .ref b), (1, .ref (a_T 0)), (2, .ref (a_M 0)), (3, .int x3)] → W p l e room_1 s m #[Value.ref b] below meth c H locs 41 1350 Q (F0 m 1171 ls [])) : W p l e room_1 s m #[Value.ref b] below meth c H locs 41 1350 Q (F0 m 690 ls []) := by
  obtain ⟨hx, hb, hml, hown, ht⟩ := id S
  have hA : ∀ q : Nat, s.heap.size ≤ q → (fun q : Nat => s.heap.size ≤ q) q := fun _ h => h
  have hbA : ¬ (fun q : Nat => s.heap.size ≤ q) b := Nat.not_le.mpr hbl
  obtain ⟨v_T, v_n, v_k, v_t, v_s, v_r, v_c, v_M, hR, hP_T, hP_n, hP_k, hP_t, hP_s, hP_r, hP_c, hP_M⟩ := hJ
  have h := hp v_T v_n v_k v_t v_s v_r v_c v_M (xs (i + 1)) hR
  refine lv_aload_n hx hb dL_law_690 rfl (lv_at hl 1 rfl) ?_
  refine lv_aload_n hx hb dL_law_691 rfl (lv_at hl 0 rfl) ?_
  refine lv_iload_n hx hb dL_law_692 rfl (lv_at hl 3 rfl) ?_
  refine lv_iconst (v := (1 : Int32)) hx hb dL_law_693 (by decide) ?_
  refine lv_iadd hx hb dL_law_694 ?_
  refine va_sld hx hb hX hbl hbA hS (hi 1 (by decide)) dL_law_695 ?_
  refine zti (hv 1 (by decide)) ?_
  have hPw : va_P D vwCl ((pX4 cI cJ cC a_T a_n a_k a_t a_s a_r a_c v_T) ++ (pX3 cI cJ cC a_n v_n) ++ (pX1 cI cJ cC a_c v_c)) _ := (va_P.app (va_P.app hP_T hP_n) hP_c)
  have hDw : va_D (fun q : Nat => s.heap.size ≤ q) ((pX4 cI cJ cC a_T a_n a_k a_t a_s a_r a_c v_T) ++ (pX3 cI cJ cC a_n v_n) ++ (pX1 cI cJ cC a_c v_c)) := hLC.2.2.2.2.2.1 _ rfl
  refine zci hA hDw hS (zrunV (As := [.int (xs (i + 1))]) (rest := []) S hK hA hE hPw hDw hS (mX4_next l D cI cJ cC G a_T a_n a_k a_t a_s a_r a_c _ v_T.1 v_T.2 v_n.1 v_n.2.1 v_n.2.2.1 v_n.2.2.2.1 v_n.2.2.2.2.1 v_n.2.2.2.2.2.1 v_n.2.2.2.2.2.2.1 v_n.2.2.2.2.2.2.2.1 v_n.2.2.2.2.2.2.2.2.1 v_n.2.2.2.2.2.2.2.2.2.1 v_n.2.2.2.2.2.2.2.2.2.2.1 v_n.2.2.2.2.2.2.2.2.2.2.2.1 v_n.2.2.2.2.2.2.2.2.2.2.2.2.1 v_n.2.2.2.2.2.2.2.2.2.2.2.2.2 v_c.1 v_c.2.1 v_c.2.2.1 v_c.2.2.2.1 v_c.2.2.2.2 (xs (i + 1)) _ h) kX4_next ml_L_95 ⟨rfl, rfl, by decide, by decide⟩ (q0 := 0) (ci := 4) rfl rfl rfl rfl hl.1 rfl (Nat.le_of_ble_eq_true rfl) dL_law_696 ⟨by decide, by decide⟩) (fun r_1 u H locs h hP1 hk1 hS => ?_)
  obtain ⟨T_refusals_2, c_inch_3, c_gain_4, c_unlikes_5, c_unlike_6, c_shared_7⟩ := u
  try dsimp only at h
  have hP_c : va_P D vwCl (bX1 cI cJ cC a_c c_inch_3 c_gain_4 c_unlikes_5 c_unlike_6 c_shared_7) H := zPr hP1
  have hP_n : va_P D vwCl (pX3 cI cJ cC a_n v_n) H := zPr (zPl (hP1))
  have hP_T : va_P D vwCl (bX4 cI cJ cC a_T a_n a_k a_t a_s a_r a_c v_T.1 T_refusals_2) H := zPl (zPl (hP1))
  have hP_k : va_P D vwCl (pX3 cI cJ cC a_k v_k) H := zKeepB hP_k hk1 (dj_app (dj_app (hLC.1 2 0 (by decide) (by decide) (by decide)) (hLC.1 2 1 (by decide) (by decide) (by decide))) (hLC.1 2 6 (by decide) (by decide) (by decide)))
  have hP_t : va_P D vwCl (pX3 cI cJ cC a_t v_t) H := zKeepB hP_t hk1 (dj_app (dj_app (hLC.1 3 0 (by decide) (by decide) (by decide)) (hLC.1 3 1 (by decide) (by decide) (by decide))) (hLC.1 3 6 (by decide) (by decide) (by decide)))
  have hP_s : va_P D vwCl (pX2 cI cJ cC a_s v_s) H := zKeepB hP_s hk1 (dj_app (dj_app (hLC.1 4 0 (by decide) (by decide) (by decide)) (hLC.1 4 1 (by decide) (by decide) (by decide))) (hLC.1 4 6 (by decide) (by decide) (by decide)))
  have hP_r : va_P D vwCl (pX0 cI cJ cC a_r v_r) H := zKeepB hP_r hk1 (dj_app (dj_app (hLC.1 5 0 (by decide) (by decide) (by decide)) (hLC.1 5 1 (by decide) (by decide) (by decide))) (hLC.1 5 6 (by decide) (by decide) (by decide)))
  have hP_M : va_P D vwCl (pX5 cI cJ cC a_M v_M) H := zKeepB hP_M hk1 (dj_app (dj_app (hLC.1 7 0 (by decide) (by decide) (by decide)) (hLC.1 7 1 (by decide) (by decide) (by decide))) (hLC.1 7 6 (by decide) (by decide) (by decide)))
  refine lv_aload_n hx hb dL_law_699 rfl (lv_at hl 2 rfl) ?_
  refine lv_aload_n hx hb dL_law_700 rfl (lv_at hl 0 rfl) ?_
  refine lv_iload_n hx hb dL_law_701 rfl (lv_at hl 3 rfl) ?_
  refine lv_iconst (v := (1 : Int32)) hx hb dL_law_702 (by decide) ?_
  refine lv_iadd hx hb dL_law_703 ?_
  refine va_sld hx hb hX hbl hbA hS (hi 1 (by decide)) dL_law_704 ?_
  refine zti (hv 1 (by decide)) ?_
  have hPw : va_P D vwCl ((pX5 cI cJ cC a_M v_M)) _ := hP_M
  have hDw : va_D (fun q : Nat => s.heap.size ≤ q) ((pX5 cI cJ cC a_M v_M)) := hLC.2.2.2.2.2.2.2.2.2.2.2 _ rfl
  refine zci hA hDw hS (zrunV (As := [.int (xs (i + 1))]) (rest := [.int r_1]) S hK hA hE hPw hDw hS (mX5_next_ l D cI cJ cC G a_M _ v_M.1 v_M.2.1 v_M.2.2.1 v_M.2.2.2.1 v_M.2.2.2.2.1 v_M.2.2.2.2.2.1 v_M.2.2.2.2.2.2.1 v_M.2.2.2.2.2.2.2.1 v_M.2.2.2.2.2.2.2.2.1 v_M.2.2.2.2.2.2.2.2.2.1 v_M.2.2.2.2.2.2.2.2.2.2.1 v_M.2.2.2.2.2.2.2.2.2.2.2.1 v_M.2.2.2.2.2.2.2.2.2.2.2.2.1 v_M.2.2.2.2.2.2.2.2.2.2.2.2.2.1 v_M.2.2.2.2.2.2.2.2.2.2.2.2.2.2.1 v_M.2.2.2.2.2.2.2.2.2.2.2.2.2.2.2.1 v_M.2.2.2.2.2.2.2.2.2.2.2.2.2.2.2.2.1 v_M.2.2.2.2.2.2.2.2.2.2.2.2.2.2.2.2.2.1 v_M.2.2.2.2.2.2.2.2.2.2.2.2.2.2.2.2.2.2.1 v_M.2.2.2.2.2.2.2.2.2.2.2.2.2.2.2.2.2.2.2.1 v_M.2.2.2.2.2.2.2.2.2.2.2.2.2.2.2.2.2.2.2.2.1 v_M.2.2.2.2.2.2.2.2.2.2.2.2.2.2.2.2.2.2.2.2.2.1 v_M.2.2.2.2.2.2.2.2.2.2.2.2.2.2.2.2.2.2.2.2.2.2.1 v_M.2.2.2.2.2.2.2.2.2.2.2.2.2.2.2.2.2.2.2.2.2.2.2 (xs (i + 1)) _ h) kX5_next_ ml_L_98 ⟨rfl, rfl, by decide, by decide⟩ (q0 := 0) (ci := 5) rfl rfl rfl rfl hl.1 rfl (Nat.le_of_ble_eq_true rfl) dL_law_705 ⟨by decide, by decide⟩) (fun r_8 u H locs h hP1 hk1 hS => ?_)
  obtain ⟨M_nextAt_9, M_nextMost_10, M_refused_11, M_then_12⟩ := u
  try dsimp only at h
  have hP_M : va_P D vwCl (bX5 cI cJ cC a_M v_M.1 v_M.2.1 v_M.2.2.1 v_M.2.2.2.1 v_M.2.2.2.2.1 v_M.2.2.2.2.2.1 v_M.2.2.2.2.2.2.1 v_M.2.2.2.2.2.2.2.1 M_nextAt_9 M_nextMost_10 v_M.2.2.2.2.2.2.2.2.2.2.1 M_refused_11 v_M.2.2.2.2.2.2.2.2.2.2.2.2.1 v_M.2.2.2.2.2.2.2.2.2.2.2.2.2.1 v_M.2.2.2.2.2.2.2.2.2.2.2.2.2.2.1 v_M.2.2.2.2.2.2.2.2.2.2.2.2.2.2.2.1 v_M.2.2.2.2.2.2.2.2.2.2.2.2.2.2.2.2.1 v_M.2.2.2.2.2.2.2.2.2.2.2.2.2.2.2.2.2.1 v_M.2.2.2.2.2.2.2.2.2.2.2.2.2.2.2.2.2.2.1 v_M.2.2.2.2.2.2.2.2.2.2.2.2.2.2.2.2.2.2.2.1 v_M.2.2.2.2.2.2.2.2.2.2.2.2.2.2.2.2.2.2.2.2.1 v_M.2.2.2.2.2.2.2.2.2.2.2.2.2.2.2.2.2.2.2.2.2.1 M_then_12 v_M.2.2.2.2.2.2.2.2.2.2.2.2.2.2.2.2.2.2.2.2.2.2.2) H := hP1
  have hP_T : va_P D vwCl (bX4 cI cJ cC a_T a_n a_k a_t a_s a_r a_c v_T.1 T_refusals_2) H := zKeepB hP_T hk1 (hLC.1 0 7 (by decide) (by decide) (by decide))
  have hP_n : va_P D vwCl (pX3 cI cJ cC a_n v_n) H := zKeepB hP_n hk1 (hLC.1 1 7 (by decide) (by decide) (by decide))
  have hP_k : va_P D vwCl (pX3 cI cJ cC a_k v_k) H := zKeepB hP_k hk1 (hLC.1 2 7 (by decide) (by decide) (by decide))
  have hP_t : va_P D vwCl (pX3 cI cJ cC a_t v_t) H := zKeepB hP_t hk1 (hLC.1 3 7 (by decide) (by decide) (by decide))
  have hP_s : va_P D vwCl (pX2 cI cJ cC a_s v_s) H := zKeepB hP_s hk1 (hLC.1 4 7 (by decide) (by decide) (by decide))
  have hP_r : va_P D vwCl (pX0 cI cJ cC a_r v_r) H := zKeepB hP_r hk1 (hLC.1 5 7 (by decide) (by decide) (by decide))
  have hP_c : va_P D vwCl (bX1 cI cJ cC a_c c_inch_3 c_gain_4 c_unlikes_5 c_unlike_6 c_shared_7) H := zKeepB hP_c hk1 (hLC.1 6 7 (by decide) (by decide) (by decide))
  refine lv_icmp_eq (tgt := 1171) hx hb dL_law_708 (by decide) (fun z => ?_) (fun z => absurd h.1 z)
  exact hnext _ _ _ ⟨(v_T.1, T_refusals_2), v_n, v_k, v_t, v_s, v_r, (c_inch_3, c_gain_4, c_unlikes_5, c_unlike_6, c_shared_7), (v_M.1, v_M.2.1, v_M.2.2.1, v_M.2.2.2.1, v_M.2.2.2.2.1, v_M.2.2.2.2.2.1, v_M.2.2.2.2.2.2.1, v_M.2.2.2.2.2.2.2.1, M_nextAt_9, M_nextMost_10, v_M.2.2.2.2.2.2.2.2.2.2.1, M_refused_11, v_M.2.2.2.2.2.2.2.2.2.2.2.2.1, v_M.2.2.2.2.2.2.2.2.2.2.2.2.2.1, v_M.2.2.2.2.2.2.2.2.2.2.2.2.2.2.1, v_M.2.2.2.2.2.2.2.2.2.2.2.2.2.2.2.1, v_M.2.2.2.2.2.2.2.2.2.2.2.2.2.2.2.2.1, v_M.2.2.2.2.2.2.2.2.2.2.2.2.2.2.2.2.2.1, v_M.2.2.2.2.2.2.2.2.2.2.2.2.2.2.2.2.2.2.1, v_M.2.2.2.2.2.2.2.2.2.2.2.2.2.2.2.2.2.2.2.1, v_M.2.2.2.2.2.2.2.2.2.2.2.2.2.2.2.2.2.2.2.2.1, v_M.2.2.2.2.2.2.2.2.2.2.2.2.2.2.2.2.2.2.2.2.2.1, M_then_12, v_M.2.2.2.2.2.2.2.2.2.2.2.2.2.2.2.2.2.2.2.2.2.2.2), h.2, hP_T, hP_n, hP_k, hP_t, hP_s, hP_r, hP_c, hP_M⟩ hS hl
def PH_worth (RL : RT) : Prop := ∀ (v_T : PX4) (v_n : PX3) (v_k : PX3) (v_t : PX3) (v_s : PX2) (v_r : PX0) (v_c : PX1) (v_M : PX5) (p0 : Int32) (p1 : Int32), RL v_T v_n v_k v_s v_r v_M → wpX4_worth (fun (r_1 : Int64) (T_refusals_2 : Nat → Int32) (c_inch_3 : Int32) (c_gain_4 : Int64) (c_unlikes_5 : Int32) (c_unlike_6 : Nat → Int32) (c_shared_7 : Nat → Int64) => wpX5_worth (fun (r_8 : Int64) (M_nextAt_9 : Int32) (M_nextMost_10 : Int64) (M_refused_11 : Nat → Int32) (M_then_12 : Nat → Int64) => r_1 = r_8 ∧ RL (v_T.1, T_refusals_2) v_n v_k v_s v_r (v_M.1, v_M.2.1, v_M.2.2.1, v_M.2.2.2.1, v_M.2.2.2.2.1, v_M.2.2.2.2.2.1, v_M.2.2.2.2.2.2.1, v_M.2.2.2.2.2.2.2.1, M_nextAt_9, M_nextMost_10, v_M.2.2.2.2.2.2.2.2.2.2.1, M_refused_11, v_M.2.2.2.2.2.2.2.2.2.2.2.2.1, v_M.2.2.2.2.2.2.2.2.2.2.2.2.2.1, v_M.2.2.2.2.2.2.2.2.2.2.2.2.2.2.1, v_M.2.2.2.2.2.2.2.2.2.2.2.2.2.2.2.1, v_M.2.2.2.2.2.2.2.2.2.2.2.2.2.2.2.2.1, v_M.2.2.2.2.2.2.2.2.2.2.2.2.2.2.2.2.2.1, v_M.2.2.2.2.2.2.2.2.2.2.2.2.2.2.2.2.2.2.1, v_M.2.2.2.2.2.2.2.2.2.2.2.2.2.2.2.2.2.2.2.1, v_M.2.2.2.2.2.2.2.2.2.2.2.2.2.2.2.2.2.2.2.2.1, v_M.2.2.2.2.2.2.2.2.2.2.2.2.2.2.2.2.2.2.2.2.2.1, M_then_12, v_M.2.2.2.2.2.2.2.2.2.2.2.2.2.2.2.2.2.2.2.2.2.2.2)) v_M.2.2.2.2.2.2.2.2.1 v_M.2.2.2.2.2.2.2.2.2.1 v_M.2.2.2.2.2.2.2.2.2.2.2.1 v_M.2.2.2.2.2.2.2.2.2.2.2.2.1 v_M.2.2.2.2.2.2.2.2.2.2.2.2.2.2.2.2.1 v_M.2.2.2.2.2.2.2.2.2.2.2.2.2.2.2.2.2.2.2.2.2.2.1 p0 p1) v_T.2 v_n.2.2.2.2.2.2.2.1 v_n.2.2.2.2.2.2.2.2.2.2.2.1 v_n.2.2.2.2.2.2.2.2.2.2.2.2.1 v_n.2.2.2.2.2.2.2.2.2.2.2.2.2 v_c.1 v_c.2.1 v_c.2.2.1 v_c.2.2.2.1 v_c.2.2.2.2 p0 p1
set_option maxHeartbeats 4000000 in
set_option maxRecDepth 100000 in
theorem lawC_worth {p : Program} {l : Launch} {e : Env} {s : State} {m : MethodId} {below : List Frame} {meth : Method} {c : Code} {Q : State → Prop} {b L : Nat} {xs : Nat → Int32} {D : va_G} {cI cJ cC : ClassId} {G : Nat → Nat → Nat} {a_T a_n a_k a_t a_s a_r a_c a_M : Nat → Nat} (RL : RT) (hp : PH_worth RL) (S : CallFix p m c code 4 s #[Value.ref b] bg R_law) (hX : va_X b L xs s s.heap) (hbl : b < s.heap.size) (hK : va_K D vwCl (tz cI cJ cC) s) (hLC : LC a_T a_n a_k a_t a_s a_r a_c a_M (fun q : Nat => s.heap.size ≤ q)) (hE : EV G (fun q : Nat => s.heap.size ≤ q) s) {i : Nat} {x3 : Int32} (hi : ∀ k : Nat, k < 4 → vp_in (x3 + Int32.ofNat k) L) (hv : ∀ k : Nat, k < 4 → xs (x3 + Int32.ofNat k).toNatClampNeg = xs (i + k)) {H : Heap} {locs : List Loc} {ls : Array Slot} (hJ : JW RL D cI cJ cC a_T a_n a_k a_t a_s a_r a_c a_M H) (hS : va_S (fun q : Nat => s.heap.size ≤ q) s.heap H locs) (hl : lv_has ls 4 [(0, .ref b), (1, .ref (a_T 0)), (2, .ref (a_M 0)), (3, .int x3)])
    (hnext : ∀ (H : Heap) (locs : List Loc) (ls : Array Slot), JW RL D cI cJ cC a_T a_n a_k a_t a_s a_r a_c a_M H → va_S (fun q : Nat => s.heap.size ≤ q) s.heap H locs → lv_has ls 4 [(0, .ref b), (1, .ref (a_T 0)), (2, .ref (a_M 0)), (3, .int x3)] → W p l e room_1 s m #[Value.ref b] below meth c H locs 41 1350 Q (F0 m 1171 ls [])) : W p l e room_1 s m #[Value.ref b] below meth c H locs 41 1350 Q (F0 m 713 ls []) := by
  obtain ⟨hx, hb, hml, hown, ht⟩ := id S
  have hA : ∀ q : Nat, s.heap.size ≤ q → (fun q : Nat => s.heap.size ≤ q) q := fun _ h => h
  have hbA : ¬ (fun q : Nat => s.heap.size ≤ q) b := Nat.not_le.mpr hbl
  obtain ⟨v_T, v_n, v_k, v_t, v_s, v_r, v_c, v_M, hR, hP_T, hP_n, hP_k, hP_t, hP_s, hP_r, hP_c, hP_M⟩ := hJ
  have h := hp v_T v_n v_k v_t v_s v_r v_c v_M (xs (i + 1)) (xs (i + 2)) hR
  refine lv_aload_n hx hb dL_law_713 rfl (lv_at hl 1 rfl) ?_
  refine lv_aload_n hx hb dL_law_714 rfl (lv_at hl 0 rfl) ?_
  refine lv_iload_n hx hb dL_law_715 rfl (lv_at hl 3 rfl) ?_
  refine lv_iconst (v := (1 : Int32)) hx hb dL_law_716 (by decide) ?_
  refine lv_iadd hx hb dL_law_717 ?_
  refine va_sld hx hb hX hbl hbA hS (hi 1 (by decide)) dL_law_718 ?_
  refine zti (hv 1 (by decide)) ?_
  refine lv_aload_n hx hb dL_law_719 rfl (lv_at hl 0 rfl) ?_
  refine lv_iload_n hx hb dL_law_720 rfl (lv_at hl 3 rfl) ?_
  refine lv_iconst (v := (2 : Int32)) hx hb dL_law_721 (by decide) ?_
  refine lv_iadd hx hb dL_law_722 ?_
  refine va_sld hx hb hX hbl hbA hS (hi 2 (by decide)) dL_law_723 ?_
  refine zti (hv 2 (by decide)) ?_
  have hPw : va_P D vwCl ((pX4 cI cJ cC a_T a_n a_k a_t a_s a_r a_c v_T) ++ (pX3 cI cJ cC a_n v_n) ++ (pX1 cI cJ cC a_c v_c)) _ := (va_P.app (va_P.app hP_T hP_n) hP_c)
  have hDw : va_D (fun q : Nat => s.heap.size ≤ q) ((pX4 cI cJ cC a_T a_n a_k a_t a_s a_r a_c v_T) ++ (pX3 cI cJ cC a_n v_n) ++ (pX1 cI cJ cC a_c v_c)) := hLC.2.2.2.2.2.1 _ rfl
  refine zcl hA hDw hS (zrunV (As := [.int (xs (i + 1)), .int (xs (i + 2))]) (rest := []) S hK hA hE hPw hDw hS (mX4_worth l D cI cJ cC G a_T a_n a_k a_t a_s a_r a_c _ v_T.1 v_T.2 v_n.1 v_n.2.1 v_n.2.2.1 v_n.2.2.2.1 v_n.2.2.2.2.1 v_n.2.2.2.2.2.1 v_n.2.2.2.2.2.2.1 v_n.2.2.2.2.2.2.2.1 v_n.2.2.2.2.2.2.2.2.1 v_n.2.2.2.2.2.2.2.2.2.1 v_n.2.2.2.2.2.2.2.2.2.2.1 v_n.2.2.2.2.2.2.2.2.2.2.2.1 v_n.2.2.2.2.2.2.2.2.2.2.2.2.1 v_n.2.2.2.2.2.2.2.2.2.2.2.2.2 v_c.1 v_c.2.1 v_c.2.2.1 v_c.2.2.2.1 v_c.2.2.2.2 (xs (i + 1)) (xs (i + 2)) _ h) kX4_worth ml_L_99 ⟨rfl, rfl, by decide, by decide⟩ (q0 := 0) (ci := 4) rfl rfl rfl rfl hl.1 rfl (Nat.le_of_ble_eq_true rfl) dL_law_724 ⟨by decide, by decide⟩) (fun r_1 u H locs h hP1 hk1 hS => ?_)
  obtain ⟨T_refusals_2, c_inch_3, c_gain_4, c_unlikes_5, c_unlike_6, c_shared_7⟩ := u
  try dsimp only at h
  have hP_c : va_P D vwCl (bX1 cI cJ cC a_c c_inch_3 c_gain_4 c_unlikes_5 c_unlike_6 c_shared_7) H := zPr hP1
  have hP_n : va_P D vwCl (pX3 cI cJ cC a_n v_n) H := zPr (zPl (hP1))
  have hP_T : va_P D vwCl (bX4 cI cJ cC a_T a_n a_k a_t a_s a_r a_c v_T.1 T_refusals_2) H := zPl (zPl (hP1))
  have hP_k : va_P D vwCl (pX3 cI cJ cC a_k v_k) H := zKeepB hP_k hk1 (dj_app (dj_app (hLC.1 2 0 (by decide) (by decide) (by decide)) (hLC.1 2 1 (by decide) (by decide) (by decide))) (hLC.1 2 6 (by decide) (by decide) (by decide)))
  have hP_t : va_P D vwCl (pX3 cI cJ cC a_t v_t) H := zKeepB hP_t hk1 (dj_app (dj_app (hLC.1 3 0 (by decide) (by decide) (by decide)) (hLC.1 3 1 (by decide) (by decide) (by decide))) (hLC.1 3 6 (by decide) (by decide) (by decide)))
  have hP_s : va_P D vwCl (pX2 cI cJ cC a_s v_s) H := zKeepB hP_s hk1 (dj_app (dj_app (hLC.1 4 0 (by decide) (by decide) (by decide)) (hLC.1 4 1 (by decide) (by decide) (by decide))) (hLC.1 4 6 (by decide) (by decide) (by decide)))
  have hP_r : va_P D vwCl (pX0 cI cJ cC a_r v_r) H := zKeepB hP_r hk1 (dj_app (dj_app (hLC.1 5 0 (by decide) (by decide) (by decide)) (hLC.1 5 1 (by decide) (by decide) (by decide))) (hLC.1 5 6 (by decide) (by decide) (by decide)))
  have hP_M : va_P D vwCl (pX5 cI cJ cC a_M v_M) H := zKeepB hP_M hk1 (dj_app (dj_app (hLC.1 7 0 (by decide) (by decide) (by decide)) (hLC.1 7 1 (by decide) (by decide) (by decide))) (hLC.1 7 6 (by decide) (by decide) (by decide)))
  refine lv_aload_n hx hb dL_law_727 rfl (lv_at hl 2 rfl) ?_
  refine lv_aload_n hx hb dL_law_728 rfl (lv_at hl 0 rfl) ?_
  refine lv_iload_n hx hb dL_law_729 rfl (lv_at hl 3 rfl) ?_
  refine lv_iconst (v := (1 : Int32)) hx hb dL_law_730 (by decide) ?_
  refine lv_iadd hx hb dL_law_731 ?_
  refine va_sld hx hb hX hbl hbA hS (hi 1 (by decide)) dL_law_732 ?_
  refine zti (hv 1 (by decide)) ?_
  refine lv_aload_n hx hb dL_law_733 rfl (lv_at hl 0 rfl) ?_
  refine lv_iload_n hx hb dL_law_734 rfl (lv_at hl 3 rfl) ?_
  refine lv_iconst (v := (2 : Int32)) hx hb dL_law_735 (by decide) ?_
  refine lv_iadd hx hb dL_law_736 ?_
  refine va_sld hx hb hX hbl hbA hS (hi 2 (by decide)) dL_law_737 ?_
  refine zti (hv 2 (by decide)) ?_
  have hPw : va_P D vwCl ((pX5 cI cJ cC a_M v_M)) _ := hP_M
  have hDw : va_D (fun q : Nat => s.heap.size ≤ q) ((pX5 cI cJ cC a_M v_M)) := hLC.2.2.2.2.2.2.2.2.2.2.2 _ rfl
  refine zcl hA hDw hS (zrunV (As := [.int (xs (i + 1)), .int (xs (i + 2))]) (rest := [.long r_1]) S hK hA hE hPw hDw hS (mX5_worth l D cI cJ cC G a_M _ v_M.1 v_M.2.1 v_M.2.2.1 v_M.2.2.2.1 v_M.2.2.2.2.1 v_M.2.2.2.2.2.1 v_M.2.2.2.2.2.2.1 v_M.2.2.2.2.2.2.2.1 v_M.2.2.2.2.2.2.2.2.1 v_M.2.2.2.2.2.2.2.2.2.1 v_M.2.2.2.2.2.2.2.2.2.2.1 v_M.2.2.2.2.2.2.2.2.2.2.2.1 v_M.2.2.2.2.2.2.2.2.2.2.2.2.1 v_M.2.2.2.2.2.2.2.2.2.2.2.2.2.1 v_M.2.2.2.2.2.2.2.2.2.2.2.2.2.2.1 v_M.2.2.2.2.2.2.2.2.2.2.2.2.2.2.2.1 v_M.2.2.2.2.2.2.2.2.2.2.2.2.2.2.2.2.1 v_M.2.2.2.2.2.2.2.2.2.2.2.2.2.2.2.2.2.1 v_M.2.2.2.2.2.2.2.2.2.2.2.2.2.2.2.2.2.2.1 v_M.2.2.2.2.2.2.2.2.2.2.2.2.2.2.2.2.2.2.2.1 v_M.2.2.2.2.2.2.2.2.2.2.2.2.2.2.2.2.2.2.2.2.1 v_M.2.2.2.2.2.2.2.2.2.2.2.2.2.2.2.2.2.2.2.2.2.1 v_M.2.2.2.2.2.2.2.2.2.2.2.2.2.2.2.2.2.2.2.2.2.2.1 v_M.2.2.2.2.2.2.2.2.2.2.2.2.2.2.2.2.2.2.2.2.2.2.2 (xs (i + 1)) (xs (i + 2)) _ h) kX5_worth ml_L_102 ⟨rfl, rfl, by decide, by decide⟩ (q0 := 0) (ci := 5) rfl rfl rfl rfl hl.1 rfl (Nat.le_of_ble_eq_true rfl) dL_law_738 ⟨by decide, by decide⟩) (fun r_8 u H locs h hP1 hk1 hS => ?_)
  obtain ⟨M_nextAt_9, M_nextMost_10, M_refused_11, M_then_12⟩ := u
  try dsimp only at h
  have hP_M : va_P D vwCl (bX5 cI cJ cC a_M v_M.1 v_M.2.1 v_M.2.2.1 v_M.2.2.2.1 v_M.2.2.2.2.1 v_M.2.2.2.2.2.1 v_M.2.2.2.2.2.2.1 v_M.2.2.2.2.2.2.2.1 M_nextAt_9 M_nextMost_10 v_M.2.2.2.2.2.2.2.2.2.2.1 M_refused_11 v_M.2.2.2.2.2.2.2.2.2.2.2.2.1 v_M.2.2.2.2.2.2.2.2.2.2.2.2.2.1 v_M.2.2.2.2.2.2.2.2.2.2.2.2.2.2.1 v_M.2.2.2.2.2.2.2.2.2.2.2.2.2.2.2.1 v_M.2.2.2.2.2.2.2.2.2.2.2.2.2.2.2.2.1 v_M.2.2.2.2.2.2.2.2.2.2.2.2.2.2.2.2.2.1 v_M.2.2.2.2.2.2.2.2.2.2.2.2.2.2.2.2.2.2.1 v_M.2.2.2.2.2.2.2.2.2.2.2.2.2.2.2.2.2.2.2.1 v_M.2.2.2.2.2.2.2.2.2.2.2.2.2.2.2.2.2.2.2.2.1 v_M.2.2.2.2.2.2.2.2.2.2.2.2.2.2.2.2.2.2.2.2.2.1 M_then_12 v_M.2.2.2.2.2.2.2.2.2.2.2.2.2.2.2.2.2.2.2.2.2.2.2) H := hP1
  have hP_T : va_P D vwCl (bX4 cI cJ cC a_T a_n a_k a_t a_s a_r a_c v_T.1 T_refusals_2) H := zKeepB hP_T hk1 (hLC.1 0 7 (by decide) (by decide) (by decide))
  have hP_n : va_P D vwCl (pX3 cI cJ cC a_n v_n) H := zKeepB hP_n hk1 (hLC.1 1 7 (by decide) (by decide) (by decide))
  have hP_k : va_P D vwCl (pX3 cI cJ cC a_k v_k) H := zKeepB hP_k hk1 (hLC.1 2 7 (by decide) (by decide) (by decide))
  have hP_t : va_P D vwCl (pX3 cI cJ cC a_t v_t) H := zKeepB hP_t hk1 (hLC.1 3 7 (by decide) (by decide) (by decide))
  have hP_s : va_P D vwCl (pX2 cI cJ cC a_s v_s) H := zKeepB hP_s hk1 (hLC.1 4 7 (by decide) (by decide) (by decide))
  have hP_r : va_P D vwCl (pX0 cI cJ cC a_r v_r) H := zKeepB hP_r hk1 (hLC.1 5 7 (by decide) (by decide) (by decide))
  have hP_c : va_P D vwCl (bX1 cI cJ cC a_c c_inch_3 c_gain_4 c_unlikes_5 c_unlike_6 c_shared_7) H := zKeepB hP_c hk1 (hLC.1 6 7 (by decide) (by decide) (by decide))
  refine W.lcmp hx hb dL_law_741 ?_
  refine lv_if_eq (tgt := 1171) hx hb dL_law_742 (by decide) (fun z => ?_) (fun z => absurd (zl_eq.mpr h.1) z)
  exact hnext _ _ _ ⟨(v_T.1, T_refusals_2), v_n, v_k, v_t, v_s, v_r, (c_inch_3, c_gain_4, c_unlikes_5, c_unlike_6, c_shared_7), (v_M.1, v_M.2.1, v_M.2.2.1, v_M.2.2.2.1, v_M.2.2.2.2.1, v_M.2.2.2.2.2.1, v_M.2.2.2.2.2.2.1, v_M.2.2.2.2.2.2.2.1, M_nextAt_9, M_nextMost_10, v_M.2.2.2.2.2.2.2.2.2.2.1, M_refused_11, v_M.2.2.2.2.2.2.2.2.2.2.2.2.1, v_M.2.2.2.2.2.2.2.2.2.2.2.2.2.1, v_M.2.2.2.2.2.2.2.2.2.2.2.2.2.2.1, v_M.2.2.2.2.2.2.2.2.2.2.2.2.2.2.2.1, v_M.2.2.2.2.2.2.2.2.2.2.2.2.2.2.2.2.1, v_M.2.2.2.2.2.2.2.2.2.2.2.2.2.2.2.2.2.1, v_M.2.2.2.2.2.2.2.2.2.2.2.2.2.2.2.2.2.2.1, v_M.2.2.2.2.2.2.2.2.2.2.2.2.2.2.2.2.2.2.2.1, v_M.2.2.2.2.2.2.2.2.2.2.2.2.2.2.2.2.2.2.2.2.1, v_M.2.2.2.2.2.2.2.2.2.2.2.2.2.2.2.2.2.2.2.2.2.1, M_then_12, v_M.2.2.2.2.2.2.2.2.2.2.2.2.2.2.2.2.2.2.2.2.2.2.2), h.2, hP_T, hP_n, hP_k, hP_t, hP_s, hP_r, hP_c, hP_M⟩ hS hl
def PH_kind (RL : RT) : Prop := ∀ (v_T : PX4) (v_n : PX3) (v_k : PX3) (v_t : PX3) (v_s : PX2) (v_r : PX0) (v_c : PX1) (v_M : PX5), RL v_T v_n v_k v_s v_r v_M → wpX4_kind (fun (r_1 : Int32) (c_inch_2 : Int32) (c_gain_3 : Int64) (c_unlikes_4 : Int32) (c_unlike_5 : Nat → Int32) (c_shared_6 : Nat → Int64) => wpX5_kind (fun (r_7 : Int32) (M_nextAt_8 : Int32) (M_nextMost_9 : Int64) (M_then_10 : Nat → Int64) => r_1 = r_7 ∧ RL v_T v_n v_k v_s v_r (v_M.1, v_M.2.1, v_M.2.2.1, v_M.2.2.2.1, v_M.2.2.2.2.1, v_M.2.2.2.2.2.1, v_M.2.2.2.2.2.2.1, v_M.2.2.2.2.2.2.2.1, M_nextAt_8, M_nextMost_9, v_M.2.2.2.2.2.2.2.2.2.2.1, v_M.2.2.2.2.2.2.2.2.2.2.2.1, v_M.2.2.2.2.2.2.2.2.2.2.2.2.1, v_M.2.2.2.2.2.2.2.2.2.2.2.2.2.1, v_M.2.2.2.2.2.2.2.2.2.2.2.2.2.2.1, v_M.2.2.2.2.2.2.2.2.2.2.2.2.2.2.2.1, v_M.2.2.2.2.2.2.2.2.2.2.2.2.2.2.2.2.1, v_M.2.2.2.2.2.2.2.2.2.2.2.2.2.2.2.2.2.1, v_M.2.2.2.2.2.2.2.2.2.2.2.2.2.2.2.2.2.2.1, v_M.2.2.2.2.2.2.2.2.2.2.2.2.2.2.2.2.2.2.2.1, v_M.2.2.2.2.2.2.2.2.2.2.2.2.2.2.2.2.2.2.2.2.1, v_M.2.2.2.2.2.2.2.2.2.2.2.2.2.2.2.2.2.2.2.2.2.1, M_then_10, v_M.2.2.2.2.2.2.2.2.2.2.2.2.2.2.2.2.2.2.2.2.2.2.2)) v_M.2.2.2.2.2.2.2.2.2.2.2.2.1 v_M.2.2.2.2.2.2.2.2.2.2.2.2.2.2.2.2.1 v_M.2.2.2.2.2.2.2.2.2.2.2.2.2.2.2.2.2.2.2.2.2.2.1) v_n.2.2.2.2.2.2.2.2.2.2.2.1 v_n.2.2.2.2.2.2.2.2.2.2.2.2.1 v_n.2.2.2.2.2.2.2.2.2.2.2.2.2 v_c.1 v_c.2.1 v_c.2.2.1 v_c.2.2.2.1 v_c.2.2.2.2
set_option maxHeartbeats 4000000 in
set_option maxRecDepth 100000 in
theorem lawC_kind {p : Program} {l : Launch} {e : Env} {s : State} {m : MethodId} {below : List Frame} {meth : Method} {c : Code} {Q : State → Prop} {b L : Nat} {xs : Nat → Int32} {D : va_G} {cI cJ cC : ClassId} {G : Nat → Nat → Nat} {a_T a_n a_k a_t a_s a_r a_c a_M : Nat → Nat} (RL : RT) (hp : PH_kind RL) (S : CallFix p m c code 4 s #[Value.ref b] bg R_law) (hX : va_X b L xs s s.heap) (hbl : b < s.heap.size) (hK : va_K D vwCl (tz cI cJ cC) s) (hLC : LC a_T a_n a_k a_t a_s a_r a_c a_M (fun q : Nat => s.heap.size ≤ q)) (hE : EV G (fun q : Nat => s.heap.size ≤ q) s) {i : Nat} {x3 : Int32} (hi : ∀ k : Nat, k < 4 → vp_in (x3 + Int32.ofNat k) L) (hv : ∀ k : Nat, k < 4 → xs (x3 + Int32.ofNat k).toNatClampNeg = xs (i + k)) {H : Heap} {locs : List Loc} {ls : Array Slot} (hJ : JW RL D cI cJ cC a_T a_n a_k a_t a_s a_r a_c a_M H) (hS : va_S (fun q : Nat => s.heap.size ≤ q) s.heap H locs) (hl : lv_has ls 4 [(0, .ref b), (1, .ref (a_T 0)), (2, .ref (a_M 0)), (3, .int x3)])
    (hnext : ∀ (H : Heap) (locs : List Loc) (ls : Array Slot), JW RL D cI cJ cC a_T a_n a_k a_t a_s a_r a_c a_M H → va_S (fun q : Nat => s.heap.size ≤ q) s.heap H locs → lv_has ls 4 [(0, .ref b), (1, .ref (a_T 0)), (2, .ref (a_M 0)), (3, .int x3)] → W p l e room_1 s m #[Value.ref b] below meth c H locs 41 1350 Q (F0 m 1171 ls [])) : W p l e room_1 s m #[Value.ref b] below meth c H locs 41 1350 Q (F0 m 747 ls []) := by
  obtain ⟨hx, hb, hml, hown, ht⟩ := id S
  have hA : ∀ q : Nat, s.heap.size ≤ q → (fun q : Nat => s.heap.size ≤ q) q := fun _ h => h
  have hbA : ¬ (fun q : Nat => s.heap.size ≤ q) b := Nat.not_le.mpr hbl
  obtain ⟨v_T, v_n, v_k, v_t, v_s, v_r, v_c, v_M, hR, hP_T, hP_n, hP_k, hP_t, hP_s, hP_r, hP_c, hP_M⟩ := hJ
  have h := hp v_T v_n v_k v_t v_s v_r v_c v_M  hR
  refine lv_aload_n hx hb dL_law_747 rfl (lv_at hl 1 rfl) ?_
  have hPw : va_P D vwCl ((pX4 cI cJ cC a_T a_n a_k a_t a_s a_r a_c v_T) ++ (pX3 cI cJ cC a_n v_n) ++ (pX1 cI cJ cC a_c v_c)) _ := (va_P.app (va_P.app hP_T hP_n) hP_c)
  have hDw : va_D (fun q : Nat => s.heap.size ≤ q) ((pX4 cI cJ cC a_T a_n a_k a_t a_s a_r a_c v_T) ++ (pX3 cI cJ cC a_n v_n) ++ (pX1 cI cJ cC a_c v_c)) := hLC.2.2.2.2.2.1 _ rfl
  refine zci hA hDw hS (zrunV (As := []) (rest := []) S hK hA hE hPw hDw hS (mX4_kind l D cI cJ cC G a_T a_n a_k a_t a_s a_r a_c _ v_T.1 v_T.2 v_n.1 v_n.2.1 v_n.2.2.1 v_n.2.2.2.1 v_n.2.2.2.2.1 v_n.2.2.2.2.2.1 v_n.2.2.2.2.2.2.1 v_n.2.2.2.2.2.2.2.1 v_n.2.2.2.2.2.2.2.2.1 v_n.2.2.2.2.2.2.2.2.2.1 v_n.2.2.2.2.2.2.2.2.2.2.1 v_n.2.2.2.2.2.2.2.2.2.2.2.1 v_n.2.2.2.2.2.2.2.2.2.2.2.2.1 v_n.2.2.2.2.2.2.2.2.2.2.2.2.2 v_c.1 v_c.2.1 v_c.2.2.1 v_c.2.2.2.1 v_c.2.2.2.2 _ h) kX4_kind ml_L_103 ⟨rfl, rfl, by decide, by decide⟩ (q0 := 0) (ci := 4) rfl rfl rfl rfl hl.1 rfl (Nat.le_of_ble_eq_true rfl) dL_law_748 ⟨by decide, by decide⟩) (fun r_1 u H locs h hP1 hk1 hS => ?_)
  obtain ⟨c_inch_2, c_gain_3, c_unlikes_4, c_unlike_5, c_shared_6⟩ := u
  try dsimp only at h
  have hP_c : va_P D vwCl (bX1 cI cJ cC a_c c_inch_2 c_gain_3 c_unlikes_4 c_unlike_5 c_shared_6) H := zPr hP1
  have hP_n : va_P D vwCl (pX3 cI cJ cC a_n v_n) H := zPr (zPl (hP1))
  have hP_T : va_P D vwCl (pX4 cI cJ cC a_T a_n a_k a_t a_s a_r a_c v_T) H := zPl (zPl (hP1))
  have hP_k : va_P D vwCl (pX3 cI cJ cC a_k v_k) H := zKeepB hP_k hk1 (dj_app (dj_app (hLC.1 2 0 (by decide) (by decide) (by decide)) (hLC.1 2 1 (by decide) (by decide) (by decide))) (hLC.1 2 6 (by decide) (by decide) (by decide)))
  have hP_t : va_P D vwCl (pX3 cI cJ cC a_t v_t) H := zKeepB hP_t hk1 (dj_app (dj_app (hLC.1 3 0 (by decide) (by decide) (by decide)) (hLC.1 3 1 (by decide) (by decide) (by decide))) (hLC.1 3 6 (by decide) (by decide) (by decide)))
  have hP_s : va_P D vwCl (pX2 cI cJ cC a_s v_s) H := zKeepB hP_s hk1 (dj_app (dj_app (hLC.1 4 0 (by decide) (by decide) (by decide)) (hLC.1 4 1 (by decide) (by decide) (by decide))) (hLC.1 4 6 (by decide) (by decide) (by decide)))
  have hP_r : va_P D vwCl (pX0 cI cJ cC a_r v_r) H := zKeepB hP_r hk1 (dj_app (dj_app (hLC.1 5 0 (by decide) (by decide) (by decide)) (hLC.1 5 1 (by decide) (by decide) (by decide))) (hLC.1 5 6 (by decide) (by decide) (by decide)))
  have hP_M : va_P D vwCl (pX5 cI cJ cC a_M v_M) H := zKeepB hP_M hk1 (dj_app (dj_app (hLC.1 7 0 (by decide) (by decide) (by decide)) (hLC.1 7 1 (by decide) (by decide) (by decide))) (hLC.1 7 6 (by decide) (by decide) (by decide)))
  refine lv_aload_n hx hb dL_law_751 rfl (lv_at hl 2 rfl) ?_
  have hPw : va_P D vwCl ((pX5 cI cJ cC a_M v_M)) _ := hP_M
  have hDw : va_D (fun q : Nat => s.heap.size ≤ q) ((pX5 cI cJ cC a_M v_M)) := hLC.2.2.2.2.2.2.2.2.2.2.2 _ rfl
  refine zci hA hDw hS (zrunV (As := []) (rest := [.int r_1]) S hK hA hE hPw hDw hS (mX5_kind l D cI cJ cC G a_M _ v_M.1 v_M.2.1 v_M.2.2.1 v_M.2.2.2.1 v_M.2.2.2.2.1 v_M.2.2.2.2.2.1 v_M.2.2.2.2.2.2.1 v_M.2.2.2.2.2.2.2.1 v_M.2.2.2.2.2.2.2.2.1 v_M.2.2.2.2.2.2.2.2.2.1 v_M.2.2.2.2.2.2.2.2.2.2.1 v_M.2.2.2.2.2.2.2.2.2.2.2.1 v_M.2.2.2.2.2.2.2.2.2.2.2.2.1 v_M.2.2.2.2.2.2.2.2.2.2.2.2.2.1 v_M.2.2.2.2.2.2.2.2.2.2.2.2.2.2.1 v_M.2.2.2.2.2.2.2.2.2.2.2.2.2.2.2.1 v_M.2.2.2.2.2.2.2.2.2.2.2.2.2.2.2.2.1 v_M.2.2.2.2.2.2.2.2.2.2.2.2.2.2.2.2.2.1 v_M.2.2.2.2.2.2.2.2.2.2.2.2.2.2.2.2.2.2.1 v_M.2.2.2.2.2.2.2.2.2.2.2.2.2.2.2.2.2.2.2.1 v_M.2.2.2.2.2.2.2.2.2.2.2.2.2.2.2.2.2.2.2.2.1 v_M.2.2.2.2.2.2.2.2.2.2.2.2.2.2.2.2.2.2.2.2.2.1 v_M.2.2.2.2.2.2.2.2.2.2.2.2.2.2.2.2.2.2.2.2.2.2.1 v_M.2.2.2.2.2.2.2.2.2.2.2.2.2.2.2.2.2.2.2.2.2.2.2 _ h) kX5_kind ml_L_106 ⟨rfl, rfl, by decide, by decide⟩ (q0 := 0) (ci := 5) rfl rfl rfl rfl hl.1 rfl (Nat.le_of_ble_eq_true rfl) dL_law_752 ⟨by decide, by decide⟩) (fun r_7 u H locs h hP1 hk1 hS => ?_)
  obtain ⟨M_nextAt_8, M_nextMost_9, M_then_10⟩ := u
  try dsimp only at h
  have hP_M : va_P D vwCl (bX5 cI cJ cC a_M v_M.1 v_M.2.1 v_M.2.2.1 v_M.2.2.2.1 v_M.2.2.2.2.1 v_M.2.2.2.2.2.1 v_M.2.2.2.2.2.2.1 v_M.2.2.2.2.2.2.2.1 M_nextAt_8 M_nextMost_9 v_M.2.2.2.2.2.2.2.2.2.2.1 v_M.2.2.2.2.2.2.2.2.2.2.2.1 v_M.2.2.2.2.2.2.2.2.2.2.2.2.1 v_M.2.2.2.2.2.2.2.2.2.2.2.2.2.1 v_M.2.2.2.2.2.2.2.2.2.2.2.2.2.2.1 v_M.2.2.2.2.2.2.2.2.2.2.2.2.2.2.2.1 v_M.2.2.2.2.2.2.2.2.2.2.2.2.2.2.2.2.1 v_M.2.2.2.2.2.2.2.2.2.2.2.2.2.2.2.2.2.1 v_M.2.2.2.2.2.2.2.2.2.2.2.2.2.2.2.2.2.2.1 v_M.2.2.2.2.2.2.2.2.2.2.2.2.2.2.2.2.2.2.2.1 v_M.2.2.2.2.2.2.2.2.2.2.2.2.2.2.2.2.2.2.2.2.1 v_M.2.2.2.2.2.2.2.2.2.2.2.2.2.2.2.2.2.2.2.2.2.1 M_then_10 v_M.2.2.2.2.2.2.2.2.2.2.2.2.2.2.2.2.2.2.2.2.2.2.2) H := hP1
  have hP_T : va_P D vwCl (pX4 cI cJ cC a_T a_n a_k a_t a_s a_r a_c v_T) H := zKeepB hP_T hk1 (hLC.1 0 7 (by decide) (by decide) (by decide))
  have hP_n : va_P D vwCl (pX3 cI cJ cC a_n v_n) H := zKeepB hP_n hk1 (hLC.1 1 7 (by decide) (by decide) (by decide))
  have hP_k : va_P D vwCl (pX3 cI cJ cC a_k v_k) H := zKeepB hP_k hk1 (hLC.1 2 7 (by decide) (by decide) (by decide))
  have hP_t : va_P D vwCl (pX3 cI cJ cC a_t v_t) H := zKeepB hP_t hk1 (hLC.1 3 7 (by decide) (by decide) (by decide))
  have hP_s : va_P D vwCl (pX2 cI cJ cC a_s v_s) H := zKeepB hP_s hk1 (hLC.1 4 7 (by decide) (by decide) (by decide))
  have hP_r : va_P D vwCl (pX0 cI cJ cC a_r v_r) H := zKeepB hP_r hk1 (hLC.1 5 7 (by decide) (by decide) (by decide))
  have hP_c : va_P D vwCl (bX1 cI cJ cC a_c c_inch_2 c_gain_3 c_unlikes_4 c_unlike_5 c_shared_6) H := zKeepB hP_c hk1 (hLC.1 6 7 (by decide) (by decide) (by decide))
  refine lv_icmp_eq (tgt := 1171) hx hb dL_law_755 (by decide) (fun z => ?_) (fun z => absurd h.1 z)
  exact hnext _ _ _ ⟨v_T, v_n, v_k, v_t, v_s, v_r, (c_inch_2, c_gain_3, c_unlikes_4, c_unlike_5, c_shared_6), (v_M.1, v_M.2.1, v_M.2.2.1, v_M.2.2.2.1, v_M.2.2.2.2.1, v_M.2.2.2.2.2.1, v_M.2.2.2.2.2.2.1, v_M.2.2.2.2.2.2.2.1, M_nextAt_8, M_nextMost_9, v_M.2.2.2.2.2.2.2.2.2.2.1, v_M.2.2.2.2.2.2.2.2.2.2.2.1, v_M.2.2.2.2.2.2.2.2.2.2.2.2.1, v_M.2.2.2.2.2.2.2.2.2.2.2.2.2.1, v_M.2.2.2.2.2.2.2.2.2.2.2.2.2.2.1, v_M.2.2.2.2.2.2.2.2.2.2.2.2.2.2.2.1, v_M.2.2.2.2.2.2.2.2.2.2.2.2.2.2.2.2.1, v_M.2.2.2.2.2.2.2.2.2.2.2.2.2.2.2.2.2.1, v_M.2.2.2.2.2.2.2.2.2.2.2.2.2.2.2.2.2.2.1, v_M.2.2.2.2.2.2.2.2.2.2.2.2.2.2.2.2.2.2.2.1, v_M.2.2.2.2.2.2.2.2.2.2.2.2.2.2.2.2.2.2.2.2.1, v_M.2.2.2.2.2.2.2.2.2.2.2.2.2.2.2.2.2.2.2.2.2.1, M_then_10, v_M.2.2.2.2.2.2.2.2.2.2.2.2.2.2.2.2.2.2.2.2.2.2.2), h.2, hP_T, hP_n, hP_k, hP_t, hP_s, hP_r, hP_c, hP_M⟩ hS hl
def PH_covers (RL : RT) : Prop := ∀ (v_T : PX4) (v_n : PX3) (v_k : PX3) (v_t : PX3) (v_s : PX2) (v_r : PX0) (v_c : PX1) (v_M : PX5) (p0 : Int32) (p1 : Int32), RL v_T v_n v_k v_s v_r v_M → wpX4_covers (fun (r_1 : Int32) (T_refusals_2 : Nat → Int32) => wpX5_covers (fun (r_3 : Int32) (M_refused_4 : Nat → Int32) => r_1 = r_3 ∧ RL (v_T.1, T_refusals_2) v_n v_k v_s v_r (v_M.1, v_M.2.1, v_M.2.2.1, v_M.2.2.2.1, v_M.2.2.2.2.1, v_M.2.2.2.2.2.1, v_M.2.2.2.2.2.2.1, v_M.2.2.2.2.2.2.2.1, v_M.2.2.2.2.2.2.2.2.1, v_M.2.2.2.2.2.2.2.2.2.1, v_M.2.2.2.2.2.2.2.2.2.2.1, M_refused_4, v_M.2.2.2.2.2.2.2.2.2.2.2.2.1, v_M.2.2.2.2.2.2.2.2.2.2.2.2.2.1, v_M.2.2.2.2.2.2.2.2.2.2.2.2.2.2.1, v_M.2.2.2.2.2.2.2.2.2.2.2.2.2.2.2.1, v_M.2.2.2.2.2.2.2.2.2.2.2.2.2.2.2.2.1, v_M.2.2.2.2.2.2.2.2.2.2.2.2.2.2.2.2.2.1, v_M.2.2.2.2.2.2.2.2.2.2.2.2.2.2.2.2.2.2.1, v_M.2.2.2.2.2.2.2.2.2.2.2.2.2.2.2.2.2.2.2.1, v_M.2.2.2.2.2.2.2.2.2.2.2.2.2.2.2.2.2.2.2.2.1, v_M.2.2.2.2.2.2.2.2.2.2.2.2.2.2.2.2.2.2.2.2.2.1, v_M.2.2.2.2.2.2.2.2.2.2.2.2.2.2.2.2.2.2.2.2.2.2.1, v_M.2.2.2.2.2.2.2.2.2.2.2.2.2.2.2.2.2.2.2.2.2.2.2)) v_M.2.2.2.2.2.2.2.2.2.2.2.1 v_M.2.2.2.2.2.2.2.2.2.2.2.2.2.1 p0 p1) v_T.2 v_n.2.2.2.2.2.2.1 p0 p1
set_option maxHeartbeats 4000000 in
set_option maxRecDepth 100000 in
theorem lawC_covers {p : Program} {l : Launch} {e : Env} {s : State} {m : MethodId} {below : List Frame} {meth : Method} {c : Code} {Q : State → Prop} {b L : Nat} {xs : Nat → Int32} {D : va_G} {cI cJ cC : ClassId} {G : Nat → Nat → Nat} {a_T a_n a_k a_t a_s a_r a_c a_M : Nat → Nat} (RL : RT) (hp : PH_covers RL) (S : CallFix p m c code 4 s #[Value.ref b] bg R_law) (hX : va_X b L xs s s.heap) (hbl : b < s.heap.size) (hK : va_K D vwCl (tz cI cJ cC) s) (hLC : LC a_T a_n a_k a_t a_s a_r a_c a_M (fun q : Nat => s.heap.size ≤ q)) (hE : EV G (fun q : Nat => s.heap.size ≤ q) s) {i : Nat} {x3 : Int32} (hi : ∀ k : Nat, k < 4 → vp_in (x3 + Int32.ofNat k) L) (hv : ∀ k : Nat, k < 4 → xs (x3 + Int32.ofNat k).toNatClampNeg = xs (i + k)) {H : Heap} {locs : List Loc} {ls : Array Slot} (hJ : JW RL D cI cJ cC a_T a_n a_k a_t a_s a_r a_c a_M H) (hS : va_S (fun q : Nat => s.heap.size ≤ q) s.heap H locs) (hl : lv_has ls 4 [(0, .ref b), (1, .ref (a_T 0)), (2, .ref (a_M 0)), (3, .int x3)])
    (hnext : ∀ (H : Heap) (locs : List Loc) (ls : Array Slot), JW RL D cI cJ cC a_T a_n a_k a_t a_s a_r a_c a_M H → va_S (fun q : Nat => s.heap.size ≤ q) s.heap H locs → lv_has ls 4 [(0, .ref b), (1, .ref (a_T 0)), (2, .ref (a_M 0)), (3, .int x3)] → W p l e room_1 s m #[Value.ref b] below meth c H locs 41 1350 Q (F0 m 1171 ls [])) : W p l e room_1 s m #[Value.ref b] below meth c H locs 41 1350 Q (F0 m 760 ls []) := by
  obtain ⟨hx, hb, hml, hown, ht⟩ := id S
  have hA : ∀ q : Nat, s.heap.size ≤ q → (fun q : Nat => s.heap.size ≤ q) q := fun _ h => h
  have hbA : ¬ (fun q : Nat => s.heap.size ≤ q) b := Nat.not_le.mpr hbl
  obtain ⟨v_T, v_n, v_k, v_t, v_s, v_r, v_c, v_M, hR, hP_T, hP_n, hP_k, hP_t, hP_s, hP_r, hP_c, hP_M⟩ := hJ
  have h := hp v_T v_n v_k v_t v_s v_r v_c v_M (xs (i + 1)) (xs (i + 2)) hR
  refine lv_aload_n hx hb dL_law_760 rfl (lv_at hl 1 rfl) ?_
  refine lv_aload_n hx hb dL_law_761 rfl (lv_at hl 0 rfl) ?_
  refine lv_iload_n hx hb dL_law_762 rfl (lv_at hl 3 rfl) ?_
  refine lv_iconst (v := (1 : Int32)) hx hb dL_law_763 (by decide) ?_
  refine lv_iadd hx hb dL_law_764 ?_
  refine va_sld hx hb hX hbl hbA hS (hi 1 (by decide)) dL_law_765 ?_
  refine zti (hv 1 (by decide)) ?_
  refine lv_aload_n hx hb dL_law_766 rfl (lv_at hl 0 rfl) ?_
  refine lv_iload_n hx hb dL_law_767 rfl (lv_at hl 3 rfl) ?_
  refine lv_iconst (v := (2 : Int32)) hx hb dL_law_768 (by decide) ?_
  refine lv_iadd hx hb dL_law_769 ?_
  refine va_sld hx hb hX hbl hbA hS (hi 2 (by decide)) dL_law_770 ?_
  refine zti (hv 2 (by decide)) ?_
  have hPw : va_P D vwCl ((pX4 cI cJ cC a_T a_n a_k a_t a_s a_r a_c v_T) ++ (pX3 cI cJ cC a_n v_n)) _ := (hP_T.app hP_n)
  have hDw : va_D (fun q : Nat => s.heap.size ≤ q) ((pX4 cI cJ cC a_T a_n a_k a_t a_s a_r a_c v_T) ++ (pX3 cI cJ cC a_n v_n)) := hLC.2.2.2.1 _ rfl
  refine zci hA hDw hS (zrunV (As := [.int (xs (i + 1)), .int (xs (i + 2))]) (rest := []) S hK hA hE hPw hDw hS (mX4_covers l D cI cJ cC G a_T a_n a_k a_t a_s a_r a_c _ v_T.1 v_T.2 v_n.1 v_n.2.1 v_n.2.2.1 v_n.2.2.2.1 v_n.2.2.2.2.1 v_n.2.2.2.2.2.1 v_n.2.2.2.2.2.2.1 v_n.2.2.2.2.2.2.2.1 v_n.2.2.2.2.2.2.2.2.1 v_n.2.2.2.2.2.2.2.2.2.1 v_n.2.2.2.2.2.2.2.2.2.2.1 v_n.2.2.2.2.2.2.2.2.2.2.2.1 v_n.2.2.2.2.2.2.2.2.2.2.2.2.1 v_n.2.2.2.2.2.2.2.2.2.2.2.2.2 (xs (i + 1)) (xs (i + 2)) _ h) kX4_covers ml_L_107 ⟨rfl, rfl, by decide, by decide⟩ (q0 := 0) (ci := 4) rfl rfl rfl rfl hl.1 rfl (Nat.le_of_ble_eq_true rfl) dL_law_771 ⟨by decide, by decide⟩) (fun r_1 T_refusals_2 H locs h hP1 hk1 hS => ?_)
  try dsimp only at h
  have hP_n : va_P D vwCl (pX3 cI cJ cC a_n v_n) H := zPr hP1
  have hP_T : va_P D vwCl (bX4 cI cJ cC a_T a_n a_k a_t a_s a_r a_c v_T.1 T_refusals_2) H := zPl (hP1)
  have hP_k : va_P D vwCl (pX3 cI cJ cC a_k v_k) H := zKeepB hP_k hk1 (dj_app (hLC.1 2 0 (by decide) (by decide) (by decide)) (hLC.1 2 1 (by decide) (by decide) (by decide)))
  have hP_t : va_P D vwCl (pX3 cI cJ cC a_t v_t) H := zKeepB hP_t hk1 (dj_app (hLC.1 3 0 (by decide) (by decide) (by decide)) (hLC.1 3 1 (by decide) (by decide) (by decide)))
  have hP_s : va_P D vwCl (pX2 cI cJ cC a_s v_s) H := zKeepB hP_s hk1 (dj_app (hLC.1 4 0 (by decide) (by decide) (by decide)) (hLC.1 4 1 (by decide) (by decide) (by decide)))
  have hP_r : va_P D vwCl (pX0 cI cJ cC a_r v_r) H := zKeepB hP_r hk1 (dj_app (hLC.1 5 0 (by decide) (by decide) (by decide)) (hLC.1 5 1 (by decide) (by decide) (by decide)))
  have hP_c : va_P D vwCl (pX1 cI cJ cC a_c v_c) H := zKeepB hP_c hk1 (dj_app (hLC.1 6 0 (by decide) (by decide) (by decide)) (hLC.1 6 1 (by decide) (by decide) (by decide)))
  have hP_M : va_P D vwCl (pX5 cI cJ cC a_M v_M) H := zKeepB hP_M hk1 (dj_app (hLC.1 7 0 (by decide) (by decide) (by decide)) (hLC.1 7 1 (by decide) (by decide) (by decide)))
  refine lv_aload_n hx hb dL_law_774 rfl (lv_at hl 2 rfl) ?_
  refine lv_aload_n hx hb dL_law_775 rfl (lv_at hl 0 rfl) ?_
  refine lv_iload_n hx hb dL_law_776 rfl (lv_at hl 3 rfl) ?_
  refine lv_iconst (v := (1 : Int32)) hx hb dL_law_777 (by decide) ?_
  refine lv_iadd hx hb dL_law_778 ?_
  refine va_sld hx hb hX hbl hbA hS (hi 1 (by decide)) dL_law_779 ?_
  refine zti (hv 1 (by decide)) ?_
  refine lv_aload_n hx hb dL_law_780 rfl (lv_at hl 0 rfl) ?_
  refine lv_iload_n hx hb dL_law_781 rfl (lv_at hl 3 rfl) ?_
  refine lv_iconst (v := (2 : Int32)) hx hb dL_law_782 (by decide) ?_
  refine lv_iadd hx hb dL_law_783 ?_
  refine va_sld hx hb hX hbl hbA hS (hi 2 (by decide)) dL_law_784 ?_
  refine zti (hv 2 (by decide)) ?_
  have hPw : va_P D vwCl ((pX5 cI cJ cC a_M v_M)) _ := hP_M
  have hDw : va_D (fun q : Nat => s.heap.size ≤ q) ((pX5 cI cJ cC a_M v_M)) := hLC.2.2.2.2.2.2.2.2.2.2.2 _ rfl
  refine zci hA hDw hS (zrunV (As := [.int (xs (i + 1)), .int (xs (i + 2))]) (rest := [.int r_1]) S hK hA hE hPw hDw hS (mX5_covers l D cI cJ cC G a_M _ v_M.1 v_M.2.1 v_M.2.2.1 v_M.2.2.2.1 v_M.2.2.2.2.1 v_M.2.2.2.2.2.1 v_M.2.2.2.2.2.2.1 v_M.2.2.2.2.2.2.2.1 v_M.2.2.2.2.2.2.2.2.1 v_M.2.2.2.2.2.2.2.2.2.1 v_M.2.2.2.2.2.2.2.2.2.2.1 v_M.2.2.2.2.2.2.2.2.2.2.2.1 v_M.2.2.2.2.2.2.2.2.2.2.2.2.1 v_M.2.2.2.2.2.2.2.2.2.2.2.2.2.1 v_M.2.2.2.2.2.2.2.2.2.2.2.2.2.2.1 v_M.2.2.2.2.2.2.2.2.2.2.2.2.2.2.2.1 v_M.2.2.2.2.2.2.2.2.2.2.2.2.2.2.2.2.1 v_M.2.2.2.2.2.2.2.2.2.2.2.2.2.2.2.2.2.1 v_M.2.2.2.2.2.2.2.2.2.2.2.2.2.2.2.2.2.2.1 v_M.2.2.2.2.2.2.2.2.2.2.2.2.2.2.2.2.2.2.2.1 v_M.2.2.2.2.2.2.2.2.2.2.2.2.2.2.2.2.2.2.2.2.1 v_M.2.2.2.2.2.2.2.2.2.2.2.2.2.2.2.2.2.2.2.2.2.1 v_M.2.2.2.2.2.2.2.2.2.2.2.2.2.2.2.2.2.2.2.2.2.2.1 v_M.2.2.2.2.2.2.2.2.2.2.2.2.2.2.2.2.2.2.2.2.2.2.2 (xs (i + 1)) (xs (i + 2)) _ h) kX5_covers ml_L_110 ⟨rfl, rfl, by decide, by decide⟩ (q0 := 0) (ci := 5) rfl rfl rfl rfl hl.1 rfl (Nat.le_of_ble_eq_true rfl) dL_law_785 ⟨by decide, by decide⟩) (fun r_3 M_refused_4 H locs h hP1 hk1 hS => ?_)
  try dsimp only at h
  have hP_M : va_P D vwCl (bX5 cI cJ cC a_M v_M.1 v_M.2.1 v_M.2.2.1 v_M.2.2.2.1 v_M.2.2.2.2.1 v_M.2.2.2.2.2.1 v_M.2.2.2.2.2.2.1 v_M.2.2.2.2.2.2.2.1 v_M.2.2.2.2.2.2.2.2.1 v_M.2.2.2.2.2.2.2.2.2.1 v_M.2.2.2.2.2.2.2.2.2.2.1 M_refused_4 v_M.2.2.2.2.2.2.2.2.2.2.2.2.1 v_M.2.2.2.2.2.2.2.2.2.2.2.2.2.1 v_M.2.2.2.2.2.2.2.2.2.2.2.2.2.2.1 v_M.2.2.2.2.2.2.2.2.2.2.2.2.2.2.2.1 v_M.2.2.2.2.2.2.2.2.2.2.2.2.2.2.2.2.1 v_M.2.2.2.2.2.2.2.2.2.2.2.2.2.2.2.2.2.1 v_M.2.2.2.2.2.2.2.2.2.2.2.2.2.2.2.2.2.2.1 v_M.2.2.2.2.2.2.2.2.2.2.2.2.2.2.2.2.2.2.2.1 v_M.2.2.2.2.2.2.2.2.2.2.2.2.2.2.2.2.2.2.2.2.1 v_M.2.2.2.2.2.2.2.2.2.2.2.2.2.2.2.2.2.2.2.2.2.1 v_M.2.2.2.2.2.2.2.2.2.2.2.2.2.2.2.2.2.2.2.2.2.2.1 v_M.2.2.2.2.2.2.2.2.2.2.2.2.2.2.2.2.2.2.2.2.2.2.2) H := hP1
  have hP_T : va_P D vwCl (bX4 cI cJ cC a_T a_n a_k a_t a_s a_r a_c v_T.1 T_refusals_2) H := zKeepB hP_T hk1 (hLC.1 0 7 (by decide) (by decide) (by decide))
  have hP_n : va_P D vwCl (pX3 cI cJ cC a_n v_n) H := zKeepB hP_n hk1 (hLC.1 1 7 (by decide) (by decide) (by decide))
  have hP_k : va_P D vwCl (pX3 cI cJ cC a_k v_k) H := zKeepB hP_k hk1 (hLC.1 2 7 (by decide) (by decide) (by decide))
  have hP_t : va_P D vwCl (pX3 cI cJ cC a_t v_t) H := zKeepB hP_t hk1 (hLC.1 3 7 (by decide) (by decide) (by decide))
  have hP_s : va_P D vwCl (pX2 cI cJ cC a_s v_s) H := zKeepB hP_s hk1 (hLC.1 4 7 (by decide) (by decide) (by decide))
  have hP_r : va_P D vwCl (pX0 cI cJ cC a_r v_r) H := zKeepB hP_r hk1 (hLC.1 5 7 (by decide) (by decide) (by decide))
  have hP_c : va_P D vwCl (pX1 cI cJ cC a_c v_c) H := zKeepB hP_c hk1 (hLC.1 6 7 (by decide) (by decide) (by decide))
  refine lv_icmp_eq (tgt := 1171) hx hb dL_law_788 (by decide) (fun z => ?_) (fun z => absurd h.1 z)
  exact hnext _ _ _ ⟨(v_T.1, T_refusals_2), v_n, v_k, v_t, v_s, v_r, v_c, (v_M.1, v_M.2.1, v_M.2.2.1, v_M.2.2.2.1, v_M.2.2.2.2.1, v_M.2.2.2.2.2.1, v_M.2.2.2.2.2.2.1, v_M.2.2.2.2.2.2.2.1, v_M.2.2.2.2.2.2.2.2.1, v_M.2.2.2.2.2.2.2.2.2.1, v_M.2.2.2.2.2.2.2.2.2.2.1, M_refused_4, v_M.2.2.2.2.2.2.2.2.2.2.2.2.1, v_M.2.2.2.2.2.2.2.2.2.2.2.2.2.1, v_M.2.2.2.2.2.2.2.2.2.2.2.2.2.2.1, v_M.2.2.2.2.2.2.2.2.2.2.2.2.2.2.2.1, v_M.2.2.2.2.2.2.2.2.2.2.2.2.2.2.2.2.1, v_M.2.2.2.2.2.2.2.2.2.2.2.2.2.2.2.2.2.1, v_M.2.2.2.2.2.2.2.2.2.2.2.2.2.2.2.2.2.2.1, v_M.2.2.2.2.2.2.2.2.2.2.2.2.2.2.2.2.2.2.2.1, v_M.2.2.2.2.2.2.2.2.2.2.2.2.2.2.2.2.2.2.2.2.1, v_M.2.2.2.2.2.2.2.2.2.2.2.2.2.2.2.2.2.2.2.2.2.1, v_M.2.2.2.2.2.2.2.2.2.2.2.2.2.2.2.2.2.2.2.2.2.2.1, v_M.2.2.2.2.2.2.2.2.2.2.2.2.2.2.2.2.2.2.2.2.2.2.2), h.2, hP_T, hP_n, hP_k, hP_t, hP_s, hP_r, hP_c, hP_M⟩ hS hl
def PH_hang (RL : RT) : Prop := ∀ (v_T : PX4) (v_n : PX3) (v_k : PX3) (v_t : PX3) (v_s : PX2) (v_r : PX0) (v_c : PX1) (v_M : PX5) (p0 : Int32), RL v_T v_n v_k v_s v_r v_M → wpX4_hang (fun (r_1 : Int32) (T_refusals_2 : Nat → Int32) => wpX5_hang (fun (r_3 : Int32) (M_refused_4 : Nat → Int32) => r_1 = r_3 ∧ RL (v_T.1, T_refusals_2) v_n v_k v_s v_r (v_M.1, v_M.2.1, v_M.2.2.1, v_M.2.2.2.1, v_M.2.2.2.2.1, v_M.2.2.2.2.2.1, v_M.2.2.2.2.2.2.1, v_M.2.2.2.2.2.2.2.1, v_M.2.2.2.2.2.2.2.2.1, v_M.2.2.2.2.2.2.2.2.2.1, v_M.2.2.2.2.2.2.2.2.2.2.1, M_refused_4, v_M.2.2.2.2.2.2.2.2.2.2.2.2.1, v_M.2.2.2.2.2.2.2.2.2.2.2.2.2.1, v_M.2.2.2.2.2.2.2.2.2.2.2.2.2.2.1, v_M.2.2.2.2.2.2.2.2.2.2.2.2.2.2.2.1, v_M.2.2.2.2.2.2.2.2.2.2.2.2.2.2.2.2.1, v_M.2.2.2.2.2.2.2.2.2.2.2.2.2.2.2.2.2.1, v_M.2.2.2.2.2.2.2.2.2.2.2.2.2.2.2.2.2.2.1, v_M.2.2.2.2.2.2.2.2.2.2.2.2.2.2.2.2.2.2.2.1, v_M.2.2.2.2.2.2.2.2.2.2.2.2.2.2.2.2.2.2.2.2.1, v_M.2.2.2.2.2.2.2.2.2.2.2.2.2.2.2.2.2.2.2.2.2.1, v_M.2.2.2.2.2.2.2.2.2.2.2.2.2.2.2.2.2.2.2.2.2.2.1, v_M.2.2.2.2.2.2.2.2.2.2.2.2.2.2.2.2.2.2.2.2.2.2.2)) v_M.2.2.2.2.2.2.2.2.2.2.2.1 v_M.2.2.2.2.2.2.2.2.2.2.2.2.1 v_M.2.2.2.2.2.2.2.2.2.2.2.2.2.1 v_M.2.2.2.2.2.2.2.2.2.2.2.2.2.2.2.2.1 p0) v_T.2 v_n.2.2.2.2.2.2.1 v_n.2.2.2.2.2.2.2.2.2.2.2.2.2 p0
set_option maxHeartbeats 4000000 in
set_option maxRecDepth 100000 in
theorem lawC_hang {p : Program} {l : Launch} {e : Env} {s : State} {m : MethodId} {below : List Frame} {meth : Method} {c : Code} {Q : State → Prop} {b L : Nat} {xs : Nat → Int32} {D : va_G} {cI cJ cC : ClassId} {G : Nat → Nat → Nat} {a_T a_n a_k a_t a_s a_r a_c a_M : Nat → Nat} (RL : RT) (hp : PH_hang RL) (S : CallFix p m c code 4 s #[Value.ref b] bg R_law) (hX : va_X b L xs s s.heap) (hbl : b < s.heap.size) (hK : va_K D vwCl (tz cI cJ cC) s) (hLC : LC a_T a_n a_k a_t a_s a_r a_c a_M (fun q : Nat => s.heap.size ≤ q)) (hE : EV G (fun q : Nat => s.heap.size ≤ q) s) {i : Nat} {x3 : Int32} (hi : ∀ k : Nat, k < 4 → vp_in (x3 + Int32.ofNat k) L) (hv : ∀ k : Nat, k < 4 → xs (x3 + Int32.ofNat k).toNatClampNeg = xs (i + k)) {H : Heap} {locs : List Loc} {ls : Array Slot} (hJ : JW RL D cI cJ cC a_T a_n a_k a_t a_s a_r a_c a_M H) (hS : va_S (fun q : Nat => s.heap.size ≤ q) s.heap H locs) (hl : lv_has ls 4 [(0, .ref b), (1, .ref (a_T 0)), (2, .ref (a_M 0)), (3, .int x3)])
    (hnext : ∀ (H : Heap) (locs : List Loc) (ls : Array Slot), JW RL D cI cJ cC a_T a_n a_k a_t a_s a_r a_c a_M H → va_S (fun q : Nat => s.heap.size ≤ q) s.heap H locs → lv_has ls 4 [(0, .ref b), (1, .ref (a_T 0)), (2, .ref (a_M 0)), (3, .int x3)] → W p l e room_1 s m #[Value.ref b] below meth c H locs 41 1350 Q (F0 m 1171 ls [])) : W p l e room_1 s m #[Value.ref b] below meth c H locs 41 1350 Q (F0 m 793 ls []) := by
  obtain ⟨hx, hb, hml, hown, ht⟩ := id S
  have hA : ∀ q : Nat, s.heap.size ≤ q → (fun q : Nat => s.heap.size ≤ q) q := fun _ h => h
  have hbA : ¬ (fun q : Nat => s.heap.size ≤ q) b := Nat.not_le.mpr hbl
  obtain ⟨v_T, v_n, v_k, v_t, v_s, v_r, v_c, v_M, hR, hP_T, hP_n, hP_k, hP_t, hP_s, hP_r, hP_c, hP_M⟩ := hJ
  have h := hp v_T v_n v_k v_t v_s v_r v_c v_M (xs (i + 1)) hR
  refine lv_aload_n hx hb dL_law_793 rfl (lv_at hl 1 rfl) ?_
  refine lv_aload_n hx hb dL_law_794 rfl (lv_at hl 0 rfl) ?_
  refine lv_iload_n hx hb dL_law_795 rfl (lv_at hl 3 rfl) ?_
  refine lv_iconst (v := (1 : Int32)) hx hb dL_law_796 (by decide) ?_
  refine lv_iadd hx hb dL_law_797 ?_
  refine va_sld hx hb hX hbl hbA hS (hi 1 (by decide)) dL_law_798 ?_
  refine zti (hv 1 (by decide)) ?_
  have hPw : va_P D vwCl ((pX4 cI cJ cC a_T a_n a_k a_t a_s a_r a_c v_T) ++ (pX3 cI cJ cC a_n v_n)) _ := (hP_T.app hP_n)
  have hDw : va_D (fun q : Nat => s.heap.size ≤ q) ((pX4 cI cJ cC a_T a_n a_k a_t a_s a_r a_c v_T) ++ (pX3 cI cJ cC a_n v_n)) := hLC.2.2.2.1 _ rfl
  refine zci hA hDw hS (zrunV (As := [.int (xs (i + 1))]) (rest := []) S hK hA hE hPw hDw hS (mX4_hang l D cI cJ cC G a_T a_n a_k a_t a_s a_r a_c _ v_T.1 v_T.2 v_n.1 v_n.2.1 v_n.2.2.1 v_n.2.2.2.1 v_n.2.2.2.2.1 v_n.2.2.2.2.2.1 v_n.2.2.2.2.2.2.1 v_n.2.2.2.2.2.2.2.1 v_n.2.2.2.2.2.2.2.2.1 v_n.2.2.2.2.2.2.2.2.2.1 v_n.2.2.2.2.2.2.2.2.2.2.1 v_n.2.2.2.2.2.2.2.2.2.2.2.1 v_n.2.2.2.2.2.2.2.2.2.2.2.2.1 v_n.2.2.2.2.2.2.2.2.2.2.2.2.2 (xs (i + 1)) _ h) kX4_hang ml_L_111 ⟨rfl, rfl, by decide, by decide⟩ (q0 := 0) (ci := 4) rfl rfl rfl rfl hl.1 rfl (Nat.le_of_ble_eq_true rfl) dL_law_799 ⟨by decide, by decide⟩) (fun r_1 T_refusals_2 H locs h hP1 hk1 hS => ?_)
  try dsimp only at h
  have hP_n : va_P D vwCl (pX3 cI cJ cC a_n v_n) H := zPr hP1
  have hP_T : va_P D vwCl (bX4 cI cJ cC a_T a_n a_k a_t a_s a_r a_c v_T.1 T_refusals_2) H := zPl (hP1)
  have hP_k : va_P D vwCl (pX3 cI cJ cC a_k v_k) H := zKeepB hP_k hk1 (dj_app (hLC.1 2 0 (by decide) (by decide) (by decide)) (hLC.1 2 1 (by decide) (by decide) (by decide)))
  have hP_t : va_P D vwCl (pX3 cI cJ cC a_t v_t) H := zKeepB hP_t hk1 (dj_app (hLC.1 3 0 (by decide) (by decide) (by decide)) (hLC.1 3 1 (by decide) (by decide) (by decide)))
  have hP_s : va_P D vwCl (pX2 cI cJ cC a_s v_s) H := zKeepB hP_s hk1 (dj_app (hLC.1 4 0 (by decide) (by decide) (by decide)) (hLC.1 4 1 (by decide) (by decide) (by decide)))
  have hP_r : va_P D vwCl (pX0 cI cJ cC a_r v_r) H := zKeepB hP_r hk1 (dj_app (hLC.1 5 0 (by decide) (by decide) (by decide)) (hLC.1 5 1 (by decide) (by decide) (by decide)))
  have hP_c : va_P D vwCl (pX1 cI cJ cC a_c v_c) H := zKeepB hP_c hk1 (dj_app (hLC.1 6 0 (by decide) (by decide) (by decide)) (hLC.1 6 1 (by decide) (by decide) (by decide)))
  have hP_M : va_P D vwCl (pX5 cI cJ cC a_M v_M) H := zKeepB hP_M hk1 (dj_app (hLC.1 7 0 (by decide) (by decide) (by decide)) (hLC.1 7 1 (by decide) (by decide) (by decide)))
  refine lv_aload_n hx hb dL_law_802 rfl (lv_at hl 2 rfl) ?_
  refine lv_aload_n hx hb dL_law_803 rfl (lv_at hl 0 rfl) ?_
  refine lv_iload_n hx hb dL_law_804 rfl (lv_at hl 3 rfl) ?_
  refine lv_iconst (v := (1 : Int32)) hx hb dL_law_805 (by decide) ?_
  refine lv_iadd hx hb dL_law_806 ?_
  refine va_sld hx hb hX hbl hbA hS (hi 1 (by decide)) dL_law_807 ?_
  refine zti (hv 1 (by decide)) ?_
  have hPw : va_P D vwCl ((pX5 cI cJ cC a_M v_M)) _ := hP_M
  have hDw : va_D (fun q : Nat => s.heap.size ≤ q) ((pX5 cI cJ cC a_M v_M)) := hLC.2.2.2.2.2.2.2.2.2.2.2 _ rfl
  refine zci hA hDw hS (zrunV (As := [.int (xs (i + 1))]) (rest := [.int r_1]) S hK hA hE hPw hDw hS (mX5_hang l D cI cJ cC G a_M _ v_M.1 v_M.2.1 v_M.2.2.1 v_M.2.2.2.1 v_M.2.2.2.2.1 v_M.2.2.2.2.2.1 v_M.2.2.2.2.2.2.1 v_M.2.2.2.2.2.2.2.1 v_M.2.2.2.2.2.2.2.2.1 v_M.2.2.2.2.2.2.2.2.2.1 v_M.2.2.2.2.2.2.2.2.2.2.1 v_M.2.2.2.2.2.2.2.2.2.2.2.1 v_M.2.2.2.2.2.2.2.2.2.2.2.2.1 v_M.2.2.2.2.2.2.2.2.2.2.2.2.2.1 v_M.2.2.2.2.2.2.2.2.2.2.2.2.2.2.1 v_M.2.2.2.2.2.2.2.2.2.2.2.2.2.2.2.1 v_M.2.2.2.2.2.2.2.2.2.2.2.2.2.2.2.2.1 v_M.2.2.2.2.2.2.2.2.2.2.2.2.2.2.2.2.2.1 v_M.2.2.2.2.2.2.2.2.2.2.2.2.2.2.2.2.2.2.1 v_M.2.2.2.2.2.2.2.2.2.2.2.2.2.2.2.2.2.2.2.1 v_M.2.2.2.2.2.2.2.2.2.2.2.2.2.2.2.2.2.2.2.2.1 v_M.2.2.2.2.2.2.2.2.2.2.2.2.2.2.2.2.2.2.2.2.2.1 v_M.2.2.2.2.2.2.2.2.2.2.2.2.2.2.2.2.2.2.2.2.2.2.1 v_M.2.2.2.2.2.2.2.2.2.2.2.2.2.2.2.2.2.2.2.2.2.2.2 (xs (i + 1)) _ h) kX5_hang ml_L_114 ⟨rfl, rfl, by decide, by decide⟩ (q0 := 0) (ci := 5) rfl rfl rfl rfl hl.1 rfl (Nat.le_of_ble_eq_true rfl) dL_law_808 ⟨by decide, by decide⟩) (fun r_3 M_refused_4 H locs h hP1 hk1 hS => ?_)
  try dsimp only at h
  have hP_M : va_P D vwCl (bX5 cI cJ cC a_M v_M.1 v_M.2.1 v_M.2.2.1 v_M.2.2.2.1 v_M.2.2.2.2.1 v_M.2.2.2.2.2.1 v_M.2.2.2.2.2.2.1 v_M.2.2.2.2.2.2.2.1 v_M.2.2.2.2.2.2.2.2.1 v_M.2.2.2.2.2.2.2.2.2.1 v_M.2.2.2.2.2.2.2.2.2.2.1 M_refused_4 v_M.2.2.2.2.2.2.2.2.2.2.2.2.1 v_M.2.2.2.2.2.2.2.2.2.2.2.2.2.1 v_M.2.2.2.2.2.2.2.2.2.2.2.2.2.2.1 v_M.2.2.2.2.2.2.2.2.2.2.2.2.2.2.2.1 v_M.2.2.2.2.2.2.2.2.2.2.2.2.2.2.2.2.1 v_M.2.2.2.2.2.2.2.2.2.2.2.2.2.2.2.2.2.1 v_M.2.2.2.2.2.2.2.2.2.2.2.2.2.2.2.2.2.2.1 v_M.2.2.2.2.2.2.2.2.2.2.2.2.2.2.2.2.2.2.2.1 v_M.2.2.2.2.2.2.2.2.2.2.2.2.2.2.2.2.2.2.2.2.1 v_M.2.2.2.2.2.2.2.2.2.2.2.2.2.2.2.2.2.2.2.2.2.1 v_M.2.2.2.2.2.2.2.2.2.2.2.2.2.2.2.2.2.2.2.2.2.2.1 v_M.2.2.2.2.2.2.2.2.2.2.2.2.2.2.2.2.2.2.2.2.2.2.2) H := hP1
  have hP_T : va_P D vwCl (bX4 cI cJ cC a_T a_n a_k a_t a_s a_r a_c v_T.1 T_refusals_2) H := zKeepB hP_T hk1 (hLC.1 0 7 (by decide) (by decide) (by decide))
  have hP_n : va_P D vwCl (pX3 cI cJ cC a_n v_n) H := zKeepB hP_n hk1 (hLC.1 1 7 (by decide) (by decide) (by decide))
  have hP_k : va_P D vwCl (pX3 cI cJ cC a_k v_k) H := zKeepB hP_k hk1 (hLC.1 2 7 (by decide) (by decide) (by decide))
  have hP_t : va_P D vwCl (pX3 cI cJ cC a_t v_t) H := zKeepB hP_t hk1 (hLC.1 3 7 (by decide) (by decide) (by decide))
  have hP_s : va_P D vwCl (pX2 cI cJ cC a_s v_s) H := zKeepB hP_s hk1 (hLC.1 4 7 (by decide) (by decide) (by decide))
  have hP_r : va_P D vwCl (pX0 cI cJ cC a_r v_r) H := zKeepB hP_r hk1 (hLC.1 5 7 (by decide) (by decide) (by decide))
  have hP_c : va_P D vwCl (pX1 cI cJ cC a_c v_c) H := zKeepB hP_c hk1 (hLC.1 6 7 (by decide) (by decide) (by decide))
  refine lv_icmp_eq (tgt := 1171) hx hb dL_law_811 (by decide) (fun z => ?_) (fun z => absurd h.1 z)
  exact hnext _ _ _ ⟨(v_T.1, T_refusals_2), v_n, v_k, v_t, v_s, v_r, v_c, (v_M.1, v_M.2.1, v_M.2.2.1, v_M.2.2.2.1, v_M.2.2.2.2.1, v_M.2.2.2.2.2.1, v_M.2.2.2.2.2.2.1, v_M.2.2.2.2.2.2.2.1, v_M.2.2.2.2.2.2.2.2.1, v_M.2.2.2.2.2.2.2.2.2.1, v_M.2.2.2.2.2.2.2.2.2.2.1, M_refused_4, v_M.2.2.2.2.2.2.2.2.2.2.2.2.1, v_M.2.2.2.2.2.2.2.2.2.2.2.2.2.1, v_M.2.2.2.2.2.2.2.2.2.2.2.2.2.2.1, v_M.2.2.2.2.2.2.2.2.2.2.2.2.2.2.2.1, v_M.2.2.2.2.2.2.2.2.2.2.2.2.2.2.2.2.1, v_M.2.2.2.2.2.2.2.2.2.2.2.2.2.2.2.2.2.1, v_M.2.2.2.2.2.2.2.2.2.2.2.2.2.2.2.2.2.2.1, v_M.2.2.2.2.2.2.2.2.2.2.2.2.2.2.2.2.2.2.2.1, v_M.2.2.2.2.2.2.2.2.2.2.2.2.2.2.2.2.2.2.2.2.1, v_M.2.2.2.2.2.2.2.2.2.2.2.2.2.2.2.2.2.2.2.2.2.1, v_M.2.2.2.2.2.2.2.2.2.2.2.2.2.2.2.2.2.2.2.2.2.2.1, v_M.2.2.2.2.2.2.2.2.2.2.2.2.2.2.2.2.2.2.2.2.2.2.2), h.2, hP_T, hP_n, hP_k, hP_t, hP_s, hP_r, hP_c, hP_M⟩ hS hl
def PH_middle (RL : RT) : Prop := ∀ (v_T : PX4) (v_n : PX3) (v_k : PX3) (v_t : PX3) (v_s : PX2) (v_r : PX0) (v_c : PX1) (v_M : PX5) (p0 : Int32) (p1 : Int32), RL v_T v_n v_k v_s v_r v_M → wpX4_middle (fun (r_1 : Int32) (T_refusals_2 : Nat → Int32) => wpX5_middle (fun (r_3 : Int32) (M_refused_4 : Nat → Int32) => r_1 = r_3 ∧ RL (v_T.1, T_refusals_2) v_n v_k v_s v_r (v_M.1, v_M.2.1, v_M.2.2.1, v_M.2.2.2.1, v_M.2.2.2.2.1, v_M.2.2.2.2.2.1, v_M.2.2.2.2.2.2.1, v_M.2.2.2.2.2.2.2.1, v_M.2.2.2.2.2.2.2.2.1, v_M.2.2.2.2.2.2.2.2.2.1, v_M.2.2.2.2.2.2.2.2.2.2.1, M_refused_4, v_M.2.2.2.2.2.2.2.2.2.2.2.2.1, v_M.2.2.2.2.2.2.2.2.2.2.2.2.2.1, v_M.2.2.2.2.2.2.2.2.2.2.2.2.2.2.1, v_M.2.2.2.2.2.2.2.2.2.2.2.2.2.2.2.1, v_M.2.2.2.2.2.2.2.2.2.2.2.2.2.2.2.2.1, v_M.2.2.2.2.2.2.2.2.2.2.2.2.2.2.2.2.2.1, v_M.2.2.2.2.2.2.2.2.2.2.2.2.2.2.2.2.2.2.1, v_M.2.2.2.2.2.2.2.2.2.2.2.2.2.2.2.2.2.2.2.1, v_M.2.2.2.2.2.2.2.2.2.2.2.2.2.2.2.2.2.2.2.2.1, v_M.2.2.2.2.2.2.2.2.2.2.2.2.2.2.2.2.2.2.2.2.2.1, v_M.2.2.2.2.2.2.2.2.2.2.2.2.2.2.2.2.2.2.2.2.2.2.1, v_M.2.2.2.2.2.2.2.2.2.2.2.2.2.2.2.2.2.2.2.2.2.2.2)) v_M.2.2.2.2.2.2.2.2.2.2.2.1 v_M.2.2.2.2.2.2.2.2.2.2.2.2.2.1 p0 p1) v_T.2 v_n.2.2.2.2.2.2.1 p0 p1
set_option maxHeartbeats 4000000 in
set_option maxRecDepth 100000 in
theorem lawC_middle {p : Program} {l : Launch} {e : Env} {s : State} {m : MethodId} {below : List Frame} {meth : Method} {c : Code} {Q : State → Prop} {b L : Nat} {xs : Nat → Int32} {D : va_G} {cI cJ cC : ClassId} {G : Nat → Nat → Nat} {a_T a_n a_k a_t a_s a_r a_c a_M : Nat → Nat} (RL : RT) (hp : PH_middle RL) (S : CallFix p m c code 4 s #[Value.ref b] bg R_law) (hX : va_X b L xs s s.heap) (hbl : b < s.heap.size) (hK : va_K D vwCl (tz cI cJ cC) s) (hLC : LC a_T a_n a_k a_t a_s a_r a_c a_M (fun q : Nat => s.heap.size ≤ q)) (hE : EV G (fun q : Nat => s.heap.size ≤ q) s) {i : Nat} {x3 : Int32} (hi : ∀ k : Nat, k < 4 → vp_in (x3 + Int32.ofNat k) L) (hv : ∀ k : Nat, k < 4 → xs (x3 + Int32.ofNat k).toNatClampNeg = xs (i + k)) {H : Heap} {locs : List Loc} {ls : Array Slot} (hJ : JW RL D cI cJ cC a_T a_n a_k a_t a_s a_r a_c a_M H) (hS : va_S (fun q : Nat => s.heap.size ≤ q) s.heap H locs) (hl : lv_has ls 4 [(0, .ref b), (1, .ref (a_T 0)), (2, .ref (a_M 0)), (3, .int x3)])
    (hnext : ∀ (H : Heap) (locs : List Loc) (ls : Array Slot), JW RL D cI cJ cC a_T a_n a_k a_t a_s a_r a_c a_M H → va_S (fun q : Nat => s.heap.size ≤ q) s.heap H locs → lv_has ls 4 [(0, .ref b), (1, .ref (a_T 0)), (2, .ref (a_M 0)), (3, .int x3)] → W p l e room_1 s m #[Value.ref b] below meth c H locs 41 1350 Q (F0 m 1171 ls [])) : W p l e room_1 s m #[Value.ref b] below meth c H locs 41 1350 Q (F0 m 816 ls []) := by
  obtain ⟨hx, hb, hml, hown, ht⟩ := id S
  have hA : ∀ q : Nat, s.heap.size ≤ q → (fun q : Nat => s.heap.size ≤ q) q := fun _ h => h
  have hbA : ¬ (fun q : Nat => s.heap.size ≤ q) b := Nat.not_le.mpr hbl
  obtain ⟨v_T, v_n, v_k, v_t, v_s, v_r, v_c, v_M, hR, hP_T, hP_n, hP_k, hP_t, hP_s, hP_r, hP_c, hP_M⟩ := hJ
  have h := hp v_T v_n v_k v_t v_s v_r v_c v_M (xs (i + 1)) (xs (i + 2)) hR
  refine lv_aload_n hx hb dL_law_816 rfl (lv_at hl 1 rfl) ?_
  refine lv_aload_n hx hb dL_law_817 rfl (lv_at hl 0 rfl) ?_
  refine lv_iload_n hx hb dL_law_818 rfl (lv_at hl 3 rfl) ?_
  refine lv_iconst (v := (1 : Int32)) hx hb dL_law_819 (by decide) ?_
  refine lv_iadd hx hb dL_law_820 ?_
  refine va_sld hx hb hX hbl hbA hS (hi 1 (by decide)) dL_law_821 ?_
  refine zti (hv 1 (by decide)) ?_
  refine lv_aload_n hx hb dL_law_822 rfl (lv_at hl 0 rfl) ?_
  refine lv_iload_n hx hb dL_law_823 rfl (lv_at hl 3 rfl) ?_
  refine lv_iconst (v := (2 : Int32)) hx hb dL_law_824 (by decide) ?_
  refine lv_iadd hx hb dL_law_825 ?_
  refine va_sld hx hb hX hbl hbA hS (hi 2 (by decide)) dL_law_826 ?_
  refine zti (hv 2 (by decide)) ?_
  have hPw : va_P D vwCl ((pX4 cI cJ cC a_T a_n a_k a_t a_s a_r a_c v_T) ++ (pX3 cI cJ cC a_n v_n)) _ := (hP_T.app hP_n)
  have hDw : va_D (fun q : Nat => s.heap.size ≤ q) ((pX4 cI cJ cC a_T a_n a_k a_t a_s a_r a_c v_T) ++ (pX3 cI cJ cC a_n v_n)) := hLC.2.2.2.1 _ rfl
  refine zci hA hDw hS (zrunV (As := [.int (xs (i + 1)), .int (xs (i + 2))]) (rest := []) S hK hA hE hPw hDw hS (mX4_middle l D cI cJ cC G a_T a_n a_k a_t a_s a_r a_c _ v_T.1 v_T.2 v_n.1 v_n.2.1 v_n.2.2.1 v_n.2.2.2.1 v_n.2.2.2.2.1 v_n.2.2.2.2.2.1 v_n.2.2.2.2.2.2.1 v_n.2.2.2.2.2.2.2.1 v_n.2.2.2.2.2.2.2.2.1 v_n.2.2.2.2.2.2.2.2.2.1 v_n.2.2.2.2.2.2.2.2.2.2.1 v_n.2.2.2.2.2.2.2.2.2.2.2.1 v_n.2.2.2.2.2.2.2.2.2.2.2.2.1 v_n.2.2.2.2.2.2.2.2.2.2.2.2.2 (xs (i + 1)) (xs (i + 2)) _ h) kX4_middle ml_L_115 ⟨rfl, rfl, by decide, by decide⟩ (q0 := 0) (ci := 4) rfl rfl rfl rfl hl.1 rfl (Nat.le_of_ble_eq_true rfl) dL_law_827 ⟨by decide, by decide⟩) (fun r_1 T_refusals_2 H locs h hP1 hk1 hS => ?_)
  try dsimp only at h
  have hP_n : va_P D vwCl (pX3 cI cJ cC a_n v_n) H := zPr hP1
  have hP_T : va_P D vwCl (bX4 cI cJ cC a_T a_n a_k a_t a_s a_r a_c v_T.1 T_refusals_2) H := zPl (hP1)
  have hP_k : va_P D vwCl (pX3 cI cJ cC a_k v_k) H := zKeepB hP_k hk1 (dj_app (hLC.1 2 0 (by decide) (by decide) (by decide)) (hLC.1 2 1 (by decide) (by decide) (by decide)))
  have hP_t : va_P D vwCl (pX3 cI cJ cC a_t v_t) H := zKeepB hP_t hk1 (dj_app (hLC.1 3 0 (by decide) (by decide) (by decide)) (hLC.1 3 1 (by decide) (by decide) (by decide)))
  have hP_s : va_P D vwCl (pX2 cI cJ cC a_s v_s) H := zKeepB hP_s hk1 (dj_app (hLC.1 4 0 (by decide) (by decide) (by decide)) (hLC.1 4 1 (by decide) (by decide) (by decide)))
  have hP_r : va_P D vwCl (pX0 cI cJ cC a_r v_r) H := zKeepB hP_r hk1 (dj_app (hLC.1 5 0 (by decide) (by decide) (by decide)) (hLC.1 5 1 (by decide) (by decide) (by decide)))
  have hP_c : va_P D vwCl (pX1 cI cJ cC a_c v_c) H := zKeepB hP_c hk1 (dj_app (hLC.1 6 0 (by decide) (by decide) (by decide)) (hLC.1 6 1 (by decide) (by decide) (by decide)))
  have hP_M : va_P D vwCl (pX5 cI cJ cC a_M v_M) H := zKeepB hP_M hk1 (dj_app (hLC.1 7 0 (by decide) (by decide) (by decide)) (hLC.1 7 1 (by decide) (by decide) (by decide)))
  refine lv_aload_n hx hb dL_law_830 rfl (lv_at hl 2 rfl) ?_
  refine lv_aload_n hx hb dL_law_831 rfl (lv_at hl 0 rfl) ?_
  refine lv_iload_n hx hb dL_law_832 rfl (lv_at hl 3 rfl) ?_
  refine lv_iconst (v := (1 : Int32)) hx hb dL_law_833 (by decide) ?_
  refine lv_iadd hx hb dL_law_834 ?_
  refine va_sld hx hb hX hbl hbA hS (hi 1 (by decide)) dL_law_835 ?_
  refine zti (hv 1 (by decide)) ?_
  refine lv_aload_n hx hb dL_law_836 rfl (lv_at hl 0 rfl) ?_
  refine lv_iload_n hx hb dL_law_837 rfl (lv_at hl 3 rfl) ?_
  refine lv_iconst (v := (2 : Int32)) hx hb dL_law_838 (by decide) ?_
  refine lv_iadd hx hb dL_law_839 ?_
  refine va_sld hx hb hX hbl hbA hS (hi 2 (by decide)) dL_law_840 ?_
  refine zti (hv 2 (by decide)) ?_
  have hPw : va_P D vwCl ((pX5 cI cJ cC a_M v_M)) _ := hP_M
  have hDw : va_D (fun q : Nat => s.heap.size ≤ q) ((pX5 cI cJ cC a_M v_M)) := hLC.2.2.2.2.2.2.2.2.2.2.2 _ rfl
  refine zci hA hDw hS (zrunV (As := [.int (xs (i + 1)), .int (xs (i + 2))]) (rest := [.int r_1]) S hK hA hE hPw hDw hS (mX5_middle l D cI cJ cC G a_M _ v_M.1 v_M.2.1 v_M.2.2.1 v_M.2.2.2.1 v_M.2.2.2.2.1 v_M.2.2.2.2.2.1 v_M.2.2.2.2.2.2.1 v_M.2.2.2.2.2.2.2.1 v_M.2.2.2.2.2.2.2.2.1 v_M.2.2.2.2.2.2.2.2.2.1 v_M.2.2.2.2.2.2.2.2.2.2.1 v_M.2.2.2.2.2.2.2.2.2.2.2.1 v_M.2.2.2.2.2.2.2.2.2.2.2.2.1 v_M.2.2.2.2.2.2.2.2.2.2.2.2.2.1 v_M.2.2.2.2.2.2.2.2.2.2.2.2.2.2.1 v_M.2.2.2.2.2.2.2.2.2.2.2.2.2.2.2.1 v_M.2.2.2.2.2.2.2.2.2.2.2.2.2.2.2.2.1 v_M.2.2.2.2.2.2.2.2.2.2.2.2.2.2.2.2.2.1 v_M.2.2.2.2.2.2.2.2.2.2.2.2.2.2.2.2.2.2.1 v_M.2.2.2.2.2.2.2.2.2.2.2.2.2.2.2.2.2.2.2.1 v_M.2.2.2.2.2.2.2.2.2.2.2.2.2.2.2.2.2.2.2.2.1 v_M.2.2.2.2.2.2.2.2.2.2.2.2.2.2.2.2.2.2.2.2.2.1 v_M.2.2.2.2.2.2.2.2.2.2.2.2.2.2.2.2.2.2.2.2.2.2.1 v_M.2.2.2.2.2.2.2.2.2.2.2.2.2.2.2.2.2.2.2.2.2.2.2 (xs (i + 1)) (xs (i + 2)) _ h) kX5_middle ml_L_118 ⟨rfl, rfl, by decide, by decide⟩ (q0 := 0) (ci := 5) rfl rfl rfl rfl hl.1 rfl (Nat.le_of_ble_eq_true rfl) dL_law_841 ⟨by decide, by decide⟩) (fun r_3 M_refused_4 H locs h hP1 hk1 hS => ?_)
  try dsimp only at h
  have hP_M : va_P D vwCl (bX5 cI cJ cC a_M v_M.1 v_M.2.1 v_M.2.2.1 v_M.2.2.2.1 v_M.2.2.2.2.1 v_M.2.2.2.2.2.1 v_M.2.2.2.2.2.2.1 v_M.2.2.2.2.2.2.2.1 v_M.2.2.2.2.2.2.2.2.1 v_M.2.2.2.2.2.2.2.2.2.1 v_M.2.2.2.2.2.2.2.2.2.2.1 M_refused_4 v_M.2.2.2.2.2.2.2.2.2.2.2.2.1 v_M.2.2.2.2.2.2.2.2.2.2.2.2.2.1 v_M.2.2.2.2.2.2.2.2.2.2.2.2.2.2.1 v_M.2.2.2.2.2.2.2.2.2.2.2.2.2.2.2.1 v_M.2.2.2.2.2.2.2.2.2.2.2.2.2.2.2.2.1 v_M.2.2.2.2.2.2.2.2.2.2.2.2.2.2.2.2.2.1 v_M.2.2.2.2.2.2.2.2.2.2.2.2.2.2.2.2.2.2.1 v_M.2.2.2.2.2.2.2.2.2.2.2.2.2.2.2.2.2.2.2.1 v_M.2.2.2.2.2.2.2.2.2.2.2.2.2.2.2.2.2.2.2.2.1 v_M.2.2.2.2.2.2.2.2.2.2.2.2.2.2.2.2.2.2.2.2.2.1 v_M.2.2.2.2.2.2.2.2.2.2.2.2.2.2.2.2.2.2.2.2.2.2.1 v_M.2.2.2.2.2.2.2.2.2.2.2.2.2.2.2.2.2.2.2.2.2.2.2) H := hP1
  have hP_T : va_P D vwCl (bX4 cI cJ cC a_T a_n a_k a_t a_s a_r a_c v_T.1 T_refusals_2) H := zKeepB hP_T hk1 (hLC.1 0 7 (by decide) (by decide) (by decide))
  have hP_n : va_P D vwCl (pX3 cI cJ cC a_n v_n) H := zKeepB hP_n hk1 (hLC.1 1 7 (by decide) (by decide) (by decide))
  have hP_k : va_P D vwCl (pX3 cI cJ cC a_k v_k) H := zKeepB hP_k hk1 (hLC.1 2 7 (by decide) (by decide) (by decide))
  have hP_t : va_P D vwCl (pX3 cI cJ cC a_t v_t) H := zKeepB hP_t hk1 (hLC.1 3 7 (by decide) (by decide) (by decide))
  have hP_s : va_P D vwCl (pX2 cI cJ cC a_s v_s) H := zKeepB hP_s hk1 (hLC.1 4 7 (by decide) (by decide) (by decide))
  have hP_r : va_P D vwCl (pX0 cI cJ cC a_r v_r) H := zKeepB hP_r hk1 (hLC.1 5 7 (by decide) (by decide) (by decide))
  have hP_c : va_P D vwCl (pX1 cI cJ cC a_c v_c) H := zKeepB hP_c hk1 (hLC.1 6 7 (by decide) (by decide) (by decide))
  refine lv_icmp_eq (tgt := 1171) hx hb dL_law_844 (by decide) (fun z => ?_) (fun z => absurd h.1 z)
  exact hnext _ _ _ ⟨(v_T.1, T_refusals_2), v_n, v_k, v_t, v_s, v_r, v_c, (v_M.1, v_M.2.1, v_M.2.2.1, v_M.2.2.2.1, v_M.2.2.2.2.1, v_M.2.2.2.2.2.1, v_M.2.2.2.2.2.2.1, v_M.2.2.2.2.2.2.2.1, v_M.2.2.2.2.2.2.2.2.1, v_M.2.2.2.2.2.2.2.2.2.1, v_M.2.2.2.2.2.2.2.2.2.2.1, M_refused_4, v_M.2.2.2.2.2.2.2.2.2.2.2.2.1, v_M.2.2.2.2.2.2.2.2.2.2.2.2.2.1, v_M.2.2.2.2.2.2.2.2.2.2.2.2.2.2.1, v_M.2.2.2.2.2.2.2.2.2.2.2.2.2.2.2.1, v_M.2.2.2.2.2.2.2.2.2.2.2.2.2.2.2.2.1, v_M.2.2.2.2.2.2.2.2.2.2.2.2.2.2.2.2.2.1, v_M.2.2.2.2.2.2.2.2.2.2.2.2.2.2.2.2.2.2.1, v_M.2.2.2.2.2.2.2.2.2.2.2.2.2.2.2.2.2.2.2.1, v_M.2.2.2.2.2.2.2.2.2.2.2.2.2.2.2.2.2.2.2.2.1, v_M.2.2.2.2.2.2.2.2.2.2.2.2.2.2.2.2.2.2.2.2.2.1, v_M.2.2.2.2.2.2.2.2.2.2.2.2.2.2.2.2.2.2.2.2.2.2.1, v_M.2.2.2.2.2.2.2.2.2.2.2.2.2.2.2.2.2.2.2.2.2.2.2), h.2, hP_T, hP_n, hP_k, hP_t, hP_s, hP_r, hP_c, hP_M⟩ hS hl
def PH_two (RL : RT) : Prop := ∀ (v_T : PX4) (v_n : PX3) (v_k : PX3) (v_t : PX3) (v_s : PX2) (v_r : PX0) (v_c : PX1) (v_M : PX5) (p0 : Int32), RL v_T v_n v_k v_s v_r v_M → wpX4_two (fun (r_1 : Int32) (T_refusals_2 : Nat → Int32) => wpX5_two (fun (r_3 : Int32) (M_refused_4 : Nat → Int32) => r_1 = r_3 ∧ RL (v_T.1, T_refusals_2) v_n v_k v_s v_r (v_M.1, v_M.2.1, v_M.2.2.1, v_M.2.2.2.1, v_M.2.2.2.2.1, v_M.2.2.2.2.2.1, v_M.2.2.2.2.2.2.1, v_M.2.2.2.2.2.2.2.1, v_M.2.2.2.2.2.2.2.2.1, v_M.2.2.2.2.2.2.2.2.2.1, v_M.2.2.2.2.2.2.2.2.2.2.1, M_refused_4, v_M.2.2.2.2.2.2.2.2.2.2.2.2.1, v_M.2.2.2.2.2.2.2.2.2.2.2.2.2.1, v_M.2.2.2.2.2.2.2.2.2.2.2.2.2.2.1, v_M.2.2.2.2.2.2.2.2.2.2.2.2.2.2.2.1, v_M.2.2.2.2.2.2.2.2.2.2.2.2.2.2.2.2.1, v_M.2.2.2.2.2.2.2.2.2.2.2.2.2.2.2.2.2.1, v_M.2.2.2.2.2.2.2.2.2.2.2.2.2.2.2.2.2.2.1, v_M.2.2.2.2.2.2.2.2.2.2.2.2.2.2.2.2.2.2.2.1, v_M.2.2.2.2.2.2.2.2.2.2.2.2.2.2.2.2.2.2.2.2.1, v_M.2.2.2.2.2.2.2.2.2.2.2.2.2.2.2.2.2.2.2.2.2.1, v_M.2.2.2.2.2.2.2.2.2.2.2.2.2.2.2.2.2.2.2.2.2.2.1, v_M.2.2.2.2.2.2.2.2.2.2.2.2.2.2.2.2.2.2.2.2.2.2.2)) v_M.2.2.2.2.2.2.2.2.2.2.2.1 v_M.2.2.2.2.2.2.2.2.2.2.2.2.1 v_M.2.2.2.2.2.2.2.2.2.2.2.2.2.2.2.2.1 p0) v_T.2 v_n.2.2.2.2.2.2.2.2.2.2.2.1 v_n.2.2.2.2.2.2.2.2.2.2.2.2.1 p0
set_option maxHeartbeats 4000000 in
set_option maxRecDepth 100000 in
theorem lawC_two {p : Program} {l : Launch} {e : Env} {s : State} {m : MethodId} {below : List Frame} {meth : Method} {c : Code} {Q : State → Prop} {b L : Nat} {xs : Nat → Int32} {D : va_G} {cI cJ cC : ClassId} {G : Nat → Nat → Nat} {a_T a_n a_k a_t a_s a_r a_c a_M : Nat → Nat} (RL : RT) (hp : PH_two RL) (S : CallFix p m c code 4 s #[Value.ref b] bg R_law) (hX : va_X b L xs s s.heap) (hbl : b < s.heap.size) (hK : va_K D vwCl (tz cI cJ cC) s) (hLC : LC a_T a_n a_k a_t a_s a_r a_c a_M (fun q : Nat => s.heap.size ≤ q)) (hE : EV G (fun q : Nat => s.heap.size ≤ q) s) {i : Nat} {x3 : Int32} (hi : ∀ k : Nat, k < 4 → vp_in (x3 + Int32.ofNat k) L) (hv : ∀ k : Nat, k < 4 → xs (x3 + Int32.ofNat k).toNatClampNeg = xs (i + k)) {H : Heap} {locs : List Loc} {ls : Array Slot} (hJ : JW RL D cI cJ cC a_T a_n a_k a_t a_s a_r a_c a_M H) (hS : va_S (fun q : Nat => s.heap.size ≤ q) s.heap H locs) (hl : lv_has ls 4 [(0, .ref b), (1, .ref (a_T 0)), (2, .ref (a_M 0)), (3, .int x3)])
    (hnext : ∀ (H : Heap) (locs : List Loc) (ls : Array Slot), JW RL D cI cJ cC a_T a_n a_k a_t a_s a_r a_c a_M H → va_S (fun q : Nat => s.heap.size ≤ q) s.heap H locs → lv_has ls 4 [(0, .ref b), (1, .ref (a_T 0)), (2, .ref (a_M 0)), (3, .int x3)] → W p l e room_1 s m #[Value.ref b] below meth c H locs 41 1350 Q (F0 m 1171 ls [])) : W p l e room_1 s m #[Value.ref b] below meth c H locs 41 1350 Q (F0 m 849 ls []) := by
  obtain ⟨hx, hb, hml, hown, ht⟩ := id S
  have hA : ∀ q : Nat, s.heap.size ≤ q → (fun q : Nat => s.heap.size ≤ q) q := fun _ h => h
  have hbA : ¬ (fun q : Nat => s.heap.size ≤ q) b := Nat.not_le.mpr hbl
  obtain ⟨v_T, v_n, v_k, v_t, v_s, v_r, v_c, v_M, hR, hP_T, hP_n, hP_k, hP_t, hP_s, hP_r, hP_c, hP_M⟩ := hJ
  have h := hp v_T v_n v_k v_t v_s v_r v_c v_M (xs (i + 1)) hR
  refine lv_aload_n hx hb dL_law_849 rfl (lv_at hl 1 rfl) ?_
  refine lv_aload_n hx hb dL_law_850 rfl (lv_at hl 0 rfl) ?_
  refine lv_iload_n hx hb dL_law_851 rfl (lv_at hl 3 rfl) ?_
  refine lv_iconst (v := (1 : Int32)) hx hb dL_law_852 (by decide) ?_
  refine lv_iadd hx hb dL_law_853 ?_
  refine va_sld hx hb hX hbl hbA hS (hi 1 (by decide)) dL_law_854 ?_
  refine zti (hv 1 (by decide)) ?_
  have hPw : va_P D vwCl ((pX4 cI cJ cC a_T a_n a_k a_t a_s a_r a_c v_T) ++ (pX3 cI cJ cC a_n v_n)) _ := (hP_T.app hP_n)
  have hDw : va_D (fun q : Nat => s.heap.size ≤ q) ((pX4 cI cJ cC a_T a_n a_k a_t a_s a_r a_c v_T) ++ (pX3 cI cJ cC a_n v_n)) := hLC.2.2.2.1 _ rfl
  refine zci hA hDw hS (zrunV (As := [.int (xs (i + 1))]) (rest := []) S hK hA hE hPw hDw hS (mX4_two l D cI cJ cC G a_T a_n a_k a_t a_s a_r a_c _ v_T.1 v_T.2 v_n.1 v_n.2.1 v_n.2.2.1 v_n.2.2.2.1 v_n.2.2.2.2.1 v_n.2.2.2.2.2.1 v_n.2.2.2.2.2.2.1 v_n.2.2.2.2.2.2.2.1 v_n.2.2.2.2.2.2.2.2.1 v_n.2.2.2.2.2.2.2.2.2.1 v_n.2.2.2.2.2.2.2.2.2.2.1 v_n.2.2.2.2.2.2.2.2.2.2.2.1 v_n.2.2.2.2.2.2.2.2.2.2.2.2.1 v_n.2.2.2.2.2.2.2.2.2.2.2.2.2 (xs (i + 1)) _ h) kX4_two ml_L_119 ⟨rfl, rfl, by decide, by decide⟩ (q0 := 0) (ci := 4) rfl rfl rfl rfl hl.1 rfl (Nat.le_of_ble_eq_true rfl) dL_law_855 ⟨by decide, by decide⟩) (fun r_1 T_refusals_2 H locs h hP1 hk1 hS => ?_)
  try dsimp only at h
  have hP_n : va_P D vwCl (pX3 cI cJ cC a_n v_n) H := zPr hP1
  have hP_T : va_P D vwCl (bX4 cI cJ cC a_T a_n a_k a_t a_s a_r a_c v_T.1 T_refusals_2) H := zPl (hP1)
  have hP_k : va_P D vwCl (pX3 cI cJ cC a_k v_k) H := zKeepB hP_k hk1 (dj_app (hLC.1 2 0 (by decide) (by decide) (by decide)) (hLC.1 2 1 (by decide) (by decide) (by decide)))
  have hP_t : va_P D vwCl (pX3 cI cJ cC a_t v_t) H := zKeepB hP_t hk1 (dj_app (hLC.1 3 0 (by decide) (by decide) (by decide)) (hLC.1 3 1 (by decide) (by decide) (by decide)))
  have hP_s : va_P D vwCl (pX2 cI cJ cC a_s v_s) H := zKeepB hP_s hk1 (dj_app (hLC.1 4 0 (by decide) (by decide) (by decide)) (hLC.1 4 1 (by decide) (by decide) (by decide)))
  have hP_r : va_P D vwCl (pX0 cI cJ cC a_r v_r) H := zKeepB hP_r hk1 (dj_app (hLC.1 5 0 (by decide) (by decide) (by decide)) (hLC.1 5 1 (by decide) (by decide) (by decide)))
  have hP_c : va_P D vwCl (pX1 cI cJ cC a_c v_c) H := zKeepB hP_c hk1 (dj_app (hLC.1 6 0 (by decide) (by decide) (by decide)) (hLC.1 6 1 (by decide) (by decide) (by decide)))
  have hP_M : va_P D vwCl (pX5 cI cJ cC a_M v_M) H := zKeepB hP_M hk1 (dj_app (hLC.1 7 0 (by decide) (by decide) (by decide)) (hLC.1 7 1 (by decide) (by decide) (by decide)))
  refine lv_aload_n hx hb dL_law_858 rfl (lv_at hl 2 rfl) ?_
  refine lv_aload_n hx hb dL_law_859 rfl (lv_at hl 0 rfl) ?_
  refine lv_iload_n hx hb dL_law_860 rfl (lv_at hl 3 rfl) ?_
  refine lv_iconst (v := (1 : Int32)) hx hb dL_law_861 (by decide) ?_
  refine lv_iadd hx hb dL_law_862 ?_
  refine va_sld hx hb hX hbl hbA hS (hi 1 (by decide)) dL_law_863 ?_
  refine zti (hv 1 (by decide)) ?_
  have hPw : va_P D vwCl ((pX5 cI cJ cC a_M v_M)) _ := hP_M
  have hDw : va_D (fun q : Nat => s.heap.size ≤ q) ((pX5 cI cJ cC a_M v_M)) := hLC.2.2.2.2.2.2.2.2.2.2.2 _ rfl
  refine zci hA hDw hS (zrunV (As := [.int (xs (i + 1))]) (rest := [.int r_1]) S hK hA hE hPw hDw hS (mX5_two l D cI cJ cC G a_M _ v_M.1 v_M.2.1 v_M.2.2.1 v_M.2.2.2.1 v_M.2.2.2.2.1 v_M.2.2.2.2.2.1 v_M.2.2.2.2.2.2.1 v_M.2.2.2.2.2.2.2.1 v_M.2.2.2.2.2.2.2.2.1 v_M.2.2.2.2.2.2.2.2.2.1 v_M.2.2.2.2.2.2.2.2.2.2.1 v_M.2.2.2.2.2.2.2.2.2.2.2.1 v_M.2.2.2.2.2.2.2.2.2.2.2.2.1 v_M.2.2.2.2.2.2.2.2.2.2.2.2.2.1 v_M.2.2.2.2.2.2.2.2.2.2.2.2.2.2.1 v_M.2.2.2.2.2.2.2.2.2.2.2.2.2.2.2.1 v_M.2.2.2.2.2.2.2.2.2.2.2.2.2.2.2.2.1 v_M.2.2.2.2.2.2.2.2.2.2.2.2.2.2.2.2.2.1 v_M.2.2.2.2.2.2.2.2.2.2.2.2.2.2.2.2.2.2.1 v_M.2.2.2.2.2.2.2.2.2.2.2.2.2.2.2.2.2.2.2.1 v_M.2.2.2.2.2.2.2.2.2.2.2.2.2.2.2.2.2.2.2.2.1 v_M.2.2.2.2.2.2.2.2.2.2.2.2.2.2.2.2.2.2.2.2.2.1 v_M.2.2.2.2.2.2.2.2.2.2.2.2.2.2.2.2.2.2.2.2.2.2.1 v_M.2.2.2.2.2.2.2.2.2.2.2.2.2.2.2.2.2.2.2.2.2.2.2 (xs (i + 1)) _ h) kX5_two ml_L_122 ⟨rfl, rfl, by decide, by decide⟩ (q0 := 0) (ci := 5) rfl rfl rfl rfl hl.1 rfl (Nat.le_of_ble_eq_true rfl) dL_law_864 ⟨by decide, by decide⟩) (fun r_3 M_refused_4 H locs h hP1 hk1 hS => ?_)
  try dsimp only at h
  have hP_M : va_P D vwCl (bX5 cI cJ cC a_M v_M.1 v_M.2.1 v_M.2.2.1 v_M.2.2.2.1 v_M.2.2.2.2.1 v_M.2.2.2.2.2.1 v_M.2.2.2.2.2.2.1 v_M.2.2.2.2.2.2.2.1 v_M.2.2.2.2.2.2.2.2.1 v_M.2.2.2.2.2.2.2.2.2.1 v_M.2.2.2.2.2.2.2.2.2.2.1 M_refused_4 v_M.2.2.2.2.2.2.2.2.2.2.2.2.1 v_M.2.2.2.2.2.2.2.2.2.2.2.2.2.1 v_M.2.2.2.2.2.2.2.2.2.2.2.2.2.2.1 v_M.2.2.2.2.2.2.2.2.2.2.2.2.2.2.2.1 v_M.2.2.2.2.2.2.2.2.2.2.2.2.2.2.2.2.1 v_M.2.2.2.2.2.2.2.2.2.2.2.2.2.2.2.2.2.1 v_M.2.2.2.2.2.2.2.2.2.2.2.2.2.2.2.2.2.2.1 v_M.2.2.2.2.2.2.2.2.2.2.2.2.2.2.2.2.2.2.2.1 v_M.2.2.2.2.2.2.2.2.2.2.2.2.2.2.2.2.2.2.2.2.1 v_M.2.2.2.2.2.2.2.2.2.2.2.2.2.2.2.2.2.2.2.2.2.1 v_M.2.2.2.2.2.2.2.2.2.2.2.2.2.2.2.2.2.2.2.2.2.2.1 v_M.2.2.2.2.2.2.2.2.2.2.2.2.2.2.2.2.2.2.2.2.2.2.2) H := hP1
  have hP_T : va_P D vwCl (bX4 cI cJ cC a_T a_n a_k a_t a_s a_r a_c v_T.1 T_refusals_2) H := zKeepB hP_T hk1 (hLC.1 0 7 (by decide) (by decide) (by decide))
  have hP_n : va_P D vwCl (pX3 cI cJ cC a_n v_n) H := zKeepB hP_n hk1 (hLC.1 1 7 (by decide) (by decide) (by decide))
  have hP_k : va_P D vwCl (pX3 cI cJ cC a_k v_k) H := zKeepB hP_k hk1 (hLC.1 2 7 (by decide) (by decide) (by decide))
  have hP_t : va_P D vwCl (pX3 cI cJ cC a_t v_t) H := zKeepB hP_t hk1 (hLC.1 3 7 (by decide) (by decide) (by decide))
  have hP_s : va_P D vwCl (pX2 cI cJ cC a_s v_s) H := zKeepB hP_s hk1 (hLC.1 4 7 (by decide) (by decide) (by decide))
  have hP_r : va_P D vwCl (pX0 cI cJ cC a_r v_r) H := zKeepB hP_r hk1 (hLC.1 5 7 (by decide) (by decide) (by decide))
  have hP_c : va_P D vwCl (pX1 cI cJ cC a_c v_c) H := zKeepB hP_c hk1 (hLC.1 6 7 (by decide) (by decide) (by decide))
  refine lv_icmp_eq (tgt := 1171) hx hb dL_law_867 (by decide) (fun z => ?_) (fun z => absurd h.1 z)
  exact hnext _ _ _ ⟨(v_T.1, T_refusals_2), v_n, v_k, v_t, v_s, v_r, v_c, (v_M.1, v_M.2.1, v_M.2.2.1, v_M.2.2.2.1, v_M.2.2.2.2.1, v_M.2.2.2.2.2.1, v_M.2.2.2.2.2.2.1, v_M.2.2.2.2.2.2.2.1, v_M.2.2.2.2.2.2.2.2.1, v_M.2.2.2.2.2.2.2.2.2.1, v_M.2.2.2.2.2.2.2.2.2.2.1, M_refused_4, v_M.2.2.2.2.2.2.2.2.2.2.2.2.1, v_M.2.2.2.2.2.2.2.2.2.2.2.2.2.1, v_M.2.2.2.2.2.2.2.2.2.2.2.2.2.2.1, v_M.2.2.2.2.2.2.2.2.2.2.2.2.2.2.2.1, v_M.2.2.2.2.2.2.2.2.2.2.2.2.2.2.2.2.1, v_M.2.2.2.2.2.2.2.2.2.2.2.2.2.2.2.2.2.1, v_M.2.2.2.2.2.2.2.2.2.2.2.2.2.2.2.2.2.2.1, v_M.2.2.2.2.2.2.2.2.2.2.2.2.2.2.2.2.2.2.2.1, v_M.2.2.2.2.2.2.2.2.2.2.2.2.2.2.2.2.2.2.2.2.1, v_M.2.2.2.2.2.2.2.2.2.2.2.2.2.2.2.2.2.2.2.2.2.1, v_M.2.2.2.2.2.2.2.2.2.2.2.2.2.2.2.2.2.2.2.2.2.2.1, v_M.2.2.2.2.2.2.2.2.2.2.2.2.2.2.2.2.2.2.2.2.2.2.2), h.2, hP_T, hP_n, hP_k, hP_t, hP_s, hP_r, hP_c, hP_M⟩ hS hl
