/-- every promise: the two answer alike, and stay alike -/
def PHall (RL : RT) : Prop := PH_letter RL ∧ PH_wall RL ∧ PH_set RL ∧ PH_wood RL ∧ PH_weight RL ∧ PH_tool RL ∧ PH_telling RL ∧ PH_nail RL ∧ PH_pipe RL ∧ PH_risk RL ∧ PH_hole RL ∧ PH_fill RL ∧ PH_likely RL ∧ PH_sure RL ∧ PH_best RL ∧ PH_safest RL ∧ PH_holes RL ∧ PH_mean RL ∧ PH_from RL ∧ PH_next RL ∧ PH_worth RL ∧ PH_kind RL ∧ PH_covers RL ∧ PH_hang RL ∧ PH_middle RL ∧ PH_two RL ∧ PH_both RL ∧ PH_wire RL ∧ PH_twin RL ∧ PH_twinLikely RL ∧ PH_row RL ∧ PH_old RL ∧ PH_happened RL ∧ PH_judge RL ∧ PH_lots RL ∧ PH_image RL ∧ PH_on RL ∧ PH_count RL
theorem law_i {i L : Nat} {x3 : Int32} (ex : x3 = nI i) (hL : L ≤ 2048) (hi : i + 4 ≤ L) : ∀ k : Nat, k < 4 → vp_in (x3 + Int32.ofNat k) L := by
  intro k hk
  subst ex
  have e : nI i + Int32.ofNat k = nI (i + k) := nI_add i k
  rw [e]
  exact vp_in_nI (by omega) (by omega)
theorem law_v {i L : Nat} {x3 : Int32} {xs : Nat → Int32} (ex : x3 = nI i) (hL : L ≤ 2048) (hi : i + 4 ≤ L) : ∀ k : Nat, k < 4 → xs (x3 + Int32.ofNat k).toNatClampNeg = xs (i + k) := by
  intro k hk
  subst ex
  have e : nI i + Int32.ofNat k = nI (i + k) := nI_add i k
  rw [e, nI_clamp (by omega)]
set_option maxHeartbeats 4000000 in
set_option maxRecDepth 100000 in
theorem law_loop {p : Program} {l : Launch} {e : Env} {s : State} {m : MethodId} {below : List Frame} {meth : Method} {c : Code} {b L : Nat} {xs : Nat → Int32} {D : va_G} {cI cJ cC : ClassId} {G : Nat → Nat → Nat} {a_T a_n a_k a_t a_s a_r a_c a_M : Nat → Nat} (RL : RT) (hp : PHall RL) (hL : L ≤ 2048) (hr : meth.sig.returnType = ret) (hlocks : meth.locks = false) (S : CallFix p m c code 4 s #[Value.ref b] bg R_law) (hX : va_X b L xs s s.heap) (hbl : b < s.heap.size) (hK : va_K D vwCl (tz cI cJ cC) s) (hLC : LC a_T a_n a_k a_t a_s a_r a_c a_M (fun q : Nat => s.heap.size ≤ q)) (hE : EV G (fun q : Nat => s.heap.size ≤ q) s) :
    ∀ (n i : Nat) (x3 : Int32), i ≤ L → L < i + n → x3 = nI i → ∀ (H : Heap) (locs : List Loc) (ls : Array Slot), JW RL D cI cJ cC a_T a_n a_k a_t a_s a_r a_c a_M H → va_S (fun q : Nat => s.heap.size ≤ q) s.heap H locs → lv_has ls 4 [(0, .ref b), (1, .ref (a_T 0)), (2, .ref (a_M 0)), (3, .int x3)] → W p l e room_1 s m #[Value.ref b] below meth c H locs 41 1350 (lw_Z below #[Value.ref b] s) (F0 m 18 ls []) := by
  obtain ⟨hx, hb, hml, hown, ht⟩ := id S
  have hA : ∀ q : Nat, s.heap.size ≤ q → (fun q : Nat => s.heap.size ≤ q) q := fun _ h => h
  have hbA : ¬ (fun q : Nat => s.heap.size ≤ q) b := Nat.not_le.mpr hbl
  intro n
  induction n with
  | zero =>
    intro i x3 h1 h2
    omega
  | succ n ih =>
    intro i x3 hi hin ex H locs ls hJ hS hl
    refine lv_iload_n hx hb dL_law_18 rfl (lv_at hl 3 rfl) ?_
    refine lv_aload_n hx hb dL_law_19 rfl (lv_at hl 0 rfl) ?_
    refine va_slen hx hb hX hbl hbA hS dL_law_20 ?_
    refine lv_iconst (v := (4 : Int32)) hx hb dL_law_21 (by decide) ?_
    refine lv_isub hx hb dL_law_22 ?_
    have hcmp : (Int32.ofNat L - (4 : Int32) < x3) ↔ (L < i + 4) := by
      have e : (Int32.ofNat L - (4 : Int32)).toInt = (L : Int) - 4 := pk_sub_toInt (a := L) (b := 4) (by omega) (by omega)
      rw [Int32.lt_iff_toInt_lt, e, ex, nI_toInt (by omega)]
      omega
    refine lv_icmp_gt (tgt := 1177) hx hb dL_law_23 (by decide) (fun z => ?_) (fun z => ?_)
    · refine lv_iconst (v := (1 : Int32)) hx hb dL_law_1177 (by decide) ?_
      refine va_forget (fun q hq => hS.2.2 q hq) ?_
      exact lw_ret hx hb hr hlocks dL_law_1178
    · have h4 : i + 4 ≤ L := by
        rcases Nat.lt_or_ge L (i + 4) with q | q
        · exact absurd (hcmp.mpr q) z
        · exact q
      have hI := law_i ex hL h4
      have hV := law_v (xs := xs) ex hL h4
      have hnext : ∀ (H : Heap) (locs : List Loc) (ls : Array Slot), JW RL D cI cJ cC a_T a_n a_k a_t a_s a_r a_c a_M H → va_S (fun q : Nat => s.heap.size ≤ q) s.heap H locs → lv_has ls 4 [(0, .ref b), (1, .ref (a_T 0)), (2, .ref (a_M 0)), (3, .int x3)] → W p l e room_1 s m #[Value.ref b] below meth c H locs 41 1350 (lw_Z below #[Value.ref b] s) (F0 m 1171 ls []) := by
        intro H locs ls hJ hS hl
        refine lv_iinc (v := x3 + (4 : Int32)) (lv' := [(3, .int (x3 + (4 : Int32))), (0, .ref b), (1, .ref (a_T 0)), (2, .ref (a_M 0))]) hx hb dL_law_1171 hl (k := 3) rfl (by rfl) (by decide) rfl (fun ls hl => ?_)
        refine lv_goto (tgt := 18) hx hb dL_law_1174 (by decide) ?_
        exact ih (i + 4) (x3 + (4 : Int32)) (by omega) (by omega) (by rw [ex]; exact nI_add i 4) _ _ _ hJ hS (lv_sub hl [1, 2, 3, 0] rfl)
      refine lv_aload_n hx hb dL_law_26 rfl (lv_at hl 0 rfl) ?_
      refine lv_iload_n hx hb dL_law_27 rfl (lv_at hl 3 rfl) ?_
      refine va_sld hx hb hX hbl hbA hS (by rw [ex]; exact vp_in_nI (by omega) (by omega)) dL_law_28 ?_
      refine lv_bipush (v := (63 : Int32)) hx hb dL_law_29 (by decide) ?_
      refine lv_iand hx hb dL_law_31 ?_
      obtain ⟨j, hj, ej⟩ := pk_andE (xs x3.toNatClampNeg) (m := (63 : Int32)) 6 (by decide)
      refine zti ej ?_
      have hj : j < 64 := hj
      rcases Nat.lt_or_ge j 38 with hlt | hge
      · rcases (show j = 0 ∨ j = 1 ∨ j = 2 ∨ j = 3 ∨ j = 4 ∨ j = 5 ∨ j = 6 ∨ j = 7 ∨ j = 8 ∨ j = 9 ∨ j = 10 ∨ j = 11 ∨ j = 12 ∨ j = 13 ∨ j = 14 ∨ j = 15 ∨ j = 16 ∨ j = 17 ∨ j = 18 ∨ j = 19 ∨ j = 20 ∨ j = 21 ∨ j = 22 ∨ j = 23 ∨ j = 24 ∨ j = 25 ∨ j = 26 ∨ j = 27 ∨ j = 28 ∨ j = 29 ∨ j = 30 ∨ j = 31 ∨ j = 32 ∨ j = 33 ∨ j = 34 ∨ j = 35 ∨ j = 36 ∨ j = 37 by omega) with rfl | rfl | rfl | rfl | rfl | rfl | rfl | rfl | rfl | rfl | rfl | rfl | rfl | rfl | rfl | rfl | rfl | rfl | rfl | rfl | rfl | rfl | rfl | rfl | rfl | rfl | rfl | rfl | rfl | rfl | rfl | rfl | rfl | rfl | rfl | rfl | rfl | rfl
        · refine lv_tableIn (off := 168) (tgt := 200) hx hb dL_law_32 (by decide) (by decide) (by rfl) (by decide) ?_
          exact lawC_letter RL hp.1 S hX hbl hK hLC hE hI hV hJ hS hl hnext
        · refine lv_tableIn (off := 191) (tgt := 223) hx hb dL_law_32 (by decide) (by decide) (by rfl) (by decide) ?_
          exact lawC_wall RL hp.2.1 S hX hbl hK hLC hE hI hV hJ hS hl hnext
        · refine lv_tableIn (off := 204) (tgt := 236) hx hb dL_law_32 (by decide) (by decide) (by rfl) (by decide) ?_
          exact lawC_set RL hp.2.2.1 S hX hbl hK hLC hE hI hV hJ hS hl hnext
        · refine lv_tableIn (off := 237) (tgt := 269) hx hb dL_law_32 (by decide) (by decide) (by rfl) (by decide) ?_
          exact lawC_wood RL hp.2.2.2.1 S hX hbl hK hLC hE hI hV hJ hS hl hnext
        · refine lv_tableIn (off := 270) (tgt := 302) hx hb dL_law_32 (by decide) (by decide) (by rfl) (by decide) ?_
          exact lawC_weight RL hp.2.2.2.2.1 S hX hbl hK hLC hE hI hV hJ hS hl hnext
        · refine lv_tableIn (off := 294) (tgt := 326) hx hb dL_law_32 (by decide) (by decide) (by rfl) (by decide) ?_
          exact lawC_tool RL hp.2.2.2.2.2.1 S hX hbl hK hLC hE hI hV hJ hS hl hnext
        · refine lv_tableIn (off := 327) (tgt := 359) hx hb dL_law_32 (by decide) (by decide) (by rfl) (by decide) ?_
          exact lawC_telling RL hp.2.2.2.2.2.2.1 S hX hbl hK hLC hE hI hV hJ hS hl hnext
        · refine lv_tableIn (off := 370) (tgt := 402) hx hb dL_law_32 (by decide) (by decide) (by rfl) (by decide) ?_
          exact lawC_nail RL hp.2.2.2.2.2.2.2.1 S hX hbl hK hLC hE hI hV hJ hS hl hnext
        · refine lv_tableIn (off := 403) (tgt := 435) hx hb dL_law_32 (by decide) (by decide) (by rfl) (by decide) ?_
          exact lawC_pipe RL hp.2.2.2.2.2.2.2.2.1 S hX hbl hK hLC hE hI hV hJ hS hl hnext
        · refine lv_tableIn (off := 436) (tgt := 468) hx hb dL_law_32 (by decide) (by decide) (by rfl) (by decide) ?_
          exact lawC_risk RL hp.2.2.2.2.2.2.2.2.2.1 S hX hbl hK hLC hE hI hV hJ hS hl hnext
        · refine lv_tableIn (off := 459) (tgt := 491) hx hb dL_law_32 (by decide) (by decide) (by rfl) (by decide) ?_
          exact lawC_hole RL hp.2.2.2.2.2.2.2.2.2.2.1 S hX hbl hK hLC hE hI hV hJ hS hl hnext
        · refine lv_tableIn (off := 482) (tgt := 514) hx hb dL_law_32 (by decide) (by decide) (by rfl) (by decide) ?_
          exact lawC_fill RL hp.2.2.2.2.2.2.2.2.2.2.2.1 S hX hbl hK hLC hE hI hV hJ hS hl hnext
        · refine lv_tableIn (off := 495) (tgt := 527) hx hb dL_law_32 (by decide) (by decide) (by rfl) (by decide) ?_
          exact lawC_likely RL hp.2.2.2.2.2.2.2.2.2.2.2.2.1 S hX hbl hK hLC hE hI hV hJ hS hl hnext
        · refine lv_tableIn (off := 529) (tgt := 561) hx hb dL_law_32 (by decide) (by decide) (by rfl) (by decide) ?_
          exact lawC_sure RL hp.2.2.2.2.2.2.2.2.2.2.2.2.2.1 S hX hbl hK hLC hE hI hV hJ hS hl hnext
        · refine lv_tableIn (off := 562) (tgt := 594) hx hb dL_law_32 (by decide) (by decide) (by rfl) (by decide) ?_
          exact lawC_best RL hp.2.2.2.2.2.2.2.2.2.2.2.2.2.2.1 S hX hbl hK hLC hE hI hV hJ hS hl hnext
        · refine lv_tableIn (off := 575) (tgt := 607) hx hb dL_law_32 (by decide) (by decide) (by rfl) (by decide) ?_
          exact lawC_safest RL hp.2.2.2.2.2.2.2.2.2.2.2.2.2.2.2.1 S hX hbl hK hLC hE hI hV hJ hS hl hnext
        · refine lv_tableIn (off := 588) (tgt := 620) hx hb dL_law_32 (by decide) (by decide) (by rfl) (by decide) ?_
          exact lawC_holes RL hp.2.2.2.2.2.2.2.2.2.2.2.2.2.2.2.2.1 S hX hbl hK hLC hE hI hV hJ hS hl hnext
        · refine lv_tableIn (off := 611) (tgt := 643) hx hb dL_law_32 (by decide) (by decide) (by rfl) (by decide) ?_
          exact lawC_mean RL hp.2.2.2.2.2.2.2.2.2.2.2.2.2.2.2.2.2.1 S hX hbl hK hLC hE hI hV hJ hS hl hnext
        · refine lv_tableIn (off := 645) (tgt := 677) hx hb dL_law_32 (by decide) (by decide) (by rfl) (by decide) ?_
          exact lawC_from RL hp.2.2.2.2.2.2.2.2.2.2.2.2.2.2.2.2.2.2.1 S hX hbl hK hLC hE hI hV hJ hS hl hnext
        · refine lv_tableIn (off := 658) (tgt := 690) hx hb dL_law_32 (by decide) (by decide) (by rfl) (by decide) ?_
          exact lawC_next RL hp.2.2.2.2.2.2.2.2.2.2.2.2.2.2.2.2.2.2.2.1 S hX hbl hK hLC hE hI hV hJ hS hl hnext
        · refine lv_tableIn (off := 681) (tgt := 713) hx hb dL_law_32 (by decide) (by decide) (by rfl) (by decide) ?_
          exact lawC_worth RL hp.2.2.2.2.2.2.2.2.2.2.2.2.2.2.2.2.2.2.2.2.1 S hX hbl hK hLC hE hI hV hJ hS hl hnext
        · refine lv_tableIn (off := 715) (tgt := 747) hx hb dL_law_32 (by decide) (by decide) (by rfl) (by decide) ?_
          exact lawC_kind RL hp.2.2.2.2.2.2.2.2.2.2.2.2.2.2.2.2.2.2.2.2.2.1 S hX hbl hK hLC hE hI hV hJ hS hl hnext
        · refine lv_tableIn (off := 728) (tgt := 760) hx hb dL_law_32 (by decide) (by decide) (by rfl) (by decide) ?_
          exact lawC_covers RL hp.2.2.2.2.2.2.2.2.2.2.2.2.2.2.2.2.2.2.2.2.2.2.1 S hX hbl hK hLC hE hI hV hJ hS hl hnext
        · refine lv_tableIn (off := 761) (tgt := 793) hx hb dL_law_32 (by decide) (by decide) (by rfl) (by decide) ?_
          exact lawC_hang RL hp.2.2.2.2.2.2.2.2.2.2.2.2.2.2.2.2.2.2.2.2.2.2.2.1 S hX hbl hK hLC hE hI hV hJ hS hl hnext
        · refine lv_tableIn (off := 784) (tgt := 816) hx hb dL_law_32 (by decide) (by decide) (by rfl) (by decide) ?_
          exact lawC_middle RL hp.2.2.2.2.2.2.2.2.2.2.2.2.2.2.2.2.2.2.2.2.2.2.2.2.1 S hX hbl hK hLC hE hI hV hJ hS hl hnext
        · refine lv_tableIn (off := 817) (tgt := 849) hx hb dL_law_32 (by decide) (by decide) (by rfl) (by decide) ?_
          exact lawC_two RL hp.2.2.2.2.2.2.2.2.2.2.2.2.2.2.2.2.2.2.2.2.2.2.2.2.2.1 S hX hbl hK hLC hE hI hV hJ hS hl hnext
        · refine lv_tableIn (off := 840) (tgt := 872) hx hb dL_law_32 (by decide) (by decide) (by rfl) (by decide) ?_
          exact lawC_both RL hp.2.2.2.2.2.2.2.2.2.2.2.2.2.2.2.2.2.2.2.2.2.2.2.2.2.2.1 S hX hbl hK hLC hE hI hV hJ hS hl hnext
        · refine lv_tableIn (off := 874) (tgt := 906) hx hb dL_law_32 (by decide) (by decide) (by rfl) (by decide) ?_
          exact lawC_wire RL hp.2.2.2.2.2.2.2.2.2.2.2.2.2.2.2.2.2.2.2.2.2.2.2.2.2.2.2.1 S hX hbl hK hLC hE hI hV hJ hS hl hnext
        · refine lv_tableIn (off := 907) (tgt := 939) hx hb dL_law_32 (by decide) (by decide) (by rfl) (by decide) ?_
          exact lawC_twin RL hp.2.2.2.2.2.2.2.2.2.2.2.2.2.2.2.2.2.2.2.2.2.2.2.2.2.2.2.2.1 S hX hbl hK hLC hE hI hV hJ hS hl hnext
        · refine lv_tableIn (off := 930) (tgt := 962) hx hb dL_law_32 (by decide) (by decide) (by rfl) (by decide) ?_
          exact lawC_twinLikely RL hp.2.2.2.2.2.2.2.2.2.2.2.2.2.2.2.2.2.2.2.2.2.2.2.2.2.2.2.2.2.1 S hX hbl hK hLC hE hI hV hJ hS hl hnext
        · refine lv_tableIn (off := 974) (tgt := 1006) hx hb dL_law_32 (by decide) (by decide) (by rfl) (by decide) ?_
          exact lawC_row RL hp.2.2.2.2.2.2.2.2.2.2.2.2.2.2.2.2.2.2.2.2.2.2.2.2.2.2.2.2.2.2.1 S hX hbl hK hLC hE hI hV hJ hS hl hnext
        · refine lv_tableIn (off := 997) (tgt := 1029) hx hb dL_law_32 (by decide) (by decide) (by rfl) (by decide) ?_
          exact lawC_old RL hp.2.2.2.2.2.2.2.2.2.2.2.2.2.2.2.2.2.2.2.2.2.2.2.2.2.2.2.2.2.2.2.1 S hX hbl hK hLC hE hI hV hJ hS hl hnext
        · refine lv_tableIn (off := 1010) (tgt := 1042) hx hb dL_law_32 (by decide) (by decide) (by rfl) (by decide) ?_
          exact lawC_happened RL hp.2.2.2.2.2.2.2.2.2.2.2.2.2.2.2.2.2.2.2.2.2.2.2.2.2.2.2.2.2.2.2.2.1 S hX hbl hK hLC hE hI hV hJ hS hl hnext
        · refine lv_tableIn (off := 1044) (tgt := 1076) hx hb dL_law_32 (by decide) (by decide) (by rfl) (by decide) ?_
          exact lawC_judge RL hp.2.2.2.2.2.2.2.2.2.2.2.2.2.2.2.2.2.2.2.2.2.2.2.2.2.2.2.2.2.2.2.2.2.1 S hX hbl hK hLC hE hI hV hJ hS hl hnext
        · refine lv_tableIn (off := 1057) (tgt := 1089) hx hb dL_law_32 (by decide) (by decide) (by rfl) (by decide) ?_
          exact lawC_lots RL hp.2.2.2.2.2.2.2.2.2.2.2.2.2.2.2.2.2.2.2.2.2.2.2.2.2.2.2.2.2.2.2.2.2.2.1 S hX hbl hK hLC hE hI hV hJ hS hl hnext
        · refine lv_tableIn (off := 1090) (tgt := 1122) hx hb dL_law_32 (by decide) (by decide) (by rfl) (by decide) ?_
          exact lawC_image RL hp.2.2.2.2.2.2.2.2.2.2.2.2.2.2.2.2.2.2.2.2.2.2.2.2.2.2.2.2.2.2.2.2.2.2.2.1 S hX hbl hK hLC hE hI hV hJ hS hl hnext
        · refine lv_tableIn (off := 1103) (tgt := 1135) hx hb dL_law_32 (by decide) (by decide) (by rfl) (by decide) ?_
          exact lawC_on RL hp.2.2.2.2.2.2.2.2.2.2.2.2.2.2.2.2.2.2.2.2.2.2.2.2.2.2.2.2.2.2.2.2.2.2.2.2.1 S hX hbl hK hLC hE hI hV hJ hS hl hnext
        · refine lv_tableIn (off := 1116) (tgt := 1148) hx hb dL_law_32 (by decide) (by decide) (by rfl) (by decide) ?_
          exact lawC_count RL hp.2.2.2.2.2.2.2.2.2.2.2.2.2.2.2.2.2.2.2.2.2.2.2.2.2.2.2.2.2.2.2.2.2.2.2.2.2 S hX hbl hK hLC hE hI hV hJ hS hl hnext
      · refine lv_tableOut (tgt := 1171) hx hb dL_law_32 (Or.inr (by rw [nI_toInt (by omega)]; omega)) (by decide) ?_
        exact hnext _ _ _ hJ hS hl
