def wpX2_readStatement (post : Int32 → Int32 → Int32 → Int32 → Int32 → Int32 → Int32 → Int32 → Int64 → Int64 → Int32 → (Nat → Int32) → (Nat → Int32) → (Nat → Int64) → (Nat → Int32) → (Nat → Int64) → Prop) (s_length : Int32) (s_place : Int32) (s_signs : Nat → Int32) (w_space : Int32) (w_beam : Int32) (w_door : Int32) (w_law : Int32) (w_used : Int32) (w_pipes : Int32) (w_drilled : Int64) (w_total : Int64) (w_open : Int32) (w_pipeInches : Nat → Int32) (w_pipeChances : Nat → Int32) (w_weights : Nat → Int64) (w_woods : Nat → Int32) (w_sums : Nat → Int64) : Prop := wpX2_signAt (fun (r_1 : Int32) => wpX2_skipSign (fun (s_place_2 : Int32) => ((r_1 = (100 : Int32) → (wpX2_readDoor (fun (r_3 : Int32) (s_place_4 : Int32) (w_door_5 : Int32) (w_used_6 : Int32) (w_total_7 : Int64) (w_open_8 : Int32) (w_weights_9 : Nat → Int64) (w_woods_10 : Nat → Int32) (w_sums_11 : Nat → Int64) => narrow .boolean (.int r_3) = .int r_3 ∧ post r_3 s_place_4 w_space w_beam w_door_5 w_law w_used_6 w_pipes w_drilled w_total_7 w_open_8 w_pipeInches w_pipeChances w_weights_9 w_woods_10 w_sums_11) s_length s_place_2 s_signs w_space w_beam w_door w_law w_used w_total w_open w_weights w_woods w_sums)) ∧ (¬ (r_1 = (100 : Int32)) → (((r_1 = (108 : Int32) → (wpX2_readLaw (fun (r_12 : Int32) (s_place_13 : Int32) (w_law_14 : Int32) (w_used_15 : Int32) (w_total_16 : Int64) (w_open_17 : Int32) (w_weights_18 : Nat → Int64) (w_woods_19 : Nat → Int32) (w_sums_20 : Nat → Int64) => narrow .boolean (.int r_12) = .int r_12 ∧ post r_12 s_place_13 w_space w_beam w_door w_law_14 w_used_15 w_pipes w_drilled w_total_16 w_open_17 w_pipeInches w_pipeChances w_weights_18 w_woods_19 w_sums_20) s_length s_place_2 s_signs w_space w_beam w_door w_weights w_woods w_sums)) ∧ (¬ (r_1 = (108 : Int32)) → (((r_1 = (110 : Int32) → (wpX2_readNail (fun (r_21 : Int32) (s_place_22 : Int32) (w_drilled_23 : Int64) (w_total_24 : Int64) (w_open_25 : Int32) (w_weights_26 : Nat → Int64) (w_sums_27 : Nat → Int64) => narrow .boolean (.int r_21) = .int r_21 ∧ post r_21 s_place_22 w_space w_beam w_door w_law w_used w_pipes w_drilled_23 w_total_24 w_open_25 w_pipeInches w_pipeChances w_weights_26 w_woods w_sums_27) s_length s_place_2 s_signs w_drilled w_total w_open w_weights w_woods w_sums)) ∧ (¬ (r_1 = (110 : Int32)) → (((r_1 = (115 : Int32) → (wpX2_readSpaces (fun (r_28 : Int32) (s_place_29 : Int32) (w_space_30 : Int32) (w_beam_31 : Int32) (w_used_32 : Int32) (w_total_33 : Int64) (w_open_34 : Int32) (w_weights_35 : Nat → Int64) (w_woods_36 : Nat → Int32) (w_sums_37 : Nat → Int64) => narrow .boolean (.int r_28) = .int r_28 ∧ post r_28 s_place_29 w_space_30 w_beam_31 w_door w_law w_used_32 w_pipes w_drilled w_total_33 w_open_34 w_pipeInches w_pipeChances w_weights_35 w_woods_36 w_sums_37) s_length s_place_2 s_signs w_space w_beam w_door w_law w_used w_total w_open w_weights w_woods w_sums)) ∧ (¬ (r_1 = (115 : Int32)) → (((r_1 = (116 : Int32) → (wpX2_readTelling (fun (r_38 : Int32) (s_place_39 : Int32) (w_used_40 : Int32) (w_drilled_41 : Int64) (w_total_42 : Int64) (w_open_43 : Int32) (w_weights_44 : Nat → Int64) (w_sums_45 : Nat → Int64) => narrow .boolean (.int r_38) = .int r_38 ∧ post r_38 s_place_39 w_space w_beam w_door w_law w_used_40 w_pipes w_drilled_41 w_total_42 w_open_43 w_pipeInches w_pipeChances w_weights_44 w_woods w_sums_45) s_length s_place_2 s_signs w_used w_drilled w_total w_open w_weights w_woods w_sums)) ∧ (¬ (r_1 = (116 : Int32)) → (wpX2_readPipe (fun (r_46 : Int32) (s_place_47 : Int32) (w_pipes_48 : Int32) (w_pipeInches_49 : Nat → Int32) (w_pipeChances_50 : Nat → Int32) => narrow .boolean (.int r_46) = .int r_46 ∧ post r_46 s_place_47 w_space w_beam w_door w_law w_used w_pipes_48 w_drilled w_total w_open w_pipeInches_49 w_pipeChances_50 w_weights w_woods w_sums) s_length s_place_2 s_signs w_pipes w_pipeInches w_pipeChances)))))))))))))))) s_place) s_length s_signs s_place
set_option maxHeartbeats 4000000 in
set_option maxRecDepth 100000 in
theorem mX2_readStatement (l : Launch) (D : va_G) (cI cJ cC : ClassId) (G : Nat → Nat → Nat) (a_s : Nat → Nat) (a_w : Nat → Nat) (sz : Nat) (s_length : Int32) (s_place : Int32) (s_signs : Nat → Int32) (w_space : Int32) (w_beam : Int32) (w_door : Int32) (w_law : Int32) (w_used : Int32) (w_pipes : Int32) (w_drilled : Int64) (w_total : Int64) (w_open : Int32) (w_pipeInches : Nat → Int32) (w_pipeChances : Nat → Int32) (w_weights : Nat → Int64) (w_woods : Nat → Int32) (w_sums : Nat → Int64) (post : Int32 → Int32 → Int32 → Int32 → Int32 → Int32 → Int32 → Int32 → Int64 → Int64 → Int32 → (Nat → Int32) → (Nat → Int32) → (Nat → Int64) → (Nat → Int32) → (Nat → Int64) → Prop) (h : wpX2_readStatement post s_length s_place s_signs w_space w_beam w_door w_law w_used w_pipes w_drilled w_total w_open w_pipeInches w_pipeChances w_weights w_woods w_sums) : Met l yX2_readStatement (wz yX2_readStatement cX2_readStatement 3 (some .boolean)) ({ frames := 5, cells := 0, slots := 0, locals := 114 }) (va_Pc [.ref (a_s 0), .ref (a_w 0)] (PW D (tz cI cJ cC) G ((bX2 cI cJ cC a_s s_length s_place s_signs) ++ (bX3 cI cJ cC a_w w_space w_beam w_door w_law w_used w_pipes w_drilled w_total w_open w_pipeInches w_pipeChances w_weights w_woods w_sums)) sz)) (va_Qi (fun (r : Int32) (u : Int32 × Int32 × Int32 × Int32 × Int32 × Int32 × Int32 × Int64 × Int64 × Int32 × (Nat → Int32) × (Nat → Int32) × (Nat → Int64) × (Nat → Int32) × (Nat → Int64)) => post r u.1 u.2.1 u.2.2.1 u.2.2.2.1 u.2.2.2.2.1 u.2.2.2.2.2.1 u.2.2.2.2.2.2.1 u.2.2.2.2.2.2.2.1 u.2.2.2.2.2.2.2.2.1 u.2.2.2.2.2.2.2.2.2.1 u.2.2.2.2.2.2.2.2.2.2.1 u.2.2.2.2.2.2.2.2.2.2.2.1 u.2.2.2.2.2.2.2.2.2.2.2.2.1 u.2.2.2.2.2.2.2.2.2.2.2.2.2.1 u.2.2.2.2.2.2.2.2.2.2.2.2.2.2) (fun (u : Int32 × Int32 × Int32 × Int32 × Int32 × Int32 × Int32 × Int64 × Int64 × Int32 × (Nat → Int32) × (Nat → Int32) × (Nat → Int64) × (Nat → Int32) × (Nat → Int64)) t => va_P D vwCl ((bX2 cI cJ cC a_s s_length u.1 s_signs) ++ (bX3 cI cJ cC a_w u.2.1 u.2.2.1 u.2.2.2.1 u.2.2.2.2.1 u.2.2.2.2.2.1 u.2.2.2.2.2.2.1 u.2.2.2.2.2.2.2.1 u.2.2.2.2.2.2.2.2.1 u.2.2.2.2.2.2.2.2.2.1 u.2.2.2.2.2.2.2.2.2.2.1 u.2.2.2.2.2.2.2.2.2.2.2.1 u.2.2.2.2.2.2.2.2.2.2.2.2.1 u.2.2.2.2.2.2.2.2.2.2.2.2.2.1 u.2.2.2.2.2.2.2.2.2.2.2.2.2.2)) t.heap) (va_A ((bX2 cI cJ cC a_s s_length s_place s_signs) ++ (bX3 cI cJ cC a_w w_space w_beam w_door w_law w_used w_pipes w_drilled w_total w_open w_pipeInches w_pipeChances w_weights w_woods w_sums)) sz)) 0 0 (va_A ((bX2 cI cJ cC a_s s_length s_place s_signs) ++ (bX3 cI cJ cC a_w w_space w_beam w_door w_law w_used w_pipes w_drilled w_total w_open w_pipeInches w_pipeChances w_weights w_woods w_sums)) sz) := by
  refine zmi (gw := fun (u : Int32 × Int32 × Int32 × Int32 × Int32 × Int32 × Int32 × Int64 × Int64 × Int32 × (Nat → Int32) × (Nat → Int32) × (Nat → Int64) × (Nat → Int32) × (Nat → Int64)) => (bX2 cI cJ cC a_s s_length u.1 s_signs) ++ (bX3 cI cJ cC a_w u.2.1 u.2.2.1 u.2.2.2.1 u.2.2.2.2.1 u.2.2.2.2.2.1 u.2.2.2.2.2.2.1 u.2.2.2.2.2.2.2.1 u.2.2.2.2.2.2.2.2.1 u.2.2.2.2.2.2.2.2.2.1 u.2.2.2.2.2.2.2.2.2.2.1 u.2.2.2.2.2.2.2.2.2.2.2.1 u.2.2.2.2.2.2.2.2.2.2.2.2.1 u.2.2.2.2.2.2.2.2.2.2.2.2.2.1 u.2.2.2.2.2.2.2.2.2.2.2.2.2.2)) (plainFor_of_name (by decide)) (Nat.le_of_ble_eq_true rfl) ?_
  intro p e s m below meth c A Q ls S hK hD hA hE hP hl hret
  obtain ⟨hx, hb, hml, hown, ht⟩ := id S
  have hS : va_S A s.heap s.heap [] := va_S.rf
  have hDD : ∀ ws : va_W, ws.map (fun q => q.1) = [a_s 0, a_s 1, a_w 0, a_w 1, a_w 2, a_w 3, a_w 4, a_w 5] → va_D A ws := fun ws hw => zD hD (hw.trans rfl)
  have hl : lv_has ls 3 [(0, .ref (a_s 0)), (1, .ref (a_w 0))] := hl
  unfold wpX2_readStatement at h
  refine lv_aload_n hx hb dX2_readStatement_0 rfl (lv_at hl 0 rfl) ?_
  refine lv_aload_n hx hb dX2_readStatement_1 rfl (lv_at hl 0 rfl) ?_
  refine va_get (D := D) (ci := 2) (v := .int s_place) (C := RX2) (T := TX2) (N := 3) hx hb ht inX2 hown hK hP 0 rfl rfl 2 (by decide) (ht _ fl_X2_19) (fun _ h9 => h9) rfl dX2_readStatement_2 ?_
  have hPw : va_P D vwCl ((bX2 cI cJ cC a_s s_length s_place s_signs)) _ := hP.sub [0, 1] rfl
  have hDw : va_D A ((bX2 cI cJ cC a_s s_length s_place s_signs)) := (hDD _ rfl).sub (ws := (bX2 cI cJ cC a_s s_length s_place s_signs) ++ (bX3 cI cJ cC a_w w_space w_beam w_door w_law w_used w_pipes w_drilled w_total w_open w_pipeInches w_pipeChances w_weights w_woods w_sums)) [0, 1] (by decide) rfl
  refine zci hA hDw hS (zrunV (As := [.int s_place]) (rest := []) S hK hA hE hPw hDw hS (mX2_signAt l D cI cJ cC G a_s _ s_length s_place s_signs s_place _ h) kX2_signAt ml_X2_26 ⟨rfl, rfl, by decide, by decide⟩ (q0 := 0) (ci := 2) rfl rfl rfl rfl hl.1 rfl (Nat.le_of_ble_eq_true rfl) dX2_readStatement_5 ⟨Nat.zero_le _, Nat.zero_le _⟩) (fun r_1 u H locs h hP1 hk1 hS => ?_)
  try dsimp only at h
  have hP : va_P D vwCl ((bX2 cI cJ cC a_s s_length s_place s_signs) ++ (bX3 cI cJ cC a_w w_space w_beam w_door w_law w_used w_pipes w_drilled w_total w_open w_pipeInches w_pipeChances w_weights w_woods w_sums)) H := zMerge hP (hDD _ rfl) [0, 1] rfl rfl hk1 hP1
  refine lv_istore_n (lv' := [(2, .int r_1), (0, .ref (a_s 0)), (1, .ref (a_w 0))]) hx hb dX2_readStatement_8 rfl hl (by decide) rfl (fun ls hl => ?_)
  refine lv_aload_n hx hb dX2_readStatement_9 rfl (lv_at hl 1 rfl) ?_
  have hPw : va_P D vwCl ((bX2 cI cJ cC a_s s_length s_place s_signs)) _ := hP.sub [0, 1] rfl
  have hDw : va_D A ((bX2 cI cJ cC a_s s_length s_place s_signs)) := (hDD _ rfl).sub (ws := (bX2 cI cJ cC a_s s_length s_place s_signs) ++ (bX3 cI cJ cC a_w w_space w_beam w_door w_law w_used w_pipes w_drilled w_total w_open w_pipeInches w_pipeChances w_weights w_woods w_sums)) [0, 1] (by decide) rfl
  refine zcv hA hDw hS (zrunV (As := []) (rest := []) S hK hA hE hPw hDw hS (mX2_skipSign l D cI cJ cC G a_s _ s_length s_place s_signs _ h) kX2_skipSign ml_X2_69 ⟨rfl, rfl, by decide, by decide⟩ (q0 := 0) (ci := 2) rfl rfl rfl rfl hl.1 rfl (Nat.le_of_ble_eq_true rfl) dX2_readStatement_10 ⟨Nat.zero_le _, Nat.zero_le _⟩) (fun s_place_2 H locs h hP1 hk1 hS => ?_)
  try dsimp only at h
  have hP : va_P D vwCl ((bX2 cI cJ cC a_s s_length s_place_2 s_signs) ++ (bX3 cI cJ cC a_w w_space w_beam w_door w_law w_used w_pipes w_drilled w_total w_open w_pipeInches w_pipeChances w_weights w_woods w_sums)) H := zMerge hP (hDD _ rfl) [0, 1] rfl rfl hk1 hP1
  refine lv_iload_n hx hb dX2_readStatement_13 rfl (lv_at hl 0 rfl) ?_
  by_cases z0 : r_1 = (100 : Int32)
  · replace h := h.1 z0
    refine lv_lookup (off := 62) (tgt := 76) hx hb dX2_readStatement_14 (by decide) (by rw [z0]; decide) (by decide) ?_
    refine lv_aload_n hx hb dX2_readStatement_76 rfl (lv_at hl 1 rfl) ?_
    refine lv_aload_n hx hb dX2_readStatement_77 rfl (lv_at hl 2 rfl) ?_
    refine zci hA (hDD _ rfl) hS (zrunV (As := [.ref (a_w 0)]) (rest := []) S hK hA hE hP (hDD _ rfl) hS (mX2_readDoor l D cI cJ cC G a_s a_w _ s_length s_place_2 s_signs w_space w_beam w_door w_law w_used w_pipes w_drilled w_total w_open w_pipeInches w_pipeChances w_weights w_woods w_sums _ h) kX2_readDoor ml_X2_79 ⟨rfl, rfl, by decide, by decide⟩ (q0 := 0) (ci := 2) rfl rfl rfl rfl hl.1 rfl (Nat.le_of_ble_eq_true rfl) dX2_readStatement_78 ⟨Nat.zero_le _, Nat.zero_le _⟩) (fun r_3 u H locs h hP1 hk1 hS => ?_)
    obtain ⟨s_place_4, w_door_5, w_used_6, w_total_7, w_open_8, w_weights_9, w_woods_10, w_sums_11⟩ := u
    dsimp only at h
    have hP : va_P D vwCl ((bX2 cI cJ cC a_s s_length s_place_4 s_signs) ++ (bX3 cI cJ cC a_w w_space w_beam w_door_5 w_law w_used_6 w_pipes w_drilled w_total_7 w_open_8 w_pipeInches w_pipeChances w_weights_9 w_woods_10 w_sums_11)) H := hP1
    exact hret r_3 (s_place_4, w_space, w_beam, w_door_5, w_law, w_used_6, w_pipes, w_drilled, w_total_7, w_open_8, w_pipeInches, w_pipeChances, w_weights_9, w_woods_10, w_sums_11) _ _ _ _ h.1 h.2 hP hS dX2_readStatement_81
  · replace h := h.2 z0
    by_cases z1 : r_1 = (108 : Int32)
    · replace h := h.1 z1
      refine lv_lookup (off := 56) (tgt := 70) hx hb dX2_readStatement_14 (by decide) (by rw [z1]; decide) (by decide) ?_
      refine lv_aload_n hx hb dX2_readStatement_70 rfl (lv_at hl 1 rfl) ?_
      refine lv_aload_n hx hb dX2_readStatement_71 rfl (lv_at hl 2 rfl) ?_
      refine zci hA (hDD _ rfl) hS (zrunV (As := [.ref (a_w 0)]) (rest := []) S hK hA hE hP (hDD _ rfl) hS (mX2_readLaw l D cI cJ cC G a_s a_w _ s_length s_place_2 s_signs w_space w_beam w_door w_law w_used w_pipes w_drilled w_total w_open w_pipeInches w_pipeChances w_weights w_woods w_sums _ h) kX2_readLaw ml_X2_76 ⟨rfl, rfl, by decide, by decide⟩ (q0 := 0) (ci := 2) rfl rfl rfl rfl hl.1 rfl (Nat.le_of_ble_eq_true rfl) dX2_readStatement_72 ⟨Nat.zero_le _, Nat.zero_le _⟩) (fun r_12 u H locs h hP1 hk1 hS => ?_)
      obtain ⟨s_place_13, w_law_14, w_used_15, w_total_16, w_open_17, w_weights_18, w_woods_19, w_sums_20⟩ := u
      dsimp only at h
      have hP : va_P D vwCl ((bX2 cI cJ cC a_s s_length s_place_13 s_signs) ++ (bX3 cI cJ cC a_w w_space w_beam w_door w_law_14 w_used_15 w_pipes w_drilled w_total_16 w_open_17 w_pipeInches w_pipeChances w_weights_18 w_woods_19 w_sums_20)) H := hP1
      exact hret r_12 (s_place_13, w_space, w_beam, w_door, w_law_14, w_used_15, w_pipes, w_drilled, w_total_16, w_open_17, w_pipeInches, w_pipeChances, w_weights_18, w_woods_19, w_sums_20) _ _ _ _ h.1 h.2 hP hS dX2_readStatement_75
    · replace h := h.2 z1
      by_cases z2 : r_1 = (110 : Int32)
      · replace h := h.1 z2
        refine lv_lookup (off := 74) (tgt := 88) hx hb dX2_readStatement_14 (by decide) (by rw [z2]; decide) (by decide) ?_
        refine lv_aload_n hx hb dX2_readStatement_88 rfl (lv_at hl 1 rfl) ?_
        refine lv_aload_n hx hb dX2_readStatement_89 rfl (lv_at hl 2 rfl) ?_
        refine zci hA (hDD _ rfl) hS (zrunV (As := [.ref (a_w 0)]) (rest := []) S hK hA hE hP (hDD _ rfl) hS (mX2_readNail l D cI cJ cC G a_s a_w _ s_length s_place_2 s_signs w_space w_beam w_door w_law w_used w_pipes w_drilled w_total w_open w_pipeInches w_pipeChances w_weights w_woods w_sums _ h) kX2_readNail ml_X2_85 ⟨rfl, rfl, by decide, by decide⟩ (q0 := 0) (ci := 2) rfl rfl rfl rfl hl.1 rfl (Nat.le_of_ble_eq_true rfl) dX2_readStatement_90 ⟨Nat.zero_le _, Nat.zero_le _⟩) (fun r_21 u H locs h hP1 hk1 hS => ?_)
        obtain ⟨s_place_22, w_drilled_23, w_total_24, w_open_25, w_weights_26, w_sums_27⟩ := u
        dsimp only at h
        have hP : va_P D vwCl ((bX2 cI cJ cC a_s s_length s_place_22 s_signs) ++ (bX3 cI cJ cC a_w w_space w_beam w_door w_law w_used w_pipes w_drilled_23 w_total_24 w_open_25 w_pipeInches w_pipeChances w_weights_26 w_woods w_sums_27)) H := hP1
        exact hret r_21 (s_place_22, w_space, w_beam, w_door, w_law, w_used, w_pipes, w_drilled_23, w_total_24, w_open_25, w_pipeInches, w_pipeChances, w_weights_26, w_woods, w_sums_27) _ _ _ _ h.1 h.2 hP hS dX2_readStatement_93
      · replace h := h.2 z2
        by_cases z3 : r_1 = (115 : Int32)
        · replace h := h.1 z3
          refine lv_lookup (off := 50) (tgt := 64) hx hb dX2_readStatement_14 (by decide) (by rw [z3]; decide) (by decide) ?_
          refine lv_aload_n hx hb dX2_readStatement_64 rfl (lv_at hl 1 rfl) ?_
          refine lv_aload_n hx hb dX2_readStatement_65 rfl (lv_at hl 2 rfl) ?_
          refine zci hA (hDD _ rfl) hS (zrunV (As := [.ref (a_w 0)]) (rest := []) S hK hA hE hP (hDD _ rfl) hS (mX2_readSpaces l D cI cJ cC G a_s a_w _ s_length s_place_2 s_signs w_space w_beam w_door w_law w_used w_pipes w_drilled w_total w_open w_pipeInches w_pipeChances w_weights w_woods w_sums _ h) kX2_readSpaces ml_X2_72 ⟨rfl, rfl, by decide, by decide⟩ (q0 := 0) (ci := 2) rfl rfl rfl rfl hl.1 rfl (Nat.le_of_ble_eq_true rfl) dX2_readStatement_66 ⟨Nat.zero_le _, Nat.zero_le _⟩) (fun r_28 u H locs h hP1 hk1 hS => ?_)
          obtain ⟨s_place_29, w_space_30, w_beam_31, w_used_32, w_total_33, w_open_34, w_weights_35, w_woods_36, w_sums_37⟩ := u
          dsimp only at h
          have hP : va_P D vwCl ((bX2 cI cJ cC a_s s_length s_place_29 s_signs) ++ (bX3 cI cJ cC a_w w_space_30 w_beam_31 w_door w_law w_used_32 w_pipes w_drilled w_total_33 w_open_34 w_pipeInches w_pipeChances w_weights_35 w_woods_36 w_sums_37)) H := hP1
          exact hret r_28 (s_place_29, w_space_30, w_beam_31, w_door, w_law, w_used_32, w_pipes, w_drilled, w_total_33, w_open_34, w_pipeInches, w_pipeChances, w_weights_35, w_woods_36, w_sums_37) _ _ _ _ h.1 h.2 hP hS dX2_readStatement_69
        · replace h := h.2 z3
          by_cases z4 : r_1 = (116 : Int32)
          · replace h := h.1 z4
            refine lv_lookup (off := 68) (tgt := 82) hx hb dX2_readStatement_14 (by decide) (by rw [z4]; decide) (by decide) ?_
            refine lv_aload_n hx hb dX2_readStatement_82 rfl (lv_at hl 1 rfl) ?_
            refine lv_aload_n hx hb dX2_readStatement_83 rfl (lv_at hl 2 rfl) ?_
            refine zci hA (hDD _ rfl) hS (zrunV (As := [.ref (a_w 0)]) (rest := []) S hK hA hE hP (hDD _ rfl) hS (mX2_readTelling l D cI cJ cC G a_s a_w _ s_length s_place_2 s_signs w_space w_beam w_door w_law w_used w_pipes w_drilled w_total w_open w_pipeInches w_pipeChances w_weights w_woods w_sums _ h) kX2_readTelling ml_X2_82 ⟨rfl, rfl, by decide, by decide⟩ (q0 := 0) (ci := 2) rfl rfl rfl rfl hl.1 rfl (Nat.le_of_ble_eq_true rfl) dX2_readStatement_84 ⟨Nat.zero_le _, Nat.zero_le _⟩) (fun r_38 u H locs h hP1 hk1 hS => ?_)
            obtain ⟨s_place_39, w_used_40, w_drilled_41, w_total_42, w_open_43, w_weights_44, w_sums_45⟩ := u
            dsimp only at h
            have hP : va_P D vwCl ((bX2 cI cJ cC a_s s_length s_place_39 s_signs) ++ (bX3 cI cJ cC a_w w_space w_beam w_door w_law w_used_40 w_pipes w_drilled_41 w_total_42 w_open_43 w_pipeInches w_pipeChances w_weights_44 w_woods w_sums_45)) H := hP1
            exact hret r_38 (s_place_39, w_space, w_beam, w_door, w_law, w_used_40, w_pipes, w_drilled_41, w_total_42, w_open_43, w_pipeInches, w_pipeChances, w_weights_44, w_woods, w_sums_45) _ _ _ _ h.1 h.2 hP hS dX2_readStatement_87
          · replace h := h.2 z4
            refine lv_lookup (off := 80) (tgt := 94) hx hb dX2_readStatement_14 (by decide) (by rw [show (#[(100, 62), (108, 56), (110, 74), (115, 50), (116, 68)] : Array (Int × Int)).toList = [(100, 62), (108, 56), (110, 74), (115, 50), (116, 68)] from rfl, lv_osw z0 (by decide), lv_osw z1 (by decide), lv_osw z2 (by decide), lv_osw z3 (by decide), lv_osw z4 (by decide)]; rfl) (by decide) ?_
            refine lv_aload_n hx hb dX2_readStatement_94 rfl (lv_at hl 1 rfl) ?_
            refine lv_aload_n hx hb dX2_readStatement_95 rfl (lv_at hl 2 rfl) ?_
            refine zci hA (hDD _ rfl) hS (zrunV (As := [.ref (a_w 0)]) (rest := []) S hK hA hE hP (hDD _ rfl) hS (mX2_readPipe l D cI cJ cC G a_s a_w _ s_length s_place_2 s_signs w_space w_beam w_door w_law w_used w_pipes w_drilled w_total w_open w_pipeInches w_pipeChances w_weights w_woods w_sums _ h) kX2_readPipe ml_X2_88 ⟨rfl, rfl, by decide, by decide⟩ (q0 := 0) (ci := 2) rfl rfl rfl rfl hl.1 rfl (Nat.le_of_ble_eq_true rfl) dX2_readStatement_96 ⟨Nat.zero_le _, Nat.zero_le _⟩) (fun r_46 u H locs h hP1 hk1 hS => ?_)
            obtain ⟨s_place_47, w_pipes_48, w_pipeInches_49, w_pipeChances_50⟩ := u
            dsimp only at h
            have hP : va_P D vwCl ((bX2 cI cJ cC a_s s_length s_place_47 s_signs) ++ (bX3 cI cJ cC a_w w_space w_beam w_door w_law w_used w_pipes_48 w_drilled w_total w_open w_pipeInches_49 w_pipeChances_50 w_weights w_woods w_sums)) H := hP1
            exact hret r_46 (s_place_47, w_space, w_beam, w_door, w_law, w_used, w_pipes_48, w_drilled, w_total, w_open, w_pipeInches_49, w_pipeChances_50, w_weights, w_woods, w_sums) _ _ _ _ h.1 h.2 hP hS dX2_readStatement_99
def wpX4_refuse (post : Int32 → (Nat → Int32) → Prop) (T_refusals : Nat → Int32) (p1 : Int32) : Prop := vp_in (-p1) 7 ∧ (vp_in (-p1) 7 ∧ (post p1 (upd T_refusals (-p1).toNatClampNeg ((T_refusals (-p1).toNatClampNeg) + (1 : Int32)))))
set_option maxHeartbeats 4000000 in
set_option maxRecDepth 100000 in
theorem mX4_refuse (l : Launch) (D : va_G) (cI cJ cC : ClassId) (G : Nat → Nat → Nat) (a_T : Nat → Nat) (a_n : Nat → Nat) (a_k : Nat → Nat) (a_t : Nat → Nat) (a_s : Nat → Nat) (a_r : Nat → Nat) (a_c : Nat → Nat) (sz : Nat) (T_isKept : Int32) (T_refusals : Nat → Int32) (p1 : Int32) (post : Int32 → (Nat → Int32) → Prop) (h : wpX4_refuse post T_refusals p1) : Met l yX4_refuse (wz yX4_refuse cX4_refuse 2 (some .int)) ({ frames := 0, cells := 0, slots := 0, locals := 0 }) (va_Pc [.ref (a_T 0), .int p1] (PW D (tz cI cJ cC) G ((bX4 cI cJ cC a_T a_n a_k a_t a_s a_r a_c T_isKept T_refusals)) sz)) (va_Qi (fun (r : Int32) (u : (Nat → Int32)) => post r u) (fun (u : (Nat → Int32)) t => va_P D vwCl ((bX4 cI cJ cC a_T a_n a_k a_t a_s a_r a_c T_isKept u)) t.heap) (va_A ((bX4 cI cJ cC a_T a_n a_k a_t a_s a_r a_c T_isKept T_refusals)) sz)) 0 0 (va_A ((bX4 cI cJ cC a_T a_n a_k a_t a_s a_r a_c T_isKept T_refusals)) sz) := by
  refine zmi (gw := fun (u : (Nat → Int32)) => (bX4 cI cJ cC a_T a_n a_k a_t a_s a_r a_c T_isKept u)) (plainFor_of_name (by decide)) (Nat.le_of_ble_eq_true rfl) ?_
  intro p e s m below meth c A Q ls S hK hD hA hE hP hl hret
  obtain ⟨hx, hb, hml, hown, ht⟩ := id S
  have hS : va_S A s.heap s.heap [] := va_S.rf
  have hDD : ∀ ws : va_W, ws.map (fun q => q.1) = [a_T 0, a_T 1] → va_D A ws := fun ws hw => zD hD (hw.trans rfl)
  have hl : lv_has ls 2 [(0, .ref (a_T 0)), (1, .int p1)] := hl
  unfold wpX4_refuse at h
  refine lv_aload_n hx hb dX4_refuse_0 rfl (lv_at hl 0 rfl) ?_
  refine va_get (D := D) (ci := 4) (v := .ref (a_T 1)) (C := RX4) (T := TX4) (N := 8) hx hb ht inX4 hown hK hP 0 rfl rfl 6 (by decide) (ht _ fl_X4_43) (fun _ h9 => h9) rfl dX4_refuse_1 ?_
  refine lv_iload_n hx hb dX4_refuse_4 rfl (lv_at hl 1 rfl) ?_
  refine lv_ineg hx hb dX4_refuse_5 ?_
  refine lv_dup2_11 hx hb dX4_refuse_6 rfl rfl ?_
  obtain ⟨hin, h⟩ := h
  refine va_iald hx hb hK hP 1 0 rfl rfl hin dX4_refuse_7 ?_
  refine lv_iconst (v := (1 : Int32)) hx hb dX4_refuse_8 (by decide) ?_
  refine lv_iadd hx hb dX4_refuse_9 ?_
  obtain ⟨hin, h⟩ := h
  refine va_iast hx hb hK hP (hDD _ rfl) hS 1 0 rfl rfl hin dX4_refuse_10 (fun H locs hP _ hS => ?_)
  have hP : va_P D vwCl ((bX4 cI cJ cC a_T a_n a_k a_t a_s a_r a_c T_isKept (upd T_refusals (-p1).toNatClampNeg ((T_refusals (-p1).toNatClampNeg) + (1 : Int32))))) H := hP
  refine lv_iload_n hx hb dX4_refuse_11 rfl (lv_at hl 1 rfl) ?_
  exact hret p1 (upd T_refusals (-p1).toNatClampNeg ((T_refusals (-p1).toNatClampNeg) + (1 : Int32))) _ _ _ _ rfl h hP hS dX4_refuse_12
def wpX4_letter (post : Int32 → (Nat → Int32) → Int32 → (Nat → Int32) → Prop) (T_refusals : Nat → Int32) (s_length : Int32) (s_signs : Nat → Int32) (p1 : Int32) : Prop := (((0 : Int32) ≤ p1 → ((((255 : Int32) < p1 → (wpX4_refuse (fun (r_1 : Int32) (T_refusals_2 : Nat → Int32) => post r_1 T_refusals_2 s_length s_signs) T_refusals (-6 : Int32))) ∧ (¬ ((255 : Int32) < p1) → (((s_length < (96 : Int32) → (vp_in s_length 96 ∧ (post (s_length + (1 : Int32)) T_refusals (s_length + (1 : Int32)) (upd s_signs s_length.toNatClampNeg (vp_nar .char ((p1.toUInt32 % 65536).toInt32)))))) ∧ (¬ (s_length < (96 : Int32)) → (wpX4_refuse (fun (r_3 : Int32) (T_refusals_4 : Nat → Int32) => post r_3 T_refusals_4 s_length s_signs) T_refusals (-6 : Int32))))))))) ∧ (¬ ((0 : Int32) ≤ p1) → (wpX4_refuse (fun (r_5 : Int32) (T_refusals_6 : Nat → Int32) => post r_5 T_refusals_6 s_length s_signs) T_refusals (-4 : Int32))))
set_option maxHeartbeats 4000000 in
set_option maxRecDepth 100000 in
theorem mX4_letter (l : Launch) (D : va_G) (cI cJ cC : ClassId) (G : Nat → Nat → Nat) (a_T : Nat → Nat) (a_n : Nat → Nat) (a_k : Nat → Nat) (a_t : Nat → Nat) (a_s : Nat → Nat) (a_r : Nat → Nat) (a_c : Nat → Nat) (sz : Nat) (T_isKept : Int32) (T_refusals : Nat → Int32) (s_length : Int32) (s_place : Int32) (s_signs : Nat → Int32) (p1 : Int32) (post : Int32 → (Nat → Int32) → Int32 → (Nat → Int32) → Prop) (h : wpX4_letter post T_refusals s_length s_signs p1) : Met l yX4_letter (wz yX4_letter cX4_letter 2 (some .int)) ({ frames := 1, cells := 0, slots := 0, locals := 21 }) (va_Pc [.ref (a_T 0), .int p1] (PW D (tz cI cJ cC) G ((bX4 cI cJ cC a_T a_n a_k a_t a_s a_r a_c T_isKept T_refusals) ++ (bX2 cI cJ cC a_s s_length s_place s_signs)) sz)) (va_Qi (fun (r : Int32) (u : (Nat → Int32) × Int32 × (Nat → Int32)) => post r u.1 u.2.1 u.2.2) (fun (u : (Nat → Int32) × Int32 × (Nat → Int32)) t => va_P D vwCl ((bX4 cI cJ cC a_T a_n a_k a_t a_s a_r a_c T_isKept u.1) ++ (bX2 cI cJ cC a_s u.2.1 s_place u.2.2)) t.heap) (va_A ((bX4 cI cJ cC a_T a_n a_k a_t a_s a_r a_c T_isKept T_refusals) ++ (bX2 cI cJ cC a_s s_length s_place s_signs)) sz)) 0 0 (va_A ((bX4 cI cJ cC a_T a_n a_k a_t a_s a_r a_c T_isKept T_refusals) ++ (bX2 cI cJ cC a_s s_length s_place s_signs)) sz) := by
  refine zmi (gw := fun (u : (Nat → Int32) × Int32 × (Nat → Int32)) => (bX4 cI cJ cC a_T a_n a_k a_t a_s a_r a_c T_isKept u.1) ++ (bX2 cI cJ cC a_s u.2.1 s_place u.2.2)) (plainFor_of_name (by decide)) (Nat.le_of_ble_eq_true rfl) ?_
  intro p e s m below meth c A Q ls S hK hD hA hE hP hl hret
  obtain ⟨hx, hb, hml, hown, ht⟩ := id S
  have hS : va_S A s.heap s.heap [] := va_S.rf
  have hDD : ∀ ws : va_W, ws.map (fun q => q.1) = [a_T 0, a_T 1, a_s 0, a_s 1] → va_D A ws := fun ws hw => zD hD (hw.trans rfl)
  have hl : lv_has ls 2 [(0, .ref (a_T 0)), (1, .int p1)] := hl
  unfold wpX4_letter at h
  refine lv_iload_n hx hb dX4_letter_0 rfl (lv_at hl 1 rfl) ?_
  refine lv_if_ge (tgt := 11) hx hb dX4_letter_1 (by decide) (fun z => ?_) (fun z => ?_)
  · replace h := h.1 z
    refine lv_iload_n hx hb dX4_letter_11 rfl (lv_at hl 1 rfl) ?_
    refine lv_sipush (v := (255 : Int32)) hx hb dX4_letter_12 (by decide) ?_
    refine lv_icmp_gt (tgt := 30) hx hb dX4_letter_15 (by decide) (fun z => ?_) (fun z => ?_)
    · replace h := h.1 z
      refine lv_aload_n hx hb dX4_letter_30 rfl (lv_at hl 0 rfl) ?_
      refine lv_bipush (v := (-6 : Int32)) hx hb dX4_letter_31 (by decide) ?_
      have hPw : va_P D vwCl ((bX4 cI cJ cC a_T a_n a_k a_t a_s a_r a_c T_isKept T_refusals)) _ := hP.sub [0, 1] rfl
      have hDw : va_D A ((bX4 cI cJ cC a_T a_n a_k a_t a_s a_r a_c T_isKept T_refusals)) := (hDD _ rfl).sub (ws := (bX4 cI cJ cC a_T a_n a_k a_t a_s a_r a_c T_isKept T_refusals) ++ (bX2 cI cJ cC a_s s_length s_place s_signs)) [0, 1] (by decide) rfl
      refine zci hA hDw hS (zrunV (As := [.int (-6 : Int32)]) (rest := []) S hK hA hE hPw hDw hS (mX4_refuse l D cI cJ cC G a_T a_n a_k a_t a_s a_r a_c _ T_isKept T_refusals (-6 : Int32) _ h) kX4_refuse ml_X4_51 ⟨rfl, rfl, by decide, by decide⟩ (q0 := 0) (ci := 4) rfl rfl rfl rfl hl.1 rfl (Nat.le_of_ble_eq_true rfl) dX4_letter_33 ⟨Nat.zero_le _, Nat.zero_le _⟩) (fun r_1 T_refusals_2 H locs h hP1 hk1 hS => ?_)
      try dsimp only at h
      have hP : va_P D vwCl ((bX4 cI cJ cC a_T a_n a_k a_t a_s a_r a_c T_isKept T_refusals_2) ++ (bX2 cI cJ cC a_s s_length s_place s_signs)) H := zMerge hP (hDD _ rfl) [0, 1] rfl rfl hk1 hP1
      exact hret r_1 (T_refusals_2, s_length, s_signs) _ _ _ _ rfl h hP hS dX4_letter_36
    · replace h := h.2 z
      refine lv_aload_n hx hb dX4_letter_18 rfl (lv_at hl 0 rfl) ?_
      refine va_get (D := D) (ci := 4) (v := .ref (a_s 0)) (C := RX4) (T := TX4) (N := 8) hx hb ht inX4 hown hK hP 0 rfl rfl 3 (by decide) (ht _ fl_X4_25) (fun _ h9 => h9) rfl dX4_letter_19 ?_
      refine va_get (D := D) (ci := 2) (v := .int s_length) (C := RX2) (T := TX2) (N := 3) hx hb ht inX2 hown hK hP 2 rfl rfl 1 (by decide) (ht _ fl_X4_55) (fun _ h9 => h9) rfl dX4_letter_22 ?_
      refine lv_bipush (v := (96 : Int32)) hx hb dX4_letter_25 (by decide) ?_
      refine lv_icmp_lt (tgt := 37) hx hb dX4_letter_27 (by decide) (fun z => ?_) (fun z => ?_)
      · replace h := h.1 z
        refine lv_aload_n hx hb dX4_letter_37 rfl (lv_at hl 0 rfl) ?_
        refine va_get (D := D) (ci := 4) (v := .ref (a_s 0)) (C := RX4) (T := TX4) (N := 8) hx hb ht inX4 hown hK hP 0 rfl rfl 3 (by decide) (ht _ fl_X4_25) (fun _ h9 => h9) rfl dX4_letter_38 ?_
        refine va_get (D := D) (ci := 2) (v := .ref (a_s 1)) (C := RX2) (T := TX2) (N := 3) hx hb ht inX2 hown hK hP 2 rfl rfl 0 (by decide) (ht _ fl_X4_59) (fun _ h9 => h9) rfl dX4_letter_41 ?_
        refine lv_aload_n hx hb dX4_letter_44 rfl (lv_at hl 0 rfl) ?_
        refine va_get (D := D) (ci := 4) (v := .ref (a_s 0)) (C := RX4) (T := TX4) (N := 8) hx hb ht inX4 hown hK hP 0 rfl rfl 3 (by decide) (ht _ fl_X4_25) (fun _ h9 => h9) rfl dX4_letter_45 ?_
        refine va_get (D := D) (ci := 2) (v := .int s_length) (C := RX2) (T := TX2) (N := 3) hx hb ht inX2 hown hK hP 2 rfl rfl 1 (by decide) (ht _ fl_X4_55) (fun _ h9 => h9) rfl dX4_letter_48 ?_
        refine lv_iload_n hx hb dX4_letter_51 rfl (lv_at hl 1 rfl) ?_
        refine lv_i2c hx hb dX4_letter_52 rfl ?_
        obtain ⟨hin, h⟩ := h
        refine va_cast hx hb hK hP (hDD _ rfl) hS 3 2 rfl rfl hin dX4_letter_53 (fun H locs hP _ hS => ?_)
        have hP : va_P D vwCl ((bX4 cI cJ cC a_T a_n a_k a_t a_s a_r a_c T_isKept T_refusals) ++ (bX2 cI cJ cC a_s s_length s_place (upd s_signs s_length.toNatClampNeg (vp_nar .char ((p1.toUInt32 % 65536).toInt32))))) H := hP
        refine lv_aload_n hx hb dX4_letter_54 rfl (lv_at hl 0 rfl) ?_
        refine va_get (D := D) (ci := 4) (v := .ref (a_s 0)) (C := RX4) (T := TX4) (N := 8) hx hb ht inX4 hown hK hP 0 rfl rfl 3 (by decide) (ht _ fl_X4_25) (fun _ h9 => h9) rfl dX4_letter_55 ?_
        refine lv_dup hx hb dX4_letter_58 rfl ?_
        refine va_get (D := D) (ci := 2) (v := .int s_length) (C := RX2) (T := TX2) (N := 3) hx hb ht inX2 hown hK hP 2 rfl rfl 1 (by decide) (ht _ fl_X4_55) (fun _ h9 => h9) rfl dX4_letter_59 ?_
        refine lv_iconst (v := (1 : Int32)) hx hb dX4_letter_62 (by decide) ?_
        refine lv_iadd hx hb dX4_letter_63 ?_
        refine va_put (D := D) (ci := 2) (v := .int (s_length + (1 : Int32))) (ty := .int) (C := RX2) (T := TX2) (N := 3) hx hb ht inX2 tyX2 tyX2_ok nmX2 hown hK hP (hDD _ rfl) hS 2 rfl rfl 1 (by decide) (ht _ fl_X4_55) (fun _ h9 => h9) rfl (by decide +kernel) rfl rfl (Nat.le_of_ble_eq_true rfl) dX4_letter_64 (fun H locs hP _ hS => ?_)
        have hP : va_P D vwCl ((bX4 cI cJ cC a_T a_n a_k a_t a_s a_r a_c T_isKept T_refusals) ++ (bX2 cI cJ cC a_s (s_length + (1 : Int32)) s_place (upd s_signs s_length.toNatClampNeg (vp_nar .char ((p1.toUInt32 % 65536).toInt32))))) H := hP
        refine lv_aload_n hx hb dX4_letter_67 rfl (lv_at hl 0 rfl) ?_
        refine va_get (D := D) (ci := 4) (v := .ref (a_s 0)) (C := RX4) (T := TX4) (N := 8) hx hb ht inX4 hown hK hP 0 rfl rfl 3 (by decide) (ht _ fl_X4_25) (fun _ h9 => h9) rfl dX4_letter_68 ?_
        refine va_get (D := D) (ci := 2) (v := .int (s_length + (1 : Int32))) (C := RX2) (T := TX2) (N := 3) hx hb ht inX2 hown hK hP 2 rfl rfl 1 (by decide) (ht _ fl_X4_55) (fun _ h9 => h9) rfl dX4_letter_71 ?_
        exact hret (s_length + (1 : Int32)) (T_refusals, s_length + (1 : Int32), upd s_signs s_length.toNatClampNeg (vp_nar .char ((p1.toUInt32 % 65536).toInt32))) _ _ _ _ rfl h hP hS dX4_letter_74
      · replace h := h.2 z
        refine lv_aload_n hx hb dX4_letter_30 rfl (lv_at hl 0 rfl) ?_
        refine lv_bipush (v := (-6 : Int32)) hx hb dX4_letter_31 (by decide) ?_
        have hPw : va_P D vwCl ((bX4 cI cJ cC a_T a_n a_k a_t a_s a_r a_c T_isKept T_refusals)) _ := hP.sub [0, 1] rfl
        have hDw : va_D A ((bX4 cI cJ cC a_T a_n a_k a_t a_s a_r a_c T_isKept T_refusals)) := (hDD _ rfl).sub (ws := (bX4 cI cJ cC a_T a_n a_k a_t a_s a_r a_c T_isKept T_refusals) ++ (bX2 cI cJ cC a_s s_length s_place s_signs)) [0, 1] (by decide) rfl
        refine zci hA hDw hS (zrunV (As := [.int (-6 : Int32)]) (rest := []) S hK hA hE hPw hDw hS (mX4_refuse l D cI cJ cC G a_T a_n a_k a_t a_s a_r a_c _ T_isKept T_refusals (-6 : Int32) _ h) kX4_refuse ml_X4_51 ⟨rfl, rfl, by decide, by decide⟩ (q0 := 0) (ci := 4) rfl rfl rfl rfl hl.1 rfl (Nat.le_of_ble_eq_true rfl) dX4_letter_33 ⟨Nat.zero_le _, Nat.zero_le _⟩) (fun r_3 T_refusals_4 H locs h hP1 hk1 hS => ?_)
        try dsimp only at h
        have hP : va_P D vwCl ((bX4 cI cJ cC a_T a_n a_k a_t a_s a_r a_c T_isKept T_refusals_4) ++ (bX2 cI cJ cC a_s s_length s_place s_signs)) H := zMerge hP (hDD _ rfl) [0, 1] rfl rfl hk1 hP1
        exact hret r_3 (T_refusals_4, s_length, s_signs) _ _ _ _ rfl h hP hS dX4_letter_36
  · replace h := h.2 z
    refine lv_aload_n hx hb dX4_letter_4 rfl (lv_at hl 0 rfl) ?_
    refine lv_bipush (v := (-4 : Int32)) hx hb dX4_letter_5 (by decide) ?_
    have hPw : va_P D vwCl ((bX4 cI cJ cC a_T a_n a_k a_t a_s a_r a_c T_isKept T_refusals)) _ := hP.sub [0, 1] rfl
    have hDw : va_D A ((bX4 cI cJ cC a_T a_n a_k a_t a_s a_r a_c T_isKept T_refusals)) := (hDD _ rfl).sub (ws := (bX4 cI cJ cC a_T a_n a_k a_t a_s a_r a_c T_isKept T_refusals) ++ (bX2 cI cJ cC a_s s_length s_place s_signs)) [0, 1] (by decide) rfl
    refine zci hA hDw hS (zrunV (As := [.int (-4 : Int32)]) (rest := []) S hK hA hE hPw hDw hS (mX4_refuse l D cI cJ cC G a_T a_n a_k a_t a_s a_r a_c _ T_isKept T_refusals (-4 : Int32) _ h) kX4_refuse ml_X4_51 ⟨rfl, rfl, by decide, by decide⟩ (q0 := 0) (ci := 4) rfl rfl rfl rfl hl.1 rfl (Nat.le_of_ble_eq_true rfl) dX4_letter_7 ⟨Nat.zero_le _, Nat.zero_le _⟩) (fun r_5 T_refusals_6 H locs h hP1 hk1 hS => ?_)
    try dsimp only at h
    have hP : va_P D vwCl ((bX4 cI cJ cC a_T a_n a_k a_t a_s a_r a_c T_isKept T_refusals_6) ++ (bX2 cI cJ cC a_s s_length s_place s_signs)) H := zMerge hP (hDD _ rfl) [0, 1] rfl rfl hk1 hP1
    exact hret r_5 (T_refusals_6, s_length, s_signs) _ _ _ _ rfl h hP hS dX4_letter_10
def lpX4_wall_45 (K : Int32 → Int32 → Int32 → Int32 → Int32 → Int32 → Int32 → Int64 → Int64 → Int32 → (Nat → Int32) → (Nat → Int32) → (Nat → Int64) → (Nat → Int32) → (Nat → Int64) → Int32 → Prop) (s_length : Int32) (s_signs : Nat → Int32) : Nat → Int32 → Int32 → Int32 → Int32 → Int32 → Int32 → Int32 → Int64 → Int64 → Int32 → (Nat → Int32) → (Nat → Int32) → (Nat → Int64) → (Nat → Int32) → (Nat → Int64) → Int32 → Prop
  | 0, _, _, _, _, _, _, _, _, _, _, _, _, _, _, _, _ => False
  | n + 1, x1, t_space, t_beam, t_door, t_law, t_used, t_pipes, t_drilled, t_total, t_open, t_pipeInches, t_pipeChances, t_weights, t_woods, t_sums, s_place => ((x1 < (0 : Int32) → (K x1 t_space t_beam t_door t_law t_used t_pipes t_drilled t_total t_open t_pipeInches t_pipeChances t_weights t_woods t_sums s_place)) ∧ (¬ (x1 < (0 : Int32)) → ((((96 : Int32) ≤ x1 → (K x1 t_space t_beam t_door t_law t_used t_pipes t_drilled t_total t_open t_pipeInches t_pipeChances t_weights t_woods t_sums s_place)) ∧ (¬ ((96 : Int32) ≤ x1) → (((s_length ≤ s_place → (K x1 t_space t_beam t_door t_law t_used t_pipes t_drilled t_total t_open t_pipeInches t_pipeChances t_weights t_woods t_sums s_place)) ∧ (¬ (s_length ≤ s_place) → (wpX2_readStatement (fun (r_17 : Int32) (s_place_18 : Int32) (t_space_19 : Int32) (t_beam_20 : Int32) (t_door_21 : Int32) (t_law_22 : Int32) (t_used_23 : Int32) (t_pipes_24 : Int32) (t_drilled_25 : Int64) (t_total_26 : Int64) (t_open_27 : Int32) (t_pipeInches_28 : Nat → Int32) (t_pipeChances_29 : Nat → Int32) (t_weights_30 : Nat → Int64) (t_woods_31 : Nat → Int32) (t_sums_32 : Nat → Int64) => ((r_17 = (0 : Int32) → (lpX4_wall_45 K s_length s_signs n ((-2000 : Int32) - s_place) t_space_19 t_beam_20 t_door_21 t_law_22 t_used_23 t_pipes_24 t_drilled_25 t_total_26 t_open_27 t_pipeInches_28 t_pipeChances_29 t_weights_30 t_woods_31 t_sums_32 s_place_18)) ∧ (¬ (r_17 = (0 : Int32)) → (lpX4_wall_45 K s_length s_signs n (x1 + (1 : Int32)) t_space_19 t_beam_20 t_door_21 t_law_22 t_used_23 t_pipes_24 t_drilled_25 t_total_26 t_open_27 t_pipeInches_28 t_pipeChances_29 t_weights_30 t_woods_31 t_sums_32 s_place_18)))) s_length s_place s_signs t_space t_beam t_door t_law t_used t_pipes t_drilled t_total t_open t_pipeInches t_pipeChances t_weights t_woods t_sums)))))))))
set_option maxHeartbeats 4000000 in
set_option maxRecDepth 100000 in
theorem wX4_wall_45 (l : Launch) (D : va_G) (cI cJ cC : ClassId) (G : Nat → Nat → Nat) (a_T : Nat → Nat) (a_n : Nat → Nat) (a_k : Nat → Nat) (a_t : Nat → Nat) (a_s : Nat → Nat) (a_r : Nat → Nat) (a_c : Nat → Nat) {p : Program} {e : Env} {s : State} {m : MethodId} {below : List Frame} {meth : Method} {c : Code} {A : Nat → Prop} {Q : State → Prop} (T_isKept : Int32) (T_refusals : Nat → Int32) (n_space : Int32) (n_beam : Int32) (n_door : Int32) (n_law : Int32) (n_used : Int32) (n_pipes : Int32) (n_drilled : Int64) (n_total : Int64) (n_open : Int32) (n_pipeInches : Nat → Int32) (n_pipeChances : Nat → Int32) (n_weights : Nat → Int64) (n_woods : Nat → Int32) (n_sums : Nat → Int64) (s_length : Int32) (s_signs : Nat → Int32) (K : Int32 → Int32 → Int32 → Int32 → Int32 → Int32 → Int32 → Int64 → Int64 → Int32 → (Nat → Int32) → (Nat → Int32) → (Nat → Int64) → (Nat → Int32) → (Nat → Int64) → Int32 → Prop) (S : CallFix p m c cX4_wall 3 s ([.ref (a_T 0)] : List Value).toArray bg RX4) (hK : va_K D vwCl (tz cI cJ cC) s) (hDD : ∀ ws : va_W, ws.map (fun q => q.1) = [a_T 0, a_T 1, a_n 0, a_n 1, a_n 2, a_n 3, a_n 4, a_n 5, a_t 0, a_t 1, a_t 2, a_t 3, a_t 4, a_t 5, a_s 0, a_s 1] → va_D A ws) (hA : ∀ q, s.heap.size ≤ q → A q) (hE : EV G A s) (hKK : ∀ (x1 : Int32) (t_space : Int32) (t_beam : Int32) (t_door : Int32) (t_law : Int32) (t_used : Int32) (t_pipes : Int32) (t_drilled : Int64) (t_total : Int64) (t_open : Int32) (t_pipeInches : Nat → Int32) (t_pipeChances : Nat → Int32) (t_weights : Nat → Int64) (t_woods : Nat → Int32) (t_sums : Nat → Int64) (s_place : Int32) (H : Heap) (locs : List Loc) (ls : Array Slot), K x1 t_space t_beam t_door t_law t_used t_pipes t_drilled t_total t_open t_pipeInches t_pipeChances t_weights t_woods t_sums s_place → va_P D vwCl ((bX4 cI cJ cC a_T a_n a_k a_t a_s a_r a_c T_isKept T_refusals) ++ (bX3 cI cJ cC a_n n_space n_beam n_door n_law n_used n_pipes n_drilled n_total n_open n_pipeInches n_pipeChances n_weights n_woods n_sums) ++ (bX3 cI cJ cC a_t t_space t_beam t_door t_law t_used t_pipes t_drilled t_total t_open t_pipeInches t_pipeChances t_weights t_woods t_sums) ++ (bX2 cI cJ cC a_s s_length s_place s_signs)) H → va_S A s.heap H locs → lv_has ls 3 [(0, .ref (a_T 0)), (1, .int x1)] → W p l e ({ frames := 7, cells := 0, slots := 0, locals := 156 }) s m ([.ref (a_T 0)] : List Value).toArray below meth c H locs 0 0 Q (F0 m 109 ls [])) :
    ∀ (n : Nat) (x1 : Int32) (t_space : Int32) (t_beam : Int32) (t_door : Int32) (t_law : Int32) (t_used : Int32) (t_pipes : Int32) (t_drilled : Int64) (t_total : Int64) (t_open : Int32) (t_pipeInches : Nat → Int32) (t_pipeChances : Nat → Int32) (t_weights : Nat → Int64) (t_woods : Nat → Int32) (t_sums : Nat → Int64) (s_place : Int32) (H : Heap) (locs : List Loc) (ls : Array Slot), lpX4_wall_45 K s_length s_signs n x1 t_space t_beam t_door t_law t_used t_pipes t_drilled t_total t_open t_pipeInches t_pipeChances t_weights t_woods t_sums s_place → va_P D vwCl ((bX4 cI cJ cC a_T a_n a_k a_t a_s a_r a_c T_isKept T_refusals) ++ (bX3 cI cJ cC a_n n_space n_beam n_door n_law n_used n_pipes n_drilled n_total n_open n_pipeInches n_pipeChances n_weights n_woods n_sums) ++ (bX3 cI cJ cC a_t t_space t_beam t_door t_law t_used t_pipes t_drilled t_total t_open t_pipeInches t_pipeChances t_weights t_woods t_sums) ++ (bX2 cI cJ cC a_s s_length s_place s_signs)) H → va_S A s.heap H locs → lv_has ls 3 [(0, .ref (a_T 0)), (1, .int x1)] → W p l e ({ frames := 7, cells := 0, slots := 0, locals := 156 }) s m ([.ref (a_T 0)] : List Value).toArray below meth c H locs 0 0 Q (F0 m 45 ls []) := by
  obtain ⟨hx, hb, hml, hown, ht⟩ := id S
  intro n
  induction n with
  | zero =>
    intro x1 t_space t_beam t_door t_law t_used t_pipes t_drilled t_total t_open t_pipeInches t_pipeChances t_weights t_woods t_sums s_place H locs ls h
    exact absurd h (by simp [lpX4_wall_45])
  | succ n ih =>
    intro x1 t_space t_beam t_door t_law t_used t_pipes t_drilled t_total t_open t_pipeInches t_pipeChances t_weights t_woods t_sums s_place H locs ls h hP hS hl
    rw [lpX4_wall_45] at h
    refine lv_iload_n hx hb dX4_wall_45 rfl (lv_at hl 1 rfl) ?_
    refine lv_if_lt (tgt := 109) hx hb dX4_wall_46 (by decide) (fun z => ?_) (fun z => ?_)
    · replace h := h.1 z
      exact hKK x1 t_space t_beam t_door t_law t_used t_pipes t_drilled t_total t_open t_pipeInches t_pipeChances t_weights t_woods t_sums s_place _ _ _ h hP hS (lv_sub hl [0, 1] rfl)
    · replace h := h.2 z
      refine lv_iload_n hx hb dX4_wall_49 rfl (lv_at hl 1 rfl) ?_
      refine lv_bipush (v := (96 : Int32)) hx hb dX4_wall_50 (by decide) ?_
      refine lv_icmp_ge (tgt := 109) hx hb dX4_wall_52 (by decide) (fun z => ?_) (fun z => ?_)
      · replace h := h.1 z
        exact hKK x1 t_space t_beam t_door t_law t_used t_pipes t_drilled t_total t_open t_pipeInches t_pipeChances t_weights t_woods t_sums s_place _ _ _ h hP hS (lv_sub hl [0, 1] rfl)
      · replace h := h.2 z
        refine lv_aload_n hx hb dX4_wall_55 rfl (lv_at hl 0 rfl) ?_
        refine va_get (D := D) (ci := 4) (v := .ref (a_s 0)) (C := RX4) (T := TX4) (N := 8) hx hb ht inX4 hown hK hP 0 rfl rfl 3 (by decide) (ht _ fl_X4_25) (fun _ h9 => h9) rfl dX4_wall_56 ?_
        refine va_get (D := D) (ci := 2) (v := .int s_place) (C := RX2) (T := TX2) (N := 3) hx hb ht inX2 hown hK hP 14 rfl rfl 2 (by decide) (ht _ fl_X4_67) (fun _ h9 => h9) rfl dX4_wall_59 ?_
        refine lv_aload_n hx hb dX4_wall_62 rfl (lv_at hl 0 rfl) ?_
        refine va_get (D := D) (ci := 4) (v := .ref (a_s 0)) (C := RX4) (T := TX4) (N := 8) hx hb ht inX4 hown hK hP 0 rfl rfl 3 (by decide) (ht _ fl_X4_25) (fun _ h9 => h9) rfl dX4_wall_63 ?_
        refine va_get (D := D) (ci := 2) (v := .int s_length) (C := RX2) (T := TX2) (N := 3) hx hb ht inX2 hown hK hP 14 rfl rfl 1 (by decide) (ht _ fl_X4_55) (fun _ h9 => h9) rfl dX4_wall_66 ?_
        refine lv_icmp_ge (tgt := 109) hx hb dX4_wall_69 (by decide) (fun z => ?_) (fun z => ?_)
        · replace h := h.1 z
          exact hKK x1 t_space t_beam t_door t_law t_used t_pipes t_drilled t_total t_open t_pipeInches t_pipeChances t_weights t_woods t_sums s_place _ _ _ h hP hS (lv_sub hl [0, 1] rfl)
        · replace h := h.2 z
          refine lv_aload_n hx hb dX4_wall_72 rfl (lv_at hl 0 rfl) ?_
          refine va_get (D := D) (ci := 4) (v := .ref (a_s 0)) (C := RX4) (T := TX4) (N := 8) hx hb ht inX4 hown hK hP 0 rfl rfl 3 (by decide) (ht _ fl_X4_25) (fun _ h9 => h9) rfl dX4_wall_73 ?_
          refine va_get (D := D) (ci := 2) (v := .int s_place) (C := RX2) (T := TX2) (N := 3) hx hb ht inX2 hown hK hP 14 rfl rfl 2 (by decide) (ht _ fl_X4_67) (fun _ h9 => h9) rfl dX4_wall_76 ?_
          refine lv_istore_n (lv' := [(2, .int s_place), (0, .ref (a_T 0)), (1, .int x1)]) hx hb dX4_wall_79 rfl hl (by decide) rfl (fun ls hl => ?_)
          refine lv_aload_n hx hb dX4_wall_80 rfl (lv_at hl 1 rfl) ?_
          refine va_get (D := D) (ci := 4) (v := .ref (a_s 0)) (C := RX4) (T := TX4) (N := 8) hx hb ht inX4 hown hK hP 0 rfl rfl 3 (by decide) (ht _ fl_X4_25) (fun _ h9 => h9) rfl dX4_wall_81 ?_
          refine lv_aload_n hx hb dX4_wall_84 rfl (lv_at hl 1 rfl) ?_
          refine va_get (D := D) (ci := 4) (v := .ref (a_t 0)) (C := RX4) (T := TX4) (N := 8) hx hb ht inX4 hown hK hP 0 rfl rfl 2 (by decide) (ht _ fl_X4_19) (fun _ h9 => h9) rfl dX4_wall_85 ?_
          have hPw : va_P D vwCl ((bX2 cI cJ cC a_s s_length s_place s_signs) ++ (bX3 cI cJ cC a_t t_space t_beam t_door t_law t_used t_pipes t_drilled t_total t_open t_pipeInches t_pipeChances t_weights t_woods t_sums)) _ := hP.sub [14, 15, 8, 9, 10, 11, 12, 13] rfl
          have hDw : va_D A ((bX2 cI cJ cC a_s s_length s_place s_signs) ++ (bX3 cI cJ cC a_t t_space t_beam t_door t_law t_used t_pipes t_drilled t_total t_open t_pipeInches t_pipeChances t_weights t_woods t_sums)) := (hDD _ rfl).sub (ws := (bX4 cI cJ cC a_T a_n a_k a_t a_s a_r a_c T_isKept T_refusals) ++ (bX3 cI cJ cC a_n n_space n_beam n_door n_law n_used n_pipes n_drilled n_total n_open n_pipeInches n_pipeChances n_weights n_woods n_sums) ++ (bX3 cI cJ cC a_t t_space t_beam t_door t_law t_used t_pipes t_drilled t_total t_open t_pipeInches t_pipeChances t_weights t_woods t_sums) ++ (bX2 cI cJ cC a_s s_length s_place s_signs)) [14, 15, 8, 9, 10, 11, 12, 13] (by decide) rfl
          refine zci hA hDw hS (zrunV (As := [.ref (a_t 0)]) (rest := []) S hK hA hE hPw hDw hS (mX2_readStatement l D cI cJ cC G a_s a_t _ s_length s_place s_signs t_space t_beam t_door t_law t_used t_pipes t_drilled t_total t_open t_pipeInches t_pipeChances t_weights t_woods t_sums _ h) kX2_readStatement ml_X4_74 ⟨rfl, rfl, by decide, by decide⟩ (q0 := 0) (ci := 2) rfl rfl rfl rfl hl.1 rfl (Nat.le_of_ble_eq_true rfl) dX4_wall_88 ⟨Nat.zero_le _, Nat.zero_le _⟩) (fun r_17 u H locs h hP1 hk1 hS => ?_)
          obtain ⟨s_place_18, t_space_19, t_beam_20, t_door_21, t_law_22, t_used_23, t_pipes_24, t_drilled_25, t_total_26, t_open_27, t_pipeInches_28, t_pipeChances_29, t_weights_30, t_woods_31, t_sums_32⟩ := u
          dsimp only at h
          have hP : va_P D vwCl ((bX4 cI cJ cC a_T a_n a_k a_t a_s a_r a_c T_isKept T_refusals) ++ (bX3 cI cJ cC a_n n_space n_beam n_door n_law n_used n_pipes n_drilled n_total n_open n_pipeInches n_pipeChances n_weights n_woods n_sums) ++ (bX3 cI cJ cC a_t t_space_19 t_beam_20 t_door_21 t_law_22 t_used_23 t_pipes_24 t_drilled_25 t_total_26 t_open_27 t_pipeInches_28 t_pipeChances_29 t_weights_30 t_woods_31 t_sums_32) ++ (bX2 cI cJ cC a_s s_length s_place_18 s_signs)) H := zMerge hP (hDD _ rfl) [14, 15, 8, 9, 10, 11, 12, 13] rfl rfl hk1 hP1
          refine lv_if_eq (tgt := 100) hx hb dX4_wall_91 (by decide) (fun z => ?_) (fun z => ?_)
          · replace h := h.1 z
            refine lv_sipush (v := (-2000 : Int32)) hx hb dX4_wall_100 (by decide) ?_
            refine lv_iload_n hx hb dX4_wall_103 rfl (lv_at hl 0 rfl) ?_
            refine lv_isub hx hb dX4_wall_104 ?_
            refine lv_istore_n (lv' := [(1, .int ((-2000 : Int32) - s_place)), (2, .int s_place), (0, .ref (a_T 0))]) hx hb dX4_wall_105 rfl hl (by decide) rfl (fun ls hl => ?_)
            refine lv_goto (tgt := 45) hx hb dX4_wall_106 (by decide) ?_
            exact ih ((-2000 : Int32) - s_place) t_space_19 t_beam_20 t_door_21 t_law_22 t_used_23 t_pipes_24 t_drilled_25 t_total_26 t_open_27 t_pipeInches_28 t_pipeChances_29 t_weights_30 t_woods_31 t_sums_32 s_place_18 _ _ _ h hP hS (lv_sub hl [2, 0] rfl)
          · replace h := h.2 z
            refine lv_iload_n hx hb dX4_wall_94 rfl (lv_at hl 2 rfl) ?_
            refine lv_iconst (v := (1 : Int32)) hx hb dX4_wall_95 (by decide) ?_
            refine lv_iadd hx hb dX4_wall_96 ?_
            refine lv_goto (tgt := 105) hx hb dX4_wall_97 (by decide) ?_
            refine lv_istore_n (lv' := [(1, .int (x1 + (1 : Int32))), (2, .int s_place), (0, .ref (a_T 0))]) hx hb dX4_wall_105 rfl hl (by decide) rfl (fun ls hl => ?_)
            refine lv_goto (tgt := 45) hx hb dX4_wall_106 (by decide) ?_
            exact ih (x1 + (1 : Int32)) t_space_19 t_beam_20 t_door_21 t_law_22 t_used_23 t_pipes_24 t_drilled_25 t_total_26 t_open_27 t_pipeInches_28 t_pipeChances_29 t_weights_30 t_woods_31 t_sums_32 s_place_18 _ _ _ h hP hS (lv_sub hl [2, 0] rfl)
def wpX4_wall (post : Int32 → Int32 → Int32 → Int32 → Int32 → Int32 → Int32 → Int64 → Int64 → Int32 → (Nat → Int32) → (Nat → Int32) → (Nat → Int64) → (Nat → Int32) → (Nat → Int64) → Int32 → Int32 → Int32 → Int32 → Int32 → Int32 → Int64 → Int64 → Int32 → (Nat → Int32) → (Nat → Int32) → (Nat → Int64) → (Nat → Int32) → (Nat → Int64) → Int32 → Int32 → Prop) (n_space : Int32) (n_beam : Int32) (n_door : Int32) (n_law : Int32) (n_used : Int32) (n_pipes : Int32) (n_drilled : Int64) (n_total : Int64) (n_open : Int32) (n_pipeInches : Nat → Int32) (n_pipeChances : Nat → Int32) (n_weights : Nat → Int64) (n_woods : Nat → Int32) (n_sums : Nat → Int64) (t_pipeInches : Nat → Int32) (t_pipeChances : Nat → Int32) (t_weights : Nat → Int64) (t_woods : Nat → Int32) (t_sums : Nat → Int64) (s_length : Int32) (s_signs : Nat → Int32) : Prop := wpX2_passAll (fun (r_1 : Int32) (s_place_2 : Int32) => ((r_1 = (0 : Int32) → (wpX3_becomeAs (fun (t_space_3 : Int32) (t_beam_4 : Int32) (t_door_5 : Int32) (t_law_6 : Int32) (t_used_7 : Int32) (t_pipes_8 : Int32) (t_drilled_9 : Int64) (t_total_10 : Int64) (t_open_11 : Int32) (t_pipeInches_12 : Nat → Int32) (t_pipeChances_13 : Nat → Int32) (t_weights_14 : Nat → Int64) (t_woods_15 : Nat → Int32) (t_sums_16 : Nat → Int64) => ∃ n_33 : Nat, lpX4_wall_45 (fun (x1_34 : Int32) (t_space_35 : Int32) (t_beam_36 : Int32) (t_door_37 : Int32) (t_law_38 : Int32) (t_used_39 : Int32) (t_pipes_40 : Int32) (t_drilled_41 : Int64) (t_total_42 : Int64) (t_open_43 : Int32) (t_pipeInches_44 : Nat → Int32) (t_pipeChances_45 : Nat → Int32) (t_weights_46 : Nat → Int64) (t_woods_47 : Nat → Int32) (t_sums_48 : Nat → Int64) (s_place_49 : Int32) => ((x1_34 ≤ (0 : Int32) → (post x1_34 n_space n_beam n_door n_law n_used n_pipes n_drilled n_total n_open n_pipeInches n_pipeChances n_weights n_woods n_sums t_space_35 t_beam_36 t_door_37 t_law_38 t_used_39 t_pipes_40 t_drilled_41 t_total_42 t_open_43 t_pipeInches_44 t_pipeChances_45 t_weights_46 t_woods_47 t_sums_48 (0 : Int32) s_place_49)) ∧ (¬ (x1_34 ≤ (0 : Int32)) → (wpX3_becomeAs (fun (n_space_50 : Int32) (n_beam_51 : Int32) (n_door_52 : Int32) (n_law_53 : Int32) (n_used_54 : Int32) (n_pipes_55 : Int32) (n_drilled_56 : Int64) (n_total_57 : Int64) (n_open_58 : Int32) (n_pipeInches_59 : Nat → Int32) (n_pipeChances_60 : Nat → Int32) (n_weights_61 : Nat → Int64) (n_woods_62 : Nat → Int32) (n_sums_63 : Nat → Int64) => post x1_34 n_space_50 n_beam_51 n_door_52 n_law_53 n_used_54 n_pipes_55 n_drilled_56 n_total_57 n_open_58 n_pipeInches_59 n_pipeChances_60 n_weights_61 n_woods_62 n_sums_63 t_space_35 t_beam_36 t_door_37 t_law_38 t_used_39 t_pipes_40 t_drilled_41 t_total_42 t_open_43 t_pipeInches_44 t_pipeChances_45 t_weights_46 t_woods_47 t_sums_48 (0 : Int32) s_place_49) n_pipeInches n_pipeChances n_weights n_woods n_sums t_space_35 t_beam_36 t_door_37 t_law_38 t_used_39 t_pipes_40 t_drilled_41 t_total_42 t_open_43 t_pipeInches_44 t_pipeChances_45 t_weights_46 t_woods_47 t_sums_48)))) s_length s_signs n_33 ((-1000 : Int32) - s_place_2) t_space_3 t_beam_4 t_door_5 t_law_6 t_used_7 t_pipes_8 t_drilled_9 t_total_10 t_open_11 t_pipeInches_12 t_pipeChances_13 t_weights_14 t_woods_15 t_sums_16 (0 : Int32)) t_pipeInches t_pipeChances t_weights t_woods t_sums n_space n_beam n_door n_law n_used n_pipes n_drilled n_total n_open n_pipeInches n_pipeChances n_weights n_woods n_sums)) ∧ (¬ (r_1 = (0 : Int32)) → (wpX3_becomeAs (fun (t_space_64 : Int32) (t_beam_65 : Int32) (t_door_66 : Int32) (t_law_67 : Int32) (t_used_68 : Int32) (t_pipes_69 : Int32) (t_drilled_70 : Int64) (t_total_71 : Int64) (t_open_72 : Int32) (t_pipeInches_73 : Nat → Int32) (t_pipeChances_74 : Nat → Int32) (t_weights_75 : Nat → Int64) (t_woods_76 : Nat → Int32) (t_sums_77 : Nat → Int64) => ∃ n_94 : Nat, lpX4_wall_45 (fun (x1_95 : Int32) (t_space_96 : Int32) (t_beam_97 : Int32) (t_door_98 : Int32) (t_law_99 : Int32) (t_used_100 : Int32) (t_pipes_101 : Int32) (t_drilled_102 : Int64) (t_total_103 : Int64) (t_open_104 : Int32) (t_pipeInches_105 : Nat → Int32) (t_pipeChances_106 : Nat → Int32) (t_weights_107 : Nat → Int64) (t_woods_108 : Nat → Int32) (t_sums_109 : Nat → Int64) (s_place_110 : Int32) => ((x1_95 ≤ (0 : Int32) → (post x1_95 n_space n_beam n_door n_law n_used n_pipes n_drilled n_total n_open n_pipeInches n_pipeChances n_weights n_woods n_sums t_space_96 t_beam_97 t_door_98 t_law_99 t_used_100 t_pipes_101 t_drilled_102 t_total_103 t_open_104 t_pipeInches_105 t_pipeChances_106 t_weights_107 t_woods_108 t_sums_109 (0 : Int32) s_place_110)) ∧ (¬ (x1_95 ≤ (0 : Int32)) → (wpX3_becomeAs (fun (n_space_111 : Int32) (n_beam_112 : Int32) (n_door_113 : Int32) (n_law_114 : Int32) (n_used_115 : Int32) (n_pipes_116 : Int32) (n_drilled_117 : Int64) (n_total_118 : Int64) (n_open_119 : Int32) (n_pipeInches_120 : Nat → Int32) (n_pipeChances_121 : Nat → Int32) (n_weights_122 : Nat → Int64) (n_woods_123 : Nat → Int32) (n_sums_124 : Nat → Int64) => post x1_95 n_space_111 n_beam_112 n_door_113 n_law_114 n_used_115 n_pipes_116 n_drilled_117 n_total_118 n_open_119 n_pipeInches_120 n_pipeChances_121 n_weights_122 n_woods_123 n_sums_124 t_space_96 t_beam_97 t_door_98 t_law_99 t_used_100 t_pipes_101 t_drilled_102 t_total_103 t_open_104 t_pipeInches_105 t_pipeChances_106 t_weights_107 t_woods_108 t_sums_109 (0 : Int32) s_place_110) n_pipeInches n_pipeChances n_weights n_woods n_sums t_space_96 t_beam_97 t_door_98 t_law_99 t_used_100 t_pipes_101 t_drilled_102 t_total_103 t_open_104 t_pipeInches_105 t_pipeChances_106 t_weights_107 t_woods_108 t_sums_109)))) s_length s_signs n_94 (0 : Int32) t_space_64 t_beam_65 t_door_66 t_law_67 t_used_68 t_pipes_69 t_drilled_70 t_total_71 t_open_72 t_pipeInches_73 t_pipeChances_74 t_weights_75 t_woods_76 t_sums_77 (0 : Int32)) t_pipeInches t_pipeChances t_weights t_woods t_sums n_space n_beam n_door n_law n_used n_pipes n_drilled n_total n_open n_pipeInches n_pipeChances n_weights n_woods n_sums)))) s_length s_signs
set_option maxHeartbeats 4000000 in
set_option maxRecDepth 100000 in
theorem mX4_wall (l : Launch) (D : va_G) (cI cJ cC : ClassId) (G : Nat → Nat → Nat) (a_T : Nat → Nat) (a_n : Nat → Nat) (a_k : Nat → Nat) (a_t : Nat → Nat) (a_s : Nat → Nat) (a_r : Nat → Nat) (a_c : Nat → Nat) (sz : Nat) (T_isKept : Int32) (T_refusals : Nat → Int32) (n_space : Int32) (n_beam : Int32) (n_door : Int32) (n_law : Int32) (n_used : Int32) (n_pipes : Int32) (n_drilled : Int64) (n_total : Int64) (n_open : Int32) (n_pipeInches : Nat → Int32) (n_pipeChances : Nat → Int32) (n_weights : Nat → Int64) (n_woods : Nat → Int32) (n_sums : Nat → Int64) (t_space : Int32) (t_beam : Int32) (t_door : Int32) (t_law : Int32) (t_used : Int32) (t_pipes : Int32) (t_drilled : Int64) (t_total : Int64) (t_open : Int32) (t_pipeInches : Nat → Int32) (t_pipeChances : Nat → Int32) (t_weights : Nat → Int64) (t_woods : Nat → Int32) (t_sums : Nat → Int64) (s_length : Int32) (s_place : Int32) (s_signs : Nat → Int32) (post : Int32 → Int32 → Int32 → Int32 → Int32 → Int32 → Int32 → Int64 → Int64 → Int32 → (Nat → Int32) → (Nat → Int32) → (Nat → Int64) → (Nat → Int32) → (Nat → Int64) → Int32 → Int32 → Int32 → Int32 → Int32 → Int32 → Int64 → Int64 → Int32 → (Nat → Int32) → (Nat → Int32) → (Nat → Int64) → (Nat → Int32) → (Nat → Int64) → Int32 → Int32 → Prop) (h : wpX4_wall post n_space n_beam n_door n_law n_used n_pipes n_drilled n_total n_open n_pipeInches n_pipeChances n_weights n_woods n_sums t_pipeInches t_pipeChances t_weights t_woods t_sums s_length s_signs) : Met l yX4_wall (wz yX4_wall cX4_wall 3 (some .int)) ({ frames := 7, cells := 0, slots := 0, locals := 156 }) (va_Pc [.ref (a_T 0)] (PW D (tz cI cJ cC) G ((bX4 cI cJ cC a_T a_n a_k a_t a_s a_r a_c T_isKept T_refusals) ++ (bX3 cI cJ cC a_n n_space n_beam n_door n_law n_used n_pipes n_drilled n_total n_open n_pipeInches n_pipeChances n_weights n_woods n_sums) ++ (bX3 cI cJ cC a_t t_space t_beam t_door t_law t_used t_pipes t_drilled t_total t_open t_pipeInches t_pipeChances t_weights t_woods t_sums) ++ (bX2 cI cJ cC a_s s_length s_place s_signs)) sz)) (va_Qi (fun (r : Int32) (u : Int32 × Int32 × Int32 × Int32 × Int32 × Int32 × Int64 × Int64 × Int32 × (Nat → Int32) × (Nat → Int32) × (Nat → Int64) × (Nat → Int32) × (Nat → Int64) × Int32 × Int32 × Int32 × Int32 × Int32 × Int32 × Int64 × Int64 × Int32 × (Nat → Int32) × (Nat → Int32) × (Nat → Int64) × (Nat → Int32) × (Nat → Int64) × Int32 × Int32) => post r u.1 u.2.1 u.2.2.1 u.2.2.2.1 u.2.2.2.2.1 u.2.2.2.2.2.1 u.2.2.2.2.2.2.1 u.2.2.2.2.2.2.2.1 u.2.2.2.2.2.2.2.2.1 u.2.2.2.2.2.2.2.2.2.1 u.2.2.2.2.2.2.2.2.2.2.1 u.2.2.2.2.2.2.2.2.2.2.2.1 u.2.2.2.2.2.2.2.2.2.2.2.2.1 u.2.2.2.2.2.2.2.2.2.2.2.2.2.1 u.2.2.2.2.2.2.2.2.2.2.2.2.2.2.1 u.2.2.2.2.2.2.2.2.2.2.2.2.2.2.2.1 u.2.2.2.2.2.2.2.2.2.2.2.2.2.2.2.2.1 u.2.2.2.2.2.2.2.2.2.2.2.2.2.2.2.2.2.1 u.2.2.2.2.2.2.2.2.2.2.2.2.2.2.2.2.2.2.1 u.2.2.2.2.2.2.2.2.2.2.2.2.2.2.2.2.2.2.2.1 u.2.2.2.2.2.2.2.2.2.2.2.2.2.2.2.2.2.2.2.2.1 u.2.2.2.2.2.2.2.2.2.2.2.2.2.2.2.2.2.2.2.2.2.1 u.2.2.2.2.2.2.2.2.2.2.2.2.2.2.2.2.2.2.2.2.2.2.1 u.2.2.2.2.2.2.2.2.2.2.2.2.2.2.2.2.2.2.2.2.2.2.2.1 u.2.2.2.2.2.2.2.2.2.2.2.2.2.2.2.2.2.2.2.2.2.2.2.2.1 u.2.2.2.2.2.2.2.2.2.2.2.2.2.2.2.2.2.2.2.2.2.2.2.2.2.1 u.2.2.2.2.2.2.2.2.2.2.2.2.2.2.2.2.2.2.2.2.2.2.2.2.2.2.1 u.2.2.2.2.2.2.2.2.2.2.2.2.2.2.2.2.2.2.2.2.2.2.2.2.2.2.2.1 u.2.2.2.2.2.2.2.2.2.2.2.2.2.2.2.2.2.2.2.2.2.2.2.2.2.2.2.2.1 u.2.2.2.2.2.2.2.2.2.2.2.2.2.2.2.2.2.2.2.2.2.2.2.2.2.2.2.2.2) (fun (u : Int32 × Int32 × Int32 × Int32 × Int32 × Int32 × Int64 × Int64 × Int32 × (Nat → Int32) × (Nat → Int32) × (Nat → Int64) × (Nat → Int32) × (Nat → Int64) × Int32 × Int32 × Int32 × Int32 × Int32 × Int32 × Int64 × Int64 × Int32 × (Nat → Int32) × (Nat → Int32) × (Nat → Int64) × (Nat → Int32) × (Nat → Int64) × Int32 × Int32) t => va_P D vwCl ((bX4 cI cJ cC a_T a_n a_k a_t a_s a_r a_c T_isKept T_refusals) ++ (bX3 cI cJ cC a_n u.1 u.2.1 u.2.2.1 u.2.2.2.1 u.2.2.2.2.1 u.2.2.2.2.2.1 u.2.2.2.2.2.2.1 u.2.2.2.2.2.2.2.1 u.2.2.2.2.2.2.2.2.1 u.2.2.2.2.2.2.2.2.2.1 u.2.2.2.2.2.2.2.2.2.2.1 u.2.2.2.2.2.2.2.2.2.2.2.1 u.2.2.2.2.2.2.2.2.2.2.2.2.1 u.2.2.2.2.2.2.2.2.2.2.2.2.2.1) ++ (bX3 cI cJ cC a_t u.2.2.2.2.2.2.2.2.2.2.2.2.2.2.1 u.2.2.2.2.2.2.2.2.2.2.2.2.2.2.2.1 u.2.2.2.2.2.2.2.2.2.2.2.2.2.2.2.2.1 u.2.2.2.2.2.2.2.2.2.2.2.2.2.2.2.2.2.1 u.2.2.2.2.2.2.2.2.2.2.2.2.2.2.2.2.2.2.1 u.2.2.2.2.2.2.2.2.2.2.2.2.2.2.2.2.2.2.2.1 u.2.2.2.2.2.2.2.2.2.2.2.2.2.2.2.2.2.2.2.2.1 u.2.2.2.2.2.2.2.2.2.2.2.2.2.2.2.2.2.2.2.2.2.1 u.2.2.2.2.2.2.2.2.2.2.2.2.2.2.2.2.2.2.2.2.2.2.1 u.2.2.2.2.2.2.2.2.2.2.2.2.2.2.2.2.2.2.2.2.2.2.2.1 u.2.2.2.2.2.2.2.2.2.2.2.2.2.2.2.2.2.2.2.2.2.2.2.2.1 u.2.2.2.2.2.2.2.2.2.2.2.2.2.2.2.2.2.2.2.2.2.2.2.2.2.1 u.2.2.2.2.2.2.2.2.2.2.2.2.2.2.2.2.2.2.2.2.2.2.2.2.2.2.1 u.2.2.2.2.2.2.2.2.2.2.2.2.2.2.2.2.2.2.2.2.2.2.2.2.2.2.2.1) ++ (bX2 cI cJ cC a_s u.2.2.2.2.2.2.2.2.2.2.2.2.2.2.2.2.2.2.2.2.2.2.2.2.2.2.2.2.1 u.2.2.2.2.2.2.2.2.2.2.2.2.2.2.2.2.2.2.2.2.2.2.2.2.2.2.2.2.2 s_signs)) t.heap) (va_A ((bX4 cI cJ cC a_T a_n a_k a_t a_s a_r a_c T_isKept T_refusals) ++ (bX3 cI cJ cC a_n n_space n_beam n_door n_law n_used n_pipes n_drilled n_total n_open n_pipeInches n_pipeChances n_weights n_woods n_sums) ++ (bX3 cI cJ cC a_t t_space t_beam t_door t_law t_used t_pipes t_drilled t_total t_open t_pipeInches t_pipeChances t_weights t_woods t_sums) ++ (bX2 cI cJ cC a_s s_length s_place s_signs)) sz)) 0 0 (va_A ((bX4 cI cJ cC a_T a_n a_k a_t a_s a_r a_c T_isKept T_refusals) ++ (bX3 cI cJ cC a_n n_space n_beam n_door n_law n_used n_pipes n_drilled n_total n_open n_pipeInches n_pipeChances n_weights n_woods n_sums) ++ (bX3 cI cJ cC a_t t_space t_beam t_door t_law t_used t_pipes t_drilled t_total t_open t_pipeInches t_pipeChances t_weights t_woods t_sums) ++ (bX2 cI cJ cC a_s s_length s_place s_signs)) sz) := by
  refine zmi (gw := fun (u : Int32 × Int32 × Int32 × Int32 × Int32 × Int32 × Int64 × Int64 × Int32 × (Nat → Int32) × (Nat → Int32) × (Nat → Int64) × (Nat → Int32) × (Nat → Int64) × Int32 × Int32 × Int32 × Int32 × Int32 × Int32 × Int64 × Int64 × Int32 × (Nat → Int32) × (Nat → Int32) × (Nat → Int64) × (Nat → Int32) × (Nat → Int64) × Int32 × Int32) => (bX4 cI cJ cC a_T a_n a_k a_t a_s a_r a_c T_isKept T_refusals) ++ (bX3 cI cJ cC a_n u.1 u.2.1 u.2.2.1 u.2.2.2.1 u.2.2.2.2.1 u.2.2.2.2.2.1 u.2.2.2.2.2.2.1 u.2.2.2.2.2.2.2.1 u.2.2.2.2.2.2.2.2.1 u.2.2.2.2.2.2.2.2.2.1 u.2.2.2.2.2.2.2.2.2.2.1 u.2.2.2.2.2.2.2.2.2.2.2.1 u.2.2.2.2.2.2.2.2.2.2.2.2.1 u.2.2.2.2.2.2.2.2.2.2.2.2.2.1) ++ (bX3 cI cJ cC a_t u.2.2.2.2.2.2.2.2.2.2.2.2.2.2.1 u.2.2.2.2.2.2.2.2.2.2.2.2.2.2.2.1 u.2.2.2.2.2.2.2.2.2.2.2.2.2.2.2.2.1 u.2.2.2.2.2.2.2.2.2.2.2.2.2.2.2.2.2.1 u.2.2.2.2.2.2.2.2.2.2.2.2.2.2.2.2.2.2.1 u.2.2.2.2.2.2.2.2.2.2.2.2.2.2.2.2.2.2.2.1 u.2.2.2.2.2.2.2.2.2.2.2.2.2.2.2.2.2.2.2.2.1 u.2.2.2.2.2.2.2.2.2.2.2.2.2.2.2.2.2.2.2.2.2.1 u.2.2.2.2.2.2.2.2.2.2.2.2.2.2.2.2.2.2.2.2.2.2.1 u.2.2.2.2.2.2.2.2.2.2.2.2.2.2.2.2.2.2.2.2.2.2.2.1 u.2.2.2.2.2.2.2.2.2.2.2.2.2.2.2.2.2.2.2.2.2.2.2.2.1 u.2.2.2.2.2.2.2.2.2.2.2.2.2.2.2.2.2.2.2.2.2.2.2.2.2.1 u.2.2.2.2.2.2.2.2.2.2.2.2.2.2.2.2.2.2.2.2.2.2.2.2.2.2.1 u.2.2.2.2.2.2.2.2.2.2.2.2.2.2.2.2.2.2.2.2.2.2.2.2.2.2.2.1) ++ (bX2 cI cJ cC a_s u.2.2.2.2.2.2.2.2.2.2.2.2.2.2.2.2.2.2.2.2.2.2.2.2.2.2.2.2.1 u.2.2.2.2.2.2.2.2.2.2.2.2.2.2.2.2.2.2.2.2.2.2.2.2.2.2.2.2.2 s_signs)) (plainFor_of_name (by decide)) (Nat.le_of_ble_eq_true rfl) ?_
  intro p e s m below meth c A Q ls S hK hD hA hE hP hl hret
  obtain ⟨hx, hb, hml, hown, ht⟩ := id S
  have hS : va_S A s.heap s.heap [] := va_S.rf
  have hDD : ∀ ws : va_W, ws.map (fun q => q.1) = [a_T 0, a_T 1, a_n 0, a_n 1, a_n 2, a_n 3, a_n 4, a_n 5, a_t 0, a_t 1, a_t 2, a_t 3, a_t 4, a_t 5, a_s 0, a_s 1] → va_D A ws := fun ws hw => zD hD (hw.trans rfl)
  have hl : lv_has ls 3 [(0, .ref (a_T 0))] := hl
  unfold wpX4_wall at h
  refine lv_aload_n hx hb dX4_wall_0 rfl (lv_at hl 0 rfl) ?_
  refine va_get (D := D) (ci := 4) (v := .ref (a_s 0)) (C := RX4) (T := TX4) (N := 8) hx hb ht inX4 hown hK hP 0 rfl rfl 3 (by decide) (ht _ fl_X4_25) (fun _ h9 => h9) rfl dX4_wall_1 ?_
  have hPw : va_P D vwCl ((bX2 cI cJ cC a_s s_length s_place s_signs)) _ := hP.sub [14, 15] rfl
  have hDw : va_D A ((bX2 cI cJ cC a_s s_length s_place s_signs)) := (hDD _ rfl).sub (ws := (bX4 cI cJ cC a_T a_n a_k a_t a_s a_r a_c T_isKept T_refusals) ++ (bX3 cI cJ cC a_n n_space n_beam n_door n_law n_used n_pipes n_drilled n_total n_open n_pipeInches n_pipeChances n_weights n_woods n_sums) ++ (bX3 cI cJ cC a_t t_space t_beam t_door t_law t_used t_pipes t_drilled t_total t_open t_pipeInches t_pipeChances t_weights t_woods t_sums) ++ (bX2 cI cJ cC a_s s_length s_place s_signs)) [14, 15] (by decide) rfl
  refine zci hA hDw hS (zrunV (As := []) (rest := []) S hK hA hE hPw hDw hS (mX2_passAll l D cI cJ cC G a_s _ s_length s_place s_signs _ h) kX2_passAll ml_X4_63 ⟨rfl, rfl, by decide, by decide⟩ (q0 := 0) (ci := 2) rfl rfl rfl rfl hl.1 rfl (Nat.le_of_ble_eq_true rfl) dX4_wall_4 ⟨Nat.zero_le _, Nat.zero_le _⟩) (fun r_1 s_place_2 H locs h hP1 hk1 hS => ?_)
  try dsimp only at h
  have hP : va_P D vwCl ((bX4 cI cJ cC a_T a_n a_k a_t a_s a_r a_c T_isKept T_refusals) ++ (bX3 cI cJ cC a_n n_space n_beam n_door n_law n_used n_pipes n_drilled n_total n_open n_pipeInches n_pipeChances n_weights n_woods n_sums) ++ (bX3 cI cJ cC a_t t_space t_beam t_door t_law t_used t_pipes t_drilled t_total t_open t_pipeInches t_pipeChances t_weights t_woods t_sums) ++ (bX2 cI cJ cC a_s s_length s_place_2 s_signs)) H := zMerge hP (hDD _ rfl) [14, 15] rfl rfl hk1 hP1
  refine lv_if_eq (tgt := 14) hx hb dX4_wall_7 (by decide) (fun z => ?_) (fun z => ?_)
  · replace h := h.1 z
    refine lv_sipush (v := (-1000 : Int32)) hx hb dX4_wall_14 (by decide) ?_
    refine lv_aload_n hx hb dX4_wall_17 rfl (lv_at hl 0 rfl) ?_
    refine va_get (D := D) (ci := 4) (v := .ref (a_s 0)) (C := RX4) (T := TX4) (N := 8) hx hb ht inX4 hown hK hP 0 rfl rfl 3 (by decide) (ht _ fl_X4_25) (fun _ h9 => h9) rfl dX4_wall_18 ?_
    refine va_get (D := D) (ci := 2) (v := .int s_place_2) (C := RX2) (T := TX2) (N := 3) hx hb ht inX2 hown hK hP 14 rfl rfl 2 (by decide) (ht _ fl_X4_67) (fun _ h9 => h9) rfl dX4_wall_21 ?_
    refine lv_isub hx hb dX4_wall_24 ?_
    refine lv_istore_n (lv' := [(1, .int ((-1000 : Int32) - s_place_2)), (0, .ref (a_T 0))]) hx hb dX4_wall_25 rfl hl (by decide) rfl (fun ls hl => ?_)
    refine lv_aload_n hx hb dX4_wall_26 rfl (lv_at hl 1 rfl) ?_
    refine va_get (D := D) (ci := 4) (v := .ref (a_t 0)) (C := RX4) (T := TX4) (N := 8) hx hb ht inX4 hown hK hP 0 rfl rfl 2 (by decide) (ht _ fl_X4_19) (fun _ h9 => h9) rfl dX4_wall_27 ?_
    refine lv_aload_n hx hb dX4_wall_30 rfl (lv_at hl 1 rfl) ?_
    refine va_get (D := D) (ci := 4) (v := .ref (a_n 0)) (C := RX4) (T := TX4) (N := 8) hx hb ht inX4 hown hK hP 0 rfl rfl 0 (by decide) (ht _ fl_X4_10) (fun _ h9 => h9) rfl dX4_wall_31 ?_
    have hPw : va_P D vwCl ((bX3 cI cJ cC a_t t_space t_beam t_door t_law t_used t_pipes t_drilled t_total t_open t_pipeInches t_pipeChances t_weights t_woods t_sums) ++ (bX3 cI cJ cC a_n n_space n_beam n_door n_law n_used n_pipes n_drilled n_total n_open n_pipeInches n_pipeChances n_weights n_woods n_sums)) _ := hP.sub [8, 9, 10, 11, 12, 13, 2, 3, 4, 5, 6, 7] rfl
    have hDw : va_D A ((bX3 cI cJ cC a_t t_space t_beam t_door t_law t_used t_pipes t_drilled t_total t_open t_pipeInches t_pipeChances t_weights t_woods t_sums) ++ (bX3 cI cJ cC a_n n_space n_beam n_door n_law n_used n_pipes n_drilled n_total n_open n_pipeInches n_pipeChances n_weights n_woods n_sums)) := (hDD _ rfl).sub (ws := (bX4 cI cJ cC a_T a_n a_k a_t a_s a_r a_c T_isKept T_refusals) ++ (bX3 cI cJ cC a_n n_space n_beam n_door n_law n_used n_pipes n_drilled n_total n_open n_pipeInches n_pipeChances n_weights n_woods n_sums) ++ (bX3 cI cJ cC a_t t_space t_beam t_door t_law t_used t_pipes t_drilled t_total t_open t_pipeInches t_pipeChances t_weights t_woods t_sums) ++ (bX2 cI cJ cC a_s s_length s_place_2 s_signs)) [8, 9, 10, 11, 12, 13, 2, 3, 4, 5, 6, 7] (by decide) rfl
    refine zcv hA hDw hS (zrunV (As := [.ref (a_n 0)]) (rest := []) S hK hA hE hPw hDw hS (mX3_becomeAs l D cI cJ cC G a_t a_n _ t_space t_beam t_door t_law t_used t_pipes t_drilled t_total t_open t_pipeInches t_pipeChances t_weights t_woods t_sums n_space n_beam n_door n_law n_used n_pipes n_drilled n_total n_open n_pipeInches n_pipeChances n_weights n_woods n_sums _ h) kX3_becomeAs ml_X4_70 ⟨rfl, rfl, by decide, by decide⟩ (q0 := 0) (ci := 3) rfl rfl rfl rfl hl.1 rfl (Nat.le_of_ble_eq_true rfl) dX4_wall_34 ⟨Nat.zero_le _, Nat.zero_le _⟩) (fun u H locs h hP1 hk1 hS => ?_)
    obtain ⟨t_space_3, t_beam_4, t_door_5, t_law_6, t_used_7, t_pipes_8, t_drilled_9, t_total_10, t_open_11, t_pipeInches_12, t_pipeChances_13, t_weights_14, t_woods_15, t_sums_16⟩ := u
    dsimp only at h
    have hP : va_P D vwCl ((bX4 cI cJ cC a_T a_n a_k a_t a_s a_r a_c T_isKept T_refusals) ++ (bX3 cI cJ cC a_n n_space n_beam n_door n_law n_used n_pipes n_drilled n_total n_open n_pipeInches n_pipeChances n_weights n_woods n_sums) ++ (bX3 cI cJ cC a_t t_space_3 t_beam_4 t_door_5 t_law_6 t_used_7 t_pipes_8 t_drilled_9 t_total_10 t_open_11 t_pipeInches_12 t_pipeChances_13 t_weights_14 t_woods_15 t_sums_16) ++ (bX2 cI cJ cC a_s s_length s_place_2 s_signs)) H := zMerge hP (hDD _ rfl) [8, 9, 10, 11, 12, 13, 2, 3, 4, 5, 6, 7] rfl rfl hk1 hP1
    refine lv_aload_n hx hb dX4_wall_37 rfl (lv_at hl 1 rfl) ?_
    refine va_get (D := D) (ci := 4) (v := .ref (a_s 0)) (C := RX4) (T := TX4) (N := 8) hx hb ht inX4 hown hK hP 0 rfl rfl 3 (by decide) (ht _ fl_X4_25) (fun _ h9 => h9) rfl dX4_wall_38 ?_
    refine lv_iconst (v := (0 : Int32)) hx hb dX4_wall_41 (by decide) ?_
    refine va_put (D := D) (ci := 2) (v := .int (0 : Int32)) (ty := .int) (C := RX2) (T := TX2) (N := 3) hx hb ht inX2 tyX2 tyX2_ok nmX2 hown hK hP (hDD _ rfl) hS 14 rfl rfl 2 (by decide) (ht _ fl_X4_67) (fun _ h9 => h9) rfl (by decide +kernel) rfl rfl (Nat.le_of_ble_eq_true rfl) dX4_wall_42 (fun H locs hP _ hS => ?_)
    have hP : va_P D vwCl ((bX4 cI cJ cC a_T a_n a_k a_t a_s a_r a_c T_isKept T_refusals) ++ (bX3 cI cJ cC a_n n_space n_beam n_door n_law n_used n_pipes n_drilled n_total n_open n_pipeInches n_pipeChances n_weights n_woods n_sums) ++ (bX3 cI cJ cC a_t t_space_3 t_beam_4 t_door_5 t_law_6 t_used_7 t_pipes_8 t_drilled_9 t_total_10 t_open_11 t_pipeInches_12 t_pipeChances_13 t_weights_14 t_woods_15 t_sums_16) ++ (bX2 cI cJ cC a_s s_length (0 : Int32) s_signs)) H := hP
    obtain ⟨n_33, h⟩ := h
    refine wX4_wall_45 l D cI cJ cC G a_T a_n a_k a_t a_s a_r a_c T_isKept T_refusals n_space n_beam n_door n_law n_used n_pipes n_drilled n_total n_open n_pipeInches n_pipeChances n_weights n_woods n_sums s_length s_signs _ S hK hDD hA hE (fun x1_34 t_space_35 t_beam_36 t_door_37 t_law_38 t_used_39 t_pipes_40 t_drilled_41 t_total_42 t_open_43 t_pipeInches_44 t_pipeChances_45 t_weights_46 t_woods_47 t_sums_48 s_place_49 H locs ls h hP hS hl => ?_) n_33 ((-1000 : Int32) - s_place_2) t_space_3 t_beam_4 t_door_5 t_law_6 t_used_7 t_pipes_8 t_drilled_9 t_total_10 t_open_11 t_pipeInches_12 t_pipeChances_13 t_weights_14 t_woods_15 t_sums_16 (0 : Int32) _ _ _ h hP hS (lv_sub hl [1, 0] rfl)
    try dsimp only at h
    refine lv_iload_n hx hb dX4_wall_109 rfl (lv_at hl 1 rfl) ?_
    refine lv_if_le (tgt := 124) hx hb dX4_wall_110 (by decide) (fun z => ?_) (fun z => ?_)
    · replace h := h.1 z
      refine lv_aload_n hx hb dX4_wall_124 rfl (lv_at hl 0 rfl) ?_
      refine va_get (D := D) (ci := 4) (v := .ref (a_s 0)) (C := RX4) (T := TX4) (N := 8) hx hb ht inX4 hown hK hP 0 rfl rfl 3 (by decide) (ht _ fl_X4_25) (fun _ h9 => h9) rfl dX4_wall_125 ?_
      refine lv_iconst (v := (0 : Int32)) hx hb dX4_wall_128 (by decide) ?_
      refine va_put (D := D) (ci := 2) (v := .int (0 : Int32)) (ty := .int) (C := RX2) (T := TX2) (N := 3) hx hb ht inX2 tyX2 tyX2_ok nmX2 hown hK hP (hDD _ rfl) hS 14 rfl rfl 1 (by decide) (ht _ fl_X4_55) (fun _ h9 => h9) rfl (by decide +kernel) rfl rfl (Nat.le_of_ble_eq_true rfl) dX4_wall_129 (fun H locs hP _ hS => ?_)
      have hP : va_P D vwCl ((bX4 cI cJ cC a_T a_n a_k a_t a_s a_r a_c T_isKept T_refusals) ++ (bX3 cI cJ cC a_n n_space n_beam n_door n_law n_used n_pipes n_drilled n_total n_open n_pipeInches n_pipeChances n_weights n_woods n_sums) ++ (bX3 cI cJ cC a_t t_space_35 t_beam_36 t_door_37 t_law_38 t_used_39 t_pipes_40 t_drilled_41 t_total_42 t_open_43 t_pipeInches_44 t_pipeChances_45 t_weights_46 t_woods_47 t_sums_48) ++ (bX2 cI cJ cC a_s (0 : Int32) s_place_49 s_signs)) H := hP
      refine lv_iload_n hx hb dX4_wall_132 rfl (lv_at hl 1 rfl) ?_
      exact hret x1_34 (n_space, n_beam, n_door, n_law, n_used, n_pipes, n_drilled, n_total, n_open, n_pipeInches, n_pipeChances, n_weights, n_woods, n_sums, t_space_35, t_beam_36, t_door_37, t_law_38, t_used_39, t_pipes_40, t_drilled_41, t_total_42, t_open_43, t_pipeInches_44, t_pipeChances_45, t_weights_46, t_woods_47, t_sums_48, (0 : Int32), s_place_49) _ _ _ _ rfl h hP hS dX4_wall_133
    · replace h := h.2 z
      refine lv_aload_n hx hb dX4_wall_113 rfl (lv_at hl 0 rfl) ?_
      refine va_get (D := D) (ci := 4) (v := .ref (a_n 0)) (C := RX4) (T := TX4) (N := 8) hx hb ht inX4 hown hK hP 0 rfl rfl 0 (by decide) (ht _ fl_X4_10) (fun _ h9 => h9) rfl dX4_wall_114 ?_
      refine lv_aload_n hx hb dX4_wall_117 rfl (lv_at hl 0 rfl) ?_
      refine va_get (D := D) (ci := 4) (v := .ref (a_t 0)) (C := RX4) (T := TX4) (N := 8) hx hb ht inX4 hown hK hP 0 rfl rfl 2 (by decide) (ht _ fl_X4_19) (fun _ h9 => h9) rfl dX4_wall_118 ?_
      have hPw : va_P D vwCl ((bX3 cI cJ cC a_n n_space n_beam n_door n_law n_used n_pipes n_drilled n_total n_open n_pipeInches n_pipeChances n_weights n_woods n_sums) ++ (bX3 cI cJ cC a_t t_space_35 t_beam_36 t_door_37 t_law_38 t_used_39 t_pipes_40 t_drilled_41 t_total_42 t_open_43 t_pipeInches_44 t_pipeChances_45 t_weights_46 t_woods_47 t_sums_48)) _ := hP.sub [2, 3, 4, 5, 6, 7, 8, 9, 10, 11, 12, 13] rfl
      have hDw : va_D A ((bX3 cI cJ cC a_n n_space n_beam n_door n_law n_used n_pipes n_drilled n_total n_open n_pipeInches n_pipeChances n_weights n_woods n_sums) ++ (bX3 cI cJ cC a_t t_space_35 t_beam_36 t_door_37 t_law_38 t_used_39 t_pipes_40 t_drilled_41 t_total_42 t_open_43 t_pipeInches_44 t_pipeChances_45 t_weights_46 t_woods_47 t_sums_48)) := (hDD _ rfl).sub (ws := (bX4 cI cJ cC a_T a_n a_k a_t a_s a_r a_c T_isKept T_refusals) ++ (bX3 cI cJ cC a_n n_space n_beam n_door n_law n_used n_pipes n_drilled n_total n_open n_pipeInches n_pipeChances n_weights n_woods n_sums) ++ (bX3 cI cJ cC a_t t_space_35 t_beam_36 t_door_37 t_law_38 t_used_39 t_pipes_40 t_drilled_41 t_total_42 t_open_43 t_pipeInches_44 t_pipeChances_45 t_weights_46 t_woods_47 t_sums_48) ++ (bX2 cI cJ cC a_s s_length s_place_49 s_signs)) [2, 3, 4, 5, 6, 7, 8, 9, 10, 11, 12, 13] (by decide) rfl
      refine zcv hA hDw hS (zrunV (As := [.ref (a_t 0)]) (rest := []) S hK hA hE hPw hDw hS (mX3_becomeAs l D cI cJ cC G a_n a_t _ n_space n_beam n_door n_law n_used n_pipes n_drilled n_total n_open n_pipeInches n_pipeChances n_weights n_woods n_sums t_space_35 t_beam_36 t_door_37 t_law_38 t_used_39 t_pipes_40 t_drilled_41 t_total_42 t_open_43 t_pipeInches_44 t_pipeChances_45 t_weights_46 t_woods_47 t_sums_48 _ h) kX3_becomeAs ml_X4_70 ⟨rfl, rfl, by decide, by decide⟩ (q0 := 0) (ci := 3) rfl rfl rfl rfl hl.1 rfl (Nat.le_of_ble_eq_true rfl) dX4_wall_121 ⟨Nat.zero_le _, Nat.zero_le _⟩) (fun u H locs h hP1 hk1 hS => ?_)
      obtain ⟨n_space_50, n_beam_51, n_door_52, n_law_53, n_used_54, n_pipes_55, n_drilled_56, n_total_57, n_open_58, n_pipeInches_59, n_pipeChances_60, n_weights_61, n_woods_62, n_sums_63⟩ := u
      dsimp only at h
      have hP : va_P D vwCl ((bX4 cI cJ cC a_T a_n a_k a_t a_s a_r a_c T_isKept T_refusals) ++ (bX3 cI cJ cC a_n n_space_50 n_beam_51 n_door_52 n_law_53 n_used_54 n_pipes_55 n_drilled_56 n_total_57 n_open_58 n_pipeInches_59 n_pipeChances_60 n_weights_61 n_woods_62 n_sums_63) ++ (bX3 cI cJ cC a_t t_space_35 t_beam_36 t_door_37 t_law_38 t_used_39 t_pipes_40 t_drilled_41 t_total_42 t_open_43 t_pipeInches_44 t_pipeChances_45 t_weights_46 t_woods_47 t_sums_48) ++ (bX2 cI cJ cC a_s s_length s_place_49 s_signs)) H := zMerge hP (hDD _ rfl) [2, 3, 4, 5, 6, 7, 8, 9, 10, 11, 12, 13] rfl rfl hk1 hP1
      refine lv_aload_n hx hb dX4_wall_124 rfl (lv_at hl 0 rfl) ?_
      refine va_get (D := D) (ci := 4) (v := .ref (a_s 0)) (C := RX4) (T := TX4) (N := 8) hx hb ht inX4 hown hK hP 0 rfl rfl 3 (by decide) (ht _ fl_X4_25) (fun _ h9 => h9) rfl dX4_wall_125 ?_
      refine lv_iconst (v := (0 : Int32)) hx hb dX4_wall_128 (by decide) ?_
      refine va_put (D := D) (ci := 2) (v := .int (0 : Int32)) (ty := .int) (C := RX2) (T := TX2) (N := 3) hx hb ht inX2 tyX2 tyX2_ok nmX2 hown hK hP (hDD _ rfl) hS 14 rfl rfl 1 (by decide) (ht _ fl_X4_55) (fun _ h9 => h9) rfl (by decide +kernel) rfl rfl (Nat.le_of_ble_eq_true rfl) dX4_wall_129 (fun H locs hP _ hS => ?_)
      have hP : va_P D vwCl ((bX4 cI cJ cC a_T a_n a_k a_t a_s a_r a_c T_isKept T_refusals) ++ (bX3 cI cJ cC a_n n_space_50 n_beam_51 n_door_52 n_law_53 n_used_54 n_pipes_55 n_drilled_56 n_total_57 n_open_58 n_pipeInches_59 n_pipeChances_60 n_weights_61 n_woods_62 n_sums_63) ++ (bX3 cI cJ cC a_t t_space_35 t_beam_36 t_door_37 t_law_38 t_used_39 t_pipes_40 t_drilled_41 t_total_42 t_open_43 t_pipeInches_44 t_pipeChances_45 t_weights_46 t_woods_47 t_sums_48) ++ (bX2 cI cJ cC a_s (0 : Int32) s_place_49 s_signs)) H := hP
      refine lv_iload_n hx hb dX4_wall_132 rfl (lv_at hl 1 rfl) ?_
      exact hret x1_34 (n_space_50, n_beam_51, n_door_52, n_law_53, n_used_54, n_pipes_55, n_drilled_56, n_total_57, n_open_58, n_pipeInches_59, n_pipeChances_60, n_weights_61, n_woods_62, n_sums_63, t_space_35, t_beam_36, t_door_37, t_law_38, t_used_39, t_pipes_40, t_drilled_41, t_total_42, t_open_43, t_pipeInches_44, t_pipeChances_45, t_weights_46, t_woods_47, t_sums_48, (0 : Int32), s_place_49) _ _ _ _ rfl h hP hS dX4_wall_133
  · replace h := h.2 z
    refine lv_iconst (v := (0 : Int32)) hx hb dX4_wall_10 (by decide) ?_
    refine lv_goto (tgt := 25) hx hb dX4_wall_11 (by decide) ?_
    refine lv_istore_n (lv' := [(1, .int (0 : Int32)), (0, .ref (a_T 0))]) hx hb dX4_wall_25 rfl hl (by decide) rfl (fun ls hl => ?_)
    refine lv_aload_n hx hb dX4_wall_26 rfl (lv_at hl 1 rfl) ?_
    refine va_get (D := D) (ci := 4) (v := .ref (a_t 0)) (C := RX4) (T := TX4) (N := 8) hx hb ht inX4 hown hK hP 0 rfl rfl 2 (by decide) (ht _ fl_X4_19) (fun _ h9 => h9) rfl dX4_wall_27 ?_
    refine lv_aload_n hx hb dX4_wall_30 rfl (lv_at hl 1 rfl) ?_
    refine va_get (D := D) (ci := 4) (v := .ref (a_n 0)) (C := RX4) (T := TX4) (N := 8) hx hb ht inX4 hown hK hP 0 rfl rfl 0 (by decide) (ht _ fl_X4_10) (fun _ h9 => h9) rfl dX4_wall_31 ?_
    have hPw : va_P D vwCl ((bX3 cI cJ cC a_t t_space t_beam t_door t_law t_used t_pipes t_drilled t_total t_open t_pipeInches t_pipeChances t_weights t_woods t_sums) ++ (bX3 cI cJ cC a_n n_space n_beam n_door n_law n_used n_pipes n_drilled n_total n_open n_pipeInches n_pipeChances n_weights n_woods n_sums)) _ := hP.sub [8, 9, 10, 11, 12, 13, 2, 3, 4, 5, 6, 7] rfl
    have hDw : va_D A ((bX3 cI cJ cC a_t t_space t_beam t_door t_law t_used t_pipes t_drilled t_total t_open t_pipeInches t_pipeChances t_weights t_woods t_sums) ++ (bX3 cI cJ cC a_n n_space n_beam n_door n_law n_used n_pipes n_drilled n_total n_open n_pipeInches n_pipeChances n_weights n_woods n_sums)) := (hDD _ rfl).sub (ws := (bX4 cI cJ cC a_T a_n a_k a_t a_s a_r a_c T_isKept T_refusals) ++ (bX3 cI cJ cC a_n n_space n_beam n_door n_law n_used n_pipes n_drilled n_total n_open n_pipeInches n_pipeChances n_weights n_woods n_sums) ++ (bX3 cI cJ cC a_t t_space t_beam t_door t_law t_used t_pipes t_drilled t_total t_open t_pipeInches t_pipeChances t_weights t_woods t_sums) ++ (bX2 cI cJ cC a_s s_length s_place_2 s_signs)) [8, 9, 10, 11, 12, 13, 2, 3, 4, 5, 6, 7] (by decide) rfl
    refine zcv hA hDw hS (zrunV (As := [.ref (a_n 0)]) (rest := []) S hK hA hE hPw hDw hS (mX3_becomeAs l D cI cJ cC G a_t a_n _ t_space t_beam t_door t_law t_used t_pipes t_drilled t_total t_open t_pipeInches t_pipeChances t_weights t_woods t_sums n_space n_beam n_door n_law n_used n_pipes n_drilled n_total n_open n_pipeInches n_pipeChances n_weights n_woods n_sums _ h) kX3_becomeAs ml_X4_70 ⟨rfl, rfl, by decide, by decide⟩ (q0 := 0) (ci := 3) rfl rfl rfl rfl hl.1 rfl (Nat.le_of_ble_eq_true rfl) dX4_wall_34 ⟨Nat.zero_le _, Nat.zero_le _⟩) (fun u H locs h hP1 hk1 hS => ?_)
    obtain ⟨t_space_64, t_beam_65, t_door_66, t_law_67, t_used_68, t_pipes_69, t_drilled_70, t_total_71, t_open_72, t_pipeInches_73, t_pipeChances_74, t_weights_75, t_woods_76, t_sums_77⟩ := u
    dsimp only at h
    have hP : va_P D vwCl ((bX4 cI cJ cC a_T a_n a_k a_t a_s a_r a_c T_isKept T_refusals) ++ (bX3 cI cJ cC a_n n_space n_beam n_door n_law n_used n_pipes n_drilled n_total n_open n_pipeInches n_pipeChances n_weights n_woods n_sums) ++ (bX3 cI cJ cC a_t t_space_64 t_beam_65 t_door_66 t_law_67 t_used_68 t_pipes_69 t_drilled_70 t_total_71 t_open_72 t_pipeInches_73 t_pipeChances_74 t_weights_75 t_woods_76 t_sums_77) ++ (bX2 cI cJ cC a_s s_length s_place_2 s_signs)) H := zMerge hP (hDD _ rfl) [8, 9, 10, 11, 12, 13, 2, 3, 4, 5, 6, 7] rfl rfl hk1 hP1
    refine lv_aload_n hx hb dX4_wall_37 rfl (lv_at hl 1 rfl) ?_
    refine va_get (D := D) (ci := 4) (v := .ref (a_s 0)) (C := RX4) (T := TX4) (N := 8) hx hb ht inX4 hown hK hP 0 rfl rfl 3 (by decide) (ht _ fl_X4_25) (fun _ h9 => h9) rfl dX4_wall_38 ?_
    refine lv_iconst (v := (0 : Int32)) hx hb dX4_wall_41 (by decide) ?_
    refine va_put (D := D) (ci := 2) (v := .int (0 : Int32)) (ty := .int) (C := RX2) (T := TX2) (N := 3) hx hb ht inX2 tyX2 tyX2_ok nmX2 hown hK hP (hDD _ rfl) hS 14 rfl rfl 2 (by decide) (ht _ fl_X4_67) (fun _ h9 => h9) rfl (by decide +kernel) rfl rfl (Nat.le_of_ble_eq_true rfl) dX4_wall_42 (fun H locs hP _ hS => ?_)
    have hP : va_P D vwCl ((bX4 cI cJ cC a_T a_n a_k a_t a_s a_r a_c T_isKept T_refusals) ++ (bX3 cI cJ cC a_n n_space n_beam n_door n_law n_used n_pipes n_drilled n_total n_open n_pipeInches n_pipeChances n_weights n_woods n_sums) ++ (bX3 cI cJ cC a_t t_space_64 t_beam_65 t_door_66 t_law_67 t_used_68 t_pipes_69 t_drilled_70 t_total_71 t_open_72 t_pipeInches_73 t_pipeChances_74 t_weights_75 t_woods_76 t_sums_77) ++ (bX2 cI cJ cC a_s s_length (0 : Int32) s_signs)) H := hP
    obtain ⟨n_94, h⟩ := h
    refine wX4_wall_45 l D cI cJ cC G a_T a_n a_k a_t a_s a_r a_c T_isKept T_refusals n_space n_beam n_door n_law n_used n_pipes n_drilled n_total n_open n_pipeInches n_pipeChances n_weights n_woods n_sums s_length s_signs _ S hK hDD hA hE (fun x1_95 t_space_96 t_beam_97 t_door_98 t_law_99 t_used_100 t_pipes_101 t_drilled_102 t_total_103 t_open_104 t_pipeInches_105 t_pipeChances_106 t_weights_107 t_woods_108 t_sums_109 s_place_110 H locs ls h hP hS hl => ?_) n_94 (0 : Int32) t_space_64 t_beam_65 t_door_66 t_law_67 t_used_68 t_pipes_69 t_drilled_70 t_total_71 t_open_72 t_pipeInches_73 t_pipeChances_74 t_weights_75 t_woods_76 t_sums_77 (0 : Int32) _ _ _ h hP hS (lv_sub hl [1, 0] rfl)
    try dsimp only at h
    refine lv_iload_n hx hb dX4_wall_109 rfl (lv_at hl 1 rfl) ?_
    refine lv_if_le (tgt := 124) hx hb dX4_wall_110 (by decide) (fun z => ?_) (fun z => ?_)
    · replace h := h.1 z
      refine lv_aload_n hx hb dX4_wall_124 rfl (lv_at hl 0 rfl) ?_
      refine va_get (D := D) (ci := 4) (v := .ref (a_s 0)) (C := RX4) (T := TX4) (N := 8) hx hb ht inX4 hown hK hP 0 rfl rfl 3 (by decide) (ht _ fl_X4_25) (fun _ h9 => h9) rfl dX4_wall_125 ?_
      refine lv_iconst (v := (0 : Int32)) hx hb dX4_wall_128 (by decide) ?_
      refine va_put (D := D) (ci := 2) (v := .int (0 : Int32)) (ty := .int) (C := RX2) (T := TX2) (N := 3) hx hb ht inX2 tyX2 tyX2_ok nmX2 hown hK hP (hDD _ rfl) hS 14 rfl rfl 1 (by decide) (ht _ fl_X4_55) (fun _ h9 => h9) rfl (by decide +kernel) rfl rfl (Nat.le_of_ble_eq_true rfl) dX4_wall_129 (fun H locs hP _ hS => ?_)
      have hP : va_P D vwCl ((bX4 cI cJ cC a_T a_n a_k a_t a_s a_r a_c T_isKept T_refusals) ++ (bX3 cI cJ cC a_n n_space n_beam n_door n_law n_used n_pipes n_drilled n_total n_open n_pipeInches n_pipeChances n_weights n_woods n_sums) ++ (bX3 cI cJ cC a_t t_space_96 t_beam_97 t_door_98 t_law_99 t_used_100 t_pipes_101 t_drilled_102 t_total_103 t_open_104 t_pipeInches_105 t_pipeChances_106 t_weights_107 t_woods_108 t_sums_109) ++ (bX2 cI cJ cC a_s (0 : Int32) s_place_110 s_signs)) H := hP
      refine lv_iload_n hx hb dX4_wall_132 rfl (lv_at hl 1 rfl) ?_
      exact hret x1_95 (n_space, n_beam, n_door, n_law, n_used, n_pipes, n_drilled, n_total, n_open, n_pipeInches, n_pipeChances, n_weights, n_woods, n_sums, t_space_96, t_beam_97, t_door_98, t_law_99, t_used_100, t_pipes_101, t_drilled_102, t_total_103, t_open_104, t_pipeInches_105, t_pipeChances_106, t_weights_107, t_woods_108, t_sums_109, (0 : Int32), s_place_110) _ _ _ _ rfl h hP hS dX4_wall_133
    · replace h := h.2 z
      refine lv_aload_n hx hb dX4_wall_113 rfl (lv_at hl 0 rfl) ?_
      refine va_get (D := D) (ci := 4) (v := .ref (a_n 0)) (C := RX4) (T := TX4) (N := 8) hx hb ht inX4 hown hK hP 0 rfl rfl 0 (by decide) (ht _ fl_X4_10) (fun _ h9 => h9) rfl dX4_wall_114 ?_
      refine lv_aload_n hx hb dX4_wall_117 rfl (lv_at hl 0 rfl) ?_
      refine va_get (D := D) (ci := 4) (v := .ref (a_t 0)) (C := RX4) (T := TX4) (N := 8) hx hb ht inX4 hown hK hP 0 rfl rfl 2 (by decide) (ht _ fl_X4_19) (fun _ h9 => h9) rfl dX4_wall_118 ?_
      have hPw : va_P D vwCl ((bX3 cI cJ cC a_n n_space n_beam n_door n_law n_used n_pipes n_drilled n_total n_open n_pipeInches n_pipeChances n_weights n_woods n_sums) ++ (bX3 cI cJ cC a_t t_space_96 t_beam_97 t_door_98 t_law_99 t_used_100 t_pipes_101 t_drilled_102 t_total_103 t_open_104 t_pipeInches_105 t_pipeChances_106 t_weights_107 t_woods_108 t_sums_109)) _ := hP.sub [2, 3, 4, 5, 6, 7, 8, 9, 10, 11, 12, 13] rfl
      have hDw : va_D A ((bX3 cI cJ cC a_n n_space n_beam n_door n_law n_used n_pipes n_drilled n_total n_open n_pipeInches n_pipeChances n_weights n_woods n_sums) ++ (bX3 cI cJ cC a_t t_space_96 t_beam_97 t_door_98 t_law_99 t_used_100 t_pipes_101 t_drilled_102 t_total_103 t_open_104 t_pipeInches_105 t_pipeChances_106 t_weights_107 t_woods_108 t_sums_109)) := (hDD _ rfl).sub (ws := (bX4 cI cJ cC a_T a_n a_k a_t a_s a_r a_c T_isKept T_refusals) ++ (bX3 cI cJ cC a_n n_space n_beam n_door n_law n_used n_pipes n_drilled n_total n_open n_pipeInches n_pipeChances n_weights n_woods n_sums) ++ (bX3 cI cJ cC a_t t_space_96 t_beam_97 t_door_98 t_law_99 t_used_100 t_pipes_101 t_drilled_102 t_total_103 t_open_104 t_pipeInches_105 t_pipeChances_106 t_weights_107 t_woods_108 t_sums_109) ++ (bX2 cI cJ cC a_s s_length s_place_110 s_signs)) [2, 3, 4, 5, 6, 7, 8, 9, 10, 11, 12, 13] (by decide) rfl
      refine zcv hA hDw hS (zrunV (As := [.ref (a_t 0)]) (rest := []) S hK hA hE hPw hDw hS (mX3_becomeAs l D cI cJ cC G a_n a_t _ n_space n_beam n_door n_law n_used n_pipes n_drilled n_total n_open n_pipeInches n_pipeChances n_weights n_woods n_sums t_space_96 t_beam_97 t_door_98 t_law_99 t_used_100 t_pipes_101 t_drilled_102 t_total_103 t_open_104 t_pipeInches_105 t_pipeChances_106 t_weights_107 t_woods_108 t_sums_109 _ h) kX3_becomeAs ml_X4_70 ⟨rfl, rfl, by decide, by decide⟩ (q0 := 0) (ci := 3) rfl rfl rfl rfl hl.1 rfl (Nat.le_of_ble_eq_true rfl) dX4_wall_121 ⟨Nat.zero_le _, Nat.zero_le _⟩) (fun u H locs h hP1 hk1 hS => ?_)
      obtain ⟨n_space_111, n_beam_112, n_door_113, n_law_114, n_used_115, n_pipes_116, n_drilled_117, n_total_118, n_open_119, n_pipeInches_120, n_pipeChances_121, n_weights_122, n_woods_123, n_sums_124⟩ := u
      dsimp only at h
      have hP : va_P D vwCl ((bX4 cI cJ cC a_T a_n a_k a_t a_s a_r a_c T_isKept T_refusals) ++ (bX3 cI cJ cC a_n n_space_111 n_beam_112 n_door_113 n_law_114 n_used_115 n_pipes_116 n_drilled_117 n_total_118 n_open_119 n_pipeInches_120 n_pipeChances_121 n_weights_122 n_woods_123 n_sums_124) ++ (bX3 cI cJ cC a_t t_space_96 t_beam_97 t_door_98 t_law_99 t_used_100 t_pipes_101 t_drilled_102 t_total_103 t_open_104 t_pipeInches_105 t_pipeChances_106 t_weights_107 t_woods_108 t_sums_109) ++ (bX2 cI cJ cC a_s s_length s_place_110 s_signs)) H := zMerge hP (hDD _ rfl) [2, 3, 4, 5, 6, 7, 8, 9, 10, 11, 12, 13] rfl rfl hk1 hP1
      refine lv_aload_n hx hb dX4_wall_124 rfl (lv_at hl 0 rfl) ?_
      refine va_get (D := D) (ci := 4) (v := .ref (a_s 0)) (C := RX4) (T := TX4) (N := 8) hx hb ht inX4 hown hK hP 0 rfl rfl 3 (by decide) (ht _ fl_X4_25) (fun _ h9 => h9) rfl dX4_wall_125 ?_
      refine lv_iconst (v := (0 : Int32)) hx hb dX4_wall_128 (by decide) ?_
      refine va_put (D := D) (ci := 2) (v := .int (0 : Int32)) (ty := .int) (C := RX2) (T := TX2) (N := 3) hx hb ht inX2 tyX2 tyX2_ok nmX2 hown hK hP (hDD _ rfl) hS 14 rfl rfl 1 (by decide) (ht _ fl_X4_55) (fun _ h9 => h9) rfl (by decide +kernel) rfl rfl (Nat.le_of_ble_eq_true rfl) dX4_wall_129 (fun H locs hP _ hS => ?_)
      have hP : va_P D vwCl ((bX4 cI cJ cC a_T a_n a_k a_t a_s a_r a_c T_isKept T_refusals) ++ (bX3 cI cJ cC a_n n_space_111 n_beam_112 n_door_113 n_law_114 n_used_115 n_pipes_116 n_drilled_117 n_total_118 n_open_119 n_pipeInches_120 n_pipeChances_121 n_weights_122 n_woods_123 n_sums_124) ++ (bX3 cI cJ cC a_t t_space_96 t_beam_97 t_door_98 t_law_99 t_used_100 t_pipes_101 t_drilled_102 t_total_103 t_open_104 t_pipeInches_105 t_pipeChances_106 t_weights_107 t_woods_108 t_sums_109) ++ (bX2 cI cJ cC a_s (0 : Int32) s_place_110 s_signs)) H := hP
      refine lv_iload_n hx hb dX4_wall_132 rfl (lv_at hl 1 rfl) ?_
      exact hret x1_95 (n_space_111, n_beam_112, n_door_113, n_law_114, n_used_115, n_pipes_116, n_drilled_117, n_total_118, n_open_119, n_pipeInches_120, n_pipeChances_121, n_weights_122, n_woods_123, n_sums_124, t_space_96, t_beam_97, t_door_98, t_law_99, t_used_100, t_pipes_101, t_drilled_102, t_total_103, t_open_104, t_pipeInches_105, t_pipeChances_106, t_weights_107, t_woods_108, t_sums_109, (0 : Int32), s_place_110) _ _ _ _ rfl h hP hS dX4_wall_133
def wpX4_set (post : Int32 → (Nat → Int32) → Int32 → Int32 → Int32 → Int32 → Int32 → Int64 → Int32 → (Nat → Int64) → (Nat → Int32) → (Nat → Int64) → Prop) (T_refusals : Nat → Int32) (n_space : Int32) (n_beam : Int32) (n_door : Int32) (n_law : Int32) (n_used : Int32) (n_total : Int64) (n_open : Int32) (n_weights : Nat → Int64) (n_woods : Nat → Int32) (n_sums : Nat → Int64) (p1 : Int32) (p2 : Int32) : Prop := ((p1 < (0 : Int32) → (wpX4_refuse (fun (r_1 : Int32) (T_refusals_2 : Nat → Int32) => post r_1 T_refusals_2 n_space n_beam n_door n_law n_used n_total n_open n_weights n_woods n_sums) T_refusals (-2 : Int32))) ∧ (¬ (p1 < (0 : Int32)) → (((p1 ≤ (3 : Int32) → (wpX4_isOut (fun (r_3 : Int32) => ((r_3 = (0 : Int32) → (wpX3_measure (fun (r_4 : Int32) => wpX3_changeMeasure (fun (n_space_5 : Int32) (n_beam_6 : Int32) (n_door_7 : Int32) (n_law_8 : Int32) => wpX3_beginAnew (fun (n_used_9 : Int32) (n_total_10 : Int64) (n_open_11 : Int32) (n_weights_12 : Nat → Int64) (n_woods_13 : Nat → Int32) (n_sums_14 : Nat → Int64) => post r_4 T_refusals n_space_5 n_beam_6 n_door_7 n_law_8 n_used_9 n_total_10 n_open_11 n_weights_12 n_woods_13 n_sums_14) n_space_5 n_beam_6 n_door_7 n_law_8 n_weights n_woods n_sums) n_space n_beam n_door n_law p1 p2) n_space n_beam n_door n_law p1)) ∧ (¬ (r_3 = (0 : Int32)) → (vp_in p1 4 ∧ ((((([6, 1, 0, 0] : List Int32).getD p1.toNatClampNeg 0) ≤ p2 → (wpX4_refuse (fun (r_15 : Int32) (T_refusals_16 : Nat → Int32) => post r_15 T_refusals_16 n_space n_beam n_door n_law n_used n_total n_open n_weights n_woods n_sums) T_refusals (-6 : Int32))) ∧ (¬ ((([6, 1, 0, 0] : List Int32).getD p1.toNatClampNeg 0) ≤ p2) → (wpX4_refuse (fun (r_17 : Int32) (T_refusals_18 : Nat → Int32) => post r_17 T_refusals_18 n_space n_beam n_door n_law n_used n_total n_open n_weights n_woods n_sums) T_refusals (-4 : Int32))))))))) p1 p2)) ∧ (¬ (p1 ≤ (3 : Int32)) → (wpX4_refuse (fun (r_19 : Int32) (T_refusals_20 : Nat → Int32) => post r_19 T_refusals_20 n_space n_beam n_door n_law n_used n_total n_open n_weights n_woods n_sums) T_refusals (-2 : Int32)))))))
set_option maxHeartbeats 4000000 in
set_option maxRecDepth 100000 in
theorem mX4_set (l : Launch) (D : va_G) (cI cJ cC : ClassId) (G : Nat → Nat → Nat) (a_T : Nat → Nat) (a_n : Nat → Nat) (a_k : Nat → Nat) (a_t : Nat → Nat) (a_s : Nat → Nat) (a_r : Nat → Nat) (a_c : Nat → Nat) (sz : Nat) (T_isKept : Int32) (T_refusals : Nat → Int32) (n_space : Int32) (n_beam : Int32) (n_door : Int32) (n_law : Int32) (n_used : Int32) (n_pipes : Int32) (n_drilled : Int64) (n_total : Int64) (n_open : Int32) (n_pipeInches : Nat → Int32) (n_pipeChances : Nat → Int32) (n_weights : Nat → Int64) (n_woods : Nat → Int32) (n_sums : Nat → Int64) (p1 : Int32) (p2 : Int32) (post : Int32 → (Nat → Int32) → Int32 → Int32 → Int32 → Int32 → Int32 → Int64 → Int32 → (Nat → Int64) → (Nat → Int32) → (Nat → Int64) → Prop) (h : wpX4_set post T_refusals n_space n_beam n_door n_law n_used n_total n_open n_weights n_woods n_sums p1 p2) : Met l yX4_set (wz yX4_set cX4_set 4 (some .int)) ({ frames := 4, cells := 0, slots := 0, locals := 87 }) (va_Pc [.ref (a_T 0), .int p1, .int p2] (PW D (tz cI cJ cC) G ((bX4 cI cJ cC a_T a_n a_k a_t a_s a_r a_c T_isKept T_refusals) ++ (bX3 cI cJ cC a_n n_space n_beam n_door n_law n_used n_pipes n_drilled n_total n_open n_pipeInches n_pipeChances n_weights n_woods n_sums)) sz)) (va_Qi (fun (r : Int32) (u : (Nat → Int32) × Int32 × Int32 × Int32 × Int32 × Int32 × Int64 × Int32 × (Nat → Int64) × (Nat → Int32) × (Nat → Int64)) => post r u.1 u.2.1 u.2.2.1 u.2.2.2.1 u.2.2.2.2.1 u.2.2.2.2.2.1 u.2.2.2.2.2.2.1 u.2.2.2.2.2.2.2.1 u.2.2.2.2.2.2.2.2.1 u.2.2.2.2.2.2.2.2.2.1 u.2.2.2.2.2.2.2.2.2.2) (fun (u : (Nat → Int32) × Int32 × Int32 × Int32 × Int32 × Int32 × Int64 × Int32 × (Nat → Int64) × (Nat → Int32) × (Nat → Int64)) t => va_P D vwCl ((bX4 cI cJ cC a_T a_n a_k a_t a_s a_r a_c T_isKept u.1) ++ (bX3 cI cJ cC a_n u.2.1 u.2.2.1 u.2.2.2.1 u.2.2.2.2.1 u.2.2.2.2.2.1 n_pipes n_drilled u.2.2.2.2.2.2.1 u.2.2.2.2.2.2.2.1 n_pipeInches n_pipeChances u.2.2.2.2.2.2.2.2.1 u.2.2.2.2.2.2.2.2.2.1 u.2.2.2.2.2.2.2.2.2.2)) t.heap) (va_A ((bX4 cI cJ cC a_T a_n a_k a_t a_s a_r a_c T_isKept T_refusals) ++ (bX3 cI cJ cC a_n n_space n_beam n_door n_law n_used n_pipes n_drilled n_total n_open n_pipeInches n_pipeChances n_weights n_woods n_sums)) sz)) 0 0 (va_A ((bX4 cI cJ cC a_T a_n a_k a_t a_s a_r a_c T_isKept T_refusals) ++ (bX3 cI cJ cC a_n n_space n_beam n_door n_law n_used n_pipes n_drilled n_total n_open n_pipeInches n_pipeChances n_weights n_woods n_sums)) sz) := by
  refine zmi (gw := fun (u : (Nat → Int32) × Int32 × Int32 × Int32 × Int32 × Int32 × Int64 × Int32 × (Nat → Int64) × (Nat → Int32) × (Nat → Int64)) => (bX4 cI cJ cC a_T a_n a_k a_t a_s a_r a_c T_isKept u.1) ++ (bX3 cI cJ cC a_n u.2.1 u.2.2.1 u.2.2.2.1 u.2.2.2.2.1 u.2.2.2.2.2.1 n_pipes n_drilled u.2.2.2.2.2.2.1 u.2.2.2.2.2.2.2.1 n_pipeInches n_pipeChances u.2.2.2.2.2.2.2.2.1 u.2.2.2.2.2.2.2.2.2.1 u.2.2.2.2.2.2.2.2.2.2)) (plainFor_of_name (by decide)) (Nat.le_of_ble_eq_true rfl) ?_
  intro p e s m below meth c A Q ls S hK hD hA hE hP hl hret
  obtain ⟨hx, hb, hml, hown, ht⟩ := id S
  have hS : va_S A s.heap s.heap [] := va_S.rf
  have hDD : ∀ ws : va_W, ws.map (fun q => q.1) = [a_T 0, a_T 1, a_n 0, a_n 1, a_n 2, a_n 3, a_n 4, a_n 5] → va_D A ws := fun ws hw => zD hD (hw.trans rfl)
  have hl : lv_has ls 4 [(0, .ref (a_T 0)), (1, .int p1), (2, .int p2)] := hl
  unfold wpX4_set at h
  refine lv_iload_n hx hb dX4_set_0 rfl (lv_at hl 1 rfl) ?_
  refine lv_if_lt (tgt := 9) hx hb dX4_set_1 (by decide) (fun z => ?_) (fun z => ?_)
  · replace h := h.1 z
    refine lv_aload_n hx hb dX4_set_9 rfl (lv_at hl 0 rfl) ?_
    refine lv_bipush (v := (-2 : Int32)) hx hb dX4_set_10 (by decide) ?_
    have hPw : va_P D vwCl ((bX4 cI cJ cC a_T a_n a_k a_t a_s a_r a_c T_isKept T_refusals)) _ := hP.sub [0, 1] rfl
    have hDw : va_D A ((bX4 cI cJ cC a_T a_n a_k a_t a_s a_r a_c T_isKept T_refusals)) := (hDD _ rfl).sub (ws := (bX4 cI cJ cC a_T a_n a_k a_t a_s a_r a_c T_isKept T_refusals) ++ (bX3 cI cJ cC a_n n_space n_beam n_door n_law n_used n_pipes n_drilled n_total n_open n_pipeInches n_pipeChances n_weights n_woods n_sums)) [0, 1] (by decide) rfl
    refine zci hA hDw hS (zrunV (As := [.int (-2 : Int32)]) (rest := []) S hK hA hE hPw hDw hS (mX4_refuse l D cI cJ cC G a_T a_n a_k a_t a_s a_r a_c _ T_isKept T_refusals (-2 : Int32) _ h) kX4_refuse ml_X4_51 ⟨rfl, rfl, by decide, by decide⟩ (q0 := 0) (ci := 4) rfl rfl rfl rfl hl.1 rfl (Nat.le_of_ble_eq_true rfl) dX4_set_12 ⟨Nat.zero_le _, Nat.zero_le _⟩) (fun r_1 T_refusals_2 H locs h hP1 hk1 hS => ?_)
    try dsimp only at h
    have hP : va_P D vwCl ((bX4 cI cJ cC a_T a_n a_k a_t a_s a_r a_c T_isKept T_refusals_2) ++ (bX3 cI cJ cC a_n n_space n_beam n_door n_law n_used n_pipes n_drilled n_total n_open n_pipeInches n_pipeChances n_weights n_woods n_sums)) H := zMerge hP (hDD _ rfl) [0, 1] rfl rfl hk1 hP1
    exact hret r_1 (T_refusals_2, n_space, n_beam, n_door, n_law, n_used, n_total, n_open, n_weights, n_woods, n_sums) _ _ _ _ rfl h hP hS dX4_set_15
  · replace h := h.2 z
    refine lv_iload_n hx hb dX4_set_4 rfl (lv_at hl 1 rfl) ?_
    refine lv_iconst (v := (3 : Int32)) hx hb dX4_set_5 (by decide) ?_
    refine lv_icmp_le (tgt := 16) hx hb dX4_set_6 (by decide) (fun z => ?_) (fun z => ?_)
    · replace h := h.1 z
      refine lv_iload_n hx hb dX4_set_16 rfl (lv_at hl 1 rfl) ?_
      refine lv_iload_n hx hb dX4_set_17 rfl (lv_at hl 2 rfl) ?_
      refine zci hA zD0 hS (zrunS (As := [.int p1, .int p2]) (rest := []) S hK hA hE zP0 zD0 hS (mX4_isOut l D cI cJ cC G _ p1 p2 _ h) kX4_isOut ml_X4_78 ⟨rfl, rfl, by decide, by decide⟩ rfl hl.1 rfl (Nat.le_of_ble_eq_true rfl) dX4_set_18 ⟨Nat.zero_le _, Nat.zero_le _⟩) (fun r_3 u H locs h hP1 hk1 hS => ?_)
      try dsimp only at h
      have hP : va_P D vwCl ((bX4 cI cJ cC a_T a_n a_k a_t a_s a_r a_c T_isKept T_refusals) ++ (bX3 cI cJ cC a_n n_space n_beam n_door n_law n_used n_pipes n_drilled n_total n_open n_pipeInches n_pipeChances n_weights n_woods n_sums)) H := zKeep hP hk1
      refine lv_if_eq (tgt := 45) hx hb dX4_set_21 (by decide) (fun z => ?_) (fun z => ?_)
      · replace h := h.1 z
        refine lv_aload_n hx hb dX4_set_45 rfl (lv_at hl 0 rfl) ?_
        refine va_get (D := D) (ci := 4) (v := .ref (a_n 0)) (C := RX4) (T := TX4) (N := 8) hx hb ht inX4 hown hK hP 0 rfl rfl 0 (by decide) (ht _ fl_X4_10) (fun _ h9 => h9) rfl dX4_set_46 ?_
        refine lv_iload_n hx hb dX4_set_49 rfl (lv_at hl 1 rfl) ?_
        have hPw : va_P D vwCl ((bX3 cI cJ cC a_n n_space n_beam n_door n_law n_used n_pipes n_drilled n_total n_open n_pipeInches n_pipeChances n_weights n_woods n_sums)) _ := hP.sub [2, 3, 4, 5, 6, 7] rfl
        have hDw : va_D A ((bX3 cI cJ cC a_n n_space n_beam n_door n_law n_used n_pipes n_drilled n_total n_open n_pipeInches n_pipeChances n_weights n_woods n_sums)) := (hDD _ rfl).sub (ws := (bX4 cI cJ cC a_T a_n a_k a_t a_s a_r a_c T_isKept T_refusals) ++ (bX3 cI cJ cC a_n n_space n_beam n_door n_law n_used n_pipes n_drilled n_total n_open n_pipeInches n_pipeChances n_weights n_woods n_sums)) [2, 3, 4, 5, 6, 7] (by decide) rfl
        refine zci hA hDw hS (zrunV (As := [.int p1]) (rest := []) S hK hA hE hPw hDw hS (mX3_measure l D cI cJ cC G a_n _ n_space n_beam n_door n_law n_used n_pipes n_drilled n_total n_open n_pipeInches n_pipeChances n_weights n_woods n_sums p1 _ h) kX3_measure ml_X4_85 ⟨rfl, rfl, by decide, by decide⟩ (q0 := 0) (ci := 3) rfl rfl rfl rfl hl.1 rfl (Nat.le_of_ble_eq_true rfl) dX4_set_50 ⟨Nat.zero_le _, Nat.zero_le _⟩) (fun r_4 u H locs h hP1 hk1 hS => ?_)
        try dsimp only at h
        have hP : va_P D vwCl ((bX4 cI cJ cC a_T a_n a_k a_t a_s a_r a_c T_isKept T_refusals) ++ (bX3 cI cJ cC a_n n_space n_beam n_door n_law n_used n_pipes n_drilled n_total n_open n_pipeInches n_pipeChances n_weights n_woods n_sums)) H := zMerge hP (hDD _ rfl) [2, 3, 4, 5, 6, 7] rfl rfl hk1 hP1
        refine lv_istore_n (lv' := [(3, .int r_4), (0, .ref (a_T 0)), (1, .int p1), (2, .int p2)]) hx hb dX4_set_53 rfl hl (by decide) rfl (fun ls hl => ?_)
        refine lv_aload_n hx hb dX4_set_54 rfl (lv_at hl 1 rfl) ?_
        refine va_get (D := D) (ci := 4) (v := .ref (a_n 0)) (C := RX4) (T := TX4) (N := 8) hx hb ht inX4 hown hK hP 0 rfl rfl 0 (by decide) (ht _ fl_X4_10) (fun _ h9 => h9) rfl dX4_set_55 ?_
        refine lv_iload_n hx hb dX4_set_58 rfl (lv_at hl 2 rfl) ?_
        refine lv_iload_n hx hb dX4_set_59 rfl (lv_at hl 3 rfl) ?_
        have hPw : va_P D vwCl ((bX3 cI cJ cC a_n n_space n_beam n_door n_law n_used n_pipes n_drilled n_total n_open n_pipeInches n_pipeChances n_weights n_woods n_sums)) _ := hP.sub [2, 3, 4, 5, 6, 7] rfl
        have hDw : va_D A ((bX3 cI cJ cC a_n n_space n_beam n_door n_law n_used n_pipes n_drilled n_total n_open n_pipeInches n_pipeChances n_weights n_woods n_sums)) := (hDD _ rfl).sub (ws := (bX4 cI cJ cC a_T a_n a_k a_t a_s a_r a_c T_isKept T_refusals) ++ (bX3 cI cJ cC a_n n_space n_beam n_door n_law n_used n_pipes n_drilled n_total n_open n_pipeInches n_pipeChances n_weights n_woods n_sums)) [2, 3, 4, 5, 6, 7] (by decide) rfl
        refine zcv hA hDw hS (zrunV (As := [.int p1, .int p2]) (rest := []) S hK hA hE hPw hDw hS (mX3_changeMeasure l D cI cJ cC G a_n _ n_space n_beam n_door n_law n_used n_pipes n_drilled n_total n_open n_pipeInches n_pipeChances n_weights n_woods n_sums p1 p2 _ h) kX3_changeMeasure ml_X4_88 ⟨rfl, rfl, by decide, by decide⟩ (q0 := 0) (ci := 3) rfl rfl rfl rfl hl.1 rfl (Nat.le_of_ble_eq_true rfl) dX4_set_60 ⟨Nat.zero_le _, Nat.zero_le _⟩) (fun u H locs h hP1 hk1 hS => ?_)
        obtain ⟨n_space_5, n_beam_6, n_door_7, n_law_8⟩ := u
        dsimp only at h
        have hP : va_P D vwCl ((bX4 cI cJ cC a_T a_n a_k a_t a_s a_r a_c T_isKept T_refusals) ++ (bX3 cI cJ cC a_n n_space_5 n_beam_6 n_door_7 n_law_8 n_used n_pipes n_drilled n_total n_open n_pipeInches n_pipeChances n_weights n_woods n_sums)) H := zMerge hP (hDD _ rfl) [2, 3, 4, 5, 6, 7] rfl rfl hk1 hP1
        refine lv_aload_n hx hb dX4_set_63 rfl (lv_at hl 1 rfl) ?_
        refine va_get (D := D) (ci := 4) (v := .ref (a_n 0)) (C := RX4) (T := TX4) (N := 8) hx hb ht inX4 hown hK hP 0 rfl rfl 0 (by decide) (ht _ fl_X4_10) (fun _ h9 => h9) rfl dX4_set_64 ?_
        have hPw : va_P D vwCl ((bX3 cI cJ cC a_n n_space_5 n_beam_6 n_door_7 n_law_8 n_used n_pipes n_drilled n_total n_open n_pipeInches n_pipeChances n_weights n_woods n_sums)) _ := hP.sub [2, 3, 4, 5, 6, 7] rfl
        have hDw : va_D A ((bX3 cI cJ cC a_n n_space_5 n_beam_6 n_door_7 n_law_8 n_used n_pipes n_drilled n_total n_open n_pipeInches n_pipeChances n_weights n_woods n_sums)) := (hDD _ rfl).sub (ws := (bX4 cI cJ cC a_T a_n a_k a_t a_s a_r a_c T_isKept T_refusals) ++ (bX3 cI cJ cC a_n n_space_5 n_beam_6 n_door_7 n_law_8 n_used n_pipes n_drilled n_total n_open n_pipeInches n_pipeChances n_weights n_woods n_sums)) [2, 3, 4, 5, 6, 7] (by decide) rfl
        refine zcv hA hDw hS (zrunV (As := []) (rest := []) S hK hA hE hPw hDw hS (mX3_beginAnew l D cI cJ cC G a_n _ n_space_5 n_beam_6 n_door_7 n_law_8 n_used n_pipes n_drilled n_total n_open n_pipeInches n_pipeChances n_weights n_woods n_sums _ h) kX3_beginAnew ml_X4_92 ⟨rfl, rfl, by decide, by decide⟩ (q0 := 0) (ci := 3) rfl rfl rfl rfl hl.1 rfl (Nat.le_of_ble_eq_true rfl) dX4_set_67 ⟨Nat.zero_le _, Nat.zero_le _⟩) (fun u H locs h hP1 hk1 hS => ?_)
        obtain ⟨n_used_9, n_total_10, n_open_11, n_weights_12, n_woods_13, n_sums_14⟩ := u
        dsimp only at h
        have hP : va_P D vwCl ((bX4 cI cJ cC a_T a_n a_k a_t a_s a_r a_c T_isKept T_refusals) ++ (bX3 cI cJ cC a_n n_space_5 n_beam_6 n_door_7 n_law_8 n_used_9 n_pipes n_drilled n_total_10 n_open_11 n_pipeInches n_pipeChances n_weights_12 n_woods_13 n_sums_14)) H := zMerge hP (hDD _ rfl) [2, 3, 4, 5, 6, 7] rfl rfl hk1 hP1
        refine lv_iload_n hx hb dX4_set_70 rfl (lv_at hl 0 rfl) ?_
        exact hret r_4 (T_refusals, n_space_5, n_beam_6, n_door_7, n_law_8, n_used_9, n_total_10, n_open_11, n_weights_12, n_woods_13, n_sums_14) _ _ _ _ rfl h hP hS dX4_set_71
      · replace h := h.2 z
        refine lv_aload_n hx hb dX4_set_24 rfl (lv_at hl 0 rfl) ?_
        refine lv_iload_n hx hb dX4_set_25 rfl (lv_at hl 2 rfl) ?_
        refine va_gets (v := .ref (G 0 0)) hx hb (hE.2.1 0 _ rfl).1 hS hown (ht _ fl_X4_82) (fun _ h9 => h9) dX4_set_26 ?_
        refine lv_iload_n hx hb dX4_set_29 rfl (lv_at hl 1 rfl) ?_
        obtain ⟨hin, h⟩ := h
        refine va_ti (v := .int (([6, 1, 0, 0] : List Int32).getD p1.toNatClampNeg 0)) hx hb (hE.2.1 0 _ rfl).2 hS hin rfl dX4_set_30 ?_
        refine lv_icmp_ge (tgt := 39) hx hb dX4_set_31 (by decide) (fun z => ?_) (fun z => ?_)
        · replace h := h.1 z
          refine lv_bipush (v := (-6 : Int32)) hx hb dX4_set_39 (by decide) ?_
          have hPw : va_P D vwCl ((bX4 cI cJ cC a_T a_n a_k a_t a_s a_r a_c T_isKept T_refusals)) _ := hP.sub [0, 1] rfl
          have hDw : va_D A ((bX4 cI cJ cC a_T a_n a_k a_t a_s a_r a_c T_isKept T_refusals)) := (hDD _ rfl).sub (ws := (bX4 cI cJ cC a_T a_n a_k a_t a_s a_r a_c T_isKept T_refusals) ++ (bX3 cI cJ cC a_n n_space n_beam n_door n_law n_used n_pipes n_drilled n_total n_open n_pipeInches n_pipeChances n_weights n_woods n_sums)) [0, 1] (by decide) rfl
          refine zci hA hDw hS (zrunV (As := [.int (-6 : Int32)]) (rest := []) S hK hA hE hPw hDw hS (mX4_refuse l D cI cJ cC G a_T a_n a_k a_t a_s a_r a_c _ T_isKept T_refusals (-6 : Int32) _ h) kX4_refuse ml_X4_51 ⟨rfl, rfl, by decide, by decide⟩ (q0 := 0) (ci := 4) rfl rfl rfl rfl hl.1 rfl (Nat.le_of_ble_eq_true rfl) dX4_set_41 ⟨Nat.zero_le _, Nat.zero_le _⟩) (fun r_15 T_refusals_16 H locs h hP1 hk1 hS => ?_)
          try dsimp only at h
          have hP : va_P D vwCl ((bX4 cI cJ cC a_T a_n a_k a_t a_s a_r a_c T_isKept T_refusals_16) ++ (bX3 cI cJ cC a_n n_space n_beam n_door n_law n_used n_pipes n_drilled n_total n_open n_pipeInches n_pipeChances n_weights n_woods n_sums)) H := zMerge hP (hDD _ rfl) [0, 1] rfl rfl hk1 hP1
          exact hret r_15 (T_refusals_16, n_space, n_beam, n_door, n_law, n_used, n_total, n_open, n_weights, n_woods, n_sums) _ _ _ _ rfl h hP hS dX4_set_44
        · replace h := h.2 z
          refine lv_bipush (v := (-4 : Int32)) hx hb dX4_set_34 (by decide) ?_
          refine lv_goto (tgt := 41) hx hb dX4_set_36 (by decide) ?_
          have hPw : va_P D vwCl ((bX4 cI cJ cC a_T a_n a_k a_t a_s a_r a_c T_isKept T_refusals)) _ := hP.sub [0, 1] rfl
          have hDw : va_D A ((bX4 cI cJ cC a_T a_n a_k a_t a_s a_r a_c T_isKept T_refusals)) := (hDD _ rfl).sub (ws := (bX4 cI cJ cC a_T a_n a_k a_t a_s a_r a_c T_isKept T_refusals) ++ (bX3 cI cJ cC a_n n_space n_beam n_door n_law n_used n_pipes n_drilled n_total n_open n_pipeInches n_pipeChances n_weights n_woods n_sums)) [0, 1] (by decide) rfl
          refine zci hA hDw hS (zrunV (As := [.int (-4 : Int32)]) (rest := []) S hK hA hE hPw hDw hS (mX4_refuse l D cI cJ cC G a_T a_n a_k a_t a_s a_r a_c _ T_isKept T_refusals (-4 : Int32) _ h) kX4_refuse ml_X4_51 ⟨rfl, rfl, by decide, by decide⟩ (q0 := 0) (ci := 4) rfl rfl rfl rfl hl.1 rfl (Nat.le_of_ble_eq_true rfl) dX4_set_41 ⟨Nat.zero_le _, Nat.zero_le _⟩) (fun r_17 T_refusals_18 H locs h hP1 hk1 hS => ?_)
          try dsimp only at h
          have hP : va_P D vwCl ((bX4 cI cJ cC a_T a_n a_k a_t a_s a_r a_c T_isKept T_refusals_18) ++ (bX3 cI cJ cC a_n n_space n_beam n_door n_law n_used n_pipes n_drilled n_total n_open n_pipeInches n_pipeChances n_weights n_woods n_sums)) H := zMerge hP (hDD _ rfl) [0, 1] rfl rfl hk1 hP1
          exact hret r_17 (T_refusals_18, n_space, n_beam, n_door, n_law, n_used, n_total, n_open, n_weights, n_woods, n_sums) _ _ _ _ rfl h hP hS dX4_set_44
    · replace h := h.2 z
      refine lv_aload_n hx hb dX4_set_9 rfl (lv_at hl 0 rfl) ?_
      refine lv_bipush (v := (-2 : Int32)) hx hb dX4_set_10 (by decide) ?_
      have hPw : va_P D vwCl ((bX4 cI cJ cC a_T a_n a_k a_t a_s a_r a_c T_isKept T_refusals)) _ := hP.sub [0, 1] rfl
      have hDw : va_D A ((bX4 cI cJ cC a_T a_n a_k a_t a_s a_r a_c T_isKept T_refusals)) := (hDD _ rfl).sub (ws := (bX4 cI cJ cC a_T a_n a_k a_t a_s a_r a_c T_isKept T_refusals) ++ (bX3 cI cJ cC a_n n_space n_beam n_door n_law n_used n_pipes n_drilled n_total n_open n_pipeInches n_pipeChances n_weights n_woods n_sums)) [0, 1] (by decide) rfl
      refine zci hA hDw hS (zrunV (As := [.int (-2 : Int32)]) (rest := []) S hK hA hE hPw hDw hS (mX4_refuse l D cI cJ cC G a_T a_n a_k a_t a_s a_r a_c _ T_isKept T_refusals (-2 : Int32) _ h) kX4_refuse ml_X4_51 ⟨rfl, rfl, by decide, by decide⟩ (q0 := 0) (ci := 4) rfl rfl rfl rfl hl.1 rfl (Nat.le_of_ble_eq_true rfl) dX4_set_12 ⟨Nat.zero_le _, Nat.zero_le _⟩) (fun r_19 T_refusals_20 H locs h hP1 hk1 hS => ?_)
      try dsimp only at h
      have hP : va_P D vwCl ((bX4 cI cJ cC a_T a_n a_k a_t a_s a_r a_c T_isKept T_refusals_20) ++ (bX3 cI cJ cC a_n n_space n_beam n_door n_law n_used n_pipes n_drilled n_total n_open n_pipeInches n_pipeChances n_weights n_woods n_sums)) H := zMerge hP (hDD _ rfl) [0, 1] rfl rfl hk1 hP1
      exact hret r_19 (T_refusals_20, n_space, n_beam, n_door, n_law, n_used, n_total, n_open, n_weights, n_woods, n_sums) _ _ _ _ rfl h hP hS dX4_set_15
def wpX4_isNoOffset (post : Int32 → Prop) (n_space : Int32) (p1 : Int32) : Prop := ((p1 < (0 : Int32) → (post (1 : Int32))) ∧ (¬ (p1 < (0 : Int32)) → (((p1 < n_space → (post (0 : Int32))) ∧ (¬ (p1 < n_space) → (post (1 : Int32)))))))
set_option maxHeartbeats 4000000 in
set_option maxRecDepth 100000 in
theorem mX4_isNoOffset (l : Launch) (D : va_G) (cI cJ cC : ClassId) (G : Nat → Nat → Nat) (a_T : Nat → Nat) (a_n : Nat → Nat) (a_k : Nat → Nat) (a_t : Nat → Nat) (a_s : Nat → Nat) (a_r : Nat → Nat) (a_c : Nat → Nat) (sz : Nat) (T_isKept : Int32) (T_refusals : Nat → Int32) (n_space : Int32) (n_beam : Int32) (n_door : Int32) (n_law : Int32) (n_used : Int32) (n_pipes : Int32) (n_drilled : Int64) (n_total : Int64) (n_open : Int32) (n_pipeInches : Nat → Int32) (n_pipeChances : Nat → Int32) (n_weights : Nat → Int64) (n_woods : Nat → Int32) (n_sums : Nat → Int64) (p1 : Int32) (post : Int32 → Prop) (h : wpX4_isNoOffset post n_space p1) : Met l yX4_isNoOffset (wz yX4_isNoOffset cX4_isNoOffset 2 (some .boolean)) ({ frames := 0, cells := 0, slots := 0, locals := 0 }) (va_Pc [.ref (a_T 0), .int p1] (PW D (tz cI cJ cC) G ((bX4 cI cJ cC a_T a_n a_k a_t a_s a_r a_c T_isKept T_refusals) ++ (bX3 cI cJ cC a_n n_space n_beam n_door n_law n_used n_pipes n_drilled n_total n_open n_pipeInches n_pipeChances n_weights n_woods n_sums)) sz)) (va_Qi (fun (r : Int32) (u : Unit) => post r ) (fun (u : Unit) t => va_P D vwCl ((bX4 cI cJ cC a_T a_n a_k a_t a_s a_r a_c T_isKept T_refusals) ++ (bX3 cI cJ cC a_n n_space n_beam n_door n_law n_used n_pipes n_drilled n_total n_open n_pipeInches n_pipeChances n_weights n_woods n_sums)) t.heap) (va_A ((bX4 cI cJ cC a_T a_n a_k a_t a_s a_r a_c T_isKept T_refusals) ++ (bX3 cI cJ cC a_n n_space n_beam n_door n_law n_used n_pipes n_drilled n_total n_open n_pipeInches n_pipeChances n_weights n_woods n_sums)) sz)) 0 0 (va_A ((bX4 cI cJ cC a_T a_n a_k a_t a_s a_r a_c T_isKept T_refusals) ++ (bX3 cI cJ cC a_n n_space n_beam n_door n_law n_used n_pipes n_drilled n_total n_open n_pipeInches n_pipeChances n_weights n_woods n_sums)) sz) := by
  refine zmi (gw := fun (u : Unit) => (bX4 cI cJ cC a_T a_n a_k a_t a_s a_r a_c T_isKept T_refusals) ++ (bX3 cI cJ cC a_n n_space n_beam n_door n_law n_used n_pipes n_drilled n_total n_open n_pipeInches n_pipeChances n_weights n_woods n_sums)) (plainFor_of_name (by decide)) (Nat.le_of_ble_eq_true rfl) ?_
  intro p e s m below meth c A Q ls S hK hD hA hE hP hl hret
  obtain ⟨hx, hb, hml, hown, ht⟩ := id S
  have hS : va_S A s.heap s.heap [] := va_S.rf
  have hDD : ∀ ws : va_W, ws.map (fun q => q.1) = [a_T 0, a_T 1, a_n 0, a_n 1, a_n 2, a_n 3, a_n 4, a_n 5] → va_D A ws := fun ws hw => zD hD (hw.trans rfl)
  have hl : lv_has ls 2 [(0, .ref (a_T 0)), (1, .int p1)] := hl
  unfold wpX4_isNoOffset at h
  refine lv_iload_n hx hb dX4_isNoOffset_0 rfl (lv_at hl 1 rfl) ?_
  refine lv_if_lt (tgt := 15) hx hb dX4_isNoOffset_1 (by decide) (fun z => ?_) (fun z => ?_)
  · replace h := h.1 z
    refine lv_iconst (v := (1 : Int32)) hx hb dX4_isNoOffset_15 (by decide) ?_
    refine lv_goto (tgt := 20) hx hb dX4_isNoOffset_16 (by decide) ?_
    exact hret (1 : Int32) () _ _ _ _ rfl h hP hS dX4_isNoOffset_20
  · replace h := h.2 z
    refine lv_iload_n hx hb dX4_isNoOffset_4 rfl (lv_at hl 1 rfl) ?_
    refine lv_aload_n hx hb dX4_isNoOffset_5 rfl (lv_at hl 0 rfl) ?_
    refine va_get (D := D) (ci := 4) (v := .ref (a_n 0)) (C := RX4) (T := TX4) (N := 8) hx hb ht inX4 hown hK hP 0 rfl rfl 0 (by decide) (ht _ fl_X4_10) (fun _ h9 => h9) rfl dX4_isNoOffset_6 ?_
    refine va_get (D := D) (ci := 3) (v := .int n_space) (C := RX3) (T := TX3) (N := 14) hx hb ht inX3 hown hK hP 2 rfl rfl 0 (by decide) (ht _ fl_X4_249) (fun _ h9 => h9) rfl dX4_isNoOffset_9 ?_
    refine lv_icmp_lt (tgt := 19) hx hb dX4_isNoOffset_12 (by decide) (fun z => ?_) (fun z => ?_)
    · replace h := h.1 z
      refine lv_iconst (v := (0 : Int32)) hx hb dX4_isNoOffset_19 (by decide) ?_
      exact hret (0 : Int32) () _ _ _ _ rfl h hP hS dX4_isNoOffset_20
    · replace h := h.2 z
      refine lv_iconst (v := (1 : Int32)) hx hb dX4_isNoOffset_15 (by decide) ?_
      refine lv_goto (tgt := 20) hx hb dX4_isNoOffset_16 (by decide) ?_
      exact hret (1 : Int32) () _ _ _ _ rfl h hP hS dX4_isNoOffset_20
def wpX4_wood (post : Int32 → (Nat → Int32) → Prop) (T_refusals : Nat → Int32) (n_space : Int32) (n_woods : Nat → Int32) (p1 : Int32) (p2 : Int32) : Prop := wpX4_isNoInch (fun (r_1 : Int32) => ((r_1 = (0 : Int32) → (wpX4_isNoOffset (fun (r_4 : Int32) => ((r_4 = (0 : Int32) → (wpX3_hasWood (fun (r_5 : Int32) => ((r_5 = (0 : Int32) → (post (0 : Int32) T_refusals)) ∧ (¬ (r_5 = (0 : Int32)) → (post (1 : Int32) T_refusals)))) n_woods p1 p2)) ∧ (¬ (r_4 = (0 : Int32)) → (wpX4_refuse (fun (r_6 : Int32) (T_refusals_7 : Nat → Int32) => post r_6 T_refusals_7) T_refusals (-1 : Int32))))) n_space p2)) ∧ (¬ (r_1 = (0 : Int32)) → (wpX4_refuse (fun (r_2 : Int32) (T_refusals_3 : Nat → Int32) => post r_2 T_refusals_3) T_refusals (-1 : Int32))))) p1
set_option maxHeartbeats 4000000 in
set_option maxRecDepth 100000 in
theorem mX4_wood (l : Launch) (D : va_G) (cI cJ cC : ClassId) (G : Nat → Nat → Nat) (a_T : Nat → Nat) (a_n : Nat → Nat) (a_k : Nat → Nat) (a_t : Nat → Nat) (a_s : Nat → Nat) (a_r : Nat → Nat) (a_c : Nat → Nat) (sz : Nat) (T_isKept : Int32) (T_refusals : Nat → Int32) (n_space : Int32) (n_beam : Int32) (n_door : Int32) (n_law : Int32) (n_used : Int32) (n_pipes : Int32) (n_drilled : Int64) (n_total : Int64) (n_open : Int32) (n_pipeInches : Nat → Int32) (n_pipeChances : Nat → Int32) (n_weights : Nat → Int64) (n_woods : Nat → Int32) (n_sums : Nat → Int64) (p1 : Int32) (p2 : Int32) (post : Int32 → (Nat → Int32) → Prop) (h : wpX4_wood post T_refusals n_space n_woods p1 p2) : Met l yX4_wood (wz yX4_wood cX4_wood 3 (some .int)) ({ frames := 2, cells := 0, slots := 0, locals := 43 }) (va_Pc [.ref (a_T 0), .int p1, .int p2] (PW D (tz cI cJ cC) G ((bX4 cI cJ cC a_T a_n a_k a_t a_s a_r a_c T_isKept T_refusals) ++ (bX3 cI cJ cC a_n n_space n_beam n_door n_law n_used n_pipes n_drilled n_total n_open n_pipeInches n_pipeChances n_weights n_woods n_sums)) sz)) (va_Qi (fun (r : Int32) (u : (Nat → Int32)) => post r u) (fun (u : (Nat → Int32)) t => va_P D vwCl ((bX4 cI cJ cC a_T a_n a_k a_t a_s a_r a_c T_isKept u) ++ (bX3 cI cJ cC a_n n_space n_beam n_door n_law n_used n_pipes n_drilled n_total n_open n_pipeInches n_pipeChances n_weights n_woods n_sums)) t.heap) (va_A ((bX4 cI cJ cC a_T a_n a_k a_t a_s a_r a_c T_isKept T_refusals) ++ (bX3 cI cJ cC a_n n_space n_beam n_door n_law n_used n_pipes n_drilled n_total n_open n_pipeInches n_pipeChances n_weights n_woods n_sums)) sz)) 0 0 (va_A ((bX4 cI cJ cC a_T a_n a_k a_t a_s a_r a_c T_isKept T_refusals) ++ (bX3 cI cJ cC a_n n_space n_beam n_door n_law n_used n_pipes n_drilled n_total n_open n_pipeInches n_pipeChances n_weights n_woods n_sums)) sz) := by
  refine zmi (gw := fun (u : (Nat → Int32)) => (bX4 cI cJ cC a_T a_n a_k a_t a_s a_r a_c T_isKept u) ++ (bX3 cI cJ cC a_n n_space n_beam n_door n_law n_used n_pipes n_drilled n_total n_open n_pipeInches n_pipeChances n_weights n_woods n_sums)) (plainFor_of_name (by decide)) (Nat.le_of_ble_eq_true rfl) ?_
  intro p e s m below meth c A Q ls S hK hD hA hE hP hl hret
  obtain ⟨hx, hb, hml, hown, ht⟩ := id S
  have hS : va_S A s.heap s.heap [] := va_S.rf
  have hDD : ∀ ws : va_W, ws.map (fun q => q.1) = [a_T 0, a_T 1, a_n 0, a_n 1, a_n 2, a_n 3, a_n 4, a_n 5] → va_D A ws := fun ws hw => zD hD (hw.trans rfl)
  have hl : lv_has ls 3 [(0, .ref (a_T 0)), (1, .int p1), (2, .int p2)] := hl
  unfold wpX4_wood at h
  refine lv_iload_n hx hb dX4_wood_0 rfl (lv_at hl 1 rfl) ?_
  refine zci hA zD0 hS (zrunS (As := [.int p1]) (rest := []) S hK hA hE zP0 zD0 hS (mX4_isNoInch l D cI cJ cC G _ p1 _ h) kX4_isNoInch ml_X4_95 ⟨rfl, rfl, by decide, by decide⟩ rfl hl.1 rfl (Nat.le_of_ble_eq_true rfl) dX4_wood_1 ⟨Nat.zero_le _, Nat.zero_le _⟩) (fun r_1 u H locs h hP1 hk1 hS => ?_)
  try dsimp only at h
  have hP : va_P D vwCl ((bX4 cI cJ cC a_T a_n a_k a_t a_s a_r a_c T_isKept T_refusals) ++ (bX3 cI cJ cC a_n n_space n_beam n_door n_law n_used n_pipes n_drilled n_total n_open n_pipeInches n_pipeChances n_weights n_woods n_sums)) H := zKeep hP hk1
  refine lv_if_ne (tgt := 15) hx hb dX4_wood_4 (by decide) (fun z => ?_) (fun z => ?_)
  · replace h := h.2 z
    refine lv_aload_n hx hb dX4_wood_15 rfl (lv_at hl 0 rfl) ?_
    refine lv_iconst (v := (-1 : Int32)) hx hb dX4_wood_16 (by decide) ?_
    have hPw : va_P D vwCl ((bX4 cI cJ cC a_T a_n a_k a_t a_s a_r a_c T_isKept T_refusals)) _ := hP.sub [0, 1] rfl
    have hDw : va_D A ((bX4 cI cJ cC a_T a_n a_k a_t a_s a_r a_c T_isKept T_refusals)) := (hDD _ rfl).sub (ws := (bX4 cI cJ cC a_T a_n a_k a_t a_s a_r a_c T_isKept T_refusals) ++ (bX3 cI cJ cC a_n n_space n_beam n_door n_law n_used n_pipes n_drilled n_total n_open n_pipeInches n_pipeChances n_weights n_woods n_sums)) [0, 1] (by decide) rfl
    refine zci hA hDw hS (zrunV (As := [.int (-1 : Int32)]) (rest := []) S hK hA hE hPw hDw hS (mX4_refuse l D cI cJ cC G a_T a_n a_k a_t a_s a_r a_c _ T_isKept T_refusals (-1 : Int32) _ h) kX4_refuse ml_X4_51 ⟨rfl, rfl, by decide, by decide⟩ (q0 := 0) (ci := 4) rfl rfl rfl rfl hl.1 rfl (Nat.le_of_ble_eq_true rfl) dX4_wood_17 ⟨Nat.zero_le _, Nat.zero_le _⟩) (fun r_2 T_refusals_3 H locs h hP1 hk1 hS => ?_)
    try dsimp only at h
    have hP : va_P D vwCl ((bX4 cI cJ cC a_T a_n a_k a_t a_s a_r a_c T_isKept T_refusals_3) ++ (bX3 cI cJ cC a_n n_space n_beam n_door n_law n_used n_pipes n_drilled n_total n_open n_pipeInches n_pipeChances n_weights n_woods n_sums)) H := zMerge hP (hDD _ rfl) [0, 1] rfl rfl hk1 hP1
    exact hret r_2 T_refusals_3 _ _ _ _ rfl h hP hS dX4_wood_20
  · replace h := h.1 z
    refine lv_aload_n hx hb dX4_wood_7 rfl (lv_at hl 0 rfl) ?_
    refine lv_iload_n hx hb dX4_wood_8 rfl (lv_at hl 2 rfl) ?_
    refine zci hA (hDD _ rfl) hS (zrunV (As := [.int p2]) (rest := []) S hK hA hE hP (hDD _ rfl) hS (mX4_isNoOffset l D cI cJ cC G a_T a_n a_k a_t a_s a_r a_c _ T_isKept T_refusals n_space n_beam n_door n_law n_used n_pipes n_drilled n_total n_open n_pipeInches n_pipeChances n_weights n_woods n_sums p2 _ h) kX4_isNoOffset ml_X4_99 ⟨rfl, rfl, by decide, by decide⟩ (q0 := 0) (ci := 4) rfl rfl rfl rfl hl.1 rfl (Nat.le_of_ble_eq_true rfl) dX4_wood_9 ⟨Nat.zero_le _, Nat.zero_le _⟩) (fun r_4 u H locs h hP1 hk1 hS => ?_)
    try dsimp only at h
    have hP : va_P D vwCl ((bX4 cI cJ cC a_T a_n a_k a_t a_s a_r a_c T_isKept T_refusals) ++ (bX3 cI cJ cC a_n n_space n_beam n_door n_law n_used n_pipes n_drilled n_total n_open n_pipeInches n_pipeChances n_weights n_woods n_sums)) H := hP1
    refine lv_if_eq (tgt := 21) hx hb dX4_wood_12 (by decide) (fun z => ?_) (fun z => ?_)
    · replace h := h.1 z
      refine lv_aload_n hx hb dX4_wood_21 rfl (lv_at hl 0 rfl) ?_
      refine va_get (D := D) (ci := 4) (v := .ref (a_n 0)) (C := RX4) (T := TX4) (N := 8) hx hb ht inX4 hown hK hP 0 rfl rfl 0 (by decide) (ht _ fl_X4_10) (fun _ h9 => h9) rfl dX4_wood_22 ?_
      refine lv_iload_n hx hb dX4_wood_25 rfl (lv_at hl 1 rfl) ?_
      refine lv_iload_n hx hb dX4_wood_26 rfl (lv_at hl 2 rfl) ?_
      have hPw : va_P D vwCl ((bX3 cI cJ cC a_n n_space n_beam n_door n_law n_used n_pipes n_drilled n_total n_open n_pipeInches n_pipeChances n_weights n_woods n_sums)) _ := hP.sub [2, 3, 4, 5, 6, 7] rfl
      have hDw : va_D A ((bX3 cI cJ cC a_n n_space n_beam n_door n_law n_used n_pipes n_drilled n_total n_open n_pipeInches n_pipeChances n_weights n_woods n_sums)) := (hDD _ rfl).sub (ws := (bX4 cI cJ cC a_T a_n a_k a_t a_s a_r a_c T_isKept T_refusals) ++ (bX3 cI cJ cC a_n n_space n_beam n_door n_law n_used n_pipes n_drilled n_total n_open n_pipeInches n_pipeChances n_weights n_woods n_sums)) [2, 3, 4, 5, 6, 7] (by decide) rfl
      refine zci hA hDw hS (zrunV (As := [.int p1, .int p2]) (rest := []) S hK hA hE hPw hDw hS (mX3_hasWood l D cI cJ cC G a_n _ n_space n_beam n_door n_law n_used n_pipes n_drilled n_total n_open n_pipeInches n_pipeChances n_weights n_woods n_sums p1 p2 _ h) kX3_hasWood ml_X4_102 ⟨rfl, rfl, by decide, by decide⟩ (q0 := 0) (ci := 3) rfl rfl rfl rfl hl.1 rfl (Nat.le_of_ble_eq_true rfl) dX4_wood_27 ⟨Nat.zero_le _, Nat.zero_le _⟩) (fun r_5 u H locs h hP1 hk1 hS => ?_)
      try dsimp only at h
      have hP : va_P D vwCl ((bX4 cI cJ cC a_T a_n a_k a_t a_s a_r a_c T_isKept T_refusals) ++ (bX3 cI cJ cC a_n n_space n_beam n_door n_law n_used n_pipes n_drilled n_total n_open n_pipeInches n_pipeChances n_weights n_woods n_sums)) H := zMerge hP (hDD _ rfl) [2, 3, 4, 5, 6, 7] rfl rfl hk1 hP1
      refine lv_if_eq (tgt := 37) hx hb dX4_wood_30 (by decide) (fun z => ?_) (fun z => ?_)
      · replace h := h.1 z
        refine lv_iconst (v := (0 : Int32)) hx hb dX4_wood_37 (by decide) ?_
        exact hret (0 : Int32) T_refusals _ _ _ _ rfl h hP hS dX4_wood_38
      · replace h := h.2 z
        refine lv_iconst (v := (1 : Int32)) hx hb dX4_wood_33 (by decide) ?_
        refine lv_goto (tgt := 38) hx hb dX4_wood_34 (by decide) ?_
        exact hret (1 : Int32) T_refusals _ _ _ _ rfl h hP hS dX4_wood_38
    · replace h := h.2 z
      refine lv_aload_n hx hb dX4_wood_15 rfl (lv_at hl 0 rfl) ?_
      refine lv_iconst (v := (-1 : Int32)) hx hb dX4_wood_16 (by decide) ?_
      have hPw : va_P D vwCl ((bX4 cI cJ cC a_T a_n a_k a_t a_s a_r a_c T_isKept T_refusals)) _ := hP.sub [0, 1] rfl
      have hDw : va_D A ((bX4 cI cJ cC a_T a_n a_k a_t a_s a_r a_c T_isKept T_refusals)) := (hDD _ rfl).sub (ws := (bX4 cI cJ cC a_T a_n a_k a_t a_s a_r a_c T_isKept T_refusals) ++ (bX3 cI cJ cC a_n n_space n_beam n_door n_law n_used n_pipes n_drilled n_total n_open n_pipeInches n_pipeChances n_weights n_woods n_sums)) [0, 1] (by decide) rfl
      refine zci hA hDw hS (zrunV (As := [.int (-1 : Int32)]) (rest := []) S hK hA hE hPw hDw hS (mX4_refuse l D cI cJ cC G a_T a_n a_k a_t a_s a_r a_c _ T_isKept T_refusals (-1 : Int32) _ h) kX4_refuse ml_X4_51 ⟨rfl, rfl, by decide, by decide⟩ (q0 := 0) (ci := 4) rfl rfl rfl rfl hl.1 rfl (Nat.le_of_ble_eq_true rfl) dX4_wood_17 ⟨Nat.zero_le _, Nat.zero_le _⟩) (fun r_6 T_refusals_7 H locs h hP1 hk1 hS => ?_)
      try dsimp only at h
      have hP : va_P D vwCl ((bX4 cI cJ cC a_T a_n a_k a_t a_s a_r a_c T_isKept T_refusals_7) ++ (bX3 cI cJ cC a_n n_space n_beam n_door n_law n_used n_pipes n_drilled n_total n_open n_pipeInches n_pipeChances n_weights n_woods n_sums)) H := zMerge hP (hDD _ rfl) [0, 1] rfl rfl hk1 hP1
      exact hret r_6 T_refusals_7 _ _ _ _ rfl h hP hS dX4_wood_20
def wpX4_refuseLong (post : Int64 → (Nat → Int32) → Prop) (T_refusals : Nat → Int32) (p1 : Int32) : Prop := wpX4_refuse (fun (r_1 : Int32) (T_refusals_2 : Nat → Int32) => post ((4000000000000000000 : Int64) - r_1.toInt64) T_refusals_2) T_refusals p1
set_option maxHeartbeats 4000000 in
set_option maxRecDepth 100000 in
theorem mX4_refuseLong (l : Launch) (D : va_G) (cI cJ cC : ClassId) (G : Nat → Nat → Nat) (a_T : Nat → Nat) (a_n : Nat → Nat) (a_k : Nat → Nat) (a_t : Nat → Nat) (a_s : Nat → Nat) (a_r : Nat → Nat) (a_c : Nat → Nat) (sz : Nat) (T_isKept : Int32) (T_refusals : Nat → Int32) (p1 : Int32) (post : Int64 → (Nat → Int32) → Prop) (h : wpX4_refuseLong post T_refusals p1) : Met l yX4_refuseLong (wz yX4_refuseLong cX4_refuseLong 2 (some .long)) ({ frames := 1, cells := 0, slots := 0, locals := 21 }) (va_Pc [.ref (a_T 0), .int p1] (PW D (tz cI cJ cC) G ((bX4 cI cJ cC a_T a_n a_k a_t a_s a_r a_c T_isKept T_refusals)) sz)) (va_Ql (fun (r : Int64) (u : (Nat → Int32)) => post r u) (fun (u : (Nat → Int32)) t => va_P D vwCl ((bX4 cI cJ cC a_T a_n a_k a_t a_s a_r a_c T_isKept u)) t.heap) (va_A ((bX4 cI cJ cC a_T a_n a_k a_t a_s a_r a_c T_isKept T_refusals)) sz)) 0 0 (va_A ((bX4 cI cJ cC a_T a_n a_k a_t a_s a_r a_c T_isKept T_refusals)) sz) := by
  refine zml (gw := fun (u : (Nat → Int32)) => (bX4 cI cJ cC a_T a_n a_k a_t a_s a_r a_c T_isKept u)) (plainFor_of_name (by decide)) (Nat.le_of_ble_eq_true rfl) ?_
  intro p e s m below meth c A Q ls S hK hD hA hE hP hl hret
  obtain ⟨hx, hb, hml, hown, ht⟩ := id S
  have hS : va_S A s.heap s.heap [] := va_S.rf
  have hDD : ∀ ws : va_W, ws.map (fun q => q.1) = [a_T 0, a_T 1] → va_D A ws := fun ws hw => zD hD (hw.trans rfl)
  have hl : lv_has ls 2 [(0, .ref (a_T 0)), (1, .int p1)] := hl
  unfold wpX4_refuseLong at h
  refine lv_ldc2 hx hb hown (ht _ kc_X4_267) dX4_refuseLong_0 ?_
  refine lv_aload_n hx hb dX4_refuseLong_3 rfl (lv_at hl 0 rfl) ?_
  refine lv_iload_n hx hb dX4_refuseLong_4 rfl (lv_at hl 1 rfl) ?_
  refine zci hA (hDD _ rfl) hS (zrunV (As := [.int p1]) (rest := [.long (4000000000000000000 : Int64)]) S hK hA hE hP (hDD _ rfl) hS (mX4_refuse l D cI cJ cC G a_T a_n a_k a_t a_s a_r a_c _ T_isKept T_refusals p1 _ h) kX4_refuse ml_X4_51 ⟨rfl, rfl, by decide, by decide⟩ (q0 := 0) (ci := 4) rfl rfl rfl rfl hl.1 rfl (Nat.le_of_ble_eq_true rfl) dX4_refuseLong_5 ⟨Nat.zero_le _, Nat.zero_le _⟩) (fun r_1 T_refusals_2 H locs h hP1 hk1 hS => ?_)
  try dsimp only at h
  have hP : va_P D vwCl ((bX4 cI cJ cC a_T a_n a_k a_t a_s a_r a_c T_isKept T_refusals_2)) H := hP1
  refine lv_i2l hx hb dX4_refuseLong_8 rfl ?_
  refine lv_lsub hx hb dX4_refuseLong_9 ?_
  exact hret ((4000000000000000000 : Int64) - r_1.toInt64) T_refusals_2 _ _ _ _ h hP hS dX4_refuseLong_10
def wpX4_weight (post : Int64 → (Nat → Int32) → Prop) (T_refusals : Nat → Int32) (n_space : Int32) (n_weights : Nat → Int64) (p1 : Int32) : Prop := wpX4_isNoOffset (fun (r_1 : Int32) => ((r_1 = (0 : Int32) → (vp_in p1 24 ∧ (post (n_weights p1.toNatClampNeg) T_refusals))) ∧ (¬ (r_1 = (0 : Int32)) → (wpX4_refuseLong (fun (r_2 : Int64) (T_refusals_3 : Nat → Int32) => post r_2 T_refusals_3) T_refusals (-1 : Int32))))) n_space p1
set_option maxHeartbeats 4000000 in
set_option maxRecDepth 100000 in
theorem mX4_weight (l : Launch) (D : va_G) (cI cJ cC : ClassId) (G : Nat → Nat → Nat) (a_T : Nat → Nat) (a_n : Nat → Nat) (a_k : Nat → Nat) (a_t : Nat → Nat) (a_s : Nat → Nat) (a_r : Nat → Nat) (a_c : Nat → Nat) (sz : Nat) (T_isKept : Int32) (T_refusals : Nat → Int32) (n_space : Int32) (n_beam : Int32) (n_door : Int32) (n_law : Int32) (n_used : Int32) (n_pipes : Int32) (n_drilled : Int64) (n_total : Int64) (n_open : Int32) (n_pipeInches : Nat → Int32) (n_pipeChances : Nat → Int32) (n_weights : Nat → Int64) (n_woods : Nat → Int32) (n_sums : Nat → Int64) (p1 : Int32) (post : Int64 → (Nat → Int32) → Prop) (h : wpX4_weight post T_refusals n_space n_weights p1) : Met l yX4_weight (wz yX4_weight cX4_weight 2 (some .long)) ({ frames := 2, cells := 0, slots := 0, locals := 42 }) (va_Pc [.ref (a_T 0), .int p1] (PW D (tz cI cJ cC) G ((bX4 cI cJ cC a_T a_n a_k a_t a_s a_r a_c T_isKept T_refusals) ++ (bX3 cI cJ cC a_n n_space n_beam n_door n_law n_used n_pipes n_drilled n_total n_open n_pipeInches n_pipeChances n_weights n_woods n_sums)) sz)) (va_Ql (fun (r : Int64) (u : (Nat → Int32)) => post r u) (fun (u : (Nat → Int32)) t => va_P D vwCl ((bX4 cI cJ cC a_T a_n a_k a_t a_s a_r a_c T_isKept u) ++ (bX3 cI cJ cC a_n n_space n_beam n_door n_law n_used n_pipes n_drilled n_total n_open n_pipeInches n_pipeChances n_weights n_woods n_sums)) t.heap) (va_A ((bX4 cI cJ cC a_T a_n a_k a_t a_s a_r a_c T_isKept T_refusals) ++ (bX3 cI cJ cC a_n n_space n_beam n_door n_law n_used n_pipes n_drilled n_total n_open n_pipeInches n_pipeChances n_weights n_woods n_sums)) sz)) 0 0 (va_A ((bX4 cI cJ cC a_T a_n a_k a_t a_s a_r a_c T_isKept T_refusals) ++ (bX3 cI cJ cC a_n n_space n_beam n_door n_law n_used n_pipes n_drilled n_total n_open n_pipeInches n_pipeChances n_weights n_woods n_sums)) sz) := by
  refine zml (gw := fun (u : (Nat → Int32)) => (bX4 cI cJ cC a_T a_n a_k a_t a_s a_r a_c T_isKept u) ++ (bX3 cI cJ cC a_n n_space n_beam n_door n_law n_used n_pipes n_drilled n_total n_open n_pipeInches n_pipeChances n_weights n_woods n_sums)) (plainFor_of_name (by decide)) (Nat.le_of_ble_eq_true rfl) ?_
  intro p e s m below meth c A Q ls S hK hD hA hE hP hl hret
  obtain ⟨hx, hb, hml, hown, ht⟩ := id S
  have hS : va_S A s.heap s.heap [] := va_S.rf
  have hDD : ∀ ws : va_W, ws.map (fun q => q.1) = [a_T 0, a_T 1, a_n 0, a_n 1, a_n 2, a_n 3, a_n 4, a_n 5] → va_D A ws := fun ws hw => zD hD (hw.trans rfl)
  have hl : lv_has ls 2 [(0, .ref (a_T 0)), (1, .int p1)] := hl
  unfold wpX4_weight at h
  refine lv_aload_n hx hb dX4_weight_0 rfl (lv_at hl 0 rfl) ?_
  refine lv_iload_n hx hb dX4_weight_1 rfl (lv_at hl 1 rfl) ?_
  refine zci hA (hDD _ rfl) hS (zrunV (As := [.int p1]) (rest := []) S hK hA hE hP (hDD _ rfl) hS (mX4_isNoOffset l D cI cJ cC G a_T a_n a_k a_t a_s a_r a_c _ T_isKept T_refusals n_space n_beam n_door n_law n_used n_pipes n_drilled n_total n_open n_pipeInches n_pipeChances n_weights n_woods n_sums p1 _ h) kX4_isNoOffset ml_X4_99 ⟨rfl, rfl, by decide, by decide⟩ (q0 := 0) (ci := 4) rfl rfl rfl rfl hl.1 rfl (Nat.le_of_ble_eq_true rfl) dX4_weight_2 ⟨Nat.zero_le _, Nat.zero_le _⟩) (fun r_1 u H locs h hP1 hk1 hS => ?_)
  try dsimp only at h
  have hP : va_P D vwCl ((bX4 cI cJ cC a_T a_n a_k a_t a_s a_r a_c T_isKept T_refusals) ++ (bX3 cI cJ cC a_n n_space n_beam n_door n_law n_used n_pipes n_drilled n_total n_open n_pipeInches n_pipeChances n_weights n_woods n_sums)) H := hP1
  refine lv_if_eq (tgt := 14) hx hb dX4_weight_5 (by decide) (fun z => ?_) (fun z => ?_)
  · replace h := h.1 z
    refine lv_aload_n hx hb dX4_weight_14 rfl (lv_at hl 0 rfl) ?_
    refine va_get (D := D) (ci := 4) (v := .ref (a_n 0)) (C := RX4) (T := TX4) (N := 8) hx hb ht inX4 hown hK hP 0 rfl rfl 0 (by decide) (ht _ fl_X4_10) (fun _ h9 => h9) rfl dX4_weight_15 ?_
    refine va_get (D := D) (ci := 3) (v := .ref (a_n 3)) (C := RX3) (T := TX3) (N := 14) hx hb ht inX3 hown hK hP 2 rfl rfl 9 (by decide) (ht _ fl_X4_109) (fun _ h9 => h9) rfl dX4_weight_18 ?_
    refine lv_iload_n hx hb dX4_weight_21 rfl (lv_at hl 1 rfl) ?_
    obtain ⟨hin, h⟩ := h
    refine va_lald hx hb hK hP 5 1 rfl rfl hin dX4_weight_22 ?_
    exact hret (n_weights p1.toNatClampNeg) T_refusals _ _ _ _ h hP hS dX4_weight_23
  · replace h := h.2 z
    refine lv_aload_n hx hb dX4_weight_8 rfl (lv_at hl 0 rfl) ?_
    refine lv_iconst (v := (-1 : Int32)) hx hb dX4_weight_9 (by decide) ?_
    have hPw : va_P D vwCl ((bX4 cI cJ cC a_T a_n a_k a_t a_s a_r a_c T_isKept T_refusals)) _ := hP.sub [0, 1] rfl
    have hDw : va_D A ((bX4 cI cJ cC a_T a_n a_k a_t a_s a_r a_c T_isKept T_refusals)) := (hDD _ rfl).sub (ws := (bX4 cI cJ cC a_T a_n a_k a_t a_s a_r a_c T_isKept T_refusals) ++ (bX3 cI cJ cC a_n n_space n_beam n_door n_law n_used n_pipes n_drilled n_total n_open n_pipeInches n_pipeChances n_weights n_woods n_sums)) [0, 1] (by decide) rfl
    refine zcl hA hDw hS (zrunV (As := [.int (-1 : Int32)]) (rest := []) S hK hA hE hPw hDw hS (mX4_refuseLong l D cI cJ cC G a_T a_n a_k a_t a_s a_r a_c _ T_isKept T_refusals (-1 : Int32) _ h) kX4_refuseLong ml_X4_105 ⟨rfl, rfl, by decide, by decide⟩ (q0 := 0) (ci := 4) rfl rfl rfl rfl hl.1 rfl (Nat.le_of_ble_eq_true rfl) dX4_weight_10 ⟨Nat.zero_le _, Nat.zero_le _⟩) (fun r_2 T_refusals_3 H locs h hP1 hk1 hS => ?_)
    try dsimp only at h
    have hP : va_P D vwCl ((bX4 cI cJ cC a_T a_n a_k a_t a_s a_r a_c T_isKept T_refusals_3) ++ (bX3 cI cJ cC a_n n_space n_beam n_door n_law n_used n_pipes n_drilled n_total n_open n_pipeInches n_pipeChances n_weights n_woods n_sums)) H := zMerge hP (hDD _ rfl) [0, 1] rfl rfl hk1 hP1
    exact hret r_2 T_refusals_3 _ _ _ _ h hP hS dX4_weight_13
def wpX4_tool (post : Int32 → (Nat → Int32) → Prop) (T_refusals : Nat → Int32) (p1 : Int32) (p2 : Int32) : Prop := wpX4_isNoTool (fun (r_1 : Int32) => ((r_1 = (0 : Int32) → (((p2 < (0 : Int32) → (wpX4_refuse (fun (r_4 : Int32) (T_refusals_5 : Nat → Int32) => post r_4 T_refusals_5) T_refusals (-2 : Int32))) ∧ (¬ (p2 < (0 : Int32)) → (((p2 ≤ (2 : Int32) → (((p2 = (0 : Int32) → (vp_in p1 5 ∧ (post (([7, 4, 6, 8, 9] : List Int32).getD p1.toNatClampNeg 0) T_refusals))) ∧ (¬ (p2 = (0 : Int32)) → (((p2 = (1 : Int32) → (vp_in p1 5 ∧ (post (([7, 9, 9, 6, 9] : List Int32).getD p1.toNatClampNeg 0) T_refusals))) ∧ (¬ (p2 = (1 : Int32)) → (vp_in p1 5 ∧ (post (([1, 3, 2, 1, 5] : List Int32).getD p1.toNatClampNeg 0) T_refusals))))))))) ∧ (¬ (p2 ≤ (2 : Int32)) → (wpX4_refuse (fun (r_6 : Int32) (T_refusals_7 : Nat → Int32) => post r_6 T_refusals_7) T_refusals (-2 : Int32))))))))) ∧ (¬ (r_1 = (0 : Int32)) → (wpX4_refuse (fun (r_2 : Int32) (T_refusals_3 : Nat → Int32) => post r_2 T_refusals_3) T_refusals (-2 : Int32))))) p1
set_option maxHeartbeats 4000000 in
set_option maxRecDepth 100000 in
theorem mX4_tool (l : Launch) (D : va_G) (cI cJ cC : ClassId) (G : Nat → Nat → Nat) (a_T : Nat → Nat) (a_n : Nat → Nat) (a_k : Nat → Nat) (a_t : Nat → Nat) (a_s : Nat → Nat) (a_r : Nat → Nat) (a_c : Nat → Nat) (sz : Nat) (T_isKept : Int32) (T_refusals : Nat → Int32) (p1 : Int32) (p2 : Int32) (post : Int32 → (Nat → Int32) → Prop) (h : wpX4_tool post T_refusals p1 p2) : Met l yX4_tool (wz yX4_tool cX4_tool 3 (some .int)) ({ frames := 1, cells := 0, slots := 0, locals := 21 }) (va_Pc [.ref (a_T 0), .int p1, .int p2] (PW D (tz cI cJ cC) G ((bX4 cI cJ cC a_T a_n a_k a_t a_s a_r a_c T_isKept T_refusals)) sz)) (va_Qi (fun (r : Int32) (u : (Nat → Int32)) => post r u) (fun (u : (Nat → Int32)) t => va_P D vwCl ((bX4 cI cJ cC a_T a_n a_k a_t a_s a_r a_c T_isKept u)) t.heap) (va_A ((bX4 cI cJ cC a_T a_n a_k a_t a_s a_r a_c T_isKept T_refusals)) sz)) 0 0 (va_A ((bX4 cI cJ cC a_T a_n a_k a_t a_s a_r a_c T_isKept T_refusals)) sz) := by
  refine zmi (gw := fun (u : (Nat → Int32)) => (bX4 cI cJ cC a_T a_n a_k a_t a_s a_r a_c T_isKept u)) (plainFor_of_name (by decide)) (Nat.le_of_ble_eq_true rfl) ?_
  intro p e s m below meth c A Q ls S hK hD hA hE hP hl hret
  obtain ⟨hx, hb, hml, hown, ht⟩ := id S
  have hS : va_S A s.heap s.heap [] := va_S.rf
  have hDD : ∀ ws : va_W, ws.map (fun q => q.1) = [a_T 0, a_T 1] → va_D A ws := fun ws hw => zD hD (hw.trans rfl)
  have hl : lv_has ls 3 [(0, .ref (a_T 0)), (1, .int p1), (2, .int p2)] := hl
  unfold wpX4_tool at h
  refine lv_iload_n hx hb dX4_tool_0 rfl (lv_at hl 1 rfl) ?_
  refine zci hA zD0 hS (zrunS (As := [.int p1]) (rest := []) S hK hA hE zP0 zD0 hS (mX4_isNoTool l D cI cJ cC G _ p1 _ h) kX4_isNoTool ml_X4_113 ⟨rfl, rfl, by decide, by decide⟩ rfl hl.1 rfl (Nat.le_of_ble_eq_true rfl) dX4_tool_1 ⟨Nat.zero_le _, Nat.zero_le _⟩) (fun r_1 u H locs h hP1 hk1 hS => ?_)
  try dsimp only at h
  have hP : va_P D vwCl ((bX4 cI cJ cC a_T a_n a_k a_t a_s a_r a_c T_isKept T_refusals)) H := zKeep hP hk1
  refine lv_if_ne (tgt := 16) hx hb dX4_tool_4 (by decide) (fun z => ?_) (fun z => ?_)
  · replace h := h.2 z
    refine lv_aload_n hx hb dX4_tool_16 rfl (lv_at hl 0 rfl) ?_
    refine lv_bipush (v := (-2 : Int32)) hx hb dX4_tool_17 (by decide) ?_
    refine zci hA (hDD _ rfl) hS (zrunV (As := [.int (-2 : Int32)]) (rest := []) S hK hA hE hP (hDD _ rfl) hS (mX4_refuse l D cI cJ cC G a_T a_n a_k a_t a_s a_r a_c _ T_isKept T_refusals (-2 : Int32) _ h) kX4_refuse ml_X4_51 ⟨rfl, rfl, by decide, by decide⟩ (q0 := 0) (ci := 4) rfl rfl rfl rfl hl.1 rfl (Nat.le_of_ble_eq_true rfl) dX4_tool_19 ⟨Nat.zero_le _, Nat.zero_le _⟩) (fun r_2 T_refusals_3 H locs h hP1 hk1 hS => ?_)
    try dsimp only at h
    have hP : va_P D vwCl ((bX4 cI cJ cC a_T a_n a_k a_t a_s a_r a_c T_isKept T_refusals_3)) H := hP1
    exact hret r_2 T_refusals_3 _ _ _ _ rfl h hP hS dX4_tool_22
  · replace h := h.1 z
    refine lv_iload_n hx hb dX4_tool_7 rfl (lv_at hl 2 rfl) ?_
    refine lv_if_lt (tgt := 16) hx hb dX4_tool_8 (by decide) (fun z => ?_) (fun z => ?_)
    · replace h := h.1 z
      refine lv_aload_n hx hb dX4_tool_16 rfl (lv_at hl 0 rfl) ?_
      refine lv_bipush (v := (-2 : Int32)) hx hb dX4_tool_17 (by decide) ?_
      refine zci hA (hDD _ rfl) hS (zrunV (As := [.int (-2 : Int32)]) (rest := []) S hK hA hE hP (hDD _ rfl) hS (mX4_refuse l D cI cJ cC G a_T a_n a_k a_t a_s a_r a_c _ T_isKept T_refusals (-2 : Int32) _ h) kX4_refuse ml_X4_51 ⟨rfl, rfl, by decide, by decide⟩ (q0 := 0) (ci := 4) rfl rfl rfl rfl hl.1 rfl (Nat.le_of_ble_eq_true rfl) dX4_tool_19 ⟨Nat.zero_le _, Nat.zero_le _⟩) (fun r_4 T_refusals_5 H locs h hP1 hk1 hS => ?_)
      try dsimp only at h
      have hP : va_P D vwCl ((bX4 cI cJ cC a_T a_n a_k a_t a_s a_r a_c T_isKept T_refusals_5)) H := hP1
      exact hret r_4 T_refusals_5 _ _ _ _ rfl h hP hS dX4_tool_22
    · replace h := h.2 z
      refine lv_iload_n hx hb dX4_tool_11 rfl (lv_at hl 2 rfl) ?_
      refine lv_iconst (v := (2 : Int32)) hx hb dX4_tool_12 (by decide) ?_
      refine lv_icmp_le (tgt := 23) hx hb dX4_tool_13 (by decide) (fun z => ?_) (fun z => ?_)
      · replace h := h.1 z
        refine lv_iload_n hx hb dX4_tool_23 rfl (lv_at hl 2 rfl) ?_
        refine lv_if_ne (tgt := 33) hx hb dX4_tool_24 (by decide) (fun z => ?_) (fun z => ?_)
        · replace h := h.2 z
          refine lv_iload_n hx hb dX4_tool_33 rfl (lv_at hl 2 rfl) ?_
          refine lv_iconst (v := (1 : Int32)) hx hb dX4_tool_34 (by decide) ?_
          refine lv_icmp_ne (tgt := 46) hx hb dX4_tool_35 (by decide) (fun z => ?_) (fun z => ?_)
          · replace h := h.2 z
            refine va_gets (v := .ref (G 0 4)) hx hb (hE.2.1 4 _ rfl).1 hS hown (ht _ fl_X4_122) (fun _ h9 => h9) dX4_tool_46 ?_
            refine lv_iload_n hx hb dX4_tool_49 rfl (lv_at hl 1 rfl) ?_
            obtain ⟨hin, h⟩ := h
            refine va_ti (v := .int (([1, 3, 2, 1, 5] : List Int32).getD p1.toNatClampNeg 0)) hx hb (hE.2.1 4 _ rfl).2 hS hin rfl dX4_tool_50 ?_
            exact hret (([1, 3, 2, 1, 5] : List Int32).getD p1.toNatClampNeg 0) T_refusals _ _ _ _ rfl h hP hS dX4_tool_51
          · replace h := h.1 z
            refine va_gets (v := .ref (G 0 3)) hx hb (hE.2.1 3 _ rfl).1 hS hown (ht _ fl_X4_119) (fun _ h9 => h9) dX4_tool_38 ?_
            refine lv_iload_n hx hb dX4_tool_41 rfl (lv_at hl 1 rfl) ?_
            obtain ⟨hin, h⟩ := h
            refine va_ti (v := .int (([7, 9, 9, 6, 9] : List Int32).getD p1.toNatClampNeg 0)) hx hb (hE.2.1 3 _ rfl).2 hS hin rfl dX4_tool_42 ?_
            refine lv_goto (tgt := 51) hx hb dX4_tool_43 (by decide) ?_
            exact hret (([7, 9, 9, 6, 9] : List Int32).getD p1.toNatClampNeg 0) T_refusals _ _ _ _ rfl h hP hS dX4_tool_51
        · replace h := h.1 z
          refine va_gets (v := .ref (G 0 2)) hx hb (hE.2.1 2 _ rfl).1 hS hown (ht _ fl_X4_116) (fun _ h9 => h9) dX4_tool_27 ?_
          refine lv_iload_n hx hb dX4_tool_30 rfl (lv_at hl 1 rfl) ?_
          obtain ⟨hin, h⟩ := h
          refine va_ti (v := .int (([7, 4, 6, 8, 9] : List Int32).getD p1.toNatClampNeg 0)) hx hb (hE.2.1 2 _ rfl).2 hS hin rfl dX4_tool_31 ?_
          exact hret (([7, 4, 6, 8, 9] : List Int32).getD p1.toNatClampNeg 0) T_refusals _ _ _ _ rfl h hP hS dX4_tool_32
      · replace h := h.2 z
        refine lv_aload_n hx hb dX4_tool_16 rfl (lv_at hl 0 rfl) ?_
        refine lv_bipush (v := (-2 : Int32)) hx hb dX4_tool_17 (by decide) ?_
        refine zci hA (hDD _ rfl) hS (zrunV (As := [.int (-2 : Int32)]) (rest := []) S hK hA hE hP (hDD _ rfl) hS (mX4_refuse l D cI cJ cC G a_T a_n a_k a_t a_s a_r a_c _ T_isKept T_refusals (-2 : Int32) _ h) kX4_refuse ml_X4_51 ⟨rfl, rfl, by decide, by decide⟩ (q0 := 0) (ci := 4) rfl rfl rfl rfl hl.1 rfl (Nat.le_of_ble_eq_true rfl) dX4_tool_19 ⟨Nat.zero_le _, Nat.zero_le _⟩) (fun r_6 T_refusals_7 H locs h hP1 hk1 hS => ?_)
        try dsimp only at h
        have hP : va_P D vwCl ((bX4 cI cJ cC a_T a_n a_k a_t a_s a_r a_c T_isKept T_refusals_7)) H := hP1
        exact hret r_6 T_refusals_7 _ _ _ _ rfl h hP hS dX4_tool_22
def wpX4_telling (post : Int32 → (Nat → Int32) → Int32 → Int64 → Int64 → Int32 → (Nat → Int64) → (Nat → Int64) → Prop) (T_refusals : Nat → Int32) (n_used : Int32) (n_drilled : Int64) (n_total : Int64) (n_open : Int32) (n_weights : Nat → Int64) (n_woods : Nat → Int32) (n_sums : Nat → Int64) (p1 : Int32) (p2 : Int32) (p3 : Int32) : Prop := wpX4_isNoTool (fun (r_1 : Int32) => ((r_1 = (0 : Int32) → (wpX4_isNoInch (fun (r_2 : Int32) => ((r_2 = (0 : Int32) → (((p3 = (0 : Int32) → (((n_used < (6 : Int32) → (((p3 = (1 : Int32) → (wpX3_takeTelling (fun (n_used_9 : Int32) (n_drilled_10 : Int64) (n_total_11 : Int64) (n_open_12 : Int32) (n_weights_13 : Nat → Int64) (n_sums_14 : Nat → Int64) => post n_used_9 T_refusals n_used_9 n_drilled_10 n_total_11 n_open_12 n_weights_13 n_sums_14) n_used n_drilled n_weights n_woods n_sums p1 p2 (1 : Int32))) ∧ (¬ (p3 = (1 : Int32)) → (wpX3_takeTelling (fun (n_used_3 : Int32) (n_drilled_4 : Int64) (n_total_5 : Int64) (n_open_6 : Int32) (n_weights_7 : Nat → Int64) (n_sums_8 : Nat → Int64) => post n_used_3 T_refusals n_used_3 n_drilled_4 n_total_5 n_open_6 n_weights_7 n_sums_8) n_used n_drilled n_weights n_woods n_sums p1 p2 (0 : Int32)))))) ∧ (¬ (n_used < (6 : Int32)) → (wpX4_refuse (fun (r_15 : Int32) (T_refusals_16 : Nat → Int32) => post r_15 T_refusals_16 n_used n_drilled n_total n_open n_weights n_sums) T_refusals (-6 : Int32)))))) ∧ (¬ (p3 = (0 : Int32)) → (((p3 = (1 : Int32) → (((n_used < (6 : Int32) → (((p3 = (1 : Int32) → (wpX3_takeTelling (fun (n_used_23 : Int32) (n_drilled_24 : Int64) (n_total_25 : Int64) (n_open_26 : Int32) (n_weights_27 : Nat → Int64) (n_sums_28 : Nat → Int64) => post n_used_23 T_refusals n_used_23 n_drilled_24 n_total_25 n_open_26 n_weights_27 n_sums_28) n_used n_drilled n_weights n_woods n_sums p1 p2 (1 : Int32))) ∧ (¬ (p3 = (1 : Int32)) → (wpX3_takeTelling (fun (n_used_17 : Int32) (n_drilled_18 : Int64) (n_total_19 : Int64) (n_open_20 : Int32) (n_weights_21 : Nat → Int64) (n_sums_22 : Nat → Int64) => post n_used_17 T_refusals n_used_17 n_drilled_18 n_total_19 n_open_20 n_weights_21 n_sums_22) n_used n_drilled n_weights n_woods n_sums p1 p2 (0 : Int32)))))) ∧ (¬ (n_used < (6 : Int32)) → (wpX4_refuse (fun (r_29 : Int32) (T_refusals_30 : Nat → Int32) => post r_29 T_refusals_30 n_used n_drilled n_total n_open n_weights n_sums) T_refusals (-6 : Int32)))))) ∧ (¬ (p3 = (1 : Int32)) → (wpX4_refuse (fun (r_31 : Int32) (T_refusals_32 : Nat → Int32) => post r_31 T_refusals_32 n_used n_drilled n_total n_open n_weights n_sums) T_refusals (-2 : Int32))))))))) ∧ (¬ (r_2 = (0 : Int32)) → (wpX4_refuse (fun (r_33 : Int32) (T_refusals_34 : Nat → Int32) => post r_33 T_refusals_34 n_used n_drilled n_total n_open n_weights n_sums) T_refusals (-1 : Int32))))) p2)) ∧ (¬ (r_1 = (0 : Int32)) → (wpX4_refuse (fun (r_35 : Int32) (T_refusals_36 : Nat → Int32) => post r_35 T_refusals_36 n_used n_drilled n_total n_open n_weights n_sums) T_refusals (-2 : Int32))))) p1
set_option maxHeartbeats 4000000 in
set_option maxRecDepth 100000 in
theorem mX4_telling (l : Launch) (D : va_G) (cI cJ cC : ClassId) (G : Nat → Nat → Nat) (a_T : Nat → Nat) (a_n : Nat → Nat) (a_k : Nat → Nat) (a_t : Nat → Nat) (a_s : Nat → Nat) (a_r : Nat → Nat) (a_c : Nat → Nat) (sz : Nat) (T_isKept : Int32) (T_refusals : Nat → Int32) (n_space : Int32) (n_beam : Int32) (n_door : Int32) (n_law : Int32) (n_used : Int32) (n_pipes : Int32) (n_drilled : Int64) (n_total : Int64) (n_open : Int32) (n_pipeInches : Nat → Int32) (n_pipeChances : Nat → Int32) (n_weights : Nat → Int64) (n_woods : Nat → Int32) (n_sums : Nat → Int64) (p1 : Int32) (p2 : Int32) (p3 : Int32) (post : Int32 → (Nat → Int32) → Int32 → Int64 → Int64 → Int32 → (Nat → Int64) → (Nat → Int64) → Prop) (h : wpX4_telling post T_refusals n_used n_drilled n_total n_open n_weights n_woods n_sums p1 p2 p3) : Met l yX4_telling (wz yX4_telling cX4_telling 4 (some .int)) ({ frames := 4, cells := 0, slots := 0, locals := 90 }) (va_Pc [.ref (a_T 0), .int p1, .int p2, .int p3] (PW D (tz cI cJ cC) G ((bX4 cI cJ cC a_T a_n a_k a_t a_s a_r a_c T_isKept T_refusals) ++ (bX3 cI cJ cC a_n n_space n_beam n_door n_law n_used n_pipes n_drilled n_total n_open n_pipeInches n_pipeChances n_weights n_woods n_sums)) sz)) (va_Qi (fun (r : Int32) (u : (Nat → Int32) × Int32 × Int64 × Int64 × Int32 × (Nat → Int64) × (Nat → Int64)) => post r u.1 u.2.1 u.2.2.1 u.2.2.2.1 u.2.2.2.2.1 u.2.2.2.2.2.1 u.2.2.2.2.2.2) (fun (u : (Nat → Int32) × Int32 × Int64 × Int64 × Int32 × (Nat → Int64) × (Nat → Int64)) t => va_P D vwCl ((bX4 cI cJ cC a_T a_n a_k a_t a_s a_r a_c T_isKept u.1) ++ (bX3 cI cJ cC a_n n_space n_beam n_door n_law u.2.1 n_pipes u.2.2.1 u.2.2.2.1 u.2.2.2.2.1 n_pipeInches n_pipeChances u.2.2.2.2.2.1 n_woods u.2.2.2.2.2.2)) t.heap) (va_A ((bX4 cI cJ cC a_T a_n a_k a_t a_s a_r a_c T_isKept T_refusals) ++ (bX3 cI cJ cC a_n n_space n_beam n_door n_law n_used n_pipes n_drilled n_total n_open n_pipeInches n_pipeChances n_weights n_woods n_sums)) sz)) 0 0 (va_A ((bX4 cI cJ cC a_T a_n a_k a_t a_s a_r a_c T_isKept T_refusals) ++ (bX3 cI cJ cC a_n n_space n_beam n_door n_law n_used n_pipes n_drilled n_total n_open n_pipeInches n_pipeChances n_weights n_woods n_sums)) sz) := by
  refine zmi (gw := fun (u : (Nat → Int32) × Int32 × Int64 × Int64 × Int32 × (Nat → Int64) × (Nat → Int64)) => (bX4 cI cJ cC a_T a_n a_k a_t a_s a_r a_c T_isKept u.1) ++ (bX3 cI cJ cC a_n n_space n_beam n_door n_law u.2.1 n_pipes u.2.2.1 u.2.2.2.1 u.2.2.2.2.1 n_pipeInches n_pipeChances u.2.2.2.2.2.1 n_woods u.2.2.2.2.2.2)) (plainFor_of_name (by decide)) (Nat.le_of_ble_eq_true rfl) ?_
  intro p e s m below meth c A Q ls S hK hD hA hE hP hl hret
  obtain ⟨hx, hb, hml, hown, ht⟩ := id S
  have hS : va_S A s.heap s.heap [] := va_S.rf
  have hDD : ∀ ws : va_W, ws.map (fun q => q.1) = [a_T 0, a_T 1, a_n 0, a_n 1, a_n 2, a_n 3, a_n 4, a_n 5] → va_D A ws := fun ws hw => zD hD (hw.trans rfl)
  have hl : lv_has ls 4 [(0, .ref (a_T 0)), (1, .int p1), (2, .int p2), (3, .int p3)] := hl
  unfold wpX4_telling at h
  refine lv_iload_n hx hb dX4_telling_0 rfl (lv_at hl 1 rfl) ?_
  refine zci hA zD0 hS (zrunS (As := [.int p1]) (rest := []) S hK hA hE zP0 zD0 hS (mX4_isNoTool l D cI cJ cC G _ p1 _ h) kX4_isNoTool ml_X4_113 ⟨rfl, rfl, by decide, by decide⟩ rfl hl.1 rfl (Nat.le_of_ble_eq_true rfl) dX4_telling_1 ⟨Nat.zero_le _, Nat.zero_le _⟩) (fun r_1 u H locs h hP1 hk1 hS => ?_)
  try dsimp only at h
  have hP : va_P D vwCl ((bX4 cI cJ cC a_T a_n a_k a_t a_s a_r a_c T_isKept T_refusals) ++ (bX3 cI cJ cC a_n n_space n_beam n_door n_law n_used n_pipes n_drilled n_total n_open n_pipeInches n_pipeChances n_weights n_woods n_sums)) H := zKeep hP hk1
  refine lv_if_eq (tgt := 14) hx hb dX4_telling_4 (by decide) (fun z => ?_) (fun z => ?_)
  · replace h := h.1 z
    refine lv_iload_n hx hb dX4_telling_14 rfl (lv_at hl 2 rfl) ?_
    refine zci hA zD0 hS (zrunS (As := [.int p2]) (rest := []) S hK hA hE zP0 zD0 hS (mX4_isNoInch l D cI cJ cC G _ p2 _ h) kX4_isNoInch ml_X4_95 ⟨rfl, rfl, by decide, by decide⟩ rfl hl.1 rfl (Nat.le_of_ble_eq_true rfl) dX4_telling_15 ⟨Nat.zero_le _, Nat.zero_le _⟩) (fun r_2 u H locs h hP1 hk1 hS => ?_)
    try dsimp only at h
    have hP : va_P D vwCl ((bX4 cI cJ cC a_T a_n a_k a_t a_s a_r a_c T_isKept T_refusals) ++ (bX3 cI cJ cC a_n n_space n_beam n_door n_law n_used n_pipes n_drilled n_total n_open n_pipeInches n_pipeChances n_weights n_woods n_sums)) H := zKeep hP hk1
    refine lv_if_eq (tgt := 27) hx hb dX4_telling_18 (by decide) (fun z => ?_) (fun z => ?_)
    · replace h := h.1 z
      refine lv_iload_n hx hb dX4_telling_27 rfl (lv_at hl 3 rfl) ?_
      refine lv_if_eq (tgt := 43) hx hb dX4_telling_28 (by decide) (fun z => ?_) (fun z => ?_)
      · replace h := h.1 z
        refine lv_aload_n hx hb dX4_telling_43 rfl (lv_at hl 0 rfl) ?_
        refine va_get (D := D) (ci := 4) (v := .ref (a_n 0)) (C := RX4) (T := TX4) (N := 8) hx hb ht inX4 hown hK hP 0 rfl rfl 0 (by decide) (ht _ fl_X4_10) (fun _ h9 => h9) rfl dX4_telling_44 ?_
        refine va_get (D := D) (ci := 3) (v := .int n_used) (C := RX3) (T := TX3) (N := 14) hx hb ht inX3 hown hK hP 2 rfl rfl 4 (by decide) (ht _ fl_X4_125) (fun _ h9 => h9) rfl dX4_telling_47 ?_
        refine lv_bipush (v := (6 : Int32)) hx hb dX4_telling_50 (by decide) ?_
        refine lv_icmp_lt (tgt := 62) hx hb dX4_telling_52 (by decide) (fun z => ?_) (fun z => ?_)
        · replace h := h.1 z
          refine lv_aload_n hx hb dX4_telling_62 rfl (lv_at hl 0 rfl) ?_
          refine va_get (D := D) (ci := 4) (v := .ref (a_n 0)) (C := RX4) (T := TX4) (N := 8) hx hb ht inX4 hown hK hP 0 rfl rfl 0 (by decide) (ht _ fl_X4_10) (fun _ h9 => h9) rfl dX4_telling_63 ?_
          refine lv_iload_n hx hb dX4_telling_66 rfl (lv_at hl 1 rfl) ?_
          refine lv_iload_n hx hb dX4_telling_67 rfl (lv_at hl 2 rfl) ?_
          refine lv_iload_n hx hb dX4_telling_68 rfl (lv_at hl 3 rfl) ?_
          refine lv_iconst (v := (1 : Int32)) hx hb dX4_telling_69 (by decide) ?_
          refine lv_icmp_ne (tgt := 77) hx hb dX4_telling_70 (by decide) (fun z => ?_) (fun z => ?_)
          · replace h := h.2 z
            refine lv_iconst (v := (0 : Int32)) hx hb dX4_telling_77 (by decide) ?_
            have hPw : va_P D vwCl ((bX3 cI cJ cC a_n n_space n_beam n_door n_law n_used n_pipes n_drilled n_total n_open n_pipeInches n_pipeChances n_weights n_woods n_sums)) _ := hP.sub [2, 3, 4, 5, 6, 7] rfl
            have hDw : va_D A ((bX3 cI cJ cC a_n n_space n_beam n_door n_law n_used n_pipes n_drilled n_total n_open n_pipeInches n_pipeChances n_weights n_woods n_sums)) := (hDD _ rfl).sub (ws := (bX4 cI cJ cC a_T a_n a_k a_t a_s a_r a_c T_isKept T_refusals) ++ (bX3 cI cJ cC a_n n_space n_beam n_door n_law n_used n_pipes n_drilled n_total n_open n_pipeInches n_pipeChances n_weights n_woods n_sums)) [2, 3, 4, 5, 6, 7] (by decide) rfl
            refine zcv hA hDw hS (zrunV (As := [.int p1, .int p2, .int (0 : Int32)]) (rest := []) S hK hA hE hPw hDw hS (mX3_takeTelling l D cI cJ cC G a_n _ n_space n_beam n_door n_law n_used n_pipes n_drilled n_total n_open n_pipeInches n_pipeChances n_weights n_woods n_sums p1 p2 (0 : Int32) _ h) kX3_takeTelling ml_X4_128 ⟨rfl, rfl, by decide, by decide⟩ (q0 := 0) (ci := 3) rfl rfl rfl rfl hl.1 rfl (Nat.le_of_ble_eq_true rfl) dX4_telling_78 ⟨Nat.zero_le _, Nat.zero_le _⟩) (fun u H locs h hP1 hk1 hS => ?_)
            obtain ⟨n_used_3, n_drilled_4, n_total_5, n_open_6, n_weights_7, n_sums_8⟩ := u
            dsimp only at h
            have hP : va_P D vwCl ((bX4 cI cJ cC a_T a_n a_k a_t a_s a_r a_c T_isKept T_refusals) ++ (bX3 cI cJ cC a_n n_space n_beam n_door n_law n_used_3 n_pipes n_drilled_4 n_total_5 n_open_6 n_pipeInches n_pipeChances n_weights_7 n_woods n_sums_8)) H := zMerge hP (hDD _ rfl) [2, 3, 4, 5, 6, 7] rfl rfl hk1 hP1
            refine lv_aload_n hx hb dX4_telling_81 rfl (lv_at hl 0 rfl) ?_
            refine va_get (D := D) (ci := 4) (v := .ref (a_n 0)) (C := RX4) (T := TX4) (N := 8) hx hb ht inX4 hown hK hP 0 rfl rfl 0 (by decide) (ht _ fl_X4_10) (fun _ h9 => h9) rfl dX4_telling_82 ?_
            refine va_get (D := D) (ci := 3) (v := .int n_used_3) (C := RX3) (T := TX3) (N := 14) hx hb ht inX3 hown hK hP 2 rfl rfl 4 (by decide) (ht _ fl_X4_125) (fun _ h9 => h9) rfl dX4_telling_85 ?_
            exact hret n_used_3 (T_refusals, n_used_3, n_drilled_4, n_total_5, n_open_6, n_weights_7, n_sums_8) _ _ _ _ rfl h hP hS dX4_telling_88
          · replace h := h.1 z
            refine lv_iconst (v := (1 : Int32)) hx hb dX4_telling_73 (by decide) ?_
            refine lv_goto (tgt := 78) hx hb dX4_telling_74 (by decide) ?_
            have hPw : va_P D vwCl ((bX3 cI cJ cC a_n n_space n_beam n_door n_law n_used n_pipes n_drilled n_total n_open n_pipeInches n_pipeChances n_weights n_woods n_sums)) _ := hP.sub [2, 3, 4, 5, 6, 7] rfl
            have hDw : va_D A ((bX3 cI cJ cC a_n n_space n_beam n_door n_law n_used n_pipes n_drilled n_total n_open n_pipeInches n_pipeChances n_weights n_woods n_sums)) := (hDD _ rfl).sub (ws := (bX4 cI cJ cC a_T a_n a_k a_t a_s a_r a_c T_isKept T_refusals) ++ (bX3 cI cJ cC a_n n_space n_beam n_door n_law n_used n_pipes n_drilled n_total n_open n_pipeInches n_pipeChances n_weights n_woods n_sums)) [2, 3, 4, 5, 6, 7] (by decide) rfl
            refine zcv hA hDw hS (zrunV (As := [.int p1, .int p2, .int (1 : Int32)]) (rest := []) S hK hA hE hPw hDw hS (mX3_takeTelling l D cI cJ cC G a_n _ n_space n_beam n_door n_law n_used n_pipes n_drilled n_total n_open n_pipeInches n_pipeChances n_weights n_woods n_sums p1 p2 (1 : Int32) _ h) kX3_takeTelling ml_X4_128 ⟨rfl, rfl, by decide, by decide⟩ (q0 := 0) (ci := 3) rfl rfl rfl rfl hl.1 rfl (Nat.le_of_ble_eq_true rfl) dX4_telling_78 ⟨Nat.zero_le _, Nat.zero_le _⟩) (fun u H locs h hP1 hk1 hS => ?_)
            obtain ⟨n_used_9, n_drilled_10, n_total_11, n_open_12, n_weights_13, n_sums_14⟩ := u
            dsimp only at h
            have hP : va_P D vwCl ((bX4 cI cJ cC a_T a_n a_k a_t a_s a_r a_c T_isKept T_refusals) ++ (bX3 cI cJ cC a_n n_space n_beam n_door n_law n_used_9 n_pipes n_drilled_10 n_total_11 n_open_12 n_pipeInches n_pipeChances n_weights_13 n_woods n_sums_14)) H := zMerge hP (hDD _ rfl) [2, 3, 4, 5, 6, 7] rfl rfl hk1 hP1
            refine lv_aload_n hx hb dX4_telling_81 rfl (lv_at hl 0 rfl) ?_
            refine va_get (D := D) (ci := 4) (v := .ref (a_n 0)) (C := RX4) (T := TX4) (N := 8) hx hb ht inX4 hown hK hP 0 rfl rfl 0 (by decide) (ht _ fl_X4_10) (fun _ h9 => h9) rfl dX4_telling_82 ?_
            refine va_get (D := D) (ci := 3) (v := .int n_used_9) (C := RX3) (T := TX3) (N := 14) hx hb ht inX3 hown hK hP 2 rfl rfl 4 (by decide) (ht _ fl_X4_125) (fun _ h9 => h9) rfl dX4_telling_85 ?_
            exact hret n_used_9 (T_refusals, n_used_9, n_drilled_10, n_total_11, n_open_12, n_weights_13, n_sums_14) _ _ _ _ rfl h hP hS dX4_telling_88
        · replace h := h.2 z
          refine lv_aload_n hx hb dX4_telling_55 rfl (lv_at hl 0 rfl) ?_
          refine lv_bipush (v := (-6 : Int32)) hx hb dX4_telling_56 (by decide) ?_
          have hPw : va_P D vwCl ((bX4 cI cJ cC a_T a_n a_k a_t a_s a_r a_c T_isKept T_refusals)) _ := hP.sub [0, 1] rfl
          have hDw : va_D A ((bX4 cI cJ cC a_T a_n a_k a_t a_s a_r a_c T_isKept T_refusals)) := (hDD _ rfl).sub (ws := (bX4 cI cJ cC a_T a_n a_k a_t a_s a_r a_c T_isKept T_refusals) ++ (bX3 cI cJ cC a_n n_space n_beam n_door n_law n_used n_pipes n_drilled n_total n_open n_pipeInches n_pipeChances n_weights n_woods n_sums)) [0, 1] (by decide) rfl
          refine zci hA hDw hS (zrunV (As := [.int (-6 : Int32)]) (rest := []) S hK hA hE hPw hDw hS (mX4_refuse l D cI cJ cC G a_T a_n a_k a_t a_s a_r a_c _ T_isKept T_refusals (-6 : Int32) _ h) kX4_refuse ml_X4_51 ⟨rfl, rfl, by decide, by decide⟩ (q0 := 0) (ci := 4) rfl rfl rfl rfl hl.1 rfl (Nat.le_of_ble_eq_true rfl) dX4_telling_58 ⟨Nat.zero_le _, Nat.zero_le _⟩) (fun r_15 T_refusals_16 H locs h hP1 hk1 hS => ?_)
          try dsimp only at h
          have hP : va_P D vwCl ((bX4 cI cJ cC a_T a_n a_k a_t a_s a_r a_c T_isKept T_refusals_16) ++ (bX3 cI cJ cC a_n n_space n_beam n_door n_law n_used n_pipes n_drilled n_total n_open n_pipeInches n_pipeChances n_weights n_woods n_sums)) H := zMerge hP (hDD _ rfl) [0, 1] rfl rfl hk1 hP1
          exact hret r_15 (T_refusals_16, n_used, n_drilled, n_total, n_open, n_weights, n_sums) _ _ _ _ rfl h hP hS dX4_telling_61
      · replace h := h.2 z
        refine lv_iload_n hx hb dX4_telling_31 rfl (lv_at hl 3 rfl) ?_
        refine lv_iconst (v := (1 : Int32)) hx hb dX4_telling_32 (by decide) ?_
        refine lv_icmp_eq (tgt := 43) hx hb dX4_telling_33 (by decide) (fun z => ?_) (fun z => ?_)
        · replace h := h.1 z
          refine lv_aload_n hx hb dX4_telling_43 rfl (lv_at hl 0 rfl) ?_
          refine va_get (D := D) (ci := 4) (v := .ref (a_n 0)) (C := RX4) (T := TX4) (N := 8) hx hb ht inX4 hown hK hP 0 rfl rfl 0 (by decide) (ht _ fl_X4_10) (fun _ h9 => h9) rfl dX4_telling_44 ?_
          refine va_get (D := D) (ci := 3) (v := .int n_used) (C := RX3) (T := TX3) (N := 14) hx hb ht inX3 hown hK hP 2 rfl rfl 4 (by decide) (ht _ fl_X4_125) (fun _ h9 => h9) rfl dX4_telling_47 ?_
          refine lv_bipush (v := (6 : Int32)) hx hb dX4_telling_50 (by decide) ?_
          refine lv_icmp_lt (tgt := 62) hx hb dX4_telling_52 (by decide) (fun z => ?_) (fun z => ?_)
          · replace h := h.1 z
            refine lv_aload_n hx hb dX4_telling_62 rfl (lv_at hl 0 rfl) ?_
            refine va_get (D := D) (ci := 4) (v := .ref (a_n 0)) (C := RX4) (T := TX4) (N := 8) hx hb ht inX4 hown hK hP 0 rfl rfl 0 (by decide) (ht _ fl_X4_10) (fun _ h9 => h9) rfl dX4_telling_63 ?_
            refine lv_iload_n hx hb dX4_telling_66 rfl (lv_at hl 1 rfl) ?_
            refine lv_iload_n hx hb dX4_telling_67 rfl (lv_at hl 2 rfl) ?_
            refine lv_iload_n hx hb dX4_telling_68 rfl (lv_at hl 3 rfl) ?_
            refine lv_iconst (v := (1 : Int32)) hx hb dX4_telling_69 (by decide) ?_
            refine lv_icmp_ne (tgt := 77) hx hb dX4_telling_70 (by decide) (fun z => ?_) (fun z => ?_)
            · replace h := h.2 z
              refine lv_iconst (v := (0 : Int32)) hx hb dX4_telling_77 (by decide) ?_
              have hPw : va_P D vwCl ((bX3 cI cJ cC a_n n_space n_beam n_door n_law n_used n_pipes n_drilled n_total n_open n_pipeInches n_pipeChances n_weights n_woods n_sums)) _ := hP.sub [2, 3, 4, 5, 6, 7] rfl
              have hDw : va_D A ((bX3 cI cJ cC a_n n_space n_beam n_door n_law n_used n_pipes n_drilled n_total n_open n_pipeInches n_pipeChances n_weights n_woods n_sums)) := (hDD _ rfl).sub (ws := (bX4 cI cJ cC a_T a_n a_k a_t a_s a_r a_c T_isKept T_refusals) ++ (bX3 cI cJ cC a_n n_space n_beam n_door n_law n_used n_pipes n_drilled n_total n_open n_pipeInches n_pipeChances n_weights n_woods n_sums)) [2, 3, 4, 5, 6, 7] (by decide) rfl
              refine zcv hA hDw hS (zrunV (As := [.int p1, .int p2, .int (0 : Int32)]) (rest := []) S hK hA hE hPw hDw hS (mX3_takeTelling l D cI cJ cC G a_n _ n_space n_beam n_door n_law n_used n_pipes n_drilled n_total n_open n_pipeInches n_pipeChances n_weights n_woods n_sums p1 p2 (0 : Int32) _ h) kX3_takeTelling ml_X4_128 ⟨rfl, rfl, by decide, by decide⟩ (q0 := 0) (ci := 3) rfl rfl rfl rfl hl.1 rfl (Nat.le_of_ble_eq_true rfl) dX4_telling_78 ⟨Nat.zero_le _, Nat.zero_le _⟩) (fun u H locs h hP1 hk1 hS => ?_)
              obtain ⟨n_used_17, n_drilled_18, n_total_19, n_open_20, n_weights_21, n_sums_22⟩ := u
              dsimp only at h
              have hP : va_P D vwCl ((bX4 cI cJ cC a_T a_n a_k a_t a_s a_r a_c T_isKept T_refusals) ++ (bX3 cI cJ cC a_n n_space n_beam n_door n_law n_used_17 n_pipes n_drilled_18 n_total_19 n_open_20 n_pipeInches n_pipeChances n_weights_21 n_woods n_sums_22)) H := zMerge hP (hDD _ rfl) [2, 3, 4, 5, 6, 7] rfl rfl hk1 hP1
              refine lv_aload_n hx hb dX4_telling_81 rfl (lv_at hl 0 rfl) ?_
              refine va_get (D := D) (ci := 4) (v := .ref (a_n 0)) (C := RX4) (T := TX4) (N := 8) hx hb ht inX4 hown hK hP 0 rfl rfl 0 (by decide) (ht _ fl_X4_10) (fun _ h9 => h9) rfl dX4_telling_82 ?_
              refine va_get (D := D) (ci := 3) (v := .int n_used_17) (C := RX3) (T := TX3) (N := 14) hx hb ht inX3 hown hK hP 2 rfl rfl 4 (by decide) (ht _ fl_X4_125) (fun _ h9 => h9) rfl dX4_telling_85 ?_
              exact hret n_used_17 (T_refusals, n_used_17, n_drilled_18, n_total_19, n_open_20, n_weights_21, n_sums_22) _ _ _ _ rfl h hP hS dX4_telling_88
            · replace h := h.1 z
              refine lv_iconst (v := (1 : Int32)) hx hb dX4_telling_73 (by decide) ?_
              refine lv_goto (tgt := 78) hx hb dX4_telling_74 (by decide) ?_
              have hPw : va_P D vwCl ((bX3 cI cJ cC a_n n_space n_beam n_door n_law n_used n_pipes n_drilled n_total n_open n_pipeInches n_pipeChances n_weights n_woods n_sums)) _ := hP.sub [2, 3, 4, 5, 6, 7] rfl
              have hDw : va_D A ((bX3 cI cJ cC a_n n_space n_beam n_door n_law n_used n_pipes n_drilled n_total n_open n_pipeInches n_pipeChances n_weights n_woods n_sums)) := (hDD _ rfl).sub (ws := (bX4 cI cJ cC a_T a_n a_k a_t a_s a_r a_c T_isKept T_refusals) ++ (bX3 cI cJ cC a_n n_space n_beam n_door n_law n_used n_pipes n_drilled n_total n_open n_pipeInches n_pipeChances n_weights n_woods n_sums)) [2, 3, 4, 5, 6, 7] (by decide) rfl
              refine zcv hA hDw hS (zrunV (As := [.int p1, .int p2, .int (1 : Int32)]) (rest := []) S hK hA hE hPw hDw hS (mX3_takeTelling l D cI cJ cC G a_n _ n_space n_beam n_door n_law n_used n_pipes n_drilled n_total n_open n_pipeInches n_pipeChances n_weights n_woods n_sums p1 p2 (1 : Int32) _ h) kX3_takeTelling ml_X4_128 ⟨rfl, rfl, by decide, by decide⟩ (q0 := 0) (ci := 3) rfl rfl rfl rfl hl.1 rfl (Nat.le_of_ble_eq_true rfl) dX4_telling_78 ⟨Nat.zero_le _, Nat.zero_le _⟩) (fun u H locs h hP1 hk1 hS => ?_)
              obtain ⟨n_used_23, n_drilled_24, n_total_25, n_open_26, n_weights_27, n_sums_28⟩ := u
              dsimp only at h
              have hP : va_P D vwCl ((bX4 cI cJ cC a_T a_n a_k a_t a_s a_r a_c T_isKept T_refusals) ++ (bX3 cI cJ cC a_n n_space n_beam n_door n_law n_used_23 n_pipes n_drilled_24 n_total_25 n_open_26 n_pipeInches n_pipeChances n_weights_27 n_woods n_sums_28)) H := zMerge hP (hDD _ rfl) [2, 3, 4, 5, 6, 7] rfl rfl hk1 hP1
              refine lv_aload_n hx hb dX4_telling_81 rfl (lv_at hl 0 rfl) ?_
              refine va_get (D := D) (ci := 4) (v := .ref (a_n 0)) (C := RX4) (T := TX4) (N := 8) hx hb ht inX4 hown hK hP 0 rfl rfl 0 (by decide) (ht _ fl_X4_10) (fun _ h9 => h9) rfl dX4_telling_82 ?_
              refine va_get (D := D) (ci := 3) (v := .int n_used_23) (C := RX3) (T := TX3) (N := 14) hx hb ht inX3 hown hK hP 2 rfl rfl 4 (by decide) (ht _ fl_X4_125) (fun _ h9 => h9) rfl dX4_telling_85 ?_
              exact hret n_used_23 (T_refusals, n_used_23, n_drilled_24, n_total_25, n_open_26, n_weights_27, n_sums_28) _ _ _ _ rfl h hP hS dX4_telling_88
          · replace h := h.2 z
            refine lv_aload_n hx hb dX4_telling_55 rfl (lv_at hl 0 rfl) ?_
            refine lv_bipush (v := (-6 : Int32)) hx hb dX4_telling_56 (by decide) ?_
            have hPw : va_P D vwCl ((bX4 cI cJ cC a_T a_n a_k a_t a_s a_r a_c T_isKept T_refusals)) _ := hP.sub [0, 1] rfl
            have hDw : va_D A ((bX4 cI cJ cC a_T a_n a_k a_t a_s a_r a_c T_isKept T_refusals)) := (hDD _ rfl).sub (ws := (bX4 cI cJ cC a_T a_n a_k a_t a_s a_r a_c T_isKept T_refusals) ++ (bX3 cI cJ cC a_n n_space n_beam n_door n_law n_used n_pipes n_drilled n_total n_open n_pipeInches n_pipeChances n_weights n_woods n_sums)) [0, 1] (by decide) rfl
            refine zci hA hDw hS (zrunV (As := [.int (-6 : Int32)]) (rest := []) S hK hA hE hPw hDw hS (mX4_refuse l D cI cJ cC G a_T a_n a_k a_t a_s a_r a_c _ T_isKept T_refusals (-6 : Int32) _ h) kX4_refuse ml_X4_51 ⟨rfl, rfl, by decide, by decide⟩ (q0 := 0) (ci := 4) rfl rfl rfl rfl hl.1 rfl (Nat.le_of_ble_eq_true rfl) dX4_telling_58 ⟨Nat.zero_le _, Nat.zero_le _⟩) (fun r_29 T_refusals_30 H locs h hP1 hk1 hS => ?_)
            try dsimp only at h
            have hP : va_P D vwCl ((bX4 cI cJ cC a_T a_n a_k a_t a_s a_r a_c T_isKept T_refusals_30) ++ (bX3 cI cJ cC a_n n_space n_beam n_door n_law n_used n_pipes n_drilled n_total n_open n_pipeInches n_pipeChances n_weights n_woods n_sums)) H := zMerge hP (hDD _ rfl) [0, 1] rfl rfl hk1 hP1
            exact hret r_29 (T_refusals_30, n_used, n_drilled, n_total, n_open, n_weights, n_sums) _ _ _ _ rfl h hP hS dX4_telling_61
        · replace h := h.2 z
          refine lv_aload_n hx hb dX4_telling_36 rfl (lv_at hl 0 rfl) ?_
          refine lv_bipush (v := (-2 : Int32)) hx hb dX4_telling_37 (by decide) ?_
          have hPw : va_P D vwCl ((bX4 cI cJ cC a_T a_n a_k a_t a_s a_r a_c T_isKept T_refusals)) _ := hP.sub [0, 1] rfl
          have hDw : va_D A ((bX4 cI cJ cC a_T a_n a_k a_t a_s a_r a_c T_isKept T_refusals)) := (hDD _ rfl).sub (ws := (bX4 cI cJ cC a_T a_n a_k a_t a_s a_r a_c T_isKept T_refusals) ++ (bX3 cI cJ cC a_n n_space n_beam n_door n_law n_used n_pipes n_drilled n_total n_open n_pipeInches n_pipeChances n_weights n_woods n_sums)) [0, 1] (by decide) rfl
          refine zci hA hDw hS (zrunV (As := [.int (-2 : Int32)]) (rest := []) S hK hA hE hPw hDw hS (mX4_refuse l D cI cJ cC G a_T a_n a_k a_t a_s a_r a_c _ T_isKept T_refusals (-2 : Int32) _ h) kX4_refuse ml_X4_51 ⟨rfl, rfl, by decide, by decide⟩ (q0 := 0) (ci := 4) rfl rfl rfl rfl hl.1 rfl (Nat.le_of_ble_eq_true rfl) dX4_telling_39 ⟨Nat.zero_le _, Nat.zero_le _⟩) (fun r_31 T_refusals_32 H locs h hP1 hk1 hS => ?_)
          try dsimp only at h
          have hP : va_P D vwCl ((bX4 cI cJ cC a_T a_n a_k a_t a_s a_r a_c T_isKept T_refusals_32) ++ (bX3 cI cJ cC a_n n_space n_beam n_door n_law n_used n_pipes n_drilled n_total n_open n_pipeInches n_pipeChances n_weights n_woods n_sums)) H := zMerge hP (hDD _ rfl) [0, 1] rfl rfl hk1 hP1
          exact hret r_31 (T_refusals_32, n_used, n_drilled, n_total, n_open, n_weights, n_sums) _ _ _ _ rfl h hP hS dX4_telling_42
    · replace h := h.2 z
      refine lv_aload_n hx hb dX4_telling_21 rfl (lv_at hl 0 rfl) ?_
      refine lv_iconst (v := (-1 : Int32)) hx hb dX4_telling_22 (by decide) ?_
      have hPw : va_P D vwCl ((bX4 cI cJ cC a_T a_n a_k a_t a_s a_r a_c T_isKept T_refusals)) _ := hP.sub [0, 1] rfl
      have hDw : va_D A ((bX4 cI cJ cC a_T a_n a_k a_t a_s a_r a_c T_isKept T_refusals)) := (hDD _ rfl).sub (ws := (bX4 cI cJ cC a_T a_n a_k a_t a_s a_r a_c T_isKept T_refusals) ++ (bX3 cI cJ cC a_n n_space n_beam n_door n_law n_used n_pipes n_drilled n_total n_open n_pipeInches n_pipeChances n_weights n_woods n_sums)) [0, 1] (by decide) rfl
      refine zci hA hDw hS (zrunV (As := [.int (-1 : Int32)]) (rest := []) S hK hA hE hPw hDw hS (mX4_refuse l D cI cJ cC G a_T a_n a_k a_t a_s a_r a_c _ T_isKept T_refusals (-1 : Int32) _ h) kX4_refuse ml_X4_51 ⟨rfl, rfl, by decide, by decide⟩ (q0 := 0) (ci := 4) rfl rfl rfl rfl hl.1 rfl (Nat.le_of_ble_eq_true rfl) dX4_telling_23 ⟨Nat.zero_le _, Nat.zero_le _⟩) (fun r_33 T_refusals_34 H locs h hP1 hk1 hS => ?_)
      try dsimp only at h
      have hP : va_P D vwCl ((bX4 cI cJ cC a_T a_n a_k a_t a_s a_r a_c T_isKept T_refusals_34) ++ (bX3 cI cJ cC a_n n_space n_beam n_door n_law n_used n_pipes n_drilled n_total n_open n_pipeInches n_pipeChances n_weights n_woods n_sums)) H := zMerge hP (hDD _ rfl) [0, 1] rfl rfl hk1 hP1
      exact hret r_33 (T_refusals_34, n_used, n_drilled, n_total, n_open, n_weights, n_sums) _ _ _ _ rfl h hP hS dX4_telling_26
  · replace h := h.2 z
    refine lv_aload_n hx hb dX4_telling_7 rfl (lv_at hl 0 rfl) ?_
    refine lv_bipush (v := (-2 : Int32)) hx hb dX4_telling_8 (by decide) ?_
    have hPw : va_P D vwCl ((bX4 cI cJ cC a_T a_n a_k a_t a_s a_r a_c T_isKept T_refusals)) _ := hP.sub [0, 1] rfl
    have hDw : va_D A ((bX4 cI cJ cC a_T a_n a_k a_t a_s a_r a_c T_isKept T_refusals)) := (hDD _ rfl).sub (ws := (bX4 cI cJ cC a_T a_n a_k a_t a_s a_r a_c T_isKept T_refusals) ++ (bX3 cI cJ cC a_n n_space n_beam n_door n_law n_used n_pipes n_drilled n_total n_open n_pipeInches n_pipeChances n_weights n_woods n_sums)) [0, 1] (by decide) rfl
    refine zci hA hDw hS (zrunV (As := [.int (-2 : Int32)]) (rest := []) S hK hA hE hPw hDw hS (mX4_refuse l D cI cJ cC G a_T a_n a_k a_t a_s a_r a_c _ T_isKept T_refusals (-2 : Int32) _ h) kX4_refuse ml_X4_51 ⟨rfl, rfl, by decide, by decide⟩ (q0 := 0) (ci := 4) rfl rfl rfl rfl hl.1 rfl (Nat.le_of_ble_eq_true rfl) dX4_telling_10 ⟨Nat.zero_le _, Nat.zero_le _⟩) (fun r_35 T_refusals_36 H locs h hP1 hk1 hS => ?_)
    try dsimp only at h
    have hP : va_P D vwCl ((bX4 cI cJ cC a_T a_n a_k a_t a_s a_r a_c T_isKept T_refusals_36) ++ (bX3 cI cJ cC a_n n_space n_beam n_door n_law n_used n_pipes n_drilled n_total n_open n_pipeInches n_pipeChances n_weights n_woods n_sums)) H := zMerge hP (hDD _ rfl) [0, 1] rfl rfl hk1 hP1
    exact hret r_35 (T_refusals_36, n_used, n_drilled, n_total, n_open, n_weights, n_sums) _ _ _ _ rfl h hP hS dX4_telling_13
