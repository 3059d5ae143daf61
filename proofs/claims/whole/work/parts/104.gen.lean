def wpX5_isOffset (post : Int32 → Prop) (M_setting : Nat → Int32) (p1 : Int32) : Prop := ((p1 < (0 : Int32) → (post (0 : Int32))) ∧ (¬ (p1 < (0 : Int32)) → ((((M_setting 0) ≤ p1 → (post (0 : Int32))) ∧ (¬ ((M_setting 0) ≤ p1) → (post (1 : Int32)))))))
set_option maxHeartbeats 4000000 in
set_option maxRecDepth 100000 in
theorem mX5_isOffset (l : Launch) (D : va_G) (cI cJ cC : ClassId) (G : Nat → Nat → Nat) (a_M : Nat → Nat) (sz : Nat) (M_pipes : Int32) (M_used : Int32) (M_taped : Int32) (M_at : Int32) (M_statements : Int32) (M_hasImage : Int32) (M_isKeeping : Int32) (M_cursor : Int32) (M_nextAt : Int32) (M_nextMost : Int64) (M_rowMany : Int32) (M_refused : Nat → Int32) (M_setting : Nat → Int32) (M_hole : Nat → Int32) (M_pipeAt : Nat → Int32) (M_chance : Nat → Int32) (M_weight : Nat → Int32) (M_tape : Nat → Int32) (M_letter : Nat → Int32) (M_letterAt : Nat → Int32) (M_told : Nat → Int32) (M_kept : Nat → Int32) (M_then : Nat → Int64) (M_row : Nat → Int32) (p1 : Int32) (post : Int32 → Prop) (h : wpX5_isOffset post M_setting p1) : Met l yX5_isOffset (wz yX5_isOffset cX5_isOffset 2 (some .boolean)) ({ frames := 0, cells := 0, slots := 0, locals := 0 }) (va_Pc [.ref (a_M 0), .int p1] (PW D (tz cI cJ cC) G ((bX5 cI cJ cC a_M M_pipes M_used M_taped M_at M_statements M_hasImage M_isKeeping M_cursor M_nextAt M_nextMost M_rowMany M_refused M_setting M_hole M_pipeAt M_chance M_weight M_tape M_letter M_letterAt M_told M_kept M_then M_row)) sz)) (va_Qi (fun (r : Int32) (u : Unit) => post r ) (fun (u : Unit) t => va_P D vwCl ((bX5 cI cJ cC a_M M_pipes M_used M_taped M_at M_statements M_hasImage M_isKeeping M_cursor M_nextAt M_nextMost M_rowMany M_refused M_setting M_hole M_pipeAt M_chance M_weight M_tape M_letter M_letterAt M_told M_kept M_then M_row)) t.heap) (va_A ((bX5 cI cJ cC a_M M_pipes M_used M_taped M_at M_statements M_hasImage M_isKeeping M_cursor M_nextAt M_nextMost M_rowMany M_refused M_setting M_hole M_pipeAt M_chance M_weight M_tape M_letter M_letterAt M_told M_kept M_then M_row)) sz)) 0 0 (va_A ((bX5 cI cJ cC a_M M_pipes M_used M_taped M_at M_statements M_hasImage M_isKeeping M_cursor M_nextAt M_nextMost M_rowMany M_refused M_setting M_hole M_pipeAt M_chance M_weight M_tape M_letter M_letterAt M_told M_kept M_then M_row)) sz) := by
  refine zmi (gw := fun (u : Unit) => (bX5 cI cJ cC a_M M_pipes M_used M_taped M_at M_statements M_hasImage M_isKeeping M_cursor M_nextAt M_nextMost M_rowMany M_refused M_setting M_hole M_pipeAt M_chance M_weight M_tape M_letter M_letterAt M_told M_kept M_then M_row)) (plainFor_of_name (by decide)) (Nat.le_of_ble_eq_true rfl) ?_
  intro p e s m below meth c A Q ls S hK hD hA hE hP hl hret
  obtain ⟨hx, hb, hml, hown, ht⟩ := id S
  have hS : va_S A s.heap s.heap [] := va_S.rf
  have hDD : ∀ ws : va_W, ws.map (fun q => q.1) = [a_M 0, a_M 1, a_M 2, a_M 3, a_M 4, a_M 5, a_M 6, a_M 7, a_M 8, a_M 9, a_M 10, a_M 11, a_M 12, a_M 13] → va_D A ws := fun ws hw => zD hD (hw.trans rfl)
  have hl : lv_has ls 2 [(0, .ref (a_M 0)), (1, .int p1)] := hl
  unfold wpX5_isOffset at h
  refine lv_iload_n hx hb dX5_isOffset_0 rfl (lv_at hl 1 rfl) ?_
  refine lv_if_lt (tgt := 18) hx hb dX5_isOffset_1 (by decide) (fun z => ?_) (fun z => ?_)
  · replace h := h.1 z
    refine lv_iconst (v := (0 : Int32)) hx hb dX5_isOffset_18 (by decide) ?_
    exact hret (0 : Int32) () _ _ _ _ rfl h hP hS dX5_isOffset_19
  · replace h := h.2 z
    refine lv_iload_n hx hb dX5_isOffset_4 rfl (lv_at hl 1 rfl) ?_
    refine lv_aload_n hx hb dX5_isOffset_5 rfl (lv_at hl 0 rfl) ?_
    refine va_get (D := D) (ci := 5) (v := .ref (a_M 2)) (C := RX5) (T := TX5) (N := 24) hx hb ht inX5 hown hK hP 0 rfl rfl 1 (by decide) (ht _ fl_X5_13) (fun _ h9 => h9) rfl dX5_isOffset_6 ?_
    refine lv_iconst (v := (0 : Int32)) hx hb dX5_isOffset_9 (by decide) ?_
    refine va_iald hx hb hK hP 2 0 rfl rfl (by unfold vp_in; decide) dX5_isOffset_10 ?_
    refine zti (y := M_setting 0) (by rfl) ?_
    refine lv_icmp_ge (tgt := 18) hx hb dX5_isOffset_11 (by decide) (fun z => ?_) (fun z => ?_)
    · replace h := h.1 z
      refine lv_iconst (v := (0 : Int32)) hx hb dX5_isOffset_18 (by decide) ?_
      exact hret (0 : Int32) () _ _ _ _ rfl h hP hS dX5_isOffset_19
    · replace h := h.2 z
      refine lv_iconst (v := (1 : Int32)) hx hb dX5_isOffset_14 (by decide) ?_
      refine lv_goto (tgt := 19) hx hb dX5_isOffset_15 (by decide) ?_
      exact hret (1 : Int32) () _ _ _ _ rfl h hP hS dX5_isOffset_19
def wpX5_wood (post : Int32 → (Nat → Int32) → Prop) (M_refused : Nat → Int32) (M_setting : Nat → Int32) (p1 : Int32) (p2 : Int32) : Prop := wpX5_isInch (fun (r_1 : Int32) => ((r_1 = (0 : Int32) → (wpX5_no (fun (r_2 : Int32) (M_refused_3 : Nat → Int32) => post r_2 M_refused_3) M_refused (-1 : Int32))) ∧ (¬ (r_1 = (0 : Int32)) → (wpX5_isOffset (fun (r_4 : Int32) => ((r_4 = (0 : Int32) → (wpX5_no (fun (r_6 : Int32) (M_refused_7 : Nat → Int32) => post r_6 M_refused_7) M_refused (-1 : Int32))) ∧ (¬ (r_4 = (0 : Int32)) → (wpX5_isWood (fun (r_5 : Int32) => ((r_5 = (0 : Int32) → (post (0 : Int32) M_refused)) ∧ (¬ (r_5 = (0 : Int32)) → (post (1 : Int32) M_refused)))) M_setting p1 p2)))) M_setting p2)))) p1
set_option maxHeartbeats 4000000 in
set_option maxRecDepth 100000 in
theorem mX5_wood (l : Launch) (D : va_G) (cI cJ cC : ClassId) (G : Nat → Nat → Nat) (a_M : Nat → Nat) (sz : Nat) (M_pipes : Int32) (M_used : Int32) (M_taped : Int32) (M_at : Int32) (M_statements : Int32) (M_hasImage : Int32) (M_isKeeping : Int32) (M_cursor : Int32) (M_nextAt : Int32) (M_nextMost : Int64) (M_rowMany : Int32) (M_refused : Nat → Int32) (M_setting : Nat → Int32) (M_hole : Nat → Int32) (M_pipeAt : Nat → Int32) (M_chance : Nat → Int32) (M_weight : Nat → Int32) (M_tape : Nat → Int32) (M_letter : Nat → Int32) (M_letterAt : Nat → Int32) (M_told : Nat → Int32) (M_kept : Nat → Int32) (M_then : Nat → Int64) (M_row : Nat → Int32) (p1 : Int32) (p2 : Int32) (post : Int32 → (Nat → Int32) → Prop) (h : wpX5_wood post M_refused M_setting p1 p2) : Met l yX5_wood (wz yX5_wood cX5_wood 3 (some .int)) ({ frames := 4, cells := 0, slots := 0, locals := 88 }) (va_Pc [.ref (a_M 0), .int p1, .int p2] (PW D (tz cI cJ cC) G ((bX5 cI cJ cC a_M M_pipes M_used M_taped M_at M_statements M_hasImage M_isKeeping M_cursor M_nextAt M_nextMost M_rowMany M_refused M_setting M_hole M_pipeAt M_chance M_weight M_tape M_letter M_letterAt M_told M_kept M_then M_row)) sz)) (va_Qi (fun (r : Int32) (u : (Nat → Int32)) => post r u) (fun (u : (Nat → Int32)) t => va_P D vwCl ((bX5 cI cJ cC a_M M_pipes M_used M_taped M_at M_statements M_hasImage M_isKeeping M_cursor M_nextAt M_nextMost M_rowMany u M_setting M_hole M_pipeAt M_chance M_weight M_tape M_letter M_letterAt M_told M_kept M_then M_row)) t.heap) (va_A ((bX5 cI cJ cC a_M M_pipes M_used M_taped M_at M_statements M_hasImage M_isKeeping M_cursor M_nextAt M_nextMost M_rowMany M_refused M_setting M_hole M_pipeAt M_chance M_weight M_tape M_letter M_letterAt M_told M_kept M_then M_row)) sz)) 0 0 (va_A ((bX5 cI cJ cC a_M M_pipes M_used M_taped M_at M_statements M_hasImage M_isKeeping M_cursor M_nextAt M_nextMost M_rowMany M_refused M_setting M_hole M_pipeAt M_chance M_weight M_tape M_letter M_letterAt M_told M_kept M_then M_row)) sz) := by
  refine zmi (gw := fun (u : (Nat → Int32)) => (bX5 cI cJ cC a_M M_pipes M_used M_taped M_at M_statements M_hasImage M_isKeeping M_cursor M_nextAt M_nextMost M_rowMany u M_setting M_hole M_pipeAt M_chance M_weight M_tape M_letter M_letterAt M_told M_kept M_then M_row)) (plainFor_of_name (by decide)) (Nat.le_of_ble_eq_true rfl) ?_
  intro p e s m below meth c A Q ls S hK hD hA hE hP hl hret
  obtain ⟨hx, hb, hml, hown, ht⟩ := id S
  have hS : va_S A s.heap s.heap [] := va_S.rf
  have hDD : ∀ ws : va_W, ws.map (fun q => q.1) = [a_M 0, a_M 1, a_M 2, a_M 3, a_M 4, a_M 5, a_M 6, a_M 7, a_M 8, a_M 9, a_M 10, a_M 11, a_M 12, a_M 13] → va_D A ws := fun ws hw => zD hD (hw.trans rfl)
  have hl : lv_has ls 3 [(0, .ref (a_M 0)), (1, .int p1), (2, .int p2)] := hl
  unfold wpX5_wood at h
  refine lv_iload_n hx hb dX5_wood_0 rfl (lv_at hl 1 rfl) ?_
  refine zci hA zD0 hS (zrunS (As := [.int p1]) (rest := []) S hK hA hE zP0 zD0 hS (mX5_isInch l D cI cJ cC G _ p1 _ h) kX5_isInch ml_X5_113 ⟨rfl, rfl, by decide, by decide⟩ rfl hl.1 rfl (Nat.le_of_ble_eq_true rfl) dX5_wood_1 ⟨Nat.zero_le _, Nat.zero_le _⟩) (fun r_1 u H locs h hP1 hk1 hS => ?_)
  try dsimp only at h
  have hP : va_P D vwCl ((bX5 cI cJ cC a_M M_pipes M_used M_taped M_at M_statements M_hasImage M_isKeeping M_cursor M_nextAt M_nextMost M_rowMany M_refused M_setting M_hole M_pipeAt M_chance M_weight M_tape M_letter M_letterAt M_told M_kept M_then M_row)) H := zKeep hP hk1
  refine lv_if_eq (tgt := 15) hx hb dX5_wood_4 (by decide) (fun z => ?_) (fun z => ?_)
  · replace h := h.1 z
    refine lv_aload_n hx hb dX5_wood_15 rfl (lv_at hl 0 rfl) ?_
    refine lv_iconst (v := (-1 : Int32)) hx hb dX5_wood_16 (by decide) ?_
    refine zci hA (hDD _ rfl) hS (zrunV (As := [.int (-1 : Int32)]) (rest := []) S hK hA hE hP (hDD _ rfl) hS (mX5_no l D cI cJ cC G a_M _ M_pipes M_used M_taped M_at M_statements M_hasImage M_isKeeping M_cursor M_nextAt M_nextMost M_rowMany M_refused M_setting M_hole M_pipeAt M_chance M_weight M_tape M_letter M_letterAt M_told M_kept M_then M_row (-1 : Int32) _ h) kX5_no ml_X5_66 ⟨rfl, rfl, by decide, by decide⟩ (q0 := 0) (ci := 5) rfl rfl rfl rfl hl.1 rfl (Nat.le_of_ble_eq_true rfl) dX5_wood_17 ⟨Nat.zero_le _, Nat.zero_le _⟩) (fun r_2 M_refused_3 H locs h hP1 hk1 hS => ?_)
    try dsimp only at h
    have hP : va_P D vwCl ((bX5 cI cJ cC a_M M_pipes M_used M_taped M_at M_statements M_hasImage M_isKeeping M_cursor M_nextAt M_nextMost M_rowMany M_refused_3 M_setting M_hole M_pipeAt M_chance M_weight M_tape M_letter M_letterAt M_told M_kept M_then M_row)) H := hP1
    exact hret r_2 M_refused_3 _ _ _ _ rfl h hP hS dX5_wood_20
  · replace h := h.2 z
    refine lv_aload_n hx hb dX5_wood_7 rfl (lv_at hl 0 rfl) ?_
    refine lv_iload_n hx hb dX5_wood_8 rfl (lv_at hl 2 rfl) ?_
    refine zci hA (hDD _ rfl) hS (zrunV (As := [.int p2]) (rest := []) S hK hA hE hP (hDD _ rfl) hS (mX5_isOffset l D cI cJ cC G a_M _ M_pipes M_used M_taped M_at M_statements M_hasImage M_isKeeping M_cursor M_nextAt M_nextMost M_rowMany M_refused M_setting M_hole M_pipeAt M_chance M_weight M_tape M_letter M_letterAt M_told M_kept M_then M_row p2 _ h) kX5_isOffset ml_X5_194 ⟨rfl, rfl, by decide, by decide⟩ (q0 := 0) (ci := 5) rfl rfl rfl rfl hl.1 rfl (Nat.le_of_ble_eq_true rfl) dX5_wood_9 ⟨Nat.zero_le _, Nat.zero_le _⟩) (fun r_4 u H locs h hP1 hk1 hS => ?_)
    try dsimp only at h
    have hP : va_P D vwCl ((bX5 cI cJ cC a_M M_pipes M_used M_taped M_at M_statements M_hasImage M_isKeeping M_cursor M_nextAt M_nextMost M_rowMany M_refused M_setting M_hole M_pipeAt M_chance M_weight M_tape M_letter M_letterAt M_told M_kept M_then M_row)) H := hP1
    refine lv_if_ne (tgt := 21) hx hb dX5_wood_12 (by decide) (fun z => ?_) (fun z => ?_)
    · replace h := h.2 z
      refine lv_aload_n hx hb dX5_wood_21 rfl (lv_at hl 0 rfl) ?_
      refine lv_iload_n hx hb dX5_wood_22 rfl (lv_at hl 1 rfl) ?_
      refine lv_iload_n hx hb dX5_wood_23 rfl (lv_at hl 2 rfl) ?_
      refine zci hA (hDD _ rfl) hS (zrunV (As := [.int p1, .int p2]) (rest := []) S hK hA hE hP (hDD _ rfl) hS (mX5_isWood l D cI cJ cC G a_M _ M_pipes M_used M_taped M_at M_statements M_hasImage M_isKeeping M_cursor M_nextAt M_nextMost M_rowMany M_refused M_setting M_hole M_pipeAt M_chance M_weight M_tape M_letter M_letterAt M_told M_kept M_then M_row p1 p2 _ h) kX5_isWood ml_X5_171 ⟨rfl, rfl, by decide, by decide⟩ (q0 := 0) (ci := 5) rfl rfl rfl rfl hl.1 rfl (Nat.le_of_ble_eq_true rfl) dX5_wood_24 ⟨Nat.zero_le _, Nat.zero_le _⟩) (fun r_5 u H locs h hP1 hk1 hS => ?_)
      try dsimp only at h
      have hP : va_P D vwCl ((bX5 cI cJ cC a_M M_pipes M_used M_taped M_at M_statements M_hasImage M_isKeeping M_cursor M_nextAt M_nextMost M_rowMany M_refused M_setting M_hole M_pipeAt M_chance M_weight M_tape M_letter M_letterAt M_told M_kept M_then M_row)) H := hP1
      refine lv_if_eq (tgt := 34) hx hb dX5_wood_27 (by decide) (fun z => ?_) (fun z => ?_)
      · replace h := h.1 z
        refine lv_iconst (v := (0 : Int32)) hx hb dX5_wood_34 (by decide) ?_
        exact hret (0 : Int32) M_refused _ _ _ _ rfl h hP hS dX5_wood_35
      · replace h := h.2 z
        refine lv_iconst (v := (1 : Int32)) hx hb dX5_wood_30 (by decide) ?_
        refine lv_goto (tgt := 35) hx hb dX5_wood_31 (by decide) ?_
        exact hret (1 : Int32) M_refused _ _ _ _ rfl h hP hS dX5_wood_35
    · replace h := h.1 z
      refine lv_aload_n hx hb dX5_wood_15 rfl (lv_at hl 0 rfl) ?_
      refine lv_iconst (v := (-1 : Int32)) hx hb dX5_wood_16 (by decide) ?_
      refine zci hA (hDD _ rfl) hS (zrunV (As := [.int (-1 : Int32)]) (rest := []) S hK hA hE hP (hDD _ rfl) hS (mX5_no l D cI cJ cC G a_M _ M_pipes M_used M_taped M_at M_statements M_hasImage M_isKeeping M_cursor M_nextAt M_nextMost M_rowMany M_refused M_setting M_hole M_pipeAt M_chance M_weight M_tape M_letter M_letterAt M_told M_kept M_then M_row (-1 : Int32) _ h) kX5_no ml_X5_66 ⟨rfl, rfl, by decide, by decide⟩ (q0 := 0) (ci := 5) rfl rfl rfl rfl hl.1 rfl (Nat.le_of_ble_eq_true rfl) dX5_wood_17 ⟨Nat.zero_le _, Nat.zero_le _⟩) (fun r_6 M_refused_7 H locs h hP1 hk1 hS => ?_)
      try dsimp only at h
      have hP : va_P D vwCl ((bX5 cI cJ cC a_M M_pipes M_used M_taped M_at M_statements M_hasImage M_isKeeping M_cursor M_nextAt M_nextMost M_rowMany M_refused_7 M_setting M_hole M_pipeAt M_chance M_weight M_tape M_letter M_letterAt M_told M_kept M_then M_row)) H := hP1
      exact hret r_6 M_refused_7 _ _ _ _ rfl h hP hS dX5_wood_20
def wpX5_weight (post : Int64 → (Nat → Int32) → Prop) (M_refused : Nat → Int32) (M_setting : Nat → Int32) (M_weight : Nat → Int32) (p1 : Int32) : Prop := wpX5_isOffset (fun (r_1 : Int32) => ((r_1 = (0 : Int32) → (wpX5_lowest (fun (r_2 : Int64) (M_refused_3 : Nat → Int32) => post r_2 M_refused_3) M_refused (-1 : Int32))) ∧ (¬ (r_1 = (0 : Int32)) → (vp_in p1 24 ∧ (post ((M_weight p1.toNatClampNeg).toInt64) M_refused))))) M_setting p1
set_option maxHeartbeats 4000000 in
set_option maxRecDepth 100000 in
theorem mX5_weight (l : Launch) (D : va_G) (cI cJ cC : ClassId) (G : Nat → Nat → Nat) (a_M : Nat → Nat) (sz : Nat) (M_pipes : Int32) (M_used : Int32) (M_taped : Int32) (M_at : Int32) (M_statements : Int32) (M_hasImage : Int32) (M_isKeeping : Int32) (M_cursor : Int32) (M_nextAt : Int32) (M_nextMost : Int64) (M_rowMany : Int32) (M_refused : Nat → Int32) (M_setting : Nat → Int32) (M_hole : Nat → Int32) (M_pipeAt : Nat → Int32) (M_chance : Nat → Int32) (M_weight : Nat → Int32) (M_tape : Nat → Int32) (M_letter : Nat → Int32) (M_letterAt : Nat → Int32) (M_told : Nat → Int32) (M_kept : Nat → Int32) (M_then : Nat → Int64) (M_row : Nat → Int32) (p1 : Int32) (post : Int64 → (Nat → Int32) → Prop) (h : wpX5_weight post M_refused M_setting M_weight p1) : Met l yX5_weight (wz yX5_weight cX5_weight 2 (some .long)) ({ frames := 1, cells := 0, slots := 0, locals := 21 }) (va_Pc [.ref (a_M 0), .int p1] (PW D (tz cI cJ cC) G ((bX5 cI cJ cC a_M M_pipes M_used M_taped M_at M_statements M_hasImage M_isKeeping M_cursor M_nextAt M_nextMost M_rowMany M_refused M_setting M_hole M_pipeAt M_chance M_weight M_tape M_letter M_letterAt M_told M_kept M_then M_row)) sz)) (va_Ql (fun (r : Int64) (u : (Nat → Int32)) => post r u) (fun (u : (Nat → Int32)) t => va_P D vwCl ((bX5 cI cJ cC a_M M_pipes M_used M_taped M_at M_statements M_hasImage M_isKeeping M_cursor M_nextAt M_nextMost M_rowMany u M_setting M_hole M_pipeAt M_chance M_weight M_tape M_letter M_letterAt M_told M_kept M_then M_row)) t.heap) (va_A ((bX5 cI cJ cC a_M M_pipes M_used M_taped M_at M_statements M_hasImage M_isKeeping M_cursor M_nextAt M_nextMost M_rowMany M_refused M_setting M_hole M_pipeAt M_chance M_weight M_tape M_letter M_letterAt M_told M_kept M_then M_row)) sz)) 0 0 (va_A ((bX5 cI cJ cC a_M M_pipes M_used M_taped M_at M_statements M_hasImage M_isKeeping M_cursor M_nextAt M_nextMost M_rowMany M_refused M_setting M_hole M_pipeAt M_chance M_weight M_tape M_letter M_letterAt M_told M_kept M_then M_row)) sz) := by
  refine zml (gw := fun (u : (Nat → Int32)) => (bX5 cI cJ cC a_M M_pipes M_used M_taped M_at M_statements M_hasImage M_isKeeping M_cursor M_nextAt M_nextMost M_rowMany u M_setting M_hole M_pipeAt M_chance M_weight M_tape M_letter M_letterAt M_told M_kept M_then M_row)) (plainFor_of_name (by decide)) (Nat.le_of_ble_eq_true rfl) ?_
  intro p e s m below meth c A Q ls S hK hD hA hE hP hl hret
  obtain ⟨hx, hb, hml, hown, ht⟩ := id S
  have hS : va_S A s.heap s.heap [] := va_S.rf
  have hDD : ∀ ws : va_W, ws.map (fun q => q.1) = [a_M 0, a_M 1, a_M 2, a_M 3, a_M 4, a_M 5, a_M 6, a_M 7, a_M 8, a_M 9, a_M 10, a_M 11, a_M 12, a_M 13] → va_D A ws := fun ws hw => zD hD (hw.trans rfl)
  have hl : lv_has ls 2 [(0, .ref (a_M 0)), (1, .int p1)] := hl
  unfold wpX5_weight at h
  refine lv_aload_n hx hb dX5_weight_0 rfl (lv_at hl 0 rfl) ?_
  refine lv_iload_n hx hb dX5_weight_1 rfl (lv_at hl 1 rfl) ?_
  refine zci hA (hDD _ rfl) hS (zrunV (As := [.int p1]) (rest := []) S hK hA hE hP (hDD _ rfl) hS (mX5_isOffset l D cI cJ cC G a_M _ M_pipes M_used M_taped M_at M_statements M_hasImage M_isKeeping M_cursor M_nextAt M_nextMost M_rowMany M_refused M_setting M_hole M_pipeAt M_chance M_weight M_tape M_letter M_letterAt M_told M_kept M_then M_row p1 _ h) kX5_isOffset ml_X5_194 ⟨rfl, rfl, by decide, by decide⟩ (q0 := 0) (ci := 5) rfl rfl rfl rfl hl.1 rfl (Nat.le_of_ble_eq_true rfl) dX5_weight_2 ⟨Nat.zero_le _, Nat.zero_le _⟩) (fun r_1 u H locs h hP1 hk1 hS => ?_)
  try dsimp only at h
  have hP : va_P D vwCl ((bX5 cI cJ cC a_M M_pipes M_used M_taped M_at M_statements M_hasImage M_isKeeping M_cursor M_nextAt M_nextMost M_rowMany M_refused M_setting M_hole M_pipeAt M_chance M_weight M_tape M_letter M_letterAt M_told M_kept M_then M_row)) H := hP1
  refine lv_if_eq (tgt := 18) hx hb dX5_weight_5 (by decide) (fun z => ?_) (fun z => ?_)
  · replace h := h.1 z
    refine lv_aload_n hx hb dX5_weight_18 rfl (lv_at hl 0 rfl) ?_
    refine lv_iconst (v := (-1 : Int32)) hx hb dX5_weight_19 (by decide) ?_
    refine zcl hA (hDD _ rfl) hS (zrunV (As := [.int (-1 : Int32)]) (rest := []) S hK hA hE hP (hDD _ rfl) hS (mX5_lowest l D cI cJ cC G a_M _ M_pipes M_used M_taped M_at M_statements M_hasImage M_isKeeping M_cursor M_nextAt M_nextMost M_rowMany M_refused M_setting M_hole M_pipeAt M_chance M_weight M_tape M_letter M_letterAt M_told M_kept M_then M_row (-1 : Int32) _ h) kX5_lowest ml_X5_197 ⟨rfl, rfl, by decide, by decide⟩ (q0 := 0) (ci := 5) rfl rfl rfl rfl hl.1 rfl (Nat.le_of_ble_eq_true rfl) dX5_weight_20 ⟨Nat.zero_le _, Nat.zero_le _⟩) (fun r_2 M_refused_3 H locs h hP1 hk1 hS => ?_)
    try dsimp only at h
    have hP : va_P D vwCl ((bX5 cI cJ cC a_M M_pipes M_used M_taped M_at M_statements M_hasImage M_isKeeping M_cursor M_nextAt M_nextMost M_rowMany M_refused_3 M_setting M_hole M_pipeAt M_chance M_weight M_tape M_letter M_letterAt M_told M_kept M_then M_row)) H := hP1
    exact hret r_2 M_refused_3 _ _ _ _ h hP hS dX5_weight_23
  · replace h := h.2 z
    refine lv_aload_n hx hb dX5_weight_8 rfl (lv_at hl 0 rfl) ?_
    refine va_get (D := D) (ci := 5) (v := .ref (a_M 6)) (C := RX5) (T := TX5) (N := 24) hx hb ht inX5 hown hK hP 0 rfl rfl 5 (by decide) (ht _ fl_X5_25) (fun _ h9 => h9) rfl dX5_weight_9 ?_
    refine lv_iload_n hx hb dX5_weight_12 rfl (lv_at hl 1 rfl) ?_
    obtain ⟨hin, h⟩ := h
    refine va_iald hx hb hK hP 6 0 rfl rfl hin dX5_weight_13 ?_
    refine lv_i2l hx hb dX5_weight_14 rfl ?_
    refine lv_goto (tgt := 23) hx hb dX5_weight_15 (by decide) ?_
    exact hret ((M_weight p1.toNatClampNeg).toInt64) M_refused _ _ _ _ h hP hS dX5_weight_23
def wpX5_tool (post : Int32 → (Nat → Int32) → Prop) (M_refused : Nat → Int32) (p1 : Int32) (p2 : Int32) : Prop := wpX5_isIn (fun (r_1 : Int32) => ((r_1 = (0 : Int32) → (wpX5_no (fun (r_2 : Int32) (M_refused_3 : Nat → Int32) => post r_2 M_refused_3) M_refused (-2 : Int32))) ∧ (¬ (r_1 = (0 : Int32)) → (wpX5_isIn (fun (r_4 : Int32) => ((r_4 = (0 : Int32) → (wpX5_no (fun (r_8 : Int32) (M_refused_9 : Nat → Int32) => post r_8 M_refused_9) M_refused (-2 : Int32))) ∧ (¬ (r_4 = (0 : Int32)) → (((p2 = (0 : Int32) → (wpX5_inWood (fun (r_7 : Int32) => post r_7 M_refused) p1)) ∧ (¬ (p2 = (0 : Int32)) → (((p2 = (1 : Int32) → (wpX5_inNone (fun (r_6 : Int32) => post r_6 M_refused) p1)) ∧ (¬ (p2 = (1 : Int32)) → (wpX5_costOf (fun (r_5 : Int32) => post r_5 M_refused) p1)))))))))) p2 (0 : Int32) (2 : Int32))))) p1 (0 : Int32) (4 : Int32)
set_option maxHeartbeats 4000000 in
set_option maxRecDepth 100000 in
theorem mX5_tool (l : Launch) (D : va_G) (cI cJ cC : ClassId) (G : Nat → Nat → Nat) (a_M : Nat → Nat) (sz : Nat) (M_pipes : Int32) (M_used : Int32) (M_taped : Int32) (M_at : Int32) (M_statements : Int32) (M_hasImage : Int32) (M_isKeeping : Int32) (M_cursor : Int32) (M_nextAt : Int32) (M_nextMost : Int64) (M_rowMany : Int32) (M_refused : Nat → Int32) (M_setting : Nat → Int32) (M_hole : Nat → Int32) (M_pipeAt : Nat → Int32) (M_chance : Nat → Int32) (M_weight : Nat → Int32) (M_tape : Nat → Int32) (M_letter : Nat → Int32) (M_letterAt : Nat → Int32) (M_told : Nat → Int32) (M_kept : Nat → Int32) (M_then : Nat → Int64) (M_row : Nat → Int32) (p1 : Int32) (p2 : Int32) (post : Int32 → (Nat → Int32) → Prop) (h : wpX5_tool post M_refused p1 p2) : Met l yX5_tool (wz yX5_tool cX5_tool 3 (some .int)) ({ frames := 1, cells := 0, slots := 0, locals := 22 }) (va_Pc [.ref (a_M 0), .int p1, .int p2] (PW D (tz cI cJ cC) G ((bX5 cI cJ cC a_M M_pipes M_used M_taped M_at M_statements M_hasImage M_isKeeping M_cursor M_nextAt M_nextMost M_rowMany M_refused M_setting M_hole M_pipeAt M_chance M_weight M_tape M_letter M_letterAt M_told M_kept M_then M_row)) sz)) (va_Qi (fun (r : Int32) (u : (Nat → Int32)) => post r u) (fun (u : (Nat → Int32)) t => va_P D vwCl ((bX5 cI cJ cC a_M M_pipes M_used M_taped M_at M_statements M_hasImage M_isKeeping M_cursor M_nextAt M_nextMost M_rowMany u M_setting M_hole M_pipeAt M_chance M_weight M_tape M_letter M_letterAt M_told M_kept M_then M_row)) t.heap) (va_A ((bX5 cI cJ cC a_M M_pipes M_used M_taped M_at M_statements M_hasImage M_isKeeping M_cursor M_nextAt M_nextMost M_rowMany M_refused M_setting M_hole M_pipeAt M_chance M_weight M_tape M_letter M_letterAt M_told M_kept M_then M_row)) sz)) 0 0 (va_A ((bX5 cI cJ cC a_M M_pipes M_used M_taped M_at M_statements M_hasImage M_isKeeping M_cursor M_nextAt M_nextMost M_rowMany M_refused M_setting M_hole M_pipeAt M_chance M_weight M_tape M_letter M_letterAt M_told M_kept M_then M_row)) sz) := by
  refine zmi (gw := fun (u : (Nat → Int32)) => (bX5 cI cJ cC a_M M_pipes M_used M_taped M_at M_statements M_hasImage M_isKeeping M_cursor M_nextAt M_nextMost M_rowMany u M_setting M_hole M_pipeAt M_chance M_weight M_tape M_letter M_letterAt M_told M_kept M_then M_row)) (plainFor_of_name (by decide)) (Nat.le_of_ble_eq_true rfl) ?_
  intro p e s m below meth c A Q ls S hK hD hA hE hP hl hret
  obtain ⟨hx, hb, hml, hown, ht⟩ := id S
  have hS : va_S A s.heap s.heap [] := va_S.rf
  have hDD : ∀ ws : va_W, ws.map (fun q => q.1) = [a_M 0, a_M 1, a_M 2, a_M 3, a_M 4, a_M 5, a_M 6, a_M 7, a_M 8, a_M 9, a_M 10, a_M 11, a_M 12, a_M 13] → va_D A ws := fun ws hw => zD hD (hw.trans rfl)
  have hl : lv_has ls 3 [(0, .ref (a_M 0)), (1, .int p1), (2, .int p2)] := hl
  unfold wpX5_tool at h
  refine lv_iload_n hx hb dX5_tool_0 rfl (lv_at hl 1 rfl) ?_
  refine lv_iconst (v := (0 : Int32)) hx hb dX5_tool_1 (by decide) ?_
  refine lv_iconst (v := (4 : Int32)) hx hb dX5_tool_2 (by decide) ?_
  refine zci hA zD0 hS (zrunS (As := [.int p1, .int (0 : Int32), .int (4 : Int32)]) (rest := []) S hK hA hE zP0 zD0 hS (mX5_isIn l D cI cJ cC G _ p1 (0 : Int32) (4 : Int32) _ h) kX5_isIn ml_X5_77 ⟨rfl, rfl, by decide, by decide⟩ rfl hl.1 rfl (Nat.le_of_ble_eq_true rfl) dX5_tool_3 ⟨Nat.zero_le _, Nat.zero_le _⟩) (fun r_1 u H locs h hP1 hk1 hS => ?_)
  try dsimp only at h
  have hP : va_P D vwCl ((bX5 cI cJ cC a_M M_pipes M_used M_taped M_at M_statements M_hasImage M_isKeeping M_cursor M_nextAt M_nextMost M_rowMany M_refused M_setting M_hole M_pipeAt M_chance M_weight M_tape M_letter M_letterAt M_told M_kept M_then M_row)) H := zKeep hP hk1
  refine lv_if_eq (tgt := 18) hx hb dX5_tool_6 (by decide) (fun z => ?_) (fun z => ?_)
  · replace h := h.1 z
    refine lv_aload_n hx hb dX5_tool_18 rfl (lv_at hl 0 rfl) ?_
    refine lv_bipush (v := (-2 : Int32)) hx hb dX5_tool_19 (by decide) ?_
    refine zci hA (hDD _ rfl) hS (zrunV (As := [.int (-2 : Int32)]) (rest := []) S hK hA hE hP (hDD _ rfl) hS (mX5_no l D cI cJ cC G a_M _ M_pipes M_used M_taped M_at M_statements M_hasImage M_isKeeping M_cursor M_nextAt M_nextMost M_rowMany M_refused M_setting M_hole M_pipeAt M_chance M_weight M_tape M_letter M_letterAt M_told M_kept M_then M_row (-2 : Int32) _ h) kX5_no ml_X5_66 ⟨rfl, rfl, by decide, by decide⟩ (q0 := 0) (ci := 5) rfl rfl rfl rfl hl.1 rfl (Nat.le_of_ble_eq_true rfl) dX5_tool_21 ⟨Nat.zero_le _, Nat.zero_le _⟩) (fun r_2 M_refused_3 H locs h hP1 hk1 hS => ?_)
    try dsimp only at h
    have hP : va_P D vwCl ((bX5 cI cJ cC a_M M_pipes M_used M_taped M_at M_statements M_hasImage M_isKeeping M_cursor M_nextAt M_nextMost M_rowMany M_refused_3 M_setting M_hole M_pipeAt M_chance M_weight M_tape M_letter M_letterAt M_told M_kept M_then M_row)) H := hP1
    exact hret r_2 M_refused_3 _ _ _ _ rfl h hP hS dX5_tool_24
  · replace h := h.2 z
    refine lv_iload_n hx hb dX5_tool_9 rfl (lv_at hl 2 rfl) ?_
    refine lv_iconst (v := (0 : Int32)) hx hb dX5_tool_10 (by decide) ?_
    refine lv_iconst (v := (2 : Int32)) hx hb dX5_tool_11 (by decide) ?_
    refine zci hA zD0 hS (zrunS (As := [.int p2, .int (0 : Int32), .int (2 : Int32)]) (rest := []) S hK hA hE zP0 zD0 hS (mX5_isIn l D cI cJ cC G _ p2 (0 : Int32) (2 : Int32) _ h) kX5_isIn ml_X5_77 ⟨rfl, rfl, by decide, by decide⟩ rfl hl.1 rfl (Nat.le_of_ble_eq_true rfl) dX5_tool_12 ⟨Nat.zero_le _, Nat.zero_le _⟩) (fun r_4 u H locs h hP1 hk1 hS => ?_)
    try dsimp only at h
    have hP : va_P D vwCl ((bX5 cI cJ cC a_M M_pipes M_used M_taped M_at M_statements M_hasImage M_isKeeping M_cursor M_nextAt M_nextMost M_rowMany M_refused M_setting M_hole M_pipeAt M_chance M_weight M_tape M_letter M_letterAt M_told M_kept M_then M_row)) H := zKeep hP hk1
    refine lv_if_ne (tgt := 25) hx hb dX5_tool_15 (by decide) (fun z => ?_) (fun z => ?_)
    · replace h := h.2 z
      refine lv_iload_n hx hb dX5_tool_25 rfl (lv_at hl 2 rfl) ?_
      refine lv_if_ne (tgt := 36) hx hb dX5_tool_26 (by decide) (fun z => ?_) (fun z => ?_)
      · replace h := h.2 z
        refine lv_iload_n hx hb dX5_tool_36 rfl (lv_at hl 2 rfl) ?_
        refine lv_iconst (v := (1 : Int32)) hx hb dX5_tool_37 (by decide) ?_
        refine lv_icmp_ne (tgt := 48) hx hb dX5_tool_38 (by decide) (fun z => ?_) (fun z => ?_)
        · replace h := h.2 z
          refine lv_iload_n hx hb dX5_tool_48 rfl (lv_at hl 1 rfl) ?_
          refine zci hA zD0 hS (zrunS (As := [.int p1]) (rest := []) S hK hA hE zP0 zD0 hS (mX5_costOf l D cI cJ cC G _ p1 _ h) kX5_costOf ml_X5_201 ⟨rfl, rfl, by decide, by decide⟩ rfl hl.1 rfl (Nat.le_of_ble_eq_true rfl) dX5_tool_49 ⟨Nat.zero_le _, Nat.zero_le _⟩) (fun r_5 u H locs h hP1 hk1 hS => ?_)
          try dsimp only at h
          have hP : va_P D vwCl ((bX5 cI cJ cC a_M M_pipes M_used M_taped M_at M_statements M_hasImage M_isKeeping M_cursor M_nextAt M_nextMost M_rowMany M_refused M_setting M_hole M_pipeAt M_chance M_weight M_tape M_letter M_letterAt M_told M_kept M_then M_row)) H := zKeep hP hk1
          exact hret r_5 M_refused _ _ _ _ rfl h hP hS dX5_tool_52
        · replace h := h.1 z
          refine lv_iload_n hx hb dX5_tool_41 rfl (lv_at hl 1 rfl) ?_
          refine zci hA zD0 hS (zrunS (As := [.int p1]) (rest := []) S hK hA hE zP0 zD0 hS (mX5_inNone l D cI cJ cC G _ p1 _ h) kX5_inNone ml_X5_177 ⟨rfl, rfl, by decide, by decide⟩ rfl hl.1 rfl (Nat.le_of_ble_eq_true rfl) dX5_tool_42 ⟨Nat.zero_le _, Nat.zero_le _⟩) (fun r_6 u H locs h hP1 hk1 hS => ?_)
          try dsimp only at h
          have hP : va_P D vwCl ((bX5 cI cJ cC a_M M_pipes M_used M_taped M_at M_statements M_hasImage M_isKeeping M_cursor M_nextAt M_nextMost M_rowMany M_refused M_setting M_hole M_pipeAt M_chance M_weight M_tape M_letter M_letterAt M_told M_kept M_then M_row)) H := zKeep hP hk1
          refine lv_goto (tgt := 52) hx hb dX5_tool_45 (by decide) ?_
          exact hret r_6 M_refused _ _ _ _ rfl h hP hS dX5_tool_52
      · replace h := h.1 z
        refine lv_iload_n hx hb dX5_tool_29 rfl (lv_at hl 1 rfl) ?_
        refine zci hA zD0 hS (zrunS (As := [.int p1]) (rest := []) S hK hA hE zP0 zD0 hS (mX5_inWood l D cI cJ cC G _ p1 _ h) kX5_inWood ml_X5_174 ⟨rfl, rfl, by decide, by decide⟩ rfl hl.1 rfl (Nat.le_of_ble_eq_true rfl) dX5_tool_30 ⟨Nat.zero_le _, Nat.zero_le _⟩) (fun r_7 u H locs h hP1 hk1 hS => ?_)
        try dsimp only at h
        have hP : va_P D vwCl ((bX5 cI cJ cC a_M M_pipes M_used M_taped M_at M_statements M_hasImage M_isKeeping M_cursor M_nextAt M_nextMost M_rowMany M_refused M_setting M_hole M_pipeAt M_chance M_weight M_tape M_letter M_letterAt M_told M_kept M_then M_row)) H := zKeep hP hk1
        refine lv_goto (tgt := 52) hx hb dX5_tool_33 (by decide) ?_
        exact hret r_7 M_refused _ _ _ _ rfl h hP hS dX5_tool_52
    · replace h := h.1 z
      refine lv_aload_n hx hb dX5_tool_18 rfl (lv_at hl 0 rfl) ?_
      refine lv_bipush (v := (-2 : Int32)) hx hb dX5_tool_19 (by decide) ?_
      refine zci hA (hDD _ rfl) hS (zrunV (As := [.int (-2 : Int32)]) (rest := []) S hK hA hE hP (hDD _ rfl) hS (mX5_no l D cI cJ cC G a_M _ M_pipes M_used M_taped M_at M_statements M_hasImage M_isKeeping M_cursor M_nextAt M_nextMost M_rowMany M_refused M_setting M_hole M_pipeAt M_chance M_weight M_tape M_letter M_letterAt M_told M_kept M_then M_row (-2 : Int32) _ h) kX5_no ml_X5_66 ⟨rfl, rfl, by decide, by decide⟩ (q0 := 0) (ci := 5) rfl rfl rfl rfl hl.1 rfl (Nat.le_of_ble_eq_true rfl) dX5_tool_21 ⟨Nat.zero_le _, Nat.zero_le _⟩) (fun r_8 M_refused_9 H locs h hP1 hk1 hS => ?_)
      try dsimp only at h
      have hP : va_P D vwCl ((bX5 cI cJ cC a_M M_pipes M_used M_taped M_at M_statements M_hasImage M_isKeeping M_cursor M_nextAt M_nextMost M_rowMany M_refused_9 M_setting M_hole M_pipeAt M_chance M_weight M_tape M_letter M_letterAt M_told M_kept M_then M_row)) H := hP1
      exact hret r_8 M_refused_9 _ _ _ _ rfl h hP hS dX5_tool_24
def wpX5_telling (post : Int32 → Int32 → (Nat → Int32) → (Nat → Int32) → (Nat → Int32) → Prop) (M_used : Int32) (M_refused : Nat → Int32) (M_setting : Nat → Int32) (M_hole : Nat → Int32) (M_weight : Nat → Int32) (p1 : Int32) (p2 : Int32) (p3 : Int32) : Prop := wpX5_isIn (fun (r_1 : Int32) => ((r_1 = (0 : Int32) → (wpX5_no (fun (r_13 : Int32) (M_refused_14 : Nat → Int32) => post r_13 M_used M_refused_14 M_hole M_weight) M_refused (-2 : Int32))) ∧ (¬ (r_1 = (0 : Int32)) → (wpX5_isInch (fun (r_2 : Int32) => ((r_2 = (0 : Int32) → (wpX5_no (fun (r_11 : Int32) (M_refused_12 : Nat → Int32) => post r_11 M_used M_refused_12 M_hole M_weight) M_refused (-1 : Int32))) ∧ (¬ (r_2 = (0 : Int32)) → (wpX5_isIn (fun (r_3 : Int32) => ((r_3 = (0 : Int32) → (wpX5_no (fun (r_9 : Int32) (M_refused_10 : Nat → Int32) => post r_9 M_used M_refused_10 M_hole M_weight) M_refused (-2 : Int32))) ∧ (¬ (r_3 = (0 : Int32)) → (((M_used = (6 : Int32) → (wpX5_no (fun (r_7 : Int32) (M_refused_8 : Nat → Int32) => post r_7 M_used M_refused_8 M_hole M_weight) M_refused (-6 : Int32))) ∧ (¬ (M_used = (6 : Int32)) → (wpX5_tells (fun (M_used_4 : Int32) (M_hole_5 : Nat → Int32) (M_weight_6 : Nat → Int32) => post M_used_4 M_used_4 M_refused M_hole_5 M_weight_6) M_used M_setting M_hole M_weight p1 p2 p3))))))) p3 (0 : Int32) (1 : Int32))))) p2)))) p1 (0 : Int32) (4 : Int32)
set_option maxHeartbeats 4000000 in
set_option maxRecDepth 100000 in
theorem mX5_telling (l : Launch) (D : va_G) (cI cJ cC : ClassId) (G : Nat → Nat → Nat) (a_M : Nat → Nat) (sz : Nat) (M_pipes : Int32) (M_used : Int32) (M_taped : Int32) (M_at : Int32) (M_statements : Int32) (M_hasImage : Int32) (M_isKeeping : Int32) (M_cursor : Int32) (M_nextAt : Int32) (M_nextMost : Int64) (M_rowMany : Int32) (M_refused : Nat → Int32) (M_setting : Nat → Int32) (M_hole : Nat → Int32) (M_pipeAt : Nat → Int32) (M_chance : Nat → Int32) (M_weight : Nat → Int32) (M_tape : Nat → Int32) (M_letter : Nat → Int32) (M_letterAt : Nat → Int32) (M_told : Nat → Int32) (M_kept : Nat → Int32) (M_then : Nat → Int64) (M_row : Nat → Int32) (p1 : Int32) (p2 : Int32) (p3 : Int32) (post : Int32 → Int32 → (Nat → Int32) → (Nat → Int32) → (Nat → Int32) → Prop) (h : wpX5_telling post M_used M_refused M_setting M_hole M_weight p1 p2 p3) : Met l yX5_telling (wz yX5_telling cX5_telling 5 (some .int)) ({ frames := 6, cells := 0, slots := 0, locals := 138 }) (va_Pc [.ref (a_M 0), .int p1, .int p2, .int p3] (PW D (tz cI cJ cC) G ((bX5 cI cJ cC a_M M_pipes M_used M_taped M_at M_statements M_hasImage M_isKeeping M_cursor M_nextAt M_nextMost M_rowMany M_refused M_setting M_hole M_pipeAt M_chance M_weight M_tape M_letter M_letterAt M_told M_kept M_then M_row)) sz)) (va_Qi (fun (r : Int32) (u : Int32 × (Nat → Int32) × (Nat → Int32) × (Nat → Int32)) => post r u.1 u.2.1 u.2.2.1 u.2.2.2) (fun (u : Int32 × (Nat → Int32) × (Nat → Int32) × (Nat → Int32)) t => va_P D vwCl ((bX5 cI cJ cC a_M M_pipes u.1 M_taped M_at M_statements M_hasImage M_isKeeping M_cursor M_nextAt M_nextMost M_rowMany u.2.1 M_setting u.2.2.1 M_pipeAt M_chance u.2.2.2 M_tape M_letter M_letterAt M_told M_kept M_then M_row)) t.heap) (va_A ((bX5 cI cJ cC a_M M_pipes M_used M_taped M_at M_statements M_hasImage M_isKeeping M_cursor M_nextAt M_nextMost M_rowMany M_refused M_setting M_hole M_pipeAt M_chance M_weight M_tape M_letter M_letterAt M_told M_kept M_then M_row)) sz)) 0 0 (va_A ((bX5 cI cJ cC a_M M_pipes M_used M_taped M_at M_statements M_hasImage M_isKeeping M_cursor M_nextAt M_nextMost M_rowMany M_refused M_setting M_hole M_pipeAt M_chance M_weight M_tape M_letter M_letterAt M_told M_kept M_then M_row)) sz) := by
  refine zmi (gw := fun (u : Int32 × (Nat → Int32) × (Nat → Int32) × (Nat → Int32)) => (bX5 cI cJ cC a_M M_pipes u.1 M_taped M_at M_statements M_hasImage M_isKeeping M_cursor M_nextAt M_nextMost M_rowMany u.2.1 M_setting u.2.2.1 M_pipeAt M_chance u.2.2.2 M_tape M_letter M_letterAt M_told M_kept M_then M_row)) (plainFor_of_name (by decide)) (Nat.le_of_ble_eq_true rfl) ?_
  intro p e s m below meth c A Q ls S hK hD hA hE hP hl hret
  obtain ⟨hx, hb, hml, hown, ht⟩ := id S
  have hS : va_S A s.heap s.heap [] := va_S.rf
  have hDD : ∀ ws : va_W, ws.map (fun q => q.1) = [a_M 0, a_M 1, a_M 2, a_M 3, a_M 4, a_M 5, a_M 6, a_M 7, a_M 8, a_M 9, a_M 10, a_M 11, a_M 12, a_M 13] → va_D A ws := fun ws hw => zD hD (hw.trans rfl)
  have hl : lv_has ls 5 [(0, .ref (a_M 0)), (1, .int p1), (2, .int p2), (3, .int p3)] := hl
  unfold wpX5_telling at h
  refine lv_iload_n hx hb dX5_telling_0 rfl (lv_at hl 1 rfl) ?_
  refine lv_iconst (v := (0 : Int32)) hx hb dX5_telling_1 (by decide) ?_
  refine lv_iconst (v := (4 : Int32)) hx hb dX5_telling_2 (by decide) ?_
  refine zci hA zD0 hS (zrunS (As := [.int p1, .int (0 : Int32), .int (4 : Int32)]) (rest := []) S hK hA hE zP0 zD0 hS (mX5_isIn l D cI cJ cC G _ p1 (0 : Int32) (4 : Int32) _ h) kX5_isIn ml_X5_77 ⟨rfl, rfl, by decide, by decide⟩ rfl hl.1 rfl (Nat.le_of_ble_eq_true rfl) dX5_telling_3 ⟨Nat.zero_le _, Nat.zero_le _⟩) (fun r_1 u H locs h hP1 hk1 hS => ?_)
  try dsimp only at h
  have hP : va_P D vwCl ((bX5 cI cJ cC a_M M_pipes M_used M_taped M_at M_statements M_hasImage M_isKeeping M_cursor M_nextAt M_nextMost M_rowMany M_refused M_setting M_hole M_pipeAt M_chance M_weight M_tape M_letter M_letterAt M_told M_kept M_then M_row)) H := zKeep hP hk1
  refine lv_if_ne (tgt := 14) hx hb dX5_telling_6 (by decide) (fun z => ?_) (fun z => ?_)
  · replace h := h.2 z
    refine lv_iload_n hx hb dX5_telling_14 rfl (lv_at hl 2 rfl) ?_
    refine zci hA zD0 hS (zrunS (As := [.int p2]) (rest := []) S hK hA hE zP0 zD0 hS (mX5_isInch l D cI cJ cC G _ p2 _ h) kX5_isInch ml_X5_113 ⟨rfl, rfl, by decide, by decide⟩ rfl hl.1 rfl (Nat.le_of_ble_eq_true rfl) dX5_telling_15 ⟨Nat.zero_le _, Nat.zero_le _⟩) (fun r_2 u H locs h hP1 hk1 hS => ?_)
    try dsimp only at h
    have hP : va_P D vwCl ((bX5 cI cJ cC a_M M_pipes M_used M_taped M_at M_statements M_hasImage M_isKeeping M_cursor M_nextAt M_nextMost M_rowMany M_refused M_setting M_hole M_pipeAt M_chance M_weight M_tape M_letter M_letterAt M_told M_kept M_then M_row)) H := zKeep hP hk1
    refine lv_if_ne (tgt := 25) hx hb dX5_telling_18 (by decide) (fun z => ?_) (fun z => ?_)
    · replace h := h.2 z
      refine lv_iload_n hx hb dX5_telling_25 rfl (lv_at hl 3 rfl) ?_
      refine lv_iconst (v := (0 : Int32)) hx hb dX5_telling_26 (by decide) ?_
      refine lv_iconst (v := (1 : Int32)) hx hb dX5_telling_27 (by decide) ?_
      refine zci hA zD0 hS (zrunS (As := [.int p3, .int (0 : Int32), .int (1 : Int32)]) (rest := []) S hK hA hE zP0 zD0 hS (mX5_isIn l D cI cJ cC G _ p3 (0 : Int32) (1 : Int32) _ h) kX5_isIn ml_X5_77 ⟨rfl, rfl, by decide, by decide⟩ rfl hl.1 rfl (Nat.le_of_ble_eq_true rfl) dX5_telling_28 ⟨Nat.zero_le _, Nat.zero_le _⟩) (fun r_3 u H locs h hP1 hk1 hS => ?_)
      try dsimp only at h
      have hP : va_P D vwCl ((bX5 cI cJ cC a_M M_pipes M_used M_taped M_at M_statements M_hasImage M_isKeeping M_cursor M_nextAt M_nextMost M_rowMany M_refused M_setting M_hole M_pipeAt M_chance M_weight M_tape M_letter M_letterAt M_told M_kept M_then M_row)) H := zKeep hP hk1
      refine lv_if_ne (tgt := 39) hx hb dX5_telling_31 (by decide) (fun z => ?_) (fun z => ?_)
      · replace h := h.2 z
        refine lv_aload_n hx hb dX5_telling_39 rfl (lv_at hl 0 rfl) ?_
        refine va_get (D := D) (ci := 5) (v := .int M_used) (C := RX5) (T := TX5) (N := 24) hx hb ht inX5 hown hK hP 0 rfl rfl 7 (by decide) (ht _ fl_X5_55) (fun _ h9 => h9) rfl dX5_telling_40 ?_
        refine lv_bipush (v := (6 : Int32)) hx hb dX5_telling_43 (by decide) ?_
        refine lv_icmp_ne (tgt := 53) hx hb dX5_telling_45 (by decide) (fun z => ?_) (fun z => ?_)
        · replace h := h.2 z
          refine lv_iconst (v := (0 : Int32)) hx hb dX5_telling_53 (by decide) ?_
          refine lv_istore (lv' := [(4, .int (0 : Int32)), (0, .ref (a_M 0)), (1, .int p1), (2, .int p2), (3, .int p3)]) hx hb dX5_telling_54 hl (by decide) rfl (fun ls hl => ?_)
          refine lv_iload hx hb dX5_telling_56 (lv_at hl 0 rfl) ?_
          refine lv_if_eq (tgt := 68) hx hb dX5_telling_58 (by decide) (fun z => ?_) (fun z => ?_)
          · refine lv_aload_n hx hb dX5_telling_68 rfl (lv_at hl 1 rfl) ?_
            refine lv_iload_n hx hb dX5_telling_69 rfl (lv_at hl 2 rfl) ?_
            refine lv_iload_n hx hb dX5_telling_70 rfl (lv_at hl 3 rfl) ?_
            refine lv_iload_n hx hb dX5_telling_71 rfl (lv_at hl 4 rfl) ?_
            refine zcv hA (hDD _ rfl) hS (zrunV (As := [.int p1, .int p2, .int p3]) (rest := []) S hK hA hE hP (hDD _ rfl) hS (mX5_tells l D cI cJ cC G a_M _ M_pipes M_used M_taped M_at M_statements M_hasImage M_isKeeping M_cursor M_nextAt M_nextMost M_rowMany M_refused M_setting M_hole M_pipeAt M_chance M_weight M_tape M_letter M_letterAt M_told M_kept M_then M_row p1 p2 p3 _ h) kX5_tells ml_X5_116 ⟨rfl, rfl, by decide, by decide⟩ (q0 := 0) (ci := 5) rfl rfl rfl rfl hl.1 rfl (Nat.le_of_ble_eq_true rfl) dX5_telling_72 ⟨Nat.zero_le _, Nat.zero_le _⟩) (fun u H locs h hP1 hk1 hS => ?_)
            obtain ⟨M_used_4, M_hole_5, M_weight_6⟩ := u
            dsimp only at h
            have hP : va_P D vwCl ((bX5 cI cJ cC a_M M_pipes M_used_4 M_taped M_at M_statements M_hasImage M_isKeeping M_cursor M_nextAt M_nextMost M_rowMany M_refused M_setting M_hole_5 M_pipeAt M_chance M_weight_6 M_tape M_letter M_letterAt M_told M_kept M_then M_row)) H := hP1
            refine lv_aload_n hx hb dX5_telling_75 rfl (lv_at hl 1 rfl) ?_
            refine va_get (D := D) (ci := 5) (v := .int M_used_4) (C := RX5) (T := TX5) (N := 24) hx hb ht inX5 hown hK hP 0 rfl rfl 7 (by decide) (ht _ fl_X5_55) (fun _ h9 => h9) rfl dX5_telling_76 ?_
            exact hret M_used_4 (M_used_4, M_refused, M_hole_5, M_weight_6) _ _ _ _ rfl h hP hS dX5_telling_79
          · exact absurd (by decide) z
        · replace h := h.1 z
          refine lv_bipush (v := (-6 : Int32)) hx hb dX5_telling_48 (by decide) ?_
          refine lv_goto (tgt := 54) hx hb dX5_telling_50 (by decide) ?_
          refine lv_istore (lv' := [(4, .int (-6 : Int32)), (0, .ref (a_M 0)), (1, .int p1), (2, .int p2), (3, .int p3)]) hx hb dX5_telling_54 hl (by decide) rfl (fun ls hl => ?_)
          refine lv_iload hx hb dX5_telling_56 (lv_at hl 0 rfl) ?_
          refine lv_if_eq (tgt := 68) hx hb dX5_telling_58 (by decide) (fun z => ?_) (fun z => ?_)
          · exact absurd z (by decide)
          · refine lv_aload_n hx hb dX5_telling_61 rfl (lv_at hl 1 rfl) ?_
            refine lv_iload hx hb dX5_telling_62 (lv_at hl 0 rfl) ?_
            refine zci hA (hDD _ rfl) hS (zrunV (As := [.int (-6 : Int32)]) (rest := []) S hK hA hE hP (hDD _ rfl) hS (mX5_no l D cI cJ cC G a_M _ M_pipes M_used M_taped M_at M_statements M_hasImage M_isKeeping M_cursor M_nextAt M_nextMost M_rowMany M_refused M_setting M_hole M_pipeAt M_chance M_weight M_tape M_letter M_letterAt M_told M_kept M_then M_row (-6 : Int32) _ h) kX5_no ml_X5_66 ⟨rfl, rfl, by decide, by decide⟩ (q0 := 0) (ci := 5) rfl rfl rfl rfl hl.1 rfl (Nat.le_of_ble_eq_true rfl) dX5_telling_64 ⟨Nat.zero_le _, Nat.zero_le _⟩) (fun r_7 M_refused_8 H locs h hP1 hk1 hS => ?_)
            try dsimp only at h
            have hP : va_P D vwCl ((bX5 cI cJ cC a_M M_pipes M_used M_taped M_at M_statements M_hasImage M_isKeeping M_cursor M_nextAt M_nextMost M_rowMany M_refused_8 M_setting M_hole M_pipeAt M_chance M_weight M_tape M_letter M_letterAt M_told M_kept M_then M_row)) H := hP1
            exact hret r_7 (M_used, M_refused_8, M_hole, M_weight) _ _ _ _ rfl h hP hS dX5_telling_67
      · replace h := h.1 z
        refine lv_bipush (v := (-2 : Int32)) hx hb dX5_telling_34 (by decide) ?_
        refine lv_goto (tgt := 54) hx hb dX5_telling_36 (by decide) ?_
        refine lv_istore (lv' := [(4, .int (-2 : Int32)), (0, .ref (a_M 0)), (1, .int p1), (2, .int p2), (3, .int p3)]) hx hb dX5_telling_54 hl (by decide) rfl (fun ls hl => ?_)
        refine lv_iload hx hb dX5_telling_56 (lv_at hl 0 rfl) ?_
        refine lv_if_eq (tgt := 68) hx hb dX5_telling_58 (by decide) (fun z => ?_) (fun z => ?_)
        · exact absurd z (by decide)
        · refine lv_aload_n hx hb dX5_telling_61 rfl (lv_at hl 1 rfl) ?_
          refine lv_iload hx hb dX5_telling_62 (lv_at hl 0 rfl) ?_
          refine zci hA (hDD _ rfl) hS (zrunV (As := [.int (-2 : Int32)]) (rest := []) S hK hA hE hP (hDD _ rfl) hS (mX5_no l D cI cJ cC G a_M _ M_pipes M_used M_taped M_at M_statements M_hasImage M_isKeeping M_cursor M_nextAt M_nextMost M_rowMany M_refused M_setting M_hole M_pipeAt M_chance M_weight M_tape M_letter M_letterAt M_told M_kept M_then M_row (-2 : Int32) _ h) kX5_no ml_X5_66 ⟨rfl, rfl, by decide, by decide⟩ (q0 := 0) (ci := 5) rfl rfl rfl rfl hl.1 rfl (Nat.le_of_ble_eq_true rfl) dX5_telling_64 ⟨Nat.zero_le _, Nat.zero_le _⟩) (fun r_9 M_refused_10 H locs h hP1 hk1 hS => ?_)
          try dsimp only at h
          have hP : va_P D vwCl ((bX5 cI cJ cC a_M M_pipes M_used M_taped M_at M_statements M_hasImage M_isKeeping M_cursor M_nextAt M_nextMost M_rowMany M_refused_10 M_setting M_hole M_pipeAt M_chance M_weight M_tape M_letter M_letterAt M_told M_kept M_then M_row)) H := hP1
          exact hret r_9 (M_used, M_refused_10, M_hole, M_weight) _ _ _ _ rfl h hP hS dX5_telling_67
    · replace h := h.1 z
      refine lv_iconst (v := (-1 : Int32)) hx hb dX5_telling_21 (by decide) ?_
      refine lv_goto (tgt := 54) hx hb dX5_telling_22 (by decide) ?_
      refine lv_istore (lv' := [(4, .int (-1 : Int32)), (0, .ref (a_M 0)), (1, .int p1), (2, .int p2), (3, .int p3)]) hx hb dX5_telling_54 hl (by decide) rfl (fun ls hl => ?_)
      refine lv_iload hx hb dX5_telling_56 (lv_at hl 0 rfl) ?_
      refine lv_if_eq (tgt := 68) hx hb dX5_telling_58 (by decide) (fun z => ?_) (fun z => ?_)
      · exact absurd z (by decide)
      · refine lv_aload_n hx hb dX5_telling_61 rfl (lv_at hl 1 rfl) ?_
        refine lv_iload hx hb dX5_telling_62 (lv_at hl 0 rfl) ?_
        refine zci hA (hDD _ rfl) hS (zrunV (As := [.int (-1 : Int32)]) (rest := []) S hK hA hE hP (hDD _ rfl) hS (mX5_no l D cI cJ cC G a_M _ M_pipes M_used M_taped M_at M_statements M_hasImage M_isKeeping M_cursor M_nextAt M_nextMost M_rowMany M_refused M_setting M_hole M_pipeAt M_chance M_weight M_tape M_letter M_letterAt M_told M_kept M_then M_row (-1 : Int32) _ h) kX5_no ml_X5_66 ⟨rfl, rfl, by decide, by decide⟩ (q0 := 0) (ci := 5) rfl rfl rfl rfl hl.1 rfl (Nat.le_of_ble_eq_true rfl) dX5_telling_64 ⟨Nat.zero_le _, Nat.zero_le _⟩) (fun r_11 M_refused_12 H locs h hP1 hk1 hS => ?_)
        try dsimp only at h
        have hP : va_P D vwCl ((bX5 cI cJ cC a_M M_pipes M_used M_taped M_at M_statements M_hasImage M_isKeeping M_cursor M_nextAt M_nextMost M_rowMany M_refused_12 M_setting M_hole M_pipeAt M_chance M_weight M_tape M_letter M_letterAt M_told M_kept M_then M_row)) H := hP1
        exact hret r_11 (M_used, M_refused_12, M_hole, M_weight) _ _ _ _ rfl h hP hS dX5_telling_67
  · replace h := h.1 z
    refine lv_bipush (v := (-2 : Int32)) hx hb dX5_telling_9 (by decide) ?_
    refine lv_goto (tgt := 54) hx hb dX5_telling_11 (by decide) ?_
    refine lv_istore (lv' := [(4, .int (-2 : Int32)), (0, .ref (a_M 0)), (1, .int p1), (2, .int p2), (3, .int p3)]) hx hb dX5_telling_54 hl (by decide) rfl (fun ls hl => ?_)
    refine lv_iload hx hb dX5_telling_56 (lv_at hl 0 rfl) ?_
    refine lv_if_eq (tgt := 68) hx hb dX5_telling_58 (by decide) (fun z => ?_) (fun z => ?_)
    · exact absurd z (by decide)
    · refine lv_aload_n hx hb dX5_telling_61 rfl (lv_at hl 1 rfl) ?_
      refine lv_iload hx hb dX5_telling_62 (lv_at hl 0 rfl) ?_
      refine zci hA (hDD _ rfl) hS (zrunV (As := [.int (-2 : Int32)]) (rest := []) S hK hA hE hP (hDD _ rfl) hS (mX5_no l D cI cJ cC G a_M _ M_pipes M_used M_taped M_at M_statements M_hasImage M_isKeeping M_cursor M_nextAt M_nextMost M_rowMany M_refused M_setting M_hole M_pipeAt M_chance M_weight M_tape M_letter M_letterAt M_told M_kept M_then M_row (-2 : Int32) _ h) kX5_no ml_X5_66 ⟨rfl, rfl, by decide, by decide⟩ (q0 := 0) (ci := 5) rfl rfl rfl rfl hl.1 rfl (Nat.le_of_ble_eq_true rfl) dX5_telling_64 ⟨Nat.zero_le _, Nat.zero_le _⟩) (fun r_13 M_refused_14 H locs h hP1 hk1 hS => ?_)
      try dsimp only at h
      have hP : va_P D vwCl ((bX5 cI cJ cC a_M M_pipes M_used M_taped M_at M_statements M_hasImage M_isKeeping M_cursor M_nextAt M_nextMost M_rowMany M_refused_14 M_setting M_hole M_pipeAt M_chance M_weight M_tape M_letter M_letterAt M_told M_kept M_then M_row)) H := hP1
      exact hret r_13 (M_used, M_refused_14, M_hole, M_weight) _ _ _ _ rfl h hP hS dX5_telling_67
def lpX5_withWeight_4 (K : Int32 → Int32 → Prop) (M_setting : Nat → Int32) (M_weight : Nat → Int32) : Nat → Int32 → Int32 → Prop
  | 0, _, _ => False
  | n + 1, x1, x2 => (((M_setting 0) ≤ x2 → (K x1 x2)) ∧ (¬ ((M_setting 0) ≤ x2) → (vp_in x2 24 ∧ ((((M_weight x2.toNatClampNeg) ≤ (0 : Int32) → (lpX5_withWeight_4 K M_setting M_weight n (x1 + (0 : Int32)) (x2 + (1 : Int32)))) ∧ (¬ ((M_weight x2.toNatClampNeg) ≤ (0 : Int32)) → (lpX5_withWeight_4 K M_setting M_weight n (x1 + (1 : Int32)) (x2 + (1 : Int32)))))))))
set_option maxHeartbeats 4000000 in
set_option maxRecDepth 100000 in
theorem wX5_withWeight_4 (l : Launch) (D : va_G) (cI cJ cC : ClassId) (G : Nat → Nat → Nat) (a_M : Nat → Nat) {p : Program} {e : Env} {s : State} {m : MethodId} {below : List Frame} {meth : Method} {c : Code} {A : Nat → Prop} {Q : State → Prop} (M_pipes : Int32) (M_used : Int32) (M_taped : Int32) (M_at : Int32) (M_statements : Int32) (M_hasImage : Int32) (M_isKeeping : Int32) (M_cursor : Int32) (M_nextAt : Int32) (M_nextMost : Int64) (M_rowMany : Int32) (M_refused : Nat → Int32) (M_setting : Nat → Int32) (M_hole : Nat → Int32) (M_pipeAt : Nat → Int32) (M_chance : Nat → Int32) (M_weight : Nat → Int32) (M_tape : Nat → Int32) (M_letter : Nat → Int32) (M_letterAt : Nat → Int32) (M_told : Nat → Int32) (M_kept : Nat → Int32) (M_then : Nat → Int64) (M_row : Nat → Int32) (K : Int32 → Int32 → Prop) (S : CallFix p m c cX5_withWeight 3 s ([.ref (a_M 0)] : List Value).toArray bg RX5) (hK : va_K D vwCl (tz cI cJ cC) s) (hDD : ∀ ws : va_W, ws.map (fun q => q.1) = [a_M 0, a_M 1, a_M 2, a_M 3, a_M 4, a_M 5, a_M 6, a_M 7, a_M 8, a_M 9, a_M 10, a_M 11, a_M 12, a_M 13] → va_D A ws) (hA : ∀ q, s.heap.size ≤ q → A q) (hE : EV G A s) (hKK : ∀ (x1 : Int32) (x2 : Int32) (H : Heap) (locs : List Loc) (ls : Array Slot), K x1 x2 → va_P D vwCl ((bX5 cI cJ cC a_M M_pipes M_used M_taped M_at M_statements M_hasImage M_isKeeping M_cursor M_nextAt M_nextMost M_rowMany M_refused M_setting M_hole M_pipeAt M_chance M_weight M_tape M_letter M_letterAt M_told M_kept M_then M_row)) H → va_S A s.heap H locs → lv_has ls 3 [(1, .int x1)] → W p l e ({ frames := 0, cells := 0, slots := 0, locals := 0 }) s m ([.ref (a_M 0)] : List Value).toArray below meth c H locs 0 0 Q (F0 m 37 ls [])) :
    ∀ (n : Nat) (x1 : Int32) (x2 : Int32) (H : Heap) (locs : List Loc) (ls : Array Slot), lpX5_withWeight_4 K M_setting M_weight n x1 x2 → va_P D vwCl ((bX5 cI cJ cC a_M M_pipes M_used M_taped M_at M_statements M_hasImage M_isKeeping M_cursor M_nextAt M_nextMost M_rowMany M_refused M_setting M_hole M_pipeAt M_chance M_weight M_tape M_letter M_letterAt M_told M_kept M_then M_row)) H → va_S A s.heap H locs → lv_has ls 3 [(0, .ref (a_M 0)), (1, .int x1), (2, .int x2)] → W p l e ({ frames := 0, cells := 0, slots := 0, locals := 0 }) s m ([.ref (a_M 0)] : List Value).toArray below meth c H locs 0 0 Q (F0 m 4 ls []) := by
  obtain ⟨hx, hb, hml, hown, ht⟩ := id S
  intro n
  induction n with
  | zero =>
    intro x1 x2 H locs ls h
    exact absurd h (by simp [lpX5_withWeight_4])
  | succ n ih =>
    intro x1 x2 H locs ls h hP hS hl
    rw [lpX5_withWeight_4] at h
    refine lv_iload_n hx hb dX5_withWeight_4 rfl (lv_at hl 2 rfl) ?_
    refine lv_aload_n hx hb dX5_withWeight_5 rfl (lv_at hl 0 rfl) ?_
    refine va_get (D := D) (ci := 5) (v := .ref (a_M 2)) (C := RX5) (T := TX5) (N := 24) hx hb ht inX5 hown hK hP 0 rfl rfl 1 (by decide) (ht _ fl_X5_13) (fun _ h9 => h9) rfl dX5_withWeight_6 ?_
    refine lv_iconst (v := (0 : Int32)) hx hb dX5_withWeight_9 (by decide) ?_
    refine va_iald hx hb hK hP 2 0 rfl rfl (by unfold vp_in; decide) dX5_withWeight_10 ?_
    refine zti (y := M_setting 0) (by rfl) ?_
    refine lv_icmp_ge (tgt := 37) hx hb dX5_withWeight_11 (by decide) (fun z => ?_) (fun z => ?_)
    · replace h := h.1 z
      exact hKK x1 x2 _ _ _ h hP hS (lv_sub hl [1] rfl)
    · replace h := h.2 z
      refine lv_iload_n hx hb dX5_withWeight_14 rfl (lv_at hl 1 rfl) ?_
      refine lv_aload_n hx hb dX5_withWeight_15 rfl (lv_at hl 0 rfl) ?_
      refine va_get (D := D) (ci := 5) (v := .ref (a_M 6)) (C := RX5) (T := TX5) (N := 24) hx hb ht inX5 hown hK hP 0 rfl rfl 5 (by decide) (ht _ fl_X5_25) (fun _ h9 => h9) rfl dX5_withWeight_16 ?_
      refine lv_iload_n hx hb dX5_withWeight_19 rfl (lv_at hl 2 rfl) ?_
      obtain ⟨hin, h⟩ := h
      refine va_iald hx hb hK hP 6 0 rfl rfl hin dX5_withWeight_20 ?_
      refine lv_if_le (tgt := 28) hx hb dX5_withWeight_21 (by decide) (fun z => ?_) (fun z => ?_)
      · replace h := h.1 z
        refine lv_iconst (v := (0 : Int32)) hx hb dX5_withWeight_28 (by decide) ?_
        refine lv_iadd hx hb dX5_withWeight_29 ?_
        refine lv_istore_n (lv' := [(1, .int (x1 + (0 : Int32))), (0, .ref (a_M 0)), (2, .int x2)]) hx hb dX5_withWeight_30 rfl hl (by decide) rfl (fun ls hl => ?_)
        refine lv_iinc (v := x2 + (1 : Int32)) (lv' := [(2, .int (x2 + (1 : Int32))), (1, .int (x1 + (0 : Int32))), (0, .ref (a_M 0))]) hx hb dX5_withWeight_31 hl (k := 2) rfl (by rfl) (by decide) rfl (fun ls hl => ?_)
        refine lv_goto (tgt := 4) hx hb dX5_withWeight_34 (by decide) ?_
        exact ih (x1 + (0 : Int32)) (x2 + (1 : Int32)) _ _ _ h hP hS (lv_sub hl [2, 1, 0] rfl)
      · replace h := h.2 z
        refine lv_iconst (v := (1 : Int32)) hx hb dX5_withWeight_24 (by decide) ?_
        refine lv_goto (tgt := 29) hx hb dX5_withWeight_25 (by decide) ?_
        refine lv_iadd hx hb dX5_withWeight_29 ?_
        refine lv_istore_n (lv' := [(1, .int (x1 + (1 : Int32))), (0, .ref (a_M 0)), (2, .int x2)]) hx hb dX5_withWeight_30 rfl hl (by decide) rfl (fun ls hl => ?_)
        refine lv_iinc (v := x2 + (1 : Int32)) (lv' := [(2, .int (x2 + (1 : Int32))), (1, .int (x1 + (1 : Int32))), (0, .ref (a_M 0))]) hx hb dX5_withWeight_31 hl (k := 2) rfl (by rfl) (by decide) rfl (fun ls hl => ?_)
        refine lv_goto (tgt := 4) hx hb dX5_withWeight_34 (by decide) ?_
        exact ih (x1 + (1 : Int32)) (x2 + (1 : Int32)) _ _ _ h hP hS (lv_sub hl [2, 1, 0] rfl)
def wpX5_withWeight (post : Int32 → Prop) (M_setting : Nat → Int32) (M_weight : Nat → Int32) : Prop := ∃ n_1 : Nat, lpX5_withWeight_4 (fun (x1_2 : Int32) (x2_3 : Int32) => post x1_2) M_setting M_weight n_1 (0 : Int32) (0 : Int32)
set_option maxHeartbeats 4000000 in
set_option maxRecDepth 100000 in
theorem mX5_withWeight (l : Launch) (D : va_G) (cI cJ cC : ClassId) (G : Nat → Nat → Nat) (a_M : Nat → Nat) (sz : Nat) (M_pipes : Int32) (M_used : Int32) (M_taped : Int32) (M_at : Int32) (M_statements : Int32) (M_hasImage : Int32) (M_isKeeping : Int32) (M_cursor : Int32) (M_nextAt : Int32) (M_nextMost : Int64) (M_rowMany : Int32) (M_refused : Nat → Int32) (M_setting : Nat → Int32) (M_hole : Nat → Int32) (M_pipeAt : Nat → Int32) (M_chance : Nat → Int32) (M_weight : Nat → Int32) (M_tape : Nat → Int32) (M_letter : Nat → Int32) (M_letterAt : Nat → Int32) (M_told : Nat → Int32) (M_kept : Nat → Int32) (M_then : Nat → Int64) (M_row : Nat → Int32) (post : Int32 → Prop) (h : wpX5_withWeight post M_setting M_weight) : Met l yX5_withWeight (wz yX5_withWeight cX5_withWeight 3 (some .int)) ({ frames := 0, cells := 0, slots := 0, locals := 0 }) (va_Pc [.ref (a_M 0)] (PW D (tz cI cJ cC) G ((bX5 cI cJ cC a_M M_pipes M_used M_taped M_at M_statements M_hasImage M_isKeeping M_cursor M_nextAt M_nextMost M_rowMany M_refused M_setting M_hole M_pipeAt M_chance M_weight M_tape M_letter M_letterAt M_told M_kept M_then M_row)) sz)) (va_Qi (fun (r : Int32) (u : Unit) => post r ) (fun (u : Unit) t => va_P D vwCl ((bX5 cI cJ cC a_M M_pipes M_used M_taped M_at M_statements M_hasImage M_isKeeping M_cursor M_nextAt M_nextMost M_rowMany M_refused M_setting M_hole M_pipeAt M_chance M_weight M_tape M_letter M_letterAt M_told M_kept M_then M_row)) t.heap) (va_A ((bX5 cI cJ cC a_M M_pipes M_used M_taped M_at M_statements M_hasImage M_isKeeping M_cursor M_nextAt M_nextMost M_rowMany M_refused M_setting M_hole M_pipeAt M_chance M_weight M_tape M_letter M_letterAt M_told M_kept M_then M_row)) sz)) 0 0 (va_A ((bX5 cI cJ cC a_M M_pipes M_used M_taped M_at M_statements M_hasImage M_isKeeping M_cursor M_nextAt M_nextMost M_rowMany M_refused M_setting M_hole M_pipeAt M_chance M_weight M_tape M_letter M_letterAt M_told M_kept M_then M_row)) sz) := by
  refine zmi (gw := fun (u : Unit) => (bX5 cI cJ cC a_M M_pipes M_used M_taped M_at M_statements M_hasImage M_isKeeping M_cursor M_nextAt M_nextMost M_rowMany M_refused M_setting M_hole M_pipeAt M_chance M_weight M_tape M_letter M_letterAt M_told M_kept M_then M_row)) (plainFor_of_name (by decide)) (Nat.le_of_ble_eq_true rfl) ?_
  intro p e s m below meth c A Q ls S hK hD hA hE hP hl hret
  obtain ⟨hx, hb, hml, hown, ht⟩ := id S
  have hS : va_S A s.heap s.heap [] := va_S.rf
  have hDD : ∀ ws : va_W, ws.map (fun q => q.1) = [a_M 0, a_M 1, a_M 2, a_M 3, a_M 4, a_M 5, a_M 6, a_M 7, a_M 8, a_M 9, a_M 10, a_M 11, a_M 12, a_M 13] → va_D A ws := fun ws hw => zD hD (hw.trans rfl)
  have hl : lv_has ls 3 [(0, .ref (a_M 0))] := hl
  unfold wpX5_withWeight at h
  refine lv_iconst (v := (0 : Int32)) hx hb dX5_withWeight_0 (by decide) ?_
  refine lv_istore_n (lv' := [(1, .int (0 : Int32)), (0, .ref (a_M 0))]) hx hb dX5_withWeight_1 rfl hl (by decide) rfl (fun ls hl => ?_)
  refine lv_iconst (v := (0 : Int32)) hx hb dX5_withWeight_2 (by decide) ?_
  refine lv_istore_n (lv' := [(2, .int (0 : Int32)), (1, .int (0 : Int32)), (0, .ref (a_M 0))]) hx hb dX5_withWeight_3 rfl hl (by decide) rfl (fun ls hl => ?_)
  obtain ⟨n_1, h⟩ := h
  refine wX5_withWeight_4 l D cI cJ cC G a_M M_pipes M_used M_taped M_at M_statements M_hasImage M_isKeeping M_cursor M_nextAt M_nextMost M_rowMany M_refused M_setting M_hole M_pipeAt M_chance M_weight M_tape M_letter M_letterAt M_told M_kept M_then M_row _ S hK hDD hA hE (fun x1_2 x2_3 H locs ls h hP hS hl => ?_) n_1 (0 : Int32) (0 : Int32) _ _ _ h hP hS (lv_sub hl [2, 1, 0] rfl)
  try dsimp only at h
  refine lv_iload_n hx hb dX5_withWeight_37 rfl (lv_at hl 0 rfl) ?_
  exact hret x1_2 () _ _ _ _ rfl h hP hS dX5_withWeight_38
def wpX5_nail (post : Int32 → (Nat → Int32) → (Nat → Int32) → (Nat → Int32) → Prop) (M_refused : Nat → Int32) (M_setting : Nat → Int32) (M_hole : Nat → Int32) (M_weight : Nat → Int32) (p1 : Int32) (p2 : Int32) : Prop := wpX5_isInch (fun (r_1 : Int32) => ((r_1 = (0 : Int32) → (wpX5_no (fun (r_11 : Int32) (M_refused_12 : Nat → Int32) => post r_11 M_refused_12 M_hole M_weight) M_refused (-1 : Int32))) ∧ (¬ (r_1 = (0 : Int32)) → (wpX5_isIn (fun (r_2 : Int32) => ((r_2 = (0 : Int32) → (wpX5_no (fun (r_9 : Int32) (M_refused_10 : Nat → Int32) => post r_9 M_refused_10 M_hole M_weight) M_refused (-2 : Int32))) ∧ (¬ (r_2 = (0 : Int32)) → (wpX5_leftBy (fun (r_3 : Int32) => ((r_3 = (0 : Int32) → (wpX5_no (fun (r_7 : Int32) (M_refused_8 : Nat → Int32) => post r_7 M_refused_8 M_hole M_weight) M_refused (-3 : Int32))) ∧ (¬ (r_3 = (0 : Int32)) → (wpX5_nails (fun (M_hole_4 : Nat → Int32) (M_weight_5 : Nat → Int32) => wpX5_withWeight (fun (r_6 : Int32) => post r_6 M_refused M_hole_4 M_weight_5) M_setting M_weight_5) M_setting M_hole M_weight p1 p2)))) M_setting M_weight p1 p2)))) p2 (0 : Int32) (1 : Int32))))) p1
set_option maxHeartbeats 4000000 in
set_option maxRecDepth 100000 in
theorem mX5_nail (l : Launch) (D : va_G) (cI cJ cC : ClassId) (G : Nat → Nat → Nat) (a_M : Nat → Nat) (sz : Nat) (M_pipes : Int32) (M_used : Int32) (M_taped : Int32) (M_at : Int32) (M_statements : Int32) (M_hasImage : Int32) (M_isKeeping : Int32) (M_cursor : Int32) (M_nextAt : Int32) (M_nextMost : Int64) (M_rowMany : Int32) (M_refused : Nat → Int32) (M_setting : Nat → Int32) (M_hole : Nat → Int32) (M_pipeAt : Nat → Int32) (M_chance : Nat → Int32) (M_weight : Nat → Int32) (M_tape : Nat → Int32) (M_letter : Nat → Int32) (M_letterAt : Nat → Int32) (M_told : Nat → Int32) (M_kept : Nat → Int32) (M_then : Nat → Int64) (M_row : Nat → Int32) (p1 : Int32) (p2 : Int32) (post : Int32 → (Nat → Int32) → (Nat → Int32) → (Nat → Int32) → Prop) (h : wpX5_nail post M_refused M_setting M_hole M_weight p1 p2) : Met l yX5_nail (wz yX5_nail cX5_nail 4 (some .int)) ({ frames := 6, cells := 0, slots := 0, locals := 133 }) (va_Pc [.ref (a_M 0), .int p1, .int p2] (PW D (tz cI cJ cC) G ((bX5 cI cJ cC a_M M_pipes M_used M_taped M_at M_statements M_hasImage M_isKeeping M_cursor M_nextAt M_nextMost M_rowMany M_refused M_setting M_hole M_pipeAt M_chance M_weight M_tape M_letter M_letterAt M_told M_kept M_then M_row)) sz)) (va_Qi (fun (r : Int32) (u : (Nat → Int32) × (Nat → Int32) × (Nat → Int32)) => post r u.1 u.2.1 u.2.2) (fun (u : (Nat → Int32) × (Nat → Int32) × (Nat → Int32)) t => va_P D vwCl ((bX5 cI cJ cC a_M M_pipes M_used M_taped M_at M_statements M_hasImage M_isKeeping M_cursor M_nextAt M_nextMost M_rowMany u.1 M_setting u.2.1 M_pipeAt M_chance u.2.2 M_tape M_letter M_letterAt M_told M_kept M_then M_row)) t.heap) (va_A ((bX5 cI cJ cC a_M M_pipes M_used M_taped M_at M_statements M_hasImage M_isKeeping M_cursor M_nextAt M_nextMost M_rowMany M_refused M_setting M_hole M_pipeAt M_chance M_weight M_tape M_letter M_letterAt M_told M_kept M_then M_row)) sz)) 0 0 (va_A ((bX5 cI cJ cC a_M M_pipes M_used M_taped M_at M_statements M_hasImage M_isKeeping M_cursor M_nextAt M_nextMost M_rowMany M_refused M_setting M_hole M_pipeAt M_chance M_weight M_tape M_letter M_letterAt M_told M_kept M_then M_row)) sz) := by
  refine zmi (gw := fun (u : (Nat → Int32) × (Nat → Int32) × (Nat → Int32)) => (bX5 cI cJ cC a_M M_pipes M_used M_taped M_at M_statements M_hasImage M_isKeeping M_cursor M_nextAt M_nextMost M_rowMany u.1 M_setting u.2.1 M_pipeAt M_chance u.2.2 M_tape M_letter M_letterAt M_told M_kept M_then M_row)) (plainFor_of_name (by decide)) (Nat.le_of_ble_eq_true rfl) ?_
  intro p e s m below meth c A Q ls S hK hD hA hE hP hl hret
  obtain ⟨hx, hb, hml, hown, ht⟩ := id S
  have hS : va_S A s.heap s.heap [] := va_S.rf
  have hDD : ∀ ws : va_W, ws.map (fun q => q.1) = [a_M 0, a_M 1, a_M 2, a_M 3, a_M 4, a_M 5, a_M 6, a_M 7, a_M 8, a_M 9, a_M 10, a_M 11, a_M 12, a_M 13] → va_D A ws := fun ws hw => zD hD (hw.trans rfl)
  have hl : lv_has ls 4 [(0, .ref (a_M 0)), (1, .int p1), (2, .int p2)] := hl
  unfold wpX5_nail at h
  refine lv_iload_n hx hb dX5_nail_0 rfl (lv_at hl 1 rfl) ?_
  refine zci hA zD0 hS (zrunS (As := [.int p1]) (rest := []) S hK hA hE zP0 zD0 hS (mX5_isInch l D cI cJ cC G _ p1 _ h) kX5_isInch ml_X5_113 ⟨rfl, rfl, by decide, by decide⟩ rfl hl.1 rfl (Nat.le_of_ble_eq_true rfl) dX5_nail_1 ⟨Nat.zero_le _, Nat.zero_le _⟩) (fun r_1 u H locs h hP1 hk1 hS => ?_)
  try dsimp only at h
  have hP : va_P D vwCl ((bX5 cI cJ cC a_M M_pipes M_used M_taped M_at M_statements M_hasImage M_isKeeping M_cursor M_nextAt M_nextMost M_rowMany M_refused M_setting M_hole M_pipeAt M_chance M_weight M_tape M_letter M_letterAt M_told M_kept M_then M_row)) H := zKeep hP hk1
  refine lv_if_ne (tgt := 11) hx hb dX5_nail_4 (by decide) (fun z => ?_) (fun z => ?_)
  · replace h := h.2 z
    refine lv_iload_n hx hb dX5_nail_11 rfl (lv_at hl 2 rfl) ?_
    refine lv_iconst (v := (0 : Int32)) hx hb dX5_nail_12 (by decide) ?_
    refine lv_iconst (v := (1 : Int32)) hx hb dX5_nail_13 (by decide) ?_
    refine zci hA zD0 hS (zrunS (As := [.int p2, .int (0 : Int32), .int (1 : Int32)]) (rest := []) S hK hA hE zP0 zD0 hS (mX5_isIn l D cI cJ cC G _ p2 (0 : Int32) (1 : Int32) _ h) kX5_isIn ml_X5_77 ⟨rfl, rfl, by decide, by decide⟩ rfl hl.1 rfl (Nat.le_of_ble_eq_true rfl) dX5_nail_14 ⟨Nat.zero_le _, Nat.zero_le _⟩) (fun r_2 u H locs h hP1 hk1 hS => ?_)
    try dsimp only at h
    have hP : va_P D vwCl ((bX5 cI cJ cC a_M M_pipes M_used M_taped M_at M_statements M_hasImage M_isKeeping M_cursor M_nextAt M_nextMost M_rowMany M_refused M_setting M_hole M_pipeAt M_chance M_weight M_tape M_letter M_letterAt M_told M_kept M_then M_row)) H := zKeep hP hk1
    refine lv_if_ne (tgt := 25) hx hb dX5_nail_17 (by decide) (fun z => ?_) (fun z => ?_)
    · replace h := h.2 z
      refine lv_aload_n hx hb dX5_nail_25 rfl (lv_at hl 0 rfl) ?_
      refine lv_iload_n hx hb dX5_nail_26 rfl (lv_at hl 1 rfl) ?_
      refine lv_iload_n hx hb dX5_nail_27 rfl (lv_at hl 2 rfl) ?_
      refine zci hA (hDD _ rfl) hS (zrunV (As := [.int p1, .int p2]) (rest := []) S hK hA hE hP (hDD _ rfl) hS (mX5_leftBy l D cI cJ cC G a_M _ M_pipes M_used M_taped M_at M_statements M_hasImage M_isKeeping M_cursor M_nextAt M_nextMost M_rowMany M_refused M_setting M_hole M_pipeAt M_chance M_weight M_tape M_letter M_letterAt M_told M_kept M_then M_row p1 p2 _ h) kX5_leftBy ml_X5_120 ⟨rfl, rfl, by decide, by decide⟩ (q0 := 0) (ci := 5) rfl rfl rfl rfl hl.1 rfl (Nat.le_of_ble_eq_true rfl) dX5_nail_28 ⟨Nat.zero_le _, Nat.zero_le _⟩) (fun r_3 u H locs h hP1 hk1 hS => ?_)
      try dsimp only at h
      have hP : va_P D vwCl ((bX5 cI cJ cC a_M M_pipes M_used M_taped M_at M_statements M_hasImage M_isKeeping M_cursor M_nextAt M_nextMost M_rowMany M_refused M_setting M_hole M_pipeAt M_chance M_weight M_tape M_letter M_letterAt M_told M_kept M_then M_row)) H := hP1
      refine lv_if_ne (tgt := 39) hx hb dX5_nail_31 (by decide) (fun z => ?_) (fun z => ?_)
      · replace h := h.2 z
        refine lv_iconst (v := (0 : Int32)) hx hb dX5_nail_39 (by decide) ?_
        refine lv_istore_n (lv' := [(3, .int (0 : Int32)), (0, .ref (a_M 0)), (1, .int p1), (2, .int p2)]) hx hb dX5_nail_40 rfl hl (by decide) rfl (fun ls hl => ?_)
        refine lv_iload_n hx hb dX5_nail_41 rfl (lv_at hl 0 rfl) ?_
        refine lv_if_eq (tgt := 51) hx hb dX5_nail_42 (by decide) (fun z => ?_) (fun z => ?_)
        · refine lv_aload_n hx hb dX5_nail_51 rfl (lv_at hl 1 rfl) ?_
          refine lv_iload_n hx hb dX5_nail_52 rfl (lv_at hl 2 rfl) ?_
          refine lv_iload_n hx hb dX5_nail_53 rfl (lv_at hl 3 rfl) ?_
          refine zcv hA (hDD _ rfl) hS (zrunV (As := [.int p1, .int p2]) (rest := []) S hK hA hE hP (hDD _ rfl) hS (mX5_nails l D cI cJ cC G a_M _ M_pipes M_used M_taped M_at M_statements M_hasImage M_isKeeping M_cursor M_nextAt M_nextMost M_rowMany M_refused M_setting M_hole M_pipeAt M_chance M_weight M_tape M_letter M_letterAt M_told M_kept M_then M_row p1 p2 _ h) kX5_nails ml_X5_124 ⟨rfl, rfl, by decide, by decide⟩ (q0 := 0) (ci := 5) rfl rfl rfl rfl hl.1 rfl (Nat.le_of_ble_eq_true rfl) dX5_nail_54 ⟨Nat.zero_le _, Nat.zero_le _⟩) (fun u H locs h hP1 hk1 hS => ?_)
          obtain ⟨M_hole_4, M_weight_5⟩ := u
          dsimp only at h
          have hP : va_P D vwCl ((bX5 cI cJ cC a_M M_pipes M_used M_taped M_at M_statements M_hasImage M_isKeeping M_cursor M_nextAt M_nextMost M_rowMany M_refused M_setting M_hole_4 M_pipeAt M_chance M_weight_5 M_tape M_letter M_letterAt M_told M_kept M_then M_row)) H := hP1
          refine lv_aload_n hx hb dX5_nail_57 rfl (lv_at hl 1 rfl) ?_
          refine zci hA (hDD _ rfl) hS (zrunV (As := []) (rest := []) S hK hA hE hP (hDD _ rfl) hS (mX5_withWeight l D cI cJ cC G a_M _ M_pipes M_used M_taped M_at M_statements M_hasImage M_isKeeping M_cursor M_nextAt M_nextMost M_rowMany M_refused M_setting M_hole_4 M_pipeAt M_chance M_weight_5 M_tape M_letter M_letterAt M_told M_kept M_then M_row _ h) kX5_withWeight ml_X5_204 ⟨rfl, rfl, by decide, by decide⟩ (q0 := 0) (ci := 5) rfl rfl rfl rfl hl.1 rfl (Nat.le_of_ble_eq_true rfl) dX5_nail_58 ⟨Nat.zero_le _, Nat.zero_le _⟩) (fun r_6 u H locs h hP1 hk1 hS => ?_)
          try dsimp only at h
          have hP : va_P D vwCl ((bX5 cI cJ cC a_M M_pipes M_used M_taped M_at M_statements M_hasImage M_isKeeping M_cursor M_nextAt M_nextMost M_rowMany M_refused M_setting M_hole_4 M_pipeAt M_chance M_weight_5 M_tape M_letter M_letterAt M_told M_kept M_then M_row)) H := hP1
          exact hret r_6 (M_refused, M_hole_4, M_weight_5) _ _ _ _ rfl h hP hS dX5_nail_61
        · exact absurd (by decide) z
      · replace h := h.1 z
        refine lv_bipush (v := (-3 : Int32)) hx hb dX5_nail_34 (by decide) ?_
        refine lv_goto (tgt := 40) hx hb dX5_nail_36 (by decide) ?_
        refine lv_istore_n (lv' := [(3, .int (-3 : Int32)), (0, .ref (a_M 0)), (1, .int p1), (2, .int p2)]) hx hb dX5_nail_40 rfl hl (by decide) rfl (fun ls hl => ?_)
        refine lv_iload_n hx hb dX5_nail_41 rfl (lv_at hl 0 rfl) ?_
        refine lv_if_eq (tgt := 51) hx hb dX5_nail_42 (by decide) (fun z => ?_) (fun z => ?_)
        · exact absurd z (by decide)
        · refine lv_aload_n hx hb dX5_nail_45 rfl (lv_at hl 1 rfl) ?_
          refine lv_iload_n hx hb dX5_nail_46 rfl (lv_at hl 0 rfl) ?_
          refine zci hA (hDD _ rfl) hS (zrunV (As := [.int (-3 : Int32)]) (rest := []) S hK hA hE hP (hDD _ rfl) hS (mX5_no l D cI cJ cC G a_M _ M_pipes M_used M_taped M_at M_statements M_hasImage M_isKeeping M_cursor M_nextAt M_nextMost M_rowMany M_refused M_setting M_hole M_pipeAt M_chance M_weight M_tape M_letter M_letterAt M_told M_kept M_then M_row (-3 : Int32) _ h) kX5_no ml_X5_66 ⟨rfl, rfl, by decide, by decide⟩ (q0 := 0) (ci := 5) rfl rfl rfl rfl hl.1 rfl (Nat.le_of_ble_eq_true rfl) dX5_nail_47 ⟨Nat.zero_le _, Nat.zero_le _⟩) (fun r_7 M_refused_8 H locs h hP1 hk1 hS => ?_)
          try dsimp only at h
          have hP : va_P D vwCl ((bX5 cI cJ cC a_M M_pipes M_used M_taped M_at M_statements M_hasImage M_isKeeping M_cursor M_nextAt M_nextMost M_rowMany M_refused_8 M_setting M_hole M_pipeAt M_chance M_weight M_tape M_letter M_letterAt M_told M_kept M_then M_row)) H := hP1
          exact hret r_7 (M_refused_8, M_hole, M_weight) _ _ _ _ rfl h hP hS dX5_nail_50
    · replace h := h.1 z
      refine lv_bipush (v := (-2 : Int32)) hx hb dX5_nail_20 (by decide) ?_
      refine lv_goto (tgt := 40) hx hb dX5_nail_22 (by decide) ?_
      refine lv_istore_n (lv' := [(3, .int (-2 : Int32)), (0, .ref (a_M 0)), (1, .int p1), (2, .int p2)]) hx hb dX5_nail_40 rfl hl (by decide) rfl (fun ls hl => ?_)
      refine lv_iload_n hx hb dX5_nail_41 rfl (lv_at hl 0 rfl) ?_
      refine lv_if_eq (tgt := 51) hx hb dX5_nail_42 (by decide) (fun z => ?_) (fun z => ?_)
      · exact absurd z (by decide)
      · refine lv_aload_n hx hb dX5_nail_45 rfl (lv_at hl 1 rfl) ?_
        refine lv_iload_n hx hb dX5_nail_46 rfl (lv_at hl 0 rfl) ?_
        refine zci hA (hDD _ rfl) hS (zrunV (As := [.int (-2 : Int32)]) (rest := []) S hK hA hE hP (hDD _ rfl) hS (mX5_no l D cI cJ cC G a_M _ M_pipes M_used M_taped M_at M_statements M_hasImage M_isKeeping M_cursor M_nextAt M_nextMost M_rowMany M_refused M_setting M_hole M_pipeAt M_chance M_weight M_tape M_letter M_letterAt M_told M_kept M_then M_row (-2 : Int32) _ h) kX5_no ml_X5_66 ⟨rfl, rfl, by decide, by decide⟩ (q0 := 0) (ci := 5) rfl rfl rfl rfl hl.1 rfl (Nat.le_of_ble_eq_true rfl) dX5_nail_47 ⟨Nat.zero_le _, Nat.zero_le _⟩) (fun r_9 M_refused_10 H locs h hP1 hk1 hS => ?_)
        try dsimp only at h
        have hP : va_P D vwCl ((bX5 cI cJ cC a_M M_pipes M_used M_taped M_at M_statements M_hasImage M_isKeeping M_cursor M_nextAt M_nextMost M_rowMany M_refused_10 M_setting M_hole M_pipeAt M_chance M_weight M_tape M_letter M_letterAt M_told M_kept M_then M_row)) H := hP1
        exact hret r_9 (M_refused_10, M_hole, M_weight) _ _ _ _ rfl h hP hS dX5_nail_50
  · replace h := h.1 z
    refine lv_iconst (v := (-1 : Int32)) hx hb dX5_nail_7 (by decide) ?_
    refine lv_goto (tgt := 40) hx hb dX5_nail_8 (by decide) ?_
    refine lv_istore_n (lv' := [(3, .int (-1 : Int32)), (0, .ref (a_M 0)), (1, .int p1), (2, .int p2)]) hx hb dX5_nail_40 rfl hl (by decide) rfl (fun ls hl => ?_)
    refine lv_iload_n hx hb dX5_nail_41 rfl (lv_at hl 0 rfl) ?_
    refine lv_if_eq (tgt := 51) hx hb dX5_nail_42 (by decide) (fun z => ?_) (fun z => ?_)
    · exact absurd z (by decide)
    · refine lv_aload_n hx hb dX5_nail_45 rfl (lv_at hl 1 rfl) ?_
      refine lv_iload_n hx hb dX5_nail_46 rfl (lv_at hl 0 rfl) ?_
      refine zci hA (hDD _ rfl) hS (zrunV (As := [.int (-1 : Int32)]) (rest := []) S hK hA hE hP (hDD _ rfl) hS (mX5_no l D cI cJ cC G a_M _ M_pipes M_used M_taped M_at M_statements M_hasImage M_isKeeping M_cursor M_nextAt M_nextMost M_rowMany M_refused M_setting M_hole M_pipeAt M_chance M_weight M_tape M_letter M_letterAt M_told M_kept M_then M_row (-1 : Int32) _ h) kX5_no ml_X5_66 ⟨rfl, rfl, by decide, by decide⟩ (q0 := 0) (ci := 5) rfl rfl rfl rfl hl.1 rfl (Nat.le_of_ble_eq_true rfl) dX5_nail_47 ⟨Nat.zero_le _, Nat.zero_le _⟩) (fun r_11 M_refused_12 H locs h hP1 hk1 hS => ?_)
      try dsimp only at h
      have hP : va_P D vwCl ((bX5 cI cJ cC a_M M_pipes M_used M_taped M_at M_statements M_hasImage M_isKeeping M_cursor M_nextAt M_nextMost M_rowMany M_refused_12 M_setting M_hole M_pipeAt M_chance M_weight M_tape M_letter M_letterAt M_told M_kept M_then M_row)) H := hP1
      exact hret r_11 (M_refused_12, M_hole, M_weight) _ _ _ _ rfl h hP hS dX5_nail_50
def wpX5_pipe (post : Int32 → Int32 → (Nat → Int32) → (Nat → Int32) → (Nat → Int32) → Prop) (M_pipes : Int32) (M_refused : Nat → Int32) (M_pipeAt : Nat → Int32) (M_chance : Nat → Int32) (p1 : Int32) (p2 : Int32) : Prop := wpX5_isInch (fun (r_1 : Int32) => ((r_1 = (0 : Int32) → (wpX5_no (fun (r_15 : Int32) (M_refused_16 : Nat → Int32) => post r_15 M_pipes M_refused_16 M_pipeAt M_chance) M_refused (-1 : Int32))) ∧ (¬ (r_1 = (0 : Int32)) → (wpX5_bound (fun (r_2 : Int32) => ((r_2 = (0 : Int32) → (((M_pipes = (6 : Int32) → (wpX5_no (fun (r_13 : Int32) (M_refused_14 : Nat → Int32) => post r_13 M_pipes M_refused_14 M_pipeAt M_chance) M_refused (-6 : Int32))) ∧ (¬ (M_pipes = (6 : Int32)) → (((r_2 = (0 : Int32) → (wpX5_comesPipe (fun (M_pipes_8 : Int32) (M_pipeAt_9 : Nat → Int32) (M_chance_10 : Nat → Int32) => post (M_pipes_8 - (1 : Int32)) M_pipes_8 M_refused M_pipeAt_9 M_chance_10) M_pipes M_pipeAt M_chance p1 p2)) ∧ (¬ (r_2 = (0 : Int32)) → (wpX5_no (fun (r_11 : Int32) (M_refused_12 : Nat → Int32) => post r_11 M_pipes M_refused_12 M_pipeAt M_chance) M_refused r_2)))))))) ∧ (¬ (r_2 = (0 : Int32)) → (((r_2 = (0 : Int32) → (wpX5_comesPipe (fun (M_pipes_3 : Int32) (M_pipeAt_4 : Nat → Int32) (M_chance_5 : Nat → Int32) => post (M_pipes_3 - (1 : Int32)) M_pipes_3 M_refused M_pipeAt_4 M_chance_5) M_pipes M_pipeAt M_chance p1 p2)) ∧ (¬ (r_2 = (0 : Int32)) → (wpX5_no (fun (r_6 : Int32) (M_refused_7 : Nat → Int32) => post r_6 M_pipes M_refused_7 M_pipeAt M_chance) M_refused r_2))))))) p2 (0 : Int32) (9 : Int32))))) p1
set_option maxHeartbeats 4000000 in
set_option maxRecDepth 100000 in
theorem mX5_pipe (l : Launch) (D : va_G) (cI cJ cC : ClassId) (G : Nat → Nat → Nat) (a_M : Nat → Nat) (sz : Nat) (M_pipes : Int32) (M_used : Int32) (M_taped : Int32) (M_at : Int32) (M_statements : Int32) (M_hasImage : Int32) (M_isKeeping : Int32) (M_cursor : Int32) (M_nextAt : Int32) (M_nextMost : Int64) (M_rowMany : Int32) (M_refused : Nat → Int32) (M_setting : Nat → Int32) (M_hole : Nat → Int32) (M_pipeAt : Nat → Int32) (M_chance : Nat → Int32) (M_weight : Nat → Int32) (M_tape : Nat → Int32) (M_letter : Nat → Int32) (M_letterAt : Nat → Int32) (M_told : Nat → Int32) (M_kept : Nat → Int32) (M_then : Nat → Int64) (M_row : Nat → Int32) (p1 : Int32) (p2 : Int32) (post : Int32 → Int32 → (Nat → Int32) → (Nat → Int32) → (Nat → Int32) → Prop) (h : wpX5_pipe post M_pipes M_refused M_pipeAt M_chance p1 p2) : Met l yX5_pipe (wz yX5_pipe cX5_pipe 4 (some .int)) ({ frames := 1, cells := 0, slots := 0, locals := 22 }) (va_Pc [.ref (a_M 0), .int p1, .int p2] (PW D (tz cI cJ cC) G ((bX5 cI cJ cC a_M M_pipes M_used M_taped M_at M_statements M_hasImage M_isKeeping M_cursor M_nextAt M_nextMost M_rowMany M_refused M_setting M_hole M_pipeAt M_chance M_weight M_tape M_letter M_letterAt M_told M_kept M_then M_row)) sz)) (va_Qi (fun (r : Int32) (u : Int32 × (Nat → Int32) × (Nat → Int32) × (Nat → Int32)) => post r u.1 u.2.1 u.2.2.1 u.2.2.2) (fun (u : Int32 × (Nat → Int32) × (Nat → Int32) × (Nat → Int32)) t => va_P D vwCl ((bX5 cI cJ cC a_M u.1 M_used M_taped M_at M_statements M_hasImage M_isKeeping M_cursor M_nextAt M_nextMost M_rowMany u.2.1 M_setting M_hole u.2.2.1 u.2.2.2 M_weight M_tape M_letter M_letterAt M_told M_kept M_then M_row)) t.heap) (va_A ((bX5 cI cJ cC a_M M_pipes M_used M_taped M_at M_statements M_hasImage M_isKeeping M_cursor M_nextAt M_nextMost M_rowMany M_refused M_setting M_hole M_pipeAt M_chance M_weight M_tape M_letter M_letterAt M_told M_kept M_then M_row)) sz)) 0 0 (va_A ((bX5 cI cJ cC a_M M_pipes M_used M_taped M_at M_statements M_hasImage M_isKeeping M_cursor M_nextAt M_nextMost M_rowMany M_refused M_setting M_hole M_pipeAt M_chance M_weight M_tape M_letter M_letterAt M_told M_kept M_then M_row)) sz) := by
  refine zmi (gw := fun (u : Int32 × (Nat → Int32) × (Nat → Int32) × (Nat → Int32)) => (bX5 cI cJ cC a_M u.1 M_used M_taped M_at M_statements M_hasImage M_isKeeping M_cursor M_nextAt M_nextMost M_rowMany u.2.1 M_setting M_hole u.2.2.1 u.2.2.2 M_weight M_tape M_letter M_letterAt M_told M_kept M_then M_row)) (plainFor_of_name (by decide)) (Nat.le_of_ble_eq_true rfl) ?_
  intro p e s m below meth c A Q ls S hK hD hA hE hP hl hret
  obtain ⟨hx, hb, hml, hown, ht⟩ := id S
  have hS : va_S A s.heap s.heap [] := va_S.rf
  have hDD : ∀ ws : va_W, ws.map (fun q => q.1) = [a_M 0, a_M 1, a_M 2, a_M 3, a_M 4, a_M 5, a_M 6, a_M 7, a_M 8, a_M 9, a_M 10, a_M 11, a_M 12, a_M 13] → va_D A ws := fun ws hw => zD hD (hw.trans rfl)
  have hl : lv_has ls 4 [(0, .ref (a_M 0)), (1, .int p1), (2, .int p2)] := hl
  unfold wpX5_pipe at h
  refine lv_iload_n hx hb dX5_pipe_0 rfl (lv_at hl 1 rfl) ?_
  refine zci hA zD0 hS (zrunS (As := [.int p1]) (rest := []) S hK hA hE zP0 zD0 hS (mX5_isInch l D cI cJ cC G _ p1 _ h) kX5_isInch ml_X5_113 ⟨rfl, rfl, by decide, by decide⟩ rfl hl.1 rfl (Nat.le_of_ble_eq_true rfl) dX5_pipe_1 ⟨Nat.zero_le _, Nat.zero_le _⟩) (fun r_1 u H locs h hP1 hk1 hS => ?_)
  try dsimp only at h
  have hP : va_P D vwCl ((bX5 cI cJ cC a_M M_pipes M_used M_taped M_at M_statements M_hasImage M_isKeeping M_cursor M_nextAt M_nextMost M_rowMany M_refused M_setting M_hole M_pipeAt M_chance M_weight M_tape M_letter M_letterAt M_told M_kept M_then M_row)) H := zKeep hP hk1
  refine lv_if_ne (tgt := 11) hx hb dX5_pipe_4 (by decide) (fun z => ?_) (fun z => ?_)
  · replace h := h.2 z
    refine lv_iload_n hx hb dX5_pipe_11 rfl (lv_at hl 2 rfl) ?_
    refine lv_iconst (v := (0 : Int32)) hx hb dX5_pipe_12 (by decide) ?_
    refine lv_bipush (v := (9 : Int32)) hx hb dX5_pipe_13 (by decide) ?_
    refine zci hA zD0 hS (zrunS (As := [.int p2, .int (0 : Int32), .int (9 : Int32)]) (rest := []) S hK hA hE zP0 zD0 hS (mX5_bound l D cI cJ cC G _ p2 (0 : Int32) (9 : Int32) _ h) kX5_bound ml_X5_59 ⟨rfl, rfl, by decide, by decide⟩ rfl hl.1 rfl (Nat.le_of_ble_eq_true rfl) dX5_pipe_15 ⟨Nat.zero_le _, Nat.zero_le _⟩) (fun r_2 u H locs h hP1 hk1 hS => ?_)
    try dsimp only at h
    have hP : va_P D vwCl ((bX5 cI cJ cC a_M M_pipes M_used M_taped M_at M_statements M_hasImage M_isKeeping M_cursor M_nextAt M_nextMost M_rowMany M_refused M_setting M_hole M_pipeAt M_chance M_weight M_tape M_letter M_letterAt M_told M_kept M_then M_row)) H := zKeep hP hk1
    refine lv_istore_n (lv' := [(3, .int r_2), (0, .ref (a_M 0)), (1, .int p1), (2, .int p2)]) hx hb dX5_pipe_18 rfl hl (by decide) rfl (fun ls hl => ?_)
    refine lv_iload_n hx hb dX5_pipe_19 rfl (lv_at hl 0 rfl) ?_
    refine lv_if_ne (tgt := 35) hx hb dX5_pipe_20 (by decide) (fun z => ?_) (fun z => ?_)
    · replace h := h.2 z
      refine lv_iload_n hx hb dX5_pipe_35 rfl (lv_at hl 0 rfl) ?_
      refine lv_if_eq (tgt := 45) hx hb dX5_pipe_36 (by decide) (fun z => ?_) (fun z => ?_)
      · replace h := h.1 z
        refine lv_aload_n hx hb dX5_pipe_45 rfl (lv_at hl 1 rfl) ?_
        refine lv_iload_n hx hb dX5_pipe_46 rfl (lv_at hl 2 rfl) ?_
        refine lv_iload_n hx hb dX5_pipe_47 rfl (lv_at hl 3 rfl) ?_
        refine zcv hA (hDD _ rfl) hS (zrunV (As := [.int p1, .int p2]) (rest := []) S hK hA hE hP (hDD _ rfl) hS (mX5_comesPipe l D cI cJ cC G a_M _ M_pipes M_used M_taped M_at M_statements M_hasImage M_isKeeping M_cursor M_nextAt M_nextMost M_rowMany M_refused M_setting M_hole M_pipeAt M_chance M_weight M_tape M_letter M_letterAt M_told M_kept M_then M_row p1 p2 _ h) kX5_comesPipe ml_X5_131 ⟨rfl, rfl, by decide, by decide⟩ (q0 := 0) (ci := 5) rfl rfl rfl rfl hl.1 rfl (Nat.le_of_ble_eq_true rfl) dX5_pipe_48 ⟨Nat.zero_le _, Nat.zero_le _⟩) (fun u H locs h hP1 hk1 hS => ?_)
        obtain ⟨M_pipes_3, M_pipeAt_4, M_chance_5⟩ := u
        dsimp only at h
        have hP : va_P D vwCl ((bX5 cI cJ cC a_M M_pipes_3 M_used M_taped M_at M_statements M_hasImage M_isKeeping M_cursor M_nextAt M_nextMost M_rowMany M_refused M_setting M_hole M_pipeAt_4 M_chance_5 M_weight M_tape M_letter M_letterAt M_told M_kept M_then M_row)) H := hP1
        refine lv_aload_n hx hb dX5_pipe_51 rfl (lv_at hl 1 rfl) ?_
        refine va_get (D := D) (ci := 5) (v := .int M_pipes_3) (C := RX5) (T := TX5) (N := 24) hx hb ht inX5 hown hK hP 0 rfl rfl 6 (by decide) (ht _ fl_X5_128) (fun _ h9 => h9) rfl dX5_pipe_52 ?_
        refine lv_iconst (v := (1 : Int32)) hx hb dX5_pipe_55 (by decide) ?_
        refine lv_isub hx hb dX5_pipe_56 ?_
        exact hret (M_pipes_3 - (1 : Int32)) (M_pipes_3, M_refused, M_pipeAt_4, M_chance_5) _ _ _ _ rfl h hP hS dX5_pipe_57
      · replace h := h.2 z
        refine lv_aload_n hx hb dX5_pipe_39 rfl (lv_at hl 1 rfl) ?_
        refine lv_iload_n hx hb dX5_pipe_40 rfl (lv_at hl 0 rfl) ?_
        refine zci hA (hDD _ rfl) hS (zrunV (As := [.int r_2]) (rest := []) S hK hA hE hP (hDD _ rfl) hS (mX5_no l D cI cJ cC G a_M _ M_pipes M_used M_taped M_at M_statements M_hasImage M_isKeeping M_cursor M_nextAt M_nextMost M_rowMany M_refused M_setting M_hole M_pipeAt M_chance M_weight M_tape M_letter M_letterAt M_told M_kept M_then M_row r_2 _ h) kX5_no ml_X5_66 ⟨rfl, rfl, by decide, by decide⟩ (q0 := 0) (ci := 5) rfl rfl rfl rfl hl.1 rfl (Nat.le_of_ble_eq_true rfl) dX5_pipe_41 ⟨Nat.zero_le _, Nat.zero_le _⟩) (fun r_6 M_refused_7 H locs h hP1 hk1 hS => ?_)
        try dsimp only at h
        have hP : va_P D vwCl ((bX5 cI cJ cC a_M M_pipes M_used M_taped M_at M_statements M_hasImage M_isKeeping M_cursor M_nextAt M_nextMost M_rowMany M_refused_7 M_setting M_hole M_pipeAt M_chance M_weight M_tape M_letter M_letterAt M_told M_kept M_then M_row)) H := hP1
        exact hret r_6 (M_pipes, M_refused_7, M_pipeAt, M_chance) _ _ _ _ rfl h hP hS dX5_pipe_44
    · replace h := h.1 z
      refine lv_aload_n hx hb dX5_pipe_23 rfl (lv_at hl 1 rfl) ?_
      refine va_get (D := D) (ci := 5) (v := .int M_pipes) (C := RX5) (T := TX5) (N := 24) hx hb ht inX5 hown hK hP 0 rfl rfl 6 (by decide) (ht _ fl_X5_128) (fun _ h9 => h9) rfl dX5_pipe_24 ?_
      refine lv_bipush (v := (6 : Int32)) hx hb dX5_pipe_27 (by decide) ?_
      refine lv_icmp_ne (tgt := 35) hx hb dX5_pipe_29 (by decide) (fun z => ?_) (fun z => ?_)
      · replace h := h.2 z
        refine lv_iload_n hx hb dX5_pipe_35 rfl (lv_at hl 0 rfl) ?_
        refine lv_if_eq (tgt := 45) hx hb dX5_pipe_36 (by decide) (fun z => ?_) (fun z => ?_)
        · replace h := h.1 z
          refine lv_aload_n hx hb dX5_pipe_45 rfl (lv_at hl 1 rfl) ?_
          refine lv_iload_n hx hb dX5_pipe_46 rfl (lv_at hl 2 rfl) ?_
          refine lv_iload_n hx hb dX5_pipe_47 rfl (lv_at hl 3 rfl) ?_
          refine zcv hA (hDD _ rfl) hS (zrunV (As := [.int p1, .int p2]) (rest := []) S hK hA hE hP (hDD _ rfl) hS (mX5_comesPipe l D cI cJ cC G a_M _ M_pipes M_used M_taped M_at M_statements M_hasImage M_isKeeping M_cursor M_nextAt M_nextMost M_rowMany M_refused M_setting M_hole M_pipeAt M_chance M_weight M_tape M_letter M_letterAt M_told M_kept M_then M_row p1 p2 _ h) kX5_comesPipe ml_X5_131 ⟨rfl, rfl, by decide, by decide⟩ (q0 := 0) (ci := 5) rfl rfl rfl rfl hl.1 rfl (Nat.le_of_ble_eq_true rfl) dX5_pipe_48 ⟨Nat.zero_le _, Nat.zero_le _⟩) (fun u H locs h hP1 hk1 hS => ?_)
          obtain ⟨M_pipes_8, M_pipeAt_9, M_chance_10⟩ := u
          dsimp only at h
          have hP : va_P D vwCl ((bX5 cI cJ cC a_M M_pipes_8 M_used M_taped M_at M_statements M_hasImage M_isKeeping M_cursor M_nextAt M_nextMost M_rowMany M_refused M_setting M_hole M_pipeAt_9 M_chance_10 M_weight M_tape M_letter M_letterAt M_told M_kept M_then M_row)) H := hP1
          refine lv_aload_n hx hb dX5_pipe_51 rfl (lv_at hl 1 rfl) ?_
          refine va_get (D := D) (ci := 5) (v := .int M_pipes_8) (C := RX5) (T := TX5) (N := 24) hx hb ht inX5 hown hK hP 0 rfl rfl 6 (by decide) (ht _ fl_X5_128) (fun _ h9 => h9) rfl dX5_pipe_52 ?_
          refine lv_iconst (v := (1 : Int32)) hx hb dX5_pipe_55 (by decide) ?_
          refine lv_isub hx hb dX5_pipe_56 ?_
          exact hret (M_pipes_8 - (1 : Int32)) (M_pipes_8, M_refused, M_pipeAt_9, M_chance_10) _ _ _ _ rfl h hP hS dX5_pipe_57
        · replace h := h.2 z
          refine lv_aload_n hx hb dX5_pipe_39 rfl (lv_at hl 1 rfl) ?_
          refine lv_iload_n hx hb dX5_pipe_40 rfl (lv_at hl 0 rfl) ?_
          refine zci hA (hDD _ rfl) hS (zrunV (As := [.int r_2]) (rest := []) S hK hA hE hP (hDD _ rfl) hS (mX5_no l D cI cJ cC G a_M _ M_pipes M_used M_taped M_at M_statements M_hasImage M_isKeeping M_cursor M_nextAt M_nextMost M_rowMany M_refused M_setting M_hole M_pipeAt M_chance M_weight M_tape M_letter M_letterAt M_told M_kept M_then M_row r_2 _ h) kX5_no ml_X5_66 ⟨rfl, rfl, by decide, by decide⟩ (q0 := 0) (ci := 5) rfl rfl rfl rfl hl.1 rfl (Nat.le_of_ble_eq_true rfl) dX5_pipe_41 ⟨Nat.zero_le _, Nat.zero_le _⟩) (fun r_11 M_refused_12 H locs h hP1 hk1 hS => ?_)
          try dsimp only at h
          have hP : va_P D vwCl ((bX5 cI cJ cC a_M M_pipes M_used M_taped M_at M_statements M_hasImage M_isKeeping M_cursor M_nextAt M_nextMost M_rowMany M_refused_12 M_setting M_hole M_pipeAt M_chance M_weight M_tape M_letter M_letterAt M_told M_kept M_then M_row)) H := hP1
          exact hret r_11 (M_pipes, M_refused_12, M_pipeAt, M_chance) _ _ _ _ rfl h hP hS dX5_pipe_44
      · replace h := h.1 z
        refine lv_bipush (v := (-6 : Int32)) hx hb dX5_pipe_32 (by decide) ?_
        refine lv_istore_n (lv' := [(3, .int (-6 : Int32)), (0, .ref (a_M 0)), (1, .int p1), (2, .int p2)]) hx hb dX5_pipe_34 rfl hl (by decide) rfl (fun ls hl => ?_)
        refine lv_iload_n hx hb dX5_pipe_35 rfl (lv_at hl 0 rfl) ?_
        refine lv_if_eq (tgt := 45) hx hb dX5_pipe_36 (by decide) (fun z => ?_) (fun z => ?_)
        · exact absurd z (by decide)
        · refine lv_aload_n hx hb dX5_pipe_39 rfl (lv_at hl 1 rfl) ?_
          refine lv_iload_n hx hb dX5_pipe_40 rfl (lv_at hl 0 rfl) ?_
          refine zci hA (hDD _ rfl) hS (zrunV (As := [.int (-6 : Int32)]) (rest := []) S hK hA hE hP (hDD _ rfl) hS (mX5_no l D cI cJ cC G a_M _ M_pipes M_used M_taped M_at M_statements M_hasImage M_isKeeping M_cursor M_nextAt M_nextMost M_rowMany M_refused M_setting M_hole M_pipeAt M_chance M_weight M_tape M_letter M_letterAt M_told M_kept M_then M_row (-6 : Int32) _ h) kX5_no ml_X5_66 ⟨rfl, rfl, by decide, by decide⟩ (q0 := 0) (ci := 5) rfl rfl rfl rfl hl.1 rfl (Nat.le_of_ble_eq_true rfl) dX5_pipe_41 ⟨Nat.zero_le _, Nat.zero_le _⟩) (fun r_13 M_refused_14 H locs h hP1 hk1 hS => ?_)
          try dsimp only at h
          have hP : va_P D vwCl ((bX5 cI cJ cC a_M M_pipes M_used M_taped M_at M_statements M_hasImage M_isKeeping M_cursor M_nextAt M_nextMost M_rowMany M_refused_14 M_setting M_hole M_pipeAt M_chance M_weight M_tape M_letter M_letterAt M_told M_kept M_then M_row)) H := hP1
          exact hret r_13 (M_pipes, M_refused_14, M_pipeAt, M_chance) _ _ _ _ rfl h hP hS dX5_pipe_44
  · replace h := h.1 z
    refine lv_iconst (v := (-1 : Int32)) hx hb dX5_pipe_7 (by decide) ?_
    refine lv_goto (tgt := 18) hx hb dX5_pipe_8 (by decide) ?_
    refine lv_istore_n (lv' := [(3, .int (-1 : Int32)), (0, .ref (a_M 0)), (1, .int p1), (2, .int p2)]) hx hb dX5_pipe_18 rfl hl (by decide) rfl (fun ls hl => ?_)
    refine lv_iload_n hx hb dX5_pipe_19 rfl (lv_at hl 0 rfl) ?_
    refine lv_if_ne (tgt := 35) hx hb dX5_pipe_20 (by decide) (fun z => ?_) (fun z => ?_)
    · refine lv_iload_n hx hb dX5_pipe_35 rfl (lv_at hl 0 rfl) ?_
      refine lv_if_eq (tgt := 45) hx hb dX5_pipe_36 (by decide) (fun z => ?_) (fun z => ?_)
      · exact absurd z (by decide)
      · refine lv_aload_n hx hb dX5_pipe_39 rfl (lv_at hl 1 rfl) ?_
        refine lv_iload_n hx hb dX5_pipe_40 rfl (lv_at hl 0 rfl) ?_
        refine zci hA (hDD _ rfl) hS (zrunV (As := [.int (-1 : Int32)]) (rest := []) S hK hA hE hP (hDD _ rfl) hS (mX5_no l D cI cJ cC G a_M _ M_pipes M_used M_taped M_at M_statements M_hasImage M_isKeeping M_cursor M_nextAt M_nextMost M_rowMany M_refused M_setting M_hole M_pipeAt M_chance M_weight M_tape M_letter M_letterAt M_told M_kept M_then M_row (-1 : Int32) _ h) kX5_no ml_X5_66 ⟨rfl, rfl, by decide, by decide⟩ (q0 := 0) (ci := 5) rfl rfl rfl rfl hl.1 rfl (Nat.le_of_ble_eq_true rfl) dX5_pipe_41 ⟨Nat.zero_le _, Nat.zero_le _⟩) (fun r_15 M_refused_16 H locs h hP1 hk1 hS => ?_)
        try dsimp only at h
        have hP : va_P D vwCl ((bX5 cI cJ cC a_M M_pipes M_used M_taped M_at M_statements M_hasImage M_isKeeping M_cursor M_nextAt M_nextMost M_rowMany M_refused_16 M_setting M_hole M_pipeAt M_chance M_weight M_tape M_letter M_letterAt M_told M_kept M_then M_row)) H := hP1
        exact hret r_15 (M_pipes, M_refused_16, M_pipeAt, M_chance) _ _ _ _ rfl h hP hS dX5_pipe_44
    · exact absurd z (by decide)
def lpX5_chancesAt_4 (K : Int32 → Int32 → Prop) (x1 : Int32) (M_pipes : Int32) (M_pipeAt : Nat → Int32) (M_chance : Nat → Int32) : Nat → Int32 → Int32 → Prop
  | 0, _, _ => False
  | n + 1, x2, x3 => ((M_pipes ≤ x3 → (K x2 x3)) ∧ (¬ (M_pipes ≤ x3) → (vp_in x3 6 ∧ ((((M_pipeAt x3.toNatClampNeg) = x1 → (vp_in x3 6 ∧ (lpX5_chancesAt_4 K x1 M_pipes M_pipeAt M_chance n (x2 + (M_chance x3.toNatClampNeg)) (x3 + (1 : Int32))))) ∧ (¬ ((M_pipeAt x3.toNatClampNeg) = x1) → (lpX5_chancesAt_4 K x1 M_pipes M_pipeAt M_chance n (x2 + (0 : Int32)) (x3 + (1 : Int32)))))))))
set_option maxHeartbeats 4000000 in
set_option maxRecDepth 100000 in
theorem wX5_chancesAt_4 (l : Launch) (D : va_G) (cI cJ cC : ClassId) (G : Nat → Nat → Nat) (a_M : Nat → Nat) {p : Program} {e : Env} {s : State} {m : MethodId} {below : List Frame} {meth : Method} {c : Code} {A : Nat → Prop} {Q : State → Prop} (p1 : Int32) (x1 : Int32) (M_pipes : Int32) (M_used : Int32) (M_taped : Int32) (M_at : Int32) (M_statements : Int32) (M_hasImage : Int32) (M_isKeeping : Int32) (M_cursor : Int32) (M_nextAt : Int32) (M_nextMost : Int64) (M_rowMany : Int32) (M_refused : Nat → Int32) (M_setting : Nat → Int32) (M_hole : Nat → Int32) (M_pipeAt : Nat → Int32) (M_chance : Nat → Int32) (M_weight : Nat → Int32) (M_tape : Nat → Int32) (M_letter : Nat → Int32) (M_letterAt : Nat → Int32) (M_told : Nat → Int32) (M_kept : Nat → Int32) (M_then : Nat → Int64) (M_row : Nat → Int32) (K : Int32 → Int32 → Prop) (S : CallFix p m c cX5_chancesAt 4 s ([.ref (a_M 0), .int p1] : List Value).toArray bg RX5) (hK : va_K D vwCl (tz cI cJ cC) s) (hDD : ∀ ws : va_W, ws.map (fun q => q.1) = [a_M 0, a_M 1, a_M 2, a_M 3, a_M 4, a_M 5, a_M 6, a_M 7, a_M 8, a_M 9, a_M 10, a_M 11, a_M 12, a_M 13] → va_D A ws) (hA : ∀ q, s.heap.size ≤ q → A q) (hE : EV G A s) (hKK : ∀ (x2 : Int32) (x3 : Int32) (H : Heap) (locs : List Loc) (ls : Array Slot), K x2 x3 → va_P D vwCl ((bX5 cI cJ cC a_M M_pipes M_used M_taped M_at M_statements M_hasImage M_isKeeping M_cursor M_nextAt M_nextMost M_rowMany M_refused M_setting M_hole M_pipeAt M_chance M_weight M_tape M_letter M_letterAt M_told M_kept M_then M_row)) H → va_S A s.heap H locs → lv_has ls 4 [(2, .int x2)] → W p l e ({ frames := 0, cells := 0, slots := 0, locals := 0 }) s m ([.ref (a_M 0), .int p1] : List Value).toArray below meth c H locs 0 0 Q (F0 m 41 ls [])) :
    ∀ (n : Nat) (x2 : Int32) (x3 : Int32) (H : Heap) (locs : List Loc) (ls : Array Slot), lpX5_chancesAt_4 K x1 M_pipes M_pipeAt M_chance n x2 x3 → va_P D vwCl ((bX5 cI cJ cC a_M M_pipes M_used M_taped M_at M_statements M_hasImage M_isKeeping M_cursor M_nextAt M_nextMost M_rowMany M_refused M_setting M_hole M_pipeAt M_chance M_weight M_tape M_letter M_letterAt M_told M_kept M_then M_row)) H → va_S A s.heap H locs → lv_has ls 4 [(0, .ref (a_M 0)), (1, .int x1), (2, .int x2), (3, .int x3)] → W p l e ({ frames := 0, cells := 0, slots := 0, locals := 0 }) s m ([.ref (a_M 0), .int p1] : List Value).toArray below meth c H locs 0 0 Q (F0 m 4 ls []) := by
  obtain ⟨hx, hb, hml, hown, ht⟩ := id S
  intro n
  induction n with
  | zero =>
    intro x2 x3 H locs ls h
    exact absurd h (by simp [lpX5_chancesAt_4])
  | succ n ih =>
    intro x2 x3 H locs ls h hP hS hl
    rw [lpX5_chancesAt_4] at h
    refine lv_iload_n hx hb dX5_chancesAt_4 rfl (lv_at hl 3 rfl) ?_
    refine lv_aload_n hx hb dX5_chancesAt_5 rfl (lv_at hl 0 rfl) ?_
    refine va_get (D := D) (ci := 5) (v := .int M_pipes) (C := RX5) (T := TX5) (N := 24) hx hb ht inX5 hown hK hP 0 rfl rfl 6 (by decide) (ht _ fl_X5_128) (fun _ h9 => h9) rfl dX5_chancesAt_6 ?_
    refine lv_icmp_ge (tgt := 41) hx hb dX5_chancesAt_9 (by decide) (fun z => ?_) (fun z => ?_)
    · replace h := h.1 z
      exact hKK x2 x3 _ _ _ h hP hS (lv_sub hl [2] rfl)
    · replace h := h.2 z
      refine lv_iload_n hx hb dX5_chancesAt_12 rfl (lv_at hl 2 rfl) ?_
      refine lv_aload_n hx hb dX5_chancesAt_13 rfl (lv_at hl 0 rfl) ?_
      refine va_get (D := D) (ci := 5) (v := .ref (a_M 4)) (C := RX5) (T := TX5) (N := 24) hx hb ht inX5 hown hK hP 0 rfl rfl 3 (by decide) (ht _ fl_X5_19) (fun _ h9 => h9) rfl dX5_chancesAt_14 ?_
      refine lv_iload_n hx hb dX5_chancesAt_17 rfl (lv_at hl 3 rfl) ?_
      obtain ⟨hin, h⟩ := h
      refine va_iald hx hb hK hP 4 0 rfl rfl hin dX5_chancesAt_18 ?_
      refine lv_iload_n hx hb dX5_chancesAt_19 rfl (lv_at hl 1 rfl) ?_
      refine lv_icmp_ne (tgt := 32) hx hb dX5_chancesAt_20 (by decide) (fun z => ?_) (fun z => ?_)
      · replace h := h.2 z
        refine lv_iconst (v := (0 : Int32)) hx hb dX5_chancesAt_32 (by decide) ?_
        refine lv_iadd hx hb dX5_chancesAt_33 ?_
        refine lv_istore_n (lv' := [(2, .int (x2 + (0 : Int32))), (0, .ref (a_M 0)), (1, .int x1), (3, .int x3)]) hx hb dX5_chancesAt_34 rfl hl (by decide) rfl (fun ls hl => ?_)
        refine lv_iinc (v := x3 + (1 : Int32)) (lv' := [(3, .int (x3 + (1 : Int32))), (2, .int (x2 + (0 : Int32))), (0, .ref (a_M 0)), (1, .int x1)]) hx hb dX5_chancesAt_35 hl (k := 3) rfl (by rfl) (by decide) rfl (fun ls hl => ?_)
        refine lv_goto (tgt := 4) hx hb dX5_chancesAt_38 (by decide) ?_
        exact ih (x2 + (0 : Int32)) (x3 + (1 : Int32)) _ _ _ h hP hS (lv_sub hl [2, 3, 1, 0] rfl)
      · replace h := h.1 z
        refine lv_aload_n hx hb dX5_chancesAt_23 rfl (lv_at hl 0 rfl) ?_
        refine va_get (D := D) (ci := 5) (v := .ref (a_M 5)) (C := RX5) (T := TX5) (N := 24) hx hb ht inX5 hown hK hP 0 rfl rfl 4 (by decide) (ht _ fl_X5_22) (fun _ h9 => h9) rfl dX5_chancesAt_24 ?_
        refine lv_iload_n hx hb dX5_chancesAt_27 rfl (lv_at hl 3 rfl) ?_
        obtain ⟨hin, h⟩ := h
        refine va_iald hx hb hK hP 5 0 rfl rfl hin dX5_chancesAt_28 ?_
        refine lv_goto (tgt := 33) hx hb dX5_chancesAt_29 (by decide) ?_
        refine lv_iadd hx hb dX5_chancesAt_33 ?_
        refine lv_istore_n (lv' := [(2, .int (x2 + (M_chance x3.toNatClampNeg))), (0, .ref (a_M 0)), (1, .int x1), (3, .int x3)]) hx hb dX5_chancesAt_34 rfl hl (by decide) rfl (fun ls hl => ?_)
        refine lv_iinc (v := x3 + (1 : Int32)) (lv' := [(3, .int (x3 + (1 : Int32))), (2, .int (x2 + (M_chance x3.toNatClampNeg))), (0, .ref (a_M 0)), (1, .int x1)]) hx hb dX5_chancesAt_35 hl (k := 3) rfl (by rfl) (by decide) rfl (fun ls hl => ?_)
        refine lv_goto (tgt := 4) hx hb dX5_chancesAt_38 (by decide) ?_
        exact ih (x2 + (M_chance x3.toNatClampNeg)) (x3 + (1 : Int32)) _ _ _ h hP hS (lv_sub hl [2, 3, 1, 0] rfl)
def wpX5_chancesAt (post : Int32 → Prop) (M_pipes : Int32) (M_pipeAt : Nat → Int32) (M_chance : Nat → Int32) (p1 : Int32) : Prop := ∃ n_1 : Nat, lpX5_chancesAt_4 (fun (x2_2 : Int32) (x3_3 : Int32) => ((x2_2 ≤ (10 : Int32) → (post x2_2)) ∧ (¬ (x2_2 ≤ (10 : Int32)) → (post (10 : Int32))))) p1 M_pipes M_pipeAt M_chance n_1 (0 : Int32) (0 : Int32)
set_option maxHeartbeats 4000000 in
set_option maxRecDepth 100000 in
theorem mX5_chancesAt (l : Launch) (D : va_G) (cI cJ cC : ClassId) (G : Nat → Nat → Nat) (a_M : Nat → Nat) (sz : Nat) (M_pipes : Int32) (M_used : Int32) (M_taped : Int32) (M_at : Int32) (M_statements : Int32) (M_hasImage : Int32) (M_isKeeping : Int32) (M_cursor : Int32) (M_nextAt : Int32) (M_nextMost : Int64) (M_rowMany : Int32) (M_refused : Nat → Int32) (M_setting : Nat → Int32) (M_hole : Nat → Int32) (M_pipeAt : Nat → Int32) (M_chance : Nat → Int32) (M_weight : Nat → Int32) (M_tape : Nat → Int32) (M_letter : Nat → Int32) (M_letterAt : Nat → Int32) (M_told : Nat → Int32) (M_kept : Nat → Int32) (M_then : Nat → Int64) (M_row : Nat → Int32) (p1 : Int32) (post : Int32 → Prop) (h : wpX5_chancesAt post M_pipes M_pipeAt M_chance p1) : Met l yX5_chancesAt (wz yX5_chancesAt cX5_chancesAt 4 (some .int)) ({ frames := 0, cells := 0, slots := 0, locals := 0 }) (va_Pc [.ref (a_M 0), .int p1] (PW D (tz cI cJ cC) G ((bX5 cI cJ cC a_M M_pipes M_used M_taped M_at M_statements M_hasImage M_isKeeping M_cursor M_nextAt M_nextMost M_rowMany M_refused M_setting M_hole M_pipeAt M_chance M_weight M_tape M_letter M_letterAt M_told M_kept M_then M_row)) sz)) (va_Qi (fun (r : Int32) (u : Unit) => post r ) (fun (u : Unit) t => va_P D vwCl ((bX5 cI cJ cC a_M M_pipes M_used M_taped M_at M_statements M_hasImage M_isKeeping M_cursor M_nextAt M_nextMost M_rowMany M_refused M_setting M_hole M_pipeAt M_chance M_weight M_tape M_letter M_letterAt M_told M_kept M_then M_row)) t.heap) (va_A ((bX5 cI cJ cC a_M M_pipes M_used M_taped M_at M_statements M_hasImage M_isKeeping M_cursor M_nextAt M_nextMost M_rowMany M_refused M_setting M_hole M_pipeAt M_chance M_weight M_tape M_letter M_letterAt M_told M_kept M_then M_row)) sz)) 0 0 (va_A ((bX5 cI cJ cC a_M M_pipes M_used M_taped M_at M_statements M_hasImage M_isKeeping M_cursor M_nextAt M_nextMost M_rowMany M_refused M_setting M_hole M_pipeAt M_chance M_weight M_tape M_letter M_letterAt M_told M_kept M_then M_row)) sz) := by
  refine zmi (gw := fun (u : Unit) => (bX5 cI cJ cC a_M M_pipes M_used M_taped M_at M_statements M_hasImage M_isKeeping M_cursor M_nextAt M_nextMost M_rowMany M_refused M_setting M_hole M_pipeAt M_chance M_weight M_tape M_letter M_letterAt M_told M_kept M_then M_row)) (plainFor_of_name (by decide)) (Nat.le_of_ble_eq_true rfl) ?_
  intro p e s m below meth c A Q ls S hK hD hA hE hP hl hret
  obtain ⟨hx, hb, hml, hown, ht⟩ := id S
  have hS : va_S A s.heap s.heap [] := va_S.rf
  have hDD : ∀ ws : va_W, ws.map (fun q => q.1) = [a_M 0, a_M 1, a_M 2, a_M 3, a_M 4, a_M 5, a_M 6, a_M 7, a_M 8, a_M 9, a_M 10, a_M 11, a_M 12, a_M 13] → va_D A ws := fun ws hw => zD hD (hw.trans rfl)
  have hl : lv_has ls 4 [(0, .ref (a_M 0)), (1, .int p1)] := hl
  unfold wpX5_chancesAt at h
  refine lv_iconst (v := (0 : Int32)) hx hb dX5_chancesAt_0 (by decide) ?_
  refine lv_istore_n (lv' := [(2, .int (0 : Int32)), (0, .ref (a_M 0)), (1, .int p1)]) hx hb dX5_chancesAt_1 rfl hl (by decide) rfl (fun ls hl => ?_)
  refine lv_iconst (v := (0 : Int32)) hx hb dX5_chancesAt_2 (by decide) ?_
  refine lv_istore_n (lv' := [(3, .int (0 : Int32)), (2, .int (0 : Int32)), (0, .ref (a_M 0)), (1, .int p1)]) hx hb dX5_chancesAt_3 rfl hl (by decide) rfl (fun ls hl => ?_)
  obtain ⟨n_1, h⟩ := h
  refine wX5_chancesAt_4 l D cI cJ cC G a_M p1 p1 M_pipes M_used M_taped M_at M_statements M_hasImage M_isKeeping M_cursor M_nextAt M_nextMost M_rowMany M_refused M_setting M_hole M_pipeAt M_chance M_weight M_tape M_letter M_letterAt M_told M_kept M_then M_row _ S hK hDD hA hE (fun x2_2 x3_3 H locs ls h hP hS hl => ?_) n_1 (0 : Int32) (0 : Int32) _ _ _ h hP hS (lv_sub hl [2, 3, 1, 0] rfl)
  try dsimp only at h
  refine lv_iload_n hx hb dX5_chancesAt_41 rfl (lv_at hl 0 rfl) ?_
  refine lv_bipush (v := (10 : Int32)) hx hb dX5_chancesAt_42 (by decide) ?_
  refine lv_icmp_le (tgt := 52) hx hb dX5_chancesAt_44 (by decide) (fun z => ?_) (fun z => ?_)
  · replace h := h.1 z
    refine lv_iload_n hx hb dX5_chancesAt_52 rfl (lv_at hl 0 rfl) ?_
    exact hret x2_2 () _ _ _ _ rfl h hP hS dX5_chancesAt_53
  · replace h := h.2 z
    refine lv_bipush (v := (10 : Int32)) hx hb dX5_chancesAt_47 (by decide) ?_
    refine lv_goto (tgt := 53) hx hb dX5_chancesAt_49 (by decide) ?_
    exact hret (10 : Int32) () _ _ _ _ rfl h hP hS dX5_chancesAt_53
def wpX5_risk (post : Int32 → (Nat → Int32) → Prop) (M_pipes : Int32) (M_refused : Nat → Int32) (M_pipeAt : Nat → Int32) (M_chance : Nat → Int32) (p1 : Int32) : Prop := wpX5_isInch (fun (r_1 : Int32) => ((r_1 = (0 : Int32) → (wpX5_no (fun (r_2 : Int32) (M_refused_3 : Nat → Int32) => post r_2 M_refused_3) M_refused (-1 : Int32))) ∧ (¬ (r_1 = (0 : Int32)) → (wpX5_chancesAt (fun (r_4 : Int32) => post r_4 M_refused) M_pipes M_pipeAt M_chance p1)))) p1
set_option maxHeartbeats 4000000 in
set_option maxRecDepth 100000 in
theorem mX5_risk (l : Launch) (D : va_G) (cI cJ cC : ClassId) (G : Nat → Nat → Nat) (a_M : Nat → Nat) (sz : Nat) (M_pipes : Int32) (M_used : Int32) (M_taped : Int32) (M_at : Int32) (M_statements : Int32) (M_hasImage : Int32) (M_isKeeping : Int32) (M_cursor : Int32) (M_nextAt : Int32) (M_nextMost : Int64) (M_rowMany : Int32) (M_refused : Nat → Int32) (M_setting : Nat → Int32) (M_hole : Nat → Int32) (M_pipeAt : Nat → Int32) (M_chance : Nat → Int32) (M_weight : Nat → Int32) (M_tape : Nat → Int32) (M_letter : Nat → Int32) (M_letterAt : Nat → Int32) (M_told : Nat → Int32) (M_kept : Nat → Int32) (M_then : Nat → Int64) (M_row : Nat → Int32) (p1 : Int32) (post : Int32 → (Nat → Int32) → Prop) (h : wpX5_risk post M_pipes M_refused M_pipeAt M_chance p1) : Met l yX5_risk (wz yX5_risk cX5_risk 2 (some .int)) ({ frames := 1, cells := 0, slots := 0, locals := 23 }) (va_Pc [.ref (a_M 0), .int p1] (PW D (tz cI cJ cC) G ((bX5 cI cJ cC a_M M_pipes M_used M_taped M_at M_statements M_hasImage M_isKeeping M_cursor M_nextAt M_nextMost M_rowMany M_refused M_setting M_hole M_pipeAt M_chance M_weight M_tape M_letter M_letterAt M_told M_kept M_then M_row)) sz)) (va_Qi (fun (r : Int32) (u : (Nat → Int32)) => post r u) (fun (u : (Nat → Int32)) t => va_P D vwCl ((bX5 cI cJ cC a_M M_pipes M_used M_taped M_at M_statements M_hasImage M_isKeeping M_cursor M_nextAt M_nextMost M_rowMany u M_setting M_hole M_pipeAt M_chance M_weight M_tape M_letter M_letterAt M_told M_kept M_then M_row)) t.heap) (va_A ((bX5 cI cJ cC a_M M_pipes M_used M_taped M_at M_statements M_hasImage M_isKeeping M_cursor M_nextAt M_nextMost M_rowMany M_refused M_setting M_hole M_pipeAt M_chance M_weight M_tape M_letter M_letterAt M_told M_kept M_then M_row)) sz)) 0 0 (va_A ((bX5 cI cJ cC a_M M_pipes M_used M_taped M_at M_statements M_hasImage M_isKeeping M_cursor M_nextAt M_nextMost M_rowMany M_refused M_setting M_hole M_pipeAt M_chance M_weight M_tape M_letter M_letterAt M_told M_kept M_then M_row)) sz) := by
  refine zmi (gw := fun (u : (Nat → Int32)) => (bX5 cI cJ cC a_M M_pipes M_used M_taped M_at M_statements M_hasImage M_isKeeping M_cursor M_nextAt M_nextMost M_rowMany u M_setting M_hole M_pipeAt M_chance M_weight M_tape M_letter M_letterAt M_told M_kept M_then M_row)) (plainFor_of_name (by decide)) (Nat.le_of_ble_eq_true rfl) ?_
  intro p e s m below meth c A Q ls S hK hD hA hE hP hl hret
  obtain ⟨hx, hb, hml, hown, ht⟩ := id S
  have hS : va_S A s.heap s.heap [] := va_S.rf
  have hDD : ∀ ws : va_W, ws.map (fun q => q.1) = [a_M 0, a_M 1, a_M 2, a_M 3, a_M 4, a_M 5, a_M 6, a_M 7, a_M 8, a_M 9, a_M 10, a_M 11, a_M 12, a_M 13] → va_D A ws := fun ws hw => zD hD (hw.trans rfl)
  have hl : lv_has ls 2 [(0, .ref (a_M 0)), (1, .int p1)] := hl
  unfold wpX5_risk at h
  refine lv_iload_n hx hb dX5_risk_0 rfl (lv_at hl 1 rfl) ?_
  refine zci hA zD0 hS (zrunS (As := [.int p1]) (rest := []) S hK hA hE zP0 zD0 hS (mX5_isInch l D cI cJ cC G _ p1 _ h) kX5_isInch ml_X5_113 ⟨rfl, rfl, by decide, by decide⟩ rfl hl.1 rfl (Nat.le_of_ble_eq_true rfl) dX5_risk_1 ⟨Nat.zero_le _, Nat.zero_le _⟩) (fun r_1 u H locs h hP1 hk1 hS => ?_)
  try dsimp only at h
  have hP : va_P D vwCl ((bX5 cI cJ cC a_M M_pipes M_used M_taped M_at M_statements M_hasImage M_isKeeping M_cursor M_nextAt M_nextMost M_rowMany M_refused M_setting M_hole M_pipeAt M_chance M_weight M_tape M_letter M_letterAt M_told M_kept M_then M_row)) H := zKeep hP hk1
  refine lv_if_eq (tgt := 15) hx hb dX5_risk_4 (by decide) (fun z => ?_) (fun z => ?_)
  · replace h := h.1 z
    refine lv_aload_n hx hb dX5_risk_15 rfl (lv_at hl 0 rfl) ?_
    refine lv_iconst (v := (-1 : Int32)) hx hb dX5_risk_16 (by decide) ?_
    refine zci hA (hDD _ rfl) hS (zrunV (As := [.int (-1 : Int32)]) (rest := []) S hK hA hE hP (hDD _ rfl) hS (mX5_no l D cI cJ cC G a_M _ M_pipes M_used M_taped M_at M_statements M_hasImage M_isKeeping M_cursor M_nextAt M_nextMost M_rowMany M_refused M_setting M_hole M_pipeAt M_chance M_weight M_tape M_letter M_letterAt M_told M_kept M_then M_row (-1 : Int32) _ h) kX5_no ml_X5_66 ⟨rfl, rfl, by decide, by decide⟩ (q0 := 0) (ci := 5) rfl rfl rfl rfl hl.1 rfl (Nat.le_of_ble_eq_true rfl) dX5_risk_17 ⟨Nat.zero_le _, Nat.zero_le _⟩) (fun r_2 M_refused_3 H locs h hP1 hk1 hS => ?_)
    try dsimp only at h
    have hP : va_P D vwCl ((bX5 cI cJ cC a_M M_pipes M_used M_taped M_at M_statements M_hasImage M_isKeeping M_cursor M_nextAt M_nextMost M_rowMany M_refused_3 M_setting M_hole M_pipeAt M_chance M_weight M_tape M_letter M_letterAt M_told M_kept M_then M_row)) H := hP1
    exact hret r_2 M_refused_3 _ _ _ _ rfl h hP hS dX5_risk_20
  · replace h := h.2 z
    refine lv_aload_n hx hb dX5_risk_7 rfl (lv_at hl 0 rfl) ?_
    refine lv_iload_n hx hb dX5_risk_8 rfl (lv_at hl 1 rfl) ?_
    refine zci hA (hDD _ rfl) hS (zrunV (As := [.int p1]) (rest := []) S hK hA hE hP (hDD _ rfl) hS (mX5_chancesAt l D cI cJ cC G a_M _ M_pipes M_used M_taped M_at M_statements M_hasImage M_isKeeping M_cursor M_nextAt M_nextMost M_rowMany M_refused M_setting M_hole M_pipeAt M_chance M_weight M_tape M_letter M_letterAt M_told M_kept M_then M_row p1 _ h) kX5_chancesAt ml_X5_207 ⟨rfl, rfl, by decide, by decide⟩ (q0 := 0) (ci := 5) rfl rfl rfl rfl hl.1 rfl (Nat.le_of_ble_eq_true rfl) dX5_risk_9 ⟨Nat.zero_le _, Nat.zero_le _⟩) (fun r_4 u H locs h hP1 hk1 hS => ?_)
    try dsimp only at h
    have hP : va_P D vwCl ((bX5 cI cJ cC a_M M_pipes M_used M_taped M_at M_statements M_hasImage M_isKeeping M_cursor M_nextAt M_nextMost M_rowMany M_refused M_setting M_hole M_pipeAt M_chance M_weight M_tape M_letter M_letterAt M_told M_kept M_then M_row)) H := hP1
    refine lv_goto (tgt := 20) hx hb dX5_risk_12 (by decide) ?_
    exact hret r_4 M_refused _ _ _ _ rfl h hP hS dX5_risk_20
def wpX5_hole (post : Int32 → (Nat → Int32) → Prop) (M_refused : Nat → Int32) (M_hole : Nat → Int32) (p1 : Int32) : Prop := wpX5_isInch (fun (r_1 : Int32) => ((r_1 = (0 : Int32) → (wpX5_no (fun (r_2 : Int32) (M_refused_3 : Nat → Int32) => post r_2 M_refused_3) M_refused (-1 : Int32))) ∧ (¬ (r_1 = (0 : Int32)) → (vp_in p1 48 ∧ (post (M_hole p1.toNatClampNeg) M_refused))))) p1
set_option maxHeartbeats 4000000 in
set_option maxRecDepth 100000 in
theorem mX5_hole (l : Launch) (D : va_G) (cI cJ cC : ClassId) (G : Nat → Nat → Nat) (a_M : Nat → Nat) (sz : Nat) (M_pipes : Int32) (M_used : Int32) (M_taped : Int32) (M_at : Int32) (M_statements : Int32) (M_hasImage : Int32) (M_isKeeping : Int32) (M_cursor : Int32) (M_nextAt : Int32) (M_nextMost : Int64) (M_rowMany : Int32) (M_refused : Nat → Int32) (M_setting : Nat → Int32) (M_hole : Nat → Int32) (M_pipeAt : Nat → Int32) (M_chance : Nat → Int32) (M_weight : Nat → Int32) (M_tape : Nat → Int32) (M_letter : Nat → Int32) (M_letterAt : Nat → Int32) (M_told : Nat → Int32) (M_kept : Nat → Int32) (M_then : Nat → Int64) (M_row : Nat → Int32) (p1 : Int32) (post : Int32 → (Nat → Int32) → Prop) (h : wpX5_hole post M_refused M_hole p1) : Met l yX5_hole (wz yX5_hole cX5_hole 2 (some .int)) ({ frames := 1, cells := 0, slots := 0, locals := 21 }) (va_Pc [.ref (a_M 0), .int p1] (PW D (tz cI cJ cC) G ((bX5 cI cJ cC a_M M_pipes M_used M_taped M_at M_statements M_hasImage M_isKeeping M_cursor M_nextAt M_nextMost M_rowMany M_refused M_setting M_hole M_pipeAt M_chance M_weight M_tape M_letter M_letterAt M_told M_kept M_then M_row)) sz)) (va_Qi (fun (r : Int32) (u : (Nat → Int32)) => post r u) (fun (u : (Nat → Int32)) t => va_P D vwCl ((bX5 cI cJ cC a_M M_pipes M_used M_taped M_at M_statements M_hasImage M_isKeeping M_cursor M_nextAt M_nextMost M_rowMany u M_setting M_hole M_pipeAt M_chance M_weight M_tape M_letter M_letterAt M_told M_kept M_then M_row)) t.heap) (va_A ((bX5 cI cJ cC a_M M_pipes M_used M_taped M_at M_statements M_hasImage M_isKeeping M_cursor M_nextAt M_nextMost M_rowMany M_refused M_setting M_hole M_pipeAt M_chance M_weight M_tape M_letter M_letterAt M_told M_kept M_then M_row)) sz)) 0 0 (va_A ((bX5 cI cJ cC a_M M_pipes M_used M_taped M_at M_statements M_hasImage M_isKeeping M_cursor M_nextAt M_nextMost M_rowMany M_refused M_setting M_hole M_pipeAt M_chance M_weight M_tape M_letter M_letterAt M_told M_kept M_then M_row)) sz) := by
  refine zmi (gw := fun (u : (Nat → Int32)) => (bX5 cI cJ cC a_M M_pipes M_used M_taped M_at M_statements M_hasImage M_isKeeping M_cursor M_nextAt M_nextMost M_rowMany u M_setting M_hole M_pipeAt M_chance M_weight M_tape M_letter M_letterAt M_told M_kept M_then M_row)) (plainFor_of_name (by decide)) (Nat.le_of_ble_eq_true rfl) ?_
  intro p e s m below meth c A Q ls S hK hD hA hE hP hl hret
  obtain ⟨hx, hb, hml, hown, ht⟩ := id S
  have hS : va_S A s.heap s.heap [] := va_S.rf
  have hDD : ∀ ws : va_W, ws.map (fun q => q.1) = [a_M 0, a_M 1, a_M 2, a_M 3, a_M 4, a_M 5, a_M 6, a_M 7, a_M 8, a_M 9, a_M 10, a_M 11, a_M 12, a_M 13] → va_D A ws := fun ws hw => zD hD (hw.trans rfl)
  have hl : lv_has ls 2 [(0, .ref (a_M 0)), (1, .int p1)] := hl
  unfold wpX5_hole at h
  refine lv_iload_n hx hb dX5_hole_0 rfl (lv_at hl 1 rfl) ?_
  refine zci hA zD0 hS (zrunS (As := [.int p1]) (rest := []) S hK hA hE zP0 zD0 hS (mX5_isInch l D cI cJ cC G _ p1 _ h) kX5_isInch ml_X5_113 ⟨rfl, rfl, by decide, by decide⟩ rfl hl.1 rfl (Nat.le_of_ble_eq_true rfl) dX5_hole_1 ⟨Nat.zero_le _, Nat.zero_le _⟩) (fun r_1 u H locs h hP1 hk1 hS => ?_)
  try dsimp only at h
  have hP : va_P D vwCl ((bX5 cI cJ cC a_M M_pipes M_used M_taped M_at M_statements M_hasImage M_isKeeping M_cursor M_nextAt M_nextMost M_rowMany M_refused M_setting M_hole M_pipeAt M_chance M_weight M_tape M_letter M_letterAt M_told M_kept M_then M_row)) H := zKeep hP hk1
  refine lv_if_eq (tgt := 16) hx hb dX5_hole_4 (by decide) (fun z => ?_) (fun z => ?_)
  · replace h := h.1 z
    refine lv_aload_n hx hb dX5_hole_16 rfl (lv_at hl 0 rfl) ?_
    refine lv_iconst (v := (-1 : Int32)) hx hb dX5_hole_17 (by decide) ?_
    refine zci hA (hDD _ rfl) hS (zrunV (As := [.int (-1 : Int32)]) (rest := []) S hK hA hE hP (hDD _ rfl) hS (mX5_no l D cI cJ cC G a_M _ M_pipes M_used M_taped M_at M_statements M_hasImage M_isKeeping M_cursor M_nextAt M_nextMost M_rowMany M_refused M_setting M_hole M_pipeAt M_chance M_weight M_tape M_letter M_letterAt M_told M_kept M_then M_row (-1 : Int32) _ h) kX5_no ml_X5_66 ⟨rfl, rfl, by decide, by decide⟩ (q0 := 0) (ci := 5) rfl rfl rfl rfl hl.1 rfl (Nat.le_of_ble_eq_true rfl) dX5_hole_18 ⟨Nat.zero_le _, Nat.zero_le _⟩) (fun r_2 M_refused_3 H locs h hP1 hk1 hS => ?_)
    try dsimp only at h
    have hP : va_P D vwCl ((bX5 cI cJ cC a_M M_pipes M_used M_taped M_at M_statements M_hasImage M_isKeeping M_cursor M_nextAt M_nextMost M_rowMany M_refused_3 M_setting M_hole M_pipeAt M_chance M_weight M_tape M_letter M_letterAt M_told M_kept M_then M_row)) H := hP1
    exact hret r_2 M_refused_3 _ _ _ _ rfl h hP hS dX5_hole_21
  · replace h := h.2 z
    refine lv_aload_n hx hb dX5_hole_7 rfl (lv_at hl 0 rfl) ?_
    refine va_get (D := D) (ci := 5) (v := .ref (a_M 3)) (C := RX5) (T := TX5) (N := 24) hx hb ht inX5 hown hK hP 0 rfl rfl 2 (by decide) (ht _ fl_X5_16) (fun _ h9 => h9) rfl dX5_hole_8 ?_
    refine lv_iload_n hx hb dX5_hole_11 rfl (lv_at hl 1 rfl) ?_
    obtain ⟨hin, h⟩ := h
    refine va_iald hx hb hK hP 3 0 rfl rfl hin dX5_hole_12 ?_
    refine lv_goto (tgt := 21) hx hb dX5_hole_13 (by decide) ?_
    exact hret (M_hole p1.toNatClampNeg) M_refused _ _ _ _ rfl h hP hS dX5_hole_21
def lpX5_holesMany_4 (K : Int32 → Int32 → Prop) (M_hole : Nat → Int32) : Nat → Int32 → Int32 → Prop
  | 0, _, _ => False
  | n + 1, x1, x2 => (((48 : Int32) ≤ x2 → (K x1 x2)) ∧ (¬ ((48 : Int32) ≤ x2) → (vp_in x2 48 ∧ (lpX5_holesMany_4 K M_hole n (x1 + (M_hole x2.toNatClampNeg)) (x2 + (1 : Int32))))))
set_option maxHeartbeats 4000000 in
set_option maxRecDepth 100000 in
theorem wX5_holesMany_4 (l : Launch) (D : va_G) (cI cJ cC : ClassId) (G : Nat → Nat → Nat) (a_M : Nat → Nat) {p : Program} {e : Env} {s : State} {m : MethodId} {below : List Frame} {meth : Method} {c : Code} {A : Nat → Prop} {Q : State → Prop} (M_pipes : Int32) (M_used : Int32) (M_taped : Int32) (M_at : Int32) (M_statements : Int32) (M_hasImage : Int32) (M_isKeeping : Int32) (M_cursor : Int32) (M_nextAt : Int32) (M_nextMost : Int64) (M_rowMany : Int32) (M_refused : Nat → Int32) (M_setting : Nat → Int32) (M_hole : Nat → Int32) (M_pipeAt : Nat → Int32) (M_chance : Nat → Int32) (M_weight : Nat → Int32) (M_tape : Nat → Int32) (M_letter : Nat → Int32) (M_letterAt : Nat → Int32) (M_told : Nat → Int32) (M_kept : Nat → Int32) (M_then : Nat → Int64) (M_row : Nat → Int32) (K : Int32 → Int32 → Prop) (S : CallFix p m c cX5_holesMany 3 s ([.ref (a_M 0)] : List Value).toArray bg RX5) (hK : va_K D vwCl (tz cI cJ cC) s) (hDD : ∀ ws : va_W, ws.map (fun q => q.1) = [a_M 0, a_M 1, a_M 2, a_M 3, a_M 4, a_M 5, a_M 6, a_M 7, a_M 8, a_M 9, a_M 10, a_M 11, a_M 12, a_M 13] → va_D A ws) (hA : ∀ q, s.heap.size ≤ q → A q) (hE : EV G A s) (hKK : ∀ (x1 : Int32) (x2 : Int32) (H : Heap) (locs : List Loc) (ls : Array Slot), K x1 x2 → va_P D vwCl ((bX5 cI cJ cC a_M M_pipes M_used M_taped M_at M_statements M_hasImage M_isKeeping M_cursor M_nextAt M_nextMost M_rowMany M_refused M_setting M_hole M_pipeAt M_chance M_weight M_tape M_letter M_letterAt M_told M_kept M_then M_row)) H → va_S A s.heap H locs → lv_has ls 3 [(1, .int x1)] → W p l e ({ frames := 0, cells := 0, slots := 0, locals := 0 }) s m ([.ref (a_M 0)] : List Value).toArray below meth c H locs 0 0 Q (F0 m 25 ls [])) :
    ∀ (n : Nat) (x1 : Int32) (x2 : Int32) (H : Heap) (locs : List Loc) (ls : Array Slot), lpX5_holesMany_4 K M_hole n x1 x2 → va_P D vwCl ((bX5 cI cJ cC a_M M_pipes M_used M_taped M_at M_statements M_hasImage M_isKeeping M_cursor M_nextAt M_nextMost M_rowMany M_refused M_setting M_hole M_pipeAt M_chance M_weight M_tape M_letter M_letterAt M_told M_kept M_then M_row)) H → va_S A s.heap H locs → lv_has ls 3 [(0, .ref (a_M 0)), (1, .int x1), (2, .int x2)] → W p l e ({ frames := 0, cells := 0, slots := 0, locals := 0 }) s m ([.ref (a_M 0)] : List Value).toArray below meth c H locs 0 0 Q (F0 m 4 ls []) := by
  obtain ⟨hx, hb, hml, hown, ht⟩ := id S
  intro n
  induction n with
  | zero =>
    intro x1 x2 H locs ls h
    exact absurd h (by simp [lpX5_holesMany_4])
  | succ n ih =>
    intro x1 x2 H locs ls h hP hS hl
    rw [lpX5_holesMany_4] at h
    refine lv_iload_n hx hb dX5_holesMany_4 rfl (lv_at hl 2 rfl) ?_
    refine lv_bipush (v := (48 : Int32)) hx hb dX5_holesMany_5 (by decide) ?_
    refine lv_icmp_ge (tgt := 25) hx hb dX5_holesMany_7 (by decide) (fun z => ?_) (fun z => ?_)
    · replace h := h.1 z
      exact hKK x1 x2 _ _ _ h hP hS (lv_sub hl [1] rfl)
    · replace h := h.2 z
      refine lv_iload_n hx hb dX5_holesMany_10 rfl (lv_at hl 1 rfl) ?_
      refine lv_aload_n hx hb dX5_holesMany_11 rfl (lv_at hl 0 rfl) ?_
      refine va_get (D := D) (ci := 5) (v := .ref (a_M 3)) (C := RX5) (T := TX5) (N := 24) hx hb ht inX5 hown hK hP 0 rfl rfl 2 (by decide) (ht _ fl_X5_16) (fun _ h9 => h9) rfl dX5_holesMany_12 ?_
      refine lv_iload_n hx hb dX5_holesMany_15 rfl (lv_at hl 2 rfl) ?_
      obtain ⟨hin, h⟩ := h
      refine va_iald hx hb hK hP 3 0 rfl rfl hin dX5_holesMany_16 ?_
      refine lv_iadd hx hb dX5_holesMany_17 ?_
      refine lv_istore_n (lv' := [(1, .int (x1 + (M_hole x2.toNatClampNeg))), (0, .ref (a_M 0)), (2, .int x2)]) hx hb dX5_holesMany_18 rfl hl (by decide) rfl (fun ls hl => ?_)
      refine lv_iinc (v := x2 + (1 : Int32)) (lv' := [(2, .int (x2 + (1 : Int32))), (1, .int (x1 + (M_hole x2.toNatClampNeg))), (0, .ref (a_M 0))]) hx hb dX5_holesMany_19 hl (k := 2) rfl (by rfl) (by decide) rfl (fun ls hl => ?_)
      refine lv_goto (tgt := 4) hx hb dX5_holesMany_22 (by decide) ?_
      exact ih (x1 + (M_hole x2.toNatClampNeg)) (x2 + (1 : Int32)) _ _ _ h hP hS (lv_sub hl [2, 1, 0] rfl)
def wpX5_holesMany (post : Int32 → Prop) (M_hole : Nat → Int32) : Prop := ∃ n_1 : Nat, lpX5_holesMany_4 (fun (x1_2 : Int32) (x2_3 : Int32) => post x1_2) M_hole n_1 (0 : Int32) (0 : Int32)
set_option maxHeartbeats 4000000 in
set_option maxRecDepth 100000 in
theorem mX5_holesMany (l : Launch) (D : va_G) (cI cJ cC : ClassId) (G : Nat → Nat → Nat) (a_M : Nat → Nat) (sz : Nat) (M_pipes : Int32) (M_used : Int32) (M_taped : Int32) (M_at : Int32) (M_statements : Int32) (M_hasImage : Int32) (M_isKeeping : Int32) (M_cursor : Int32) (M_nextAt : Int32) (M_nextMost : Int64) (M_rowMany : Int32) (M_refused : Nat → Int32) (M_setting : Nat → Int32) (M_hole : Nat → Int32) (M_pipeAt : Nat → Int32) (M_chance : Nat → Int32) (M_weight : Nat → Int32) (M_tape : Nat → Int32) (M_letter : Nat → Int32) (M_letterAt : Nat → Int32) (M_told : Nat → Int32) (M_kept : Nat → Int32) (M_then : Nat → Int64) (M_row : Nat → Int32) (post : Int32 → Prop) (h : wpX5_holesMany post M_hole) : Met l yX5_holesMany (wz yX5_holesMany cX5_holesMany 3 (some .int)) ({ frames := 0, cells := 0, slots := 0, locals := 0 }) (va_Pc [.ref (a_M 0)] (PW D (tz cI cJ cC) G ((bX5 cI cJ cC a_M M_pipes M_used M_taped M_at M_statements M_hasImage M_isKeeping M_cursor M_nextAt M_nextMost M_rowMany M_refused M_setting M_hole M_pipeAt M_chance M_weight M_tape M_letter M_letterAt M_told M_kept M_then M_row)) sz)) (va_Qi (fun (r : Int32) (u : Unit) => post r ) (fun (u : Unit) t => va_P D vwCl ((bX5 cI cJ cC a_M M_pipes M_used M_taped M_at M_statements M_hasImage M_isKeeping M_cursor M_nextAt M_nextMost M_rowMany M_refused M_setting M_hole M_pipeAt M_chance M_weight M_tape M_letter M_letterAt M_told M_kept M_then M_row)) t.heap) (va_A ((bX5 cI cJ cC a_M M_pipes M_used M_taped M_at M_statements M_hasImage M_isKeeping M_cursor M_nextAt M_nextMost M_rowMany M_refused M_setting M_hole M_pipeAt M_chance M_weight M_tape M_letter M_letterAt M_told M_kept M_then M_row)) sz)) 0 0 (va_A ((bX5 cI cJ cC a_M M_pipes M_used M_taped M_at M_statements M_hasImage M_isKeeping M_cursor M_nextAt M_nextMost M_rowMany M_refused M_setting M_hole M_pipeAt M_chance M_weight M_tape M_letter M_letterAt M_told M_kept M_then M_row)) sz) := by
  refine zmi (gw := fun (u : Unit) => (bX5 cI cJ cC a_M M_pipes M_used M_taped M_at M_statements M_hasImage M_isKeeping M_cursor M_nextAt M_nextMost M_rowMany M_refused M_setting M_hole M_pipeAt M_chance M_weight M_tape M_letter M_letterAt M_told M_kept M_then M_row)) (plainFor_of_name (by decide)) (Nat.le_of_ble_eq_true rfl) ?_
  intro p e s m below meth c A Q ls S hK hD hA hE hP hl hret
  obtain ⟨hx, hb, hml, hown, ht⟩ := id S
  have hS : va_S A s.heap s.heap [] := va_S.rf
  have hDD : ∀ ws : va_W, ws.map (fun q => q.1) = [a_M 0, a_M 1, a_M 2, a_M 3, a_M 4, a_M 5, a_M 6, a_M 7, a_M 8, a_M 9, a_M 10, a_M 11, a_M 12, a_M 13] → va_D A ws := fun ws hw => zD hD (hw.trans rfl)
  have hl : lv_has ls 3 [(0, .ref (a_M 0))] := hl
  unfold wpX5_holesMany at h
  refine lv_iconst (v := (0 : Int32)) hx hb dX5_holesMany_0 (by decide) ?_
  refine lv_istore_n (lv' := [(1, .int (0 : Int32)), (0, .ref (a_M 0))]) hx hb dX5_holesMany_1 rfl hl (by decide) rfl (fun ls hl => ?_)
  refine lv_iconst (v := (0 : Int32)) hx hb dX5_holesMany_2 (by decide) ?_
  refine lv_istore_n (lv' := [(2, .int (0 : Int32)), (1, .int (0 : Int32)), (0, .ref (a_M 0))]) hx hb dX5_holesMany_3 rfl hl (by decide) rfl (fun ls hl => ?_)
  obtain ⟨n_1, h⟩ := h
  refine wX5_holesMany_4 l D cI cJ cC G a_M M_pipes M_used M_taped M_at M_statements M_hasImage M_isKeeping M_cursor M_nextAt M_nextMost M_rowMany M_refused M_setting M_hole M_pipeAt M_chance M_weight M_tape M_letter M_letterAt M_told M_kept M_then M_row _ S hK hDD hA hE (fun x1_2 x2_3 H locs ls h hP hS hl => ?_) n_1 (0 : Int32) (0 : Int32) _ _ _ h hP hS (lv_sub hl [2, 1, 0] rfl)
  try dsimp only at h
  refine lv_iload_n hx hb dX5_holesMany_25 rfl (lv_at hl 0 rfl) ?_
  exact hret x1_2 () _ _ _ _ rfl h hP hS dX5_holesMany_26
def lpX5_fill_7 (K : Int32 → (Nat → Int32) → Prop) : Nat → Int32 → (Nat → Int32) → Prop
  | 0, _, _ => False
  | n + 1, x2, M_hole => (((48 : Int32) ≤ x2 → (K x2 M_hole)) ∧ (¬ ((48 : Int32) ≤ x2) → (vp_in x2 48 ∧ (lpX5_fill_7 K n (x2 + (1 : Int32)) (upd M_hole x2.toNatClampNeg (0 : Int32))))))
set_option maxHeartbeats 4000000 in
set_option maxRecDepth 100000 in
theorem wX5_fill_7 (l : Launch) (D : va_G) (cI cJ cC : ClassId) (G : Nat → Nat → Nat) (a_M : Nat → Nat) {p : Program} {e : Env} {s : State} {m : MethodId} {below : List Frame} {meth : Method} {c : Code} {A : Nat → Prop} {Q : State → Prop} (x1 : Int32) (M_pipes : Int32) (M_used : Int32) (M_taped : Int32) (M_at : Int32) (M_statements : Int32) (M_hasImage : Int32) (M_isKeeping : Int32) (M_cursor : Int32) (M_nextAt : Int32) (M_nextMost : Int64) (M_rowMany : Int32) (M_refused : Nat → Int32) (M_setting : Nat → Int32) (M_pipeAt : Nat → Int32) (M_chance : Nat → Int32) (M_weight : Nat → Int32) (M_tape : Nat → Int32) (M_letter : Nat → Int32) (M_letterAt : Nat → Int32) (M_told : Nat → Int32) (M_kept : Nat → Int32) (M_then : Nat → Int64) (M_row : Nat → Int32) (K : Int32 → (Nat → Int32) → Prop) (S : CallFix p m c cX5_fill 3 s ([.ref (a_M 0)] : List Value).toArray bg RX5) (hK : va_K D vwCl (tz cI cJ cC) s) (hDD : ∀ ws : va_W, ws.map (fun q => q.1) = [a_M 0, a_M 1, a_M 2, a_M 3, a_M 4, a_M 5, a_M 6, a_M 7, a_M 8, a_M 9, a_M 10, a_M 11, a_M 12, a_M 13] → va_D A ws) (hA : ∀ q, s.heap.size ≤ q → A q) (hE : EV G A s) (hKK : ∀ (x2 : Int32) (M_hole : Nat → Int32) (H : Heap) (locs : List Loc) (ls : Array Slot), K x2 M_hole → va_P D vwCl ((bX5 cI cJ cC a_M M_pipes M_used M_taped M_at M_statements M_hasImage M_isKeeping M_cursor M_nextAt M_nextMost M_rowMany M_refused M_setting M_hole M_pipeAt M_chance M_weight M_tape M_letter M_letterAt M_told M_kept M_then M_row)) H → va_S A s.heap H locs → lv_has ls 3 [(1, .int x1)] → W p l e ({ frames := 1, cells := 0, slots := 0, locals := 22 }) s m ([.ref (a_M 0)] : List Value).toArray below meth c H locs 0 0 Q (F0 m 26 ls [])) :
    ∀ (n : Nat) (x2 : Int32) (M_hole : Nat → Int32) (H : Heap) (locs : List Loc) (ls : Array Slot), lpX5_fill_7 K n x2 M_hole → va_P D vwCl ((bX5 cI cJ cC a_M M_pipes M_used M_taped M_at M_statements M_hasImage M_isKeeping M_cursor M_nextAt M_nextMost M_rowMany M_refused M_setting M_hole M_pipeAt M_chance M_weight M_tape M_letter M_letterAt M_told M_kept M_then M_row)) H → va_S A s.heap H locs → lv_has ls 3 [(0, .ref (a_M 0)), (1, .int x1), (2, .int x2)] → W p l e ({ frames := 1, cells := 0, slots := 0, locals := 22 }) s m ([.ref (a_M 0)] : List Value).toArray below meth c H locs 0 0 Q (F0 m 7 ls []) := by
  obtain ⟨hx, hb, hml, hown, ht⟩ := id S
  intro n
  induction n with
  | zero =>
    intro x2 M_hole H locs ls h
    exact absurd h (by simp [lpX5_fill_7])
  | succ n ih =>
    intro x2 M_hole H locs ls h hP hS hl
    rw [lpX5_fill_7] at h
    refine lv_iload_n hx hb dX5_fill_7 rfl (lv_at hl 2 rfl) ?_
    refine lv_bipush (v := (48 : Int32)) hx hb dX5_fill_8 (by decide) ?_
    refine lv_icmp_ge (tgt := 26) hx hb dX5_fill_10 (by decide) (fun z => ?_) (fun z => ?_)
    · replace h := h.1 z
      exact hKK x2 M_hole _ _ _ h hP hS (lv_sub hl [1] rfl)
    · replace h := h.2 z
      refine lv_aload_n hx hb dX5_fill_13 rfl (lv_at hl 0 rfl) ?_
      refine va_get (D := D) (ci := 5) (v := .ref (a_M 3)) (C := RX5) (T := TX5) (N := 24) hx hb ht inX5 hown hK hP 0 rfl rfl 2 (by decide) (ht _ fl_X5_16) (fun _ h9 => h9) rfl dX5_fill_14 ?_
      refine lv_iload_n hx hb dX5_fill_17 rfl (lv_at hl 2 rfl) ?_
      refine lv_iconst (v := (0 : Int32)) hx hb dX5_fill_18 (by decide) ?_
      obtain ⟨hin, h⟩ := h
      refine va_iast hx hb hK hP (hDD _ rfl) hS 3 0 rfl rfl hin dX5_fill_19 (fun H locs hP _ hS => ?_)
      have hP : va_P D vwCl ((bX5 cI cJ cC a_M M_pipes M_used M_taped M_at M_statements M_hasImage M_isKeeping M_cursor M_nextAt M_nextMost M_rowMany M_refused M_setting (upd M_hole x2.toNatClampNeg (0 : Int32)) M_pipeAt M_chance M_weight M_tape M_letter M_letterAt M_told M_kept M_then M_row)) H := hP
      refine lv_iinc (v := x2 + (1 : Int32)) (lv' := [(2, .int (x2 + (1 : Int32))), (0, .ref (a_M 0)), (1, .int x1)]) hx hb dX5_fill_20 hl (k := 2) rfl (by rfl) (by decide) rfl (fun ls hl => ?_)
      refine lv_goto (tgt := 7) hx hb dX5_fill_23 (by decide) ?_
      exact ih (x2 + (1 : Int32)) (upd M_hole x2.toNatClampNeg (0 : Int32)) _ _ _ h hP hS (lv_sub hl [1, 2, 0] rfl)
def wpX5_fill (post : Int32 → (Nat → Int32) → Prop) (M_hole : Nat → Int32) : Prop := wpX5_holesMany (fun (r_1 : Int32) => ∃ n_2 : Nat, lpX5_fill_7 (fun (x2_3 : Int32) (M_hole_4 : Nat → Int32) => post r_1 M_hole_4) n_2 (0 : Int32) M_hole) M_hole
set_option maxHeartbeats 4000000 in
set_option maxRecDepth 100000 in
theorem mX5_fill (l : Launch) (D : va_G) (cI cJ cC : ClassId) (G : Nat → Nat → Nat) (a_M : Nat → Nat) (sz : Nat) (M_pipes : Int32) (M_used : Int32) (M_taped : Int32) (M_at : Int32) (M_statements : Int32) (M_hasImage : Int32) (M_isKeeping : Int32) (M_cursor : Int32) (M_nextAt : Int32) (M_nextMost : Int64) (M_rowMany : Int32) (M_refused : Nat → Int32) (M_setting : Nat → Int32) (M_hole : Nat → Int32) (M_pipeAt : Nat → Int32) (M_chance : Nat → Int32) (M_weight : Nat → Int32) (M_tape : Nat → Int32) (M_letter : Nat → Int32) (M_letterAt : Nat → Int32) (M_told : Nat → Int32) (M_kept : Nat → Int32) (M_then : Nat → Int64) (M_row : Nat → Int32) (post : Int32 → (Nat → Int32) → Prop) (h : wpX5_fill post M_hole) : Met l yX5_fill (wz yX5_fill cX5_fill 3 (some .int)) ({ frames := 1, cells := 0, slots := 0, locals := 22 }) (va_Pc [.ref (a_M 0)] (PW D (tz cI cJ cC) G ((bX5 cI cJ cC a_M M_pipes M_used M_taped M_at M_statements M_hasImage M_isKeeping M_cursor M_nextAt M_nextMost M_rowMany M_refused M_setting M_hole M_pipeAt M_chance M_weight M_tape M_letter M_letterAt M_told M_kept M_then M_row)) sz)) (va_Qi (fun (r : Int32) (u : (Nat → Int32)) => post r u) (fun (u : (Nat → Int32)) t => va_P D vwCl ((bX5 cI cJ cC a_M M_pipes M_used M_taped M_at M_statements M_hasImage M_isKeeping M_cursor M_nextAt M_nextMost M_rowMany M_refused M_setting u M_pipeAt M_chance M_weight M_tape M_letter M_letterAt M_told M_kept M_then M_row)) t.heap) (va_A ((bX5 cI cJ cC a_M M_pipes M_used M_taped M_at M_statements M_hasImage M_isKeeping M_cursor M_nextAt M_nextMost M_rowMany M_refused M_setting M_hole M_pipeAt M_chance M_weight M_tape M_letter M_letterAt M_told M_kept M_then M_row)) sz)) 0 0 (va_A ((bX5 cI cJ cC a_M M_pipes M_used M_taped M_at M_statements M_hasImage M_isKeeping M_cursor M_nextAt M_nextMost M_rowMany M_refused M_setting M_hole M_pipeAt M_chance M_weight M_tape M_letter M_letterAt M_told M_kept M_then M_row)) sz) := by
  refine zmi (gw := fun (u : (Nat → Int32)) => (bX5 cI cJ cC a_M M_pipes M_used M_taped M_at M_statements M_hasImage M_isKeeping M_cursor M_nextAt M_nextMost M_rowMany M_refused M_setting u M_pipeAt M_chance M_weight M_tape M_letter M_letterAt M_told M_kept M_then M_row)) (plainFor_of_name (by decide)) (Nat.le_of_ble_eq_true rfl) ?_
  intro p e s m below meth c A Q ls S hK hD hA hE hP hl hret
  obtain ⟨hx, hb, hml, hown, ht⟩ := id S
  have hS : va_S A s.heap s.heap [] := va_S.rf
  have hDD : ∀ ws : va_W, ws.map (fun q => q.1) = [a_M 0, a_M 1, a_M 2, a_M 3, a_M 4, a_M 5, a_M 6, a_M 7, a_M 8, a_M 9, a_M 10, a_M 11, a_M 12, a_M 13] → va_D A ws := fun ws hw => zD hD (hw.trans rfl)
  have hl : lv_has ls 3 [(0, .ref (a_M 0))] := hl
  unfold wpX5_fill at h
  refine lv_aload_n hx hb dX5_fill_0 rfl (lv_at hl 0 rfl) ?_
  refine zci hA (hDD _ rfl) hS (zrunV (As := []) (rest := []) S hK hA hE hP (hDD _ rfl) hS (mX5_holesMany l D cI cJ cC G a_M _ M_pipes M_used M_taped M_at M_statements M_hasImage M_isKeeping M_cursor M_nextAt M_nextMost M_rowMany M_refused M_setting M_hole M_pipeAt M_chance M_weight M_tape M_letter M_letterAt M_told M_kept M_then M_row _ h) kX5_holesMany ml_X5_210 ⟨rfl, rfl, by decide, by decide⟩ (q0 := 0) (ci := 5) rfl rfl rfl rfl hl.1 rfl (Nat.le_of_ble_eq_true rfl) dX5_fill_1 ⟨Nat.zero_le _, Nat.zero_le _⟩) (fun r_1 u H locs h hP1 hk1 hS => ?_)
  try dsimp only at h
  have hP : va_P D vwCl ((bX5 cI cJ cC a_M M_pipes M_used M_taped M_at M_statements M_hasImage M_isKeeping M_cursor M_nextAt M_nextMost M_rowMany M_refused M_setting M_hole M_pipeAt M_chance M_weight M_tape M_letter M_letterAt M_told M_kept M_then M_row)) H := hP1
  refine lv_istore_n (lv' := [(1, .int r_1), (0, .ref (a_M 0))]) hx hb dX5_fill_4 rfl hl (by decide) rfl (fun ls hl => ?_)
  refine lv_iconst (v := (0 : Int32)) hx hb dX5_fill_5 (by decide) ?_
  refine lv_istore_n (lv' := [(2, .int (0 : Int32)), (1, .int r_1), (0, .ref (a_M 0))]) hx hb dX5_fill_6 rfl hl (by decide) rfl (fun ls hl => ?_)
  obtain ⟨n_2, h⟩ := h
  refine wX5_fill_7 l D cI cJ cC G a_M r_1 M_pipes M_used M_taped M_at M_statements M_hasImage M_isKeeping M_cursor M_nextAt M_nextMost M_rowMany M_refused M_setting M_pipeAt M_chance M_weight M_tape M_letter M_letterAt M_told M_kept M_then M_row _ S hK hDD hA hE (fun x2_3 M_hole_4 H locs ls h hP hS hl => ?_) n_2 (0 : Int32) M_hole _ _ _ h hP hS (lv_sub hl [2, 1, 0] rfl)
  try dsimp only at h
  refine lv_iload_n hx hb dX5_fill_26 rfl (lv_at hl 0 rfl) ?_
  exact hret r_1 M_hole_4 _ _ _ _ rfl h hP hS dX5_fill_27
def lpX5_all_4 (K : Int64 → Int32 → Prop) (M_setting : Nat → Int32) (M_weight : Nat → Int32) : Nat → Int64 → Int32 → Prop
  | 0, _, _ => False
  | n + 1, x1, x3 => (((M_setting 0) ≤ x3 → (K x1 x3)) ∧ (¬ ((M_setting 0) ≤ x3) → (vp_in x3 24 ∧ (lpX5_all_4 K M_setting M_weight n (x1 + ((M_weight x3.toNatClampNeg).toInt64)) (x3 + (1 : Int32))))))
set_option maxHeartbeats 4000000 in
set_option maxRecDepth 100000 in
theorem wX5_all_4 (l : Launch) (D : va_G) (cI cJ cC : ClassId) (G : Nat → Nat → Nat) (a_M : Nat → Nat) {p : Program} {e : Env} {s : State} {m : MethodId} {below : List Frame} {meth : Method} {c : Code} {A : Nat → Prop} {Q : State → Prop} (M_pipes : Int32) (M_used : Int32) (M_taped : Int32) (M_at : Int32) (M_statements : Int32) (M_hasImage : Int32) (M_isKeeping : Int32) (M_cursor : Int32) (M_nextAt : Int32) (M_nextMost : Int64) (M_rowMany : Int32) (M_refused : Nat → Int32) (M_setting : Nat → Int32) (M_hole : Nat → Int32) (M_pipeAt : Nat → Int32) (M_chance : Nat → Int32) (M_weight : Nat → Int32) (M_tape : Nat → Int32) (M_letter : Nat → Int32) (M_letterAt : Nat → Int32) (M_told : Nat → Int32) (M_kept : Nat → Int32) (M_then : Nat → Int64) (M_row : Nat → Int32) (K : Int64 → Int32 → Prop) (S : CallFix p m c cX5_all 4 s ([.ref (a_M 0)] : List Value).toArray bg RX5) (hK : va_K D vwCl (tz cI cJ cC) s) (hDD : ∀ ws : va_W, ws.map (fun q => q.1) = [a_M 0, a_M 1, a_M 2, a_M 3, a_M 4, a_M 5, a_M 6, a_M 7, a_M 8, a_M 9, a_M 10, a_M 11, a_M 12, a_M 13] → va_D A ws) (hA : ∀ q, s.heap.size ≤ q → A q) (hE : EV G A s) (hKK : ∀ (x1 : Int64) (x3 : Int32) (H : Heap) (locs : List Loc) (ls : Array Slot), K x1 x3 → va_P D vwCl ((bX5 cI cJ cC a_M M_pipes M_used M_taped M_at M_statements M_hasImage M_isKeeping M_cursor M_nextAt M_nextMost M_rowMany M_refused M_setting M_hole M_pipeAt M_chance M_weight M_tape M_letter M_letterAt M_told M_kept M_then M_row)) H → va_S A s.heap H locs → lv_has ls 4 [(1, .long x1)] → W p l e ({ frames := 0, cells := 0, slots := 0, locals := 0 }) s m ([.ref (a_M 0)] : List Value).toArray below meth c H locs 0 0 Q (F0 m 30 ls [])) :
    ∀ (n : Nat) (x1 : Int64) (x3 : Int32) (H : Heap) (locs : List Loc) (ls : Array Slot), lpX5_all_4 K M_setting M_weight n x1 x3 → va_P D vwCl ((bX5 cI cJ cC a_M M_pipes M_used M_taped M_at M_statements M_hasImage M_isKeeping M_cursor M_nextAt M_nextMost M_rowMany M_refused M_setting M_hole M_pipeAt M_chance M_weight M_tape M_letter M_letterAt M_told M_kept M_then M_row)) H → va_S A s.heap H locs → lv_has ls 4 [(0, .ref (a_M 0)), (1, .long x1), (3, .int x3)] → W p l e ({ frames := 0, cells := 0, slots := 0, locals := 0 }) s m ([.ref (a_M 0)] : List Value).toArray below meth c H locs 0 0 Q (F0 m 4 ls []) := by
  obtain ⟨hx, hb, hml, hown, ht⟩ := id S
  intro n
  induction n with
  | zero =>
    intro x1 x3 H locs ls h
    exact absurd h (by simp [lpX5_all_4])
  | succ n ih =>
    intro x1 x3 H locs ls h hP hS hl
    rw [lpX5_all_4] at h
    refine lv_iload_n hx hb dX5_all_4 rfl (lv_at hl 2 rfl) ?_
    refine lv_aload_n hx hb dX5_all_5 rfl (lv_at hl 0 rfl) ?_
    refine va_get (D := D) (ci := 5) (v := .ref (a_M 2)) (C := RX5) (T := TX5) (N := 24) hx hb ht inX5 hown hK hP 0 rfl rfl 1 (by decide) (ht _ fl_X5_13) (fun _ h9 => h9) rfl dX5_all_6 ?_
    refine lv_iconst (v := (0 : Int32)) hx hb dX5_all_9 (by decide) ?_
    refine va_iald hx hb hK hP 2 0 rfl rfl (by unfold vp_in; decide) dX5_all_10 ?_
    refine zti (y := M_setting 0) (by rfl) ?_
    refine lv_icmp_ge (tgt := 30) hx hb dX5_all_11 (by decide) (fun z => ?_) (fun z => ?_)
    · replace h := h.1 z
      exact hKK x1 x3 _ _ _ h hP hS (lv_sub hl [1] rfl)
    · replace h := h.2 z
      refine lv_lload_n hx hb dX5_all_14 rfl (lv_at hl 1 rfl) ?_
      refine lv_aload_n hx hb dX5_all_15 rfl (lv_at hl 0 rfl) ?_
      refine va_get (D := D) (ci := 5) (v := .ref (a_M 6)) (C := RX5) (T := TX5) (N := 24) hx hb ht inX5 hown hK hP 0 rfl rfl 5 (by decide) (ht _ fl_X5_25) (fun _ h9 => h9) rfl dX5_all_16 ?_
      refine lv_iload_n hx hb dX5_all_19 rfl (lv_at hl 2 rfl) ?_
      obtain ⟨hin, h⟩ := h
      refine va_iald hx hb hK hP 6 0 rfl rfl hin dX5_all_20 ?_
      refine lv_i2l hx hb dX5_all_21 rfl ?_
      refine lv_ladd hx hb dX5_all_22 ?_
      refine lv_lstore_n (lv' := [(1, .long (x1 + ((M_weight x3.toNatClampNeg).toInt64))), (0, .ref (a_M 0)), (3, .int x3)]) hx hb dX5_all_23 rfl hl (by decide) rfl (fun ls hl => ?_)
      refine lv_iinc (v := x3 + (1 : Int32)) (lv' := [(3, .int (x3 + (1 : Int32))), (1, .long (x1 + ((M_weight x3.toNatClampNeg).toInt64))), (0, .ref (a_M 0))]) hx hb dX5_all_24 hl (k := 2) rfl (by rfl) (by decide) rfl (fun ls hl => ?_)
      refine lv_goto (tgt := 4) hx hb dX5_all_27 (by decide) ?_
      exact ih (x1 + ((M_weight x3.toNatClampNeg).toInt64)) (x3 + (1 : Int32)) _ _ _ h hP hS (lv_sub hl [2, 1, 0] rfl)
def wpX5_all (post : Int64 → Prop) (M_setting : Nat → Int32) (M_weight : Nat → Int32) : Prop := ∃ n_1 : Nat, lpX5_all_4 (fun (x1_2 : Int64) (x3_3 : Int32) => post x1_2) M_setting M_weight n_1 (0 : Int64) (0 : Int32)
set_option maxHeartbeats 4000000 in
set_option maxRecDepth 100000 in
theorem mX5_all (l : Launch) (D : va_G) (cI cJ cC : ClassId) (G : Nat → Nat → Nat) (a_M : Nat → Nat) (sz : Nat) (M_pipes : Int32) (M_used : Int32) (M_taped : Int32) (M_at : Int32) (M_statements : Int32) (M_hasImage : Int32) (M_isKeeping : Int32) (M_cursor : Int32) (M_nextAt : Int32) (M_nextMost : Int64) (M_rowMany : Int32) (M_refused : Nat → Int32) (M_setting : Nat → Int32) (M_hole : Nat → Int32) (M_pipeAt : Nat → Int32) (M_chance : Nat → Int32) (M_weight : Nat → Int32) (M_tape : Nat → Int32) (M_letter : Nat → Int32) (M_letterAt : Nat → Int32) (M_told : Nat → Int32) (M_kept : Nat → Int32) (M_then : Nat → Int64) (M_row : Nat → Int32) (post : Int64 → Prop) (h : wpX5_all post M_setting M_weight) : Met l yX5_all (wz yX5_all cX5_all 4 (some .long)) ({ frames := 0, cells := 0, slots := 0, locals := 0 }) (va_Pc [.ref (a_M 0)] (PW D (tz cI cJ cC) G ((bX5 cI cJ cC a_M M_pipes M_used M_taped M_at M_statements M_hasImage M_isKeeping M_cursor M_nextAt M_nextMost M_rowMany M_refused M_setting M_hole M_pipeAt M_chance M_weight M_tape M_letter M_letterAt M_told M_kept M_then M_row)) sz)) (va_Ql (fun (r : Int64) (u : Unit) => post r ) (fun (u : Unit) t => va_P D vwCl ((bX5 cI cJ cC a_M M_pipes M_used M_taped M_at M_statements M_hasImage M_isKeeping M_cursor M_nextAt M_nextMost M_rowMany M_refused M_setting M_hole M_pipeAt M_chance M_weight M_tape M_letter M_letterAt M_told M_kept M_then M_row)) t.heap) (va_A ((bX5 cI cJ cC a_M M_pipes M_used M_taped M_at M_statements M_hasImage M_isKeeping M_cursor M_nextAt M_nextMost M_rowMany M_refused M_setting M_hole M_pipeAt M_chance M_weight M_tape M_letter M_letterAt M_told M_kept M_then M_row)) sz)) 0 0 (va_A ((bX5 cI cJ cC a_M M_pipes M_used M_taped M_at M_statements M_hasImage M_isKeeping M_cursor M_nextAt M_nextMost M_rowMany M_refused M_setting M_hole M_pipeAt M_chance M_weight M_tape M_letter M_letterAt M_told M_kept M_then M_row)) sz) := by
  refine zml (gw := fun (u : Unit) => (bX5 cI cJ cC a_M M_pipes M_used M_taped M_at M_statements M_hasImage M_isKeeping M_cursor M_nextAt M_nextMost M_rowMany M_refused M_setting M_hole M_pipeAt M_chance M_weight M_tape M_letter M_letterAt M_told M_kept M_then M_row)) (plainFor_of_name (by decide)) (Nat.le_of_ble_eq_true rfl) ?_
  intro p e s m below meth c A Q ls S hK hD hA hE hP hl hret
  obtain ⟨hx, hb, hml, hown, ht⟩ := id S
  have hS : va_S A s.heap s.heap [] := va_S.rf
  have hDD : ∀ ws : va_W, ws.map (fun q => q.1) = [a_M 0, a_M 1, a_M 2, a_M 3, a_M 4, a_M 5, a_M 6, a_M 7, a_M 8, a_M 9, a_M 10, a_M 11, a_M 12, a_M 13] → va_D A ws := fun ws hw => zD hD (hw.trans rfl)
  have hl : lv_has ls 4 [(0, .ref (a_M 0))] := hl
  unfold wpX5_all at h
  refine lv_lconst (v := (0 : Int64)) hx hb dX5_all_0 (by decide) ?_
  refine lv_lstore_n (lv' := [(1, .long (0 : Int64)), (0, .ref (a_M 0))]) hx hb dX5_all_1 rfl hl (by decide) rfl (fun ls hl => ?_)
  refine lv_iconst (v := (0 : Int32)) hx hb dX5_all_2 (by decide) ?_
  refine lv_istore_n (lv' := [(3, .int (0 : Int32)), (1, .long (0 : Int64)), (0, .ref (a_M 0))]) hx hb dX5_all_3 rfl hl (by decide) rfl (fun ls hl => ?_)
  obtain ⟨n_1, h⟩ := h
  refine wX5_all_4 l D cI cJ cC G a_M M_pipes M_used M_taped M_at M_statements M_hasImage M_isKeeping M_cursor M_nextAt M_nextMost M_rowMany M_refused M_setting M_hole M_pipeAt M_chance M_weight M_tape M_letter M_letterAt M_told M_kept M_then M_row _ S hK hDD hA hE (fun x1_2 x3_3 H locs ls h hP hS hl => ?_) n_1 (0 : Int64) (0 : Int32) _ _ _ h hP hS (lv_sub hl [2, 1, 0] rfl)
  try dsimp only at h
  refine lv_lload_n hx hb dX5_all_30 rfl (lv_at hl 0 rfl) ?_
  exact hret x1_2 () _ _ _ _ h hP hS dX5_all_31
def lpX5_woodAt_5 (K : Int64 → Int32 → Prop) (x1 : Int32) (M_setting : Nat → Int32) (M_weight : Nat → Int32) : Nat → Int64 → Int32 → Prop
  | 0, _, _ => False
  | n + 1, x2, x4 => (((M_setting 0) ≤ x4 → (K x2 x4)) ∧ (¬ ((M_setting 0) ≤ x4) → (wpX5_isWood (fun (r_1 : Int32) => ((r_1 = (0 : Int32) → (lpX5_woodAt_5 K x1 M_setting M_weight n (x2 + (0 : Int64)) (x4 + (1 : Int32)))) ∧ (¬ (r_1 = (0 : Int32)) → (vp_in x4 24 ∧ (lpX5_woodAt_5 K x1 M_setting M_weight n (x2 + ((M_weight x4.toNatClampNeg).toInt64)) (x4 + (1 : Int32))))))) M_setting x1 x4)))
set_option maxHeartbeats 4000000 in
set_option maxRecDepth 100000 in
theorem wX5_woodAt_5 (l : Launch) (D : va_G) (cI cJ cC : ClassId) (G : Nat → Nat → Nat) (a_M : Nat → Nat) {p : Program} {e : Env} {s : State} {m : MethodId} {below : List Frame} {meth : Method} {c : Code} {A : Nat → Prop} {Q : State → Prop} (p1 : Int32) (x1 : Int32) (M_pipes : Int32) (M_used : Int32) (M_taped : Int32) (M_at : Int32) (M_statements : Int32) (M_hasImage : Int32) (M_isKeeping : Int32) (M_cursor : Int32) (M_nextAt : Int32) (M_nextMost : Int64) (M_rowMany : Int32) (M_refused : Nat → Int32) (M_setting : Nat → Int32) (M_hole : Nat → Int32) (M_pipeAt : Nat → Int32) (M_chance : Nat → Int32) (M_weight : Nat → Int32) (M_tape : Nat → Int32) (M_letter : Nat → Int32) (M_letterAt : Nat → Int32) (M_told : Nat → Int32) (M_kept : Nat → Int32) (M_then : Nat → Int64) (M_row : Nat → Int32) (K : Int64 → Int32 → Prop) (S : CallFix p m c cX5_woodAt 5 s ([.ref (a_M 0), .int p1] : List Value).toArray bg RX5) (hK : va_K D vwCl (tz cI cJ cC) s) (hDD : ∀ ws : va_W, ws.map (fun q => q.1) = [a_M 0, a_M 1, a_M 2, a_M 3, a_M 4, a_M 5, a_M 6, a_M 7, a_M 8, a_M 9, a_M 10, a_M 11, a_M 12, a_M 13] → va_D A ws) (hA : ∀ q, s.heap.size ≤ q → A q) (hE : EV G A s) (hKK : ∀ (x2 : Int64) (x4 : Int32) (H : Heap) (locs : List Loc) (ls : Array Slot), K x2 x4 → va_P D vwCl ((bX5 cI cJ cC a_M M_pipes M_used M_taped M_at M_statements M_hasImage M_isKeeping M_cursor M_nextAt M_nextMost M_rowMany M_refused M_setting M_hole M_pipeAt M_chance M_weight M_tape M_letter M_letterAt M_told M_kept M_then M_row)) H → va_S A s.heap H locs → lv_has ls 5 [(2, .long x2)] → W p l e ({ frames := 4, cells := 0, slots := 0, locals := 88 }) s m ([.ref (a_M 0), .int p1] : List Value).toArray below meth c H locs 0 0 Q (F0 m 47 ls [])) :
    ∀ (n : Nat) (x2 : Int64) (x4 : Int32) (H : Heap) (locs : List Loc) (ls : Array Slot), lpX5_woodAt_5 K x1 M_setting M_weight n x2 x4 → va_P D vwCl ((bX5 cI cJ cC a_M M_pipes M_used M_taped M_at M_statements M_hasImage M_isKeeping M_cursor M_nextAt M_nextMost M_rowMany M_refused M_setting M_hole M_pipeAt M_chance M_weight M_tape M_letter M_letterAt M_told M_kept M_then M_row)) H → va_S A s.heap H locs → lv_has ls 5 [(0, .ref (a_M 0)), (1, .int x1), (2, .long x2), (4, .int x4)] → W p l e ({ frames := 4, cells := 0, slots := 0, locals := 88 }) s m ([.ref (a_M 0), .int p1] : List Value).toArray below meth c H locs 0 0 Q (F0 m 5 ls []) := by
  obtain ⟨hx, hb, hml, hown, ht⟩ := id S
  intro n
  induction n with
  | zero =>
    intro x2 x4 H locs ls h
    exact absurd h (by simp [lpX5_woodAt_5])
  | succ n ih =>
    intro x2 x4 H locs ls h hP hS hl
    rw [lpX5_woodAt_5] at h
    refine lv_iload hx hb dX5_woodAt_5 (lv_at hl 3 rfl) ?_
    refine lv_aload_n hx hb dX5_woodAt_7 rfl (lv_at hl 0 rfl) ?_
    refine va_get (D := D) (ci := 5) (v := .ref (a_M 2)) (C := RX5) (T := TX5) (N := 24) hx hb ht inX5 hown hK hP 0 rfl rfl 1 (by decide) (ht _ fl_X5_13) (fun _ h9 => h9) rfl dX5_woodAt_8 ?_
    refine lv_iconst (v := (0 : Int32)) hx hb dX5_woodAt_11 (by decide) ?_
    refine va_iald hx hb hK hP 2 0 rfl rfl (by unfold vp_in; decide) dX5_woodAt_12 ?_
    refine zti (y := M_setting 0) (by rfl) ?_
    refine lv_icmp_ge (tgt := 47) hx hb dX5_woodAt_13 (by decide) (fun z => ?_) (fun z => ?_)
    · replace h := h.1 z
      exact hKK x2 x4 _ _ _ h hP hS (lv_sub hl [2] rfl)
    · replace h := h.2 z
      refine lv_lload_n hx hb dX5_woodAt_16 rfl (lv_at hl 2 rfl) ?_
      refine lv_aload_n hx hb dX5_woodAt_17 rfl (lv_at hl 0 rfl) ?_
      refine lv_iload_n hx hb dX5_woodAt_18 rfl (lv_at hl 1 rfl) ?_
      refine lv_iload hx hb dX5_woodAt_19 (lv_at hl 3 rfl) ?_
      refine zci hA (hDD _ rfl) hS (zrunV (As := [.int x1, .int x4]) (rest := [.long x2]) S hK hA hE hP (hDD _ rfl) hS (mX5_isWood l D cI cJ cC G a_M _ M_pipes M_used M_taped M_at M_statements M_hasImage M_isKeeping M_cursor M_nextAt M_nextMost M_rowMany M_refused M_setting M_hole M_pipeAt M_chance M_weight M_tape M_letter M_letterAt M_told M_kept M_then M_row x1 x4 _ h) kX5_isWood ml_X5_171 ⟨rfl, rfl, by decide, by decide⟩ (q0 := 0) (ci := 5) rfl rfl rfl rfl hl.1 rfl (Nat.le_of_ble_eq_true rfl) dX5_woodAt_21 ⟨Nat.zero_le _, Nat.zero_le _⟩) (fun r_1 u H locs h hP1 hk1 hS => ?_)
      try dsimp only at h
      have hP : va_P D vwCl ((bX5 cI cJ cC a_M M_pipes M_used M_taped M_at M_statements M_hasImage M_isKeeping M_cursor M_nextAt M_nextMost M_rowMany M_refused M_setting M_hole M_pipeAt M_chance M_weight M_tape M_letter M_letterAt M_told M_kept M_then M_row)) H := hP1
      refine lv_if_eq (tgt := 38) hx hb dX5_woodAt_24 (by decide) (fun z => ?_) (fun z => ?_)
      · replace h := h.1 z
        refine lv_lconst (v := (0 : Int64)) hx hb dX5_woodAt_38 (by decide) ?_
        refine lv_ladd hx hb dX5_woodAt_39 ?_
        refine lv_lstore_n (lv' := [(2, .long (x2 + (0 : Int64))), (0, .ref (a_M 0)), (1, .int x1), (4, .int x4)]) hx hb dX5_woodAt_40 rfl hl (by decide) rfl (fun ls hl => ?_)
        refine lv_iinc (v := x4 + (1 : Int32)) (lv' := [(4, .int (x4 + (1 : Int32))), (2, .long (x2 + (0 : Int64))), (0, .ref (a_M 0)), (1, .int x1)]) hx hb dX5_woodAt_41 hl (k := 3) rfl (by rfl) (by decide) rfl (fun ls hl => ?_)
        refine lv_goto (tgt := 5) hx hb dX5_woodAt_44 (by decide) ?_
        exact ih (x2 + (0 : Int64)) (x4 + (1 : Int32)) _ _ _ h hP hS (lv_sub hl [2, 3, 1, 0] rfl)
      · replace h := h.2 z
        refine lv_aload_n hx hb dX5_woodAt_27 rfl (lv_at hl 0 rfl) ?_
        refine va_get (D := D) (ci := 5) (v := .ref (a_M 6)) (C := RX5) (T := TX5) (N := 24) hx hb ht inX5 hown hK hP 0 rfl rfl 5 (by decide) (ht _ fl_X5_25) (fun _ h9 => h9) rfl dX5_woodAt_28 ?_
        refine lv_iload hx hb dX5_woodAt_31 (lv_at hl 3 rfl) ?_
        obtain ⟨hin, h⟩ := h
        refine va_iald hx hb hK hP 6 0 rfl rfl hin dX5_woodAt_33 ?_
        refine lv_i2l hx hb dX5_woodAt_34 rfl ?_
        refine lv_goto (tgt := 39) hx hb dX5_woodAt_35 (by decide) ?_
        refine lv_ladd hx hb dX5_woodAt_39 ?_
        refine lv_lstore_n (lv' := [(2, .long (x2 + ((M_weight x4.toNatClampNeg).toInt64))), (0, .ref (a_M 0)), (1, .int x1), (4, .int x4)]) hx hb dX5_woodAt_40 rfl hl (by decide) rfl (fun ls hl => ?_)
        refine lv_iinc (v := x4 + (1 : Int32)) (lv' := [(4, .int (x4 + (1 : Int32))), (2, .long (x2 + ((M_weight x4.toNatClampNeg).toInt64))), (0, .ref (a_M 0)), (1, .int x1)]) hx hb dX5_woodAt_41 hl (k := 3) rfl (by rfl) (by decide) rfl (fun ls hl => ?_)
        refine lv_goto (tgt := 5) hx hb dX5_woodAt_44 (by decide) ?_
        exact ih (x2 + ((M_weight x4.toNatClampNeg).toInt64)) (x4 + (1 : Int32)) _ _ _ h hP hS (lv_sub hl [2, 3, 1, 0] rfl)
def wpX5_woodAt (post : Int64 → Prop) (M_setting : Nat → Int32) (M_weight : Nat → Int32) (p1 : Int32) : Prop := ∃ n_2 : Nat, lpX5_woodAt_5 (fun (x2_3 : Int64) (x4_4 : Int32) => post x2_3) p1 M_setting M_weight n_2 (0 : Int64) (0 : Int32)
set_option maxHeartbeats 4000000 in
set_option maxRecDepth 100000 in
theorem mX5_woodAt (l : Launch) (D : va_G) (cI cJ cC : ClassId) (G : Nat → Nat → Nat) (a_M : Nat → Nat) (sz : Nat) (M_pipes : Int32) (M_used : Int32) (M_taped : Int32) (M_at : Int32) (M_statements : Int32) (M_hasImage : Int32) (M_isKeeping : Int32) (M_cursor : Int32) (M_nextAt : Int32) (M_nextMost : Int64) (M_rowMany : Int32) (M_refused : Nat → Int32) (M_setting : Nat → Int32) (M_hole : Nat → Int32) (M_pipeAt : Nat → Int32) (M_chance : Nat → Int32) (M_weight : Nat → Int32) (M_tape : Nat → Int32) (M_letter : Nat → Int32) (M_letterAt : Nat → Int32) (M_told : Nat → Int32) (M_kept : Nat → Int32) (M_then : Nat → Int64) (M_row : Nat → Int32) (p1 : Int32) (post : Int64 → Prop) (h : wpX5_woodAt post M_setting M_weight p1) : Met l yX5_woodAt (wz yX5_woodAt cX5_woodAt 5 (some .long)) ({ frames := 4, cells := 0, slots := 0, locals := 88 }) (va_Pc [.ref (a_M 0), .int p1] (PW D (tz cI cJ cC) G ((bX5 cI cJ cC a_M M_pipes M_used M_taped M_at M_statements M_hasImage M_isKeeping M_cursor M_nextAt M_nextMost M_rowMany M_refused M_setting M_hole M_pipeAt M_chance M_weight M_tape M_letter M_letterAt M_told M_kept M_then M_row)) sz)) (va_Ql (fun (r : Int64) (u : Unit) => post r ) (fun (u : Unit) t => va_P D vwCl ((bX5 cI cJ cC a_M M_pipes M_used M_taped M_at M_statements M_hasImage M_isKeeping M_cursor M_nextAt M_nextMost M_rowMany M_refused M_setting M_hole M_pipeAt M_chance M_weight M_tape M_letter M_letterAt M_told M_kept M_then M_row)) t.heap) (va_A ((bX5 cI cJ cC a_M M_pipes M_used M_taped M_at M_statements M_hasImage M_isKeeping M_cursor M_nextAt M_nextMost M_rowMany M_refused M_setting M_hole M_pipeAt M_chance M_weight M_tape M_letter M_letterAt M_told M_kept M_then M_row)) sz)) 0 0 (va_A ((bX5 cI cJ cC a_M M_pipes M_used M_taped M_at M_statements M_hasImage M_isKeeping M_cursor M_nextAt M_nextMost M_rowMany M_refused M_setting M_hole M_pipeAt M_chance M_weight M_tape M_letter M_letterAt M_told M_kept M_then M_row)) sz) := by
  refine zml (gw := fun (u : Unit) => (bX5 cI cJ cC a_M M_pipes M_used M_taped M_at M_statements M_hasImage M_isKeeping M_cursor M_nextAt M_nextMost M_rowMany M_refused M_setting M_hole M_pipeAt M_chance M_weight M_tape M_letter M_letterAt M_told M_kept M_then M_row)) (plainFor_of_name (by decide)) (Nat.le_of_ble_eq_true rfl) ?_
  intro p e s m below meth c A Q ls S hK hD hA hE hP hl hret
  obtain ⟨hx, hb, hml, hown, ht⟩ := id S
  have hS : va_S A s.heap s.heap [] := va_S.rf
  have hDD : ∀ ws : va_W, ws.map (fun q => q.1) = [a_M 0, a_M 1, a_M 2, a_M 3, a_M 4, a_M 5, a_M 6, a_M 7, a_M 8, a_M 9, a_M 10, a_M 11, a_M 12, a_M 13] → va_D A ws := fun ws hw => zD hD (hw.trans rfl)
  have hl : lv_has ls 5 [(0, .ref (a_M 0)), (1, .int p1)] := hl
  unfold wpX5_woodAt at h
  refine lv_lconst (v := (0 : Int64)) hx hb dX5_woodAt_0 (by decide) ?_
  refine lv_lstore_n (lv' := [(2, .long (0 : Int64)), (0, .ref (a_M 0)), (1, .int p1)]) hx hb dX5_woodAt_1 rfl hl (by decide) rfl (fun ls hl => ?_)
  refine lv_iconst (v := (0 : Int32)) hx hb dX5_woodAt_2 (by decide) ?_
  refine lv_istore (lv' := [(4, .int (0 : Int32)), (2, .long (0 : Int64)), (0, .ref (a_M 0)), (1, .int p1)]) hx hb dX5_woodAt_3 hl (by decide) rfl (fun ls hl => ?_)
  obtain ⟨n_2, h⟩ := h
  refine wX5_woodAt_5 l D cI cJ cC G a_M p1 p1 M_pipes M_used M_taped M_at M_statements M_hasImage M_isKeeping M_cursor M_nextAt M_nextMost M_rowMany M_refused M_setting M_hole M_pipeAt M_chance M_weight M_tape M_letter M_letterAt M_told M_kept M_then M_row _ S hK hDD hA hE (fun x2_3 x4_4 H locs ls h hP hS hl => ?_) n_2 (0 : Int64) (0 : Int32) _ _ _ h hP hS (lv_sub hl [2, 3, 1, 0] rfl)
  try dsimp only at h
  refine lv_lload_n hx hb dX5_woodAt_47 rfl (lv_at hl 0 rfl) ?_
  exact hret x2_3 () _ _ _ _ h hP hS dX5_woodAt_48
def wpX5_partOf (post : Int64 → Prop) (p0 : Int64) (p1 : Int64) (p2 : Int32) : Prop := ((p1 = (0 : Int64) → (post p2.toInt64)) ∧ (¬ (p1 = (0 : Int64)) → (((p2 = (0 : Int32) → (wpX5_divisor (fun (r_2 : Int64) => ¬ r_2 = 0 ∧ (post (p0 / r_2))) p0 p1)) ∧ (¬ (p2 = (0 : Int32)) → (wpX5_divisor (fun (r_1 : Int64) => ¬ r_1 = 0 ∧ (post (p1 / r_1))) p0 p1))))))
set_option maxHeartbeats 4000000 in
set_option maxRecDepth 100000 in
theorem mX5_partOf (l : Launch) (D : va_G) (cI cJ cC : ClassId) (G : Nat → Nat → Nat) (sz : Nat) (p0 : Int64) (p1 : Int64) (p2 : Int32) (post : Int64 → Prop) (h : wpX5_partOf post p0 p1 p2) : Met l yX5_partOf (wz yX5_partOf cX5_partOf 5 (some .long)) ({ frames := 1, cells := 0, slots := 0, locals := 29 }) (va_Pc [.long p0, .long p1, .int p2] (PW D (tz cI cJ cC) G ([]) sz)) (va_Ql (fun (r : Int64) (u : Unit) => post r ) (fun (u : Unit) t => va_P D vwCl ([]) t.heap) (va_A ([]) sz)) 0 0 (va_A ([]) sz) := by
  refine zml (gw := fun (u : Unit) => []) (plainFor_of_name (by decide)) (Nat.le_of_ble_eq_true rfl) ?_
  intro p e s m below meth c A Q ls S hK hD hA hE hP hl hret
  obtain ⟨hx, hb, hml, hown, ht⟩ := id S
  have hS : va_S A s.heap s.heap [] := va_S.rf
  have hDD : ∀ ws : va_W, ws.map (fun q => q.1) = [] → va_D A ws := fun ws hw => zD hD (hw.trans rfl)
  have hl : lv_has ls 5 [(0, .long p0), (2, .long p1), (4, .int p2)] := hl
  unfold wpX5_partOf at h
  refine lv_lload_n hx hb dX5_partOf_0 rfl (lv_at hl 1 rfl) ?_
  refine lv_lconst (v := (0 : Int64)) hx hb dX5_partOf_1 (by decide) ?_
  refine W.lcmp hx hb dX5_partOf_2 ?_
  refine lv_if_ne (tgt := 10) hx hb dX5_partOf_3 (by decide) (fun z => ?_) (fun z => ?_)
  · replace h := h.2 (fun q => z (zl_eq.mpr q))
    refine lv_iload hx hb dX5_partOf_10 (lv_at hl 2 rfl) ?_
    refine lv_if_ne (tgt := 19) hx hb dX5_partOf_12 (by decide) (fun z => ?_) (fun z => ?_)
    · replace h := h.2 z
      refine lv_lload_n hx hb dX5_partOf_19 rfl (lv_at hl 1 rfl) ?_
      refine lv_lload_n hx hb dX5_partOf_20 rfl (lv_at hl 0 rfl) ?_
      refine lv_lload_n hx hb dX5_partOf_21 rfl (lv_at hl 1 rfl) ?_
      refine zcl hA (hDD _ rfl) hS (zrunS (As := [.long p0, .long p1]) (rest := [.long p1]) S hK hA hE hP (hDD _ rfl) hS (mX5_divisor l D cI cJ cC G _ p0 p1 _ h) kX5_divisor ml_X5_180 ⟨rfl, rfl, by decide, by decide⟩ rfl hl.1 rfl (Nat.le_of_ble_eq_true rfl) dX5_partOf_22 ⟨Nat.zero_le _, Nat.zero_le _⟩) (fun r_1 u H locs h hP1 hk1 hS => ?_)
      try dsimp only at h
      have hP : va_P D vwCl ([]) H := hP1
      obtain ⟨hne, h⟩ := h
      refine lv_ldiv hx hb dX5_partOf_25 hne ?_
      exact hret (p1 / r_1) () _ _ _ _ h hP hS dX5_partOf_26
    · replace h := h.1 z
      refine lv_lload_n hx hb dX5_partOf_15 rfl (lv_at hl 0 rfl) ?_
      refine lv_goto (tgt := 20) hx hb dX5_partOf_16 (by decide) ?_
      refine lv_lload_n hx hb dX5_partOf_20 rfl (lv_at hl 0 rfl) ?_
      refine lv_lload_n hx hb dX5_partOf_21 rfl (lv_at hl 1 rfl) ?_
      refine zcl hA (hDD _ rfl) hS (zrunS (As := [.long p0, .long p1]) (rest := [.long p0]) S hK hA hE hP (hDD _ rfl) hS (mX5_divisor l D cI cJ cC G _ p0 p1 _ h) kX5_divisor ml_X5_180 ⟨rfl, rfl, by decide, by decide⟩ rfl hl.1 rfl (Nat.le_of_ble_eq_true rfl) dX5_partOf_22 ⟨Nat.zero_le _, Nat.zero_le _⟩) (fun r_2 u H locs h hP1 hk1 hS => ?_)
      try dsimp only at h
      have hP : va_P D vwCl ([]) H := hP1
      obtain ⟨hne, h⟩ := h
      refine lv_ldiv hx hb dX5_partOf_25 hne ?_
      exact hret (p0 / r_2) () _ _ _ _ h hP hS dX5_partOf_26
  · replace h := h.1 (zl_eq.mp z)
    refine lv_iload hx hb dX5_partOf_6 (lv_at hl 2 rfl) ?_
    refine lv_i2l hx hb dX5_partOf_8 rfl ?_
    exact hret p2.toInt64 () _ _ _ _ h hP hS dX5_partOf_9
def wpX5_likely (post : Int64 → (Nat → Int32) → Prop) (M_refused : Nat → Int32) (M_setting : Nat → Int32) (M_weight : Nat → Int32) (p1 : Int32) (p2 : Int32) : Prop := wpX5_isInch (fun (r_1 : Int32) => ((r_1 = (0 : Int32) → (wpX5_lowest (fun (r_8 : Int64) (M_refused_9 : Nat → Int32) => post r_8 M_refused_9) M_refused (-1 : Int32))) ∧ (¬ (r_1 = (0 : Int32)) → (wpX5_isIn (fun (r_2 : Int32) => ((r_2 = (0 : Int32) → (wpX5_lowest (fun (r_3 : Int64) (M_refused_4 : Nat → Int32) => post r_3 M_refused_4) M_refused (-2 : Int32))) ∧ (¬ (r_2 = (0 : Int32)) → (wpX5_woodAt (fun (r_5 : Int64) => wpX5_all (fun (r_6 : Int64) => wpX5_partOf (fun (r_7 : Int64) => post r_7 M_refused) r_5 r_6 p2) M_setting M_weight) M_setting M_weight p1)))) p2 (0 : Int32) (1 : Int32))))) p1
set_option maxHeartbeats 4000000 in
set_option maxRecDepth 100000 in
theorem mX5_likely (l : Launch) (D : va_G) (cI cJ cC : ClassId) (G : Nat → Nat → Nat) (a_M : Nat → Nat) (sz : Nat) (M_pipes : Int32) (M_used : Int32) (M_taped : Int32) (M_at : Int32) (M_statements : Int32) (M_hasImage : Int32) (M_isKeeping : Int32) (M_cursor : Int32) (M_nextAt : Int32) (M_nextMost : Int64) (M_rowMany : Int32) (M_refused : Nat → Int32) (M_setting : Nat → Int32) (M_hole : Nat → Int32) (M_pipeAt : Nat → Int32) (M_chance : Nat → Int32) (M_weight : Nat → Int32) (M_tape : Nat → Int32) (M_letter : Nat → Int32) (M_letterAt : Nat → Int32) (M_told : Nat → Int32) (M_kept : Nat → Int32) (M_then : Nat → Int64) (M_row : Nat → Int32) (p1 : Int32) (p2 : Int32) (post : Int64 → (Nat → Int32) → Prop) (h : wpX5_likely post M_refused M_setting M_weight p1 p2) : Met l yX5_likely (wz yX5_likely cX5_likely 3 (some .long)) ({ frames := 5, cells := 0, slots := 0, locals := 112 }) (va_Pc [.ref (a_M 0), .int p1, .int p2] (PW D (tz cI cJ cC) G ((bX5 cI cJ cC a_M M_pipes M_used M_taped M_at M_statements M_hasImage M_isKeeping M_cursor M_nextAt M_nextMost M_rowMany M_refused M_setting M_hole M_pipeAt M_chance M_weight M_tape M_letter M_letterAt M_told M_kept M_then M_row)) sz)) (va_Ql (fun (r : Int64) (u : (Nat → Int32)) => post r u) (fun (u : (Nat → Int32)) t => va_P D vwCl ((bX5 cI cJ cC a_M M_pipes M_used M_taped M_at M_statements M_hasImage M_isKeeping M_cursor M_nextAt M_nextMost M_rowMany u M_setting M_hole M_pipeAt M_chance M_weight M_tape M_letter M_letterAt M_told M_kept M_then M_row)) t.heap) (va_A ((bX5 cI cJ cC a_M M_pipes M_used M_taped M_at M_statements M_hasImage M_isKeeping M_cursor M_nextAt M_nextMost M_rowMany M_refused M_setting M_hole M_pipeAt M_chance M_weight M_tape M_letter M_letterAt M_told M_kept M_then M_row)) sz)) 0 0 (va_A ((bX5 cI cJ cC a_M M_pipes M_used M_taped M_at M_statements M_hasImage M_isKeeping M_cursor M_nextAt M_nextMost M_rowMany M_refused M_setting M_hole M_pipeAt M_chance M_weight M_tape M_letter M_letterAt M_told M_kept M_then M_row)) sz) := by
  refine zml (gw := fun (u : (Nat → Int32)) => (bX5 cI cJ cC a_M M_pipes M_used M_taped M_at M_statements M_hasImage M_isKeeping M_cursor M_nextAt M_nextMost M_rowMany u M_setting M_hole M_pipeAt M_chance M_weight M_tape M_letter M_letterAt M_told M_kept M_then M_row)) (plainFor_of_name (by decide)) (Nat.le_of_ble_eq_true rfl) ?_
  intro p e s m below meth c A Q ls S hK hD hA hE hP hl hret
  obtain ⟨hx, hb, hml, hown, ht⟩ := id S
  have hS : va_S A s.heap s.heap [] := va_S.rf
  have hDD : ∀ ws : va_W, ws.map (fun q => q.1) = [a_M 0, a_M 1, a_M 2, a_M 3, a_M 4, a_M 5, a_M 6, a_M 7, a_M 8, a_M 9, a_M 10, a_M 11, a_M 12, a_M 13] → va_D A ws := fun ws hw => zD hD (hw.trans rfl)
  have hl : lv_has ls 3 [(0, .ref (a_M 0)), (1, .int p1), (2, .int p2)] := hl
  unfold wpX5_likely at h
  refine lv_iload_n hx hb dX5_likely_0 rfl (lv_at hl 1 rfl) ?_
  refine zci hA zD0 hS (zrunS (As := [.int p1]) (rest := []) S hK hA hE zP0 zD0 hS (mX5_isInch l D cI cJ cC G _ p1 _ h) kX5_isInch ml_X5_113 ⟨rfl, rfl, by decide, by decide⟩ rfl hl.1 rfl (Nat.le_of_ble_eq_true rfl) dX5_likely_1 ⟨Nat.zero_le _, Nat.zero_le _⟩) (fun r_1 u H locs h hP1 hk1 hS => ?_)
  try dsimp only at h
  have hP : va_P D vwCl ((bX5 cI cJ cC a_M M_pipes M_used M_taped M_at M_statements M_hasImage M_isKeeping M_cursor M_nextAt M_nextMost M_rowMany M_refused M_setting M_hole M_pipeAt M_chance M_weight M_tape M_letter M_letterAt M_told M_kept M_then M_row)) H := zKeep hP hk1
  refine lv_if_ne (tgt := 13) hx hb dX5_likely_4 (by decide) (fun z => ?_) (fun z => ?_)
  · replace h := h.2 z
    refine lv_iload_n hx hb dX5_likely_13 rfl (lv_at hl 2 rfl) ?_
    refine lv_iconst (v := (0 : Int32)) hx hb dX5_likely_14 (by decide) ?_
    refine lv_iconst (v := (1 : Int32)) hx hb dX5_likely_15 (by decide) ?_
    refine zci hA zD0 hS (zrunS (As := [.int p2, .int (0 : Int32), .int (1 : Int32)]) (rest := []) S hK hA hE zP0 zD0 hS (mX5_isIn l D cI cJ cC G _ p2 (0 : Int32) (1 : Int32) _ h) kX5_isIn ml_X5_77 ⟨rfl, rfl, by decide, by decide⟩ rfl hl.1 rfl (Nat.le_of_ble_eq_true rfl) dX5_likely_16 ⟨Nat.zero_le _, Nat.zero_le _⟩) (fun r_2 u H locs h hP1 hk1 hS => ?_)
    try dsimp only at h
    have hP : va_P D vwCl ((bX5 cI cJ cC a_M M_pipes M_used M_taped M_at M_statements M_hasImage M_isKeeping M_cursor M_nextAt M_nextMost M_rowMany M_refused M_setting M_hole M_pipeAt M_chance M_weight M_tape M_letter M_letterAt M_told M_kept M_then M_row)) H := zKeep hP hk1
    refine lv_if_eq (tgt := 38) hx hb dX5_likely_19 (by decide) (fun z => ?_) (fun z => ?_)
    · replace h := h.1 z
      refine lv_aload_n hx hb dX5_likely_38 rfl (lv_at hl 0 rfl) ?_
      refine lv_bipush (v := (-2 : Int32)) hx hb dX5_likely_39 (by decide) ?_
      refine zcl hA (hDD _ rfl) hS (zrunV (As := [.int (-2 : Int32)]) (rest := []) S hK hA hE hP (hDD _ rfl) hS (mX5_lowest l D cI cJ cC G a_M _ M_pipes M_used M_taped M_at M_statements M_hasImage M_isKeeping M_cursor M_nextAt M_nextMost M_rowMany M_refused M_setting M_hole M_pipeAt M_chance M_weight M_tape M_letter M_letterAt M_told M_kept M_then M_row (-2 : Int32) _ h) kX5_lowest ml_X5_197 ⟨rfl, rfl, by decide, by decide⟩ (q0 := 0) (ci := 5) rfl rfl rfl rfl hl.1 rfl (Nat.le_of_ble_eq_true rfl) dX5_likely_41 ⟨Nat.zero_le _, Nat.zero_le _⟩) (fun r_3 M_refused_4 H locs h hP1 hk1 hS => ?_)
      try dsimp only at h
      have hP : va_P D vwCl ((bX5 cI cJ cC a_M M_pipes M_used M_taped M_at M_statements M_hasImage M_isKeeping M_cursor M_nextAt M_nextMost M_rowMany M_refused_4 M_setting M_hole M_pipeAt M_chance M_weight M_tape M_letter M_letterAt M_told M_kept M_then M_row)) H := hP1
      exact hret r_3 M_refused_4 _ _ _ _ h hP hS dX5_likely_44
    · replace h := h.2 z
      refine lv_aload_n hx hb dX5_likely_22 rfl (lv_at hl 0 rfl) ?_
      refine lv_iload_n hx hb dX5_likely_23 rfl (lv_at hl 1 rfl) ?_
      refine zcl hA (hDD _ rfl) hS (zrunV (As := [.int p1]) (rest := []) S hK hA hE hP (hDD _ rfl) hS (mX5_woodAt l D cI cJ cC G a_M _ M_pipes M_used M_taped M_at M_statements M_hasImage M_isKeeping M_cursor M_nextAt M_nextMost M_rowMany M_refused M_setting M_hole M_pipeAt M_chance M_weight M_tape M_letter M_letterAt M_told M_kept M_then M_row p1 _ h) kX5_woodAt ml_X5_213 ⟨rfl, rfl, by decide, by decide⟩ (q0 := 0) (ci := 5) rfl rfl rfl rfl hl.1 rfl (Nat.le_of_ble_eq_true rfl) dX5_likely_24 ⟨Nat.zero_le _, Nat.zero_le _⟩) (fun r_5 u H locs h hP1 hk1 hS => ?_)
      try dsimp only at h
      have hP : va_P D vwCl ((bX5 cI cJ cC a_M M_pipes M_used M_taped M_at M_statements M_hasImage M_isKeeping M_cursor M_nextAt M_nextMost M_rowMany M_refused M_setting M_hole M_pipeAt M_chance M_weight M_tape M_letter M_letterAt M_told M_kept M_then M_row)) H := hP1
      refine lv_aload_n hx hb dX5_likely_27 rfl (lv_at hl 0 rfl) ?_
      refine zcl hA (hDD _ rfl) hS (zrunV (As := []) (rest := [.long r_5]) S hK hA hE hP (hDD _ rfl) hS (mX5_all l D cI cJ cC G a_M _ M_pipes M_used M_taped M_at M_statements M_hasImage M_isKeeping M_cursor M_nextAt M_nextMost M_rowMany M_refused M_setting M_hole M_pipeAt M_chance M_weight M_tape M_letter M_letterAt M_told M_kept M_then M_row _ h) kX5_all ml_X5_216 ⟨rfl, rfl, by decide, by decide⟩ (q0 := 0) (ci := 5) rfl rfl rfl rfl hl.1 rfl (Nat.le_of_ble_eq_true rfl) dX5_likely_28 ⟨Nat.zero_le _, Nat.zero_le _⟩) (fun r_6 u H locs h hP1 hk1 hS => ?_)
      try dsimp only at h
      have hP : va_P D vwCl ((bX5 cI cJ cC a_M M_pipes M_used M_taped M_at M_statements M_hasImage M_isKeeping M_cursor M_nextAt M_nextMost M_rowMany M_refused M_setting M_hole M_pipeAt M_chance M_weight M_tape M_letter M_letterAt M_told M_kept M_then M_row)) H := hP1
      refine lv_iload_n hx hb dX5_likely_31 rfl (lv_at hl 2 rfl) ?_
      refine zcl hA zD0 hS (zrunS (As := [.long r_5, .long r_6, .int p2]) (rest := []) S hK hA hE zP0 zD0 hS (mX5_partOf l D cI cJ cC G _ r_5 r_6 p2 _ h) kX5_partOf ml_X5_220 ⟨rfl, rfl, by decide, by decide⟩ rfl hl.1 rfl (Nat.le_of_ble_eq_true rfl) dX5_likely_32 ⟨Nat.zero_le _, Nat.zero_le _⟩) (fun r_7 u H locs h hP1 hk1 hS => ?_)
      try dsimp only at h
      have hP : va_P D vwCl ((bX5 cI cJ cC a_M M_pipes M_used M_taped M_at M_statements M_hasImage M_isKeeping M_cursor M_nextAt M_nextMost M_rowMany M_refused M_setting M_hole M_pipeAt M_chance M_weight M_tape M_letter M_letterAt M_told M_kept M_then M_row)) H := zKeep hP hk1
      refine lv_goto (tgt := 44) hx hb dX5_likely_35 (by decide) ?_
      exact hret r_7 M_refused _ _ _ _ h hP hS dX5_likely_44
  · replace h := h.1 z
    refine lv_aload_n hx hb dX5_likely_7 rfl (lv_at hl 0 rfl) ?_
    refine lv_iconst (v := (-1 : Int32)) hx hb dX5_likely_8 (by decide) ?_
    refine zcl hA (hDD _ rfl) hS (zrunV (As := [.int (-1 : Int32)]) (rest := []) S hK hA hE hP (hDD _ rfl) hS (mX5_lowest l D cI cJ cC G a_M _ M_pipes M_used M_taped M_at M_statements M_hasImage M_isKeeping M_cursor M_nextAt M_nextMost M_rowMany M_refused M_setting M_hole M_pipeAt M_chance M_weight M_tape M_letter M_letterAt M_told M_kept M_then M_row (-1 : Int32) _ h) kX5_lowest ml_X5_197 ⟨rfl, rfl, by decide, by decide⟩ (q0 := 0) (ci := 5) rfl rfl rfl rfl hl.1 rfl (Nat.le_of_ble_eq_true rfl) dX5_likely_9 ⟨Nat.zero_le _, Nat.zero_le _⟩) (fun r_8 M_refused_9 H locs h hP1 hk1 hS => ?_)
    try dsimp only at h
    have hP : va_P D vwCl ((bX5 cI cJ cC a_M M_pipes M_used M_taped M_at M_statements M_hasImage M_isKeeping M_cursor M_nextAt M_nextMost M_rowMany M_refused_9 M_setting M_hole M_pipeAt M_chance M_weight M_tape M_letter M_letterAt M_told M_kept M_then M_row)) H := hP1
    exact hret r_8 M_refused_9 _ _ _ _ h hP hS dX5_likely_12
