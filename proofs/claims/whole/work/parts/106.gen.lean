def wpX5_next_ (post : Int32 → Int32 → Int64 → (Nat → Int32) → (Nat → Int64) → Prop) (M_nextAt : Int32) (M_nextMost : Int64) (M_refused : Nat → Int32) (M_setting : Nat → Int32) (M_weight : Nat → Int32) (M_then : Nat → Int64) (p1 : Int32) : Prop := wpX5_isIn (fun (r_1 : Int32) => ((r_1 = (0 : Int32) → (wpX5_no (fun (r_5 : Int32) (M_refused_6 : Nat → Int32) => post r_5 M_nextAt M_nextMost M_refused_6 M_then) M_refused (-2 : Int32))) ∧ (¬ (r_1 = (0 : Int32)) → (wpX5_findNext (fun (M_nextAt_2 : Int32) (M_nextMost_3 : Int64) (M_then_4 : Nat → Int64) => post M_nextAt_2 M_nextAt_2 M_nextMost_3 M_refused M_then_4) M_setting M_weight M_then p1)))) p1 (0 : Int32) (4 : Int32)
set_option maxHeartbeats 4000000 in
set_option maxRecDepth 100000 in
theorem mX5_next_ (l : Launch) (D : va_G) (cI cJ cC : ClassId) (G : Nat → Nat → Nat) (a_M : Nat → Nat) (sz : Nat) (M_pipes : Int32) (M_used : Int32) (M_taped : Int32) (M_at : Int32) (M_statements : Int32) (M_hasImage : Int32) (M_isKeeping : Int32) (M_cursor : Int32) (M_nextAt : Int32) (M_nextMost : Int64) (M_rowMany : Int32) (M_refused : Nat → Int32) (M_setting : Nat → Int32) (M_hole : Nat → Int32) (M_pipeAt : Nat → Int32) (M_chance : Nat → Int32) (M_weight : Nat → Int32) (M_tape : Nat → Int32) (M_letter : Nat → Int32) (M_letterAt : Nat → Int32) (M_told : Nat → Int32) (M_kept : Nat → Int32) (M_then : Nat → Int64) (M_row : Nat → Int32) (p1 : Int32) (post : Int32 → Int32 → Int64 → (Nat → Int32) → (Nat → Int64) → Prop) (h : wpX5_next_ post M_nextAt M_nextMost M_refused M_setting M_weight M_then p1) : Met l yX5_next_ (wz yX5_next_ cX5_next_ 2 (some .int)) ({ frames := 8, cells := 0, slots := 0, locals := 189 }) (va_Pc [.ref (a_M 0), .int p1] (PW D (tz cI cJ cC) G ((bX5 cI cJ cC a_M M_pipes M_used M_taped M_at M_statements M_hasImage M_isKeeping M_cursor M_nextAt M_nextMost M_rowMany M_refused M_setting M_hole M_pipeAt M_chance M_weight M_tape M_letter M_letterAt M_told M_kept M_then M_row)) sz)) (va_Qi (fun (r : Int32) (u : Int32 × Int64 × (Nat → Int32) × (Nat → Int64)) => post r u.1 u.2.1 u.2.2.1 u.2.2.2) (fun (u : Int32 × Int64 × (Nat → Int32) × (Nat → Int64)) t => va_P D vwCl ((bX5 cI cJ cC a_M M_pipes M_used M_taped M_at M_statements M_hasImage M_isKeeping M_cursor u.1 u.2.1 M_rowMany u.2.2.1 M_setting M_hole M_pipeAt M_chance M_weight M_tape M_letter M_letterAt M_told M_kept u.2.2.2 M_row)) t.heap) (va_A ((bX5 cI cJ cC a_M M_pipes M_used M_taped M_at M_statements M_hasImage M_isKeeping M_cursor M_nextAt M_nextMost M_rowMany M_refused M_setting M_hole M_pipeAt M_chance M_weight M_tape M_letter M_letterAt M_told M_kept M_then M_row)) sz)) 0 0 (va_A ((bX5 cI cJ cC a_M M_pipes M_used M_taped M_at M_statements M_hasImage M_isKeeping M_cursor M_nextAt M_nextMost M_rowMany M_refused M_setting M_hole M_pipeAt M_chance M_weight M_tape M_letter M_letterAt M_told M_kept M_then M_row)) sz) := by
  refine zmi (gw := fun (u : Int32 × Int64 × (Nat → Int32) × (Nat → Int64)) => (bX5 cI cJ cC a_M M_pipes M_used M_taped M_at M_statements M_hasImage M_isKeeping M_cursor u.1 u.2.1 M_rowMany u.2.2.1 M_setting M_hole M_pipeAt M_chance M_weight M_tape M_letter M_letterAt M_told M_kept u.2.2.2 M_row)) (plainFor_of_name (by decide)) (Nat.le_of_ble_eq_true rfl) ?_
  intro p e s m below meth c A Q ls S hK hD hA hE hP hl hret
  obtain ⟨hx, hb, hml, hown, ht⟩ := id S
  have hS : va_S A s.heap s.heap [] := va_S.rf
  have hDD : ∀ ws : va_W, ws.map (fun q => q.1) = [a_M 0, a_M 1, a_M 2, a_M 3, a_M 4, a_M 5, a_M 6, a_M 7, a_M 8, a_M 9, a_M 10, a_M 11, a_M 12, a_M 13] → va_D A ws := fun ws hw => zD hD (hw.trans rfl)
  have hl : lv_has ls 2 [(0, .ref (a_M 0)), (1, .int p1)] := hl
  unfold wpX5_next_ at h
  refine lv_iload_n hx hb dX5_next__0 rfl (lv_at hl 1 rfl) ?_
  refine lv_iconst (v := (0 : Int32)) hx hb dX5_next__1 (by decide) ?_
  refine lv_iconst (v := (4 : Int32)) hx hb dX5_next__2 (by decide) ?_
  refine zci hA zD0 hS (zrunS (As := [.int p1, .int (0 : Int32), .int (4 : Int32)]) (rest := []) S hK hA hE zP0 zD0 hS (mX5_isIn l D cI cJ cC G _ p1 (0 : Int32) (4 : Int32) _ h) kX5_isIn ml_X5_77 ⟨rfl, rfl, by decide, by decide⟩ rfl hl.1 rfl (Nat.le_of_ble_eq_true rfl) dX5_next__3 ⟨Nat.zero_le _, Nat.zero_le _⟩) (fun r_1 u H locs h hP1 hk1 hS => ?_)
  try dsimp only at h
  have hP : va_P D vwCl ((bX5 cI cJ cC a_M M_pipes M_used M_taped M_at M_statements M_hasImage M_isKeeping M_cursor M_nextAt M_nextMost M_rowMany M_refused M_setting M_hole M_pipeAt M_chance M_weight M_tape M_letter M_letterAt M_told M_kept M_then M_row)) H := zKeep hP hk1
  refine lv_if_ne (tgt := 16) hx hb dX5_next__6 (by decide) (fun z => ?_) (fun z => ?_)
  · replace h := h.2 z
    refine lv_aload_n hx hb dX5_next__16 rfl (lv_at hl 0 rfl) ?_
    refine lv_iload_n hx hb dX5_next__17 rfl (lv_at hl 1 rfl) ?_
    refine zcv hA (hDD _ rfl) hS (zrunV (As := [.int p1]) (rest := []) S hK hA hE hP (hDD _ rfl) hS (mX5_findNext l D cI cJ cC G a_M _ M_pipes M_used M_taped M_at M_statements M_hasImage M_isKeeping M_cursor M_nextAt M_nextMost M_rowMany M_refused M_setting M_hole M_pipeAt M_chance M_weight M_tape M_letter M_letterAt M_told M_kept M_then M_row p1 _ h) kX5_findNext ml_X5_253 ⟨rfl, rfl, by decide, by decide⟩ (q0 := 0) (ci := 5) rfl rfl rfl rfl hl.1 rfl (Nat.le_of_ble_eq_true rfl) dX5_next__18 ⟨Nat.zero_le _, Nat.zero_le _⟩) (fun u H locs h hP1 hk1 hS => ?_)
    obtain ⟨M_nextAt_2, M_nextMost_3, M_then_4⟩ := u
    dsimp only at h
    have hP : va_P D vwCl ((bX5 cI cJ cC a_M M_pipes M_used M_taped M_at M_statements M_hasImage M_isKeeping M_cursor M_nextAt_2 M_nextMost_3 M_rowMany M_refused M_setting M_hole M_pipeAt M_chance M_weight M_tape M_letter M_letterAt M_told M_kept M_then_4 M_row)) H := hP1
    refine lv_aload_n hx hb dX5_next__21 rfl (lv_at hl 0 rfl) ?_
    refine va_get (D := D) (ci := 5) (v := .int M_nextAt_2) (C := RX5) (T := TX5) (N := 24) hx hb ht inX5 hown hK hP 0 rfl rfl 20 (by decide) (ht _ fl_X5_240) (fun _ h9 => h9) rfl dX5_next__22 ?_
    exact hret M_nextAt_2 (M_nextAt_2, M_nextMost_3, M_refused, M_then_4) _ _ _ _ rfl h hP hS dX5_next__25
  · replace h := h.1 z
    refine lv_aload_n hx hb dX5_next__9 rfl (lv_at hl 0 rfl) ?_
    refine lv_bipush (v := (-2 : Int32)) hx hb dX5_next__10 (by decide) ?_
    refine zci hA (hDD _ rfl) hS (zrunV (As := [.int (-2 : Int32)]) (rest := []) S hK hA hE hP (hDD _ rfl) hS (mX5_no l D cI cJ cC G a_M _ M_pipes M_used M_taped M_at M_statements M_hasImage M_isKeeping M_cursor M_nextAt M_nextMost M_rowMany M_refused M_setting M_hole M_pipeAt M_chance M_weight M_tape M_letter M_letterAt M_told M_kept M_then M_row (-2 : Int32) _ h) kX5_no ml_X5_66 ⟨rfl, rfl, by decide, by decide⟩ (q0 := 0) (ci := 5) rfl rfl rfl rfl hl.1 rfl (Nat.le_of_ble_eq_true rfl) dX5_next__12 ⟨Nat.zero_le _, Nat.zero_le _⟩) (fun r_5 M_refused_6 H locs h hP1 hk1 hS => ?_)
    try dsimp only at h
    have hP : va_P D vwCl ((bX5 cI cJ cC a_M M_pipes M_used M_taped M_at M_statements M_hasImage M_isKeeping M_cursor M_nextAt M_nextMost M_rowMany M_refused_6 M_setting M_hole M_pipeAt M_chance M_weight M_tape M_letter M_letterAt M_told M_kept M_then M_row)) H := hP1
    exact hret r_5 (M_nextAt, M_nextMost, M_refused_6, M_then) _ _ _ _ rfl h hP hS dX5_next__15
def wpX5_worth (post : Int64 → Int32 → Int64 → (Nat → Int32) → (Nat → Int64) → Prop) (M_nextAt : Int32) (M_nextMost : Int64) (M_refused : Nat → Int32) (M_setting : Nat → Int32) (M_weight : Nat → Int32) (M_then : Nat → Int64) (p1 : Int32) (p2 : Int32) : Prop := wpX5_isIn (fun (r_1 : Int32) => ((r_1 = (0 : Int32) → (wpX5_lowest (fun (r_2 : Int64) (M_refused_3 : Nat → Int32) => post r_2 M_nextAt M_nextMost M_refused_3 M_then) M_refused (-2 : Int32))) ∧ (¬ (r_1 = (0 : Int32)) → (wpX5_isIn (fun (r_4 : Int32) => ((r_4 = (0 : Int32) → (wpX5_lowest (fun (r_11 : Int64) (M_refused_12 : Nat → Int32) => post r_11 M_nextAt M_nextMost M_refused_12 M_then) M_refused (-2 : Int32))) ∧ (¬ (r_4 = (0 : Int32)) → (wpX5_worthParts (fun (r_5 : Int64) (M_nextAt_6 : Int32) (M_nextMost_7 : Int64) (M_then_8 : Nat → Int64) => wpX5_all (fun (r_9 : Int64) => wpX5_partOf (fun (r_10 : Int64) => post r_10 M_nextAt_6 M_nextMost_7 M_refused M_then_8) r_5 ((10 : Int64) * r_9) p2) M_setting M_weight) M_setting M_weight M_then p1)))) p2 (0 : Int32) (1 : Int32))))) p1 (0 : Int32) (4 : Int32)
set_option maxHeartbeats 4000000 in
set_option maxRecDepth 100000 in
theorem mX5_worth (l : Launch) (D : va_G) (cI cJ cC : ClassId) (G : Nat → Nat → Nat) (a_M : Nat → Nat) (sz : Nat) (M_pipes : Int32) (M_used : Int32) (M_taped : Int32) (M_at : Int32) (M_statements : Int32) (M_hasImage : Int32) (M_isKeeping : Int32) (M_cursor : Int32) (M_nextAt : Int32) (M_nextMost : Int64) (M_rowMany : Int32) (M_refused : Nat → Int32) (M_setting : Nat → Int32) (M_hole : Nat → Int32) (M_pipeAt : Nat → Int32) (M_chance : Nat → Int32) (M_weight : Nat → Int32) (M_tape : Nat → Int32) (M_letter : Nat → Int32) (M_letterAt : Nat → Int32) (M_told : Nat → Int32) (M_kept : Nat → Int32) (M_then : Nat → Int64) (M_row : Nat → Int32) (p1 : Int32) (p2 : Int32) (post : Int64 → Int32 → Int64 → (Nat → Int32) → (Nat → Int64) → Prop) (h : wpX5_worth post M_nextAt M_nextMost M_refused M_setting M_weight M_then p1 p2) : Met l yX5_worth (wz yX5_worth cX5_worth 3 (some .long)) ({ frames := 9, cells := 0, slots := 0, locals := 210 }) (va_Pc [.ref (a_M 0), .int p1, .int p2] (PW D (tz cI cJ cC) G ((bX5 cI cJ cC a_M M_pipes M_used M_taped M_at M_statements M_hasImage M_isKeeping M_cursor M_nextAt M_nextMost M_rowMany M_refused M_setting M_hole M_pipeAt M_chance M_weight M_tape M_letter M_letterAt M_told M_kept M_then M_row)) sz)) (va_Ql (fun (r : Int64) (u : Int32 × Int64 × (Nat → Int32) × (Nat → Int64)) => post r u.1 u.2.1 u.2.2.1 u.2.2.2) (fun (u : Int32 × Int64 × (Nat → Int32) × (Nat → Int64)) t => va_P D vwCl ((bX5 cI cJ cC a_M M_pipes M_used M_taped M_at M_statements M_hasImage M_isKeeping M_cursor u.1 u.2.1 M_rowMany u.2.2.1 M_setting M_hole M_pipeAt M_chance M_weight M_tape M_letter M_letterAt M_told M_kept u.2.2.2 M_row)) t.heap) (va_A ((bX5 cI cJ cC a_M M_pipes M_used M_taped M_at M_statements M_hasImage M_isKeeping M_cursor M_nextAt M_nextMost M_rowMany M_refused M_setting M_hole M_pipeAt M_chance M_weight M_tape M_letter M_letterAt M_told M_kept M_then M_row)) sz)) 0 0 (va_A ((bX5 cI cJ cC a_M M_pipes M_used M_taped M_at M_statements M_hasImage M_isKeeping M_cursor M_nextAt M_nextMost M_rowMany M_refused M_setting M_hole M_pipeAt M_chance M_weight M_tape M_letter M_letterAt M_told M_kept M_then M_row)) sz) := by
  refine zml (gw := fun (u : Int32 × Int64 × (Nat → Int32) × (Nat → Int64)) => (bX5 cI cJ cC a_M M_pipes M_used M_taped M_at M_statements M_hasImage M_isKeeping M_cursor u.1 u.2.1 M_rowMany u.2.2.1 M_setting M_hole M_pipeAt M_chance M_weight M_tape M_letter M_letterAt M_told M_kept u.2.2.2 M_row)) (plainFor_of_name (by decide)) (Nat.le_of_ble_eq_true rfl) ?_
  intro p e s m below meth c A Q ls S hK hD hA hE hP hl hret
  obtain ⟨hx, hb, hml, hown, ht⟩ := id S
  have hS : va_S A s.heap s.heap [] := va_S.rf
  have hDD : ∀ ws : va_W, ws.map (fun q => q.1) = [a_M 0, a_M 1, a_M 2, a_M 3, a_M 4, a_M 5, a_M 6, a_M 7, a_M 8, a_M 9, a_M 10, a_M 11, a_M 12, a_M 13] → va_D A ws := fun ws hw => zD hD (hw.trans rfl)
  have hl : lv_has ls 3 [(0, .ref (a_M 0)), (1, .int p1), (2, .int p2)] := hl
  unfold wpX5_worth at h
  refine lv_iload_n hx hb dX5_worth_0 rfl (lv_at hl 1 rfl) ?_
  refine lv_iconst (v := (0 : Int32)) hx hb dX5_worth_1 (by decide) ?_
  refine lv_iconst (v := (4 : Int32)) hx hb dX5_worth_2 (by decide) ?_
  refine zci hA zD0 hS (zrunS (As := [.int p1, .int (0 : Int32), .int (4 : Int32)]) (rest := []) S hK hA hE zP0 zD0 hS (mX5_isIn l D cI cJ cC G _ p1 (0 : Int32) (4 : Int32) _ h) kX5_isIn ml_X5_77 ⟨rfl, rfl, by decide, by decide⟩ rfl hl.1 rfl (Nat.le_of_ble_eq_true rfl) dX5_worth_3 ⟨Nat.zero_le _, Nat.zero_le _⟩) (fun r_1 u H locs h hP1 hk1 hS => ?_)
  try dsimp only at h
  have hP : va_P D vwCl ((bX5 cI cJ cC a_M M_pipes M_used M_taped M_at M_statements M_hasImage M_isKeeping M_cursor M_nextAt M_nextMost M_rowMany M_refused M_setting M_hole M_pipeAt M_chance M_weight M_tape M_letter M_letterAt M_told M_kept M_then M_row)) H := zKeep hP hk1
  refine lv_if_eq (tgt := 18) hx hb dX5_worth_6 (by decide) (fun z => ?_) (fun z => ?_)
  · replace h := h.1 z
    refine lv_aload_n hx hb dX5_worth_18 rfl (lv_at hl 0 rfl) ?_
    refine lv_bipush (v := (-2 : Int32)) hx hb dX5_worth_19 (by decide) ?_
    refine zcl hA (hDD _ rfl) hS (zrunV (As := [.int (-2 : Int32)]) (rest := []) S hK hA hE hP (hDD _ rfl) hS (mX5_lowest l D cI cJ cC G a_M _ M_pipes M_used M_taped M_at M_statements M_hasImage M_isKeeping M_cursor M_nextAt M_nextMost M_rowMany M_refused M_setting M_hole M_pipeAt M_chance M_weight M_tape M_letter M_letterAt M_told M_kept M_then M_row (-2 : Int32) _ h) kX5_lowest ml_X5_197 ⟨rfl, rfl, by decide, by decide⟩ (q0 := 0) (ci := 5) rfl rfl rfl rfl hl.1 rfl (Nat.le_of_ble_eq_true rfl) dX5_worth_21 ⟨Nat.zero_le _, Nat.zero_le _⟩) (fun r_2 M_refused_3 H locs h hP1 hk1 hS => ?_)
    try dsimp only at h
    have hP : va_P D vwCl ((bX5 cI cJ cC a_M M_pipes M_used M_taped M_at M_statements M_hasImage M_isKeeping M_cursor M_nextAt M_nextMost M_rowMany M_refused_3 M_setting M_hole M_pipeAt M_chance M_weight M_tape M_letter M_letterAt M_told M_kept M_then M_row)) H := hP1
    exact hret r_2 (M_nextAt, M_nextMost, M_refused_3, M_then) _ _ _ _ h hP hS dX5_worth_24
  · replace h := h.2 z
    refine lv_iload_n hx hb dX5_worth_9 rfl (lv_at hl 2 rfl) ?_
    refine lv_iconst (v := (0 : Int32)) hx hb dX5_worth_10 (by decide) ?_
    refine lv_iconst (v := (1 : Int32)) hx hb dX5_worth_11 (by decide) ?_
    refine zci hA zD0 hS (zrunS (As := [.int p2, .int (0 : Int32), .int (1 : Int32)]) (rest := []) S hK hA hE zP0 zD0 hS (mX5_isIn l D cI cJ cC G _ p2 (0 : Int32) (1 : Int32) _ h) kX5_isIn ml_X5_77 ⟨rfl, rfl, by decide, by decide⟩ rfl hl.1 rfl (Nat.le_of_ble_eq_true rfl) dX5_worth_12 ⟨Nat.zero_le _, Nat.zero_le _⟩) (fun r_4 u H locs h hP1 hk1 hS => ?_)
    try dsimp only at h
    have hP : va_P D vwCl ((bX5 cI cJ cC a_M M_pipes M_used M_taped M_at M_statements M_hasImage M_isKeeping M_cursor M_nextAt M_nextMost M_rowMany M_refused M_setting M_hole M_pipeAt M_chance M_weight M_tape M_letter M_letterAt M_told M_kept M_then M_row)) H := zKeep hP hk1
    refine lv_if_ne (tgt := 25) hx hb dX5_worth_15 (by decide) (fun z => ?_) (fun z => ?_)
    · replace h := h.2 z
      refine lv_aload_n hx hb dX5_worth_25 rfl (lv_at hl 0 rfl) ?_
      refine lv_iload_n hx hb dX5_worth_26 rfl (lv_at hl 1 rfl) ?_
      refine zcl hA (hDD _ rfl) hS (zrunV (As := [.int p1]) (rest := []) S hK hA hE hP (hDD _ rfl) hS (mX5_worthParts l D cI cJ cC G a_M _ M_pipes M_used M_taped M_at M_statements M_hasImage M_isKeeping M_cursor M_nextAt M_nextMost M_rowMany M_refused M_setting M_hole M_pipeAt M_chance M_weight M_tape M_letter M_letterAt M_told M_kept M_then M_row p1 _ h) kX5_worthParts ml_X5_259 ⟨rfl, rfl, by decide, by decide⟩ (q0 := 0) (ci := 5) rfl rfl rfl rfl hl.1 rfl (Nat.le_of_ble_eq_true rfl) dX5_worth_27 ⟨Nat.zero_le _, Nat.zero_le _⟩) (fun r_5 u H locs h hP1 hk1 hS => ?_)
      obtain ⟨M_nextAt_6, M_nextMost_7, M_then_8⟩ := u
      dsimp only at h
      have hP : va_P D vwCl ((bX5 cI cJ cC a_M M_pipes M_used M_taped M_at M_statements M_hasImage M_isKeeping M_cursor M_nextAt_6 M_nextMost_7 M_rowMany M_refused M_setting M_hole M_pipeAt M_chance M_weight M_tape M_letter M_letterAt M_told M_kept M_then_8 M_row)) H := hP1
      refine lv_ldc2 hx hb hown (ht _ kc_X5_257) dX5_worth_30 ?_
      refine lv_aload_n hx hb dX5_worth_33 rfl (lv_at hl 0 rfl) ?_
      refine zcl hA (hDD _ rfl) hS (zrunV (As := []) (rest := [.long (10 : Int64), .long r_5]) S hK hA hE hP (hDD _ rfl) hS (mX5_all l D cI cJ cC G a_M _ M_pipes M_used M_taped M_at M_statements M_hasImage M_isKeeping M_cursor M_nextAt_6 M_nextMost_7 M_rowMany M_refused M_setting M_hole M_pipeAt M_chance M_weight M_tape M_letter M_letterAt M_told M_kept M_then_8 M_row _ h) kX5_all ml_X5_216 ⟨rfl, rfl, by decide, by decide⟩ (q0 := 0) (ci := 5) rfl rfl rfl rfl hl.1 rfl (Nat.le_of_ble_eq_true rfl) dX5_worth_34 ⟨Nat.zero_le _, Nat.zero_le _⟩) (fun r_9 u H locs h hP1 hk1 hS => ?_)
      try dsimp only at h
      have hP : va_P D vwCl ((bX5 cI cJ cC a_M M_pipes M_used M_taped M_at M_statements M_hasImage M_isKeeping M_cursor M_nextAt_6 M_nextMost_7 M_rowMany M_refused M_setting M_hole M_pipeAt M_chance M_weight M_tape M_letter M_letterAt M_told M_kept M_then_8 M_row)) H := hP1
      refine lv_lmul hx hb dX5_worth_37 ?_
      refine lv_iload_n hx hb dX5_worth_38 rfl (lv_at hl 2 rfl) ?_
      refine zcl hA zD0 hS (zrunS (As := [.long r_5, .long ((10 : Int64) * r_9), .int p2]) (rest := []) S hK hA hE zP0 zD0 hS (mX5_partOf l D cI cJ cC G _ r_5 ((10 : Int64) * r_9) p2 _ h) kX5_partOf ml_X5_220 ⟨rfl, rfl, by decide, by decide⟩ rfl hl.1 rfl (Nat.le_of_ble_eq_true rfl) dX5_worth_39 ⟨Nat.zero_le _, Nat.zero_le _⟩) (fun r_10 u H locs h hP1 hk1 hS => ?_)
      try dsimp only at h
      have hP : va_P D vwCl ((bX5 cI cJ cC a_M M_pipes M_used M_taped M_at M_statements M_hasImage M_isKeeping M_cursor M_nextAt_6 M_nextMost_7 M_rowMany M_refused M_setting M_hole M_pipeAt M_chance M_weight M_tape M_letter M_letterAt M_told M_kept M_then_8 M_row)) H := zKeep hP hk1
      exact hret r_10 (M_nextAt_6, M_nextMost_7, M_refused, M_then_8) _ _ _ _ h hP hS dX5_worth_42
    · replace h := h.1 z
      refine lv_aload_n hx hb dX5_worth_18 rfl (lv_at hl 0 rfl) ?_
      refine lv_bipush (v := (-2 : Int32)) hx hb dX5_worth_19 (by decide) ?_
      refine zcl hA (hDD _ rfl) hS (zrunV (As := [.int (-2 : Int32)]) (rest := []) S hK hA hE hP (hDD _ rfl) hS (mX5_lowest l D cI cJ cC G a_M _ M_pipes M_used M_taped M_at M_statements M_hasImage M_isKeeping M_cursor M_nextAt M_nextMost M_rowMany M_refused M_setting M_hole M_pipeAt M_chance M_weight M_tape M_letter M_letterAt M_told M_kept M_then M_row (-2 : Int32) _ h) kX5_lowest ml_X5_197 ⟨rfl, rfl, by decide, by decide⟩ (q0 := 0) (ci := 5) rfl rfl rfl rfl hl.1 rfl (Nat.le_of_ble_eq_true rfl) dX5_worth_21 ⟨Nat.zero_le _, Nat.zero_le _⟩) (fun r_11 M_refused_12 H locs h hP1 hk1 hS => ?_)
      try dsimp only at h
      have hP : va_P D vwCl ((bX5 cI cJ cC a_M M_pipes M_used M_taped M_at M_statements M_hasImage M_isKeeping M_cursor M_nextAt M_nextMost M_rowMany M_refused_12 M_setting M_hole M_pipeAt M_chance M_weight M_tape M_letter M_letterAt M_told M_kept M_then M_row)) H := hP1
      exact hret r_11 (M_nextAt, M_nextMost, M_refused_12, M_then) _ _ _ _ h hP hS dX5_worth_24
def lpX5_kind_11 (K : Int32 → Int64 → Int32 → Int32 → Int64 → (Nat → Int64) → Prop) (M_setting : Nat → Int32) (M_weight : Nat → Int32) : Nat → Int32 → Int64 → Int32 → Int32 → Int64 → (Nat → Int64) → Prop
  | 0, _, _, _, _, _, _ => False
  | n + 1, x1, x2, x4, M_nextAt, M_nextMost, M_then => (((4 : Int32) < x4 → (K x1 x2 x4 M_nextAt M_nextMost M_then)) ∧ (¬ ((4 : Int32) < x4) → (wpX5_worthParts (fun (r_5 : Int64) (M_nextAt_6 : Int32) (M_nextMost_7 : Int64) (M_then_8 : Nat → Int64) => wpX5_costOf (fun (r_9 : Int32) => wpX5_costOf (fun (r_10 : Int32) => (((x2 * r_10.toInt64) < (r_5 * r_9.toInt64) → (lpX5_kind_11 K M_setting M_weight n x4 r_5 (x4 + (1 : Int32)) M_nextAt_6 M_nextMost_7 M_then_8)) ∧ (¬ ((x2 * r_10.toInt64) < (r_5 * r_9.toInt64)) → (lpX5_kind_11 K M_setting M_weight n x1 x2 (x4 + (1 : Int32)) M_nextAt_6 M_nextMost_7 M_then_8)))) x4) x1) M_setting M_weight M_then x4)))
set_option maxHeartbeats 4000000 in
set_option maxRecDepth 100000 in
theorem wX5_kind_11 (l : Launch) (D : va_G) (cI cJ cC : ClassId) (G : Nat → Nat → Nat) (a_M : Nat → Nat) {p : Program} {e : Env} {s : State} {m : MethodId} {below : List Frame} {meth : Method} {c : Code} {A : Nat → Prop} {Q : State → Prop} (M_pipes : Int32) (M_used : Int32) (M_taped : Int32) (M_at : Int32) (M_statements : Int32) (M_hasImage : Int32) (M_isKeeping : Int32) (M_cursor : Int32) (M_rowMany : Int32) (M_refused : Nat → Int32) (M_setting : Nat → Int32) (M_hole : Nat → Int32) (M_pipeAt : Nat → Int32) (M_chance : Nat → Int32) (M_weight : Nat → Int32) (M_tape : Nat → Int32) (M_letter : Nat → Int32) (M_letterAt : Nat → Int32) (M_told : Nat → Int32) (M_kept : Nat → Int32) (M_row : Nat → Int32) (K : Int32 → Int64 → Int32 → Int32 → Int64 → (Nat → Int64) → Prop) (S : CallFix p m c cX5_kind 7 s ([.ref (a_M 0)] : List Value).toArray bg RX5) (hK : va_K D vwCl (tz cI cJ cC) s) (hDD : ∀ ws : va_W, ws.map (fun q => q.1) = [a_M 0, a_M 1, a_M 2, a_M 3, a_M 4, a_M 5, a_M 6, a_M 7, a_M 8, a_M 9, a_M 10, a_M 11, a_M 12, a_M 13] → va_D A ws) (hA : ∀ q, s.heap.size ≤ q → A q) (hE : EV G A s) (hKK : ∀ (x1 : Int32) (x2 : Int64) (x4 : Int32) (M_nextAt : Int32) (M_nextMost : Int64) (M_then : Nat → Int64) (H : Heap) (locs : List Loc) (ls : Array Slot), K x1 x2 x4 M_nextAt M_nextMost M_then → va_P D vwCl ((bX5 cI cJ cC a_M M_pipes M_used M_taped M_at M_statements M_hasImage M_isKeeping M_cursor M_nextAt M_nextMost M_rowMany M_refused M_setting M_hole M_pipeAt M_chance M_weight M_tape M_letter M_letterAt M_told M_kept M_then M_row)) H → va_S A s.heap H locs → lv_has ls 7 [(1, .int x1)] → W p l e ({ frames := 9, cells := 0, slots := 0, locals := 210 }) s m ([.ref (a_M 0)] : List Value).toArray below meth c H locs 0 0 Q (F0 m 60 ls [])) :
    ∀ (n : Nat) (x1 : Int32) (x2 : Int64) (x4 : Int32) (M_nextAt : Int32) (M_nextMost : Int64) (M_then : Nat → Int64) (H : Heap) (locs : List Loc) (ls : Array Slot), lpX5_kind_11 K M_setting M_weight n x1 x2 x4 M_nextAt M_nextMost M_then → va_P D vwCl ((bX5 cI cJ cC a_M M_pipes M_used M_taped M_at M_statements M_hasImage M_isKeeping M_cursor M_nextAt M_nextMost M_rowMany M_refused M_setting M_hole M_pipeAt M_chance M_weight M_tape M_letter M_letterAt M_told M_kept M_then M_row)) H → va_S A s.heap H locs → lv_has ls 7 [(0, .ref (a_M 0)), (1, .int x1), (2, .long x2), (4, .int x4)] → W p l e ({ frames := 9, cells := 0, slots := 0, locals := 210 }) s m ([.ref (a_M 0)] : List Value).toArray below meth c H locs 0 0 Q (F0 m 11 ls []) := by
  obtain ⟨hx, hb, hml, hown, ht⟩ := id S
  intro n
  induction n with
  | zero =>
    intro x1 x2 x4 M_nextAt M_nextMost M_then H locs ls h
    exact absurd h (by simp [lpX5_kind_11])
  | succ n ih =>
    intro x1 x2 x4 M_nextAt M_nextMost M_then H locs ls h hP hS hl
    rw [lpX5_kind_11] at h
    refine lv_iload hx hb dX5_kind_11 (lv_at hl 3 rfl) ?_
    refine lv_iconst (v := (4 : Int32)) hx hb dX5_kind_13 (by decide) ?_
    refine lv_icmp_gt (tgt := 60) hx hb dX5_kind_14 (by decide) (fun z => ?_) (fun z => ?_)
    · replace h := h.1 z
      exact hKK x1 x2 x4 M_nextAt M_nextMost M_then _ _ _ h hP hS (lv_sub hl [1] rfl)
    · replace h := h.2 z
      refine lv_aload_n hx hb dX5_kind_17 rfl (lv_at hl 0 rfl) ?_
      refine lv_iload hx hb dX5_kind_18 (lv_at hl 3 rfl) ?_
      refine zcl hA (hDD _ rfl) hS (zrunV (As := [.int x4]) (rest := []) S hK hA hE hP (hDD _ rfl) hS (mX5_worthParts l D cI cJ cC G a_M _ M_pipes M_used M_taped M_at M_statements M_hasImage M_isKeeping M_cursor M_nextAt M_nextMost M_rowMany M_refused M_setting M_hole M_pipeAt M_chance M_weight M_tape M_letter M_letterAt M_told M_kept M_then M_row x4 _ h) kX5_worthParts ml_X5_259 ⟨rfl, rfl, by decide, by decide⟩ (q0 := 0) (ci := 5) rfl rfl rfl rfl hl.1 rfl (Nat.le_of_ble_eq_true rfl) dX5_kind_20 ⟨Nat.zero_le _, Nat.zero_le _⟩) (fun r_5 u H locs h hP1 hk1 hS => ?_)
      obtain ⟨M_nextAt_6, M_nextMost_7, M_then_8⟩ := u
      dsimp only at h
      have hP : va_P D vwCl ((bX5 cI cJ cC a_M M_pipes M_used M_taped M_at M_statements M_hasImage M_isKeeping M_cursor M_nextAt_6 M_nextMost_7 M_rowMany M_refused M_setting M_hole M_pipeAt M_chance M_weight M_tape M_letter M_letterAt M_told M_kept M_then_8 M_row)) H := hP1
      refine lv_lstore (lv' := [(5, .long r_5), (0, .ref (a_M 0)), (1, .int x1), (2, .long x2), (4, .int x4)]) hx hb dX5_kind_23 hl (by decide) rfl (fun ls hl => ?_)
      refine lv_lload hx hb dX5_kind_25 (lv_at hl 0 rfl) ?_
      refine lv_iload_n hx hb dX5_kind_27 rfl (lv_at hl 2 rfl) ?_
      refine zci hA zD0 hS (zrunS (As := [.int x1]) (rest := [.long r_5]) S hK hA hE zP0 zD0 hS (mX5_costOf l D cI cJ cC G _ x1 _ h) kX5_costOf ml_X5_201 ⟨rfl, rfl, by decide, by decide⟩ rfl hl.1 rfl (Nat.le_of_ble_eq_true rfl) dX5_kind_28 ⟨Nat.zero_le _, Nat.zero_le _⟩) (fun r_9 u H locs h hP1 hk1 hS => ?_)
      try dsimp only at h
      have hP : va_P D vwCl ((bX5 cI cJ cC a_M M_pipes M_used M_taped M_at M_statements M_hasImage M_isKeeping M_cursor M_nextAt_6 M_nextMost_7 M_rowMany M_refused M_setting M_hole M_pipeAt M_chance M_weight M_tape M_letter M_letterAt M_told M_kept M_then_8 M_row)) H := zKeep hP hk1
      refine lv_i2l hx hb dX5_kind_31 rfl ?_
      refine lv_lmul hx hb dX5_kind_32 ?_
      refine lv_lload_n hx hb dX5_kind_33 rfl (lv_at hl 3 rfl) ?_
      refine lv_iload hx hb dX5_kind_34 (lv_at hl 4 rfl) ?_
      refine zci hA zD0 hS (zrunS (As := [.int x4]) (rest := [.long x2, .long (r_5 * r_9.toInt64)]) S hK hA hE zP0 zD0 hS (mX5_costOf l D cI cJ cC G _ x4 _ h) kX5_costOf ml_X5_201 ⟨rfl, rfl, by decide, by decide⟩ rfl hl.1 rfl (Nat.le_of_ble_eq_true rfl) dX5_kind_36 ⟨Nat.zero_le _, Nat.zero_le _⟩) (fun r_10 u H locs h hP1 hk1 hS => ?_)
      try dsimp only at h
      have hP : va_P D vwCl ((bX5 cI cJ cC a_M M_pipes M_used M_taped M_at M_statements M_hasImage M_isKeeping M_cursor M_nextAt_6 M_nextMost_7 M_rowMany M_refused M_setting M_hole M_pipeAt M_chance M_weight M_tape M_letter M_letterAt M_told M_kept M_then_8 M_row)) H := zKeep hP hk1
      refine lv_i2l hx hb dX5_kind_39 rfl ?_
      refine lv_lmul hx hb dX5_kind_40 ?_
      refine W.lcmp hx hb dX5_kind_41 ?_
      refine lv_if_gt (tgt := 48) hx hb dX5_kind_42 (by decide) (fun z => ?_) (fun z => ?_)
      · replace h := h.1 (zl_gt.mp z)
        refine lv_iload hx hb dX5_kind_48 (lv_at hl 4 rfl) ?_
        refine lv_istore_n (lv' := [(1, .int x4), (5, .long r_5), (0, .ref (a_M 0)), (2, .long x2), (4, .int x4)]) hx hb dX5_kind_50 rfl hl (by decide) rfl (fun ls hl => ?_)
        refine lv_lload hx hb dX5_kind_51 (lv_at hl 1 rfl) ?_
        refine lv_lstore_n (lv' := [(2, .long r_5), (1, .int x4), (5, .long r_5), (0, .ref (a_M 0)), (4, .int x4)]) hx hb dX5_kind_53 rfl hl (by decide) rfl (fun ls hl => ?_)
        refine lv_iinc (v := x4 + (1 : Int32)) (lv' := [(4, .int (x4 + (1 : Int32))), (2, .long r_5), (1, .int x4), (5, .long r_5), (0, .ref (a_M 0))]) hx hb dX5_kind_54 hl (k := 4) rfl (by rfl) (by decide) rfl (fun ls hl => ?_)
        refine lv_goto (tgt := 11) hx hb dX5_kind_57 (by decide) ?_
        exact ih x4 r_5 (x4 + (1 : Int32)) M_nextAt_6 M_nextMost_7 M_then_8 _ _ _ h hP hS (lv_sub hl [4, 2, 1, 0] rfl)
      · replace h := h.2 (fun q => z (zl_gt.mpr q))
        refine lv_goto (tgt := 54) hx hb dX5_kind_45 (by decide) ?_
        refine lv_iinc (v := x4 + (1 : Int32)) (lv' := [(4, .int (x4 + (1 : Int32))), (5, .long r_5), (0, .ref (a_M 0)), (1, .int x1), (2, .long x2)]) hx hb dX5_kind_54 hl (k := 4) rfl (by rfl) (by decide) rfl (fun ls hl => ?_)
        refine lv_goto (tgt := 11) hx hb dX5_kind_57 (by decide) ?_
        exact ih x1 x2 (x4 + (1 : Int32)) M_nextAt_6 M_nextMost_7 M_then_8 _ _ _ h hP hS (lv_sub hl [2, 3, 4, 0] rfl)
def wpX5_kind (post : Int32 → Int32 → Int64 → (Nat → Int64) → Prop) (M_setting : Nat → Int32) (M_weight : Nat → Int32) (M_then : Nat → Int64) : Prop := wpX5_worthParts (fun (r_1 : Int64) (M_nextAt_2 : Int32) (M_nextMost_3 : Int64) (M_then_4 : Nat → Int64) => ∃ n_11 : Nat, lpX5_kind_11 (fun (x1_12 : Int32) (x2_13 : Int64) (x4_14 : Int32) (M_nextAt_15 : Int32) (M_nextMost_16 : Int64) (M_then_17 : Nat → Int64) => post x1_12 M_nextAt_15 M_nextMost_16 M_then_17) M_setting M_weight n_11 (0 : Int32) r_1 (1 : Int32) M_nextAt_2 M_nextMost_3 M_then_4) M_setting M_weight M_then (0 : Int32)
set_option maxHeartbeats 4000000 in
set_option maxRecDepth 100000 in
theorem mX5_kind (l : Launch) (D : va_G) (cI cJ cC : ClassId) (G : Nat → Nat → Nat) (a_M : Nat → Nat) (sz : Nat) (M_pipes : Int32) (M_used : Int32) (M_taped : Int32) (M_at : Int32) (M_statements : Int32) (M_hasImage : Int32) (M_isKeeping : Int32) (M_cursor : Int32) (M_nextAt : Int32) (M_nextMost : Int64) (M_rowMany : Int32) (M_refused : Nat → Int32) (M_setting : Nat → Int32) (M_hole : Nat → Int32) (M_pipeAt : Nat → Int32) (M_chance : Nat → Int32) (M_weight : Nat → Int32) (M_tape : Nat → Int32) (M_letter : Nat → Int32) (M_letterAt : Nat → Int32) (M_told : Nat → Int32) (M_kept : Nat → Int32) (M_then : Nat → Int64) (M_row : Nat → Int32) (post : Int32 → Int32 → Int64 → (Nat → Int64) → Prop) (h : wpX5_kind post M_setting M_weight M_then) : Met l yX5_kind (wz yX5_kind cX5_kind 7 (some .int)) ({ frames := 9, cells := 0, slots := 0, locals := 210 }) (va_Pc [.ref (a_M 0)] (PW D (tz cI cJ cC) G ((bX5 cI cJ cC a_M M_pipes M_used M_taped M_at M_statements M_hasImage M_isKeeping M_cursor M_nextAt M_nextMost M_rowMany M_refused M_setting M_hole M_pipeAt M_chance M_weight M_tape M_letter M_letterAt M_told M_kept M_then M_row)) sz)) (va_Qi (fun (r : Int32) (u : Int32 × Int64 × (Nat → Int64)) => post r u.1 u.2.1 u.2.2) (fun (u : Int32 × Int64 × (Nat → Int64)) t => va_P D vwCl ((bX5 cI cJ cC a_M M_pipes M_used M_taped M_at M_statements M_hasImage M_isKeeping M_cursor u.1 u.2.1 M_rowMany M_refused M_setting M_hole M_pipeAt M_chance M_weight M_tape M_letter M_letterAt M_told M_kept u.2.2 M_row)) t.heap) (va_A ((bX5 cI cJ cC a_M M_pipes M_used M_taped M_at M_statements M_hasImage M_isKeeping M_cursor M_nextAt M_nextMost M_rowMany M_refused M_setting M_hole M_pipeAt M_chance M_weight M_tape M_letter M_letterAt M_told M_kept M_then M_row)) sz)) 0 0 (va_A ((bX5 cI cJ cC a_M M_pipes M_used M_taped M_at M_statements M_hasImage M_isKeeping M_cursor M_nextAt M_nextMost M_rowMany M_refused M_setting M_hole M_pipeAt M_chance M_weight M_tape M_letter M_letterAt M_told M_kept M_then M_row)) sz) := by
  refine zmi (gw := fun (u : Int32 × Int64 × (Nat → Int64)) => (bX5 cI cJ cC a_M M_pipes M_used M_taped M_at M_statements M_hasImage M_isKeeping M_cursor u.1 u.2.1 M_rowMany M_refused M_setting M_hole M_pipeAt M_chance M_weight M_tape M_letter M_letterAt M_told M_kept u.2.2 M_row)) (plainFor_of_name (by decide)) (Nat.le_of_ble_eq_true rfl) ?_
  intro p e s m below meth c A Q ls S hK hD hA hE hP hl hret
  obtain ⟨hx, hb, hml, hown, ht⟩ := id S
  have hS : va_S A s.heap s.heap [] := va_S.rf
  have hDD : ∀ ws : va_W, ws.map (fun q => q.1) = [a_M 0, a_M 1, a_M 2, a_M 3, a_M 4, a_M 5, a_M 6, a_M 7, a_M 8, a_M 9, a_M 10, a_M 11, a_M 12, a_M 13] → va_D A ws := fun ws hw => zD hD (hw.trans rfl)
  have hl : lv_has ls 7 [(0, .ref (a_M 0))] := hl
  unfold wpX5_kind at h
  refine lv_iconst (v := (0 : Int32)) hx hb dX5_kind_0 (by decide) ?_
  refine lv_istore_n (lv' := [(1, .int (0 : Int32)), (0, .ref (a_M 0))]) hx hb dX5_kind_1 rfl hl (by decide) rfl (fun ls hl => ?_)
  refine lv_aload_n hx hb dX5_kind_2 rfl (lv_at hl 1 rfl) ?_
  refine lv_iconst (v := (0 : Int32)) hx hb dX5_kind_3 (by decide) ?_
  refine zcl hA (hDD _ rfl) hS (zrunV (As := [.int (0 : Int32)]) (rest := []) S hK hA hE hP (hDD _ rfl) hS (mX5_worthParts l D cI cJ cC G a_M _ M_pipes M_used M_taped M_at M_statements M_hasImage M_isKeeping M_cursor M_nextAt M_nextMost M_rowMany M_refused M_setting M_hole M_pipeAt M_chance M_weight M_tape M_letter M_letterAt M_told M_kept M_then M_row (0 : Int32) _ h) kX5_worthParts ml_X5_259 ⟨rfl, rfl, by decide, by decide⟩ (q0 := 0) (ci := 5) rfl rfl rfl rfl hl.1 rfl (Nat.le_of_ble_eq_true rfl) dX5_kind_4 ⟨Nat.zero_le _, Nat.zero_le _⟩) (fun r_1 u H locs h hP1 hk1 hS => ?_)
  obtain ⟨M_nextAt_2, M_nextMost_3, M_then_4⟩ := u
  dsimp only at h
  have hP : va_P D vwCl ((bX5 cI cJ cC a_M M_pipes M_used M_taped M_at M_statements M_hasImage M_isKeeping M_cursor M_nextAt_2 M_nextMost_3 M_rowMany M_refused M_setting M_hole M_pipeAt M_chance M_weight M_tape M_letter M_letterAt M_told M_kept M_then_4 M_row)) H := hP1
  refine lv_lstore_n (lv' := [(2, .long r_1), (1, .int (0 : Int32)), (0, .ref (a_M 0))]) hx hb dX5_kind_7 rfl hl (by decide) rfl (fun ls hl => ?_)
  refine lv_iconst (v := (1 : Int32)) hx hb dX5_kind_8 (by decide) ?_
  refine lv_istore (lv' := [(4, .int (1 : Int32)), (2, .long r_1), (1, .int (0 : Int32)), (0, .ref (a_M 0))]) hx hb dX5_kind_9 hl (by decide) rfl (fun ls hl => ?_)
  obtain ⟨n_11, h⟩ := h
  refine wX5_kind_11 l D cI cJ cC G a_M M_pipes M_used M_taped M_at M_statements M_hasImage M_isKeeping M_cursor M_rowMany M_refused M_setting M_hole M_pipeAt M_chance M_weight M_tape M_letter M_letterAt M_told M_kept M_row _ S hK hDD hA hE (fun x1_12 x2_13 x4_14 M_nextAt_15 M_nextMost_16 M_then_17 H locs ls h hP hS hl => ?_) n_11 (0 : Int32) r_1 (1 : Int32) M_nextAt_2 M_nextMost_3 M_then_4 _ _ _ h hP hS (lv_sub hl [3, 2, 1, 0] rfl)
  try dsimp only at h
  refine lv_iload_n hx hb dX5_kind_60 rfl (lv_at hl 0 rfl) ?_
  exact hret x1_12 (M_nextAt_15, M_nextMost_16, M_then_17) _ _ _ _ rfl h hP hS dX5_kind_61
def lpX5_covered_5 (K : Int32 → Int32 → Prop) (x1 : Int32) (x2 : Int32) (M_hole : Nat → Int32) : Nat → Int32 → Int32 → Prop
  | 0, _, _ => False
  | n + 1, x3, x4 => (((x1 + x2) ≤ x4 → (K x3 x4)) ∧ (¬ ((x1 + x2) ≤ x4) → (vp_in x4 48 ∧ (lpX5_covered_5 K x1 x2 M_hole n (x3 + (M_hole x4.toNatClampNeg)) (x4 + (1 : Int32))))))
set_option maxHeartbeats 4000000 in
set_option maxRecDepth 100000 in
theorem wX5_covered_5 (l : Launch) (D : va_G) (cI cJ cC : ClassId) (G : Nat → Nat → Nat) (a_M : Nat → Nat) {p : Program} {e : Env} {s : State} {m : MethodId} {below : List Frame} {meth : Method} {c : Code} {A : Nat → Prop} {Q : State → Prop} (p1 : Int32) (p2 : Int32) (x1 : Int32) (x2 : Int32) (M_pipes : Int32) (M_used : Int32) (M_taped : Int32) (M_at : Int32) (M_statements : Int32) (M_hasImage : Int32) (M_isKeeping : Int32) (M_cursor : Int32) (M_nextAt : Int32) (M_nextMost : Int64) (M_rowMany : Int32) (M_refused : Nat → Int32) (M_setting : Nat → Int32) (M_hole : Nat → Int32) (M_pipeAt : Nat → Int32) (M_chance : Nat → Int32) (M_weight : Nat → Int32) (M_tape : Nat → Int32) (M_letter : Nat → Int32) (M_letterAt : Nat → Int32) (M_told : Nat → Int32) (M_kept : Nat → Int32) (M_then : Nat → Int64) (M_row : Nat → Int32) (K : Int32 → Int32 → Prop) (S : CallFix p m c cX5_covered 5 s ([.ref (a_M 0), .int p1, .int p2] : List Value).toArray bg RX5) (hK : va_K D vwCl (tz cI cJ cC) s) (hDD : ∀ ws : va_W, ws.map (fun q => q.1) = [a_M 0, a_M 1, a_M 2, a_M 3, a_M 4, a_M 5, a_M 6, a_M 7, a_M 8, a_M 9, a_M 10, a_M 11, a_M 12, a_M 13] → va_D A ws) (hA : ∀ q, s.heap.size ≤ q → A q) (hE : EV G A s) (hKK : ∀ (x3 : Int32) (x4 : Int32) (H : Heap) (locs : List Loc) (ls : Array Slot), K x3 x4 → va_P D vwCl ((bX5 cI cJ cC a_M M_pipes M_used M_taped M_at M_statements M_hasImage M_isKeeping M_cursor M_nextAt M_nextMost M_rowMany M_refused M_setting M_hole M_pipeAt M_chance M_weight M_tape M_letter M_letterAt M_told M_kept M_then M_row)) H → va_S A s.heap H locs → lv_has ls 5 [(3, .int x3)] → W p l e ({ frames := 0, cells := 0, slots := 0, locals := 0 }) s m ([.ref (a_M 0), .int p1, .int p2] : List Value).toArray below meth c H locs 0 0 Q (F0 m 29 ls [])) :
    ∀ (n : Nat) (x3 : Int32) (x4 : Int32) (H : Heap) (locs : List Loc) (ls : Array Slot), lpX5_covered_5 K x1 x2 M_hole n x3 x4 → va_P D vwCl ((bX5 cI cJ cC a_M M_pipes M_used M_taped M_at M_statements M_hasImage M_isKeeping M_cursor M_nextAt M_nextMost M_rowMany M_refused M_setting M_hole M_pipeAt M_chance M_weight M_tape M_letter M_letterAt M_told M_kept M_then M_row)) H → va_S A s.heap H locs → lv_has ls 5 [(0, .ref (a_M 0)), (1, .int x1), (2, .int x2), (3, .int x3), (4, .int x4)] → W p l e ({ frames := 0, cells := 0, slots := 0, locals := 0 }) s m ([.ref (a_M 0), .int p1, .int p2] : List Value).toArray below meth c H locs 0 0 Q (F0 m 5 ls []) := by
  obtain ⟨hx, hb, hml, hown, ht⟩ := id S
  intro n
  induction n with
  | zero =>
    intro x3 x4 H locs ls h
    exact absurd h (by simp [lpX5_covered_5])
  | succ n ih =>
    intro x3 x4 H locs ls h hP hS hl
    rw [lpX5_covered_5] at h
    refine lv_iload hx hb dX5_covered_5 (lv_at hl 4 rfl) ?_
    refine lv_iload_n hx hb dX5_covered_7 rfl (lv_at hl 1 rfl) ?_
    refine lv_iload_n hx hb dX5_covered_8 rfl (lv_at hl 2 rfl) ?_
    refine lv_iadd hx hb dX5_covered_9 ?_
    refine lv_icmp_ge (tgt := 29) hx hb dX5_covered_10 (by decide) (fun z => ?_) (fun z => ?_)
    · replace h := h.1 z
      exact hKK x3 x4 _ _ _ h hP hS (lv_sub hl [3] rfl)
    · replace h := h.2 z
      refine lv_iload_n hx hb dX5_covered_13 rfl (lv_at hl 3 rfl) ?_
      refine lv_aload_n hx hb dX5_covered_14 rfl (lv_at hl 0 rfl) ?_
      refine va_get (D := D) (ci := 5) (v := .ref (a_M 3)) (C := RX5) (T := TX5) (N := 24) hx hb ht inX5 hown hK hP 0 rfl rfl 2 (by decide) (ht _ fl_X5_16) (fun _ h9 => h9) rfl dX5_covered_15 ?_
      refine lv_iload hx hb dX5_covered_18 (lv_at hl 4 rfl) ?_
      obtain ⟨hin, h⟩ := h
      refine va_iald hx hb hK hP 3 0 rfl rfl hin dX5_covered_20 ?_
      refine lv_iadd hx hb dX5_covered_21 ?_
      refine lv_istore_n (lv' := [(3, .int (x3 + (M_hole x4.toNatClampNeg))), (0, .ref (a_M 0)), (1, .int x1), (2, .int x2), (4, .int x4)]) hx hb dX5_covered_22 rfl hl (by decide) rfl (fun ls hl => ?_)
      refine lv_iinc (v := x4 + (1 : Int32)) (lv' := [(4, .int (x4 + (1 : Int32))), (3, .int (x3 + (M_hole x4.toNatClampNeg))), (0, .ref (a_M 0)), (1, .int x1), (2, .int x2)]) hx hb dX5_covered_23 hl (k := 4) rfl (by rfl) (by decide) rfl (fun ls hl => ?_)
      refine lv_goto (tgt := 5) hx hb dX5_covered_26 (by decide) ?_
      exact ih (x3 + (M_hole x4.toNatClampNeg)) (x4 + (1 : Int32)) _ _ _ h hP hS (lv_sub hl [2, 3, 4, 1, 0] rfl)
def wpX5_covered (post : Int32 → Prop) (M_hole : Nat → Int32) (p1 : Int32) (p2 : Int32) : Prop := ∃ n_1 : Nat, lpX5_covered_5 (fun (x3_2 : Int32) (x4_3 : Int32) => post x3_2) p1 p2 M_hole n_1 (0 : Int32) p1
set_option maxHeartbeats 4000000 in
set_option maxRecDepth 100000 in
theorem mX5_covered (l : Launch) (D : va_G) (cI cJ cC : ClassId) (G : Nat → Nat → Nat) (a_M : Nat → Nat) (sz : Nat) (M_pipes : Int32) (M_used : Int32) (M_taped : Int32) (M_at : Int32) (M_statements : Int32) (M_hasImage : Int32) (M_isKeeping : Int32) (M_cursor : Int32) (M_nextAt : Int32) (M_nextMost : Int64) (M_rowMany : Int32) (M_refused : Nat → Int32) (M_setting : Nat → Int32) (M_hole : Nat → Int32) (M_pipeAt : Nat → Int32) (M_chance : Nat → Int32) (M_weight : Nat → Int32) (M_tape : Nat → Int32) (M_letter : Nat → Int32) (M_letterAt : Nat → Int32) (M_told : Nat → Int32) (M_kept : Nat → Int32) (M_then : Nat → Int64) (M_row : Nat → Int32) (p1 : Int32) (p2 : Int32) (post : Int32 → Prop) (h : wpX5_covered post M_hole p1 p2) : Met l yX5_covered (wz yX5_covered cX5_covered 5 (some .int)) ({ frames := 0, cells := 0, slots := 0, locals := 0 }) (va_Pc [.ref (a_M 0), .int p1, .int p2] (PW D (tz cI cJ cC) G ((bX5 cI cJ cC a_M M_pipes M_used M_taped M_at M_statements M_hasImage M_isKeeping M_cursor M_nextAt M_nextMost M_rowMany M_refused M_setting M_hole M_pipeAt M_chance M_weight M_tape M_letter M_letterAt M_told M_kept M_then M_row)) sz)) (va_Qi (fun (r : Int32) (u : Unit) => post r ) (fun (u : Unit) t => va_P D vwCl ((bX5 cI cJ cC a_M M_pipes M_used M_taped M_at M_statements M_hasImage M_isKeeping M_cursor M_nextAt M_nextMost M_rowMany M_refused M_setting M_hole M_pipeAt M_chance M_weight M_tape M_letter M_letterAt M_told M_kept M_then M_row)) t.heap) (va_A ((bX5 cI cJ cC a_M M_pipes M_used M_taped M_at M_statements M_hasImage M_isKeeping M_cursor M_nextAt M_nextMost M_rowMany M_refused M_setting M_hole M_pipeAt M_chance M_weight M_tape M_letter M_letterAt M_told M_kept M_then M_row)) sz)) 0 0 (va_A ((bX5 cI cJ cC a_M M_pipes M_used M_taped M_at M_statements M_hasImage M_isKeeping M_cursor M_nextAt M_nextMost M_rowMany M_refused M_setting M_hole M_pipeAt M_chance M_weight M_tape M_letter M_letterAt M_told M_kept M_then M_row)) sz) := by
  refine zmi (gw := fun (u : Unit) => (bX5 cI cJ cC a_M M_pipes M_used M_taped M_at M_statements M_hasImage M_isKeeping M_cursor M_nextAt M_nextMost M_rowMany M_refused M_setting M_hole M_pipeAt M_chance M_weight M_tape M_letter M_letterAt M_told M_kept M_then M_row)) (plainFor_of_name (by decide)) (Nat.le_of_ble_eq_true rfl) ?_
  intro p e s m below meth c A Q ls S hK hD hA hE hP hl hret
  obtain ⟨hx, hb, hml, hown, ht⟩ := id S
  have hS : va_S A s.heap s.heap [] := va_S.rf
  have hDD : ∀ ws : va_W, ws.map (fun q => q.1) = [a_M 0, a_M 1, a_M 2, a_M 3, a_M 4, a_M 5, a_M 6, a_M 7, a_M 8, a_M 9, a_M 10, a_M 11, a_M 12, a_M 13] → va_D A ws := fun ws hw => zD hD (hw.trans rfl)
  have hl : lv_has ls 5 [(0, .ref (a_M 0)), (1, .int p1), (2, .int p2)] := hl
  unfold wpX5_covered at h
  refine lv_iconst (v := (0 : Int32)) hx hb dX5_covered_0 (by decide) ?_
  refine lv_istore_n (lv' := [(3, .int (0 : Int32)), (0, .ref (a_M 0)), (1, .int p1), (2, .int p2)]) hx hb dX5_covered_1 rfl hl (by decide) rfl (fun ls hl => ?_)
  refine lv_iload_n hx hb dX5_covered_2 rfl (lv_at hl 2 rfl) ?_
  refine lv_istore (lv' := [(4, .int p1), (3, .int (0 : Int32)), (0, .ref (a_M 0)), (1, .int p1), (2, .int p2)]) hx hb dX5_covered_3 hl (by decide) rfl (fun ls hl => ?_)
  obtain ⟨n_1, h⟩ := h
  refine wX5_covered_5 l D cI cJ cC G a_M p1 p2 p1 p2 M_pipes M_used M_taped M_at M_statements M_hasImage M_isKeeping M_cursor M_nextAt M_nextMost M_rowMany M_refused M_setting M_hole M_pipeAt M_chance M_weight M_tape M_letter M_letterAt M_told M_kept M_then M_row _ S hK hDD hA hE (fun x3_2 x4_3 H locs ls h hP hS hl => ?_) n_1 (0 : Int32) p1 _ _ _ h hP hS (lv_sub hl [2, 3, 4, 1, 0] rfl)
  try dsimp only at h
  refine lv_iload_n hx hb dX5_covered_29 rfl (lv_at hl 0 rfl) ?_
  exact hret x3_2 () _ _ _ _ rfl h hP hS dX5_covered_30
def wpX5_covers (post : Int32 → (Nat → Int32) → Prop) (M_refused : Nat → Int32) (M_hole : Nat → Int32) (p1 : Int32) (p2 : Int32) : Prop := ((p1 < (0 : Int32) → (wpX5_no (fun (r_1 : Int32) (M_refused_2 : Nat → Int32) => post r_1 M_refused_2) M_refused (-4 : Int32))) ∧ (¬ (p1 < (0 : Int32)) → ((((1 : Int32) ≤ p2 → ((((40 : Int32) < p2 → (wpX5_no (fun (r_3 : Int32) (M_refused_4 : Nat → Int32) => post r_3 M_refused_4) M_refused (-6 : Int32))) ∧ (¬ ((40 : Int32) < p2) → ((((48 : Int32) < p1 → (wpX5_no (fun (r_5 : Int32) (M_refused_6 : Nat → Int32) => post r_5 M_refused_6) M_refused (-6 : Int32))) ∧ (¬ ((48 : Int32) < p1) → ((((p1 + p2) ≤ (48 : Int32) → (wpX5_covered (fun (r_7 : Int32) => post r_7 M_refused) M_hole p1 p2)) ∧ (¬ ((p1 + p2) ≤ (48 : Int32)) → (wpX5_no (fun (r_8 : Int32) (M_refused_9 : Nat → Int32) => post r_8 M_refused_9) M_refused (-6 : Int32)))))))))))) ∧ (¬ ((1 : Int32) ≤ p2) → (wpX5_no (fun (r_10 : Int32) (M_refused_11 : Nat → Int32) => post r_10 M_refused_11) M_refused (-4 : Int32)))))))
set_option maxHeartbeats 4000000 in
set_option maxRecDepth 100000 in
theorem mX5_covers (l : Launch) (D : va_G) (cI cJ cC : ClassId) (G : Nat → Nat → Nat) (a_M : Nat → Nat) (sz : Nat) (M_pipes : Int32) (M_used : Int32) (M_taped : Int32) (M_at : Int32) (M_statements : Int32) (M_hasImage : Int32) (M_isKeeping : Int32) (M_cursor : Int32) (M_nextAt : Int32) (M_nextMost : Int64) (M_rowMany : Int32) (M_refused : Nat → Int32) (M_setting : Nat → Int32) (M_hole : Nat → Int32) (M_pipeAt : Nat → Int32) (M_chance : Nat → Int32) (M_weight : Nat → Int32) (M_tape : Nat → Int32) (M_letter : Nat → Int32) (M_letterAt : Nat → Int32) (M_told : Nat → Int32) (M_kept : Nat → Int32) (M_then : Nat → Int64) (M_row : Nat → Int32) (p1 : Int32) (p2 : Int32) (post : Int32 → (Nat → Int32) → Prop) (h : wpX5_covers post M_refused M_hole p1 p2) : Met l yX5_covers (wz yX5_covers cX5_covers 4 (some .int)) ({ frames := 1, cells := 0, slots := 0, locals := 24 }) (va_Pc [.ref (a_M 0), .int p1, .int p2] (PW D (tz cI cJ cC) G ((bX5 cI cJ cC a_M M_pipes M_used M_taped M_at M_statements M_hasImage M_isKeeping M_cursor M_nextAt M_nextMost M_rowMany M_refused M_setting M_hole M_pipeAt M_chance M_weight M_tape M_letter M_letterAt M_told M_kept M_then M_row)) sz)) (va_Qi (fun (r : Int32) (u : (Nat → Int32)) => post r u) (fun (u : (Nat → Int32)) t => va_P D vwCl ((bX5 cI cJ cC a_M M_pipes M_used M_taped M_at M_statements M_hasImage M_isKeeping M_cursor M_nextAt M_nextMost M_rowMany u M_setting M_hole M_pipeAt M_chance M_weight M_tape M_letter M_letterAt M_told M_kept M_then M_row)) t.heap) (va_A ((bX5 cI cJ cC a_M M_pipes M_used M_taped M_at M_statements M_hasImage M_isKeeping M_cursor M_nextAt M_nextMost M_rowMany M_refused M_setting M_hole M_pipeAt M_chance M_weight M_tape M_letter M_letterAt M_told M_kept M_then M_row)) sz)) 0 0 (va_A ((bX5 cI cJ cC a_M M_pipes M_used M_taped M_at M_statements M_hasImage M_isKeeping M_cursor M_nextAt M_nextMost M_rowMany M_refused M_setting M_hole M_pipeAt M_chance M_weight M_tape M_letter M_letterAt M_told M_kept M_then M_row)) sz) := by
  refine zmi (gw := fun (u : (Nat → Int32)) => (bX5 cI cJ cC a_M M_pipes M_used M_taped M_at M_statements M_hasImage M_isKeeping M_cursor M_nextAt M_nextMost M_rowMany u M_setting M_hole M_pipeAt M_chance M_weight M_tape M_letter M_letterAt M_told M_kept M_then M_row)) (plainFor_of_name (by decide)) (Nat.le_of_ble_eq_true rfl) ?_
  intro p e s m below meth c A Q ls S hK hD hA hE hP hl hret
  obtain ⟨hx, hb, hml, hown, ht⟩ := id S
  have hS : va_S A s.heap s.heap [] := va_S.rf
  have hDD : ∀ ws : va_W, ws.map (fun q => q.1) = [a_M 0, a_M 1, a_M 2, a_M 3, a_M 4, a_M 5, a_M 6, a_M 7, a_M 8, a_M 9, a_M 10, a_M 11, a_M 12, a_M 13] → va_D A ws := fun ws hw => zD hD (hw.trans rfl)
  have hl : lv_has ls 4 [(0, .ref (a_M 0)), (1, .int p1), (2, .int p2)] := hl
  unfold wpX5_covers at h
  refine lv_iload_n hx hb dX5_covers_0 rfl (lv_at hl 1 rfl) ?_
  refine lv_if_lt (tgt := 9) hx hb dX5_covers_1 (by decide) (fun z => ?_) (fun z => ?_)
  · replace h := h.1 z
    refine lv_bipush (v := (-4 : Int32)) hx hb dX5_covers_9 (by decide) ?_
    refine lv_goto (tgt := 40) hx hb dX5_covers_11 (by decide) ?_
    refine lv_istore_n (lv' := [(3, .int (-4 : Int32)), (0, .ref (a_M 0)), (1, .int p1), (2, .int p2)]) hx hb dX5_covers_40 rfl hl (by decide) rfl (fun ls hl => ?_)
    refine lv_iload_n hx hb dX5_covers_41 rfl (lv_at hl 0 rfl) ?_
    refine lv_if_eq (tgt := 53) hx hb dX5_covers_42 (by decide) (fun z => ?_) (fun z => ?_)
    · exact absurd z (by decide)
    · refine lv_aload_n hx hb dX5_covers_45 rfl (lv_at hl 1 rfl) ?_
      refine lv_iload_n hx hb dX5_covers_46 rfl (lv_at hl 0 rfl) ?_
      refine zci hA (hDD _ rfl) hS (zrunV (As := [.int (-4 : Int32)]) (rest := []) S hK hA hE hP (hDD _ rfl) hS (mX5_no l D cI cJ cC G a_M _ M_pipes M_used M_taped M_at M_statements M_hasImage M_isKeeping M_cursor M_nextAt M_nextMost M_rowMany M_refused M_setting M_hole M_pipeAt M_chance M_weight M_tape M_letter M_letterAt M_told M_kept M_then M_row (-4 : Int32) _ h) kX5_no ml_X5_66 ⟨rfl, rfl, by decide, by decide⟩ (q0 := 0) (ci := 5) rfl rfl rfl rfl hl.1 rfl (Nat.le_of_ble_eq_true rfl) dX5_covers_47 ⟨Nat.zero_le _, Nat.zero_le _⟩) (fun r_1 M_refused_2 H locs h hP1 hk1 hS => ?_)
      try dsimp only at h
      have hP : va_P D vwCl ((bX5 cI cJ cC a_M M_pipes M_used M_taped M_at M_statements M_hasImage M_isKeeping M_cursor M_nextAt M_nextMost M_rowMany M_refused_2 M_setting M_hole M_pipeAt M_chance M_weight M_tape M_letter M_letterAt M_told M_kept M_then M_row)) H := hP1
      refine lv_goto (tgt := 59) hx hb dX5_covers_50 (by decide) ?_
      exact hret r_1 M_refused_2 _ _ _ _ rfl h hP hS dX5_covers_59
  · replace h := h.2 z
    refine lv_iload_n hx hb dX5_covers_4 rfl (lv_at hl 2 rfl) ?_
    refine lv_iconst (v := (1 : Int32)) hx hb dX5_covers_5 (by decide) ?_
    refine lv_icmp_ge (tgt := 14) hx hb dX5_covers_6 (by decide) (fun z => ?_) (fun z => ?_)
    · replace h := h.1 z
      refine lv_iload_n hx hb dX5_covers_14 rfl (lv_at hl 2 rfl) ?_
      refine lv_bipush (v := (40 : Int32)) hx hb dX5_covers_15 (by decide) ?_
      refine lv_icmp_gt (tgt := 34) hx hb dX5_covers_17 (by decide) (fun z => ?_) (fun z => ?_)
      · replace h := h.1 z
        refine lv_bipush (v := (-6 : Int32)) hx hb dX5_covers_34 (by decide) ?_
        refine lv_goto (tgt := 40) hx hb dX5_covers_36 (by decide) ?_
        refine lv_istore_n (lv' := [(3, .int (-6 : Int32)), (0, .ref (a_M 0)), (1, .int p1), (2, .int p2)]) hx hb dX5_covers_40 rfl hl (by decide) rfl (fun ls hl => ?_)
        refine lv_iload_n hx hb dX5_covers_41 rfl (lv_at hl 0 rfl) ?_
        refine lv_if_eq (tgt := 53) hx hb dX5_covers_42 (by decide) (fun z => ?_) (fun z => ?_)
        · exact absurd z (by decide)
        · refine lv_aload_n hx hb dX5_covers_45 rfl (lv_at hl 1 rfl) ?_
          refine lv_iload_n hx hb dX5_covers_46 rfl (lv_at hl 0 rfl) ?_
          refine zci hA (hDD _ rfl) hS (zrunV (As := [.int (-6 : Int32)]) (rest := []) S hK hA hE hP (hDD _ rfl) hS (mX5_no l D cI cJ cC G a_M _ M_pipes M_used M_taped M_at M_statements M_hasImage M_isKeeping M_cursor M_nextAt M_nextMost M_rowMany M_refused M_setting M_hole M_pipeAt M_chance M_weight M_tape M_letter M_letterAt M_told M_kept M_then M_row (-6 : Int32) _ h) kX5_no ml_X5_66 ⟨rfl, rfl, by decide, by decide⟩ (q0 := 0) (ci := 5) rfl rfl rfl rfl hl.1 rfl (Nat.le_of_ble_eq_true rfl) dX5_covers_47 ⟨Nat.zero_le _, Nat.zero_le _⟩) (fun r_3 M_refused_4 H locs h hP1 hk1 hS => ?_)
          try dsimp only at h
          have hP : va_P D vwCl ((bX5 cI cJ cC a_M M_pipes M_used M_taped M_at M_statements M_hasImage M_isKeeping M_cursor M_nextAt M_nextMost M_rowMany M_refused_4 M_setting M_hole M_pipeAt M_chance M_weight M_tape M_letter M_letterAt M_told M_kept M_then M_row)) H := hP1
          refine lv_goto (tgt := 59) hx hb dX5_covers_50 (by decide) ?_
          exact hret r_3 M_refused_4 _ _ _ _ rfl h hP hS dX5_covers_59
      · replace h := h.2 z
        refine lv_iload_n hx hb dX5_covers_20 rfl (lv_at hl 1 rfl) ?_
        refine lv_bipush (v := (48 : Int32)) hx hb dX5_covers_21 (by decide) ?_
        refine lv_icmp_gt (tgt := 34) hx hb dX5_covers_23 (by decide) (fun z => ?_) (fun z => ?_)
        · replace h := h.1 z
          refine lv_bipush (v := (-6 : Int32)) hx hb dX5_covers_34 (by decide) ?_
          refine lv_goto (tgt := 40) hx hb dX5_covers_36 (by decide) ?_
          refine lv_istore_n (lv' := [(3, .int (-6 : Int32)), (0, .ref (a_M 0)), (1, .int p1), (2, .int p2)]) hx hb dX5_covers_40 rfl hl (by decide) rfl (fun ls hl => ?_)
          refine lv_iload_n hx hb dX5_covers_41 rfl (lv_at hl 0 rfl) ?_
          refine lv_if_eq (tgt := 53) hx hb dX5_covers_42 (by decide) (fun z => ?_) (fun z => ?_)
          · exact absurd z (by decide)
          · refine lv_aload_n hx hb dX5_covers_45 rfl (lv_at hl 1 rfl) ?_
            refine lv_iload_n hx hb dX5_covers_46 rfl (lv_at hl 0 rfl) ?_
            refine zci hA (hDD _ rfl) hS (zrunV (As := [.int (-6 : Int32)]) (rest := []) S hK hA hE hP (hDD _ rfl) hS (mX5_no l D cI cJ cC G a_M _ M_pipes M_used M_taped M_at M_statements M_hasImage M_isKeeping M_cursor M_nextAt M_nextMost M_rowMany M_refused M_setting M_hole M_pipeAt M_chance M_weight M_tape M_letter M_letterAt M_told M_kept M_then M_row (-6 : Int32) _ h) kX5_no ml_X5_66 ⟨rfl, rfl, by decide, by decide⟩ (q0 := 0) (ci := 5) rfl rfl rfl rfl hl.1 rfl (Nat.le_of_ble_eq_true rfl) dX5_covers_47 ⟨Nat.zero_le _, Nat.zero_le _⟩) (fun r_5 M_refused_6 H locs h hP1 hk1 hS => ?_)
            try dsimp only at h
            have hP : va_P D vwCl ((bX5 cI cJ cC a_M M_pipes M_used M_taped M_at M_statements M_hasImage M_isKeeping M_cursor M_nextAt M_nextMost M_rowMany M_refused_6 M_setting M_hole M_pipeAt M_chance M_weight M_tape M_letter M_letterAt M_told M_kept M_then M_row)) H := hP1
            refine lv_goto (tgt := 59) hx hb dX5_covers_50 (by decide) ?_
            exact hret r_5 M_refused_6 _ _ _ _ rfl h hP hS dX5_covers_59
        · replace h := h.2 z
          refine lv_iload_n hx hb dX5_covers_26 rfl (lv_at hl 1 rfl) ?_
          refine lv_iload_n hx hb dX5_covers_27 rfl (lv_at hl 2 rfl) ?_
          refine lv_iadd hx hb dX5_covers_28 ?_
          refine lv_bipush (v := (48 : Int32)) hx hb dX5_covers_29 (by decide) ?_
          refine lv_icmp_le (tgt := 39) hx hb dX5_covers_31 (by decide) (fun z => ?_) (fun z => ?_)
          · replace h := h.1 z
            refine lv_iconst (v := (0 : Int32)) hx hb dX5_covers_39 (by decide) ?_
            refine lv_istore_n (lv' := [(3, .int (0 : Int32)), (0, .ref (a_M 0)), (1, .int p1), (2, .int p2)]) hx hb dX5_covers_40 rfl hl (by decide) rfl (fun ls hl => ?_)
            refine lv_iload_n hx hb dX5_covers_41 rfl (lv_at hl 0 rfl) ?_
            refine lv_if_eq (tgt := 53) hx hb dX5_covers_42 (by decide) (fun z => ?_) (fun z => ?_)
            · refine lv_aload_n hx hb dX5_covers_53 rfl (lv_at hl 1 rfl) ?_
              refine lv_iload_n hx hb dX5_covers_54 rfl (lv_at hl 2 rfl) ?_
              refine lv_iload_n hx hb dX5_covers_55 rfl (lv_at hl 3 rfl) ?_
              refine zci hA (hDD _ rfl) hS (zrunV (As := [.int p1, .int p2]) (rest := []) S hK hA hE hP (hDD _ rfl) hS (mX5_covered l D cI cJ cC G a_M _ M_pipes M_used M_taped M_at M_statements M_hasImage M_isKeeping M_cursor M_nextAt M_nextMost M_rowMany M_refused M_setting M_hole M_pipeAt M_chance M_weight M_tape M_letter M_letterAt M_told M_kept M_then M_row p1 p2 _ h) kX5_covered ml_X5_262 ⟨rfl, rfl, by decide, by decide⟩ (q0 := 0) (ci := 5) rfl rfl rfl rfl hl.1 rfl (Nat.le_of_ble_eq_true rfl) dX5_covers_56 ⟨Nat.zero_le _, Nat.zero_le _⟩) (fun r_7 u H locs h hP1 hk1 hS => ?_)
              try dsimp only at h
              have hP : va_P D vwCl ((bX5 cI cJ cC a_M M_pipes M_used M_taped M_at M_statements M_hasImage M_isKeeping M_cursor M_nextAt M_nextMost M_rowMany M_refused M_setting M_hole M_pipeAt M_chance M_weight M_tape M_letter M_letterAt M_told M_kept M_then M_row)) H := hP1
              exact hret r_7 M_refused _ _ _ _ rfl h hP hS dX5_covers_59
            · exact absurd (by decide) z
          · replace h := h.2 z
            refine lv_bipush (v := (-6 : Int32)) hx hb dX5_covers_34 (by decide) ?_
            refine lv_goto (tgt := 40) hx hb dX5_covers_36 (by decide) ?_
            refine lv_istore_n (lv' := [(3, .int (-6 : Int32)), (0, .ref (a_M 0)), (1, .int p1), (2, .int p2)]) hx hb dX5_covers_40 rfl hl (by decide) rfl (fun ls hl => ?_)
            refine lv_iload_n hx hb dX5_covers_41 rfl (lv_at hl 0 rfl) ?_
            refine lv_if_eq (tgt := 53) hx hb dX5_covers_42 (by decide) (fun z => ?_) (fun z => ?_)
            · exact absurd z (by decide)
            · refine lv_aload_n hx hb dX5_covers_45 rfl (lv_at hl 1 rfl) ?_
              refine lv_iload_n hx hb dX5_covers_46 rfl (lv_at hl 0 rfl) ?_
              refine zci hA (hDD _ rfl) hS (zrunV (As := [.int (-6 : Int32)]) (rest := []) S hK hA hE hP (hDD _ rfl) hS (mX5_no l D cI cJ cC G a_M _ M_pipes M_used M_taped M_at M_statements M_hasImage M_isKeeping M_cursor M_nextAt M_nextMost M_rowMany M_refused M_setting M_hole M_pipeAt M_chance M_weight M_tape M_letter M_letterAt M_told M_kept M_then M_row (-6 : Int32) _ h) kX5_no ml_X5_66 ⟨rfl, rfl, by decide, by decide⟩ (q0 := 0) (ci := 5) rfl rfl rfl rfl hl.1 rfl (Nat.le_of_ble_eq_true rfl) dX5_covers_47 ⟨Nat.zero_le _, Nat.zero_le _⟩) (fun r_8 M_refused_9 H locs h hP1 hk1 hS => ?_)
              try dsimp only at h
              have hP : va_P D vwCl ((bX5 cI cJ cC a_M M_pipes M_used M_taped M_at M_statements M_hasImage M_isKeeping M_cursor M_nextAt M_nextMost M_rowMany M_refused_9 M_setting M_hole M_pipeAt M_chance M_weight M_tape M_letter M_letterAt M_told M_kept M_then M_row)) H := hP1
              refine lv_goto (tgt := 59) hx hb dX5_covers_50 (by decide) ?_
              exact hret r_8 M_refused_9 _ _ _ _ rfl h hP hS dX5_covers_59
    · replace h := h.2 z
      refine lv_bipush (v := (-4 : Int32)) hx hb dX5_covers_9 (by decide) ?_
      refine lv_goto (tgt := 40) hx hb dX5_covers_11 (by decide) ?_
      refine lv_istore_n (lv' := [(3, .int (-4 : Int32)), (0, .ref (a_M 0)), (1, .int p1), (2, .int p2)]) hx hb dX5_covers_40 rfl hl (by decide) rfl (fun ls hl => ?_)
      refine lv_iload_n hx hb dX5_covers_41 rfl (lv_at hl 0 rfl) ?_
      refine lv_if_eq (tgt := 53) hx hb dX5_covers_42 (by decide) (fun z => ?_) (fun z => ?_)
      · exact absurd z (by decide)
      · refine lv_aload_n hx hb dX5_covers_45 rfl (lv_at hl 1 rfl) ?_
        refine lv_iload_n hx hb dX5_covers_46 rfl (lv_at hl 0 rfl) ?_
        refine zci hA (hDD _ rfl) hS (zrunV (As := [.int (-4 : Int32)]) (rest := []) S hK hA hE hP (hDD _ rfl) hS (mX5_no l D cI cJ cC G a_M _ M_pipes M_used M_taped M_at M_statements M_hasImage M_isKeeping M_cursor M_nextAt M_nextMost M_rowMany M_refused M_setting M_hole M_pipeAt M_chance M_weight M_tape M_letter M_letterAt M_told M_kept M_then M_row (-4 : Int32) _ h) kX5_no ml_X5_66 ⟨rfl, rfl, by decide, by decide⟩ (q0 := 0) (ci := 5) rfl rfl rfl rfl hl.1 rfl (Nat.le_of_ble_eq_true rfl) dX5_covers_47 ⟨Nat.zero_le _, Nat.zero_le _⟩) (fun r_10 M_refused_11 H locs h hP1 hk1 hS => ?_)
        try dsimp only at h
        have hP : va_P D vwCl ((bX5 cI cJ cC a_M M_pipes M_used M_taped M_at M_statements M_hasImage M_isKeeping M_cursor M_nextAt M_nextMost M_rowMany M_refused_11 M_setting M_hole M_pipeAt M_chance M_weight M_tape M_letter M_letterAt M_told M_kept M_then M_row)) H := hP1
        refine lv_goto (tgt := 59) hx hb dX5_covers_50 (by decide) ?_
        exact hret r_10 M_refused_11 _ _ _ _ rfl h hP hS dX5_covers_59
def lpX5_likeliestIn_5 (K : Int64 → Int32 → Prop) (x1 : Int32) (x2 : Int32) (M_setting : Nat → Int32) (M_weight : Nat → Int32) : Nat → Int64 → Int32 → Prop
  | 0, _, _ => False
  | n + 1, x3, x5 => (((x1 + x2) ≤ x5 → (K x3 x5)) ∧ (¬ ((x1 + x2) ≤ x5) → (wpX5_woodAt (fun (r_1 : Int64) => ((r_1 ≤ x3 → (lpX5_likeliestIn_5 K x1 x2 M_setting M_weight n x3 (x5 + (1 : Int32)))) ∧ (¬ (r_1 ≤ x3) → (wpX5_woodAt (fun (r_2 : Int64) => lpX5_likeliestIn_5 K x1 x2 M_setting M_weight n r_2 (x5 + (1 : Int32))) M_setting M_weight x5)))) M_setting M_weight x5)))
set_option maxHeartbeats 4000000 in
set_option maxRecDepth 100000 in
theorem wX5_likeliestIn_5 (l : Launch) (D : va_G) (cI cJ cC : ClassId) (G : Nat → Nat → Nat) (a_M : Nat → Nat) {p : Program} {e : Env} {s : State} {m : MethodId} {below : List Frame} {meth : Method} {c : Code} {A : Nat → Prop} {Q : State → Prop} (p1 : Int32) (p2 : Int32) (x1 : Int32) (x2 : Int32) (M_pipes : Int32) (M_used : Int32) (M_taped : Int32) (M_at : Int32) (M_statements : Int32) (M_hasImage : Int32) (M_isKeeping : Int32) (M_cursor : Int32) (M_nextAt : Int32) (M_nextMost : Int64) (M_rowMany : Int32) (M_refused : Nat → Int32) (M_setting : Nat → Int32) (M_hole : Nat → Int32) (M_pipeAt : Nat → Int32) (M_chance : Nat → Int32) (M_weight : Nat → Int32) (M_tape : Nat → Int32) (M_letter : Nat → Int32) (M_letterAt : Nat → Int32) (M_told : Nat → Int32) (M_kept : Nat → Int32) (M_then : Nat → Int64) (M_row : Nat → Int32) (K : Int64 → Int32 → Prop) (S : CallFix p m c cX5_likeliestIn 6 s ([.ref (a_M 0), .int p1, .int p2] : List Value).toArray bg RX5) (hK : va_K D vwCl (tz cI cJ cC) s) (hDD : ∀ ws : va_W, ws.map (fun q => q.1) = [a_M 0, a_M 1, a_M 2, a_M 3, a_M 4, a_M 5, a_M 6, a_M 7, a_M 8, a_M 9, a_M 10, a_M 11, a_M 12, a_M 13] → va_D A ws) (hA : ∀ q, s.heap.size ≤ q → A q) (hE : EV G A s) (hKK : ∀ (x3 : Int64) (x5 : Int32) (H : Heap) (locs : List Loc) (ls : Array Slot), K x3 x5 → va_P D vwCl ((bX5 cI cJ cC a_M M_pipes M_used M_taped M_at M_statements M_hasImage M_isKeeping M_cursor M_nextAt M_nextMost M_rowMany M_refused M_setting M_hole M_pipeAt M_chance M_weight M_tape M_letter M_letterAt M_told M_kept M_then M_row)) H → va_S A s.heap H locs → lv_has ls 6 [(3, .long x3)] → W p l e ({ frames := 5, cells := 0, slots := 0, locals := 112 }) s m ([.ref (a_M 0), .int p1, .int p2] : List Value).toArray below meth c H locs 0 0 Q (F0 m 41 ls [])) :
    ∀ (n : Nat) (x3 : Int64) (x5 : Int32) (H : Heap) (locs : List Loc) (ls : Array Slot), lpX5_likeliestIn_5 K x1 x2 M_setting M_weight n x3 x5 → va_P D vwCl ((bX5 cI cJ cC a_M M_pipes M_used M_taped M_at M_statements M_hasImage M_isKeeping M_cursor M_nextAt M_nextMost M_rowMany M_refused M_setting M_hole M_pipeAt M_chance M_weight M_tape M_letter M_letterAt M_told M_kept M_then M_row)) H → va_S A s.heap H locs → lv_has ls 6 [(0, .ref (a_M 0)), (1, .int x1), (2, .int x2), (3, .long x3), (5, .int x5)] → W p l e ({ frames := 5, cells := 0, slots := 0, locals := 112 }) s m ([.ref (a_M 0), .int p1, .int p2] : List Value).toArray below meth c H locs 0 0 Q (F0 m 5 ls []) := by
  obtain ⟨hx, hb, hml, hown, ht⟩ := id S
  intro n
  induction n with
  | zero =>
    intro x3 x5 H locs ls h
    exact absurd h (by simp [lpX5_likeliestIn_5])
  | succ n ih =>
    intro x3 x5 H locs ls h hP hS hl
    rw [lpX5_likeliestIn_5] at h
    refine lv_iload hx hb dX5_likeliestIn_5 (lv_at hl 4 rfl) ?_
    refine lv_iload_n hx hb dX5_likeliestIn_7 rfl (lv_at hl 1 rfl) ?_
    refine lv_iload_n hx hb dX5_likeliestIn_8 rfl (lv_at hl 2 rfl) ?_
    refine lv_iadd hx hb dX5_likeliestIn_9 ?_
    refine lv_icmp_ge (tgt := 41) hx hb dX5_likeliestIn_10 (by decide) (fun z => ?_) (fun z => ?_)
    · replace h := h.1 z
      exact hKK x3 x5 _ _ _ h hP hS (lv_sub hl [3] rfl)
    · replace h := h.2 z
      refine lv_aload_n hx hb dX5_likeliestIn_13 rfl (lv_at hl 0 rfl) ?_
      refine lv_iload hx hb dX5_likeliestIn_14 (lv_at hl 4 rfl) ?_
      refine zcl hA (hDD _ rfl) hS (zrunV (As := [.int x5]) (rest := []) S hK hA hE hP (hDD _ rfl) hS (mX5_woodAt l D cI cJ cC G a_M _ M_pipes M_used M_taped M_at M_statements M_hasImage M_isKeeping M_cursor M_nextAt M_nextMost M_rowMany M_refused M_setting M_hole M_pipeAt M_chance M_weight M_tape M_letter M_letterAt M_told M_kept M_then M_row x5 _ h) kX5_woodAt ml_X5_213 ⟨rfl, rfl, by decide, by decide⟩ (q0 := 0) (ci := 5) rfl rfl rfl rfl hl.1 rfl (Nat.le_of_ble_eq_true rfl) dX5_likeliestIn_16 ⟨Nat.zero_le _, Nat.zero_le _⟩) (fun r_1 u H locs h hP1 hk1 hS => ?_)
      try dsimp only at h
      have hP : va_P D vwCl ((bX5 cI cJ cC a_M M_pipes M_used M_taped M_at M_statements M_hasImage M_isKeeping M_cursor M_nextAt M_nextMost M_rowMany M_refused M_setting M_hole M_pipeAt M_chance M_weight M_tape M_letter M_letterAt M_told M_kept M_then M_row)) H := hP1
      refine lv_lload_n hx hb dX5_likeliestIn_19 rfl (lv_at hl 3 rfl) ?_
      refine W.lcmp hx hb dX5_likeliestIn_20 ?_
      refine lv_if_le (tgt := 33) hx hb dX5_likeliestIn_21 (by decide) (fun z => ?_) (fun z => ?_)
      · replace h := h.1 (zl_le.mp z)
        refine lv_lload_n hx hb dX5_likeliestIn_33 rfl (lv_at hl 3 rfl) ?_
        refine lv_lstore_n (lv' := [(3, .long x3), (0, .ref (a_M 0)), (1, .int x1), (2, .int x2), (5, .int x5)]) hx hb dX5_likeliestIn_34 rfl hl (by decide) rfl (fun ls hl => ?_)
        refine lv_iinc (v := x5 + (1 : Int32)) (lv' := [(5, .int (x5 + (1 : Int32))), (3, .long x3), (0, .ref (a_M 0)), (1, .int x1), (2, .int x2)]) hx hb dX5_likeliestIn_35 hl (k := 4) rfl (by rfl) (by decide) rfl (fun ls hl => ?_)
        refine lv_goto (tgt := 5) hx hb dX5_likeliestIn_38 (by decide) ?_
        exact ih x3 (x5 + (1 : Int32)) _ _ _ h hP hS (lv_sub hl [2, 3, 4, 1, 0] rfl)
      · replace h := h.2 (fun q => z (zl_le.mpr q))
        refine lv_aload_n hx hb dX5_likeliestIn_24 rfl (lv_at hl 0 rfl) ?_
        refine lv_iload hx hb dX5_likeliestIn_25 (lv_at hl 4 rfl) ?_
        refine zcl hA (hDD _ rfl) hS (zrunV (As := [.int x5]) (rest := []) S hK hA hE hP (hDD _ rfl) hS (mX5_woodAt l D cI cJ cC G a_M _ M_pipes M_used M_taped M_at M_statements M_hasImage M_isKeeping M_cursor M_nextAt M_nextMost M_rowMany M_refused M_setting M_hole M_pipeAt M_chance M_weight M_tape M_letter M_letterAt M_told M_kept M_then M_row x5 _ h) kX5_woodAt ml_X5_213 ⟨rfl, rfl, by decide, by decide⟩ (q0 := 0) (ci := 5) rfl rfl rfl rfl hl.1 rfl (Nat.le_of_ble_eq_true rfl) dX5_likeliestIn_27 ⟨Nat.zero_le _, Nat.zero_le _⟩) (fun r_2 u H locs h hP1 hk1 hS => ?_)
        try dsimp only at h
        have hP : va_P D vwCl ((bX5 cI cJ cC a_M M_pipes M_used M_taped M_at M_statements M_hasImage M_isKeeping M_cursor M_nextAt M_nextMost M_rowMany M_refused M_setting M_hole M_pipeAt M_chance M_weight M_tape M_letter M_letterAt M_told M_kept M_then M_row)) H := hP1
        refine lv_goto (tgt := 34) hx hb dX5_likeliestIn_30 (by decide) ?_
        refine lv_lstore_n (lv' := [(3, .long r_2), (0, .ref (a_M 0)), (1, .int x1), (2, .int x2), (5, .int x5)]) hx hb dX5_likeliestIn_34 rfl hl (by decide) rfl (fun ls hl => ?_)
        refine lv_iinc (v := x5 + (1 : Int32)) (lv' := [(5, .int (x5 + (1 : Int32))), (3, .long r_2), (0, .ref (a_M 0)), (1, .int x1), (2, .int x2)]) hx hb dX5_likeliestIn_35 hl (k := 4) rfl (by rfl) (by decide) rfl (fun ls hl => ?_)
        refine lv_goto (tgt := 5) hx hb dX5_likeliestIn_38 (by decide) ?_
        exact ih r_2 (x5 + (1 : Int32)) _ _ _ h hP hS (lv_sub hl [2, 3, 4, 1, 0] rfl)
def wpX5_likeliestIn (post : Int64 → Prop) (M_setting : Nat → Int32) (M_weight : Nat → Int32) (p1 : Int32) (p2 : Int32) : Prop := ∃ n_3 : Nat, lpX5_likeliestIn_5 (fun (x3_4 : Int64) (x5_5 : Int32) => post x3_4) p1 p2 M_setting M_weight n_3 (0 : Int64) p1
set_option maxHeartbeats 4000000 in
set_option maxRecDepth 100000 in
theorem mX5_likeliestIn (l : Launch) (D : va_G) (cI cJ cC : ClassId) (G : Nat → Nat → Nat) (a_M : Nat → Nat) (sz : Nat) (M_pipes : Int32) (M_used : Int32) (M_taped : Int32) (M_at : Int32) (M_statements : Int32) (M_hasImage : Int32) (M_isKeeping : Int32) (M_cursor : Int32) (M_nextAt : Int32) (M_nextMost : Int64) (M_rowMany : Int32) (M_refused : Nat → Int32) (M_setting : Nat → Int32) (M_hole : Nat → Int32) (M_pipeAt : Nat → Int32) (M_chance : Nat → Int32) (M_weight : Nat → Int32) (M_tape : Nat → Int32) (M_letter : Nat → Int32) (M_letterAt : Nat → Int32) (M_told : Nat → Int32) (M_kept : Nat → Int32) (M_then : Nat → Int64) (M_row : Nat → Int32) (p1 : Int32) (p2 : Int32) (post : Int64 → Prop) (h : wpX5_likeliestIn post M_setting M_weight p1 p2) : Met l yX5_likeliestIn (wz yX5_likeliestIn cX5_likeliestIn 6 (some .long)) ({ frames := 5, cells := 0, slots := 0, locals := 112 }) (va_Pc [.ref (a_M 0), .int p1, .int p2] (PW D (tz cI cJ cC) G ((bX5 cI cJ cC a_M M_pipes M_used M_taped M_at M_statements M_hasImage M_isKeeping M_cursor M_nextAt M_nextMost M_rowMany M_refused M_setting M_hole M_pipeAt M_chance M_weight M_tape M_letter M_letterAt M_told M_kept M_then M_row)) sz)) (va_Ql (fun (r : Int64) (u : Unit) => post r ) (fun (u : Unit) t => va_P D vwCl ((bX5 cI cJ cC a_M M_pipes M_used M_taped M_at M_statements M_hasImage M_isKeeping M_cursor M_nextAt M_nextMost M_rowMany M_refused M_setting M_hole M_pipeAt M_chance M_weight M_tape M_letter M_letterAt M_told M_kept M_then M_row)) t.heap) (va_A ((bX5 cI cJ cC a_M M_pipes M_used M_taped M_at M_statements M_hasImage M_isKeeping M_cursor M_nextAt M_nextMost M_rowMany M_refused M_setting M_hole M_pipeAt M_chance M_weight M_tape M_letter M_letterAt M_told M_kept M_then M_row)) sz)) 0 0 (va_A ((bX5 cI cJ cC a_M M_pipes M_used M_taped M_at M_statements M_hasImage M_isKeeping M_cursor M_nextAt M_nextMost M_rowMany M_refused M_setting M_hole M_pipeAt M_chance M_weight M_tape M_letter M_letterAt M_told M_kept M_then M_row)) sz) := by
  refine zml (gw := fun (u : Unit) => (bX5 cI cJ cC a_M M_pipes M_used M_taped M_at M_statements M_hasImage M_isKeeping M_cursor M_nextAt M_nextMost M_rowMany M_refused M_setting M_hole M_pipeAt M_chance M_weight M_tape M_letter M_letterAt M_told M_kept M_then M_row)) (plainFor_of_name (by decide)) (Nat.le_of_ble_eq_true rfl) ?_
  intro p e s m below meth c A Q ls S hK hD hA hE hP hl hret
  obtain ⟨hx, hb, hml, hown, ht⟩ := id S
  have hS : va_S A s.heap s.heap [] := va_S.rf
  have hDD : ∀ ws : va_W, ws.map (fun q => q.1) = [a_M 0, a_M 1, a_M 2, a_M 3, a_M 4, a_M 5, a_M 6, a_M 7, a_M 8, a_M 9, a_M 10, a_M 11, a_M 12, a_M 13] → va_D A ws := fun ws hw => zD hD (hw.trans rfl)
  have hl : lv_has ls 6 [(0, .ref (a_M 0)), (1, .int p1), (2, .int p2)] := hl
  unfold wpX5_likeliestIn at h
  refine lv_lconst (v := (0 : Int64)) hx hb dX5_likeliestIn_0 (by decide) ?_
  refine lv_lstore_n (lv' := [(3, .long (0 : Int64)), (0, .ref (a_M 0)), (1, .int p1), (2, .int p2)]) hx hb dX5_likeliestIn_1 rfl hl (by decide) rfl (fun ls hl => ?_)
  refine lv_iload_n hx hb dX5_likeliestIn_2 rfl (lv_at hl 2 rfl) ?_
  refine lv_istore (lv' := [(5, .int p1), (3, .long (0 : Int64)), (0, .ref (a_M 0)), (1, .int p1), (2, .int p2)]) hx hb dX5_likeliestIn_3 hl (by decide) rfl (fun ls hl => ?_)
  obtain ⟨n_3, h⟩ := h
  refine wX5_likeliestIn_5 l D cI cJ cC G a_M p1 p2 p1 p2 M_pipes M_used M_taped M_at M_statements M_hasImage M_isKeeping M_cursor M_nextAt M_nextMost M_rowMany M_refused M_setting M_hole M_pipeAt M_chance M_weight M_tape M_letter M_letterAt M_told M_kept M_then M_row _ S hK hDD hA hE (fun x3_4 x5_5 H locs ls h hP hS hl => ?_) n_3 (0 : Int64) p1 _ _ _ h hP hS (lv_sub hl [2, 3, 4, 1, 0] rfl)
  try dsimp only at h
  refine lv_lload_n hx hb dX5_likeliestIn_41 rfl (lv_at hl 0 rfl) ?_
  exact hret x3_4 () _ _ _ _ h hP hS dX5_likeliestIn_42
def lpX5_hang_23 (K : Int32 → Int32 → Prop) (x1 : Int32) (M_setting : Nat → Int32) (M_hole : Nat → Int32) (M_weight : Nat → Int32) : Nat → Int32 → Int32 → Prop
  | 0, _, _ => False
  | n + 1, x3, x4 => (((48 : Int32) < (x4 + x1) → (K x3 x4)) ∧ (¬ ((48 : Int32) < (x4 + x1)) → (wpX5_covered (fun (r_2 : Int32) => wpX5_covered (fun (r_3 : Int32) => (((0 : Int32) < (r_2 - r_3) → (lpX5_hang_23 K x1 M_setting M_hole M_weight n x4 (x4 + (1 : Int32)))) ∧ (¬ ((0 : Int32) < (r_2 - r_3)) → ((((r_2 - r_3) = (0 : Int32) → (wpX5_likeliestIn (fun (r_4 : Int64) => wpX5_likeliestIn (fun (r_5 : Int64) => ((r_4 ≤ r_5 → (lpX5_hang_23 K x1 M_setting M_hole M_weight n x3 (x4 + (1 : Int32)))) ∧ (¬ (r_4 ≤ r_5) → (lpX5_hang_23 K x1 M_setting M_hole M_weight n x4 (x4 + (1 : Int32)))))) M_setting M_weight x3 x1) M_setting M_weight x4 x1)) ∧ (¬ ((r_2 - r_3) = (0 : Int32)) → (lpX5_hang_23 K x1 M_setting M_hole M_weight n x3 (x4 + (1 : Int32))))))))) M_hole x3 x1) M_hole x4 x1)))
set_option maxHeartbeats 4000000 in
set_option maxRecDepth 100000 in
theorem wX5_hang_23 (l : Launch) (D : va_G) (cI cJ cC : ClassId) (G : Nat → Nat → Nat) (a_M : Nat → Nat) {p : Program} {e : Env} {s : State} {m : MethodId} {below : List Frame} {meth : Method} {c : Code} {A : Nat → Prop} {Q : State → Prop} (p1 : Int32) (x1 : Int32) (M_pipes : Int32) (M_used : Int32) (M_taped : Int32) (M_at : Int32) (M_statements : Int32) (M_hasImage : Int32) (M_isKeeping : Int32) (M_cursor : Int32) (M_nextAt : Int32) (M_nextMost : Int64) (M_rowMany : Int32) (M_refused : Nat → Int32) (M_setting : Nat → Int32) (M_hole : Nat → Int32) (M_pipeAt : Nat → Int32) (M_chance : Nat → Int32) (M_weight : Nat → Int32) (M_tape : Nat → Int32) (M_letter : Nat → Int32) (M_letterAt : Nat → Int32) (M_told : Nat → Int32) (M_kept : Nat → Int32) (M_then : Nat → Int64) (M_row : Nat → Int32) (K : Int32 → Int32 → Prop) (S : CallFix p m c cX5_hang 6 s ([.ref (a_M 0), .int p1] : List Value).toArray bg RX5) (hK : va_K D vwCl (tz cI cJ cC) s) (hDD : ∀ ws : va_W, ws.map (fun q => q.1) = [a_M 0, a_M 1, a_M 2, a_M 3, a_M 4, a_M 5, a_M 6, a_M 7, a_M 8, a_M 9, a_M 10, a_M 11, a_M 12, a_M 13] → va_D A ws) (hA : ∀ q, s.heap.size ≤ q → A q) (hE : EV G A s) (hKK : ∀ (x3 : Int32) (x4 : Int32) (H : Heap) (locs : List Loc) (ls : Array Slot), K x3 x4 → va_P D vwCl ((bX5 cI cJ cC a_M M_pipes M_used M_taped M_at M_statements M_hasImage M_isKeeping M_cursor M_nextAt M_nextMost M_rowMany M_refused M_setting M_hole M_pipeAt M_chance M_weight M_tape M_letter M_letterAt M_told M_kept M_then M_row)) H → va_S A s.heap H locs → lv_has ls 6 [(3, .int x3)] → W p l e ({ frames := 6, cells := 0, slots := 0, locals := 137 }) s m ([.ref (a_M 0), .int p1] : List Value).toArray below meth c H locs 0 0 Q (F0 m 84 ls [])) :
    ∀ (n : Nat) (x3 : Int32) (x4 : Int32) (H : Heap) (locs : List Loc) (ls : Array Slot), lpX5_hang_23 K x1 M_setting M_hole M_weight n x3 x4 → va_P D vwCl ((bX5 cI cJ cC a_M M_pipes M_used M_taped M_at M_statements M_hasImage M_isKeeping M_cursor M_nextAt M_nextMost M_rowMany M_refused M_setting M_hole M_pipeAt M_chance M_weight M_tape M_letter M_letterAt M_told M_kept M_then M_row)) H → va_S A s.heap H locs → lv_has ls 6 [(0, .ref (a_M 0)), (1, .int x1), (3, .int x3), (4, .int x4)] → W p l e ({ frames := 6, cells := 0, slots := 0, locals := 137 }) s m ([.ref (a_M 0), .int p1] : List Value).toArray below meth c H locs 0 0 Q (F0 m 23 ls []) := by
  obtain ⟨hx, hb, hml, hown, ht⟩ := id S
  intro n
  induction n with
  | zero =>
    intro x3 x4 H locs ls h
    exact absurd h (by simp [lpX5_hang_23])
  | succ n ih =>
    intro x3 x4 H locs ls h hP hS hl
    rw [lpX5_hang_23] at h
    refine lv_iload hx hb dX5_hang_23 (lv_at hl 3 rfl) ?_
    refine lv_iload_n hx hb dX5_hang_25 rfl (lv_at hl 1 rfl) ?_
    refine lv_iadd hx hb dX5_hang_26 ?_
    refine lv_bipush (v := (48 : Int32)) hx hb dX5_hang_27 (by decide) ?_
    refine lv_icmp_gt (tgt := 84) hx hb dX5_hang_29 (by decide) (fun z => ?_) (fun z => ?_)
    · replace h := h.1 z
      exact hKK x3 x4 _ _ _ h hP hS (lv_sub hl [2] rfl)
    · replace h := h.2 z
      refine lv_aload_n hx hb dX5_hang_32 rfl (lv_at hl 0 rfl) ?_
      refine lv_iload hx hb dX5_hang_33 (lv_at hl 3 rfl) ?_
      refine lv_iload_n hx hb dX5_hang_35 rfl (lv_at hl 1 rfl) ?_
      refine zci hA (hDD _ rfl) hS (zrunV (As := [.int x4, .int x1]) (rest := []) S hK hA hE hP (hDD _ rfl) hS (mX5_covered l D cI cJ cC G a_M _ M_pipes M_used M_taped M_at M_statements M_hasImage M_isKeeping M_cursor M_nextAt M_nextMost M_rowMany M_refused M_setting M_hole M_pipeAt M_chance M_weight M_tape M_letter M_letterAt M_told M_kept M_then M_row x4 x1 _ h) kX5_covered ml_X5_262 ⟨rfl, rfl, by decide, by decide⟩ (q0 := 0) (ci := 5) rfl rfl rfl rfl hl.1 rfl (Nat.le_of_ble_eq_true rfl) dX5_hang_36 ⟨Nat.zero_le _, Nat.zero_le _⟩) (fun r_2 u H locs h hP1 hk1 hS => ?_)
      try dsimp only at h
      have hP : va_P D vwCl ((bX5 cI cJ cC a_M M_pipes M_used M_taped M_at M_statements M_hasImage M_isKeeping M_cursor M_nextAt M_nextMost M_rowMany M_refused M_setting M_hole M_pipeAt M_chance M_weight M_tape M_letter M_letterAt M_told M_kept M_then M_row)) H := hP1
      refine lv_aload_n hx hb dX5_hang_39 rfl (lv_at hl 0 rfl) ?_
      refine lv_iload_n hx hb dX5_hang_40 rfl (lv_at hl 2 rfl) ?_
      refine lv_iload_n hx hb dX5_hang_41 rfl (lv_at hl 1 rfl) ?_
      refine zci hA (hDD _ rfl) hS (zrunV (As := [.int x3, .int x1]) (rest := [.int r_2]) S hK hA hE hP (hDD _ rfl) hS (mX5_covered l D cI cJ cC G a_M _ M_pipes M_used M_taped M_at M_statements M_hasImage M_isKeeping M_cursor M_nextAt M_nextMost M_rowMany M_refused M_setting M_hole M_pipeAt M_chance M_weight M_tape M_letter M_letterAt M_told M_kept M_then M_row x3 x1 _ h) kX5_covered ml_X5_262 ⟨rfl, rfl, by decide, by decide⟩ (q0 := 0) (ci := 5) rfl rfl rfl rfl hl.1 rfl (Nat.le_of_ble_eq_true rfl) dX5_hang_42 ⟨Nat.zero_le _, Nat.zero_le _⟩) (fun r_3 u H locs h hP1 hk1 hS => ?_)
      try dsimp only at h
      have hP : va_P D vwCl ((bX5 cI cJ cC a_M M_pipes M_used M_taped M_at M_statements M_hasImage M_isKeeping M_cursor M_nextAt M_nextMost M_rowMany M_refused M_setting M_hole M_pipeAt M_chance M_weight M_tape M_letter M_letterAt M_told M_kept M_then M_row)) H := hP1
      refine lv_isub hx hb dX5_hang_45 ?_
      refine lv_istore (lv' := [(5, .int (r_2 - r_3)), (0, .ref (a_M 0)), (1, .int x1), (3, .int x3), (4, .int x4)]) hx hb dX5_hang_46 hl (by decide) rfl (fun ls hl => ?_)
      refine lv_iload hx hb dX5_hang_48 (lv_at hl 0 rfl) ?_
      refine lv_if_gt (tgt := 75) hx hb dX5_hang_50 (by decide) (fun z => ?_) (fun z => ?_)
      · replace h := h.1 z
        refine lv_iload hx hb dX5_hang_75 (lv_at hl 4 rfl) ?_
        refine lv_istore_n (lv' := [(3, .int x4), (5, .int (r_2 - r_3)), (0, .ref (a_M 0)), (1, .int x1), (4, .int x4)]) hx hb dX5_hang_77 rfl hl (by decide) rfl (fun ls hl => ?_)
        refine lv_iinc (v := x4 + (1 : Int32)) (lv' := [(4, .int (x4 + (1 : Int32))), (3, .int x4), (5, .int (r_2 - r_3)), (0, .ref (a_M 0)), (1, .int x1)]) hx hb dX5_hang_78 hl (k := 4) rfl (by rfl) (by decide) rfl (fun ls hl => ?_)
        refine lv_goto (tgt := 23) hx hb dX5_hang_81 (by decide) ?_
        exact ih x4 (x4 + (1 : Int32)) _ _ _ h hP hS (lv_sub hl [3, 4, 1, 0] rfl)
      · replace h := h.2 z
        refine lv_iload hx hb dX5_hang_53 (lv_at hl 0 rfl) ?_
        refine lv_if_ne (tgt := 78) hx hb dX5_hang_55 (by decide) (fun z => ?_) (fun z => ?_)
        · replace h := h.2 z
          refine lv_iinc (v := x4 + (1 : Int32)) (lv' := [(4, .int (x4 + (1 : Int32))), (5, .int (r_2 - r_3)), (0, .ref (a_M 0)), (1, .int x1), (3, .int x3)]) hx hb dX5_hang_78 hl (k := 4) rfl (by rfl) (by decide) rfl (fun ls hl => ?_)
          refine lv_goto (tgt := 23) hx hb dX5_hang_81 (by decide) ?_
          exact ih x3 (x4 + (1 : Int32)) _ _ _ h hP hS (lv_sub hl [2, 3, 4, 0] rfl)
        · replace h := h.1 z
          refine lv_aload_n hx hb dX5_hang_58 rfl (lv_at hl 1 rfl) ?_
          refine lv_iload hx hb dX5_hang_59 (lv_at hl 4 rfl) ?_
          refine lv_iload_n hx hb dX5_hang_61 rfl (lv_at hl 2 rfl) ?_
          refine zcl hA (hDD _ rfl) hS (zrunV (As := [.int x4, .int x1]) (rest := []) S hK hA hE hP (hDD _ rfl) hS (mX5_likeliestIn l D cI cJ cC G a_M _ M_pipes M_used M_taped M_at M_statements M_hasImage M_isKeeping M_cursor M_nextAt M_nextMost M_rowMany M_refused M_setting M_hole M_pipeAt M_chance M_weight M_tape M_letter M_letterAt M_told M_kept M_then M_row x4 x1 _ h) kX5_likeliestIn ml_X5_265 ⟨rfl, rfl, by decide, by decide⟩ (q0 := 0) (ci := 5) rfl rfl rfl rfl hl.1 rfl (Nat.le_of_ble_eq_true rfl) dX5_hang_62 ⟨Nat.zero_le _, Nat.zero_le _⟩) (fun r_4 u H locs h hP1 hk1 hS => ?_)
          try dsimp only at h
          have hP : va_P D vwCl ((bX5 cI cJ cC a_M M_pipes M_used M_taped M_at M_statements M_hasImage M_isKeeping M_cursor M_nextAt M_nextMost M_rowMany M_refused M_setting M_hole M_pipeAt M_chance M_weight M_tape M_letter M_letterAt M_told M_kept M_then M_row)) H := hP1
          refine lv_aload_n hx hb dX5_hang_65 rfl (lv_at hl 1 rfl) ?_
          refine lv_iload_n hx hb dX5_hang_66 rfl (lv_at hl 3 rfl) ?_
          refine lv_iload_n hx hb dX5_hang_67 rfl (lv_at hl 2 rfl) ?_
          refine zcl hA (hDD _ rfl) hS (zrunV (As := [.int x3, .int x1]) (rest := [.long r_4]) S hK hA hE hP (hDD _ rfl) hS (mX5_likeliestIn l D cI cJ cC G a_M _ M_pipes M_used M_taped M_at M_statements M_hasImage M_isKeeping M_cursor M_nextAt M_nextMost M_rowMany M_refused M_setting M_hole M_pipeAt M_chance M_weight M_tape M_letter M_letterAt M_told M_kept M_then M_row x3 x1 _ h) kX5_likeliestIn ml_X5_265 ⟨rfl, rfl, by decide, by decide⟩ (q0 := 0) (ci := 5) rfl rfl rfl rfl hl.1 rfl (Nat.le_of_ble_eq_true rfl) dX5_hang_68 ⟨Nat.zero_le _, Nat.zero_le _⟩) (fun r_5 u H locs h hP1 hk1 hS => ?_)
          try dsimp only at h
          have hP : va_P D vwCl ((bX5 cI cJ cC a_M M_pipes M_used M_taped M_at M_statements M_hasImage M_isKeeping M_cursor M_nextAt M_nextMost M_rowMany M_refused M_setting M_hole M_pipeAt M_chance M_weight M_tape M_letter M_letterAt M_told M_kept M_then M_row)) H := hP1
          refine W.lcmp hx hb dX5_hang_71 ?_
          refine lv_if_le (tgt := 78) hx hb dX5_hang_72 (by decide) (fun z => ?_) (fun z => ?_)
          · replace h := h.1 (zl_le.mp z)
            refine lv_iinc (v := x4 + (1 : Int32)) (lv' := [(4, .int (x4 + (1 : Int32))), (5, .int (r_2 - r_3)), (0, .ref (a_M 0)), (1, .int x1), (3, .int x3)]) hx hb dX5_hang_78 hl (k := 4) rfl (by rfl) (by decide) rfl (fun ls hl => ?_)
            refine lv_goto (tgt := 23) hx hb dX5_hang_81 (by decide) ?_
            exact ih x3 (x4 + (1 : Int32)) _ _ _ h hP hS (lv_sub hl [2, 3, 4, 0] rfl)
          · replace h := h.2 (fun q => z (zl_le.mpr q))
            refine lv_iload hx hb dX5_hang_75 (lv_at hl 4 rfl) ?_
            refine lv_istore_n (lv' := [(3, .int x4), (5, .int (r_2 - r_3)), (0, .ref (a_M 0)), (1, .int x1), (4, .int x4)]) hx hb dX5_hang_77 rfl hl (by decide) rfl (fun ls hl => ?_)
            refine lv_iinc (v := x4 + (1 : Int32)) (lv' := [(4, .int (x4 + (1 : Int32))), (3, .int x4), (5, .int (r_2 - r_3)), (0, .ref (a_M 0)), (1, .int x1)]) hx hb dX5_hang_78 hl (k := 4) rfl (by rfl) (by decide) rfl (fun ls hl => ?_)
            refine lv_goto (tgt := 23) hx hb dX5_hang_81 (by decide) ?_
            exact ih x4 (x4 + (1 : Int32)) _ _ _ h hP hS (lv_sub hl [3, 4, 1, 0] rfl)
def wpX5_hang (post : Int32 → (Nat → Int32) → Prop) (M_refused : Nat → Int32) (M_setting : Nat → Int32) (M_hole : Nat → Int32) (M_weight : Nat → Int32) (p1 : Int32) : Prop := wpX5_bound (fun (r_1 : Int32) => ((r_1 = (0 : Int32) → (∃ n_6 : Nat, lpX5_hang_23 (fun (x3_7 : Int32) (x4_8 : Int32) => post x3_7 M_refused) p1 M_setting M_hole M_weight n_6 (0 : Int32) (1 : Int32))) ∧ (¬ (r_1 = (0 : Int32)) → (wpX5_no (fun (r_9 : Int32) (M_refused_10 : Nat → Int32) => post r_9 M_refused_10) M_refused r_1)))) p1 (1 : Int32) (40 : Int32)
set_option maxHeartbeats 4000000 in
set_option maxRecDepth 100000 in
theorem mX5_hang (l : Launch) (D : va_G) (cI cJ cC : ClassId) (G : Nat → Nat → Nat) (a_M : Nat → Nat) (sz : Nat) (M_pipes : Int32) (M_used : Int32) (M_taped : Int32) (M_at : Int32) (M_statements : Int32) (M_hasImage : Int32) (M_isKeeping : Int32) (M_cursor : Int32) (M_nextAt : Int32) (M_nextMost : Int64) (M_rowMany : Int32) (M_refused : Nat → Int32) (M_setting : Nat → Int32) (M_hole : Nat → Int32) (M_pipeAt : Nat → Int32) (M_chance : Nat → Int32) (M_weight : Nat → Int32) (M_tape : Nat → Int32) (M_letter : Nat → Int32) (M_letterAt : Nat → Int32) (M_told : Nat → Int32) (M_kept : Nat → Int32) (M_then : Nat → Int64) (M_row : Nat → Int32) (p1 : Int32) (post : Int32 → (Nat → Int32) → Prop) (h : wpX5_hang post M_refused M_setting M_hole M_weight p1) : Met l yX5_hang (wz yX5_hang cX5_hang 6 (some .int)) ({ frames := 6, cells := 0, slots := 0, locals := 137 }) (va_Pc [.ref (a_M 0), .int p1] (PW D (tz cI cJ cC) G ((bX5 cI cJ cC a_M M_pipes M_used M_taped M_at M_statements M_hasImage M_isKeeping M_cursor M_nextAt M_nextMost M_rowMany M_refused M_setting M_hole M_pipeAt M_chance M_weight M_tape M_letter M_letterAt M_told M_kept M_then M_row)) sz)) (va_Qi (fun (r : Int32) (u : (Nat → Int32)) => post r u) (fun (u : (Nat → Int32)) t => va_P D vwCl ((bX5 cI cJ cC a_M M_pipes M_used M_taped M_at M_statements M_hasImage M_isKeeping M_cursor M_nextAt M_nextMost M_rowMany u M_setting M_hole M_pipeAt M_chance M_weight M_tape M_letter M_letterAt M_told M_kept M_then M_row)) t.heap) (va_A ((bX5 cI cJ cC a_M M_pipes M_used M_taped M_at M_statements M_hasImage M_isKeeping M_cursor M_nextAt M_nextMost M_rowMany M_refused M_setting M_hole M_pipeAt M_chance M_weight M_tape M_letter M_letterAt M_told M_kept M_then M_row)) sz)) 0 0 (va_A ((bX5 cI cJ cC a_M M_pipes M_used M_taped M_at M_statements M_hasImage M_isKeeping M_cursor M_nextAt M_nextMost M_rowMany M_refused M_setting M_hole M_pipeAt M_chance M_weight M_tape M_letter M_letterAt M_told M_kept M_then M_row)) sz) := by
  refine zmi (gw := fun (u : (Nat → Int32)) => (bX5 cI cJ cC a_M M_pipes M_used M_taped M_at M_statements M_hasImage M_isKeeping M_cursor M_nextAt M_nextMost M_rowMany u M_setting M_hole M_pipeAt M_chance M_weight M_tape M_letter M_letterAt M_told M_kept M_then M_row)) (plainFor_of_name (by decide)) (Nat.le_of_ble_eq_true rfl) ?_
  intro p e s m below meth c A Q ls S hK hD hA hE hP hl hret
  obtain ⟨hx, hb, hml, hown, ht⟩ := id S
  have hS : va_S A s.heap s.heap [] := va_S.rf
  have hDD : ∀ ws : va_W, ws.map (fun q => q.1) = [a_M 0, a_M 1, a_M 2, a_M 3, a_M 4, a_M 5, a_M 6, a_M 7, a_M 8, a_M 9, a_M 10, a_M 11, a_M 12, a_M 13] → va_D A ws := fun ws hw => zD hD (hw.trans rfl)
  have hl : lv_has ls 6 [(0, .ref (a_M 0)), (1, .int p1)] := hl
  unfold wpX5_hang at h
  refine lv_iload_n hx hb dX5_hang_0 rfl (lv_at hl 1 rfl) ?_
  refine lv_iconst (v := (1 : Int32)) hx hb dX5_hang_1 (by decide) ?_
  refine lv_bipush (v := (40 : Int32)) hx hb dX5_hang_2 (by decide) ?_
  refine zci hA zD0 hS (zrunS (As := [.int p1, .int (1 : Int32), .int (40 : Int32)]) (rest := []) S hK hA hE zP0 zD0 hS (mX5_bound l D cI cJ cC G _ p1 (1 : Int32) (40 : Int32) _ h) kX5_bound ml_X5_59 ⟨rfl, rfl, by decide, by decide⟩ rfl hl.1 rfl (Nat.le_of_ble_eq_true rfl) dX5_hang_4 ⟨Nat.zero_le _, Nat.zero_le _⟩) (fun r_1 u H locs h hP1 hk1 hS => ?_)
  try dsimp only at h
  have hP : va_P D vwCl ((bX5 cI cJ cC a_M M_pipes M_used M_taped M_at M_statements M_hasImage M_isKeeping M_cursor M_nextAt M_nextMost M_rowMany M_refused M_setting M_hole M_pipeAt M_chance M_weight M_tape M_letter M_letterAt M_told M_kept M_then M_row)) H := zKeep hP hk1
  refine lv_istore_n (lv' := [(2, .int r_1), (0, .ref (a_M 0)), (1, .int p1)]) hx hb dX5_hang_7 rfl hl (by decide) rfl (fun ls hl => ?_)
  refine lv_iload_n hx hb dX5_hang_8 rfl (lv_at hl 0 rfl) ?_
  refine lv_if_eq (tgt := 18) hx hb dX5_hang_9 (by decide) (fun z => ?_) (fun z => ?_)
  · replace h := h.1 z
    refine lv_iconst (v := (0 : Int32)) hx hb dX5_hang_18 (by decide) ?_
    refine lv_istore_n (lv' := [(3, .int (0 : Int32)), (2, .int r_1), (0, .ref (a_M 0)), (1, .int p1)]) hx hb dX5_hang_19 rfl hl (by decide) rfl (fun ls hl => ?_)
    refine lv_iconst (v := (1 : Int32)) hx hb dX5_hang_20 (by decide) ?_
    refine lv_istore (lv' := [(4, .int (1 : Int32)), (3, .int (0 : Int32)), (2, .int r_1), (0, .ref (a_M 0)), (1, .int p1)]) hx hb dX5_hang_21 hl (by decide) rfl (fun ls hl => ?_)
    obtain ⟨n_6, h⟩ := h
    refine wX5_hang_23 l D cI cJ cC G a_M p1 p1 M_pipes M_used M_taped M_at M_statements M_hasImage M_isKeeping M_cursor M_nextAt M_nextMost M_rowMany M_refused M_setting M_hole M_pipeAt M_chance M_weight M_tape M_letter M_letterAt M_told M_kept M_then M_row _ S hK hDD hA hE (fun x3_7 x4_8 H locs ls h hP hS hl => ?_) n_6 (0 : Int32) (1 : Int32) _ _ _ h hP hS (lv_sub hl [3, 4, 1, 0] rfl)
    try dsimp only at h
    refine lv_iload_n hx hb dX5_hang_84 rfl (lv_at hl 0 rfl) ?_
    exact hret x3_7 M_refused _ _ _ _ rfl h hP hS dX5_hang_85
  · replace h := h.2 z
    refine lv_aload_n hx hb dX5_hang_12 rfl (lv_at hl 1 rfl) ?_
    refine lv_iload_n hx hb dX5_hang_13 rfl (lv_at hl 0 rfl) ?_
    refine zci hA (hDD _ rfl) hS (zrunV (As := [.int r_1]) (rest := []) S hK hA hE hP (hDD _ rfl) hS (mX5_no l D cI cJ cC G a_M _ M_pipes M_used M_taped M_at M_statements M_hasImage M_isKeeping M_cursor M_nextAt M_nextMost M_rowMany M_refused M_setting M_hole M_pipeAt M_chance M_weight M_tape M_letter M_letterAt M_told M_kept M_then M_row r_1 _ h) kX5_no ml_X5_66 ⟨rfl, rfl, by decide, by decide⟩ (q0 := 0) (ci := 5) rfl rfl rfl rfl hl.1 rfl (Nat.le_of_ble_eq_true rfl) dX5_hang_14 ⟨Nat.zero_le _, Nat.zero_le _⟩) (fun r_9 M_refused_10 H locs h hP1 hk1 hS => ?_)
    try dsimp only at h
    have hP : va_P D vwCl ((bX5 cI cJ cC a_M M_pipes M_used M_taped M_at M_statements M_hasImage M_isKeeping M_cursor M_nextAt M_nextMost M_rowMany M_refused_10 M_setting M_hole M_pipeAt M_chance M_weight M_tape M_letter M_letterAt M_told M_kept M_then M_row)) H := hP1
    exact hret r_9 M_refused_10 _ _ _ _ rfl h hP hS dX5_hang_17
def lpX5_middle_41 (K : Int32 → Int32 → Int32 → Prop) (x1 : Int32) (x2 : Int32) (M_hole : Nat → Int32) : Nat → Int32 → Int32 → Int32 → Prop
  | 0, _, _, _ => False
  | n + 1, x4, x5, x6 => (((48 : Int32) < (x6 + x1) → (K x4 x5 x6)) ∧ (¬ ((48 : Int32) < (x6 + x1)) → ((((0 : Int32) ≤ ((((2 : Int32) * x6) + x1) - ((2 : Int32) * x2)) → (wpX5_covered (fun (r_3 : Int32) => wpX5_holesMany (fun (r_4 : Int32) => ((r_3 < r_4 → (lpX5_middle_41 K x1 x2 M_hole n x4 x5 (x6 + (1 : Int32)))) ∧ (¬ (r_3 < r_4) → (((((((2 : Int32) * x6) + x1) - ((2 : Int32) * x2)) < x5 → (lpX5_middle_41 K x1 x2 M_hole n x6 ((((2 : Int32) * x6) + x1) - ((2 : Int32) * x2)) (x6 + (1 : Int32)))) ∧ (¬ (((((2 : Int32) * x6) + x1) - ((2 : Int32) * x2)) < x5) → (lpX5_middle_41 K x1 x2 M_hole n x4 x5 (x6 + (1 : Int32))))))))) M_hole) M_hole x6 x1)) ∧ (¬ ((0 : Int32) ≤ ((((2 : Int32) * x6) + x1) - ((2 : Int32) * x2))) → (wpX5_covered (fun (r_5 : Int32) => wpX5_holesMany (fun (r_6 : Int32) => ((r_5 < r_6 → (lpX5_middle_41 K x1 x2 M_hole n x4 x5 (x6 + (1 : Int32)))) ∧ (¬ (r_5 < r_6) → ((((-((((2 : Int32) * x6) + x1) - ((2 : Int32) * x2))) < x5 → (lpX5_middle_41 K x1 x2 M_hole n x6 (-((((2 : Int32) * x6) + x1) - ((2 : Int32) * x2))) (x6 + (1 : Int32)))) ∧ (¬ ((-((((2 : Int32) * x6) + x1) - ((2 : Int32) * x2))) < x5) → (lpX5_middle_41 K x1 x2 M_hole n x4 x5 (x6 + (1 : Int32))))))))) M_hole) M_hole x6 x1))))))
set_option maxHeartbeats 4000000 in
set_option maxRecDepth 100000 in
theorem wX5_middle_41 (l : Launch) (D : va_G) (cI cJ cC : ClassId) (G : Nat → Nat → Nat) (a_M : Nat → Nat) {p : Program} {e : Env} {s : State} {m : MethodId} {below : List Frame} {meth : Method} {c : Code} {A : Nat → Prop} {Q : State → Prop} (p1 : Int32) (p2 : Int32) (x1 : Int32) (x2 : Int32) (M_pipes : Int32) (M_used : Int32) (M_taped : Int32) (M_at : Int32) (M_statements : Int32) (M_hasImage : Int32) (M_isKeeping : Int32) (M_cursor : Int32) (M_nextAt : Int32) (M_nextMost : Int64) (M_rowMany : Int32) (M_refused : Nat → Int32) (M_setting : Nat → Int32) (M_hole : Nat → Int32) (M_pipeAt : Nat → Int32) (M_chance : Nat → Int32) (M_weight : Nat → Int32) (M_tape : Nat → Int32) (M_letter : Nat → Int32) (M_letterAt : Nat → Int32) (M_told : Nat → Int32) (M_kept : Nat → Int32) (M_then : Nat → Int64) (M_row : Nat → Int32) (K : Int32 → Int32 → Int32 → Prop) (S : CallFix p m c cX5_middle 8 s ([.ref (a_M 0), .int p1, .int p2] : List Value).toArray bg RX5) (hK : va_K D vwCl (tz cI cJ cC) s) (hDD : ∀ ws : va_W, ws.map (fun q => q.1) = [a_M 0, a_M 1, a_M 2, a_M 3, a_M 4, a_M 5, a_M 6, a_M 7, a_M 8, a_M 9, a_M 10, a_M 11, a_M 12, a_M 13] → va_D A ws) (hA : ∀ q, s.heap.size ≤ q → A q) (hE : EV G A s) (hKK : ∀ (x4 : Int32) (x5 : Int32) (x6 : Int32) (H : Heap) (locs : List Loc) (ls : Array Slot), K x4 x5 x6 → va_P D vwCl ((bX5 cI cJ cC a_M M_pipes M_used M_taped M_at M_statements M_hasImage M_isKeeping M_cursor M_nextAt M_nextMost M_rowMany M_refused M_setting M_hole M_pipeAt M_chance M_weight M_tape M_letter M_letterAt M_told M_kept M_then M_row)) H → va_S A s.heap H locs → lv_has ls 8 [(4, .int x4)] → W p l e ({ frames := 1, cells := 0, slots := 0, locals := 24 }) s m ([.ref (a_M 0), .int p1, .int p2] : List Value).toArray below meth c H locs 0 0 Q (F0 m 115 ls [])) :
    ∀ (n : Nat) (x4 : Int32) (x5 : Int32) (x6 : Int32) (H : Heap) (locs : List Loc) (ls : Array Slot), lpX5_middle_41 K x1 x2 M_hole n x4 x5 x6 → va_P D vwCl ((bX5 cI cJ cC a_M M_pipes M_used M_taped M_at M_statements M_hasImage M_isKeeping M_cursor M_nextAt M_nextMost M_rowMany M_refused M_setting M_hole M_pipeAt M_chance M_weight M_tape M_letter M_letterAt M_told M_kept M_then M_row)) H → va_S A s.heap H locs → lv_has ls 8 [(0, .ref (a_M 0)), (1, .int x1), (2, .int x2), (4, .int x4), (5, .int x5), (6, .int x6)] → W p l e ({ frames := 1, cells := 0, slots := 0, locals := 24 }) s m ([.ref (a_M 0), .int p1, .int p2] : List Value).toArray below meth c H locs 0 0 Q (F0 m 41 ls []) := by
  obtain ⟨hx, hb, hml, hown, ht⟩ := id S
  intro n
  induction n with
  | zero =>
    intro x4 x5 x6 H locs ls h
    exact absurd h (by simp [lpX5_middle_41])
  | succ n ih =>
    intro x4 x5 x6 H locs ls h hP hS hl
    rw [lpX5_middle_41] at h
    refine lv_iload hx hb dX5_middle_41 (lv_at hl 5 rfl) ?_
    refine lv_iload_n hx hb dX5_middle_43 rfl (lv_at hl 1 rfl) ?_
    refine lv_iadd hx hb dX5_middle_44 ?_
    refine lv_bipush (v := (48 : Int32)) hx hb dX5_middle_45 (by decide) ?_
    refine lv_icmp_gt (tgt := 115) hx hb dX5_middle_47 (by decide) (fun z => ?_) (fun z => ?_)
    · replace h := h.1 z
      exact hKK x4 x5 x6 _ _ _ h hP hS (lv_sub hl [3] rfl)
    · replace h := h.2 z
      refine lv_iconst (v := (2 : Int32)) hx hb dX5_middle_50 (by decide) ?_
      refine lv_iload hx hb dX5_middle_51 (lv_at hl 5 rfl) ?_
      refine lv_imul hx hb dX5_middle_53 ?_
      refine lv_iload_n hx hb dX5_middle_54 rfl (lv_at hl 1 rfl) ?_
      refine lv_iadd hx hb dX5_middle_55 ?_
      refine lv_iconst (v := (2 : Int32)) hx hb dX5_middle_56 (by decide) ?_
      refine lv_iload_n hx hb dX5_middle_57 rfl (lv_at hl 2 rfl) ?_
      refine lv_imul hx hb dX5_middle_58 ?_
      refine lv_isub hx hb dX5_middle_59 ?_
      refine lv_istore (lv' := [(7, .int ((((2 : Int32) * x6) + x1) - ((2 : Int32) * x2))), (0, .ref (a_M 0)), (1, .int x1), (2, .int x2), (4, .int x4), (5, .int x5), (6, .int x6)]) hx hb dX5_middle_60 hl (by decide) rfl (fun ls hl => ?_)
      refine lv_iload hx hb dX5_middle_62 (lv_at hl 0 rfl) ?_
      refine lv_if_ge (tgt := 73) hx hb dX5_middle_64 (by decide) (fun z => ?_) (fun z => ?_)
      · replace h := h.1 z
        refine lv_iload hx hb dX5_middle_73 (lv_at hl 0 rfl) ?_
        refine lv_istore (lv' := [(7, .int ((((2 : Int32) * x6) + x1) - ((2 : Int32) * x2))), (0, .ref (a_M 0)), (1, .int x1), (2, .int x2), (4, .int x4), (5, .int x5), (6, .int x6)]) hx hb dX5_middle_75 hl (by decide) rfl (fun ls hl => ?_)
        refine lv_aload_n hx hb dX5_middle_77 rfl (lv_at hl 1 rfl) ?_
        refine lv_iload hx hb dX5_middle_78 (lv_at hl 6 rfl) ?_
        refine lv_iload_n hx hb dX5_middle_80 rfl (lv_at hl 2 rfl) ?_
        refine zci hA (hDD _ rfl) hS (zrunV (As := [.int x6, .int x1]) (rest := []) S hK hA hE hP (hDD _ rfl) hS (mX5_covered l D cI cJ cC G a_M _ M_pipes M_used M_taped M_at M_statements M_hasImage M_isKeeping M_cursor M_nextAt M_nextMost M_rowMany M_refused M_setting M_hole M_pipeAt M_chance M_weight M_tape M_letter M_letterAt M_told M_kept M_then M_row x6 x1 _ h) kX5_covered ml_X5_262 ⟨rfl, rfl, by decide, by decide⟩ (q0 := 0) (ci := 5) rfl rfl rfl rfl hl.1 rfl (Nat.le_of_ble_eq_true rfl) dX5_middle_81 ⟨Nat.zero_le _, Nat.zero_le _⟩) (fun r_3 u H locs h hP1 hk1 hS => ?_)
        try dsimp only at h
        have hP : va_P D vwCl ((bX5 cI cJ cC a_M M_pipes M_used M_taped M_at M_statements M_hasImage M_isKeeping M_cursor M_nextAt M_nextMost M_rowMany M_refused M_setting M_hole M_pipeAt M_chance M_weight M_tape M_letter M_letterAt M_told M_kept M_then M_row)) H := hP1
        refine lv_aload_n hx hb dX5_middle_84 rfl (lv_at hl 1 rfl) ?_
        refine zci hA (hDD _ rfl) hS (zrunV (As := []) (rest := [.int r_3]) S hK hA hE hP (hDD _ rfl) hS (mX5_holesMany l D cI cJ cC G a_M _ M_pipes M_used M_taped M_at M_statements M_hasImage M_isKeeping M_cursor M_nextAt M_nextMost M_rowMany M_refused M_setting M_hole M_pipeAt M_chance M_weight M_tape M_letter M_letterAt M_told M_kept M_then M_row _ h) kX5_holesMany ml_X5_210 ⟨rfl, rfl, by decide, by decide⟩ (q0 := 0) (ci := 5) rfl rfl rfl rfl hl.1 rfl (Nat.le_of_ble_eq_true rfl) dX5_middle_85 ⟨Nat.zero_le _, Nat.zero_le _⟩) (fun r_4 u H locs h hP1 hk1 hS => ?_)
        try dsimp only at h
        have hP : va_P D vwCl ((bX5 cI cJ cC a_M M_pipes M_used M_taped M_at M_statements M_hasImage M_isKeeping M_cursor M_nextAt M_nextMost M_rowMany M_refused M_setting M_hole M_pipeAt M_chance M_weight M_tape M_letter M_letterAt M_told M_kept M_then M_row)) H := hP1
        refine lv_icmp_lt (tgt := 109) hx hb dX5_middle_88 (by decide) (fun z => ?_) (fun z => ?_)
        · replace h := h.1 z
          refine lv_iinc (v := x6 + (1 : Int32)) (lv' := [(6, .int (x6 + (1 : Int32))), (7, .int ((((2 : Int32) * x6) + x1) - ((2 : Int32) * x2))), (0, .ref (a_M 0)), (1, .int x1), (2, .int x2), (4, .int x4), (5, .int x5)]) hx hb dX5_middle_109 hl (k := 6) rfl (by rfl) (by decide) rfl (fun ls hl => ?_)
          refine lv_goto (tgt := 41) hx hb dX5_middle_112 (by decide) ?_
          exact ih x4 x5 (x6 + (1 : Int32)) _ _ _ h hP hS (lv_sub hl [2, 3, 4, 5, 6, 0] rfl)
        · replace h := h.2 z
          refine lv_iload hx hb dX5_middle_91 (lv_at hl 0 rfl) ?_
          refine lv_iload hx hb dX5_middle_93 (lv_at hl 5 rfl) ?_
          refine lv_icmp_lt (tgt := 101) hx hb dX5_middle_95 (by decide) (fun z => ?_) (fun z => ?_)
          · replace h := h.1 z
            refine lv_iload hx hb dX5_middle_101 (lv_at hl 6 rfl) ?_
            refine lv_istore (lv' := [(4, .int x6), (7, .int ((((2 : Int32) * x6) + x1) - ((2 : Int32) * x2))), (0, .ref (a_M 0)), (1, .int x1), (2, .int x2), (5, .int x5), (6, .int x6)]) hx hb dX5_middle_103 hl (by decide) rfl (fun ls hl => ?_)
            refine lv_iload hx hb dX5_middle_105 (lv_at hl 1 rfl) ?_
            refine lv_istore (lv' := [(5, .int ((((2 : Int32) * x6) + x1) - ((2 : Int32) * x2))), (4, .int x6), (7, .int ((((2 : Int32) * x6) + x1) - ((2 : Int32) * x2))), (0, .ref (a_M 0)), (1, .int x1), (2, .int x2), (6, .int x6)]) hx hb dX5_middle_107 hl (by decide) rfl (fun ls hl => ?_)
            refine lv_iinc (v := x6 + (1 : Int32)) (lv' := [(6, .int (x6 + (1 : Int32))), (5, .int ((((2 : Int32) * x6) + x1) - ((2 : Int32) * x2))), (4, .int x6), (7, .int ((((2 : Int32) * x6) + x1) - ((2 : Int32) * x2))), (0, .ref (a_M 0)), (1, .int x1), (2, .int x2)]) hx hb dX5_middle_109 hl (k := 6) rfl (by rfl) (by decide) rfl (fun ls hl => ?_)
            refine lv_goto (tgt := 41) hx hb dX5_middle_112 (by decide) ?_
            exact ih x6 ((((2 : Int32) * x6) + x1) - ((2 : Int32) * x2)) (x6 + (1 : Int32)) _ _ _ h hP hS (lv_sub hl [4, 5, 6, 2, 1, 0] rfl)
          · replace h := h.2 z
            refine lv_goto (tgt := 109) hx hb dX5_middle_98 (by decide) ?_
            refine lv_iinc (v := x6 + (1 : Int32)) (lv' := [(6, .int (x6 + (1 : Int32))), (7, .int ((((2 : Int32) * x6) + x1) - ((2 : Int32) * x2))), (0, .ref (a_M 0)), (1, .int x1), (2, .int x2), (4, .int x4), (5, .int x5)]) hx hb dX5_middle_109 hl (k := 6) rfl (by rfl) (by decide) rfl (fun ls hl => ?_)
            refine lv_goto (tgt := 41) hx hb dX5_middle_112 (by decide) ?_
            exact ih x4 x5 (x6 + (1 : Int32)) _ _ _ h hP hS (lv_sub hl [2, 3, 4, 5, 6, 0] rfl)
      · replace h := h.2 z
        refine lv_iload hx hb dX5_middle_67 (lv_at hl 0 rfl) ?_
        refine lv_ineg hx hb dX5_middle_69 ?_
        refine lv_goto (tgt := 75) hx hb dX5_middle_70 (by decide) ?_
        refine lv_istore (lv' := [(7, .int (-((((2 : Int32) * x6) + x1) - ((2 : Int32) * x2)))), (0, .ref (a_M 0)), (1, .int x1), (2, .int x2), (4, .int x4), (5, .int x5), (6, .int x6)]) hx hb dX5_middle_75 hl (by decide) rfl (fun ls hl => ?_)
        refine lv_aload_n hx hb dX5_middle_77 rfl (lv_at hl 1 rfl) ?_
        refine lv_iload hx hb dX5_middle_78 (lv_at hl 6 rfl) ?_
        refine lv_iload_n hx hb dX5_middle_80 rfl (lv_at hl 2 rfl) ?_
        refine zci hA (hDD _ rfl) hS (zrunV (As := [.int x6, .int x1]) (rest := []) S hK hA hE hP (hDD _ rfl) hS (mX5_covered l D cI cJ cC G a_M _ M_pipes M_used M_taped M_at M_statements M_hasImage M_isKeeping M_cursor M_nextAt M_nextMost M_rowMany M_refused M_setting M_hole M_pipeAt M_chance M_weight M_tape M_letter M_letterAt M_told M_kept M_then M_row x6 x1 _ h) kX5_covered ml_X5_262 ⟨rfl, rfl, by decide, by decide⟩ (q0 := 0) (ci := 5) rfl rfl rfl rfl hl.1 rfl (Nat.le_of_ble_eq_true rfl) dX5_middle_81 ⟨Nat.zero_le _, Nat.zero_le _⟩) (fun r_5 u H locs h hP1 hk1 hS => ?_)
        try dsimp only at h
        have hP : va_P D vwCl ((bX5 cI cJ cC a_M M_pipes M_used M_taped M_at M_statements M_hasImage M_isKeeping M_cursor M_nextAt M_nextMost M_rowMany M_refused M_setting M_hole M_pipeAt M_chance M_weight M_tape M_letter M_letterAt M_told M_kept M_then M_row)) H := hP1
        refine lv_aload_n hx hb dX5_middle_84 rfl (lv_at hl 1 rfl) ?_
        refine zci hA (hDD _ rfl) hS (zrunV (As := []) (rest := [.int r_5]) S hK hA hE hP (hDD _ rfl) hS (mX5_holesMany l D cI cJ cC G a_M _ M_pipes M_used M_taped M_at M_statements M_hasImage M_isKeeping M_cursor M_nextAt M_nextMost M_rowMany M_refused M_setting M_hole M_pipeAt M_chance M_weight M_tape M_letter M_letterAt M_told M_kept M_then M_row _ h) kX5_holesMany ml_X5_210 ⟨rfl, rfl, by decide, by decide⟩ (q0 := 0) (ci := 5) rfl rfl rfl rfl hl.1 rfl (Nat.le_of_ble_eq_true rfl) dX5_middle_85 ⟨Nat.zero_le _, Nat.zero_le _⟩) (fun r_6 u H locs h hP1 hk1 hS => ?_)
        try dsimp only at h
        have hP : va_P D vwCl ((bX5 cI cJ cC a_M M_pipes M_used M_taped M_at M_statements M_hasImage M_isKeeping M_cursor M_nextAt M_nextMost M_rowMany M_refused M_setting M_hole M_pipeAt M_chance M_weight M_tape M_letter M_letterAt M_told M_kept M_then M_row)) H := hP1
        refine lv_icmp_lt (tgt := 109) hx hb dX5_middle_88 (by decide) (fun z => ?_) (fun z => ?_)
        · replace h := h.1 z
          refine lv_iinc (v := x6 + (1 : Int32)) (lv' := [(6, .int (x6 + (1 : Int32))), (7, .int (-((((2 : Int32) * x6) + x1) - ((2 : Int32) * x2)))), (0, .ref (a_M 0)), (1, .int x1), (2, .int x2), (4, .int x4), (5, .int x5)]) hx hb dX5_middle_109 hl (k := 6) rfl (by rfl) (by decide) rfl (fun ls hl => ?_)
          refine lv_goto (tgt := 41) hx hb dX5_middle_112 (by decide) ?_
          exact ih x4 x5 (x6 + (1 : Int32)) _ _ _ h hP hS (lv_sub hl [2, 3, 4, 5, 6, 0] rfl)
        · replace h := h.2 z
          refine lv_iload hx hb dX5_middle_91 (lv_at hl 0 rfl) ?_
          refine lv_iload hx hb dX5_middle_93 (lv_at hl 5 rfl) ?_
          refine lv_icmp_lt (tgt := 101) hx hb dX5_middle_95 (by decide) (fun z => ?_) (fun z => ?_)
          · replace h := h.1 z
            refine lv_iload hx hb dX5_middle_101 (lv_at hl 6 rfl) ?_
            refine lv_istore (lv' := [(4, .int x6), (7, .int (-((((2 : Int32) * x6) + x1) - ((2 : Int32) * x2)))), (0, .ref (a_M 0)), (1, .int x1), (2, .int x2), (5, .int x5), (6, .int x6)]) hx hb dX5_middle_103 hl (by decide) rfl (fun ls hl => ?_)
            refine lv_iload hx hb dX5_middle_105 (lv_at hl 1 rfl) ?_
            refine lv_istore (lv' := [(5, .int (-((((2 : Int32) * x6) + x1) - ((2 : Int32) * x2)))), (4, .int x6), (7, .int (-((((2 : Int32) * x6) + x1) - ((2 : Int32) * x2)))), (0, .ref (a_M 0)), (1, .int x1), (2, .int x2), (6, .int x6)]) hx hb dX5_middle_107 hl (by decide) rfl (fun ls hl => ?_)
            refine lv_iinc (v := x6 + (1 : Int32)) (lv' := [(6, .int (x6 + (1 : Int32))), (5, .int (-((((2 : Int32) * x6) + x1) - ((2 : Int32) * x2)))), (4, .int x6), (7, .int (-((((2 : Int32) * x6) + x1) - ((2 : Int32) * x2)))), (0, .ref (a_M 0)), (1, .int x1), (2, .int x2)]) hx hb dX5_middle_109 hl (k := 6) rfl (by rfl) (by decide) rfl (fun ls hl => ?_)
            refine lv_goto (tgt := 41) hx hb dX5_middle_112 (by decide) ?_
            exact ih x6 (-((((2 : Int32) * x6) + x1) - ((2 : Int32) * x2))) (x6 + (1 : Int32)) _ _ _ h hP hS (lv_sub hl [4, 5, 6, 2, 1, 0] rfl)
          · replace h := h.2 z
            refine lv_goto (tgt := 109) hx hb dX5_middle_98 (by decide) ?_
            refine lv_iinc (v := x6 + (1 : Int32)) (lv' := [(6, .int (x6 + (1 : Int32))), (7, .int (-((((2 : Int32) * x6) + x1) - ((2 : Int32) * x2)))), (0, .ref (a_M 0)), (1, .int x1), (2, .int x2), (4, .int x4), (5, .int x5)]) hx hb dX5_middle_109 hl (k := 6) rfl (by rfl) (by decide) rfl (fun ls hl => ?_)
            refine lv_goto (tgt := 41) hx hb dX5_middle_112 (by decide) ?_
            exact ih x4 x5 (x6 + (1 : Int32)) _ _ _ h hP hS (lv_sub hl [2, 3, 4, 5, 6, 0] rfl)
def wpX5_middle (post : Int32 → (Nat → Int32) → Prop) (M_refused : Nat → Int32) (M_hole : Nat → Int32) (p1 : Int32) (p2 : Int32) : Prop := wpX5_isInch (fun (r_1 : Int32) => ((r_1 = (0 : Int32) → (wpX5_no (fun (r_13 : Int32) (M_refused_14 : Nat → Int32) => post r_13 M_refused_14) M_refused (-1 : Int32))) ∧ (¬ (r_1 = (0 : Int32)) → (wpX5_bound (fun (r_2 : Int32) => ((r_2 = (0 : Int32) → (∃ n_7 : Nat, lpX5_middle_41 (fun (x4_8 : Int32) (x5_9 : Int32) (x6_10 : Int32) => post x4_8 M_refused) p1 p2 M_hole n_7 (-9 : Int32) (999 : Int32) (0 : Int32))) ∧ (¬ (r_2 = (0 : Int32)) → (wpX5_no (fun (r_11 : Int32) (M_refused_12 : Nat → Int32) => post r_11 M_refused_12) M_refused r_2)))) p1 (1 : Int32) (40 : Int32))))) p2
set_option maxHeartbeats 4000000 in
set_option maxRecDepth 100000 in
theorem mX5_middle (l : Launch) (D : va_G) (cI cJ cC : ClassId) (G : Nat → Nat → Nat) (a_M : Nat → Nat) (sz : Nat) (M_pipes : Int32) (M_used : Int32) (M_taped : Int32) (M_at : Int32) (M_statements : Int32) (M_hasImage : Int32) (M_isKeeping : Int32) (M_cursor : Int32) (M_nextAt : Int32) (M_nextMost : Int64) (M_rowMany : Int32) (M_refused : Nat → Int32) (M_setting : Nat → Int32) (M_hole : Nat → Int32) (M_pipeAt : Nat → Int32) (M_chance : Nat → Int32) (M_weight : Nat → Int32) (M_tape : Nat → Int32) (M_letter : Nat → Int32) (M_letterAt : Nat → Int32) (M_told : Nat → Int32) (M_kept : Nat → Int32) (M_then : Nat → Int64) (M_row : Nat → Int32) (p1 : Int32) (p2 : Int32) (post : Int32 → (Nat → Int32) → Prop) (h : wpX5_middle post M_refused M_hole p1 p2) : Met l yX5_middle (wz yX5_middle cX5_middle 8 (some .int)) ({ frames := 1, cells := 0, slots := 0, locals := 24 }) (va_Pc [.ref (a_M 0), .int p1, .int p2] (PW D (tz cI cJ cC) G ((bX5 cI cJ cC a_M M_pipes M_used M_taped M_at M_statements M_hasImage M_isKeeping M_cursor M_nextAt M_nextMost M_rowMany M_refused M_setting M_hole M_pipeAt M_chance M_weight M_tape M_letter M_letterAt M_told M_kept M_then M_row)) sz)) (va_Qi (fun (r : Int32) (u : (Nat → Int32)) => post r u) (fun (u : (Nat → Int32)) t => va_P D vwCl ((bX5 cI cJ cC a_M M_pipes M_used M_taped M_at M_statements M_hasImage M_isKeeping M_cursor M_nextAt M_nextMost M_rowMany u M_setting M_hole M_pipeAt M_chance M_weight M_tape M_letter M_letterAt M_told M_kept M_then M_row)) t.heap) (va_A ((bX5 cI cJ cC a_M M_pipes M_used M_taped M_at M_statements M_hasImage M_isKeeping M_cursor M_nextAt M_nextMost M_rowMany M_refused M_setting M_hole M_pipeAt M_chance M_weight M_tape M_letter M_letterAt M_told M_kept M_then M_row)) sz)) 0 0 (va_A ((bX5 cI cJ cC a_M M_pipes M_used M_taped M_at M_statements M_hasImage M_isKeeping M_cursor M_nextAt M_nextMost M_rowMany M_refused M_setting M_hole M_pipeAt M_chance M_weight M_tape M_letter M_letterAt M_told M_kept M_then M_row)) sz) := by
  refine zmi (gw := fun (u : (Nat → Int32)) => (bX5 cI cJ cC a_M M_pipes M_used M_taped M_at M_statements M_hasImage M_isKeeping M_cursor M_nextAt M_nextMost M_rowMany u M_setting M_hole M_pipeAt M_chance M_weight M_tape M_letter M_letterAt M_told M_kept M_then M_row)) (plainFor_of_name (by decide)) (Nat.le_of_ble_eq_true rfl) ?_
  intro p e s m below meth c A Q ls S hK hD hA hE hP hl hret
  obtain ⟨hx, hb, hml, hown, ht⟩ := id S
  have hS : va_S A s.heap s.heap [] := va_S.rf
  have hDD : ∀ ws : va_W, ws.map (fun q => q.1) = [a_M 0, a_M 1, a_M 2, a_M 3, a_M 4, a_M 5, a_M 6, a_M 7, a_M 8, a_M 9, a_M 10, a_M 11, a_M 12, a_M 13] → va_D A ws := fun ws hw => zD hD (hw.trans rfl)
  have hl : lv_has ls 8 [(0, .ref (a_M 0)), (1, .int p1), (2, .int p2)] := hl
  unfold wpX5_middle at h
  refine lv_iload_n hx hb dX5_middle_0 rfl (lv_at hl 2 rfl) ?_
  refine zci hA zD0 hS (zrunS (As := [.int p2]) (rest := []) S hK hA hE zP0 zD0 hS (mX5_isInch l D cI cJ cC G _ p2 _ h) kX5_isInch ml_X5_113 ⟨rfl, rfl, by decide, by decide⟩ rfl hl.1 rfl (Nat.le_of_ble_eq_true rfl) dX5_middle_1 ⟨Nat.zero_le _, Nat.zero_le _⟩) (fun r_1 u H locs h hP1 hk1 hS => ?_)
  try dsimp only at h
  have hP : va_P D vwCl ((bX5 cI cJ cC a_M M_pipes M_used M_taped M_at M_statements M_hasImage M_isKeeping M_cursor M_nextAt M_nextMost M_rowMany M_refused M_setting M_hole M_pipeAt M_chance M_weight M_tape M_letter M_letterAt M_told M_kept M_then M_row)) H := zKeep hP hk1
  refine lv_if_ne (tgt := 11) hx hb dX5_middle_4 (by decide) (fun z => ?_) (fun z => ?_)
  · replace h := h.2 z
    refine lv_iload_n hx hb dX5_middle_11 rfl (lv_at hl 1 rfl) ?_
    refine lv_iconst (v := (1 : Int32)) hx hb dX5_middle_12 (by decide) ?_
    refine lv_bipush (v := (40 : Int32)) hx hb dX5_middle_13 (by decide) ?_
    refine zci hA zD0 hS (zrunS (As := [.int p1, .int (1 : Int32), .int (40 : Int32)]) (rest := []) S hK hA hE zP0 zD0 hS (mX5_bound l D cI cJ cC G _ p1 (1 : Int32) (40 : Int32) _ h) kX5_bound ml_X5_59 ⟨rfl, rfl, by decide, by decide⟩ rfl hl.1 rfl (Nat.le_of_ble_eq_true rfl) dX5_middle_15 ⟨Nat.zero_le _, Nat.zero_le _⟩) (fun r_2 u H locs h hP1 hk1 hS => ?_)
    try dsimp only at h
    have hP : va_P D vwCl ((bX5 cI cJ cC a_M M_pipes M_used M_taped M_at M_statements M_hasImage M_isKeeping M_cursor M_nextAt M_nextMost M_rowMany M_refused M_setting M_hole M_pipeAt M_chance M_weight M_tape M_letter M_letterAt M_told M_kept M_then M_row)) H := zKeep hP hk1
    refine lv_istore_n (lv' := [(3, .int r_2), (0, .ref (a_M 0)), (1, .int p1), (2, .int p2)]) hx hb dX5_middle_18 rfl hl (by decide) rfl (fun ls hl => ?_)
    refine lv_iload_n hx hb dX5_middle_19 rfl (lv_at hl 0 rfl) ?_
    refine lv_if_eq (tgt := 29) hx hb dX5_middle_20 (by decide) (fun z => ?_) (fun z => ?_)
    · replace h := h.1 z
      refine lv_bipush (v := (-9 : Int32)) hx hb dX5_middle_29 (by decide) ?_
      refine lv_istore (lv' := [(4, .int (-9 : Int32)), (3, .int r_2), (0, .ref (a_M 0)), (1, .int p1), (2, .int p2)]) hx hb dX5_middle_31 hl (by decide) rfl (fun ls hl => ?_)
      refine lv_sipush (v := (999 : Int32)) hx hb dX5_middle_33 (by decide) ?_
      refine lv_istore (lv' := [(5, .int (999 : Int32)), (4, .int (-9 : Int32)), (3, .int r_2), (0, .ref (a_M 0)), (1, .int p1), (2, .int p2)]) hx hb dX5_middle_36 hl (by decide) rfl (fun ls hl => ?_)
      refine lv_iconst (v := (0 : Int32)) hx hb dX5_middle_38 (by decide) ?_
      refine lv_istore (lv' := [(6, .int (0 : Int32)), (5, .int (999 : Int32)), (4, .int (-9 : Int32)), (3, .int r_2), (0, .ref (a_M 0)), (1, .int p1), (2, .int p2)]) hx hb dX5_middle_39 hl (by decide) rfl (fun ls hl => ?_)
      obtain ⟨n_7, h⟩ := h
      refine wX5_middle_41 l D cI cJ cC G a_M p1 p2 p1 p2 M_pipes M_used M_taped M_at M_statements M_hasImage M_isKeeping M_cursor M_nextAt M_nextMost M_rowMany M_refused M_setting M_hole M_pipeAt M_chance M_weight M_tape M_letter M_letterAt M_told M_kept M_then M_row _ S hK hDD hA hE (fun x4_8 x5_9 x6_10 H locs ls h hP hS hl => ?_) n_7 (-9 : Int32) (999 : Int32) (0 : Int32) _ _ _ h hP hS (lv_sub hl [4, 5, 6, 2, 1, 0] rfl)
      try dsimp only at h
      refine lv_iload hx hb dX5_middle_115 (lv_at hl 0 rfl) ?_
      exact hret x4_8 M_refused _ _ _ _ rfl h hP hS dX5_middle_117
    · replace h := h.2 z
      refine lv_aload_n hx hb dX5_middle_23 rfl (lv_at hl 1 rfl) ?_
      refine lv_iload_n hx hb dX5_middle_24 rfl (lv_at hl 0 rfl) ?_
      refine zci hA (hDD _ rfl) hS (zrunV (As := [.int r_2]) (rest := []) S hK hA hE hP (hDD _ rfl) hS (mX5_no l D cI cJ cC G a_M _ M_pipes M_used M_taped M_at M_statements M_hasImage M_isKeeping M_cursor M_nextAt M_nextMost M_rowMany M_refused M_setting M_hole M_pipeAt M_chance M_weight M_tape M_letter M_letterAt M_told M_kept M_then M_row r_2 _ h) kX5_no ml_X5_66 ⟨rfl, rfl, by decide, by decide⟩ (q0 := 0) (ci := 5) rfl rfl rfl rfl hl.1 rfl (Nat.le_of_ble_eq_true rfl) dX5_middle_25 ⟨Nat.zero_le _, Nat.zero_le _⟩) (fun r_11 M_refused_12 H locs h hP1 hk1 hS => ?_)
      try dsimp only at h
      have hP : va_P D vwCl ((bX5 cI cJ cC a_M M_pipes M_used M_taped M_at M_statements M_hasImage M_isKeeping M_cursor M_nextAt M_nextMost M_rowMany M_refused_12 M_setting M_hole M_pipeAt M_chance M_weight M_tape M_letter M_letterAt M_told M_kept M_then M_row)) H := hP1
      exact hret r_11 M_refused_12 _ _ _ _ rfl h hP hS dX5_middle_28
  · replace h := h.1 z
    refine lv_iconst (v := (-1 : Int32)) hx hb dX5_middle_7 (by decide) ?_
    refine lv_goto (tgt := 18) hx hb dX5_middle_8 (by decide) ?_
    refine lv_istore_n (lv' := [(3, .int (-1 : Int32)), (0, .ref (a_M 0)), (1, .int p1), (2, .int p2)]) hx hb dX5_middle_18 rfl hl (by decide) rfl (fun ls hl => ?_)
    refine lv_iload_n hx hb dX5_middle_19 rfl (lv_at hl 0 rfl) ?_
    refine lv_if_eq (tgt := 29) hx hb dX5_middle_20 (by decide) (fun z => ?_) (fun z => ?_)
    · exact absurd z (by decide)
    · refine lv_aload_n hx hb dX5_middle_23 rfl (lv_at hl 1 rfl) ?_
      refine lv_iload_n hx hb dX5_middle_24 rfl (lv_at hl 0 rfl) ?_
      refine zci hA (hDD _ rfl) hS (zrunV (As := [.int (-1 : Int32)]) (rest := []) S hK hA hE hP (hDD _ rfl) hS (mX5_no l D cI cJ cC G a_M _ M_pipes M_used M_taped M_at M_statements M_hasImage M_isKeeping M_cursor M_nextAt M_nextMost M_rowMany M_refused M_setting M_hole M_pipeAt M_chance M_weight M_tape M_letter M_letterAt M_told M_kept M_then M_row (-1 : Int32) _ h) kX5_no ml_X5_66 ⟨rfl, rfl, by decide, by decide⟩ (q0 := 0) (ci := 5) rfl rfl rfl rfl hl.1 rfl (Nat.le_of_ble_eq_true rfl) dX5_middle_25 ⟨Nat.zero_le _, Nat.zero_le _⟩) (fun r_13 M_refused_14 H locs h hP1 hk1 hS => ?_)
      try dsimp only at h
      have hP : va_P D vwCl ((bX5 cI cJ cC a_M M_pipes M_used M_taped M_at M_statements M_hasImage M_isKeeping M_cursor M_nextAt M_nextMost M_rowMany M_refused_14 M_setting M_hole M_pipeAt M_chance M_weight M_tape M_letter M_letterAt M_told M_kept M_then M_row)) H := hP1
      exact hret r_13 M_refused_14 _ _ _ _ rfl h hP hS dX5_middle_28
def lpX5_bothAt_5 (K : Int64 → Int32 → Prop) (x1 : Int32) (x2 : Int32) (M_setting : Nat → Int32) (M_weight : Nat → Int32) : Nat → Int64 → Int32 → Prop
  | 0, _, _ => False
  | n + 1, x3, x5 => (((M_setting 0) ≤ x5 → (K x3 x5)) ∧ (¬ ((M_setting 0) ≤ x5) → (wpX5_isWood (fun (r_1 : Int32) => ((r_1 = (0 : Int32) → (lpX5_bothAt_5 K x1 x2 M_setting M_weight n (x3 + (0 : Int64)) (x5 + (1 : Int32)))) ∧ (¬ (r_1 = (0 : Int32)) → (wpX5_isWood (fun (r_2 : Int32) => ((r_2 = (0 : Int32) → (lpX5_bothAt_5 K x1 x2 M_setting M_weight n (x3 + (0 : Int64)) (x5 + (1 : Int32)))) ∧ (¬ (r_2 = (0 : Int32)) → (vp_in x5 24 ∧ (lpX5_bothAt_5 K x1 x2 M_setting M_weight n (x3 + ((M_weight x5.toNatClampNeg).toInt64)) (x5 + (1 : Int32))))))) M_setting (x1 + x2) x5)))) M_setting x1 x5)))
set_option maxHeartbeats 4000000 in
set_option maxRecDepth 100000 in
theorem wX5_bothAt_5 (l : Launch) (D : va_G) (cI cJ cC : ClassId) (G : Nat → Nat → Nat) (a_M : Nat → Nat) {p : Program} {e : Env} {s : State} {m : MethodId} {below : List Frame} {meth : Method} {c : Code} {A : Nat → Prop} {Q : State → Prop} (p1 : Int32) (p2 : Int32) (x1 : Int32) (x2 : Int32) (M_pipes : Int32) (M_used : Int32) (M_taped : Int32) (M_at : Int32) (M_statements : Int32) (M_hasImage : Int32) (M_isKeeping : Int32) (M_cursor : Int32) (M_nextAt : Int32) (M_nextMost : Int64) (M_rowMany : Int32) (M_refused : Nat → Int32) (M_setting : Nat → Int32) (M_hole : Nat → Int32) (M_pipeAt : Nat → Int32) (M_chance : Nat → Int32) (M_weight : Nat → Int32) (M_tape : Nat → Int32) (M_letter : Nat → Int32) (M_letterAt : Nat → Int32) (M_told : Nat → Int32) (M_kept : Nat → Int32) (M_then : Nat → Int64) (M_row : Nat → Int32) (K : Int64 → Int32 → Prop) (S : CallFix p m c cX5_bothAt 6 s ([.ref (a_M 0), .int p1, .int p2] : List Value).toArray bg RX5) (hK : va_K D vwCl (tz cI cJ cC) s) (hDD : ∀ ws : va_W, ws.map (fun q => q.1) = [a_M 0, a_M 1, a_M 2, a_M 3, a_M 4, a_M 5, a_M 6, a_M 7, a_M 8, a_M 9, a_M 10, a_M 11, a_M 12, a_M 13] → va_D A ws) (hA : ∀ q, s.heap.size ≤ q → A q) (hE : EV G A s) (hKK : ∀ (x3 : Int64) (x5 : Int32) (H : Heap) (locs : List Loc) (ls : Array Slot), K x3 x5 → va_P D vwCl ((bX5 cI cJ cC a_M M_pipes M_used M_taped M_at M_statements M_hasImage M_isKeeping M_cursor M_nextAt M_nextMost M_rowMany M_refused M_setting M_hole M_pipeAt M_chance M_weight M_tape M_letter M_letterAt M_told M_kept M_then M_row)) H → va_S A s.heap H locs → lv_has ls 6 [(3, .long x3)] → W p l e ({ frames := 4, cells := 0, slots := 0, locals := 88 }) s m ([.ref (a_M 0), .int p1, .int p2] : List Value).toArray below meth c H locs 0 0 Q (F0 m 59 ls [])) :
    ∀ (n : Nat) (x3 : Int64) (x5 : Int32) (H : Heap) (locs : List Loc) (ls : Array Slot), lpX5_bothAt_5 K x1 x2 M_setting M_weight n x3 x5 → va_P D vwCl ((bX5 cI cJ cC a_M M_pipes M_used M_taped M_at M_statements M_hasImage M_isKeeping M_cursor M_nextAt M_nextMost M_rowMany M_refused M_setting M_hole M_pipeAt M_chance M_weight M_tape M_letter M_letterAt M_told M_kept M_then M_row)) H → va_S A s.heap H locs → lv_has ls 6 [(0, .ref (a_M 0)), (1, .int x1), (2, .int x2), (3, .long x3), (5, .int x5)] → W p l e ({ frames := 4, cells := 0, slots := 0, locals := 88 }) s m ([.ref (a_M 0), .int p1, .int p2] : List Value).toArray below meth c H locs 0 0 Q (F0 m 5 ls []) := by
  obtain ⟨hx, hb, hml, hown, ht⟩ := id S
  intro n
  induction n with
  | zero =>
    intro x3 x5 H locs ls h
    exact absurd h (by simp [lpX5_bothAt_5])
  | succ n ih =>
    intro x3 x5 H locs ls h hP hS hl
    rw [lpX5_bothAt_5] at h
    refine lv_iload hx hb dX5_bothAt_5 (lv_at hl 4 rfl) ?_
    refine lv_aload_n hx hb dX5_bothAt_7 rfl (lv_at hl 0 rfl) ?_
    refine va_get (D := D) (ci := 5) (v := .ref (a_M 2)) (C := RX5) (T := TX5) (N := 24) hx hb ht inX5 hown hK hP 0 rfl rfl 1 (by decide) (ht _ fl_X5_13) (fun _ h9 => h9) rfl dX5_bothAt_8 ?_
    refine lv_iconst (v := (0 : Int32)) hx hb dX5_bothAt_11 (by decide) ?_
    refine va_iald hx hb hK hP 2 0 rfl rfl (by unfold vp_in; decide) dX5_bothAt_12 ?_
    refine zti (y := M_setting 0) (by rfl) ?_
    refine lv_icmp_ge (tgt := 59) hx hb dX5_bothAt_13 (by decide) (fun z => ?_) (fun z => ?_)
    · replace h := h.1 z
      exact hKK x3 x5 _ _ _ h hP hS (lv_sub hl [3] rfl)
    · replace h := h.2 z
      refine lv_lload_n hx hb dX5_bothAt_16 rfl (lv_at hl 3 rfl) ?_
      refine lv_aload_n hx hb dX5_bothAt_17 rfl (lv_at hl 0 rfl) ?_
      refine lv_iload_n hx hb dX5_bothAt_18 rfl (lv_at hl 1 rfl) ?_
      refine lv_iload hx hb dX5_bothAt_19 (lv_at hl 4 rfl) ?_
      refine zci hA (hDD _ rfl) hS (zrunV (As := [.int x1, .int x5]) (rest := [.long x3]) S hK hA hE hP (hDD _ rfl) hS (mX5_isWood l D cI cJ cC G a_M _ M_pipes M_used M_taped M_at M_statements M_hasImage M_isKeeping M_cursor M_nextAt M_nextMost M_rowMany M_refused M_setting M_hole M_pipeAt M_chance M_weight M_tape M_letter M_letterAt M_told M_kept M_then M_row x1 x5 _ h) kX5_isWood ml_X5_171 ⟨rfl, rfl, by decide, by decide⟩ (q0 := 0) (ci := 5) rfl rfl rfl rfl hl.1 rfl (Nat.le_of_ble_eq_true rfl) dX5_bothAt_21 ⟨Nat.zero_le _, Nat.zero_le _⟩) (fun r_1 u H locs h hP1 hk1 hS => ?_)
      try dsimp only at h
      have hP : va_P D vwCl ((bX5 cI cJ cC a_M M_pipes M_used M_taped M_at M_statements M_hasImage M_isKeeping M_cursor M_nextAt M_nextMost M_rowMany M_refused M_setting M_hole M_pipeAt M_chance M_weight M_tape M_letter M_letterAt M_told M_kept M_then M_row)) H := hP1
      refine lv_if_eq (tgt := 50) hx hb dX5_bothAt_24 (by decide) (fun z => ?_) (fun z => ?_)
      · replace h := h.1 z
        refine lv_lconst (v := (0 : Int64)) hx hb dX5_bothAt_50 (by decide) ?_
        refine lv_ladd hx hb dX5_bothAt_51 ?_
        refine lv_lstore_n (lv' := [(3, .long (x3 + (0 : Int64))), (0, .ref (a_M 0)), (1, .int x1), (2, .int x2), (5, .int x5)]) hx hb dX5_bothAt_52 rfl hl (by decide) rfl (fun ls hl => ?_)
        refine lv_iinc (v := x5 + (1 : Int32)) (lv' := [(5, .int (x5 + (1 : Int32))), (3, .long (x3 + (0 : Int64))), (0, .ref (a_M 0)), (1, .int x1), (2, .int x2)]) hx hb dX5_bothAt_53 hl (k := 4) rfl (by rfl) (by decide) rfl (fun ls hl => ?_)
        refine lv_goto (tgt := 5) hx hb dX5_bothAt_56 (by decide) ?_
        exact ih (x3 + (0 : Int64)) (x5 + (1 : Int32)) _ _ _ h hP hS (lv_sub hl [2, 3, 4, 1, 0] rfl)
      · replace h := h.2 z
        refine lv_aload_n hx hb dX5_bothAt_27 rfl (lv_at hl 0 rfl) ?_
        refine lv_iload_n hx hb dX5_bothAt_28 rfl (lv_at hl 1 rfl) ?_
        refine lv_iload_n hx hb dX5_bothAt_29 rfl (lv_at hl 2 rfl) ?_
        refine lv_iadd hx hb dX5_bothAt_30 ?_
        refine lv_iload hx hb dX5_bothAt_31 (lv_at hl 4 rfl) ?_
        refine zci hA (hDD _ rfl) hS (zrunV (As := [.int (x1 + x2), .int x5]) (rest := [.long x3]) S hK hA hE hP (hDD _ rfl) hS (mX5_isWood l D cI cJ cC G a_M _ M_pipes M_used M_taped M_at M_statements M_hasImage M_isKeeping M_cursor M_nextAt M_nextMost M_rowMany M_refused M_setting M_hole M_pipeAt M_chance M_weight M_tape M_letter M_letterAt M_told M_kept M_then M_row (x1 + x2) x5 _ h) kX5_isWood ml_X5_171 ⟨rfl, rfl, by decide, by decide⟩ (q0 := 0) (ci := 5) rfl rfl rfl rfl hl.1 rfl (Nat.le_of_ble_eq_true rfl) dX5_bothAt_33 ⟨Nat.zero_le _, Nat.zero_le _⟩) (fun r_2 u H locs h hP1 hk1 hS => ?_)
        try dsimp only at h
        have hP : va_P D vwCl ((bX5 cI cJ cC a_M M_pipes M_used M_taped M_at M_statements M_hasImage M_isKeeping M_cursor M_nextAt M_nextMost M_rowMany M_refused M_setting M_hole M_pipeAt M_chance M_weight M_tape M_letter M_letterAt M_told M_kept M_then M_row)) H := hP1
        refine lv_if_eq (tgt := 50) hx hb dX5_bothAt_36 (by decide) (fun z => ?_) (fun z => ?_)
        · replace h := h.1 z
          refine lv_lconst (v := (0 : Int64)) hx hb dX5_bothAt_50 (by decide) ?_
          refine lv_ladd hx hb dX5_bothAt_51 ?_
          refine lv_lstore_n (lv' := [(3, .long (x3 + (0 : Int64))), (0, .ref (a_M 0)), (1, .int x1), (2, .int x2), (5, .int x5)]) hx hb dX5_bothAt_52 rfl hl (by decide) rfl (fun ls hl => ?_)
          refine lv_iinc (v := x5 + (1 : Int32)) (lv' := [(5, .int (x5 + (1 : Int32))), (3, .long (x3 + (0 : Int64))), (0, .ref (a_M 0)), (1, .int x1), (2, .int x2)]) hx hb dX5_bothAt_53 hl (k := 4) rfl (by rfl) (by decide) rfl (fun ls hl => ?_)
          refine lv_goto (tgt := 5) hx hb dX5_bothAt_56 (by decide) ?_
          exact ih (x3 + (0 : Int64)) (x5 + (1 : Int32)) _ _ _ h hP hS (lv_sub hl [2, 3, 4, 1, 0] rfl)
        · replace h := h.2 z
          refine lv_aload_n hx hb dX5_bothAt_39 rfl (lv_at hl 0 rfl) ?_
          refine va_get (D := D) (ci := 5) (v := .ref (a_M 6)) (C := RX5) (T := TX5) (N := 24) hx hb ht inX5 hown hK hP 0 rfl rfl 5 (by decide) (ht _ fl_X5_25) (fun _ h9 => h9) rfl dX5_bothAt_40 ?_
          refine lv_iload hx hb dX5_bothAt_43 (lv_at hl 4 rfl) ?_
          obtain ⟨hin, h⟩ := h
          refine va_iald hx hb hK hP 6 0 rfl rfl hin dX5_bothAt_45 ?_
          refine lv_i2l hx hb dX5_bothAt_46 rfl ?_
          refine lv_goto (tgt := 51) hx hb dX5_bothAt_47 (by decide) ?_
          refine lv_ladd hx hb dX5_bothAt_51 ?_
          refine lv_lstore_n (lv' := [(3, .long (x3 + ((M_weight x5.toNatClampNeg).toInt64))), (0, .ref (a_M 0)), (1, .int x1), (2, .int x2), (5, .int x5)]) hx hb dX5_bothAt_52 rfl hl (by decide) rfl (fun ls hl => ?_)
          refine lv_iinc (v := x5 + (1 : Int32)) (lv' := [(5, .int (x5 + (1 : Int32))), (3, .long (x3 + ((M_weight x5.toNatClampNeg).toInt64))), (0, .ref (a_M 0)), (1, .int x1), (2, .int x2)]) hx hb dX5_bothAt_53 hl (k := 4) rfl (by rfl) (by decide) rfl (fun ls hl => ?_)
          refine lv_goto (tgt := 5) hx hb dX5_bothAt_56 (by decide) ?_
          exact ih (x3 + ((M_weight x5.toNatClampNeg).toInt64)) (x5 + (1 : Int32)) _ _ _ h hP hS (lv_sub hl [2, 3, 4, 1, 0] rfl)
def wpX5_bothAt (post : Int64 → Prop) (M_setting : Nat → Int32) (M_weight : Nat → Int32) (p1 : Int32) (p2 : Int32) : Prop := ∃ n_3 : Nat, lpX5_bothAt_5 (fun (x3_4 : Int64) (x5_5 : Int32) => post x3_4) p1 p2 M_setting M_weight n_3 (0 : Int64) (0 : Int32)
set_option maxHeartbeats 4000000 in
set_option maxRecDepth 100000 in
theorem mX5_bothAt (l : Launch) (D : va_G) (cI cJ cC : ClassId) (G : Nat → Nat → Nat) (a_M : Nat → Nat) (sz : Nat) (M_pipes : Int32) (M_used : Int32) (M_taped : Int32) (M_at : Int32) (M_statements : Int32) (M_hasImage : Int32) (M_isKeeping : Int32) (M_cursor : Int32) (M_nextAt : Int32) (M_nextMost : Int64) (M_rowMany : Int32) (M_refused : Nat → Int32) (M_setting : Nat → Int32) (M_hole : Nat → Int32) (M_pipeAt : Nat → Int32) (M_chance : Nat → Int32) (M_weight : Nat → Int32) (M_tape : Nat → Int32) (M_letter : Nat → Int32) (M_letterAt : Nat → Int32) (M_told : Nat → Int32) (M_kept : Nat → Int32) (M_then : Nat → Int64) (M_row : Nat → Int32) (p1 : Int32) (p2 : Int32) (post : Int64 → Prop) (h : wpX5_bothAt post M_setting M_weight p1 p2) : Met l yX5_bothAt (wz yX5_bothAt cX5_bothAt 6 (some .long)) ({ frames := 4, cells := 0, slots := 0, locals := 88 }) (va_Pc [.ref (a_M 0), .int p1, .int p2] (PW D (tz cI cJ cC) G ((bX5 cI cJ cC a_M M_pipes M_used M_taped M_at M_statements M_hasImage M_isKeeping M_cursor M_nextAt M_nextMost M_rowMany M_refused M_setting M_hole M_pipeAt M_chance M_weight M_tape M_letter M_letterAt M_told M_kept M_then M_row)) sz)) (va_Ql (fun (r : Int64) (u : Unit) => post r ) (fun (u : Unit) t => va_P D vwCl ((bX5 cI cJ cC a_M M_pipes M_used M_taped M_at M_statements M_hasImage M_isKeeping M_cursor M_nextAt M_nextMost M_rowMany M_refused M_setting M_hole M_pipeAt M_chance M_weight M_tape M_letter M_letterAt M_told M_kept M_then M_row)) t.heap) (va_A ((bX5 cI cJ cC a_M M_pipes M_used M_taped M_at M_statements M_hasImage M_isKeeping M_cursor M_nextAt M_nextMost M_rowMany M_refused M_setting M_hole M_pipeAt M_chance M_weight M_tape M_letter M_letterAt M_told M_kept M_then M_row)) sz)) 0 0 (va_A ((bX5 cI cJ cC a_M M_pipes M_used M_taped M_at M_statements M_hasImage M_isKeeping M_cursor M_nextAt M_nextMost M_rowMany M_refused M_setting M_hole M_pipeAt M_chance M_weight M_tape M_letter M_letterAt M_told M_kept M_then M_row)) sz) := by
  refine zml (gw := fun (u : Unit) => (bX5 cI cJ cC a_M M_pipes M_used M_taped M_at M_statements M_hasImage M_isKeeping M_cursor M_nextAt M_nextMost M_rowMany M_refused M_setting M_hole M_pipeAt M_chance M_weight M_tape M_letter M_letterAt M_told M_kept M_then M_row)) (plainFor_of_name (by decide)) (Nat.le_of_ble_eq_true rfl) ?_
  intro p e s m below meth c A Q ls S hK hD hA hE hP hl hret
  obtain ⟨hx, hb, hml, hown, ht⟩ := id S
  have hS : va_S A s.heap s.heap [] := va_S.rf
  have hDD : ∀ ws : va_W, ws.map (fun q => q.1) = [a_M 0, a_M 1, a_M 2, a_M 3, a_M 4, a_M 5, a_M 6, a_M 7, a_M 8, a_M 9, a_M 10, a_M 11, a_M 12, a_M 13] → va_D A ws := fun ws hw => zD hD (hw.trans rfl)
  have hl : lv_has ls 6 [(0, .ref (a_M 0)), (1, .int p1), (2, .int p2)] := hl
  unfold wpX5_bothAt at h
  refine lv_lconst (v := (0 : Int64)) hx hb dX5_bothAt_0 (by decide) ?_
  refine lv_lstore_n (lv' := [(3, .long (0 : Int64)), (0, .ref (a_M 0)), (1, .int p1), (2, .int p2)]) hx hb dX5_bothAt_1 rfl hl (by decide) rfl (fun ls hl => ?_)
  refine lv_iconst (v := (0 : Int32)) hx hb dX5_bothAt_2 (by decide) ?_
  refine lv_istore (lv' := [(5, .int (0 : Int32)), (3, .long (0 : Int64)), (0, .ref (a_M 0)), (1, .int p1), (2, .int p2)]) hx hb dX5_bothAt_3 hl (by decide) rfl (fun ls hl => ?_)
  obtain ⟨n_3, h⟩ := h
  refine wX5_bothAt_5 l D cI cJ cC G a_M p1 p2 p1 p2 M_pipes M_used M_taped M_at M_statements M_hasImage M_isKeeping M_cursor M_nextAt M_nextMost M_rowMany M_refused M_setting M_hole M_pipeAt M_chance M_weight M_tape M_letter M_letterAt M_told M_kept M_then M_row _ S hK hDD hA hE (fun x3_4 x5_5 H locs ls h hP hS hl => ?_) n_3 (0 : Int64) (0 : Int32) _ _ _ h hP hS (lv_sub hl [2, 3, 4, 1, 0] rfl)
  try dsimp only at h
  refine lv_lload_n hx hb dX5_bothAt_59 rfl (lv_at hl 0 rfl) ?_
  exact hret x3_4 () _ _ _ _ h hP hS dX5_bothAt_60
def lpX5_twoBy_4 (K : Int32 → Int32 → Prop) (x1 : Int32) (M_setting : Nat → Int32) (M_weight : Nat → Int32) : Nat → Int32 → Int32 → Prop
  | 0, _, _ => False
  | n + 1, x2, x3 => (((48 : Int32) ≤ (x3 + x1) → (K x2 x3)) ∧ (¬ ((48 : Int32) ≤ (x3 + x1)) → (wpX5_bothAt (fun (r_1 : Int64) => wpX5_bothAt (fun (r_2 : Int64) => ((r_1 ≤ r_2 → (lpX5_twoBy_4 K x1 M_setting M_weight n x2 (x3 + (1 : Int32)))) ∧ (¬ (r_1 ≤ r_2) → (lpX5_twoBy_4 K x1 M_setting M_weight n x3 (x3 + (1 : Int32)))))) M_setting M_weight x2 x1) M_setting M_weight x3 x1)))
set_option maxHeartbeats 4000000 in
set_option maxRecDepth 100000 in
theorem wX5_twoBy_4 (l : Launch) (D : va_G) (cI cJ cC : ClassId) (G : Nat → Nat → Nat) (a_M : Nat → Nat) {p : Program} {e : Env} {s : State} {m : MethodId} {below : List Frame} {meth : Method} {c : Code} {A : Nat → Prop} {Q : State → Prop} (p1 : Int32) (x1 : Int32) (M_pipes : Int32) (M_used : Int32) (M_taped : Int32) (M_at : Int32) (M_statements : Int32) (M_hasImage : Int32) (M_isKeeping : Int32) (M_cursor : Int32) (M_nextAt : Int32) (M_nextMost : Int64) (M_rowMany : Int32) (M_refused : Nat → Int32) (M_setting : Nat → Int32) (M_hole : Nat → Int32) (M_pipeAt : Nat → Int32) (M_chance : Nat → Int32) (M_weight : Nat → Int32) (M_tape : Nat → Int32) (M_letter : Nat → Int32) (M_letterAt : Nat → Int32) (M_told : Nat → Int32) (M_kept : Nat → Int32) (M_then : Nat → Int64) (M_row : Nat → Int32) (K : Int32 → Int32 → Prop) (S : CallFix p m c cX5_twoBy 4 s ([.ref (a_M 0), .int p1] : List Value).toArray bg RX5) (hK : va_K D vwCl (tz cI cJ cC) s) (hDD : ∀ ws : va_W, ws.map (fun q => q.1) = [a_M 0, a_M 1, a_M 2, a_M 3, a_M 4, a_M 5, a_M 6, a_M 7, a_M 8, a_M 9, a_M 10, a_M 11, a_M 12, a_M 13] → va_D A ws) (hA : ∀ q, s.heap.size ≤ q → A q) (hE : EV G A s) (hKK : ∀ (x2 : Int32) (x3 : Int32) (H : Heap) (locs : List Loc) (ls : Array Slot), K x2 x3 → va_P D vwCl ((bX5 cI cJ cC a_M M_pipes M_used M_taped M_at M_statements M_hasImage M_isKeeping M_cursor M_nextAt M_nextMost M_rowMany M_refused M_setting M_hole M_pipeAt M_chance M_weight M_tape M_letter M_letterAt M_told M_kept M_then M_row)) H → va_S A s.heap H locs → lv_has ls 4 [(2, .int x2)] → W p l e ({ frames := 5, cells := 0, slots := 0, locals := 113 }) s m ([.ref (a_M 0), .int p1] : List Value).toArray below meth c H locs 0 0 Q (F0 m 40 ls [])) :
    ∀ (n : Nat) (x2 : Int32) (x3 : Int32) (H : Heap) (locs : List Loc) (ls : Array Slot), lpX5_twoBy_4 K x1 M_setting M_weight n x2 x3 → va_P D vwCl ((bX5 cI cJ cC a_M M_pipes M_used M_taped M_at M_statements M_hasImage M_isKeeping M_cursor M_nextAt M_nextMost M_rowMany M_refused M_setting M_hole M_pipeAt M_chance M_weight M_tape M_letter M_letterAt M_told M_kept M_then M_row)) H → va_S A s.heap H locs → lv_has ls 4 [(0, .ref (a_M 0)), (1, .int x1), (2, .int x2), (3, .int x3)] → W p l e ({ frames := 5, cells := 0, slots := 0, locals := 113 }) s m ([.ref (a_M 0), .int p1] : List Value).toArray below meth c H locs 0 0 Q (F0 m 4 ls []) := by
  obtain ⟨hx, hb, hml, hown, ht⟩ := id S
  intro n
  induction n with
  | zero =>
    intro x2 x3 H locs ls h
    exact absurd h (by simp [lpX5_twoBy_4])
  | succ n ih =>
    intro x2 x3 H locs ls h hP hS hl
    rw [lpX5_twoBy_4] at h
    refine lv_iload_n hx hb dX5_twoBy_4 rfl (lv_at hl 3 rfl) ?_
    refine lv_iload_n hx hb dX5_twoBy_5 rfl (lv_at hl 1 rfl) ?_
    refine lv_iadd hx hb dX5_twoBy_6 ?_
    refine lv_bipush (v := (48 : Int32)) hx hb dX5_twoBy_7 (by decide) ?_
    refine lv_icmp_ge (tgt := 40) hx hb dX5_twoBy_9 (by decide) (fun z => ?_) (fun z => ?_)
    · replace h := h.1 z
      exact hKK x2 x3 _ _ _ h hP hS (lv_sub hl [2] rfl)
    · replace h := h.2 z
      refine lv_aload_n hx hb dX5_twoBy_12 rfl (lv_at hl 0 rfl) ?_
      refine lv_iload_n hx hb dX5_twoBy_13 rfl (lv_at hl 3 rfl) ?_
      refine lv_iload_n hx hb dX5_twoBy_14 rfl (lv_at hl 1 rfl) ?_
      refine zcl hA (hDD _ rfl) hS (zrunV (As := [.int x3, .int x1]) (rest := []) S hK hA hE hP (hDD _ rfl) hS (mX5_bothAt l D cI cJ cC G a_M _ M_pipes M_used M_taped M_at M_statements M_hasImage M_isKeeping M_cursor M_nextAt M_nextMost M_rowMany M_refused M_setting M_hole M_pipeAt M_chance M_weight M_tape M_letter M_letterAt M_told M_kept M_then M_row x3 x1 _ h) kX5_bothAt ml_X5_268 ⟨rfl, rfl, by decide, by decide⟩ (q0 := 0) (ci := 5) rfl rfl rfl rfl hl.1 rfl (Nat.le_of_ble_eq_true rfl) dX5_twoBy_15 ⟨Nat.zero_le _, Nat.zero_le _⟩) (fun r_1 u H locs h hP1 hk1 hS => ?_)
      try dsimp only at h
      have hP : va_P D vwCl ((bX5 cI cJ cC a_M M_pipes M_used M_taped M_at M_statements M_hasImage M_isKeeping M_cursor M_nextAt M_nextMost M_rowMany M_refused M_setting M_hole M_pipeAt M_chance M_weight M_tape M_letter M_letterAt M_told M_kept M_then M_row)) H := hP1
      refine lv_aload_n hx hb dX5_twoBy_18 rfl (lv_at hl 0 rfl) ?_
      refine lv_iload_n hx hb dX5_twoBy_19 rfl (lv_at hl 2 rfl) ?_
      refine lv_iload_n hx hb dX5_twoBy_20 rfl (lv_at hl 1 rfl) ?_
      refine zcl hA (hDD _ rfl) hS (zrunV (As := [.int x2, .int x1]) (rest := [.long r_1]) S hK hA hE hP (hDD _ rfl) hS (mX5_bothAt l D cI cJ cC G a_M _ M_pipes M_used M_taped M_at M_statements M_hasImage M_isKeeping M_cursor M_nextAt M_nextMost M_rowMany M_refused M_setting M_hole M_pipeAt M_chance M_weight M_tape M_letter M_letterAt M_told M_kept M_then M_row x2 x1 _ h) kX5_bothAt ml_X5_268 ⟨rfl, rfl, by decide, by decide⟩ (q0 := 0) (ci := 5) rfl rfl rfl rfl hl.1 rfl (Nat.le_of_ble_eq_true rfl) dX5_twoBy_21 ⟨Nat.zero_le _, Nat.zero_le _⟩) (fun r_2 u H locs h hP1 hk1 hS => ?_)
      try dsimp only at h
      have hP : va_P D vwCl ((bX5 cI cJ cC a_M M_pipes M_used M_taped M_at M_statements M_hasImage M_isKeeping M_cursor M_nextAt M_nextMost M_rowMany M_refused M_setting M_hole M_pipeAt M_chance M_weight M_tape M_letter M_letterAt M_told M_kept M_then M_row)) H := hP1
      refine W.lcmp hx hb dX5_twoBy_24 ?_
      refine lv_if_le (tgt := 32) hx hb dX5_twoBy_25 (by decide) (fun z => ?_) (fun z => ?_)
      · replace h := h.1 (zl_le.mp z)
        refine lv_iload_n hx hb dX5_twoBy_32 rfl (lv_at hl 2 rfl) ?_
        refine lv_istore_n (lv' := [(2, .int x2), (0, .ref (a_M 0)), (1, .int x1), (3, .int x3)]) hx hb dX5_twoBy_33 rfl hl (by decide) rfl (fun ls hl => ?_)
        refine lv_iinc (v := x3 + (1 : Int32)) (lv' := [(3, .int (x3 + (1 : Int32))), (2, .int x2), (0, .ref (a_M 0)), (1, .int x1)]) hx hb dX5_twoBy_34 hl (k := 3) rfl (by rfl) (by decide) rfl (fun ls hl => ?_)
        refine lv_goto (tgt := 4) hx hb dX5_twoBy_37 (by decide) ?_
        exact ih x2 (x3 + (1 : Int32)) _ _ _ h hP hS (lv_sub hl [2, 3, 1, 0] rfl)
      · replace h := h.2 (fun q => z (zl_le.mpr q))
        refine lv_iload_n hx hb dX5_twoBy_28 rfl (lv_at hl 3 rfl) ?_
        refine lv_goto (tgt := 33) hx hb dX5_twoBy_29 (by decide) ?_
        refine lv_istore_n (lv' := [(2, .int x3), (0, .ref (a_M 0)), (1, .int x1), (3, .int x3)]) hx hb dX5_twoBy_33 rfl hl (by decide) rfl (fun ls hl => ?_)
        refine lv_iinc (v := x3 + (1 : Int32)) (lv' := [(3, .int (x3 + (1 : Int32))), (2, .int x3), (0, .ref (a_M 0)), (1, .int x1)]) hx hb dX5_twoBy_34 hl (k := 3) rfl (by rfl) (by decide) rfl (fun ls hl => ?_)
        refine lv_goto (tgt := 4) hx hb dX5_twoBy_37 (by decide) ?_
        exact ih x3 (x3 + (1 : Int32)) _ _ _ h hP hS (lv_sub hl [2, 3, 1, 0] rfl)
def wpX5_twoBy (post : Int32 → Prop) (M_setting : Nat → Int32) (M_weight : Nat → Int32) (p1 : Int32) : Prop := ∃ n_3 : Nat, lpX5_twoBy_4 (fun (x2_4 : Int32) (x3_5 : Int32) => post x2_4) p1 M_setting M_weight n_3 (0 : Int32) (1 : Int32)
set_option maxHeartbeats 4000000 in
set_option maxRecDepth 100000 in
theorem mX5_twoBy (l : Launch) (D : va_G) (cI cJ cC : ClassId) (G : Nat → Nat → Nat) (a_M : Nat → Nat) (sz : Nat) (M_pipes : Int32) (M_used : Int32) (M_taped : Int32) (M_at : Int32) (M_statements : Int32) (M_hasImage : Int32) (M_isKeeping : Int32) (M_cursor : Int32) (M_nextAt : Int32) (M_nextMost : Int64) (M_rowMany : Int32) (M_refused : Nat → Int32) (M_setting : Nat → Int32) (M_hole : Nat → Int32) (M_pipeAt : Nat → Int32) (M_chance : Nat → Int32) (M_weight : Nat → Int32) (M_tape : Nat → Int32) (M_letter : Nat → Int32) (M_letterAt : Nat → Int32) (M_told : Nat → Int32) (M_kept : Nat → Int32) (M_then : Nat → Int64) (M_row : Nat → Int32) (p1 : Int32) (post : Int32 → Prop) (h : wpX5_twoBy post M_setting M_weight p1) : Met l yX5_twoBy (wz yX5_twoBy cX5_twoBy 4 (some .int)) ({ frames := 5, cells := 0, slots := 0, locals := 113 }) (va_Pc [.ref (a_M 0), .int p1] (PW D (tz cI cJ cC) G ((bX5 cI cJ cC a_M M_pipes M_used M_taped M_at M_statements M_hasImage M_isKeeping M_cursor M_nextAt M_nextMost M_rowMany M_refused M_setting M_hole M_pipeAt M_chance M_weight M_tape M_letter M_letterAt M_told M_kept M_then M_row)) sz)) (va_Qi (fun (r : Int32) (u : Unit) => post r ) (fun (u : Unit) t => va_P D vwCl ((bX5 cI cJ cC a_M M_pipes M_used M_taped M_at M_statements M_hasImage M_isKeeping M_cursor M_nextAt M_nextMost M_rowMany M_refused M_setting M_hole M_pipeAt M_chance M_weight M_tape M_letter M_letterAt M_told M_kept M_then M_row)) t.heap) (va_A ((bX5 cI cJ cC a_M M_pipes M_used M_taped M_at M_statements M_hasImage M_isKeeping M_cursor M_nextAt M_nextMost M_rowMany M_refused M_setting M_hole M_pipeAt M_chance M_weight M_tape M_letter M_letterAt M_told M_kept M_then M_row)) sz)) 0 0 (va_A ((bX5 cI cJ cC a_M M_pipes M_used M_taped M_at M_statements M_hasImage M_isKeeping M_cursor M_nextAt M_nextMost M_rowMany M_refused M_setting M_hole M_pipeAt M_chance M_weight M_tape M_letter M_letterAt M_told M_kept M_then M_row)) sz) := by
  refine zmi (gw := fun (u : Unit) => (bX5 cI cJ cC a_M M_pipes M_used M_taped M_at M_statements M_hasImage M_isKeeping M_cursor M_nextAt M_nextMost M_rowMany M_refused M_setting M_hole M_pipeAt M_chance M_weight M_tape M_letter M_letterAt M_told M_kept M_then M_row)) (plainFor_of_name (by decide)) (Nat.le_of_ble_eq_true rfl) ?_
  intro p e s m below meth c A Q ls S hK hD hA hE hP hl hret
  obtain ⟨hx, hb, hml, hown, ht⟩ := id S
  have hS : va_S A s.heap s.heap [] := va_S.rf
  have hDD : ∀ ws : va_W, ws.map (fun q => q.1) = [a_M 0, a_M 1, a_M 2, a_M 3, a_M 4, a_M 5, a_M 6, a_M 7, a_M 8, a_M 9, a_M 10, a_M 11, a_M 12, a_M 13] → va_D A ws := fun ws hw => zD hD (hw.trans rfl)
  have hl : lv_has ls 4 [(0, .ref (a_M 0)), (1, .int p1)] := hl
  unfold wpX5_twoBy at h
  refine lv_iconst (v := (0 : Int32)) hx hb dX5_twoBy_0 (by decide) ?_
  refine lv_istore_n (lv' := [(2, .int (0 : Int32)), (0, .ref (a_M 0)), (1, .int p1)]) hx hb dX5_twoBy_1 rfl hl (by decide) rfl (fun ls hl => ?_)
  refine lv_iconst (v := (1 : Int32)) hx hb dX5_twoBy_2 (by decide) ?_
  refine lv_istore_n (lv' := [(3, .int (1 : Int32)), (2, .int (0 : Int32)), (0, .ref (a_M 0)), (1, .int p1)]) hx hb dX5_twoBy_3 rfl hl (by decide) rfl (fun ls hl => ?_)
  obtain ⟨n_3, h⟩ := h
  refine wX5_twoBy_4 l D cI cJ cC G a_M p1 p1 M_pipes M_used M_taped M_at M_statements M_hasImage M_isKeeping M_cursor M_nextAt M_nextMost M_rowMany M_refused M_setting M_hole M_pipeAt M_chance M_weight M_tape M_letter M_letterAt M_told M_kept M_then M_row _ S hK hDD hA hE (fun x2_4 x3_5 H locs ls h hP hS hl => ?_) n_3 (0 : Int32) (1 : Int32) _ _ _ h hP hS (lv_sub hl [2, 3, 1, 0] rfl)
  try dsimp only at h
  refine lv_iload_n hx hb dX5_twoBy_40 rfl (lv_at hl 0 rfl) ?_
  exact hret x2_4 () _ _ _ _ rfl h hP hS dX5_twoBy_41
def wpX5_two (post : Int32 → (Nat → Int32) → Prop) (M_refused : Nat → Int32) (M_setting : Nat → Int32) (M_weight : Nat → Int32) (p1 : Int32) : Prop := wpX5_bound (fun (r_1 : Int32) => ((r_1 = (0 : Int32) → (wpX5_twoBy (fun (r_2 : Int32) => post r_2 M_refused) M_setting M_weight p1)) ∧ (¬ (r_1 = (0 : Int32)) → (wpX5_no (fun (r_3 : Int32) (M_refused_4 : Nat → Int32) => post r_3 M_refused_4) M_refused r_1)))) p1 (1 : Int32) (40 : Int32)
set_option maxHeartbeats 4000000 in
set_option maxRecDepth 100000 in
theorem mX5_two (l : Launch) (D : va_G) (cI cJ cC : ClassId) (G : Nat → Nat → Nat) (a_M : Nat → Nat) (sz : Nat) (M_pipes : Int32) (M_used : Int32) (M_taped : Int32) (M_at : Int32) (M_statements : Int32) (M_hasImage : Int32) (M_isKeeping : Int32) (M_cursor : Int32) (M_nextAt : Int32) (M_nextMost : Int64) (M_rowMany : Int32) (M_refused : Nat → Int32) (M_setting : Nat → Int32) (M_hole : Nat → Int32) (M_pipeAt : Nat → Int32) (M_chance : Nat → Int32) (M_weight : Nat → Int32) (M_tape : Nat → Int32) (M_letter : Nat → Int32) (M_letterAt : Nat → Int32) (M_told : Nat → Int32) (M_kept : Nat → Int32) (M_then : Nat → Int64) (M_row : Nat → Int32) (p1 : Int32) (post : Int32 → (Nat → Int32) → Prop) (h : wpX5_two post M_refused M_setting M_weight p1) : Met l yX5_two (wz yX5_two cX5_two 3 (some .int)) ({ frames := 6, cells := 0, slots := 0, locals := 136 }) (va_Pc [.ref (a_M 0), .int p1] (PW D (tz cI cJ cC) G ((bX5 cI cJ cC a_M M_pipes M_used M_taped M_at M_statements M_hasImage M_isKeeping M_cursor M_nextAt M_nextMost M_rowMany M_refused M_setting M_hole M_pipeAt M_chance M_weight M_tape M_letter M_letterAt M_told M_kept M_then M_row)) sz)) (va_Qi (fun (r : Int32) (u : (Nat → Int32)) => post r u) (fun (u : (Nat → Int32)) t => va_P D vwCl ((bX5 cI cJ cC a_M M_pipes M_used M_taped M_at M_statements M_hasImage M_isKeeping M_cursor M_nextAt M_nextMost M_rowMany u M_setting M_hole M_pipeAt M_chance M_weight M_tape M_letter M_letterAt M_told M_kept M_then M_row)) t.heap) (va_A ((bX5 cI cJ cC a_M M_pipes M_used M_taped M_at M_statements M_hasImage M_isKeeping M_cursor M_nextAt M_nextMost M_rowMany M_refused M_setting M_hole M_pipeAt M_chance M_weight M_tape M_letter M_letterAt M_told M_kept M_then M_row)) sz)) 0 0 (va_A ((bX5 cI cJ cC a_M M_pipes M_used M_taped M_at M_statements M_hasImage M_isKeeping M_cursor M_nextAt M_nextMost M_rowMany M_refused M_setting M_hole M_pipeAt M_chance M_weight M_tape M_letter M_letterAt M_told M_kept M_then M_row)) sz) := by
  refine zmi (gw := fun (u : (Nat → Int32)) => (bX5 cI cJ cC a_M M_pipes M_used M_taped M_at M_statements M_hasImage M_isKeeping M_cursor M_nextAt M_nextMost M_rowMany u M_setting M_hole M_pipeAt M_chance M_weight M_tape M_letter M_letterAt M_told M_kept M_then M_row)) (plainFor_of_name (by decide)) (Nat.le_of_ble_eq_true rfl) ?_
  intro p e s m below meth c A Q ls S hK hD hA hE hP hl hret
  obtain ⟨hx, hb, hml, hown, ht⟩ := id S
  have hS : va_S A s.heap s.heap [] := va_S.rf
  have hDD : ∀ ws : va_W, ws.map (fun q => q.1) = [a_M 0, a_M 1, a_M 2, a_M 3, a_M 4, a_M 5, a_M 6, a_M 7, a_M 8, a_M 9, a_M 10, a_M 11, a_M 12, a_M 13] → va_D A ws := fun ws hw => zD hD (hw.trans rfl)
  have hl : lv_has ls 3 [(0, .ref (a_M 0)), (1, .int p1)] := hl
  unfold wpX5_two at h
  refine lv_iload_n hx hb dX5_two_0 rfl (lv_at hl 1 rfl) ?_
  refine lv_iconst (v := (1 : Int32)) hx hb dX5_two_1 (by decide) ?_
  refine lv_bipush (v := (40 : Int32)) hx hb dX5_two_2 (by decide) ?_
  refine zci hA zD0 hS (zrunS (As := [.int p1, .int (1 : Int32), .int (40 : Int32)]) (rest := []) S hK hA hE zP0 zD0 hS (mX5_bound l D cI cJ cC G _ p1 (1 : Int32) (40 : Int32) _ h) kX5_bound ml_X5_59 ⟨rfl, rfl, by decide, by decide⟩ rfl hl.1 rfl (Nat.le_of_ble_eq_true rfl) dX5_two_4 ⟨Nat.zero_le _, Nat.zero_le _⟩) (fun r_1 u H locs h hP1 hk1 hS => ?_)
  try dsimp only at h
  have hP : va_P D vwCl ((bX5 cI cJ cC a_M M_pipes M_used M_taped M_at M_statements M_hasImage M_isKeeping M_cursor M_nextAt M_nextMost M_rowMany M_refused M_setting M_hole M_pipeAt M_chance M_weight M_tape M_letter M_letterAt M_told M_kept M_then M_row)) H := zKeep hP hk1
  refine lv_istore_n (lv' := [(2, .int r_1), (0, .ref (a_M 0)), (1, .int p1)]) hx hb dX5_two_7 rfl hl (by decide) rfl (fun ls hl => ?_)
  refine lv_iload_n hx hb dX5_two_8 rfl (lv_at hl 0 rfl) ?_
  refine lv_if_eq (tgt := 20) hx hb dX5_two_9 (by decide) (fun z => ?_) (fun z => ?_)
  · replace h := h.1 z
    refine lv_aload_n hx hb dX5_two_20 rfl (lv_at hl 1 rfl) ?_
    refine lv_iload_n hx hb dX5_two_21 rfl (lv_at hl 2 rfl) ?_
    refine zci hA (hDD _ rfl) hS (zrunV (As := [.int p1]) (rest := []) S hK hA hE hP (hDD _ rfl) hS (mX5_twoBy l D cI cJ cC G a_M _ M_pipes M_used M_taped M_at M_statements M_hasImage M_isKeeping M_cursor M_nextAt M_nextMost M_rowMany M_refused M_setting M_hole M_pipeAt M_chance M_weight M_tape M_letter M_letterAt M_told M_kept M_then M_row p1 _ h) kX5_twoBy ml_X5_271 ⟨rfl, rfl, by decide, by decide⟩ (q0 := 0) (ci := 5) rfl rfl rfl rfl hl.1 rfl (Nat.le_of_ble_eq_true rfl) dX5_two_22 ⟨Nat.zero_le _, Nat.zero_le _⟩) (fun r_2 u H locs h hP1 hk1 hS => ?_)
    try dsimp only at h
    have hP : va_P D vwCl ((bX5 cI cJ cC a_M M_pipes M_used M_taped M_at M_statements M_hasImage M_isKeeping M_cursor M_nextAt M_nextMost M_rowMany M_refused M_setting M_hole M_pipeAt M_chance M_weight M_tape M_letter M_letterAt M_told M_kept M_then M_row)) H := hP1
    exact hret r_2 M_refused _ _ _ _ rfl h hP hS dX5_two_25
  · replace h := h.2 z
    refine lv_aload_n hx hb dX5_two_12 rfl (lv_at hl 1 rfl) ?_
    refine lv_iload_n hx hb dX5_two_13 rfl (lv_at hl 0 rfl) ?_
    refine zci hA (hDD _ rfl) hS (zrunV (As := [.int r_1]) (rest := []) S hK hA hE hP (hDD _ rfl) hS (mX5_no l D cI cJ cC G a_M _ M_pipes M_used M_taped M_at M_statements M_hasImage M_isKeeping M_cursor M_nextAt M_nextMost M_rowMany M_refused M_setting M_hole M_pipeAt M_chance M_weight M_tape M_letter M_letterAt M_told M_kept M_then M_row r_1 _ h) kX5_no ml_X5_66 ⟨rfl, rfl, by decide, by decide⟩ (q0 := 0) (ci := 5) rfl rfl rfl rfl hl.1 rfl (Nat.le_of_ble_eq_true rfl) dX5_two_14 ⟨Nat.zero_le _, Nat.zero_le _⟩) (fun r_3 M_refused_4 H locs h hP1 hk1 hS => ?_)
    try dsimp only at h
    have hP : va_P D vwCl ((bX5 cI cJ cC a_M M_pipes M_used M_taped M_at M_statements M_hasImage M_isKeeping M_cursor M_nextAt M_nextMost M_rowMany M_refused_4 M_setting M_hole M_pipeAt M_chance M_weight M_tape M_letter M_letterAt M_told M_kept M_then M_row)) H := hP1
    refine lv_goto (tgt := 25) hx hb dX5_two_17 (by decide) ?_
    exact hret r_3 M_refused_4 _ _ _ _ rfl h hP hS dX5_two_25
def wpX5_both (post : Int64 → (Nat → Int32) → Prop) (M_refused : Nat → Int32) (M_setting : Nat → Int32) (M_weight : Nat → Int32) (p1 : Int32) (p2 : Int32) : Prop := wpX5_bound (fun (r_1 : Int32) => ((r_1 = (0 : Int32) → (wpX5_isIn (fun (r_8 : Int32) => ((r_8 = (0 : Int32) → (wpX5_lowest (fun (r_15 : Int64) (M_refused_16 : Nat → Int32) => post r_15 M_refused_16) M_refused (-2 : Int32))) ∧ (¬ (r_8 = (0 : Int32)) → (((r_1 = (0 : Int32) → (wpX5_twoBy (fun (r_9 : Int32) => wpX5_bothAt (fun (r_10 : Int64) => wpX5_all (fun (r_11 : Int64) => wpX5_partOf (fun (r_12 : Int64) => post r_12 M_refused) r_10 r_11 p2) M_setting M_weight) M_setting M_weight r_9 p1) M_setting M_weight p1)) ∧ (¬ (r_1 = (0 : Int32)) → (wpX5_lowest (fun (r_13 : Int64) (M_refused_14 : Nat → Int32) => post r_13 M_refused_14) M_refused r_1))))))) p2 (0 : Int32) (1 : Int32))) ∧ (¬ (r_1 = (0 : Int32)) → (((r_1 = (0 : Int32) → (wpX5_twoBy (fun (r_2 : Int32) => wpX5_bothAt (fun (r_3 : Int64) => wpX5_all (fun (r_4 : Int64) => wpX5_partOf (fun (r_5 : Int64) => post r_5 M_refused) r_3 r_4 p2) M_setting M_weight) M_setting M_weight r_2 p1) M_setting M_weight p1)) ∧ (¬ (r_1 = (0 : Int32)) → (wpX5_lowest (fun (r_6 : Int64) (M_refused_7 : Nat → Int32) => post r_6 M_refused_7) M_refused r_1))))))) p1 (1 : Int32) (40 : Int32)
set_option maxHeartbeats 4000000 in
set_option maxRecDepth 100000 in
theorem mX5_both (l : Launch) (D : va_G) (cI cJ cC : ClassId) (G : Nat → Nat → Nat) (a_M : Nat → Nat) (sz : Nat) (M_pipes : Int32) (M_used : Int32) (M_taped : Int32) (M_at : Int32) (M_statements : Int32) (M_hasImage : Int32) (M_isKeeping : Int32) (M_cursor : Int32) (M_nextAt : Int32) (M_nextMost : Int64) (M_rowMany : Int32) (M_refused : Nat → Int32) (M_setting : Nat → Int32) (M_hole : Nat → Int32) (M_pipeAt : Nat → Int32) (M_chance : Nat → Int32) (M_weight : Nat → Int32) (M_tape : Nat → Int32) (M_letter : Nat → Int32) (M_letterAt : Nat → Int32) (M_told : Nat → Int32) (M_kept : Nat → Int32) (M_then : Nat → Int64) (M_row : Nat → Int32) (p1 : Int32) (p2 : Int32) (post : Int64 → (Nat → Int32) → Prop) (h : wpX5_both post M_refused M_setting M_weight p1 p2) : Met l yX5_both (wz yX5_both cX5_both 4 (some .long)) ({ frames := 6, cells := 0, slots := 0, locals := 136 }) (va_Pc [.ref (a_M 0), .int p1, .int p2] (PW D (tz cI cJ cC) G ((bX5 cI cJ cC a_M M_pipes M_used M_taped M_at M_statements M_hasImage M_isKeeping M_cursor M_nextAt M_nextMost M_rowMany M_refused M_setting M_hole M_pipeAt M_chance M_weight M_tape M_letter M_letterAt M_told M_kept M_then M_row)) sz)) (va_Ql (fun (r : Int64) (u : (Nat → Int32)) => post r u) (fun (u : (Nat → Int32)) t => va_P D vwCl ((bX5 cI cJ cC a_M M_pipes M_used M_taped M_at M_statements M_hasImage M_isKeeping M_cursor M_nextAt M_nextMost M_rowMany u M_setting M_hole M_pipeAt M_chance M_weight M_tape M_letter M_letterAt M_told M_kept M_then M_row)) t.heap) (va_A ((bX5 cI cJ cC a_M M_pipes M_used M_taped M_at M_statements M_hasImage M_isKeeping M_cursor M_nextAt M_nextMost M_rowMany M_refused M_setting M_hole M_pipeAt M_chance M_weight M_tape M_letter M_letterAt M_told M_kept M_then M_row)) sz)) 0 0 (va_A ((bX5 cI cJ cC a_M M_pipes M_used M_taped M_at M_statements M_hasImage M_isKeeping M_cursor M_nextAt M_nextMost M_rowMany M_refused M_setting M_hole M_pipeAt M_chance M_weight M_tape M_letter M_letterAt M_told M_kept M_then M_row)) sz) := by
  refine zml (gw := fun (u : (Nat → Int32)) => (bX5 cI cJ cC a_M M_pipes M_used M_taped M_at M_statements M_hasImage M_isKeeping M_cursor M_nextAt M_nextMost M_rowMany u M_setting M_hole M_pipeAt M_chance M_weight M_tape M_letter M_letterAt M_told M_kept M_then M_row)) (plainFor_of_name (by decide)) (Nat.le_of_ble_eq_true rfl) ?_
  intro p e s m below meth c A Q ls S hK hD hA hE hP hl hret
  obtain ⟨hx, hb, hml, hown, ht⟩ := id S
  have hS : va_S A s.heap s.heap [] := va_S.rf
  have hDD : ∀ ws : va_W, ws.map (fun q => q.1) = [a_M 0, a_M 1, a_M 2, a_M 3, a_M 4, a_M 5, a_M 6, a_M 7, a_M 8, a_M 9, a_M 10, a_M 11, a_M 12, a_M 13] → va_D A ws := fun ws hw => zD hD (hw.trans rfl)
  have hl : lv_has ls 4 [(0, .ref (a_M 0)), (1, .int p1), (2, .int p2)] := hl
  unfold wpX5_both at h
  refine lv_iload_n hx hb dX5_both_0 rfl (lv_at hl 1 rfl) ?_
  refine lv_iconst (v := (1 : Int32)) hx hb dX5_both_1 (by decide) ?_
  refine lv_bipush (v := (40 : Int32)) hx hb dX5_both_2 (by decide) ?_
  refine zci hA zD0 hS (zrunS (As := [.int p1, .int (1 : Int32), .int (40 : Int32)]) (rest := []) S hK hA hE zP0 zD0 hS (mX5_bound l D cI cJ cC G _ p1 (1 : Int32) (40 : Int32) _ h) kX5_bound ml_X5_59 ⟨rfl, rfl, by decide, by decide⟩ rfl hl.1 rfl (Nat.le_of_ble_eq_true rfl) dX5_both_4 ⟨Nat.zero_le _, Nat.zero_le _⟩) (fun r_1 u H locs h hP1 hk1 hS => ?_)
  try dsimp only at h
  have hP : va_P D vwCl ((bX5 cI cJ cC a_M M_pipes M_used M_taped M_at M_statements M_hasImage M_isKeeping M_cursor M_nextAt M_nextMost M_rowMany M_refused M_setting M_hole M_pipeAt M_chance M_weight M_tape M_letter M_letterAt M_told M_kept M_then M_row)) H := zKeep hP hk1
  refine lv_istore_n (lv' := [(3, .int r_1), (0, .ref (a_M 0)), (1, .int p1), (2, .int p2)]) hx hb dX5_both_7 rfl hl (by decide) rfl (fun ls hl => ?_)
  refine lv_iload_n hx hb dX5_both_8 rfl (lv_at hl 0 rfl) ?_
  refine lv_if_ne (tgt := 24) hx hb dX5_both_9 (by decide) (fun z => ?_) (fun z => ?_)
  · replace h := h.2 z
    refine lv_iload_n hx hb dX5_both_24 rfl (lv_at hl 0 rfl) ?_
    refine lv_if_eq (tgt := 36) hx hb dX5_both_25 (by decide) (fun z => ?_) (fun z => ?_)
    · replace h := h.1 z
      refine lv_aload_n hx hb dX5_both_36 rfl (lv_at hl 1 rfl) ?_
      refine lv_aload_n hx hb dX5_both_37 rfl (lv_at hl 1 rfl) ?_
      refine lv_iload_n hx hb dX5_both_38 rfl (lv_at hl 2 rfl) ?_
      refine zci hA (hDD _ rfl) hS (zrunV (As := [.int p1]) (rest := [.ref (a_M 0)]) S hK hA hE hP (hDD _ rfl) hS (mX5_twoBy l D cI cJ cC G a_M _ M_pipes M_used M_taped M_at M_statements M_hasImage M_isKeeping M_cursor M_nextAt M_nextMost M_rowMany M_refused M_setting M_hole M_pipeAt M_chance M_weight M_tape M_letter M_letterAt M_told M_kept M_then M_row p1 _ h) kX5_twoBy ml_X5_271 ⟨rfl, rfl, by decide, by decide⟩ (q0 := 0) (ci := 5) rfl rfl rfl rfl hl.1 rfl (Nat.le_of_ble_eq_true rfl) dX5_both_39 ⟨Nat.zero_le _, Nat.zero_le _⟩) (fun r_2 u H locs h hP1 hk1 hS => ?_)
      try dsimp only at h
      have hP : va_P D vwCl ((bX5 cI cJ cC a_M M_pipes M_used M_taped M_at M_statements M_hasImage M_isKeeping M_cursor M_nextAt M_nextMost M_rowMany M_refused M_setting M_hole M_pipeAt M_chance M_weight M_tape M_letter M_letterAt M_told M_kept M_then M_row)) H := hP1
      refine lv_iload_n hx hb dX5_both_42 rfl (lv_at hl 2 rfl) ?_
      refine zcl hA (hDD _ rfl) hS (zrunV (As := [.int r_2, .int p1]) (rest := []) S hK hA hE hP (hDD _ rfl) hS (mX5_bothAt l D cI cJ cC G a_M _ M_pipes M_used M_taped M_at M_statements M_hasImage M_isKeeping M_cursor M_nextAt M_nextMost M_rowMany M_refused M_setting M_hole M_pipeAt M_chance M_weight M_tape M_letter M_letterAt M_told M_kept M_then M_row r_2 p1 _ h) kX5_bothAt ml_X5_268 ⟨rfl, rfl, by decide, by decide⟩ (q0 := 0) (ci := 5) rfl rfl rfl rfl hl.1 rfl (Nat.le_of_ble_eq_true rfl) dX5_both_43 ⟨Nat.zero_le _, Nat.zero_le _⟩) (fun r_3 u H locs h hP1 hk1 hS => ?_)
      try dsimp only at h
      have hP : va_P D vwCl ((bX5 cI cJ cC a_M M_pipes M_used M_taped M_at M_statements M_hasImage M_isKeeping M_cursor M_nextAt M_nextMost M_rowMany M_refused M_setting M_hole M_pipeAt M_chance M_weight M_tape M_letter M_letterAt M_told M_kept M_then M_row)) H := hP1
      refine lv_aload_n hx hb dX5_both_46 rfl (lv_at hl 1 rfl) ?_
      refine zcl hA (hDD _ rfl) hS (zrunV (As := []) (rest := [.long r_3]) S hK hA hE hP (hDD _ rfl) hS (mX5_all l D cI cJ cC G a_M _ M_pipes M_used M_taped M_at M_statements M_hasImage M_isKeeping M_cursor M_nextAt M_nextMost M_rowMany M_refused M_setting M_hole M_pipeAt M_chance M_weight M_tape M_letter M_letterAt M_told M_kept M_then M_row _ h) kX5_all ml_X5_216 ⟨rfl, rfl, by decide, by decide⟩ (q0 := 0) (ci := 5) rfl rfl rfl rfl hl.1 rfl (Nat.le_of_ble_eq_true rfl) dX5_both_47 ⟨Nat.zero_le _, Nat.zero_le _⟩) (fun r_4 u H locs h hP1 hk1 hS => ?_)
      try dsimp only at h
      have hP : va_P D vwCl ((bX5 cI cJ cC a_M M_pipes M_used M_taped M_at M_statements M_hasImage M_isKeeping M_cursor M_nextAt M_nextMost M_rowMany M_refused M_setting M_hole M_pipeAt M_chance M_weight M_tape M_letter M_letterAt M_told M_kept M_then M_row)) H := hP1
      refine lv_iload_n hx hb dX5_both_50 rfl (lv_at hl 3 rfl) ?_
      refine zcl hA zD0 hS (zrunS (As := [.long r_3, .long r_4, .int p2]) (rest := []) S hK hA hE zP0 zD0 hS (mX5_partOf l D cI cJ cC G _ r_3 r_4 p2 _ h) kX5_partOf ml_X5_220 ⟨rfl, rfl, by decide, by decide⟩ rfl hl.1 rfl (Nat.le_of_ble_eq_true rfl) dX5_both_51 ⟨Nat.zero_le _, Nat.zero_le _⟩) (fun r_5 u H locs h hP1 hk1 hS => ?_)
      try dsimp only at h
      have hP : va_P D vwCl ((bX5 cI cJ cC a_M M_pipes M_used M_taped M_at M_statements M_hasImage M_isKeeping M_cursor M_nextAt M_nextMost M_rowMany M_refused M_setting M_hole M_pipeAt M_chance M_weight M_tape M_letter M_letterAt M_told M_kept M_then M_row)) H := zKeep hP hk1
      exact hret r_5 M_refused _ _ _ _ h hP hS dX5_both_54
    · replace h := h.2 z
      refine lv_aload_n hx hb dX5_both_28 rfl (lv_at hl 1 rfl) ?_
      refine lv_iload_n hx hb dX5_both_29 rfl (lv_at hl 0 rfl) ?_
      refine zcl hA (hDD _ rfl) hS (zrunV (As := [.int r_1]) (rest := []) S hK hA hE hP (hDD _ rfl) hS (mX5_lowest l D cI cJ cC G a_M _ M_pipes M_used M_taped M_at M_statements M_hasImage M_isKeeping M_cursor M_nextAt M_nextMost M_rowMany M_refused M_setting M_hole M_pipeAt M_chance M_weight M_tape M_letter M_letterAt M_told M_kept M_then M_row r_1 _ h) kX5_lowest ml_X5_197 ⟨rfl, rfl, by decide, by decide⟩ (q0 := 0) (ci := 5) rfl rfl rfl rfl hl.1 rfl (Nat.le_of_ble_eq_true rfl) dX5_both_30 ⟨Nat.zero_le _, Nat.zero_le _⟩) (fun r_6 M_refused_7 H locs h hP1 hk1 hS => ?_)
      try dsimp only at h
      have hP : va_P D vwCl ((bX5 cI cJ cC a_M M_pipes M_used M_taped M_at M_statements M_hasImage M_isKeeping M_cursor M_nextAt M_nextMost M_rowMany M_refused_7 M_setting M_hole M_pipeAt M_chance M_weight M_tape M_letter M_letterAt M_told M_kept M_then M_row)) H := hP1
      refine lv_goto (tgt := 54) hx hb dX5_both_33 (by decide) ?_
      exact hret r_6 M_refused_7 _ _ _ _ h hP hS dX5_both_54
  · replace h := h.1 z
    refine lv_iload_n hx hb dX5_both_12 rfl (lv_at hl 3 rfl) ?_
    refine lv_iconst (v := (0 : Int32)) hx hb dX5_both_13 (by decide) ?_
    refine lv_iconst (v := (1 : Int32)) hx hb dX5_both_14 (by decide) ?_
    refine zci hA zD0 hS (zrunS (As := [.int p2, .int (0 : Int32), .int (1 : Int32)]) (rest := []) S hK hA hE zP0 zD0 hS (mX5_isIn l D cI cJ cC G _ p2 (0 : Int32) (1 : Int32) _ h) kX5_isIn ml_X5_77 ⟨rfl, rfl, by decide, by decide⟩ rfl hl.1 rfl (Nat.le_of_ble_eq_true rfl) dX5_both_15 ⟨Nat.zero_le _, Nat.zero_le _⟩) (fun r_8 u H locs h hP1 hk1 hS => ?_)
    try dsimp only at h
    have hP : va_P D vwCl ((bX5 cI cJ cC a_M M_pipes M_used M_taped M_at M_statements M_hasImage M_isKeeping M_cursor M_nextAt M_nextMost M_rowMany M_refused M_setting M_hole M_pipeAt M_chance M_weight M_tape M_letter M_letterAt M_told M_kept M_then M_row)) H := zKeep hP hk1
    refine lv_if_ne (tgt := 24) hx hb dX5_both_18 (by decide) (fun z => ?_) (fun z => ?_)
    · replace h := h.2 z
      refine lv_iload_n hx hb dX5_both_24 rfl (lv_at hl 0 rfl) ?_
      refine lv_if_eq (tgt := 36) hx hb dX5_both_25 (by decide) (fun z => ?_) (fun z => ?_)
      · replace h := h.1 z
        refine lv_aload_n hx hb dX5_both_36 rfl (lv_at hl 1 rfl) ?_
        refine lv_aload_n hx hb dX5_both_37 rfl (lv_at hl 1 rfl) ?_
        refine lv_iload_n hx hb dX5_both_38 rfl (lv_at hl 2 rfl) ?_
        refine zci hA (hDD _ rfl) hS (zrunV (As := [.int p1]) (rest := [.ref (a_M 0)]) S hK hA hE hP (hDD _ rfl) hS (mX5_twoBy l D cI cJ cC G a_M _ M_pipes M_used M_taped M_at M_statements M_hasImage M_isKeeping M_cursor M_nextAt M_nextMost M_rowMany M_refused M_setting M_hole M_pipeAt M_chance M_weight M_tape M_letter M_letterAt M_told M_kept M_then M_row p1 _ h) kX5_twoBy ml_X5_271 ⟨rfl, rfl, by decide, by decide⟩ (q0 := 0) (ci := 5) rfl rfl rfl rfl hl.1 rfl (Nat.le_of_ble_eq_true rfl) dX5_both_39 ⟨Nat.zero_le _, Nat.zero_le _⟩) (fun r_9 u H locs h hP1 hk1 hS => ?_)
        try dsimp only at h
        have hP : va_P D vwCl ((bX5 cI cJ cC a_M M_pipes M_used M_taped M_at M_statements M_hasImage M_isKeeping M_cursor M_nextAt M_nextMost M_rowMany M_refused M_setting M_hole M_pipeAt M_chance M_weight M_tape M_letter M_letterAt M_told M_kept M_then M_row)) H := hP1
        refine lv_iload_n hx hb dX5_both_42 rfl (lv_at hl 2 rfl) ?_
        refine zcl hA (hDD _ rfl) hS (zrunV (As := [.int r_9, .int p1]) (rest := []) S hK hA hE hP (hDD _ rfl) hS (mX5_bothAt l D cI cJ cC G a_M _ M_pipes M_used M_taped M_at M_statements M_hasImage M_isKeeping M_cursor M_nextAt M_nextMost M_rowMany M_refused M_setting M_hole M_pipeAt M_chance M_weight M_tape M_letter M_letterAt M_told M_kept M_then M_row r_9 p1 _ h) kX5_bothAt ml_X5_268 ⟨rfl, rfl, by decide, by decide⟩ (q0 := 0) (ci := 5) rfl rfl rfl rfl hl.1 rfl (Nat.le_of_ble_eq_true rfl) dX5_both_43 ⟨Nat.zero_le _, Nat.zero_le _⟩) (fun r_10 u H locs h hP1 hk1 hS => ?_)
        try dsimp only at h
        have hP : va_P D vwCl ((bX5 cI cJ cC a_M M_pipes M_used M_taped M_at M_statements M_hasImage M_isKeeping M_cursor M_nextAt M_nextMost M_rowMany M_refused M_setting M_hole M_pipeAt M_chance M_weight M_tape M_letter M_letterAt M_told M_kept M_then M_row)) H := hP1
        refine lv_aload_n hx hb dX5_both_46 rfl (lv_at hl 1 rfl) ?_
        refine zcl hA (hDD _ rfl) hS (zrunV (As := []) (rest := [.long r_10]) S hK hA hE hP (hDD _ rfl) hS (mX5_all l D cI cJ cC G a_M _ M_pipes M_used M_taped M_at M_statements M_hasImage M_isKeeping M_cursor M_nextAt M_nextMost M_rowMany M_refused M_setting M_hole M_pipeAt M_chance M_weight M_tape M_letter M_letterAt M_told M_kept M_then M_row _ h) kX5_all ml_X5_216 ⟨rfl, rfl, by decide, by decide⟩ (q0 := 0) (ci := 5) rfl rfl rfl rfl hl.1 rfl (Nat.le_of_ble_eq_true rfl) dX5_both_47 ⟨Nat.zero_le _, Nat.zero_le _⟩) (fun r_11 u H locs h hP1 hk1 hS => ?_)
        try dsimp only at h
        have hP : va_P D vwCl ((bX5 cI cJ cC a_M M_pipes M_used M_taped M_at M_statements M_hasImage M_isKeeping M_cursor M_nextAt M_nextMost M_rowMany M_refused M_setting M_hole M_pipeAt M_chance M_weight M_tape M_letter M_letterAt M_told M_kept M_then M_row)) H := hP1
        refine lv_iload_n hx hb dX5_both_50 rfl (lv_at hl 3 rfl) ?_
        refine zcl hA zD0 hS (zrunS (As := [.long r_10, .long r_11, .int p2]) (rest := []) S hK hA hE zP0 zD0 hS (mX5_partOf l D cI cJ cC G _ r_10 r_11 p2 _ h) kX5_partOf ml_X5_220 ⟨rfl, rfl, by decide, by decide⟩ rfl hl.1 rfl (Nat.le_of_ble_eq_true rfl) dX5_both_51 ⟨Nat.zero_le _, Nat.zero_le _⟩) (fun r_12 u H locs h hP1 hk1 hS => ?_)
        try dsimp only at h
        have hP : va_P D vwCl ((bX5 cI cJ cC a_M M_pipes M_used M_taped M_at M_statements M_hasImage M_isKeeping M_cursor M_nextAt M_nextMost M_rowMany M_refused M_setting M_hole M_pipeAt M_chance M_weight M_tape M_letter M_letterAt M_told M_kept M_then M_row)) H := zKeep hP hk1
        exact hret r_12 M_refused _ _ _ _ h hP hS dX5_both_54
      · replace h := h.2 z
        refine lv_aload_n hx hb dX5_both_28 rfl (lv_at hl 1 rfl) ?_
        refine lv_iload_n hx hb dX5_both_29 rfl (lv_at hl 0 rfl) ?_
        refine zcl hA (hDD _ rfl) hS (zrunV (As := [.int r_1]) (rest := []) S hK hA hE hP (hDD _ rfl) hS (mX5_lowest l D cI cJ cC G a_M _ M_pipes M_used M_taped M_at M_statements M_hasImage M_isKeeping M_cursor M_nextAt M_nextMost M_rowMany M_refused M_setting M_hole M_pipeAt M_chance M_weight M_tape M_letter M_letterAt M_told M_kept M_then M_row r_1 _ h) kX5_lowest ml_X5_197 ⟨rfl, rfl, by decide, by decide⟩ (q0 := 0) (ci := 5) rfl rfl rfl rfl hl.1 rfl (Nat.le_of_ble_eq_true rfl) dX5_both_30 ⟨Nat.zero_le _, Nat.zero_le _⟩) (fun r_13 M_refused_14 H locs h hP1 hk1 hS => ?_)
        try dsimp only at h
        have hP : va_P D vwCl ((bX5 cI cJ cC a_M M_pipes M_used M_taped M_at M_statements M_hasImage M_isKeeping M_cursor M_nextAt M_nextMost M_rowMany M_refused_14 M_setting M_hole M_pipeAt M_chance M_weight M_tape M_letter M_letterAt M_told M_kept M_then M_row)) H := hP1
        refine lv_goto (tgt := 54) hx hb dX5_both_33 (by decide) ?_
        exact hret r_13 M_refused_14 _ _ _ _ h hP hS dX5_both_54
    · replace h := h.1 z
      refine lv_bipush (v := (-2 : Int32)) hx hb dX5_both_21 (by decide) ?_
      refine lv_istore_n (lv' := [(3, .int (-2 : Int32)), (0, .ref (a_M 0)), (1, .int p1), (2, .int p2)]) hx hb dX5_both_23 rfl hl (by decide) rfl (fun ls hl => ?_)
      refine lv_iload_n hx hb dX5_both_24 rfl (lv_at hl 0 rfl) ?_
      refine lv_if_eq (tgt := 36) hx hb dX5_both_25 (by decide) (fun z => ?_) (fun z => ?_)
      · exact absurd z (by decide)
      · refine lv_aload_n hx hb dX5_both_28 rfl (lv_at hl 1 rfl) ?_
        refine lv_iload_n hx hb dX5_both_29 rfl (lv_at hl 0 rfl) ?_
        refine zcl hA (hDD _ rfl) hS (zrunV (As := [.int (-2 : Int32)]) (rest := []) S hK hA hE hP (hDD _ rfl) hS (mX5_lowest l D cI cJ cC G a_M _ M_pipes M_used M_taped M_at M_statements M_hasImage M_isKeeping M_cursor M_nextAt M_nextMost M_rowMany M_refused M_setting M_hole M_pipeAt M_chance M_weight M_tape M_letter M_letterAt M_told M_kept M_then M_row (-2 : Int32) _ h) kX5_lowest ml_X5_197 ⟨rfl, rfl, by decide, by decide⟩ (q0 := 0) (ci := 5) rfl rfl rfl rfl hl.1 rfl (Nat.le_of_ble_eq_true rfl) dX5_both_30 ⟨Nat.zero_le _, Nat.zero_le _⟩) (fun r_15 M_refused_16 H locs h hP1 hk1 hS => ?_)
        try dsimp only at h
        have hP : va_P D vwCl ((bX5 cI cJ cC a_M M_pipes M_used M_taped M_at M_statements M_hasImage M_isKeeping M_cursor M_nextAt M_nextMost M_rowMany M_refused_16 M_setting M_hole M_pipeAt M_chance M_weight M_tape M_letter M_letterAt M_told M_kept M_then M_row)) H := hP1
        refine lv_goto (tgt := 54) hx hb dX5_both_33 (by decide) ?_
        exact hret r_15 M_refused_16 _ _ _ _ h hP hS dX5_both_54
