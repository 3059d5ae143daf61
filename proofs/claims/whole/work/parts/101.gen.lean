def wpX5_no (post : Int32 → (Nat → Int32) → Prop) (M_refused : Nat → Int32) (p1 : Int32) : Prop := vp_in (-p1) 7 ∧ (vp_in (-p1) 7 ∧ (post p1 (upd M_refused (-p1).toNatClampNeg ((M_refused (-p1).toNatClampNeg) + (1 : Int32)))))
set_option maxHeartbeats 4000000 in
set_option maxRecDepth 100000 in
theorem mX5_no (l : Launch) (D : va_G) (cI cJ cC : ClassId) (G : Nat → Nat → Nat) (a_M : Nat → Nat) (sz : Nat) (M_pipes : Int32) (M_used : Int32) (M_taped : Int32) (M_at : Int32) (M_statements : Int32) (M_hasImage : Int32) (M_isKeeping : Int32) (M_cursor : Int32) (M_nextAt : Int32) (M_nextMost : Int64) (M_rowMany : Int32) (M_refused : Nat → Int32) (M_setting : Nat → Int32) (M_hole : Nat → Int32) (M_pipeAt : Nat → Int32) (M_chance : Nat → Int32) (M_weight : Nat → Int32) (M_tape : Nat → Int32) (M_letter : Nat → Int32) (M_letterAt : Nat → Int32) (M_told : Nat → Int32) (M_kept : Nat → Int32) (M_then : Nat → Int64) (M_row : Nat → Int32) (p1 : Int32) (post : Int32 → (Nat → Int32) → Prop) (h : wpX5_no post M_refused p1) : Met l yX5_no (wz yX5_no cX5_no 2 (some .int)) ({ frames := 0, cells := 0, slots := 0, locals := 0 }) (va_Pc [.ref (a_M 0), .int p1] (PW D (tz cI cJ cC) G ((bX5 cI cJ cC a_M M_pipes M_used M_taped M_at M_statements M_hasImage M_isKeeping M_cursor M_nextAt M_nextMost M_rowMany M_refused M_setting M_hole M_pipeAt M_chance M_weight M_tape M_letter M_letterAt M_told M_kept M_then M_row)) sz)) (va_Qi (fun (r : Int32) (u : (Nat → Int32)) => post r u) (fun (u : (Nat → Int32)) t => va_P D vwCl ((bX5 cI cJ cC a_M M_pipes M_used M_taped M_at M_statements M_hasImage M_isKeeping M_cursor M_nextAt M_nextMost M_rowMany u M_setting M_hole M_pipeAt M_chance M_weight M_tape M_letter M_letterAt M_told M_kept M_then M_row)) t.heap) (va_A ((bX5 cI cJ cC a_M M_pipes M_used M_taped M_at M_statements M_hasImage M_isKeeping M_cursor M_nextAt M_nextMost M_rowMany M_refused M_setting M_hole M_pipeAt M_chance M_weight M_tape M_letter M_letterAt M_told M_kept M_then M_row)) sz)) 0 0 (va_A ((bX5 cI cJ cC a_M M_pipes M_used M_taped M_at M_statements M_hasImage M_isKeeping M_cursor M_nextAt M_nextMost M_rowMany M_refused M_setting M_hole M_pipeAt M_chance M_weight M_tape M_letter M_letterAt M_told M_kept M_then M_row)) sz) := by
  refine zmi (gw := fun (u : (Nat → Int32)) => (bX5 cI cJ cC a_M M_pipes M_used M_taped M_at M_statements M_hasImage M_isKeeping M_cursor M_nextAt M_nextMost M_rowMany u M_setting M_hole M_pipeAt M_chance M_weight M_tape M_letter M_letterAt M_told M_kept M_then M_row)) (plainFor_of_name (by decide)) (Nat.le_of_ble_eq_true rfl) ?_
  intro p e s m below meth c A Q ls S hK hD hA hE hP hl hret
  obtain ⟨hx, hb, hml, hown, ht⟩ := id S
  have hS : va_S A s.heap s.heap [] := va_S.rf
  have hDD : ∀ ws : va_W, ws.map (fun q => q.1) = [a_M 0, a_M 1, a_M 2, a_M 3, a_M 4, a_M 5, a_M 6, a_M 7, a_M 8, a_M 9, a_M 10, a_M 11, a_M 12, a_M 13] → va_D A ws := fun ws hw => zD hD (hw.trans rfl)
  have hl : lv_has ls 2 [(0, .ref (a_M 0)), (1, .int p1)] := hl
  unfold wpX5_no at h
  refine lv_aload_n hx hb dX5_no_0 rfl (lv_at hl 0 rfl) ?_
  refine va_get (D := D) (ci := 5) (v := .ref (a_M 1)) (C := RX5) (T := TX5) (N := 24) hx hb ht inX5 hown hK hP 0 rfl rfl 0 (by decide) (ht _ fl_X5_7) (fun _ h9 => h9) rfl dX5_no_1 ?_
  refine lv_iload_n hx hb dX5_no_4 rfl (lv_at hl 1 rfl) ?_
  refine lv_ineg hx hb dX5_no_5 ?_
  refine lv_dup2_11 hx hb dX5_no_6 rfl rfl ?_
  obtain ⟨hin, h⟩ := h
  refine va_iald hx hb hK hP 1 0 rfl rfl hin dX5_no_7 ?_
  refine lv_iconst (v := (1 : Int32)) hx hb dX5_no_8 (by decide) ?_
  refine lv_iadd hx hb dX5_no_9 ?_
  obtain ⟨hin, h⟩ := h
  refine va_iast hx hb hK hP (hDD _ rfl) hS 1 0 rfl rfl hin dX5_no_10 (fun H locs hP _ hS => ?_)
  have hP : va_P D vwCl ((bX5 cI cJ cC a_M M_pipes M_used M_taped M_at M_statements M_hasImage M_isKeeping M_cursor M_nextAt M_nextMost M_rowMany (upd M_refused (-p1).toNatClampNeg ((M_refused (-p1).toNatClampNeg) + (1 : Int32))) M_setting M_hole M_pipeAt M_chance M_weight M_tape M_letter M_letterAt M_told M_kept M_then M_row)) H := hP
  refine lv_iload_n hx hb dX5_no_11 rfl (lv_at hl 1 rfl) ?_
  exact hret p1 (upd M_refused (-p1).toNatClampNeg ((M_refused (-p1).toNatClampNeg) + (1 : Int32))) _ _ _ _ rfl h hP hS dX5_no_12
def wpX5_lowest (post : Int64 → (Nat → Int32) → Prop) (M_refused : Nat → Int32) (p1 : Int32) : Prop := vp_in (-p1) 7 ∧ (vp_in (-p1) 7 ∧ (post ((4000000000000000000 : Int64) - p1.toInt64) (upd M_refused (-p1).toNatClampNeg ((M_refused (-p1).toNatClampNeg) + (1 : Int32)))))
set_option maxHeartbeats 4000000 in
set_option maxRecDepth 100000 in
theorem mX5_lowest (l : Launch) (D : va_G) (cI cJ cC : ClassId) (G : Nat → Nat → Nat) (a_M : Nat → Nat) (sz : Nat) (M_pipes : Int32) (M_used : Int32) (M_taped : Int32) (M_at : Int32) (M_statements : Int32) (M_hasImage : Int32) (M_isKeeping : Int32) (M_cursor : Int32) (M_nextAt : Int32) (M_nextMost : Int64) (M_rowMany : Int32) (M_refused : Nat → Int32) (M_setting : Nat → Int32) (M_hole : Nat → Int32) (M_pipeAt : Nat → Int32) (M_chance : Nat → Int32) (M_weight : Nat → Int32) (M_tape : Nat → Int32) (M_letter : Nat → Int32) (M_letterAt : Nat → Int32) (M_told : Nat → Int32) (M_kept : Nat → Int32) (M_then : Nat → Int64) (M_row : Nat → Int32) (p1 : Int32) (post : Int64 → (Nat → Int32) → Prop) (h : wpX5_lowest post M_refused p1) : Met l yX5_lowest (wz yX5_lowest cX5_lowest 2 (some .long)) ({ frames := 0, cells := 0, slots := 0, locals := 0 }) (va_Pc [.ref (a_M 0), .int p1] (PW D (tz cI cJ cC) G ((bX5 cI cJ cC a_M M_pipes M_used M_taped M_at M_statements M_hasImage M_isKeeping M_cursor M_nextAt M_nextMost M_rowMany M_refused M_setting M_hole M_pipeAt M_chance M_weight M_tape M_letter M_letterAt M_told M_kept M_then M_row)) sz)) (va_Ql (fun (r : Int64) (u : (Nat → Int32)) => post r u) (fun (u : (Nat → Int32)) t => va_P D vwCl ((bX5 cI cJ cC a_M M_pipes M_used M_taped M_at M_statements M_hasImage M_isKeeping M_cursor M_nextAt M_nextMost M_rowMany u M_setting M_hole M_pipeAt M_chance M_weight M_tape M_letter M_letterAt M_told M_kept M_then M_row)) t.heap) (va_A ((bX5 cI cJ cC a_M M_pipes M_used M_taped M_at M_statements M_hasImage M_isKeeping M_cursor M_nextAt M_nextMost M_rowMany M_refused M_setting M_hole M_pipeAt M_chance M_weight M_tape M_letter M_letterAt M_told M_kept M_then M_row)) sz)) 0 0 (va_A ((bX5 cI cJ cC a_M M_pipes M_used M_taped M_at M_statements M_hasImage M_isKeeping M_cursor M_nextAt M_nextMost M_rowMany M_refused M_setting M_hole M_pipeAt M_chance M_weight M_tape M_letter M_letterAt M_told M_kept M_then M_row)) sz) := by
  refine zml (gw := fun (u : (Nat → Int32)) => (bX5 cI cJ cC a_M M_pipes M_used M_taped M_at M_statements M_hasImage M_isKeeping M_cursor M_nextAt M_nextMost M_rowMany u M_setting M_hole M_pipeAt M_chance M_weight M_tape M_letter M_letterAt M_told M_kept M_then M_row)) (plainFor_of_name (by decide)) (Nat.le_of_ble_eq_true rfl) ?_
  intro p e s m below meth c A Q ls S hK hD hA hE hP hl hret
  obtain ⟨hx, hb, hml, hown, ht⟩ := id S
  have hS : va_S A s.heap s.heap [] := va_S.rf
  have hDD : ∀ ws : va_W, ws.map (fun q => q.1) = [a_M 0, a_M 1, a_M 2, a_M 3, a_M 4, a_M 5, a_M 6, a_M 7, a_M 8, a_M 9, a_M 10, a_M 11, a_M 12, a_M 13] → va_D A ws := fun ws hw => zD hD (hw.trans rfl)
  have hl : lv_has ls 2 [(0, .ref (a_M 0)), (1, .int p1)] := hl
  unfold wpX5_lowest at h
  refine lv_aload_n hx hb dX5_lowest_0 rfl (lv_at hl 0 rfl) ?_
  refine va_get (D := D) (ci := 5) (v := .ref (a_M 1)) (C := RX5) (T := TX5) (N := 24) hx hb ht inX5 hown hK hP 0 rfl rfl 0 (by decide) (ht _ fl_X5_7) (fun _ h9 => h9) rfl dX5_lowest_1 ?_
  refine lv_iload_n hx hb dX5_lowest_4 rfl (lv_at hl 1 rfl) ?_
  refine lv_ineg hx hb dX5_lowest_5 ?_
  refine lv_dup2_11 hx hb dX5_lowest_6 rfl rfl ?_
  obtain ⟨hin, h⟩ := h
  refine va_iald hx hb hK hP 1 0 rfl rfl hin dX5_lowest_7 ?_
  refine lv_iconst (v := (1 : Int32)) hx hb dX5_lowest_8 (by decide) ?_
  refine lv_iadd hx hb dX5_lowest_9 ?_
  obtain ⟨hin, h⟩ := h
  refine va_iast hx hb hK hP (hDD _ rfl) hS 1 0 rfl rfl hin dX5_lowest_10 (fun H locs hP _ hS => ?_)
  have hP : va_P D vwCl ((bX5 cI cJ cC a_M M_pipes M_used M_taped M_at M_statements M_hasImage M_isKeeping M_cursor M_nextAt M_nextMost M_rowMany (upd M_refused (-p1).toNatClampNeg ((M_refused (-p1).toNatClampNeg) + (1 : Int32))) M_setting M_hole M_pipeAt M_chance M_weight M_tape M_letter M_letterAt M_told M_kept M_then M_row)) H := hP
  refine lv_ldc2 hx hb hown (ht _ kc_X5_53) dX5_lowest_11 ?_
  refine lv_iload_n hx hb dX5_lowest_14 rfl (lv_at hl 1 rfl) ?_
  refine lv_i2l hx hb dX5_lowest_15 rfl ?_
  refine lv_lsub hx hb dX5_lowest_16 ?_
  exact hret ((4000000000000000000 : Int64) - p1.toInt64) (upd M_refused (-p1).toNatClampNeg ((M_refused (-p1).toNatClampNeg) + (1 : Int32))) _ _ _ _ h hP hS dX5_lowest_17
def wpX5_isIn (post : Int32 → Prop) (p0 : Int32) (p1 : Int32) (p2 : Int32) : Prop := ((p0 < p1 → (post (0 : Int32))) ∧ (¬ (p0 < p1) → (((p2 < p0 → (post (0 : Int32))) ∧ (¬ (p2 < p0) → (post (1 : Int32)))))))
set_option maxHeartbeats 4000000 in
set_option maxRecDepth 100000 in
theorem mX5_isIn (l : Launch) (D : va_G) (cI cJ cC : ClassId) (G : Nat → Nat → Nat) (sz : Nat) (p0 : Int32) (p1 : Int32) (p2 : Int32) (post : Int32 → Prop) (h : wpX5_isIn post p0 p1 p2) : Met l yX5_isIn (wz yX5_isIn cX5_isIn 3 (some .boolean)) ({ frames := 0, cells := 0, slots := 0, locals := 0 }) (va_Pc [.int p0, .int p1, .int p2] (PW D (tz cI cJ cC) G ([]) sz)) (va_Qi (fun (r : Int32) (u : Unit) => post r ) (fun (u : Unit) t => va_P D vwCl ([]) t.heap) (va_A ([]) sz)) 0 0 (va_A ([]) sz) := by
  refine zmi (gw := fun (u : Unit) => []) (plainFor_of_name (by decide)) (Nat.le_of_ble_eq_true rfl) ?_
  intro p e s m below meth c A Q ls S hK hD hA hE hP hl hret
  obtain ⟨hx, hb, hml, hown, ht⟩ := id S
  have hS : va_S A s.heap s.heap [] := va_S.rf
  have hDD : ∀ ws : va_W, ws.map (fun q => q.1) = [] → va_D A ws := fun ws hw => zD hD (hw.trans rfl)
  have hl : lv_has ls 3 [(0, .int p0), (1, .int p1), (2, .int p2)] := hl
  unfold wpX5_isIn at h
  refine lv_iload_n hx hb dX5_isIn_0 rfl (lv_at hl 0 rfl) ?_
  refine lv_iload_n hx hb dX5_isIn_1 rfl (lv_at hl 1 rfl) ?_
  refine lv_icmp_lt (tgt := 14) hx hb dX5_isIn_2 (by decide) (fun z => ?_) (fun z => ?_)
  · replace h := h.1 z
    refine lv_iconst (v := (0 : Int32)) hx hb dX5_isIn_14 (by decide) ?_
    exact hret (0 : Int32) () _ _ _ _ rfl h hP hS dX5_isIn_15
  · replace h := h.2 z
    refine lv_iload_n hx hb dX5_isIn_5 rfl (lv_at hl 0 rfl) ?_
    refine lv_iload_n hx hb dX5_isIn_6 rfl (lv_at hl 2 rfl) ?_
    refine lv_icmp_gt (tgt := 14) hx hb dX5_isIn_7 (by decide) (fun z => ?_) (fun z => ?_)
    · replace h := h.1 z
      refine lv_iconst (v := (0 : Int32)) hx hb dX5_isIn_14 (by decide) ?_
      exact hret (0 : Int32) () _ _ _ _ rfl h hP hS dX5_isIn_15
    · replace h := h.2 z
      refine lv_iconst (v := (1 : Int32)) hx hb dX5_isIn_10 (by decide) ?_
      refine lv_goto (tgt := 15) hx hb dX5_isIn_11 (by decide) ?_
      exact hret (1 : Int32) () _ _ _ _ rfl h hP hS dX5_isIn_15
def wpX5_bound (post : Int32 → Prop) (p0 : Int32) (p1 : Int32) (p2 : Int32) : Prop := ((p1 ≤ p0 → (((p0 ≤ p2 → (post (0 : Int32))) ∧ (¬ (p0 ≤ p2) → (post (-6 : Int32)))))) ∧ (¬ (p1 ≤ p0) → (post (-4 : Int32))))
set_option maxHeartbeats 4000000 in
set_option maxRecDepth 100000 in
theorem mX5_bound (l : Launch) (D : va_G) (cI cJ cC : ClassId) (G : Nat → Nat → Nat) (sz : Nat) (p0 : Int32) (p1 : Int32) (p2 : Int32) (post : Int32 → Prop) (h : wpX5_bound post p0 p1 p2) : Met l yX5_bound (wz yX5_bound cX5_bound 3 (some .int)) ({ frames := 0, cells := 0, slots := 0, locals := 0 }) (va_Pc [.int p0, .int p1, .int p2] (PW D (tz cI cJ cC) G ([]) sz)) (va_Qi (fun (r : Int32) (u : Unit) => post r ) (fun (u : Unit) t => va_P D vwCl ([]) t.heap) (va_A ([]) sz)) 0 0 (va_A ([]) sz) := by
  refine zmi (gw := fun (u : Unit) => []) (plainFor_of_name (by decide)) (Nat.le_of_ble_eq_true rfl) ?_
  intro p e s m below meth c A Q ls S hK hD hA hE hP hl hret
  obtain ⟨hx, hb, hml, hown, ht⟩ := id S
  have hS : va_S A s.heap s.heap [] := va_S.rf
  have hDD : ∀ ws : va_W, ws.map (fun q => q.1) = [] → va_D A ws := fun ws hw => zD hD (hw.trans rfl)
  have hl : lv_has ls 3 [(0, .int p0), (1, .int p1), (2, .int p2)] := hl
  unfold wpX5_bound at h
  refine lv_iload_n hx hb dX5_bound_0 rfl (lv_at hl 0 rfl) ?_
  refine lv_iload_n hx hb dX5_bound_1 rfl (lv_at hl 1 rfl) ?_
  refine lv_icmp_ge (tgt := 10) hx hb dX5_bound_2 (by decide) (fun z => ?_) (fun z => ?_)
  · replace h := h.1 z
    refine lv_iload_n hx hb dX5_bound_10 rfl (lv_at hl 0 rfl) ?_
    refine lv_iload_n hx hb dX5_bound_11 rfl (lv_at hl 2 rfl) ?_
    refine lv_icmp_le (tgt := 20) hx hb dX5_bound_12 (by decide) (fun z => ?_) (fun z => ?_)
    · replace h := h.1 z
      refine lv_iconst (v := (0 : Int32)) hx hb dX5_bound_20 (by decide) ?_
      exact hret (0 : Int32) () _ _ _ _ rfl h hP hS dX5_bound_21
    · replace h := h.2 z
      refine lv_bipush (v := (-6 : Int32)) hx hb dX5_bound_15 (by decide) ?_
      refine lv_goto (tgt := 21) hx hb dX5_bound_17 (by decide) ?_
      exact hret (-6 : Int32) () _ _ _ _ rfl h hP hS dX5_bound_21
  · replace h := h.2 z
    refine lv_bipush (v := (-4 : Int32)) hx hb dX5_bound_5 (by decide) ?_
    refine lv_goto (tgt := 21) hx hb dX5_bound_7 (by decide) ?_
    exact hret (-4 : Int32) () _ _ _ _ rfl h hP hS dX5_bound_21
def wpX5_isInch (post : Int32 → Prop) (p0 : Int32) : Prop := ((p0 < (0 : Int32) → (post (0 : Int32))) ∧ (¬ (p0 < (0 : Int32)) → ((((48 : Int32) ≤ p0 → (post (0 : Int32))) ∧ (¬ ((48 : Int32) ≤ p0) → (post (1 : Int32)))))))
set_option maxHeartbeats 4000000 in
set_option maxRecDepth 100000 in
theorem mX5_isInch (l : Launch) (D : va_G) (cI cJ cC : ClassId) (G : Nat → Nat → Nat) (sz : Nat) (p0 : Int32) (post : Int32 → Prop) (h : wpX5_isInch post p0) : Met l yX5_isInch (wz yX5_isInch cX5_isInch 1 (some .boolean)) ({ frames := 0, cells := 0, slots := 0, locals := 0 }) (va_Pc [.int p0] (PW D (tz cI cJ cC) G ([]) sz)) (va_Qi (fun (r : Int32) (u : Unit) => post r ) (fun (u : Unit) t => va_P D vwCl ([]) t.heap) (va_A ([]) sz)) 0 0 (va_A ([]) sz) := by
  refine zmi (gw := fun (u : Unit) => []) (plainFor_of_name (by decide)) (Nat.le_of_ble_eq_true rfl) ?_
  intro p e s m below meth c A Q ls S hK hD hA hE hP hl hret
  obtain ⟨hx, hb, hml, hown, ht⟩ := id S
  have hS : va_S A s.heap s.heap [] := va_S.rf
  have hDD : ∀ ws : va_W, ws.map (fun q => q.1) = [] → va_D A ws := fun ws hw => zD hD (hw.trans rfl)
  have hl : lv_has ls 1 [(0, .int p0)] := hl
  unfold wpX5_isInch at h
  refine lv_iload_n hx hb dX5_isInch_0 rfl (lv_at hl 0 rfl) ?_
  refine lv_if_lt (tgt := 14) hx hb dX5_isInch_1 (by decide) (fun z => ?_) (fun z => ?_)
  · replace h := h.1 z
    refine lv_iconst (v := (0 : Int32)) hx hb dX5_isInch_14 (by decide) ?_
    exact hret (0 : Int32) () _ _ _ _ rfl h hP hS dX5_isInch_15
  · replace h := h.2 z
    refine lv_iload_n hx hb dX5_isInch_4 rfl (lv_at hl 0 rfl) ?_
    refine lv_bipush (v := (48 : Int32)) hx hb dX5_isInch_5 (by decide) ?_
    refine lv_icmp_ge (tgt := 14) hx hb dX5_isInch_7 (by decide) (fun z => ?_) (fun z => ?_)
    · replace h := h.1 z
      refine lv_iconst (v := (0 : Int32)) hx hb dX5_isInch_14 (by decide) ?_
      exact hret (0 : Int32) () _ _ _ _ rfl h hP hS dX5_isInch_15
    · replace h := h.2 z
      refine lv_iconst (v := (1 : Int32)) hx hb dX5_isInch_10 (by decide) ?_
      refine lv_goto (tgt := 15) hx hb dX5_isInch_11 (by decide) ?_
      exact hret (1 : Int32) () _ _ _ _ rfl h hP hS dX5_isInch_15
def wpX5_modulo (post : Int32 → Prop) (p0 : Int32) (p1 : Int32) : Prop := ¬ p1 = 0 ∧ ((((0 : Int32) ≤ (p0 - p0 / p1 * p1) → (post (p0 - p0 / p1 * p1))) ∧ (¬ ((0 : Int32) ≤ (p0 - p0 / p1 * p1)) → (post ((p0 - p0 / p1 * p1) + p1)))))
set_option maxHeartbeats 4000000 in
set_option maxRecDepth 100000 in
theorem mX5_modulo (l : Launch) (D : va_G) (cI cJ cC : ClassId) (G : Nat → Nat → Nat) (sz : Nat) (p0 : Int32) (p1 : Int32) (post : Int32 → Prop) (h : wpX5_modulo post p0 p1) : Met l yX5_modulo (wz yX5_modulo cX5_modulo 3 (some .int)) ({ frames := 0, cells := 0, slots := 0, locals := 0 }) (va_Pc [.int p0, .int p1] (PW D (tz cI cJ cC) G ([]) sz)) (va_Qi (fun (r : Int32) (u : Unit) => post r ) (fun (u : Unit) t => va_P D vwCl ([]) t.heap) (va_A ([]) sz)) 0 0 (va_A ([]) sz) := by
  refine zmi (gw := fun (u : Unit) => []) (plainFor_of_name (by decide)) (Nat.le_of_ble_eq_true rfl) ?_
  intro p e s m below meth c A Q ls S hK hD hA hE hP hl hret
  obtain ⟨hx, hb, hml, hown, ht⟩ := id S
  have hS : va_S A s.heap s.heap [] := va_S.rf
  have hDD : ∀ ws : va_W, ws.map (fun q => q.1) = [] → va_D A ws := fun ws hw => zD hD (hw.trans rfl)
  have hl : lv_has ls 3 [(0, .int p0), (1, .int p1)] := hl
  unfold wpX5_modulo at h
  refine lv_iload_n hx hb dX5_modulo_0 rfl (lv_at hl 0 rfl) ?_
  refine lv_iload_n hx hb dX5_modulo_1 rfl (lv_at hl 1 rfl) ?_
  obtain ⟨hne, h⟩ := h
  refine lv_irem hx hb dX5_modulo_2 hne ?_
  refine lv_istore_n (lv' := [(2, .int (p0 - p0 / p1 * p1)), (0, .int p0), (1, .int p1)]) hx hb dX5_modulo_3 rfl hl (by decide) rfl (fun ls hl => ?_)
  refine lv_iload_n hx hb dX5_modulo_4 rfl (lv_at hl 0 rfl) ?_
  refine lv_if_ge (tgt := 14) hx hb dX5_modulo_5 (by decide) (fun z => ?_) (fun z => ?_)
  · replace h := h.1 z
    refine lv_iload_n hx hb dX5_modulo_14 rfl (lv_at hl 0 rfl) ?_
    exact hret (p0 - p0 / p1 * p1) () _ _ _ _ rfl h hP hS dX5_modulo_15
  · replace h := h.2 z
    refine lv_iload_n hx hb dX5_modulo_8 rfl (lv_at hl 0 rfl) ?_
    refine lv_iload_n hx hb dX5_modulo_9 rfl (lv_at hl 2 rfl) ?_
    refine lv_iadd hx hb dX5_modulo_10 ?_
    refine lv_goto (tgt := 15) hx hb dX5_modulo_11 (by decide) ?_
    exact hret ((p0 - p0 / p1 * p1) + p1) () _ _ _ _ rfl h hP hS dX5_modulo_15
def lpX5_alike_2 (K : Int32 → (Nat → Int32) → Prop) : Nat → Int32 → (Nat → Int32) → Prop
  | 0, _, _ => False
  | n + 1, x1, M_weight => (((24 : Int32) ≤ x1 → (K x1 M_weight)) ∧ (¬ ((24 : Int32) ≤ x1) → (vp_in x1 24 ∧ (lpX5_alike_2 K n (x1 + (1 : Int32)) (upd M_weight x1.toNatClampNeg (1 : Int32))))))
set_option maxHeartbeats 4000000 in
set_option maxRecDepth 100000 in
theorem wX5_alike_2 (l : Launch) (D : va_G) (cI cJ cC : ClassId) (G : Nat → Nat → Nat) (a_M : Nat → Nat) {p : Program} {e : Env} {s : State} {m : MethodId} {below : List Frame} {meth : Method} {c : Code} {A : Nat → Prop} {Q : State → Prop} (M_pipes : Int32) (M_used : Int32) (M_taped : Int32) (M_at : Int32) (M_statements : Int32) (M_hasImage : Int32) (M_isKeeping : Int32) (M_cursor : Int32) (M_nextAt : Int32) (M_nextMost : Int64) (M_rowMany : Int32) (M_refused : Nat → Int32) (M_setting : Nat → Int32) (M_hole : Nat → Int32) (M_pipeAt : Nat → Int32) (M_chance : Nat → Int32) (M_tape : Nat → Int32) (M_letter : Nat → Int32) (M_letterAt : Nat → Int32) (M_told : Nat → Int32) (M_kept : Nat → Int32) (M_then : Nat → Int64) (M_row : Nat → Int32) (K : Int32 → (Nat → Int32) → Prop) (S : CallFix p m c cX5_alike 2 s ([.ref (a_M 0)] : List Value).toArray bg RX5) (hK : va_K D vwCl (tz cI cJ cC) s) (hDD : ∀ ws : va_W, ws.map (fun q => q.1) = [a_M 0, a_M 1, a_M 2, a_M 3, a_M 4, a_M 5, a_M 6, a_M 7, a_M 8, a_M 9, a_M 10, a_M 11, a_M 12, a_M 13] → va_D A ws) (hA : ∀ q, s.heap.size ≤ q → A q) (hE : EV G A s) (hKK : ∀ (x1 : Int32) (M_weight : Nat → Int32) (H : Heap) (locs : List Loc) (ls : Array Slot), K x1 M_weight → va_P D vwCl ((bX5 cI cJ cC a_M M_pipes M_used M_taped M_at M_statements M_hasImage M_isKeeping M_cursor M_nextAt M_nextMost M_rowMany M_refused M_setting M_hole M_pipeAt M_chance M_weight M_tape M_letter M_letterAt M_told M_kept M_then M_row)) H → va_S A s.heap H locs → lv_has ls 2 [(0, .ref (a_M 0))] → W p l e ({ frames := 0, cells := 0, slots := 0, locals := 0 }) s m ([.ref (a_M 0)] : List Value).toArray below meth c H locs 0 0 Q (F0 m 21 ls [])) :
    ∀ (n : Nat) (x1 : Int32) (M_weight : Nat → Int32) (H : Heap) (locs : List Loc) (ls : Array Slot), lpX5_alike_2 K n x1 M_weight → va_P D vwCl ((bX5 cI cJ cC a_M M_pipes M_used M_taped M_at M_statements M_hasImage M_isKeeping M_cursor M_nextAt M_nextMost M_rowMany M_refused M_setting M_hole M_pipeAt M_chance M_weight M_tape M_letter M_letterAt M_told M_kept M_then M_row)) H → va_S A s.heap H locs → lv_has ls 2 [(0, .ref (a_M 0)), (1, .int x1)] → W p l e ({ frames := 0, cells := 0, slots := 0, locals := 0 }) s m ([.ref (a_M 0)] : List Value).toArray below meth c H locs 0 0 Q (F0 m 2 ls []) := by
  obtain ⟨hx, hb, hml, hown, ht⟩ := id S
  intro n
  induction n with
  | zero =>
    intro x1 M_weight H locs ls h
    exact absurd h (by simp [lpX5_alike_2])
  | succ n ih =>
    intro x1 M_weight H locs ls h hP hS hl
    rw [lpX5_alike_2] at h
    refine lv_iload_n hx hb dX5_alike_2 rfl (lv_at hl 1 rfl) ?_
    refine lv_bipush (v := (24 : Int32)) hx hb dX5_alike_3 (by decide) ?_
    refine lv_icmp_ge (tgt := 21) hx hb dX5_alike_5 (by decide) (fun z => ?_) (fun z => ?_)
    · replace h := h.1 z
      exact hKK x1 M_weight _ _ _ h hP hS (lv_sub hl [0] rfl)
    · replace h := h.2 z
      refine lv_aload_n hx hb dX5_alike_8 rfl (lv_at hl 0 rfl) ?_
      refine va_get (D := D) (ci := 5) (v := .ref (a_M 6)) (C := RX5) (T := TX5) (N := 24) hx hb ht inX5 hown hK hP 0 rfl rfl 5 (by decide) (ht _ fl_X5_25) (fun _ h9 => h9) rfl dX5_alike_9 ?_
      refine lv_iload_n hx hb dX5_alike_12 rfl (lv_at hl 1 rfl) ?_
      refine lv_iconst (v := (1 : Int32)) hx hb dX5_alike_13 (by decide) ?_
      obtain ⟨hin, h⟩ := h
      refine va_iast hx hb hK hP (hDD _ rfl) hS 6 0 rfl rfl hin dX5_alike_14 (fun H locs hP _ hS => ?_)
      have hP : va_P D vwCl ((bX5 cI cJ cC a_M M_pipes M_used M_taped M_at M_statements M_hasImage M_isKeeping M_cursor M_nextAt M_nextMost M_rowMany M_refused M_setting M_hole M_pipeAt M_chance (upd M_weight x1.toNatClampNeg (1 : Int32)) M_tape M_letter M_letterAt M_told M_kept M_then M_row)) H := hP
      refine lv_iinc (v := x1 + (1 : Int32)) (lv' := [(1, .int (x1 + (1 : Int32))), (0, .ref (a_M 0))]) hx hb dX5_alike_15 hl (k := 1) rfl (by rfl) (by decide) rfl (fun ls hl => ?_)
      refine lv_goto (tgt := 2) hx hb dX5_alike_18 (by decide) ?_
      exact ih (x1 + (1 : Int32)) (upd M_weight x1.toNatClampNeg (1 : Int32)) _ _ _ h hP hS (lv_sub hl [1, 0] rfl)
def wpX5_alike (post : Int32 → (Nat → Int32) → Prop) (M_weight : Nat → Int32) : Prop := ∃ n_1 : Nat, lpX5_alike_2 (fun (x1_2 : Int32) (M_weight_3 : Nat → Int32) => post (0 : Int32) M_weight_3) n_1 (0 : Int32) M_weight
set_option maxHeartbeats 4000000 in
set_option maxRecDepth 100000 in
theorem mX5_alike (l : Launch) (D : va_G) (cI cJ cC : ClassId) (G : Nat → Nat → Nat) (a_M : Nat → Nat) (sz : Nat) (M_pipes : Int32) (M_used : Int32) (M_taped : Int32) (M_at : Int32) (M_statements : Int32) (M_hasImage : Int32) (M_isKeeping : Int32) (M_cursor : Int32) (M_nextAt : Int32) (M_nextMost : Int64) (M_rowMany : Int32) (M_refused : Nat → Int32) (M_setting : Nat → Int32) (M_hole : Nat → Int32) (M_pipeAt : Nat → Int32) (M_chance : Nat → Int32) (M_weight : Nat → Int32) (M_tape : Nat → Int32) (M_letter : Nat → Int32) (M_letterAt : Nat → Int32) (M_told : Nat → Int32) (M_kept : Nat → Int32) (M_then : Nat → Int64) (M_row : Nat → Int32) (post : Int32 → (Nat → Int32) → Prop) (h : wpX5_alike post M_weight) : Met l yX5_alike (wz yX5_alike cX5_alike 2 none) ({ frames := 0, cells := 0, slots := 0, locals := 0 }) (va_Pc [.ref (a_M 0)] (PW D (tz cI cJ cC) G ((bX5 cI cJ cC a_M M_pipes M_used M_taped M_at M_statements M_hasImage M_isKeeping M_cursor M_nextAt M_nextMost M_rowMany M_refused M_setting M_hole M_pipeAt M_chance M_weight M_tape M_letter M_letterAt M_told M_kept M_then M_row)) sz)) (va_Qv (fun (u : Int32 × (Nat → Int32)) => post u.1 u.2) (fun (u : Int32 × (Nat → Int32)) t => va_P D vwCl ((bX5 cI cJ cC a_M M_pipes u.1 M_taped M_at M_statements M_hasImage M_isKeeping M_cursor M_nextAt M_nextMost M_rowMany M_refused M_setting M_hole M_pipeAt M_chance u.2 M_tape M_letter M_letterAt M_told M_kept M_then M_row)) t.heap) (va_A ((bX5 cI cJ cC a_M M_pipes M_used M_taped M_at M_statements M_hasImage M_isKeeping M_cursor M_nextAt M_nextMost M_rowMany M_refused M_setting M_hole M_pipeAt M_chance M_weight M_tape M_letter M_letterAt M_told M_kept M_then M_row)) sz)) 0 0 (va_A ((bX5 cI cJ cC a_M M_pipes M_used M_taped M_at M_statements M_hasImage M_isKeeping M_cursor M_nextAt M_nextMost M_rowMany M_refused M_setting M_hole M_pipeAt M_chance M_weight M_tape M_letter M_letterAt M_told M_kept M_then M_row)) sz) := by
  refine zmv (gw := fun (u : Int32 × (Nat → Int32)) => (bX5 cI cJ cC a_M M_pipes u.1 M_taped M_at M_statements M_hasImage M_isKeeping M_cursor M_nextAt M_nextMost M_rowMany M_refused M_setting M_hole M_pipeAt M_chance u.2 M_tape M_letter M_letterAt M_told M_kept M_then M_row)) (plainFor_of_name (by decide)) (Nat.le_of_ble_eq_true rfl) ?_
  intro p e s m below meth c A Q ls S hK hD hA hE hP hl hret
  obtain ⟨hx, hb, hml, hown, ht⟩ := id S
  have hS : va_S A s.heap s.heap [] := va_S.rf
  have hDD : ∀ ws : va_W, ws.map (fun q => q.1) = [a_M 0, a_M 1, a_M 2, a_M 3, a_M 4, a_M 5, a_M 6, a_M 7, a_M 8, a_M 9, a_M 10, a_M 11, a_M 12, a_M 13] → va_D A ws := fun ws hw => zD hD (hw.trans rfl)
  have hl : lv_has ls 2 [(0, .ref (a_M 0))] := hl
  unfold wpX5_alike at h
  refine lv_iconst (v := (0 : Int32)) hx hb dX5_alike_0 (by decide) ?_
  refine lv_istore_n (lv' := [(1, .int (0 : Int32)), (0, .ref (a_M 0))]) hx hb dX5_alike_1 rfl hl (by decide) rfl (fun ls hl => ?_)
  obtain ⟨n_1, h⟩ := h
  refine wX5_alike_2 l D cI cJ cC G a_M M_pipes M_used M_taped M_at M_statements M_hasImage M_isKeeping M_cursor M_nextAt M_nextMost M_rowMany M_refused M_setting M_hole M_pipeAt M_chance M_tape M_letter M_letterAt M_told M_kept M_then M_row _ S hK hDD hA hE (fun x1_2 M_weight_3 H locs ls h hP hS hl => ?_) n_1 (0 : Int32) M_weight _ _ _ h hP hS (lv_sub hl [1, 0] rfl)
  try dsimp only at h
  refine lv_aload_n hx hb dX5_alike_21 rfl (lv_at hl 0 rfl) ?_
  refine lv_iconst (v := (0 : Int32)) hx hb dX5_alike_22 (by decide) ?_
  refine va_put (D := D) (ci := 5) (v := .int (0 : Int32)) (ty := .int) (C := RX5) (T := TX5) (N := 24) hx hb ht inX5 tyX5 tyX5_ok nmX5 hown hK hP (hDD _ rfl) hS 0 rfl rfl 7 (by decide) (ht _ fl_X5_55) (fun _ h9 => h9) rfl (by decide +kernel) rfl rfl (Nat.le_of_ble_eq_true rfl) dX5_alike_23 (fun H locs hP _ hS => ?_)
  have hP : va_P D vwCl ((bX5 cI cJ cC a_M M_pipes (0 : Int32) M_taped M_at M_statements M_hasImage M_isKeeping M_cursor M_nextAt M_nextMost M_rowMany M_refused M_setting M_hole M_pipeAt M_chance M_weight_3 M_tape M_letter M_letterAt M_told M_kept M_then M_row)) H := hP
  exact hret ((0 : Int32), M_weight_3) _ _ _ _ h hP hS dX5_alike_26
def wpX5_letter (post : Int32 → Int32 → (Nat → Int32) → (Nat → Int32) → Prop) (M_taped : Int32) (M_refused : Nat → Int32) (M_tape : Nat → Int32) (p1 : Int32) : Prop := wpX5_bound (fun (r_1 : Int32) => ((r_1 = (0 : Int32) → (((M_taped = (96 : Int32) → (wpX5_no (fun (r_6 : Int32) (M_refused_7 : Nat → Int32) => post r_6 M_taped M_refused_7 M_tape) M_refused (-6 : Int32))) ∧ (¬ (M_taped = (96 : Int32)) → (((r_1 = (0 : Int32) → (vp_in M_taped 96 ∧ (post (M_taped + (1 : Int32)) (M_taped + (1 : Int32)) M_refused (upd M_tape M_taped.toNatClampNeg p1)))) ∧ (¬ (r_1 = (0 : Int32)) → (wpX5_no (fun (r_4 : Int32) (M_refused_5 : Nat → Int32) => post r_4 M_taped M_refused_5 M_tape) M_refused r_1)))))))) ∧ (¬ (r_1 = (0 : Int32)) → (((r_1 = (0 : Int32) → (vp_in M_taped 96 ∧ (post (M_taped + (1 : Int32)) (M_taped + (1 : Int32)) M_refused (upd M_tape M_taped.toNatClampNeg p1)))) ∧ (¬ (r_1 = (0 : Int32)) → (wpX5_no (fun (r_2 : Int32) (M_refused_3 : Nat → Int32) => post r_2 M_taped M_refused_3 M_tape) M_refused r_1))))))) p1 (0 : Int32) (255 : Int32)
set_option maxHeartbeats 4000000 in
set_option maxRecDepth 100000 in
theorem mX5_letter (l : Launch) (D : va_G) (cI cJ cC : ClassId) (G : Nat → Nat → Nat) (a_M : Nat → Nat) (sz : Nat) (M_pipes : Int32) (M_used : Int32) (M_taped : Int32) (M_at : Int32) (M_statements : Int32) (M_hasImage : Int32) (M_isKeeping : Int32) (M_cursor : Int32) (M_nextAt : Int32) (M_nextMost : Int64) (M_rowMany : Int32) (M_refused : Nat → Int32) (M_setting : Nat → Int32) (M_hole : Nat → Int32) (M_pipeAt : Nat → Int32) (M_chance : Nat → Int32) (M_weight : Nat → Int32) (M_tape : Nat → Int32) (M_letter : Nat → Int32) (M_letterAt : Nat → Int32) (M_told : Nat → Int32) (M_kept : Nat → Int32) (M_then : Nat → Int64) (M_row : Nat → Int32) (p1 : Int32) (post : Int32 → Int32 → (Nat → Int32) → (Nat → Int32) → Prop) (h : wpX5_letter post M_taped M_refused M_tape p1) : Met l yX5_letter (wz yX5_letter cX5_letter 3 (some .int)) ({ frames := 1, cells := 0, slots := 0, locals := 22 }) (va_Pc [.ref (a_M 0), .int p1] (PW D (tz cI cJ cC) G ((bX5 cI cJ cC a_M M_pipes M_used M_taped M_at M_statements M_hasImage M_isKeeping M_cursor M_nextAt M_nextMost M_rowMany M_refused M_setting M_hole M_pipeAt M_chance M_weight M_tape M_letter M_letterAt M_told M_kept M_then M_row)) sz)) (va_Qi (fun (r : Int32) (u : Int32 × (Nat → Int32) × (Nat → Int32)) => post r u.1 u.2.1 u.2.2) (fun (u : Int32 × (Nat → Int32) × (Nat → Int32)) t => va_P D vwCl ((bX5 cI cJ cC a_M M_pipes M_used u.1 M_at M_statements M_hasImage M_isKeeping M_cursor M_nextAt M_nextMost M_rowMany u.2.1 M_setting M_hole M_pipeAt M_chance M_weight u.2.2 M_letter M_letterAt M_told M_kept M_then M_row)) t.heap) (va_A ((bX5 cI cJ cC a_M M_pipes M_used M_taped M_at M_statements M_hasImage M_isKeeping M_cursor M_nextAt M_nextMost M_rowMany M_refused M_setting M_hole M_pipeAt M_chance M_weight M_tape M_letter M_letterAt M_told M_kept M_then M_row)) sz)) 0 0 (va_A ((bX5 cI cJ cC a_M M_pipes M_used M_taped M_at M_statements M_hasImage M_isKeeping M_cursor M_nextAt M_nextMost M_rowMany M_refused M_setting M_hole M_pipeAt M_chance M_weight M_tape M_letter M_letterAt M_told M_kept M_then M_row)) sz) := by
  refine zmi (gw := fun (u : Int32 × (Nat → Int32) × (Nat → Int32)) => (bX5 cI cJ cC a_M M_pipes M_used u.1 M_at M_statements M_hasImage M_isKeeping M_cursor M_nextAt M_nextMost M_rowMany u.2.1 M_setting M_hole M_pipeAt M_chance M_weight u.2.2 M_letter M_letterAt M_told M_kept M_then M_row)) (plainFor_of_name (by decide)) (Nat.le_of_ble_eq_true rfl) ?_
  intro p e s m below meth c A Q ls S hK hD hA hE hP hl hret
  obtain ⟨hx, hb, hml, hown, ht⟩ := id S
  have hS : va_S A s.heap s.heap [] := va_S.rf
  have hDD : ∀ ws : va_W, ws.map (fun q => q.1) = [a_M 0, a_M 1, a_M 2, a_M 3, a_M 4, a_M 5, a_M 6, a_M 7, a_M 8, a_M 9, a_M 10, a_M 11, a_M 12, a_M 13] → va_D A ws := fun ws hw => zD hD (hw.trans rfl)
  have hl : lv_has ls 3 [(0, .ref (a_M 0)), (1, .int p1)] := hl
  unfold wpX5_letter at h
  refine lv_iload_n hx hb dX5_letter_0 rfl (lv_at hl 1 rfl) ?_
  refine lv_iconst (v := (0 : Int32)) hx hb dX5_letter_1 (by decide) ?_
  refine lv_sipush (v := (255 : Int32)) hx hb dX5_letter_2 (by decide) ?_
  refine zci hA zD0 hS (zrunS (As := [.int p1, .int (0 : Int32), .int (255 : Int32)]) (rest := []) S hK hA hE zP0 zD0 hS (mX5_bound l D cI cJ cC G _ p1 (0 : Int32) (255 : Int32) _ h) kX5_bound ml_X5_59 ⟨rfl, rfl, by decide, by decide⟩ rfl hl.1 rfl (Nat.le_of_ble_eq_true rfl) dX5_letter_5 ⟨Nat.zero_le _, Nat.zero_le _⟩) (fun r_1 u H locs h hP1 hk1 hS => ?_)
  try dsimp only at h
  have hP : va_P D vwCl ((bX5 cI cJ cC a_M M_pipes M_used M_taped M_at M_statements M_hasImage M_isKeeping M_cursor M_nextAt M_nextMost M_rowMany M_refused M_setting M_hole M_pipeAt M_chance M_weight M_tape M_letter M_letterAt M_told M_kept M_then M_row)) H := zKeep hP hk1
  refine lv_istore_n (lv' := [(2, .int r_1), (0, .ref (a_M 0)), (1, .int p1)]) hx hb dX5_letter_8 rfl hl (by decide) rfl (fun ls hl => ?_)
  refine lv_iload_n hx hb dX5_letter_9 rfl (lv_at hl 0 rfl) ?_
  refine lv_if_ne (tgt := 25) hx hb dX5_letter_10 (by decide) (fun z => ?_) (fun z => ?_)
  · replace h := h.2 z
    refine lv_iload_n hx hb dX5_letter_25 rfl (lv_at hl 0 rfl) ?_
    refine lv_if_eq (tgt := 35) hx hb dX5_letter_26 (by decide) (fun z => ?_) (fun z => ?_)
    · replace h := h.1 z
      refine lv_aload_n hx hb dX5_letter_35 rfl (lv_at hl 1 rfl) ?_
      refine va_get (D := D) (ci := 5) (v := .ref (a_M 7)) (C := RX5) (T := TX5) (N := 24) hx hb ht inX5 hown hK hP 0 rfl rfl 8 (by decide) (ht _ fl_X5_28) (fun _ h9 => h9) rfl dX5_letter_36 ?_
      refine lv_aload_n hx hb dX5_letter_39 rfl (lv_at hl 1 rfl) ?_
      refine va_get (D := D) (ci := 5) (v := .int M_taped) (C := RX5) (T := TX5) (N := 24) hx hb ht inX5 hown hK hP 0 rfl rfl 12 (by decide) (ht _ fl_X5_63) (fun _ h9 => h9) rfl dX5_letter_40 ?_
      refine lv_iload_n hx hb dX5_letter_43 rfl (lv_at hl 2 rfl) ?_
      obtain ⟨hin, h⟩ := h
      refine va_iast hx hb hK hP (hDD _ rfl) hS 7 0 rfl rfl hin dX5_letter_44 (fun H locs hP _ hS => ?_)
      have hP : va_P D vwCl ((bX5 cI cJ cC a_M M_pipes M_used M_taped M_at M_statements M_hasImage M_isKeeping M_cursor M_nextAt M_nextMost M_rowMany M_refused M_setting M_hole M_pipeAt M_chance M_weight (upd M_tape M_taped.toNatClampNeg p1) M_letter M_letterAt M_told M_kept M_then M_row)) H := hP
      refine lv_aload_n hx hb dX5_letter_45 rfl (lv_at hl 1 rfl) ?_
      refine lv_dup hx hb dX5_letter_46 rfl ?_
      refine va_get (D := D) (ci := 5) (v := .int M_taped) (C := RX5) (T := TX5) (N := 24) hx hb ht inX5 hown hK hP 0 rfl rfl 12 (by decide) (ht _ fl_X5_63) (fun _ h9 => h9) rfl dX5_letter_47 ?_
      refine lv_iconst (v := (1 : Int32)) hx hb dX5_letter_50 (by decide) ?_
      refine lv_iadd hx hb dX5_letter_51 ?_
      refine va_put (D := D) (ci := 5) (v := .int (M_taped + (1 : Int32))) (ty := .int) (C := RX5) (T := TX5) (N := 24) hx hb ht inX5 tyX5 tyX5_ok nmX5 hown hK hP (hDD _ rfl) hS 0 rfl rfl 12 (by decide) (ht _ fl_X5_63) (fun _ h9 => h9) rfl (by decide +kernel) rfl rfl (Nat.le_of_ble_eq_true rfl) dX5_letter_52 (fun H locs hP _ hS => ?_)
      have hP : va_P D vwCl ((bX5 cI cJ cC a_M M_pipes M_used (M_taped + (1 : Int32)) M_at M_statements M_hasImage M_isKeeping M_cursor M_nextAt M_nextMost M_rowMany M_refused M_setting M_hole M_pipeAt M_chance M_weight (upd M_tape M_taped.toNatClampNeg p1) M_letter M_letterAt M_told M_kept M_then M_row)) H := hP
      refine lv_aload_n hx hb dX5_letter_55 rfl (lv_at hl 1 rfl) ?_
      refine va_get (D := D) (ci := 5) (v := .int (M_taped + (1 : Int32))) (C := RX5) (T := TX5) (N := 24) hx hb ht inX5 hown hK hP 0 rfl rfl 12 (by decide) (ht _ fl_X5_63) (fun _ h9 => h9) rfl dX5_letter_56 ?_
      exact hret (M_taped + (1 : Int32)) (M_taped + (1 : Int32), M_refused, upd M_tape M_taped.toNatClampNeg p1) _ _ _ _ rfl h hP hS dX5_letter_59
    · replace h := h.2 z
      refine lv_aload_n hx hb dX5_letter_29 rfl (lv_at hl 1 rfl) ?_
      refine lv_iload_n hx hb dX5_letter_30 rfl (lv_at hl 0 rfl) ?_
      refine zci hA (hDD _ rfl) hS (zrunV (As := [.int r_1]) (rest := []) S hK hA hE hP (hDD _ rfl) hS (mX5_no l D cI cJ cC G a_M _ M_pipes M_used M_taped M_at M_statements M_hasImage M_isKeeping M_cursor M_nextAt M_nextMost M_rowMany M_refused M_setting M_hole M_pipeAt M_chance M_weight M_tape M_letter M_letterAt M_told M_kept M_then M_row r_1 _ h) kX5_no ml_X5_66 ⟨rfl, rfl, by decide, by decide⟩ (q0 := 0) (ci := 5) rfl rfl rfl rfl hl.1 rfl (Nat.le_of_ble_eq_true rfl) dX5_letter_31 ⟨Nat.zero_le _, Nat.zero_le _⟩) (fun r_2 M_refused_3 H locs h hP1 hk1 hS => ?_)
      try dsimp only at h
      have hP : va_P D vwCl ((bX5 cI cJ cC a_M M_pipes M_used M_taped M_at M_statements M_hasImage M_isKeeping M_cursor M_nextAt M_nextMost M_rowMany M_refused_3 M_setting M_hole M_pipeAt M_chance M_weight M_tape M_letter M_letterAt M_told M_kept M_then M_row)) H := hP1
      exact hret r_2 (M_taped, M_refused_3, M_tape) _ _ _ _ rfl h hP hS dX5_letter_34
  · replace h := h.1 z
    refine lv_aload_n hx hb dX5_letter_13 rfl (lv_at hl 1 rfl) ?_
    refine va_get (D := D) (ci := 5) (v := .int M_taped) (C := RX5) (T := TX5) (N := 24) hx hb ht inX5 hown hK hP 0 rfl rfl 12 (by decide) (ht _ fl_X5_63) (fun _ h9 => h9) rfl dX5_letter_14 ?_
    refine lv_bipush (v := (96 : Int32)) hx hb dX5_letter_17 (by decide) ?_
    refine lv_icmp_ne (tgt := 25) hx hb dX5_letter_19 (by decide) (fun z => ?_) (fun z => ?_)
    · replace h := h.2 z
      refine lv_iload_n hx hb dX5_letter_25 rfl (lv_at hl 0 rfl) ?_
      refine lv_if_eq (tgt := 35) hx hb dX5_letter_26 (by decide) (fun z => ?_) (fun z => ?_)
      · replace h := h.1 z
        refine lv_aload_n hx hb dX5_letter_35 rfl (lv_at hl 1 rfl) ?_
        refine va_get (D := D) (ci := 5) (v := .ref (a_M 7)) (C := RX5) (T := TX5) (N := 24) hx hb ht inX5 hown hK hP 0 rfl rfl 8 (by decide) (ht _ fl_X5_28) (fun _ h9 => h9) rfl dX5_letter_36 ?_
        refine lv_aload_n hx hb dX5_letter_39 rfl (lv_at hl 1 rfl) ?_
        refine va_get (D := D) (ci := 5) (v := .int M_taped) (C := RX5) (T := TX5) (N := 24) hx hb ht inX5 hown hK hP 0 rfl rfl 12 (by decide) (ht _ fl_X5_63) (fun _ h9 => h9) rfl dX5_letter_40 ?_
        refine lv_iload_n hx hb dX5_letter_43 rfl (lv_at hl 2 rfl) ?_
        obtain ⟨hin, h⟩ := h
        refine va_iast hx hb hK hP (hDD _ rfl) hS 7 0 rfl rfl hin dX5_letter_44 (fun H locs hP _ hS => ?_)
        have hP : va_P D vwCl ((bX5 cI cJ cC a_M M_pipes M_used M_taped M_at M_statements M_hasImage M_isKeeping M_cursor M_nextAt M_nextMost M_rowMany M_refused M_setting M_hole M_pipeAt M_chance M_weight (upd M_tape M_taped.toNatClampNeg p1) M_letter M_letterAt M_told M_kept M_then M_row)) H := hP
        refine lv_aload_n hx hb dX5_letter_45 rfl (lv_at hl 1 rfl) ?_
        refine lv_dup hx hb dX5_letter_46 rfl ?_
        refine va_get (D := D) (ci := 5) (v := .int M_taped) (C := RX5) (T := TX5) (N := 24) hx hb ht inX5 hown hK hP 0 rfl rfl 12 (by decide) (ht _ fl_X5_63) (fun _ h9 => h9) rfl dX5_letter_47 ?_
        refine lv_iconst (v := (1 : Int32)) hx hb dX5_letter_50 (by decide) ?_
        refine lv_iadd hx hb dX5_letter_51 ?_
        refine va_put (D := D) (ci := 5) (v := .int (M_taped + (1 : Int32))) (ty := .int) (C := RX5) (T := TX5) (N := 24) hx hb ht inX5 tyX5 tyX5_ok nmX5 hown hK hP (hDD _ rfl) hS 0 rfl rfl 12 (by decide) (ht _ fl_X5_63) (fun _ h9 => h9) rfl (by decide +kernel) rfl rfl (Nat.le_of_ble_eq_true rfl) dX5_letter_52 (fun H locs hP _ hS => ?_)
        have hP : va_P D vwCl ((bX5 cI cJ cC a_M M_pipes M_used (M_taped + (1 : Int32)) M_at M_statements M_hasImage M_isKeeping M_cursor M_nextAt M_nextMost M_rowMany M_refused M_setting M_hole M_pipeAt M_chance M_weight (upd M_tape M_taped.toNatClampNeg p1) M_letter M_letterAt M_told M_kept M_then M_row)) H := hP
        refine lv_aload_n hx hb dX5_letter_55 rfl (lv_at hl 1 rfl) ?_
        refine va_get (D := D) (ci := 5) (v := .int (M_taped + (1 : Int32))) (C := RX5) (T := TX5) (N := 24) hx hb ht inX5 hown hK hP 0 rfl rfl 12 (by decide) (ht _ fl_X5_63) (fun _ h9 => h9) rfl dX5_letter_56 ?_
        exact hret (M_taped + (1 : Int32)) (M_taped + (1 : Int32), M_refused, upd M_tape M_taped.toNatClampNeg p1) _ _ _ _ rfl h hP hS dX5_letter_59
      · replace h := h.2 z
        refine lv_aload_n hx hb dX5_letter_29 rfl (lv_at hl 1 rfl) ?_
        refine lv_iload_n hx hb dX5_letter_30 rfl (lv_at hl 0 rfl) ?_
        refine zci hA (hDD _ rfl) hS (zrunV (As := [.int r_1]) (rest := []) S hK hA hE hP (hDD _ rfl) hS (mX5_no l D cI cJ cC G a_M _ M_pipes M_used M_taped M_at M_statements M_hasImage M_isKeeping M_cursor M_nextAt M_nextMost M_rowMany M_refused M_setting M_hole M_pipeAt M_chance M_weight M_tape M_letter M_letterAt M_told M_kept M_then M_row r_1 _ h) kX5_no ml_X5_66 ⟨rfl, rfl, by decide, by decide⟩ (q0 := 0) (ci := 5) rfl rfl rfl rfl hl.1 rfl (Nat.le_of_ble_eq_true rfl) dX5_letter_31 ⟨Nat.zero_le _, Nat.zero_le _⟩) (fun r_4 M_refused_5 H locs h hP1 hk1 hS => ?_)
        try dsimp only at h
        have hP : va_P D vwCl ((bX5 cI cJ cC a_M M_pipes M_used M_taped M_at M_statements M_hasImage M_isKeeping M_cursor M_nextAt M_nextMost M_rowMany M_refused_5 M_setting M_hole M_pipeAt M_chance M_weight M_tape M_letter M_letterAt M_told M_kept M_then M_row)) H := hP1
        exact hret r_4 (M_taped, M_refused_5, M_tape) _ _ _ _ rfl h hP hS dX5_letter_34
    · replace h := h.1 z
      refine lv_bipush (v := (-6 : Int32)) hx hb dX5_letter_22 (by decide) ?_
      refine lv_istore_n (lv' := [(2, .int (-6 : Int32)), (0, .ref (a_M 0)), (1, .int p1)]) hx hb dX5_letter_24 rfl hl (by decide) rfl (fun ls hl => ?_)
      refine lv_iload_n hx hb dX5_letter_25 rfl (lv_at hl 0 rfl) ?_
      refine lv_if_eq (tgt := 35) hx hb dX5_letter_26 (by decide) (fun z => ?_) (fun z => ?_)
      · exact absurd z (by decide)
      · refine lv_aload_n hx hb dX5_letter_29 rfl (lv_at hl 1 rfl) ?_
        refine lv_iload_n hx hb dX5_letter_30 rfl (lv_at hl 0 rfl) ?_
        refine zci hA (hDD _ rfl) hS (zrunV (As := [.int (-6 : Int32)]) (rest := []) S hK hA hE hP (hDD _ rfl) hS (mX5_no l D cI cJ cC G a_M _ M_pipes M_used M_taped M_at M_statements M_hasImage M_isKeeping M_cursor M_nextAt M_nextMost M_rowMany M_refused M_setting M_hole M_pipeAt M_chance M_weight M_tape M_letter M_letterAt M_told M_kept M_then M_row (-6 : Int32) _ h) kX5_no ml_X5_66 ⟨rfl, rfl, by decide, by decide⟩ (q0 := 0) (ci := 5) rfl rfl rfl rfl hl.1 rfl (Nat.le_of_ble_eq_true rfl) dX5_letter_31 ⟨Nat.zero_le _, Nat.zero_le _⟩) (fun r_6 M_refused_7 H locs h hP1 hk1 hS => ?_)
        try dsimp only at h
        have hP : va_P D vwCl ((bX5 cI cJ cC a_M M_pipes M_used M_taped M_at M_statements M_hasImage M_isKeeping M_cursor M_nextAt M_nextMost M_rowMany M_refused_7 M_setting M_hole M_pipeAt M_chance M_weight M_tape M_letter M_letterAt M_told M_kept M_then M_row)) H := hP1
        exact hret r_6 (M_taped, M_refused_7, M_tape) _ _ _ _ rfl h hP hS dX5_letter_34
def wpX5_next (post : Int32 → Prop) (M_taped : Int32) (M_at : Int32) (M_tape : Nat → Int32) : Prop := ((M_taped ≤ M_at → (post (-1 : Int32))) ∧ (¬ (M_taped ≤ M_at) → (vp_in M_at 96 ∧ (post (M_tape M_at.toNatClampNeg)))))
set_option maxHeartbeats 4000000 in
set_option maxRecDepth 100000 in
theorem mX5_next (l : Launch) (D : va_G) (cI cJ cC : ClassId) (G : Nat → Nat → Nat) (a_M : Nat → Nat) (sz : Nat) (M_pipes : Int32) (M_used : Int32) (M_taped : Int32) (M_at : Int32) (M_statements : Int32) (M_hasImage : Int32) (M_isKeeping : Int32) (M_cursor : Int32) (M_nextAt : Int32) (M_nextMost : Int64) (M_rowMany : Int32) (M_refused : Nat → Int32) (M_setting : Nat → Int32) (M_hole : Nat → Int32) (M_pipeAt : Nat → Int32) (M_chance : Nat → Int32) (M_weight : Nat → Int32) (M_tape : Nat → Int32) (M_letter : Nat → Int32) (M_letterAt : Nat → Int32) (M_told : Nat → Int32) (M_kept : Nat → Int32) (M_then : Nat → Int64) (M_row : Nat → Int32) (post : Int32 → Prop) (h : wpX5_next post M_taped M_at M_tape) : Met l yX5_next (wz yX5_next cX5_next 1 (some .int)) ({ frames := 0, cells := 0, slots := 0, locals := 0 }) (va_Pc [.ref (a_M 0)] (PW D (tz cI cJ cC) G ((bX5 cI cJ cC a_M M_pipes M_used M_taped M_at M_statements M_hasImage M_isKeeping M_cursor M_nextAt M_nextMost M_rowMany M_refused M_setting M_hole M_pipeAt M_chance M_weight M_tape M_letter M_letterAt M_told M_kept M_then M_row)) sz)) (va_Qi (fun (r : Int32) (u : Unit) => post r ) (fun (u : Unit) t => va_P D vwCl ((bX5 cI cJ cC a_M M_pipes M_used M_taped M_at M_statements M_hasImage M_isKeeping M_cursor M_nextAt M_nextMost M_rowMany M_refused M_setting M_hole M_pipeAt M_chance M_weight M_tape M_letter M_letterAt M_told M_kept M_then M_row)) t.heap) (va_A ((bX5 cI cJ cC a_M M_pipes M_used M_taped M_at M_statements M_hasImage M_isKeeping M_cursor M_nextAt M_nextMost M_rowMany M_refused M_setting M_hole M_pipeAt M_chance M_weight M_tape M_letter M_letterAt M_told M_kept M_then M_row)) sz)) 0 0 (va_A ((bX5 cI cJ cC a_M M_pipes M_used M_taped M_at M_statements M_hasImage M_isKeeping M_cursor M_nextAt M_nextMost M_rowMany M_refused M_setting M_hole M_pipeAt M_chance M_weight M_tape M_letter M_letterAt M_told M_kept M_then M_row)) sz) := by
  refine zmi (gw := fun (u : Unit) => (bX5 cI cJ cC a_M M_pipes M_used M_taped M_at M_statements M_hasImage M_isKeeping M_cursor M_nextAt M_nextMost M_rowMany M_refused M_setting M_hole M_pipeAt M_chance M_weight M_tape M_letter M_letterAt M_told M_kept M_then M_row)) (plainFor_of_name (by decide)) (Nat.le_of_ble_eq_true rfl) ?_
  intro p e s m below meth c A Q ls S hK hD hA hE hP hl hret
  obtain ⟨hx, hb, hml, hown, ht⟩ := id S
  have hS : va_S A s.heap s.heap [] := va_S.rf
  have hDD : ∀ ws : va_W, ws.map (fun q => q.1) = [a_M 0, a_M 1, a_M 2, a_M 3, a_M 4, a_M 5, a_M 6, a_M 7, a_M 8, a_M 9, a_M 10, a_M 11, a_M 12, a_M 13] → va_D A ws := fun ws hw => zD hD (hw.trans rfl)
  have hl : lv_has ls 1 [(0, .ref (a_M 0))] := hl
  unfold wpX5_next at h
  refine lv_aload_n hx hb dX5_next_0 rfl (lv_at hl 0 rfl) ?_
  refine va_get (D := D) (ci := 5) (v := .int M_at) (C := RX5) (T := TX5) (N := 24) hx hb ht inX5 hown hK hP 0 rfl rfl 13 (by decide) (ht _ fl_X5_70) (fun _ h9 => h9) rfl dX5_next_1 ?_
  refine lv_aload_n hx hb dX5_next_4 rfl (lv_at hl 0 rfl) ?_
  refine va_get (D := D) (ci := 5) (v := .int M_taped) (C := RX5) (T := TX5) (N := 24) hx hb ht inX5 hown hK hP 0 rfl rfl 12 (by decide) (ht _ fl_X5_63) (fun _ h9 => h9) rfl dX5_next_5 ?_
  refine lv_icmp_ge (tgt := 23) hx hb dX5_next_8 (by decide) (fun z => ?_) (fun z => ?_)
  · replace h := h.1 z
    refine lv_iconst (v := (-1 : Int32)) hx hb dX5_next_23 (by decide) ?_
    exact hret (-1 : Int32) () _ _ _ _ rfl h hP hS dX5_next_24
  · replace h := h.2 z
    refine lv_aload_n hx hb dX5_next_11 rfl (lv_at hl 0 rfl) ?_
    refine va_get (D := D) (ci := 5) (v := .ref (a_M 7)) (C := RX5) (T := TX5) (N := 24) hx hb ht inX5 hown hK hP 0 rfl rfl 8 (by decide) (ht _ fl_X5_28) (fun _ h9 => h9) rfl dX5_next_12 ?_
    refine lv_aload_n hx hb dX5_next_15 rfl (lv_at hl 0 rfl) ?_
    refine va_get (D := D) (ci := 5) (v := .int M_at) (C := RX5) (T := TX5) (N := 24) hx hb ht inX5 hown hK hP 0 rfl rfl 13 (by decide) (ht _ fl_X5_70) (fun _ h9 => h9) rfl dX5_next_16 ?_
    obtain ⟨hin, h⟩ := h
    refine va_iald hx hb hK hP 7 0 rfl rfl hin dX5_next_19 ?_
    refine lv_goto (tgt := 24) hx hb dX5_next_20 (by decide) ?_
    exact hret (M_tape M_at.toNatClampNeg) () _ _ _ _ rfl h hP hS dX5_next_24
def lpX5_readsNumber_6 (K : Int32 → Int32 → Int32 → Prop) (x3 : Int32) (M_taped : Int32) (M_tape : Nat → Int32) : Nat → Int32 → Int32 → Int32 → Prop
  | 0, _, _, _ => False
  | n + 1, x4, x5, M_at => ((x3 ≤ x5 → (K x4 x5 M_at)) ∧ (¬ (x3 ≤ x5) → (wpX5_next (fun (r_1 : Int32) => wpX5_isIn (fun (r_2 : Int32) => ((r_2 = (0 : Int32) → (K x4 x5 M_at)) ∧ (¬ (r_2 = (0 : Int32)) → (wpX5_next (fun (r_3 : Int32) => lpX5_readsNumber_6 K x3 M_taped M_tape n ((((10 : Int32) * x4) + r_3) - (48 : Int32)) (x5 + (1 : Int32)) (M_at + (1 : Int32))) M_taped M_at M_tape)))) r_1 (48 : Int32) (57 : Int32)) M_taped M_at M_tape)))
set_option maxHeartbeats 4000000 in
set_option maxRecDepth 100000 in
theorem wX5_readsNumber_6 (l : Launch) (D : va_G) (cI cJ cC : ClassId) (G : Nat → Nat → Nat) (a_M : Nat → Nat) {p : Program} {e : Env} {s : State} {m : MethodId} {below : List Frame} {meth : Method} {c : Code} {A : Nat → Prop} {Q : State → Prop} (p1 : Int32) (p2 : Int32) (p3 : Int32) (x1 : Int32) (x2 : Int32) (x3 : Int32) (M_pipes : Int32) (M_used : Int32) (M_taped : Int32) (M_statements : Int32) (M_hasImage : Int32) (M_isKeeping : Int32) (M_cursor : Int32) (M_nextAt : Int32) (M_nextMost : Int64) (M_rowMany : Int32) (M_refused : Nat → Int32) (M_setting : Nat → Int32) (M_hole : Nat → Int32) (M_pipeAt : Nat → Int32) (M_chance : Nat → Int32) (M_weight : Nat → Int32) (M_tape : Nat → Int32) (M_letter : Nat → Int32) (M_letterAt : Nat → Int32) (M_told : Nat → Int32) (M_kept : Nat → Int32) (M_then : Nat → Int64) (M_row : Nat → Int32) (K : Int32 → Int32 → Int32 → Prop) (S : CallFix p m c cX5_readsNumber 6 s ([.ref (a_M 0), .int p1, .int p2, .int p3] : List Value).toArray bg RX5) (hK : va_K D vwCl (tz cI cJ cC) s) (hDD : ∀ ws : va_W, ws.map (fun q => q.1) = [a_M 0, a_M 1, a_M 2, a_M 3, a_M 4, a_M 5, a_M 6, a_M 7, a_M 8, a_M 9, a_M 10, a_M 11, a_M 12, a_M 13] → va_D A ws) (hA : ∀ q, s.heap.size ≤ q → A q) (hE : EV G A s) (hKK : ∀ (x4 : Int32) (x5 : Int32) (M_at : Int32) (H : Heap) (locs : List Loc) (ls : Array Slot), K x4 x5 M_at → va_P D vwCl ((bX5 cI cJ cC a_M M_pipes M_used M_taped M_at M_statements M_hasImage M_isKeeping M_cursor M_nextAt M_nextMost M_rowMany M_refused M_setting M_hole M_pipeAt M_chance M_weight M_tape M_letter M_letterAt M_told M_kept M_then M_row)) H → va_S A s.heap H locs → lv_has ls 6 [(0, .ref (a_M 0)), (1, .int x1), (2, .int x2), (4, .int x4), (5, .int x5)] → W p l e ({ frames := 1, cells := 0, slots := 0, locals := 22 }) s m ([.ref (a_M 0), .int p1, .int p2, .int p3] : List Value).toArray below meth c H locs 0 0 Q (F0 m 57 ls [])) :
    ∀ (n : Nat) (x4 : Int32) (x5 : Int32) (M_at : Int32) (H : Heap) (locs : List Loc) (ls : Array Slot), lpX5_readsNumber_6 K x3 M_taped M_tape n x4 x5 M_at → va_P D vwCl ((bX5 cI cJ cC a_M M_pipes M_used M_taped M_at M_statements M_hasImage M_isKeeping M_cursor M_nextAt M_nextMost M_rowMany M_refused M_setting M_hole M_pipeAt M_chance M_weight M_tape M_letter M_letterAt M_told M_kept M_then M_row)) H → va_S A s.heap H locs → lv_has ls 6 [(0, .ref (a_M 0)), (1, .int x1), (2, .int x2), (3, .int x3), (4, .int x4), (5, .int x5)] → W p l e ({ frames := 1, cells := 0, slots := 0, locals := 22 }) s m ([.ref (a_M 0), .int p1, .int p2, .int p3] : List Value).toArray below meth c H locs 0 0 Q (F0 m 6 ls []) := by
  obtain ⟨hx, hb, hml, hown, ht⟩ := id S
  intro n
  induction n with
  | zero =>
    intro x4 x5 M_at H locs ls h
    exact absurd h (by simp [lpX5_readsNumber_6])
  | succ n ih =>
    intro x4 x5 M_at H locs ls h hP hS hl
    rw [lpX5_readsNumber_6] at h
    refine lv_iload hx hb dX5_readsNumber_6 (lv_at hl 5 rfl) ?_
    refine lv_iload_n hx hb dX5_readsNumber_8 rfl (lv_at hl 3 rfl) ?_
    refine lv_icmp_ge (tgt := 57) hx hb dX5_readsNumber_9 (by decide) (fun z => ?_) (fun z => ?_)
    · replace h := h.1 z
      exact hKK x4 x5 M_at _ _ _ h hP hS (lv_sub hl [0, 1, 2, 4, 5] rfl)
    · replace h := h.2 z
      refine lv_aload_n hx hb dX5_readsNumber_12 rfl (lv_at hl 0 rfl) ?_
      refine zci hA (hDD _ rfl) hS (zrunV (As := []) (rest := []) S hK hA hE hP (hDD _ rfl) hS (mX5_next l D cI cJ cC G a_M _ M_pipes M_used M_taped M_at M_statements M_hasImage M_isKeeping M_cursor M_nextAt M_nextMost M_rowMany M_refused M_setting M_hole M_pipeAt M_chance M_weight M_tape M_letter M_letterAt M_told M_kept M_then M_row _ h) kX5_next ml_X5_73 ⟨rfl, rfl, by decide, by decide⟩ (q0 := 0) (ci := 5) rfl rfl rfl rfl hl.1 rfl (Nat.le_of_ble_eq_true rfl) dX5_readsNumber_13 ⟨Nat.zero_le _, Nat.zero_le _⟩) (fun r_1 u H locs h hP1 hk1 hS => ?_)
      try dsimp only at h
      have hP : va_P D vwCl ((bX5 cI cJ cC a_M M_pipes M_used M_taped M_at M_statements M_hasImage M_isKeeping M_cursor M_nextAt M_nextMost M_rowMany M_refused M_setting M_hole M_pipeAt M_chance M_weight M_tape M_letter M_letterAt M_told M_kept M_then M_row)) H := hP1
      refine lv_bipush (v := (48 : Int32)) hx hb dX5_readsNumber_16 (by decide) ?_
      refine lv_bipush (v := (57 : Int32)) hx hb dX5_readsNumber_18 (by decide) ?_
      refine zci hA zD0 hS (zrunS (As := [.int r_1, .int (48 : Int32), .int (57 : Int32)]) (rest := []) S hK hA hE zP0 zD0 hS (mX5_isIn l D cI cJ cC G _ r_1 (48 : Int32) (57 : Int32) _ h) kX5_isIn ml_X5_77 ⟨rfl, rfl, by decide, by decide⟩ rfl hl.1 rfl (Nat.le_of_ble_eq_true rfl) dX5_readsNumber_20 ⟨Nat.zero_le _, Nat.zero_le _⟩) (fun r_2 u H locs h hP1 hk1 hS => ?_)
      try dsimp only at h
      have hP : va_P D vwCl ((bX5 cI cJ cC a_M M_pipes M_used M_taped M_at M_statements M_hasImage M_isKeeping M_cursor M_nextAt M_nextMost M_rowMany M_refused M_setting M_hole M_pipeAt M_chance M_weight M_tape M_letter M_letterAt M_told M_kept M_then M_row)) H := zKeep hP hk1
      refine lv_if_eq (tgt := 57) hx hb dX5_readsNumber_23 (by decide) (fun z => ?_) (fun z => ?_)
      · replace h := h.1 z
        exact hKK x4 x5 M_at _ _ _ h hP hS (lv_sub hl [0, 1, 2, 4, 5] rfl)
      · replace h := h.2 z
        refine lv_bipush (v := (10 : Int32)) hx hb dX5_readsNumber_26 (by decide) ?_
        refine lv_iload hx hb dX5_readsNumber_28 (lv_at hl 4 rfl) ?_
        refine lv_imul hx hb dX5_readsNumber_30 ?_
        refine lv_aload_n hx hb dX5_readsNumber_31 rfl (lv_at hl 0 rfl) ?_
        refine zci hA (hDD _ rfl) hS (zrunV (As := []) (rest := [.int ((10 : Int32) * x4)]) S hK hA hE hP (hDD _ rfl) hS (mX5_next l D cI cJ cC G a_M _ M_pipes M_used M_taped M_at M_statements M_hasImage M_isKeeping M_cursor M_nextAt M_nextMost M_rowMany M_refused M_setting M_hole M_pipeAt M_chance M_weight M_tape M_letter M_letterAt M_told M_kept M_then M_row _ h) kX5_next ml_X5_73 ⟨rfl, rfl, by decide, by decide⟩ (q0 := 0) (ci := 5) rfl rfl rfl rfl hl.1 rfl (Nat.le_of_ble_eq_true rfl) dX5_readsNumber_32 ⟨Nat.zero_le _, Nat.zero_le _⟩) (fun r_3 u H locs h hP1 hk1 hS => ?_)
        try dsimp only at h
        have hP : va_P D vwCl ((bX5 cI cJ cC a_M M_pipes M_used M_taped M_at M_statements M_hasImage M_isKeeping M_cursor M_nextAt M_nextMost M_rowMany M_refused M_setting M_hole M_pipeAt M_chance M_weight M_tape M_letter M_letterAt M_told M_kept M_then M_row)) H := hP1
        refine lv_iadd hx hb dX5_readsNumber_35 ?_
        refine lv_bipush (v := (48 : Int32)) hx hb dX5_readsNumber_36 (by decide) ?_
        refine lv_isub hx hb dX5_readsNumber_38 ?_
        refine lv_istore (lv' := [(4, .int ((((10 : Int32) * x4) + r_3) - (48 : Int32))), (0, .ref (a_M 0)), (1, .int x1), (2, .int x2), (3, .int x3), (5, .int x5)]) hx hb dX5_readsNumber_39 hl (by decide) rfl (fun ls hl => ?_)
        refine lv_aload_n hx hb dX5_readsNumber_41 rfl (lv_at hl 1 rfl) ?_
        refine lv_dup hx hb dX5_readsNumber_42 rfl ?_
        refine va_get (D := D) (ci := 5) (v := .int M_at) (C := RX5) (T := TX5) (N := 24) hx hb ht inX5 hown hK hP 0 rfl rfl 13 (by decide) (ht _ fl_X5_70) (fun _ h9 => h9) rfl dX5_readsNumber_43 ?_
        refine lv_iconst (v := (1 : Int32)) hx hb dX5_readsNumber_46 (by decide) ?_
        refine lv_iadd hx hb dX5_readsNumber_47 ?_
        refine va_put (D := D) (ci := 5) (v := .int (M_at + (1 : Int32))) (ty := .int) (C := RX5) (T := TX5) (N := 24) hx hb ht inX5 tyX5 tyX5_ok nmX5 hown hK hP (hDD _ rfl) hS 0 rfl rfl 13 (by decide) (ht _ fl_X5_70) (fun _ h9 => h9) rfl (by decide +kernel) rfl rfl (Nat.le_of_ble_eq_true rfl) dX5_readsNumber_48 (fun H locs hP _ hS => ?_)
        have hP : va_P D vwCl ((bX5 cI cJ cC a_M M_pipes M_used M_taped (M_at + (1 : Int32)) M_statements M_hasImage M_isKeeping M_cursor M_nextAt M_nextMost M_rowMany M_refused M_setting M_hole M_pipeAt M_chance M_weight M_tape M_letter M_letterAt M_told M_kept M_then M_row)) H := hP
        refine lv_iinc (v := x5 + (1 : Int32)) (lv' := [(5, .int (x5 + (1 : Int32))), (4, .int ((((10 : Int32) * x4) + r_3) - (48 : Int32))), (0, .ref (a_M 0)), (1, .int x1), (2, .int x2), (3, .int x3)]) hx hb dX5_readsNumber_51 hl (k := 5) rfl (by rfl) (by decide) rfl (fun ls hl => ?_)
        refine lv_goto (tgt := 6) hx hb dX5_readsNumber_54 (by decide) ?_
        exact ih ((((10 : Int32) * x4) + r_3) - (48 : Int32)) (x5 + (1 : Int32)) (M_at + (1 : Int32)) _ _ _ h hP hS (lv_sub hl [2, 3, 4, 5, 1, 0] rfl)
def wpX5_readsNumber (post : Int32 → Int32 → (Nat → Int32) → Prop) (M_taped : Int32) (M_at : Int32) (M_tape : Nat → Int32) (M_told : Nat → Int32) (p1 : Int32) (p2 : Int32) (p3 : Int32) : Prop := ∃ n_4 : Nat, lpX5_readsNumber_6 (fun (x4_5 : Int32) (x5_6 : Int32) (M_at_7 : Int32) => vp_in p1 144 ∧ (((x5_6 < p2 → (post (0 : Int32) M_at_7 (upd M_told p1.toNatClampNeg x4_5))) ∧ (¬ (x5_6 < p2) → (post (1 : Int32) M_at_7 (upd M_told p1.toNatClampNeg x4_5)))))) p3 M_taped M_tape n_4 (0 : Int32) (0 : Int32) M_at
set_option maxHeartbeats 4000000 in
set_option maxRecDepth 100000 in
theorem mX5_readsNumber (l : Launch) (D : va_G) (cI cJ cC : ClassId) (G : Nat → Nat → Nat) (a_M : Nat → Nat) (sz : Nat) (M_pipes : Int32) (M_used : Int32) (M_taped : Int32) (M_at : Int32) (M_statements : Int32) (M_hasImage : Int32) (M_isKeeping : Int32) (M_cursor : Int32) (M_nextAt : Int32) (M_nextMost : Int64) (M_rowMany : Int32) (M_refused : Nat → Int32) (M_setting : Nat → Int32) (M_hole : Nat → Int32) (M_pipeAt : Nat → Int32) (M_chance : Nat → Int32) (M_weight : Nat → Int32) (M_tape : Nat → Int32) (M_letter : Nat → Int32) (M_letterAt : Nat → Int32) (M_told : Nat → Int32) (M_kept : Nat → Int32) (M_then : Nat → Int64) (M_row : Nat → Int32) (p1 : Int32) (p2 : Int32) (p3 : Int32) (post : Int32 → Int32 → (Nat → Int32) → Prop) (h : wpX5_readsNumber post M_taped M_at M_tape M_told p1 p2 p3) : Met l yX5_readsNumber (wz yX5_readsNumber cX5_readsNumber 6 (some .boolean)) ({ frames := 1, cells := 0, slots := 0, locals := 22 }) (va_Pc [.ref (a_M 0), .int p1, .int p2, .int p3] (PW D (tz cI cJ cC) G ((bX5 cI cJ cC a_M M_pipes M_used M_taped M_at M_statements M_hasImage M_isKeeping M_cursor M_nextAt M_nextMost M_rowMany M_refused M_setting M_hole M_pipeAt M_chance M_weight M_tape M_letter M_letterAt M_told M_kept M_then M_row)) sz)) (va_Qi (fun (r : Int32) (u : Int32 × (Nat → Int32)) => post r u.1 u.2) (fun (u : Int32 × (Nat → Int32)) t => va_P D vwCl ((bX5 cI cJ cC a_M M_pipes M_used M_taped u.1 M_statements M_hasImage M_isKeeping M_cursor M_nextAt M_nextMost M_rowMany M_refused M_setting M_hole M_pipeAt M_chance M_weight M_tape M_letter M_letterAt u.2 M_kept M_then M_row)) t.heap) (va_A ((bX5 cI cJ cC a_M M_pipes M_used M_taped M_at M_statements M_hasImage M_isKeeping M_cursor M_nextAt M_nextMost M_rowMany M_refused M_setting M_hole M_pipeAt M_chance M_weight M_tape M_letter M_letterAt M_told M_kept M_then M_row)) sz)) 0 0 (va_A ((bX5 cI cJ cC a_M M_pipes M_used M_taped M_at M_statements M_hasImage M_isKeeping M_cursor M_nextAt M_nextMost M_rowMany M_refused M_setting M_hole M_pipeAt M_chance M_weight M_tape M_letter M_letterAt M_told M_kept M_then M_row)) sz) := by
  refine zmi (gw := fun (u : Int32 × (Nat → Int32)) => (bX5 cI cJ cC a_M M_pipes M_used M_taped u.1 M_statements M_hasImage M_isKeeping M_cursor M_nextAt M_nextMost M_rowMany M_refused M_setting M_hole M_pipeAt M_chance M_weight M_tape M_letter M_letterAt u.2 M_kept M_then M_row)) (plainFor_of_name (by decide)) (Nat.le_of_ble_eq_true rfl) ?_
  intro p e s m below meth c A Q ls S hK hD hA hE hP hl hret
  obtain ⟨hx, hb, hml, hown, ht⟩ := id S
  have hS : va_S A s.heap s.heap [] := va_S.rf
  have hDD : ∀ ws : va_W, ws.map (fun q => q.1) = [a_M 0, a_M 1, a_M 2, a_M 3, a_M 4, a_M 5, a_M 6, a_M 7, a_M 8, a_M 9, a_M 10, a_M 11, a_M 12, a_M 13] → va_D A ws := fun ws hw => zD hD (hw.trans rfl)
  have hl : lv_has ls 6 [(0, .ref (a_M 0)), (1, .int p1), (2, .int p2), (3, .int p3)] := hl
  unfold wpX5_readsNumber at h
  refine lv_iconst (v := (0 : Int32)) hx hb dX5_readsNumber_0 (by decide) ?_
  refine lv_istore (lv' := [(4, .int (0 : Int32)), (0, .ref (a_M 0)), (1, .int p1), (2, .int p2), (3, .int p3)]) hx hb dX5_readsNumber_1 hl (by decide) rfl (fun ls hl => ?_)
  refine lv_iconst (v := (0 : Int32)) hx hb dX5_readsNumber_3 (by decide) ?_
  refine lv_istore (lv' := [(5, .int (0 : Int32)), (4, .int (0 : Int32)), (0, .ref (a_M 0)), (1, .int p1), (2, .int p2), (3, .int p3)]) hx hb dX5_readsNumber_4 hl (by decide) rfl (fun ls hl => ?_)
  obtain ⟨n_4, h⟩ := h
  refine wX5_readsNumber_6 l D cI cJ cC G a_M p1 p2 p3 p1 p2 p3 M_pipes M_used M_taped M_statements M_hasImage M_isKeeping M_cursor M_nextAt M_nextMost M_rowMany M_refused M_setting M_hole M_pipeAt M_chance M_weight M_tape M_letter M_letterAt M_told M_kept M_then M_row _ S hK hDD hA hE (fun x4_5 x5_6 M_at_7 H locs ls h hP hS hl => ?_) n_4 (0 : Int32) (0 : Int32) M_at _ _ _ h hP hS (lv_sub hl [2, 3, 4, 5, 1, 0] rfl)
  try dsimp only at h
  refine lv_aload_n hx hb dX5_readsNumber_57 rfl (lv_at hl 0 rfl) ?_
  refine va_get (D := D) (ci := 5) (v := .ref (a_M 10)) (C := RX5) (T := TX5) (N := 24) hx hb ht inX5 hown hK hP 0 rfl rfl 11 (by decide) (ht _ fl_X5_37) (fun _ h9 => h9) rfl dX5_readsNumber_58 ?_
  refine lv_iload_n hx hb dX5_readsNumber_61 rfl (lv_at hl 1 rfl) ?_
  refine lv_iload hx hb dX5_readsNumber_62 (lv_at hl 3 rfl) ?_
  obtain ⟨hin, h⟩ := h
  refine va_iast hx hb hK hP (hDD _ rfl) hS 10 0 rfl rfl hin dX5_readsNumber_64 (fun H locs hP _ hS => ?_)
  have hP : va_P D vwCl ((bX5 cI cJ cC a_M M_pipes M_used M_taped M_at_7 M_statements M_hasImage M_isKeeping M_cursor M_nextAt M_nextMost M_rowMany M_refused M_setting M_hole M_pipeAt M_chance M_weight M_tape M_letter M_letterAt (upd M_told p1.toNatClampNeg x4_5) M_kept M_then M_row)) H := hP
  refine lv_iload hx hb dX5_readsNumber_65 (lv_at hl 4 rfl) ?_
  refine lv_iload_n hx hb dX5_readsNumber_67 rfl (lv_at hl 2 rfl) ?_
  refine lv_icmp_lt (tgt := 75) hx hb dX5_readsNumber_68 (by decide) (fun z => ?_) (fun z => ?_)
  · replace h := h.1 z
    refine lv_iconst (v := (0 : Int32)) hx hb dX5_readsNumber_75 (by decide) ?_
    exact hret (0 : Int32) (M_at_7, upd M_told p1.toNatClampNeg x4_5) _ _ _ _ rfl h hP hS dX5_readsNumber_76
  · replace h := h.2 z
    refine lv_iconst (v := (1 : Int32)) hx hb dX5_readsNumber_71 (by decide) ?_
    refine lv_goto (tgt := 76) hx hb dX5_readsNumber_72 (by decide) ?_
    exact hret (1 : Int32) (M_at_7, upd M_told p1.toNatClampNeg x4_5) _ _ _ _ rfl h hP hS dX5_readsNumber_76
def wpX5_readsSign (post : Int32 → Int32 → (Nat → Int32) → Prop) (M_taped : Int32) (M_at : Int32) (M_tape : Nat → Int32) (M_told : Nat → Int32) (p1 : Int32) : Prop := wpX5_next (fun (r_1 : Int32) => ((r_1 = (43 : Int32) → (wpX5_next (fun (r_2 : Int32) => ((r_2 = (43 : Int32) → (vp_in p1 144 ∧ (post (1 : Int32) (M_at + (1 : Int32)) (upd M_told p1.toNatClampNeg (1 : Int32))))) ∧ (¬ (r_2 = (43 : Int32)) → (vp_in p1 144 ∧ (post (1 : Int32) (M_at + (1 : Int32)) (upd M_told p1.toNatClampNeg (0 : Int32))))))) M_taped M_at M_tape)) ∧ (¬ (r_1 = (43 : Int32)) → (wpX5_next (fun (r_3 : Int32) => ((r_3 = (45 : Int32) → (wpX5_next (fun (r_4 : Int32) => ((r_4 = (43 : Int32) → (vp_in p1 144 ∧ (post (1 : Int32) (M_at + (1 : Int32)) (upd M_told p1.toNatClampNeg (1 : Int32))))) ∧ (¬ (r_4 = (43 : Int32)) → (vp_in p1 144 ∧ (post (1 : Int32) (M_at + (1 : Int32)) (upd M_told p1.toNatClampNeg (0 : Int32))))))) M_taped M_at M_tape)) ∧ (¬ (r_3 = (45 : Int32)) → (post (0 : Int32) M_at M_told)))) M_taped M_at M_tape)))) M_taped M_at M_tape
set_option maxHeartbeats 4000000 in
set_option maxRecDepth 100000 in
theorem mX5_readsSign (l : Launch) (D : va_G) (cI cJ cC : ClassId) (G : Nat → Nat → Nat) (a_M : Nat → Nat) (sz : Nat) (M_pipes : Int32) (M_used : Int32) (M_taped : Int32) (M_at : Int32) (M_statements : Int32) (M_hasImage : Int32) (M_isKeeping : Int32) (M_cursor : Int32) (M_nextAt : Int32) (M_nextMost : Int64) (M_rowMany : Int32) (M_refused : Nat → Int32) (M_setting : Nat → Int32) (M_hole : Nat → Int32) (M_pipeAt : Nat → Int32) (M_chance : Nat → Int32) (M_weight : Nat → Int32) (M_tape : Nat → Int32) (M_letter : Nat → Int32) (M_letterAt : Nat → Int32) (M_told : Nat → Int32) (M_kept : Nat → Int32) (M_then : Nat → Int64) (M_row : Nat → Int32) (p1 : Int32) (post : Int32 → Int32 → (Nat → Int32) → Prop) (h : wpX5_readsSign post M_taped M_at M_tape M_told p1) : Met l yX5_readsSign (wz yX5_readsSign cX5_readsSign 2 (some .boolean)) ({ frames := 1, cells := 0, slots := 0, locals := 20 }) (va_Pc [.ref (a_M 0), .int p1] (PW D (tz cI cJ cC) G ((bX5 cI cJ cC a_M M_pipes M_used M_taped M_at M_statements M_hasImage M_isKeeping M_cursor M_nextAt M_nextMost M_rowMany M_refused M_setting M_hole M_pipeAt M_chance M_weight M_tape M_letter M_letterAt M_told M_kept M_then M_row)) sz)) (va_Qi (fun (r : Int32) (u : Int32 × (Nat → Int32)) => post r u.1 u.2) (fun (u : Int32 × (Nat → Int32)) t => va_P D vwCl ((bX5 cI cJ cC a_M M_pipes M_used M_taped u.1 M_statements M_hasImage M_isKeeping M_cursor M_nextAt M_nextMost M_rowMany M_refused M_setting M_hole M_pipeAt M_chance M_weight M_tape M_letter M_letterAt u.2 M_kept M_then M_row)) t.heap) (va_A ((bX5 cI cJ cC a_M M_pipes M_used M_taped M_at M_statements M_hasImage M_isKeeping M_cursor M_nextAt M_nextMost M_rowMany M_refused M_setting M_hole M_pipeAt M_chance M_weight M_tape M_letter M_letterAt M_told M_kept M_then M_row)) sz)) 0 0 (va_A ((bX5 cI cJ cC a_M M_pipes M_used M_taped M_at M_statements M_hasImage M_isKeeping M_cursor M_nextAt M_nextMost M_rowMany M_refused M_setting M_hole M_pipeAt M_chance M_weight M_tape M_letter M_letterAt M_told M_kept M_then M_row)) sz) := by
  refine zmi (gw := fun (u : Int32 × (Nat → Int32)) => (bX5 cI cJ cC a_M M_pipes M_used M_taped u.1 M_statements M_hasImage M_isKeeping M_cursor M_nextAt M_nextMost M_rowMany M_refused M_setting M_hole M_pipeAt M_chance M_weight M_tape M_letter M_letterAt u.2 M_kept M_then M_row)) (plainFor_of_name (by decide)) (Nat.le_of_ble_eq_true rfl) ?_
  intro p e s m below meth c A Q ls S hK hD hA hE hP hl hret
  obtain ⟨hx, hb, hml, hown, ht⟩ := id S
  have hS : va_S A s.heap s.heap [] := va_S.rf
  have hDD : ∀ ws : va_W, ws.map (fun q => q.1) = [a_M 0, a_M 1, a_M 2, a_M 3, a_M 4, a_M 5, a_M 6, a_M 7, a_M 8, a_M 9, a_M 10, a_M 11, a_M 12, a_M 13] → va_D A ws := fun ws hw => zD hD (hw.trans rfl)
  have hl : lv_has ls 2 [(0, .ref (a_M 0)), (1, .int p1)] := hl
  unfold wpX5_readsSign at h
  refine lv_aload_n hx hb dX5_readsSign_0 rfl (lv_at hl 0 rfl) ?_
  refine zci hA (hDD _ rfl) hS (zrunV (As := []) (rest := []) S hK hA hE hP (hDD _ rfl) hS (mX5_next l D cI cJ cC G a_M _ M_pipes M_used M_taped M_at M_statements M_hasImage M_isKeeping M_cursor M_nextAt M_nextMost M_rowMany M_refused M_setting M_hole M_pipeAt M_chance M_weight M_tape M_letter M_letterAt M_told M_kept M_then M_row _ h) kX5_next ml_X5_73 ⟨rfl, rfl, by decide, by decide⟩ (q0 := 0) (ci := 5) rfl rfl rfl rfl hl.1 rfl (Nat.le_of_ble_eq_true rfl) dX5_readsSign_1 ⟨Nat.zero_le _, Nat.zero_le _⟩) (fun r_1 u H locs h hP1 hk1 hS => ?_)
  try dsimp only at h
  have hP : va_P D vwCl ((bX5 cI cJ cC a_M M_pipes M_used M_taped M_at M_statements M_hasImage M_isKeeping M_cursor M_nextAt M_nextMost M_rowMany M_refused M_setting M_hole M_pipeAt M_chance M_weight M_tape M_letter M_letterAt M_told M_kept M_then M_row)) H := hP1
  refine lv_bipush (v := (43 : Int32)) hx hb dX5_readsSign_4 (by decide) ?_
  refine lv_icmp_eq (tgt := 20) hx hb dX5_readsSign_6 (by decide) (fun z => ?_) (fun z => ?_)
  · replace h := h.1 z
    refine lv_aload_n hx hb dX5_readsSign_20 rfl (lv_at hl 0 rfl) ?_
    refine va_get (D := D) (ci := 5) (v := .ref (a_M 10)) (C := RX5) (T := TX5) (N := 24) hx hb ht inX5 hown hK hP 0 rfl rfl 11 (by decide) (ht _ fl_X5_37) (fun _ h9 => h9) rfl dX5_readsSign_21 ?_
    refine lv_iload_n hx hb dX5_readsSign_24 rfl (lv_at hl 1 rfl) ?_
    refine lv_aload_n hx hb dX5_readsSign_25 rfl (lv_at hl 0 rfl) ?_
    refine zci hA (hDD _ rfl) hS (zrunV (As := []) (rest := [.int p1, .ref (a_M 10)]) S hK hA hE hP (hDD _ rfl) hS (mX5_next l D cI cJ cC G a_M _ M_pipes M_used M_taped M_at M_statements M_hasImage M_isKeeping M_cursor M_nextAt M_nextMost M_rowMany M_refused M_setting M_hole M_pipeAt M_chance M_weight M_tape M_letter M_letterAt M_told M_kept M_then M_row _ h) kX5_next ml_X5_73 ⟨rfl, rfl, by decide, by decide⟩ (q0 := 0) (ci := 5) rfl rfl rfl rfl hl.1 rfl (Nat.le_of_ble_eq_true rfl) dX5_readsSign_26 ⟨Nat.zero_le _, Nat.zero_le _⟩) (fun r_2 u H locs h hP1 hk1 hS => ?_)
    try dsimp only at h
    have hP : va_P D vwCl ((bX5 cI cJ cC a_M M_pipes M_used M_taped M_at M_statements M_hasImage M_isKeeping M_cursor M_nextAt M_nextMost M_rowMany M_refused M_setting M_hole M_pipeAt M_chance M_weight M_tape M_letter M_letterAt M_told M_kept M_then M_row)) H := hP1
    refine lv_bipush (v := (43 : Int32)) hx hb dX5_readsSign_29 (by decide) ?_
    refine lv_icmp_ne (tgt := 38) hx hb dX5_readsSign_31 (by decide) (fun z => ?_) (fun z => ?_)
    · replace h := h.2 z
      refine lv_iconst (v := (0 : Int32)) hx hb dX5_readsSign_38 (by decide) ?_
      obtain ⟨hin, h⟩ := h
      refine va_iast hx hb hK hP (hDD _ rfl) hS 10 0 rfl rfl hin dX5_readsSign_39 (fun H locs hP _ hS => ?_)
      have hP : va_P D vwCl ((bX5 cI cJ cC a_M M_pipes M_used M_taped M_at M_statements M_hasImage M_isKeeping M_cursor M_nextAt M_nextMost M_rowMany M_refused M_setting M_hole M_pipeAt M_chance M_weight M_tape M_letter M_letterAt (upd M_told p1.toNatClampNeg (0 : Int32)) M_kept M_then M_row)) H := hP
      refine lv_aload_n hx hb dX5_readsSign_40 rfl (lv_at hl 0 rfl) ?_
      refine lv_dup hx hb dX5_readsSign_41 rfl ?_
      refine va_get (D := D) (ci := 5) (v := .int M_at) (C := RX5) (T := TX5) (N := 24) hx hb ht inX5 hown hK hP 0 rfl rfl 13 (by decide) (ht _ fl_X5_70) (fun _ h9 => h9) rfl dX5_readsSign_42 ?_
      refine lv_iconst (v := (1 : Int32)) hx hb dX5_readsSign_45 (by decide) ?_
      refine lv_iadd hx hb dX5_readsSign_46 ?_
      refine va_put (D := D) (ci := 5) (v := .int (M_at + (1 : Int32))) (ty := .int) (C := RX5) (T := TX5) (N := 24) hx hb ht inX5 tyX5 tyX5_ok nmX5 hown hK hP (hDD _ rfl) hS 0 rfl rfl 13 (by decide) (ht _ fl_X5_70) (fun _ h9 => h9) rfl (by decide +kernel) rfl rfl (Nat.le_of_ble_eq_true rfl) dX5_readsSign_47 (fun H locs hP _ hS => ?_)
      have hP : va_P D vwCl ((bX5 cI cJ cC a_M M_pipes M_used M_taped (M_at + (1 : Int32)) M_statements M_hasImage M_isKeeping M_cursor M_nextAt M_nextMost M_rowMany M_refused M_setting M_hole M_pipeAt M_chance M_weight M_tape M_letter M_letterAt (upd M_told p1.toNatClampNeg (0 : Int32)) M_kept M_then M_row)) H := hP
      refine lv_iconst (v := (1 : Int32)) hx hb dX5_readsSign_50 (by decide) ?_
      exact hret (1 : Int32) (M_at + (1 : Int32), upd M_told p1.toNatClampNeg (0 : Int32)) _ _ _ _ rfl h hP hS dX5_readsSign_51
    · replace h := h.1 z
      refine lv_iconst (v := (1 : Int32)) hx hb dX5_readsSign_34 (by decide) ?_
      refine lv_goto (tgt := 39) hx hb dX5_readsSign_35 (by decide) ?_
      obtain ⟨hin, h⟩ := h
      refine va_iast hx hb hK hP (hDD _ rfl) hS 10 0 rfl rfl hin dX5_readsSign_39 (fun H locs hP _ hS => ?_)
      have hP : va_P D vwCl ((bX5 cI cJ cC a_M M_pipes M_used M_taped M_at M_statements M_hasImage M_isKeeping M_cursor M_nextAt M_nextMost M_rowMany M_refused M_setting M_hole M_pipeAt M_chance M_weight M_tape M_letter M_letterAt (upd M_told p1.toNatClampNeg (1 : Int32)) M_kept M_then M_row)) H := hP
      refine lv_aload_n hx hb dX5_readsSign_40 rfl (lv_at hl 0 rfl) ?_
      refine lv_dup hx hb dX5_readsSign_41 rfl ?_
      refine va_get (D := D) (ci := 5) (v := .int M_at) (C := RX5) (T := TX5) (N := 24) hx hb ht inX5 hown hK hP 0 rfl rfl 13 (by decide) (ht _ fl_X5_70) (fun _ h9 => h9) rfl dX5_readsSign_42 ?_
      refine lv_iconst (v := (1 : Int32)) hx hb dX5_readsSign_45 (by decide) ?_
      refine lv_iadd hx hb dX5_readsSign_46 ?_
      refine va_put (D := D) (ci := 5) (v := .int (M_at + (1 : Int32))) (ty := .int) (C := RX5) (T := TX5) (N := 24) hx hb ht inX5 tyX5 tyX5_ok nmX5 hown hK hP (hDD _ rfl) hS 0 rfl rfl 13 (by decide) (ht _ fl_X5_70) (fun _ h9 => h9) rfl (by decide +kernel) rfl rfl (Nat.le_of_ble_eq_true rfl) dX5_readsSign_47 (fun H locs hP _ hS => ?_)
      have hP : va_P D vwCl ((bX5 cI cJ cC a_M M_pipes M_used M_taped (M_at + (1 : Int32)) M_statements M_hasImage M_isKeeping M_cursor M_nextAt M_nextMost M_rowMany M_refused M_setting M_hole M_pipeAt M_chance M_weight M_tape M_letter M_letterAt (upd M_told p1.toNatClampNeg (1 : Int32)) M_kept M_then M_row)) H := hP
      refine lv_iconst (v := (1 : Int32)) hx hb dX5_readsSign_50 (by decide) ?_
      exact hret (1 : Int32) (M_at + (1 : Int32), upd M_told p1.toNatClampNeg (1 : Int32)) _ _ _ _ rfl h hP hS dX5_readsSign_51
  · replace h := h.2 z
    refine lv_aload_n hx hb dX5_readsSign_9 rfl (lv_at hl 0 rfl) ?_
    refine zci hA (hDD _ rfl) hS (zrunV (As := []) (rest := []) S hK hA hE hP (hDD _ rfl) hS (mX5_next l D cI cJ cC G a_M _ M_pipes M_used M_taped M_at M_statements M_hasImage M_isKeeping M_cursor M_nextAt M_nextMost M_rowMany M_refused M_setting M_hole M_pipeAt M_chance M_weight M_tape M_letter M_letterAt M_told M_kept M_then M_row _ h) kX5_next ml_X5_73 ⟨rfl, rfl, by decide, by decide⟩ (q0 := 0) (ci := 5) rfl rfl rfl rfl hl.1 rfl (Nat.le_of_ble_eq_true rfl) dX5_readsSign_10 ⟨Nat.zero_le _, Nat.zero_le _⟩) (fun r_3 u H locs h hP1 hk1 hS => ?_)
    try dsimp only at h
    have hP : va_P D vwCl ((bX5 cI cJ cC a_M M_pipes M_used M_taped M_at M_statements M_hasImage M_isKeeping M_cursor M_nextAt M_nextMost M_rowMany M_refused M_setting M_hole M_pipeAt M_chance M_weight M_tape M_letter M_letterAt M_told M_kept M_then M_row)) H := hP1
    refine lv_bipush (v := (45 : Int32)) hx hb dX5_readsSign_13 (by decide) ?_
    refine lv_icmp_eq (tgt := 20) hx hb dX5_readsSign_15 (by decide) (fun z => ?_) (fun z => ?_)
    · replace h := h.1 z
      refine lv_aload_n hx hb dX5_readsSign_20 rfl (lv_at hl 0 rfl) ?_
      refine va_get (D := D) (ci := 5) (v := .ref (a_M 10)) (C := RX5) (T := TX5) (N := 24) hx hb ht inX5 hown hK hP 0 rfl rfl 11 (by decide) (ht _ fl_X5_37) (fun _ h9 => h9) rfl dX5_readsSign_21 ?_
      refine lv_iload_n hx hb dX5_readsSign_24 rfl (lv_at hl 1 rfl) ?_
      refine lv_aload_n hx hb dX5_readsSign_25 rfl (lv_at hl 0 rfl) ?_
      refine zci hA (hDD _ rfl) hS (zrunV (As := []) (rest := [.int p1, .ref (a_M 10)]) S hK hA hE hP (hDD _ rfl) hS (mX5_next l D cI cJ cC G a_M _ M_pipes M_used M_taped M_at M_statements M_hasImage M_isKeeping M_cursor M_nextAt M_nextMost M_rowMany M_refused M_setting M_hole M_pipeAt M_chance M_weight M_tape M_letter M_letterAt M_told M_kept M_then M_row _ h) kX5_next ml_X5_73 ⟨rfl, rfl, by decide, by decide⟩ (q0 := 0) (ci := 5) rfl rfl rfl rfl hl.1 rfl (Nat.le_of_ble_eq_true rfl) dX5_readsSign_26 ⟨Nat.zero_le _, Nat.zero_le _⟩) (fun r_4 u H locs h hP1 hk1 hS => ?_)
      try dsimp only at h
      have hP : va_P D vwCl ((bX5 cI cJ cC a_M M_pipes M_used M_taped M_at M_statements M_hasImage M_isKeeping M_cursor M_nextAt M_nextMost M_rowMany M_refused M_setting M_hole M_pipeAt M_chance M_weight M_tape M_letter M_letterAt M_told M_kept M_then M_row)) H := hP1
      refine lv_bipush (v := (43 : Int32)) hx hb dX5_readsSign_29 (by decide) ?_
      refine lv_icmp_ne (tgt := 38) hx hb dX5_readsSign_31 (by decide) (fun z => ?_) (fun z => ?_)
      · replace h := h.2 z
        refine lv_iconst (v := (0 : Int32)) hx hb dX5_readsSign_38 (by decide) ?_
        obtain ⟨hin, h⟩ := h
        refine va_iast hx hb hK hP (hDD _ rfl) hS 10 0 rfl rfl hin dX5_readsSign_39 (fun H locs hP _ hS => ?_)
        have hP : va_P D vwCl ((bX5 cI cJ cC a_M M_pipes M_used M_taped M_at M_statements M_hasImage M_isKeeping M_cursor M_nextAt M_nextMost M_rowMany M_refused M_setting M_hole M_pipeAt M_chance M_weight M_tape M_letter M_letterAt (upd M_told p1.toNatClampNeg (0 : Int32)) M_kept M_then M_row)) H := hP
        refine lv_aload_n hx hb dX5_readsSign_40 rfl (lv_at hl 0 rfl) ?_
        refine lv_dup hx hb dX5_readsSign_41 rfl ?_
        refine va_get (D := D) (ci := 5) (v := .int M_at) (C := RX5) (T := TX5) (N := 24) hx hb ht inX5 hown hK hP 0 rfl rfl 13 (by decide) (ht _ fl_X5_70) (fun _ h9 => h9) rfl dX5_readsSign_42 ?_
        refine lv_iconst (v := (1 : Int32)) hx hb dX5_readsSign_45 (by decide) ?_
        refine lv_iadd hx hb dX5_readsSign_46 ?_
        refine va_put (D := D) (ci := 5) (v := .int (M_at + (1 : Int32))) (ty := .int) (C := RX5) (T := TX5) (N := 24) hx hb ht inX5 tyX5 tyX5_ok nmX5 hown hK hP (hDD _ rfl) hS 0 rfl rfl 13 (by decide) (ht _ fl_X5_70) (fun _ h9 => h9) rfl (by decide +kernel) rfl rfl (Nat.le_of_ble_eq_true rfl) dX5_readsSign_47 (fun H locs hP _ hS => ?_)
        have hP : va_P D vwCl ((bX5 cI cJ cC a_M M_pipes M_used M_taped (M_at + (1 : Int32)) M_statements M_hasImage M_isKeeping M_cursor M_nextAt M_nextMost M_rowMany M_refused M_setting M_hole M_pipeAt M_chance M_weight M_tape M_letter M_letterAt (upd M_told p1.toNatClampNeg (0 : Int32)) M_kept M_then M_row)) H := hP
        refine lv_iconst (v := (1 : Int32)) hx hb dX5_readsSign_50 (by decide) ?_
        exact hret (1 : Int32) (M_at + (1 : Int32), upd M_told p1.toNatClampNeg (0 : Int32)) _ _ _ _ rfl h hP hS dX5_readsSign_51
      · replace h := h.1 z
        refine lv_iconst (v := (1 : Int32)) hx hb dX5_readsSign_34 (by decide) ?_
        refine lv_goto (tgt := 39) hx hb dX5_readsSign_35 (by decide) ?_
        obtain ⟨hin, h⟩ := h
        refine va_iast hx hb hK hP (hDD _ rfl) hS 10 0 rfl rfl hin dX5_readsSign_39 (fun H locs hP _ hS => ?_)
        have hP : va_P D vwCl ((bX5 cI cJ cC a_M M_pipes M_used M_taped M_at M_statements M_hasImage M_isKeeping M_cursor M_nextAt M_nextMost M_rowMany M_refused M_setting M_hole M_pipeAt M_chance M_weight M_tape M_letter M_letterAt (upd M_told p1.toNatClampNeg (1 : Int32)) M_kept M_then M_row)) H := hP
        refine lv_aload_n hx hb dX5_readsSign_40 rfl (lv_at hl 0 rfl) ?_
        refine lv_dup hx hb dX5_readsSign_41 rfl ?_
        refine va_get (D := D) (ci := 5) (v := .int M_at) (C := RX5) (T := TX5) (N := 24) hx hb ht inX5 hown hK hP 0 rfl rfl 13 (by decide) (ht _ fl_X5_70) (fun _ h9 => h9) rfl dX5_readsSign_42 ?_
        refine lv_iconst (v := (1 : Int32)) hx hb dX5_readsSign_45 (by decide) ?_
        refine lv_iadd hx hb dX5_readsSign_46 ?_
        refine va_put (D := D) (ci := 5) (v := .int (M_at + (1 : Int32))) (ty := .int) (C := RX5) (T := TX5) (N := 24) hx hb ht inX5 tyX5 tyX5_ok nmX5 hown hK hP (hDD _ rfl) hS 0 rfl rfl 13 (by decide) (ht _ fl_X5_70) (fun _ h9 => h9) rfl (by decide +kernel) rfl rfl (Nat.le_of_ble_eq_true rfl) dX5_readsSign_47 (fun H locs hP _ hS => ?_)
        have hP : va_P D vwCl ((bX5 cI cJ cC a_M M_pipes M_used M_taped (M_at + (1 : Int32)) M_statements M_hasImage M_isKeeping M_cursor M_nextAt M_nextMost M_rowMany M_refused M_setting M_hole M_pipeAt M_chance M_weight M_tape M_letter M_letterAt (upd M_told p1.toNatClampNeg (1 : Int32)) M_kept M_then M_row)) H := hP
        refine lv_iconst (v := (1 : Int32)) hx hb dX5_readsSign_50 (by decide) ?_
        exact hret (1 : Int32) (M_at + (1 : Int32), upd M_told p1.toNatClampNeg (1 : Int32)) _ _ _ _ rfl h hP hS dX5_readsSign_51
    · replace h := h.2 z
      refine lv_iconst (v := (0 : Int32)) hx hb dX5_readsSign_18 (by decide) ?_
      exact hret (0 : Int32) (M_at, M_told) _ _ _ _ rfl h hP hS dX5_readsSign_19
def wpX5_readsSpace (post : Int32 → Int32 → (Nat → Int32) → Prop) (M_taped : Int32) (M_at : Int32) (M_tape : Nat → Int32) (M_told : Nat → Int32) (p1 : Int32) : Prop := wpX5_readsNumber (fun (r_1 : Int32) (M_at_2 : Int32) (M_told_3 : Nat → Int32) => ((r_1 = (0 : Int32) → (post (0 : Int32) M_at_2 M_told_3)) ∧ (¬ (r_1 = (0 : Int32)) → (wpX5_next (fun (r_4 : Int32) => ((r_4 = (44 : Int32) → (wpX5_readsNumber (fun (r_5 : Int32) (M_at_6 : Int32) (M_told_7 : Nat → Int32) => narrow .boolean (.int r_5) = .int r_5 ∧ post r_5 M_at_6 M_told_7) M_taped (M_at_2 + (1 : Int32)) M_tape M_told_3 (p1 + (1 : Int32)) (1 : Int32) (1 : Int32))) ∧ (¬ (r_4 = (44 : Int32)) → (post (0 : Int32) M_at_2 M_told_3)))) M_taped M_at_2 M_tape)))) M_taped M_at M_tape M_told p1 (1 : Int32) (2 : Int32)
set_option maxHeartbeats 4000000 in
set_option maxRecDepth 100000 in
theorem mX5_readsSpace (l : Launch) (D : va_G) (cI cJ cC : ClassId) (G : Nat → Nat → Nat) (a_M : Nat → Nat) (sz : Nat) (M_pipes : Int32) (M_used : Int32) (M_taped : Int32) (M_at : Int32) (M_statements : Int32) (M_hasImage : Int32) (M_isKeeping : Int32) (M_cursor : Int32) (M_nextAt : Int32) (M_nextMost : Int64) (M_rowMany : Int32) (M_refused : Nat → Int32) (M_setting : Nat → Int32) (M_hole : Nat → Int32) (M_pipeAt : Nat → Int32) (M_chance : Nat → Int32) (M_weight : Nat → Int32) (M_tape : Nat → Int32) (M_letter : Nat → Int32) (M_letterAt : Nat → Int32) (M_told : Nat → Int32) (M_kept : Nat → Int32) (M_then : Nat → Int64) (M_row : Nat → Int32) (p1 : Int32) (post : Int32 → Int32 → (Nat → Int32) → Prop) (h : wpX5_readsSpace post M_taped M_at M_tape M_told p1) : Met l yX5_readsSpace (wz yX5_readsSpace cX5_readsSpace 2 (some .boolean)) ({ frames := 2, cells := 0, slots := 0, locals := 47 }) (va_Pc [.ref (a_M 0), .int p1] (PW D (tz cI cJ cC) G ((bX5 cI cJ cC a_M M_pipes M_used M_taped M_at M_statements M_hasImage M_isKeeping M_cursor M_nextAt M_nextMost M_rowMany M_refused M_setting M_hole M_pipeAt M_chance M_weight M_tape M_letter M_letterAt M_told M_kept M_then M_row)) sz)) (va_Qi (fun (r : Int32) (u : Int32 × (Nat → Int32)) => post r u.1 u.2) (fun (u : Int32 × (Nat → Int32)) t => va_P D vwCl ((bX5 cI cJ cC a_M M_pipes M_used M_taped u.1 M_statements M_hasImage M_isKeeping M_cursor M_nextAt M_nextMost M_rowMany M_refused M_setting M_hole M_pipeAt M_chance M_weight M_tape M_letter M_letterAt u.2 M_kept M_then M_row)) t.heap) (va_A ((bX5 cI cJ cC a_M M_pipes M_used M_taped M_at M_statements M_hasImage M_isKeeping M_cursor M_nextAt M_nextMost M_rowMany M_refused M_setting M_hole M_pipeAt M_chance M_weight M_tape M_letter M_letterAt M_told M_kept M_then M_row)) sz)) 0 0 (va_A ((bX5 cI cJ cC a_M M_pipes M_used M_taped M_at M_statements M_hasImage M_isKeeping M_cursor M_nextAt M_nextMost M_rowMany M_refused M_setting M_hole M_pipeAt M_chance M_weight M_tape M_letter M_letterAt M_told M_kept M_then M_row)) sz) := by
  refine zmi (gw := fun (u : Int32 × (Nat → Int32)) => (bX5 cI cJ cC a_M M_pipes M_used M_taped u.1 M_statements M_hasImage M_isKeeping M_cursor M_nextAt M_nextMost M_rowMany M_refused M_setting M_hole M_pipeAt M_chance M_weight M_tape M_letter M_letterAt u.2 M_kept M_then M_row)) (plainFor_of_name (by decide)) (Nat.le_of_ble_eq_true rfl) ?_
  intro p e s m below meth c A Q ls S hK hD hA hE hP hl hret
  obtain ⟨hx, hb, hml, hown, ht⟩ := id S
  have hS : va_S A s.heap s.heap [] := va_S.rf
  have hDD : ∀ ws : va_W, ws.map (fun q => q.1) = [a_M 0, a_M 1, a_M 2, a_M 3, a_M 4, a_M 5, a_M 6, a_M 7, a_M 8, a_M 9, a_M 10, a_M 11, a_M 12, a_M 13] → va_D A ws := fun ws hw => zD hD (hw.trans rfl)
  have hl : lv_has ls 2 [(0, .ref (a_M 0)), (1, .int p1)] := hl
  unfold wpX5_readsSpace at h
  refine lv_aload_n hx hb dX5_readsSpace_0 rfl (lv_at hl 0 rfl) ?_
  refine lv_iload_n hx hb dX5_readsSpace_1 rfl (lv_at hl 1 rfl) ?_
  refine lv_iconst (v := (1 : Int32)) hx hb dX5_readsSpace_2 (by decide) ?_
  refine lv_iconst (v := (2 : Int32)) hx hb dX5_readsSpace_3 (by decide) ?_
  refine zci hA (hDD _ rfl) hS (zrunV (As := [.int p1, .int (1 : Int32), .int (2 : Int32)]) (rest := []) S hK hA hE hP (hDD _ rfl) hS (mX5_readsNumber l D cI cJ cC G a_M _ M_pipes M_used M_taped M_at M_statements M_hasImage M_isKeeping M_cursor M_nextAt M_nextMost M_rowMany M_refused M_setting M_hole M_pipeAt M_chance M_weight M_tape M_letter M_letterAt M_told M_kept M_then M_row p1 (1 : Int32) (2 : Int32) _ h) kX5_readsNumber ml_X5_81 ⟨rfl, rfl, by decide, by decide⟩ (q0 := 0) (ci := 5) rfl rfl rfl rfl hl.1 rfl (Nat.le_of_ble_eq_true rfl) dX5_readsSpace_4 ⟨Nat.zero_le _, Nat.zero_le _⟩) (fun r_1 u H locs h hP1 hk1 hS => ?_)
  obtain ⟨M_at_2, M_told_3⟩ := u
  dsimp only at h
  have hP : va_P D vwCl ((bX5 cI cJ cC a_M M_pipes M_used M_taped M_at_2 M_statements M_hasImage M_isKeeping M_cursor M_nextAt M_nextMost M_rowMany M_refused M_setting M_hole M_pipeAt M_chance M_weight M_tape M_letter M_letterAt M_told_3 M_kept M_then M_row)) H := hP1
  refine lv_if_eq (tgt := 19) hx hb dX5_readsSpace_7 (by decide) (fun z => ?_) (fun z => ?_)
  · replace h := h.1 z
    refine lv_iconst (v := (0 : Int32)) hx hb dX5_readsSpace_19 (by decide) ?_
    exact hret (0 : Int32) (M_at_2, M_told_3) _ _ _ _ rfl h hP hS dX5_readsSpace_20
  · replace h := h.2 z
    refine lv_aload_n hx hb dX5_readsSpace_10 rfl (lv_at hl 0 rfl) ?_
    refine zci hA (hDD _ rfl) hS (zrunV (As := []) (rest := []) S hK hA hE hP (hDD _ rfl) hS (mX5_next l D cI cJ cC G a_M _ M_pipes M_used M_taped M_at_2 M_statements M_hasImage M_isKeeping M_cursor M_nextAt M_nextMost M_rowMany M_refused M_setting M_hole M_pipeAt M_chance M_weight M_tape M_letter M_letterAt M_told_3 M_kept M_then M_row _ h) kX5_next ml_X5_73 ⟨rfl, rfl, by decide, by decide⟩ (q0 := 0) (ci := 5) rfl rfl rfl rfl hl.1 rfl (Nat.le_of_ble_eq_true rfl) dX5_readsSpace_11 ⟨Nat.zero_le _, Nat.zero_le _⟩) (fun r_4 u H locs h hP1 hk1 hS => ?_)
    try dsimp only at h
    have hP : va_P D vwCl ((bX5 cI cJ cC a_M M_pipes M_used M_taped M_at_2 M_statements M_hasImage M_isKeeping M_cursor M_nextAt M_nextMost M_rowMany M_refused M_setting M_hole M_pipeAt M_chance M_weight M_tape M_letter M_letterAt M_told_3 M_kept M_then M_row)) H := hP1
    refine lv_bipush (v := (44 : Int32)) hx hb dX5_readsSpace_14 (by decide) ?_
    refine lv_icmp_eq (tgt := 21) hx hb dX5_readsSpace_16 (by decide) (fun z => ?_) (fun z => ?_)
    · replace h := h.1 z
      refine lv_aload_n hx hb dX5_readsSpace_21 rfl (lv_at hl 0 rfl) ?_
      refine lv_dup hx hb dX5_readsSpace_22 rfl ?_
      refine va_get (D := D) (ci := 5) (v := .int M_at_2) (C := RX5) (T := TX5) (N := 24) hx hb ht inX5 hown hK hP 0 rfl rfl 13 (by decide) (ht _ fl_X5_70) (fun _ h9 => h9) rfl dX5_readsSpace_23 ?_
      refine lv_iconst (v := (1 : Int32)) hx hb dX5_readsSpace_26 (by decide) ?_
      refine lv_iadd hx hb dX5_readsSpace_27 ?_
      refine va_put (D := D) (ci := 5) (v := .int (M_at_2 + (1 : Int32))) (ty := .int) (C := RX5) (T := TX5) (N := 24) hx hb ht inX5 tyX5 tyX5_ok nmX5 hown hK hP (hDD _ rfl) hS 0 rfl rfl 13 (by decide) (ht _ fl_X5_70) (fun _ h9 => h9) rfl (by decide +kernel) rfl rfl (Nat.le_of_ble_eq_true rfl) dX5_readsSpace_28 (fun H locs hP _ hS => ?_)
      have hP : va_P D vwCl ((bX5 cI cJ cC a_M M_pipes M_used M_taped (M_at_2 + (1 : Int32)) M_statements M_hasImage M_isKeeping M_cursor M_nextAt M_nextMost M_rowMany M_refused M_setting M_hole M_pipeAt M_chance M_weight M_tape M_letter M_letterAt M_told_3 M_kept M_then M_row)) H := hP
      refine lv_aload_n hx hb dX5_readsSpace_31 rfl (lv_at hl 0 rfl) ?_
      refine lv_iload_n hx hb dX5_readsSpace_32 rfl (lv_at hl 1 rfl) ?_
      refine lv_iconst (v := (1 : Int32)) hx hb dX5_readsSpace_33 (by decide) ?_
      refine lv_iadd hx hb dX5_readsSpace_34 ?_
      refine lv_iconst (v := (1 : Int32)) hx hb dX5_readsSpace_35 (by decide) ?_
      refine lv_iconst (v := (1 : Int32)) hx hb dX5_readsSpace_36 (by decide) ?_
      refine zci hA (hDD _ rfl) hS (zrunV (As := [.int (p1 + (1 : Int32)), .int (1 : Int32), .int (1 : Int32)]) (rest := []) S hK hA hE hP (hDD _ rfl) hS (mX5_readsNumber l D cI cJ cC G a_M _ M_pipes M_used M_taped (M_at_2 + (1 : Int32)) M_statements M_hasImage M_isKeeping M_cursor M_nextAt M_nextMost M_rowMany M_refused M_setting M_hole M_pipeAt M_chance M_weight M_tape M_letter M_letterAt M_told_3 M_kept M_then M_row (p1 + (1 : Int32)) (1 : Int32) (1 : Int32) _ h) kX5_readsNumber ml_X5_81 ⟨rfl, rfl, by decide, by decide⟩ (q0 := 0) (ci := 5) rfl rfl rfl rfl hl.1 rfl (Nat.le_of_ble_eq_true rfl) dX5_readsSpace_37 ⟨Nat.zero_le _, Nat.zero_le _⟩) (fun r_5 u H locs h hP1 hk1 hS => ?_)
      obtain ⟨M_at_6, M_told_7⟩ := u
      dsimp only at h
      have hP : va_P D vwCl ((bX5 cI cJ cC a_M M_pipes M_used M_taped M_at_6 M_statements M_hasImage M_isKeeping M_cursor M_nextAt M_nextMost M_rowMany M_refused M_setting M_hole M_pipeAt M_chance M_weight M_tape M_letter M_letterAt M_told_7 M_kept M_then M_row)) H := hP1
      exact hret r_5 (M_at_6, M_told_7) _ _ _ _ h.1 h.2 hP hS dX5_readsSpace_40
    · replace h := h.2 z
      refine lv_iconst (v := (0 : Int32)) hx hb dX5_readsSpace_19 (by decide) ?_
      exact hret (0 : Int32) (M_at_2, M_told_3) _ _ _ _ rfl h hP hS dX5_readsSpace_20
def wpX5_lawOf (post : Int32 → Prop) (p0 : Int32) : Prop := ((p0 = (99 : Int32) → (post (3 : Int32))) ∧ (¬ (p0 = (99 : Int32)) → (((p0 = (100 : Int32) → (post (2 : Int32))) ∧ (¬ (p0 = (100 : Int32)) → (((p0 = (104 : Int32) → (post (4 : Int32))) ∧ (¬ (p0 = (104 : Int32)) → (((p0 = (108 : Int32) → (post (0 : Int32))) ∧ (¬ (p0 = (108 : Int32)) → (((p0 = (114 : Int32) → (post (1 : Int32))) ∧ (¬ (p0 = (114 : Int32)) → (((p0 = (115 : Int32) → (post (5 : Int32))) ∧ (¬ (p0 = (115 : Int32)) → (post (-1 : Int32)))))))))))))))))))
set_option maxHeartbeats 4000000 in
set_option maxRecDepth 100000 in
theorem mX5_lawOf (l : Launch) (D : va_G) (cI cJ cC : ClassId) (G : Nat → Nat → Nat) (sz : Nat) (p0 : Int32) (post : Int32 → Prop) (h : wpX5_lawOf post p0) : Met l yX5_lawOf (wz yX5_lawOf cX5_lawOf 1 (some .int)) ({ frames := 0, cells := 0, slots := 0, locals := 0 }) (va_Pc [.int p0] (PW D (tz cI cJ cC) G ([]) sz)) (va_Qi (fun (r : Int32) (u : Unit) => post r ) (fun (u : Unit) t => va_P D vwCl ([]) t.heap) (va_A ([]) sz)) 0 0 (va_A ([]) sz) := by
  refine zmi (gw := fun (u : Unit) => []) (plainFor_of_name (by decide)) (Nat.le_of_ble_eq_true rfl) ?_
  intro p e s m below meth c A Q ls S hK hD hA hE hP hl hret
  obtain ⟨hx, hb, hml, hown, ht⟩ := id S
  have hS : va_S A s.heap s.heap [] := va_S.rf
  have hDD : ∀ ws : va_W, ws.map (fun q => q.1) = [] → va_D A ws := fun ws hw => zD hD (hw.trans rfl)
  have hl : lv_has ls 1 [(0, .int p0)] := hl
  unfold wpX5_lawOf at h
  refine lv_iload_n hx hb dX5_lawOf_0 rfl (lv_at hl 0 rfl) ?_
  by_cases z0 : p0 = (99 : Int32)
  · replace h := h.1 z0
    refine lv_tableIn (off := 89) (tgt := 90) hx hb dX5_lawOf_1 (by rw [z0]; decide) (by rw [z0]; decide) (by rw [z0]; rfl) (by decide) ?_
    refine lv_iconst (v := (3 : Int32)) hx hb dX5_lawOf_90 (by decide) ?_
    exact hret (3 : Int32) () _ _ _ _ rfl h hP hS dX5_lawOf_91
  · replace h := h.2 z0
    by_cases z1 : p0 = (100 : Int32)
    · replace h := h.1 z1
      refine lv_tableIn (off := 87) (tgt := 88) hx hb dX5_lawOf_1 (by rw [z1]; decide) (by rw [z1]; decide) (by rw [z1]; rfl) (by decide) ?_
      refine lv_iconst (v := (2 : Int32)) hx hb dX5_lawOf_88 (by decide) ?_
      exact hret (2 : Int32) () _ _ _ _ rfl h hP hS dX5_lawOf_89
    · replace h := h.2 z1
      by_cases z2 : p0 = (104 : Int32)
      · replace h := h.1 z2
        refine lv_tableIn (off := 91) (tgt := 92) hx hb dX5_lawOf_1 (by rw [z2]; decide) (by rw [z2]; decide) (by rw [z2]; rfl) (by decide) ?_
        refine lv_iconst (v := (4 : Int32)) hx hb dX5_lawOf_92 (by decide) ?_
        exact hret (4 : Int32) () _ _ _ _ rfl h hP hS dX5_lawOf_93
      · replace h := h.2 z2
        by_cases z3 : p0 = (108 : Int32)
        · replace h := h.1 z3
          refine lv_tableIn (off := 83) (tgt := 84) hx hb dX5_lawOf_1 (by rw [z3]; decide) (by rw [z3]; decide) (by rw [z3]; rfl) (by decide) ?_
          refine lv_iconst (v := (0 : Int32)) hx hb dX5_lawOf_84 (by decide) ?_
          exact hret (0 : Int32) () _ _ _ _ rfl h hP hS dX5_lawOf_85
        · replace h := h.2 z3
          by_cases z4 : p0 = (114 : Int32)
          · replace h := h.1 z4
            refine lv_tableIn (off := 85) (tgt := 86) hx hb dX5_lawOf_1 (by rw [z4]; decide) (by rw [z4]; decide) (by rw [z4]; rfl) (by decide) ?_
            refine lv_iconst (v := (1 : Int32)) hx hb dX5_lawOf_86 (by decide) ?_
            exact hret (1 : Int32) () _ _ _ _ rfl h hP hS dX5_lawOf_87
          · replace h := h.2 z4
            by_cases z5 : p0 = (115 : Int32)
            · replace h := h.1 z5
              refine lv_tableIn (off := 93) (tgt := 94) hx hb dX5_lawOf_1 (by rw [z5]; decide) (by rw [z5]; decide) (by rw [z5]; rfl) (by decide) ?_
              refine lv_iconst (v := (5 : Int32)) hx hb dX5_lawOf_94 (by decide) ?_
              exact hret (5 : Int32) () _ _ _ _ rfl h hP hS dX5_lawOf_95
            · replace h := h.2 z5
              by_cases y101 : p0 = (101 : Int32)
              · refine lv_tableIn (off := 95) (tgt := 96) hx hb dX5_lawOf_1 (by rw [y101]; decide) (by rw [y101]; decide) (by rw [y101]; rfl) (by decide) ?_
                refine lv_iconst (v := (-1 : Int32)) hx hb dX5_lawOf_96 (by decide) ?_
                exact hret (-1 : Int32) () _ _ _ _ rfl h hP hS dX5_lawOf_97
              by_cases y102 : p0 = (102 : Int32)
              · refine lv_tableIn (off := 95) (tgt := 96) hx hb dX5_lawOf_1 (by rw [y102]; decide) (by rw [y102]; decide) (by rw [y102]; rfl) (by decide) ?_
                refine lv_iconst (v := (-1 : Int32)) hx hb dX5_lawOf_96 (by decide) ?_
                exact hret (-1 : Int32) () _ _ _ _ rfl h hP hS dX5_lawOf_97
              by_cases y103 : p0 = (103 : Int32)
              · refine lv_tableIn (off := 95) (tgt := 96) hx hb dX5_lawOf_1 (by rw [y103]; decide) (by rw [y103]; decide) (by rw [y103]; rfl) (by decide) ?_
                refine lv_iconst (v := (-1 : Int32)) hx hb dX5_lawOf_96 (by decide) ?_
                exact hret (-1 : Int32) () _ _ _ _ rfl h hP hS dX5_lawOf_97
              by_cases y105 : p0 = (105 : Int32)
              · refine lv_tableIn (off := 95) (tgt := 96) hx hb dX5_lawOf_1 (by rw [y105]; decide) (by rw [y105]; decide) (by rw [y105]; rfl) (by decide) ?_
                refine lv_iconst (v := (-1 : Int32)) hx hb dX5_lawOf_96 (by decide) ?_
                exact hret (-1 : Int32) () _ _ _ _ rfl h hP hS dX5_lawOf_97
              by_cases y106 : p0 = (106 : Int32)
              · refine lv_tableIn (off := 95) (tgt := 96) hx hb dX5_lawOf_1 (by rw [y106]; decide) (by rw [y106]; decide) (by rw [y106]; rfl) (by decide) ?_
                refine lv_iconst (v := (-1 : Int32)) hx hb dX5_lawOf_96 (by decide) ?_
                exact hret (-1 : Int32) () _ _ _ _ rfl h hP hS dX5_lawOf_97
              by_cases y107 : p0 = (107 : Int32)
              · refine lv_tableIn (off := 95) (tgt := 96) hx hb dX5_lawOf_1 (by rw [y107]; decide) (by rw [y107]; decide) (by rw [y107]; rfl) (by decide) ?_
                refine lv_iconst (v := (-1 : Int32)) hx hb dX5_lawOf_96 (by decide) ?_
                exact hret (-1 : Int32) () _ _ _ _ rfl h hP hS dX5_lawOf_97
              by_cases y109 : p0 = (109 : Int32)
              · refine lv_tableIn (off := 95) (tgt := 96) hx hb dX5_lawOf_1 (by rw [y109]; decide) (by rw [y109]; decide) (by rw [y109]; rfl) (by decide) ?_
                refine lv_iconst (v := (-1 : Int32)) hx hb dX5_lawOf_96 (by decide) ?_
                exact hret (-1 : Int32) () _ _ _ _ rfl h hP hS dX5_lawOf_97
              by_cases y110 : p0 = (110 : Int32)
              · refine lv_tableIn (off := 95) (tgt := 96) hx hb dX5_lawOf_1 (by rw [y110]; decide) (by rw [y110]; decide) (by rw [y110]; rfl) (by decide) ?_
                refine lv_iconst (v := (-1 : Int32)) hx hb dX5_lawOf_96 (by decide) ?_
                exact hret (-1 : Int32) () _ _ _ _ rfl h hP hS dX5_lawOf_97
              by_cases y111 : p0 = (111 : Int32)
              · refine lv_tableIn (off := 95) (tgt := 96) hx hb dX5_lawOf_1 (by rw [y111]; decide) (by rw [y111]; decide) (by rw [y111]; rfl) (by decide) ?_
                refine lv_iconst (v := (-1 : Int32)) hx hb dX5_lawOf_96 (by decide) ?_
                exact hret (-1 : Int32) () _ _ _ _ rfl h hP hS dX5_lawOf_97
              by_cases y112 : p0 = (112 : Int32)
              · refine lv_tableIn (off := 95) (tgt := 96) hx hb dX5_lawOf_1 (by rw [y112]; decide) (by rw [y112]; decide) (by rw [y112]; rfl) (by decide) ?_
                refine lv_iconst (v := (-1 : Int32)) hx hb dX5_lawOf_96 (by decide) ?_
                exact hret (-1 : Int32) () _ _ _ _ rfl h hP hS dX5_lawOf_97
              by_cases y113 : p0 = (113 : Int32)
              · refine lv_tableIn (off := 95) (tgt := 96) hx hb dX5_lawOf_1 (by rw [y113]; decide) (by rw [y113]; decide) (by rw [y113]; rfl) (by decide) ?_
                refine lv_iconst (v := (-1 : Int32)) hx hb dX5_lawOf_96 (by decide) ?_
                exact hret (-1 : Int32) () _ _ _ _ rfl h hP hS dX5_lawOf_97
              refine lv_tableOut (tgt := 96) hx hb dX5_lawOf_1 (by have n0 := lv_neT z0 (a := 99) (by decide); have n1 := lv_neT z1 (a := 100) (by decide); have n2 := lv_neT z2 (a := 104) (by decide); have n3 := lv_neT z3 (a := 108) (by decide); have n4 := lv_neT z4 (a := 114) (by decide); have n5 := lv_neT z5 (a := 115) (by decide); have n6 := lv_neT y101 (a := 101) (by decide); have n7 := lv_neT y102 (a := 102) (by decide); have n8 := lv_neT y103 (a := 103) (by decide); have n9 := lv_neT y105 (a := 105) (by decide); have n10 := lv_neT y106 (a := 106) (by decide); have n11 := lv_neT y107 (a := 107) (by decide); have n12 := lv_neT y109 (a := 109) (by decide); have n13 := lv_neT y110 (a := 110) (by decide); have n14 := lv_neT y111 (a := 111) (by decide); have n15 := lv_neT y112 (a := 112) (by decide); have n16 := lv_neT y113 (a := 113) (by decide); omega) (by decide) ?_
              refine lv_iconst (v := (-1 : Int32)) hx hb dX5_lawOf_96 (by decide) ?_
              exact hret (-1 : Int32) () _ _ _ _ rfl h hP hS dX5_lawOf_97
def wpX5_readsLaw (post : Int32 → Int32 → (Nat → Int32) → Prop) (M_taped : Int32) (M_at : Int32) (M_tape : Nat → Int32) (M_told : Nat → Int32) (p1 : Int32) : Prop := wpX5_next (fun (r_1 : Int32) => wpX5_lawOf (fun (r_2 : Int32) => vp_in p1 144 ∧ (vp_in p1 144 ∧ ((((0 : Int32) ≤ ((upd M_told p1.toNatClampNeg r_2) p1.toNatClampNeg) → (post (1 : Int32) (M_at + (1 : Int32)) (upd M_told p1.toNatClampNeg r_2))) ∧ (¬ ((0 : Int32) ≤ ((upd M_told p1.toNatClampNeg r_2) p1.toNatClampNeg)) → (post (0 : Int32) M_at (upd M_told p1.toNatClampNeg r_2))))))) r_1) M_taped M_at M_tape
set_option maxHeartbeats 4000000 in
set_option maxRecDepth 100000 in
theorem mX5_readsLaw (l : Launch) (D : va_G) (cI cJ cC : ClassId) (G : Nat → Nat → Nat) (a_M : Nat → Nat) (sz : Nat) (M_pipes : Int32) (M_used : Int32) (M_taped : Int32) (M_at : Int32) (M_statements : Int32) (M_hasImage : Int32) (M_isKeeping : Int32) (M_cursor : Int32) (M_nextAt : Int32) (M_nextMost : Int64) (M_rowMany : Int32) (M_refused : Nat → Int32) (M_setting : Nat → Int32) (M_hole : Nat → Int32) (M_pipeAt : Nat → Int32) (M_chance : Nat → Int32) (M_weight : Nat → Int32) (M_tape : Nat → Int32) (M_letter : Nat → Int32) (M_letterAt : Nat → Int32) (M_told : Nat → Int32) (M_kept : Nat → Int32) (M_then : Nat → Int64) (M_row : Nat → Int32) (p1 : Int32) (post : Int32 → Int32 → (Nat → Int32) → Prop) (h : wpX5_readsLaw post M_taped M_at M_tape M_told p1) : Met l yX5_readsLaw (wz yX5_readsLaw cX5_readsLaw 2 (some .boolean)) ({ frames := 1, cells := 0, slots := 0, locals := 20 }) (va_Pc [.ref (a_M 0), .int p1] (PW D (tz cI cJ cC) G ((bX5 cI cJ cC a_M M_pipes M_used M_taped M_at M_statements M_hasImage M_isKeeping M_cursor M_nextAt M_nextMost M_rowMany M_refused M_setting M_hole M_pipeAt M_chance M_weight M_tape M_letter M_letterAt M_told M_kept M_then M_row)) sz)) (va_Qi (fun (r : Int32) (u : Int32 × (Nat → Int32)) => post r u.1 u.2) (fun (u : Int32 × (Nat → Int32)) t => va_P D vwCl ((bX5 cI cJ cC a_M M_pipes M_used M_taped u.1 M_statements M_hasImage M_isKeeping M_cursor M_nextAt M_nextMost M_rowMany M_refused M_setting M_hole M_pipeAt M_chance M_weight M_tape M_letter M_letterAt u.2 M_kept M_then M_row)) t.heap) (va_A ((bX5 cI cJ cC a_M M_pipes M_used M_taped M_at M_statements M_hasImage M_isKeeping M_cursor M_nextAt M_nextMost M_rowMany M_refused M_setting M_hole M_pipeAt M_chance M_weight M_tape M_letter M_letterAt M_told M_kept M_then M_row)) sz)) 0 0 (va_A ((bX5 cI cJ cC a_M M_pipes M_used M_taped M_at M_statements M_hasImage M_isKeeping M_cursor M_nextAt M_nextMost M_rowMany M_refused M_setting M_hole M_pipeAt M_chance M_weight M_tape M_letter M_letterAt M_told M_kept M_then M_row)) sz) := by
  refine zmi (gw := fun (u : Int32 × (Nat → Int32)) => (bX5 cI cJ cC a_M M_pipes M_used M_taped u.1 M_statements M_hasImage M_isKeeping M_cursor M_nextAt M_nextMost M_rowMany M_refused M_setting M_hole M_pipeAt M_chance M_weight M_tape M_letter M_letterAt u.2 M_kept M_then M_row)) (plainFor_of_name (by decide)) (Nat.le_of_ble_eq_true rfl) ?_
  intro p e s m below meth c A Q ls S hK hD hA hE hP hl hret
  obtain ⟨hx, hb, hml, hown, ht⟩ := id S
  have hS : va_S A s.heap s.heap [] := va_S.rf
  have hDD : ∀ ws : va_W, ws.map (fun q => q.1) = [a_M 0, a_M 1, a_M 2, a_M 3, a_M 4, a_M 5, a_M 6, a_M 7, a_M 8, a_M 9, a_M 10, a_M 11, a_M 12, a_M 13] → va_D A ws := fun ws hw => zD hD (hw.trans rfl)
  have hl : lv_has ls 2 [(0, .ref (a_M 0)), (1, .int p1)] := hl
  unfold wpX5_readsLaw at h
  refine lv_aload_n hx hb dX5_readsLaw_0 rfl (lv_at hl 0 rfl) ?_
  refine va_get (D := D) (ci := 5) (v := .ref (a_M 10)) (C := RX5) (T := TX5) (N := 24) hx hb ht inX5 hown hK hP 0 rfl rfl 11 (by decide) (ht _ fl_X5_37) (fun _ h9 => h9) rfl dX5_readsLaw_1 ?_
  refine lv_iload_n hx hb dX5_readsLaw_4 rfl (lv_at hl 1 rfl) ?_
  refine lv_aload_n hx hb dX5_readsLaw_5 rfl (lv_at hl 0 rfl) ?_
  refine zci hA (hDD _ rfl) hS (zrunV (As := []) (rest := [.int p1, .ref (a_M 10)]) S hK hA hE hP (hDD _ rfl) hS (mX5_next l D cI cJ cC G a_M _ M_pipes M_used M_taped M_at M_statements M_hasImage M_isKeeping M_cursor M_nextAt M_nextMost M_rowMany M_refused M_setting M_hole M_pipeAt M_chance M_weight M_tape M_letter M_letterAt M_told M_kept M_then M_row _ h) kX5_next ml_X5_73 ⟨rfl, rfl, by decide, by decide⟩ (q0 := 0) (ci := 5) rfl rfl rfl rfl hl.1 rfl (Nat.le_of_ble_eq_true rfl) dX5_readsLaw_6 ⟨Nat.zero_le _, Nat.zero_le _⟩) (fun r_1 u H locs h hP1 hk1 hS => ?_)
  try dsimp only at h
  have hP : va_P D vwCl ((bX5 cI cJ cC a_M M_pipes M_used M_taped M_at M_statements M_hasImage M_isKeeping M_cursor M_nextAt M_nextMost M_rowMany M_refused M_setting M_hole M_pipeAt M_chance M_weight M_tape M_letter M_letterAt M_told M_kept M_then M_row)) H := hP1
  refine zci hA zD0 hS (zrunS (As := [.int r_1]) (rest := [.int p1, .ref (a_M 10)]) S hK hA hE zP0 zD0 hS (mX5_lawOf l D cI cJ cC G _ r_1 _ h) kX5_lawOf ml_X5_84 ⟨rfl, rfl, by decide, by decide⟩ rfl hl.1 rfl (Nat.le_of_ble_eq_true rfl) dX5_readsLaw_9 ⟨Nat.zero_le _, Nat.zero_le _⟩) (fun r_2 u H locs h hP1 hk1 hS => ?_)
  try dsimp only at h
  have hP : va_P D vwCl ((bX5 cI cJ cC a_M M_pipes M_used M_taped M_at M_statements M_hasImage M_isKeeping M_cursor M_nextAt M_nextMost M_rowMany M_refused M_setting M_hole M_pipeAt M_chance M_weight M_tape M_letter M_letterAt M_told M_kept M_then M_row)) H := zKeep hP hk1
  obtain ⟨hin, h⟩ := h
  refine va_iast hx hb hK hP (hDD _ rfl) hS 10 0 rfl rfl hin dX5_readsLaw_12 (fun H locs hP _ hS => ?_)
  have hP : va_P D vwCl ((bX5 cI cJ cC a_M M_pipes M_used M_taped M_at M_statements M_hasImage M_isKeeping M_cursor M_nextAt M_nextMost M_rowMany M_refused M_setting M_hole M_pipeAt M_chance M_weight M_tape M_letter M_letterAt (upd M_told p1.toNatClampNeg r_2) M_kept M_then M_row)) H := hP
  refine lv_aload_n hx hb dX5_readsLaw_13 rfl (lv_at hl 0 rfl) ?_
  refine va_get (D := D) (ci := 5) (v := .ref (a_M 10)) (C := RX5) (T := TX5) (N := 24) hx hb ht inX5 hown hK hP 0 rfl rfl 11 (by decide) (ht _ fl_X5_37) (fun _ h9 => h9) rfl dX5_readsLaw_14 ?_
  refine lv_iload_n hx hb dX5_readsLaw_17 rfl (lv_at hl 1 rfl) ?_
  obtain ⟨hin, h⟩ := h
  refine va_iald hx hb hK hP 10 0 rfl rfl hin dX5_readsLaw_18 ?_
  refine lv_if_ge (tgt := 24) hx hb dX5_readsLaw_19 (by decide) (fun z => ?_) (fun z => ?_)
  · replace h := h.1 z
    refine lv_aload_n hx hb dX5_readsLaw_24 rfl (lv_at hl 0 rfl) ?_
    refine lv_dup hx hb dX5_readsLaw_25 rfl ?_
    refine va_get (D := D) (ci := 5) (v := .int M_at) (C := RX5) (T := TX5) (N := 24) hx hb ht inX5 hown hK hP 0 rfl rfl 13 (by decide) (ht _ fl_X5_70) (fun _ h9 => h9) rfl dX5_readsLaw_26 ?_
    refine lv_iconst (v := (1 : Int32)) hx hb dX5_readsLaw_29 (by decide) ?_
    refine lv_iadd hx hb dX5_readsLaw_30 ?_
    refine va_put (D := D) (ci := 5) (v := .int (M_at + (1 : Int32))) (ty := .int) (C := RX5) (T := TX5) (N := 24) hx hb ht inX5 tyX5 tyX5_ok nmX5 hown hK hP (hDD _ rfl) hS 0 rfl rfl 13 (by decide) (ht _ fl_X5_70) (fun _ h9 => h9) rfl (by decide +kernel) rfl rfl (Nat.le_of_ble_eq_true rfl) dX5_readsLaw_31 (fun H locs hP _ hS => ?_)
    have hP : va_P D vwCl ((bX5 cI cJ cC a_M M_pipes M_used M_taped (M_at + (1 : Int32)) M_statements M_hasImage M_isKeeping M_cursor M_nextAt M_nextMost M_rowMany M_refused M_setting M_hole M_pipeAt M_chance M_weight M_tape M_letter M_letterAt (upd M_told p1.toNatClampNeg r_2) M_kept M_then M_row)) H := hP
    refine lv_iconst (v := (1 : Int32)) hx hb dX5_readsLaw_34 (by decide) ?_
    exact hret (1 : Int32) (M_at + (1 : Int32), upd M_told p1.toNatClampNeg r_2) _ _ _ _ rfl h hP hS dX5_readsLaw_35
  · replace h := h.2 z
    refine lv_iconst (v := (0 : Int32)) hx hb dX5_readsLaw_22 (by decide) ?_
    exact hret (0 : Int32) (M_at, upd M_told p1.toNatClampNeg r_2) _ _ _ _ rfl h hP hS dX5_readsLaw_23
def wpX5_readsAll (post : Int32 → Int32 → (Nat → Int32) → Prop) (M_taped : Int32) (M_at : Int32) (M_tape : Nat → Int32) (M_told : Nat → Int32) (p1 : Int32) (p2 : Int32) : Prop := ((p1 = (100 : Int32) → (wpX5_readsNumber (fun (r_1 : Int32) (M_at_2 : Int32) (M_told_3 : Nat → Int32) => narrow .boolean (.int r_1) = .int r_1 ∧ post r_1 M_at_2 M_told_3) M_taped M_at M_tape M_told p2 (2 : Int32) (2 : Int32))) ∧ (¬ (p1 = (100 : Int32)) → (((p1 = (108 : Int32) → (wpX5_readsLaw (fun (r_4 : Int32) (M_at_5 : Int32) (M_told_6 : Nat → Int32) => narrow .boolean (.int r_4) = .int r_4 ∧ post r_4 M_at_5 M_told_6) M_taped M_at M_tape M_told p2)) ∧ (¬ (p1 = (108 : Int32)) → (((p1 = (110 : Int32) → (wpX5_readsNumber (fun (r_7 : Int32) (M_at_8 : Int32) (M_told_9 : Nat → Int32) => ((r_7 = (0 : Int32) → (post (0 : Int32) M_at_8 M_told_9)) ∧ (¬ (r_7 = (0 : Int32)) → (wpX5_readsSign (fun (r_10 : Int32) (M_at_11 : Int32) (M_told_12 : Nat → Int32) => ((r_10 = (0 : Int32) → (post (0 : Int32) M_at_11 M_told_12)) ∧ (¬ (r_10 = (0 : Int32)) → (post (1 : Int32) M_at_11 M_told_12)))) M_taped M_at_8 M_tape M_told_9 (p2 + (1 : Int32)))))) M_taped M_at M_tape M_told p2 (2 : Int32) (2 : Int32))) ∧ (¬ (p1 = (110 : Int32)) → (((p1 = (115 : Int32) → (wpX5_readsSpace (fun (r_13 : Int32) (M_at_14 : Int32) (M_told_15 : Nat → Int32) => narrow .boolean (.int r_13) = .int r_13 ∧ post r_13 M_at_14 M_told_15) M_taped M_at M_tape M_told p2)) ∧ (¬ (p1 = (115 : Int32)) → (((p1 = (116 : Int32) → (wpX5_readsNumber (fun (r_16 : Int32) (M_at_17 : Int32) (M_told_18 : Nat → Int32) => ((r_16 = (0 : Int32) → (post (0 : Int32) M_at_17 M_told_18)) ∧ (¬ (r_16 = (0 : Int32)) → (wpX5_readsNumber (fun (r_19 : Int32) (M_at_20 : Int32) (M_told_21 : Nat → Int32) => ((r_19 = (0 : Int32) → (post (0 : Int32) M_at_20 M_told_21)) ∧ (¬ (r_19 = (0 : Int32)) → (wpX5_readsSign (fun (r_22 : Int32) (M_at_23 : Int32) (M_told_24 : Nat → Int32) => ((r_22 = (0 : Int32) → (post (0 : Int32) M_at_23 M_told_24)) ∧ (¬ (r_22 = (0 : Int32)) → (post (1 : Int32) M_at_23 M_told_24)))) M_taped M_at_20 M_tape M_told_21 (p2 + (2 : Int32)))))) M_taped M_at_17 M_tape M_told_18 (p2 + (1 : Int32)) (2 : Int32) (2 : Int32))))) M_taped M_at M_tape M_told p2 (1 : Int32) (1 : Int32))) ∧ (¬ (p1 = (116 : Int32)) → (wpX5_readsNumber (fun (r_25 : Int32) (M_at_26 : Int32) (M_told_27 : Nat → Int32) => ((r_25 = (0 : Int32) → (post (0 : Int32) M_at_26 M_told_27)) ∧ (¬ (r_25 = (0 : Int32)) → (wpX5_readsNumber (fun (r_28 : Int32) (M_at_29 : Int32) (M_told_30 : Nat → Int32) => ((r_28 = (0 : Int32) → (post (0 : Int32) M_at_29 M_told_30)) ∧ (¬ (r_28 = (0 : Int32)) → (post (1 : Int32) M_at_29 M_told_30)))) M_taped M_at_26 M_tape M_told_27 (p2 + (1 : Int32)) (1 : Int32) (1 : Int32))))) M_taped M_at M_tape M_told p2 (2 : Int32) (2 : Int32))))))))))))))))
set_option maxHeartbeats 4000000 in
set_option maxRecDepth 100000 in
theorem mX5_readsAll (l : Launch) (D : va_G) (cI cJ cC : ClassId) (G : Nat → Nat → Nat) (a_M : Nat → Nat) (sz : Nat) (M_pipes : Int32) (M_used : Int32) (M_taped : Int32) (M_at : Int32) (M_statements : Int32) (M_hasImage : Int32) (M_isKeeping : Int32) (M_cursor : Int32) (M_nextAt : Int32) (M_nextMost : Int64) (M_rowMany : Int32) (M_refused : Nat → Int32) (M_setting : Nat → Int32) (M_hole : Nat → Int32) (M_pipeAt : Nat → Int32) (M_chance : Nat → Int32) (M_weight : Nat → Int32) (M_tape : Nat → Int32) (M_letter : Nat → Int32) (M_letterAt : Nat → Int32) (M_told : Nat → Int32) (M_kept : Nat → Int32) (M_then : Nat → Int64) (M_row : Nat → Int32) (p1 : Int32) (p2 : Int32) (post : Int32 → Int32 → (Nat → Int32) → Prop) (h : wpX5_readsAll post M_taped M_at M_tape M_told p1 p2) : Met l yX5_readsAll (wz yX5_readsAll cX5_readsAll 3 (some .boolean)) ({ frames := 3, cells := 0, slots := 0, locals := 68 }) (va_Pc [.ref (a_M 0), .int p1, .int p2] (PW D (tz cI cJ cC) G ((bX5 cI cJ cC a_M M_pipes M_used M_taped M_at M_statements M_hasImage M_isKeeping M_cursor M_nextAt M_nextMost M_rowMany M_refused M_setting M_hole M_pipeAt M_chance M_weight M_tape M_letter M_letterAt M_told M_kept M_then M_row)) sz)) (va_Qi (fun (r : Int32) (u : Int32 × (Nat → Int32)) => post r u.1 u.2) (fun (u : Int32 × (Nat → Int32)) t => va_P D vwCl ((bX5 cI cJ cC a_M M_pipes M_used M_taped u.1 M_statements M_hasImage M_isKeeping M_cursor M_nextAt M_nextMost M_rowMany M_refused M_setting M_hole M_pipeAt M_chance M_weight M_tape M_letter M_letterAt u.2 M_kept M_then M_row)) t.heap) (va_A ((bX5 cI cJ cC a_M M_pipes M_used M_taped M_at M_statements M_hasImage M_isKeeping M_cursor M_nextAt M_nextMost M_rowMany M_refused M_setting M_hole M_pipeAt M_chance M_weight M_tape M_letter M_letterAt M_told M_kept M_then M_row)) sz)) 0 0 (va_A ((bX5 cI cJ cC a_M M_pipes M_used M_taped M_at M_statements M_hasImage M_isKeeping M_cursor M_nextAt M_nextMost M_rowMany M_refused M_setting M_hole M_pipeAt M_chance M_weight M_tape M_letter M_letterAt M_told M_kept M_then M_row)) sz) := by
  refine zmi (gw := fun (u : Int32 × (Nat → Int32)) => (bX5 cI cJ cC a_M M_pipes M_used M_taped u.1 M_statements M_hasImage M_isKeeping M_cursor M_nextAt M_nextMost M_rowMany M_refused M_setting M_hole M_pipeAt M_chance M_weight M_tape M_letter M_letterAt u.2 M_kept M_then M_row)) (plainFor_of_name (by decide)) (Nat.le_of_ble_eq_true rfl) ?_
  intro p e s m below meth c A Q ls S hK hD hA hE hP hl hret
  obtain ⟨hx, hb, hml, hown, ht⟩ := id S
  have hS : va_S A s.heap s.heap [] := va_S.rf
  have hDD : ∀ ws : va_W, ws.map (fun q => q.1) = [a_M 0, a_M 1, a_M 2, a_M 3, a_M 4, a_M 5, a_M 6, a_M 7, a_M 8, a_M 9, a_M 10, a_M 11, a_M 12, a_M 13] → va_D A ws := fun ws hw => zD hD (hw.trans rfl)
  have hl : lv_has ls 3 [(0, .ref (a_M 0)), (1, .int p1), (2, .int p2)] := hl
  unfold wpX5_readsAll at h
  refine lv_iload_n hx hb dX5_readsAll_0 rfl (lv_at hl 1 rfl) ?_
  by_cases z0 : p1 = (100 : Int32)
  · replace h := h.1 z0
    refine lv_lookup (off := 63) (tgt := 64) hx hb dX5_readsAll_1 (by decide) (by rw [z0]; decide) (by decide) ?_
    refine lv_aload_n hx hb dX5_readsAll_64 rfl (lv_at hl 0 rfl) ?_
    refine lv_iload_n hx hb dX5_readsAll_65 rfl (lv_at hl 2 rfl) ?_
    refine lv_iconst (v := (2 : Int32)) hx hb dX5_readsAll_66 (by decide) ?_
    refine lv_iconst (v := (2 : Int32)) hx hb dX5_readsAll_67 (by decide) ?_
    refine zci hA (hDD _ rfl) hS (zrunV (As := [.int p2, .int (2 : Int32), .int (2 : Int32)]) (rest := []) S hK hA hE hP (hDD _ rfl) hS (mX5_readsNumber l D cI cJ cC G a_M _ M_pipes M_used M_taped M_at M_statements M_hasImage M_isKeeping M_cursor M_nextAt M_nextMost M_rowMany M_refused M_setting M_hole M_pipeAt M_chance M_weight M_tape M_letter M_letterAt M_told M_kept M_then M_row p2 (2 : Int32) (2 : Int32) _ h) kX5_readsNumber ml_X5_81 ⟨rfl, rfl, by decide, by decide⟩ (q0 := 0) (ci := 5) rfl rfl rfl rfl hl.1 rfl (Nat.le_of_ble_eq_true rfl) dX5_readsAll_68 ⟨Nat.zero_le _, Nat.zero_le _⟩) (fun r_1 u H locs h hP1 hk1 hS => ?_)
    obtain ⟨M_at_2, M_told_3⟩ := u
    dsimp only at h
    have hP : va_P D vwCl ((bX5 cI cJ cC a_M M_pipes M_used M_taped M_at_2 M_statements M_hasImage M_isKeeping M_cursor M_nextAt M_nextMost M_rowMany M_refused M_setting M_hole M_pipeAt M_chance M_weight M_tape M_letter M_letterAt M_told_3 M_kept M_then M_row)) H := hP1
    exact hret r_1 (M_at_2, M_told_3) _ _ _ _ h.1 h.2 hP hS dX5_readsAll_71
  · replace h := h.2 z0
    by_cases z1 : p1 = (108 : Int32)
    · replace h := h.1 z1
      refine lv_lookup (off := 57) (tgt := 58) hx hb dX5_readsAll_1 (by decide) (by rw [z1]; decide) (by decide) ?_
      refine lv_aload_n hx hb dX5_readsAll_58 rfl (lv_at hl 0 rfl) ?_
      refine lv_iload_n hx hb dX5_readsAll_59 rfl (lv_at hl 2 rfl) ?_
      refine zci hA (hDD _ rfl) hS (zrunV (As := [.int p2]) (rest := []) S hK hA hE hP (hDD _ rfl) hS (mX5_readsLaw l D cI cJ cC G a_M _ M_pipes M_used M_taped M_at M_statements M_hasImage M_isKeeping M_cursor M_nextAt M_nextMost M_rowMany M_refused M_setting M_hole M_pipeAt M_chance M_weight M_tape M_letter M_letterAt M_told M_kept M_then M_row p2 _ h) kX5_readsLaw ml_X5_91 ⟨rfl, rfl, by decide, by decide⟩ (q0 := 0) (ci := 5) rfl rfl rfl rfl hl.1 rfl (Nat.le_of_ble_eq_true rfl) dX5_readsAll_60 ⟨Nat.zero_le _, Nat.zero_le _⟩) (fun r_4 u H locs h hP1 hk1 hS => ?_)
      obtain ⟨M_at_5, M_told_6⟩ := u
      dsimp only at h
      have hP : va_P D vwCl ((bX5 cI cJ cC a_M M_pipes M_used M_taped M_at_5 M_statements M_hasImage M_isKeeping M_cursor M_nextAt M_nextMost M_rowMany M_refused M_setting M_hole M_pipeAt M_chance M_weight M_tape M_letter M_letterAt M_told_6 M_kept M_then M_row)) H := hP1
      exact hret r_4 (M_at_5, M_told_6) _ _ _ _ h.1 h.2 hP hS dX5_readsAll_63
    · replace h := h.2 z1
      by_cases z2 : p1 = (110 : Int32)
      · replace h := h.1 z2
        refine lv_lookup (off := 109) (tgt := 110) hx hb dX5_readsAll_1 (by decide) (by rw [z2]; decide) (by decide) ?_
        refine lv_aload_n hx hb dX5_readsAll_110 rfl (lv_at hl 0 rfl) ?_
        refine lv_iload_n hx hb dX5_readsAll_111 rfl (lv_at hl 2 rfl) ?_
        refine lv_iconst (v := (2 : Int32)) hx hb dX5_readsAll_112 (by decide) ?_
        refine lv_iconst (v := (2 : Int32)) hx hb dX5_readsAll_113 (by decide) ?_
        refine zci hA (hDD _ rfl) hS (zrunV (As := [.int p2, .int (2 : Int32), .int (2 : Int32)]) (rest := []) S hK hA hE hP (hDD _ rfl) hS (mX5_readsNumber l D cI cJ cC G a_M _ M_pipes M_used M_taped M_at M_statements M_hasImage M_isKeeping M_cursor M_nextAt M_nextMost M_rowMany M_refused M_setting M_hole M_pipeAt M_chance M_weight M_tape M_letter M_letterAt M_told M_kept M_then M_row p2 (2 : Int32) (2 : Int32) _ h) kX5_readsNumber ml_X5_81 ⟨rfl, rfl, by decide, by decide⟩ (q0 := 0) (ci := 5) rfl rfl rfl rfl hl.1 rfl (Nat.le_of_ble_eq_true rfl) dX5_readsAll_114 ⟨Nat.zero_le _, Nat.zero_le _⟩) (fun r_7 u H locs h hP1 hk1 hS => ?_)
        obtain ⟨M_at_8, M_told_9⟩ := u
        dsimp only at h
        have hP : va_P D vwCl ((bX5 cI cJ cC a_M M_pipes M_used M_taped M_at_8 M_statements M_hasImage M_isKeeping M_cursor M_nextAt M_nextMost M_rowMany M_refused M_setting M_hole M_pipeAt M_chance M_weight M_tape M_letter M_letterAt M_told_9 M_kept M_then M_row)) H := hP1
        refine lv_if_eq (tgt := 134) hx hb dX5_readsAll_117 (by decide) (fun z => ?_) (fun z => ?_)
        · replace h := h.1 z
          refine lv_iconst (v := (0 : Int32)) hx hb dX5_readsAll_134 (by decide) ?_
          exact hret (0 : Int32) (M_at_8, M_told_9) _ _ _ _ rfl h hP hS dX5_readsAll_135
        · replace h := h.2 z
          refine lv_aload_n hx hb dX5_readsAll_120 rfl (lv_at hl 0 rfl) ?_
          refine lv_iload_n hx hb dX5_readsAll_121 rfl (lv_at hl 2 rfl) ?_
          refine lv_iconst (v := (1 : Int32)) hx hb dX5_readsAll_122 (by decide) ?_
          refine lv_iadd hx hb dX5_readsAll_123 ?_
          refine zci hA (hDD _ rfl) hS (zrunV (As := [.int (p2 + (1 : Int32))]) (rest := []) S hK hA hE hP (hDD _ rfl) hS (mX5_readsSign l D cI cJ cC G a_M _ M_pipes M_used M_taped M_at_8 M_statements M_hasImage M_isKeeping M_cursor M_nextAt M_nextMost M_rowMany M_refused M_setting M_hole M_pipeAt M_chance M_weight M_tape M_letter M_letterAt M_told_9 M_kept M_then M_row (p2 + (1 : Int32)) _ h) kX5_readsSign ml_X5_94 ⟨rfl, rfl, by decide, by decide⟩ (q0 := 0) (ci := 5) rfl rfl rfl rfl hl.1 rfl (Nat.le_of_ble_eq_true rfl) dX5_readsAll_124 ⟨Nat.zero_le _, Nat.zero_le _⟩) (fun r_10 u H locs h hP1 hk1 hS => ?_)
          obtain ⟨M_at_11, M_told_12⟩ := u
          dsimp only at h
          have hP : va_P D vwCl ((bX5 cI cJ cC a_M M_pipes M_used M_taped M_at_11 M_statements M_hasImage M_isKeeping M_cursor M_nextAt M_nextMost M_rowMany M_refused M_setting M_hole M_pipeAt M_chance M_weight M_tape M_letter M_letterAt M_told_12 M_kept M_then M_row)) H := hP1
          refine lv_if_eq (tgt := 134) hx hb dX5_readsAll_127 (by decide) (fun z => ?_) (fun z => ?_)
          · replace h := h.1 z
            refine lv_iconst (v := (0 : Int32)) hx hb dX5_readsAll_134 (by decide) ?_
            exact hret (0 : Int32) (M_at_11, M_told_12) _ _ _ _ rfl h hP hS dX5_readsAll_135
          · replace h := h.2 z
            refine lv_iconst (v := (1 : Int32)) hx hb dX5_readsAll_130 (by decide) ?_
            refine lv_goto (tgt := 135) hx hb dX5_readsAll_131 (by decide) ?_
            exact hret (1 : Int32) (M_at_11, M_told_12) _ _ _ _ rfl h hP hS dX5_readsAll_135
      · replace h := h.2 z2
        by_cases z3 : p1 = (115 : Int32)
        · replace h := h.1 z3
          refine lv_lookup (off := 51) (tgt := 52) hx hb dX5_readsAll_1 (by decide) (by rw [z3]; decide) (by decide) ?_
          refine lv_aload_n hx hb dX5_readsAll_52 rfl (lv_at hl 0 rfl) ?_
          refine lv_iload_n hx hb dX5_readsAll_53 rfl (lv_at hl 2 rfl) ?_
          refine zci hA (hDD _ rfl) hS (zrunV (As := [.int p2]) (rest := []) S hK hA hE hP (hDD _ rfl) hS (mX5_readsSpace l D cI cJ cC G a_M _ M_pipes M_used M_taped M_at M_statements M_hasImage M_isKeeping M_cursor M_nextAt M_nextMost M_rowMany M_refused M_setting M_hole M_pipeAt M_chance M_weight M_tape M_letter M_letterAt M_told M_kept M_then M_row p2 _ h) kX5_readsSpace ml_X5_87 ⟨rfl, rfl, by decide, by decide⟩ (q0 := 0) (ci := 5) rfl rfl rfl rfl hl.1 rfl (Nat.le_of_ble_eq_true rfl) dX5_readsAll_54 ⟨Nat.zero_le _, Nat.zero_le _⟩) (fun r_13 u H locs h hP1 hk1 hS => ?_)
          obtain ⟨M_at_14, M_told_15⟩ := u
          dsimp only at h
          have hP : va_P D vwCl ((bX5 cI cJ cC a_M M_pipes M_used M_taped M_at_14 M_statements M_hasImage M_isKeeping M_cursor M_nextAt M_nextMost M_rowMany M_refused M_setting M_hole M_pipeAt M_chance M_weight M_tape M_letter M_letterAt M_told_15 M_kept M_then M_row)) H := hP1
          exact hret r_13 (M_at_14, M_told_15) _ _ _ _ h.1 h.2 hP hS dX5_readsAll_57
        · replace h := h.2 z3
          by_cases z4 : p1 = (116 : Int32)
          · replace h := h.1 z4
            refine lv_lookup (off := 71) (tgt := 72) hx hb dX5_readsAll_1 (by decide) (by rw [z4]; decide) (by decide) ?_
            refine lv_aload_n hx hb dX5_readsAll_72 rfl (lv_at hl 0 rfl) ?_
            refine lv_iload_n hx hb dX5_readsAll_73 rfl (lv_at hl 2 rfl) ?_
            refine lv_iconst (v := (1 : Int32)) hx hb dX5_readsAll_74 (by decide) ?_
            refine lv_iconst (v := (1 : Int32)) hx hb dX5_readsAll_75 (by decide) ?_
            refine zci hA (hDD _ rfl) hS (zrunV (As := [.int p2, .int (1 : Int32), .int (1 : Int32)]) (rest := []) S hK hA hE hP (hDD _ rfl) hS (mX5_readsNumber l D cI cJ cC G a_M _ M_pipes M_used M_taped M_at M_statements M_hasImage M_isKeeping M_cursor M_nextAt M_nextMost M_rowMany M_refused M_setting M_hole M_pipeAt M_chance M_weight M_tape M_letter M_letterAt M_told M_kept M_then M_row p2 (1 : Int32) (1 : Int32) _ h) kX5_readsNumber ml_X5_81 ⟨rfl, rfl, by decide, by decide⟩ (q0 := 0) (ci := 5) rfl rfl rfl rfl hl.1 rfl (Nat.le_of_ble_eq_true rfl) dX5_readsAll_76 ⟨Nat.zero_le _, Nat.zero_le _⟩) (fun r_16 u H locs h hP1 hk1 hS => ?_)
            obtain ⟨M_at_17, M_told_18⟩ := u
            dsimp only at h
            have hP : va_P D vwCl ((bX5 cI cJ cC a_M M_pipes M_used M_taped M_at_17 M_statements M_hasImage M_isKeeping M_cursor M_nextAt M_nextMost M_rowMany M_refused M_setting M_hole M_pipeAt M_chance M_weight M_tape M_letter M_letterAt M_told_18 M_kept M_then M_row)) H := hP1
            refine lv_if_eq (tgt := 108) hx hb dX5_readsAll_79 (by decide) (fun z => ?_) (fun z => ?_)
            · replace h := h.1 z
              refine lv_iconst (v := (0 : Int32)) hx hb dX5_readsAll_108 (by decide) ?_
              exact hret (0 : Int32) (M_at_17, M_told_18) _ _ _ _ rfl h hP hS dX5_readsAll_109
            · replace h := h.2 z
              refine lv_aload_n hx hb dX5_readsAll_82 rfl (lv_at hl 0 rfl) ?_
              refine lv_iload_n hx hb dX5_readsAll_83 rfl (lv_at hl 2 rfl) ?_
              refine lv_iconst (v := (1 : Int32)) hx hb dX5_readsAll_84 (by decide) ?_
              refine lv_iadd hx hb dX5_readsAll_85 ?_
              refine lv_iconst (v := (2 : Int32)) hx hb dX5_readsAll_86 (by decide) ?_
              refine lv_iconst (v := (2 : Int32)) hx hb dX5_readsAll_87 (by decide) ?_
              refine zci hA (hDD _ rfl) hS (zrunV (As := [.int (p2 + (1 : Int32)), .int (2 : Int32), .int (2 : Int32)]) (rest := []) S hK hA hE hP (hDD _ rfl) hS (mX5_readsNumber l D cI cJ cC G a_M _ M_pipes M_used M_taped M_at_17 M_statements M_hasImage M_isKeeping M_cursor M_nextAt M_nextMost M_rowMany M_refused M_setting M_hole M_pipeAt M_chance M_weight M_tape M_letter M_letterAt M_told_18 M_kept M_then M_row (p2 + (1 : Int32)) (2 : Int32) (2 : Int32) _ h) kX5_readsNumber ml_X5_81 ⟨rfl, rfl, by decide, by decide⟩ (q0 := 0) (ci := 5) rfl rfl rfl rfl hl.1 rfl (Nat.le_of_ble_eq_true rfl) dX5_readsAll_88 ⟨Nat.zero_le _, Nat.zero_le _⟩) (fun r_19 u H locs h hP1 hk1 hS => ?_)
              obtain ⟨M_at_20, M_told_21⟩ := u
              dsimp only at h
              have hP : va_P D vwCl ((bX5 cI cJ cC a_M M_pipes M_used M_taped M_at_20 M_statements M_hasImage M_isKeeping M_cursor M_nextAt M_nextMost M_rowMany M_refused M_setting M_hole M_pipeAt M_chance M_weight M_tape M_letter M_letterAt M_told_21 M_kept M_then M_row)) H := hP1
              refine lv_if_eq (tgt := 108) hx hb dX5_readsAll_91 (by decide) (fun z => ?_) (fun z => ?_)
              · replace h := h.1 z
                refine lv_iconst (v := (0 : Int32)) hx hb dX5_readsAll_108 (by decide) ?_
                exact hret (0 : Int32) (M_at_20, M_told_21) _ _ _ _ rfl h hP hS dX5_readsAll_109
              · replace h := h.2 z
                refine lv_aload_n hx hb dX5_readsAll_94 rfl (lv_at hl 0 rfl) ?_
                refine lv_iload_n hx hb dX5_readsAll_95 rfl (lv_at hl 2 rfl) ?_
                refine lv_iconst (v := (2 : Int32)) hx hb dX5_readsAll_96 (by decide) ?_
                refine lv_iadd hx hb dX5_readsAll_97 ?_
                refine zci hA (hDD _ rfl) hS (zrunV (As := [.int (p2 + (2 : Int32))]) (rest := []) S hK hA hE hP (hDD _ rfl) hS (mX5_readsSign l D cI cJ cC G a_M _ M_pipes M_used M_taped M_at_20 M_statements M_hasImage M_isKeeping M_cursor M_nextAt M_nextMost M_rowMany M_refused M_setting M_hole M_pipeAt M_chance M_weight M_tape M_letter M_letterAt M_told_21 M_kept M_then M_row (p2 + (2 : Int32)) _ h) kX5_readsSign ml_X5_94 ⟨rfl, rfl, by decide, by decide⟩ (q0 := 0) (ci := 5) rfl rfl rfl rfl hl.1 rfl (Nat.le_of_ble_eq_true rfl) dX5_readsAll_98 ⟨Nat.zero_le _, Nat.zero_le _⟩) (fun r_22 u H locs h hP1 hk1 hS => ?_)
                obtain ⟨M_at_23, M_told_24⟩ := u
                dsimp only at h
                have hP : va_P D vwCl ((bX5 cI cJ cC a_M M_pipes M_used M_taped M_at_23 M_statements M_hasImage M_isKeeping M_cursor M_nextAt M_nextMost M_rowMany M_refused M_setting M_hole M_pipeAt M_chance M_weight M_tape M_letter M_letterAt M_told_24 M_kept M_then M_row)) H := hP1
                refine lv_if_eq (tgt := 108) hx hb dX5_readsAll_101 (by decide) (fun z => ?_) (fun z => ?_)
                · replace h := h.1 z
                  refine lv_iconst (v := (0 : Int32)) hx hb dX5_readsAll_108 (by decide) ?_
                  exact hret (0 : Int32) (M_at_23, M_told_24) _ _ _ _ rfl h hP hS dX5_readsAll_109
                · replace h := h.2 z
                  refine lv_iconst (v := (1 : Int32)) hx hb dX5_readsAll_104 (by decide) ?_
                  refine lv_goto (tgt := 109) hx hb dX5_readsAll_105 (by decide) ?_
                  exact hret (1 : Int32) (M_at_23, M_told_24) _ _ _ _ rfl h hP hS dX5_readsAll_109
          · replace h := h.2 z4
            refine lv_lookup (off := 135) (tgt := 136) hx hb dX5_readsAll_1 (by decide) (by rw [show (#[(100, 63), (108, 57), (110, 109), (115, 51), (116, 71)] : Array (Int × Int)).toList = [(100, 63), (108, 57), (110, 109), (115, 51), (116, 71)] from rfl, lv_osw z0 (by decide), lv_osw z1 (by decide), lv_osw z2 (by decide), lv_osw z3 (by decide), lv_osw z4 (by decide)]; rfl) (by decide) ?_
            refine lv_aload_n hx hb dX5_readsAll_136 rfl (lv_at hl 0 rfl) ?_
            refine lv_iload_n hx hb dX5_readsAll_137 rfl (lv_at hl 2 rfl) ?_
            refine lv_iconst (v := (2 : Int32)) hx hb dX5_readsAll_138 (by decide) ?_
            refine lv_iconst (v := (2 : Int32)) hx hb dX5_readsAll_139 (by decide) ?_
            refine zci hA (hDD _ rfl) hS (zrunV (As := [.int p2, .int (2 : Int32), .int (2 : Int32)]) (rest := []) S hK hA hE hP (hDD _ rfl) hS (mX5_readsNumber l D cI cJ cC G a_M _ M_pipes M_used M_taped M_at M_statements M_hasImage M_isKeeping M_cursor M_nextAt M_nextMost M_rowMany M_refused M_setting M_hole M_pipeAt M_chance M_weight M_tape M_letter M_letterAt M_told M_kept M_then M_row p2 (2 : Int32) (2 : Int32) _ h) kX5_readsNumber ml_X5_81 ⟨rfl, rfl, by decide, by decide⟩ (q0 := 0) (ci := 5) rfl rfl rfl rfl hl.1 rfl (Nat.le_of_ble_eq_true rfl) dX5_readsAll_140 ⟨Nat.zero_le _, Nat.zero_le _⟩) (fun r_25 u H locs h hP1 hk1 hS => ?_)
            obtain ⟨M_at_26, M_told_27⟩ := u
            dsimp only at h
            have hP : va_P D vwCl ((bX5 cI cJ cC a_M M_pipes M_used M_taped M_at_26 M_statements M_hasImage M_isKeeping M_cursor M_nextAt M_nextMost M_rowMany M_refused M_setting M_hole M_pipeAt M_chance M_weight M_tape M_letter M_letterAt M_told_27 M_kept M_then M_row)) H := hP1
            refine lv_if_eq (tgt := 162) hx hb dX5_readsAll_143 (by decide) (fun z => ?_) (fun z => ?_)
            · replace h := h.1 z
              refine lv_iconst (v := (0 : Int32)) hx hb dX5_readsAll_162 (by decide) ?_
              exact hret (0 : Int32) (M_at_26, M_told_27) _ _ _ _ rfl h hP hS dX5_readsAll_163
            · replace h := h.2 z
              refine lv_aload_n hx hb dX5_readsAll_146 rfl (lv_at hl 0 rfl) ?_
              refine lv_iload_n hx hb dX5_readsAll_147 rfl (lv_at hl 2 rfl) ?_
              refine lv_iconst (v := (1 : Int32)) hx hb dX5_readsAll_148 (by decide) ?_
              refine lv_iadd hx hb dX5_readsAll_149 ?_
              refine lv_iconst (v := (1 : Int32)) hx hb dX5_readsAll_150 (by decide) ?_
              refine lv_iconst (v := (1 : Int32)) hx hb dX5_readsAll_151 (by decide) ?_
              refine zci hA (hDD _ rfl) hS (zrunV (As := [.int (p2 + (1 : Int32)), .int (1 : Int32), .int (1 : Int32)]) (rest := []) S hK hA hE hP (hDD _ rfl) hS (mX5_readsNumber l D cI cJ cC G a_M _ M_pipes M_used M_taped M_at_26 M_statements M_hasImage M_isKeeping M_cursor M_nextAt M_nextMost M_rowMany M_refused M_setting M_hole M_pipeAt M_chance M_weight M_tape M_letter M_letterAt M_told_27 M_kept M_then M_row (p2 + (1 : Int32)) (1 : Int32) (1 : Int32) _ h) kX5_readsNumber ml_X5_81 ⟨rfl, rfl, by decide, by decide⟩ (q0 := 0) (ci := 5) rfl rfl rfl rfl hl.1 rfl (Nat.le_of_ble_eq_true rfl) dX5_readsAll_152 ⟨Nat.zero_le _, Nat.zero_le _⟩) (fun r_28 u H locs h hP1 hk1 hS => ?_)
              obtain ⟨M_at_29, M_told_30⟩ := u
              dsimp only at h
              have hP : va_P D vwCl ((bX5 cI cJ cC a_M M_pipes M_used M_taped M_at_29 M_statements M_hasImage M_isKeeping M_cursor M_nextAt M_nextMost M_rowMany M_refused M_setting M_hole M_pipeAt M_chance M_weight M_tape M_letter M_letterAt M_told_30 M_kept M_then M_row)) H := hP1
              refine lv_if_eq (tgt := 162) hx hb dX5_readsAll_155 (by decide) (fun z => ?_) (fun z => ?_)
              · replace h := h.1 z
                refine lv_iconst (v := (0 : Int32)) hx hb dX5_readsAll_162 (by decide) ?_
                exact hret (0 : Int32) (M_at_29, M_told_30) _ _ _ _ rfl h hP hS dX5_readsAll_163
              · replace h := h.2 z
                refine lv_iconst (v := (1 : Int32)) hx hb dX5_readsAll_158 (by decide) ?_
                refine lv_goto (tgt := 163) hx hb dX5_readsAll_159 (by decide) ?_
                exact hret (1 : Int32) (M_at_29, M_told_30) _ _ _ _ rfl h hP hS dX5_readsAll_163
def wpX5_statement (post : Int32 → Int32 → (Nat → Int32) → (Nat → Int32) → (Nat → Int32) → Prop) (M_taped : Int32) (M_at : Int32) (M_statements : Int32) (M_tape : Nat → Int32) (M_letter : Nat → Int32) (M_letterAt : Nat → Int32) (M_told : Nat → Int32) : Prop := wpX5_next (fun (r_1 : Int32) => ((r_1 = (115 : Int32) → (vp_in M_statements 48 ∧ (vp_in M_statements 48 ∧ (wpX5_readsAll (fun (r_2 : Int32) (M_at_3 : Int32) (M_told_4 : Nat → Int32) => ((r_2 = (0 : Int32) → (post (0 : Int32) M_at_3 (upd M_letter M_statements.toNatClampNeg r_1) (upd M_letterAt M_statements.toNatClampNeg M_at) M_told_4)) ∧ (¬ (r_2 = (0 : Int32)) → (wpX5_next (fun (r_5 : Int32) => ((r_5 = (59 : Int32) → (post (1 : Int32) (M_at_3 + (1 : Int32)) (upd M_letter M_statements.toNatClampNeg r_1) (upd M_letterAt M_statements.toNatClampNeg M_at) M_told_4)) ∧ (¬ (r_5 = (59 : Int32)) → (post (0 : Int32) M_at_3 (upd M_letter M_statements.toNatClampNeg r_1) (upd M_letterAt M_statements.toNatClampNeg M_at) M_told_4)))) M_taped M_at_3 M_tape)))) M_taped (M_at + (1 : Int32)) M_tape M_told r_1 ((3 : Int32) * M_statements))))) ∧ (¬ (r_1 = (115 : Int32)) → (((r_1 = (108 : Int32) → (vp_in M_statements 48 ∧ (vp_in M_statements 48 ∧ (wpX5_readsAll (fun (r_6 : Int32) (M_at_7 : Int32) (M_told_8 : Nat → Int32) => ((r_6 = (0 : Int32) → (post (0 : Int32) M_at_7 (upd M_letter M_statements.toNatClampNeg r_1) (upd M_letterAt M_statements.toNatClampNeg M_at) M_told_8)) ∧ (¬ (r_6 = (0 : Int32)) → (wpX5_next (fun (r_9 : Int32) => ((r_9 = (59 : Int32) → (post (1 : Int32) (M_at_7 + (1 : Int32)) (upd M_letter M_statements.toNatClampNeg r_1) (upd M_letterAt M_statements.toNatClampNeg M_at) M_told_8)) ∧ (¬ (r_9 = (59 : Int32)) → (post (0 : Int32) M_at_7 (upd M_letter M_statements.toNatClampNeg r_1) (upd M_letterAt M_statements.toNatClampNeg M_at) M_told_8)))) M_taped M_at_7 M_tape)))) M_taped (M_at + (1 : Int32)) M_tape M_told r_1 ((3 : Int32) * M_statements))))) ∧ (¬ (r_1 = (108 : Int32)) → (((r_1 = (100 : Int32) → (vp_in M_statements 48 ∧ (vp_in M_statements 48 ∧ (wpX5_readsAll (fun (r_10 : Int32) (M_at_11 : Int32) (M_told_12 : Nat → Int32) => ((r_10 = (0 : Int32) → (post (0 : Int32) M_at_11 (upd M_letter M_statements.toNatClampNeg r_1) (upd M_letterAt M_statements.toNatClampNeg M_at) M_told_12)) ∧ (¬ (r_10 = (0 : Int32)) → (wpX5_next (fun (r_13 : Int32) => ((r_13 = (59 : Int32) → (post (1 : Int32) (M_at_11 + (1 : Int32)) (upd M_letter M_statements.toNatClampNeg r_1) (upd M_letterAt M_statements.toNatClampNeg M_at) M_told_12)) ∧ (¬ (r_13 = (59 : Int32)) → (post (0 : Int32) M_at_11 (upd M_letter M_statements.toNatClampNeg r_1) (upd M_letterAt M_statements.toNatClampNeg M_at) M_told_12)))) M_taped M_at_11 M_tape)))) M_taped (M_at + (1 : Int32)) M_tape M_told r_1 ((3 : Int32) * M_statements))))) ∧ (¬ (r_1 = (100 : Int32)) → (((r_1 = (116 : Int32) → (vp_in M_statements 48 ∧ (vp_in M_statements 48 ∧ (wpX5_readsAll (fun (r_14 : Int32) (M_at_15 : Int32) (M_told_16 : Nat → Int32) => ((r_14 = (0 : Int32) → (post (0 : Int32) M_at_15 (upd M_letter M_statements.toNatClampNeg r_1) (upd M_letterAt M_statements.toNatClampNeg M_at) M_told_16)) ∧ (¬ (r_14 = (0 : Int32)) → (wpX5_next (fun (r_17 : Int32) => ((r_17 = (59 : Int32) → (post (1 : Int32) (M_at_15 + (1 : Int32)) (upd M_letter M_statements.toNatClampNeg r_1) (upd M_letterAt M_statements.toNatClampNeg M_at) M_told_16)) ∧ (¬ (r_17 = (59 : Int32)) → (post (0 : Int32) M_at_15 (upd M_letter M_statements.toNatClampNeg r_1) (upd M_letterAt M_statements.toNatClampNeg M_at) M_told_16)))) M_taped M_at_15 M_tape)))) M_taped (M_at + (1 : Int32)) M_tape M_told r_1 ((3 : Int32) * M_statements))))) ∧ (¬ (r_1 = (116 : Int32)) → (((r_1 = (110 : Int32) → (vp_in M_statements 48 ∧ (vp_in M_statements 48 ∧ (wpX5_readsAll (fun (r_18 : Int32) (M_at_19 : Int32) (M_told_20 : Nat → Int32) => ((r_18 = (0 : Int32) → (post (0 : Int32) M_at_19 (upd M_letter M_statements.toNatClampNeg r_1) (upd M_letterAt M_statements.toNatClampNeg M_at) M_told_20)) ∧ (¬ (r_18 = (0 : Int32)) → (wpX5_next (fun (r_21 : Int32) => ((r_21 = (59 : Int32) → (post (1 : Int32) (M_at_19 + (1 : Int32)) (upd M_letter M_statements.toNatClampNeg r_1) (upd M_letterAt M_statements.toNatClampNeg M_at) M_told_20)) ∧ (¬ (r_21 = (59 : Int32)) → (post (0 : Int32) M_at_19 (upd M_letter M_statements.toNatClampNeg r_1) (upd M_letterAt M_statements.toNatClampNeg M_at) M_told_20)))) M_taped M_at_19 M_tape)))) M_taped (M_at + (1 : Int32)) M_tape M_told r_1 ((3 : Int32) * M_statements))))) ∧ (¬ (r_1 = (110 : Int32)) → (((r_1 = (112 : Int32) → (vp_in M_statements 48 ∧ (vp_in M_statements 48 ∧ (wpX5_readsAll (fun (r_22 : Int32) (M_at_23 : Int32) (M_told_24 : Nat → Int32) => ((r_22 = (0 : Int32) → (post (0 : Int32) M_at_23 (upd M_letter M_statements.toNatClampNeg r_1) (upd M_letterAt M_statements.toNatClampNeg M_at) M_told_24)) ∧ (¬ (r_22 = (0 : Int32)) → (wpX5_next (fun (r_25 : Int32) => ((r_25 = (59 : Int32) → (post (1 : Int32) (M_at_23 + (1 : Int32)) (upd M_letter M_statements.toNatClampNeg r_1) (upd M_letterAt M_statements.toNatClampNeg M_at) M_told_24)) ∧ (¬ (r_25 = (59 : Int32)) → (post (0 : Int32) M_at_23 (upd M_letter M_statements.toNatClampNeg r_1) (upd M_letterAt M_statements.toNatClampNeg M_at) M_told_24)))) M_taped M_at_23 M_tape)))) M_taped (M_at + (1 : Int32)) M_tape M_told r_1 ((3 : Int32) * M_statements))))) ∧ (¬ (r_1 = (112 : Int32)) → (post (0 : Int32) M_at M_letter M_letterAt M_told))))))))))))))))))) M_taped M_at M_tape
set_option maxHeartbeats 4000000 in
set_option maxRecDepth 100000 in
theorem mX5_statement (l : Launch) (D : va_G) (cI cJ cC : ClassId) (G : Nat → Nat → Nat) (a_M : Nat → Nat) (sz : Nat) (M_pipes : Int32) (M_used : Int32) (M_taped : Int32) (M_at : Int32) (M_statements : Int32) (M_hasImage : Int32) (M_isKeeping : Int32) (M_cursor : Int32) (M_nextAt : Int32) (M_nextMost : Int64) (M_rowMany : Int32) (M_refused : Nat → Int32) (M_setting : Nat → Int32) (M_hole : Nat → Int32) (M_pipeAt : Nat → Int32) (M_chance : Nat → Int32) (M_weight : Nat → Int32) (M_tape : Nat → Int32) (M_letter : Nat → Int32) (M_letterAt : Nat → Int32) (M_told : Nat → Int32) (M_kept : Nat → Int32) (M_then : Nat → Int64) (M_row : Nat → Int32) (post : Int32 → Int32 → (Nat → Int32) → (Nat → Int32) → (Nat → Int32) → Prop) (h : wpX5_statement post M_taped M_at M_statements M_tape M_letter M_letterAt M_told) : Met l yX5_statement (wz yX5_statement cX5_statement 2 (some .boolean)) ({ frames := 4, cells := 0, slots := 0, locals := 90 }) (va_Pc [.ref (a_M 0)] (PW D (tz cI cJ cC) G ((bX5 cI cJ cC a_M M_pipes M_used M_taped M_at M_statements M_hasImage M_isKeeping M_cursor M_nextAt M_nextMost M_rowMany M_refused M_setting M_hole M_pipeAt M_chance M_weight M_tape M_letter M_letterAt M_told M_kept M_then M_row)) sz)) (va_Qi (fun (r : Int32) (u : Int32 × (Nat → Int32) × (Nat → Int32) × (Nat → Int32)) => post r u.1 u.2.1 u.2.2.1 u.2.2.2) (fun (u : Int32 × (Nat → Int32) × (Nat → Int32) × (Nat → Int32)) t => va_P D vwCl ((bX5 cI cJ cC a_M M_pipes M_used M_taped u.1 M_statements M_hasImage M_isKeeping M_cursor M_nextAt M_nextMost M_rowMany M_refused M_setting M_hole M_pipeAt M_chance M_weight M_tape u.2.1 u.2.2.1 u.2.2.2 M_kept M_then M_row)) t.heap) (va_A ((bX5 cI cJ cC a_M M_pipes M_used M_taped M_at M_statements M_hasImage M_isKeeping M_cursor M_nextAt M_nextMost M_rowMany M_refused M_setting M_hole M_pipeAt M_chance M_weight M_tape M_letter M_letterAt M_told M_kept M_then M_row)) sz)) 0 0 (va_A ((bX5 cI cJ cC a_M M_pipes M_used M_taped M_at M_statements M_hasImage M_isKeeping M_cursor M_nextAt M_nextMost M_rowMany M_refused M_setting M_hole M_pipeAt M_chance M_weight M_tape M_letter M_letterAt M_told M_kept M_then M_row)) sz) := by
  refine zmi (gw := fun (u : Int32 × (Nat → Int32) × (Nat → Int32) × (Nat → Int32)) => (bX5 cI cJ cC a_M M_pipes M_used M_taped u.1 M_statements M_hasImage M_isKeeping M_cursor M_nextAt M_nextMost M_rowMany M_refused M_setting M_hole M_pipeAt M_chance M_weight M_tape u.2.1 u.2.2.1 u.2.2.2 M_kept M_then M_row)) (plainFor_of_name (by decide)) (Nat.le_of_ble_eq_true rfl) ?_
  intro p e s m below meth c A Q ls S hK hD hA hE hP hl hret
  obtain ⟨hx, hb, hml, hown, ht⟩ := id S
  have hS : va_S A s.heap s.heap [] := va_S.rf
  have hDD : ∀ ws : va_W, ws.map (fun q => q.1) = [a_M 0, a_M 1, a_M 2, a_M 3, a_M 4, a_M 5, a_M 6, a_M 7, a_M 8, a_M 9, a_M 10, a_M 11, a_M 12, a_M 13] → va_D A ws := fun ws hw => zD hD (hw.trans rfl)
  have hl : lv_has ls 2 [(0, .ref (a_M 0))] := hl
  unfold wpX5_statement at h
  refine lv_aload_n hx hb dX5_statement_0 rfl (lv_at hl 0 rfl) ?_
  refine zci hA (hDD _ rfl) hS (zrunV (As := []) (rest := []) S hK hA hE hP (hDD _ rfl) hS (mX5_next l D cI cJ cC G a_M _ M_pipes M_used M_taped M_at M_statements M_hasImage M_isKeeping M_cursor M_nextAt M_nextMost M_rowMany M_refused M_setting M_hole M_pipeAt M_chance M_weight M_tape M_letter M_letterAt M_told M_kept M_then M_row _ h) kX5_next ml_X5_73 ⟨rfl, rfl, by decide, by decide⟩ (q0 := 0) (ci := 5) rfl rfl rfl rfl hl.1 rfl (Nat.le_of_ble_eq_true rfl) dX5_statement_1 ⟨Nat.zero_le _, Nat.zero_le _⟩) (fun r_1 u H locs h hP1 hk1 hS => ?_)
  try dsimp only at h
  have hP : va_P D vwCl ((bX5 cI cJ cC a_M M_pipes M_used M_taped M_at M_statements M_hasImage M_isKeeping M_cursor M_nextAt M_nextMost M_rowMany M_refused M_setting M_hole M_pipeAt M_chance M_weight M_tape M_letter M_letterAt M_told M_kept M_then M_row)) H := hP1
  refine lv_istore_n (lv' := [(1, .int r_1), (0, .ref (a_M 0))]) hx hb dX5_statement_4 rfl hl (by decide) rfl (fun ls hl => ?_)
  refine lv_iload_n hx hb dX5_statement_5 rfl (lv_at hl 0 rfl) ?_
  refine lv_bipush (v := (115 : Int32)) hx hb dX5_statement_6 (by decide) ?_
  refine lv_icmp_eq (tgt := 43) hx hb dX5_statement_8 (by decide) (fun z => ?_) (fun z => ?_)
  · replace h := h.1 z
    refine lv_aload_n hx hb dX5_statement_43 rfl (lv_at hl 1 rfl) ?_
    refine va_get (D := D) (ci := 5) (v := .ref (a_M 8)) (C := RX5) (T := TX5) (N := 24) hx hb ht inX5 hown hK hP 0 rfl rfl 9 (by decide) (ht _ fl_X5_31) (fun _ h9 => h9) rfl dX5_statement_44 ?_
    refine lv_aload_n hx hb dX5_statement_47 rfl (lv_at hl 1 rfl) ?_
    refine va_get (D := D) (ci := 5) (v := .int M_statements) (C := RX5) (T := TX5) (N := 24) hx hb ht inX5 hown hK hP 0 rfl rfl 14 (by decide) (ht _ fl_X5_97) (fun _ h9 => h9) rfl dX5_statement_48 ?_
    refine lv_iload_n hx hb dX5_statement_51 rfl (lv_at hl 0 rfl) ?_
    obtain ⟨hin, h⟩ := h
    refine va_iast hx hb hK hP (hDD _ rfl) hS 8 0 rfl rfl hin dX5_statement_52 (fun H locs hP _ hS => ?_)
    have hP : va_P D vwCl ((bX5 cI cJ cC a_M M_pipes M_used M_taped M_at M_statements M_hasImage M_isKeeping M_cursor M_nextAt M_nextMost M_rowMany M_refused M_setting M_hole M_pipeAt M_chance M_weight M_tape (upd M_letter M_statements.toNatClampNeg r_1) M_letterAt M_told M_kept M_then M_row)) H := hP
    refine lv_aload_n hx hb dX5_statement_53 rfl (lv_at hl 1 rfl) ?_
    refine va_get (D := D) (ci := 5) (v := .ref (a_M 9)) (C := RX5) (T := TX5) (N := 24) hx hb ht inX5 hown hK hP 0 rfl rfl 10 (by decide) (ht _ fl_X5_34) (fun _ h9 => h9) rfl dX5_statement_54 ?_
    refine lv_aload_n hx hb dX5_statement_57 rfl (lv_at hl 1 rfl) ?_
    refine va_get (D := D) (ci := 5) (v := .int M_statements) (C := RX5) (T := TX5) (N := 24) hx hb ht inX5 hown hK hP 0 rfl rfl 14 (by decide) (ht _ fl_X5_97) (fun _ h9 => h9) rfl dX5_statement_58 ?_
    refine lv_aload_n hx hb dX5_statement_61 rfl (lv_at hl 1 rfl) ?_
    refine va_get (D := D) (ci := 5) (v := .int M_at) (C := RX5) (T := TX5) (N := 24) hx hb ht inX5 hown hK hP 0 rfl rfl 13 (by decide) (ht _ fl_X5_70) (fun _ h9 => h9) rfl dX5_statement_62 ?_
    obtain ⟨hin, h⟩ := h
    refine va_iast hx hb hK hP (hDD _ rfl) hS 9 0 rfl rfl hin dX5_statement_65 (fun H locs hP _ hS => ?_)
    have hP : va_P D vwCl ((bX5 cI cJ cC a_M M_pipes M_used M_taped M_at M_statements M_hasImage M_isKeeping M_cursor M_nextAt M_nextMost M_rowMany M_refused M_setting M_hole M_pipeAt M_chance M_weight M_tape (upd M_letter M_statements.toNatClampNeg r_1) (upd M_letterAt M_statements.toNatClampNeg M_at) M_told M_kept M_then M_row)) H := hP
    refine lv_aload_n hx hb dX5_statement_66 rfl (lv_at hl 1 rfl) ?_
    refine lv_dup hx hb dX5_statement_67 rfl ?_
    refine va_get (D := D) (ci := 5) (v := .int M_at) (C := RX5) (T := TX5) (N := 24) hx hb ht inX5 hown hK hP 0 rfl rfl 13 (by decide) (ht _ fl_X5_70) (fun _ h9 => h9) rfl dX5_statement_68 ?_
    refine lv_iconst (v := (1 : Int32)) hx hb dX5_statement_71 (by decide) ?_
    refine lv_iadd hx hb dX5_statement_72 ?_
    refine va_put (D := D) (ci := 5) (v := .int (M_at + (1 : Int32))) (ty := .int) (C := RX5) (T := TX5) (N := 24) hx hb ht inX5 tyX5 tyX5_ok nmX5 hown hK hP (hDD _ rfl) hS 0 rfl rfl 13 (by decide) (ht _ fl_X5_70) (fun _ h9 => h9) rfl (by decide +kernel) rfl rfl (Nat.le_of_ble_eq_true rfl) dX5_statement_73 (fun H locs hP _ hS => ?_)
    have hP : va_P D vwCl ((bX5 cI cJ cC a_M M_pipes M_used M_taped (M_at + (1 : Int32)) M_statements M_hasImage M_isKeeping M_cursor M_nextAt M_nextMost M_rowMany M_refused M_setting M_hole M_pipeAt M_chance M_weight M_tape (upd M_letter M_statements.toNatClampNeg r_1) (upd M_letterAt M_statements.toNatClampNeg M_at) M_told M_kept M_then M_row)) H := hP
    refine lv_aload_n hx hb dX5_statement_76 rfl (lv_at hl 1 rfl) ?_
    refine lv_iload_n hx hb dX5_statement_77 rfl (lv_at hl 0 rfl) ?_
    refine lv_iconst (v := (3 : Int32)) hx hb dX5_statement_78 (by decide) ?_
    refine lv_aload_n hx hb dX5_statement_79 rfl (lv_at hl 1 rfl) ?_
    refine va_get (D := D) (ci := 5) (v := .int M_statements) (C := RX5) (T := TX5) (N := 24) hx hb ht inX5 hown hK hP 0 rfl rfl 14 (by decide) (ht _ fl_X5_97) (fun _ h9 => h9) rfl dX5_statement_80 ?_
    refine lv_imul hx hb dX5_statement_83 ?_
    refine zci hA (hDD _ rfl) hS (zrunV (As := [.int r_1, .int ((3 : Int32) * M_statements)]) (rest := []) S hK hA hE hP (hDD _ rfl) hS (mX5_readsAll l D cI cJ cC G a_M _ M_pipes M_used M_taped (M_at + (1 : Int32)) M_statements M_hasImage M_isKeeping M_cursor M_nextAt M_nextMost M_rowMany M_refused M_setting M_hole M_pipeAt M_chance M_weight M_tape (upd M_letter M_statements.toNatClampNeg r_1) (upd M_letterAt M_statements.toNatClampNeg M_at) M_told M_kept M_then M_row r_1 ((3 : Int32) * M_statements) _ h) kX5_readsAll ml_X5_100 ⟨rfl, rfl, by decide, by decide⟩ (q0 := 0) (ci := 5) rfl rfl rfl rfl hl.1 rfl (Nat.le_of_ble_eq_true rfl) dX5_statement_84 ⟨Nat.zero_le _, Nat.zero_le _⟩) (fun r_2 u H locs h hP1 hk1 hS => ?_)
    obtain ⟨M_at_3, M_told_4⟩ := u
    dsimp only at h
    have hP : va_P D vwCl ((bX5 cI cJ cC a_M M_pipes M_used M_taped M_at_3 M_statements M_hasImage M_isKeeping M_cursor M_nextAt M_nextMost M_rowMany M_refused M_setting M_hole M_pipeAt M_chance M_weight M_tape (upd M_letter M_statements.toNatClampNeg r_1) (upd M_letterAt M_statements.toNatClampNeg M_at) M_told_4 M_kept M_then M_row)) H := hP1
    refine lv_if_eq (tgt := 99) hx hb dX5_statement_87 (by decide) (fun z => ?_) (fun z => ?_)
    · replace h := h.1 z
      refine lv_iconst (v := (0 : Int32)) hx hb dX5_statement_99 (by decide) ?_
      exact hret (0 : Int32) (M_at_3, upd M_letter M_statements.toNatClampNeg r_1, upd M_letterAt M_statements.toNatClampNeg M_at, M_told_4) _ _ _ _ rfl h hP hS dX5_statement_100
    · replace h := h.2 z
      refine lv_aload_n hx hb dX5_statement_90 rfl (lv_at hl 1 rfl) ?_
      refine zci hA (hDD _ rfl) hS (zrunV (As := []) (rest := []) S hK hA hE hP (hDD _ rfl) hS (mX5_next l D cI cJ cC G a_M _ M_pipes M_used M_taped M_at_3 M_statements M_hasImage M_isKeeping M_cursor M_nextAt M_nextMost M_rowMany M_refused M_setting M_hole M_pipeAt M_chance M_weight M_tape (upd M_letter M_statements.toNatClampNeg r_1) (upd M_letterAt M_statements.toNatClampNeg M_at) M_told_4 M_kept M_then M_row _ h) kX5_next ml_X5_73 ⟨rfl, rfl, by decide, by decide⟩ (q0 := 0) (ci := 5) rfl rfl rfl rfl hl.1 rfl (Nat.le_of_ble_eq_true rfl) dX5_statement_91 ⟨Nat.zero_le _, Nat.zero_le _⟩) (fun r_5 u H locs h hP1 hk1 hS => ?_)
      try dsimp only at h
      have hP : va_P D vwCl ((bX5 cI cJ cC a_M M_pipes M_used M_taped M_at_3 M_statements M_hasImage M_isKeeping M_cursor M_nextAt M_nextMost M_rowMany M_refused M_setting M_hole M_pipeAt M_chance M_weight M_tape (upd M_letter M_statements.toNatClampNeg r_1) (upd M_letterAt M_statements.toNatClampNeg M_at) M_told_4 M_kept M_then M_row)) H := hP1
      refine lv_bipush (v := (59 : Int32)) hx hb dX5_statement_94 (by decide) ?_
      refine lv_icmp_eq (tgt := 101) hx hb dX5_statement_96 (by decide) (fun z => ?_) (fun z => ?_)
      · replace h := h.1 z
        refine lv_aload_n hx hb dX5_statement_101 rfl (lv_at hl 1 rfl) ?_
        refine lv_dup hx hb dX5_statement_102 rfl ?_
        refine va_get (D := D) (ci := 5) (v := .int M_at_3) (C := RX5) (T := TX5) (N := 24) hx hb ht inX5 hown hK hP 0 rfl rfl 13 (by decide) (ht _ fl_X5_70) (fun _ h9 => h9) rfl dX5_statement_103 ?_
        refine lv_iconst (v := (1 : Int32)) hx hb dX5_statement_106 (by decide) ?_
        refine lv_iadd hx hb dX5_statement_107 ?_
        refine va_put (D := D) (ci := 5) (v := .int (M_at_3 + (1 : Int32))) (ty := .int) (C := RX5) (T := TX5) (N := 24) hx hb ht inX5 tyX5 tyX5_ok nmX5 hown hK hP (hDD _ rfl) hS 0 rfl rfl 13 (by decide) (ht _ fl_X5_70) (fun _ h9 => h9) rfl (by decide +kernel) rfl rfl (Nat.le_of_ble_eq_true rfl) dX5_statement_108 (fun H locs hP _ hS => ?_)
        have hP : va_P D vwCl ((bX5 cI cJ cC a_M M_pipes M_used M_taped (M_at_3 + (1 : Int32)) M_statements M_hasImage M_isKeeping M_cursor M_nextAt M_nextMost M_rowMany M_refused M_setting M_hole M_pipeAt M_chance M_weight M_tape (upd M_letter M_statements.toNatClampNeg r_1) (upd M_letterAt M_statements.toNatClampNeg M_at) M_told_4 M_kept M_then M_row)) H := hP
        refine lv_iconst (v := (1 : Int32)) hx hb dX5_statement_111 (by decide) ?_
        exact hret (1 : Int32) (M_at_3 + (1 : Int32), upd M_letter M_statements.toNatClampNeg r_1, upd M_letterAt M_statements.toNatClampNeg M_at, M_told_4) _ _ _ _ rfl h hP hS dX5_statement_112
      · replace h := h.2 z
        refine lv_iconst (v := (0 : Int32)) hx hb dX5_statement_99 (by decide) ?_
        exact hret (0 : Int32) (M_at_3, upd M_letter M_statements.toNatClampNeg r_1, upd M_letterAt M_statements.toNatClampNeg M_at, M_told_4) _ _ _ _ rfl h hP hS dX5_statement_100
  · replace h := h.2 z
    refine lv_iload_n hx hb dX5_statement_11 rfl (lv_at hl 0 rfl) ?_
    refine lv_bipush (v := (108 : Int32)) hx hb dX5_statement_12 (by decide) ?_
    refine lv_icmp_eq (tgt := 43) hx hb dX5_statement_14 (by decide) (fun z => ?_) (fun z => ?_)
    · replace h := h.1 z
      refine lv_aload_n hx hb dX5_statement_43 rfl (lv_at hl 1 rfl) ?_
      refine va_get (D := D) (ci := 5) (v := .ref (a_M 8)) (C := RX5) (T := TX5) (N := 24) hx hb ht inX5 hown hK hP 0 rfl rfl 9 (by decide) (ht _ fl_X5_31) (fun _ h9 => h9) rfl dX5_statement_44 ?_
      refine lv_aload_n hx hb dX5_statement_47 rfl (lv_at hl 1 rfl) ?_
      refine va_get (D := D) (ci := 5) (v := .int M_statements) (C := RX5) (T := TX5) (N := 24) hx hb ht inX5 hown hK hP 0 rfl rfl 14 (by decide) (ht _ fl_X5_97) (fun _ h9 => h9) rfl dX5_statement_48 ?_
      refine lv_iload_n hx hb dX5_statement_51 rfl (lv_at hl 0 rfl) ?_
      obtain ⟨hin, h⟩ := h
      refine va_iast hx hb hK hP (hDD _ rfl) hS 8 0 rfl rfl hin dX5_statement_52 (fun H locs hP _ hS => ?_)
      have hP : va_P D vwCl ((bX5 cI cJ cC a_M M_pipes M_used M_taped M_at M_statements M_hasImage M_isKeeping M_cursor M_nextAt M_nextMost M_rowMany M_refused M_setting M_hole M_pipeAt M_chance M_weight M_tape (upd M_letter M_statements.toNatClampNeg r_1) M_letterAt M_told M_kept M_then M_row)) H := hP
      refine lv_aload_n hx hb dX5_statement_53 rfl (lv_at hl 1 rfl) ?_
      refine va_get (D := D) (ci := 5) (v := .ref (a_M 9)) (C := RX5) (T := TX5) (N := 24) hx hb ht inX5 hown hK hP 0 rfl rfl 10 (by decide) (ht _ fl_X5_34) (fun _ h9 => h9) rfl dX5_statement_54 ?_
      refine lv_aload_n hx hb dX5_statement_57 rfl (lv_at hl 1 rfl) ?_
      refine va_get (D := D) (ci := 5) (v := .int M_statements) (C := RX5) (T := TX5) (N := 24) hx hb ht inX5 hown hK hP 0 rfl rfl 14 (by decide) (ht _ fl_X5_97) (fun _ h9 => h9) rfl dX5_statement_58 ?_
      refine lv_aload_n hx hb dX5_statement_61 rfl (lv_at hl 1 rfl) ?_
      refine va_get (D := D) (ci := 5) (v := .int M_at) (C := RX5) (T := TX5) (N := 24) hx hb ht inX5 hown hK hP 0 rfl rfl 13 (by decide) (ht _ fl_X5_70) (fun _ h9 => h9) rfl dX5_statement_62 ?_
      obtain ⟨hin, h⟩ := h
      refine va_iast hx hb hK hP (hDD _ rfl) hS 9 0 rfl rfl hin dX5_statement_65 (fun H locs hP _ hS => ?_)
      have hP : va_P D vwCl ((bX5 cI cJ cC a_M M_pipes M_used M_taped M_at M_statements M_hasImage M_isKeeping M_cursor M_nextAt M_nextMost M_rowMany M_refused M_setting M_hole M_pipeAt M_chance M_weight M_tape (upd M_letter M_statements.toNatClampNeg r_1) (upd M_letterAt M_statements.toNatClampNeg M_at) M_told M_kept M_then M_row)) H := hP
      refine lv_aload_n hx hb dX5_statement_66 rfl (lv_at hl 1 rfl) ?_
      refine lv_dup hx hb dX5_statement_67 rfl ?_
      refine va_get (D := D) (ci := 5) (v := .int M_at) (C := RX5) (T := TX5) (N := 24) hx hb ht inX5 hown hK hP 0 rfl rfl 13 (by decide) (ht _ fl_X5_70) (fun _ h9 => h9) rfl dX5_statement_68 ?_
      refine lv_iconst (v := (1 : Int32)) hx hb dX5_statement_71 (by decide) ?_
      refine lv_iadd hx hb dX5_statement_72 ?_
      refine va_put (D := D) (ci := 5) (v := .int (M_at + (1 : Int32))) (ty := .int) (C := RX5) (T := TX5) (N := 24) hx hb ht inX5 tyX5 tyX5_ok nmX5 hown hK hP (hDD _ rfl) hS 0 rfl rfl 13 (by decide) (ht _ fl_X5_70) (fun _ h9 => h9) rfl (by decide +kernel) rfl rfl (Nat.le_of_ble_eq_true rfl) dX5_statement_73 (fun H locs hP _ hS => ?_)
      have hP : va_P D vwCl ((bX5 cI cJ cC a_M M_pipes M_used M_taped (M_at + (1 : Int32)) M_statements M_hasImage M_isKeeping M_cursor M_nextAt M_nextMost M_rowMany M_refused M_setting M_hole M_pipeAt M_chance M_weight M_tape (upd M_letter M_statements.toNatClampNeg r_1) (upd M_letterAt M_statements.toNatClampNeg M_at) M_told M_kept M_then M_row)) H := hP
      refine lv_aload_n hx hb dX5_statement_76 rfl (lv_at hl 1 rfl) ?_
      refine lv_iload_n hx hb dX5_statement_77 rfl (lv_at hl 0 rfl) ?_
      refine lv_iconst (v := (3 : Int32)) hx hb dX5_statement_78 (by decide) ?_
      refine lv_aload_n hx hb dX5_statement_79 rfl (lv_at hl 1 rfl) ?_
      refine va_get (D := D) (ci := 5) (v := .int M_statements) (C := RX5) (T := TX5) (N := 24) hx hb ht inX5 hown hK hP 0 rfl rfl 14 (by decide) (ht _ fl_X5_97) (fun _ h9 => h9) rfl dX5_statement_80 ?_
      refine lv_imul hx hb dX5_statement_83 ?_
      refine zci hA (hDD _ rfl) hS (zrunV (As := [.int r_1, .int ((3 : Int32) * M_statements)]) (rest := []) S hK hA hE hP (hDD _ rfl) hS (mX5_readsAll l D cI cJ cC G a_M _ M_pipes M_used M_taped (M_at + (1 : Int32)) M_statements M_hasImage M_isKeeping M_cursor M_nextAt M_nextMost M_rowMany M_refused M_setting M_hole M_pipeAt M_chance M_weight M_tape (upd M_letter M_statements.toNatClampNeg r_1) (upd M_letterAt M_statements.toNatClampNeg M_at) M_told M_kept M_then M_row r_1 ((3 : Int32) * M_statements) _ h) kX5_readsAll ml_X5_100 ⟨rfl, rfl, by decide, by decide⟩ (q0 := 0) (ci := 5) rfl rfl rfl rfl hl.1 rfl (Nat.le_of_ble_eq_true rfl) dX5_statement_84 ⟨Nat.zero_le _, Nat.zero_le _⟩) (fun r_6 u H locs h hP1 hk1 hS => ?_)
      obtain ⟨M_at_7, M_told_8⟩ := u
      dsimp only at h
      have hP : va_P D vwCl ((bX5 cI cJ cC a_M M_pipes M_used M_taped M_at_7 M_statements M_hasImage M_isKeeping M_cursor M_nextAt M_nextMost M_rowMany M_refused M_setting M_hole M_pipeAt M_chance M_weight M_tape (upd M_letter M_statements.toNatClampNeg r_1) (upd M_letterAt M_statements.toNatClampNeg M_at) M_told_8 M_kept M_then M_row)) H := hP1
      refine lv_if_eq (tgt := 99) hx hb dX5_statement_87 (by decide) (fun z => ?_) (fun z => ?_)
      · replace h := h.1 z
        refine lv_iconst (v := (0 : Int32)) hx hb dX5_statement_99 (by decide) ?_
        exact hret (0 : Int32) (M_at_7, upd M_letter M_statements.toNatClampNeg r_1, upd M_letterAt M_statements.toNatClampNeg M_at, M_told_8) _ _ _ _ rfl h hP hS dX5_statement_100
      · replace h := h.2 z
        refine lv_aload_n hx hb dX5_statement_90 rfl (lv_at hl 1 rfl) ?_
        refine zci hA (hDD _ rfl) hS (zrunV (As := []) (rest := []) S hK hA hE hP (hDD _ rfl) hS (mX5_next l D cI cJ cC G a_M _ M_pipes M_used M_taped M_at_7 M_statements M_hasImage M_isKeeping M_cursor M_nextAt M_nextMost M_rowMany M_refused M_setting M_hole M_pipeAt M_chance M_weight M_tape (upd M_letter M_statements.toNatClampNeg r_1) (upd M_letterAt M_statements.toNatClampNeg M_at) M_told_8 M_kept M_then M_row _ h) kX5_next ml_X5_73 ⟨rfl, rfl, by decide, by decide⟩ (q0 := 0) (ci := 5) rfl rfl rfl rfl hl.1 rfl (Nat.le_of_ble_eq_true rfl) dX5_statement_91 ⟨Nat.zero_le _, Nat.zero_le _⟩) (fun r_9 u H locs h hP1 hk1 hS => ?_)
        try dsimp only at h
        have hP : va_P D vwCl ((bX5 cI cJ cC a_M M_pipes M_used M_taped M_at_7 M_statements M_hasImage M_isKeeping M_cursor M_nextAt M_nextMost M_rowMany M_refused M_setting M_hole M_pipeAt M_chance M_weight M_tape (upd M_letter M_statements.toNatClampNeg r_1) (upd M_letterAt M_statements.toNatClampNeg M_at) M_told_8 M_kept M_then M_row)) H := hP1
        refine lv_bipush (v := (59 : Int32)) hx hb dX5_statement_94 (by decide) ?_
        refine lv_icmp_eq (tgt := 101) hx hb dX5_statement_96 (by decide) (fun z => ?_) (fun z => ?_)
        · replace h := h.1 z
          refine lv_aload_n hx hb dX5_statement_101 rfl (lv_at hl 1 rfl) ?_
          refine lv_dup hx hb dX5_statement_102 rfl ?_
          refine va_get (D := D) (ci := 5) (v := .int M_at_7) (C := RX5) (T := TX5) (N := 24) hx hb ht inX5 hown hK hP 0 rfl rfl 13 (by decide) (ht _ fl_X5_70) (fun _ h9 => h9) rfl dX5_statement_103 ?_
          refine lv_iconst (v := (1 : Int32)) hx hb dX5_statement_106 (by decide) ?_
          refine lv_iadd hx hb dX5_statement_107 ?_
          refine va_put (D := D) (ci := 5) (v := .int (M_at_7 + (1 : Int32))) (ty := .int) (C := RX5) (T := TX5) (N := 24) hx hb ht inX5 tyX5 tyX5_ok nmX5 hown hK hP (hDD _ rfl) hS 0 rfl rfl 13 (by decide) (ht _ fl_X5_70) (fun _ h9 => h9) rfl (by decide +kernel) rfl rfl (Nat.le_of_ble_eq_true rfl) dX5_statement_108 (fun H locs hP _ hS => ?_)
          have hP : va_P D vwCl ((bX5 cI cJ cC a_M M_pipes M_used M_taped (M_at_7 + (1 : Int32)) M_statements M_hasImage M_isKeeping M_cursor M_nextAt M_nextMost M_rowMany M_refused M_setting M_hole M_pipeAt M_chance M_weight M_tape (upd M_letter M_statements.toNatClampNeg r_1) (upd M_letterAt M_statements.toNatClampNeg M_at) M_told_8 M_kept M_then M_row)) H := hP
          refine lv_iconst (v := (1 : Int32)) hx hb dX5_statement_111 (by decide) ?_
          exact hret (1 : Int32) (M_at_7 + (1 : Int32), upd M_letter M_statements.toNatClampNeg r_1, upd M_letterAt M_statements.toNatClampNeg M_at, M_told_8) _ _ _ _ rfl h hP hS dX5_statement_112
        · replace h := h.2 z
          refine lv_iconst (v := (0 : Int32)) hx hb dX5_statement_99 (by decide) ?_
          exact hret (0 : Int32) (M_at_7, upd M_letter M_statements.toNatClampNeg r_1, upd M_letterAt M_statements.toNatClampNeg M_at, M_told_8) _ _ _ _ rfl h hP hS dX5_statement_100
    · replace h := h.2 z
      refine lv_iload_n hx hb dX5_statement_17 rfl (lv_at hl 0 rfl) ?_
      refine lv_bipush (v := (100 : Int32)) hx hb dX5_statement_18 (by decide) ?_
      refine lv_icmp_eq (tgt := 43) hx hb dX5_statement_20 (by decide) (fun z => ?_) (fun z => ?_)
      · replace h := h.1 z
        refine lv_aload_n hx hb dX5_statement_43 rfl (lv_at hl 1 rfl) ?_
        refine va_get (D := D) (ci := 5) (v := .ref (a_M 8)) (C := RX5) (T := TX5) (N := 24) hx hb ht inX5 hown hK hP 0 rfl rfl 9 (by decide) (ht _ fl_X5_31) (fun _ h9 => h9) rfl dX5_statement_44 ?_
        refine lv_aload_n hx hb dX5_statement_47 rfl (lv_at hl 1 rfl) ?_
        refine va_get (D := D) (ci := 5) (v := .int M_statements) (C := RX5) (T := TX5) (N := 24) hx hb ht inX5 hown hK hP 0 rfl rfl 14 (by decide) (ht _ fl_X5_97) (fun _ h9 => h9) rfl dX5_statement_48 ?_
        refine lv_iload_n hx hb dX5_statement_51 rfl (lv_at hl 0 rfl) ?_
        obtain ⟨hin, h⟩ := h
        refine va_iast hx hb hK hP (hDD _ rfl) hS 8 0 rfl rfl hin dX5_statement_52 (fun H locs hP _ hS => ?_)
        have hP : va_P D vwCl ((bX5 cI cJ cC a_M M_pipes M_used M_taped M_at M_statements M_hasImage M_isKeeping M_cursor M_nextAt M_nextMost M_rowMany M_refused M_setting M_hole M_pipeAt M_chance M_weight M_tape (upd M_letter M_statements.toNatClampNeg r_1) M_letterAt M_told M_kept M_then M_row)) H := hP
        refine lv_aload_n hx hb dX5_statement_53 rfl (lv_at hl 1 rfl) ?_
        refine va_get (D := D) (ci := 5) (v := .ref (a_M 9)) (C := RX5) (T := TX5) (N := 24) hx hb ht inX5 hown hK hP 0 rfl rfl 10 (by decide) (ht _ fl_X5_34) (fun _ h9 => h9) rfl dX5_statement_54 ?_
        refine lv_aload_n hx hb dX5_statement_57 rfl (lv_at hl 1 rfl) ?_
        refine va_get (D := D) (ci := 5) (v := .int M_statements) (C := RX5) (T := TX5) (N := 24) hx hb ht inX5 hown hK hP 0 rfl rfl 14 (by decide) (ht _ fl_X5_97) (fun _ h9 => h9) rfl dX5_statement_58 ?_
        refine lv_aload_n hx hb dX5_statement_61 rfl (lv_at hl 1 rfl) ?_
        refine va_get (D := D) (ci := 5) (v := .int M_at) (C := RX5) (T := TX5) (N := 24) hx hb ht inX5 hown hK hP 0 rfl rfl 13 (by decide) (ht _ fl_X5_70) (fun _ h9 => h9) rfl dX5_statement_62 ?_
        obtain ⟨hin, h⟩ := h
        refine va_iast hx hb hK hP (hDD _ rfl) hS 9 0 rfl rfl hin dX5_statement_65 (fun H locs hP _ hS => ?_)
        have hP : va_P D vwCl ((bX5 cI cJ cC a_M M_pipes M_used M_taped M_at M_statements M_hasImage M_isKeeping M_cursor M_nextAt M_nextMost M_rowMany M_refused M_setting M_hole M_pipeAt M_chance M_weight M_tape (upd M_letter M_statements.toNatClampNeg r_1) (upd M_letterAt M_statements.toNatClampNeg M_at) M_told M_kept M_then M_row)) H := hP
        refine lv_aload_n hx hb dX5_statement_66 rfl (lv_at hl 1 rfl) ?_
        refine lv_dup hx hb dX5_statement_67 rfl ?_
        refine va_get (D := D) (ci := 5) (v := .int M_at) (C := RX5) (T := TX5) (N := 24) hx hb ht inX5 hown hK hP 0 rfl rfl 13 (by decide) (ht _ fl_X5_70) (fun _ h9 => h9) rfl dX5_statement_68 ?_
        refine lv_iconst (v := (1 : Int32)) hx hb dX5_statement_71 (by decide) ?_
        refine lv_iadd hx hb dX5_statement_72 ?_
        refine va_put (D := D) (ci := 5) (v := .int (M_at + (1 : Int32))) (ty := .int) (C := RX5) (T := TX5) (N := 24) hx hb ht inX5 tyX5 tyX5_ok nmX5 hown hK hP (hDD _ rfl) hS 0 rfl rfl 13 (by decide) (ht _ fl_X5_70) (fun _ h9 => h9) rfl (by decide +kernel) rfl rfl (Nat.le_of_ble_eq_true rfl) dX5_statement_73 (fun H locs hP _ hS => ?_)
        have hP : va_P D vwCl ((bX5 cI cJ cC a_M M_pipes M_used M_taped (M_at + (1 : Int32)) M_statements M_hasImage M_isKeeping M_cursor M_nextAt M_nextMost M_rowMany M_refused M_setting M_hole M_pipeAt M_chance M_weight M_tape (upd M_letter M_statements.toNatClampNeg r_1) (upd M_letterAt M_statements.toNatClampNeg M_at) M_told M_kept M_then M_row)) H := hP
        refine lv_aload_n hx hb dX5_statement_76 rfl (lv_at hl 1 rfl) ?_
        refine lv_iload_n hx hb dX5_statement_77 rfl (lv_at hl 0 rfl) ?_
        refine lv_iconst (v := (3 : Int32)) hx hb dX5_statement_78 (by decide) ?_
        refine lv_aload_n hx hb dX5_statement_79 rfl (lv_at hl 1 rfl) ?_
        refine va_get (D := D) (ci := 5) (v := .int M_statements) (C := RX5) (T := TX5) (N := 24) hx hb ht inX5 hown hK hP 0 rfl rfl 14 (by decide) (ht _ fl_X5_97) (fun _ h9 => h9) rfl dX5_statement_80 ?_
        refine lv_imul hx hb dX5_statement_83 ?_
        refine zci hA (hDD _ rfl) hS (zrunV (As := [.int r_1, .int ((3 : Int32) * M_statements)]) (rest := []) S hK hA hE hP (hDD _ rfl) hS (mX5_readsAll l D cI cJ cC G a_M _ M_pipes M_used M_taped (M_at + (1 : Int32)) M_statements M_hasImage M_isKeeping M_cursor M_nextAt M_nextMost M_rowMany M_refused M_setting M_hole M_pipeAt M_chance M_weight M_tape (upd M_letter M_statements.toNatClampNeg r_1) (upd M_letterAt M_statements.toNatClampNeg M_at) M_told M_kept M_then M_row r_1 ((3 : Int32) * M_statements) _ h) kX5_readsAll ml_X5_100 ⟨rfl, rfl, by decide, by decide⟩ (q0 := 0) (ci := 5) rfl rfl rfl rfl hl.1 rfl (Nat.le_of_ble_eq_true rfl) dX5_statement_84 ⟨Nat.zero_le _, Nat.zero_le _⟩) (fun r_10 u H locs h hP1 hk1 hS => ?_)
        obtain ⟨M_at_11, M_told_12⟩ := u
        dsimp only at h
        have hP : va_P D vwCl ((bX5 cI cJ cC a_M M_pipes M_used M_taped M_at_11 M_statements M_hasImage M_isKeeping M_cursor M_nextAt M_nextMost M_rowMany M_refused M_setting M_hole M_pipeAt M_chance M_weight M_tape (upd M_letter M_statements.toNatClampNeg r_1) (upd M_letterAt M_statements.toNatClampNeg M_at) M_told_12 M_kept M_then M_row)) H := hP1
        refine lv_if_eq (tgt := 99) hx hb dX5_statement_87 (by decide) (fun z => ?_) (fun z => ?_)
        · replace h := h.1 z
          refine lv_iconst (v := (0 : Int32)) hx hb dX5_statement_99 (by decide) ?_
          exact hret (0 : Int32) (M_at_11, upd M_letter M_statements.toNatClampNeg r_1, upd M_letterAt M_statements.toNatClampNeg M_at, M_told_12) _ _ _ _ rfl h hP hS dX5_statement_100
        · replace h := h.2 z
          refine lv_aload_n hx hb dX5_statement_90 rfl (lv_at hl 1 rfl) ?_
          refine zci hA (hDD _ rfl) hS (zrunV (As := []) (rest := []) S hK hA hE hP (hDD _ rfl) hS (mX5_next l D cI cJ cC G a_M _ M_pipes M_used M_taped M_at_11 M_statements M_hasImage M_isKeeping M_cursor M_nextAt M_nextMost M_rowMany M_refused M_setting M_hole M_pipeAt M_chance M_weight M_tape (upd M_letter M_statements.toNatClampNeg r_1) (upd M_letterAt M_statements.toNatClampNeg M_at) M_told_12 M_kept M_then M_row _ h) kX5_next ml_X5_73 ⟨rfl, rfl, by decide, by decide⟩ (q0 := 0) (ci := 5) rfl rfl rfl rfl hl.1 rfl (Nat.le_of_ble_eq_true rfl) dX5_statement_91 ⟨Nat.zero_le _, Nat.zero_le _⟩) (fun r_13 u H locs h hP1 hk1 hS => ?_)
          try dsimp only at h
          have hP : va_P D vwCl ((bX5 cI cJ cC a_M M_pipes M_used M_taped M_at_11 M_statements M_hasImage M_isKeeping M_cursor M_nextAt M_nextMost M_rowMany M_refused M_setting M_hole M_pipeAt M_chance M_weight M_tape (upd M_letter M_statements.toNatClampNeg r_1) (upd M_letterAt M_statements.toNatClampNeg M_at) M_told_12 M_kept M_then M_row)) H := hP1
          refine lv_bipush (v := (59 : Int32)) hx hb dX5_statement_94 (by decide) ?_
          refine lv_icmp_eq (tgt := 101) hx hb dX5_statement_96 (by decide) (fun z => ?_) (fun z => ?_)
          · replace h := h.1 z
            refine lv_aload_n hx hb dX5_statement_101 rfl (lv_at hl 1 rfl) ?_
            refine lv_dup hx hb dX5_statement_102 rfl ?_
            refine va_get (D := D) (ci := 5) (v := .int M_at_11) (C := RX5) (T := TX5) (N := 24) hx hb ht inX5 hown hK hP 0 rfl rfl 13 (by decide) (ht _ fl_X5_70) (fun _ h9 => h9) rfl dX5_statement_103 ?_
            refine lv_iconst (v := (1 : Int32)) hx hb dX5_statement_106 (by decide) ?_
            refine lv_iadd hx hb dX5_statement_107 ?_
            refine va_put (D := D) (ci := 5) (v := .int (M_at_11 + (1 : Int32))) (ty := .int) (C := RX5) (T := TX5) (N := 24) hx hb ht inX5 tyX5 tyX5_ok nmX5 hown hK hP (hDD _ rfl) hS 0 rfl rfl 13 (by decide) (ht _ fl_X5_70) (fun _ h9 => h9) rfl (by decide +kernel) rfl rfl (Nat.le_of_ble_eq_true rfl) dX5_statement_108 (fun H locs hP _ hS => ?_)
            have hP : va_P D vwCl ((bX5 cI cJ cC a_M M_pipes M_used M_taped (M_at_11 + (1 : Int32)) M_statements M_hasImage M_isKeeping M_cursor M_nextAt M_nextMost M_rowMany M_refused M_setting M_hole M_pipeAt M_chance M_weight M_tape (upd M_letter M_statements.toNatClampNeg r_1) (upd M_letterAt M_statements.toNatClampNeg M_at) M_told_12 M_kept M_then M_row)) H := hP
            refine lv_iconst (v := (1 : Int32)) hx hb dX5_statement_111 (by decide) ?_
            exact hret (1 : Int32) (M_at_11 + (1 : Int32), upd M_letter M_statements.toNatClampNeg r_1, upd M_letterAt M_statements.toNatClampNeg M_at, M_told_12) _ _ _ _ rfl h hP hS dX5_statement_112
          · replace h := h.2 z
            refine lv_iconst (v := (0 : Int32)) hx hb dX5_statement_99 (by decide) ?_
            exact hret (0 : Int32) (M_at_11, upd M_letter M_statements.toNatClampNeg r_1, upd M_letterAt M_statements.toNatClampNeg M_at, M_told_12) _ _ _ _ rfl h hP hS dX5_statement_100
      · replace h := h.2 z
        refine lv_iload_n hx hb dX5_statement_23 rfl (lv_at hl 0 rfl) ?_
        refine lv_bipush (v := (116 : Int32)) hx hb dX5_statement_24 (by decide) ?_
        refine lv_icmp_eq (tgt := 43) hx hb dX5_statement_26 (by decide) (fun z => ?_) (fun z => ?_)
        · replace h := h.1 z
          refine lv_aload_n hx hb dX5_statement_43 rfl (lv_at hl 1 rfl) ?_
          refine va_get (D := D) (ci := 5) (v := .ref (a_M 8)) (C := RX5) (T := TX5) (N := 24) hx hb ht inX5 hown hK hP 0 rfl rfl 9 (by decide) (ht _ fl_X5_31) (fun _ h9 => h9) rfl dX5_statement_44 ?_
          refine lv_aload_n hx hb dX5_statement_47 rfl (lv_at hl 1 rfl) ?_
          refine va_get (D := D) (ci := 5) (v := .int M_statements) (C := RX5) (T := TX5) (N := 24) hx hb ht inX5 hown hK hP 0 rfl rfl 14 (by decide) (ht _ fl_X5_97) (fun _ h9 => h9) rfl dX5_statement_48 ?_
          refine lv_iload_n hx hb dX5_statement_51 rfl (lv_at hl 0 rfl) ?_
          obtain ⟨hin, h⟩ := h
          refine va_iast hx hb hK hP (hDD _ rfl) hS 8 0 rfl rfl hin dX5_statement_52 (fun H locs hP _ hS => ?_)
          have hP : va_P D vwCl ((bX5 cI cJ cC a_M M_pipes M_used M_taped M_at M_statements M_hasImage M_isKeeping M_cursor M_nextAt M_nextMost M_rowMany M_refused M_setting M_hole M_pipeAt M_chance M_weight M_tape (upd M_letter M_statements.toNatClampNeg r_1) M_letterAt M_told M_kept M_then M_row)) H := hP
          refine lv_aload_n hx hb dX5_statement_53 rfl (lv_at hl 1 rfl) ?_
          refine va_get (D := D) (ci := 5) (v := .ref (a_M 9)) (C := RX5) (T := TX5) (N := 24) hx hb ht inX5 hown hK hP 0 rfl rfl 10 (by decide) (ht _ fl_X5_34) (fun _ h9 => h9) rfl dX5_statement_54 ?_
          refine lv_aload_n hx hb dX5_statement_57 rfl (lv_at hl 1 rfl) ?_
          refine va_get (D := D) (ci := 5) (v := .int M_statements) (C := RX5) (T := TX5) (N := 24) hx hb ht inX5 hown hK hP 0 rfl rfl 14 (by decide) (ht _ fl_X5_97) (fun _ h9 => h9) rfl dX5_statement_58 ?_
          refine lv_aload_n hx hb dX5_statement_61 rfl (lv_at hl 1 rfl) ?_
          refine va_get (D := D) (ci := 5) (v := .int M_at) (C := RX5) (T := TX5) (N := 24) hx hb ht inX5 hown hK hP 0 rfl rfl 13 (by decide) (ht _ fl_X5_70) (fun _ h9 => h9) rfl dX5_statement_62 ?_
          obtain ⟨hin, h⟩ := h
          refine va_iast hx hb hK hP (hDD _ rfl) hS 9 0 rfl rfl hin dX5_statement_65 (fun H locs hP _ hS => ?_)
          have hP : va_P D vwCl ((bX5 cI cJ cC a_M M_pipes M_used M_taped M_at M_statements M_hasImage M_isKeeping M_cursor M_nextAt M_nextMost M_rowMany M_refused M_setting M_hole M_pipeAt M_chance M_weight M_tape (upd M_letter M_statements.toNatClampNeg r_1) (upd M_letterAt M_statements.toNatClampNeg M_at) M_told M_kept M_then M_row)) H := hP
          refine lv_aload_n hx hb dX5_statement_66 rfl (lv_at hl 1 rfl) ?_
          refine lv_dup hx hb dX5_statement_67 rfl ?_
          refine va_get (D := D) (ci := 5) (v := .int M_at) (C := RX5) (T := TX5) (N := 24) hx hb ht inX5 hown hK hP 0 rfl rfl 13 (by decide) (ht _ fl_X5_70) (fun _ h9 => h9) rfl dX5_statement_68 ?_
          refine lv_iconst (v := (1 : Int32)) hx hb dX5_statement_71 (by decide) ?_
          refine lv_iadd hx hb dX5_statement_72 ?_
          refine va_put (D := D) (ci := 5) (v := .int (M_at + (1 : Int32))) (ty := .int) (C := RX5) (T := TX5) (N := 24) hx hb ht inX5 tyX5 tyX5_ok nmX5 hown hK hP (hDD _ rfl) hS 0 rfl rfl 13 (by decide) (ht _ fl_X5_70) (fun _ h9 => h9) rfl (by decide +kernel) rfl rfl (Nat.le_of_ble_eq_true rfl) dX5_statement_73 (fun H locs hP _ hS => ?_)
          have hP : va_P D vwCl ((bX5 cI cJ cC a_M M_pipes M_used M_taped (M_at + (1 : Int32)) M_statements M_hasImage M_isKeeping M_cursor M_nextAt M_nextMost M_rowMany M_refused M_setting M_hole M_pipeAt M_chance M_weight M_tape (upd M_letter M_statements.toNatClampNeg r_1) (upd M_letterAt M_statements.toNatClampNeg M_at) M_told M_kept M_then M_row)) H := hP
          refine lv_aload_n hx hb dX5_statement_76 rfl (lv_at hl 1 rfl) ?_
          refine lv_iload_n hx hb dX5_statement_77 rfl (lv_at hl 0 rfl) ?_
          refine lv_iconst (v := (3 : Int32)) hx hb dX5_statement_78 (by decide) ?_
          refine lv_aload_n hx hb dX5_statement_79 rfl (lv_at hl 1 rfl) ?_
          refine va_get (D := D) (ci := 5) (v := .int M_statements) (C := RX5) (T := TX5) (N := 24) hx hb ht inX5 hown hK hP 0 rfl rfl 14 (by decide) (ht _ fl_X5_97) (fun _ h9 => h9) rfl dX5_statement_80 ?_
          refine lv_imul hx hb dX5_statement_83 ?_
          refine zci hA (hDD _ rfl) hS (zrunV (As := [.int r_1, .int ((3 : Int32) * M_statements)]) (rest := []) S hK hA hE hP (hDD _ rfl) hS (mX5_readsAll l D cI cJ cC G a_M _ M_pipes M_used M_taped (M_at + (1 : Int32)) M_statements M_hasImage M_isKeeping M_cursor M_nextAt M_nextMost M_rowMany M_refused M_setting M_hole M_pipeAt M_chance M_weight M_tape (upd M_letter M_statements.toNatClampNeg r_1) (upd M_letterAt M_statements.toNatClampNeg M_at) M_told M_kept M_then M_row r_1 ((3 : Int32) * M_statements) _ h) kX5_readsAll ml_X5_100 ⟨rfl, rfl, by decide, by decide⟩ (q0 := 0) (ci := 5) rfl rfl rfl rfl hl.1 rfl (Nat.le_of_ble_eq_true rfl) dX5_statement_84 ⟨Nat.zero_le _, Nat.zero_le _⟩) (fun r_14 u H locs h hP1 hk1 hS => ?_)
          obtain ⟨M_at_15, M_told_16⟩ := u
          dsimp only at h
          have hP : va_P D vwCl ((bX5 cI cJ cC a_M M_pipes M_used M_taped M_at_15 M_statements M_hasImage M_isKeeping M_cursor M_nextAt M_nextMost M_rowMany M_refused M_setting M_hole M_pipeAt M_chance M_weight M_tape (upd M_letter M_statements.toNatClampNeg r_1) (upd M_letterAt M_statements.toNatClampNeg M_at) M_told_16 M_kept M_then M_row)) H := hP1
          refine lv_if_eq (tgt := 99) hx hb dX5_statement_87 (by decide) (fun z => ?_) (fun z => ?_)
          · replace h := h.1 z
            refine lv_iconst (v := (0 : Int32)) hx hb dX5_statement_99 (by decide) ?_
            exact hret (0 : Int32) (M_at_15, upd M_letter M_statements.toNatClampNeg r_1, upd M_letterAt M_statements.toNatClampNeg M_at, M_told_16) _ _ _ _ rfl h hP hS dX5_statement_100
          · replace h := h.2 z
            refine lv_aload_n hx hb dX5_statement_90 rfl (lv_at hl 1 rfl) ?_
            refine zci hA (hDD _ rfl) hS (zrunV (As := []) (rest := []) S hK hA hE hP (hDD _ rfl) hS (mX5_next l D cI cJ cC G a_M _ M_pipes M_used M_taped M_at_15 M_statements M_hasImage M_isKeeping M_cursor M_nextAt M_nextMost M_rowMany M_refused M_setting M_hole M_pipeAt M_chance M_weight M_tape (upd M_letter M_statements.toNatClampNeg r_1) (upd M_letterAt M_statements.toNatClampNeg M_at) M_told_16 M_kept M_then M_row _ h) kX5_next ml_X5_73 ⟨rfl, rfl, by decide, by decide⟩ (q0 := 0) (ci := 5) rfl rfl rfl rfl hl.1 rfl (Nat.le_of_ble_eq_true rfl) dX5_statement_91 ⟨Nat.zero_le _, Nat.zero_le _⟩) (fun r_17 u H locs h hP1 hk1 hS => ?_)
            try dsimp only at h
            have hP : va_P D vwCl ((bX5 cI cJ cC a_M M_pipes M_used M_taped M_at_15 M_statements M_hasImage M_isKeeping M_cursor M_nextAt M_nextMost M_rowMany M_refused M_setting M_hole M_pipeAt M_chance M_weight M_tape (upd M_letter M_statements.toNatClampNeg r_1) (upd M_letterAt M_statements.toNatClampNeg M_at) M_told_16 M_kept M_then M_row)) H := hP1
            refine lv_bipush (v := (59 : Int32)) hx hb dX5_statement_94 (by decide) ?_
            refine lv_icmp_eq (tgt := 101) hx hb dX5_statement_96 (by decide) (fun z => ?_) (fun z => ?_)
            · replace h := h.1 z
              refine lv_aload_n hx hb dX5_statement_101 rfl (lv_at hl 1 rfl) ?_
              refine lv_dup hx hb dX5_statement_102 rfl ?_
              refine va_get (D := D) (ci := 5) (v := .int M_at_15) (C := RX5) (T := TX5) (N := 24) hx hb ht inX5 hown hK hP 0 rfl rfl 13 (by decide) (ht _ fl_X5_70) (fun _ h9 => h9) rfl dX5_statement_103 ?_
              refine lv_iconst (v := (1 : Int32)) hx hb dX5_statement_106 (by decide) ?_
              refine lv_iadd hx hb dX5_statement_107 ?_
              refine va_put (D := D) (ci := 5) (v := .int (M_at_15 + (1 : Int32))) (ty := .int) (C := RX5) (T := TX5) (N := 24) hx hb ht inX5 tyX5 tyX5_ok nmX5 hown hK hP (hDD _ rfl) hS 0 rfl rfl 13 (by decide) (ht _ fl_X5_70) (fun _ h9 => h9) rfl (by decide +kernel) rfl rfl (Nat.le_of_ble_eq_true rfl) dX5_statement_108 (fun H locs hP _ hS => ?_)
              have hP : va_P D vwCl ((bX5 cI cJ cC a_M M_pipes M_used M_taped (M_at_15 + (1 : Int32)) M_statements M_hasImage M_isKeeping M_cursor M_nextAt M_nextMost M_rowMany M_refused M_setting M_hole M_pipeAt M_chance M_weight M_tape (upd M_letter M_statements.toNatClampNeg r_1) (upd M_letterAt M_statements.toNatClampNeg M_at) M_told_16 M_kept M_then M_row)) H := hP
              refine lv_iconst (v := (1 : Int32)) hx hb dX5_statement_111 (by decide) ?_
              exact hret (1 : Int32) (M_at_15 + (1 : Int32), upd M_letter M_statements.toNatClampNeg r_1, upd M_letterAt M_statements.toNatClampNeg M_at, M_told_16) _ _ _ _ rfl h hP hS dX5_statement_112
            · replace h := h.2 z
              refine lv_iconst (v := (0 : Int32)) hx hb dX5_statement_99 (by decide) ?_
              exact hret (0 : Int32) (M_at_15, upd M_letter M_statements.toNatClampNeg r_1, upd M_letterAt M_statements.toNatClampNeg M_at, M_told_16) _ _ _ _ rfl h hP hS dX5_statement_100
        · replace h := h.2 z
          refine lv_iload_n hx hb dX5_statement_29 rfl (lv_at hl 0 rfl) ?_
          refine lv_bipush (v := (110 : Int32)) hx hb dX5_statement_30 (by decide) ?_
          refine lv_icmp_eq (tgt := 43) hx hb dX5_statement_32 (by decide) (fun z => ?_) (fun z => ?_)
          · replace h := h.1 z
            refine lv_aload_n hx hb dX5_statement_43 rfl (lv_at hl 1 rfl) ?_
            refine va_get (D := D) (ci := 5) (v := .ref (a_M 8)) (C := RX5) (T := TX5) (N := 24) hx hb ht inX5 hown hK hP 0 rfl rfl 9 (by decide) (ht _ fl_X5_31) (fun _ h9 => h9) rfl dX5_statement_44 ?_
            refine lv_aload_n hx hb dX5_statement_47 rfl (lv_at hl 1 rfl) ?_
            refine va_get (D := D) (ci := 5) (v := .int M_statements) (C := RX5) (T := TX5) (N := 24) hx hb ht inX5 hown hK hP 0 rfl rfl 14 (by decide) (ht _ fl_X5_97) (fun _ h9 => h9) rfl dX5_statement_48 ?_
            refine lv_iload_n hx hb dX5_statement_51 rfl (lv_at hl 0 rfl) ?_
            obtain ⟨hin, h⟩ := h
            refine va_iast hx hb hK hP (hDD _ rfl) hS 8 0 rfl rfl hin dX5_statement_52 (fun H locs hP _ hS => ?_)
            have hP : va_P D vwCl ((bX5 cI cJ cC a_M M_pipes M_used M_taped M_at M_statements M_hasImage M_isKeeping M_cursor M_nextAt M_nextMost M_rowMany M_refused M_setting M_hole M_pipeAt M_chance M_weight M_tape (upd M_letter M_statements.toNatClampNeg r_1) M_letterAt M_told M_kept M_then M_row)) H := hP
            refine lv_aload_n hx hb dX5_statement_53 rfl (lv_at hl 1 rfl) ?_
            refine va_get (D := D) (ci := 5) (v := .ref (a_M 9)) (C := RX5) (T := TX5) (N := 24) hx hb ht inX5 hown hK hP 0 rfl rfl 10 (by decide) (ht _ fl_X5_34) (fun _ h9 => h9) rfl dX5_statement_54 ?_
            refine lv_aload_n hx hb dX5_statement_57 rfl (lv_at hl 1 rfl) ?_
            refine va_get (D := D) (ci := 5) (v := .int M_statements) (C := RX5) (T := TX5) (N := 24) hx hb ht inX5 hown hK hP 0 rfl rfl 14 (by decide) (ht _ fl_X5_97) (fun _ h9 => h9) rfl dX5_statement_58 ?_
            refine lv_aload_n hx hb dX5_statement_61 rfl (lv_at hl 1 rfl) ?_
            refine va_get (D := D) (ci := 5) (v := .int M_at) (C := RX5) (T := TX5) (N := 24) hx hb ht inX5 hown hK hP 0 rfl rfl 13 (by decide) (ht _ fl_X5_70) (fun _ h9 => h9) rfl dX5_statement_62 ?_
            obtain ⟨hin, h⟩ := h
            refine va_iast hx hb hK hP (hDD _ rfl) hS 9 0 rfl rfl hin dX5_statement_65 (fun H locs hP _ hS => ?_)
            have hP : va_P D vwCl ((bX5 cI cJ cC a_M M_pipes M_used M_taped M_at M_statements M_hasImage M_isKeeping M_cursor M_nextAt M_nextMost M_rowMany M_refused M_setting M_hole M_pipeAt M_chance M_weight M_tape (upd M_letter M_statements.toNatClampNeg r_1) (upd M_letterAt M_statements.toNatClampNeg M_at) M_told M_kept M_then M_row)) H := hP
            refine lv_aload_n hx hb dX5_statement_66 rfl (lv_at hl 1 rfl) ?_
            refine lv_dup hx hb dX5_statement_67 rfl ?_
            refine va_get (D := D) (ci := 5) (v := .int M_at) (C := RX5) (T := TX5) (N := 24) hx hb ht inX5 hown hK hP 0 rfl rfl 13 (by decide) (ht _ fl_X5_70) (fun _ h9 => h9) rfl dX5_statement_68 ?_
            refine lv_iconst (v := (1 : Int32)) hx hb dX5_statement_71 (by decide) ?_
            refine lv_iadd hx hb dX5_statement_72 ?_
            refine va_put (D := D) (ci := 5) (v := .int (M_at + (1 : Int32))) (ty := .int) (C := RX5) (T := TX5) (N := 24) hx hb ht inX5 tyX5 tyX5_ok nmX5 hown hK hP (hDD _ rfl) hS 0 rfl rfl 13 (by decide) (ht _ fl_X5_70) (fun _ h9 => h9) rfl (by decide +kernel) rfl rfl (Nat.le_of_ble_eq_true rfl) dX5_statement_73 (fun H locs hP _ hS => ?_)
            have hP : va_P D vwCl ((bX5 cI cJ cC a_M M_pipes M_used M_taped (M_at + (1 : Int32)) M_statements M_hasImage M_isKeeping M_cursor M_nextAt M_nextMost M_rowMany M_refused M_setting M_hole M_pipeAt M_chance M_weight M_tape (upd M_letter M_statements.toNatClampNeg r_1) (upd M_letterAt M_statements.toNatClampNeg M_at) M_told M_kept M_then M_row)) H := hP
            refine lv_aload_n hx hb dX5_statement_76 rfl (lv_at hl 1 rfl) ?_
            refine lv_iload_n hx hb dX5_statement_77 rfl (lv_at hl 0 rfl) ?_
            refine lv_iconst (v := (3 : Int32)) hx hb dX5_statement_78 (by decide) ?_
            refine lv_aload_n hx hb dX5_statement_79 rfl (lv_at hl 1 rfl) ?_
            refine va_get (D := D) (ci := 5) (v := .int M_statements) (C := RX5) (T := TX5) (N := 24) hx hb ht inX5 hown hK hP 0 rfl rfl 14 (by decide) (ht _ fl_X5_97) (fun _ h9 => h9) rfl dX5_statement_80 ?_
            refine lv_imul hx hb dX5_statement_83 ?_
            refine zci hA (hDD _ rfl) hS (zrunV (As := [.int r_1, .int ((3 : Int32) * M_statements)]) (rest := []) S hK hA hE hP (hDD _ rfl) hS (mX5_readsAll l D cI cJ cC G a_M _ M_pipes M_used M_taped (M_at + (1 : Int32)) M_statements M_hasImage M_isKeeping M_cursor M_nextAt M_nextMost M_rowMany M_refused M_setting M_hole M_pipeAt M_chance M_weight M_tape (upd M_letter M_statements.toNatClampNeg r_1) (upd M_letterAt M_statements.toNatClampNeg M_at) M_told M_kept M_then M_row r_1 ((3 : Int32) * M_statements) _ h) kX5_readsAll ml_X5_100 ⟨rfl, rfl, by decide, by decide⟩ (q0 := 0) (ci := 5) rfl rfl rfl rfl hl.1 rfl (Nat.le_of_ble_eq_true rfl) dX5_statement_84 ⟨Nat.zero_le _, Nat.zero_le _⟩) (fun r_18 u H locs h hP1 hk1 hS => ?_)
            obtain ⟨M_at_19, M_told_20⟩ := u
            dsimp only at h
            have hP : va_P D vwCl ((bX5 cI cJ cC a_M M_pipes M_used M_taped M_at_19 M_statements M_hasImage M_isKeeping M_cursor M_nextAt M_nextMost M_rowMany M_refused M_setting M_hole M_pipeAt M_chance M_weight M_tape (upd M_letter M_statements.toNatClampNeg r_1) (upd M_letterAt M_statements.toNatClampNeg M_at) M_told_20 M_kept M_then M_row)) H := hP1
            refine lv_if_eq (tgt := 99) hx hb dX5_statement_87 (by decide) (fun z => ?_) (fun z => ?_)
            · replace h := h.1 z
              refine lv_iconst (v := (0 : Int32)) hx hb dX5_statement_99 (by decide) ?_
              exact hret (0 : Int32) (M_at_19, upd M_letter M_statements.toNatClampNeg r_1, upd M_letterAt M_statements.toNatClampNeg M_at, M_told_20) _ _ _ _ rfl h hP hS dX5_statement_100
            · replace h := h.2 z
              refine lv_aload_n hx hb dX5_statement_90 rfl (lv_at hl 1 rfl) ?_
              refine zci hA (hDD _ rfl) hS (zrunV (As := []) (rest := []) S hK hA hE hP (hDD _ rfl) hS (mX5_next l D cI cJ cC G a_M _ M_pipes M_used M_taped M_at_19 M_statements M_hasImage M_isKeeping M_cursor M_nextAt M_nextMost M_rowMany M_refused M_setting M_hole M_pipeAt M_chance M_weight M_tape (upd M_letter M_statements.toNatClampNeg r_1) (upd M_letterAt M_statements.toNatClampNeg M_at) M_told_20 M_kept M_then M_row _ h) kX5_next ml_X5_73 ⟨rfl, rfl, by decide, by decide⟩ (q0 := 0) (ci := 5) rfl rfl rfl rfl hl.1 rfl (Nat.le_of_ble_eq_true rfl) dX5_statement_91 ⟨Nat.zero_le _, Nat.zero_le _⟩) (fun r_21 u H locs h hP1 hk1 hS => ?_)
              try dsimp only at h
              have hP : va_P D vwCl ((bX5 cI cJ cC a_M M_pipes M_used M_taped M_at_19 M_statements M_hasImage M_isKeeping M_cursor M_nextAt M_nextMost M_rowMany M_refused M_setting M_hole M_pipeAt M_chance M_weight M_tape (upd M_letter M_statements.toNatClampNeg r_1) (upd M_letterAt M_statements.toNatClampNeg M_at) M_told_20 M_kept M_then M_row)) H := hP1
              refine lv_bipush (v := (59 : Int32)) hx hb dX5_statement_94 (by decide) ?_
              refine lv_icmp_eq (tgt := 101) hx hb dX5_statement_96 (by decide) (fun z => ?_) (fun z => ?_)
              · replace h := h.1 z
                refine lv_aload_n hx hb dX5_statement_101 rfl (lv_at hl 1 rfl) ?_
                refine lv_dup hx hb dX5_statement_102 rfl ?_
                refine va_get (D := D) (ci := 5) (v := .int M_at_19) (C := RX5) (T := TX5) (N := 24) hx hb ht inX5 hown hK hP 0 rfl rfl 13 (by decide) (ht _ fl_X5_70) (fun _ h9 => h9) rfl dX5_statement_103 ?_
                refine lv_iconst (v := (1 : Int32)) hx hb dX5_statement_106 (by decide) ?_
                refine lv_iadd hx hb dX5_statement_107 ?_
                refine va_put (D := D) (ci := 5) (v := .int (M_at_19 + (1 : Int32))) (ty := .int) (C := RX5) (T := TX5) (N := 24) hx hb ht inX5 tyX5 tyX5_ok nmX5 hown hK hP (hDD _ rfl) hS 0 rfl rfl 13 (by decide) (ht _ fl_X5_70) (fun _ h9 => h9) rfl (by decide +kernel) rfl rfl (Nat.le_of_ble_eq_true rfl) dX5_statement_108 (fun H locs hP _ hS => ?_)
                have hP : va_P D vwCl ((bX5 cI cJ cC a_M M_pipes M_used M_taped (M_at_19 + (1 : Int32)) M_statements M_hasImage M_isKeeping M_cursor M_nextAt M_nextMost M_rowMany M_refused M_setting M_hole M_pipeAt M_chance M_weight M_tape (upd M_letter M_statements.toNatClampNeg r_1) (upd M_letterAt M_statements.toNatClampNeg M_at) M_told_20 M_kept M_then M_row)) H := hP
                refine lv_iconst (v := (1 : Int32)) hx hb dX5_statement_111 (by decide) ?_
                exact hret (1 : Int32) (M_at_19 + (1 : Int32), upd M_letter M_statements.toNatClampNeg r_1, upd M_letterAt M_statements.toNatClampNeg M_at, M_told_20) _ _ _ _ rfl h hP hS dX5_statement_112
              · replace h := h.2 z
                refine lv_iconst (v := (0 : Int32)) hx hb dX5_statement_99 (by decide) ?_
                exact hret (0 : Int32) (M_at_19, upd M_letter M_statements.toNatClampNeg r_1, upd M_letterAt M_statements.toNatClampNeg M_at, M_told_20) _ _ _ _ rfl h hP hS dX5_statement_100
          · replace h := h.2 z
            refine lv_iload_n hx hb dX5_statement_35 rfl (lv_at hl 0 rfl) ?_
            refine lv_bipush (v := (112 : Int32)) hx hb dX5_statement_36 (by decide) ?_
            refine lv_icmp_eq (tgt := 43) hx hb dX5_statement_38 (by decide) (fun z => ?_) (fun z => ?_)
            · replace h := h.1 z
              refine lv_aload_n hx hb dX5_statement_43 rfl (lv_at hl 1 rfl) ?_
              refine va_get (D := D) (ci := 5) (v := .ref (a_M 8)) (C := RX5) (T := TX5) (N := 24) hx hb ht inX5 hown hK hP 0 rfl rfl 9 (by decide) (ht _ fl_X5_31) (fun _ h9 => h9) rfl dX5_statement_44 ?_
              refine lv_aload_n hx hb dX5_statement_47 rfl (lv_at hl 1 rfl) ?_
              refine va_get (D := D) (ci := 5) (v := .int M_statements) (C := RX5) (T := TX5) (N := 24) hx hb ht inX5 hown hK hP 0 rfl rfl 14 (by decide) (ht _ fl_X5_97) (fun _ h9 => h9) rfl dX5_statement_48 ?_
              refine lv_iload_n hx hb dX5_statement_51 rfl (lv_at hl 0 rfl) ?_
              obtain ⟨hin, h⟩ := h
              refine va_iast hx hb hK hP (hDD _ rfl) hS 8 0 rfl rfl hin dX5_statement_52 (fun H locs hP _ hS => ?_)
              have hP : va_P D vwCl ((bX5 cI cJ cC a_M M_pipes M_used M_taped M_at M_statements M_hasImage M_isKeeping M_cursor M_nextAt M_nextMost M_rowMany M_refused M_setting M_hole M_pipeAt M_chance M_weight M_tape (upd M_letter M_statements.toNatClampNeg r_1) M_letterAt M_told M_kept M_then M_row)) H := hP
              refine lv_aload_n hx hb dX5_statement_53 rfl (lv_at hl 1 rfl) ?_
              refine va_get (D := D) (ci := 5) (v := .ref (a_M 9)) (C := RX5) (T := TX5) (N := 24) hx hb ht inX5 hown hK hP 0 rfl rfl 10 (by decide) (ht _ fl_X5_34) (fun _ h9 => h9) rfl dX5_statement_54 ?_
              refine lv_aload_n hx hb dX5_statement_57 rfl (lv_at hl 1 rfl) ?_
              refine va_get (D := D) (ci := 5) (v := .int M_statements) (C := RX5) (T := TX5) (N := 24) hx hb ht inX5 hown hK hP 0 rfl rfl 14 (by decide) (ht _ fl_X5_97) (fun _ h9 => h9) rfl dX5_statement_58 ?_
              refine lv_aload_n hx hb dX5_statement_61 rfl (lv_at hl 1 rfl) ?_
              refine va_get (D := D) (ci := 5) (v := .int M_at) (C := RX5) (T := TX5) (N := 24) hx hb ht inX5 hown hK hP 0 rfl rfl 13 (by decide) (ht _ fl_X5_70) (fun _ h9 => h9) rfl dX5_statement_62 ?_
              obtain ⟨hin, h⟩ := h
              refine va_iast hx hb hK hP (hDD _ rfl) hS 9 0 rfl rfl hin dX5_statement_65 (fun H locs hP _ hS => ?_)
              have hP : va_P D vwCl ((bX5 cI cJ cC a_M M_pipes M_used M_taped M_at M_statements M_hasImage M_isKeeping M_cursor M_nextAt M_nextMost M_rowMany M_refused M_setting M_hole M_pipeAt M_chance M_weight M_tape (upd M_letter M_statements.toNatClampNeg r_1) (upd M_letterAt M_statements.toNatClampNeg M_at) M_told M_kept M_then M_row)) H := hP
              refine lv_aload_n hx hb dX5_statement_66 rfl (lv_at hl 1 rfl) ?_
              refine lv_dup hx hb dX5_statement_67 rfl ?_
              refine va_get (D := D) (ci := 5) (v := .int M_at) (C := RX5) (T := TX5) (N := 24) hx hb ht inX5 hown hK hP 0 rfl rfl 13 (by decide) (ht _ fl_X5_70) (fun _ h9 => h9) rfl dX5_statement_68 ?_
              refine lv_iconst (v := (1 : Int32)) hx hb dX5_statement_71 (by decide) ?_
              refine lv_iadd hx hb dX5_statement_72 ?_
              refine va_put (D := D) (ci := 5) (v := .int (M_at + (1 : Int32))) (ty := .int) (C := RX5) (T := TX5) (N := 24) hx hb ht inX5 tyX5 tyX5_ok nmX5 hown hK hP (hDD _ rfl) hS 0 rfl rfl 13 (by decide) (ht _ fl_X5_70) (fun _ h9 => h9) rfl (by decide +kernel) rfl rfl (Nat.le_of_ble_eq_true rfl) dX5_statement_73 (fun H locs hP _ hS => ?_)
              have hP : va_P D vwCl ((bX5 cI cJ cC a_M M_pipes M_used M_taped (M_at + (1 : Int32)) M_statements M_hasImage M_isKeeping M_cursor M_nextAt M_nextMost M_rowMany M_refused M_setting M_hole M_pipeAt M_chance M_weight M_tape (upd M_letter M_statements.toNatClampNeg r_1) (upd M_letterAt M_statements.toNatClampNeg M_at) M_told M_kept M_then M_row)) H := hP
              refine lv_aload_n hx hb dX5_statement_76 rfl (lv_at hl 1 rfl) ?_
              refine lv_iload_n hx hb dX5_statement_77 rfl (lv_at hl 0 rfl) ?_
              refine lv_iconst (v := (3 : Int32)) hx hb dX5_statement_78 (by decide) ?_
              refine lv_aload_n hx hb dX5_statement_79 rfl (lv_at hl 1 rfl) ?_
              refine va_get (D := D) (ci := 5) (v := .int M_statements) (C := RX5) (T := TX5) (N := 24) hx hb ht inX5 hown hK hP 0 rfl rfl 14 (by decide) (ht _ fl_X5_97) (fun _ h9 => h9) rfl dX5_statement_80 ?_
              refine lv_imul hx hb dX5_statement_83 ?_
              refine zci hA (hDD _ rfl) hS (zrunV (As := [.int r_1, .int ((3 : Int32) * M_statements)]) (rest := []) S hK hA hE hP (hDD _ rfl) hS (mX5_readsAll l D cI cJ cC G a_M _ M_pipes M_used M_taped (M_at + (1 : Int32)) M_statements M_hasImage M_isKeeping M_cursor M_nextAt M_nextMost M_rowMany M_refused M_setting M_hole M_pipeAt M_chance M_weight M_tape (upd M_letter M_statements.toNatClampNeg r_1) (upd M_letterAt M_statements.toNatClampNeg M_at) M_told M_kept M_then M_row r_1 ((3 : Int32) * M_statements) _ h) kX5_readsAll ml_X5_100 ⟨rfl, rfl, by decide, by decide⟩ (q0 := 0) (ci := 5) rfl rfl rfl rfl hl.1 rfl (Nat.le_of_ble_eq_true rfl) dX5_statement_84 ⟨Nat.zero_le _, Nat.zero_le _⟩) (fun r_22 u H locs h hP1 hk1 hS => ?_)
              obtain ⟨M_at_23, M_told_24⟩ := u
              dsimp only at h
              have hP : va_P D vwCl ((bX5 cI cJ cC a_M M_pipes M_used M_taped M_at_23 M_statements M_hasImage M_isKeeping M_cursor M_nextAt M_nextMost M_rowMany M_refused M_setting M_hole M_pipeAt M_chance M_weight M_tape (upd M_letter M_statements.toNatClampNeg r_1) (upd M_letterAt M_statements.toNatClampNeg M_at) M_told_24 M_kept M_then M_row)) H := hP1
              refine lv_if_eq (tgt := 99) hx hb dX5_statement_87 (by decide) (fun z => ?_) (fun z => ?_)
              · replace h := h.1 z
                refine lv_iconst (v := (0 : Int32)) hx hb dX5_statement_99 (by decide) ?_
                exact hret (0 : Int32) (M_at_23, upd M_letter M_statements.toNatClampNeg r_1, upd M_letterAt M_statements.toNatClampNeg M_at, M_told_24) _ _ _ _ rfl h hP hS dX5_statement_100
              · replace h := h.2 z
                refine lv_aload_n hx hb dX5_statement_90 rfl (lv_at hl 1 rfl) ?_
                refine zci hA (hDD _ rfl) hS (zrunV (As := []) (rest := []) S hK hA hE hP (hDD _ rfl) hS (mX5_next l D cI cJ cC G a_M _ M_pipes M_used M_taped M_at_23 M_statements M_hasImage M_isKeeping M_cursor M_nextAt M_nextMost M_rowMany M_refused M_setting M_hole M_pipeAt M_chance M_weight M_tape (upd M_letter M_statements.toNatClampNeg r_1) (upd M_letterAt M_statements.toNatClampNeg M_at) M_told_24 M_kept M_then M_row _ h) kX5_next ml_X5_73 ⟨rfl, rfl, by decide, by decide⟩ (q0 := 0) (ci := 5) rfl rfl rfl rfl hl.1 rfl (Nat.le_of_ble_eq_true rfl) dX5_statement_91 ⟨Nat.zero_le _, Nat.zero_le _⟩) (fun r_25 u H locs h hP1 hk1 hS => ?_)
                try dsimp only at h
                have hP : va_P D vwCl ((bX5 cI cJ cC a_M M_pipes M_used M_taped M_at_23 M_statements M_hasImage M_isKeeping M_cursor M_nextAt M_nextMost M_rowMany M_refused M_setting M_hole M_pipeAt M_chance M_weight M_tape (upd M_letter M_statements.toNatClampNeg r_1) (upd M_letterAt M_statements.toNatClampNeg M_at) M_told_24 M_kept M_then M_row)) H := hP1
                refine lv_bipush (v := (59 : Int32)) hx hb dX5_statement_94 (by decide) ?_
                refine lv_icmp_eq (tgt := 101) hx hb dX5_statement_96 (by decide) (fun z => ?_) (fun z => ?_)
                · replace h := h.1 z
                  refine lv_aload_n hx hb dX5_statement_101 rfl (lv_at hl 1 rfl) ?_
                  refine lv_dup hx hb dX5_statement_102 rfl ?_
                  refine va_get (D := D) (ci := 5) (v := .int M_at_23) (C := RX5) (T := TX5) (N := 24) hx hb ht inX5 hown hK hP 0 rfl rfl 13 (by decide) (ht _ fl_X5_70) (fun _ h9 => h9) rfl dX5_statement_103 ?_
                  refine lv_iconst (v := (1 : Int32)) hx hb dX5_statement_106 (by decide) ?_
                  refine lv_iadd hx hb dX5_statement_107 ?_
                  refine va_put (D := D) (ci := 5) (v := .int (M_at_23 + (1 : Int32))) (ty := .int) (C := RX5) (T := TX5) (N := 24) hx hb ht inX5 tyX5 tyX5_ok nmX5 hown hK hP (hDD _ rfl) hS 0 rfl rfl 13 (by decide) (ht _ fl_X5_70) (fun _ h9 => h9) rfl (by decide +kernel) rfl rfl (Nat.le_of_ble_eq_true rfl) dX5_statement_108 (fun H locs hP _ hS => ?_)
                  have hP : va_P D vwCl ((bX5 cI cJ cC a_M M_pipes M_used M_taped (M_at_23 + (1 : Int32)) M_statements M_hasImage M_isKeeping M_cursor M_nextAt M_nextMost M_rowMany M_refused M_setting M_hole M_pipeAt M_chance M_weight M_tape (upd M_letter M_statements.toNatClampNeg r_1) (upd M_letterAt M_statements.toNatClampNeg M_at) M_told_24 M_kept M_then M_row)) H := hP
                  refine lv_iconst (v := (1 : Int32)) hx hb dX5_statement_111 (by decide) ?_
                  exact hret (1 : Int32) (M_at_23 + (1 : Int32), upd M_letter M_statements.toNatClampNeg r_1, upd M_letterAt M_statements.toNatClampNeg M_at, M_told_24) _ _ _ _ rfl h hP hS dX5_statement_112
                · replace h := h.2 z
                  refine lv_iconst (v := (0 : Int32)) hx hb dX5_statement_99 (by decide) ?_
                  exact hret (0 : Int32) (M_at_23, upd M_letter M_statements.toNatClampNeg r_1, upd M_letterAt M_statements.toNatClampNeg M_at, M_told_24) _ _ _ _ rfl h hP hS dX5_statement_100
            · replace h := h.2 z
              refine lv_iconst (v := (0 : Int32)) hx hb dX5_statement_41 (by decide) ?_
              exact hret (0 : Int32) (M_at, M_letter, M_letterAt, M_told) _ _ _ _ rfl h hP hS dX5_statement_42
