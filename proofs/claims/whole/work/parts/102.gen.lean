def wpX5_leastOf (post : Int32 → Prop) (p0 : Int32) : Prop := ((p0 = (0 : Int32) → (post (6 : Int32))) ∧ (¬ (p0 = (0 : Int32)) → (((p0 = (1 : Int32) → (post (1 : Int32))) ∧ (¬ (p0 = (1 : Int32)) → (post (0 : Int32)))))))
set_option maxHeartbeats 4000000 in
set_option maxRecDepth 100000 in
theorem mX5_leastOf (l : Launch) (D : va_G) (cI cJ cC : ClassId) (G : Nat → Nat → Nat) (sz : Nat) (p0 : Int32) (post : Int32 → Prop) (h : wpX5_leastOf post p0) : Met l yX5_leastOf (wz yX5_leastOf cX5_leastOf 1 (some .int)) ({ frames := 0, cells := 0, slots := 0, locals := 0 }) (va_Pc [.int p0] (PW D (tz cI cJ cC) G ([]) sz)) (va_Qi (fun (r : Int32) (u : Unit) => post r ) (fun (u : Unit) t => va_P D vwCl ([]) t.heap) (va_A ([]) sz)) 0 0 (va_A ([]) sz) := by
  refine zmi (gw := fun (u : Unit) => []) (plainFor_of_name (by decide)) (Nat.le_of_ble_eq_true rfl) ?_
  intro p e s m below meth c A Q ls S hK hD hA hE hP hl hret
  obtain ⟨hx, hb, hml, hown, ht⟩ := id S
  have hS : va_S A s.heap s.heap [] := va_S.rf
  have hDD : ∀ ws : va_W, ws.map (fun q => q.1) = [] → va_D A ws := fun ws hw => zD hD (hw.trans rfl)
  have hl : lv_has ls 1 [(0, .int p0)] := hl
  unfold wpX5_leastOf at h
  refine lv_iload_n hx hb dX5_leastOf_0 rfl (lv_at hl 0 rfl) ?_
  refine lv_if_ne (tgt := 9) hx hb dX5_leastOf_1 (by decide) (fun z => ?_) (fun z => ?_)
  · replace h := h.2 z
    refine lv_iload_n hx hb dX5_leastOf_9 rfl (lv_at hl 0 rfl) ?_
    refine lv_iconst (v := (1 : Int32)) hx hb dX5_leastOf_10 (by decide) ?_
    refine lv_icmp_ne (tgt := 18) hx hb dX5_leastOf_11 (by decide) (fun z => ?_) (fun z => ?_)
    · replace h := h.2 z
      refine lv_iconst (v := (0 : Int32)) hx hb dX5_leastOf_18 (by decide) ?_
      exact hret (0 : Int32) () _ _ _ _ rfl h hP hS dX5_leastOf_19
    · replace h := h.1 z
      refine lv_iconst (v := (1 : Int32)) hx hb dX5_leastOf_14 (by decide) ?_
      refine lv_goto (tgt := 19) hx hb dX5_leastOf_15 (by decide) ?_
      exact hret (1 : Int32) () _ _ _ _ rfl h hP hS dX5_leastOf_19
  · replace h := h.1 z
    refine lv_bipush (v := (6 : Int32)) hx hb dX5_leastOf_4 (by decide) ?_
    refine lv_goto (tgt := 19) hx hb dX5_leastOf_6 (by decide) ?_
    exact hret (6 : Int32) () _ _ _ _ rfl h hP hS dX5_leastOf_19
def wpX5_mostOf (post : Int32 → Prop) (p0 : Int32) : Prop := ((p0 = (0 : Int32) → (post (24 : Int32))) ∧ (¬ (p0 = (0 : Int32)) → (((p0 = (1 : Int32) → (post (4 : Int32))) ∧ (¬ (p0 = (1 : Int32)) → (((p0 = (2 : Int32) → (post (47 : Int32))) ∧ (¬ (p0 = (2 : Int32)) → (post (5 : Int32))))))))))
set_option maxHeartbeats 4000000 in
set_option maxRecDepth 100000 in
theorem mX5_mostOf (l : Launch) (D : va_G) (cI cJ cC : ClassId) (G : Nat → Nat → Nat) (sz : Nat) (p0 : Int32) (post : Int32 → Prop) (h : wpX5_mostOf post p0) : Met l yX5_mostOf (wz yX5_mostOf cX5_mostOf 1 (some .int)) ({ frames := 0, cells := 0, slots := 0, locals := 0 }) (va_Pc [.int p0] (PW D (tz cI cJ cC) G ([]) sz)) (va_Qi (fun (r : Int32) (u : Unit) => post r ) (fun (u : Unit) t => va_P D vwCl ([]) t.heap) (va_A ([]) sz)) 0 0 (va_A ([]) sz) := by
  refine zmi (gw := fun (u : Unit) => []) (plainFor_of_name (by decide)) (Nat.le_of_ble_eq_true rfl) ?_
  intro p e s m below meth c A Q ls S hK hD hA hE hP hl hret
  obtain ⟨hx, hb, hml, hown, ht⟩ := id S
  have hS : va_S A s.heap s.heap [] := va_S.rf
  have hDD : ∀ ws : va_W, ws.map (fun q => q.1) = [] → va_D A ws := fun ws hw => zD hD (hw.trans rfl)
  have hl : lv_has ls 1 [(0, .int p0)] := hl
  unfold wpX5_mostOf at h
  refine lv_iload_n hx hb dX5_mostOf_0 rfl (lv_at hl 0 rfl) ?_
  refine lv_if_ne (tgt := 9) hx hb dX5_mostOf_1 (by decide) (fun z => ?_) (fun z => ?_)
  · replace h := h.2 z
    refine lv_iload_n hx hb dX5_mostOf_9 rfl (lv_at hl 0 rfl) ?_
    refine lv_iconst (v := (1 : Int32)) hx hb dX5_mostOf_10 (by decide) ?_
    refine lv_icmp_ne (tgt := 18) hx hb dX5_mostOf_11 (by decide) (fun z => ?_) (fun z => ?_)
    · replace h := h.2 z
      refine lv_iload_n hx hb dX5_mostOf_18 rfl (lv_at hl 0 rfl) ?_
      refine lv_iconst (v := (2 : Int32)) hx hb dX5_mostOf_19 (by decide) ?_
      refine lv_icmp_ne (tgt := 28) hx hb dX5_mostOf_20 (by decide) (fun z => ?_) (fun z => ?_)
      · replace h := h.2 z
        refine lv_iconst (v := (5 : Int32)) hx hb dX5_mostOf_28 (by decide) ?_
        exact hret (5 : Int32) () _ _ _ _ rfl h hP hS dX5_mostOf_29
      · replace h := h.1 z
        refine lv_bipush (v := (47 : Int32)) hx hb dX5_mostOf_23 (by decide) ?_
        refine lv_goto (tgt := 29) hx hb dX5_mostOf_25 (by decide) ?_
        exact hret (47 : Int32) () _ _ _ _ rfl h hP hS dX5_mostOf_29
    · replace h := h.1 z
      refine lv_iconst (v := (4 : Int32)) hx hb dX5_mostOf_14 (by decide) ?_
      refine lv_goto (tgt := 29) hx hb dX5_mostOf_15 (by decide) ?_
      exact hret (4 : Int32) () _ _ _ _ rfl h hP hS dX5_mostOf_29
  · replace h := h.1 z
    refine lv_bipush (v := (24 : Int32)) hx hb dX5_mostOf_4 (by decide) ?_
    refine lv_goto (tgt := 29) hx hb dX5_mostOf_6 (by decide) ?_
    exact hret (24 : Int32) () _ _ _ _ rfl h hP hS dX5_mostOf_29
def wpX5_comesSet (post : Int32 → Int32 → (Nat → Int32) → (Nat → Int32) → Prop) (M_used : Int32) (M_setting : Nat → Int32) (M_weight : Nat → Int32) (p1 : Int32) (p2 : Int32) : Prop := wpX5_leastOf (fun (r_1 : Int32) => wpX5_mostOf (fun (r_2 : Int32) => wpX5_bound (fun (r_3 : Int32) => ((r_3 = (0 : Int32) → (vp_in p1 4 ∧ (wpX5_alike (fun (M_used_4 : Int32) (M_weight_5 : Nat → Int32) => post (1 : Int32) M_used_4 (upd M_setting p1.toNatClampNeg p2) M_weight_5) M_weight))) ∧ (¬ (r_3 = (0 : Int32)) → (post (0 : Int32) M_used M_setting M_weight)))) p2 r_1 r_2) p1) p1
set_option maxHeartbeats 4000000 in
set_option maxRecDepth 100000 in
theorem mX5_comesSet (l : Launch) (D : va_G) (cI cJ cC : ClassId) (G : Nat → Nat → Nat) (a_M : Nat → Nat) (sz : Nat) (M_pipes : Int32) (M_used : Int32) (M_taped : Int32) (M_at : Int32) (M_statements : Int32) (M_hasImage : Int32) (M_isKeeping : Int32) (M_cursor : Int32) (M_nextAt : Int32) (M_nextMost : Int64) (M_rowMany : Int32) (M_refused : Nat → Int32) (M_setting : Nat → Int32) (M_hole : Nat → Int32) (M_pipeAt : Nat → Int32) (M_chance : Nat → Int32) (M_weight : Nat → Int32) (M_tape : Nat → Int32) (M_letter : Nat → Int32) (M_letterAt : Nat → Int32) (M_told : Nat → Int32) (M_kept : Nat → Int32) (M_then : Nat → Int64) (M_row : Nat → Int32) (p1 : Int32) (p2 : Int32) (post : Int32 → Int32 → (Nat → Int32) → (Nat → Int32) → Prop) (h : wpX5_comesSet post M_used M_setting M_weight p1 p2) : Met l yX5_comesSet (wz yX5_comesSet cX5_comesSet 3 (some .boolean)) ({ frames := 1, cells := 0, slots := 0, locals := 22 }) (va_Pc [.ref (a_M 0), .int p1, .int p2] (PW D (tz cI cJ cC) G ((bX5 cI cJ cC a_M M_pipes M_used M_taped M_at M_statements M_hasImage M_isKeeping M_cursor M_nextAt M_nextMost M_rowMany M_refused M_setting M_hole M_pipeAt M_chance M_weight M_tape M_letter M_letterAt M_told M_kept M_then M_row)) sz)) (va_Qi (fun (r : Int32) (u : Int32 × (Nat → Int32) × (Nat → Int32)) => post r u.1 u.2.1 u.2.2) (fun (u : Int32 × (Nat → Int32) × (Nat → Int32)) t => va_P D vwCl ((bX5 cI cJ cC a_M M_pipes u.1 M_taped M_at M_statements M_hasImage M_isKeeping M_cursor M_nextAt M_nextMost M_rowMany M_refused u.2.1 M_hole M_pipeAt M_chance u.2.2 M_tape M_letter M_letterAt M_told M_kept M_then M_row)) t.heap) (va_A ((bX5 cI cJ cC a_M M_pipes M_used M_taped M_at M_statements M_hasImage M_isKeeping M_cursor M_nextAt M_nextMost M_rowMany M_refused M_setting M_hole M_pipeAt M_chance M_weight M_tape M_letter M_letterAt M_told M_kept M_then M_row)) sz)) 0 0 (va_A ((bX5 cI cJ cC a_M M_pipes M_used M_taped M_at M_statements M_hasImage M_isKeeping M_cursor M_nextAt M_nextMost M_rowMany M_refused M_setting M_hole M_pipeAt M_chance M_weight M_tape M_letter M_letterAt M_told M_kept M_then M_row)) sz) := by
  refine zmi (gw := fun (u : Int32 × (Nat → Int32) × (Nat → Int32)) => (bX5 cI cJ cC a_M M_pipes u.1 M_taped M_at M_statements M_hasImage M_isKeeping M_cursor M_nextAt M_nextMost M_rowMany M_refused u.2.1 M_hole M_pipeAt M_chance u.2.2 M_tape M_letter M_letterAt M_told M_kept M_then M_row)) (plainFor_of_name (by decide)) (Nat.le_of_ble_eq_true rfl) ?_
  intro p e s m below meth c A Q ls S hK hD hA hE hP hl hret
  obtain ⟨hx, hb, hml, hown, ht⟩ := id S
  have hS : va_S A s.heap s.heap [] := va_S.rf
  have hDD : ∀ ws : va_W, ws.map (fun q => q.1) = [a_M 0, a_M 1, a_M 2, a_M 3, a_M 4, a_M 5, a_M 6, a_M 7, a_M 8, a_M 9, a_M 10, a_M 11, a_M 12, a_M 13] → va_D A ws := fun ws hw => zD hD (hw.trans rfl)
  have hl : lv_has ls 3 [(0, .ref (a_M 0)), (1, .int p1), (2, .int p2)] := hl
  unfold wpX5_comesSet at h
  refine lv_iload_n hx hb dX5_comesSet_0 rfl (lv_at hl 2 rfl) ?_
  refine lv_iload_n hx hb dX5_comesSet_1 rfl (lv_at hl 1 rfl) ?_
  refine zci hA zD0 hS (zrunS (As := [.int p1]) (rest := [.int p2]) S hK hA hE zP0 zD0 hS (mX5_leastOf l D cI cJ cC G _ p1 _ h) kX5_leastOf ml_X5_104 ⟨rfl, rfl, by decide, by decide⟩ rfl hl.1 rfl (Nat.le_of_ble_eq_true rfl) dX5_comesSet_2 ⟨Nat.zero_le _, Nat.zero_le _⟩) (fun r_1 u H locs h hP1 hk1 hS => ?_)
  try dsimp only at h
  have hP : va_P D vwCl ((bX5 cI cJ cC a_M M_pipes M_used M_taped M_at M_statements M_hasImage M_isKeeping M_cursor M_nextAt M_nextMost M_rowMany M_refused M_setting M_hole M_pipeAt M_chance M_weight M_tape M_letter M_letterAt M_told M_kept M_then M_row)) H := zKeep hP hk1
  refine lv_iload_n hx hb dX5_comesSet_5 rfl (lv_at hl 1 rfl) ?_
  refine zci hA zD0 hS (zrunS (As := [.int p1]) (rest := [.int r_1, .int p2]) S hK hA hE zP0 zD0 hS (mX5_mostOf l D cI cJ cC G _ p1 _ h) kX5_mostOf ml_X5_107 ⟨rfl, rfl, by decide, by decide⟩ rfl hl.1 rfl (Nat.le_of_ble_eq_true rfl) dX5_comesSet_6 ⟨Nat.zero_le _, Nat.zero_le _⟩) (fun r_2 u H locs h hP1 hk1 hS => ?_)
  try dsimp only at h
  have hP : va_P D vwCl ((bX5 cI cJ cC a_M M_pipes M_used M_taped M_at M_statements M_hasImage M_isKeeping M_cursor M_nextAt M_nextMost M_rowMany M_refused M_setting M_hole M_pipeAt M_chance M_weight M_tape M_letter M_letterAt M_told M_kept M_then M_row)) H := zKeep hP hk1
  refine zci hA zD0 hS (zrunS (As := [.int p2, .int r_1, .int r_2]) (rest := []) S hK hA hE zP0 zD0 hS (mX5_bound l D cI cJ cC G _ p2 r_1 r_2 _ h) kX5_bound ml_X5_59 ⟨rfl, rfl, by decide, by decide⟩ rfl hl.1 rfl (Nat.le_of_ble_eq_true rfl) dX5_comesSet_9 ⟨Nat.zero_le _, Nat.zero_le _⟩) (fun r_3 u H locs h hP1 hk1 hS => ?_)
  try dsimp only at h
  have hP : va_P D vwCl ((bX5 cI cJ cC a_M M_pipes M_used M_taped M_at M_statements M_hasImage M_isKeeping M_cursor M_nextAt M_nextMost M_rowMany M_refused M_setting M_hole M_pipeAt M_chance M_weight M_tape M_letter M_letterAt M_told M_kept M_then M_row)) H := zKeep hP hk1
  refine lv_if_eq (tgt := 17) hx hb dX5_comesSet_12 (by decide) (fun z => ?_) (fun z => ?_)
  · replace h := h.1 z
    refine lv_aload_n hx hb dX5_comesSet_17 rfl (lv_at hl 0 rfl) ?_
    refine va_get (D := D) (ci := 5) (v := .ref (a_M 2)) (C := RX5) (T := TX5) (N := 24) hx hb ht inX5 hown hK hP 0 rfl rfl 1 (by decide) (ht _ fl_X5_13) (fun _ h9 => h9) rfl dX5_comesSet_18 ?_
    refine lv_iload_n hx hb dX5_comesSet_21 rfl (lv_at hl 1 rfl) ?_
    refine lv_iload_n hx hb dX5_comesSet_22 rfl (lv_at hl 2 rfl) ?_
    obtain ⟨hin, h⟩ := h
    refine va_iast hx hb hK hP (hDD _ rfl) hS 2 0 rfl rfl hin dX5_comesSet_23 (fun H locs hP _ hS => ?_)
    have hP : va_P D vwCl ((bX5 cI cJ cC a_M M_pipes M_used M_taped M_at M_statements M_hasImage M_isKeeping M_cursor M_nextAt M_nextMost M_rowMany M_refused (upd M_setting p1.toNatClampNeg p2) M_hole M_pipeAt M_chance M_weight M_tape M_letter M_letterAt M_told M_kept M_then M_row)) H := hP
    refine lv_aload_n hx hb dX5_comesSet_24 rfl (lv_at hl 0 rfl) ?_
    refine zcv hA (hDD _ rfl) hS (zrunV (As := []) (rest := []) S hK hA hE hP (hDD _ rfl) hS (mX5_alike l D cI cJ cC G a_M _ M_pipes M_used M_taped M_at M_statements M_hasImage M_isKeeping M_cursor M_nextAt M_nextMost M_rowMany M_refused (upd M_setting p1.toNatClampNeg p2) M_hole M_pipeAt M_chance M_weight M_tape M_letter M_letterAt M_told M_kept M_then M_row _ h) kX5_alike ml_X5_50 ⟨rfl, rfl, by decide, by decide⟩ (q0 := 0) (ci := 5) rfl rfl rfl rfl hl.1 rfl (Nat.le_of_ble_eq_true rfl) dX5_comesSet_25 ⟨Nat.zero_le _, Nat.zero_le _⟩) (fun u H locs h hP1 hk1 hS => ?_)
    obtain ⟨M_used_4, M_weight_5⟩ := u
    dsimp only at h
    have hP : va_P D vwCl ((bX5 cI cJ cC a_M M_pipes M_used_4 M_taped M_at M_statements M_hasImage M_isKeeping M_cursor M_nextAt M_nextMost M_rowMany M_refused (upd M_setting p1.toNatClampNeg p2) M_hole M_pipeAt M_chance M_weight_5 M_tape M_letter M_letterAt M_told M_kept M_then M_row)) H := hP1
    refine lv_iconst (v := (1 : Int32)) hx hb dX5_comesSet_28 (by decide) ?_
    exact hret (1 : Int32) (M_used_4, upd M_setting p1.toNatClampNeg p2, M_weight_5) _ _ _ _ rfl h hP hS dX5_comesSet_29
  · replace h := h.2 z
    refine lv_iconst (v := (0 : Int32)) hx hb dX5_comesSet_15 (by decide) ?_
    exact hret (0 : Int32) (M_used, M_setting, M_weight) _ _ _ _ rfl h hP hS dX5_comesSet_16
def wpX5_isLeft (post : Int32 → Prop) (M_setting : Nat → Int32) (p1 : Int32) (p2 : Int32) : Prop := wpX5_modulo (fun (r_1 : Int32) => (((M_setting 1) ≤ r_1 → (post (0 : Int32))) ∧ (¬ ((M_setting 1) ≤ r_1) → (post (1 : Int32))))) (p1 - p2) (M_setting 0)
set_option maxHeartbeats 4000000 in
set_option maxRecDepth 100000 in
theorem mX5_isLeft (l : Launch) (D : va_G) (cI cJ cC : ClassId) (G : Nat → Nat → Nat) (a_M : Nat → Nat) (sz : Nat) (M_pipes : Int32) (M_used : Int32) (M_taped : Int32) (M_at : Int32) (M_statements : Int32) (M_hasImage : Int32) (M_isKeeping : Int32) (M_cursor : Int32) (M_nextAt : Int32) (M_nextMost : Int64) (M_rowMany : Int32) (M_refused : Nat → Int32) (M_setting : Nat → Int32) (M_hole : Nat → Int32) (M_pipeAt : Nat → Int32) (M_chance : Nat → Int32) (M_weight : Nat → Int32) (M_tape : Nat → Int32) (M_letter : Nat → Int32) (M_letterAt : Nat → Int32) (M_told : Nat → Int32) (M_kept : Nat → Int32) (M_then : Nat → Int64) (M_row : Nat → Int32) (p1 : Int32) (p2 : Int32) (post : Int32 → Prop) (h : wpX5_isLeft post M_setting p1 p2) : Met l yX5_isLeft (wz yX5_isLeft cX5_isLeft 3 (some .boolean)) ({ frames := 1, cells := 0, slots := 0, locals := 22 }) (va_Pc [.ref (a_M 0), .int p1, .int p2] (PW D (tz cI cJ cC) G ((bX5 cI cJ cC a_M M_pipes M_used M_taped M_at M_statements M_hasImage M_isKeeping M_cursor M_nextAt M_nextMost M_rowMany M_refused M_setting M_hole M_pipeAt M_chance M_weight M_tape M_letter M_letterAt M_told M_kept M_then M_row)) sz)) (va_Qi (fun (r : Int32) (u : Unit) => post r ) (fun (u : Unit) t => va_P D vwCl ((bX5 cI cJ cC a_M M_pipes M_used M_taped M_at M_statements M_hasImage M_isKeeping M_cursor M_nextAt M_nextMost M_rowMany M_refused M_setting M_hole M_pipeAt M_chance M_weight M_tape M_letter M_letterAt M_told M_kept M_then M_row)) t.heap) (va_A ((bX5 cI cJ cC a_M M_pipes M_used M_taped M_at M_statements M_hasImage M_isKeeping M_cursor M_nextAt M_nextMost M_rowMany M_refused M_setting M_hole M_pipeAt M_chance M_weight M_tape M_letter M_letterAt M_told M_kept M_then M_row)) sz)) 0 0 (va_A ((bX5 cI cJ cC a_M M_pipes M_used M_taped M_at M_statements M_hasImage M_isKeeping M_cursor M_nextAt M_nextMost M_rowMany M_refused M_setting M_hole M_pipeAt M_chance M_weight M_tape M_letter M_letterAt M_told M_kept M_then M_row)) sz) := by
  refine zmi (gw := fun (u : Unit) => (bX5 cI cJ cC a_M M_pipes M_used M_taped M_at M_statements M_hasImage M_isKeeping M_cursor M_nextAt M_nextMost M_rowMany M_refused M_setting M_hole M_pipeAt M_chance M_weight M_tape M_letter M_letterAt M_told M_kept M_then M_row)) (plainFor_of_name (by decide)) (Nat.le_of_ble_eq_true rfl) ?_
  intro p e s m below meth c A Q ls S hK hD hA hE hP hl hret
  obtain ⟨hx, hb, hml, hown, ht⟩ := id S
  have hS : va_S A s.heap s.heap [] := va_S.rf
  have hDD : ∀ ws : va_W, ws.map (fun q => q.1) = [a_M 0, a_M 1, a_M 2, a_M 3, a_M 4, a_M 5, a_M 6, a_M 7, a_M 8, a_M 9, a_M 10, a_M 11, a_M 12, a_M 13] → va_D A ws := fun ws hw => zD hD (hw.trans rfl)
  have hl : lv_has ls 3 [(0, .ref (a_M 0)), (1, .int p1), (2, .int p2)] := hl
  unfold wpX5_isLeft at h
  refine lv_iload_n hx hb dX5_isLeft_0 rfl (lv_at hl 1 rfl) ?_
  refine lv_iload_n hx hb dX5_isLeft_1 rfl (lv_at hl 2 rfl) ?_
  refine lv_isub hx hb dX5_isLeft_2 ?_
  refine lv_aload_n hx hb dX5_isLeft_3 rfl (lv_at hl 0 rfl) ?_
  refine va_get (D := D) (ci := 5) (v := .ref (a_M 2)) (C := RX5) (T := TX5) (N := 24) hx hb ht inX5 hown hK hP 0 rfl rfl 1 (by decide) (ht _ fl_X5_13) (fun _ h9 => h9) rfl dX5_isLeft_4 ?_
  refine lv_iconst (v := (0 : Int32)) hx hb dX5_isLeft_7 (by decide) ?_
  refine va_iald hx hb hK hP 2 0 rfl rfl (by unfold vp_in; decide) dX5_isLeft_8 ?_
  refine zti (y := M_setting 0) (by rfl) ?_
  refine zci hA zD0 hS (zrunS (As := [.int (p1 - p2), .int (M_setting 0)]) (rest := []) S hK hA hE zP0 zD0 hS (mX5_modulo l D cI cJ cC G _ (p1 - p2) (M_setting 0) _ h) kX5_modulo ml_X5_162 ⟨rfl, rfl, by decide, by decide⟩ rfl hl.1 rfl (Nat.le_of_ble_eq_true rfl) dX5_isLeft_9 ⟨Nat.zero_le _, Nat.zero_le _⟩) (fun r_1 u H locs h hP1 hk1 hS => ?_)
  try dsimp only at h
  have hP : va_P D vwCl ((bX5 cI cJ cC a_M M_pipes M_used M_taped M_at M_statements M_hasImage M_isKeeping M_cursor M_nextAt M_nextMost M_rowMany M_refused M_setting M_hole M_pipeAt M_chance M_weight M_tape M_letter M_letterAt M_told M_kept M_then M_row)) H := zKeep hP hk1
  refine lv_aload_n hx hb dX5_isLeft_12 rfl (lv_at hl 0 rfl) ?_
  refine va_get (D := D) (ci := 5) (v := .ref (a_M 2)) (C := RX5) (T := TX5) (N := 24) hx hb ht inX5 hown hK hP 0 rfl rfl 1 (by decide) (ht _ fl_X5_13) (fun _ h9 => h9) rfl dX5_isLeft_13 ?_
  refine lv_iconst (v := (1 : Int32)) hx hb dX5_isLeft_16 (by decide) ?_
  refine va_iald hx hb hK hP 2 0 rfl rfl (by unfold vp_in; decide) dX5_isLeft_17 ?_
  refine zti (y := M_setting 1) (by rfl) ?_
  refine lv_icmp_ge (tgt := 25) hx hb dX5_isLeft_18 (by decide) (fun z => ?_) (fun z => ?_)
  · replace h := h.1 z
    refine lv_iconst (v := (0 : Int32)) hx hb dX5_isLeft_25 (by decide) ?_
    exact hret (0 : Int32) () _ _ _ _ rfl h hP hS dX5_isLeft_26
  · replace h := h.2 z
    refine lv_iconst (v := (1 : Int32)) hx hb dX5_isLeft_21 (by decide) ?_
    refine lv_goto (tgt := 26) hx hb dX5_isLeft_22 (by decide) ?_
    exact hret (1 : Int32) () _ _ _ _ rfl h hP hS dX5_isLeft_26
def wpX5_isDoored (post : Int32 → Prop) (M_setting : Nat → Int32) (p1 : Int32) (p2 : Int32) : Prop := wpX5_isLeft (fun (r_1 : Int32) => ((r_1 = (0 : Int32) → (wpX5_isIn (fun (r_2 : Int32) => ((r_2 = (0 : Int32) → (post (0 : Int32))) ∧ (¬ (r_2 = (0 : Int32)) → (post (1 : Int32))))) p1 (M_setting 2) (((M_setting 2) + (M_setting 1)) - (1 : Int32)))) ∧ (¬ (r_1 = (0 : Int32)) → (post (1 : Int32))))) M_setting p1 p2
set_option maxHeartbeats 4000000 in
set_option maxRecDepth 100000 in
theorem mX5_isDoored (l : Launch) (D : va_G) (cI cJ cC : ClassId) (G : Nat → Nat → Nat) (a_M : Nat → Nat) (sz : Nat) (M_pipes : Int32) (M_used : Int32) (M_taped : Int32) (M_at : Int32) (M_statements : Int32) (M_hasImage : Int32) (M_isKeeping : Int32) (M_cursor : Int32) (M_nextAt : Int32) (M_nextMost : Int64) (M_rowMany : Int32) (M_refused : Nat → Int32) (M_setting : Nat → Int32) (M_hole : Nat → Int32) (M_pipeAt : Nat → Int32) (M_chance : Nat → Int32) (M_weight : Nat → Int32) (M_tape : Nat → Int32) (M_letter : Nat → Int32) (M_letterAt : Nat → Int32) (M_told : Nat → Int32) (M_kept : Nat → Int32) (M_then : Nat → Int64) (M_row : Nat → Int32) (p1 : Int32) (p2 : Int32) (post : Int32 → Prop) (h : wpX5_isDoored post M_setting p1 p2) : Met l yX5_isDoored (wz yX5_isDoored cX5_isDoored 3 (some .boolean)) ({ frames := 2, cells := 0, slots := 0, locals := 44 }) (va_Pc [.ref (a_M 0), .int p1, .int p2] (PW D (tz cI cJ cC) G ((bX5 cI cJ cC a_M M_pipes M_used M_taped M_at M_statements M_hasImage M_isKeeping M_cursor M_nextAt M_nextMost M_rowMany M_refused M_setting M_hole M_pipeAt M_chance M_weight M_tape M_letter M_letterAt M_told M_kept M_then M_row)) sz)) (va_Qi (fun (r : Int32) (u : Unit) => post r ) (fun (u : Unit) t => va_P D vwCl ((bX5 cI cJ cC a_M M_pipes M_used M_taped M_at M_statements M_hasImage M_isKeeping M_cursor M_nextAt M_nextMost M_rowMany M_refused M_setting M_hole M_pipeAt M_chance M_weight M_tape M_letter M_letterAt M_told M_kept M_then M_row)) t.heap) (va_A ((bX5 cI cJ cC a_M M_pipes M_used M_taped M_at M_statements M_hasImage M_isKeeping M_cursor M_nextAt M_nextMost M_rowMany M_refused M_setting M_hole M_pipeAt M_chance M_weight M_tape M_letter M_letterAt M_told M_kept M_then M_row)) sz)) 0 0 (va_A ((bX5 cI cJ cC a_M M_pipes M_used M_taped M_at M_statements M_hasImage M_isKeeping M_cursor M_nextAt M_nextMost M_rowMany M_refused M_setting M_hole M_pipeAt M_chance M_weight M_tape M_letter M_letterAt M_told M_kept M_then M_row)) sz) := by
  refine zmi (gw := fun (u : Unit) => (bX5 cI cJ cC a_M M_pipes M_used M_taped M_at M_statements M_hasImage M_isKeeping M_cursor M_nextAt M_nextMost M_rowMany M_refused M_setting M_hole M_pipeAt M_chance M_weight M_tape M_letter M_letterAt M_told M_kept M_then M_row)) (plainFor_of_name (by decide)) (Nat.le_of_ble_eq_true rfl) ?_
  intro p e s m below meth c A Q ls S hK hD hA hE hP hl hret
  obtain ⟨hx, hb, hml, hown, ht⟩ := id S
  have hS : va_S A s.heap s.heap [] := va_S.rf
  have hDD : ∀ ws : va_W, ws.map (fun q => q.1) = [a_M 0, a_M 1, a_M 2, a_M 3, a_M 4, a_M 5, a_M 6, a_M 7, a_M 8, a_M 9, a_M 10, a_M 11, a_M 12, a_M 13] → va_D A ws := fun ws hw => zD hD (hw.trans rfl)
  have hl : lv_has ls 3 [(0, .ref (a_M 0)), (1, .int p1), (2, .int p2)] := hl
  unfold wpX5_isDoored at h
  refine lv_aload_n hx hb dX5_isDoored_0 rfl (lv_at hl 0 rfl) ?_
  refine lv_iload_n hx hb dX5_isDoored_1 rfl (lv_at hl 1 rfl) ?_
  refine lv_iload_n hx hb dX5_isDoored_2 rfl (lv_at hl 2 rfl) ?_
  refine zci hA (hDD _ rfl) hS (zrunV (As := [.int p1, .int p2]) (rest := []) S hK hA hE hP (hDD _ rfl) hS (mX5_isLeft l D cI cJ cC G a_M _ M_pipes M_used M_taped M_at M_statements M_hasImage M_isKeeping M_cursor M_nextAt M_nextMost M_rowMany M_refused M_setting M_hole M_pipeAt M_chance M_weight M_tape M_letter M_letterAt M_told M_kept M_then M_row p1 p2 _ h) kX5_isLeft ml_X5_165 ⟨rfl, rfl, by decide, by decide⟩ (q0 := 0) (ci := 5) rfl rfl rfl rfl hl.1 rfl (Nat.le_of_ble_eq_true rfl) dX5_isDoored_3 ⟨Nat.zero_le _, Nat.zero_le _⟩) (fun r_1 u H locs h hP1 hk1 hS => ?_)
  try dsimp only at h
  have hP : va_P D vwCl ((bX5 cI cJ cC a_M M_pipes M_used M_taped M_at M_statements M_hasImage M_isKeeping M_cursor M_nextAt M_nextMost M_rowMany M_refused M_setting M_hole M_pipeAt M_chance M_weight M_tape M_letter M_letterAt M_told M_kept M_then M_row)) H := hP1
  refine lv_if_ne (tgt := 37) hx hb dX5_isDoored_6 (by decide) (fun z => ?_) (fun z => ?_)
  · replace h := h.2 z
    refine lv_iconst (v := (1 : Int32)) hx hb dX5_isDoored_37 (by decide) ?_
    refine lv_goto (tgt := 42) hx hb dX5_isDoored_38 (by decide) ?_
    exact hret (1 : Int32) () _ _ _ _ rfl h hP hS dX5_isDoored_42
  · replace h := h.1 z
    refine lv_iload_n hx hb dX5_isDoored_9 rfl (lv_at hl 1 rfl) ?_
    refine lv_aload_n hx hb dX5_isDoored_10 rfl (lv_at hl 0 rfl) ?_
    refine va_get (D := D) (ci := 5) (v := .ref (a_M 2)) (C := RX5) (T := TX5) (N := 24) hx hb ht inX5 hown hK hP 0 rfl rfl 1 (by decide) (ht _ fl_X5_13) (fun _ h9 => h9) rfl dX5_isDoored_11 ?_
    refine lv_iconst (v := (2 : Int32)) hx hb dX5_isDoored_14 (by decide) ?_
    refine va_iald hx hb hK hP 2 0 rfl rfl (by unfold vp_in; decide) dX5_isDoored_15 ?_
    refine zti (y := M_setting 2) (by rfl) ?_
    refine lv_aload_n hx hb dX5_isDoored_16 rfl (lv_at hl 0 rfl) ?_
    refine va_get (D := D) (ci := 5) (v := .ref (a_M 2)) (C := RX5) (T := TX5) (N := 24) hx hb ht inX5 hown hK hP 0 rfl rfl 1 (by decide) (ht _ fl_X5_13) (fun _ h9 => h9) rfl dX5_isDoored_17 ?_
    refine lv_iconst (v := (2 : Int32)) hx hb dX5_isDoored_20 (by decide) ?_
    refine va_iald hx hb hK hP 2 0 rfl rfl (by unfold vp_in; decide) dX5_isDoored_21 ?_
    refine zti (y := M_setting 2) (by rfl) ?_
    refine lv_aload_n hx hb dX5_isDoored_22 rfl (lv_at hl 0 rfl) ?_
    refine va_get (D := D) (ci := 5) (v := .ref (a_M 2)) (C := RX5) (T := TX5) (N := 24) hx hb ht inX5 hown hK hP 0 rfl rfl 1 (by decide) (ht _ fl_X5_13) (fun _ h9 => h9) rfl dX5_isDoored_23 ?_
    refine lv_iconst (v := (1 : Int32)) hx hb dX5_isDoored_26 (by decide) ?_
    refine va_iald hx hb hK hP 2 0 rfl rfl (by unfold vp_in; decide) dX5_isDoored_27 ?_
    refine zti (y := M_setting 1) (by rfl) ?_
    refine lv_iadd hx hb dX5_isDoored_28 ?_
    refine lv_iconst (v := (1 : Int32)) hx hb dX5_isDoored_29 (by decide) ?_
    refine lv_isub hx hb dX5_isDoored_30 ?_
    refine zci hA zD0 hS (zrunS (As := [.int p1, .int (M_setting 2), .int (((M_setting 2) + (M_setting 1)) - (1 : Int32))]) (rest := []) S hK hA hE zP0 zD0 hS (mX5_isIn l D cI cJ cC G _ p1 (M_setting 2) (((M_setting 2) + (M_setting 1)) - (1 : Int32)) _ h) kX5_isIn ml_X5_77 ⟨rfl, rfl, by decide, by decide⟩ rfl hl.1 rfl (Nat.le_of_ble_eq_true rfl) dX5_isDoored_31 ⟨Nat.zero_le _, Nat.zero_le _⟩) (fun r_2 u H locs h hP1 hk1 hS => ?_)
    try dsimp only at h
    have hP : va_P D vwCl ((bX5 cI cJ cC a_M M_pipes M_used M_taped M_at M_statements M_hasImage M_isKeeping M_cursor M_nextAt M_nextMost M_rowMany M_refused M_setting M_hole M_pipeAt M_chance M_weight M_tape M_letter M_letterAt M_told M_kept M_then M_row)) H := zKeep hP hk1
    refine lv_if_eq (tgt := 41) hx hb dX5_isDoored_34 (by decide) (fun z => ?_) (fun z => ?_)
    · replace h := h.1 z
      refine lv_iconst (v := (0 : Int32)) hx hb dX5_isDoored_41 (by decide) ?_
      exact hret (0 : Int32) () _ _ _ _ rfl h hP hS dX5_isDoored_42
    · replace h := h.2 z
      refine lv_iconst (v := (1 : Int32)) hx hb dX5_isDoored_37 (by decide) ?_
      refine lv_goto (tgt := 42) hx hb dX5_isDoored_38 (by decide) ?_
      exact hret (1 : Int32) () _ _ _ _ rfl h hP hS dX5_isDoored_42
def wpX5_isWood (post : Int32 → Prop) (M_setting : Nat → Int32) (p1 : Int32) (p2 : Int32) : Prop := (((M_setting 3) = (1 : Int32) → (wpX5_isLeft (fun (r_1 : Int32) => narrow .boolean (.int r_1) = .int r_1 ∧ post r_1) M_setting ((47 : Int32) - p1) p2)) ∧ (¬ ((M_setting 3) = (1 : Int32)) → ((((M_setting 3) = (2 : Int32) → (wpX5_isDoored (fun (r_2 : Int32) => narrow .boolean (.int r_2) = .int r_2 ∧ post r_2) M_setting p1 p2)) ∧ (¬ ((M_setting 3) = (2 : Int32)) → ((((M_setting 3) = (3 : Int32) → (wpX5_isLeft (fun (r_3 : Int32) => ((r_3 = (0 : Int32) → (((p1 < (M_setting 1) → (post (1 : Int32))) ∧ (¬ (p1 < (M_setting 1)) → (((p1 ≤ ((47 : Int32) - (M_setting 1)) → (post (0 : Int32))) ∧ (¬ (p1 ≤ ((47 : Int32) - (M_setting 1))) → (post (1 : Int32))))))))) ∧ (¬ (r_3 = (0 : Int32)) → (post (1 : Int32))))) M_setting ((47 : Int32) - p1) p2)) ∧ (¬ ((M_setting 3) = (3 : Int32)) → ((((M_setting 3) = (4 : Int32) → (wpX5_isDoored (fun (r_4 : Int32) => ((r_4 = (0 : Int32) → (wpX5_isDoored (fun (r_5 : Int32) => ((r_5 = (0 : Int32) → (post (0 : Int32))) ∧ (¬ (r_5 = (0 : Int32)) → (post (1 : Int32))))) M_setting (p1 + ((M_setting 0) / (2 : Int32))) p2)) ∧ (¬ (r_4 = (0 : Int32)) → (post (1 : Int32))))) M_setting p1 p2)) ∧ (¬ ((M_setting 3) = (4 : Int32)) → ((((M_setting 3) = (5 : Int32) → ((((40 : Int32) ≤ p1 → (post (0 : Int32))) ∧ (¬ ((40 : Int32) ≤ p1) → (wpX5_isLeft (fun (r_6 : Int32) => ((r_6 = (0 : Int32) → (post (0 : Int32))) ∧ (¬ (r_6 = (0 : Int32)) → (post (1 : Int32))))) M_setting p1 p2))))) ∧ (¬ ((M_setting 3) = (5 : Int32)) → (wpX5_isLeft (fun (r_7 : Int32) => narrow .boolean (.int r_7) = .int r_7 ∧ post r_7) M_setting p1 p2)))))))))))))))
set_option maxHeartbeats 4000000 in
set_option maxRecDepth 100000 in
theorem mX5_isWood (l : Launch) (D : va_G) (cI cJ cC : ClassId) (G : Nat → Nat → Nat) (a_M : Nat → Nat) (sz : Nat) (M_pipes : Int32) (M_used : Int32) (M_taped : Int32) (M_at : Int32) (M_statements : Int32) (M_hasImage : Int32) (M_isKeeping : Int32) (M_cursor : Int32) (M_nextAt : Int32) (M_nextMost : Int64) (M_rowMany : Int32) (M_refused : Nat → Int32) (M_setting : Nat → Int32) (M_hole : Nat → Int32) (M_pipeAt : Nat → Int32) (M_chance : Nat → Int32) (M_weight : Nat → Int32) (M_tape : Nat → Int32) (M_letter : Nat → Int32) (M_letterAt : Nat → Int32) (M_told : Nat → Int32) (M_kept : Nat → Int32) (M_then : Nat → Int64) (M_row : Nat → Int32) (p1 : Int32) (p2 : Int32) (post : Int32 → Prop) (h : wpX5_isWood post M_setting p1 p2) : Met l yX5_isWood (wz yX5_isWood cX5_isWood 3 (some .boolean)) ({ frames := 3, cells := 0, slots := 0, locals := 66 }) (va_Pc [.ref (a_M 0), .int p1, .int p2] (PW D (tz cI cJ cC) G ((bX5 cI cJ cC a_M M_pipes M_used M_taped M_at M_statements M_hasImage M_isKeeping M_cursor M_nextAt M_nextMost M_rowMany M_refused M_setting M_hole M_pipeAt M_chance M_weight M_tape M_letter M_letterAt M_told M_kept M_then M_row)) sz)) (va_Qi (fun (r : Int32) (u : Unit) => post r ) (fun (u : Unit) t => va_P D vwCl ((bX5 cI cJ cC a_M M_pipes M_used M_taped M_at M_statements M_hasImage M_isKeeping M_cursor M_nextAt M_nextMost M_rowMany M_refused M_setting M_hole M_pipeAt M_chance M_weight M_tape M_letter M_letterAt M_told M_kept M_then M_row)) t.heap) (va_A ((bX5 cI cJ cC a_M M_pipes M_used M_taped M_at M_statements M_hasImage M_isKeeping M_cursor M_nextAt M_nextMost M_rowMany M_refused M_setting M_hole M_pipeAt M_chance M_weight M_tape M_letter M_letterAt M_told M_kept M_then M_row)) sz)) 0 0 (va_A ((bX5 cI cJ cC a_M M_pipes M_used M_taped M_at M_statements M_hasImage M_isKeeping M_cursor M_nextAt M_nextMost M_rowMany M_refused M_setting M_hole M_pipeAt M_chance M_weight M_tape M_letter M_letterAt M_told M_kept M_then M_row)) sz) := by
  refine zmi (gw := fun (u : Unit) => (bX5 cI cJ cC a_M M_pipes M_used M_taped M_at M_statements M_hasImage M_isKeeping M_cursor M_nextAt M_nextMost M_rowMany M_refused M_setting M_hole M_pipeAt M_chance M_weight M_tape M_letter M_letterAt M_told M_kept M_then M_row)) (plainFor_of_name (by decide)) (Nat.le_of_ble_eq_true rfl) ?_
  intro p e s m below meth c A Q ls S hK hD hA hE hP hl hret
  obtain ⟨hx, hb, hml, hown, ht⟩ := id S
  have hS : va_S A s.heap s.heap [] := va_S.rf
  have hDD : ∀ ws : va_W, ws.map (fun q => q.1) = [a_M 0, a_M 1, a_M 2, a_M 3, a_M 4, a_M 5, a_M 6, a_M 7, a_M 8, a_M 9, a_M 10, a_M 11, a_M 12, a_M 13] → va_D A ws := fun ws hw => zD hD (hw.trans rfl)
  have hl : lv_has ls 3 [(0, .ref (a_M 0)), (1, .int p1), (2, .int p2)] := hl
  unfold wpX5_isWood at h
  refine lv_aload_n hx hb dX5_isWood_0 rfl (lv_at hl 0 rfl) ?_
  refine va_get (D := D) (ci := 5) (v := .ref (a_M 2)) (C := RX5) (T := TX5) (N := 24) hx hb ht inX5 hown hK hP 0 rfl rfl 1 (by decide) (ht _ fl_X5_13) (fun _ h9 => h9) rfl dX5_isWood_1 ?_
  refine lv_iconst (v := (3 : Int32)) hx hb dX5_isWood_4 (by decide) ?_
  refine va_iald hx hb hK hP 2 0 rfl rfl (by unfold vp_in; decide) dX5_isWood_5 ?_
  refine zti (y := M_setting 3) (by rfl) ?_
  by_cases z0 : (M_setting 3) = (1 : Int32)
  · replace h := h.1 z0
    refine lv_tableIn (off := 34) (tgt := 40) hx hb dX5_isWood_6 (by rw [z0]; decide) (by rw [z0]; decide) (by rw [z0]; rfl) (by decide) ?_
    refine lv_aload_n hx hb dX5_isWood_40 rfl (lv_at hl 0 rfl) ?_
    refine lv_bipush (v := (47 : Int32)) hx hb dX5_isWood_41 (by decide) ?_
    refine lv_iload_n hx hb dX5_isWood_43 rfl (lv_at hl 1 rfl) ?_
    refine lv_isub hx hb dX5_isWood_44 ?_
    refine lv_iload_n hx hb dX5_isWood_45 rfl (lv_at hl 2 rfl) ?_
    refine zci hA (hDD _ rfl) hS (zrunV (As := [.int ((47 : Int32) - p1), .int p2]) (rest := []) S hK hA hE hP (hDD _ rfl) hS (mX5_isLeft l D cI cJ cC G a_M _ M_pipes M_used M_taped M_at M_statements M_hasImage M_isKeeping M_cursor M_nextAt M_nextMost M_rowMany M_refused M_setting M_hole M_pipeAt M_chance M_weight M_tape M_letter M_letterAt M_told M_kept M_then M_row ((47 : Int32) - p1) p2 _ h) kX5_isLeft ml_X5_165 ⟨rfl, rfl, by decide, by decide⟩ (q0 := 0) (ci := 5) rfl rfl rfl rfl hl.1 rfl (Nat.le_of_ble_eq_true rfl) dX5_isWood_46 ⟨Nat.zero_le _, Nat.zero_le _⟩) (fun r_1 u H locs h hP1 hk1 hS => ?_)
    try dsimp only at h
    have hP : va_P D vwCl ((bX5 cI cJ cC a_M M_pipes M_used M_taped M_at M_statements M_hasImage M_isKeeping M_cursor M_nextAt M_nextMost M_rowMany M_refused M_setting M_hole M_pipeAt M_chance M_weight M_tape M_letter M_letterAt M_told M_kept M_then M_row)) H := hP1
    exact hret r_1 () _ _ _ _ h.1 h.2 hP hS dX5_isWood_49
  · replace h := h.2 z0
    by_cases z1 : (M_setting 3) = (2 : Int32)
    · replace h := h.1 z1
      refine lv_tableIn (off := 44) (tgt := 50) hx hb dX5_isWood_6 (by rw [z1]; decide) (by rw [z1]; decide) (by rw [z1]; rfl) (by decide) ?_
      refine lv_aload_n hx hb dX5_isWood_50 rfl (lv_at hl 0 rfl) ?_
      refine lv_iload_n hx hb dX5_isWood_51 rfl (lv_at hl 1 rfl) ?_
      refine lv_iload_n hx hb dX5_isWood_52 rfl (lv_at hl 2 rfl) ?_
      refine zci hA (hDD _ rfl) hS (zrunV (As := [.int p1, .int p2]) (rest := []) S hK hA hE hP (hDD _ rfl) hS (mX5_isDoored l D cI cJ cC G a_M _ M_pipes M_used M_taped M_at M_statements M_hasImage M_isKeeping M_cursor M_nextAt M_nextMost M_rowMany M_refused M_setting M_hole M_pipeAt M_chance M_weight M_tape M_letter M_letterAt M_told M_kept M_then M_row p1 p2 _ h) kX5_isDoored ml_X5_168 ⟨rfl, rfl, by decide, by decide⟩ (q0 := 0) (ci := 5) rfl rfl rfl rfl hl.1 rfl (Nat.le_of_ble_eq_true rfl) dX5_isWood_53 ⟨Nat.zero_le _, Nat.zero_le _⟩) (fun r_2 u H locs h hP1 hk1 hS => ?_)
      try dsimp only at h
      have hP : va_P D vwCl ((bX5 cI cJ cC a_M M_pipes M_used M_taped M_at M_statements M_hasImage M_isKeeping M_cursor M_nextAt M_nextMost M_rowMany M_refused M_setting M_hole M_pipeAt M_chance M_weight M_tape M_letter M_letterAt M_told M_kept M_then M_row)) H := hP1
      exact hret r_2 () _ _ _ _ h.1 h.2 hP hS dX5_isWood_56
    · replace h := h.2 z1
      by_cases z2 : (M_setting 3) = (3 : Int32)
      · replace h := h.1 z2
        refine lv_tableIn (off := 51) (tgt := 57) hx hb dX5_isWood_6 (by rw [z2]; decide) (by rw [z2]; decide) (by rw [z2]; rfl) (by decide) ?_
        refine lv_aload_n hx hb dX5_isWood_57 rfl (lv_at hl 0 rfl) ?_
        refine lv_bipush (v := (47 : Int32)) hx hb dX5_isWood_58 (by decide) ?_
        refine lv_iload_n hx hb dX5_isWood_60 rfl (lv_at hl 1 rfl) ?_
        refine lv_isub hx hb dX5_isWood_61 ?_
        refine lv_iload_n hx hb dX5_isWood_62 rfl (lv_at hl 2 rfl) ?_
        refine zci hA (hDD _ rfl) hS (zrunV (As := [.int ((47 : Int32) - p1), .int p2]) (rest := []) S hK hA hE hP (hDD _ rfl) hS (mX5_isLeft l D cI cJ cC G a_M _ M_pipes M_used M_taped M_at M_statements M_hasImage M_isKeeping M_cursor M_nextAt M_nextMost M_rowMany M_refused M_setting M_hole M_pipeAt M_chance M_weight M_tape M_letter M_letterAt M_told M_kept M_then M_row ((47 : Int32) - p1) p2 _ h) kX5_isLeft ml_X5_165 ⟨rfl, rfl, by decide, by decide⟩ (q0 := 0) (ci := 5) rfl rfl rfl rfl hl.1 rfl (Nat.le_of_ble_eq_true rfl) dX5_isWood_63 ⟨Nat.zero_le _, Nat.zero_le _⟩) (fun r_3 u H locs h hP1 hk1 hS => ?_)
        try dsimp only at h
        have hP : va_P D vwCl ((bX5 cI cJ cC a_M M_pipes M_used M_taped M_at M_statements M_hasImage M_isKeeping M_cursor M_nextAt M_nextMost M_rowMany M_refused M_setting M_hole M_pipeAt M_chance M_weight M_tape M_letter M_letterAt M_told M_kept M_then M_row)) H := hP1
        refine lv_if_ne (tgt := 92) hx hb dX5_isWood_66 (by decide) (fun z => ?_) (fun z => ?_)
        · replace h := h.2 z
          refine lv_iconst (v := (1 : Int32)) hx hb dX5_isWood_92 (by decide) ?_
          refine lv_goto (tgt := 97) hx hb dX5_isWood_93 (by decide) ?_
          exact hret (1 : Int32) () _ _ _ _ rfl h hP hS dX5_isWood_97
        · replace h := h.1 z
          refine lv_iload_n hx hb dX5_isWood_69 rfl (lv_at hl 1 rfl) ?_
          refine lv_aload_n hx hb dX5_isWood_70 rfl (lv_at hl 0 rfl) ?_
          refine va_get (D := D) (ci := 5) (v := .ref (a_M 2)) (C := RX5) (T := TX5) (N := 24) hx hb ht inX5 hown hK hP 0 rfl rfl 1 (by decide) (ht _ fl_X5_13) (fun _ h9 => h9) rfl dX5_isWood_71 ?_
          refine lv_iconst (v := (1 : Int32)) hx hb dX5_isWood_74 (by decide) ?_
          refine va_iald hx hb hK hP 2 0 rfl rfl (by unfold vp_in; decide) dX5_isWood_75 ?_
          refine zti (y := M_setting 1) (by rfl) ?_
          refine lv_icmp_lt (tgt := 92) hx hb dX5_isWood_76 (by decide) (fun z => ?_) (fun z => ?_)
          · replace h := h.1 z
            refine lv_iconst (v := (1 : Int32)) hx hb dX5_isWood_92 (by decide) ?_
            refine lv_goto (tgt := 97) hx hb dX5_isWood_93 (by decide) ?_
            exact hret (1 : Int32) () _ _ _ _ rfl h hP hS dX5_isWood_97
          · replace h := h.2 z
            refine lv_iload_n hx hb dX5_isWood_79 rfl (lv_at hl 1 rfl) ?_
            refine lv_bipush (v := (47 : Int32)) hx hb dX5_isWood_80 (by decide) ?_
            refine lv_aload_n hx hb dX5_isWood_82 rfl (lv_at hl 0 rfl) ?_
            refine va_get (D := D) (ci := 5) (v := .ref (a_M 2)) (C := RX5) (T := TX5) (N := 24) hx hb ht inX5 hown hK hP 0 rfl rfl 1 (by decide) (ht _ fl_X5_13) (fun _ h9 => h9) rfl dX5_isWood_83 ?_
            refine lv_iconst (v := (1 : Int32)) hx hb dX5_isWood_86 (by decide) ?_
            refine va_iald hx hb hK hP 2 0 rfl rfl (by unfold vp_in; decide) dX5_isWood_87 ?_
            refine zti (y := M_setting 1) (by rfl) ?_
            refine lv_isub hx hb dX5_isWood_88 ?_
            refine lv_icmp_le (tgt := 96) hx hb dX5_isWood_89 (by decide) (fun z => ?_) (fun z => ?_)
            · replace h := h.1 z
              refine lv_iconst (v := (0 : Int32)) hx hb dX5_isWood_96 (by decide) ?_
              exact hret (0 : Int32) () _ _ _ _ rfl h hP hS dX5_isWood_97
            · replace h := h.2 z
              refine lv_iconst (v := (1 : Int32)) hx hb dX5_isWood_92 (by decide) ?_
              refine lv_goto (tgt := 97) hx hb dX5_isWood_93 (by decide) ?_
              exact hret (1 : Int32) () _ _ _ _ rfl h hP hS dX5_isWood_97
      · replace h := h.2 z2
        by_cases z3 : (M_setting 3) = (4 : Int32)
        · replace h := h.1 z3
          refine lv_tableIn (off := 92) (tgt := 98) hx hb dX5_isWood_6 (by rw [z3]; decide) (by rw [z3]; decide) (by rw [z3]; rfl) (by decide) ?_
          refine lv_aload_n hx hb dX5_isWood_98 rfl (lv_at hl 0 rfl) ?_
          refine lv_iload_n hx hb dX5_isWood_99 rfl (lv_at hl 1 rfl) ?_
          refine lv_iload_n hx hb dX5_isWood_100 rfl (lv_at hl 2 rfl) ?_
          refine zci hA (hDD _ rfl) hS (zrunV (As := [.int p1, .int p2]) (rest := []) S hK hA hE hP (hDD _ rfl) hS (mX5_isDoored l D cI cJ cC G a_M _ M_pipes M_used M_taped M_at M_statements M_hasImage M_isKeeping M_cursor M_nextAt M_nextMost M_rowMany M_refused M_setting M_hole M_pipeAt M_chance M_weight M_tape M_letter M_letterAt M_told M_kept M_then M_row p1 p2 _ h) kX5_isDoored ml_X5_168 ⟨rfl, rfl, by decide, by decide⟩ (q0 := 0) (ci := 5) rfl rfl rfl rfl hl.1 rfl (Nat.le_of_ble_eq_true rfl) dX5_isWood_101 ⟨Nat.zero_le _, Nat.zero_le _⟩) (fun r_4 u H locs h hP1 hk1 hS => ?_)
          try dsimp only at h
          have hP : va_P D vwCl ((bX5 cI cJ cC a_M M_pipes M_used M_taped M_at M_statements M_hasImage M_isKeeping M_cursor M_nextAt M_nextMost M_rowMany M_refused M_setting M_hole M_pipeAt M_chance M_weight M_tape M_letter M_letterAt M_told M_kept M_then M_row)) H := hP1
          refine lv_if_ne (tgt := 125) hx hb dX5_isWood_104 (by decide) (fun z => ?_) (fun z => ?_)
          · replace h := h.2 z
            refine lv_iconst (v := (1 : Int32)) hx hb dX5_isWood_125 (by decide) ?_
            refine lv_goto (tgt := 130) hx hb dX5_isWood_126 (by decide) ?_
            exact hret (1 : Int32) () _ _ _ _ rfl h hP hS dX5_isWood_130
          · replace h := h.1 z
            refine lv_aload_n hx hb dX5_isWood_107 rfl (lv_at hl 0 rfl) ?_
            refine lv_iload_n hx hb dX5_isWood_108 rfl (lv_at hl 1 rfl) ?_
            refine lv_aload_n hx hb dX5_isWood_109 rfl (lv_at hl 0 rfl) ?_
            refine va_get (D := D) (ci := 5) (v := .ref (a_M 2)) (C := RX5) (T := TX5) (N := 24) hx hb ht inX5 hown hK hP 0 rfl rfl 1 (by decide) (ht _ fl_X5_13) (fun _ h9 => h9) rfl dX5_isWood_110 ?_
            refine lv_iconst (v := (0 : Int32)) hx hb dX5_isWood_113 (by decide) ?_
            refine va_iald hx hb hK hP 2 0 rfl rfl (by unfold vp_in; decide) dX5_isWood_114 ?_
            refine zti (y := M_setting 0) (by rfl) ?_
            refine lv_iconst (v := (2 : Int32)) hx hb dX5_isWood_115 (by decide) ?_
            refine lv_idiv hx hb dX5_isWood_116 (by decide) ?_
            refine lv_iadd hx hb dX5_isWood_117 ?_
            refine lv_iload_n hx hb dX5_isWood_118 rfl (lv_at hl 2 rfl) ?_
            refine zci hA (hDD _ rfl) hS (zrunV (As := [.int (p1 + ((M_setting 0) / (2 : Int32))), .int p2]) (rest := []) S hK hA hE hP (hDD _ rfl) hS (mX5_isDoored l D cI cJ cC G a_M _ M_pipes M_used M_taped M_at M_statements M_hasImage M_isKeeping M_cursor M_nextAt M_nextMost M_rowMany M_refused M_setting M_hole M_pipeAt M_chance M_weight M_tape M_letter M_letterAt M_told M_kept M_then M_row (p1 + ((M_setting 0) / (2 : Int32))) p2 _ h) kX5_isDoored ml_X5_168 ⟨rfl, rfl, by decide, by decide⟩ (q0 := 0) (ci := 5) rfl rfl rfl rfl hl.1 rfl (Nat.le_of_ble_eq_true rfl) dX5_isWood_119 ⟨Nat.zero_le _, Nat.zero_le _⟩) (fun r_5 u H locs h hP1 hk1 hS => ?_)
            try dsimp only at h
            have hP : va_P D vwCl ((bX5 cI cJ cC a_M M_pipes M_used M_taped M_at M_statements M_hasImage M_isKeeping M_cursor M_nextAt M_nextMost M_rowMany M_refused M_setting M_hole M_pipeAt M_chance M_weight M_tape M_letter M_letterAt M_told M_kept M_then M_row)) H := hP1
            refine lv_if_eq (tgt := 129) hx hb dX5_isWood_122 (by decide) (fun z => ?_) (fun z => ?_)
            · replace h := h.1 z
              refine lv_iconst (v := (0 : Int32)) hx hb dX5_isWood_129 (by decide) ?_
              exact hret (0 : Int32) () _ _ _ _ rfl h hP hS dX5_isWood_130
            · replace h := h.2 z
              refine lv_iconst (v := (1 : Int32)) hx hb dX5_isWood_125 (by decide) ?_
              refine lv_goto (tgt := 130) hx hb dX5_isWood_126 (by decide) ?_
              exact hret (1 : Int32) () _ _ _ _ rfl h hP hS dX5_isWood_130
        · replace h := h.2 z3
          by_cases z4 : (M_setting 3) = (5 : Int32)
          · replace h := h.1 z4
            refine lv_tableIn (off := 125) (tgt := 131) hx hb dX5_isWood_6 (by rw [z4]; decide) (by rw [z4]; decide) (by rw [z4]; rfl) (by decide) ?_
            refine lv_iload_n hx hb dX5_isWood_131 rfl (lv_at hl 1 rfl) ?_
            refine lv_bipush (v := (40 : Int32)) hx hb dX5_isWood_132 (by decide) ?_
            refine lv_icmp_ge (tgt := 150) hx hb dX5_isWood_134 (by decide) (fun z => ?_) (fun z => ?_)
            · replace h := h.1 z
              refine lv_iconst (v := (0 : Int32)) hx hb dX5_isWood_150 (by decide) ?_
              exact hret (0 : Int32) () _ _ _ _ rfl h hP hS dX5_isWood_151
            · replace h := h.2 z
              refine lv_aload_n hx hb dX5_isWood_137 rfl (lv_at hl 0 rfl) ?_
              refine lv_iload_n hx hb dX5_isWood_138 rfl (lv_at hl 1 rfl) ?_
              refine lv_iload_n hx hb dX5_isWood_139 rfl (lv_at hl 2 rfl) ?_
              refine zci hA (hDD _ rfl) hS (zrunV (As := [.int p1, .int p2]) (rest := []) S hK hA hE hP (hDD _ rfl) hS (mX5_isLeft l D cI cJ cC G a_M _ M_pipes M_used M_taped M_at M_statements M_hasImage M_isKeeping M_cursor M_nextAt M_nextMost M_rowMany M_refused M_setting M_hole M_pipeAt M_chance M_weight M_tape M_letter M_letterAt M_told M_kept M_then M_row p1 p2 _ h) kX5_isLeft ml_X5_165 ⟨rfl, rfl, by decide, by decide⟩ (q0 := 0) (ci := 5) rfl rfl rfl rfl hl.1 rfl (Nat.le_of_ble_eq_true rfl) dX5_isWood_140 ⟨Nat.zero_le _, Nat.zero_le _⟩) (fun r_6 u H locs h hP1 hk1 hS => ?_)
              try dsimp only at h
              have hP : va_P D vwCl ((bX5 cI cJ cC a_M M_pipes M_used M_taped M_at M_statements M_hasImage M_isKeeping M_cursor M_nextAt M_nextMost M_rowMany M_refused M_setting M_hole M_pipeAt M_chance M_weight M_tape M_letter M_letterAt M_told M_kept M_then M_row)) H := hP1
              refine lv_if_eq (tgt := 150) hx hb dX5_isWood_143 (by decide) (fun z => ?_) (fun z => ?_)
              · replace h := h.1 z
                refine lv_iconst (v := (0 : Int32)) hx hb dX5_isWood_150 (by decide) ?_
                exact hret (0 : Int32) () _ _ _ _ rfl h hP hS dX5_isWood_151
              · replace h := h.2 z
                refine lv_iconst (v := (1 : Int32)) hx hb dX5_isWood_146 (by decide) ?_
                refine lv_goto (tgt := 151) hx hb dX5_isWood_147 (by decide) ?_
                exact hret (1 : Int32) () _ _ _ _ rfl h hP hS dX5_isWood_151
          · replace h := h.2 z4
            refine lv_tableOut (tgt := 152) hx hb dX5_isWood_6 (by have n0 := lv_neT z0 (a := 1) (by decide); have n1 := lv_neT z1 (a := 2) (by decide); have n2 := lv_neT z2 (a := 3) (by decide); have n3 := lv_neT z3 (a := 4) (by decide); have n4 := lv_neT z4 (a := 5) (by decide); omega) (by decide) ?_
            refine lv_aload_n hx hb dX5_isWood_152 rfl (lv_at hl 0 rfl) ?_
            refine lv_iload_n hx hb dX5_isWood_153 rfl (lv_at hl 1 rfl) ?_
            refine lv_iload_n hx hb dX5_isWood_154 rfl (lv_at hl 2 rfl) ?_
            refine zci hA (hDD _ rfl) hS (zrunV (As := [.int p1, .int p2]) (rest := []) S hK hA hE hP (hDD _ rfl) hS (mX5_isLeft l D cI cJ cC G a_M _ M_pipes M_used M_taped M_at M_statements M_hasImage M_isKeeping M_cursor M_nextAt M_nextMost M_rowMany M_refused M_setting M_hole M_pipeAt M_chance M_weight M_tape M_letter M_letterAt M_told M_kept M_then M_row p1 p2 _ h) kX5_isLeft ml_X5_165 ⟨rfl, rfl, by decide, by decide⟩ (q0 := 0) (ci := 5) rfl rfl rfl rfl hl.1 rfl (Nat.le_of_ble_eq_true rfl) dX5_isWood_155 ⟨Nat.zero_le _, Nat.zero_le _⟩) (fun r_7 u H locs h hP1 hk1 hS => ?_)
            try dsimp only at h
            have hP : va_P D vwCl ((bX5 cI cJ cC a_M M_pipes M_used M_taped M_at M_statements M_hasImage M_isKeeping M_cursor M_nextAt M_nextMost M_rowMany M_refused M_setting M_hole M_pipeAt M_chance M_weight M_tape M_letter M_letterAt M_told M_kept M_then M_row)) H := hP1
            exact hret r_7 () _ _ _ _ h.1 h.2 hP hS dX5_isWood_158
def lpX5_leftBy_5 (K : Int32 → Int32 → Prop) (x1 : Int32) (x2 : Int32) (M_setting : Nat → Int32) (M_weight : Nat → Int32) : Nat → Int32 → Int32 → Prop
  | 0, _, _ => False
  | n + 1, x3, x4 => (((M_setting 0) ≤ x4 → (K x3 x4)) ∧ (¬ ((M_setting 0) ≤ x4) → (vp_in x4 24 ∧ ((((M_weight x4.toNatClampNeg) ≤ (0 : Int32) → (lpX5_leftBy_5 K x1 x2 M_setting M_weight n (x3 + (0 : Int32)) (x4 + (1 : Int32)))) ∧ (¬ ((M_weight x4.toNatClampNeg) ≤ (0 : Int32)) → (wpX5_isWood (fun (r_1 : Int32) => ((x2 = (1 : Int32) → (((r_1 = (1 : Int32) → (lpX5_leftBy_5 K x1 x2 M_setting M_weight n (x3 + (1 : Int32)) (x4 + (1 : Int32)))) ∧ (¬ (r_1 = (1 : Int32)) → (lpX5_leftBy_5 K x1 x2 M_setting M_weight n (x3 + (0 : Int32)) (x4 + (1 : Int32))))))) ∧ (¬ (x2 = (1 : Int32)) → (((r_1 = (0 : Int32) → (lpX5_leftBy_5 K x1 x2 M_setting M_weight n (x3 + (1 : Int32)) (x4 + (1 : Int32)))) ∧ (¬ (r_1 = (0 : Int32)) → (lpX5_leftBy_5 K x1 x2 M_setting M_weight n (x3 + (0 : Int32)) (x4 + (1 : Int32))))))))) M_setting x1 x4)))))))
set_option maxHeartbeats 4000000 in
set_option maxRecDepth 100000 in
theorem wX5_leftBy_5 (l : Launch) (D : va_G) (cI cJ cC : ClassId) (G : Nat → Nat → Nat) (a_M : Nat → Nat) {p : Program} {e : Env} {s : State} {m : MethodId} {below : List Frame} {meth : Method} {c : Code} {A : Nat → Prop} {Q : State → Prop} (p1 : Int32) (p2 : Int32) (x1 : Int32) (x2 : Int32) (M_pipes : Int32) (M_used : Int32) (M_taped : Int32) (M_at : Int32) (M_statements : Int32) (M_hasImage : Int32) (M_isKeeping : Int32) (M_cursor : Int32) (M_nextAt : Int32) (M_nextMost : Int64) (M_rowMany : Int32) (M_refused : Nat → Int32) (M_setting : Nat → Int32) (M_hole : Nat → Int32) (M_pipeAt : Nat → Int32) (M_chance : Nat → Int32) (M_weight : Nat → Int32) (M_tape : Nat → Int32) (M_letter : Nat → Int32) (M_letterAt : Nat → Int32) (M_told : Nat → Int32) (M_kept : Nat → Int32) (M_then : Nat → Int64) (M_row : Nat → Int32) (K : Int32 → Int32 → Prop) (S : CallFix p m c cX5_leftBy 5 s ([.ref (a_M 0), .int p1, .int p2] : List Value).toArray bg RX5) (hK : va_K D vwCl (tz cI cJ cC) s) (hDD : ∀ ws : va_W, ws.map (fun q => q.1) = [a_M 0, a_M 1, a_M 2, a_M 3, a_M 4, a_M 5, a_M 6, a_M 7, a_M 8, a_M 9, a_M 10, a_M 11, a_M 12, a_M 13] → va_D A ws) (hA : ∀ q, s.heap.size ≤ q → A q) (hE : EV G A s) (hKK : ∀ (x3 : Int32) (x4 : Int32) (H : Heap) (locs : List Loc) (ls : Array Slot), K x3 x4 → va_P D vwCl ((bX5 cI cJ cC a_M M_pipes M_used M_taped M_at M_statements M_hasImage M_isKeeping M_cursor M_nextAt M_nextMost M_rowMany M_refused M_setting M_hole M_pipeAt M_chance M_weight M_tape M_letter M_letterAt M_told M_kept M_then M_row)) H → va_S A s.heap H locs → lv_has ls 5 [(3, .int x3)] → W p l e ({ frames := 4, cells := 0, slots := 0, locals := 88 }) s m ([.ref (a_M 0), .int p1, .int p2] : List Value).toArray below meth c H locs 0 0 Q (F0 m 60 ls [])) :
    ∀ (n : Nat) (x3 : Int32) (x4 : Int32) (H : Heap) (locs : List Loc) (ls : Array Slot), lpX5_leftBy_5 K x1 x2 M_setting M_weight n x3 x4 → va_P D vwCl ((bX5 cI cJ cC a_M M_pipes M_used M_taped M_at M_statements M_hasImage M_isKeeping M_cursor M_nextAt M_nextMost M_rowMany M_refused M_setting M_hole M_pipeAt M_chance M_weight M_tape M_letter M_letterAt M_told M_kept M_then M_row)) H → va_S A s.heap H locs → lv_has ls 5 [(0, .ref (a_M 0)), (1, .int x1), (2, .int x2), (3, .int x3), (4, .int x4)] → W p l e ({ frames := 4, cells := 0, slots := 0, locals := 88 }) s m ([.ref (a_M 0), .int p1, .int p2] : List Value).toArray below meth c H locs 0 0 Q (F0 m 5 ls []) := by
  obtain ⟨hx, hb, hml, hown, ht⟩ := id S
  intro n
  induction n with
  | zero =>
    intro x3 x4 H locs ls h
    exact absurd h (by simp [lpX5_leftBy_5])
  | succ n ih =>
    intro x3 x4 H locs ls h hP hS hl
    rw [lpX5_leftBy_5] at h
    refine lv_iload hx hb dX5_leftBy_5 (lv_at hl 4 rfl) ?_
    refine lv_aload_n hx hb dX5_leftBy_7 rfl (lv_at hl 0 rfl) ?_
    refine va_get (D := D) (ci := 5) (v := .ref (a_M 2)) (C := RX5) (T := TX5) (N := 24) hx hb ht inX5 hown hK hP 0 rfl rfl 1 (by decide) (ht _ fl_X5_13) (fun _ h9 => h9) rfl dX5_leftBy_8 ?_
    refine lv_iconst (v := (0 : Int32)) hx hb dX5_leftBy_11 (by decide) ?_
    refine va_iald hx hb hK hP 2 0 rfl rfl (by unfold vp_in; decide) dX5_leftBy_12 ?_
    refine zti (y := M_setting 0) (by rfl) ?_
    refine lv_icmp_ge (tgt := 60) hx hb dX5_leftBy_13 (by decide) (fun z => ?_) (fun z => ?_)
    · replace h := h.1 z
      exact hKK x3 x4 _ _ _ h hP hS (lv_sub hl [3] rfl)
    · replace h := h.2 z
      refine lv_iload_n hx hb dX5_leftBy_16 rfl (lv_at hl 3 rfl) ?_
      refine lv_aload_n hx hb dX5_leftBy_17 rfl (lv_at hl 0 rfl) ?_
      refine va_get (D := D) (ci := 5) (v := .ref (a_M 6)) (C := RX5) (T := TX5) (N := 24) hx hb ht inX5 hown hK hP 0 rfl rfl 5 (by decide) (ht _ fl_X5_25) (fun _ h9 => h9) rfl dX5_leftBy_18 ?_
      refine lv_iload hx hb dX5_leftBy_21 (lv_at hl 4 rfl) ?_
      obtain ⟨hin, h⟩ := h
      refine va_iald hx hb hK hP 6 0 rfl rfl hin dX5_leftBy_23 ?_
      refine lv_if_le (tgt := 51) hx hb dX5_leftBy_24 (by decide) (fun z => ?_) (fun z => ?_)
      · replace h := h.1 z
        refine lv_iconst (v := (0 : Int32)) hx hb dX5_leftBy_51 (by decide) ?_
        refine lv_iadd hx hb dX5_leftBy_52 ?_
        refine lv_istore_n (lv' := [(3, .int (x3 + (0 : Int32))), (0, .ref (a_M 0)), (1, .int x1), (2, .int x2), (4, .int x4)]) hx hb dX5_leftBy_53 rfl hl (by decide) rfl (fun ls hl => ?_)
        refine lv_iinc (v := x4 + (1 : Int32)) (lv' := [(4, .int (x4 + (1 : Int32))), (3, .int (x3 + (0 : Int32))), (0, .ref (a_M 0)), (1, .int x1), (2, .int x2)]) hx hb dX5_leftBy_54 hl (k := 4) rfl (by rfl) (by decide) rfl (fun ls hl => ?_)
        refine lv_goto (tgt := 5) hx hb dX5_leftBy_57 (by decide) ?_
        exact ih (x3 + (0 : Int32)) (x4 + (1 : Int32)) _ _ _ h hP hS (lv_sub hl [2, 3, 4, 1, 0] rfl)
      · replace h := h.2 z
        refine lv_aload_n hx hb dX5_leftBy_27 rfl (lv_at hl 0 rfl) ?_
        refine lv_iload_n hx hb dX5_leftBy_28 rfl (lv_at hl 1 rfl) ?_
        refine lv_iload hx hb dX5_leftBy_29 (lv_at hl 4 rfl) ?_
        refine zci hA (hDD _ rfl) hS (zrunV (As := [.int x1, .int x4]) (rest := [.int x3]) S hK hA hE hP (hDD _ rfl) hS (mX5_isWood l D cI cJ cC G a_M _ M_pipes M_used M_taped M_at M_statements M_hasImage M_isKeeping M_cursor M_nextAt M_nextMost M_rowMany M_refused M_setting M_hole M_pipeAt M_chance M_weight M_tape M_letter M_letterAt M_told M_kept M_then M_row x1 x4 _ h) kX5_isWood ml_X5_171 ⟨rfl, rfl, by decide, by decide⟩ (q0 := 0) (ci := 5) rfl rfl rfl rfl hl.1 rfl (Nat.le_of_ble_eq_true rfl) dX5_leftBy_31 ⟨Nat.zero_le _, Nat.zero_le _⟩) (fun r_1 u H locs h hP1 hk1 hS => ?_)
        try dsimp only at h
        have hP : va_P D vwCl ((bX5 cI cJ cC a_M M_pipes M_used M_taped M_at M_statements M_hasImage M_isKeeping M_cursor M_nextAt M_nextMost M_rowMany M_refused M_setting M_hole M_pipeAt M_chance M_weight M_tape M_letter M_letterAt M_told M_kept M_then M_row)) H := hP1
        refine lv_iload_n hx hb dX5_leftBy_34 rfl (lv_at hl 2 rfl) ?_
        refine lv_iconst (v := (1 : Int32)) hx hb dX5_leftBy_35 (by decide) ?_
        refine lv_icmp_ne (tgt := 43) hx hb dX5_leftBy_36 (by decide) (fun z => ?_) (fun z => ?_)
        · replace h := h.2 z
          refine lv_iconst (v := (0 : Int32)) hx hb dX5_leftBy_43 (by decide) ?_
          refine lv_icmp_ne (tgt := 51) hx hb dX5_leftBy_44 (by decide) (fun z => ?_) (fun z => ?_)
          · replace h := h.2 z
            refine lv_iconst (v := (0 : Int32)) hx hb dX5_leftBy_51 (by decide) ?_
            refine lv_iadd hx hb dX5_leftBy_52 ?_
            refine lv_istore_n (lv' := [(3, .int (x3 + (0 : Int32))), (0, .ref (a_M 0)), (1, .int x1), (2, .int x2), (4, .int x4)]) hx hb dX5_leftBy_53 rfl hl (by decide) rfl (fun ls hl => ?_)
            refine lv_iinc (v := x4 + (1 : Int32)) (lv' := [(4, .int (x4 + (1 : Int32))), (3, .int (x3 + (0 : Int32))), (0, .ref (a_M 0)), (1, .int x1), (2, .int x2)]) hx hb dX5_leftBy_54 hl (k := 4) rfl (by rfl) (by decide) rfl (fun ls hl => ?_)
            refine lv_goto (tgt := 5) hx hb dX5_leftBy_57 (by decide) ?_
            exact ih (x3 + (0 : Int32)) (x4 + (1 : Int32)) _ _ _ h hP hS (lv_sub hl [2, 3, 4, 1, 0] rfl)
          · replace h := h.1 z
            refine lv_iconst (v := (1 : Int32)) hx hb dX5_leftBy_47 (by decide) ?_
            refine lv_goto (tgt := 52) hx hb dX5_leftBy_48 (by decide) ?_
            refine lv_iadd hx hb dX5_leftBy_52 ?_
            refine lv_istore_n (lv' := [(3, .int (x3 + (1 : Int32))), (0, .ref (a_M 0)), (1, .int x1), (2, .int x2), (4, .int x4)]) hx hb dX5_leftBy_53 rfl hl (by decide) rfl (fun ls hl => ?_)
            refine lv_iinc (v := x4 + (1 : Int32)) (lv' := [(4, .int (x4 + (1 : Int32))), (3, .int (x3 + (1 : Int32))), (0, .ref (a_M 0)), (1, .int x1), (2, .int x2)]) hx hb dX5_leftBy_54 hl (k := 4) rfl (by rfl) (by decide) rfl (fun ls hl => ?_)
            refine lv_goto (tgt := 5) hx hb dX5_leftBy_57 (by decide) ?_
            exact ih (x3 + (1 : Int32)) (x4 + (1 : Int32)) _ _ _ h hP hS (lv_sub hl [2, 3, 4, 1, 0] rfl)
        · replace h := h.1 z
          refine lv_iconst (v := (1 : Int32)) hx hb dX5_leftBy_39 (by decide) ?_
          refine lv_goto (tgt := 44) hx hb dX5_leftBy_40 (by decide) ?_
          refine lv_icmp_ne (tgt := 51) hx hb dX5_leftBy_44 (by decide) (fun z => ?_) (fun z => ?_)
          · replace h := h.2 z
            refine lv_iconst (v := (0 : Int32)) hx hb dX5_leftBy_51 (by decide) ?_
            refine lv_iadd hx hb dX5_leftBy_52 ?_
            refine lv_istore_n (lv' := [(3, .int (x3 + (0 : Int32))), (0, .ref (a_M 0)), (1, .int x1), (2, .int x2), (4, .int x4)]) hx hb dX5_leftBy_53 rfl hl (by decide) rfl (fun ls hl => ?_)
            refine lv_iinc (v := x4 + (1 : Int32)) (lv' := [(4, .int (x4 + (1 : Int32))), (3, .int (x3 + (0 : Int32))), (0, .ref (a_M 0)), (1, .int x1), (2, .int x2)]) hx hb dX5_leftBy_54 hl (k := 4) rfl (by rfl) (by decide) rfl (fun ls hl => ?_)
            refine lv_goto (tgt := 5) hx hb dX5_leftBy_57 (by decide) ?_
            exact ih (x3 + (0 : Int32)) (x4 + (1 : Int32)) _ _ _ h hP hS (lv_sub hl [2, 3, 4, 1, 0] rfl)
          · replace h := h.1 z
            refine lv_iconst (v := (1 : Int32)) hx hb dX5_leftBy_47 (by decide) ?_
            refine lv_goto (tgt := 52) hx hb dX5_leftBy_48 (by decide) ?_
            refine lv_iadd hx hb dX5_leftBy_52 ?_
            refine lv_istore_n (lv' := [(3, .int (x3 + (1 : Int32))), (0, .ref (a_M 0)), (1, .int x1), (2, .int x2), (4, .int x4)]) hx hb dX5_leftBy_53 rfl hl (by decide) rfl (fun ls hl => ?_)
            refine lv_iinc (v := x4 + (1 : Int32)) (lv' := [(4, .int (x4 + (1 : Int32))), (3, .int (x3 + (1 : Int32))), (0, .ref (a_M 0)), (1, .int x1), (2, .int x2)]) hx hb dX5_leftBy_54 hl (k := 4) rfl (by rfl) (by decide) rfl (fun ls hl => ?_)
            refine lv_goto (tgt := 5) hx hb dX5_leftBy_57 (by decide) ?_
            exact ih (x3 + (1 : Int32)) (x4 + (1 : Int32)) _ _ _ h hP hS (lv_sub hl [2, 3, 4, 1, 0] rfl)
def wpX5_leftBy (post : Int32 → Prop) (M_setting : Nat → Int32) (M_weight : Nat → Int32) (p1 : Int32) (p2 : Int32) : Prop := ∃ n_2 : Nat, lpX5_leftBy_5 (fun (x3_3 : Int32) (x4_4 : Int32) => post x3_3) p1 p2 M_setting M_weight n_2 (0 : Int32) (0 : Int32)
set_option maxHeartbeats 4000000 in
set_option maxRecDepth 100000 in
theorem mX5_leftBy (l : Launch) (D : va_G) (cI cJ cC : ClassId) (G : Nat → Nat → Nat) (a_M : Nat → Nat) (sz : Nat) (M_pipes : Int32) (M_used : Int32) (M_taped : Int32) (M_at : Int32) (M_statements : Int32) (M_hasImage : Int32) (M_isKeeping : Int32) (M_cursor : Int32) (M_nextAt : Int32) (M_nextMost : Int64) (M_rowMany : Int32) (M_refused : Nat → Int32) (M_setting : Nat → Int32) (M_hole : Nat → Int32) (M_pipeAt : Nat → Int32) (M_chance : Nat → Int32) (M_weight : Nat → Int32) (M_tape : Nat → Int32) (M_letter : Nat → Int32) (M_letterAt : Nat → Int32) (M_told : Nat → Int32) (M_kept : Nat → Int32) (M_then : Nat → Int64) (M_row : Nat → Int32) (p1 : Int32) (p2 : Int32) (post : Int32 → Prop) (h : wpX5_leftBy post M_setting M_weight p1 p2) : Met l yX5_leftBy (wz yX5_leftBy cX5_leftBy 5 (some .int)) ({ frames := 4, cells := 0, slots := 0, locals := 88 }) (va_Pc [.ref (a_M 0), .int p1, .int p2] (PW D (tz cI cJ cC) G ((bX5 cI cJ cC a_M M_pipes M_used M_taped M_at M_statements M_hasImage M_isKeeping M_cursor M_nextAt M_nextMost M_rowMany M_refused M_setting M_hole M_pipeAt M_chance M_weight M_tape M_letter M_letterAt M_told M_kept M_then M_row)) sz)) (va_Qi (fun (r : Int32) (u : Unit) => post r ) (fun (u : Unit) t => va_P D vwCl ((bX5 cI cJ cC a_M M_pipes M_used M_taped M_at M_statements M_hasImage M_isKeeping M_cursor M_nextAt M_nextMost M_rowMany M_refused M_setting M_hole M_pipeAt M_chance M_weight M_tape M_letter M_letterAt M_told M_kept M_then M_row)) t.heap) (va_A ((bX5 cI cJ cC a_M M_pipes M_used M_taped M_at M_statements M_hasImage M_isKeeping M_cursor M_nextAt M_nextMost M_rowMany M_refused M_setting M_hole M_pipeAt M_chance M_weight M_tape M_letter M_letterAt M_told M_kept M_then M_row)) sz)) 0 0 (va_A ((bX5 cI cJ cC a_M M_pipes M_used M_taped M_at M_statements M_hasImage M_isKeeping M_cursor M_nextAt M_nextMost M_rowMany M_refused M_setting M_hole M_pipeAt M_chance M_weight M_tape M_letter M_letterAt M_told M_kept M_then M_row)) sz) := by
  refine zmi (gw := fun (u : Unit) => (bX5 cI cJ cC a_M M_pipes M_used M_taped M_at M_statements M_hasImage M_isKeeping M_cursor M_nextAt M_nextMost M_rowMany M_refused M_setting M_hole M_pipeAt M_chance M_weight M_tape M_letter M_letterAt M_told M_kept M_then M_row)) (plainFor_of_name (by decide)) (Nat.le_of_ble_eq_true rfl) ?_
  intro p e s m below meth c A Q ls S hK hD hA hE hP hl hret
  obtain ⟨hx, hb, hml, hown, ht⟩ := id S
  have hS : va_S A s.heap s.heap [] := va_S.rf
  have hDD : ∀ ws : va_W, ws.map (fun q => q.1) = [a_M 0, a_M 1, a_M 2, a_M 3, a_M 4, a_M 5, a_M 6, a_M 7, a_M 8, a_M 9, a_M 10, a_M 11, a_M 12, a_M 13] → va_D A ws := fun ws hw => zD hD (hw.trans rfl)
  have hl : lv_has ls 5 [(0, .ref (a_M 0)), (1, .int p1), (2, .int p2)] := hl
  unfold wpX5_leftBy at h
  refine lv_iconst (v := (0 : Int32)) hx hb dX5_leftBy_0 (by decide) ?_
  refine lv_istore_n (lv' := [(3, .int (0 : Int32)), (0, .ref (a_M 0)), (1, .int p1), (2, .int p2)]) hx hb dX5_leftBy_1 rfl hl (by decide) rfl (fun ls hl => ?_)
  refine lv_iconst (v := (0 : Int32)) hx hb dX5_leftBy_2 (by decide) ?_
  refine lv_istore (lv' := [(4, .int (0 : Int32)), (3, .int (0 : Int32)), (0, .ref (a_M 0)), (1, .int p1), (2, .int p2)]) hx hb dX5_leftBy_3 hl (by decide) rfl (fun ls hl => ?_)
  obtain ⟨n_2, h⟩ := h
  refine wX5_leftBy_5 l D cI cJ cC G a_M p1 p2 p1 p2 M_pipes M_used M_taped M_at M_statements M_hasImage M_isKeeping M_cursor M_nextAt M_nextMost M_rowMany M_refused M_setting M_hole M_pipeAt M_chance M_weight M_tape M_letter M_letterAt M_told M_kept M_then M_row _ S hK hDD hA hE (fun x3_3 x4_4 H locs ls h hP hS hl => ?_) n_2 (0 : Int32) (0 : Int32) _ _ _ h hP hS (lv_sub hl [2, 3, 4, 1, 0] rfl)
  try dsimp only at h
  refine lv_iload_n hx hb dX5_leftBy_60 rfl (lv_at hl 0 rfl) ?_
  exact hret x3_3 () _ _ _ _ rfl h hP hS dX5_leftBy_61
def lpX5_leaves_2 (K : Int32 → (Nat → Int32) → Prop) (x1 : Int32) (x2 : Int32) (M_setting : Nat → Int32) : Nat → Int32 → (Nat → Int32) → Prop
  | 0, _, _ => False
  | n + 1, x3, M_weight => (((M_setting 0) ≤ x3 → (K x3 M_weight)) ∧ (¬ ((M_setting 0) ≤ x3) → (wpX5_isWood (fun (r_1 : Int32) => ((x2 = (1 : Int32) → (((r_1 = (1 : Int32) → (vp_in x3 24 ∧ (vp_in x3 24 ∧ (lpX5_leaves_2 K x1 x2 M_setting n (x3 + (1 : Int32)) (upd M_weight x3.toNatClampNeg (M_weight x3.toNatClampNeg)))))) ∧ (¬ (r_1 = (1 : Int32)) → (vp_in x3 24 ∧ (lpX5_leaves_2 K x1 x2 M_setting n (x3 + (1 : Int32)) (upd M_weight x3.toNatClampNeg (0 : Int32)))))))) ∧ (¬ (x2 = (1 : Int32)) → (((r_1 = (0 : Int32) → (vp_in x3 24 ∧ (vp_in x3 24 ∧ (lpX5_leaves_2 K x1 x2 M_setting n (x3 + (1 : Int32)) (upd M_weight x3.toNatClampNeg (M_weight x3.toNatClampNeg)))))) ∧ (¬ (r_1 = (0 : Int32)) → (vp_in x3 24 ∧ (lpX5_leaves_2 K x1 x2 M_setting n (x3 + (1 : Int32)) (upd M_weight x3.toNatClampNeg (0 : Int32)))))))))) M_setting x1 x3)))
set_option maxHeartbeats 4000000 in
set_option maxRecDepth 100000 in
theorem wX5_leaves_2 (l : Launch) (D : va_G) (cI cJ cC : ClassId) (G : Nat → Nat → Nat) (a_M : Nat → Nat) {p : Program} {e : Env} {s : State} {m : MethodId} {below : List Frame} {meth : Method} {c : Code} {A : Nat → Prop} {Q : State → Prop} (p1 : Int32) (p2 : Int32) (x1 : Int32) (x2 : Int32) (M_pipes : Int32) (M_used : Int32) (M_taped : Int32) (M_at : Int32) (M_statements : Int32) (M_hasImage : Int32) (M_isKeeping : Int32) (M_cursor : Int32) (M_nextAt : Int32) (M_nextMost : Int64) (M_rowMany : Int32) (M_refused : Nat → Int32) (M_setting : Nat → Int32) (M_hole : Nat → Int32) (M_pipeAt : Nat → Int32) (M_chance : Nat → Int32) (M_tape : Nat → Int32) (M_letter : Nat → Int32) (M_letterAt : Nat → Int32) (M_told : Nat → Int32) (M_kept : Nat → Int32) (M_then : Nat → Int64) (M_row : Nat → Int32) (K : Int32 → (Nat → Int32) → Prop) (S : CallFix p m c cX5_leaves 4 s ([.ref (a_M 0), .int p1, .int p2] : List Value).toArray bg RX5) (hK : va_K D vwCl (tz cI cJ cC) s) (hDD : ∀ ws : va_W, ws.map (fun q => q.1) = [a_M 0, a_M 1, a_M 2, a_M 3, a_M 4, a_M 5, a_M 6, a_M 7, a_M 8, a_M 9, a_M 10, a_M 11, a_M 12, a_M 13] → va_D A ws) (hA : ∀ q, s.heap.size ≤ q → A q) (hE : EV G A s) (hKK : ∀ (x3 : Int32) (M_weight : Nat → Int32) (H : Heap) (locs : List Loc) (ls : Array Slot), K x3 M_weight → va_P D vwCl ((bX5 cI cJ cC a_M M_pipes M_used M_taped M_at M_statements M_hasImage M_isKeeping M_cursor M_nextAt M_nextMost M_rowMany M_refused M_setting M_hole M_pipeAt M_chance M_weight M_tape M_letter M_letterAt M_told M_kept M_then M_row)) H → va_S A s.heap H locs → lv_has ls 4 [] → W p l e ({ frames := 4, cells := 0, slots := 0, locals := 88 }) s m ([.ref (a_M 0), .int p1, .int p2] : List Value).toArray below meth c H locs 0 0 Q (F0 m 53 ls [])) :
    ∀ (n : Nat) (x3 : Int32) (M_weight : Nat → Int32) (H : Heap) (locs : List Loc) (ls : Array Slot), lpX5_leaves_2 K x1 x2 M_setting n x3 M_weight → va_P D vwCl ((bX5 cI cJ cC a_M M_pipes M_used M_taped M_at M_statements M_hasImage M_isKeeping M_cursor M_nextAt M_nextMost M_rowMany M_refused M_setting M_hole M_pipeAt M_chance M_weight M_tape M_letter M_letterAt M_told M_kept M_then M_row)) H → va_S A s.heap H locs → lv_has ls 4 [(0, .ref (a_M 0)), (1, .int x1), (2, .int x2), (3, .int x3)] → W p l e ({ frames := 4, cells := 0, slots := 0, locals := 88 }) s m ([.ref (a_M 0), .int p1, .int p2] : List Value).toArray below meth c H locs 0 0 Q (F0 m 2 ls []) := by
  obtain ⟨hx, hb, hml, hown, ht⟩ := id S
  intro n
  induction n with
  | zero =>
    intro x3 M_weight H locs ls h
    exact absurd h (by simp [lpX5_leaves_2])
  | succ n ih =>
    intro x3 M_weight H locs ls h hP hS hl
    rw [lpX5_leaves_2] at h
    refine lv_iload_n hx hb dX5_leaves_2 rfl (lv_at hl 3 rfl) ?_
    refine lv_aload_n hx hb dX5_leaves_3 rfl (lv_at hl 0 rfl) ?_
    refine va_get (D := D) (ci := 5) (v := .ref (a_M 2)) (C := RX5) (T := TX5) (N := 24) hx hb ht inX5 hown hK hP 0 rfl rfl 1 (by decide) (ht _ fl_X5_13) (fun _ h9 => h9) rfl dX5_leaves_4 ?_
    refine lv_iconst (v := (0 : Int32)) hx hb dX5_leaves_7 (by decide) ?_
    refine va_iald hx hb hK hP 2 0 rfl rfl (by unfold vp_in; decide) dX5_leaves_8 ?_
    refine zti (y := M_setting 0) (by rfl) ?_
    refine lv_icmp_ge (tgt := 53) hx hb dX5_leaves_9 (by decide) (fun z => ?_) (fun z => ?_)
    · replace h := h.1 z
      exact hKK x3 M_weight _ _ _ h hP hS (lv_sub hl [] rfl)
    · replace h := h.2 z
      refine lv_aload_n hx hb dX5_leaves_12 rfl (lv_at hl 0 rfl) ?_
      refine va_get (D := D) (ci := 5) (v := .ref (a_M 6)) (C := RX5) (T := TX5) (N := 24) hx hb ht inX5 hown hK hP 0 rfl rfl 5 (by decide) (ht _ fl_X5_25) (fun _ h9 => h9) rfl dX5_leaves_13 ?_
      refine lv_iload_n hx hb dX5_leaves_16 rfl (lv_at hl 3 rfl) ?_
      refine lv_aload_n hx hb dX5_leaves_17 rfl (lv_at hl 0 rfl) ?_
      refine lv_iload_n hx hb dX5_leaves_18 rfl (lv_at hl 1 rfl) ?_
      refine lv_iload_n hx hb dX5_leaves_19 rfl (lv_at hl 3 rfl) ?_
      refine zci hA (hDD _ rfl) hS (zrunV (As := [.int x1, .int x3]) (rest := [.int x3, .ref (a_M 6)]) S hK hA hE hP (hDD _ rfl) hS (mX5_isWood l D cI cJ cC G a_M _ M_pipes M_used M_taped M_at M_statements M_hasImage M_isKeeping M_cursor M_nextAt M_nextMost M_rowMany M_refused M_setting M_hole M_pipeAt M_chance M_weight M_tape M_letter M_letterAt M_told M_kept M_then M_row x1 x3 _ h) kX5_isWood ml_X5_171 ⟨rfl, rfl, by decide, by decide⟩ (q0 := 0) (ci := 5) rfl rfl rfl rfl hl.1 rfl (Nat.le_of_ble_eq_true rfl) dX5_leaves_20 ⟨Nat.zero_le _, Nat.zero_le _⟩) (fun r_1 u H locs h hP1 hk1 hS => ?_)
      try dsimp only at h
      have hP : va_P D vwCl ((bX5 cI cJ cC a_M M_pipes M_used M_taped M_at M_statements M_hasImage M_isKeeping M_cursor M_nextAt M_nextMost M_rowMany M_refused M_setting M_hole M_pipeAt M_chance M_weight M_tape M_letter M_letterAt M_told M_kept M_then M_row)) H := hP1
      refine lv_iload_n hx hb dX5_leaves_23 rfl (lv_at hl 2 rfl) ?_
      refine lv_iconst (v := (1 : Int32)) hx hb dX5_leaves_24 (by decide) ?_
      refine lv_icmp_ne (tgt := 32) hx hb dX5_leaves_25 (by decide) (fun z => ?_) (fun z => ?_)
      · replace h := h.2 z
        refine lv_iconst (v := (0 : Int32)) hx hb dX5_leaves_32 (by decide) ?_
        refine lv_icmp_ne (tgt := 45) hx hb dX5_leaves_33 (by decide) (fun z => ?_) (fun z => ?_)
        · replace h := h.2 z
          refine lv_iconst (v := (0 : Int32)) hx hb dX5_leaves_45 (by decide) ?_
          obtain ⟨hin, h⟩ := h
          refine va_iast hx hb hK hP (hDD _ rfl) hS 6 0 rfl rfl hin dX5_leaves_46 (fun H locs hP _ hS => ?_)
          have hP : va_P D vwCl ((bX5 cI cJ cC a_M M_pipes M_used M_taped M_at M_statements M_hasImage M_isKeeping M_cursor M_nextAt M_nextMost M_rowMany M_refused M_setting M_hole M_pipeAt M_chance (upd M_weight x3.toNatClampNeg (0 : Int32)) M_tape M_letter M_letterAt M_told M_kept M_then M_row)) H := hP
          refine lv_iinc (v := x3 + (1 : Int32)) (lv' := [(3, .int (x3 + (1 : Int32))), (0, .ref (a_M 0)), (1, .int x1), (2, .int x2)]) hx hb dX5_leaves_47 hl (k := 3) rfl (by rfl) (by decide) rfl (fun ls hl => ?_)
          refine lv_goto (tgt := 2) hx hb dX5_leaves_50 (by decide) ?_
          exact ih (x3 + (1 : Int32)) (upd M_weight x3.toNatClampNeg (0 : Int32)) _ _ _ h hP hS (lv_sub hl [1, 2, 3, 0] rfl)
        · replace h := h.1 z
          refine lv_aload_n hx hb dX5_leaves_36 rfl (lv_at hl 0 rfl) ?_
          refine va_get (D := D) (ci := 5) (v := .ref (a_M 6)) (C := RX5) (T := TX5) (N := 24) hx hb ht inX5 hown hK hP 0 rfl rfl 5 (by decide) (ht _ fl_X5_25) (fun _ h9 => h9) rfl dX5_leaves_37 ?_
          refine lv_iload_n hx hb dX5_leaves_40 rfl (lv_at hl 3 rfl) ?_
          obtain ⟨hin, h⟩ := h
          refine va_iald hx hb hK hP 6 0 rfl rfl hin dX5_leaves_41 ?_
          refine lv_goto (tgt := 46) hx hb dX5_leaves_42 (by decide) ?_
          obtain ⟨hin, h⟩ := h
          refine va_iast hx hb hK hP (hDD _ rfl) hS 6 0 rfl rfl hin dX5_leaves_46 (fun H locs hP _ hS => ?_)
          have hP : va_P D vwCl ((bX5 cI cJ cC a_M M_pipes M_used M_taped M_at M_statements M_hasImage M_isKeeping M_cursor M_nextAt M_nextMost M_rowMany M_refused M_setting M_hole M_pipeAt M_chance (upd M_weight x3.toNatClampNeg (M_weight x3.toNatClampNeg)) M_tape M_letter M_letterAt M_told M_kept M_then M_row)) H := hP
          refine lv_iinc (v := x3 + (1 : Int32)) (lv' := [(3, .int (x3 + (1 : Int32))), (0, .ref (a_M 0)), (1, .int x1), (2, .int x2)]) hx hb dX5_leaves_47 hl (k := 3) rfl (by rfl) (by decide) rfl (fun ls hl => ?_)
          refine lv_goto (tgt := 2) hx hb dX5_leaves_50 (by decide) ?_
          exact ih (x3 + (1 : Int32)) (upd M_weight x3.toNatClampNeg (M_weight x3.toNatClampNeg)) _ _ _ h hP hS (lv_sub hl [1, 2, 3, 0] rfl)
      · replace h := h.1 z
        refine lv_iconst (v := (1 : Int32)) hx hb dX5_leaves_28 (by decide) ?_
        refine lv_goto (tgt := 33) hx hb dX5_leaves_29 (by decide) ?_
        refine lv_icmp_ne (tgt := 45) hx hb dX5_leaves_33 (by decide) (fun z => ?_) (fun z => ?_)
        · replace h := h.2 z
          refine lv_iconst (v := (0 : Int32)) hx hb dX5_leaves_45 (by decide) ?_
          obtain ⟨hin, h⟩ := h
          refine va_iast hx hb hK hP (hDD _ rfl) hS 6 0 rfl rfl hin dX5_leaves_46 (fun H locs hP _ hS => ?_)
          have hP : va_P D vwCl ((bX5 cI cJ cC a_M M_pipes M_used M_taped M_at M_statements M_hasImage M_isKeeping M_cursor M_nextAt M_nextMost M_rowMany M_refused M_setting M_hole M_pipeAt M_chance (upd M_weight x3.toNatClampNeg (0 : Int32)) M_tape M_letter M_letterAt M_told M_kept M_then M_row)) H := hP
          refine lv_iinc (v := x3 + (1 : Int32)) (lv' := [(3, .int (x3 + (1 : Int32))), (0, .ref (a_M 0)), (1, .int x1), (2, .int x2)]) hx hb dX5_leaves_47 hl (k := 3) rfl (by rfl) (by decide) rfl (fun ls hl => ?_)
          refine lv_goto (tgt := 2) hx hb dX5_leaves_50 (by decide) ?_
          exact ih (x3 + (1 : Int32)) (upd M_weight x3.toNatClampNeg (0 : Int32)) _ _ _ h hP hS (lv_sub hl [1, 2, 3, 0] rfl)
        · replace h := h.1 z
          refine lv_aload_n hx hb dX5_leaves_36 rfl (lv_at hl 0 rfl) ?_
          refine va_get (D := D) (ci := 5) (v := .ref (a_M 6)) (C := RX5) (T := TX5) (N := 24) hx hb ht inX5 hown hK hP 0 rfl rfl 5 (by decide) (ht _ fl_X5_25) (fun _ h9 => h9) rfl dX5_leaves_37 ?_
          refine lv_iload_n hx hb dX5_leaves_40 rfl (lv_at hl 3 rfl) ?_
          obtain ⟨hin, h⟩ := h
          refine va_iald hx hb hK hP 6 0 rfl rfl hin dX5_leaves_41 ?_
          refine lv_goto (tgt := 46) hx hb dX5_leaves_42 (by decide) ?_
          obtain ⟨hin, h⟩ := h
          refine va_iast hx hb hK hP (hDD _ rfl) hS 6 0 rfl rfl hin dX5_leaves_46 (fun H locs hP _ hS => ?_)
          have hP : va_P D vwCl ((bX5 cI cJ cC a_M M_pipes M_used M_taped M_at M_statements M_hasImage M_isKeeping M_cursor M_nextAt M_nextMost M_rowMany M_refused M_setting M_hole M_pipeAt M_chance (upd M_weight x3.toNatClampNeg (M_weight x3.toNatClampNeg)) M_tape M_letter M_letterAt M_told M_kept M_then M_row)) H := hP
          refine lv_iinc (v := x3 + (1 : Int32)) (lv' := [(3, .int (x3 + (1 : Int32))), (0, .ref (a_M 0)), (1, .int x1), (2, .int x2)]) hx hb dX5_leaves_47 hl (k := 3) rfl (by rfl) (by decide) rfl (fun ls hl => ?_)
          refine lv_goto (tgt := 2) hx hb dX5_leaves_50 (by decide) ?_
          exact ih (x3 + (1 : Int32)) (upd M_weight x3.toNatClampNeg (M_weight x3.toNatClampNeg)) _ _ _ h hP hS (lv_sub hl [1, 2, 3, 0] rfl)
def wpX5_leaves (post : (Nat → Int32) → Prop) (M_setting : Nat → Int32) (M_weight : Nat → Int32) (p1 : Int32) (p2 : Int32) : Prop := ∃ n_2 : Nat, lpX5_leaves_2 (fun (x3_3 : Int32) (M_weight_4 : Nat → Int32) => post M_weight_4) p1 p2 M_setting n_2 (0 : Int32) M_weight
set_option maxHeartbeats 4000000 in
set_option maxRecDepth 100000 in
theorem mX5_leaves (l : Launch) (D : va_G) (cI cJ cC : ClassId) (G : Nat → Nat → Nat) (a_M : Nat → Nat) (sz : Nat) (M_pipes : Int32) (M_used : Int32) (M_taped : Int32) (M_at : Int32) (M_statements : Int32) (M_hasImage : Int32) (M_isKeeping : Int32) (M_cursor : Int32) (M_nextAt : Int32) (M_nextMost : Int64) (M_rowMany : Int32) (M_refused : Nat → Int32) (M_setting : Nat → Int32) (M_hole : Nat → Int32) (M_pipeAt : Nat → Int32) (M_chance : Nat → Int32) (M_weight : Nat → Int32) (M_tape : Nat → Int32) (M_letter : Nat → Int32) (M_letterAt : Nat → Int32) (M_told : Nat → Int32) (M_kept : Nat → Int32) (M_then : Nat → Int64) (M_row : Nat → Int32) (p1 : Int32) (p2 : Int32) (post : (Nat → Int32) → Prop) (h : wpX5_leaves post M_setting M_weight p1 p2) : Met l yX5_leaves (wz yX5_leaves cX5_leaves 4 none) ({ frames := 4, cells := 0, slots := 0, locals := 88 }) (va_Pc [.ref (a_M 0), .int p1, .int p2] (PW D (tz cI cJ cC) G ((bX5 cI cJ cC a_M M_pipes M_used M_taped M_at M_statements M_hasImage M_isKeeping M_cursor M_nextAt M_nextMost M_rowMany M_refused M_setting M_hole M_pipeAt M_chance M_weight M_tape M_letter M_letterAt M_told M_kept M_then M_row)) sz)) (va_Qv (fun (u : (Nat → Int32)) => post u) (fun (u : (Nat → Int32)) t => va_P D vwCl ((bX5 cI cJ cC a_M M_pipes M_used M_taped M_at M_statements M_hasImage M_isKeeping M_cursor M_nextAt M_nextMost M_rowMany M_refused M_setting M_hole M_pipeAt M_chance u M_tape M_letter M_letterAt M_told M_kept M_then M_row)) t.heap) (va_A ((bX5 cI cJ cC a_M M_pipes M_used M_taped M_at M_statements M_hasImage M_isKeeping M_cursor M_nextAt M_nextMost M_rowMany M_refused M_setting M_hole M_pipeAt M_chance M_weight M_tape M_letter M_letterAt M_told M_kept M_then M_row)) sz)) 0 0 (va_A ((bX5 cI cJ cC a_M M_pipes M_used M_taped M_at M_statements M_hasImage M_isKeeping M_cursor M_nextAt M_nextMost M_rowMany M_refused M_setting M_hole M_pipeAt M_chance M_weight M_tape M_letter M_letterAt M_told M_kept M_then M_row)) sz) := by
  refine zmv (gw := fun (u : (Nat → Int32)) => (bX5 cI cJ cC a_M M_pipes M_used M_taped M_at M_statements M_hasImage M_isKeeping M_cursor M_nextAt M_nextMost M_rowMany M_refused M_setting M_hole M_pipeAt M_chance u M_tape M_letter M_letterAt M_told M_kept M_then M_row)) (plainFor_of_name (by decide)) (Nat.le_of_ble_eq_true rfl) ?_
  intro p e s m below meth c A Q ls S hK hD hA hE hP hl hret
  obtain ⟨hx, hb, hml, hown, ht⟩ := id S
  have hS : va_S A s.heap s.heap [] := va_S.rf
  have hDD : ∀ ws : va_W, ws.map (fun q => q.1) = [a_M 0, a_M 1, a_M 2, a_M 3, a_M 4, a_M 5, a_M 6, a_M 7, a_M 8, a_M 9, a_M 10, a_M 11, a_M 12, a_M 13] → va_D A ws := fun ws hw => zD hD (hw.trans rfl)
  have hl : lv_has ls 4 [(0, .ref (a_M 0)), (1, .int p1), (2, .int p2)] := hl
  unfold wpX5_leaves at h
  refine lv_iconst (v := (0 : Int32)) hx hb dX5_leaves_0 (by decide) ?_
  refine lv_istore_n (lv' := [(3, .int (0 : Int32)), (0, .ref (a_M 0)), (1, .int p1), (2, .int p2)]) hx hb dX5_leaves_1 rfl hl (by decide) rfl (fun ls hl => ?_)
  obtain ⟨n_2, h⟩ := h
  refine wX5_leaves_2 l D cI cJ cC G a_M p1 p2 p1 p2 M_pipes M_used M_taped M_at M_statements M_hasImage M_isKeeping M_cursor M_nextAt M_nextMost M_rowMany M_refused M_setting M_hole M_pipeAt M_chance M_tape M_letter M_letterAt M_told M_kept M_then M_row _ S hK hDD hA hE (fun x3_3 M_weight_4 H locs ls h hP hS hl => ?_) n_2 (0 : Int32) M_weight _ _ _ h hP hS (lv_sub hl [1, 2, 3, 0] rfl)
  try dsimp only at h
  exact hret M_weight_4 _ _ _ _ h hP hS dX5_leaves_53
def lpX5_divisor_6 (K : Int64 → Int64 → Prop) : Nat → Int64 → Int64 → Prop
  | 0, _, _ => False
  | n + 1, x4, x6 => ((x6 = (0 : Int64) → (K x4 x6)) ∧ (¬ (x6 = (0 : Int64)) → (¬ x6 = 0 ∧ (lpX5_divisor_6 K n x6 (x4 - x4 / x6 * x6)))))
set_option maxHeartbeats 4000000 in
set_option maxRecDepth 100000 in
theorem wX5_divisor_6 (l : Launch) (D : va_G) (cI cJ cC : ClassId) (G : Nat → Nat → Nat) {p : Program} {e : Env} {s : State} {m : MethodId} {below : List Frame} {meth : Method} {c : Code} {A : Nat → Prop} {Q : State → Prop} (p0 : Int64) (p1 : Int64) (K : Int64 → Int64 → Prop) (S : CallFix p m c cX5_divisor 10 s ([.long p0, .long p1] : List Value).toArray bg RX5) (hK : va_K D vwCl (tz cI cJ cC) s) (hDD : ∀ ws : va_W, ws.map (fun q => q.1) = [] → va_D A ws) (hA : ∀ q, s.heap.size ≤ q → A q) (hE : EV G A s) (hKK : ∀ (x4 : Int64) (x6 : Int64) (H : Heap) (locs : List Loc) (ls : Array Slot), K x4 x6 → va_P D vwCl ([]) H → va_S A s.heap H locs → lv_has ls 10 [(4, .long x4)] → W p l e ({ frames := 0, cells := 0, slots := 0, locals := 0 }) s m ([.long p0, .long p1] : List Value).toArray below meth c H locs 0 0 Q (F0 m 31 ls [])) :
    ∀ (n : Nat) (x4 : Int64) (x6 : Int64) (H : Heap) (locs : List Loc) (ls : Array Slot), lpX5_divisor_6 K n x4 x6 → va_P D vwCl ([]) H → va_S A s.heap H locs → lv_has ls 10 [(4, .long x4), (6, .long x6)] → W p l e ({ frames := 0, cells := 0, slots := 0, locals := 0 }) s m ([.long p0, .long p1] : List Value).toArray below meth c H locs 0 0 Q (F0 m 6 ls []) := by
  obtain ⟨hx, hb, hml, hown, ht⟩ := id S
  intro n
  induction n with
  | zero =>
    intro x4 x6 H locs ls h
    exact absurd h (by simp [lpX5_divisor_6])
  | succ n ih =>
    intro x4 x6 H locs ls h hP hS hl
    rw [lpX5_divisor_6] at h
    refine lv_lload hx hb dX5_divisor_6 (lv_at hl 1 rfl) ?_
    refine lv_lconst (v := (0 : Int64)) hx hb dX5_divisor_8 (by decide) ?_
    refine W.lcmp hx hb dX5_divisor_9 ?_
    refine lv_if_eq (tgt := 31) hx hb dX5_divisor_10 (by decide) (fun z => ?_) (fun z => ?_)
    · replace h := h.1 (zl_eq.mp z)
      exact hKK x4 x6 _ _ _ h hP hS (lv_sub hl [0] rfl)
    · replace h := h.2 (fun q => z (zl_eq.mpr q))
      refine lv_lload hx hb dX5_divisor_13 (lv_at hl 0 rfl) ?_
      refine lv_lload hx hb dX5_divisor_15 (lv_at hl 1 rfl) ?_
      obtain ⟨hne, h⟩ := h
      refine lv_lrem hx hb dX5_divisor_17 hne ?_
      refine lv_lstore (lv' := [(8, .long (x4 - x4 / x6 * x6)), (4, .long x4), (6, .long x6)]) hx hb dX5_divisor_18 hl (by decide) rfl (fun ls hl => ?_)
      refine lv_lload hx hb dX5_divisor_20 (lv_at hl 2 rfl) ?_
      refine lv_lstore (lv' := [(4, .long x6), (8, .long (x4 - x4 / x6 * x6)), (6, .long x6)]) hx hb dX5_divisor_22 hl (by decide) rfl (fun ls hl => ?_)
      refine lv_lload hx hb dX5_divisor_24 (lv_at hl 1 rfl) ?_
      refine lv_lstore (lv' := [(6, .long (x4 - x4 / x6 * x6)), (4, .long x6), (8, .long (x4 - x4 / x6 * x6))]) hx hb dX5_divisor_26 hl (by decide) rfl (fun ls hl => ?_)
      refine lv_goto (tgt := 6) hx hb dX5_divisor_28 (by decide) ?_
      exact ih x6 (x4 - x4 / x6 * x6) _ _ _ h hP hS (lv_sub hl [1, 0] rfl)
def wpX5_divisor (post : Int64 → Prop) (p0 : Int64) (p1 : Int64) : Prop := ∃ n_1 : Nat, lpX5_divisor_6 (fun (x4_2 : Int64) (x6_3 : Int64) => post x4_2) n_1 p0 p1
set_option maxHeartbeats 4000000 in
set_option maxRecDepth 100000 in
theorem mX5_divisor (l : Launch) (D : va_G) (cI cJ cC : ClassId) (G : Nat → Nat → Nat) (sz : Nat) (p0 : Int64) (p1 : Int64) (post : Int64 → Prop) (h : wpX5_divisor post p0 p1) : Met l yX5_divisor (wz yX5_divisor cX5_divisor 10 (some .long)) ({ frames := 0, cells := 0, slots := 0, locals := 0 }) (va_Pc [.long p0, .long p1] (PW D (tz cI cJ cC) G ([]) sz)) (va_Ql (fun (r : Int64) (u : Unit) => post r ) (fun (u : Unit) t => va_P D vwCl ([]) t.heap) (va_A ([]) sz)) 0 0 (va_A ([]) sz) := by
  refine zml (gw := fun (u : Unit) => []) (plainFor_of_name (by decide)) (Nat.le_of_ble_eq_true rfl) ?_
  intro p e s m below meth c A Q ls S hK hD hA hE hP hl hret
  obtain ⟨hx, hb, hml, hown, ht⟩ := id S
  have hS : va_S A s.heap s.heap [] := va_S.rf
  have hDD : ∀ ws : va_W, ws.map (fun q => q.1) = [] → va_D A ws := fun ws hw => zD hD (hw.trans rfl)
  have hl : lv_has ls 10 [(0, .long p0), (2, .long p1)] := hl
  unfold wpX5_divisor at h
  refine lv_lload_n hx hb dX5_divisor_0 rfl (lv_at hl 0 rfl) ?_
  refine lv_lstore (lv' := [(4, .long p0), (0, .long p0), (2, .long p1)]) hx hb dX5_divisor_1 hl (by decide) rfl (fun ls hl => ?_)
  refine lv_lload_n hx hb dX5_divisor_3 rfl (lv_at hl 2 rfl) ?_
  refine lv_lstore (lv' := [(6, .long p1), (4, .long p0), (0, .long p0), (2, .long p1)]) hx hb dX5_divisor_4 hl (by decide) rfl (fun ls hl => ?_)
  obtain ⟨n_1, h⟩ := h
  refine wX5_divisor_6 l D cI cJ cC G p0 p1 _ S hK hDD hA hE (fun x4_2 x6_3 H locs ls h hP hS hl => ?_) n_1 p0 p1 _ _ _ h hP hS (lv_sub hl [1, 0] rfl)
  try dsimp only at h
  refine lv_lload hx hb dX5_divisor_31 (lv_at hl 0 rfl) ?_
  exact hret x4_2 () _ _ _ _ h hP hS dX5_divisor_33
def lpX5_divides_4 (K : Int64 → Int32 → Prop) (M_setting : Nat → Int32) (M_weight : Nat → Int32) : Nat → Int64 → Int32 → Prop
  | 0, _, _ => False
  | n + 1, x1, x3 => (((M_setting 0) ≤ x3 → (K x1 x3)) ∧ (¬ ((M_setting 0) ≤ x3) → (vp_in x3 24 ∧ (wpX5_divisor (fun (r_1 : Int64) => lpX5_divides_4 K M_setting M_weight n r_1 (x3 + (1 : Int32))) x1 ((M_weight x3.toNatClampNeg).toInt64)))))
set_option maxHeartbeats 4000000 in
set_option maxRecDepth 100000 in
theorem wX5_divides_4 (l : Launch) (D : va_G) (cI cJ cC : ClassId) (G : Nat → Nat → Nat) (a_M : Nat → Nat) {p : Program} {e : Env} {s : State} {m : MethodId} {below : List Frame} {meth : Method} {c : Code} {A : Nat → Prop} {Q : State → Prop} (M_pipes : Int32) (M_used : Int32) (M_taped : Int32) (M_at : Int32) (M_statements : Int32) (M_hasImage : Int32) (M_isKeeping : Int32) (M_cursor : Int32) (M_nextAt : Int32) (M_nextMost : Int64) (M_rowMany : Int32) (M_refused : Nat → Int32) (M_setting : Nat → Int32) (M_hole : Nat → Int32) (M_pipeAt : Nat → Int32) (M_chance : Nat → Int32) (M_weight : Nat → Int32) (M_tape : Nat → Int32) (M_letter : Nat → Int32) (M_letterAt : Nat → Int32) (M_told : Nat → Int32) (M_kept : Nat → Int32) (M_then : Nat → Int64) (M_row : Nat → Int32) (K : Int64 → Int32 → Prop) (S : CallFix p m c cX5_divides 4 s ([.ref (a_M 0)] : List Value).toArray bg RX5) (hK : va_K D vwCl (tz cI cJ cC) s) (hDD : ∀ ws : va_W, ws.map (fun q => q.1) = [a_M 0, a_M 1, a_M 2, a_M 3, a_M 4, a_M 5, a_M 6, a_M 7, a_M 8, a_M 9, a_M 10, a_M 11, a_M 12, a_M 13] → va_D A ws) (hA : ∀ q, s.heap.size ≤ q → A q) (hE : EV G A s) (hKK : ∀ (x1 : Int64) (x3 : Int32) (H : Heap) (locs : List Loc) (ls : Array Slot), K x1 x3 → va_P D vwCl ((bX5 cI cJ cC a_M M_pipes M_used M_taped M_at M_statements M_hasImage M_isKeeping M_cursor M_nextAt M_nextMost M_rowMany M_refused M_setting M_hole M_pipeAt M_chance M_weight M_tape M_letter M_letterAt M_told M_kept M_then M_row)) H → va_S A s.heap H locs → lv_has ls 4 [(0, .ref (a_M 0)), (1, .long x1)] → W p l e ({ frames := 1, cells := 0, slots := 0, locals := 29 }) s m ([.ref (a_M 0)] : List Value).toArray below meth c H locs 0 0 Q (F0 m 32 ls [])) :
    ∀ (n : Nat) (x1 : Int64) (x3 : Int32) (H : Heap) (locs : List Loc) (ls : Array Slot), lpX5_divides_4 K M_setting M_weight n x1 x3 → va_P D vwCl ((bX5 cI cJ cC a_M M_pipes M_used M_taped M_at M_statements M_hasImage M_isKeeping M_cursor M_nextAt M_nextMost M_rowMany M_refused M_setting M_hole M_pipeAt M_chance M_weight M_tape M_letter M_letterAt M_told M_kept M_then M_row)) H → va_S A s.heap H locs → lv_has ls 4 [(0, .ref (a_M 0)), (1, .long x1), (3, .int x3)] → W p l e ({ frames := 1, cells := 0, slots := 0, locals := 29 }) s m ([.ref (a_M 0)] : List Value).toArray below meth c H locs 0 0 Q (F0 m 4 ls []) := by
  obtain ⟨hx, hb, hml, hown, ht⟩ := id S
  intro n
  induction n with
  | zero =>
    intro x1 x3 H locs ls h
    exact absurd h (by simp [lpX5_divides_4])
  | succ n ih =>
    intro x1 x3 H locs ls h hP hS hl
    rw [lpX5_divides_4] at h
    refine lv_iload_n hx hb dX5_divides_4 rfl (lv_at hl 2 rfl) ?_
    refine lv_aload_n hx hb dX5_divides_5 rfl (lv_at hl 0 rfl) ?_
    refine va_get (D := D) (ci := 5) (v := .ref (a_M 2)) (C := RX5) (T := TX5) (N := 24) hx hb ht inX5 hown hK hP 0 rfl rfl 1 (by decide) (ht _ fl_X5_13) (fun _ h9 => h9) rfl dX5_divides_6 ?_
    refine lv_iconst (v := (0 : Int32)) hx hb dX5_divides_9 (by decide) ?_
    refine va_iald hx hb hK hP 2 0 rfl rfl (by unfold vp_in; decide) dX5_divides_10 ?_
    refine zti (y := M_setting 0) (by rfl) ?_
    refine lv_icmp_ge (tgt := 32) hx hb dX5_divides_11 (by decide) (fun z => ?_) (fun z => ?_)
    · replace h := h.1 z
      exact hKK x1 x3 _ _ _ h hP hS (lv_sub hl [0, 1] rfl)
    · replace h := h.2 z
      refine lv_lload_n hx hb dX5_divides_14 rfl (lv_at hl 1 rfl) ?_
      refine lv_aload_n hx hb dX5_divides_15 rfl (lv_at hl 0 rfl) ?_
      refine va_get (D := D) (ci := 5) (v := .ref (a_M 6)) (C := RX5) (T := TX5) (N := 24) hx hb ht inX5 hown hK hP 0 rfl rfl 5 (by decide) (ht _ fl_X5_25) (fun _ h9 => h9) rfl dX5_divides_16 ?_
      refine lv_iload_n hx hb dX5_divides_19 rfl (lv_at hl 2 rfl) ?_
      obtain ⟨hin, h⟩ := h
      refine va_iald hx hb hK hP 6 0 rfl rfl hin dX5_divides_20 ?_
      refine lv_i2l hx hb dX5_divides_21 rfl ?_
      refine zcl hA zD0 hS (zrunS (As := [.long x1, .long ((M_weight x3.toNatClampNeg).toInt64)]) (rest := []) S hK hA hE zP0 zD0 hS (mX5_divisor l D cI cJ cC G _ x1 ((M_weight x3.toNatClampNeg).toInt64) _ h) kX5_divisor ml_X5_180 ⟨rfl, rfl, by decide, by decide⟩ rfl hl.1 rfl (Nat.le_of_ble_eq_true rfl) dX5_divides_22 ⟨Nat.zero_le _, Nat.zero_le _⟩) (fun r_1 u H locs h hP1 hk1 hS => ?_)
      try dsimp only at h
      have hP : va_P D vwCl ((bX5 cI cJ cC a_M M_pipes M_used M_taped M_at M_statements M_hasImage M_isKeeping M_cursor M_nextAt M_nextMost M_rowMany M_refused M_setting M_hole M_pipeAt M_chance M_weight M_tape M_letter M_letterAt M_told M_kept M_then M_row)) H := zKeep hP hk1
      refine lv_lstore_n (lv' := [(1, .long r_1), (0, .ref (a_M 0)), (3, .int x3)]) hx hb dX5_divides_25 rfl hl (by decide) rfl (fun ls hl => ?_)
      refine lv_iinc (v := x3 + (1 : Int32)) (lv' := [(3, .int (x3 + (1 : Int32))), (1, .long r_1), (0, .ref (a_M 0))]) hx hb dX5_divides_26 hl (k := 2) rfl (by rfl) (by decide) rfl (fun ls hl => ?_)
      refine lv_goto (tgt := 4) hx hb dX5_divides_29 (by decide) ?_
      exact ih r_1 (x3 + (1 : Int32)) _ _ _ h hP hS (lv_sub hl [2, 1, 0] rfl)
def lpX5_divides_34 (K : Int32 → (Nat → Int32) → Prop) (x1 : Int64) (M_setting : Nat → Int32) : Nat → Int32 → (Nat → Int32) → Prop
  | 0, _, _ => False
  | n + 1, x3, M_weight => (((M_setting 0) ≤ x3 → (K x3 M_weight)) ∧ (¬ ((M_setting 0) ≤ x3) → (((x1 ≤ (1 : Int64) → (K x3 M_weight)) ∧ (¬ (x1 ≤ (1 : Int64)) → (vp_in x3 24 ∧ (¬ x1.toInt32 = 0 ∧ (vp_in x3 24 ∧ (lpX5_divides_34 K x1 M_setting n (x3 + (1 : Int32)) (upd M_weight x3.toNatClampNeg ((M_weight x3.toNatClampNeg) / x1.toInt32)))))))))))
set_option maxHeartbeats 4000000 in
set_option maxRecDepth 100000 in
theorem wX5_divides_34 (l : Launch) (D : va_G) (cI cJ cC : ClassId) (G : Nat → Nat → Nat) (a_M : Nat → Nat) {p : Program} {e : Env} {s : State} {m : MethodId} {below : List Frame} {meth : Method} {c : Code} {A : Nat → Prop} {Q : State → Prop} (x1 : Int64) (M_pipes : Int32) (M_used : Int32) (M_taped : Int32) (M_at : Int32) (M_statements : Int32) (M_hasImage : Int32) (M_isKeeping : Int32) (M_cursor : Int32) (M_nextAt : Int32) (M_nextMost : Int64) (M_rowMany : Int32) (M_refused : Nat → Int32) (M_setting : Nat → Int32) (M_hole : Nat → Int32) (M_pipeAt : Nat → Int32) (M_chance : Nat → Int32) (M_tape : Nat → Int32) (M_letter : Nat → Int32) (M_letterAt : Nat → Int32) (M_told : Nat → Int32) (M_kept : Nat → Int32) (M_then : Nat → Int64) (M_row : Nat → Int32) (K : Int32 → (Nat → Int32) → Prop) (S : CallFix p m c cX5_divides 4 s ([.ref (a_M 0)] : List Value).toArray bg RX5) (hK : va_K D vwCl (tz cI cJ cC) s) (hDD : ∀ ws : va_W, ws.map (fun q => q.1) = [a_M 0, a_M 1, a_M 2, a_M 3, a_M 4, a_M 5, a_M 6, a_M 7, a_M 8, a_M 9, a_M 10, a_M 11, a_M 12, a_M 13] → va_D A ws) (hA : ∀ q, s.heap.size ≤ q → A q) (hE : EV G A s) (hKK : ∀ (x3 : Int32) (M_weight : Nat → Int32) (H : Heap) (locs : List Loc) (ls : Array Slot), K x3 M_weight → va_P D vwCl ((bX5 cI cJ cC a_M M_pipes M_used M_taped M_at M_statements M_hasImage M_isKeeping M_cursor M_nextAt M_nextMost M_rowMany M_refused M_setting M_hole M_pipeAt M_chance M_weight M_tape M_letter M_letterAt M_told M_kept M_then M_row)) H → va_S A s.heap H locs → lv_has ls 4 [] → W p l e ({ frames := 1, cells := 0, slots := 0, locals := 29 }) s m ([.ref (a_M 0)] : List Value).toArray below meth c H locs 0 0 Q (F0 m 67 ls [])) :
    ∀ (n : Nat) (x3 : Int32) (M_weight : Nat → Int32) (H : Heap) (locs : List Loc) (ls : Array Slot), lpX5_divides_34 K x1 M_setting n x3 M_weight → va_P D vwCl ((bX5 cI cJ cC a_M M_pipes M_used M_taped M_at M_statements M_hasImage M_isKeeping M_cursor M_nextAt M_nextMost M_rowMany M_refused M_setting M_hole M_pipeAt M_chance M_weight M_tape M_letter M_letterAt M_told M_kept M_then M_row)) H → va_S A s.heap H locs → lv_has ls 4 [(0, .ref (a_M 0)), (1, .long x1), (3, .int x3)] → W p l e ({ frames := 1, cells := 0, slots := 0, locals := 29 }) s m ([.ref (a_M 0)] : List Value).toArray below meth c H locs 0 0 Q (F0 m 34 ls []) := by
  obtain ⟨hx, hb, hml, hown, ht⟩ := id S
  intro n
  induction n with
  | zero =>
    intro x3 M_weight H locs ls h
    exact absurd h (by simp [lpX5_divides_34])
  | succ n ih =>
    intro x3 M_weight H locs ls h hP hS hl
    rw [lpX5_divides_34] at h
    refine lv_iload_n hx hb dX5_divides_34 rfl (lv_at hl 2 rfl) ?_
    refine lv_aload_n hx hb dX5_divides_35 rfl (lv_at hl 0 rfl) ?_
    refine va_get (D := D) (ci := 5) (v := .ref (a_M 2)) (C := RX5) (T := TX5) (N := 24) hx hb ht inX5 hown hK hP 0 rfl rfl 1 (by decide) (ht _ fl_X5_13) (fun _ h9 => h9) rfl dX5_divides_36 ?_
    refine lv_iconst (v := (0 : Int32)) hx hb dX5_divides_39 (by decide) ?_
    refine va_iald hx hb hK hP 2 0 rfl rfl (by unfold vp_in; decide) dX5_divides_40 ?_
    refine zti (y := M_setting 0) (by rfl) ?_
    refine lv_icmp_ge (tgt := 67) hx hb dX5_divides_41 (by decide) (fun z => ?_) (fun z => ?_)
    · replace h := h.1 z
      exact hKK x3 M_weight _ _ _ h hP hS (lv_sub hl [] rfl)
    · replace h := h.2 z
      refine lv_lload_n hx hb dX5_divides_44 rfl (lv_at hl 1 rfl) ?_
      refine lv_lconst (v := (1 : Int64)) hx hb dX5_divides_45 (by decide) ?_
      refine W.lcmp hx hb dX5_divides_46 ?_
      refine lv_if_le (tgt := 67) hx hb dX5_divides_47 (by decide) (fun z => ?_) (fun z => ?_)
      · replace h := h.1 (zl_le.mp z)
        exact hKK x3 M_weight _ _ _ h hP hS (lv_sub hl [] rfl)
      · replace h := h.2 (fun q => z (zl_le.mpr q))
        refine lv_aload_n hx hb dX5_divides_50 rfl (lv_at hl 0 rfl) ?_
        refine va_get (D := D) (ci := 5) (v := .ref (a_M 6)) (C := RX5) (T := TX5) (N := 24) hx hb ht inX5 hown hK hP 0 rfl rfl 5 (by decide) (ht _ fl_X5_25) (fun _ h9 => h9) rfl dX5_divides_51 ?_
        refine lv_iload_n hx hb dX5_divides_54 rfl (lv_at hl 2 rfl) ?_
        refine lv_dup2_11 hx hb dX5_divides_55 rfl rfl ?_
        obtain ⟨hin, h⟩ := h
        refine va_iald hx hb hK hP 6 0 rfl rfl hin dX5_divides_56 ?_
        refine lv_lload_n hx hb dX5_divides_57 rfl (lv_at hl 1 rfl) ?_
        refine lv_l2i hx hb dX5_divides_58 rfl ?_
        obtain ⟨hne, h⟩ := h
        refine lv_idiv hx hb dX5_divides_59 hne ?_
        obtain ⟨hin, h⟩ := h
        refine va_iast hx hb hK hP (hDD _ rfl) hS 6 0 rfl rfl hin dX5_divides_60 (fun H locs hP _ hS => ?_)
        have hP : va_P D vwCl ((bX5 cI cJ cC a_M M_pipes M_used M_taped M_at M_statements M_hasImage M_isKeeping M_cursor M_nextAt M_nextMost M_rowMany M_refused M_setting M_hole M_pipeAt M_chance (upd M_weight x3.toNatClampNeg ((M_weight x3.toNatClampNeg) / x1.toInt32)) M_tape M_letter M_letterAt M_told M_kept M_then M_row)) H := hP
        refine lv_iinc (v := x3 + (1 : Int32)) (lv' := [(3, .int (x3 + (1 : Int32))), (0, .ref (a_M 0)), (1, .long x1)]) hx hb dX5_divides_61 hl (k := 2) rfl (by rfl) (by decide) rfl (fun ls hl => ?_)
        refine lv_goto (tgt := 34) hx hb dX5_divides_64 (by decide) ?_
        exact ih (x3 + (1 : Int32)) (upd M_weight x3.toNatClampNeg ((M_weight x3.toNatClampNeg) / x1.toInt32)) _ _ _ h hP hS (lv_sub hl [1, 2, 0] rfl)
def wpX5_divides (post : (Nat → Int32) → Prop) (M_setting : Nat → Int32) (M_weight : Nat → Int32) : Prop := ∃ n_2 : Nat, lpX5_divides_4 (fun (x1_3 : Int64) (x3_4 : Int32) => ∃ n_5 : Nat, lpX5_divides_34 (fun (x3_6 : Int32) (M_weight_7 : Nat → Int32) => post M_weight_7) x1_3 M_setting n_5 (0 : Int32) M_weight) M_setting M_weight n_2 (0 : Int64) (0 : Int32)
set_option maxHeartbeats 4000000 in
set_option maxRecDepth 100000 in
theorem mX5_divides (l : Launch) (D : va_G) (cI cJ cC : ClassId) (G : Nat → Nat → Nat) (a_M : Nat → Nat) (sz : Nat) (M_pipes : Int32) (M_used : Int32) (M_taped : Int32) (M_at : Int32) (M_statements : Int32) (M_hasImage : Int32) (M_isKeeping : Int32) (M_cursor : Int32) (M_nextAt : Int32) (M_nextMost : Int64) (M_rowMany : Int32) (M_refused : Nat → Int32) (M_setting : Nat → Int32) (M_hole : Nat → Int32) (M_pipeAt : Nat → Int32) (M_chance : Nat → Int32) (M_weight : Nat → Int32) (M_tape : Nat → Int32) (M_letter : Nat → Int32) (M_letterAt : Nat → Int32) (M_told : Nat → Int32) (M_kept : Nat → Int32) (M_then : Nat → Int64) (M_row : Nat → Int32) (post : (Nat → Int32) → Prop) (h : wpX5_divides post M_setting M_weight) : Met l yX5_divides (wz yX5_divides cX5_divides 4 none) ({ frames := 1, cells := 0, slots := 0, locals := 29 }) (va_Pc [.ref (a_M 0)] (PW D (tz cI cJ cC) G ((bX5 cI cJ cC a_M M_pipes M_used M_taped M_at M_statements M_hasImage M_isKeeping M_cursor M_nextAt M_nextMost M_rowMany M_refused M_setting M_hole M_pipeAt M_chance M_weight M_tape M_letter M_letterAt M_told M_kept M_then M_row)) sz)) (va_Qv (fun (u : (Nat → Int32)) => post u) (fun (u : (Nat → Int32)) t => va_P D vwCl ((bX5 cI cJ cC a_M M_pipes M_used M_taped M_at M_statements M_hasImage M_isKeeping M_cursor M_nextAt M_nextMost M_rowMany M_refused M_setting M_hole M_pipeAt M_chance u M_tape M_letter M_letterAt M_told M_kept M_then M_row)) t.heap) (va_A ((bX5 cI cJ cC a_M M_pipes M_used M_taped M_at M_statements M_hasImage M_isKeeping M_cursor M_nextAt M_nextMost M_rowMany M_refused M_setting M_hole M_pipeAt M_chance M_weight M_tape M_letter M_letterAt M_told M_kept M_then M_row)) sz)) 0 0 (va_A ((bX5 cI cJ cC a_M M_pipes M_used M_taped M_at M_statements M_hasImage M_isKeeping M_cursor M_nextAt M_nextMost M_rowMany M_refused M_setting M_hole M_pipeAt M_chance M_weight M_tape M_letter M_letterAt M_told M_kept M_then M_row)) sz) := by
  refine zmv (gw := fun (u : (Nat → Int32)) => (bX5 cI cJ cC a_M M_pipes M_used M_taped M_at M_statements M_hasImage M_isKeeping M_cursor M_nextAt M_nextMost M_rowMany M_refused M_setting M_hole M_pipeAt M_chance u M_tape M_letter M_letterAt M_told M_kept M_then M_row)) (plainFor_of_name (by decide)) (Nat.le_of_ble_eq_true rfl) ?_
  intro p e s m below meth c A Q ls S hK hD hA hE hP hl hret
  obtain ⟨hx, hb, hml, hown, ht⟩ := id S
  have hS : va_S A s.heap s.heap [] := va_S.rf
  have hDD : ∀ ws : va_W, ws.map (fun q => q.1) = [a_M 0, a_M 1, a_M 2, a_M 3, a_M 4, a_M 5, a_M 6, a_M 7, a_M 8, a_M 9, a_M 10, a_M 11, a_M 12, a_M 13] → va_D A ws := fun ws hw => zD hD (hw.trans rfl)
  have hl : lv_has ls 4 [(0, .ref (a_M 0))] := hl
  unfold wpX5_divides at h
  refine lv_lconst (v := (0 : Int64)) hx hb dX5_divides_0 (by decide) ?_
  refine lv_lstore_n (lv' := [(1, .long (0 : Int64)), (0, .ref (a_M 0))]) hx hb dX5_divides_1 rfl hl (by decide) rfl (fun ls hl => ?_)
  refine lv_iconst (v := (0 : Int32)) hx hb dX5_divides_2 (by decide) ?_
  refine lv_istore_n (lv' := [(3, .int (0 : Int32)), (1, .long (0 : Int64)), (0, .ref (a_M 0))]) hx hb dX5_divides_3 rfl hl (by decide) rfl (fun ls hl => ?_)
  obtain ⟨n_2, h⟩ := h
  refine wX5_divides_4 l D cI cJ cC G a_M M_pipes M_used M_taped M_at M_statements M_hasImage M_isKeeping M_cursor M_nextAt M_nextMost M_rowMany M_refused M_setting M_hole M_pipeAt M_chance M_weight M_tape M_letter M_letterAt M_told M_kept M_then M_row _ S hK hDD hA hE (fun x1_3 x3_4 H locs ls h hP hS hl => ?_) n_2 (0 : Int64) (0 : Int32) _ _ _ h hP hS (lv_sub hl [2, 1, 0] rfl)
  try dsimp only at h
  refine lv_iconst (v := (0 : Int32)) hx hb dX5_divides_32 (by decide) ?_
  refine lv_istore_n (lv' := [(3, .int (0 : Int32)), (0, .ref (a_M 0)), (1, .long x1_3)]) hx hb dX5_divides_33 rfl hl (by decide) rfl (fun ls hl => ?_)
  obtain ⟨n_5, h⟩ := h
  refine wX5_divides_34 l D cI cJ cC G a_M x1_3 M_pipes M_used M_taped M_at M_statements M_hasImage M_isKeeping M_cursor M_nextAt M_nextMost M_rowMany M_refused M_setting M_hole M_pipeAt M_chance M_tape M_letter M_letterAt M_told M_kept M_then M_row _ S hK hDD hA hE (fun x3_6 M_weight_7 H locs ls h hP hS hl => ?_) n_5 (0 : Int32) M_weight _ _ _ h hP hS (lv_sub hl [1, 2, 0] rfl)
  try dsimp only at h
  exact hret M_weight_7 _ _ _ _ h hP hS dX5_divides_67
def wpX5_nails (post : (Nat → Int32) → (Nat → Int32) → Prop) (M_setting : Nat → Int32) (M_hole : Nat → Int32) (M_weight : Nat → Int32) (p1 : Int32) (p2 : Int32) : Prop := wpX5_leaves (fun (M_weight_1 : Nat → Int32) => wpX5_divides (fun (M_weight_2 : Nat → Int32) => vp_in p1 48 ∧ (post (upd M_hole p1.toNatClampNeg (1 : Int32)) M_weight_2)) M_setting M_weight_1) M_setting M_weight p1 p2
set_option maxHeartbeats 4000000 in
set_option maxRecDepth 100000 in
theorem mX5_nails (l : Launch) (D : va_G) (cI cJ cC : ClassId) (G : Nat → Nat → Nat) (a_M : Nat → Nat) (sz : Nat) (M_pipes : Int32) (M_used : Int32) (M_taped : Int32) (M_at : Int32) (M_statements : Int32) (M_hasImage : Int32) (M_isKeeping : Int32) (M_cursor : Int32) (M_nextAt : Int32) (M_nextMost : Int64) (M_rowMany : Int32) (M_refused : Nat → Int32) (M_setting : Nat → Int32) (M_hole : Nat → Int32) (M_pipeAt : Nat → Int32) (M_chance : Nat → Int32) (M_weight : Nat → Int32) (M_tape : Nat → Int32) (M_letter : Nat → Int32) (M_letterAt : Nat → Int32) (M_told : Nat → Int32) (M_kept : Nat → Int32) (M_then : Nat → Int64) (M_row : Nat → Int32) (p1 : Int32) (p2 : Int32) (post : (Nat → Int32) → (Nat → Int32) → Prop) (h : wpX5_nails post M_setting M_hole M_weight p1 p2) : Met l yX5_nails (wz yX5_nails cX5_nails 3 none) ({ frames := 5, cells := 0, slots := 0, locals := 111 }) (va_Pc [.ref (a_M 0), .int p1, .int p2] (PW D (tz cI cJ cC) G ((bX5 cI cJ cC a_M M_pipes M_used M_taped M_at M_statements M_hasImage M_isKeeping M_cursor M_nextAt M_nextMost M_rowMany M_refused M_setting M_hole M_pipeAt M_chance M_weight M_tape M_letter M_letterAt M_told M_kept M_then M_row)) sz)) (va_Qv (fun (u : (Nat → Int32) × (Nat → Int32)) => post u.1 u.2) (fun (u : (Nat → Int32) × (Nat → Int32)) t => va_P D vwCl ((bX5 cI cJ cC a_M M_pipes M_used M_taped M_at M_statements M_hasImage M_isKeeping M_cursor M_nextAt M_nextMost M_rowMany M_refused M_setting u.1 M_pipeAt M_chance u.2 M_tape M_letter M_letterAt M_told M_kept M_then M_row)) t.heap) (va_A ((bX5 cI cJ cC a_M M_pipes M_used M_taped M_at M_statements M_hasImage M_isKeeping M_cursor M_nextAt M_nextMost M_rowMany M_refused M_setting M_hole M_pipeAt M_chance M_weight M_tape M_letter M_letterAt M_told M_kept M_then M_row)) sz)) 0 0 (va_A ((bX5 cI cJ cC a_M M_pipes M_used M_taped M_at M_statements M_hasImage M_isKeeping M_cursor M_nextAt M_nextMost M_rowMany M_refused M_setting M_hole M_pipeAt M_chance M_weight M_tape M_letter M_letterAt M_told M_kept M_then M_row)) sz) := by
  refine zmv (gw := fun (u : (Nat → Int32) × (Nat → Int32)) => (bX5 cI cJ cC a_M M_pipes M_used M_taped M_at M_statements M_hasImage M_isKeeping M_cursor M_nextAt M_nextMost M_rowMany M_refused M_setting u.1 M_pipeAt M_chance u.2 M_tape M_letter M_letterAt M_told M_kept M_then M_row)) (plainFor_of_name (by decide)) (Nat.le_of_ble_eq_true rfl) ?_
  intro p e s m below meth c A Q ls S hK hD hA hE hP hl hret
  obtain ⟨hx, hb, hml, hown, ht⟩ := id S
  have hS : va_S A s.heap s.heap [] := va_S.rf
  have hDD : ∀ ws : va_W, ws.map (fun q => q.1) = [a_M 0, a_M 1, a_M 2, a_M 3, a_M 4, a_M 5, a_M 6, a_M 7, a_M 8, a_M 9, a_M 10, a_M 11, a_M 12, a_M 13] → va_D A ws := fun ws hw => zD hD (hw.trans rfl)
  have hl : lv_has ls 3 [(0, .ref (a_M 0)), (1, .int p1), (2, .int p2)] := hl
  unfold wpX5_nails at h
  refine lv_aload_n hx hb dX5_nails_0 rfl (lv_at hl 0 rfl) ?_
  refine lv_iload_n hx hb dX5_nails_1 rfl (lv_at hl 1 rfl) ?_
  refine lv_iload_n hx hb dX5_nails_2 rfl (lv_at hl 2 rfl) ?_
  refine zcv hA (hDD _ rfl) hS (zrunV (As := [.int p1, .int p2]) (rest := []) S hK hA hE hP (hDD _ rfl) hS (mX5_leaves l D cI cJ cC G a_M _ M_pipes M_used M_taped M_at M_statements M_hasImage M_isKeeping M_cursor M_nextAt M_nextMost M_rowMany M_refused M_setting M_hole M_pipeAt M_chance M_weight M_tape M_letter M_letterAt M_told M_kept M_then M_row p1 p2 _ h) kX5_leaves ml_X5_191 ⟨rfl, rfl, by decide, by decide⟩ (q0 := 0) (ci := 5) rfl rfl rfl rfl hl.1 rfl (Nat.le_of_ble_eq_true rfl) dX5_nails_3 ⟨Nat.zero_le _, Nat.zero_le _⟩) (fun M_weight_1 H locs h hP1 hk1 hS => ?_)
  try dsimp only at h
  have hP : va_P D vwCl ((bX5 cI cJ cC a_M M_pipes M_used M_taped M_at M_statements M_hasImage M_isKeeping M_cursor M_nextAt M_nextMost M_rowMany M_refused M_setting M_hole M_pipeAt M_chance M_weight_1 M_tape M_letter M_letterAt M_told M_kept M_then M_row)) H := hP1
  refine lv_aload_n hx hb dX5_nails_6 rfl (lv_at hl 0 rfl) ?_
  refine zcv hA (hDD _ rfl) hS (zrunV (As := []) (rest := []) S hK hA hE hP (hDD _ rfl) hS (mX5_divides l D cI cJ cC G a_M _ M_pipes M_used M_taped M_at M_statements M_hasImage M_isKeeping M_cursor M_nextAt M_nextMost M_rowMany M_refused M_setting M_hole M_pipeAt M_chance M_weight_1 M_tape M_letter M_letterAt M_told M_kept M_then M_row _ h) kX5_divides ml_X5_188 ⟨rfl, rfl, by decide, by decide⟩ (q0 := 0) (ci := 5) rfl rfl rfl rfl hl.1 rfl (Nat.le_of_ble_eq_true rfl) dX5_nails_7 ⟨Nat.zero_le _, Nat.zero_le _⟩) (fun M_weight_2 H locs h hP1 hk1 hS => ?_)
  try dsimp only at h
  have hP : va_P D vwCl ((bX5 cI cJ cC a_M M_pipes M_used M_taped M_at M_statements M_hasImage M_isKeeping M_cursor M_nextAt M_nextMost M_rowMany M_refused M_setting M_hole M_pipeAt M_chance M_weight_2 M_tape M_letter M_letterAt M_told M_kept M_then M_row)) H := hP1
  refine lv_aload_n hx hb dX5_nails_10 rfl (lv_at hl 0 rfl) ?_
  refine va_get (D := D) (ci := 5) (v := .ref (a_M 3)) (C := RX5) (T := TX5) (N := 24) hx hb ht inX5 hown hK hP 0 rfl rfl 2 (by decide) (ht _ fl_X5_16) (fun _ h9 => h9) rfl dX5_nails_11 ?_
  refine lv_iload_n hx hb dX5_nails_14 rfl (lv_at hl 1 rfl) ?_
  refine lv_iconst (v := (1 : Int32)) hx hb dX5_nails_15 (by decide) ?_
  obtain ⟨hin, h⟩ := h
  refine va_iast hx hb hK hP (hDD _ rfl) hS 3 0 rfl rfl hin dX5_nails_16 (fun H locs hP _ hS => ?_)
  have hP : va_P D vwCl ((bX5 cI cJ cC a_M M_pipes M_used M_taped M_at M_statements M_hasImage M_isKeeping M_cursor M_nextAt M_nextMost M_rowMany M_refused M_setting (upd M_hole p1.toNatClampNeg (1 : Int32)) M_pipeAt M_chance M_weight_2 M_tape M_letter M_letterAt M_told M_kept M_then M_row)) H := hP
  exact hret (upd M_hole p1.toNatClampNeg (1 : Int32), M_weight_2) _ _ _ _ h hP hS dX5_nails_17
def wpX5_inNone (post : Int32 → Prop) (p0 : Int32) : Prop := ((p0 = (0 : Int32) → (post (7 : Int32))) ∧ (¬ (p0 = (0 : Int32)) → (((p0 = (3 : Int32) → (post (6 : Int32))) ∧ (¬ (p0 = (3 : Int32)) → (post (9 : Int32)))))))
set_option maxHeartbeats 4000000 in
set_option maxRecDepth 100000 in
theorem mX5_inNone (l : Launch) (D : va_G) (cI cJ cC : ClassId) (G : Nat → Nat → Nat) (sz : Nat) (p0 : Int32) (post : Int32 → Prop) (h : wpX5_inNone post p0) : Met l yX5_inNone (wz yX5_inNone cX5_inNone 1 (some .int)) ({ frames := 0, cells := 0, slots := 0, locals := 0 }) (va_Pc [.int p0] (PW D (tz cI cJ cC) G ([]) sz)) (va_Qi (fun (r : Int32) (u : Unit) => post r ) (fun (u : Unit) t => va_P D vwCl ([]) t.heap) (va_A ([]) sz)) 0 0 (va_A ([]) sz) := by
  refine zmi (gw := fun (u : Unit) => []) (plainFor_of_name (by decide)) (Nat.le_of_ble_eq_true rfl) ?_
  intro p e s m below meth c A Q ls S hK hD hA hE hP hl hret
  obtain ⟨hx, hb, hml, hown, ht⟩ := id S
  have hS : va_S A s.heap s.heap [] := va_S.rf
  have hDD : ∀ ws : va_W, ws.map (fun q => q.1) = [] → va_D A ws := fun ws hw => zD hD (hw.trans rfl)
  have hl : lv_has ls 1 [(0, .int p0)] := hl
  unfold wpX5_inNone at h
  refine lv_iload_n hx hb dX5_inNone_0 rfl (lv_at hl 0 rfl) ?_
  refine lv_if_ne (tgt := 9) hx hb dX5_inNone_1 (by decide) (fun z => ?_) (fun z => ?_)
  · replace h := h.2 z
    refine lv_iload_n hx hb dX5_inNone_9 rfl (lv_at hl 0 rfl) ?_
    refine lv_iconst (v := (3 : Int32)) hx hb dX5_inNone_10 (by decide) ?_
    refine lv_icmp_ne (tgt := 19) hx hb dX5_inNone_11 (by decide) (fun z => ?_) (fun z => ?_)
    · replace h := h.2 z
      refine lv_bipush (v := (9 : Int32)) hx hb dX5_inNone_19 (by decide) ?_
      exact hret (9 : Int32) () _ _ _ _ rfl h hP hS dX5_inNone_21
    · replace h := h.1 z
      refine lv_bipush (v := (6 : Int32)) hx hb dX5_inNone_14 (by decide) ?_
      refine lv_goto (tgt := 21) hx hb dX5_inNone_16 (by decide) ?_
      exact hret (6 : Int32) () _ _ _ _ rfl h hP hS dX5_inNone_21
  · replace h := h.1 z
    refine lv_bipush (v := (7 : Int32)) hx hb dX5_inNone_4 (by decide) ?_
    refine lv_goto (tgt := 21) hx hb dX5_inNone_6 (by decide) ?_
    exact hret (7 : Int32) () _ _ _ _ rfl h hP hS dX5_inNone_21
def wpX5_inWood (post : Int32 → Prop) (p0 : Int32) : Prop := ((p0 = (1 : Int32) → (post (4 : Int32))) ∧ (¬ (p0 = (1 : Int32)) → (((p0 = (2 : Int32) → (post (6 : Int32))) ∧ (¬ (p0 = (2 : Int32)) → (((p0 = (3 : Int32) → (post (8 : Int32))) ∧ (¬ (p0 = (3 : Int32)) → (((p0 = (4 : Int32) → (post (9 : Int32))) ∧ (¬ (p0 = (4 : Int32)) → (post (7 : Int32)))))))))))))
set_option maxHeartbeats 4000000 in
set_option maxRecDepth 100000 in
theorem mX5_inWood (l : Launch) (D : va_G) (cI cJ cC : ClassId) (G : Nat → Nat → Nat) (sz : Nat) (p0 : Int32) (post : Int32 → Prop) (h : wpX5_inWood post p0) : Met l yX5_inWood (wz yX5_inWood cX5_inWood 1 (some .int)) ({ frames := 0, cells := 0, slots := 0, locals := 0 }) (va_Pc [.int p0] (PW D (tz cI cJ cC) G ([]) sz)) (va_Qi (fun (r : Int32) (u : Unit) => post r ) (fun (u : Unit) t => va_P D vwCl ([]) t.heap) (va_A ([]) sz)) 0 0 (va_A ([]) sz) := by
  refine zmi (gw := fun (u : Unit) => []) (plainFor_of_name (by decide)) (Nat.le_of_ble_eq_true rfl) ?_
  intro p e s m below meth c A Q ls S hK hD hA hE hP hl hret
  obtain ⟨hx, hb, hml, hown, ht⟩ := id S
  have hS : va_S A s.heap s.heap [] := va_S.rf
  have hDD : ∀ ws : va_W, ws.map (fun q => q.1) = [] → va_D A ws := fun ws hw => zD hD (hw.trans rfl)
  have hl : lv_has ls 1 [(0, .int p0)] := hl
  unfold wpX5_inWood at h
  refine lv_iload_n hx hb dX5_inWood_0 rfl (lv_at hl 0 rfl) ?_
  by_cases z0 : p0 = (1 : Int32)
  · replace h := h.1 z0
    refine lv_tableIn (off := 31) (tgt := 32) hx hb dX5_inWood_1 (by rw [z0]; decide) (by rw [z0]; decide) (by rw [z0]; rfl) (by decide) ?_
    refine lv_iconst (v := (4 : Int32)) hx hb dX5_inWood_32 (by decide) ?_
    exact hret (4 : Int32) () _ _ _ _ rfl h hP hS dX5_inWood_33
  · replace h := h.2 z0
    by_cases z1 : p0 = (2 : Int32)
    · replace h := h.1 z1
      refine lv_tableIn (off := 33) (tgt := 34) hx hb dX5_inWood_1 (by rw [z1]; decide) (by rw [z1]; decide) (by rw [z1]; rfl) (by decide) ?_
      refine lv_bipush (v := (6 : Int32)) hx hb dX5_inWood_34 (by decide) ?_
      exact hret (6 : Int32) () _ _ _ _ rfl h hP hS dX5_inWood_36
    · replace h := h.2 z1
      by_cases z2 : p0 = (3 : Int32)
      · replace h := h.1 z2
        refine lv_tableIn (off := 36) (tgt := 37) hx hb dX5_inWood_1 (by rw [z2]; decide) (by rw [z2]; decide) (by rw [z2]; rfl) (by decide) ?_
        refine lv_bipush (v := (8 : Int32)) hx hb dX5_inWood_37 (by decide) ?_
        exact hret (8 : Int32) () _ _ _ _ rfl h hP hS dX5_inWood_39
      · replace h := h.2 z2
        by_cases z3 : p0 = (4 : Int32)
        · replace h := h.1 z3
          refine lv_tableIn (off := 39) (tgt := 40) hx hb dX5_inWood_1 (by rw [z3]; decide) (by rw [z3]; decide) (by rw [z3]; rfl) (by decide) ?_
          refine lv_bipush (v := (9 : Int32)) hx hb dX5_inWood_40 (by decide) ?_
          exact hret (9 : Int32) () _ _ _ _ rfl h hP hS dX5_inWood_42
        · replace h := h.2 z3
          refine lv_tableOut (tgt := 43) hx hb dX5_inWood_1 (by have n0 := lv_neT z0 (a := 1) (by decide); have n1 := lv_neT z1 (a := 2) (by decide); have n2 := lv_neT z2 (a := 3) (by decide); have n3 := lv_neT z3 (a := 4) (by decide); omega) (by decide) ?_
          refine lv_bipush (v := (7 : Int32)) hx hb dX5_inWood_43 (by decide) ?_
          exact hret (7 : Int32) () _ _ _ _ rfl h hP hS dX5_inWood_45
def wpX5_tenths (post : Int32 → Prop) (M_setting : Nat → Int32) (p1 : Int32) (p2 : Int32) (p3 : Int32) (p4 : Int32) : Prop := wpX5_isWood (fun (r_1 : Int32) => ((r_1 = (0 : Int32) → (wpX5_inNone (fun (r_2 : Int32) => ((p3 = (1 : Int32) → (((r_1 = (1 : Int32) → (post r_2)) ∧ (¬ (r_1 = (1 : Int32)) → (post ((10 : Int32) - r_2)))))) ∧ (¬ (p3 = (1 : Int32)) → (((r_1 = (0 : Int32) → (post r_2)) ∧ (¬ (r_1 = (0 : Int32)) → (post ((10 : Int32) - r_2)))))))) p1)) ∧ (¬ (r_1 = (0 : Int32)) → (wpX5_inWood (fun (r_3 : Int32) => ((p3 = (1 : Int32) → (((r_1 = (1 : Int32) → (post r_3)) ∧ (¬ (r_1 = (1 : Int32)) → (post ((10 : Int32) - r_3)))))) ∧ (¬ (p3 = (1 : Int32)) → (((r_1 = (0 : Int32) → (post r_3)) ∧ (¬ (r_1 = (0 : Int32)) → (post ((10 : Int32) - r_3)))))))) p1)))) M_setting p2 p4
set_option maxHeartbeats 4000000 in
set_option maxRecDepth 100000 in
theorem mX5_tenths (l : Launch) (D : va_G) (cI cJ cC : ClassId) (G : Nat → Nat → Nat) (a_M : Nat → Nat) (sz : Nat) (M_pipes : Int32) (M_used : Int32) (M_taped : Int32) (M_at : Int32) (M_statements : Int32) (M_hasImage : Int32) (M_isKeeping : Int32) (M_cursor : Int32) (M_nextAt : Int32) (M_nextMost : Int64) (M_rowMany : Int32) (M_refused : Nat → Int32) (M_setting : Nat → Int32) (M_hole : Nat → Int32) (M_pipeAt : Nat → Int32) (M_chance : Nat → Int32) (M_weight : Nat → Int32) (M_tape : Nat → Int32) (M_letter : Nat → Int32) (M_letterAt : Nat → Int32) (M_told : Nat → Int32) (M_kept : Nat → Int32) (M_then : Nat → Int64) (M_row : Nat → Int32) (p1 : Int32) (p2 : Int32) (p3 : Int32) (p4 : Int32) (post : Int32 → Prop) (h : wpX5_tenths post M_setting p1 p2 p3 p4) : Met l yX5_tenths (wz yX5_tenths cX5_tenths 7 (some .int)) ({ frames := 4, cells := 0, slots := 0, locals := 88 }) (va_Pc [.ref (a_M 0), .int p1, .int p2, .int p3, .int p4] (PW D (tz cI cJ cC) G ((bX5 cI cJ cC a_M M_pipes M_used M_taped M_at M_statements M_hasImage M_isKeeping M_cursor M_nextAt M_nextMost M_rowMany M_refused M_setting M_hole M_pipeAt M_chance M_weight M_tape M_letter M_letterAt M_told M_kept M_then M_row)) sz)) (va_Qi (fun (r : Int32) (u : Unit) => post r ) (fun (u : Unit) t => va_P D vwCl ((bX5 cI cJ cC a_M M_pipes M_used M_taped M_at M_statements M_hasImage M_isKeeping M_cursor M_nextAt M_nextMost M_rowMany M_refused M_setting M_hole M_pipeAt M_chance M_weight M_tape M_letter M_letterAt M_told M_kept M_then M_row)) t.heap) (va_A ((bX5 cI cJ cC a_M M_pipes M_used M_taped M_at M_statements M_hasImage M_isKeeping M_cursor M_nextAt M_nextMost M_rowMany M_refused M_setting M_hole M_pipeAt M_chance M_weight M_tape M_letter M_letterAt M_told M_kept M_then M_row)) sz)) 0 0 (va_A ((bX5 cI cJ cC a_M M_pipes M_used M_taped M_at M_statements M_hasImage M_isKeeping M_cursor M_nextAt M_nextMost M_rowMany M_refused M_setting M_hole M_pipeAt M_chance M_weight M_tape M_letter M_letterAt M_told M_kept M_then M_row)) sz) := by
  refine zmi (gw := fun (u : Unit) => (bX5 cI cJ cC a_M M_pipes M_used M_taped M_at M_statements M_hasImage M_isKeeping M_cursor M_nextAt M_nextMost M_rowMany M_refused M_setting M_hole M_pipeAt M_chance M_weight M_tape M_letter M_letterAt M_told M_kept M_then M_row)) (plainFor_of_name (by decide)) (Nat.le_of_ble_eq_true rfl) ?_
  intro p e s m below meth c A Q ls S hK hD hA hE hP hl hret
  obtain ⟨hx, hb, hml, hown, ht⟩ := id S
  have hS : va_S A s.heap s.heap [] := va_S.rf
  have hDD : ∀ ws : va_W, ws.map (fun q => q.1) = [a_M 0, a_M 1, a_M 2, a_M 3, a_M 4, a_M 5, a_M 6, a_M 7, a_M 8, a_M 9, a_M 10, a_M 11, a_M 12, a_M 13] → va_D A ws := fun ws hw => zD hD (hw.trans rfl)
  have hl : lv_has ls 7 [(0, .ref (a_M 0)), (1, .int p1), (2, .int p2), (3, .int p3), (4, .int p4)] := hl
  unfold wpX5_tenths at h
  refine lv_aload_n hx hb dX5_tenths_0 rfl (lv_at hl 0 rfl) ?_
  refine lv_iload_n hx hb dX5_tenths_1 rfl (lv_at hl 2 rfl) ?_
  refine lv_iload hx hb dX5_tenths_2 (lv_at hl 4 rfl) ?_
  refine zci hA (hDD _ rfl) hS (zrunV (As := [.int p2, .int p4]) (rest := []) S hK hA hE hP (hDD _ rfl) hS (mX5_isWood l D cI cJ cC G a_M _ M_pipes M_used M_taped M_at M_statements M_hasImage M_isKeeping M_cursor M_nextAt M_nextMost M_rowMany M_refused M_setting M_hole M_pipeAt M_chance M_weight M_tape M_letter M_letterAt M_told M_kept M_then M_row p2 p4 _ h) kX5_isWood ml_X5_171 ⟨rfl, rfl, by decide, by decide⟩ (q0 := 0) (ci := 5) rfl rfl rfl rfl hl.1 rfl (Nat.le_of_ble_eq_true rfl) dX5_tenths_4 ⟨Nat.zero_le _, Nat.zero_le _⟩) (fun r_1 u H locs h hP1 hk1 hS => ?_)
  try dsimp only at h
  have hP : va_P D vwCl ((bX5 cI cJ cC a_M M_pipes M_used M_taped M_at M_statements M_hasImage M_isKeeping M_cursor M_nextAt M_nextMost M_rowMany M_refused M_setting M_hole M_pipeAt M_chance M_weight M_tape M_letter M_letterAt M_told M_kept M_then M_row)) H := hP1
  refine lv_istore (lv' := [(5, .int r_1), (0, .ref (a_M 0)), (1, .int p1), (2, .int p2), (3, .int p3), (4, .int p4)]) hx hb dX5_tenths_7 hl (by decide) rfl (fun ls hl => ?_)
  refine lv_iload hx hb dX5_tenths_9 (lv_at hl 0 rfl) ?_
  refine lv_if_eq (tgt := 21) hx hb dX5_tenths_11 (by decide) (fun z => ?_) (fun z => ?_)
  · replace h := h.1 z
    refine lv_iload_n hx hb dX5_tenths_21 rfl (lv_at hl 2 rfl) ?_
    refine zci hA zD0 hS (zrunS (As := [.int p1]) (rest := []) S hK hA hE zP0 zD0 hS (mX5_inNone l D cI cJ cC G _ p1 _ h) kX5_inNone ml_X5_177 ⟨rfl, rfl, by decide, by decide⟩ rfl hl.1 rfl (Nat.le_of_ble_eq_true rfl) dX5_tenths_22 ⟨Nat.zero_le _, Nat.zero_le _⟩) (fun r_2 u H locs h hP1 hk1 hS => ?_)
    try dsimp only at h
    have hP : va_P D vwCl ((bX5 cI cJ cC a_M M_pipes M_used M_taped M_at M_statements M_hasImage M_isKeeping M_cursor M_nextAt M_nextMost M_rowMany M_refused M_setting M_hole M_pipeAt M_chance M_weight M_tape M_letter M_letterAt M_told M_kept M_then M_row)) H := zKeep hP hk1
    refine lv_istore (lv' := [(6, .int r_2), (5, .int r_1), (0, .ref (a_M 0)), (1, .int p1), (2, .int p2), (3, .int p3), (4, .int p4)]) hx hb dX5_tenths_25 hl (by decide) rfl (fun ls hl => ?_)
    refine lv_iload hx hb dX5_tenths_27 (lv_at hl 1 rfl) ?_
    refine lv_iload_n hx hb dX5_tenths_29 rfl (lv_at hl 5 rfl) ?_
    refine lv_iconst (v := (1 : Int32)) hx hb dX5_tenths_30 (by decide) ?_
    refine lv_icmp_ne (tgt := 38) hx hb dX5_tenths_31 (by decide) (fun z => ?_) (fun z => ?_)
    · replace h := h.2 z
      refine lv_iconst (v := (0 : Int32)) hx hb dX5_tenths_38 (by decide) ?_
      refine lv_icmp_ne (tgt := 47) hx hb dX5_tenths_39 (by decide) (fun z => ?_) (fun z => ?_)
      · replace h := h.2 z
        refine lv_bipush (v := (10 : Int32)) hx hb dX5_tenths_47 (by decide) ?_
        refine lv_iload hx hb dX5_tenths_49 (lv_at hl 0 rfl) ?_
        refine lv_isub hx hb dX5_tenths_51 ?_
        exact hret ((10 : Int32) - r_2) () _ _ _ _ rfl h hP hS dX5_tenths_52
      · replace h := h.1 z
        refine lv_iload hx hb dX5_tenths_42 (lv_at hl 0 rfl) ?_
        refine lv_goto (tgt := 52) hx hb dX5_tenths_44 (by decide) ?_
        exact hret r_2 () _ _ _ _ rfl h hP hS dX5_tenths_52
    · replace h := h.1 z
      refine lv_iconst (v := (1 : Int32)) hx hb dX5_tenths_34 (by decide) ?_
      refine lv_goto (tgt := 39) hx hb dX5_tenths_35 (by decide) ?_
      refine lv_icmp_ne (tgt := 47) hx hb dX5_tenths_39 (by decide) (fun z => ?_) (fun z => ?_)
      · replace h := h.2 z
        refine lv_bipush (v := (10 : Int32)) hx hb dX5_tenths_47 (by decide) ?_
        refine lv_iload hx hb dX5_tenths_49 (lv_at hl 0 rfl) ?_
        refine lv_isub hx hb dX5_tenths_51 ?_
        exact hret ((10 : Int32) - r_2) () _ _ _ _ rfl h hP hS dX5_tenths_52
      · replace h := h.1 z
        refine lv_iload hx hb dX5_tenths_42 (lv_at hl 0 rfl) ?_
        refine lv_goto (tgt := 52) hx hb dX5_tenths_44 (by decide) ?_
        exact hret r_2 () _ _ _ _ rfl h hP hS dX5_tenths_52
  · replace h := h.2 z
    refine lv_iload_n hx hb dX5_tenths_14 rfl (lv_at hl 2 rfl) ?_
    refine zci hA zD0 hS (zrunS (As := [.int p1]) (rest := []) S hK hA hE zP0 zD0 hS (mX5_inWood l D cI cJ cC G _ p1 _ h) kX5_inWood ml_X5_174 ⟨rfl, rfl, by decide, by decide⟩ rfl hl.1 rfl (Nat.le_of_ble_eq_true rfl) dX5_tenths_15 ⟨Nat.zero_le _, Nat.zero_le _⟩) (fun r_3 u H locs h hP1 hk1 hS => ?_)
    try dsimp only at h
    have hP : va_P D vwCl ((bX5 cI cJ cC a_M M_pipes M_used M_taped M_at M_statements M_hasImage M_isKeeping M_cursor M_nextAt M_nextMost M_rowMany M_refused M_setting M_hole M_pipeAt M_chance M_weight M_tape M_letter M_letterAt M_told M_kept M_then M_row)) H := zKeep hP hk1
    refine lv_goto (tgt := 25) hx hb dX5_tenths_18 (by decide) ?_
    refine lv_istore (lv' := [(6, .int r_3), (5, .int r_1), (0, .ref (a_M 0)), (1, .int p1), (2, .int p2), (3, .int p3), (4, .int p4)]) hx hb dX5_tenths_25 hl (by decide) rfl (fun ls hl => ?_)
    refine lv_iload hx hb dX5_tenths_27 (lv_at hl 1 rfl) ?_
    refine lv_iload_n hx hb dX5_tenths_29 rfl (lv_at hl 5 rfl) ?_
    refine lv_iconst (v := (1 : Int32)) hx hb dX5_tenths_30 (by decide) ?_
    refine lv_icmp_ne (tgt := 38) hx hb dX5_tenths_31 (by decide) (fun z => ?_) (fun z => ?_)
    · replace h := h.2 z
      refine lv_iconst (v := (0 : Int32)) hx hb dX5_tenths_38 (by decide) ?_
      refine lv_icmp_ne (tgt := 47) hx hb dX5_tenths_39 (by decide) (fun z => ?_) (fun z => ?_)
      · replace h := h.2 z
        refine lv_bipush (v := (10 : Int32)) hx hb dX5_tenths_47 (by decide) ?_
        refine lv_iload hx hb dX5_tenths_49 (lv_at hl 0 rfl) ?_
        refine lv_isub hx hb dX5_tenths_51 ?_
        exact hret ((10 : Int32) - r_3) () _ _ _ _ rfl h hP hS dX5_tenths_52
      · replace h := h.1 z
        refine lv_iload hx hb dX5_tenths_42 (lv_at hl 0 rfl) ?_
        refine lv_goto (tgt := 52) hx hb dX5_tenths_44 (by decide) ?_
        exact hret r_3 () _ _ _ _ rfl h hP hS dX5_tenths_52
    · replace h := h.1 z
      refine lv_iconst (v := (1 : Int32)) hx hb dX5_tenths_34 (by decide) ?_
      refine lv_goto (tgt := 39) hx hb dX5_tenths_35 (by decide) ?_
      refine lv_icmp_ne (tgt := 47) hx hb dX5_tenths_39 (by decide) (fun z => ?_) (fun z => ?_)
      · replace h := h.2 z
        refine lv_bipush (v := (10 : Int32)) hx hb dX5_tenths_47 (by decide) ?_
        refine lv_iload hx hb dX5_tenths_49 (lv_at hl 0 rfl) ?_
        refine lv_isub hx hb dX5_tenths_51 ?_
        exact hret ((10 : Int32) - r_3) () _ _ _ _ rfl h hP hS dX5_tenths_52
      · replace h := h.1 z
        refine lv_iload hx hb dX5_tenths_42 (lv_at hl 0 rfl) ?_
        refine lv_goto (tgt := 52) hx hb dX5_tenths_44 (by decide) ?_
        exact hret r_3 () _ _ _ _ rfl h hP hS dX5_tenths_52
def lpX5_tells_3 (K : Int32 → (Nat → Int32) → Prop) (x1 : Int32) (x2 : Int32) (x3 : Int32) (M_setting : Nat → Int32) : Nat → Int32 → (Nat → Int32) → Prop
  | 0, _, _ => False
  | n + 1, x4, M_weight => (((M_setting 0) ≤ x4 → (K x4 M_weight)) ∧ (¬ ((M_setting 0) ≤ x4) → (vp_in x4 24 ∧ (wpX5_tenths (fun (r_1 : Int32) => vp_in x4 24 ∧ (lpX5_tells_3 K x1 x2 x3 M_setting n (x4 + (1 : Int32)) (upd M_weight x4.toNatClampNeg ((M_weight x4.toNatClampNeg) * r_1)))) M_setting x1 x2 x3 x4))))
set_option maxHeartbeats 4000000 in
set_option maxRecDepth 100000 in
theorem wX5_tells_3 (l : Launch) (D : va_G) (cI cJ cC : ClassId) (G : Nat → Nat → Nat) (a_M : Nat → Nat) {p : Program} {e : Env} {s : State} {m : MethodId} {below : List Frame} {meth : Method} {c : Code} {A : Nat → Prop} {Q : State → Prop} (p1 : Int32) (p2 : Int32) (p3 : Int32) (x1 : Int32) (x2 : Int32) (x3 : Int32) (M_pipes : Int32) (M_used : Int32) (M_taped : Int32) (M_at : Int32) (M_statements : Int32) (M_hasImage : Int32) (M_isKeeping : Int32) (M_cursor : Int32) (M_nextAt : Int32) (M_nextMost : Int64) (M_rowMany : Int32) (M_refused : Nat → Int32) (M_setting : Nat → Int32) (M_hole : Nat → Int32) (M_pipeAt : Nat → Int32) (M_chance : Nat → Int32) (M_tape : Nat → Int32) (M_letter : Nat → Int32) (M_letterAt : Nat → Int32) (M_told : Nat → Int32) (M_kept : Nat → Int32) (M_then : Nat → Int64) (M_row : Nat → Int32) (K : Int32 → (Nat → Int32) → Prop) (S : CallFix p m c cX5_tells 5 s ([.ref (a_M 0), .int p1, .int p2, .int p3] : List Value).toArray bg RX5) (hK : va_K D vwCl (tz cI cJ cC) s) (hDD : ∀ ws : va_W, ws.map (fun q => q.1) = [a_M 0, a_M 1, a_M 2, a_M 3, a_M 4, a_M 5, a_M 6, a_M 7, a_M 8, a_M 9, a_M 10, a_M 11, a_M 12, a_M 13] → va_D A ws) (hA : ∀ q, s.heap.size ≤ q → A q) (hE : EV G A s) (hKK : ∀ (x4 : Int32) (M_weight : Nat → Int32) (H : Heap) (locs : List Loc) (ls : Array Slot), K x4 M_weight → va_P D vwCl ((bX5 cI cJ cC a_M M_pipes M_used M_taped M_at M_statements M_hasImage M_isKeeping M_cursor M_nextAt M_nextMost M_rowMany M_refused M_setting M_hole M_pipeAt M_chance M_weight M_tape M_letter M_letterAt M_told M_kept M_then M_row)) H → va_S A s.heap H locs → lv_has ls 5 [(0, .ref (a_M 0)), (1, .int x1), (2, .int x2)] → W p l e ({ frames := 5, cells := 0, slots := 0, locals := 114 }) s m ([.ref (a_M 0), .int p1, .int p2, .int p3] : List Value).toArray below meth c H locs 0 0 Q (F0 m 39 ls [])) :
    ∀ (n : Nat) (x4 : Int32) (M_weight : Nat → Int32) (H : Heap) (locs : List Loc) (ls : Array Slot), lpX5_tells_3 K x1 x2 x3 M_setting n x4 M_weight → va_P D vwCl ((bX5 cI cJ cC a_M M_pipes M_used M_taped M_at M_statements M_hasImage M_isKeeping M_cursor M_nextAt M_nextMost M_rowMany M_refused M_setting M_hole M_pipeAt M_chance M_weight M_tape M_letter M_letterAt M_told M_kept M_then M_row)) H → va_S A s.heap H locs → lv_has ls 5 [(0, .ref (a_M 0)), (1, .int x1), (2, .int x2), (3, .int x3), (4, .int x4)] → W p l e ({ frames := 5, cells := 0, slots := 0, locals := 114 }) s m ([.ref (a_M 0), .int p1, .int p2, .int p3] : List Value).toArray below meth c H locs 0 0 Q (F0 m 3 ls []) := by
  obtain ⟨hx, hb, hml, hown, ht⟩ := id S
  intro n
  induction n with
  | zero =>
    intro x4 M_weight H locs ls h
    exact absurd h (by simp [lpX5_tells_3])
  | succ n ih =>
    intro x4 M_weight H locs ls h hP hS hl
    rw [lpX5_tells_3] at h
    refine lv_iload hx hb dX5_tells_3 (lv_at hl 4 rfl) ?_
    refine lv_aload_n hx hb dX5_tells_5 rfl (lv_at hl 0 rfl) ?_
    refine va_get (D := D) (ci := 5) (v := .ref (a_M 2)) (C := RX5) (T := TX5) (N := 24) hx hb ht inX5 hown hK hP 0 rfl rfl 1 (by decide) (ht _ fl_X5_13) (fun _ h9 => h9) rfl dX5_tells_6 ?_
    refine lv_iconst (v := (0 : Int32)) hx hb dX5_tells_9 (by decide) ?_
    refine va_iald hx hb hK hP 2 0 rfl rfl (by unfold vp_in; decide) dX5_tells_10 ?_
    refine zti (y := M_setting 0) (by rfl) ?_
    refine lv_icmp_ge (tgt := 39) hx hb dX5_tells_11 (by decide) (fun z => ?_) (fun z => ?_)
    · replace h := h.1 z
      exact hKK x4 M_weight _ _ _ h hP hS (lv_sub hl [0, 1, 2] rfl)
    · replace h := h.2 z
      refine lv_aload_n hx hb dX5_tells_14 rfl (lv_at hl 0 rfl) ?_
      refine va_get (D := D) (ci := 5) (v := .ref (a_M 6)) (C := RX5) (T := TX5) (N := 24) hx hb ht inX5 hown hK hP 0 rfl rfl 5 (by decide) (ht _ fl_X5_25) (fun _ h9 => h9) rfl dX5_tells_15 ?_
      refine lv_iload hx hb dX5_tells_18 (lv_at hl 4 rfl) ?_
      refine lv_dup2_11 hx hb dX5_tells_20 rfl rfl ?_
      obtain ⟨hin, h⟩ := h
      refine va_iald hx hb hK hP 6 0 rfl rfl hin dX5_tells_21 ?_
      refine lv_aload_n hx hb dX5_tells_22 rfl (lv_at hl 0 rfl) ?_
      refine lv_iload_n hx hb dX5_tells_23 rfl (lv_at hl 1 rfl) ?_
      refine lv_iload_n hx hb dX5_tells_24 rfl (lv_at hl 2 rfl) ?_
      refine lv_iload_n hx hb dX5_tells_25 rfl (lv_at hl 3 rfl) ?_
      refine lv_iload hx hb dX5_tells_26 (lv_at hl 4 rfl) ?_
      refine zci hA (hDD _ rfl) hS (zrunV (As := [.int x1, .int x2, .int x3, .int x4]) (rest := [.int (M_weight x4.toNatClampNeg), .int x4, .ref (a_M 6)]) S hK hA hE hP (hDD _ rfl) hS (mX5_tenths l D cI cJ cC G a_M _ M_pipes M_used M_taped M_at M_statements M_hasImage M_isKeeping M_cursor M_nextAt M_nextMost M_rowMany M_refused M_setting M_hole M_pipeAt M_chance M_weight M_tape M_letter M_letterAt M_told M_kept M_then M_row x1 x2 x3 x4 _ h) kX5_tenths ml_X5_184 ⟨rfl, rfl, by decide, by decide⟩ (q0 := 0) (ci := 5) rfl rfl rfl rfl hl.1 rfl (Nat.le_of_ble_eq_true rfl) dX5_tells_28 ⟨Nat.zero_le _, Nat.zero_le _⟩) (fun r_1 u H locs h hP1 hk1 hS => ?_)
      try dsimp only at h
      have hP : va_P D vwCl ((bX5 cI cJ cC a_M M_pipes M_used M_taped M_at M_statements M_hasImage M_isKeeping M_cursor M_nextAt M_nextMost M_rowMany M_refused M_setting M_hole M_pipeAt M_chance M_weight M_tape M_letter M_letterAt M_told M_kept M_then M_row)) H := hP1
      refine lv_imul hx hb dX5_tells_31 ?_
      obtain ⟨hin, h⟩ := h
      refine va_iast hx hb hK hP (hDD _ rfl) hS 6 0 rfl rfl hin dX5_tells_32 (fun H locs hP _ hS => ?_)
      have hP : va_P D vwCl ((bX5 cI cJ cC a_M M_pipes M_used M_taped M_at M_statements M_hasImage M_isKeeping M_cursor M_nextAt M_nextMost M_rowMany M_refused M_setting M_hole M_pipeAt M_chance (upd M_weight x4.toNatClampNeg ((M_weight x4.toNatClampNeg) * r_1)) M_tape M_letter M_letterAt M_told M_kept M_then M_row)) H := hP
      refine lv_iinc (v := x4 + (1 : Int32)) (lv' := [(4, .int (x4 + (1 : Int32))), (0, .ref (a_M 0)), (1, .int x1), (2, .int x2), (3, .int x3)]) hx hb dX5_tells_33 hl (k := 4) rfl (by rfl) (by decide) rfl (fun ls hl => ?_)
      refine lv_goto (tgt := 3) hx hb dX5_tells_36 (by decide) ?_
      exact ih (x4 + (1 : Int32)) (upd M_weight x4.toNatClampNeg ((M_weight x4.toNatClampNeg) * r_1)) _ _ _ h hP hS (lv_sub hl [1, 2, 3, 4, 0] rfl)
def wpX5_tells (post : Int32 → (Nat → Int32) → (Nat → Int32) → Prop) (M_used : Int32) (M_setting : Nat → Int32) (M_hole : Nat → Int32) (M_weight : Nat → Int32) (p1 : Int32) (p2 : Int32) (p3 : Int32) : Prop := ∃ n_2 : Nat, lpX5_tells_3 (fun (x4_3 : Int32) (M_weight_4 : Nat → Int32) => wpX5_divides (fun (M_weight_5 : Nat → Int32) => ((p1 = (4 : Int32) → (vp_in p2 48 ∧ (post (M_used + (1 : Int32)) (upd M_hole p2.toNatClampNeg (1 : Int32)) M_weight_5))) ∧ (¬ (p1 = (4 : Int32)) → (post (M_used + (1 : Int32)) M_hole M_weight_5)))) M_setting M_weight_4) p1 p2 p3 M_setting n_2 (0 : Int32) M_weight
set_option maxHeartbeats 4000000 in
set_option maxRecDepth 100000 in
theorem mX5_tells (l : Launch) (D : va_G) (cI cJ cC : ClassId) (G : Nat → Nat → Nat) (a_M : Nat → Nat) (sz : Nat) (M_pipes : Int32) (M_used : Int32) (M_taped : Int32) (M_at : Int32) (M_statements : Int32) (M_hasImage : Int32) (M_isKeeping : Int32) (M_cursor : Int32) (M_nextAt : Int32) (M_nextMost : Int64) (M_rowMany : Int32) (M_refused : Nat → Int32) (M_setting : Nat → Int32) (M_hole : Nat → Int32) (M_pipeAt : Nat → Int32) (M_chance : Nat → Int32) (M_weight : Nat → Int32) (M_tape : Nat → Int32) (M_letter : Nat → Int32) (M_letterAt : Nat → Int32) (M_told : Nat → Int32) (M_kept : Nat → Int32) (M_then : Nat → Int64) (M_row : Nat → Int32) (p1 : Int32) (p2 : Int32) (p3 : Int32) (post : Int32 → (Nat → Int32) → (Nat → Int32) → Prop) (h : wpX5_tells post M_used M_setting M_hole M_weight p1 p2 p3) : Met l yX5_tells (wz yX5_tells cX5_tells 5 none) ({ frames := 5, cells := 0, slots := 0, locals := 114 }) (va_Pc [.ref (a_M 0), .int p1, .int p2, .int p3] (PW D (tz cI cJ cC) G ((bX5 cI cJ cC a_M M_pipes M_used M_taped M_at M_statements M_hasImage M_isKeeping M_cursor M_nextAt M_nextMost M_rowMany M_refused M_setting M_hole M_pipeAt M_chance M_weight M_tape M_letter M_letterAt M_told M_kept M_then M_row)) sz)) (va_Qv (fun (u : Int32 × (Nat → Int32) × (Nat → Int32)) => post u.1 u.2.1 u.2.2) (fun (u : Int32 × (Nat → Int32) × (Nat → Int32)) t => va_P D vwCl ((bX5 cI cJ cC a_M M_pipes u.1 M_taped M_at M_statements M_hasImage M_isKeeping M_cursor M_nextAt M_nextMost M_rowMany M_refused M_setting u.2.1 M_pipeAt M_chance u.2.2 M_tape M_letter M_letterAt M_told M_kept M_then M_row)) t.heap) (va_A ((bX5 cI cJ cC a_M M_pipes M_used M_taped M_at M_statements M_hasImage M_isKeeping M_cursor M_nextAt M_nextMost M_rowMany M_refused M_setting M_hole M_pipeAt M_chance M_weight M_tape M_letter M_letterAt M_told M_kept M_then M_row)) sz)) 0 0 (va_A ((bX5 cI cJ cC a_M M_pipes M_used M_taped M_at M_statements M_hasImage M_isKeeping M_cursor M_nextAt M_nextMost M_rowMany M_refused M_setting M_hole M_pipeAt M_chance M_weight M_tape M_letter M_letterAt M_told M_kept M_then M_row)) sz) := by
  refine zmv (gw := fun (u : Int32 × (Nat → Int32) × (Nat → Int32)) => (bX5 cI cJ cC a_M M_pipes u.1 M_taped M_at M_statements M_hasImage M_isKeeping M_cursor M_nextAt M_nextMost M_rowMany M_refused M_setting u.2.1 M_pipeAt M_chance u.2.2 M_tape M_letter M_letterAt M_told M_kept M_then M_row)) (plainFor_of_name (by decide)) (Nat.le_of_ble_eq_true rfl) ?_
  intro p e s m below meth c A Q ls S hK hD hA hE hP hl hret
  obtain ⟨hx, hb, hml, hown, ht⟩ := id S
  have hS : va_S A s.heap s.heap [] := va_S.rf
  have hDD : ∀ ws : va_W, ws.map (fun q => q.1) = [a_M 0, a_M 1, a_M 2, a_M 3, a_M 4, a_M 5, a_M 6, a_M 7, a_M 8, a_M 9, a_M 10, a_M 11, a_M 12, a_M 13] → va_D A ws := fun ws hw => zD hD (hw.trans rfl)
  have hl : lv_has ls 5 [(0, .ref (a_M 0)), (1, .int p1), (2, .int p2), (3, .int p3)] := hl
  unfold wpX5_tells at h
  refine lv_iconst (v := (0 : Int32)) hx hb dX5_tells_0 (by decide) ?_
  refine lv_istore (lv' := [(4, .int (0 : Int32)), (0, .ref (a_M 0)), (1, .int p1), (2, .int p2), (3, .int p3)]) hx hb dX5_tells_1 hl (by decide) rfl (fun ls hl => ?_)
  obtain ⟨n_2, h⟩ := h
  refine wX5_tells_3 l D cI cJ cC G a_M p1 p2 p3 p1 p2 p3 M_pipes M_used M_taped M_at M_statements M_hasImage M_isKeeping M_cursor M_nextAt M_nextMost M_rowMany M_refused M_setting M_hole M_pipeAt M_chance M_tape M_letter M_letterAt M_told M_kept M_then M_row _ S hK hDD hA hE (fun x4_3 M_weight_4 H locs ls h hP hS hl => ?_) n_2 (0 : Int32) M_weight _ _ _ h hP hS (lv_sub hl [1, 2, 3, 4, 0] rfl)
  try dsimp only at h
  refine lv_aload_n hx hb dX5_tells_39 rfl (lv_at hl 0 rfl) ?_
  refine zcv hA (hDD _ rfl) hS (zrunV (As := []) (rest := []) S hK hA hE hP (hDD _ rfl) hS (mX5_divides l D cI cJ cC G a_M _ M_pipes M_used M_taped M_at M_statements M_hasImage M_isKeeping M_cursor M_nextAt M_nextMost M_rowMany M_refused M_setting M_hole M_pipeAt M_chance M_weight_4 M_tape M_letter M_letterAt M_told M_kept M_then M_row _ h) kX5_divides ml_X5_188 ⟨rfl, rfl, by decide, by decide⟩ (q0 := 0) (ci := 5) rfl rfl rfl rfl hl.1 rfl (Nat.le_of_ble_eq_true rfl) dX5_tells_40 ⟨Nat.zero_le _, Nat.zero_le _⟩) (fun M_weight_5 H locs h hP1 hk1 hS => ?_)
  try dsimp only at h
  have hP : va_P D vwCl ((bX5 cI cJ cC a_M M_pipes M_used M_taped M_at M_statements M_hasImage M_isKeeping M_cursor M_nextAt M_nextMost M_rowMany M_refused M_setting M_hole M_pipeAt M_chance M_weight_5 M_tape M_letter M_letterAt M_told M_kept M_then M_row)) H := hP1
  refine lv_aload_n hx hb dX5_tells_43 rfl (lv_at hl 0 rfl) ?_
  refine lv_dup hx hb dX5_tells_44 rfl ?_
  refine va_get (D := D) (ci := 5) (v := .int M_used) (C := RX5) (T := TX5) (N := 24) hx hb ht inX5 hown hK hP 0 rfl rfl 7 (by decide) (ht _ fl_X5_55) (fun _ h9 => h9) rfl dX5_tells_45 ?_
  refine lv_iconst (v := (1 : Int32)) hx hb dX5_tells_48 (by decide) ?_
  refine lv_iadd hx hb dX5_tells_49 ?_
  refine va_put (D := D) (ci := 5) (v := .int (M_used + (1 : Int32))) (ty := .int) (C := RX5) (T := TX5) (N := 24) hx hb ht inX5 tyX5 tyX5_ok nmX5 hown hK hP (hDD _ rfl) hS 0 rfl rfl 7 (by decide) (ht _ fl_X5_55) (fun _ h9 => h9) rfl (by decide +kernel) rfl rfl (Nat.le_of_ble_eq_true rfl) dX5_tells_50 (fun H locs hP _ hS => ?_)
  have hP : va_P D vwCl ((bX5 cI cJ cC a_M M_pipes (M_used + (1 : Int32)) M_taped M_at M_statements M_hasImage M_isKeeping M_cursor M_nextAt M_nextMost M_rowMany M_refused M_setting M_hole M_pipeAt M_chance M_weight_5 M_tape M_letter M_letterAt M_told M_kept M_then M_row)) H := hP
  refine lv_iload_n hx hb dX5_tells_53 rfl (lv_at hl 1 rfl) ?_
  refine lv_iconst (v := (4 : Int32)) hx hb dX5_tells_54 (by decide) ?_
  refine lv_icmp_ne (tgt := 65) hx hb dX5_tells_55 (by decide) (fun z => ?_) (fun z => ?_)
  · replace h := h.2 z
    exact hret (M_used + (1 : Int32), M_hole, M_weight_5) _ _ _ _ h hP hS dX5_tells_65
  · replace h := h.1 z
    refine lv_aload_n hx hb dX5_tells_58 rfl (lv_at hl 0 rfl) ?_
    refine va_get (D := D) (ci := 5) (v := .ref (a_M 3)) (C := RX5) (T := TX5) (N := 24) hx hb ht inX5 hown hK hP 0 rfl rfl 2 (by decide) (ht _ fl_X5_16) (fun _ h9 => h9) rfl dX5_tells_59 ?_
    refine lv_iload_n hx hb dX5_tells_62 rfl (lv_at hl 2 rfl) ?_
    refine lv_iconst (v := (1 : Int32)) hx hb dX5_tells_63 (by decide) ?_
    obtain ⟨hin, h⟩ := h
    refine va_iast hx hb hK hP (hDD _ rfl) hS 3 0 rfl rfl hin dX5_tells_64 (fun H locs hP _ hS => ?_)
    have hP : va_P D vwCl ((bX5 cI cJ cC a_M M_pipes (M_used + (1 : Int32)) M_taped M_at M_statements M_hasImage M_isKeeping M_cursor M_nextAt M_nextMost M_rowMany M_refused M_setting (upd M_hole p2.toNatClampNeg (1 : Int32)) M_pipeAt M_chance M_weight_5 M_tape M_letter M_letterAt M_told M_kept M_then M_row)) H := hP
    exact hret (M_used + (1 : Int32), upd M_hole p2.toNatClampNeg (1 : Int32), M_weight_5) _ _ _ _ h hP hS dX5_tells_65
def wpX5_comesPipe (post : Int32 → (Nat → Int32) → (Nat → Int32) → Prop) (M_pipes : Int32) (M_pipeAt : Nat → Int32) (M_chance : Nat → Int32) (p1 : Int32) (p2 : Int32) : Prop := vp_in M_pipes 6 ∧ (vp_in M_pipes 6 ∧ (post (M_pipes + (1 : Int32)) (upd M_pipeAt M_pipes.toNatClampNeg p1) (upd M_chance M_pipes.toNatClampNeg p2)))
set_option maxHeartbeats 4000000 in
set_option maxRecDepth 100000 in
theorem mX5_comesPipe (l : Launch) (D : va_G) (cI cJ cC : ClassId) (G : Nat → Nat → Nat) (a_M : Nat → Nat) (sz : Nat) (M_pipes : Int32) (M_used : Int32) (M_taped : Int32) (M_at : Int32) (M_statements : Int32) (M_hasImage : Int32) (M_isKeeping : Int32) (M_cursor : Int32) (M_nextAt : Int32) (M_nextMost : Int64) (M_rowMany : Int32) (M_refused : Nat → Int32) (M_setting : Nat → Int32) (M_hole : Nat → Int32) (M_pipeAt : Nat → Int32) (M_chance : Nat → Int32) (M_weight : Nat → Int32) (M_tape : Nat → Int32) (M_letter : Nat → Int32) (M_letterAt : Nat → Int32) (M_told : Nat → Int32) (M_kept : Nat → Int32) (M_then : Nat → Int64) (M_row : Nat → Int32) (p1 : Int32) (p2 : Int32) (post : Int32 → (Nat → Int32) → (Nat → Int32) → Prop) (h : wpX5_comesPipe post M_pipes M_pipeAt M_chance p1 p2) : Met l yX5_comesPipe (wz yX5_comesPipe cX5_comesPipe 3 none) ({ frames := 0, cells := 0, slots := 0, locals := 0 }) (va_Pc [.ref (a_M 0), .int p1, .int p2] (PW D (tz cI cJ cC) G ((bX5 cI cJ cC a_M M_pipes M_used M_taped M_at M_statements M_hasImage M_isKeeping M_cursor M_nextAt M_nextMost M_rowMany M_refused M_setting M_hole M_pipeAt M_chance M_weight M_tape M_letter M_letterAt M_told M_kept M_then M_row)) sz)) (va_Qv (fun (u : Int32 × (Nat → Int32) × (Nat → Int32)) => post u.1 u.2.1 u.2.2) (fun (u : Int32 × (Nat → Int32) × (Nat → Int32)) t => va_P D vwCl ((bX5 cI cJ cC a_M u.1 M_used M_taped M_at M_statements M_hasImage M_isKeeping M_cursor M_nextAt M_nextMost M_rowMany M_refused M_setting M_hole u.2.1 u.2.2 M_weight M_tape M_letter M_letterAt M_told M_kept M_then M_row)) t.heap) (va_A ((bX5 cI cJ cC a_M M_pipes M_used M_taped M_at M_statements M_hasImage M_isKeeping M_cursor M_nextAt M_nextMost M_rowMany M_refused M_setting M_hole M_pipeAt M_chance M_weight M_tape M_letter M_letterAt M_told M_kept M_then M_row)) sz)) 0 0 (va_A ((bX5 cI cJ cC a_M M_pipes M_used M_taped M_at M_statements M_hasImage M_isKeeping M_cursor M_nextAt M_nextMost M_rowMany M_refused M_setting M_hole M_pipeAt M_chance M_weight M_tape M_letter M_letterAt M_told M_kept M_then M_row)) sz) := by
  refine zmv (gw := fun (u : Int32 × (Nat → Int32) × (Nat → Int32)) => (bX5 cI cJ cC a_M u.1 M_used M_taped M_at M_statements M_hasImage M_isKeeping M_cursor M_nextAt M_nextMost M_rowMany M_refused M_setting M_hole u.2.1 u.2.2 M_weight M_tape M_letter M_letterAt M_told M_kept M_then M_row)) (plainFor_of_name (by decide)) (Nat.le_of_ble_eq_true rfl) ?_
  intro p e s m below meth c A Q ls S hK hD hA hE hP hl hret
  obtain ⟨hx, hb, hml, hown, ht⟩ := id S
  have hS : va_S A s.heap s.heap [] := va_S.rf
  have hDD : ∀ ws : va_W, ws.map (fun q => q.1) = [a_M 0, a_M 1, a_M 2, a_M 3, a_M 4, a_M 5, a_M 6, a_M 7, a_M 8, a_M 9, a_M 10, a_M 11, a_M 12, a_M 13] → va_D A ws := fun ws hw => zD hD (hw.trans rfl)
  have hl : lv_has ls 3 [(0, .ref (a_M 0)), (1, .int p1), (2, .int p2)] := hl
  unfold wpX5_comesPipe at h
  refine lv_aload_n hx hb dX5_comesPipe_0 rfl (lv_at hl 0 rfl) ?_
  refine va_get (D := D) (ci := 5) (v := .ref (a_M 4)) (C := RX5) (T := TX5) (N := 24) hx hb ht inX5 hown hK hP 0 rfl rfl 3 (by decide) (ht _ fl_X5_19) (fun _ h9 => h9) rfl dX5_comesPipe_1 ?_
  refine lv_aload_n hx hb dX5_comesPipe_4 rfl (lv_at hl 0 rfl) ?_
  refine va_get (D := D) (ci := 5) (v := .int M_pipes) (C := RX5) (T := TX5) (N := 24) hx hb ht inX5 hown hK hP 0 rfl rfl 6 (by decide) (ht _ fl_X5_128) (fun _ h9 => h9) rfl dX5_comesPipe_5 ?_
  refine lv_iload_n hx hb dX5_comesPipe_8 rfl (lv_at hl 1 rfl) ?_
  obtain ⟨hin, h⟩ := h
  refine va_iast hx hb hK hP (hDD _ rfl) hS 4 0 rfl rfl hin dX5_comesPipe_9 (fun H locs hP _ hS => ?_)
  have hP : va_P D vwCl ((bX5 cI cJ cC a_M M_pipes M_used M_taped M_at M_statements M_hasImage M_isKeeping M_cursor M_nextAt M_nextMost M_rowMany M_refused M_setting M_hole (upd M_pipeAt M_pipes.toNatClampNeg p1) M_chance M_weight M_tape M_letter M_letterAt M_told M_kept M_then M_row)) H := hP
  refine lv_aload_n hx hb dX5_comesPipe_10 rfl (lv_at hl 0 rfl) ?_
  refine va_get (D := D) (ci := 5) (v := .ref (a_M 5)) (C := RX5) (T := TX5) (N := 24) hx hb ht inX5 hown hK hP 0 rfl rfl 4 (by decide) (ht _ fl_X5_22) (fun _ h9 => h9) rfl dX5_comesPipe_11 ?_
  refine lv_aload_n hx hb dX5_comesPipe_14 rfl (lv_at hl 0 rfl) ?_
  refine va_get (D := D) (ci := 5) (v := .int M_pipes) (C := RX5) (T := TX5) (N := 24) hx hb ht inX5 hown hK hP 0 rfl rfl 6 (by decide) (ht _ fl_X5_128) (fun _ h9 => h9) rfl dX5_comesPipe_15 ?_
  refine lv_iload_n hx hb dX5_comesPipe_18 rfl (lv_at hl 2 rfl) ?_
  obtain ⟨hin, h⟩ := h
  refine va_iast hx hb hK hP (hDD _ rfl) hS 5 0 rfl rfl hin dX5_comesPipe_19 (fun H locs hP _ hS => ?_)
  have hP : va_P D vwCl ((bX5 cI cJ cC a_M M_pipes M_used M_taped M_at M_statements M_hasImage M_isKeeping M_cursor M_nextAt M_nextMost M_rowMany M_refused M_setting M_hole (upd M_pipeAt M_pipes.toNatClampNeg p1) (upd M_chance M_pipes.toNatClampNeg p2) M_weight M_tape M_letter M_letterAt M_told M_kept M_then M_row)) H := hP
  refine lv_aload_n hx hb dX5_comesPipe_20 rfl (lv_at hl 0 rfl) ?_
  refine lv_dup hx hb dX5_comesPipe_21 rfl ?_
  refine va_get (D := D) (ci := 5) (v := .int M_pipes) (C := RX5) (T := TX5) (N := 24) hx hb ht inX5 hown hK hP 0 rfl rfl 6 (by decide) (ht _ fl_X5_128) (fun _ h9 => h9) rfl dX5_comesPipe_22 ?_
  refine lv_iconst (v := (1 : Int32)) hx hb dX5_comesPipe_25 (by decide) ?_
  refine lv_iadd hx hb dX5_comesPipe_26 ?_
  refine va_put (D := D) (ci := 5) (v := .int (M_pipes + (1 : Int32))) (ty := .int) (C := RX5) (T := TX5) (N := 24) hx hb ht inX5 tyX5 tyX5_ok nmX5 hown hK hP (hDD _ rfl) hS 0 rfl rfl 6 (by decide) (ht _ fl_X5_128) (fun _ h9 => h9) rfl (by decide +kernel) rfl rfl (Nat.le_of_ble_eq_true rfl) dX5_comesPipe_27 (fun H locs hP _ hS => ?_)
  have hP : va_P D vwCl ((bX5 cI cJ cC a_M (M_pipes + (1 : Int32)) M_used M_taped M_at M_statements M_hasImage M_isKeeping M_cursor M_nextAt M_nextMost M_rowMany M_refused M_setting M_hole (upd M_pipeAt M_pipes.toNatClampNeg p1) (upd M_chance M_pipes.toNatClampNeg p2) M_weight M_tape M_letter M_letterAt M_told M_kept M_then M_row)) H := hP
  exact hret (M_pipes + (1 : Int32), upd M_pipeAt M_pipes.toNatClampNeg p1, upd M_chance M_pipes.toNatClampNeg p2) _ _ _ _ h hP hS dX5_comesPipe_30
def wpX5_comes (post : Int32 → Int32 → Int32 → (Nat → Int32) → (Nat → Int32) → (Nat → Int32) → (Nat → Int32) → (Nat → Int32) → Prop) (M_pipes : Int32) (M_used : Int32) (M_setting : Nat → Int32) (M_hole : Nat → Int32) (M_pipeAt : Nat → Int32) (M_chance : Nat → Int32) (M_weight : Nat → Int32) (M_letter : Nat → Int32) (M_told : Nat → Int32) (p1 : Int32) : Prop := vp_in p1 48 ∧ ((((M_letter p1.toNatClampNeg) = (100 : Int32) → (vp_in ((3 : Int32) * p1) 144 ∧ (wpX5_comesSet (fun (r_1 : Int32) (M_used_2 : Int32) (M_setting_3 : Nat → Int32) (M_weight_4 : Nat → Int32) => narrow .boolean (.int r_1) = .int r_1 ∧ post r_1 M_pipes M_used_2 M_setting_3 M_hole M_pipeAt M_chance M_weight_4) M_used M_setting M_weight (2 : Int32) (M_told ((3 : Int32) * p1).toNatClampNeg)))) ∧ (¬ ((M_letter p1.toNatClampNeg) = (100 : Int32)) → ((((M_letter p1.toNatClampNeg) = (108 : Int32) → (vp_in ((3 : Int32) * p1) 144 ∧ (wpX5_comesSet (fun (r_5 : Int32) (M_used_6 : Int32) (M_setting_7 : Nat → Int32) (M_weight_8 : Nat → Int32) => narrow .boolean (.int r_5) = .int r_5 ∧ post r_5 M_pipes M_used_6 M_setting_7 M_hole M_pipeAt M_chance M_weight_8) M_used M_setting M_weight (3 : Int32) (M_told ((3 : Int32) * p1).toNatClampNeg)))) ∧ (¬ ((M_letter p1.toNatClampNeg) = (108 : Int32)) → ((((M_letter p1.toNatClampNeg) = (110 : Int32) → (vp_in ((3 : Int32) * p1) 144 ∧ (wpX5_isInch (fun (r_9 : Int32) => ((r_9 = (0 : Int32) → (post (0 : Int32) M_pipes M_used M_setting M_hole M_pipeAt M_chance M_weight)) ∧ (¬ (r_9 = (0 : Int32)) → (vp_in ((3 : Int32) * p1) 144 ∧ (vp_in (((3 : Int32) * p1) + (1 : Int32)) 144 ∧ (wpX5_leftBy (fun (r_10 : Int32) => ((r_10 = (0 : Int32) → (post (0 : Int32) M_pipes M_used M_setting M_hole M_pipeAt M_chance M_weight)) ∧ (¬ (r_10 = (0 : Int32)) → (vp_in ((3 : Int32) * p1) 144 ∧ (vp_in (((3 : Int32) * p1) + (1 : Int32)) 144 ∧ (wpX5_nails (fun (M_hole_11 : Nat → Int32) (M_weight_12 : Nat → Int32) => post (1 : Int32) M_pipes M_used M_setting M_hole_11 M_pipeAt M_chance M_weight_12) M_setting M_hole M_weight (M_told ((3 : Int32) * p1).toNatClampNeg) (M_told (((3 : Int32) * p1) + (1 : Int32)).toNatClampNeg))))))) M_setting M_weight (M_told ((3 : Int32) * p1).toNatClampNeg) (M_told (((3 : Int32) * p1) + (1 : Int32)).toNatClampNeg))))))) (M_told ((3 : Int32) * p1).toNatClampNeg)))) ∧ (¬ ((M_letter p1.toNatClampNeg) = (110 : Int32)) → ((((M_letter p1.toNatClampNeg) = (115 : Int32) → (vp_in ((3 : Int32) * p1) 144 ∧ (wpX5_comesSet (fun (r_13 : Int32) (M_used_14 : Int32) (M_setting_15 : Nat → Int32) (M_weight_16 : Nat → Int32) => ((r_13 = (0 : Int32) → (post (0 : Int32) M_pipes M_used_14 M_setting_15 M_hole M_pipeAt M_chance M_weight_16)) ∧ (¬ (r_13 = (0 : Int32)) → (vp_in (((3 : Int32) * p1) + (1 : Int32)) 144 ∧ (wpX5_comesSet (fun (r_17 : Int32) (M_used_18 : Int32) (M_setting_19 : Nat → Int32) (M_weight_20 : Nat → Int32) => ((r_17 = (0 : Int32) → (post (0 : Int32) M_pipes M_used_18 M_setting_19 M_hole M_pipeAt M_chance M_weight_20)) ∧ (¬ (r_17 = (0 : Int32)) → (post (1 : Int32) M_pipes M_used_18 M_setting_19 M_hole M_pipeAt M_chance M_weight_20)))) M_used_14 M_setting_15 M_weight_16 (1 : Int32) (M_told (((3 : Int32) * p1) + (1 : Int32)).toNatClampNeg)))))) M_used M_setting M_weight (0 : Int32) (M_told ((3 : Int32) * p1).toNatClampNeg)))) ∧ (¬ ((M_letter p1.toNatClampNeg) = (115 : Int32)) → ((((M_letter p1.toNatClampNeg) = (116 : Int32) → (vp_in ((3 : Int32) * p1) 144 ∧ ((((4 : Int32) < (M_told ((3 : Int32) * p1).toNatClampNeg) → (post (0 : Int32) M_pipes M_used M_setting M_hole M_pipeAt M_chance M_weight)) ∧ (¬ ((4 : Int32) < (M_told ((3 : Int32) * p1).toNatClampNeg)) → (vp_in (((3 : Int32) * p1) + (1 : Int32)) 144 ∧ (wpX5_isInch (fun (r_21 : Int32) => ((r_21 = (0 : Int32) → (post (0 : Int32) M_pipes M_used M_setting M_hole M_pipeAt M_chance M_weight)) ∧ (¬ (r_21 = (0 : Int32)) → (((M_used = (6 : Int32) → (post (0 : Int32) M_pipes M_used M_setting M_hole M_pipeAt M_chance M_weight)) ∧ (¬ (M_used = (6 : Int32)) → (vp_in ((3 : Int32) * p1) 144 ∧ (vp_in (((3 : Int32) * p1) + (1 : Int32)) 144 ∧ (vp_in (((3 : Int32) * p1) + (2 : Int32)) 144 ∧ (wpX5_tells (fun (M_used_22 : Int32) (M_hole_23 : Nat → Int32) (M_weight_24 : Nat → Int32) => post (1 : Int32) M_pipes M_used_22 M_setting M_hole_23 M_pipeAt M_chance M_weight_24) M_used M_setting M_hole M_weight (M_told ((3 : Int32) * p1).toNatClampNeg) (M_told (((3 : Int32) * p1) + (1 : Int32)).toNatClampNeg) (M_told (((3 : Int32) * p1) + (2 : Int32)).toNatClampNeg))))))))))) (M_told (((3 : Int32) * p1) + (1 : Int32)).toNatClampNeg)))))))) ∧ (¬ ((M_letter p1.toNatClampNeg) = (116 : Int32)) → (vp_in ((3 : Int32) * p1) 144 ∧ (wpX5_isInch (fun (r_25 : Int32) => ((r_25 = (0 : Int32) → (post (0 : Int32) M_pipes M_used M_setting M_hole M_pipeAt M_chance M_weight)) ∧ (¬ (r_25 = (0 : Int32)) → (((M_pipes = (6 : Int32) → (post (0 : Int32) M_pipes M_used M_setting M_hole M_pipeAt M_chance M_weight)) ∧ (¬ (M_pipes = (6 : Int32)) → (vp_in ((3 : Int32) * p1) 144 ∧ (vp_in (((3 : Int32) * p1) + (1 : Int32)) 144 ∧ (wpX5_comesPipe (fun (M_pipes_26 : Int32) (M_pipeAt_27 : Nat → Int32) (M_chance_28 : Nat → Int32) => post (1 : Int32) M_pipes_26 M_used M_setting M_hole M_pipeAt_27 M_chance_28 M_weight) M_pipes M_pipeAt M_chance (M_told ((3 : Int32) * p1).toNatClampNeg) (M_told (((3 : Int32) * p1) + (1 : Int32)).toNatClampNeg)))))))))) (M_told ((3 : Int32) * p1).toNatClampNeg))))))))))))))))))
set_option maxHeartbeats 4000000 in
set_option maxRecDepth 100000 in
theorem mX5_comes (l : Launch) (D : va_G) (cI cJ cC : ClassId) (G : Nat → Nat → Nat) (a_M : Nat → Nat) (sz : Nat) (M_pipes : Int32) (M_used : Int32) (M_taped : Int32) (M_at : Int32) (M_statements : Int32) (M_hasImage : Int32) (M_isKeeping : Int32) (M_cursor : Int32) (M_nextAt : Int32) (M_nextMost : Int64) (M_rowMany : Int32) (M_refused : Nat → Int32) (M_setting : Nat → Int32) (M_hole : Nat → Int32) (M_pipeAt : Nat → Int32) (M_chance : Nat → Int32) (M_weight : Nat → Int32) (M_tape : Nat → Int32) (M_letter : Nat → Int32) (M_letterAt : Nat → Int32) (M_told : Nat → Int32) (M_kept : Nat → Int32) (M_then : Nat → Int64) (M_row : Nat → Int32) (p1 : Int32) (post : Int32 → Int32 → Int32 → (Nat → Int32) → (Nat → Int32) → (Nat → Int32) → (Nat → Int32) → (Nat → Int32) → Prop) (h : wpX5_comes post M_pipes M_used M_setting M_hole M_pipeAt M_chance M_weight M_letter M_told p1) : Met l yX5_comes (wz yX5_comes cX5_comes 3 (some .boolean)) ({ frames := 6, cells := 0, slots := 0, locals := 138 }) (va_Pc [.ref (a_M 0), .int p1] (PW D (tz cI cJ cC) G ((bX5 cI cJ cC a_M M_pipes M_used M_taped M_at M_statements M_hasImage M_isKeeping M_cursor M_nextAt M_nextMost M_rowMany M_refused M_setting M_hole M_pipeAt M_chance M_weight M_tape M_letter M_letterAt M_told M_kept M_then M_row)) sz)) (va_Qi (fun (r : Int32) (u : Int32 × Int32 × (Nat → Int32) × (Nat → Int32) × (Nat → Int32) × (Nat → Int32) × (Nat → Int32)) => post r u.1 u.2.1 u.2.2.1 u.2.2.2.1 u.2.2.2.2.1 u.2.2.2.2.2.1 u.2.2.2.2.2.2) (fun (u : Int32 × Int32 × (Nat → Int32) × (Nat → Int32) × (Nat → Int32) × (Nat → Int32) × (Nat → Int32)) t => va_P D vwCl ((bX5 cI cJ cC a_M u.1 u.2.1 M_taped M_at M_statements M_hasImage M_isKeeping M_cursor M_nextAt M_nextMost M_rowMany M_refused u.2.2.1 u.2.2.2.1 u.2.2.2.2.1 u.2.2.2.2.2.1 u.2.2.2.2.2.2 M_tape M_letter M_letterAt M_told M_kept M_then M_row)) t.heap) (va_A ((bX5 cI cJ cC a_M M_pipes M_used M_taped M_at M_statements M_hasImage M_isKeeping M_cursor M_nextAt M_nextMost M_rowMany M_refused M_setting M_hole M_pipeAt M_chance M_weight M_tape M_letter M_letterAt M_told M_kept M_then M_row)) sz)) 0 0 (va_A ((bX5 cI cJ cC a_M M_pipes M_used M_taped M_at M_statements M_hasImage M_isKeeping M_cursor M_nextAt M_nextMost M_rowMany M_refused M_setting M_hole M_pipeAt M_chance M_weight M_tape M_letter M_letterAt M_told M_kept M_then M_row)) sz) := by
  refine zmi (gw := fun (u : Int32 × Int32 × (Nat → Int32) × (Nat → Int32) × (Nat → Int32) × (Nat → Int32) × (Nat → Int32)) => (bX5 cI cJ cC a_M u.1 u.2.1 M_taped M_at M_statements M_hasImage M_isKeeping M_cursor M_nextAt M_nextMost M_rowMany M_refused u.2.2.1 u.2.2.2.1 u.2.2.2.2.1 u.2.2.2.2.2.1 u.2.2.2.2.2.2 M_tape M_letter M_letterAt M_told M_kept M_then M_row)) (plainFor_of_name (by decide)) (Nat.le_of_ble_eq_true rfl) ?_
  intro p e s m below meth c A Q ls S hK hD hA hE hP hl hret
  obtain ⟨hx, hb, hml, hown, ht⟩ := id S
  have hS : va_S A s.heap s.heap [] := va_S.rf
  have hDD : ∀ ws : va_W, ws.map (fun q => q.1) = [a_M 0, a_M 1, a_M 2, a_M 3, a_M 4, a_M 5, a_M 6, a_M 7, a_M 8, a_M 9, a_M 10, a_M 11, a_M 12, a_M 13] → va_D A ws := fun ws hw => zD hD (hw.trans rfl)
  have hl : lv_has ls 3 [(0, .ref (a_M 0)), (1, .int p1)] := hl
  unfold wpX5_comes at h
  refine lv_iconst (v := (3 : Int32)) hx hb dX5_comes_0 (by decide) ?_
  refine lv_iload_n hx hb dX5_comes_1 rfl (lv_at hl 1 rfl) ?_
  refine lv_imul hx hb dX5_comes_2 ?_
  refine lv_istore_n (lv' := [(2, .int ((3 : Int32) * p1)), (0, .ref (a_M 0)), (1, .int p1)]) hx hb dX5_comes_3 rfl hl (by decide) rfl (fun ls hl => ?_)
  refine lv_aload_n hx hb dX5_comes_4 rfl (lv_at hl 1 rfl) ?_
  refine va_get (D := D) (ci := 5) (v := .ref (a_M 8)) (C := RX5) (T := TX5) (N := 24) hx hb ht inX5 hown hK hP 0 rfl rfl 9 (by decide) (ht _ fl_X5_31) (fun _ h9 => h9) rfl dX5_comes_5 ?_
  refine lv_iload_n hx hb dX5_comes_8 rfl (lv_at hl 2 rfl) ?_
  obtain ⟨hin, h⟩ := h
  refine va_iald hx hb hK hP 8 0 rfl rfl hin dX5_comes_9 ?_
  by_cases z0 : (M_letter p1.toNatClampNeg) = (100 : Int32)
  · replace h := h.1 z0
    refine lv_lookup (off := 98) (tgt := 108) hx hb dX5_comes_10 (by decide) (by rw [z0]; decide) (by decide) ?_
    refine lv_aload_n hx hb dX5_comes_108 rfl (lv_at hl 1 rfl) ?_
    refine lv_iconst (v := (2 : Int32)) hx hb dX5_comes_109 (by decide) ?_
    refine lv_aload_n hx hb dX5_comes_110 rfl (lv_at hl 1 rfl) ?_
    refine va_get (D := D) (ci := 5) (v := .ref (a_M 10)) (C := RX5) (T := TX5) (N := 24) hx hb ht inX5 hown hK hP 0 rfl rfl 11 (by decide) (ht _ fl_X5_37) (fun _ h9 => h9) rfl dX5_comes_111 ?_
    refine lv_iload_n hx hb dX5_comes_114 rfl (lv_at hl 0 rfl) ?_
    obtain ⟨hin, h⟩ := h
    refine va_iald hx hb hK hP 10 0 rfl rfl hin dX5_comes_115 ?_
    refine zci hA (hDD _ rfl) hS (zrunV (As := [.int (2 : Int32), .int (M_told ((3 : Int32) * p1).toNatClampNeg)]) (rest := []) S hK hA hE hP (hDD _ rfl) hS (mX5_comesSet l D cI cJ cC G a_M _ M_pipes M_used M_taped M_at M_statements M_hasImage M_isKeeping M_cursor M_nextAt M_nextMost M_rowMany M_refused M_setting M_hole M_pipeAt M_chance M_weight M_tape M_letter M_letterAt M_told M_kept M_then M_row (2 : Int32) (M_told ((3 : Int32) * p1).toNatClampNeg) _ h) kX5_comesSet ml_X5_110 ⟨rfl, rfl, by decide, by decide⟩ (q0 := 0) (ci := 5) rfl rfl rfl rfl hl.1 rfl (Nat.le_of_ble_eq_true rfl) dX5_comes_116 ⟨Nat.zero_le _, Nat.zero_le _⟩) (fun r_1 u H locs h hP1 hk1 hS => ?_)
    obtain ⟨M_used_2, M_setting_3, M_weight_4⟩ := u
    dsimp only at h
    have hP : va_P D vwCl ((bX5 cI cJ cC a_M M_pipes M_used_2 M_taped M_at M_statements M_hasImage M_isKeeping M_cursor M_nextAt M_nextMost M_rowMany M_refused M_setting_3 M_hole M_pipeAt M_chance M_weight_4 M_tape M_letter M_letterAt M_told M_kept M_then M_row)) H := hP1
    exact hret r_1 (M_pipes, M_used_2, M_setting_3, M_hole, M_pipeAt, M_chance, M_weight_4) _ _ _ _ h.1 h.2 hP hS dX5_comes_119
  · replace h := h.2 z0
    by_cases z1 : (M_letter p1.toNatClampNeg) = (108 : Int32)
    · replace h := h.1 z1
      refine lv_lookup (off := 86) (tgt := 96) hx hb dX5_comes_10 (by decide) (by rw [z1]; decide) (by decide) ?_
      refine lv_aload_n hx hb dX5_comes_96 rfl (lv_at hl 1 rfl) ?_
      refine lv_iconst (v := (3 : Int32)) hx hb dX5_comes_97 (by decide) ?_
      refine lv_aload_n hx hb dX5_comes_98 rfl (lv_at hl 1 rfl) ?_
      refine va_get (D := D) (ci := 5) (v := .ref (a_M 10)) (C := RX5) (T := TX5) (N := 24) hx hb ht inX5 hown hK hP 0 rfl rfl 11 (by decide) (ht _ fl_X5_37) (fun _ h9 => h9) rfl dX5_comes_99 ?_
      refine lv_iload_n hx hb dX5_comes_102 rfl (lv_at hl 0 rfl) ?_
      obtain ⟨hin, h⟩ := h
      refine va_iald hx hb hK hP 10 0 rfl rfl hin dX5_comes_103 ?_
      refine zci hA (hDD _ rfl) hS (zrunV (As := [.int (3 : Int32), .int (M_told ((3 : Int32) * p1).toNatClampNeg)]) (rest := []) S hK hA hE hP (hDD _ rfl) hS (mX5_comesSet l D cI cJ cC G a_M _ M_pipes M_used M_taped M_at M_statements M_hasImage M_isKeeping M_cursor M_nextAt M_nextMost M_rowMany M_refused M_setting M_hole M_pipeAt M_chance M_weight M_tape M_letter M_letterAt M_told M_kept M_then M_row (3 : Int32) (M_told ((3 : Int32) * p1).toNatClampNeg) _ h) kX5_comesSet ml_X5_110 ⟨rfl, rfl, by decide, by decide⟩ (q0 := 0) (ci := 5) rfl rfl rfl rfl hl.1 rfl (Nat.le_of_ble_eq_true rfl) dX5_comes_104 ⟨Nat.zero_le _, Nat.zero_le _⟩) (fun r_5 u H locs h hP1 hk1 hS => ?_)
      obtain ⟨M_used_6, M_setting_7, M_weight_8⟩ := u
      dsimp only at h
      have hP : va_P D vwCl ((bX5 cI cJ cC a_M M_pipes M_used_6 M_taped M_at M_statements M_hasImage M_isKeeping M_cursor M_nextAt M_nextMost M_rowMany M_refused M_setting_7 M_hole M_pipeAt M_chance M_weight_8 M_tape M_letter M_letterAt M_told M_kept M_then M_row)) H := hP1
      exact hret r_5 (M_pipes, M_used_6, M_setting_7, M_hole, M_pipeAt, M_chance, M_weight_8) _ _ _ _ h.1 h.2 hP hS dX5_comes_107
    · replace h := h.2 z1
      by_cases z2 : (M_letter p1.toNatClampNeg) = (110 : Int32)
      · replace h := h.1 z2
        refine lv_lookup (off := 173) (tgt := 183) hx hb dX5_comes_10 (by decide) (by rw [z2]; decide) (by decide) ?_
        refine lv_aload_n hx hb dX5_comes_183 rfl (lv_at hl 1 rfl) ?_
        refine va_get (D := D) (ci := 5) (v := .ref (a_M 10)) (C := RX5) (T := TX5) (N := 24) hx hb ht inX5 hown hK hP 0 rfl rfl 11 (by decide) (ht _ fl_X5_37) (fun _ h9 => h9) rfl dX5_comes_184 ?_
        refine lv_iload_n hx hb dX5_comes_187 rfl (lv_at hl 0 rfl) ?_
        obtain ⟨hin, h⟩ := h
        refine va_iald hx hb hK hP 10 0 rfl rfl hin dX5_comes_188 ?_
        refine zci hA zD0 hS (zrunS (As := [.int (M_told ((3 : Int32) * p1).toNatClampNeg)]) (rest := []) S hK hA hE zP0 zD0 hS (mX5_isInch l D cI cJ cC G _ (M_told ((3 : Int32) * p1).toNatClampNeg) _ h) kX5_isInch ml_X5_113 ⟨rfl, rfl, by decide, by decide⟩ rfl hl.1 rfl (Nat.le_of_ble_eq_true rfl) dX5_comes_189 ⟨Nat.zero_le _, Nat.zero_le _⟩) (fun r_9 u H locs h hP1 hk1 hS => ?_)
        try dsimp only at h
        have hP : va_P D vwCl ((bX5 cI cJ cC a_M M_pipes M_used M_taped M_at M_statements M_hasImage M_isKeeping M_cursor M_nextAt M_nextMost M_rowMany M_refused M_setting M_hole M_pipeAt M_chance M_weight M_tape M_letter M_letterAt M_told M_kept M_then M_row)) H := zKeep hP hk1
        refine lv_if_eq (tgt := 216) hx hb dX5_comes_192 (by decide) (fun z => ?_) (fun z => ?_)
        · replace h := h.1 z
          refine lv_iconst (v := (0 : Int32)) hx hb dX5_comes_216 (by decide) ?_
          exact hret (0 : Int32) (M_pipes, M_used, M_setting, M_hole, M_pipeAt, M_chance, M_weight) _ _ _ _ rfl h hP hS dX5_comes_217
        · replace h := h.2 z
          refine lv_aload_n hx hb dX5_comes_195 rfl (lv_at hl 1 rfl) ?_
          refine lv_aload_n hx hb dX5_comes_196 rfl (lv_at hl 1 rfl) ?_
          refine va_get (D := D) (ci := 5) (v := .ref (a_M 10)) (C := RX5) (T := TX5) (N := 24) hx hb ht inX5 hown hK hP 0 rfl rfl 11 (by decide) (ht _ fl_X5_37) (fun _ h9 => h9) rfl dX5_comes_197 ?_
          refine lv_iload_n hx hb dX5_comes_200 rfl (lv_at hl 0 rfl) ?_
          obtain ⟨hin, h⟩ := h
          refine va_iald hx hb hK hP 10 0 rfl rfl hin dX5_comes_201 ?_
          refine lv_aload_n hx hb dX5_comes_202 rfl (lv_at hl 1 rfl) ?_
          refine va_get (D := D) (ci := 5) (v := .ref (a_M 10)) (C := RX5) (T := TX5) (N := 24) hx hb ht inX5 hown hK hP 0 rfl rfl 11 (by decide) (ht _ fl_X5_37) (fun _ h9 => h9) rfl dX5_comes_203 ?_
          refine lv_iload_n hx hb dX5_comes_206 rfl (lv_at hl 0 rfl) ?_
          refine lv_iconst (v := (1 : Int32)) hx hb dX5_comes_207 (by decide) ?_
          refine lv_iadd hx hb dX5_comes_208 ?_
          obtain ⟨hin, h⟩ := h
          refine va_iald hx hb hK hP 10 0 rfl rfl hin dX5_comes_209 ?_
          refine zci hA (hDD _ rfl) hS (zrunV (As := [.int (M_told ((3 : Int32) * p1).toNatClampNeg), .int (M_told (((3 : Int32) * p1) + (1 : Int32)).toNatClampNeg)]) (rest := []) S hK hA hE hP (hDD _ rfl) hS (mX5_leftBy l D cI cJ cC G a_M _ M_pipes M_used M_taped M_at M_statements M_hasImage M_isKeeping M_cursor M_nextAt M_nextMost M_rowMany M_refused M_setting M_hole M_pipeAt M_chance M_weight M_tape M_letter M_letterAt M_told M_kept M_then M_row (M_told ((3 : Int32) * p1).toNatClampNeg) (M_told (((3 : Int32) * p1) + (1 : Int32)).toNatClampNeg) _ h) kX5_leftBy ml_X5_120 ⟨rfl, rfl, by decide, by decide⟩ (q0 := 0) (ci := 5) rfl rfl rfl rfl hl.1 rfl (Nat.le_of_ble_eq_true rfl) dX5_comes_210 ⟨Nat.zero_le _, Nat.zero_le _⟩) (fun r_10 u H locs h hP1 hk1 hS => ?_)
          try dsimp only at h
          have hP : va_P D vwCl ((bX5 cI cJ cC a_M M_pipes M_used M_taped M_at M_statements M_hasImage M_isKeeping M_cursor M_nextAt M_nextMost M_rowMany M_refused M_setting M_hole M_pipeAt M_chance M_weight M_tape M_letter M_letterAt M_told M_kept M_then M_row)) H := hP1
          refine lv_if_ne (tgt := 218) hx hb dX5_comes_213 (by decide) (fun z => ?_) (fun z => ?_)
          · replace h := h.2 z
            refine lv_aload_n hx hb dX5_comes_218 rfl (lv_at hl 1 rfl) ?_
            refine lv_aload_n hx hb dX5_comes_219 rfl (lv_at hl 1 rfl) ?_
            refine va_get (D := D) (ci := 5) (v := .ref (a_M 10)) (C := RX5) (T := TX5) (N := 24) hx hb ht inX5 hown hK hP 0 rfl rfl 11 (by decide) (ht _ fl_X5_37) (fun _ h9 => h9) rfl dX5_comes_220 ?_
            refine lv_iload_n hx hb dX5_comes_223 rfl (lv_at hl 0 rfl) ?_
            obtain ⟨hin, h⟩ := h
            refine va_iald hx hb hK hP 10 0 rfl rfl hin dX5_comes_224 ?_
            refine lv_aload_n hx hb dX5_comes_225 rfl (lv_at hl 1 rfl) ?_
            refine va_get (D := D) (ci := 5) (v := .ref (a_M 10)) (C := RX5) (T := TX5) (N := 24) hx hb ht inX5 hown hK hP 0 rfl rfl 11 (by decide) (ht _ fl_X5_37) (fun _ h9 => h9) rfl dX5_comes_226 ?_
            refine lv_iload_n hx hb dX5_comes_229 rfl (lv_at hl 0 rfl) ?_
            refine lv_iconst (v := (1 : Int32)) hx hb dX5_comes_230 (by decide) ?_
            refine lv_iadd hx hb dX5_comes_231 ?_
            obtain ⟨hin, h⟩ := h
            refine va_iald hx hb hK hP 10 0 rfl rfl hin dX5_comes_232 ?_
            refine zcv hA (hDD _ rfl) hS (zrunV (As := [.int (M_told ((3 : Int32) * p1).toNatClampNeg), .int (M_told (((3 : Int32) * p1) + (1 : Int32)).toNatClampNeg)]) (rest := []) S hK hA hE hP (hDD _ rfl) hS (mX5_nails l D cI cJ cC G a_M _ M_pipes M_used M_taped M_at M_statements M_hasImage M_isKeeping M_cursor M_nextAt M_nextMost M_rowMany M_refused M_setting M_hole M_pipeAt M_chance M_weight M_tape M_letter M_letterAt M_told M_kept M_then M_row (M_told ((3 : Int32) * p1).toNatClampNeg) (M_told (((3 : Int32) * p1) + (1 : Int32)).toNatClampNeg) _ h) kX5_nails ml_X5_124 ⟨rfl, rfl, by decide, by decide⟩ (q0 := 0) (ci := 5) rfl rfl rfl rfl hl.1 rfl (Nat.le_of_ble_eq_true rfl) dX5_comes_233 ⟨Nat.zero_le _, Nat.zero_le _⟩) (fun u H locs h hP1 hk1 hS => ?_)
            obtain ⟨M_hole_11, M_weight_12⟩ := u
            dsimp only at h
            have hP : va_P D vwCl ((bX5 cI cJ cC a_M M_pipes M_used M_taped M_at M_statements M_hasImage M_isKeeping M_cursor M_nextAt M_nextMost M_rowMany M_refused M_setting M_hole_11 M_pipeAt M_chance M_weight_12 M_tape M_letter M_letterAt M_told M_kept M_then M_row)) H := hP1
            refine lv_iconst (v := (1 : Int32)) hx hb dX5_comes_236 (by decide) ?_
            exact hret (1 : Int32) (M_pipes, M_used, M_setting, M_hole_11, M_pipeAt, M_chance, M_weight_12) _ _ _ _ rfl h hP hS dX5_comes_237
          · replace h := h.1 z
            refine lv_iconst (v := (0 : Int32)) hx hb dX5_comes_216 (by decide) ?_
            exact hret (0 : Int32) (M_pipes, M_used, M_setting, M_hole, M_pipeAt, M_chance, M_weight) _ _ _ _ rfl h hP hS dX5_comes_217
      · replace h := h.2 z2
        by_cases z3 : (M_letter p1.toNatClampNeg) = (115 : Int32)
        · replace h := h.1 z3
          refine lv_lookup (off := 50) (tgt := 60) hx hb dX5_comes_10 (by decide) (by rw [z3]; decide) (by decide) ?_
          refine lv_aload_n hx hb dX5_comes_60 rfl (lv_at hl 1 rfl) ?_
          refine lv_iconst (v := (0 : Int32)) hx hb dX5_comes_61 (by decide) ?_
          refine lv_aload_n hx hb dX5_comes_62 rfl (lv_at hl 1 rfl) ?_
          refine va_get (D := D) (ci := 5) (v := .ref (a_M 10)) (C := RX5) (T := TX5) (N := 24) hx hb ht inX5 hown hK hP 0 rfl rfl 11 (by decide) (ht _ fl_X5_37) (fun _ h9 => h9) rfl dX5_comes_63 ?_
          refine lv_iload_n hx hb dX5_comes_66 rfl (lv_at hl 0 rfl) ?_
          obtain ⟨hin, h⟩ := h
          refine va_iald hx hb hK hP 10 0 rfl rfl hin dX5_comes_67 ?_
          refine zci hA (hDD _ rfl) hS (zrunV (As := [.int (0 : Int32), .int (M_told ((3 : Int32) * p1).toNatClampNeg)]) (rest := []) S hK hA hE hP (hDD _ rfl) hS (mX5_comesSet l D cI cJ cC G a_M _ M_pipes M_used M_taped M_at M_statements M_hasImage M_isKeeping M_cursor M_nextAt M_nextMost M_rowMany M_refused M_setting M_hole M_pipeAt M_chance M_weight M_tape M_letter M_letterAt M_told M_kept M_then M_row (0 : Int32) (M_told ((3 : Int32) * p1).toNatClampNeg) _ h) kX5_comesSet ml_X5_110 ⟨rfl, rfl, by decide, by decide⟩ (q0 := 0) (ci := 5) rfl rfl rfl rfl hl.1 rfl (Nat.le_of_ble_eq_true rfl) dX5_comes_68 ⟨Nat.zero_le _, Nat.zero_le _⟩) (fun r_13 u H locs h hP1 hk1 hS => ?_)
          obtain ⟨M_used_14, M_setting_15, M_weight_16⟩ := u
          dsimp only at h
          have hP : va_P D vwCl ((bX5 cI cJ cC a_M M_pipes M_used_14 M_taped M_at M_statements M_hasImage M_isKeeping M_cursor M_nextAt M_nextMost M_rowMany M_refused M_setting_15 M_hole M_pipeAt M_chance M_weight_16 M_tape M_letter M_letterAt M_told M_kept M_then M_row)) H := hP1
          refine lv_if_eq (tgt := 94) hx hb dX5_comes_71 (by decide) (fun z => ?_) (fun z => ?_)
          · replace h := h.1 z
            refine lv_iconst (v := (0 : Int32)) hx hb dX5_comes_94 (by decide) ?_
            exact hret (0 : Int32) (M_pipes, M_used_14, M_setting_15, M_hole, M_pipeAt, M_chance, M_weight_16) _ _ _ _ rfl h hP hS dX5_comes_95
          · replace h := h.2 z
            refine lv_aload_n hx hb dX5_comes_74 rfl (lv_at hl 1 rfl) ?_
            refine lv_iconst (v := (1 : Int32)) hx hb dX5_comes_75 (by decide) ?_
            refine lv_aload_n hx hb dX5_comes_76 rfl (lv_at hl 1 rfl) ?_
            refine va_get (D := D) (ci := 5) (v := .ref (a_M 10)) (C := RX5) (T := TX5) (N := 24) hx hb ht inX5 hown hK hP 0 rfl rfl 11 (by decide) (ht _ fl_X5_37) (fun _ h9 => h9) rfl dX5_comes_77 ?_
            refine lv_iload_n hx hb dX5_comes_80 rfl (lv_at hl 0 rfl) ?_
            refine lv_iconst (v := (1 : Int32)) hx hb dX5_comes_81 (by decide) ?_
            refine lv_iadd hx hb dX5_comes_82 ?_
            obtain ⟨hin, h⟩ := h
            refine va_iald hx hb hK hP 10 0 rfl rfl hin dX5_comes_83 ?_
            refine zci hA (hDD _ rfl) hS (zrunV (As := [.int (1 : Int32), .int (M_told (((3 : Int32) * p1) + (1 : Int32)).toNatClampNeg)]) (rest := []) S hK hA hE hP (hDD _ rfl) hS (mX5_comesSet l D cI cJ cC G a_M _ M_pipes M_used_14 M_taped M_at M_statements M_hasImage M_isKeeping M_cursor M_nextAt M_nextMost M_rowMany M_refused M_setting_15 M_hole M_pipeAt M_chance M_weight_16 M_tape M_letter M_letterAt M_told M_kept M_then M_row (1 : Int32) (M_told (((3 : Int32) * p1) + (1 : Int32)).toNatClampNeg) _ h) kX5_comesSet ml_X5_110 ⟨rfl, rfl, by decide, by decide⟩ (q0 := 0) (ci := 5) rfl rfl rfl rfl hl.1 rfl (Nat.le_of_ble_eq_true rfl) dX5_comes_84 ⟨Nat.zero_le _, Nat.zero_le _⟩) (fun r_17 u H locs h hP1 hk1 hS => ?_)
            obtain ⟨M_used_18, M_setting_19, M_weight_20⟩ := u
            dsimp only at h
            have hP : va_P D vwCl ((bX5 cI cJ cC a_M M_pipes M_used_18 M_taped M_at M_statements M_hasImage M_isKeeping M_cursor M_nextAt M_nextMost M_rowMany M_refused M_setting_19 M_hole M_pipeAt M_chance M_weight_20 M_tape M_letter M_letterAt M_told M_kept M_then M_row)) H := hP1
            refine lv_if_eq (tgt := 94) hx hb dX5_comes_87 (by decide) (fun z => ?_) (fun z => ?_)
            · replace h := h.1 z
              refine lv_iconst (v := (0 : Int32)) hx hb dX5_comes_94 (by decide) ?_
              exact hret (0 : Int32) (M_pipes, M_used_18, M_setting_19, M_hole, M_pipeAt, M_chance, M_weight_20) _ _ _ _ rfl h hP hS dX5_comes_95
            · replace h := h.2 z
              refine lv_iconst (v := (1 : Int32)) hx hb dX5_comes_90 (by decide) ?_
              refine lv_goto (tgt := 95) hx hb dX5_comes_91 (by decide) ?_
              exact hret (1 : Int32) (M_pipes, M_used_18, M_setting_19, M_hole, M_pipeAt, M_chance, M_weight_20) _ _ _ _ rfl h hP hS dX5_comes_95
        · replace h := h.2 z3
          by_cases z4 : (M_letter p1.toNatClampNeg) = (116 : Int32)
          · replace h := h.1 z4
            refine lv_lookup (off := 110) (tgt := 120) hx hb dX5_comes_10 (by decide) (by rw [z4]; decide) (by decide) ?_
            refine lv_aload_n hx hb dX5_comes_120 rfl (lv_at hl 1 rfl) ?_
            refine va_get (D := D) (ci := 5) (v := .ref (a_M 10)) (C := RX5) (T := TX5) (N := 24) hx hb ht inX5 hown hK hP 0 rfl rfl 11 (by decide) (ht _ fl_X5_37) (fun _ h9 => h9) rfl dX5_comes_121 ?_
            refine lv_iload_n hx hb dX5_comes_124 rfl (lv_at hl 0 rfl) ?_
            obtain ⟨hin, h⟩ := h
            refine va_iald hx hb hK hP 10 0 rfl rfl hin dX5_comes_125 ?_
            refine lv_iconst (v := (4 : Int32)) hx hb dX5_comes_126 (by decide) ?_
            refine lv_icmp_gt (tgt := 153) hx hb dX5_comes_127 (by decide) (fun z => ?_) (fun z => ?_)
            · replace h := h.1 z
              refine lv_iconst (v := (0 : Int32)) hx hb dX5_comes_153 (by decide) ?_
              exact hret (0 : Int32) (M_pipes, M_used, M_setting, M_hole, M_pipeAt, M_chance, M_weight) _ _ _ _ rfl h hP hS dX5_comes_154
            · replace h := h.2 z
              refine lv_aload_n hx hb dX5_comes_130 rfl (lv_at hl 1 rfl) ?_
              refine va_get (D := D) (ci := 5) (v := .ref (a_M 10)) (C := RX5) (T := TX5) (N := 24) hx hb ht inX5 hown hK hP 0 rfl rfl 11 (by decide) (ht _ fl_X5_37) (fun _ h9 => h9) rfl dX5_comes_131 ?_
              refine lv_iload_n hx hb dX5_comes_134 rfl (lv_at hl 0 rfl) ?_
              refine lv_iconst (v := (1 : Int32)) hx hb dX5_comes_135 (by decide) ?_
              refine lv_iadd hx hb dX5_comes_136 ?_
              obtain ⟨hin, h⟩ := h
              refine va_iald hx hb hK hP 10 0 rfl rfl hin dX5_comes_137 ?_
              refine zci hA zD0 hS (zrunS (As := [.int (M_told (((3 : Int32) * p1) + (1 : Int32)).toNatClampNeg)]) (rest := []) S hK hA hE zP0 zD0 hS (mX5_isInch l D cI cJ cC G _ (M_told (((3 : Int32) * p1) + (1 : Int32)).toNatClampNeg) _ h) kX5_isInch ml_X5_113 ⟨rfl, rfl, by decide, by decide⟩ rfl hl.1 rfl (Nat.le_of_ble_eq_true rfl) dX5_comes_138 ⟨Nat.zero_le _, Nat.zero_le _⟩) (fun r_21 u H locs h hP1 hk1 hS => ?_)
              try dsimp only at h
              have hP : va_P D vwCl ((bX5 cI cJ cC a_M M_pipes M_used M_taped M_at M_statements M_hasImage M_isKeeping M_cursor M_nextAt M_nextMost M_rowMany M_refused M_setting M_hole M_pipeAt M_chance M_weight M_tape M_letter M_letterAt M_told M_kept M_then M_row)) H := zKeep hP hk1
              refine lv_if_eq (tgt := 153) hx hb dX5_comes_141 (by decide) (fun z => ?_) (fun z => ?_)
              · replace h := h.1 z
                refine lv_iconst (v := (0 : Int32)) hx hb dX5_comes_153 (by decide) ?_
                exact hret (0 : Int32) (M_pipes, M_used, M_setting, M_hole, M_pipeAt, M_chance, M_weight) _ _ _ _ rfl h hP hS dX5_comes_154
              · replace h := h.2 z
                refine lv_aload_n hx hb dX5_comes_144 rfl (lv_at hl 1 rfl) ?_
                refine va_get (D := D) (ci := 5) (v := .int M_used) (C := RX5) (T := TX5) (N := 24) hx hb ht inX5 hown hK hP 0 rfl rfl 7 (by decide) (ht _ fl_X5_55) (fun _ h9 => h9) rfl dX5_comes_145 ?_
                refine lv_bipush (v := (6 : Int32)) hx hb dX5_comes_148 (by decide) ?_
                refine lv_icmp_ne (tgt := 155) hx hb dX5_comes_150 (by decide) (fun z => ?_) (fun z => ?_)
                · replace h := h.2 z
                  refine lv_aload_n hx hb dX5_comes_155 rfl (lv_at hl 1 rfl) ?_
                  refine lv_aload_n hx hb dX5_comes_156 rfl (lv_at hl 1 rfl) ?_
                  refine va_get (D := D) (ci := 5) (v := .ref (a_M 10)) (C := RX5) (T := TX5) (N := 24) hx hb ht inX5 hown hK hP 0 rfl rfl 11 (by decide) (ht _ fl_X5_37) (fun _ h9 => h9) rfl dX5_comes_157 ?_
                  refine lv_iload_n hx hb dX5_comes_160 rfl (lv_at hl 0 rfl) ?_
                  obtain ⟨hin, h⟩ := h
                  refine va_iald hx hb hK hP 10 0 rfl rfl hin dX5_comes_161 ?_
                  refine lv_aload_n hx hb dX5_comes_162 rfl (lv_at hl 1 rfl) ?_
                  refine va_get (D := D) (ci := 5) (v := .ref (a_M 10)) (C := RX5) (T := TX5) (N := 24) hx hb ht inX5 hown hK hP 0 rfl rfl 11 (by decide) (ht _ fl_X5_37) (fun _ h9 => h9) rfl dX5_comes_163 ?_
                  refine lv_iload_n hx hb dX5_comes_166 rfl (lv_at hl 0 rfl) ?_
                  refine lv_iconst (v := (1 : Int32)) hx hb dX5_comes_167 (by decide) ?_
                  refine lv_iadd hx hb dX5_comes_168 ?_
                  obtain ⟨hin, h⟩ := h
                  refine va_iald hx hb hK hP 10 0 rfl rfl hin dX5_comes_169 ?_
                  refine lv_aload_n hx hb dX5_comes_170 rfl (lv_at hl 1 rfl) ?_
                  refine va_get (D := D) (ci := 5) (v := .ref (a_M 10)) (C := RX5) (T := TX5) (N := 24) hx hb ht inX5 hown hK hP 0 rfl rfl 11 (by decide) (ht _ fl_X5_37) (fun _ h9 => h9) rfl dX5_comes_171 ?_
                  refine lv_iload_n hx hb dX5_comes_174 rfl (lv_at hl 0 rfl) ?_
                  refine lv_iconst (v := (2 : Int32)) hx hb dX5_comes_175 (by decide) ?_
                  refine lv_iadd hx hb dX5_comes_176 ?_
                  obtain ⟨hin, h⟩ := h
                  refine va_iald hx hb hK hP 10 0 rfl rfl hin dX5_comes_177 ?_
                  refine zcv hA (hDD _ rfl) hS (zrunV (As := [.int (M_told ((3 : Int32) * p1).toNatClampNeg), .int (M_told (((3 : Int32) * p1) + (1 : Int32)).toNatClampNeg), .int (M_told (((3 : Int32) * p1) + (2 : Int32)).toNatClampNeg)]) (rest := []) S hK hA hE hP (hDD _ rfl) hS (mX5_tells l D cI cJ cC G a_M _ M_pipes M_used M_taped M_at M_statements M_hasImage M_isKeeping M_cursor M_nextAt M_nextMost M_rowMany M_refused M_setting M_hole M_pipeAt M_chance M_weight M_tape M_letter M_letterAt M_told M_kept M_then M_row (M_told ((3 : Int32) * p1).toNatClampNeg) (M_told (((3 : Int32) * p1) + (1 : Int32)).toNatClampNeg) (M_told (((3 : Int32) * p1) + (2 : Int32)).toNatClampNeg) _ h) kX5_tells ml_X5_116 ⟨rfl, rfl, by decide, by decide⟩ (q0 := 0) (ci := 5) rfl rfl rfl rfl hl.1 rfl (Nat.le_of_ble_eq_true rfl) dX5_comes_178 ⟨Nat.zero_le _, Nat.zero_le _⟩) (fun u H locs h hP1 hk1 hS => ?_)
                  obtain ⟨M_used_22, M_hole_23, M_weight_24⟩ := u
                  dsimp only at h
                  have hP : va_P D vwCl ((bX5 cI cJ cC a_M M_pipes M_used_22 M_taped M_at M_statements M_hasImage M_isKeeping M_cursor M_nextAt M_nextMost M_rowMany M_refused M_setting M_hole_23 M_pipeAt M_chance M_weight_24 M_tape M_letter M_letterAt M_told M_kept M_then M_row)) H := hP1
                  refine lv_iconst (v := (1 : Int32)) hx hb dX5_comes_181 (by decide) ?_
                  exact hret (1 : Int32) (M_pipes, M_used_22, M_setting, M_hole_23, M_pipeAt, M_chance, M_weight_24) _ _ _ _ rfl h hP hS dX5_comes_182
                · replace h := h.1 z
                  refine lv_iconst (v := (0 : Int32)) hx hb dX5_comes_153 (by decide) ?_
                  exact hret (0 : Int32) (M_pipes, M_used, M_setting, M_hole, M_pipeAt, M_chance, M_weight) _ _ _ _ rfl h hP hS dX5_comes_154
          · replace h := h.2 z4
            refine lv_lookup (off := 228) (tgt := 238) hx hb dX5_comes_10 (by decide) (by rw [show (#[(100, 98), (108, 86), (110, 173), (115, 50), (116, 110)] : Array (Int × Int)).toList = [(100, 98), (108, 86), (110, 173), (115, 50), (116, 110)] from rfl, lv_osw z0 (by decide), lv_osw z1 (by decide), lv_osw z2 (by decide), lv_osw z3 (by decide), lv_osw z4 (by decide)]; rfl) (by decide) ?_
            refine lv_aload_n hx hb dX5_comes_238 rfl (lv_at hl 1 rfl) ?_
            refine va_get (D := D) (ci := 5) (v := .ref (a_M 10)) (C := RX5) (T := TX5) (N := 24) hx hb ht inX5 hown hK hP 0 rfl rfl 11 (by decide) (ht _ fl_X5_37) (fun _ h9 => h9) rfl dX5_comes_239 ?_
            refine lv_iload_n hx hb dX5_comes_242 rfl (lv_at hl 0 rfl) ?_
            obtain ⟨hin, h⟩ := h
            refine va_iald hx hb hK hP 10 0 rfl rfl hin dX5_comes_243 ?_
            refine zci hA zD0 hS (zrunS (As := [.int (M_told ((3 : Int32) * p1).toNatClampNeg)]) (rest := []) S hK hA hE zP0 zD0 hS (mX5_isInch l D cI cJ cC G _ (M_told ((3 : Int32) * p1).toNatClampNeg) _ h) kX5_isInch ml_X5_113 ⟨rfl, rfl, by decide, by decide⟩ rfl hl.1 rfl (Nat.le_of_ble_eq_true rfl) dX5_comes_244 ⟨Nat.zero_le _, Nat.zero_le _⟩) (fun r_25 u H locs h hP1 hk1 hS => ?_)
            try dsimp only at h
            have hP : va_P D vwCl ((bX5 cI cJ cC a_M M_pipes M_used M_taped M_at M_statements M_hasImage M_isKeeping M_cursor M_nextAt M_nextMost M_rowMany M_refused M_setting M_hole M_pipeAt M_chance M_weight M_tape M_letter M_letterAt M_told M_kept M_then M_row)) H := zKeep hP hk1
            refine lv_if_eq (tgt := 259) hx hb dX5_comes_247 (by decide) (fun z => ?_) (fun z => ?_)
            · replace h := h.1 z
              refine lv_iconst (v := (0 : Int32)) hx hb dX5_comes_259 (by decide) ?_
              exact hret (0 : Int32) (M_pipes, M_used, M_setting, M_hole, M_pipeAt, M_chance, M_weight) _ _ _ _ rfl h hP hS dX5_comes_260
            · replace h := h.2 z
              refine lv_aload_n hx hb dX5_comes_250 rfl (lv_at hl 1 rfl) ?_
              refine va_get (D := D) (ci := 5) (v := .int M_pipes) (C := RX5) (T := TX5) (N := 24) hx hb ht inX5 hown hK hP 0 rfl rfl 6 (by decide) (ht _ fl_X5_128) (fun _ h9 => h9) rfl dX5_comes_251 ?_
              refine lv_bipush (v := (6 : Int32)) hx hb dX5_comes_254 (by decide) ?_
              refine lv_icmp_ne (tgt := 261) hx hb dX5_comes_256 (by decide) (fun z => ?_) (fun z => ?_)
              · replace h := h.2 z
                refine lv_aload_n hx hb dX5_comes_261 rfl (lv_at hl 1 rfl) ?_
                refine lv_aload_n hx hb dX5_comes_262 rfl (lv_at hl 1 rfl) ?_
                refine va_get (D := D) (ci := 5) (v := .ref (a_M 10)) (C := RX5) (T := TX5) (N := 24) hx hb ht inX5 hown hK hP 0 rfl rfl 11 (by decide) (ht _ fl_X5_37) (fun _ h9 => h9) rfl dX5_comes_263 ?_
                refine lv_iload_n hx hb dX5_comes_266 rfl (lv_at hl 0 rfl) ?_
                obtain ⟨hin, h⟩ := h
                refine va_iald hx hb hK hP 10 0 rfl rfl hin dX5_comes_267 ?_
                refine lv_aload_n hx hb dX5_comes_268 rfl (lv_at hl 1 rfl) ?_
                refine va_get (D := D) (ci := 5) (v := .ref (a_M 10)) (C := RX5) (T := TX5) (N := 24) hx hb ht inX5 hown hK hP 0 rfl rfl 11 (by decide) (ht _ fl_X5_37) (fun _ h9 => h9) rfl dX5_comes_269 ?_
                refine lv_iload_n hx hb dX5_comes_272 rfl (lv_at hl 0 rfl) ?_
                refine lv_iconst (v := (1 : Int32)) hx hb dX5_comes_273 (by decide) ?_
                refine lv_iadd hx hb dX5_comes_274 ?_
                obtain ⟨hin, h⟩ := h
                refine va_iald hx hb hK hP 10 0 rfl rfl hin dX5_comes_275 ?_
                refine zcv hA (hDD _ rfl) hS (zrunV (As := [.int (M_told ((3 : Int32) * p1).toNatClampNeg), .int (M_told (((3 : Int32) * p1) + (1 : Int32)).toNatClampNeg)]) (rest := []) S hK hA hE hP (hDD _ rfl) hS (mX5_comesPipe l D cI cJ cC G a_M _ M_pipes M_used M_taped M_at M_statements M_hasImage M_isKeeping M_cursor M_nextAt M_nextMost M_rowMany M_refused M_setting M_hole M_pipeAt M_chance M_weight M_tape M_letter M_letterAt M_told M_kept M_then M_row (M_told ((3 : Int32) * p1).toNatClampNeg) (M_told (((3 : Int32) * p1) + (1 : Int32)).toNatClampNeg) _ h) kX5_comesPipe ml_X5_131 ⟨rfl, rfl, by decide, by decide⟩ (q0 := 0) (ci := 5) rfl rfl rfl rfl hl.1 rfl (Nat.le_of_ble_eq_true rfl) dX5_comes_276 ⟨Nat.zero_le _, Nat.zero_le _⟩) (fun u H locs h hP1 hk1 hS => ?_)
                obtain ⟨M_pipes_26, M_pipeAt_27, M_chance_28⟩ := u
                dsimp only at h
                have hP : va_P D vwCl ((bX5 cI cJ cC a_M M_pipes_26 M_used M_taped M_at M_statements M_hasImage M_isKeeping M_cursor M_nextAt M_nextMost M_rowMany M_refused M_setting M_hole M_pipeAt_27 M_chance_28 M_weight M_tape M_letter M_letterAt M_told M_kept M_then M_row)) H := hP1
                refine lv_iconst (v := (1 : Int32)) hx hb dX5_comes_279 (by decide) ?_
                exact hret (1 : Int32) (M_pipes_26, M_used, M_setting, M_hole, M_pipeAt_27, M_chance_28, M_weight) _ _ _ _ rfl h hP hS dX5_comes_280
              · replace h := h.1 z
                refine lv_iconst (v := (0 : Int32)) hx hb dX5_comes_259 (by decide) ?_
                exact hret (0 : Int32) (M_pipes, M_used, M_setting, M_hole, M_pipeAt, M_chance, M_weight) _ _ _ _ rfl h hP hS dX5_comes_260
