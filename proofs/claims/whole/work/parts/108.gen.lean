def lpX5_lots_33 (K : Int32 → Int32 → Int32 → Int32 → (Nat → Int32) → Prop) (x1 : Int32) (M_setting : Nat → Int32) : Nat → Int32 → Int32 → Int32 → Int32 → (Nat → Int32) → Prop
  | 0, _, _, _, _, _ => False
  | n + 1, x4, x5, x6, M_used, M_weight => ((x1 ≤ x6 → (K x4 x5 x6 M_used M_weight)) ∧ (¬ (x1 ≤ x6) → (¬ (M_setting 0) = 0 ∧ (wpX5_nailsBy (fun (r_12 : Int32) (M_used_13 : Int32) (M_weight_14 : Nat → Int32) => lpX5_lots_33 K x1 M_setting n ((x4 * (1664525 : Int32)) + (1013904223 : Int32)) (x5 + r_12) (x6 + (1 : Int32)) M_used_13 M_weight_14) M_setting M_weight (((((x4 * (1664525 : Int32)) + (1013904223 : Int32)) &&& (2147483647 : Int32)) / (256 : Int32)) - ((((x4 * (1664525 : Int32)) + (1013904223 : Int32)) &&& (2147483647 : Int32)) / (256 : Int32)) / (M_setting 0) * (M_setting 0))))))
set_option maxHeartbeats 4000000 in
set_option maxRecDepth 100000 in
theorem wX5_lots_33 (l : Launch) (D : va_G) (cI cJ cC : ClassId) (G : Nat → Nat → Nat) (a_M : Nat → Nat) {p : Program} {e : Env} {s : State} {m : MethodId} {below : List Frame} {meth : Method} {c : Code} {A : Nat → Prop} {Q : State → Prop} (p1 : Int32) (p2 : Int32) (x1 : Int32) (M_pipes : Int32) (M_taped : Int32) (M_at : Int32) (M_statements : Int32) (M_hasImage : Int32) (M_isKeeping : Int32) (M_cursor : Int32) (M_nextAt : Int32) (M_nextMost : Int64) (M_rowMany : Int32) (M_refused : Nat → Int32) (M_setting : Nat → Int32) (M_hole : Nat → Int32) (M_pipeAt : Nat → Int32) (M_chance : Nat → Int32) (M_tape : Nat → Int32) (M_letter : Nat → Int32) (M_letterAt : Nat → Int32) (M_told : Nat → Int32) (M_kept : Nat → Int32) (M_then : Nat → Int64) (M_row : Nat → Int32) (K : Int32 → Int32 → Int32 → Int32 → (Nat → Int32) → Prop) (S : CallFix p m c cX5_lots 7 s ([.ref (a_M 0), .int p1, .int p2] : List Value).toArray bg RX5) (hK : va_K D vwCl (tz cI cJ cC) s) (hDD : ∀ ws : va_W, ws.map (fun q => q.1) = [a_M 0, a_M 1, a_M 2, a_M 3, a_M 4, a_M 5, a_M 6, a_M 7, a_M 8, a_M 9, a_M 10, a_M 11, a_M 12, a_M 13] → va_D A ws) (hA : ∀ q, s.heap.size ≤ q → A q) (hE : EV G A s) (hKK : ∀ (x4 : Int32) (x5 : Int32) (x6 : Int32) (M_used : Int32) (M_weight : Nat → Int32) (H : Heap) (locs : List Loc) (ls : Array Slot), K x4 x5 x6 M_used M_weight → va_P D vwCl ((bX5 cI cJ cC a_M M_pipes M_used M_taped M_at M_statements M_hasImage M_isKeeping M_cursor M_nextAt M_nextMost M_rowMany M_refused M_setting M_hole M_pipeAt M_chance M_weight M_tape M_letter M_letterAt M_told M_kept M_then M_row)) H → va_S A s.heap H locs → lv_has ls 7 [(0, .ref (a_M 0)), (5, .int x5)] → W p l e ({ frames := 7, cells := 0, slots := 0, locals := 157 }) s m ([.ref (a_M 0), .int p1, .int p2] : List Value).toArray below meth c H locs 0 0 Q (F0 m 83 ls [])) :
    ∀ (n : Nat) (x4 : Int32) (x5 : Int32) (x6 : Int32) (M_used : Int32) (M_weight : Nat → Int32) (H : Heap) (locs : List Loc) (ls : Array Slot), lpX5_lots_33 K x1 M_setting n x4 x5 x6 M_used M_weight → va_P D vwCl ((bX5 cI cJ cC a_M M_pipes M_used M_taped M_at M_statements M_hasImage M_isKeeping M_cursor M_nextAt M_nextMost M_rowMany M_refused M_setting M_hole M_pipeAt M_chance M_weight M_tape M_letter M_letterAt M_told M_kept M_then M_row)) H → va_S A s.heap H locs → lv_has ls 7 [(0, .ref (a_M 0)), (1, .int x1), (4, .int x4), (5, .int x5), (6, .int x6)] → W p l e ({ frames := 7, cells := 0, slots := 0, locals := 157 }) s m ([.ref (a_M 0), .int p1, .int p2] : List Value).toArray below meth c H locs 0 0 Q (F0 m 33 ls []) := by
  obtain ⟨hx, hb, hml, hown, ht⟩ := id S
  intro n
  induction n with
  | zero =>
    intro x4 x5 x6 M_used M_weight H locs ls h
    exact absurd h (by simp [lpX5_lots_33])
  | succ n ih =>
    intro x4 x5 x6 M_used M_weight H locs ls h hP hS hl
    rw [lpX5_lots_33] at h
    refine lv_iload hx hb dX5_lots_33 (lv_at hl 4 rfl) ?_
    refine lv_iload_n hx hb dX5_lots_35 rfl (lv_at hl 1 rfl) ?_
    refine lv_icmp_ge (tgt := 83) hx hb dX5_lots_36 (by decide) (fun z => ?_) (fun z => ?_)
    · replace h := h.1 z
      exact hKK x4 x5 x6 M_used M_weight _ _ _ h hP hS (lv_sub hl [0, 3] rfl)
    · replace h := h.2 z
      refine lv_iload hx hb dX5_lots_39 (lv_at hl 2 rfl) ?_
      refine lv_ldcw hx hb hown (ht _ kc_X5_283) dX5_lots_41 ?_
      refine lv_imul hx hb dX5_lots_44 ?_
      refine lv_ldcw hx hb hown (ht _ kc_X5_284) dX5_lots_45 ?_
      refine lv_iadd hx hb dX5_lots_48 ?_
      refine lv_istore (lv' := [(4, .int ((x4 * (1664525 : Int32)) + (1013904223 : Int32))), (0, .ref (a_M 0)), (1, .int x1), (5, .int x5), (6, .int x6)]) hx hb dX5_lots_49 hl (by decide) rfl (fun ls hl => ?_)
      refine lv_iload hx hb dX5_lots_51 (lv_at hl 3 rfl) ?_
      refine lv_aload_n hx hb dX5_lots_53 rfl (lv_at hl 1 rfl) ?_
      refine lv_iload hx hb dX5_lots_54 (lv_at hl 0 rfl) ?_
      refine lv_ldcw hx hb hown (ht _ kc_X5_285) dX5_lots_56 ?_
      refine lv_iand hx hb dX5_lots_59 ?_
      refine lv_sipush (v := (256 : Int32)) hx hb dX5_lots_60 (by decide) ?_
      refine lv_idiv hx hb dX5_lots_63 (by decide) ?_
      refine lv_aload_n hx hb dX5_lots_64 rfl (lv_at hl 1 rfl) ?_
      refine va_get (D := D) (ci := 5) (v := .ref (a_M 2)) (C := RX5) (T := TX5) (N := 24) hx hb ht inX5 hown hK hP 0 rfl rfl 1 (by decide) (ht _ fl_X5_13) (fun _ h9 => h9) rfl dX5_lots_65 ?_
      refine lv_iconst (v := (0 : Int32)) hx hb dX5_lots_68 (by decide) ?_
      refine va_iald hx hb hK hP 2 0 rfl rfl (by unfold vp_in; decide) dX5_lots_69 ?_
      refine zti (y := M_setting 0) (by rfl) ?_
      obtain ⟨hne, h⟩ := h
      refine lv_irem hx hb dX5_lots_70 hne ?_
      refine zci hA (hDD _ rfl) hS (zrunV (As := [.int (((((x4 * (1664525 : Int32)) + (1013904223 : Int32)) &&& (2147483647 : Int32)) / (256 : Int32)) - ((((x4 * (1664525 : Int32)) + (1013904223 : Int32)) &&& (2147483647 : Int32)) / (256 : Int32)) / (M_setting 0) * (M_setting 0))]) (rest := [.int x5]) S hK hA hE hP (hDD _ rfl) hS (mX5_nailsBy l D cI cJ cC G a_M _ M_pipes M_used M_taped M_at M_statements M_hasImage M_isKeeping M_cursor M_nextAt M_nextMost M_rowMany M_refused M_setting M_hole M_pipeAt M_chance M_weight M_tape M_letter M_letterAt M_told M_kept M_then M_row (((((x4 * (1664525 : Int32)) + (1013904223 : Int32)) &&& (2147483647 : Int32)) / (256 : Int32)) - ((((x4 * (1664525 : Int32)) + (1013904223 : Int32)) &&& (2147483647 : Int32)) / (256 : Int32)) / (M_setting 0) * (M_setting 0)) _ h) kX5_nailsBy ml_X5_286 ⟨rfl, rfl, by decide, by decide⟩ (q0 := 0) (ci := 5) rfl rfl rfl rfl hl.1 rfl (Nat.le_of_ble_eq_true rfl) dX5_lots_71 ⟨Nat.zero_le _, Nat.zero_le _⟩) (fun r_12 u H locs h hP1 hk1 hS => ?_)
      obtain ⟨M_used_13, M_weight_14⟩ := u
      dsimp only at h
      have hP : va_P D vwCl ((bX5 cI cJ cC a_M M_pipes M_used_13 M_taped M_at M_statements M_hasImage M_isKeeping M_cursor M_nextAt M_nextMost M_rowMany M_refused M_setting M_hole M_pipeAt M_chance M_weight_14 M_tape M_letter M_letterAt M_told M_kept M_then M_row)) H := hP1
      refine lv_iadd hx hb dX5_lots_74 ?_
      refine lv_istore (lv' := [(5, .int (x5 + r_12)), (4, .int ((x4 * (1664525 : Int32)) + (1013904223 : Int32))), (0, .ref (a_M 0)), (1, .int x1), (6, .int x6)]) hx hb dX5_lots_75 hl (by decide) rfl (fun ls hl => ?_)
      refine lv_iinc (v := x6 + (1 : Int32)) (lv' := [(6, .int (x6 + (1 : Int32))), (5, .int (x5 + r_12)), (4, .int ((x4 * (1664525 : Int32)) + (1013904223 : Int32))), (0, .ref (a_M 0)), (1, .int x1)]) hx hb dX5_lots_77 hl (k := 4) rfl (by rfl) (by decide) rfl (fun ls hl => ?_)
      refine lv_goto (tgt := 33) hx hb dX5_lots_80 (by decide) ?_
      exact ih ((x4 * (1664525 : Int32)) + (1013904223 : Int32)) (x5 + r_12) (x6 + (1 : Int32)) M_used_13 M_weight_14 _ _ _ h hP hS (lv_sub hl [3, 4, 2, 1, 0] rfl)
def wpX5_lots (post : Int32 → Int32 → Int32 → Int32 → Int32 → (Nat → Int32) → (Nat → Int32) → (Nat → Int32) → (Nat → Int32) → (Nat → Int32) → (Nat → Int32) → (Nat → Int32) → Prop) (M_pipes : Int32) (M_used : Int32) (M_isKeeping : Int32) (M_cursor : Int32) (M_refused : Nat → Int32) (M_setting : Nat → Int32) (M_hole : Nat → Int32) (M_pipeAt : Nat → Int32) (M_chance : Nat → Int32) (M_weight : Nat → Int32) (M_kept : Nat → Int32) (p1 : Int32) (p2 : Int32) : Prop := wpX5_bound (fun (r_1 : Int32) => ((r_1 = (0 : Int32) → (wpX5_passesAll (fun (M_pipes_2 : Int32) (M_used_3 : Int32) (M_isKeeping_4 : Int32) (M_cursor_5 : Int32) (M_setting_6 : Nat → Int32) (M_hole_7 : Nat → Int32) (M_pipeAt_8 : Nat → Int32) (M_chance_9 : Nat → Int32) (M_weight_10 : Nat → Int32) (M_kept_11 : Nat → Int32) => ∃ n_15 : Nat, lpX5_lots_33 (fun (x4_16 : Int32) (x5_17 : Int32) (x6_18 : Int32) (M_used_19 : Int32) (M_weight_20 : Nat → Int32) => wpX5_passesAll (fun (M_pipes_21 : Int32) (M_used_22 : Int32) (M_isKeeping_23 : Int32) (M_cursor_24 : Int32) (M_setting_25 : Nat → Int32) (M_hole_26 : Nat → Int32) (M_pipeAt_27 : Nat → Int32) (M_chance_28 : Nat → Int32) (M_weight_29 : Nat → Int32) (M_kept_30 : Nat → Int32) => post x5_17 M_pipes_21 M_used_22 M_isKeeping_23 M_cursor_24 M_refused M_setting_25 M_hole_26 M_pipeAt_27 M_chance_28 M_weight_29 M_kept_30) M_pipes_2 M_used_19 M_setting_6 M_hole_7 M_pipeAt_8 M_chance_9 M_weight_20 M_kept_11 (1 : Int32) (0 : Int32)) p1 M_setting_6 n_15 p2 (0 : Int32) (0 : Int32) M_used_3 M_weight_10) M_pipes M_used M_setting M_hole M_pipeAt M_chance M_weight M_kept (1 : Int32) (1 : Int32))) ∧ (¬ (r_1 = (0 : Int32)) → (wpX5_no (fun (r_31 : Int32) (M_refused_32 : Nat → Int32) => post r_31 M_pipes M_used M_isKeeping M_cursor M_refused_32 M_setting M_hole M_pipeAt M_chance M_weight M_kept) M_refused r_1)))) p1 (1 : Int32) (30 : Int32)
set_option maxHeartbeats 4000000 in
set_option maxRecDepth 100000 in
theorem mX5_lots (l : Launch) (D : va_G) (cI cJ cC : ClassId) (G : Nat → Nat → Nat) (a_M : Nat → Nat) (sz : Nat) (M_pipes : Int32) (M_used : Int32) (M_taped : Int32) (M_at : Int32) (M_statements : Int32) (M_hasImage : Int32) (M_isKeeping : Int32) (M_cursor : Int32) (M_nextAt : Int32) (M_nextMost : Int64) (M_rowMany : Int32) (M_refused : Nat → Int32) (M_setting : Nat → Int32) (M_hole : Nat → Int32) (M_pipeAt : Nat → Int32) (M_chance : Nat → Int32) (M_weight : Nat → Int32) (M_tape : Nat → Int32) (M_letter : Nat → Int32) (M_letterAt : Nat → Int32) (M_told : Nat → Int32) (M_kept : Nat → Int32) (M_then : Nat → Int64) (M_row : Nat → Int32) (p1 : Int32) (p2 : Int32) (post : Int32 → Int32 → Int32 → Int32 → Int32 → (Nat → Int32) → (Nat → Int32) → (Nat → Int32) → (Nat → Int32) → (Nat → Int32) → (Nat → Int32) → (Nat → Int32) → Prop) (h : wpX5_lots post M_pipes M_used M_isKeeping M_cursor M_refused M_setting M_hole M_pipeAt M_chance M_weight M_kept p1 p2) : Met l yX5_lots (wz yX5_lots cX5_lots 7 (some .int)) ({ frames := 7, cells := 0, slots := 0, locals := 157 }) (va_Pc [.ref (a_M 0), .int p1, .int p2] (PW D (tz cI cJ cC) G ((bX5 cI cJ cC a_M M_pipes M_used M_taped M_at M_statements M_hasImage M_isKeeping M_cursor M_nextAt M_nextMost M_rowMany M_refused M_setting M_hole M_pipeAt M_chance M_weight M_tape M_letter M_letterAt M_told M_kept M_then M_row)) sz)) (va_Qi (fun (r : Int32) (u : Int32 × Int32 × Int32 × Int32 × (Nat → Int32) × (Nat → Int32) × (Nat → Int32) × (Nat → Int32) × (Nat → Int32) × (Nat → Int32) × (Nat → Int32)) => post r u.1 u.2.1 u.2.2.1 u.2.2.2.1 u.2.2.2.2.1 u.2.2.2.2.2.1 u.2.2.2.2.2.2.1 u.2.2.2.2.2.2.2.1 u.2.2.2.2.2.2.2.2.1 u.2.2.2.2.2.2.2.2.2.1 u.2.2.2.2.2.2.2.2.2.2) (fun (u : Int32 × Int32 × Int32 × Int32 × (Nat → Int32) × (Nat → Int32) × (Nat → Int32) × (Nat → Int32) × (Nat → Int32) × (Nat → Int32) × (Nat → Int32)) t => va_P D vwCl ((bX5 cI cJ cC a_M u.1 u.2.1 M_taped M_at M_statements M_hasImage u.2.2.1 u.2.2.2.1 M_nextAt M_nextMost M_rowMany u.2.2.2.2.1 u.2.2.2.2.2.1 u.2.2.2.2.2.2.1 u.2.2.2.2.2.2.2.1 u.2.2.2.2.2.2.2.2.1 u.2.2.2.2.2.2.2.2.2.1 M_tape M_letter M_letterAt M_told u.2.2.2.2.2.2.2.2.2.2 M_then M_row)) t.heap) (va_A ((bX5 cI cJ cC a_M M_pipes M_used M_taped M_at M_statements M_hasImage M_isKeeping M_cursor M_nextAt M_nextMost M_rowMany M_refused M_setting M_hole M_pipeAt M_chance M_weight M_tape M_letter M_letterAt M_told M_kept M_then M_row)) sz)) 0 0 (va_A ((bX5 cI cJ cC a_M M_pipes M_used M_taped M_at M_statements M_hasImage M_isKeeping M_cursor M_nextAt M_nextMost M_rowMany M_refused M_setting M_hole M_pipeAt M_chance M_weight M_tape M_letter M_letterAt M_told M_kept M_then M_row)) sz) := by
  refine zmi (gw := fun (u : Int32 × Int32 × Int32 × Int32 × (Nat → Int32) × (Nat → Int32) × (Nat → Int32) × (Nat → Int32) × (Nat → Int32) × (Nat → Int32) × (Nat → Int32)) => (bX5 cI cJ cC a_M u.1 u.2.1 M_taped M_at M_statements M_hasImage u.2.2.1 u.2.2.2.1 M_nextAt M_nextMost M_rowMany u.2.2.2.2.1 u.2.2.2.2.2.1 u.2.2.2.2.2.2.1 u.2.2.2.2.2.2.2.1 u.2.2.2.2.2.2.2.2.1 u.2.2.2.2.2.2.2.2.2.1 M_tape M_letter M_letterAt M_told u.2.2.2.2.2.2.2.2.2.2 M_then M_row)) (plainFor_of_name (by decide)) (Nat.le_of_ble_eq_true rfl) ?_
  intro p e s m below meth c A Q ls S hK hD hA hE hP hl hret
  obtain ⟨hx, hb, hml, hown, ht⟩ := id S
  have hS : va_S A s.heap s.heap [] := va_S.rf
  have hDD : ∀ ws : va_W, ws.map (fun q => q.1) = [a_M 0, a_M 1, a_M 2, a_M 3, a_M 4, a_M 5, a_M 6, a_M 7, a_M 8, a_M 9, a_M 10, a_M 11, a_M 12, a_M 13] → va_D A ws := fun ws hw => zD hD (hw.trans rfl)
  have hl : lv_has ls 7 [(0, .ref (a_M 0)), (1, .int p1), (2, .int p2)] := hl
  unfold wpX5_lots at h
  refine lv_iload_n hx hb dX5_lots_0 rfl (lv_at hl 1 rfl) ?_
  refine lv_iconst (v := (1 : Int32)) hx hb dX5_lots_1 (by decide) ?_
  refine lv_bipush (v := (30 : Int32)) hx hb dX5_lots_2 (by decide) ?_
  refine zci hA zD0 hS (zrunS (As := [.int p1, .int (1 : Int32), .int (30 : Int32)]) (rest := []) S hK hA hE zP0 zD0 hS (mX5_bound l D cI cJ cC G _ p1 (1 : Int32) (30 : Int32) _ h) kX5_bound ml_X5_59 ⟨rfl, rfl, by decide, by decide⟩ rfl hl.1 rfl (Nat.le_of_ble_eq_true rfl) dX5_lots_4 ⟨Nat.zero_le _, Nat.zero_le _⟩) (fun r_1 u H locs h hP1 hk1 hS => ?_)
  try dsimp only at h
  have hP : va_P D vwCl ((bX5 cI cJ cC a_M M_pipes M_used M_taped M_at M_statements M_hasImage M_isKeeping M_cursor M_nextAt M_nextMost M_rowMany M_refused M_setting M_hole M_pipeAt M_chance M_weight M_tape M_letter M_letterAt M_told M_kept M_then M_row)) H := zKeep hP hk1
  refine lv_istore_n (lv' := [(3, .int r_1), (0, .ref (a_M 0)), (1, .int p1), (2, .int p2)]) hx hb dX5_lots_7 rfl hl (by decide) rfl (fun ls hl => ?_)
  refine lv_iload_n hx hb dX5_lots_8 rfl (lv_at hl 0 rfl) ?_
  refine lv_if_eq (tgt := 18) hx hb dX5_lots_9 (by decide) (fun z => ?_) (fun z => ?_)
  · replace h := h.1 z
    refine lv_aload_n hx hb dX5_lots_18 rfl (lv_at hl 1 rfl) ?_
    refine lv_iconst (v := (1 : Int32)) hx hb dX5_lots_19 (by decide) ?_
    refine lv_iconst (v := (1 : Int32)) hx hb dX5_lots_20 (by decide) ?_
    refine zcv hA (hDD _ rfl) hS (zrunV (As := [.int (1 : Int32), .int (1 : Int32)]) (rest := []) S hK hA hE hP (hDD _ rfl) hS (mX5_passesAll l D cI cJ cC G a_M _ M_pipes M_used M_taped M_at M_statements M_hasImage M_isKeeping M_cursor M_nextAt M_nextMost M_rowMany M_refused M_setting M_hole M_pipeAt M_chance M_weight M_tape M_letter M_letterAt M_told M_kept M_then M_row (1 : Int32) (1 : Int32) _ h) kX5_passesAll ml_X5_138 ⟨rfl, rfl, by decide, by decide⟩ (q0 := 0) (ci := 5) rfl rfl rfl rfl hl.1 rfl (Nat.le_of_ble_eq_true rfl) dX5_lots_21 ⟨Nat.zero_le _, Nat.zero_le _⟩) (fun u H locs h hP1 hk1 hS => ?_)
    obtain ⟨M_pipes_2, M_used_3, M_isKeeping_4, M_cursor_5, M_setting_6, M_hole_7, M_pipeAt_8, M_chance_9, M_weight_10, M_kept_11⟩ := u
    dsimp only at h
    have hP : va_P D vwCl ((bX5 cI cJ cC a_M M_pipes_2 M_used_3 M_taped M_at M_statements M_hasImage M_isKeeping_4 M_cursor_5 M_nextAt M_nextMost M_rowMany M_refused M_setting_6 M_hole_7 M_pipeAt_8 M_chance_9 M_weight_10 M_tape M_letter M_letterAt M_told M_kept_11 M_then M_row)) H := hP1
    refine lv_iload_n hx hb dX5_lots_24 rfl (lv_at hl 3 rfl) ?_
    refine lv_istore (lv' := [(4, .int p2), (3, .int r_1), (0, .ref (a_M 0)), (1, .int p1), (2, .int p2)]) hx hb dX5_lots_25 hl (by decide) rfl (fun ls hl => ?_)
    refine lv_iconst (v := (0 : Int32)) hx hb dX5_lots_27 (by decide) ?_
    refine lv_istore (lv' := [(5, .int (0 : Int32)), (4, .int p2), (3, .int r_1), (0, .ref (a_M 0)), (1, .int p1), (2, .int p2)]) hx hb dX5_lots_28 hl (by decide) rfl (fun ls hl => ?_)
    refine lv_iconst (v := (0 : Int32)) hx hb dX5_lots_30 (by decide) ?_
    refine lv_istore (lv' := [(6, .int (0 : Int32)), (5, .int (0 : Int32)), (4, .int p2), (3, .int r_1), (0, .ref (a_M 0)), (1, .int p1), (2, .int p2)]) hx hb dX5_lots_31 hl (by decide) rfl (fun ls hl => ?_)
    obtain ⟨n_15, h⟩ := h
    refine wX5_lots_33 l D cI cJ cC G a_M p1 p2 p1 M_pipes_2 M_taped M_at M_statements M_hasImage M_isKeeping_4 M_cursor_5 M_nextAt M_nextMost M_rowMany M_refused M_setting_6 M_hole_7 M_pipeAt_8 M_chance_9 M_tape M_letter M_letterAt M_told M_kept_11 M_then M_row _ S hK hDD hA hE (fun x4_16 x5_17 x6_18 M_used_19 M_weight_20 H locs ls h hP hS hl => ?_) n_15 p2 (0 : Int32) (0 : Int32) M_used_3 M_weight_10 _ _ _ h hP hS (lv_sub hl [4, 5, 2, 1, 0] rfl)
    try dsimp only at h
    refine lv_aload_n hx hb dX5_lots_83 rfl (lv_at hl 0 rfl) ?_
    refine lv_iconst (v := (1 : Int32)) hx hb dX5_lots_84 (by decide) ?_
    refine lv_iconst (v := (0 : Int32)) hx hb dX5_lots_85 (by decide) ?_
    refine zcv hA (hDD _ rfl) hS (zrunV (As := [.int (1 : Int32), .int (0 : Int32)]) (rest := []) S hK hA hE hP (hDD _ rfl) hS (mX5_passesAll l D cI cJ cC G a_M _ M_pipes_2 M_used_19 M_taped M_at M_statements M_hasImage M_isKeeping_4 M_cursor_5 M_nextAt M_nextMost M_rowMany M_refused M_setting_6 M_hole_7 M_pipeAt_8 M_chance_9 M_weight_20 M_tape M_letter M_letterAt M_told M_kept_11 M_then M_row (1 : Int32) (0 : Int32) _ h) kX5_passesAll ml_X5_138 ⟨rfl, rfl, by decide, by decide⟩ (q0 := 0) (ci := 5) rfl rfl rfl rfl hl.1 rfl (Nat.le_of_ble_eq_true rfl) dX5_lots_86 ⟨Nat.zero_le _, Nat.zero_le _⟩) (fun u H locs h hP1 hk1 hS => ?_)
    obtain ⟨M_pipes_21, M_used_22, M_isKeeping_23, M_cursor_24, M_setting_25, M_hole_26, M_pipeAt_27, M_chance_28, M_weight_29, M_kept_30⟩ := u
    dsimp only at h
    have hP : va_P D vwCl ((bX5 cI cJ cC a_M M_pipes_21 M_used_22 M_taped M_at M_statements M_hasImage M_isKeeping_23 M_cursor_24 M_nextAt M_nextMost M_rowMany M_refused M_setting_25 M_hole_26 M_pipeAt_27 M_chance_28 M_weight_29 M_tape M_letter M_letterAt M_told M_kept_30 M_then M_row)) H := hP1
    refine lv_iload hx hb dX5_lots_89 (lv_at hl 1 rfl) ?_
    exact hret x5_17 (M_pipes_21, M_used_22, M_isKeeping_23, M_cursor_24, M_refused, M_setting_25, M_hole_26, M_pipeAt_27, M_chance_28, M_weight_29, M_kept_30) _ _ _ _ rfl h hP hS dX5_lots_91
  · replace h := h.2 z
    refine lv_aload_n hx hb dX5_lots_12 rfl (lv_at hl 1 rfl) ?_
    refine lv_iload_n hx hb dX5_lots_13 rfl (lv_at hl 0 rfl) ?_
    refine zci hA (hDD _ rfl) hS (zrunV (As := [.int r_1]) (rest := []) S hK hA hE hP (hDD _ rfl) hS (mX5_no l D cI cJ cC G a_M _ M_pipes M_used M_taped M_at M_statements M_hasImage M_isKeeping M_cursor M_nextAt M_nextMost M_rowMany M_refused M_setting M_hole M_pipeAt M_chance M_weight M_tape M_letter M_letterAt M_told M_kept M_then M_row r_1 _ h) kX5_no ml_X5_66 ⟨rfl, rfl, by decide, by decide⟩ (q0 := 0) (ci := 5) rfl rfl rfl rfl hl.1 rfl (Nat.le_of_ble_eq_true rfl) dX5_lots_14 ⟨Nat.zero_le _, Nat.zero_le _⟩) (fun r_31 M_refused_32 H locs h hP1 hk1 hS => ?_)
    try dsimp only at h
    have hP : va_P D vwCl ((bX5 cI cJ cC a_M M_pipes M_used M_taped M_at M_statements M_hasImage M_isKeeping M_cursor M_nextAt M_nextMost M_rowMany M_refused_32 M_setting M_hole M_pipeAt M_chance M_weight M_tape M_letter M_letterAt M_told M_kept M_then M_row)) H := hP1
    exact hret r_31 (M_pipes, M_used, M_isKeeping, M_cursor, M_refused_32, M_setting, M_hole, M_pipeAt, M_chance, M_weight, M_kept) _ _ _ _ rfl h hP hS dX5_lots_17
def wpX5_count (post : Int32 → Prop) (M_pipes : Int32) (M_used : Int32) (M_taped : Int32) (M_rowMany : Int32) (M_refused : Nat → Int32) (M_setting : Nat → Int32) (M_hole : Nat → Int32) (M_weight : Nat → Int32) (p1 : Int32) : Prop := wpX5_isIn (fun (r_1 : Int32) => ((r_1 = (0 : Int32) → (((p1 = (0 : Int32) → (wpX5_withWeight (fun (r_2 : Int32) => post r_2) M_setting M_weight)) ∧ (¬ (p1 = (0 : Int32)) → (((p1 = (1 : Int32) → (post M_used)) ∧ (¬ (p1 = (1 : Int32)) → (((p1 = (2 : Int32) → (wpX5_holesMany (fun (r_3 : Int32) => post r_3) M_hole)) ∧ (¬ (p1 = (2 : Int32)) → (((p1 = (3 : Int32) → (post M_pipes)) ∧ (¬ (p1 = (3 : Int32)) → (((p1 = (4 : Int32) → (vp_in (p1 - (4 : Int32)) 4 ∧ (post (M_setting (p1 - (4 : Int32)).toNatClampNeg)))) ∧ (¬ (p1 = (4 : Int32)) → (((p1 = (5 : Int32) → (vp_in (p1 - (4 : Int32)) 4 ∧ (post (M_setting (p1 - (4 : Int32)).toNatClampNeg)))) ∧ (¬ (p1 = (5 : Int32)) → (((p1 = (6 : Int32) → (vp_in (p1 - (4 : Int32)) 4 ∧ (post (M_setting (p1 - (4 : Int32)).toNatClampNeg)))) ∧ (¬ (p1 = (6 : Int32)) → (((p1 = (7 : Int32) → (vp_in (p1 - (4 : Int32)) 4 ∧ (post (M_setting (p1 - (4 : Int32)).toNatClampNeg)))) ∧ (¬ (p1 = (7 : Int32)) → (((p1 = (8 : Int32) → (post M_rowMany)) ∧ (¬ (p1 = (8 : Int32)) → (((p1 = (9 : Int32) → (post M_taped)) ∧ (¬ (p1 = (9 : Int32)) → (post (-9 : Int32))))))))))))))))))))))))))))))))) ∧ (¬ (r_1 = (0 : Int32)) → (vp_in (p1 - (10 : Int32)) 7 ∧ (post (M_refused (p1 - (10 : Int32)).toNatClampNeg)))))) p1 (11 : Int32) (16 : Int32)
set_option maxHeartbeats 4000000 in
set_option maxRecDepth 100000 in
theorem mX5_count (l : Launch) (D : va_G) (cI cJ cC : ClassId) (G : Nat → Nat → Nat) (a_M : Nat → Nat) (sz : Nat) (M_pipes : Int32) (M_used : Int32) (M_taped : Int32) (M_at : Int32) (M_statements : Int32) (M_hasImage : Int32) (M_isKeeping : Int32) (M_cursor : Int32) (M_nextAt : Int32) (M_nextMost : Int64) (M_rowMany : Int32) (M_refused : Nat → Int32) (M_setting : Nat → Int32) (M_hole : Nat → Int32) (M_pipeAt : Nat → Int32) (M_chance : Nat → Int32) (M_weight : Nat → Int32) (M_tape : Nat → Int32) (M_letter : Nat → Int32) (M_letterAt : Nat → Int32) (M_told : Nat → Int32) (M_kept : Nat → Int32) (M_then : Nat → Int64) (M_row : Nat → Int32) (p1 : Int32) (post : Int32 → Prop) (h : wpX5_count post M_pipes M_used M_taped M_rowMany M_refused M_setting M_hole M_weight p1) : Met l yX5_count (wz yX5_count cX5_count 2 (some .int)) ({ frames := 1, cells := 0, slots := 0, locals := 22 }) (va_Pc [.ref (a_M 0), .int p1] (PW D (tz cI cJ cC) G ((bX5 cI cJ cC a_M M_pipes M_used M_taped M_at M_statements M_hasImage M_isKeeping M_cursor M_nextAt M_nextMost M_rowMany M_refused M_setting M_hole M_pipeAt M_chance M_weight M_tape M_letter M_letterAt M_told M_kept M_then M_row)) sz)) (va_Qi (fun (r : Int32) (u : Unit) => post r ) (fun (u : Unit) t => va_P D vwCl ((bX5 cI cJ cC a_M M_pipes M_used M_taped M_at M_statements M_hasImage M_isKeeping M_cursor M_nextAt M_nextMost M_rowMany M_refused M_setting M_hole M_pipeAt M_chance M_weight M_tape M_letter M_letterAt M_told M_kept M_then M_row)) t.heap) (va_A ((bX5 cI cJ cC a_M M_pipes M_used M_taped M_at M_statements M_hasImage M_isKeeping M_cursor M_nextAt M_nextMost M_rowMany M_refused M_setting M_hole M_pipeAt M_chance M_weight M_tape M_letter M_letterAt M_told M_kept M_then M_row)) sz)) 0 0 (va_A ((bX5 cI cJ cC a_M M_pipes M_used M_taped M_at M_statements M_hasImage M_isKeeping M_cursor M_nextAt M_nextMost M_rowMany M_refused M_setting M_hole M_pipeAt M_chance M_weight M_tape M_letter M_letterAt M_told M_kept M_then M_row)) sz) := by
  refine zmi (gw := fun (u : Unit) => (bX5 cI cJ cC a_M M_pipes M_used M_taped M_at M_statements M_hasImage M_isKeeping M_cursor M_nextAt M_nextMost M_rowMany M_refused M_setting M_hole M_pipeAt M_chance M_weight M_tape M_letter M_letterAt M_told M_kept M_then M_row)) (plainFor_of_name (by decide)) (Nat.le_of_ble_eq_true rfl) ?_
  intro p e s m below meth c A Q ls S hK hD hA hE hP hl hret
  obtain ⟨hx, hb, hml, hown, ht⟩ := id S
  have hS : va_S A s.heap s.heap [] := va_S.rf
  have hDD : ∀ ws : va_W, ws.map (fun q => q.1) = [a_M 0, a_M 1, a_M 2, a_M 3, a_M 4, a_M 5, a_M 6, a_M 7, a_M 8, a_M 9, a_M 10, a_M 11, a_M 12, a_M 13] → va_D A ws := fun ws hw => zD hD (hw.trans rfl)
  have hl : lv_has ls 2 [(0, .ref (a_M 0)), (1, .int p1)] := hl
  unfold wpX5_count at h
  refine lv_iload_n hx hb dX5_count_0 rfl (lv_at hl 1 rfl) ?_
  refine lv_bipush (v := (11 : Int32)) hx hb dX5_count_1 (by decide) ?_
  refine lv_bipush (v := (16 : Int32)) hx hb dX5_count_3 (by decide) ?_
  refine zci hA zD0 hS (zrunS (As := [.int p1, .int (11 : Int32), .int (16 : Int32)]) (rest := []) S hK hA hE zP0 zD0 hS (mX5_isIn l D cI cJ cC G _ p1 (11 : Int32) (16 : Int32) _ h) kX5_isIn ml_X5_77 ⟨rfl, rfl, by decide, by decide⟩ rfl hl.1 rfl (Nat.le_of_ble_eq_true rfl) dX5_count_5 ⟨Nat.zero_le _, Nat.zero_le _⟩) (fun r_1 u H locs h hP1 hk1 hS => ?_)
  try dsimp only at h
  have hP : va_P D vwCl ((bX5 cI cJ cC a_M M_pipes M_used M_taped M_at M_statements M_hasImage M_isKeeping M_cursor M_nextAt M_nextMost M_rowMany M_refused M_setting M_hole M_pipeAt M_chance M_weight M_tape M_letter M_letterAt M_told M_kept M_then M_row)) H := zKeep hP hk1
  refine lv_if_eq (tgt := 21) hx hb dX5_count_8 (by decide) (fun z => ?_) (fun z => ?_)
  · replace h := h.1 z
    refine lv_iload_n hx hb dX5_count_21 rfl (lv_at hl 1 rfl) ?_
    by_cases z0 : p1 = (0 : Int32)
    · replace h := h.1 z0
      refine lv_tableIn (off := 54) (tgt := 76) hx hb dX5_count_22 (by rw [z0]; decide) (by rw [z0]; decide) (by rw [z0]; rfl) (by decide) ?_
      refine lv_aload_n hx hb dX5_count_76 rfl (lv_at hl 0 rfl) ?_
      refine zci hA (hDD _ rfl) hS (zrunV (As := []) (rest := []) S hK hA hE hP (hDD _ rfl) hS (mX5_withWeight l D cI cJ cC G a_M _ M_pipes M_used M_taped M_at M_statements M_hasImage M_isKeeping M_cursor M_nextAt M_nextMost M_rowMany M_refused M_setting M_hole M_pipeAt M_chance M_weight M_tape M_letter M_letterAt M_told M_kept M_then M_row _ h) kX5_withWeight ml_X5_204 ⟨rfl, rfl, by decide, by decide⟩ (q0 := 0) (ci := 5) rfl rfl rfl rfl hl.1 rfl (Nat.le_of_ble_eq_true rfl) dX5_count_77 ⟨Nat.zero_le _, Nat.zero_le _⟩) (fun r_2 u H locs h hP1 hk1 hS => ?_)
      try dsimp only at h
      have hP : va_P D vwCl ((bX5 cI cJ cC a_M M_pipes M_used M_taped M_at M_statements M_hasImage M_isKeeping M_cursor M_nextAt M_nextMost M_rowMany M_refused M_setting M_hole M_pipeAt M_chance M_weight M_tape M_letter M_letterAt M_told M_kept M_then M_row)) H := hP1
      exact hret r_2 () _ _ _ _ rfl h hP hS dX5_count_80
    · replace h := h.2 z0
      by_cases z1 : p1 = (1 : Int32)
      · replace h := h.1 z1
        refine lv_tableIn (off := 59) (tgt := 81) hx hb dX5_count_22 (by rw [z1]; decide) (by rw [z1]; decide) (by rw [z1]; rfl) (by decide) ?_
        refine lv_aload_n hx hb dX5_count_81 rfl (lv_at hl 0 rfl) ?_
        refine va_get (D := D) (ci := 5) (v := .int M_used) (C := RX5) (T := TX5) (N := 24) hx hb ht inX5 hown hK hP 0 rfl rfl 7 (by decide) (ht _ fl_X5_55) (fun _ h9 => h9) rfl dX5_count_82 ?_
        exact hret M_used () _ _ _ _ rfl h hP hS dX5_count_85
      · replace h := h.2 z1
        by_cases z2 : p1 = (2 : Int32)
        · replace h := h.1 z2
          refine lv_tableIn (off := 64) (tgt := 86) hx hb dX5_count_22 (by rw [z2]; decide) (by rw [z2]; decide) (by rw [z2]; rfl) (by decide) ?_
          refine lv_aload_n hx hb dX5_count_86 rfl (lv_at hl 0 rfl) ?_
          refine zci hA (hDD _ rfl) hS (zrunV (As := []) (rest := []) S hK hA hE hP (hDD _ rfl) hS (mX5_holesMany l D cI cJ cC G a_M _ M_pipes M_used M_taped M_at M_statements M_hasImage M_isKeeping M_cursor M_nextAt M_nextMost M_rowMany M_refused M_setting M_hole M_pipeAt M_chance M_weight M_tape M_letter M_letterAt M_told M_kept M_then M_row _ h) kX5_holesMany ml_X5_210 ⟨rfl, rfl, by decide, by decide⟩ (q0 := 0) (ci := 5) rfl rfl rfl rfl hl.1 rfl (Nat.le_of_ble_eq_true rfl) dX5_count_87 ⟨Nat.zero_le _, Nat.zero_le _⟩) (fun r_3 u H locs h hP1 hk1 hS => ?_)
          try dsimp only at h
          have hP : va_P D vwCl ((bX5 cI cJ cC a_M M_pipes M_used M_taped M_at M_statements M_hasImage M_isKeeping M_cursor M_nextAt M_nextMost M_rowMany M_refused M_setting M_hole M_pipeAt M_chance M_weight M_tape M_letter M_letterAt M_told M_kept M_then M_row)) H := hP1
          exact hret r_3 () _ _ _ _ rfl h hP hS dX5_count_90
        · replace h := h.2 z2
          by_cases z3 : p1 = (3 : Int32)
          · replace h := h.1 z3
            refine lv_tableIn (off := 69) (tgt := 91) hx hb dX5_count_22 (by rw [z3]; decide) (by rw [z3]; decide) (by rw [z3]; rfl) (by decide) ?_
            refine lv_aload_n hx hb dX5_count_91 rfl (lv_at hl 0 rfl) ?_
            refine va_get (D := D) (ci := 5) (v := .int M_pipes) (C := RX5) (T := TX5) (N := 24) hx hb ht inX5 hown hK hP 0 rfl rfl 6 (by decide) (ht _ fl_X5_128) (fun _ h9 => h9) rfl dX5_count_92 ?_
            exact hret M_pipes () _ _ _ _ rfl h hP hS dX5_count_95
          · replace h := h.2 z3
            by_cases z4 : p1 = (4 : Int32)
            · replace h := h.1 z4
              refine lv_tableIn (off := 74) (tgt := 96) hx hb dX5_count_22 (by rw [z4]; decide) (by rw [z4]; decide) (by rw [z4]; rfl) (by decide) ?_
              refine lv_aload_n hx hb dX5_count_96 rfl (lv_at hl 0 rfl) ?_
              refine va_get (D := D) (ci := 5) (v := .ref (a_M 2)) (C := RX5) (T := TX5) (N := 24) hx hb ht inX5 hown hK hP 0 rfl rfl 1 (by decide) (ht _ fl_X5_13) (fun _ h9 => h9) rfl dX5_count_97 ?_
              refine lv_iload_n hx hb dX5_count_100 rfl (lv_at hl 1 rfl) ?_
              refine lv_iconst (v := (4 : Int32)) hx hb dX5_count_101 (by decide) ?_
              refine lv_isub hx hb dX5_count_102 ?_
              obtain ⟨hin, h⟩ := h
              refine va_iald hx hb hK hP 2 0 rfl rfl hin dX5_count_103 ?_
              exact hret (M_setting (p1 - (4 : Int32)).toNatClampNeg) () _ _ _ _ rfl h hP hS dX5_count_104
            · replace h := h.2 z4
              by_cases z5 : p1 = (5 : Int32)
              · replace h := h.1 z5
                refine lv_tableIn (off := 74) (tgt := 96) hx hb dX5_count_22 (by rw [z5]; decide) (by rw [z5]; decide) (by rw [z5]; rfl) (by decide) ?_
                refine lv_aload_n hx hb dX5_count_96 rfl (lv_at hl 0 rfl) ?_
                refine va_get (D := D) (ci := 5) (v := .ref (a_M 2)) (C := RX5) (T := TX5) (N := 24) hx hb ht inX5 hown hK hP 0 rfl rfl 1 (by decide) (ht _ fl_X5_13) (fun _ h9 => h9) rfl dX5_count_97 ?_
                refine lv_iload_n hx hb dX5_count_100 rfl (lv_at hl 1 rfl) ?_
                refine lv_iconst (v := (4 : Int32)) hx hb dX5_count_101 (by decide) ?_
                refine lv_isub hx hb dX5_count_102 ?_
                obtain ⟨hin, h⟩ := h
                refine va_iald hx hb hK hP 2 0 rfl rfl hin dX5_count_103 ?_
                exact hret (M_setting (p1 - (4 : Int32)).toNatClampNeg) () _ _ _ _ rfl h hP hS dX5_count_104
              · replace h := h.2 z5
                by_cases z6 : p1 = (6 : Int32)
                · replace h := h.1 z6
                  refine lv_tableIn (off := 74) (tgt := 96) hx hb dX5_count_22 (by rw [z6]; decide) (by rw [z6]; decide) (by rw [z6]; rfl) (by decide) ?_
                  refine lv_aload_n hx hb dX5_count_96 rfl (lv_at hl 0 rfl) ?_
                  refine va_get (D := D) (ci := 5) (v := .ref (a_M 2)) (C := RX5) (T := TX5) (N := 24) hx hb ht inX5 hown hK hP 0 rfl rfl 1 (by decide) (ht _ fl_X5_13) (fun _ h9 => h9) rfl dX5_count_97 ?_
                  refine lv_iload_n hx hb dX5_count_100 rfl (lv_at hl 1 rfl) ?_
                  refine lv_iconst (v := (4 : Int32)) hx hb dX5_count_101 (by decide) ?_
                  refine lv_isub hx hb dX5_count_102 ?_
                  obtain ⟨hin, h⟩ := h
                  refine va_iald hx hb hK hP 2 0 rfl rfl hin dX5_count_103 ?_
                  exact hret (M_setting (p1 - (4 : Int32)).toNatClampNeg) () _ _ _ _ rfl h hP hS dX5_count_104
                · replace h := h.2 z6
                  by_cases z7 : p1 = (7 : Int32)
                  · replace h := h.1 z7
                    refine lv_tableIn (off := 74) (tgt := 96) hx hb dX5_count_22 (by rw [z7]; decide) (by rw [z7]; decide) (by rw [z7]; rfl) (by decide) ?_
                    refine lv_aload_n hx hb dX5_count_96 rfl (lv_at hl 0 rfl) ?_
                    refine va_get (D := D) (ci := 5) (v := .ref (a_M 2)) (C := RX5) (T := TX5) (N := 24) hx hb ht inX5 hown hK hP 0 rfl rfl 1 (by decide) (ht _ fl_X5_13) (fun _ h9 => h9) rfl dX5_count_97 ?_
                    refine lv_iload_n hx hb dX5_count_100 rfl (lv_at hl 1 rfl) ?_
                    refine lv_iconst (v := (4 : Int32)) hx hb dX5_count_101 (by decide) ?_
                    refine lv_isub hx hb dX5_count_102 ?_
                    obtain ⟨hin, h⟩ := h
                    refine va_iald hx hb hK hP 2 0 rfl rfl hin dX5_count_103 ?_
                    exact hret (M_setting (p1 - (4 : Int32)).toNatClampNeg) () _ _ _ _ rfl h hP hS dX5_count_104
                  · replace h := h.2 z7
                    by_cases z8 : p1 = (8 : Int32)
                    · replace h := h.1 z8
                      refine lv_tableIn (off := 83) (tgt := 105) hx hb dX5_count_22 (by rw [z8]; decide) (by rw [z8]; decide) (by rw [z8]; rfl) (by decide) ?_
                      refine lv_aload_n hx hb dX5_count_105 rfl (lv_at hl 0 rfl) ?_
                      refine va_get (D := D) (ci := 5) (v := .int M_rowMany) (C := RX5) (T := TX5) (N := 24) hx hb ht inX5 hown hK hP 0 rfl rfl 23 (by decide) (ht _ fl_X5_274) (fun _ h9 => h9) rfl dX5_count_106 ?_
                      exact hret M_rowMany () _ _ _ _ rfl h hP hS dX5_count_109
                    · replace h := h.2 z8
                      by_cases z9 : p1 = (9 : Int32)
                      · replace h := h.1 z9
                        refine lv_tableIn (off := 88) (tgt := 110) hx hb dX5_count_22 (by rw [z9]; decide) (by rw [z9]; decide) (by rw [z9]; rfl) (by decide) ?_
                        refine lv_aload_n hx hb dX5_count_110 rfl (lv_at hl 0 rfl) ?_
                        refine va_get (D := D) (ci := 5) (v := .int M_taped) (C := RX5) (T := TX5) (N := 24) hx hb ht inX5 hown hK hP 0 rfl rfl 12 (by decide) (ht _ fl_X5_63) (fun _ h9 => h9) rfl dX5_count_111 ?_
                        exact hret M_taped () _ _ _ _ rfl h hP hS dX5_count_114
                      · replace h := h.2 z9
                        refine lv_tableOut (tgt := 115) hx hb dX5_count_22 (by have n0 := lv_neT z0 (a := 0) (by decide); have n1 := lv_neT z1 (a := 1) (by decide); have n2 := lv_neT z2 (a := 2) (by decide); have n3 := lv_neT z3 (a := 3) (by decide); have n4 := lv_neT z4 (a := 4) (by decide); have n5 := lv_neT z5 (a := 5) (by decide); have n6 := lv_neT z6 (a := 6) (by decide); have n7 := lv_neT z7 (a := 7) (by decide); have n8 := lv_neT z8 (a := 8) (by decide); have n9 := lv_neT z9 (a := 9) (by decide); omega) (by decide) ?_
                        refine lv_bipush (v := (-9 : Int32)) hx hb dX5_count_115 (by decide) ?_
                        exact hret (-9 : Int32) () _ _ _ _ rfl h hP hS dX5_count_117
  · replace h := h.2 z
    refine lv_aload_n hx hb dX5_count_11 rfl (lv_at hl 0 rfl) ?_
    refine va_get (D := D) (ci := 5) (v := .ref (a_M 1)) (C := RX5) (T := TX5) (N := 24) hx hb ht inX5 hown hK hP 0 rfl rfl 0 (by decide) (ht _ fl_X5_7) (fun _ h9 => h9) rfl dX5_count_12 ?_
    refine lv_iload_n hx hb dX5_count_15 rfl (lv_at hl 1 rfl) ?_
    refine lv_bipush (v := (10 : Int32)) hx hb dX5_count_16 (by decide) ?_
    refine lv_isub hx hb dX5_count_18 ?_
    obtain ⟨hin, h⟩ := h
    refine va_iald hx hb hK hP 1 0 rfl rfl hin dX5_count_19 ?_
    exact hret (M_refused (p1 - (10 : Int32)).toNatClampNeg) () _ _ _ _ rfl h hP hS dX5_count_20
def wpX3_becomeAs (post : Int32 → Int32 → Int32 → Int32 → Int32 → Int32 → Int64 → Int64 → Int32 → (Nat → Int32) → (Nat → Int32) → (Nat → Int64) → (Nat → Int32) → (Nat → Int64) → Prop) (w_pipeInches : Nat → Int32) (w_pipeChances : Nat → Int32) (w_weights : Nat → Int64) (w_woods : Nat → Int32) (w_sums : Nat → Int64) (o_space : Int32) (o_beam : Int32) (o_door : Int32) (o_law : Int32) (o_used : Int32) (o_pipes : Int32) (o_drilled : Int64) (o_total : Int64) (o_open : Int32) (o_pipeInches : Nat → Int32) (o_pipeChances : Nat → Int32) (o_weights : Nat → Int64) (o_woods : Nat → Int32) (o_sums : Nat → Int64) : Prop := post o_space o_beam o_door o_law o_used o_pipes o_drilled o_total o_open (va_cpy o_pipeInches w_pipeInches 0 0 6) (va_cpy o_pipeChances w_pipeChances 0 0 6) (va_cpy o_weights w_weights 0 0 24) (va_cpy o_woods w_woods 0 0 48) (va_cpy o_sums w_sums 0 0 48)
set_option maxHeartbeats 4000000 in
set_option maxRecDepth 100000 in
theorem mX3_becomeAs (l : Launch) (D : va_G) (cI cJ cC : ClassId) (G : Nat → Nat → Nat) (a_w : Nat → Nat) (a_o : Nat → Nat) (sz : Nat) (w_space : Int32) (w_beam : Int32) (w_door : Int32) (w_law : Int32) (w_used : Int32) (w_pipes : Int32) (w_drilled : Int64) (w_total : Int64) (w_open : Int32) (w_pipeInches : Nat → Int32) (w_pipeChances : Nat → Int32) (w_weights : Nat → Int64) (w_woods : Nat → Int32) (w_sums : Nat → Int64) (o_space : Int32) (o_beam : Int32) (o_door : Int32) (o_law : Int32) (o_used : Int32) (o_pipes : Int32) (o_drilled : Int64) (o_total : Int64) (o_open : Int32) (o_pipeInches : Nat → Int32) (o_pipeChances : Nat → Int32) (o_weights : Nat → Int64) (o_woods : Nat → Int32) (o_sums : Nat → Int64) (post : Int32 → Int32 → Int32 → Int32 → Int32 → Int32 → Int64 → Int64 → Int32 → (Nat → Int32) → (Nat → Int32) → (Nat → Int64) → (Nat → Int32) → (Nat → Int64) → Prop) (h : wpX3_becomeAs post w_pipeInches w_pipeChances w_weights w_woods w_sums o_space o_beam o_door o_law o_used o_pipes o_drilled o_total o_open o_pipeInches o_pipeChances o_weights o_woods o_sums) : Met l yX3_becomeAs (wz yX3_becomeAs cX3_becomeAs 2 none) ({ frames := 1, cells := 0, slots := 0, locals := 60 }) (va_Pc [.ref (a_w 0), .ref (a_o 0)] (PW D (tz cI cJ cC) G ((bX3 cI cJ cC a_w w_space w_beam w_door w_law w_used w_pipes w_drilled w_total w_open w_pipeInches w_pipeChances w_weights w_woods w_sums) ++ (bX3 cI cJ cC a_o o_space o_beam o_door o_law o_used o_pipes o_drilled o_total o_open o_pipeInches o_pipeChances o_weights o_woods o_sums)) sz)) (va_Qv (fun (u : Int32 × Int32 × Int32 × Int32 × Int32 × Int32 × Int64 × Int64 × Int32 × (Nat → Int32) × (Nat → Int32) × (Nat → Int64) × (Nat → Int32) × (Nat → Int64)) => post u.1 u.2.1 u.2.2.1 u.2.2.2.1 u.2.2.2.2.1 u.2.2.2.2.2.1 u.2.2.2.2.2.2.1 u.2.2.2.2.2.2.2.1 u.2.2.2.2.2.2.2.2.1 u.2.2.2.2.2.2.2.2.2.1 u.2.2.2.2.2.2.2.2.2.2.1 u.2.2.2.2.2.2.2.2.2.2.2.1 u.2.2.2.2.2.2.2.2.2.2.2.2.1 u.2.2.2.2.2.2.2.2.2.2.2.2.2) (fun (u : Int32 × Int32 × Int32 × Int32 × Int32 × Int32 × Int64 × Int64 × Int32 × (Nat → Int32) × (Nat → Int32) × (Nat → Int64) × (Nat → Int32) × (Nat → Int64)) t => va_P D vwCl ((bX3 cI cJ cC a_w u.1 u.2.1 u.2.2.1 u.2.2.2.1 u.2.2.2.2.1 u.2.2.2.2.2.1 u.2.2.2.2.2.2.1 u.2.2.2.2.2.2.2.1 u.2.2.2.2.2.2.2.2.1 u.2.2.2.2.2.2.2.2.2.1 u.2.2.2.2.2.2.2.2.2.2.1 u.2.2.2.2.2.2.2.2.2.2.2.1 u.2.2.2.2.2.2.2.2.2.2.2.2.1 u.2.2.2.2.2.2.2.2.2.2.2.2.2) ++ (bX3 cI cJ cC a_o o_space o_beam o_door o_law o_used o_pipes o_drilled o_total o_open o_pipeInches o_pipeChances o_weights o_woods o_sums)) t.heap) (va_A ((bX3 cI cJ cC a_w w_space w_beam w_door w_law w_used w_pipes w_drilled w_total w_open w_pipeInches w_pipeChances w_weights w_woods w_sums) ++ (bX3 cI cJ cC a_o o_space o_beam o_door o_law o_used o_pipes o_drilled o_total o_open o_pipeInches o_pipeChances o_weights o_woods o_sums)) sz)) 0 0 (va_A ((bX3 cI cJ cC a_w w_space w_beam w_door w_law w_used w_pipes w_drilled w_total w_open w_pipeInches w_pipeChances w_weights w_woods w_sums) ++ (bX3 cI cJ cC a_o o_space o_beam o_door o_law o_used o_pipes o_drilled o_total o_open o_pipeInches o_pipeChances o_weights o_woods o_sums)) sz) := by
  refine zmv (gw := fun (u : Int32 × Int32 × Int32 × Int32 × Int32 × Int32 × Int64 × Int64 × Int32 × (Nat → Int32) × (Nat → Int32) × (Nat → Int64) × (Nat → Int32) × (Nat → Int64)) => (bX3 cI cJ cC a_w u.1 u.2.1 u.2.2.1 u.2.2.2.1 u.2.2.2.2.1 u.2.2.2.2.2.1 u.2.2.2.2.2.2.1 u.2.2.2.2.2.2.2.1 u.2.2.2.2.2.2.2.2.1 u.2.2.2.2.2.2.2.2.2.1 u.2.2.2.2.2.2.2.2.2.2.1 u.2.2.2.2.2.2.2.2.2.2.2.1 u.2.2.2.2.2.2.2.2.2.2.2.2.1 u.2.2.2.2.2.2.2.2.2.2.2.2.2) ++ (bX3 cI cJ cC a_o o_space o_beam o_door o_law o_used o_pipes o_drilled o_total o_open o_pipeInches o_pipeChances o_weights o_woods o_sums)) (plainFor_of_name (by decide)) (Nat.le_of_ble_eq_true rfl) ?_
  intro p e s m below meth c A Q ls S hK hD hA hE hP hl hret
  obtain ⟨hx, hb, hml, hown, ht⟩ := id S
  have hS : va_S A s.heap s.heap [] := va_S.rf
  have hDD : ∀ ws : va_W, ws.map (fun q => q.1) = [a_w 0, a_w 1, a_w 2, a_w 3, a_w 4, a_w 5, a_o 0, a_o 1, a_o 2, a_o 3, a_o 4, a_o 5] → va_D A ws := fun ws hw => zD hD (hw.trans rfl)
  have hl : lv_has ls 2 [(0, .ref (a_w 0)), (1, .ref (a_o 0))] := hl
  unfold wpX3_becomeAs at h
  refine lv_aload_n hx hb dX3_becomeAs_0 rfl (lv_at hl 0 rfl) ?_
  refine lv_aload_n hx hb dX3_becomeAs_1 rfl (lv_at hl 1 rfl) ?_
  refine va_get (D := D) (ci := 3) (v := .int o_space) (C := RX3) (T := TX3) (N := 14) hx hb ht inX3 hown hK hP 6 rfl rfl 0 (by decide) (ht _ fl_X3_9) (fun _ h9 => h9) rfl dX3_becomeAs_2 ?_
  refine va_put (D := D) (ci := 3) (v := .int o_space) (ty := .int) (C := RX3) (T := TX3) (N := 14) hx hb ht inX3 tyX3 tyX3_ok nmX3 hown hK hP (hDD _ rfl) hS 0 rfl rfl 0 (by decide) (ht _ fl_X3_9) (fun _ h9 => h9) rfl (by decide +kernel) rfl rfl (Nat.le_of_ble_eq_true rfl) dX3_becomeAs_5 (fun H locs hP _ hS => ?_)
  have hP : va_P D vwCl ((bX3 cI cJ cC a_w o_space w_beam w_door w_law w_used w_pipes w_drilled w_total w_open w_pipeInches w_pipeChances w_weights w_woods w_sums) ++ (bX3 cI cJ cC a_o o_space o_beam o_door o_law o_used o_pipes o_drilled o_total o_open o_pipeInches o_pipeChances o_weights o_woods o_sums)) H := hP
  refine lv_aload_n hx hb dX3_becomeAs_8 rfl (lv_at hl 0 rfl) ?_
  refine lv_aload_n hx hb dX3_becomeAs_9 rfl (lv_at hl 1 rfl) ?_
  refine va_get (D := D) (ci := 3) (v := .int o_beam) (C := RX3) (T := TX3) (N := 14) hx hb ht inX3 hown hK hP 6 rfl rfl 1 (by decide) (ht _ fl_X3_15) (fun _ h9 => h9) rfl dX3_becomeAs_10 ?_
  refine va_put (D := D) (ci := 3) (v := .int o_beam) (ty := .int) (C := RX3) (T := TX3) (N := 14) hx hb ht inX3 tyX3 tyX3_ok nmX3 hown hK hP (hDD _ rfl) hS 0 rfl rfl 1 (by decide) (ht _ fl_X3_15) (fun _ h9 => h9) rfl (by decide +kernel) rfl rfl (Nat.le_of_ble_eq_true rfl) dX3_becomeAs_13 (fun H locs hP _ hS => ?_)
  have hP : va_P D vwCl ((bX3 cI cJ cC a_w o_space o_beam w_door w_law w_used w_pipes w_drilled w_total w_open w_pipeInches w_pipeChances w_weights w_woods w_sums) ++ (bX3 cI cJ cC a_o o_space o_beam o_door o_law o_used o_pipes o_drilled o_total o_open o_pipeInches o_pipeChances o_weights o_woods o_sums)) H := hP
  refine lv_aload_n hx hb dX3_becomeAs_16 rfl (lv_at hl 0 rfl) ?_
  refine lv_aload_n hx hb dX3_becomeAs_17 rfl (lv_at hl 1 rfl) ?_
  refine va_get (D := D) (ci := 3) (v := .int o_door) (C := RX3) (T := TX3) (N := 14) hx hb ht inX3 hown hK hP 6 rfl rfl 2 (by decide) (ht _ fl_X3_18) (fun _ h9 => h9) rfl dX3_becomeAs_18 ?_
  refine va_put (D := D) (ci := 3) (v := .int o_door) (ty := .int) (C := RX3) (T := TX3) (N := 14) hx hb ht inX3 tyX3 tyX3_ok nmX3 hown hK hP (hDD _ rfl) hS 0 rfl rfl 2 (by decide) (ht _ fl_X3_18) (fun _ h9 => h9) rfl (by decide +kernel) rfl rfl (Nat.le_of_ble_eq_true rfl) dX3_becomeAs_21 (fun H locs hP _ hS => ?_)
  have hP : va_P D vwCl ((bX3 cI cJ cC a_w o_space o_beam o_door w_law w_used w_pipes w_drilled w_total w_open w_pipeInches w_pipeChances w_weights w_woods w_sums) ++ (bX3 cI cJ cC a_o o_space o_beam o_door o_law o_used o_pipes o_drilled o_total o_open o_pipeInches o_pipeChances o_weights o_woods o_sums)) H := hP
  refine lv_aload_n hx hb dX3_becomeAs_24 rfl (lv_at hl 0 rfl) ?_
  refine lv_aload_n hx hb dX3_becomeAs_25 rfl (lv_at hl 1 rfl) ?_
  refine va_get (D := D) (ci := 3) (v := .int o_law) (C := RX3) (T := TX3) (N := 14) hx hb ht inX3 hown hK hP 6 rfl rfl 3 (by decide) (ht _ fl_X3_21) (fun _ h9 => h9) rfl dX3_becomeAs_26 ?_
  refine va_put (D := D) (ci := 3) (v := .int o_law) (ty := .int) (C := RX3) (T := TX3) (N := 14) hx hb ht inX3 tyX3 tyX3_ok nmX3 hown hK hP (hDD _ rfl) hS 0 rfl rfl 3 (by decide) (ht _ fl_X3_21) (fun _ h9 => h9) rfl (by decide +kernel) rfl rfl (Nat.le_of_ble_eq_true rfl) dX3_becomeAs_29 (fun H locs hP _ hS => ?_)
  have hP : va_P D vwCl ((bX3 cI cJ cC a_w o_space o_beam o_door o_law w_used w_pipes w_drilled w_total w_open w_pipeInches w_pipeChances w_weights w_woods w_sums) ++ (bX3 cI cJ cC a_o o_space o_beam o_door o_law o_used o_pipes o_drilled o_total o_open o_pipeInches o_pipeChances o_weights o_woods o_sums)) H := hP
  refine lv_aload_n hx hb dX3_becomeAs_32 rfl (lv_at hl 0 rfl) ?_
  refine lv_aload_n hx hb dX3_becomeAs_33 rfl (lv_at hl 1 rfl) ?_
  refine va_get (D := D) (ci := 3) (v := .int o_used) (C := RX3) (T := TX3) (N := 14) hx hb ht inX3 hown hK hP 6 rfl rfl 4 (by decide) (ht _ fl_X3_24) (fun _ h9 => h9) rfl dX3_becomeAs_34 ?_
  refine va_put (D := D) (ci := 3) (v := .int o_used) (ty := .int) (C := RX3) (T := TX3) (N := 14) hx hb ht inX3 tyX3 tyX3_ok nmX3 hown hK hP (hDD _ rfl) hS 0 rfl rfl 4 (by decide) (ht _ fl_X3_24) (fun _ h9 => h9) rfl (by decide +kernel) rfl rfl (Nat.le_of_ble_eq_true rfl) dX3_becomeAs_37 (fun H locs hP _ hS => ?_)
  have hP : va_P D vwCl ((bX3 cI cJ cC a_w o_space o_beam o_door o_law o_used w_pipes w_drilled w_total w_open w_pipeInches w_pipeChances w_weights w_woods w_sums) ++ (bX3 cI cJ cC a_o o_space o_beam o_door o_law o_used o_pipes o_drilled o_total o_open o_pipeInches o_pipeChances o_weights o_woods o_sums)) H := hP
  refine lv_aload_n hx hb dX3_becomeAs_40 rfl (lv_at hl 0 rfl) ?_
  refine lv_aload_n hx hb dX3_becomeAs_41 rfl (lv_at hl 1 rfl) ?_
  refine va_get (D := D) (ci := 3) (v := .int o_pipes) (C := RX3) (T := TX3) (N := 14) hx hb ht inX3 hown hK hP 6 rfl rfl 5 (by decide) (ht _ fl_X3_27) (fun _ h9 => h9) rfl dX3_becomeAs_42 ?_
  refine va_put (D := D) (ci := 3) (v := .int o_pipes) (ty := .int) (C := RX3) (T := TX3) (N := 14) hx hb ht inX3 tyX3 tyX3_ok nmX3 hown hK hP (hDD _ rfl) hS 0 rfl rfl 5 (by decide) (ht _ fl_X3_27) (fun _ h9 => h9) rfl (by decide +kernel) rfl rfl (Nat.le_of_ble_eq_true rfl) dX3_becomeAs_45 (fun H locs hP _ hS => ?_)
  have hP : va_P D vwCl ((bX3 cI cJ cC a_w o_space o_beam o_door o_law o_used o_pipes w_drilled w_total w_open w_pipeInches w_pipeChances w_weights w_woods w_sums) ++ (bX3 cI cJ cC a_o o_space o_beam o_door o_law o_used o_pipes o_drilled o_total o_open o_pipeInches o_pipeChances o_weights o_woods o_sums)) H := hP
  refine lv_aload_n hx hb dX3_becomeAs_48 rfl (lv_at hl 0 rfl) ?_
  refine lv_aload_n hx hb dX3_becomeAs_49 rfl (lv_at hl 1 rfl) ?_
  refine va_get (D := D) (ci := 3) (v := .long o_drilled) (C := RX3) (T := TX3) (N := 14) hx hb ht inX3 hown hK hP 6 rfl rfl 6 (by decide) (ht _ fl_X3_30) (fun _ h9 => h9) rfl dX3_becomeAs_50 ?_
  refine va_put (D := D) (ci := 3) (v := .long o_drilled) (ty := .long) (C := RX3) (T := TX3) (N := 14) hx hb ht inX3 tyX3 tyX3_ok nmX3 hown hK hP (hDD _ rfl) hS 0 rfl rfl 6 (by decide) (ht _ fl_X3_30) (fun _ h9 => h9) rfl (by decide +kernel) rfl rfl (Nat.le_of_ble_eq_true rfl) dX3_becomeAs_53 (fun H locs hP _ hS => ?_)
  have hP : va_P D vwCl ((bX3 cI cJ cC a_w o_space o_beam o_door o_law o_used o_pipes o_drilled w_total w_open w_pipeInches w_pipeChances w_weights w_woods w_sums) ++ (bX3 cI cJ cC a_o o_space o_beam o_door o_law o_used o_pipes o_drilled o_total o_open o_pipeInches o_pipeChances o_weights o_woods o_sums)) H := hP
  refine lv_aload_n hx hb dX3_becomeAs_56 rfl (lv_at hl 1 rfl) ?_
  refine va_get (D := D) (ci := 3) (v := .ref (a_o 1)) (C := RX3) (T := TX3) (N := 14) hx hb ht inX3 hown hK hP 6 rfl rfl 7 (by decide) (ht _ fl_X3_34) (fun _ h9 => h9) rfl dX3_becomeAs_57 ?_
  refine lv_iconst (v := (0 : Int32)) hx hb dX3_becomeAs_60 (by decide) ?_
  refine lv_aload_n hx hb dX3_becomeAs_61 rfl (lv_at hl 0 rfl) ?_
  refine va_get (D := D) (ci := 3) (v := .ref (a_w 1)) (C := RX3) (T := TX3) (N := 14) hx hb ht inX3 hown hK hP 0 rfl rfl 7 (by decide) (ht _ fl_X3_34) (fun _ h9 => h9) rfl dX3_becomeAs_62 ?_
  refine lv_iconst (v := (0 : Int32)) hx hb dX3_becomeAs_65 (by decide) ?_
  refine lv_bipush (v := (6 : Int32)) hx hb dX3_becomeAs_66 (by decide) ?_
  refine va_copyi hx hb (by rw [hml]; exact hl.1.symm) hown (ht _ ml_X3_60) (ht _ cp_nat) (ht _ cp_stat) (ht _ cp_ini) hK hP (hDD _ rfl) hS 7 1 0 0 rfl rfl rfl rfl rfl (by decide) (by decide) (by decide) (by decide) (by decide) (fun _ _ => rfl) (by decide) (by decide) dX3_becomeAs_68 (fun H locs hP _ hS => ?_)
  have hP : va_P D vwCl ((bX3 cI cJ cC a_w o_space o_beam o_door o_law o_used o_pipes o_drilled w_total w_open (va_cpy o_pipeInches w_pipeInches 0 0 6) w_pipeChances w_weights w_woods w_sums) ++ (bX3 cI cJ cC a_o o_space o_beam o_door o_law o_used o_pipes o_drilled o_total o_open o_pipeInches o_pipeChances o_weights o_woods o_sums)) H := hP
  refine lv_aload_n hx hb dX3_becomeAs_71 rfl (lv_at hl 1 rfl) ?_
  refine va_get (D := D) (ci := 3) (v := .ref (a_o 2)) (C := RX3) (T := TX3) (N := 14) hx hb ht inX3 hown hK hP 6 rfl rfl 8 (by decide) (ht _ fl_X3_38) (fun _ h9 => h9) rfl dX3_becomeAs_72 ?_
  refine lv_iconst (v := (0 : Int32)) hx hb dX3_becomeAs_75 (by decide) ?_
  refine lv_aload_n hx hb dX3_becomeAs_76 rfl (lv_at hl 0 rfl) ?_
  refine va_get (D := D) (ci := 3) (v := .ref (a_w 2)) (C := RX3) (T := TX3) (N := 14) hx hb ht inX3 hown hK hP 0 rfl rfl 8 (by decide) (ht _ fl_X3_38) (fun _ h9 => h9) rfl dX3_becomeAs_77 ?_
  refine lv_iconst (v := (0 : Int32)) hx hb dX3_becomeAs_80 (by decide) ?_
  refine lv_bipush (v := (6 : Int32)) hx hb dX3_becomeAs_81 (by decide) ?_
  refine va_copyi hx hb (by rw [hml]; exact hl.1.symm) hown (ht _ ml_X3_60) (ht _ cp_nat) (ht _ cp_stat) (ht _ cp_ini) hK hP (hDD _ rfl) hS 8 2 0 0 rfl rfl rfl rfl rfl (by decide) (by decide) (by decide) (by decide) (by decide) (fun _ _ => rfl) (by decide) (by decide) dX3_becomeAs_83 (fun H locs hP _ hS => ?_)
  have hP : va_P D vwCl ((bX3 cI cJ cC a_w o_space o_beam o_door o_law o_used o_pipes o_drilled w_total w_open (va_cpy o_pipeInches w_pipeInches 0 0 6) (va_cpy o_pipeChances w_pipeChances 0 0 6) w_weights w_woods w_sums) ++ (bX3 cI cJ cC a_o o_space o_beam o_door o_law o_used o_pipes o_drilled o_total o_open o_pipeInches o_pipeChances o_weights o_woods o_sums)) H := hP
  refine lv_aload_n hx hb dX3_becomeAs_86 rfl (lv_at hl 1 rfl) ?_
  refine va_get (D := D) (ci := 3) (v := .ref (a_o 3)) (C := RX3) (T := TX3) (N := 14) hx hb ht inX3 hown hK hP 6 rfl rfl 9 (by decide) (ht _ fl_X3_41) (fun _ h9 => h9) rfl dX3_becomeAs_87 ?_
  refine lv_iconst (v := (0 : Int32)) hx hb dX3_becomeAs_90 (by decide) ?_
  refine lv_aload_n hx hb dX3_becomeAs_91 rfl (lv_at hl 0 rfl) ?_
  refine va_get (D := D) (ci := 3) (v := .ref (a_w 3)) (C := RX3) (T := TX3) (N := 14) hx hb ht inX3 hown hK hP 0 rfl rfl 9 (by decide) (ht _ fl_X3_41) (fun _ h9 => h9) rfl dX3_becomeAs_92 ?_
  refine lv_iconst (v := (0 : Int32)) hx hb dX3_becomeAs_95 (by decide) ?_
  refine lv_bipush (v := (24 : Int32)) hx hb dX3_becomeAs_96 (by decide) ?_
  refine va_copyl hx hb (by rw [hml]; exact hl.1.symm) hown (ht _ ml_X3_60) (ht _ cp_nat) (ht _ cp_stat) (ht _ cp_ini) hK hP (hDD _ rfl) hS 9 3 1 1 rfl rfl rfl rfl rfl (by decide) (by decide) (by decide) (by decide) (by decide) (fun _ _ => rfl) (by decide) (by decide) dX3_becomeAs_98 (fun H locs hP _ hS => ?_)
  have hP : va_P D vwCl ((bX3 cI cJ cC a_w o_space o_beam o_door o_law o_used o_pipes o_drilled w_total w_open (va_cpy o_pipeInches w_pipeInches 0 0 6) (va_cpy o_pipeChances w_pipeChances 0 0 6) (va_cpy o_weights w_weights 0 0 24) w_woods w_sums) ++ (bX3 cI cJ cC a_o o_space o_beam o_door o_law o_used o_pipes o_drilled o_total o_open o_pipeInches o_pipeChances o_weights o_woods o_sums)) H := hP
  refine lv_aload_n hx hb dX3_becomeAs_101 rfl (lv_at hl 1 rfl) ?_
  refine va_get (D := D) (ci := 3) (v := .ref (a_o 4)) (C := RX3) (T := TX3) (N := 14) hx hb ht inX3 hown hK hP 6 rfl rfl 10 (by decide) (ht _ fl_X3_45) (fun _ h9 => h9) rfl dX3_becomeAs_102 ?_
  refine lv_iconst (v := (0 : Int32)) hx hb dX3_becomeAs_105 (by decide) ?_
  refine lv_aload_n hx hb dX3_becomeAs_106 rfl (lv_at hl 0 rfl) ?_
  refine va_get (D := D) (ci := 3) (v := .ref (a_w 4)) (C := RX3) (T := TX3) (N := 14) hx hb ht inX3 hown hK hP 0 rfl rfl 10 (by decide) (ht _ fl_X3_45) (fun _ h9 => h9) rfl dX3_becomeAs_107 ?_
  refine lv_iconst (v := (0 : Int32)) hx hb dX3_becomeAs_110 (by decide) ?_
  refine lv_bipush (v := (48 : Int32)) hx hb dX3_becomeAs_111 (by decide) ?_
  refine va_copyi hx hb (by rw [hml]; exact hl.1.symm) hown (ht _ ml_X3_60) (ht _ cp_nat) (ht _ cp_stat) (ht _ cp_ini) hK hP (hDD _ rfl) hS 10 4 0 0 rfl rfl rfl rfl rfl (by decide) (by decide) (by decide) (by decide) (by decide) (fun _ _ => rfl) (by decide) (by decide) dX3_becomeAs_113 (fun H locs hP _ hS => ?_)
  have hP : va_P D vwCl ((bX3 cI cJ cC a_w o_space o_beam o_door o_law o_used o_pipes o_drilled w_total w_open (va_cpy o_pipeInches w_pipeInches 0 0 6) (va_cpy o_pipeChances w_pipeChances 0 0 6) (va_cpy o_weights w_weights 0 0 24) (va_cpy o_woods w_woods 0 0 48) w_sums) ++ (bX3 cI cJ cC a_o o_space o_beam o_door o_law o_used o_pipes o_drilled o_total o_open o_pipeInches o_pipeChances o_weights o_woods o_sums)) H := hP
  refine lv_aload_n hx hb dX3_becomeAs_116 rfl (lv_at hl 1 rfl) ?_
  refine va_get (D := D) (ci := 3) (v := .ref (a_o 5)) (C := RX3) (T := TX3) (N := 14) hx hb ht inX3 hown hK hP 6 rfl rfl 11 (by decide) (ht _ fl_X3_48) (fun _ h9 => h9) rfl dX3_becomeAs_117 ?_
  refine lv_iconst (v := (0 : Int32)) hx hb dX3_becomeAs_120 (by decide) ?_
  refine lv_aload_n hx hb dX3_becomeAs_121 rfl (lv_at hl 0 rfl) ?_
  refine va_get (D := D) (ci := 3) (v := .ref (a_w 5)) (C := RX3) (T := TX3) (N := 14) hx hb ht inX3 hown hK hP 0 rfl rfl 11 (by decide) (ht _ fl_X3_48) (fun _ h9 => h9) rfl dX3_becomeAs_122 ?_
  refine lv_iconst (v := (0 : Int32)) hx hb dX3_becomeAs_125 (by decide) ?_
  refine lv_bipush (v := (48 : Int32)) hx hb dX3_becomeAs_126 (by decide) ?_
  refine va_copyl hx hb (by rw [hml]; exact hl.1.symm) hown (ht _ ml_X3_60) (ht _ cp_nat) (ht _ cp_stat) (ht _ cp_ini) hK hP (hDD _ rfl) hS 11 5 1 1 rfl rfl rfl rfl rfl (by decide) (by decide) (by decide) (by decide) (by decide) (fun _ _ => rfl) (by decide) (by decide) dX3_becomeAs_128 (fun H locs hP _ hS => ?_)
  have hP : va_P D vwCl ((bX3 cI cJ cC a_w o_space o_beam o_door o_law o_used o_pipes o_drilled w_total w_open (va_cpy o_pipeInches w_pipeInches 0 0 6) (va_cpy o_pipeChances w_pipeChances 0 0 6) (va_cpy o_weights w_weights 0 0 24) (va_cpy o_woods w_woods 0 0 48) (va_cpy o_sums w_sums 0 0 48)) ++ (bX3 cI cJ cC a_o o_space o_beam o_door o_law o_used o_pipes o_drilled o_total o_open o_pipeInches o_pipeChances o_weights o_woods o_sums)) H := hP
  refine lv_aload_n hx hb dX3_becomeAs_131 rfl (lv_at hl 0 rfl) ?_
  refine lv_aload_n hx hb dX3_becomeAs_132 rfl (lv_at hl 1 rfl) ?_
  refine va_get (D := D) (ci := 3) (v := .long o_total) (C := RX3) (T := TX3) (N := 14) hx hb ht inX3 hown hK hP 6 rfl rfl 12 (by decide) (ht _ fl_X3_51) (fun _ h9 => h9) rfl dX3_becomeAs_133 ?_
  refine va_put (D := D) (ci := 3) (v := .long o_total) (ty := .long) (C := RX3) (T := TX3) (N := 14) hx hb ht inX3 tyX3 tyX3_ok nmX3 hown hK hP (hDD _ rfl) hS 0 rfl rfl 12 (by decide) (ht _ fl_X3_51) (fun _ h9 => h9) rfl (by decide +kernel) rfl rfl (Nat.le_of_ble_eq_true rfl) dX3_becomeAs_136 (fun H locs hP _ hS => ?_)
  have hP : va_P D vwCl ((bX3 cI cJ cC a_w o_space o_beam o_door o_law o_used o_pipes o_drilled o_total w_open (va_cpy o_pipeInches w_pipeInches 0 0 6) (va_cpy o_pipeChances w_pipeChances 0 0 6) (va_cpy o_weights w_weights 0 0 24) (va_cpy o_woods w_woods 0 0 48) (va_cpy o_sums w_sums 0 0 48)) ++ (bX3 cI cJ cC a_o o_space o_beam o_door o_law o_used o_pipes o_drilled o_total o_open o_pipeInches o_pipeChances o_weights o_woods o_sums)) H := hP
  refine lv_aload_n hx hb dX3_becomeAs_139 rfl (lv_at hl 0 rfl) ?_
  refine lv_aload_n hx hb dX3_becomeAs_140 rfl (lv_at hl 1 rfl) ?_
  refine va_get (D := D) (ci := 3) (v := .int o_open) (C := RX3) (T := TX3) (N := 14) hx hb ht inX3 hown hK hP 6 rfl rfl 13 (by decide) (ht _ fl_X3_54) (fun _ h9 => h9) rfl dX3_becomeAs_141 ?_
  refine va_put (D := D) (ci := 3) (v := .int o_open) (ty := .int) (C := RX3) (T := TX3) (N := 14) hx hb ht inX3 tyX3 tyX3_ok nmX3 hown hK hP (hDD _ rfl) hS 0 rfl rfl 13 (by decide) (ht _ fl_X3_54) (fun _ h9 => h9) rfl (by decide +kernel) rfl rfl (Nat.le_of_ble_eq_true rfl) dX3_becomeAs_144 (fun H locs hP _ hS => ?_)
  have hP : va_P D vwCl ((bX3 cI cJ cC a_w o_space o_beam o_door o_law o_used o_pipes o_drilled o_total o_open (va_cpy o_pipeInches w_pipeInches 0 0 6) (va_cpy o_pipeChances w_pipeChances 0 0 6) (va_cpy o_weights w_weights 0 0 24) (va_cpy o_woods w_woods 0 0 48) (va_cpy o_sums w_sums 0 0 48)) ++ (bX3 cI cJ cC a_o o_space o_beam o_door o_law o_used o_pipes o_drilled o_total o_open o_pipeInches o_pipeChances o_weights o_woods o_sums)) H := hP
  exact hret (o_space, o_beam, o_door, o_law, o_used, o_pipes, o_drilled, o_total, o_open, va_cpy o_pipeInches w_pipeInches 0 0 6, va_cpy o_pipeChances w_pipeChances 0 0 6, va_cpy o_weights w_weights 0 0 24, va_cpy o_woods w_woods 0 0 48, va_cpy o_sums w_sums 0 0 48) _ _ _ _ h hP hS dX3_becomeAs_147
def wpX3_measure (post : Int32 → Prop) (w_space : Int32) (w_beam : Int32) (w_door : Int32) (w_law : Int32) (p1 : Int32) : Prop := ((p1 = (0 : Int32) → (post w_space)) ∧ (¬ (p1 = (0 : Int32)) → (((p1 = (1 : Int32) → (post w_beam)) ∧ (¬ (p1 = (1 : Int32)) → (((p1 = (2 : Int32) → (post w_door)) ∧ (¬ (p1 = (2 : Int32)) → (post w_law)))))))))
set_option maxHeartbeats 4000000 in
set_option maxRecDepth 100000 in
theorem mX3_measure (l : Launch) (D : va_G) (cI cJ cC : ClassId) (G : Nat → Nat → Nat) (a_w : Nat → Nat) (sz : Nat) (w_space : Int32) (w_beam : Int32) (w_door : Int32) (w_law : Int32) (w_used : Int32) (w_pipes : Int32) (w_drilled : Int64) (w_total : Int64) (w_open : Int32) (w_pipeInches : Nat → Int32) (w_pipeChances : Nat → Int32) (w_weights : Nat → Int64) (w_woods : Nat → Int32) (w_sums : Nat → Int64) (p1 : Int32) (post : Int32 → Prop) (h : wpX3_measure post w_space w_beam w_door w_law p1) : Met l yX3_measure (wz yX3_measure cX3_measure 2 (some .int)) ({ frames := 0, cells := 0, slots := 0, locals := 0 }) (va_Pc [.ref (a_w 0), .int p1] (PW D (tz cI cJ cC) G ((bX3 cI cJ cC a_w w_space w_beam w_door w_law w_used w_pipes w_drilled w_total w_open w_pipeInches w_pipeChances w_weights w_woods w_sums)) sz)) (va_Qi (fun (r : Int32) (u : Unit) => post r ) (fun (u : Unit) t => va_P D vwCl ((bX3 cI cJ cC a_w w_space w_beam w_door w_law w_used w_pipes w_drilled w_total w_open w_pipeInches w_pipeChances w_weights w_woods w_sums)) t.heap) (va_A ((bX3 cI cJ cC a_w w_space w_beam w_door w_law w_used w_pipes w_drilled w_total w_open w_pipeInches w_pipeChances w_weights w_woods w_sums)) sz)) 0 0 (va_A ((bX3 cI cJ cC a_w w_space w_beam w_door w_law w_used w_pipes w_drilled w_total w_open w_pipeInches w_pipeChances w_weights w_woods w_sums)) sz) := by
  refine zmi (gw := fun (u : Unit) => (bX3 cI cJ cC a_w w_space w_beam w_door w_law w_used w_pipes w_drilled w_total w_open w_pipeInches w_pipeChances w_weights w_woods w_sums)) (plainFor_of_name (by decide)) (Nat.le_of_ble_eq_true rfl) ?_
  intro p e s m below meth c A Q ls S hK hD hA hE hP hl hret
  obtain ⟨hx, hb, hml, hown, ht⟩ := id S
  have hS : va_S A s.heap s.heap [] := va_S.rf
  have hDD : ∀ ws : va_W, ws.map (fun q => q.1) = [a_w 0, a_w 1, a_w 2, a_w 3, a_w 4, a_w 5] → va_D A ws := fun ws hw => zD hD (hw.trans rfl)
  have hl : lv_has ls 2 [(0, .ref (a_w 0)), (1, .int p1)] := hl
  unfold wpX3_measure at h
  refine lv_iload_n hx hb dX3_measure_0 rfl (lv_at hl 1 rfl) ?_
  by_cases z0 : p1 = (0 : Int32)
  · replace h := h.1 z0
    refine lv_tableIn (off := 27) (tgt := 28) hx hb dX3_measure_1 (by rw [z0]; decide) (by rw [z0]; decide) (by rw [z0]; rfl) (by decide) ?_
    refine lv_aload_n hx hb dX3_measure_28 rfl (lv_at hl 0 rfl) ?_
    refine va_get (D := D) (ci := 3) (v := .int w_space) (C := RX3) (T := TX3) (N := 14) hx hb ht inX3 hown hK hP 0 rfl rfl 0 (by decide) (ht _ fl_X3_9) (fun _ h9 => h9) rfl dX3_measure_29 ?_
    exact hret w_space () _ _ _ _ rfl h hP hS dX3_measure_32
  · replace h := h.2 z0
    by_cases z1 : p1 = (1 : Int32)
    · replace h := h.1 z1
      refine lv_tableIn (off := 32) (tgt := 33) hx hb dX3_measure_1 (by rw [z1]; decide) (by rw [z1]; decide) (by rw [z1]; rfl) (by decide) ?_
      refine lv_aload_n hx hb dX3_measure_33 rfl (lv_at hl 0 rfl) ?_
      refine va_get (D := D) (ci := 3) (v := .int w_beam) (C := RX3) (T := TX3) (N := 14) hx hb ht inX3 hown hK hP 0 rfl rfl 1 (by decide) (ht _ fl_X3_15) (fun _ h9 => h9) rfl dX3_measure_34 ?_
      exact hret w_beam () _ _ _ _ rfl h hP hS dX3_measure_37
    · replace h := h.2 z1
      by_cases z2 : p1 = (2 : Int32)
      · replace h := h.1 z2
        refine lv_tableIn (off := 37) (tgt := 38) hx hb dX3_measure_1 (by rw [z2]; decide) (by rw [z2]; decide) (by rw [z2]; rfl) (by decide) ?_
        refine lv_aload_n hx hb dX3_measure_38 rfl (lv_at hl 0 rfl) ?_
        refine va_get (D := D) (ci := 3) (v := .int w_door) (C := RX3) (T := TX3) (N := 14) hx hb ht inX3 hown hK hP 0 rfl rfl 2 (by decide) (ht _ fl_X3_18) (fun _ h9 => h9) rfl dX3_measure_39 ?_
        exact hret w_door () _ _ _ _ rfl h hP hS dX3_measure_42
      · replace h := h.2 z2
        refine lv_tableOut (tgt := 43) hx hb dX3_measure_1 (by have n0 := lv_neT z0 (a := 0) (by decide); have n1 := lv_neT z1 (a := 1) (by decide); have n2 := lv_neT z2 (a := 2) (by decide); omega) (by decide) ?_
        refine lv_aload_n hx hb dX3_measure_43 rfl (lv_at hl 0 rfl) ?_
        refine va_get (D := D) (ci := 3) (v := .int w_law) (C := RX3) (T := TX3) (N := 14) hx hb ht inX3 hown hK hP 0 rfl rfl 3 (by decide) (ht _ fl_X3_21) (fun _ h9 => h9) rfl dX3_measure_44 ?_
        exact hret w_law () _ _ _ _ rfl h hP hS dX3_measure_47
def wpX3_changeMeasure (post : Int32 → Int32 → Int32 → Int32 → Prop) (w_space : Int32) (w_beam : Int32) (w_door : Int32) (w_law : Int32) (p1 : Int32) (p2 : Int32) : Prop := ((p1 = (0 : Int32) → (post p2 w_beam w_door w_law)) ∧ (¬ (p1 = (0 : Int32)) → (((p1 = (1 : Int32) → (post w_space p2 w_door w_law)) ∧ (¬ (p1 = (1 : Int32)) → (((p1 = (2 : Int32) → (post w_space w_beam p2 w_law)) ∧ (¬ (p1 = (2 : Int32)) → (post w_space w_beam w_door p2)))))))))
set_option maxHeartbeats 4000000 in
set_option maxRecDepth 100000 in
theorem mX3_changeMeasure (l : Launch) (D : va_G) (cI cJ cC : ClassId) (G : Nat → Nat → Nat) (a_w : Nat → Nat) (sz : Nat) (w_space : Int32) (w_beam : Int32) (w_door : Int32) (w_law : Int32) (w_used : Int32) (w_pipes : Int32) (w_drilled : Int64) (w_total : Int64) (w_open : Int32) (w_pipeInches : Nat → Int32) (w_pipeChances : Nat → Int32) (w_weights : Nat → Int64) (w_woods : Nat → Int32) (w_sums : Nat → Int64) (p1 : Int32) (p2 : Int32) (post : Int32 → Int32 → Int32 → Int32 → Prop) (h : wpX3_changeMeasure post w_space w_beam w_door w_law p1 p2) : Met l yX3_changeMeasure (wz yX3_changeMeasure cX3_changeMeasure 3 none) ({ frames := 0, cells := 0, slots := 0, locals := 0 }) (va_Pc [.ref (a_w 0), .int p1, .int p2] (PW D (tz cI cJ cC) G ((bX3 cI cJ cC a_w w_space w_beam w_door w_law w_used w_pipes w_drilled w_total w_open w_pipeInches w_pipeChances w_weights w_woods w_sums)) sz)) (va_Qv (fun (u : Int32 × Int32 × Int32 × Int32) => post u.1 u.2.1 u.2.2.1 u.2.2.2) (fun (u : Int32 × Int32 × Int32 × Int32) t => va_P D vwCl ((bX3 cI cJ cC a_w u.1 u.2.1 u.2.2.1 u.2.2.2 w_used w_pipes w_drilled w_total w_open w_pipeInches w_pipeChances w_weights w_woods w_sums)) t.heap) (va_A ((bX3 cI cJ cC a_w w_space w_beam w_door w_law w_used w_pipes w_drilled w_total w_open w_pipeInches w_pipeChances w_weights w_woods w_sums)) sz)) 0 0 (va_A ((bX3 cI cJ cC a_w w_space w_beam w_door w_law w_used w_pipes w_drilled w_total w_open w_pipeInches w_pipeChances w_weights w_woods w_sums)) sz) := by
  refine zmv (gw := fun (u : Int32 × Int32 × Int32 × Int32) => (bX3 cI cJ cC a_w u.1 u.2.1 u.2.2.1 u.2.2.2 w_used w_pipes w_drilled w_total w_open w_pipeInches w_pipeChances w_weights w_woods w_sums)) (plainFor_of_name (by decide)) (Nat.le_of_ble_eq_true rfl) ?_
  intro p e s m below meth c A Q ls S hK hD hA hE hP hl hret
  obtain ⟨hx, hb, hml, hown, ht⟩ := id S
  have hS : va_S A s.heap s.heap [] := va_S.rf
  have hDD : ∀ ws : va_W, ws.map (fun q => q.1) = [a_w 0, a_w 1, a_w 2, a_w 3, a_w 4, a_w 5] → va_D A ws := fun ws hw => zD hD (hw.trans rfl)
  have hl : lv_has ls 3 [(0, .ref (a_w 0)), (1, .int p1), (2, .int p2)] := hl
  unfold wpX3_changeMeasure at h
  refine lv_iload_n hx hb dX3_changeMeasure_0 rfl (lv_at hl 1 rfl) ?_
  by_cases z0 : p1 = (0 : Int32)
  · replace h := h.1 z0
    refine lv_tableIn (off := 27) (tgt := 28) hx hb dX3_changeMeasure_1 (by rw [z0]; decide) (by rw [z0]; decide) (by rw [z0]; rfl) (by decide) ?_
    refine lv_aload_n hx hb dX3_changeMeasure_28 rfl (lv_at hl 0 rfl) ?_
    refine lv_iload_n hx hb dX3_changeMeasure_29 rfl (lv_at hl 2 rfl) ?_
    refine va_put (D := D) (ci := 3) (v := .int p2) (ty := .int) (C := RX3) (T := TX3) (N := 14) hx hb ht inX3 tyX3 tyX3_ok nmX3 hown hK hP (hDD _ rfl) hS 0 rfl rfl 0 (by decide) (ht _ fl_X3_9) (fun _ h9 => h9) rfl (by decide +kernel) rfl rfl (Nat.le_of_ble_eq_true rfl) dX3_changeMeasure_30 (fun H locs hP _ hS => ?_)
    have hP : va_P D vwCl ((bX3 cI cJ cC a_w p2 w_beam w_door w_law w_used w_pipes w_drilled w_total w_open w_pipeInches w_pipeChances w_weights w_woods w_sums)) H := hP
    refine lv_goto (tgt := 57) hx hb dX3_changeMeasure_33 (by decide) ?_
    exact hret (p2, w_beam, w_door, w_law) _ _ _ _ h hP hS dX3_changeMeasure_57
  · replace h := h.2 z0
    by_cases z1 : p1 = (1 : Int32)
    · replace h := h.1 z1
      refine lv_tableIn (off := 35) (tgt := 36) hx hb dX3_changeMeasure_1 (by rw [z1]; decide) (by rw [z1]; decide) (by rw [z1]; rfl) (by decide) ?_
      refine lv_aload_n hx hb dX3_changeMeasure_36 rfl (lv_at hl 0 rfl) ?_
      refine lv_iload_n hx hb dX3_changeMeasure_37 rfl (lv_at hl 2 rfl) ?_
      refine va_put (D := D) (ci := 3) (v := .int p2) (ty := .int) (C := RX3) (T := TX3) (N := 14) hx hb ht inX3 tyX3 tyX3_ok nmX3 hown hK hP (hDD _ rfl) hS 0 rfl rfl 1 (by decide) (ht _ fl_X3_15) (fun _ h9 => h9) rfl (by decide +kernel) rfl rfl (Nat.le_of_ble_eq_true rfl) dX3_changeMeasure_38 (fun H locs hP _ hS => ?_)
      have hP : va_P D vwCl ((bX3 cI cJ cC a_w w_space p2 w_door w_law w_used w_pipes w_drilled w_total w_open w_pipeInches w_pipeChances w_weights w_woods w_sums)) H := hP
      refine lv_goto (tgt := 57) hx hb dX3_changeMeasure_41 (by decide) ?_
      exact hret (w_space, p2, w_door, w_law) _ _ _ _ h hP hS dX3_changeMeasure_57
    · replace h := h.2 z1
      by_cases z2 : p1 = (2 : Int32)
      · replace h := h.1 z2
        refine lv_tableIn (off := 43) (tgt := 44) hx hb dX3_changeMeasure_1 (by rw [z2]; decide) (by rw [z2]; decide) (by rw [z2]; rfl) (by decide) ?_
        refine lv_aload_n hx hb dX3_changeMeasure_44 rfl (lv_at hl 0 rfl) ?_
        refine lv_iload_n hx hb dX3_changeMeasure_45 rfl (lv_at hl 2 rfl) ?_
        refine va_put (D := D) (ci := 3) (v := .int p2) (ty := .int) (C := RX3) (T := TX3) (N := 14) hx hb ht inX3 tyX3 tyX3_ok nmX3 hown hK hP (hDD _ rfl) hS 0 rfl rfl 2 (by decide) (ht _ fl_X3_18) (fun _ h9 => h9) rfl (by decide +kernel) rfl rfl (Nat.le_of_ble_eq_true rfl) dX3_changeMeasure_46 (fun H locs hP _ hS => ?_)
        have hP : va_P D vwCl ((bX3 cI cJ cC a_w w_space w_beam p2 w_law w_used w_pipes w_drilled w_total w_open w_pipeInches w_pipeChances w_weights w_woods w_sums)) H := hP
        refine lv_goto (tgt := 57) hx hb dX3_changeMeasure_49 (by decide) ?_
        exact hret (w_space, w_beam, p2, w_law) _ _ _ _ h hP hS dX3_changeMeasure_57
      · replace h := h.2 z2
        refine lv_tableOut (tgt := 52) hx hb dX3_changeMeasure_1 (by have n0 := lv_neT z0 (a := 0) (by decide); have n1 := lv_neT z1 (a := 1) (by decide); have n2 := lv_neT z2 (a := 2) (by decide); omega) (by decide) ?_
        refine lv_aload_n hx hb dX3_changeMeasure_52 rfl (lv_at hl 0 rfl) ?_
        refine lv_iload_n hx hb dX3_changeMeasure_53 rfl (lv_at hl 2 rfl) ?_
        refine va_put (D := D) (ci := 3) (v := .int p2) (ty := .int) (C := RX3) (T := TX3) (N := 14) hx hb ht inX3 tyX3 tyX3_ok nmX3 hown hK hP (hDD _ rfl) hS 0 rfl rfl 3 (by decide) (ht _ fl_X3_21) (fun _ h9 => h9) rfl (by decide +kernel) rfl rfl (Nat.le_of_ble_eq_true rfl) dX3_changeMeasure_54 (fun H locs hP _ hS => ?_)
        have hP : va_P D vwCl ((bX3 cI cJ cC a_w w_space w_beam w_door p2 w_used w_pipes w_drilled w_total w_open w_pipeInches w_pipeChances w_weights w_woods w_sums)) H := hP
        exact hret (w_space, w_beam, w_door, p2) _ _ _ _ h hP hS dX3_changeMeasure_57
def lpX3_byLeft_4 (K : Int32 → Int32 → Prop) (x1 : Int32) (w_space : Int32) (w_beam : Int32) : Nat → Int32 → Int32 → Prop
  | 0, _, _ => False
  | n + 1, x2, x3 => ((w_beam ≤ x3 → (K x2 x3)) ∧ (¬ (w_beam ≤ x3) → (((w_space ≤ (0 : Int32) → (K x2 x3)) ∧ (¬ (w_space ≤ (0 : Int32)) → (¬ w_space = 0 ∧ (∀ x2_1 : Int32, x2_1 = x2 ||| ((1 : Int32) <<< ((((x1 - x3) + w_space) - ((x1 - x3) + w_space) / w_space * w_space) &&& 31)) → (lpX3_byLeft_4 K x1 w_space w_beam n x2_1 (x3 + (1 : Int32))))))))))
set_option maxHeartbeats 4000000 in
set_option maxRecDepth 100000 in
theorem wX3_byLeft_4 (l : Launch) (D : va_G) (cI cJ cC : ClassId) (G : Nat → Nat → Nat) (a_w : Nat → Nat) {p : Program} {e : Env} {s : State} {m : MethodId} {below : List Frame} {meth : Method} {c : Code} {A : Nat → Prop} {Q : State → Prop} (p1 : Int32) (x1 : Int32) (w_space : Int32) (w_beam : Int32) (w_door : Int32) (w_law : Int32) (w_used : Int32) (w_pipes : Int32) (w_drilled : Int64) (w_total : Int64) (w_open : Int32) (w_pipeInches : Nat → Int32) (w_pipeChances : Nat → Int32) (w_weights : Nat → Int64) (w_woods : Nat → Int32) (w_sums : Nat → Int64) (K : Int32 → Int32 → Prop) (S : CallFix p m c cX3_byLeft 4 s ([.ref (a_w 0), .int p1] : List Value).toArray bg RX3) (hK : va_K D vwCl (tz cI cJ cC) s) (hDD : ∀ ws : va_W, ws.map (fun q => q.1) = [a_w 0, a_w 1, a_w 2, a_w 3, a_w 4, a_w 5] → va_D A ws) (hA : ∀ q, s.heap.size ≤ q → A q) (hE : EV G A s) (hKK : ∀ (x2 : Int32) (x3 : Int32) (H : Heap) (locs : List Loc) (ls : Array Slot), K x2 x3 → va_P D vwCl ((bX3 cI cJ cC a_w w_space w_beam w_door w_law w_used w_pipes w_drilled w_total w_open w_pipeInches w_pipeChances w_weights w_woods w_sums)) H → va_S A s.heap H locs → lv_has ls 4 [(2, .int x2)] → W p l e ({ frames := 0, cells := 0, slots := 0, locals := 0 }) s m ([.ref (a_w 0), .int p1] : List Value).toArray below meth c H locs 0 0 Q (F0 m 43 ls [])) :
    ∀ (n : Nat) (x2 : Int32) (x3 : Int32) (H : Heap) (locs : List Loc) (ls : Array Slot), lpX3_byLeft_4 K x1 w_space w_beam n x2 x3 → va_P D vwCl ((bX3 cI cJ cC a_w w_space w_beam w_door w_law w_used w_pipes w_drilled w_total w_open w_pipeInches w_pipeChances w_weights w_woods w_sums)) H → va_S A s.heap H locs → lv_has ls 4 [(0, .ref (a_w 0)), (1, .int x1), (2, .int x2), (3, .int x3)] → W p l e ({ frames := 0, cells := 0, slots := 0, locals := 0 }) s m ([.ref (a_w 0), .int p1] : List Value).toArray below meth c H locs 0 0 Q (F0 m 4 ls []) := by
  obtain ⟨hx, hb, hml, hown, ht⟩ := id S
  intro n
  induction n with
  | zero =>
    intro x2 x3 H locs ls h
    exact absurd h (by simp [lpX3_byLeft_4])
  | succ n ih =>
    intro x2 x3 H locs ls h hP hS hl
    rw [lpX3_byLeft_4] at h
    refine lv_iload_n hx hb dX3_byLeft_4 rfl (lv_at hl 3 rfl) ?_
    refine lv_aload_n hx hb dX3_byLeft_5 rfl (lv_at hl 0 rfl) ?_
    refine va_get (D := D) (ci := 3) (v := .int w_beam) (C := RX3) (T := TX3) (N := 14) hx hb ht inX3 hown hK hP 0 rfl rfl 1 (by decide) (ht _ fl_X3_15) (fun _ h9 => h9) rfl dX3_byLeft_6 ?_
    refine lv_icmp_ge (tgt := 43) hx hb dX3_byLeft_9 (by decide) (fun z => ?_) (fun z => ?_)
    · replace h := h.1 z
      exact hKK x2 x3 _ _ _ h hP hS (lv_sub hl [2] rfl)
    · replace h := h.2 z
      refine lv_aload_n hx hb dX3_byLeft_12 rfl (lv_at hl 0 rfl) ?_
      refine va_get (D := D) (ci := 3) (v := .int w_space) (C := RX3) (T := TX3) (N := 14) hx hb ht inX3 hown hK hP 0 rfl rfl 0 (by decide) (ht _ fl_X3_9) (fun _ h9 => h9) rfl dX3_byLeft_13 ?_
      refine lv_if_le (tgt := 43) hx hb dX3_byLeft_16 (by decide) (fun z => ?_) (fun z => ?_)
      · replace h := h.1 z
        exact hKK x2 x3 _ _ _ h hP hS (lv_sub hl [2] rfl)
      · replace h := h.2 z
        refine lv_iload_n hx hb dX3_byLeft_19 rfl (lv_at hl 2 rfl) ?_
        refine lv_iconst (v := (1 : Int32)) hx hb dX3_byLeft_20 (by decide) ?_
        refine lv_iload_n hx hb dX3_byLeft_21 rfl (lv_at hl 1 rfl) ?_
        refine lv_iload_n hx hb dX3_byLeft_22 rfl (lv_at hl 3 rfl) ?_
        refine lv_isub hx hb dX3_byLeft_23 ?_
        refine lv_aload_n hx hb dX3_byLeft_24 rfl (lv_at hl 0 rfl) ?_
        refine va_get (D := D) (ci := 3) (v := .int w_space) (C := RX3) (T := TX3) (N := 14) hx hb ht inX3 hown hK hP 0 rfl rfl 0 (by decide) (ht _ fl_X3_9) (fun _ h9 => h9) rfl dX3_byLeft_25 ?_
        refine lv_iadd hx hb dX3_byLeft_28 ?_
        refine lv_aload_n hx hb dX3_byLeft_29 rfl (lv_at hl 0 rfl) ?_
        refine va_get (D := D) (ci := 3) (v := .int w_space) (C := RX3) (T := TX3) (N := 14) hx hb ht inX3 hown hK hP 0 rfl rfl 0 (by decide) (ht _ fl_X3_9) (fun _ h9 => h9) rfl dX3_byLeft_30 ?_
        obtain ⟨hne, h⟩ := h
        refine lv_irem hx hb dX3_byLeft_33 hne ?_
        refine lv_ishl hx hb dX3_byLeft_34 ?_
        refine lv_ior hx hb dX3_byLeft_35 ?_
        refine lv_topi (fun x2_1 ex2_1 => ?_)
        replace h := h x2_1 ex2_1
        refine lv_istore_n (lv' := [(2, .int x2_1), (0, .ref (a_w 0)), (1, .int x1), (3, .int x3)]) hx hb dX3_byLeft_36 rfl hl (by decide) rfl (fun ls hl => ?_)
        refine lv_iinc (v := x3 + (1 : Int32)) (lv' := [(3, .int (x3 + (1 : Int32))), (2, .int x2_1), (0, .ref (a_w 0)), (1, .int x1)]) hx hb dX3_byLeft_37 hl (k := 3) rfl (by rfl) (by decide) rfl (fun ls hl => ?_)
        refine lv_goto (tgt := 4) hx hb dX3_byLeft_40 (by decide) ?_
        exact ih x2_1 (x3 + (1 : Int32)) _ _ _ h hP hS (lv_sub hl [2, 3, 1, 0] rfl)
def wpX3_byLeft (post : Int32 → Prop) (w_space : Int32) (w_beam : Int32) (p1 : Int32) : Prop := ∃ n_2 : Nat, lpX3_byLeft_4 (fun (x2_3 : Int32) (x3_4 : Int32) => post x2_3) p1 w_space w_beam n_2 (0 : Int32) (0 : Int32)
set_option maxHeartbeats 4000000 in
set_option maxRecDepth 100000 in
theorem mX3_byLeft (l : Launch) (D : va_G) (cI cJ cC : ClassId) (G : Nat → Nat → Nat) (a_w : Nat → Nat) (sz : Nat) (w_space : Int32) (w_beam : Int32) (w_door : Int32) (w_law : Int32) (w_used : Int32) (w_pipes : Int32) (w_drilled : Int64) (w_total : Int64) (w_open : Int32) (w_pipeInches : Nat → Int32) (w_pipeChances : Nat → Int32) (w_weights : Nat → Int64) (w_woods : Nat → Int32) (w_sums : Nat → Int64) (p1 : Int32) (post : Int32 → Prop) (h : wpX3_byLeft post w_space w_beam p1) : Met l yX3_byLeft (wz yX3_byLeft cX3_byLeft 4 (some .int)) ({ frames := 0, cells := 0, slots := 0, locals := 0 }) (va_Pc [.ref (a_w 0), .int p1] (PW D (tz cI cJ cC) G ((bX3 cI cJ cC a_w w_space w_beam w_door w_law w_used w_pipes w_drilled w_total w_open w_pipeInches w_pipeChances w_weights w_woods w_sums)) sz)) (va_Qi (fun (r : Int32) (u : Unit) => post r ) (fun (u : Unit) t => va_P D vwCl ((bX3 cI cJ cC a_w w_space w_beam w_door w_law w_used w_pipes w_drilled w_total w_open w_pipeInches w_pipeChances w_weights w_woods w_sums)) t.heap) (va_A ((bX3 cI cJ cC a_w w_space w_beam w_door w_law w_used w_pipes w_drilled w_total w_open w_pipeInches w_pipeChances w_weights w_woods w_sums)) sz)) 0 0 (va_A ((bX3 cI cJ cC a_w w_space w_beam w_door w_law w_used w_pipes w_drilled w_total w_open w_pipeInches w_pipeChances w_weights w_woods w_sums)) sz) := by
  refine zmi (gw := fun (u : Unit) => (bX3 cI cJ cC a_w w_space w_beam w_door w_law w_used w_pipes w_drilled w_total w_open w_pipeInches w_pipeChances w_weights w_woods w_sums)) (plainFor_of_name (by decide)) (Nat.le_of_ble_eq_true rfl) ?_
  intro p e s m below meth c A Q ls S hK hD hA hE hP hl hret
  obtain ⟨hx, hb, hml, hown, ht⟩ := id S
  have hS : va_S A s.heap s.heap [] := va_S.rf
  have hDD : ∀ ws : va_W, ws.map (fun q => q.1) = [a_w 0, a_w 1, a_w 2, a_w 3, a_w 4, a_w 5] → va_D A ws := fun ws hw => zD hD (hw.trans rfl)
  have hl : lv_has ls 4 [(0, .ref (a_w 0)), (1, .int p1)] := hl
  unfold wpX3_byLeft at h
  refine lv_iconst (v := (0 : Int32)) hx hb dX3_byLeft_0 (by decide) ?_
  refine lv_istore_n (lv' := [(2, .int (0 : Int32)), (0, .ref (a_w 0)), (1, .int p1)]) hx hb dX3_byLeft_1 rfl hl (by decide) rfl (fun ls hl => ?_)
  refine lv_iconst (v := (0 : Int32)) hx hb dX3_byLeft_2 (by decide) ?_
  refine lv_istore_n (lv' := [(3, .int (0 : Int32)), (2, .int (0 : Int32)), (0, .ref (a_w 0)), (1, .int p1)]) hx hb dX3_byLeft_3 rfl hl (by decide) rfl (fun ls hl => ?_)
  obtain ⟨n_2, h⟩ := h
  refine wX3_byLeft_4 l D cI cJ cC G a_w p1 p1 w_space w_beam w_door w_law w_used w_pipes w_drilled w_total w_open w_pipeInches w_pipeChances w_weights w_woods w_sums _ S hK hDD hA hE (fun x2_3 x3_4 H locs ls h hP hS hl => ?_) n_2 (0 : Int32) (0 : Int32) _ _ _ h hP hS (lv_sub hl [2, 3, 1, 0] rfl)
  try dsimp only at h
  refine lv_iload_n hx hb dX3_byLeft_43 rfl (lv_at hl 0 rfl) ?_
  exact hret x2_3 () _ _ _ _ rfl h hP hS dX3_byLeft_44
def wpX3_allOffsets (post : Int32 → Prop) (w_space : Int32) : Prop := post (((1 : Int32) <<< (w_space &&& 31)) - (1 : Int32))
set_option maxHeartbeats 4000000 in
set_option maxRecDepth 100000 in
theorem mX3_allOffsets (l : Launch) (D : va_G) (cI cJ cC : ClassId) (G : Nat → Nat → Nat) (a_w : Nat → Nat) (sz : Nat) (w_space : Int32) (w_beam : Int32) (w_door : Int32) (w_law : Int32) (w_used : Int32) (w_pipes : Int32) (w_drilled : Int64) (w_total : Int64) (w_open : Int32) (w_pipeInches : Nat → Int32) (w_pipeChances : Nat → Int32) (w_weights : Nat → Int64) (w_woods : Nat → Int32) (w_sums : Nat → Int64) (post : Int32 → Prop) (h : wpX3_allOffsets post w_space) : Met l yX3_allOffsets (wz yX3_allOffsets cX3_allOffsets 1 (some .int)) ({ frames := 0, cells := 0, slots := 0, locals := 0 }) (va_Pc [.ref (a_w 0)] (PW D (tz cI cJ cC) G ((bX3 cI cJ cC a_w w_space w_beam w_door w_law w_used w_pipes w_drilled w_total w_open w_pipeInches w_pipeChances w_weights w_woods w_sums)) sz)) (va_Qi (fun (r : Int32) (u : Unit) => post r ) (fun (u : Unit) t => va_P D vwCl ((bX3 cI cJ cC a_w w_space w_beam w_door w_law w_used w_pipes w_drilled w_total w_open w_pipeInches w_pipeChances w_weights w_woods w_sums)) t.heap) (va_A ((bX3 cI cJ cC a_w w_space w_beam w_door w_law w_used w_pipes w_drilled w_total w_open w_pipeInches w_pipeChances w_weights w_woods w_sums)) sz)) 0 0 (va_A ((bX3 cI cJ cC a_w w_space w_beam w_door w_law w_used w_pipes w_drilled w_total w_open w_pipeInches w_pipeChances w_weights w_woods w_sums)) sz) := by
  refine zmi (gw := fun (u : Unit) => (bX3 cI cJ cC a_w w_space w_beam w_door w_law w_used w_pipes w_drilled w_total w_open w_pipeInches w_pipeChances w_weights w_woods w_sums)) (plainFor_of_name (by decide)) (Nat.le_of_ble_eq_true rfl) ?_
  intro p e s m below meth c A Q ls S hK hD hA hE hP hl hret
  obtain ⟨hx, hb, hml, hown, ht⟩ := id S
  have hS : va_S A s.heap s.heap [] := va_S.rf
  have hDD : ∀ ws : va_W, ws.map (fun q => q.1) = [a_w 0, a_w 1, a_w 2, a_w 3, a_w 4, a_w 5] → va_D A ws := fun ws hw => zD hD (hw.trans rfl)
  have hl : lv_has ls 1 [(0, .ref (a_w 0))] := hl
  unfold wpX3_allOffsets at h
  refine lv_iconst (v := (1 : Int32)) hx hb dX3_allOffsets_0 (by decide) ?_
  refine lv_aload_n hx hb dX3_allOffsets_1 rfl (lv_at hl 0 rfl) ?_
  refine va_get (D := D) (ci := 3) (v := .int w_space) (C := RX3) (T := TX3) (N := 14) hx hb ht inX3 hown hK hP 0 rfl rfl 0 (by decide) (ht _ fl_X3_9) (fun _ h9 => h9) rfl dX3_allOffsets_2 ?_
  refine lv_ishl hx hb dX3_allOffsets_5 ?_
  refine lv_iconst (v := (1 : Int32)) hx hb dX3_allOffsets_6 (by decide) ?_
  refine lv_isub hx hb dX3_allOffsets_7 ?_
  exact hret (((1 : Int32) <<< (w_space &&& 31)) - (1 : Int32)) () _ _ _ _ rfl h hP hS dX3_allOffsets_8
def wpX3_byDoored (post : Int32 → Prop) (w_space : Int32) (w_beam : Int32) (w_door : Int32) (p1 : Int32) : Prop := ((p1 < w_door → (wpX3_byLeft (fun (r_1 : Int32) => post r_1) w_space w_beam p1)) ∧ (¬ (p1 < w_door) → ((((w_door + w_beam) ≤ p1 → (wpX3_byLeft (fun (r_2 : Int32) => post r_2) w_space w_beam p1)) ∧ (¬ ((w_door + w_beam) ≤ p1) → (wpX3_allOffsets (fun (r_3 : Int32) => post r_3) w_space))))))
set_option maxHeartbeats 4000000 in
set_option maxRecDepth 100000 in
theorem mX3_byDoored (l : Launch) (D : va_G) (cI cJ cC : ClassId) (G : Nat → Nat → Nat) (a_w : Nat → Nat) (sz : Nat) (w_space : Int32) (w_beam : Int32) (w_door : Int32) (w_law : Int32) (w_used : Int32) (w_pipes : Int32) (w_drilled : Int64) (w_total : Int64) (w_open : Int32) (w_pipeInches : Nat → Int32) (w_pipeChances : Nat → Int32) (w_weights : Nat → Int64) (w_woods : Nat → Int32) (w_sums : Nat → Int64) (p1 : Int32) (post : Int32 → Prop) (h : wpX3_byDoored post w_space w_beam w_door p1) : Met l yX3_byDoored (wz yX3_byDoored cX3_byDoored 2 (some .int)) ({ frames := 1, cells := 0, slots := 0, locals := 23 }) (va_Pc [.ref (a_w 0), .int p1] (PW D (tz cI cJ cC) G ((bX3 cI cJ cC a_w w_space w_beam w_door w_law w_used w_pipes w_drilled w_total w_open w_pipeInches w_pipeChances w_weights w_woods w_sums)) sz)) (va_Qi (fun (r : Int32) (u : Unit) => post r ) (fun (u : Unit) t => va_P D vwCl ((bX3 cI cJ cC a_w w_space w_beam w_door w_law w_used w_pipes w_drilled w_total w_open w_pipeInches w_pipeChances w_weights w_woods w_sums)) t.heap) (va_A ((bX3 cI cJ cC a_w w_space w_beam w_door w_law w_used w_pipes w_drilled w_total w_open w_pipeInches w_pipeChances w_weights w_woods w_sums)) sz)) 0 0 (va_A ((bX3 cI cJ cC a_w w_space w_beam w_door w_law w_used w_pipes w_drilled w_total w_open w_pipeInches w_pipeChances w_weights w_woods w_sums)) sz) := by
  refine zmi (gw := fun (u : Unit) => (bX3 cI cJ cC a_w w_space w_beam w_door w_law w_used w_pipes w_drilled w_total w_open w_pipeInches w_pipeChances w_weights w_woods w_sums)) (plainFor_of_name (by decide)) (Nat.le_of_ble_eq_true rfl) ?_
  intro p e s m below meth c A Q ls S hK hD hA hE hP hl hret
  obtain ⟨hx, hb, hml, hown, ht⟩ := id S
  have hS : va_S A s.heap s.heap [] := va_S.rf
  have hDD : ∀ ws : va_W, ws.map (fun q => q.1) = [a_w 0, a_w 1, a_w 2, a_w 3, a_w 4, a_w 5] → va_D A ws := fun ws hw => zD hD (hw.trans rfl)
  have hl : lv_has ls 2 [(0, .ref (a_w 0)), (1, .int p1)] := hl
  unfold wpX3_byDoored at h
  refine lv_iload_n hx hb dX3_byDoored_0 rfl (lv_at hl 1 rfl) ?_
  refine lv_aload_n hx hb dX3_byDoored_1 rfl (lv_at hl 0 rfl) ?_
  refine va_get (D := D) (ci := 3) (v := .int w_door) (C := RX3) (T := TX3) (N := 14) hx hb ht inX3 hown hK hP 0 rfl rfl 2 (by decide) (ht _ fl_X3_18) (fun _ h9 => h9) rfl dX3_byDoored_2 ?_
  refine lv_icmp_lt (tgt := 28) hx hb dX3_byDoored_5 (by decide) (fun z => ?_) (fun z => ?_)
  · replace h := h.1 z
    refine lv_aload_n hx hb dX3_byDoored_28 rfl (lv_at hl 0 rfl) ?_
    refine lv_iload_n hx hb dX3_byDoored_29 rfl (lv_at hl 1 rfl) ?_
    refine zci hA (hDD _ rfl) hS (zrunV (As := [.int p1]) (rest := []) S hK hA hE hP (hDD _ rfl) hS (mX3_byLeft l D cI cJ cC G a_w _ w_space w_beam w_door w_law w_used w_pipes w_drilled w_total w_open w_pipeInches w_pipeChances w_weights w_woods w_sums p1 _ h) kX3_byLeft ml_X3_73 ⟨rfl, rfl, by decide, by decide⟩ (q0 := 0) (ci := 3) rfl rfl rfl rfl hl.1 rfl (Nat.le_of_ble_eq_true rfl) dX3_byDoored_30 ⟨Nat.zero_le _, Nat.zero_le _⟩) (fun r_1 u H locs h hP1 hk1 hS => ?_)
    try dsimp only at h
    have hP : va_P D vwCl ((bX3 cI cJ cC a_w w_space w_beam w_door w_law w_used w_pipes w_drilled w_total w_open w_pipeInches w_pipeChances w_weights w_woods w_sums)) H := hP1
    exact hret r_1 () _ _ _ _ rfl h hP hS dX3_byDoored_33
  · replace h := h.2 z
    refine lv_iload_n hx hb dX3_byDoored_8 rfl (lv_at hl 1 rfl) ?_
    refine lv_aload_n hx hb dX3_byDoored_9 rfl (lv_at hl 0 rfl) ?_
    refine va_get (D := D) (ci := 3) (v := .int w_door) (C := RX3) (T := TX3) (N := 14) hx hb ht inX3 hown hK hP 0 rfl rfl 2 (by decide) (ht _ fl_X3_18) (fun _ h9 => h9) rfl dX3_byDoored_10 ?_
    refine lv_aload_n hx hb dX3_byDoored_13 rfl (lv_at hl 0 rfl) ?_
    refine va_get (D := D) (ci := 3) (v := .int w_beam) (C := RX3) (T := TX3) (N := 14) hx hb ht inX3 hown hK hP 0 rfl rfl 1 (by decide) (ht _ fl_X3_15) (fun _ h9 => h9) rfl dX3_byDoored_14 ?_
    refine lv_iadd hx hb dX3_byDoored_17 ?_
    refine lv_icmp_ge (tgt := 28) hx hb dX3_byDoored_18 (by decide) (fun z => ?_) (fun z => ?_)
    · replace h := h.1 z
      refine lv_aload_n hx hb dX3_byDoored_28 rfl (lv_at hl 0 rfl) ?_
      refine lv_iload_n hx hb dX3_byDoored_29 rfl (lv_at hl 1 rfl) ?_
      refine zci hA (hDD _ rfl) hS (zrunV (As := [.int p1]) (rest := []) S hK hA hE hP (hDD _ rfl) hS (mX3_byLeft l D cI cJ cC G a_w _ w_space w_beam w_door w_law w_used w_pipes w_drilled w_total w_open w_pipeInches w_pipeChances w_weights w_woods w_sums p1 _ h) kX3_byLeft ml_X3_73 ⟨rfl, rfl, by decide, by decide⟩ (q0 := 0) (ci := 3) rfl rfl rfl rfl hl.1 rfl (Nat.le_of_ble_eq_true rfl) dX3_byDoored_30 ⟨Nat.zero_le _, Nat.zero_le _⟩) (fun r_2 u H locs h hP1 hk1 hS => ?_)
      try dsimp only at h
      have hP : va_P D vwCl ((bX3 cI cJ cC a_w w_space w_beam w_door w_law w_used w_pipes w_drilled w_total w_open w_pipeInches w_pipeChances w_weights w_woods w_sums)) H := hP1
      exact hret r_2 () _ _ _ _ rfl h hP hS dX3_byDoored_33
    · replace h := h.2 z
      refine lv_aload_n hx hb dX3_byDoored_21 rfl (lv_at hl 0 rfl) ?_
      refine zci hA (hDD _ rfl) hS (zrunV (As := []) (rest := []) S hK hA hE hP (hDD _ rfl) hS (mX3_allOffsets l D cI cJ cC G a_w _ w_space w_beam w_door w_law w_used w_pipes w_drilled w_total w_open w_pipeInches w_pipeChances w_weights w_woods w_sums _ h) kX3_allOffsets ml_X3_83 ⟨rfl, rfl, by decide, by decide⟩ (q0 := 0) (ci := 3) rfl rfl rfl rfl hl.1 rfl (Nat.le_of_ble_eq_true rfl) dX3_byDoored_22 ⟨Nat.zero_le _, Nat.zero_le _⟩) (fun r_3 u H locs h hP1 hk1 hS => ?_)
      try dsimp only at h
      have hP : va_P D vwCl ((bX3 cI cJ cC a_w w_space w_beam w_door w_law w_used w_pipes w_drilled w_total w_open w_pipeInches w_pipeChances w_weights w_woods w_sums)) H := hP1
      refine lv_goto (tgt := 33) hx hb dX3_byDoored_25 (by decide) ?_
      exact hret r_3 () _ _ _ _ rfl h hP hS dX3_byDoored_33
def wpX3_isCorner (post : Int32 → Prop) (w_beam : Int32) (p1 : Int32) : Prop := ((p1 < w_beam → (post (1 : Int32))) ∧ (¬ (p1 < w_beam) → (((p1 ≤ ((47 : Int32) - w_beam) → (post (0 : Int32))) ∧ (¬ (p1 ≤ ((47 : Int32) - w_beam)) → (post (1 : Int32)))))))
set_option maxHeartbeats 4000000 in
set_option maxRecDepth 100000 in
theorem mX3_isCorner (l : Launch) (D : va_G) (cI cJ cC : ClassId) (G : Nat → Nat → Nat) (a_w : Nat → Nat) (sz : Nat) (w_space : Int32) (w_beam : Int32) (w_door : Int32) (w_law : Int32) (w_used : Int32) (w_pipes : Int32) (w_drilled : Int64) (w_total : Int64) (w_open : Int32) (w_pipeInches : Nat → Int32) (w_pipeChances : Nat → Int32) (w_weights : Nat → Int64) (w_woods : Nat → Int32) (w_sums : Nat → Int64) (p1 : Int32) (post : Int32 → Prop) (h : wpX3_isCorner post w_beam p1) : Met l yX3_isCorner (wz yX3_isCorner cX3_isCorner 2 (some .boolean)) ({ frames := 0, cells := 0, slots := 0, locals := 0 }) (va_Pc [.ref (a_w 0), .int p1] (PW D (tz cI cJ cC) G ((bX3 cI cJ cC a_w w_space w_beam w_door w_law w_used w_pipes w_drilled w_total w_open w_pipeInches w_pipeChances w_weights w_woods w_sums)) sz)) (va_Qi (fun (r : Int32) (u : Unit) => post r ) (fun (u : Unit) t => va_P D vwCl ((bX3 cI cJ cC a_w w_space w_beam w_door w_law w_used w_pipes w_drilled w_total w_open w_pipeInches w_pipeChances w_weights w_woods w_sums)) t.heap) (va_A ((bX3 cI cJ cC a_w w_space w_beam w_door w_law w_used w_pipes w_drilled w_total w_open w_pipeInches w_pipeChances w_weights w_woods w_sums)) sz)) 0 0 (va_A ((bX3 cI cJ cC a_w w_space w_beam w_door w_law w_used w_pipes w_drilled w_total w_open w_pipeInches w_pipeChances w_weights w_woods w_sums)) sz) := by
  refine zmi (gw := fun (u : Unit) => (bX3 cI cJ cC a_w w_space w_beam w_door w_law w_used w_pipes w_drilled w_total w_open w_pipeInches w_pipeChances w_weights w_woods w_sums)) (plainFor_of_name (by decide)) (Nat.le_of_ble_eq_true rfl) ?_
  intro p e s m below meth c A Q ls S hK hD hA hE hP hl hret
  obtain ⟨hx, hb, hml, hown, ht⟩ := id S
  have hS : va_S A s.heap s.heap [] := va_S.rf
  have hDD : ∀ ws : va_W, ws.map (fun q => q.1) = [a_w 0, a_w 1, a_w 2, a_w 3, a_w 4, a_w 5] → va_D A ws := fun ws hw => zD hD (hw.trans rfl)
  have hl : lv_has ls 2 [(0, .ref (a_w 0)), (1, .int p1)] := hl
  unfold wpX3_isCorner at h
  refine lv_iload_n hx hb dX3_isCorner_0 rfl (lv_at hl 1 rfl) ?_
  refine lv_aload_n hx hb dX3_isCorner_1 rfl (lv_at hl 0 rfl) ?_
  refine va_get (D := D) (ci := 3) (v := .int w_beam) (C := RX3) (T := TX3) (N := 14) hx hb ht inX3 hown hK hP 0 rfl rfl 1 (by decide) (ht _ fl_X3_15) (fun _ h9 => h9) rfl dX3_isCorner_2 ?_
  refine lv_icmp_lt (tgt := 19) hx hb dX3_isCorner_5 (by decide) (fun z => ?_) (fun z => ?_)
  · replace h := h.1 z
    refine lv_iconst (v := (1 : Int32)) hx hb dX3_isCorner_19 (by decide) ?_
    refine lv_goto (tgt := 24) hx hb dX3_isCorner_20 (by decide) ?_
    exact hret (1 : Int32) () _ _ _ _ rfl h hP hS dX3_isCorner_24
  · replace h := h.2 z
    refine lv_iload_n hx hb dX3_isCorner_8 rfl (lv_at hl 1 rfl) ?_
    refine lv_bipush (v := (47 : Int32)) hx hb dX3_isCorner_9 (by decide) ?_
    refine lv_aload_n hx hb dX3_isCorner_11 rfl (lv_at hl 0 rfl) ?_
    refine va_get (D := D) (ci := 3) (v := .int w_beam) (C := RX3) (T := TX3) (N := 14) hx hb ht inX3 hown hK hP 0 rfl rfl 1 (by decide) (ht _ fl_X3_15) (fun _ h9 => h9) rfl dX3_isCorner_12 ?_
    refine lv_isub hx hb dX3_isCorner_15 ?_
    refine lv_icmp_le (tgt := 23) hx hb dX3_isCorner_16 (by decide) (fun z => ?_) (fun z => ?_)
    · replace h := h.1 z
      refine lv_iconst (v := (0 : Int32)) hx hb dX3_isCorner_23 (by decide) ?_
      exact hret (0 : Int32) () _ _ _ _ rfl h hP hS dX3_isCorner_24
    · replace h := h.2 z
      refine lv_iconst (v := (1 : Int32)) hx hb dX3_isCorner_19 (by decide) ?_
      refine lv_goto (tgt := 24) hx hb dX3_isCorner_20 (by decide) ?_
      exact hret (1 : Int32) () _ _ _ _ rfl h hP hS dX3_isCorner_24
def wpX3_woodsByLaw (post : Int32 → Prop) (w_space : Int32) (w_beam : Int32) (w_door : Int32) (w_law : Int32) (p1 : Int32) : Prop := ((w_law = (1 : Int32) → (wpX3_byLeft (fun (r_1 : Int32) => post r_1) w_space w_beam ((47 : Int32) - p1))) ∧ (¬ (w_law = (1 : Int32)) → (((w_law = (2 : Int32) → (wpX3_byDoored (fun (r_2 : Int32) => post r_2) w_space w_beam w_door p1)) ∧ (¬ (w_law = (2 : Int32)) → (((w_law = (3 : Int32) → (wpX3_isCorner (fun (r_3 : Int32) => ((r_3 = (0 : Int32) → (wpX3_byLeft (fun (r_4 : Int32) => post r_4) w_space w_beam ((47 : Int32) - p1))) ∧ (¬ (r_3 = (0 : Int32)) → (wpX3_allOffsets (fun (r_5 : Int32) => post r_5) w_space)))) w_beam p1)) ∧ (¬ (w_law = (3 : Int32)) → (((w_law = (4 : Int32) → (wpX3_byDoored (fun (r_6 : Int32) => wpX3_byDoored (fun (r_7 : Int32) => post (r_6 ||| r_7)) w_space w_beam w_door (p1 + (w_space / (2 : Int32)))) w_space w_beam w_door p1)) ∧ (¬ (w_law = (4 : Int32)) → (((w_law = (5 : Int32) → ((((40 : Int32) ≤ p1 → (post (0 : Int32))) ∧ (¬ ((40 : Int32) ≤ p1) → (wpX3_byLeft (fun (r_8 : Int32) => post r_8) w_space w_beam p1))))) ∧ (¬ (w_law = (5 : Int32)) → (wpX3_byLeft (fun (r_9 : Int32) => post r_9) w_space w_beam p1)))))))))))))))
set_option maxHeartbeats 4000000 in
set_option maxRecDepth 100000 in
theorem mX3_woodsByLaw (l : Launch) (D : va_G) (cI cJ cC : ClassId) (G : Nat → Nat → Nat) (a_w : Nat → Nat) (sz : Nat) (w_space : Int32) (w_beam : Int32) (w_door : Int32) (w_law : Int32) (w_used : Int32) (w_pipes : Int32) (w_drilled : Int64) (w_total : Int64) (w_open : Int32) (w_pipeInches : Nat → Int32) (w_pipeChances : Nat → Int32) (w_weights : Nat → Int64) (w_woods : Nat → Int32) (w_sums : Nat → Int64) (p1 : Int32) (post : Int32 → Prop) (h : wpX3_woodsByLaw post w_space w_beam w_door w_law p1) : Met l yX3_woodsByLaw (wz yX3_woodsByLaw cX3_woodsByLaw 2 (some .int)) ({ frames := 2, cells := 0, slots := 0, locals := 44 }) (va_Pc [.ref (a_w 0), .int p1] (PW D (tz cI cJ cC) G ((bX3 cI cJ cC a_w w_space w_beam w_door w_law w_used w_pipes w_drilled w_total w_open w_pipeInches w_pipeChances w_weights w_woods w_sums)) sz)) (va_Qi (fun (r : Int32) (u : Unit) => post r ) (fun (u : Unit) t => va_P D vwCl ((bX3 cI cJ cC a_w w_space w_beam w_door w_law w_used w_pipes w_drilled w_total w_open w_pipeInches w_pipeChances w_weights w_woods w_sums)) t.heap) (va_A ((bX3 cI cJ cC a_w w_space w_beam w_door w_law w_used w_pipes w_drilled w_total w_open w_pipeInches w_pipeChances w_weights w_woods w_sums)) sz)) 0 0 (va_A ((bX3 cI cJ cC a_w w_space w_beam w_door w_law w_used w_pipes w_drilled w_total w_open w_pipeInches w_pipeChances w_weights w_woods w_sums)) sz) := by
  refine zmi (gw := fun (u : Unit) => (bX3 cI cJ cC a_w w_space w_beam w_door w_law w_used w_pipes w_drilled w_total w_open w_pipeInches w_pipeChances w_weights w_woods w_sums)) (plainFor_of_name (by decide)) (Nat.le_of_ble_eq_true rfl) ?_
  intro p e s m below meth c A Q ls S hK hD hA hE hP hl hret
  obtain ⟨hx, hb, hml, hown, ht⟩ := id S
  have hS : va_S A s.heap s.heap [] := va_S.rf
  have hDD : ∀ ws : va_W, ws.map (fun q => q.1) = [a_w 0, a_w 1, a_w 2, a_w 3, a_w 4, a_w 5] → va_D A ws := fun ws hw => zD hD (hw.trans rfl)
  have hl : lv_has ls 2 [(0, .ref (a_w 0)), (1, .int p1)] := hl
  unfold wpX3_woodsByLaw at h
  refine lv_aload_n hx hb dX3_woodsByLaw_0 rfl (lv_at hl 0 rfl) ?_
  refine va_get (D := D) (ci := 3) (v := .int w_law) (C := RX3) (T := TX3) (N := 14) hx hb ht inX3 hown hK hP 0 rfl rfl 3 (by decide) (ht _ fl_X3_21) (fun _ h9 => h9) rfl dX3_woodsByLaw_1 ?_
  by_cases z0 : w_law = (1 : Int32)
  · replace h := h.1 z0
    refine lv_tableIn (off := 36) (tgt := 40) hx hb dX3_woodsByLaw_4 (by rw [z0]; decide) (by rw [z0]; decide) (by rw [z0]; rfl) (by decide) ?_
    refine lv_aload_n hx hb dX3_woodsByLaw_40 rfl (lv_at hl 0 rfl) ?_
    refine lv_bipush (v := (47 : Int32)) hx hb dX3_woodsByLaw_41 (by decide) ?_
    refine lv_iload_n hx hb dX3_woodsByLaw_43 rfl (lv_at hl 1 rfl) ?_
    refine lv_isub hx hb dX3_woodsByLaw_44 ?_
    refine zci hA (hDD _ rfl) hS (zrunV (As := [.int ((47 : Int32) - p1)]) (rest := []) S hK hA hE hP (hDD _ rfl) hS (mX3_byLeft l D cI cJ cC G a_w _ w_space w_beam w_door w_law w_used w_pipes w_drilled w_total w_open w_pipeInches w_pipeChances w_weights w_woods w_sums ((47 : Int32) - p1) _ h) kX3_byLeft ml_X3_73 ⟨rfl, rfl, by decide, by decide⟩ (q0 := 0) (ci := 3) rfl rfl rfl rfl hl.1 rfl (Nat.le_of_ble_eq_true rfl) dX3_woodsByLaw_45 ⟨Nat.zero_le _, Nat.zero_le _⟩) (fun r_1 u H locs h hP1 hk1 hS => ?_)
    try dsimp only at h
    have hP : va_P D vwCl ((bX3 cI cJ cC a_w w_space w_beam w_door w_law w_used w_pipes w_drilled w_total w_open w_pipeInches w_pipeChances w_weights w_woods w_sums)) H := hP1
    exact hret r_1 () _ _ _ _ rfl h hP hS dX3_woodsByLaw_48
  · replace h := h.2 z0
    by_cases z1 : w_law = (2 : Int32)
    · replace h := h.1 z1
      refine lv_tableIn (off := 45) (tgt := 49) hx hb dX3_woodsByLaw_4 (by rw [z1]; decide) (by rw [z1]; decide) (by rw [z1]; rfl) (by decide) ?_
      refine lv_aload_n hx hb dX3_woodsByLaw_49 rfl (lv_at hl 0 rfl) ?_
      refine lv_iload_n hx hb dX3_woodsByLaw_50 rfl (lv_at hl 1 rfl) ?_
      refine zci hA (hDD _ rfl) hS (zrunV (As := [.int p1]) (rest := []) S hK hA hE hP (hDD _ rfl) hS (mX3_byDoored l D cI cJ cC G a_w _ w_space w_beam w_door w_law w_used w_pipes w_drilled w_total w_open w_pipeInches w_pipeChances w_weights w_woods w_sums p1 _ h) kX3_byDoored ml_X3_76 ⟨rfl, rfl, by decide, by decide⟩ (q0 := 0) (ci := 3) rfl rfl rfl rfl hl.1 rfl (Nat.le_of_ble_eq_true rfl) dX3_woodsByLaw_51 ⟨Nat.zero_le _, Nat.zero_le _⟩) (fun r_2 u H locs h hP1 hk1 hS => ?_)
      try dsimp only at h
      have hP : va_P D vwCl ((bX3 cI cJ cC a_w w_space w_beam w_door w_law w_used w_pipes w_drilled w_total w_open w_pipeInches w_pipeChances w_weights w_woods w_sums)) H := hP1
      exact hret r_2 () _ _ _ _ rfl h hP hS dX3_woodsByLaw_54
    · replace h := h.2 z1
      by_cases z2 : w_law = (3 : Int32)
      · replace h := h.1 z2
        refine lv_tableIn (off := 51) (tgt := 55) hx hb dX3_woodsByLaw_4 (by rw [z2]; decide) (by rw [z2]; decide) (by rw [z2]; rfl) (by decide) ?_
        refine lv_aload_n hx hb dX3_woodsByLaw_55 rfl (lv_at hl 0 rfl) ?_
        refine lv_iload_n hx hb dX3_woodsByLaw_56 rfl (lv_at hl 1 rfl) ?_
        refine zci hA (hDD _ rfl) hS (zrunV (As := [.int p1]) (rest := []) S hK hA hE hP (hDD _ rfl) hS (mX3_isCorner l D cI cJ cC G a_w _ w_space w_beam w_door w_law w_used w_pipes w_drilled w_total w_open w_pipeInches w_pipeChances w_weights w_woods w_sums p1 _ h) kX3_isCorner ml_X3_79 ⟨rfl, rfl, by decide, by decide⟩ (q0 := 0) (ci := 3) rfl rfl rfl rfl hl.1 rfl (Nat.le_of_ble_eq_true rfl) dX3_woodsByLaw_57 ⟨Nat.zero_le _, Nat.zero_le _⟩) (fun r_3 u H locs h hP1 hk1 hS => ?_)
        try dsimp only at h
        have hP : va_P D vwCl ((bX3 cI cJ cC a_w w_space w_beam w_door w_law w_used w_pipes w_drilled w_total w_open w_pipeInches w_pipeChances w_weights w_woods w_sums)) H := hP1
        refine lv_if_eq (tgt := 70) hx hb dX3_woodsByLaw_60 (by decide) (fun z => ?_) (fun z => ?_)
        · replace h := h.1 z
          refine lv_aload_n hx hb dX3_woodsByLaw_70 rfl (lv_at hl 0 rfl) ?_
          refine lv_bipush (v := (47 : Int32)) hx hb dX3_woodsByLaw_71 (by decide) ?_
          refine lv_iload_n hx hb dX3_woodsByLaw_73 rfl (lv_at hl 1 rfl) ?_
          refine lv_isub hx hb dX3_woodsByLaw_74 ?_
          refine zci hA (hDD _ rfl) hS (zrunV (As := [.int ((47 : Int32) - p1)]) (rest := []) S hK hA hE hP (hDD _ rfl) hS (mX3_byLeft l D cI cJ cC G a_w _ w_space w_beam w_door w_law w_used w_pipes w_drilled w_total w_open w_pipeInches w_pipeChances w_weights w_woods w_sums ((47 : Int32) - p1) _ h) kX3_byLeft ml_X3_73 ⟨rfl, rfl, by decide, by decide⟩ (q0 := 0) (ci := 3) rfl rfl rfl rfl hl.1 rfl (Nat.le_of_ble_eq_true rfl) dX3_woodsByLaw_75 ⟨Nat.zero_le _, Nat.zero_le _⟩) (fun r_4 u H locs h hP1 hk1 hS => ?_)
          try dsimp only at h
          have hP : va_P D vwCl ((bX3 cI cJ cC a_w w_space w_beam w_door w_law w_used w_pipes w_drilled w_total w_open w_pipeInches w_pipeChances w_weights w_woods w_sums)) H := hP1
          exact hret r_4 () _ _ _ _ rfl h hP hS dX3_woodsByLaw_78
        · replace h := h.2 z
          refine lv_aload_n hx hb dX3_woodsByLaw_63 rfl (lv_at hl 0 rfl) ?_
          refine zci hA (hDD _ rfl) hS (zrunV (As := []) (rest := []) S hK hA hE hP (hDD _ rfl) hS (mX3_allOffsets l D cI cJ cC G a_w _ w_space w_beam w_door w_law w_used w_pipes w_drilled w_total w_open w_pipeInches w_pipeChances w_weights w_woods w_sums _ h) kX3_allOffsets ml_X3_83 ⟨rfl, rfl, by decide, by decide⟩ (q0 := 0) (ci := 3) rfl rfl rfl rfl hl.1 rfl (Nat.le_of_ble_eq_true rfl) dX3_woodsByLaw_64 ⟨Nat.zero_le _, Nat.zero_le _⟩) (fun r_5 u H locs h hP1 hk1 hS => ?_)
          try dsimp only at h
          have hP : va_P D vwCl ((bX3 cI cJ cC a_w w_space w_beam w_door w_law w_used w_pipes w_drilled w_total w_open w_pipeInches w_pipeChances w_weights w_woods w_sums)) H := hP1
          refine lv_goto (tgt := 78) hx hb dX3_woodsByLaw_67 (by decide) ?_
          exact hret r_5 () _ _ _ _ rfl h hP hS dX3_woodsByLaw_78
      · replace h := h.2 z2
        by_cases z3 : w_law = (4 : Int32)
        · replace h := h.1 z3
          refine lv_tableIn (off := 75) (tgt := 79) hx hb dX3_woodsByLaw_4 (by rw [z3]; decide) (by rw [z3]; decide) (by rw [z3]; rfl) (by decide) ?_
          refine lv_aload_n hx hb dX3_woodsByLaw_79 rfl (lv_at hl 0 rfl) ?_
          refine lv_iload_n hx hb dX3_woodsByLaw_80 rfl (lv_at hl 1 rfl) ?_
          refine zci hA (hDD _ rfl) hS (zrunV (As := [.int p1]) (rest := []) S hK hA hE hP (hDD _ rfl) hS (mX3_byDoored l D cI cJ cC G a_w _ w_space w_beam w_door w_law w_used w_pipes w_drilled w_total w_open w_pipeInches w_pipeChances w_weights w_woods w_sums p1 _ h) kX3_byDoored ml_X3_76 ⟨rfl, rfl, by decide, by decide⟩ (q0 := 0) (ci := 3) rfl rfl rfl rfl hl.1 rfl (Nat.le_of_ble_eq_true rfl) dX3_woodsByLaw_81 ⟨Nat.zero_le _, Nat.zero_le _⟩) (fun r_6 u H locs h hP1 hk1 hS => ?_)
          try dsimp only at h
          have hP : va_P D vwCl ((bX3 cI cJ cC a_w w_space w_beam w_door w_law w_used w_pipes w_drilled w_total w_open w_pipeInches w_pipeChances w_weights w_woods w_sums)) H := hP1
          refine lv_aload_n hx hb dX3_woodsByLaw_84 rfl (lv_at hl 0 rfl) ?_
          refine lv_iload_n hx hb dX3_woodsByLaw_85 rfl (lv_at hl 1 rfl) ?_
          refine lv_aload_n hx hb dX3_woodsByLaw_86 rfl (lv_at hl 0 rfl) ?_
          refine va_get (D := D) (ci := 3) (v := .int w_space) (C := RX3) (T := TX3) (N := 14) hx hb ht inX3 hown hK hP 0 rfl rfl 0 (by decide) (ht _ fl_X3_9) (fun _ h9 => h9) rfl dX3_woodsByLaw_87 ?_
          refine lv_iconst (v := (2 : Int32)) hx hb dX3_woodsByLaw_90 (by decide) ?_
          refine lv_idiv hx hb dX3_woodsByLaw_91 (by decide) ?_
          refine lv_iadd hx hb dX3_woodsByLaw_92 ?_
          refine zci hA (hDD _ rfl) hS (zrunV (As := [.int (p1 + (w_space / (2 : Int32)))]) (rest := [.int r_6]) S hK hA hE hP (hDD _ rfl) hS (mX3_byDoored l D cI cJ cC G a_w _ w_space w_beam w_door w_law w_used w_pipes w_drilled w_total w_open w_pipeInches w_pipeChances w_weights w_woods w_sums (p1 + (w_space / (2 : Int32))) _ h) kX3_byDoored ml_X3_76 ⟨rfl, rfl, by decide, by decide⟩ (q0 := 0) (ci := 3) rfl rfl rfl rfl hl.1 rfl (Nat.le_of_ble_eq_true rfl) dX3_woodsByLaw_93 ⟨Nat.zero_le _, Nat.zero_le _⟩) (fun r_7 u H locs h hP1 hk1 hS => ?_)
          try dsimp only at h
          have hP : va_P D vwCl ((bX3 cI cJ cC a_w w_space w_beam w_door w_law w_used w_pipes w_drilled w_total w_open w_pipeInches w_pipeChances w_weights w_woods w_sums)) H := hP1
          refine lv_ior hx hb dX3_woodsByLaw_96 ?_
          exact hret (r_6 ||| r_7) () _ _ _ _ rfl h hP hS dX3_woodsByLaw_97
        · replace h := h.2 z3
          by_cases z4 : w_law = (5 : Int32)
          · replace h := h.1 z4
            refine lv_tableIn (off := 94) (tgt := 98) hx hb dX3_woodsByLaw_4 (by rw [z4]; decide) (by rw [z4]; decide) (by rw [z4]; rfl) (by decide) ?_
            refine lv_iload_n hx hb dX3_woodsByLaw_98 rfl (lv_at hl 1 rfl) ?_
            refine lv_bipush (v := (40 : Int32)) hx hb dX3_woodsByLaw_99 (by decide) ?_
            refine lv_icmp_ge (tgt := 112) hx hb dX3_woodsByLaw_101 (by decide) (fun z => ?_) (fun z => ?_)
            · replace h := h.1 z
              refine lv_iconst (v := (0 : Int32)) hx hb dX3_woodsByLaw_112 (by decide) ?_
              exact hret (0 : Int32) () _ _ _ _ rfl h hP hS dX3_woodsByLaw_113
            · replace h := h.2 z
              refine lv_aload_n hx hb dX3_woodsByLaw_104 rfl (lv_at hl 0 rfl) ?_
              refine lv_iload_n hx hb dX3_woodsByLaw_105 rfl (lv_at hl 1 rfl) ?_
              refine zci hA (hDD _ rfl) hS (zrunV (As := [.int p1]) (rest := []) S hK hA hE hP (hDD _ rfl) hS (mX3_byLeft l D cI cJ cC G a_w _ w_space w_beam w_door w_law w_used w_pipes w_drilled w_total w_open w_pipeInches w_pipeChances w_weights w_woods w_sums p1 _ h) kX3_byLeft ml_X3_73 ⟨rfl, rfl, by decide, by decide⟩ (q0 := 0) (ci := 3) rfl rfl rfl rfl hl.1 rfl (Nat.le_of_ble_eq_true rfl) dX3_woodsByLaw_106 ⟨Nat.zero_le _, Nat.zero_le _⟩) (fun r_8 u H locs h hP1 hk1 hS => ?_)
              try dsimp only at h
              have hP : va_P D vwCl ((bX3 cI cJ cC a_w w_space w_beam w_door w_law w_used w_pipes w_drilled w_total w_open w_pipeInches w_pipeChances w_weights w_woods w_sums)) H := hP1
              refine lv_goto (tgt := 113) hx hb dX3_woodsByLaw_109 (by decide) ?_
              exact hret r_8 () _ _ _ _ rfl h hP hS dX3_woodsByLaw_113
          · replace h := h.2 z4
            refine lv_tableOut (tgt := 114) hx hb dX3_woodsByLaw_4 (by have n0 := lv_neT z0 (a := 1) (by decide); have n1 := lv_neT z1 (a := 2) (by decide); have n2 := lv_neT z2 (a := 3) (by decide); have n3 := lv_neT z3 (a := 4) (by decide); have n4 := lv_neT z4 (a := 5) (by decide); omega) (by decide) ?_
            refine lv_aload_n hx hb dX3_woodsByLaw_114 rfl (lv_at hl 0 rfl) ?_
            refine lv_iload_n hx hb dX3_woodsByLaw_115 rfl (lv_at hl 1 rfl) ?_
            refine zci hA (hDD _ rfl) hS (zrunV (As := [.int p1]) (rest := []) S hK hA hE hP (hDD _ rfl) hS (mX3_byLeft l D cI cJ cC G a_w _ w_space w_beam w_door w_law w_used w_pipes w_drilled w_total w_open w_pipeInches w_pipeChances w_weights w_woods w_sums p1 _ h) kX3_byLeft ml_X3_73 ⟨rfl, rfl, by decide, by decide⟩ (q0 := 0) (ci := 3) rfl rfl rfl rfl hl.1 rfl (Nat.le_of_ble_eq_true rfl) dX3_woodsByLaw_116 ⟨Nat.zero_le _, Nat.zero_le _⟩) (fun r_9 u H locs h hP1 hk1 hS => ?_)
            try dsimp only at h
            have hP : va_P D vwCl ((bX3 cI cJ cC a_w w_space w_beam w_door w_law w_used w_pipes w_drilled w_total w_open w_pipeInches w_pipeChances w_weights w_woods w_sums)) H := hP1
            exact hret r_9 () _ _ _ _ rfl h hP hS dX3_woodsByLaw_119
def wpX4_isIn (post : Int32 → Prop) (p0 : Int32) (p1 : Int32) : Prop := ((((p0 >>> (p1 &&& 31)) &&& (1 : Int32)) = (1 : Int32) → (post (1 : Int32))) ∧ (¬ (((p0 >>> (p1 &&& 31)) &&& (1 : Int32)) = (1 : Int32)) → (post (0 : Int32))))
set_option maxHeartbeats 4000000 in
set_option maxRecDepth 100000 in
theorem mX4_isIn (l : Launch) (D : va_G) (cI cJ cC : ClassId) (G : Nat → Nat → Nat) (sz : Nat) (p0 : Int32) (p1 : Int32) (post : Int32 → Prop) (h : wpX4_isIn post p0 p1) : Met l yX4_isIn (wz yX4_isIn cX4_isIn 2 (some .boolean)) ({ frames := 0, cells := 0, slots := 0, locals := 0 }) (va_Pc [.int p0, .int p1] (PW D (tz cI cJ cC) G ([]) sz)) (va_Qi (fun (r : Int32) (u : Unit) => post r ) (fun (u : Unit) t => va_P D vwCl ([]) t.heap) (va_A ([]) sz)) 0 0 (va_A ([]) sz) := by
  refine zmi (gw := fun (u : Unit) => []) (plainFor_of_name (by decide)) (Nat.le_of_ble_eq_true rfl) ?_
  intro p e s m below meth c A Q ls S hK hD hA hE hP hl hret
  obtain ⟨hx, hb, hml, hown, ht⟩ := id S
  have hS : va_S A s.heap s.heap [] := va_S.rf
  have hDD : ∀ ws : va_W, ws.map (fun q => q.1) = [] → va_D A ws := fun ws hw => zD hD (hw.trans rfl)
  have hl : lv_has ls 2 [(0, .int p0), (1, .int p1)] := hl
  unfold wpX4_isIn at h
  refine lv_iload_n hx hb dX4_isIn_0 rfl (lv_at hl 0 rfl) ?_
  refine lv_iload_n hx hb dX4_isIn_1 rfl (lv_at hl 1 rfl) ?_
  refine lv_ishr hx hb dX4_isIn_2 ?_
  refine lv_iconst (v := (1 : Int32)) hx hb dX4_isIn_3 (by decide) ?_
  refine lv_iand hx hb dX4_isIn_4 ?_
  refine lv_iconst (v := (1 : Int32)) hx hb dX4_isIn_5 (by decide) ?_
  refine lv_icmp_ne (tgt := 13) hx hb dX4_isIn_6 (by decide) (fun z => ?_) (fun z => ?_)
  · replace h := h.2 z
    refine lv_iconst (v := (0 : Int32)) hx hb dX4_isIn_13 (by decide) ?_
    exact hret (0 : Int32) () _ _ _ _ rfl h hP hS dX4_isIn_14
  · replace h := h.1 z
    refine lv_iconst (v := (1 : Int32)) hx hb dX4_isIn_9 (by decide) ?_
    refine lv_goto (tgt := 14) hx hb dX4_isIn_10 (by decide) ?_
    exact hret (1 : Int32) () _ _ _ _ rfl h hP hS dX4_isIn_14
def lpX3_sumOf_5 (K : Int64 → Int32 → Prop) (x1 : Int32) (w_weights : Nat → Int64) : Nat → Int64 → Int32 → Prop
  | 0, _, _ => False
  | n + 1, x2, x4 => (((24 : Int32) ≤ x4 → (K x2 x4)) ∧ (¬ ((24 : Int32) ≤ x4) → ((((x1 >>> (x4 &&& 31)) = (0 : Int32) → (K x2 x4)) ∧ (¬ ((x1 >>> (x4 &&& 31)) = (0 : Int32)) → (wpX4_isIn (fun (r_1 : Int32) => ((r_1 = (0 : Int32) → (lpX3_sumOf_5 K x1 w_weights n x2 (x4 + (1 : Int32)))) ∧ (¬ (r_1 = (0 : Int32)) → (vp_in x4 24 ∧ (lpX3_sumOf_5 K x1 w_weights n (x2 + (w_weights x4.toNatClampNeg)) (x4 + (1 : Int32))))))) x1 x4))))))
set_option maxHeartbeats 4000000 in
set_option maxRecDepth 100000 in
theorem wX3_sumOf_5 (l : Launch) (D : va_G) (cI cJ cC : ClassId) (G : Nat → Nat → Nat) (a_w : Nat → Nat) {p : Program} {e : Env} {s : State} {m : MethodId} {below : List Frame} {meth : Method} {c : Code} {A : Nat → Prop} {Q : State → Prop} (p1 : Int32) (x1 : Int32) (w_space : Int32) (w_beam : Int32) (w_door : Int32) (w_law : Int32) (w_used : Int32) (w_pipes : Int32) (w_drilled : Int64) (w_total : Int64) (w_open : Int32) (w_pipeInches : Nat → Int32) (w_pipeChances : Nat → Int32) (w_weights : Nat → Int64) (w_woods : Nat → Int32) (w_sums : Nat → Int64) (K : Int64 → Int32 → Prop) (S : CallFix p m c cX3_sumOf 5 s ([.ref (a_w 0), .int p1] : List Value).toArray bg RX3) (hK : va_K D vwCl (tz cI cJ cC) s) (hDD : ∀ ws : va_W, ws.map (fun q => q.1) = [a_w 0, a_w 1, a_w 2, a_w 3, a_w 4, a_w 5] → va_D A ws) (hA : ∀ q, s.heap.size ≤ q → A q) (hE : EV G A s) (hKK : ∀ (x2 : Int64) (x4 : Int32) (H : Heap) (locs : List Loc) (ls : Array Slot), K x2 x4 → va_P D vwCl ((bX3 cI cJ cC a_w w_space w_beam w_door w_law w_used w_pipes w_drilled w_total w_open w_pipeInches w_pipeChances w_weights w_woods w_sums)) H → va_S A s.heap H locs → lv_has ls 5 [(2, .long x2)] → W p l e ({ frames := 1, cells := 0, slots := 0, locals := 21 }) s m ([.ref (a_w 0), .int p1] : List Value).toArray below meth c H locs 0 0 Q (F0 m 44 ls [])) :
    ∀ (n : Nat) (x2 : Int64) (x4 : Int32) (H : Heap) (locs : List Loc) (ls : Array Slot), lpX3_sumOf_5 K x1 w_weights n x2 x4 → va_P D vwCl ((bX3 cI cJ cC a_w w_space w_beam w_door w_law w_used w_pipes w_drilled w_total w_open w_pipeInches w_pipeChances w_weights w_woods w_sums)) H → va_S A s.heap H locs → lv_has ls 5 [(0, .ref (a_w 0)), (1, .int x1), (2, .long x2), (4, .int x4)] → W p l e ({ frames := 1, cells := 0, slots := 0, locals := 21 }) s m ([.ref (a_w 0), .int p1] : List Value).toArray below meth c H locs 0 0 Q (F0 m 5 ls []) := by
  obtain ⟨hx, hb, hml, hown, ht⟩ := id S
  intro n
  induction n with
  | zero =>
    intro x2 x4 H locs ls h
    exact absurd h (by simp [lpX3_sumOf_5])
  | succ n ih =>
    intro x2 x4 H locs ls h hP hS hl
    rw [lpX3_sumOf_5] at h
    refine lv_iload hx hb dX3_sumOf_5 (lv_at hl 3 rfl) ?_
    refine lv_bipush (v := (24 : Int32)) hx hb dX3_sumOf_7 (by decide) ?_
    refine lv_icmp_ge (tgt := 44) hx hb dX3_sumOf_9 (by decide) (fun z => ?_) (fun z => ?_)
    · replace h := h.1 z
      exact hKK x2 x4 _ _ _ h hP hS (lv_sub hl [2] rfl)
    · replace h := h.2 z
      refine lv_iload_n hx hb dX3_sumOf_12 rfl (lv_at hl 1 rfl) ?_
      refine lv_iload hx hb dX3_sumOf_13 (lv_at hl 3 rfl) ?_
      refine lv_ishr hx hb dX3_sumOf_15 ?_
      refine lv_if_eq (tgt := 44) hx hb dX3_sumOf_16 (by decide) (fun z => ?_) (fun z => ?_)
      · replace h := h.1 z
        exact hKK x2 x4 _ _ _ h hP hS (lv_sub hl [2] rfl)
      · replace h := h.2 z
        refine lv_iload_n hx hb dX3_sumOf_19 rfl (lv_at hl 1 rfl) ?_
        refine lv_iload hx hb dX3_sumOf_20 (lv_at hl 3 rfl) ?_
        refine zci hA zD0 hS (zrunN (As := [.int x1, .int x4]) (rest := []) S hK hA hE zP0 zD0 hS (mX4_isIn l D cI cJ cC G _ x1 x4 _ h) kX4_isIn 0 rfl ⟨rfl, rfl, by decide, by decide⟩ rfl hl.1 rfl (Nat.le_of_ble_eq_true rfl) dX3_sumOf_22 ⟨Nat.zero_le _, Nat.zero_le _⟩) (fun r_1 u H locs h hP1 hk1 hS => ?_)
        try dsimp only at h
        have hP : va_P D vwCl ((bX3 cI cJ cC a_w w_space w_beam w_door w_law w_used w_pipes w_drilled w_total w_open w_pipeInches w_pipeChances w_weights w_woods w_sums)) H := zKeep hP hk1
        refine lv_if_eq (tgt := 38) hx hb dX3_sumOf_25 (by decide) (fun z => ?_) (fun z => ?_)
        · replace h := h.1 z
          refine lv_iinc (v := x4 + (1 : Int32)) (lv' := [(4, .int (x4 + (1 : Int32))), (0, .ref (a_w 0)), (1, .int x1), (2, .long x2)]) hx hb dX3_sumOf_38 hl (k := 3) rfl (by rfl) (by decide) rfl (fun ls hl => ?_)
          refine lv_goto (tgt := 5) hx hb dX3_sumOf_41 (by decide) ?_
          exact ih x2 (x4 + (1 : Int32)) _ _ _ h hP hS (lv_sub hl [1, 2, 3, 0] rfl)
        · replace h := h.2 z
          refine lv_lload_n hx hb dX3_sumOf_28 rfl (lv_at hl 2 rfl) ?_
          refine lv_aload_n hx hb dX3_sumOf_29 rfl (lv_at hl 0 rfl) ?_
          refine va_get (D := D) (ci := 3) (v := .ref (a_w 3)) (C := RX3) (T := TX3) (N := 14) hx hb ht inX3 hown hK hP 0 rfl rfl 9 (by decide) (ht _ fl_X3_41) (fun _ h9 => h9) rfl dX3_sumOf_30 ?_
          refine lv_iload hx hb dX3_sumOf_33 (lv_at hl 3 rfl) ?_
          obtain ⟨hin, h⟩ := h
          refine va_lald hx hb hK hP 3 1 rfl rfl hin dX3_sumOf_35 ?_
          refine lv_ladd hx hb dX3_sumOf_36 ?_
          refine lv_lstore_n (lv' := [(2, .long (x2 + (w_weights x4.toNatClampNeg))), (0, .ref (a_w 0)), (1, .int x1), (4, .int x4)]) hx hb dX3_sumOf_37 rfl hl (by decide) rfl (fun ls hl => ?_)
          refine lv_iinc (v := x4 + (1 : Int32)) (lv' := [(4, .int (x4 + (1 : Int32))), (2, .long (x2 + (w_weights x4.toNatClampNeg))), (0, .ref (a_w 0)), (1, .int x1)]) hx hb dX3_sumOf_38 hl (k := 3) rfl (by rfl) (by decide) rfl (fun ls hl => ?_)
          refine lv_goto (tgt := 5) hx hb dX3_sumOf_41 (by decide) ?_
          exact ih (x2 + (w_weights x4.toNatClampNeg)) (x4 + (1 : Int32)) _ _ _ h hP hS (lv_sub hl [2, 3, 1, 0] rfl)
def wpX3_sumOf (post : Int64 → Prop) (w_weights : Nat → Int64) (p1 : Int32) : Prop := ∃ n_2 : Nat, lpX3_sumOf_5 (fun (x2_3 : Int64) (x4_4 : Int32) => post x2_3) p1 w_weights n_2 (0 : Int64) (0 : Int32)
set_option maxHeartbeats 4000000 in
set_option maxRecDepth 100000 in
theorem mX3_sumOf (l : Launch) (D : va_G) (cI cJ cC : ClassId) (G : Nat → Nat → Nat) (a_w : Nat → Nat) (sz : Nat) (w_space : Int32) (w_beam : Int32) (w_door : Int32) (w_law : Int32) (w_used : Int32) (w_pipes : Int32) (w_drilled : Int64) (w_total : Int64) (w_open : Int32) (w_pipeInches : Nat → Int32) (w_pipeChances : Nat → Int32) (w_weights : Nat → Int64) (w_woods : Nat → Int32) (w_sums : Nat → Int64) (p1 : Int32) (post : Int64 → Prop) (h : wpX3_sumOf post w_weights p1) : Met l yX3_sumOf (wz yX3_sumOf cX3_sumOf 5 (some .long)) ({ frames := 1, cells := 0, slots := 0, locals := 21 }) (va_Pc [.ref (a_w 0), .int p1] (PW D (tz cI cJ cC) G ((bX3 cI cJ cC a_w w_space w_beam w_door w_law w_used w_pipes w_drilled w_total w_open w_pipeInches w_pipeChances w_weights w_woods w_sums)) sz)) (va_Ql (fun (r : Int64) (u : Unit) => post r ) (fun (u : Unit) t => va_P D vwCl ((bX3 cI cJ cC a_w w_space w_beam w_door w_law w_used w_pipes w_drilled w_total w_open w_pipeInches w_pipeChances w_weights w_woods w_sums)) t.heap) (va_A ((bX3 cI cJ cC a_w w_space w_beam w_door w_law w_used w_pipes w_drilled w_total w_open w_pipeInches w_pipeChances w_weights w_woods w_sums)) sz)) 0 0 (va_A ((bX3 cI cJ cC a_w w_space w_beam w_door w_law w_used w_pipes w_drilled w_total w_open w_pipeInches w_pipeChances w_weights w_woods w_sums)) sz) := by
  refine zml (gw := fun (u : Unit) => (bX3 cI cJ cC a_w w_space w_beam w_door w_law w_used w_pipes w_drilled w_total w_open w_pipeInches w_pipeChances w_weights w_woods w_sums)) (plainFor_of_name (by decide)) (Nat.le_of_ble_eq_true rfl) ?_
  intro p e s m below meth c A Q ls S hK hD hA hE hP hl hret
  obtain ⟨hx, hb, hml, hown, ht⟩ := id S
  have hS : va_S A s.heap s.heap [] := va_S.rf
  have hDD : ∀ ws : va_W, ws.map (fun q => q.1) = [a_w 0, a_w 1, a_w 2, a_w 3, a_w 4, a_w 5] → va_D A ws := fun ws hw => zD hD (hw.trans rfl)
  have hl : lv_has ls 5 [(0, .ref (a_w 0)), (1, .int p1)] := hl
  unfold wpX3_sumOf at h
  refine lv_lconst (v := (0 : Int64)) hx hb dX3_sumOf_0 (by decide) ?_
  refine lv_lstore_n (lv' := [(2, .long (0 : Int64)), (0, .ref (a_w 0)), (1, .int p1)]) hx hb dX3_sumOf_1 rfl hl (by decide) rfl (fun ls hl => ?_)
  refine lv_iconst (v := (0 : Int32)) hx hb dX3_sumOf_2 (by decide) ?_
  refine lv_istore (lv' := [(4, .int (0 : Int32)), (2, .long (0 : Int64)), (0, .ref (a_w 0)), (1, .int p1)]) hx hb dX3_sumOf_3 hl (by decide) rfl (fun ls hl => ?_)
  obtain ⟨n_2, h⟩ := h
  refine wX3_sumOf_5 l D cI cJ cC G a_w p1 p1 w_space w_beam w_door w_law w_used w_pipes w_drilled w_total w_open w_pipeInches w_pipeChances w_weights w_woods w_sums _ S hK hDD hA hE (fun x2_3 x4_4 H locs ls h hP hS hl => ?_) n_2 (0 : Int64) (0 : Int32) _ _ _ h hP hS (lv_sub hl [2, 3, 1, 0] rfl)
  try dsimp only at h
  refine lv_lload_n hx hb dX3_sumOf_44 rfl (lv_at hl 0 rfl) ?_
  exact hret x2_3 () _ _ _ _ h hP hS dX3_sumOf_45
def lpX3_addUp_7 (K : Int32 → Int32 → Prop) (w_weights : Nat → Int64) : Nat → Int32 → Int32 → Prop
  | 0, _, _ => False
  | n + 1, x1, w_open => (((24 : Int32) ≤ x1 → (K x1 w_open)) ∧ (¬ ((24 : Int32) ≤ x1) → (vp_in x1 24 ∧ ((((w_weights x1.toNatClampNeg) ≤ (0 : Int64) → (lpX3_addUp_7 K w_weights n (x1 + (1 : Int32)) w_open)) ∧ (¬ ((w_weights x1.toNatClampNeg) ≤ (0 : Int64)) → (lpX3_addUp_7 K w_weights n (x1 + (1 : Int32)) (w_open ||| ((1 : Int32) <<< (x1 &&& 31))))))))))
set_option maxHeartbeats 4000000 in
set_option maxRecDepth 100000 in
theorem wX3_addUp_7 (l : Launch) (D : va_G) (cI cJ cC : ClassId) (G : Nat → Nat → Nat) (a_w : Nat → Nat) {p : Program} {e : Env} {s : State} {m : MethodId} {below : List Frame} {meth : Method} {c : Code} {A : Nat → Prop} {Q : State → Prop} (w_space : Int32) (w_beam : Int32) (w_door : Int32) (w_law : Int32) (w_used : Int32) (w_pipes : Int32) (w_drilled : Int64) (w_total : Int64) (w_pipeInches : Nat → Int32) (w_pipeChances : Nat → Int32) (w_weights : Nat → Int64) (w_woods : Nat → Int32) (w_sums : Nat → Int64) (K : Int32 → Int32 → Prop) (S : CallFix p m c cX3_addUp 2 s ([.ref (a_w 0)] : List Value).toArray bg RX3) (hK : va_K D vwCl (tz cI cJ cC) s) (hDD : ∀ ws : va_W, ws.map (fun q => q.1) = [a_w 0, a_w 1, a_w 2, a_w 3, a_w 4, a_w 5] → va_D A ws) (hA : ∀ q, s.heap.size ≤ q → A q) (hE : EV G A s) (hKK : ∀ (x1 : Int32) (w_open : Int32) (H : Heap) (locs : List Loc) (ls : Array Slot), K x1 w_open → va_P D vwCl ((bX3 cI cJ cC a_w w_space w_beam w_door w_law w_used w_pipes w_drilled w_total w_open w_pipeInches w_pipeChances w_weights w_woods w_sums)) H → va_S A s.heap H locs → lv_has ls 2 [(0, .ref (a_w 0))] → W p l e ({ frames := 2, cells := 0, slots := 0, locals := 45 }) s m ([.ref (a_w 0)] : List Value).toArray below meth c H locs 0 0 Q (F0 m 42 ls [])) :
    ∀ (n : Nat) (x1 : Int32) (w_open : Int32) (H : Heap) (locs : List Loc) (ls : Array Slot), lpX3_addUp_7 K w_weights n x1 w_open → va_P D vwCl ((bX3 cI cJ cC a_w w_space w_beam w_door w_law w_used w_pipes w_drilled w_total w_open w_pipeInches w_pipeChances w_weights w_woods w_sums)) H → va_S A s.heap H locs → lv_has ls 2 [(0, .ref (a_w 0)), (1, .int x1)] → W p l e ({ frames := 2, cells := 0, slots := 0, locals := 45 }) s m ([.ref (a_w 0)] : List Value).toArray below meth c H locs 0 0 Q (F0 m 7 ls []) := by
  obtain ⟨hx, hb, hml, hown, ht⟩ := id S
  intro n
  induction n with
  | zero =>
    intro x1 w_open H locs ls h
    exact absurd h (by simp [lpX3_addUp_7])
  | succ n ih =>
    intro x1 w_open H locs ls h hP hS hl
    rw [lpX3_addUp_7] at h
    refine lv_iload_n hx hb dX3_addUp_7 rfl (lv_at hl 1 rfl) ?_
    refine lv_bipush (v := (24 : Int32)) hx hb dX3_addUp_8 (by decide) ?_
    refine lv_icmp_ge (tgt := 42) hx hb dX3_addUp_10 (by decide) (fun z => ?_) (fun z => ?_)
    · replace h := h.1 z
      exact hKK x1 w_open _ _ _ h hP hS (lv_sub hl [0] rfl)
    · replace h := h.2 z
      refine lv_aload_n hx hb dX3_addUp_13 rfl (lv_at hl 0 rfl) ?_
      refine va_get (D := D) (ci := 3) (v := .ref (a_w 3)) (C := RX3) (T := TX3) (N := 14) hx hb ht inX3 hown hK hP 0 rfl rfl 9 (by decide) (ht _ fl_X3_41) (fun _ h9 => h9) rfl dX3_addUp_14 ?_
      refine lv_iload_n hx hb dX3_addUp_17 rfl (lv_at hl 1 rfl) ?_
      obtain ⟨hin, h⟩ := h
      refine va_lald hx hb hK hP 3 1 rfl rfl hin dX3_addUp_18 ?_
      refine lv_lconst (v := (0 : Int64)) hx hb dX3_addUp_19 (by decide) ?_
      refine W.lcmp hx hb dX3_addUp_20 ?_
      refine lv_if_le (tgt := 36) hx hb dX3_addUp_21 (by decide) (fun z => ?_) (fun z => ?_)
      · replace h := h.1 (zl_le.mp z)
        refine lv_iinc (v := x1 + (1 : Int32)) (lv' := [(1, .int (x1 + (1 : Int32))), (0, .ref (a_w 0))]) hx hb dX3_addUp_36 hl (k := 1) rfl (by rfl) (by decide) rfl (fun ls hl => ?_)
        refine lv_goto (tgt := 7) hx hb dX3_addUp_39 (by decide) ?_
        exact ih (x1 + (1 : Int32)) w_open _ _ _ h hP hS (lv_sub hl [1, 0] rfl)
      · replace h := h.2 (fun q => z (zl_le.mpr q))
        refine lv_aload_n hx hb dX3_addUp_24 rfl (lv_at hl 0 rfl) ?_
        refine lv_dup hx hb dX3_addUp_25 rfl ?_
        refine va_get (D := D) (ci := 3) (v := .int w_open) (C := RX3) (T := TX3) (N := 14) hx hb ht inX3 hown hK hP 0 rfl rfl 13 (by decide) (ht _ fl_X3_54) (fun _ h9 => h9) rfl dX3_addUp_26 ?_
        refine lv_iconst (v := (1 : Int32)) hx hb dX3_addUp_29 (by decide) ?_
        refine lv_iload_n hx hb dX3_addUp_30 rfl (lv_at hl 1 rfl) ?_
        refine lv_ishl hx hb dX3_addUp_31 ?_
        refine lv_ior hx hb dX3_addUp_32 ?_
        refine va_put (D := D) (ci := 3) (v := .int (w_open ||| ((1 : Int32) <<< (x1 &&& 31)))) (ty := .int) (C := RX3) (T := TX3) (N := 14) hx hb ht inX3 tyX3 tyX3_ok nmX3 hown hK hP (hDD _ rfl) hS 0 rfl rfl 13 (by decide) (ht _ fl_X3_54) (fun _ h9 => h9) rfl (by decide +kernel) rfl rfl (Nat.le_of_ble_eq_true rfl) dX3_addUp_33 (fun H locs hP _ hS => ?_)
        have hP : va_P D vwCl ((bX3 cI cJ cC a_w w_space w_beam w_door w_law w_used w_pipes w_drilled w_total (w_open ||| ((1 : Int32) <<< (x1 &&& 31))) w_pipeInches w_pipeChances w_weights w_woods w_sums)) H := hP
        refine lv_iinc (v := x1 + (1 : Int32)) (lv' := [(1, .int (x1 + (1 : Int32))), (0, .ref (a_w 0))]) hx hb dX3_addUp_36 hl (k := 1) rfl (by rfl) (by decide) rfl (fun ls hl => ?_)
        refine lv_goto (tgt := 7) hx hb dX3_addUp_39 (by decide) ?_
        exact ih (x1 + (1 : Int32)) (w_open ||| ((1 : Int32) <<< (x1 &&& 31))) _ _ _ h hP hS (lv_sub hl [1, 0] rfl)
def lpX3_addUp_56 (K : Int32 → (Nat → Int64) → Prop) (w_weights : Nat → Int64) (w_woods : Nat → Int32) : Nat → Int32 → (Nat → Int64) → Prop
  | 0, _, _ => False
  | n + 1, x1, w_sums => (((48 : Int32) ≤ x1 → (K x1 w_sums)) ∧ (¬ ((48 : Int32) ≤ x1) → (vp_in x1 48 ∧ (wpX3_sumOf (fun (r_5 : Int64) => vp_in x1 48 ∧ (lpX3_addUp_56 K w_weights w_woods n (x1 + (1 : Int32)) (vp_updL w_sums x1.toNatClampNeg r_5))) w_weights (w_woods x1.toNatClampNeg)))))
set_option maxHeartbeats 4000000 in
set_option maxRecDepth 100000 in
theorem wX3_addUp_56 (l : Launch) (D : va_G) (cI cJ cC : ClassId) (G : Nat → Nat → Nat) (a_w : Nat → Nat) {p : Program} {e : Env} {s : State} {m : MethodId} {below : List Frame} {meth : Method} {c : Code} {A : Nat → Prop} {Q : State → Prop} (w_space : Int32) (w_beam : Int32) (w_door : Int32) (w_law : Int32) (w_used : Int32) (w_pipes : Int32) (w_drilled : Int64) (w_total : Int64) (w_open : Int32) (w_pipeInches : Nat → Int32) (w_pipeChances : Nat → Int32) (w_weights : Nat → Int64) (w_woods : Nat → Int32) (K : Int32 → (Nat → Int64) → Prop) (S : CallFix p m c cX3_addUp 2 s ([.ref (a_w 0)] : List Value).toArray bg RX3) (hK : va_K D vwCl (tz cI cJ cC) s) (hDD : ∀ ws : va_W, ws.map (fun q => q.1) = [a_w 0, a_w 1, a_w 2, a_w 3, a_w 4, a_w 5] → va_D A ws) (hA : ∀ q, s.heap.size ≤ q → A q) (hE : EV G A s) (hKK : ∀ (x1 : Int32) (w_sums : Nat → Int64) (H : Heap) (locs : List Loc) (ls : Array Slot), K x1 w_sums → va_P D vwCl ((bX3 cI cJ cC a_w w_space w_beam w_door w_law w_used w_pipes w_drilled w_total w_open w_pipeInches w_pipeChances w_weights w_woods w_sums)) H → va_S A s.heap H locs → lv_has ls 2 [] → W p l e ({ frames := 2, cells := 0, slots := 0, locals := 45 }) s m ([.ref (a_w 0)] : List Value).toArray below meth c H locs 0 0 Q (F0 m 84 ls [])) :
    ∀ (n : Nat) (x1 : Int32) (w_sums : Nat → Int64) (H : Heap) (locs : List Loc) (ls : Array Slot), lpX3_addUp_56 K w_weights w_woods n x1 w_sums → va_P D vwCl ((bX3 cI cJ cC a_w w_space w_beam w_door w_law w_used w_pipes w_drilled w_total w_open w_pipeInches w_pipeChances w_weights w_woods w_sums)) H → va_S A s.heap H locs → lv_has ls 2 [(0, .ref (a_w 0)), (1, .int x1)] → W p l e ({ frames := 2, cells := 0, slots := 0, locals := 45 }) s m ([.ref (a_w 0)] : List Value).toArray below meth c H locs 0 0 Q (F0 m 56 ls []) := by
  obtain ⟨hx, hb, hml, hown, ht⟩ := id S
  intro n
  induction n with
  | zero =>
    intro x1 w_sums H locs ls h
    exact absurd h (by simp [lpX3_addUp_56])
  | succ n ih =>
    intro x1 w_sums H locs ls h hP hS hl
    rw [lpX3_addUp_56] at h
    refine lv_iload_n hx hb dX3_addUp_56 rfl (lv_at hl 1 rfl) ?_
    refine lv_bipush (v := (48 : Int32)) hx hb dX3_addUp_57 (by decide) ?_
    refine lv_icmp_ge (tgt := 84) hx hb dX3_addUp_59 (by decide) (fun z => ?_) (fun z => ?_)
    · replace h := h.1 z
      exact hKK x1 w_sums _ _ _ h hP hS (lv_sub hl [] rfl)
    · replace h := h.2 z
      refine lv_aload_n hx hb dX3_addUp_62 rfl (lv_at hl 0 rfl) ?_
      refine va_get (D := D) (ci := 3) (v := .ref (a_w 5)) (C := RX3) (T := TX3) (N := 14) hx hb ht inX3 hown hK hP 0 rfl rfl 11 (by decide) (ht _ fl_X3_48) (fun _ h9 => h9) rfl dX3_addUp_63 ?_
      refine lv_iload_n hx hb dX3_addUp_66 rfl (lv_at hl 1 rfl) ?_
      refine lv_aload_n hx hb dX3_addUp_67 rfl (lv_at hl 0 rfl) ?_
      refine lv_aload_n hx hb dX3_addUp_68 rfl (lv_at hl 0 rfl) ?_
      refine va_get (D := D) (ci := 3) (v := .ref (a_w 4)) (C := RX3) (T := TX3) (N := 14) hx hb ht inX3 hown hK hP 0 rfl rfl 10 (by decide) (ht _ fl_X3_45) (fun _ h9 => h9) rfl dX3_addUp_69 ?_
      refine lv_iload_n hx hb dX3_addUp_72 rfl (lv_at hl 1 rfl) ?_
      obtain ⟨hin, h⟩ := h
      refine va_iald hx hb hK hP 4 0 rfl rfl hin dX3_addUp_73 ?_
      refine zcl hA (hDD _ rfl) hS (zrunV (As := [.int (w_woods x1.toNatClampNeg)]) (rest := [.int x1, .ref (a_w 5)]) S hK hA hE hP (hDD _ rfl) hS (mX3_sumOf l D cI cJ cC G a_w _ w_space w_beam w_door w_law w_used w_pipes w_drilled w_total w_open w_pipeInches w_pipeChances w_weights w_woods w_sums (w_woods x1.toNatClampNeg) _ h) kX3_sumOf ml_X3_91 ⟨rfl, rfl, by decide, by decide⟩ (q0 := 0) (ci := 3) rfl rfl rfl rfl hl.1 rfl (Nat.le_of_ble_eq_true rfl) dX3_addUp_74 ⟨Nat.zero_le _, Nat.zero_le _⟩) (fun r_5 u H locs h hP1 hk1 hS => ?_)
      try dsimp only at h
      have hP : va_P D vwCl ((bX3 cI cJ cC a_w w_space w_beam w_door w_law w_used w_pipes w_drilled w_total w_open w_pipeInches w_pipeChances w_weights w_woods w_sums)) H := hP1
      obtain ⟨hin, h⟩ := h
      refine va_last hx hb hK hP (hDD _ rfl) hS 5 1 rfl rfl hin dX3_addUp_77 (fun H locs hP _ hS => ?_)
      have hP : va_P D vwCl ((bX3 cI cJ cC a_w w_space w_beam w_door w_law w_used w_pipes w_drilled w_total w_open w_pipeInches w_pipeChances w_weights w_woods (vp_updL w_sums x1.toNatClampNeg r_5))) H := hP
      refine lv_iinc (v := x1 + (1 : Int32)) (lv' := [(1, .int (x1 + (1 : Int32))), (0, .ref (a_w 0))]) hx hb dX3_addUp_78 hl (k := 1) rfl (by rfl) (by decide) rfl (fun ls hl => ?_)
      refine lv_goto (tgt := 56) hx hb dX3_addUp_81 (by decide) ?_
      exact ih (x1 + (1 : Int32)) (vp_updL w_sums x1.toNatClampNeg r_5) _ _ _ h hP hS (lv_sub hl [1, 0] rfl)
def wpX3_addUp (post : Int64 → Int32 → (Nat → Int64) → Prop) (w_weights : Nat → Int64) (w_woods : Nat → Int32) (w_sums : Nat → Int64) : Prop := ∃ n_1 : Nat, lpX3_addUp_7 (fun (x1_2 : Int32) (w_open_3 : Int32) => wpX3_sumOf (fun (r_4 : Int64) => ∃ n_6 : Nat, lpX3_addUp_56 (fun (x1_7 : Int32) (w_sums_8 : Nat → Int64) => post r_4 w_open_3 w_sums_8) w_weights w_woods n_6 (0 : Int32) w_sums) w_weights w_open_3) w_weights n_1 (0 : Int32) (0 : Int32)
set_option maxHeartbeats 4000000 in
set_option maxRecDepth 100000 in
theorem mX3_addUp (l : Launch) (D : va_G) (cI cJ cC : ClassId) (G : Nat → Nat → Nat) (a_w : Nat → Nat) (sz : Nat) (w_space : Int32) (w_beam : Int32) (w_door : Int32) (w_law : Int32) (w_used : Int32) (w_pipes : Int32) (w_drilled : Int64) (w_total : Int64) (w_open : Int32) (w_pipeInches : Nat → Int32) (w_pipeChances : Nat → Int32) (w_weights : Nat → Int64) (w_woods : Nat → Int32) (w_sums : Nat → Int64) (post : Int64 → Int32 → (Nat → Int64) → Prop) (h : wpX3_addUp post w_weights w_woods w_sums) : Met l yX3_addUp (wz yX3_addUp cX3_addUp 2 none) ({ frames := 2, cells := 0, slots := 0, locals := 45 }) (va_Pc [.ref (a_w 0)] (PW D (tz cI cJ cC) G ((bX3 cI cJ cC a_w w_space w_beam w_door w_law w_used w_pipes w_drilled w_total w_open w_pipeInches w_pipeChances w_weights w_woods w_sums)) sz)) (va_Qv (fun (u : Int64 × Int32 × (Nat → Int64)) => post u.1 u.2.1 u.2.2) (fun (u : Int64 × Int32 × (Nat → Int64)) t => va_P D vwCl ((bX3 cI cJ cC a_w w_space w_beam w_door w_law w_used w_pipes w_drilled u.1 u.2.1 w_pipeInches w_pipeChances w_weights w_woods u.2.2)) t.heap) (va_A ((bX3 cI cJ cC a_w w_space w_beam w_door w_law w_used w_pipes w_drilled w_total w_open w_pipeInches w_pipeChances w_weights w_woods w_sums)) sz)) 0 0 (va_A ((bX3 cI cJ cC a_w w_space w_beam w_door w_law w_used w_pipes w_drilled w_total w_open w_pipeInches w_pipeChances w_weights w_woods w_sums)) sz) := by
  refine zmv (gw := fun (u : Int64 × Int32 × (Nat → Int64)) => (bX3 cI cJ cC a_w w_space w_beam w_door w_law w_used w_pipes w_drilled u.1 u.2.1 w_pipeInches w_pipeChances w_weights w_woods u.2.2)) (plainFor_of_name (by decide)) (Nat.le_of_ble_eq_true rfl) ?_
  intro p e s m below meth c A Q ls S hK hD hA hE hP hl hret
  obtain ⟨hx, hb, hml, hown, ht⟩ := id S
  have hS : va_S A s.heap s.heap [] := va_S.rf
  have hDD : ∀ ws : va_W, ws.map (fun q => q.1) = [a_w 0, a_w 1, a_w 2, a_w 3, a_w 4, a_w 5] → va_D A ws := fun ws hw => zD hD (hw.trans rfl)
  have hl : lv_has ls 2 [(0, .ref (a_w 0))] := hl
  unfold wpX3_addUp at h
  refine lv_aload_n hx hb dX3_addUp_0 rfl (lv_at hl 0 rfl) ?_
  refine lv_iconst (v := (0 : Int32)) hx hb dX3_addUp_1 (by decide) ?_
  refine va_put (D := D) (ci := 3) (v := .int (0 : Int32)) (ty := .int) (C := RX3) (T := TX3) (N := 14) hx hb ht inX3 tyX3 tyX3_ok nmX3 hown hK hP (hDD _ rfl) hS 0 rfl rfl 13 (by decide) (ht _ fl_X3_54) (fun _ h9 => h9) rfl (by decide +kernel) rfl rfl (Nat.le_of_ble_eq_true rfl) dX3_addUp_2 (fun H locs hP _ hS => ?_)
  have hP : va_P D vwCl ((bX3 cI cJ cC a_w w_space w_beam w_door w_law w_used w_pipes w_drilled w_total (0 : Int32) w_pipeInches w_pipeChances w_weights w_woods w_sums)) H := hP
  refine lv_iconst (v := (0 : Int32)) hx hb dX3_addUp_5 (by decide) ?_
  refine lv_istore_n (lv' := [(1, .int (0 : Int32)), (0, .ref (a_w 0))]) hx hb dX3_addUp_6 rfl hl (by decide) rfl (fun ls hl => ?_)
  obtain ⟨n_1, h⟩ := h
  refine wX3_addUp_7 l D cI cJ cC G a_w w_space w_beam w_door w_law w_used w_pipes w_drilled w_total w_pipeInches w_pipeChances w_weights w_woods w_sums _ S hK hDD hA hE (fun x1_2 w_open_3 H locs ls h hP hS hl => ?_) n_1 (0 : Int32) (0 : Int32) _ _ _ h hP hS (lv_sub hl [1, 0] rfl)
  try dsimp only at h
  refine lv_aload_n hx hb dX3_addUp_42 rfl (lv_at hl 0 rfl) ?_
  refine lv_aload_n hx hb dX3_addUp_43 rfl (lv_at hl 0 rfl) ?_
  refine lv_aload_n hx hb dX3_addUp_44 rfl (lv_at hl 0 rfl) ?_
  refine va_get (D := D) (ci := 3) (v := .int w_open_3) (C := RX3) (T := TX3) (N := 14) hx hb ht inX3 hown hK hP 0 rfl rfl 13 (by decide) (ht _ fl_X3_54) (fun _ h9 => h9) rfl dX3_addUp_45 ?_
  refine zcl hA (hDD _ rfl) hS (zrunV (As := [.int w_open_3]) (rest := [.ref (a_w 0)]) S hK hA hE hP (hDD _ rfl) hS (mX3_sumOf l D cI cJ cC G a_w _ w_space w_beam w_door w_law w_used w_pipes w_drilled w_total w_open_3 w_pipeInches w_pipeChances w_weights w_woods w_sums w_open_3 _ h) kX3_sumOf ml_X3_91 ⟨rfl, rfl, by decide, by decide⟩ (q0 := 0) (ci := 3) rfl rfl rfl rfl hl.1 rfl (Nat.le_of_ble_eq_true rfl) dX3_addUp_48 ⟨Nat.zero_le _, Nat.zero_le _⟩) (fun r_4 u H locs h hP1 hk1 hS => ?_)
  try dsimp only at h
  have hP : va_P D vwCl ((bX3 cI cJ cC a_w w_space w_beam w_door w_law w_used w_pipes w_drilled w_total w_open_3 w_pipeInches w_pipeChances w_weights w_woods w_sums)) H := hP1
  refine va_put (D := D) (ci := 3) (v := .long r_4) (ty := .long) (C := RX3) (T := TX3) (N := 14) hx hb ht inX3 tyX3 tyX3_ok nmX3 hown hK hP (hDD _ rfl) hS 0 rfl rfl 12 (by decide) (ht _ fl_X3_51) (fun _ h9 => h9) rfl (by decide +kernel) rfl rfl (Nat.le_of_ble_eq_true rfl) dX3_addUp_51 (fun H locs hP _ hS => ?_)
  have hP : va_P D vwCl ((bX3 cI cJ cC a_w w_space w_beam w_door w_law w_used w_pipes w_drilled r_4 w_open_3 w_pipeInches w_pipeChances w_weights w_woods w_sums)) H := hP
  refine lv_iconst (v := (0 : Int32)) hx hb dX3_addUp_54 (by decide) ?_
  refine lv_istore_n (lv' := [(1, .int (0 : Int32)), (0, .ref (a_w 0))]) hx hb dX3_addUp_55 rfl hl (by decide) rfl (fun ls hl => ?_)
  obtain ⟨n_6, h⟩ := h
  refine wX3_addUp_56 l D cI cJ cC G a_w w_space w_beam w_door w_law w_used w_pipes w_drilled r_4 w_open_3 w_pipeInches w_pipeChances w_weights w_woods _ S hK hDD hA hE (fun x1_7 w_sums_8 H locs ls h hP hS hl => ?_) n_6 (0 : Int32) w_sums _ _ _ h hP hS (lv_sub hl [1, 0] rfl)
  try dsimp only at h
  exact hret (r_4, w_open_3, w_sums_8) _ _ _ _ h hP hS dX3_addUp_84
def lpX3_beginAnew_2 (K : Int32 → (Nat → Int64) → Prop) (w_space : Int32) : Nat → Int32 → (Nat → Int64) → Prop
  | 0, _, _ => False
  | n + 1, x1, w_weights => (((24 : Int32) ≤ x1 → (K x1 w_weights)) ∧ (¬ ((24 : Int32) ≤ x1) → (((w_space ≤ x1 → (vp_in x1 24 ∧ (lpX3_beginAnew_2 K w_space n (x1 + (1 : Int32)) (vp_updL w_weights x1.toNatClampNeg (0 : Int64))))) ∧ (¬ (w_space ≤ x1) → (vp_in x1 24 ∧ (lpX3_beginAnew_2 K w_space n (x1 + (1 : Int32)) (vp_updL w_weights x1.toNatClampNeg (1 : Int64)))))))))
set_option maxHeartbeats 4000000 in
set_option maxRecDepth 100000 in
theorem wX3_beginAnew_2 (l : Launch) (D : va_G) (cI cJ cC : ClassId) (G : Nat → Nat → Nat) (a_w : Nat → Nat) {p : Program} {e : Env} {s : State} {m : MethodId} {below : List Frame} {meth : Method} {c : Code} {A : Nat → Prop} {Q : State → Prop} (w_space : Int32) (w_beam : Int32) (w_door : Int32) (w_law : Int32) (w_used : Int32) (w_pipes : Int32) (w_drilled : Int64) (w_total : Int64) (w_open : Int32) (w_pipeInches : Nat → Int32) (w_pipeChances : Nat → Int32) (w_woods : Nat → Int32) (w_sums : Nat → Int64) (K : Int32 → (Nat → Int64) → Prop) (S : CallFix p m c cX3_beginAnew 2 s ([.ref (a_w 0)] : List Value).toArray bg RX3) (hK : va_K D vwCl (tz cI cJ cC) s) (hDD : ∀ ws : va_W, ws.map (fun q => q.1) = [a_w 0, a_w 1, a_w 2, a_w 3, a_w 4, a_w 5] → va_D A ws) (hA : ∀ q, s.heap.size ≤ q → A q) (hE : EV G A s) (hKK : ∀ (x1 : Int32) (w_weights : Nat → Int64) (H : Heap) (locs : List Loc) (ls : Array Slot), K x1 w_weights → va_P D vwCl ((bX3 cI cJ cC a_w w_space w_beam w_door w_law w_used w_pipes w_drilled w_total w_open w_pipeInches w_pipeChances w_weights w_woods w_sums)) H → va_S A s.heap H locs → lv_has ls 2 [(0, .ref (a_w 0))] → W p l e ({ frames := 3, cells := 0, slots := 0, locals := 66 }) s m ([.ref (a_w 0)] : List Value).toArray below meth c H locs 0 0 Q (F0 m 33 ls [])) :
    ∀ (n : Nat) (x1 : Int32) (w_weights : Nat → Int64) (H : Heap) (locs : List Loc) (ls : Array Slot), lpX3_beginAnew_2 K w_space n x1 w_weights → va_P D vwCl ((bX3 cI cJ cC a_w w_space w_beam w_door w_law w_used w_pipes w_drilled w_total w_open w_pipeInches w_pipeChances w_weights w_woods w_sums)) H → va_S A s.heap H locs → lv_has ls 2 [(0, .ref (a_w 0)), (1, .int x1)] → W p l e ({ frames := 3, cells := 0, slots := 0, locals := 66 }) s m ([.ref (a_w 0)] : List Value).toArray below meth c H locs 0 0 Q (F0 m 2 ls []) := by
  obtain ⟨hx, hb, hml, hown, ht⟩ := id S
  intro n
  induction n with
  | zero =>
    intro x1 w_weights H locs ls h
    exact absurd h (by simp [lpX3_beginAnew_2])
  | succ n ih =>
    intro x1 w_weights H locs ls h hP hS hl
    rw [lpX3_beginAnew_2] at h
    refine lv_iload_n hx hb dX3_beginAnew_2 rfl (lv_at hl 1 rfl) ?_
    refine lv_bipush (v := (24 : Int32)) hx hb dX3_beginAnew_3 (by decide) ?_
    refine lv_icmp_ge (tgt := 33) hx hb dX3_beginAnew_5 (by decide) (fun z => ?_) (fun z => ?_)
    · replace h := h.1 z
      exact hKK x1 w_weights _ _ _ h hP hS (lv_sub hl [0] rfl)
    · replace h := h.2 z
      refine lv_aload_n hx hb dX3_beginAnew_8 rfl (lv_at hl 0 rfl) ?_
      refine va_get (D := D) (ci := 3) (v := .ref (a_w 3)) (C := RX3) (T := TX3) (N := 14) hx hb ht inX3 hown hK hP 0 rfl rfl 9 (by decide) (ht _ fl_X3_41) (fun _ h9 => h9) rfl dX3_beginAnew_9 ?_
      refine lv_iload_n hx hb dX3_beginAnew_12 rfl (lv_at hl 1 rfl) ?_
      refine lv_iload_n hx hb dX3_beginAnew_13 rfl (lv_at hl 1 rfl) ?_
      refine lv_aload_n hx hb dX3_beginAnew_14 rfl (lv_at hl 0 rfl) ?_
      refine va_get (D := D) (ci := 3) (v := .int w_space) (C := RX3) (T := TX3) (N := 14) hx hb ht inX3 hown hK hP 0 rfl rfl 0 (by decide) (ht _ fl_X3_9) (fun _ h9 => h9) rfl dX3_beginAnew_15 ?_
      refine lv_icmp_ge (tgt := 25) hx hb dX3_beginAnew_18 (by decide) (fun z => ?_) (fun z => ?_)
      · replace h := h.1 z
        refine lv_lconst (v := (0 : Int64)) hx hb dX3_beginAnew_25 (by decide) ?_
        obtain ⟨hin, h⟩ := h
        refine va_last hx hb hK hP (hDD _ rfl) hS 3 1 rfl rfl hin dX3_beginAnew_26 (fun H locs hP _ hS => ?_)
        have hP : va_P D vwCl ((bX3 cI cJ cC a_w w_space w_beam w_door w_law w_used w_pipes w_drilled w_total w_open w_pipeInches w_pipeChances (vp_updL w_weights x1.toNatClampNeg (0 : Int64)) w_woods w_sums)) H := hP
        refine lv_iinc (v := x1 + (1 : Int32)) (lv' := [(1, .int (x1 + (1 : Int32))), (0, .ref (a_w 0))]) hx hb dX3_beginAnew_27 hl (k := 1) rfl (by rfl) (by decide) rfl (fun ls hl => ?_)
        refine lv_goto (tgt := 2) hx hb dX3_beginAnew_30 (by decide) ?_
        exact ih (x1 + (1 : Int32)) (vp_updL w_weights x1.toNatClampNeg (0 : Int64)) _ _ _ h hP hS (lv_sub hl [1, 0] rfl)
      · replace h := h.2 z
        refine lv_lconst (v := (1 : Int64)) hx hb dX3_beginAnew_21 (by decide) ?_
        refine lv_goto (tgt := 26) hx hb dX3_beginAnew_22 (by decide) ?_
        obtain ⟨hin, h⟩ := h
        refine va_last hx hb hK hP (hDD _ rfl) hS 3 1 rfl rfl hin dX3_beginAnew_26 (fun H locs hP _ hS => ?_)
        have hP : va_P D vwCl ((bX3 cI cJ cC a_w w_space w_beam w_door w_law w_used w_pipes w_drilled w_total w_open w_pipeInches w_pipeChances (vp_updL w_weights x1.toNatClampNeg (1 : Int64)) w_woods w_sums)) H := hP
        refine lv_iinc (v := x1 + (1 : Int32)) (lv' := [(1, .int (x1 + (1 : Int32))), (0, .ref (a_w 0))]) hx hb dX3_beginAnew_27 hl (k := 1) rfl (by rfl) (by decide) rfl (fun ls hl => ?_)
        refine lv_goto (tgt := 2) hx hb dX3_beginAnew_30 (by decide) ?_
        exact ih (x1 + (1 : Int32)) (vp_updL w_weights x1.toNatClampNeg (1 : Int64)) _ _ _ h hP hS (lv_sub hl [1, 0] rfl)
def lpX3_beginAnew_40 (K : Int32 → (Nat → Int32) → Prop) (w_space : Int32) (w_beam : Int32) (w_door : Int32) (w_law : Int32) : Nat → Int32 → (Nat → Int32) → Prop
  | 0, _, _ => False
  | n + 1, x1, w_woods => (((48 : Int32) ≤ x1 → (K x1 w_woods)) ∧ (¬ ((48 : Int32) ≤ x1) → (wpX3_woodsByLaw (fun (r_4 : Int32) => vp_in x1 48 ∧ (lpX3_beginAnew_40 K w_space w_beam w_door w_law n (x1 + (1 : Int32)) (upd w_woods x1.toNatClampNeg r_4))) w_space w_beam w_door w_law x1)))
set_option maxHeartbeats 4000000 in
set_option maxRecDepth 100000 in
theorem wX3_beginAnew_40 (l : Launch) (D : va_G) (cI cJ cC : ClassId) (G : Nat → Nat → Nat) (a_w : Nat → Nat) {p : Program} {e : Env} {s : State} {m : MethodId} {below : List Frame} {meth : Method} {c : Code} {A : Nat → Prop} {Q : State → Prop} (w_space : Int32) (w_beam : Int32) (w_door : Int32) (w_law : Int32) (w_used : Int32) (w_pipes : Int32) (w_drilled : Int64) (w_total : Int64) (w_open : Int32) (w_pipeInches : Nat → Int32) (w_pipeChances : Nat → Int32) (w_weights : Nat → Int64) (w_sums : Nat → Int64) (K : Int32 → (Nat → Int32) → Prop) (S : CallFix p m c cX3_beginAnew 2 s ([.ref (a_w 0)] : List Value).toArray bg RX3) (hK : va_K D vwCl (tz cI cJ cC) s) (hDD : ∀ ws : va_W, ws.map (fun q => q.1) = [a_w 0, a_w 1, a_w 2, a_w 3, a_w 4, a_w 5] → va_D A ws) (hA : ∀ q, s.heap.size ≤ q → A q) (hE : EV G A s) (hKK : ∀ (x1 : Int32) (w_woods : Nat → Int32) (H : Heap) (locs : List Loc) (ls : Array Slot), K x1 w_woods → va_P D vwCl ((bX3 cI cJ cC a_w w_space w_beam w_door w_law w_used w_pipes w_drilled w_total w_open w_pipeInches w_pipeChances w_weights w_woods w_sums)) H → va_S A s.heap H locs → lv_has ls 2 [(0, .ref (a_w 0))] → W p l e ({ frames := 3, cells := 0, slots := 0, locals := 66 }) s m ([.ref (a_w 0)] : List Value).toArray below meth c H locs 0 0 Q (F0 m 63 ls [])) :
    ∀ (n : Nat) (x1 : Int32) (w_woods : Nat → Int32) (H : Heap) (locs : List Loc) (ls : Array Slot), lpX3_beginAnew_40 K w_space w_beam w_door w_law n x1 w_woods → va_P D vwCl ((bX3 cI cJ cC a_w w_space w_beam w_door w_law w_used w_pipes w_drilled w_total w_open w_pipeInches w_pipeChances w_weights w_woods w_sums)) H → va_S A s.heap H locs → lv_has ls 2 [(0, .ref (a_w 0)), (1, .int x1)] → W p l e ({ frames := 3, cells := 0, slots := 0, locals := 66 }) s m ([.ref (a_w 0)] : List Value).toArray below meth c H locs 0 0 Q (F0 m 40 ls []) := by
  obtain ⟨hx, hb, hml, hown, ht⟩ := id S
  intro n
  induction n with
  | zero =>
    intro x1 w_woods H locs ls h
    exact absurd h (by simp [lpX3_beginAnew_40])
  | succ n ih =>
    intro x1 w_woods H locs ls h hP hS hl
    rw [lpX3_beginAnew_40] at h
    refine lv_iload_n hx hb dX3_beginAnew_40 rfl (lv_at hl 1 rfl) ?_
    refine lv_bipush (v := (48 : Int32)) hx hb dX3_beginAnew_41 (by decide) ?_
    refine lv_icmp_ge (tgt := 63) hx hb dX3_beginAnew_43 (by decide) (fun z => ?_) (fun z => ?_)
    · replace h := h.1 z
      exact hKK x1 w_woods _ _ _ h hP hS (lv_sub hl [0] rfl)
    · replace h := h.2 z
      refine lv_aload_n hx hb dX3_beginAnew_46 rfl (lv_at hl 0 rfl) ?_
      refine va_get (D := D) (ci := 3) (v := .ref (a_w 4)) (C := RX3) (T := TX3) (N := 14) hx hb ht inX3 hown hK hP 0 rfl rfl 10 (by decide) (ht _ fl_X3_45) (fun _ h9 => h9) rfl dX3_beginAnew_47 ?_
      refine lv_iload_n hx hb dX3_beginAnew_50 rfl (lv_at hl 1 rfl) ?_
      refine lv_aload_n hx hb dX3_beginAnew_51 rfl (lv_at hl 0 rfl) ?_
      refine lv_iload_n hx hb dX3_beginAnew_52 rfl (lv_at hl 1 rfl) ?_
      refine zci hA (hDD _ rfl) hS (zrunV (As := [.int x1]) (rest := [.int x1, .ref (a_w 4)]) S hK hA hE hP (hDD _ rfl) hS (mX3_woodsByLaw l D cI cJ cC G a_w _ w_space w_beam w_door w_law w_used w_pipes w_drilled w_total w_open w_pipeInches w_pipeChances w_weights w_woods w_sums x1 _ h) kX3_woodsByLaw ml_X3_66 ⟨rfl, rfl, by decide, by decide⟩ (q0 := 0) (ci := 3) rfl rfl rfl rfl hl.1 rfl (Nat.le_of_ble_eq_true rfl) dX3_beginAnew_53 ⟨Nat.zero_le _, Nat.zero_le _⟩) (fun r_4 u H locs h hP1 hk1 hS => ?_)
      try dsimp only at h
      have hP : va_P D vwCl ((bX3 cI cJ cC a_w w_space w_beam w_door w_law w_used w_pipes w_drilled w_total w_open w_pipeInches w_pipeChances w_weights w_woods w_sums)) H := hP1
      obtain ⟨hin, h⟩ := h
      refine va_iast hx hb hK hP (hDD _ rfl) hS 4 0 rfl rfl hin dX3_beginAnew_56 (fun H locs hP _ hS => ?_)
      have hP : va_P D vwCl ((bX3 cI cJ cC a_w w_space w_beam w_door w_law w_used w_pipes w_drilled w_total w_open w_pipeInches w_pipeChances w_weights (upd w_woods x1.toNatClampNeg r_4) w_sums)) H := hP
      refine lv_iinc (v := x1 + (1 : Int32)) (lv' := [(1, .int (x1 + (1 : Int32))), (0, .ref (a_w 0))]) hx hb dX3_beginAnew_57 hl (k := 1) rfl (by rfl) (by decide) rfl (fun ls hl => ?_)
      refine lv_goto (tgt := 40) hx hb dX3_beginAnew_60 (by decide) ?_
      exact ih (x1 + (1 : Int32)) (upd w_woods x1.toNatClampNeg r_4) _ _ _ h hP hS (lv_sub hl [1, 0] rfl)
def wpX3_beginAnew (post : Int32 → Int64 → Int32 → (Nat → Int64) → (Nat → Int32) → (Nat → Int64) → Prop) (w_space : Int32) (w_beam : Int32) (w_door : Int32) (w_law : Int32) (w_weights : Nat → Int64) (w_woods : Nat → Int32) (w_sums : Nat → Int64) : Prop := ∃ n_1 : Nat, lpX3_beginAnew_2 (fun (x1_2 : Int32) (w_weights_3 : Nat → Int64) => ∃ n_5 : Nat, lpX3_beginAnew_40 (fun (x1_6 : Int32) (w_woods_7 : Nat → Int32) => wpX3_addUp (fun (w_total_8 : Int64) (w_open_9 : Int32) (w_sums_10 : Nat → Int64) => post (0 : Int32) w_total_8 w_open_9 w_weights_3 w_woods_7 w_sums_10) w_weights_3 w_woods_7 w_sums) w_space w_beam w_door w_law n_5 (0 : Int32) w_woods) w_space n_1 (0 : Int32) w_weights
set_option maxHeartbeats 4000000 in
set_option maxRecDepth 100000 in
theorem mX3_beginAnew (l : Launch) (D : va_G) (cI cJ cC : ClassId) (G : Nat → Nat → Nat) (a_w : Nat → Nat) (sz : Nat) (w_space : Int32) (w_beam : Int32) (w_door : Int32) (w_law : Int32) (w_used : Int32) (w_pipes : Int32) (w_drilled : Int64) (w_total : Int64) (w_open : Int32) (w_pipeInches : Nat → Int32) (w_pipeChances : Nat → Int32) (w_weights : Nat → Int64) (w_woods : Nat → Int32) (w_sums : Nat → Int64) (post : Int32 → Int64 → Int32 → (Nat → Int64) → (Nat → Int32) → (Nat → Int64) → Prop) (h : wpX3_beginAnew post w_space w_beam w_door w_law w_weights w_woods w_sums) : Met l yX3_beginAnew (wz yX3_beginAnew cX3_beginAnew 2 none) ({ frames := 3, cells := 0, slots := 0, locals := 66 }) (va_Pc [.ref (a_w 0)] (PW D (tz cI cJ cC) G ((bX3 cI cJ cC a_w w_space w_beam w_door w_law w_used w_pipes w_drilled w_total w_open w_pipeInches w_pipeChances w_weights w_woods w_sums)) sz)) (va_Qv (fun (u : Int32 × Int64 × Int32 × (Nat → Int64) × (Nat → Int32) × (Nat → Int64)) => post u.1 u.2.1 u.2.2.1 u.2.2.2.1 u.2.2.2.2.1 u.2.2.2.2.2) (fun (u : Int32 × Int64 × Int32 × (Nat → Int64) × (Nat → Int32) × (Nat → Int64)) t => va_P D vwCl ((bX3 cI cJ cC a_w w_space w_beam w_door w_law u.1 w_pipes w_drilled u.2.1 u.2.2.1 w_pipeInches w_pipeChances u.2.2.2.1 u.2.2.2.2.1 u.2.2.2.2.2)) t.heap) (va_A ((bX3 cI cJ cC a_w w_space w_beam w_door w_law w_used w_pipes w_drilled w_total w_open w_pipeInches w_pipeChances w_weights w_woods w_sums)) sz)) 0 0 (va_A ((bX3 cI cJ cC a_w w_space w_beam w_door w_law w_used w_pipes w_drilled w_total w_open w_pipeInches w_pipeChances w_weights w_woods w_sums)) sz) := by
  refine zmv (gw := fun (u : Int32 × Int64 × Int32 × (Nat → Int64) × (Nat → Int32) × (Nat → Int64)) => (bX3 cI cJ cC a_w w_space w_beam w_door w_law u.1 w_pipes w_drilled u.2.1 u.2.2.1 w_pipeInches w_pipeChances u.2.2.2.1 u.2.2.2.2.1 u.2.2.2.2.2)) (plainFor_of_name (by decide)) (Nat.le_of_ble_eq_true rfl) ?_
  intro p e s m below meth c A Q ls S hK hD hA hE hP hl hret
  obtain ⟨hx, hb, hml, hown, ht⟩ := id S
  have hS : va_S A s.heap s.heap [] := va_S.rf
  have hDD : ∀ ws : va_W, ws.map (fun q => q.1) = [a_w 0, a_w 1, a_w 2, a_w 3, a_w 4, a_w 5] → va_D A ws := fun ws hw => zD hD (hw.trans rfl)
  have hl : lv_has ls 2 [(0, .ref (a_w 0))] := hl
  unfold wpX3_beginAnew at h
  refine lv_iconst (v := (0 : Int32)) hx hb dX3_beginAnew_0 (by decide) ?_
  refine lv_istore_n (lv' := [(1, .int (0 : Int32)), (0, .ref (a_w 0))]) hx hb dX3_beginAnew_1 rfl hl (by decide) rfl (fun ls hl => ?_)
  obtain ⟨n_1, h⟩ := h
  refine wX3_beginAnew_2 l D cI cJ cC G a_w w_space w_beam w_door w_law w_used w_pipes w_drilled w_total w_open w_pipeInches w_pipeChances w_woods w_sums _ S hK hDD hA hE (fun x1_2 w_weights_3 H locs ls h hP hS hl => ?_) n_1 (0 : Int32) w_weights _ _ _ h hP hS (lv_sub hl [1, 0] rfl)
  try dsimp only at h
  refine lv_aload_n hx hb dX3_beginAnew_33 rfl (lv_at hl 0 rfl) ?_
  refine lv_iconst (v := (0 : Int32)) hx hb dX3_beginAnew_34 (by decide) ?_
  refine va_put (D := D) (ci := 3) (v := .int (0 : Int32)) (ty := .int) (C := RX3) (T := TX3) (N := 14) hx hb ht inX3 tyX3 tyX3_ok nmX3 hown hK hP (hDD _ rfl) hS 0 rfl rfl 4 (by decide) (ht _ fl_X3_24) (fun _ h9 => h9) rfl (by decide +kernel) rfl rfl (Nat.le_of_ble_eq_true rfl) dX3_beginAnew_35 (fun H locs hP _ hS => ?_)
  have hP : va_P D vwCl ((bX3 cI cJ cC a_w w_space w_beam w_door w_law (0 : Int32) w_pipes w_drilled w_total w_open w_pipeInches w_pipeChances w_weights_3 w_woods w_sums)) H := hP
  refine lv_iconst (v := (0 : Int32)) hx hb dX3_beginAnew_38 (by decide) ?_
  refine lv_istore_n (lv' := [(1, .int (0 : Int32)), (0, .ref (a_w 0))]) hx hb dX3_beginAnew_39 rfl hl (by decide) rfl (fun ls hl => ?_)
  obtain ⟨n_5, h⟩ := h
  refine wX3_beginAnew_40 l D cI cJ cC G a_w w_space w_beam w_door w_law (0 : Int32) w_pipes w_drilled w_total w_open w_pipeInches w_pipeChances w_weights_3 w_sums _ S hK hDD hA hE (fun x1_6 w_woods_7 H locs ls h hP hS hl => ?_) n_5 (0 : Int32) w_woods _ _ _ h hP hS (lv_sub hl [1, 0] rfl)
  try dsimp only at h
  refine lv_aload_n hx hb dX3_beginAnew_63 rfl (lv_at hl 0 rfl) ?_
  refine zcv hA (hDD _ rfl) hS (zrunV (As := []) (rest := []) S hK hA hE hP (hDD _ rfl) hS (mX3_addUp l D cI cJ cC G a_w _ w_space w_beam w_door w_law (0 : Int32) w_pipes w_drilled w_total w_open w_pipeInches w_pipeChances w_weights_3 w_woods_7 w_sums _ h) kX3_addUp ml_X3_70 ⟨rfl, rfl, by decide, by decide⟩ (q0 := 0) (ci := 3) rfl rfl rfl rfl hl.1 rfl (Nat.le_of_ble_eq_true rfl) dX3_beginAnew_64 ⟨Nat.zero_le _, Nat.zero_le _⟩) (fun u H locs h hP1 hk1 hS => ?_)
  obtain ⟨w_total_8, w_open_9, w_sums_10⟩ := u
  dsimp only at h
  have hP : va_P D vwCl ((bX3 cI cJ cC a_w w_space w_beam w_door w_law (0 : Int32) w_pipes w_drilled w_total_8 w_open_9 w_pipeInches w_pipeChances w_weights_3 w_woods_7 w_sums_10)) H := hP1
  exact hret ((0 : Int32), w_total_8, w_open_9, w_weights_3, w_woods_7, w_sums_10) _ _ _ _ h hP hS dX3_beginAnew_67
def wpX3_hasWood (post : Int32 → Prop) (w_woods : Nat → Int32) (p1 : Int32) (p2 : Int32) : Prop := vp_in p1 48 ∧ (wpX4_isIn (fun (r_1 : Int32) => narrow .boolean (.int r_1) = .int r_1 ∧ post r_1) (w_woods p1.toNatClampNeg) p2)
set_option maxHeartbeats 4000000 in
set_option maxRecDepth 100000 in
theorem mX3_hasWood (l : Launch) (D : va_G) (cI cJ cC : ClassId) (G : Nat → Nat → Nat) (a_w : Nat → Nat) (sz : Nat) (w_space : Int32) (w_beam : Int32) (w_door : Int32) (w_law : Int32) (w_used : Int32) (w_pipes : Int32) (w_drilled : Int64) (w_total : Int64) (w_open : Int32) (w_pipeInches : Nat → Int32) (w_pipeChances : Nat → Int32) (w_weights : Nat → Int64) (w_woods : Nat → Int32) (w_sums : Nat → Int64) (p1 : Int32) (p2 : Int32) (post : Int32 → Prop) (h : wpX3_hasWood post w_woods p1 p2) : Met l yX3_hasWood (wz yX3_hasWood cX3_hasWood 3 (some .boolean)) ({ frames := 1, cells := 0, slots := 0, locals := 21 }) (va_Pc [.ref (a_w 0), .int p1, .int p2] (PW D (tz cI cJ cC) G ((bX3 cI cJ cC a_w w_space w_beam w_door w_law w_used w_pipes w_drilled w_total w_open w_pipeInches w_pipeChances w_weights w_woods w_sums)) sz)) (va_Qi (fun (r : Int32) (u : Unit) => post r ) (fun (u : Unit) t => va_P D vwCl ((bX3 cI cJ cC a_w w_space w_beam w_door w_law w_used w_pipes w_drilled w_total w_open w_pipeInches w_pipeChances w_weights w_woods w_sums)) t.heap) (va_A ((bX3 cI cJ cC a_w w_space w_beam w_door w_law w_used w_pipes w_drilled w_total w_open w_pipeInches w_pipeChances w_weights w_woods w_sums)) sz)) 0 0 (va_A ((bX3 cI cJ cC a_w w_space w_beam w_door w_law w_used w_pipes w_drilled w_total w_open w_pipeInches w_pipeChances w_weights w_woods w_sums)) sz) := by
  refine zmi (gw := fun (u : Unit) => (bX3 cI cJ cC a_w w_space w_beam w_door w_law w_used w_pipes w_drilled w_total w_open w_pipeInches w_pipeChances w_weights w_woods w_sums)) (plainFor_of_name (by decide)) (Nat.le_of_ble_eq_true rfl) ?_
  intro p e s m below meth c A Q ls S hK hD hA hE hP hl hret
  obtain ⟨hx, hb, hml, hown, ht⟩ := id S
  have hS : va_S A s.heap s.heap [] := va_S.rf
  have hDD : ∀ ws : va_W, ws.map (fun q => q.1) = [a_w 0, a_w 1, a_w 2, a_w 3, a_w 4, a_w 5] → va_D A ws := fun ws hw => zD hD (hw.trans rfl)
  have hl : lv_has ls 3 [(0, .ref (a_w 0)), (1, .int p1), (2, .int p2)] := hl
  unfold wpX3_hasWood at h
  refine lv_aload_n hx hb dX3_hasWood_0 rfl (lv_at hl 0 rfl) ?_
  refine va_get (D := D) (ci := 3) (v := .ref (a_w 4)) (C := RX3) (T := TX3) (N := 14) hx hb ht inX3 hown hK hP 0 rfl rfl 10 (by decide) (ht _ fl_X3_45) (fun _ h9 => h9) rfl dX3_hasWood_1 ?_
  refine lv_iload_n hx hb dX3_hasWood_4 rfl (lv_at hl 1 rfl) ?_
  obtain ⟨hin, h⟩ := h
  refine va_iald hx hb hK hP 4 0 rfl rfl hin dX3_hasWood_5 ?_
  refine lv_iload_n hx hb dX3_hasWood_6 rfl (lv_at hl 2 rfl) ?_
  refine zci hA zD0 hS (zrunN (As := [.int (w_woods p1.toNatClampNeg), .int p2]) (rest := []) S hK hA hE zP0 zD0 hS (mX4_isIn l D cI cJ cC G _ (w_woods p1.toNatClampNeg) p2 _ h) kX4_isIn 0 rfl ⟨rfl, rfl, by decide, by decide⟩ rfl hl.1 rfl (Nat.le_of_ble_eq_true rfl) dX3_hasWood_7 ⟨Nat.zero_le _, Nat.zero_le _⟩) (fun r_1 u H locs h hP1 hk1 hS => ?_)
  try dsimp only at h
  have hP : va_P D vwCl ((bX3 cI cJ cC a_w w_space w_beam w_door w_law w_used w_pipes w_drilled w_total w_open w_pipeInches w_pipeChances w_weights w_woods w_sums)) H := zKeep hP hk1
  exact hret r_1 () _ _ _ _ h.1 h.2 hP hS dX3_hasWood_10
def wpX3_sumAtBoth (post : Int64 → Prop) (w_weights : Nat → Int64) (w_woods : Nat → Int32) (p1 : Int32) (p2 : Int32) : Prop := vp_in p1 48 ∧ (vp_in p2 48 ∧ (wpX3_sumOf (fun (r_1 : Int64) => post r_1) w_weights ((w_woods p1.toNatClampNeg) &&& (w_woods p2.toNatClampNeg))))
set_option maxHeartbeats 4000000 in
set_option maxRecDepth 100000 in
theorem mX3_sumAtBoth (l : Launch) (D : va_G) (cI cJ cC : ClassId) (G : Nat → Nat → Nat) (a_w : Nat → Nat) (sz : Nat) (w_space : Int32) (w_beam : Int32) (w_door : Int32) (w_law : Int32) (w_used : Int32) (w_pipes : Int32) (w_drilled : Int64) (w_total : Int64) (w_open : Int32) (w_pipeInches : Nat → Int32) (w_pipeChances : Nat → Int32) (w_weights : Nat → Int64) (w_woods : Nat → Int32) (w_sums : Nat → Int64) (p1 : Int32) (p2 : Int32) (post : Int64 → Prop) (h : wpX3_sumAtBoth post w_weights w_woods p1 p2) : Met l yX3_sumAtBoth (wz yX3_sumAtBoth cX3_sumAtBoth 3 (some .long)) ({ frames := 2, cells := 0, slots := 0, locals := 45 }) (va_Pc [.ref (a_w 0), .int p1, .int p2] (PW D (tz cI cJ cC) G ((bX3 cI cJ cC a_w w_space w_beam w_door w_law w_used w_pipes w_drilled w_total w_open w_pipeInches w_pipeChances w_weights w_woods w_sums)) sz)) (va_Ql (fun (r : Int64) (u : Unit) => post r ) (fun (u : Unit) t => va_P D vwCl ((bX3 cI cJ cC a_w w_space w_beam w_door w_law w_used w_pipes w_drilled w_total w_open w_pipeInches w_pipeChances w_weights w_woods w_sums)) t.heap) (va_A ((bX3 cI cJ cC a_w w_space w_beam w_door w_law w_used w_pipes w_drilled w_total w_open w_pipeInches w_pipeChances w_weights w_woods w_sums)) sz)) 0 0 (va_A ((bX3 cI cJ cC a_w w_space w_beam w_door w_law w_used w_pipes w_drilled w_total w_open w_pipeInches w_pipeChances w_weights w_woods w_sums)) sz) := by
  refine zml (gw := fun (u : Unit) => (bX3 cI cJ cC a_w w_space w_beam w_door w_law w_used w_pipes w_drilled w_total w_open w_pipeInches w_pipeChances w_weights w_woods w_sums)) (plainFor_of_name (by decide)) (Nat.le_of_ble_eq_true rfl) ?_
  intro p e s m below meth c A Q ls S hK hD hA hE hP hl hret
  obtain ⟨hx, hb, hml, hown, ht⟩ := id S
  have hS : va_S A s.heap s.heap [] := va_S.rf
  have hDD : ∀ ws : va_W, ws.map (fun q => q.1) = [a_w 0, a_w 1, a_w 2, a_w 3, a_w 4, a_w 5] → va_D A ws := fun ws hw => zD hD (hw.trans rfl)
  have hl : lv_has ls 3 [(0, .ref (a_w 0)), (1, .int p1), (2, .int p2)] := hl
  unfold wpX3_sumAtBoth at h
  refine lv_aload_n hx hb dX3_sumAtBoth_0 rfl (lv_at hl 0 rfl) ?_
  refine lv_aload_n hx hb dX3_sumAtBoth_1 rfl (lv_at hl 0 rfl) ?_
  refine va_get (D := D) (ci := 3) (v := .ref (a_w 4)) (C := RX3) (T := TX3) (N := 14) hx hb ht inX3 hown hK hP 0 rfl rfl 10 (by decide) (ht _ fl_X3_45) (fun _ h9 => h9) rfl dX3_sumAtBoth_2 ?_
  refine lv_iload_n hx hb dX3_sumAtBoth_5 rfl (lv_at hl 1 rfl) ?_
  obtain ⟨hin, h⟩ := h
  refine va_iald hx hb hK hP 4 0 rfl rfl hin dX3_sumAtBoth_6 ?_
  refine lv_aload_n hx hb dX3_sumAtBoth_7 rfl (lv_at hl 0 rfl) ?_
  refine va_get (D := D) (ci := 3) (v := .ref (a_w 4)) (C := RX3) (T := TX3) (N := 14) hx hb ht inX3 hown hK hP 0 rfl rfl 10 (by decide) (ht _ fl_X3_45) (fun _ h9 => h9) rfl dX3_sumAtBoth_8 ?_
  refine lv_iload_n hx hb dX3_sumAtBoth_11 rfl (lv_at hl 2 rfl) ?_
  obtain ⟨hin, h⟩ := h
  refine va_iald hx hb hK hP 4 0 rfl rfl hin dX3_sumAtBoth_12 ?_
  refine lv_iand hx hb dX3_sumAtBoth_13 ?_
  refine zcl hA (hDD _ rfl) hS (zrunV (As := [.int ((w_woods p1.toNatClampNeg) &&& (w_woods p2.toNatClampNeg))]) (rest := []) S hK hA hE hP (hDD _ rfl) hS (mX3_sumOf l D cI cJ cC G a_w _ w_space w_beam w_door w_law w_used w_pipes w_drilled w_total w_open w_pipeInches w_pipeChances w_weights w_woods w_sums ((w_woods p1.toNatClampNeg) &&& (w_woods p2.toNatClampNeg)) _ h) kX3_sumOf ml_X3_91 ⟨rfl, rfl, by decide, by decide⟩ (q0 := 0) (ci := 3) rfl rfl rfl rfl hl.1 rfl (Nat.le_of_ble_eq_true rfl) dX3_sumAtBoth_14 ⟨Nat.zero_le _, Nat.zero_le _⟩) (fun r_1 u H locs h hP1 hk1 hS => ?_)
  try dsimp only at h
  have hP : va_P D vwCl ((bX3 cI cJ cC a_w w_space w_beam w_door w_law w_used w_pipes w_drilled w_total w_open w_pipeInches w_pipeChances w_weights w_woods w_sums)) H := hP1
  exact hret r_1 () _ _ _ _ h hP hS dX3_sumAtBoth_17
def wpX4_tenths (post : Int32 → Prop) (p0 : Int32) (p1 : Int32) (p2 : Int32) : Prop := ((p2 = (0 : Int32) → (vp_in p0 5 ∧ (((p1 = p2 → (post (([7, 9, 9, 6, 9] : List Int32).getD p0.toNatClampNeg 0))) ∧ (¬ (p1 = p2) → (post ((10 : Int32) - (([7, 9, 9, 6, 9] : List Int32).getD p0.toNatClampNeg 0)))))))) ∧ (¬ (p2 = (0 : Int32)) → (vp_in p0 5 ∧ (((p1 = p2 → (post (([7, 4, 6, 8, 9] : List Int32).getD p0.toNatClampNeg 0))) ∧ (¬ (p1 = p2) → (post ((10 : Int32) - (([7, 4, 6, 8, 9] : List Int32).getD p0.toNatClampNeg 0)))))))))
set_option maxHeartbeats 4000000 in
set_option maxRecDepth 100000 in
theorem mX4_tenths (l : Launch) (D : va_G) (cI cJ cC : ClassId) (G : Nat → Nat → Nat) (sz : Nat) (p0 : Int32) (p1 : Int32) (p2 : Int32) (post : Int32 → Prop) (h : wpX4_tenths post p0 p1 p2) : Met l yX4_tenths (wz yX4_tenths cX4_tenths 4 (some .int)) ({ frames := 0, cells := 0, slots := 0, locals := 0 }) (va_Pc [.int p0, .int p1, .int p2] (PW D (tz cI cJ cC) G ([]) sz)) (va_Qi (fun (r : Int32) (u : Unit) => post r ) (fun (u : Unit) t => va_P D vwCl ([]) t.heap) (va_A ([]) sz)) 0 0 (va_A ([]) sz) := by
  refine zmi (gw := fun (u : Unit) => []) (plainFor_of_name (by decide)) (Nat.le_of_ble_eq_true rfl) ?_
  intro p e s m below meth c A Q ls S hK hD hA hE hP hl hret
  obtain ⟨hx, hb, hml, hown, ht⟩ := id S
  have hS : va_S A s.heap s.heap [] := va_S.rf
  have hDD : ∀ ws : va_W, ws.map (fun q => q.1) = [] → va_D A ws := fun ws hw => zD hD (hw.trans rfl)
  have hl : lv_has ls 4 [(0, .int p0), (1, .int p1), (2, .int p2)] := hl
  unfold wpX4_tenths at h
  refine lv_iload_n hx hb dX4_tenths_0 rfl (lv_at hl 2 rfl) ?_
  refine lv_if_eq (tgt := 12) hx hb dX4_tenths_1 (by decide) (fun z => ?_) (fun z => ?_)
  · replace h := h.1 z
    refine va_gets (v := .ref (G 0 3)) hx hb (hE.2.1 3 _ rfl).1 hS hown (ht _ fl_X4_119) (fun _ h9 => h9) dX4_tenths_12 ?_
    refine lv_iload_n hx hb dX4_tenths_15 rfl (lv_at hl 0 rfl) ?_
    obtain ⟨hin, h⟩ := h
    refine va_ti (v := .int (([7, 9, 9, 6, 9] : List Int32).getD p0.toNatClampNeg 0)) hx hb (hE.2.1 3 _ rfl).2 hS hin rfl dX4_tenths_16 ?_
    refine lv_istore_n (lv' := [(3, .int (([7, 9, 9, 6, 9] : List Int32).getD p0.toNatClampNeg 0)), (0, .int p0), (1, .int p1), (2, .int p2)]) hx hb dX4_tenths_17 rfl hl (by decide) rfl (fun ls hl => ?_)
    refine lv_iload_n hx hb dX4_tenths_18 rfl (lv_at hl 2 rfl) ?_
    refine lv_iload_n hx hb dX4_tenths_19 rfl (lv_at hl 3 rfl) ?_
    refine lv_icmp_ne (tgt := 27) hx hb dX4_tenths_20 (by decide) (fun z => ?_) (fun z => ?_)
    · replace h := h.2 z
      refine lv_bipush (v := (10 : Int32)) hx hb dX4_tenths_27 (by decide) ?_
      refine lv_iload_n hx hb dX4_tenths_29 rfl (lv_at hl 0 rfl) ?_
      refine lv_isub hx hb dX4_tenths_30 ?_
      exact hret ((10 : Int32) - (([7, 9, 9, 6, 9] : List Int32).getD p0.toNatClampNeg 0)) () _ _ _ _ rfl h hP hS dX4_tenths_31
    · replace h := h.1 z
      refine lv_iload_n hx hb dX4_tenths_23 rfl (lv_at hl 0 rfl) ?_
      refine lv_goto (tgt := 31) hx hb dX4_tenths_24 (by decide) ?_
      exact hret (([7, 9, 9, 6, 9] : List Int32).getD p0.toNatClampNeg 0) () _ _ _ _ rfl h hP hS dX4_tenths_31
  · replace h := h.2 z
    refine va_gets (v := .ref (G 0 2)) hx hb (hE.2.1 2 _ rfl).1 hS hown (ht _ fl_X4_116) (fun _ h9 => h9) dX4_tenths_4 ?_
    refine lv_iload_n hx hb dX4_tenths_7 rfl (lv_at hl 0 rfl) ?_
    obtain ⟨hin, h⟩ := h
    refine va_ti (v := .int (([7, 4, 6, 8, 9] : List Int32).getD p0.toNatClampNeg 0)) hx hb (hE.2.1 2 _ rfl).2 hS hin rfl dX4_tenths_8 ?_
    refine lv_goto (tgt := 17) hx hb dX4_tenths_9 (by decide) ?_
    refine lv_istore_n (lv' := [(3, .int (([7, 4, 6, 8, 9] : List Int32).getD p0.toNatClampNeg 0)), (0, .int p0), (1, .int p1), (2, .int p2)]) hx hb dX4_tenths_17 rfl hl (by decide) rfl (fun ls hl => ?_)
    refine lv_iload_n hx hb dX4_tenths_18 rfl (lv_at hl 2 rfl) ?_
    refine lv_iload_n hx hb dX4_tenths_19 rfl (lv_at hl 3 rfl) ?_
    refine lv_icmp_ne (tgt := 27) hx hb dX4_tenths_20 (by decide) (fun z => ?_) (fun z => ?_)
    · replace h := h.2 z
      refine lv_bipush (v := (10 : Int32)) hx hb dX4_tenths_27 (by decide) ?_
      refine lv_iload_n hx hb dX4_tenths_29 rfl (lv_at hl 0 rfl) ?_
      refine lv_isub hx hb dX4_tenths_30 ?_
      exact hret ((10 : Int32) - (([7, 4, 6, 8, 9] : List Int32).getD p0.toNatClampNeg 0)) () _ _ _ _ rfl h hP hS dX4_tenths_31
    · replace h := h.1 z
      refine lv_iload_n hx hb dX4_tenths_23 rfl (lv_at hl 0 rfl) ?_
      refine lv_goto (tgt := 31) hx hb dX4_tenths_24 (by decide) ?_
      exact hret (([7, 4, 6, 8, 9] : List Int32).getD p0.toNatClampNeg 0) () _ _ _ _ rfl h hP hS dX4_tenths_31
