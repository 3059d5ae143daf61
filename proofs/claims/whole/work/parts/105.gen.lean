def lpX5_sure_42 (post : Int32 → (Nat → Int32) → Prop) (K : Int32 → Int32 → Prop) (x1 : Int32) (x2 : Int32) (M_refused : Nat → Int32) (M_setting : Nat → Int32) (M_weight : Nat → Int32) : Nat → Int32 → Int32 → Prop
  | 0, _, _ => False
  | n + 1, x4, x5 => (((48 : Int32) ≤ x5 → (K x4 x5)) ∧ (¬ ((48 : Int32) ≤ x5) → (wpX5_woodAt (fun (r_2 : Int64) => ((x1 = (0 : Int32) → (wpX5_all (fun (r_3 : Int64) => ((r_2 = r_3 → (((x4 = x2 → (post x5 M_refused)) ∧ (¬ (x4 = x2) → (lpX5_sure_42 post K x1 x2 M_refused M_setting M_weight n (x4 + (1 : Int32)) (x5 + (1 : Int32))))))) ∧ (¬ (r_2 = r_3) → (lpX5_sure_42 post K x1 x2 M_refused M_setting M_weight n x4 (x5 + (1 : Int32)))))) M_setting M_weight)) ∧ (¬ (x1 = (0 : Int32)) → (((r_2 = (0 : Int64) → (((x4 = x2 → (post x5 M_refused)) ∧ (¬ (x4 = x2) → (lpX5_sure_42 post K x1 x2 M_refused M_setting M_weight n (x4 + (1 : Int32)) (x5 + (1 : Int32))))))) ∧ (¬ (r_2 = (0 : Int64)) → (lpX5_sure_42 post K x1 x2 M_refused M_setting M_weight n x4 (x5 + (1 : Int32))))))))) M_setting M_weight x5)))
set_option maxHeartbeats 4000000 in
set_option maxRecDepth 100000 in
theorem wX5_sure_42 (l : Launch) (D : va_G) (cI cJ cC : ClassId) (G : Nat → Nat → Nat) (a_M : Nat → Nat) {p : Program} {e : Env} {s : State} {m : MethodId} {below : List Frame} {meth : Method} {c : Code} {A : Nat → Prop} {Q : State → Prop} (p1 : Int32) (p2 : Int32) (x1 : Int32) (x2 : Int32) (M_pipes : Int32) (M_used : Int32) (M_taped : Int32) (M_at : Int32) (M_statements : Int32) (M_hasImage : Int32) (M_isKeeping : Int32) (M_cursor : Int32) (M_nextAt : Int32) (M_nextMost : Int64) (M_rowMany : Int32) (M_refused : Nat → Int32) (M_setting : Nat → Int32) (M_hole : Nat → Int32) (M_pipeAt : Nat → Int32) (M_chance : Nat → Int32) (M_weight : Nat → Int32) (M_tape : Nat → Int32) (M_letter : Nat → Int32) (M_letterAt : Nat → Int32) (M_told : Nat → Int32) (M_kept : Nat → Int32) (M_then : Nat → Int64) (M_row : Nat → Int32) (post : Int32 → (Nat → Int32) → Prop) (K : Int32 → Int32 → Prop) (S : CallFix p m c cX5_sure 6 s ([.ref (a_M 0), .int p1, .int p2] : List Value).toArray bg RX5) (hK : va_K D vwCl (tz cI cJ cC) s) (hDD : ∀ ws : va_W, ws.map (fun q => q.1) = [a_M 0, a_M 1, a_M 2, a_M 3, a_M 4, a_M 5, a_M 6, a_M 7, a_M 8, a_M 9, a_M 10, a_M 11, a_M 12, a_M 13] → va_D A ws) (hA : ∀ q, s.heap.size ≤ q → A q) (hE : EV G A s) (hret : ∀ (r : Int32) (u : (Nat → Int32)) (H : Heap) (locs : List Loc) (ls : Array Slot) (pc : Nat), narrow .int (.int r) = .int r → post r u → va_P D vwCl ((bX5 cI cJ cC a_M M_pipes M_used M_taped M_at M_statements M_hasImage M_isKeeping M_cursor M_nextAt M_nextMost M_rowMany u M_setting M_hole M_pipeAt M_chance M_weight M_tape M_letter M_letterAt M_told M_kept M_then M_row)) H → va_S A s.heap H locs → decode cX5_sure pc = .ok (.ireturn, 1) → W p l e ({ frames := 5, cells := 0, slots := 0, locals := 112 }) s m ([.ref (a_M 0), .int p1, .int p2] : List Value).toArray below meth c H locs 0 0 Q (F0 m pc ls [.int r])) (hKK : ∀ (x4 : Int32) (x5 : Int32) (H : Heap) (locs : List Loc) (ls : Array Slot), K x4 x5 → va_P D vwCl ((bX5 cI cJ cC a_M M_pipes M_used M_taped M_at M_statements M_hasImage M_isKeeping M_cursor M_nextAt M_nextMost M_rowMany M_refused M_setting M_hole M_pipeAt M_chance M_weight M_tape M_letter M_letterAt M_told M_kept M_then M_row)) H → va_S A s.heap H locs → lv_has ls 6 [(2, .int x2), (4, .int x4)] → W p l e ({ frames := 5, cells := 0, slots := 0, locals := 112 }) s m ([.ref (a_M 0), .int p1, .int p2] : List Value).toArray below meth c H locs 0 0 Q (F0 m 92 ls [])) :
    ∀ (n : Nat) (x4 : Int32) (x5 : Int32) (H : Heap) (locs : List Loc) (ls : Array Slot), lpX5_sure_42 post K x1 x2 M_refused M_setting M_weight n x4 x5 → va_P D vwCl ((bX5 cI cJ cC a_M M_pipes M_used M_taped M_at M_statements M_hasImage M_isKeeping M_cursor M_nextAt M_nextMost M_rowMany M_refused M_setting M_hole M_pipeAt M_chance M_weight M_tape M_letter M_letterAt M_told M_kept M_then M_row)) H → va_S A s.heap H locs → lv_has ls 6 [(0, .ref (a_M 0)), (1, .int x1), (2, .int x2), (4, .int x4), (5, .int x5)] → W p l e ({ frames := 5, cells := 0, slots := 0, locals := 112 }) s m ([.ref (a_M 0), .int p1, .int p2] : List Value).toArray below meth c H locs 0 0 Q (F0 m 42 ls []) := by
  obtain ⟨hx, hb, hml, hown, ht⟩ := id S
  intro n
  induction n with
  | zero =>
    intro x4 x5 H locs ls h
    exact absurd h (by simp [lpX5_sure_42])
  | succ n ih =>
    intro x4 x5 H locs ls h hP hS hl
    rw [lpX5_sure_42] at h
    refine lv_iload hx hb dX5_sure_42 (lv_at hl 4 rfl) ?_
    refine lv_bipush (v := (48 : Int32)) hx hb dX5_sure_44 (by decide) ?_
    refine lv_icmp_ge (tgt := 92) hx hb dX5_sure_46 (by decide) (fun z => ?_) (fun z => ?_)
    · replace h := h.1 z
      exact hKK x4 x5 _ _ _ h hP hS (lv_sub hl [2, 3] rfl)
    · replace h := h.2 z
      refine lv_aload_n hx hb dX5_sure_49 rfl (lv_at hl 0 rfl) ?_
      refine lv_iload hx hb dX5_sure_50 (lv_at hl 4 rfl) ?_
      refine zcl hA (hDD _ rfl) hS (zrunV (As := [.int x5]) (rest := []) S hK hA hE hP (hDD _ rfl) hS (mX5_woodAt l D cI cJ cC G a_M _ M_pipes M_used M_taped M_at M_statements M_hasImage M_isKeeping M_cursor M_nextAt M_nextMost M_rowMany M_refused M_setting M_hole M_pipeAt M_chance M_weight M_tape M_letter M_letterAt M_told M_kept M_then M_row x5 _ h) kX5_woodAt ml_X5_213 ⟨rfl, rfl, by decide, by decide⟩ (q0 := 0) (ci := 5) rfl rfl rfl rfl hl.1 rfl (Nat.le_of_ble_eq_true rfl) dX5_sure_52 ⟨Nat.zero_le _, Nat.zero_le _⟩) (fun r_2 u H locs h hP1 hk1 hS => ?_)
      try dsimp only at h
      have hP : va_P D vwCl ((bX5 cI cJ cC a_M M_pipes M_used M_taped M_at M_statements M_hasImage M_isKeeping M_cursor M_nextAt M_nextMost M_rowMany M_refused M_setting M_hole M_pipeAt M_chance M_weight M_tape M_letter M_letterAt M_told M_kept M_then M_row)) H := hP1
      refine lv_iload_n hx hb dX5_sure_55 rfl (lv_at hl 1 rfl) ?_
      refine lv_if_ne (tgt := 66) hx hb dX5_sure_56 (by decide) (fun z => ?_) (fun z => ?_)
      · replace h := h.2 z
        refine lv_lconst (v := (0 : Int64)) hx hb dX5_sure_66 (by decide) ?_
        refine W.lcmp hx hb dX5_sure_67 ?_
        refine lv_if_eq (tgt := 74) hx hb dX5_sure_68 (by decide) (fun z => ?_) (fun z => ?_)
        · replace h := h.1 (zl_eq.mp z)
          refine lv_iload hx hb dX5_sure_74 (lv_at hl 3 rfl) ?_
          refine lv_iload_n hx hb dX5_sure_76 rfl (lv_at hl 2 rfl) ?_
          refine lv_icmp_ne (tgt := 83) hx hb dX5_sure_77 (by decide) (fun z => ?_) (fun z => ?_)
          · replace h := h.2 z
            refine lv_iinc (v := x4 + (1 : Int32)) (lv' := [(4, .int (x4 + (1 : Int32))), (0, .ref (a_M 0)), (1, .int x1), (2, .int x2), (5, .int x5)]) hx hb dX5_sure_83 hl (k := 3) rfl (by rfl) (by decide) rfl (fun ls hl => ?_)
            refine lv_iinc (v := x5 + (1 : Int32)) (lv' := [(5, .int (x5 + (1 : Int32))), (4, .int (x4 + (1 : Int32))), (0, .ref (a_M 0)), (1, .int x1), (2, .int x2)]) hx hb dX5_sure_86 hl (k := 4) rfl (by rfl) (by decide) rfl (fun ls hl => ?_)
            refine lv_goto (tgt := 42) hx hb dX5_sure_89 (by decide) ?_
            exact ih (x4 + (1 : Int32)) (x5 + (1 : Int32)) _ _ _ h hP hS (lv_sub hl [2, 3, 4, 1, 0] rfl)
          · replace h := h.1 z
            refine lv_iload hx hb dX5_sure_80 (lv_at hl 4 rfl) ?_
            exact hret x5 M_refused _ _ _ _ rfl h hP hS dX5_sure_82
        · replace h := h.2 (fun q => z (zl_eq.mpr q))
          refine lv_goto (tgt := 86) hx hb dX5_sure_71 (by decide) ?_
          refine lv_iinc (v := x5 + (1 : Int32)) (lv' := [(5, .int (x5 + (1 : Int32))), (0, .ref (a_M 0)), (1, .int x1), (2, .int x2), (4, .int x4)]) hx hb dX5_sure_86 hl (k := 4) rfl (by rfl) (by decide) rfl (fun ls hl => ?_)
          refine lv_goto (tgt := 42) hx hb dX5_sure_89 (by decide) ?_
          exact ih x4 (x5 + (1 : Int32)) _ _ _ h hP hS (lv_sub hl [1, 2, 3, 4, 0] rfl)
      · replace h := h.1 z
        refine lv_aload_n hx hb dX5_sure_59 rfl (lv_at hl 0 rfl) ?_
        refine zcl hA (hDD _ rfl) hS (zrunV (As := []) (rest := [.long r_2]) S hK hA hE hP (hDD _ rfl) hS (mX5_all l D cI cJ cC G a_M _ M_pipes M_used M_taped M_at M_statements M_hasImage M_isKeeping M_cursor M_nextAt M_nextMost M_rowMany M_refused M_setting M_hole M_pipeAt M_chance M_weight M_tape M_letter M_letterAt M_told M_kept M_then M_row _ h) kX5_all ml_X5_216 ⟨rfl, rfl, by decide, by decide⟩ (q0 := 0) (ci := 5) rfl rfl rfl rfl hl.1 rfl (Nat.le_of_ble_eq_true rfl) dX5_sure_60 ⟨Nat.zero_le _, Nat.zero_le _⟩) (fun r_3 u H locs h hP1 hk1 hS => ?_)
        try dsimp only at h
        have hP : va_P D vwCl ((bX5 cI cJ cC a_M M_pipes M_used M_taped M_at M_statements M_hasImage M_isKeeping M_cursor M_nextAt M_nextMost M_rowMany M_refused M_setting M_hole M_pipeAt M_chance M_weight M_tape M_letter M_letterAt M_told M_kept M_then M_row)) H := hP1
        refine lv_goto (tgt := 67) hx hb dX5_sure_63 (by decide) ?_
        refine W.lcmp hx hb dX5_sure_67 ?_
        refine lv_if_eq (tgt := 74) hx hb dX5_sure_68 (by decide) (fun z => ?_) (fun z => ?_)
        · replace h := h.1 (zl_eq.mp z)
          refine lv_iload hx hb dX5_sure_74 (lv_at hl 3 rfl) ?_
          refine lv_iload_n hx hb dX5_sure_76 rfl (lv_at hl 2 rfl) ?_
          refine lv_icmp_ne (tgt := 83) hx hb dX5_sure_77 (by decide) (fun z => ?_) (fun z => ?_)
          · replace h := h.2 z
            refine lv_iinc (v := x4 + (1 : Int32)) (lv' := [(4, .int (x4 + (1 : Int32))), (0, .ref (a_M 0)), (1, .int x1), (2, .int x2), (5, .int x5)]) hx hb dX5_sure_83 hl (k := 3) rfl (by rfl) (by decide) rfl (fun ls hl => ?_)
            refine lv_iinc (v := x5 + (1 : Int32)) (lv' := [(5, .int (x5 + (1 : Int32))), (4, .int (x4 + (1 : Int32))), (0, .ref (a_M 0)), (1, .int x1), (2, .int x2)]) hx hb dX5_sure_86 hl (k := 4) rfl (by rfl) (by decide) rfl (fun ls hl => ?_)
            refine lv_goto (tgt := 42) hx hb dX5_sure_89 (by decide) ?_
            exact ih (x4 + (1 : Int32)) (x5 + (1 : Int32)) _ _ _ h hP hS (lv_sub hl [2, 3, 4, 1, 0] rfl)
          · replace h := h.1 z
            refine lv_iload hx hb dX5_sure_80 (lv_at hl 4 rfl) ?_
            exact hret x5 M_refused _ _ _ _ rfl h hP hS dX5_sure_82
        · replace h := h.2 (fun q => z (zl_eq.mpr q))
          refine lv_goto (tgt := 86) hx hb dX5_sure_71 (by decide) ?_
          refine lv_iinc (v := x5 + (1 : Int32)) (lv' := [(5, .int (x5 + (1 : Int32))), (0, .ref (a_M 0)), (1, .int x1), (2, .int x2), (4, .int x4)]) hx hb dX5_sure_86 hl (k := 4) rfl (by rfl) (by decide) rfl (fun ls hl => ?_)
          refine lv_goto (tgt := 42) hx hb dX5_sure_89 (by decide) ?_
          exact ih x4 (x5 + (1 : Int32)) _ _ _ h hP hS (lv_sub hl [1, 2, 3, 4, 0] rfl)
def wpX5_sure (post : Int32 → (Nat → Int32) → Prop) (M_refused : Nat → Int32) (M_setting : Nat → Int32) (M_weight : Nat → Int32) (p1 : Int32) (p2 : Int32) : Prop := wpX5_isIn (fun (r_1 : Int32) => ((r_1 = (0 : Int32) → (wpX5_no (fun (r_9 : Int32) (M_refused_10 : Nat → Int32) => post r_9 M_refused_10) M_refused (-2 : Int32))) ∧ (¬ (r_1 = (0 : Int32)) → ((((-1 : Int32) ≤ p2 → (∃ n_4 : Nat, lpX5_sure_42 post (fun (x4_5 : Int32) (x5_6 : Int32) => (((0 : Int32) ≤ p2 → (post (-9 : Int32) M_refused)) ∧ (¬ ((0 : Int32) ≤ p2) → (post x4_5 M_refused)))) p1 p2 M_refused M_setting M_weight n_4 (0 : Int32) (0 : Int32))) ∧ (¬ ((-1 : Int32) ≤ p2) → (wpX5_no (fun (r_7 : Int32) (M_refused_8 : Nat → Int32) => post r_7 M_refused_8) M_refused (-4 : Int32)))))))) p1 (0 : Int32) (1 : Int32)
set_option maxHeartbeats 4000000 in
set_option maxRecDepth 100000 in
theorem mX5_sure (l : Launch) (D : va_G) (cI cJ cC : ClassId) (G : Nat → Nat → Nat) (a_M : Nat → Nat) (sz : Nat) (M_pipes : Int32) (M_used : Int32) (M_taped : Int32) (M_at : Int32) (M_statements : Int32) (M_hasImage : Int32) (M_isKeeping : Int32) (M_cursor : Int32) (M_nextAt : Int32) (M_nextMost : Int64) (M_rowMany : Int32) (M_refused : Nat → Int32) (M_setting : Nat → Int32) (M_hole : Nat → Int32) (M_pipeAt : Nat → Int32) (M_chance : Nat → Int32) (M_weight : Nat → Int32) (M_tape : Nat → Int32) (M_letter : Nat → Int32) (M_letterAt : Nat → Int32) (M_told : Nat → Int32) (M_kept : Nat → Int32) (M_then : Nat → Int64) (M_row : Nat → Int32) (p1 : Int32) (p2 : Int32) (post : Int32 → (Nat → Int32) → Prop) (h : wpX5_sure post M_refused M_setting M_weight p1 p2) : Met l yX5_sure (wz yX5_sure cX5_sure 6 (some .int)) ({ frames := 5, cells := 0, slots := 0, locals := 112 }) (va_Pc [.ref (a_M 0), .int p1, .int p2] (PW D (tz cI cJ cC) G ((bX5 cI cJ cC a_M M_pipes M_used M_taped M_at M_statements M_hasImage M_isKeeping M_cursor M_nextAt M_nextMost M_rowMany M_refused M_setting M_hole M_pipeAt M_chance M_weight M_tape M_letter M_letterAt M_told M_kept M_then M_row)) sz)) (va_Qi (fun (r : Int32) (u : (Nat → Int32)) => post r u) (fun (u : (Nat → Int32)) t => va_P D vwCl ((bX5 cI cJ cC a_M M_pipes M_used M_taped M_at M_statements M_hasImage M_isKeeping M_cursor M_nextAt M_nextMost M_rowMany u M_setting M_hole M_pipeAt M_chance M_weight M_tape M_letter M_letterAt M_told M_kept M_then M_row)) t.heap) (va_A ((bX5 cI cJ cC a_M M_pipes M_used M_taped M_at M_statements M_hasImage M_isKeeping M_cursor M_nextAt M_nextMost M_rowMany M_refused M_setting M_hole M_pipeAt M_chance M_weight M_tape M_letter M_letterAt M_told M_kept M_then M_row)) sz)) 0 0 (va_A ((bX5 cI cJ cC a_M M_pipes M_used M_taped M_at M_statements M_hasImage M_isKeeping M_cursor M_nextAt M_nextMost M_rowMany M_refused M_setting M_hole M_pipeAt M_chance M_weight M_tape M_letter M_letterAt M_told M_kept M_then M_row)) sz) := by
  refine zmi (gw := fun (u : (Nat → Int32)) => (bX5 cI cJ cC a_M M_pipes M_used M_taped M_at M_statements M_hasImage M_isKeeping M_cursor M_nextAt M_nextMost M_rowMany u M_setting M_hole M_pipeAt M_chance M_weight M_tape M_letter M_letterAt M_told M_kept M_then M_row)) (plainFor_of_name (by decide)) (Nat.le_of_ble_eq_true rfl) ?_
  intro p e s m below meth c A Q ls S hK hD hA hE hP hl hret
  obtain ⟨hx, hb, hml, hown, ht⟩ := id S
  have hS : va_S A s.heap s.heap [] := va_S.rf
  have hDD : ∀ ws : va_W, ws.map (fun q => q.1) = [a_M 0, a_M 1, a_M 2, a_M 3, a_M 4, a_M 5, a_M 6, a_M 7, a_M 8, a_M 9, a_M 10, a_M 11, a_M 12, a_M 13] → va_D A ws := fun ws hw => zD hD (hw.trans rfl)
  have hl : lv_has ls 6 [(0, .ref (a_M 0)), (1, .int p1), (2, .int p2)] := hl
  unfold wpX5_sure at h
  refine lv_iload_n hx hb dX5_sure_0 rfl (lv_at hl 1 rfl) ?_
  refine lv_iconst (v := (0 : Int32)) hx hb dX5_sure_1 (by decide) ?_
  refine lv_iconst (v := (1 : Int32)) hx hb dX5_sure_2 (by decide) ?_
  refine zci hA zD0 hS (zrunS (As := [.int p1, .int (0 : Int32), .int (1 : Int32)]) (rest := []) S hK hA hE zP0 zD0 hS (mX5_isIn l D cI cJ cC G _ p1 (0 : Int32) (1 : Int32) _ h) kX5_isIn ml_X5_77 ⟨rfl, rfl, by decide, by decide⟩ rfl hl.1 rfl (Nat.le_of_ble_eq_true rfl) dX5_sure_3 ⟨Nat.zero_le _, Nat.zero_le _⟩) (fun r_1 u H locs h hP1 hk1 hS => ?_)
  try dsimp only at h
  have hP : va_P D vwCl ((bX5 cI cJ cC a_M M_pipes M_used M_taped M_at M_statements M_hasImage M_isKeeping M_cursor M_nextAt M_nextMost M_rowMany M_refused M_setting M_hole M_pipeAt M_chance M_weight M_tape M_letter M_letterAt M_told M_kept M_then M_row)) H := zKeep hP hk1
  refine lv_if_ne (tgt := 14) hx hb dX5_sure_6 (by decide) (fun z => ?_) (fun z => ?_)
  · replace h := h.2 z
    refine lv_iload_n hx hb dX5_sure_14 rfl (lv_at hl 2 rfl) ?_
    refine lv_iconst (v := (-1 : Int32)) hx hb dX5_sure_15 (by decide) ?_
    refine lv_icmp_ge (tgt := 24) hx hb dX5_sure_16 (by decide) (fun z => ?_) (fun z => ?_)
    · replace h := h.1 z
      refine lv_iconst (v := (0 : Int32)) hx hb dX5_sure_24 (by decide) ?_
      refine lv_istore_n (lv' := [(3, .int (0 : Int32)), (0, .ref (a_M 0)), (1, .int p1), (2, .int p2)]) hx hb dX5_sure_25 rfl hl (by decide) rfl (fun ls hl => ?_)
      refine lv_iload_n hx hb dX5_sure_26 rfl (lv_at hl 0 rfl) ?_
      refine lv_if_eq (tgt := 36) hx hb dX5_sure_27 (by decide) (fun z => ?_) (fun z => ?_)
      · refine lv_iconst (v := (0 : Int32)) hx hb dX5_sure_36 (by decide) ?_
        refine lv_istore (lv' := [(4, .int (0 : Int32)), (3, .int (0 : Int32)), (0, .ref (a_M 0)), (1, .int p1), (2, .int p2)]) hx hb dX5_sure_37 hl (by decide) rfl (fun ls hl => ?_)
        refine lv_iconst (v := (0 : Int32)) hx hb dX5_sure_39 (by decide) ?_
        refine lv_istore (lv' := [(5, .int (0 : Int32)), (4, .int (0 : Int32)), (3, .int (0 : Int32)), (0, .ref (a_M 0)), (1, .int p1), (2, .int p2)]) hx hb dX5_sure_40 hl (by decide) rfl (fun ls hl => ?_)
        obtain ⟨n_4, h⟩ := h
        refine wX5_sure_42 l D cI cJ cC G a_M p1 p2 p1 p2 M_pipes M_used M_taped M_at M_statements M_hasImage M_isKeeping M_cursor M_nextAt M_nextMost M_rowMany M_refused M_setting M_hole M_pipeAt M_chance M_weight M_tape M_letter M_letterAt M_told M_kept M_then M_row post _ S hK hDD hA hE hret (fun x4_5 x5_6 H locs ls h hP hS hl => ?_) n_4 (0 : Int32) (0 : Int32) _ _ _ h hP hS (lv_sub hl [3, 4, 5, 1, 0] rfl)
        try dsimp only at h
        refine lv_iload_n hx hb dX5_sure_92 rfl (lv_at hl 0 rfl) ?_
        refine lv_if_ge (tgt := 101) hx hb dX5_sure_93 (by decide) (fun z => ?_) (fun z => ?_)
        · replace h := h.1 z
          refine lv_bipush (v := (-9 : Int32)) hx hb dX5_sure_101 (by decide) ?_
          exact hret (-9 : Int32) M_refused _ _ _ _ rfl h hP hS dX5_sure_103
        · replace h := h.2 z
          refine lv_iload hx hb dX5_sure_96 (lv_at hl 1 rfl) ?_
          refine lv_goto (tgt := 103) hx hb dX5_sure_98 (by decide) ?_
          exact hret x4_5 M_refused _ _ _ _ rfl h hP hS dX5_sure_103
      · exact absurd (by decide) z
    · replace h := h.2 z
      refine lv_bipush (v := (-4 : Int32)) hx hb dX5_sure_19 (by decide) ?_
      refine lv_goto (tgt := 25) hx hb dX5_sure_21 (by decide) ?_
      refine lv_istore_n (lv' := [(3, .int (-4 : Int32)), (0, .ref (a_M 0)), (1, .int p1), (2, .int p2)]) hx hb dX5_sure_25 rfl hl (by decide) rfl (fun ls hl => ?_)
      refine lv_iload_n hx hb dX5_sure_26 rfl (lv_at hl 0 rfl) ?_
      refine lv_if_eq (tgt := 36) hx hb dX5_sure_27 (by decide) (fun z => ?_) (fun z => ?_)
      · exact absurd z (by decide)
      · refine lv_aload_n hx hb dX5_sure_30 rfl (lv_at hl 1 rfl) ?_
        refine lv_iload_n hx hb dX5_sure_31 rfl (lv_at hl 0 rfl) ?_
        refine zci hA (hDD _ rfl) hS (zrunV (As := [.int (-4 : Int32)]) (rest := []) S hK hA hE hP (hDD _ rfl) hS (mX5_no l D cI cJ cC G a_M _ M_pipes M_used M_taped M_at M_statements M_hasImage M_isKeeping M_cursor M_nextAt M_nextMost M_rowMany M_refused M_setting M_hole M_pipeAt M_chance M_weight M_tape M_letter M_letterAt M_told M_kept M_then M_row (-4 : Int32) _ h) kX5_no ml_X5_66 ⟨rfl, rfl, by decide, by decide⟩ (q0 := 0) (ci := 5) rfl rfl rfl rfl hl.1 rfl (Nat.le_of_ble_eq_true rfl) dX5_sure_32 ⟨Nat.zero_le _, Nat.zero_le _⟩) (fun r_7 M_refused_8 H locs h hP1 hk1 hS => ?_)
        try dsimp only at h
        have hP : va_P D vwCl ((bX5 cI cJ cC a_M M_pipes M_used M_taped M_at M_statements M_hasImage M_isKeeping M_cursor M_nextAt M_nextMost M_rowMany M_refused_8 M_setting M_hole M_pipeAt M_chance M_weight M_tape M_letter M_letterAt M_told M_kept M_then M_row)) H := hP1
        exact hret r_7 M_refused_8 _ _ _ _ rfl h hP hS dX5_sure_35
  · replace h := h.1 z
    refine lv_bipush (v := (-2 : Int32)) hx hb dX5_sure_9 (by decide) ?_
    refine lv_goto (tgt := 25) hx hb dX5_sure_11 (by decide) ?_
    refine lv_istore_n (lv' := [(3, .int (-2 : Int32)), (0, .ref (a_M 0)), (1, .int p1), (2, .int p2)]) hx hb dX5_sure_25 rfl hl (by decide) rfl (fun ls hl => ?_)
    refine lv_iload_n hx hb dX5_sure_26 rfl (lv_at hl 0 rfl) ?_
    refine lv_if_eq (tgt := 36) hx hb dX5_sure_27 (by decide) (fun z => ?_) (fun z => ?_)
    · exact absurd z (by decide)
    · refine lv_aload_n hx hb dX5_sure_30 rfl (lv_at hl 1 rfl) ?_
      refine lv_iload_n hx hb dX5_sure_31 rfl (lv_at hl 0 rfl) ?_
      refine zci hA (hDD _ rfl) hS (zrunV (As := [.int (-2 : Int32)]) (rest := []) S hK hA hE hP (hDD _ rfl) hS (mX5_no l D cI cJ cC G a_M _ M_pipes M_used M_taped M_at M_statements M_hasImage M_isKeeping M_cursor M_nextAt M_nextMost M_rowMany M_refused M_setting M_hole M_pipeAt M_chance M_weight M_tape M_letter M_letterAt M_told M_kept M_then M_row (-2 : Int32) _ h) kX5_no ml_X5_66 ⟨rfl, rfl, by decide, by decide⟩ (q0 := 0) (ci := 5) rfl rfl rfl rfl hl.1 rfl (Nat.le_of_ble_eq_true rfl) dX5_sure_32 ⟨Nat.zero_le _, Nat.zero_le _⟩) (fun r_9 M_refused_10 H locs h hP1 hk1 hS => ?_)
      try dsimp only at h
      have hP : va_P D vwCl ((bX5 cI cJ cC a_M M_pipes M_used M_taped M_at M_statements M_hasImage M_isKeeping M_cursor M_nextAt M_nextMost M_rowMany M_refused_10 M_setting M_hole M_pipeAt M_chance M_weight M_tape M_letter M_letterAt M_told M_kept M_then M_row)) H := hP1
      exact hret r_9 M_refused_10 _ _ _ _ rfl h hP hS dX5_sure_35
def lpX5_bestNow_4 (K : Int32 → Int32 → Prop) (M_setting : Nat → Int32) (M_weight : Nat → Int32) : Nat → Int32 → Int32 → Prop
  | 0, _, _ => False
  | n + 1, x1, x2 => (((48 : Int32) ≤ x2 → (K x1 x2)) ∧ (¬ ((48 : Int32) ≤ x2) → (wpX5_woodAt (fun (r_1 : Int64) => wpX5_woodAt (fun (r_2 : Int64) => ((r_1 ≤ r_2 → (lpX5_bestNow_4 K M_setting M_weight n x1 (x2 + (1 : Int32)))) ∧ (¬ (r_1 ≤ r_2) → (lpX5_bestNow_4 K M_setting M_weight n x2 (x2 + (1 : Int32)))))) M_setting M_weight x1) M_setting M_weight x2)))
set_option maxHeartbeats 4000000 in
set_option maxRecDepth 100000 in
theorem wX5_bestNow_4 (l : Launch) (D : va_G) (cI cJ cC : ClassId) (G : Nat → Nat → Nat) (a_M : Nat → Nat) {p : Program} {e : Env} {s : State} {m : MethodId} {below : List Frame} {meth : Method} {c : Code} {A : Nat → Prop} {Q : State → Prop} (M_pipes : Int32) (M_used : Int32) (M_taped : Int32) (M_at : Int32) (M_statements : Int32) (M_hasImage : Int32) (M_isKeeping : Int32) (M_cursor : Int32) (M_nextAt : Int32) (M_nextMost : Int64) (M_rowMany : Int32) (M_refused : Nat → Int32) (M_setting : Nat → Int32) (M_hole : Nat → Int32) (M_pipeAt : Nat → Int32) (M_chance : Nat → Int32) (M_weight : Nat → Int32) (M_tape : Nat → Int32) (M_letter : Nat → Int32) (M_letterAt : Nat → Int32) (M_told : Nat → Int32) (M_kept : Nat → Int32) (M_then : Nat → Int64) (M_row : Nat → Int32) (K : Int32 → Int32 → Prop) (S : CallFix p m c cX5_bestNow 3 s ([.ref (a_M 0)] : List Value).toArray bg RX5) (hK : va_K D vwCl (tz cI cJ cC) s) (hDD : ∀ ws : va_W, ws.map (fun q => q.1) = [a_M 0, a_M 1, a_M 2, a_M 3, a_M 4, a_M 5, a_M 6, a_M 7, a_M 8, a_M 9, a_M 10, a_M 11, a_M 12, a_M 13] → va_D A ws) (hA : ∀ q, s.heap.size ≤ q → A q) (hE : EV G A s) (hKK : ∀ (x1 : Int32) (x2 : Int32) (H : Heap) (locs : List Loc) (ls : Array Slot), K x1 x2 → va_P D vwCl ((bX5 cI cJ cC a_M M_pipes M_used M_taped M_at M_statements M_hasImage M_isKeeping M_cursor M_nextAt M_nextMost M_rowMany M_refused M_setting M_hole M_pipeAt M_chance M_weight M_tape M_letter M_letterAt M_told M_kept M_then M_row)) H → va_S A s.heap H locs → lv_has ls 3 [(1, .int x1)] → W p l e ({ frames := 5, cells := 0, slots := 0, locals := 112 }) s m ([.ref (a_M 0)] : List Value).toArray below meth c H locs 0 0 Q (F0 m 36 ls [])) :
    ∀ (n : Nat) (x1 : Int32) (x2 : Int32) (H : Heap) (locs : List Loc) (ls : Array Slot), lpX5_bestNow_4 K M_setting M_weight n x1 x2 → va_P D vwCl ((bX5 cI cJ cC a_M M_pipes M_used M_taped M_at M_statements M_hasImage M_isKeeping M_cursor M_nextAt M_nextMost M_rowMany M_refused M_setting M_hole M_pipeAt M_chance M_weight M_tape M_letter M_letterAt M_told M_kept M_then M_row)) H → va_S A s.heap H locs → lv_has ls 3 [(0, .ref (a_M 0)), (1, .int x1), (2, .int x2)] → W p l e ({ frames := 5, cells := 0, slots := 0, locals := 112 }) s m ([.ref (a_M 0)] : List Value).toArray below meth c H locs 0 0 Q (F0 m 4 ls []) := by
  obtain ⟨hx, hb, hml, hown, ht⟩ := id S
  intro n
  induction n with
  | zero =>
    intro x1 x2 H locs ls h
    exact absurd h (by simp [lpX5_bestNow_4])
  | succ n ih =>
    intro x1 x2 H locs ls h hP hS hl
    rw [lpX5_bestNow_4] at h
    refine lv_iload_n hx hb dX5_bestNow_4 rfl (lv_at hl 2 rfl) ?_
    refine lv_bipush (v := (48 : Int32)) hx hb dX5_bestNow_5 (by decide) ?_
    refine lv_icmp_ge (tgt := 36) hx hb dX5_bestNow_7 (by decide) (fun z => ?_) (fun z => ?_)
    · replace h := h.1 z
      exact hKK x1 x2 _ _ _ h hP hS (lv_sub hl [1] rfl)
    · replace h := h.2 z
      refine lv_aload_n hx hb dX5_bestNow_10 rfl (lv_at hl 0 rfl) ?_
      refine lv_iload_n hx hb dX5_bestNow_11 rfl (lv_at hl 2 rfl) ?_
      refine zcl hA (hDD _ rfl) hS (zrunV (As := [.int x2]) (rest := []) S hK hA hE hP (hDD _ rfl) hS (mX5_woodAt l D cI cJ cC G a_M _ M_pipes M_used M_taped M_at M_statements M_hasImage M_isKeeping M_cursor M_nextAt M_nextMost M_rowMany M_refused M_setting M_hole M_pipeAt M_chance M_weight M_tape M_letter M_letterAt M_told M_kept M_then M_row x2 _ h) kX5_woodAt ml_X5_213 ⟨rfl, rfl, by decide, by decide⟩ (q0 := 0) (ci := 5) rfl rfl rfl rfl hl.1 rfl (Nat.le_of_ble_eq_true rfl) dX5_bestNow_12 ⟨Nat.zero_le _, Nat.zero_le _⟩) (fun r_1 u H locs h hP1 hk1 hS => ?_)
      try dsimp only at h
      have hP : va_P D vwCl ((bX5 cI cJ cC a_M M_pipes M_used M_taped M_at M_statements M_hasImage M_isKeeping M_cursor M_nextAt M_nextMost M_rowMany M_refused M_setting M_hole M_pipeAt M_chance M_weight M_tape M_letter M_letterAt M_told M_kept M_then M_row)) H := hP1
      refine lv_aload_n hx hb dX5_bestNow_15 rfl (lv_at hl 0 rfl) ?_
      refine lv_iload_n hx hb dX5_bestNow_16 rfl (lv_at hl 1 rfl) ?_
      refine zcl hA (hDD _ rfl) hS (zrunV (As := [.int x1]) (rest := [.long r_1]) S hK hA hE hP (hDD _ rfl) hS (mX5_woodAt l D cI cJ cC G a_M _ M_pipes M_used M_taped M_at M_statements M_hasImage M_isKeeping M_cursor M_nextAt M_nextMost M_rowMany M_refused M_setting M_hole M_pipeAt M_chance M_weight M_tape M_letter M_letterAt M_told M_kept M_then M_row x1 _ h) kX5_woodAt ml_X5_213 ⟨rfl, rfl, by decide, by decide⟩ (q0 := 0) (ci := 5) rfl rfl rfl rfl hl.1 rfl (Nat.le_of_ble_eq_true rfl) dX5_bestNow_17 ⟨Nat.zero_le _, Nat.zero_le _⟩) (fun r_2 u H locs h hP1 hk1 hS => ?_)
      try dsimp only at h
      have hP : va_P D vwCl ((bX5 cI cJ cC a_M M_pipes M_used M_taped M_at M_statements M_hasImage M_isKeeping M_cursor M_nextAt M_nextMost M_rowMany M_refused M_setting M_hole M_pipeAt M_chance M_weight M_tape M_letter M_letterAt M_told M_kept M_then M_row)) H := hP1
      refine W.lcmp hx hb dX5_bestNow_20 ?_
      refine lv_if_le (tgt := 28) hx hb dX5_bestNow_21 (by decide) (fun z => ?_) (fun z => ?_)
      · replace h := h.1 (zl_le.mp z)
        refine lv_iload_n hx hb dX5_bestNow_28 rfl (lv_at hl 1 rfl) ?_
        refine lv_istore_n (lv' := [(1, .int x1), (0, .ref (a_M 0)), (2, .int x2)]) hx hb dX5_bestNow_29 rfl hl (by decide) rfl (fun ls hl => ?_)
        refine lv_iinc (v := x2 + (1 : Int32)) (lv' := [(2, .int (x2 + (1 : Int32))), (1, .int x1), (0, .ref (a_M 0))]) hx hb dX5_bestNow_30 hl (k := 2) rfl (by rfl) (by decide) rfl (fun ls hl => ?_)
        refine lv_goto (tgt := 4) hx hb dX5_bestNow_33 (by decide) ?_
        exact ih x1 (x2 + (1 : Int32)) _ _ _ h hP hS (lv_sub hl [2, 1, 0] rfl)
      · replace h := h.2 (fun q => z (zl_le.mpr q))
        refine lv_iload_n hx hb dX5_bestNow_24 rfl (lv_at hl 2 rfl) ?_
        refine lv_goto (tgt := 29) hx hb dX5_bestNow_25 (by decide) ?_
        refine lv_istore_n (lv' := [(1, .int x2), (0, .ref (a_M 0)), (2, .int x2)]) hx hb dX5_bestNow_29 rfl hl (by decide) rfl (fun ls hl => ?_)
        refine lv_iinc (v := x2 + (1 : Int32)) (lv' := [(2, .int (x2 + (1 : Int32))), (1, .int x2), (0, .ref (a_M 0))]) hx hb dX5_bestNow_30 hl (k := 2) rfl (by rfl) (by decide) rfl (fun ls hl => ?_)
        refine lv_goto (tgt := 4) hx hb dX5_bestNow_33 (by decide) ?_
        exact ih x2 (x2 + (1 : Int32)) _ _ _ h hP hS (lv_sub hl [2, 1, 0] rfl)
def wpX5_bestNow (post : Int32 → Prop) (M_setting : Nat → Int32) (M_weight : Nat → Int32) : Prop := ∃ n_3 : Nat, lpX5_bestNow_4 (fun (x1_4 : Int32) (x2_5 : Int32) => post x1_4) M_setting M_weight n_3 (0 : Int32) (1 : Int32)
set_option maxHeartbeats 4000000 in
set_option maxRecDepth 100000 in
theorem mX5_bestNow (l : Launch) (D : va_G) (cI cJ cC : ClassId) (G : Nat → Nat → Nat) (a_M : Nat → Nat) (sz : Nat) (M_pipes : Int32) (M_used : Int32) (M_taped : Int32) (M_at : Int32) (M_statements : Int32) (M_hasImage : Int32) (M_isKeeping : Int32) (M_cursor : Int32) (M_nextAt : Int32) (M_nextMost : Int64) (M_rowMany : Int32) (M_refused : Nat → Int32) (M_setting : Nat → Int32) (M_hole : Nat → Int32) (M_pipeAt : Nat → Int32) (M_chance : Nat → Int32) (M_weight : Nat → Int32) (M_tape : Nat → Int32) (M_letter : Nat → Int32) (M_letterAt : Nat → Int32) (M_told : Nat → Int32) (M_kept : Nat → Int32) (M_then : Nat → Int64) (M_row : Nat → Int32) (post : Int32 → Prop) (h : wpX5_bestNow post M_setting M_weight) : Met l yX5_bestNow (wz yX5_bestNow cX5_bestNow 3 (some .int)) ({ frames := 5, cells := 0, slots := 0, locals := 112 }) (va_Pc [.ref (a_M 0)] (PW D (tz cI cJ cC) G ((bX5 cI cJ cC a_M M_pipes M_used M_taped M_at M_statements M_hasImage M_isKeeping M_cursor M_nextAt M_nextMost M_rowMany M_refused M_setting M_hole M_pipeAt M_chance M_weight M_tape M_letter M_letterAt M_told M_kept M_then M_row)) sz)) (va_Qi (fun (r : Int32) (u : Unit) => post r ) (fun (u : Unit) t => va_P D vwCl ((bX5 cI cJ cC a_M M_pipes M_used M_taped M_at M_statements M_hasImage M_isKeeping M_cursor M_nextAt M_nextMost M_rowMany M_refused M_setting M_hole M_pipeAt M_chance M_weight M_tape M_letter M_letterAt M_told M_kept M_then M_row)) t.heap) (va_A ((bX5 cI cJ cC a_M M_pipes M_used M_taped M_at M_statements M_hasImage M_isKeeping M_cursor M_nextAt M_nextMost M_rowMany M_refused M_setting M_hole M_pipeAt M_chance M_weight M_tape M_letter M_letterAt M_told M_kept M_then M_row)) sz)) 0 0 (va_A ((bX5 cI cJ cC a_M M_pipes M_used M_taped M_at M_statements M_hasImage M_isKeeping M_cursor M_nextAt M_nextMost M_rowMany M_refused M_setting M_hole M_pipeAt M_chance M_weight M_tape M_letter M_letterAt M_told M_kept M_then M_row)) sz) := by
  refine zmi (gw := fun (u : Unit) => (bX5 cI cJ cC a_M M_pipes M_used M_taped M_at M_statements M_hasImage M_isKeeping M_cursor M_nextAt M_nextMost M_rowMany M_refused M_setting M_hole M_pipeAt M_chance M_weight M_tape M_letter M_letterAt M_told M_kept M_then M_row)) (plainFor_of_name (by decide)) (Nat.le_of_ble_eq_true rfl) ?_
  intro p e s m below meth c A Q ls S hK hD hA hE hP hl hret
  obtain ⟨hx, hb, hml, hown, ht⟩ := id S
  have hS : va_S A s.heap s.heap [] := va_S.rf
  have hDD : ∀ ws : va_W, ws.map (fun q => q.1) = [a_M 0, a_M 1, a_M 2, a_M 3, a_M 4, a_M 5, a_M 6, a_M 7, a_M 8, a_M 9, a_M 10, a_M 11, a_M 12, a_M 13] → va_D A ws := fun ws hw => zD hD (hw.trans rfl)
  have hl : lv_has ls 3 [(0, .ref (a_M 0))] := hl
  unfold wpX5_bestNow at h
  refine lv_iconst (v := (0 : Int32)) hx hb dX5_bestNow_0 (by decide) ?_
  refine lv_istore_n (lv' := [(1, .int (0 : Int32)), (0, .ref (a_M 0))]) hx hb dX5_bestNow_1 rfl hl (by decide) rfl (fun ls hl => ?_)
  refine lv_iconst (v := (1 : Int32)) hx hb dX5_bestNow_2 (by decide) ?_
  refine lv_istore_n (lv' := [(2, .int (1 : Int32)), (1, .int (0 : Int32)), (0, .ref (a_M 0))]) hx hb dX5_bestNow_3 rfl hl (by decide) rfl (fun ls hl => ?_)
  obtain ⟨n_3, h⟩ := h
  refine wX5_bestNow_4 l D cI cJ cC G a_M M_pipes M_used M_taped M_at M_statements M_hasImage M_isKeeping M_cursor M_nextAt M_nextMost M_rowMany M_refused M_setting M_hole M_pipeAt M_chance M_weight M_tape M_letter M_letterAt M_told M_kept M_then M_row _ S hK hDD hA hE (fun x1_4 x2_5 H locs ls h hP hS hl => ?_) n_3 (0 : Int32) (1 : Int32) _ _ _ h hP hS (lv_sub hl [2, 1, 0] rfl)
  try dsimp only at h
  refine lv_iload_n hx hb dX5_bestNow_36 rfl (lv_at hl 0 rfl) ?_
  exact hret x1_4 () _ _ _ _ rfl h hP hS dX5_bestNow_37
def wpX5_best (post : Int32 → Prop) (M_setting : Nat → Int32) (M_weight : Nat → Int32) : Prop := wpX5_bestNow (fun (r_1 : Int32) => post r_1) M_setting M_weight
set_option maxHeartbeats 4000000 in
set_option maxRecDepth 100000 in
theorem mX5_best (l : Launch) (D : va_G) (cI cJ cC : ClassId) (G : Nat → Nat → Nat) (a_M : Nat → Nat) (sz : Nat) (M_pipes : Int32) (M_used : Int32) (M_taped : Int32) (M_at : Int32) (M_statements : Int32) (M_hasImage : Int32) (M_isKeeping : Int32) (M_cursor : Int32) (M_nextAt : Int32) (M_nextMost : Int64) (M_rowMany : Int32) (M_refused : Nat → Int32) (M_setting : Nat → Int32) (M_hole : Nat → Int32) (M_pipeAt : Nat → Int32) (M_chance : Nat → Int32) (M_weight : Nat → Int32) (M_tape : Nat → Int32) (M_letter : Nat → Int32) (M_letterAt : Nat → Int32) (M_told : Nat → Int32) (M_kept : Nat → Int32) (M_then : Nat → Int64) (M_row : Nat → Int32) (post : Int32 → Prop) (h : wpX5_best post M_setting M_weight) : Met l yX5_best (wz yX5_best cX5_best 1 (some .int)) ({ frames := 6, cells := 0, slots := 0, locals := 134 }) (va_Pc [.ref (a_M 0)] (PW D (tz cI cJ cC) G ((bX5 cI cJ cC a_M M_pipes M_used M_taped M_at M_statements M_hasImage M_isKeeping M_cursor M_nextAt M_nextMost M_rowMany M_refused M_setting M_hole M_pipeAt M_chance M_weight M_tape M_letter M_letterAt M_told M_kept M_then M_row)) sz)) (va_Qi (fun (r : Int32) (u : Unit) => post r ) (fun (u : Unit) t => va_P D vwCl ((bX5 cI cJ cC a_M M_pipes M_used M_taped M_at M_statements M_hasImage M_isKeeping M_cursor M_nextAt M_nextMost M_rowMany M_refused M_setting M_hole M_pipeAt M_chance M_weight M_tape M_letter M_letterAt M_told M_kept M_then M_row)) t.heap) (va_A ((bX5 cI cJ cC a_M M_pipes M_used M_taped M_at M_statements M_hasImage M_isKeeping M_cursor M_nextAt M_nextMost M_rowMany M_refused M_setting M_hole M_pipeAt M_chance M_weight M_tape M_letter M_letterAt M_told M_kept M_then M_row)) sz)) 0 0 (va_A ((bX5 cI cJ cC a_M M_pipes M_used M_taped M_at M_statements M_hasImage M_isKeeping M_cursor M_nextAt M_nextMost M_rowMany M_refused M_setting M_hole M_pipeAt M_chance M_weight M_tape M_letter M_letterAt M_told M_kept M_then M_row)) sz) := by
  refine zmi (gw := fun (u : Unit) => (bX5 cI cJ cC a_M M_pipes M_used M_taped M_at M_statements M_hasImage M_isKeeping M_cursor M_nextAt M_nextMost M_rowMany M_refused M_setting M_hole M_pipeAt M_chance M_weight M_tape M_letter M_letterAt M_told M_kept M_then M_row)) (plainFor_of_name (by decide)) (Nat.le_of_ble_eq_true rfl) ?_
  intro p e s m below meth c A Q ls S hK hD hA hE hP hl hret
  obtain ⟨hx, hb, hml, hown, ht⟩ := id S
  have hS : va_S A s.heap s.heap [] := va_S.rf
  have hDD : ∀ ws : va_W, ws.map (fun q => q.1) = [a_M 0, a_M 1, a_M 2, a_M 3, a_M 4, a_M 5, a_M 6, a_M 7, a_M 8, a_M 9, a_M 10, a_M 11, a_M 12, a_M 13] → va_D A ws := fun ws hw => zD hD (hw.trans rfl)
  have hl : lv_has ls 1 [(0, .ref (a_M 0))] := hl
  unfold wpX5_best at h
  refine lv_aload_n hx hb dX5_best_0 rfl (lv_at hl 0 rfl) ?_
  refine zci hA (hDD _ rfl) hS (zrunV (As := []) (rest := []) S hK hA hE hP (hDD _ rfl) hS (mX5_bestNow l D cI cJ cC G a_M _ M_pipes M_used M_taped M_at M_statements M_hasImage M_isKeeping M_cursor M_nextAt M_nextMost M_rowMany M_refused M_setting M_hole M_pipeAt M_chance M_weight M_tape M_letter M_letterAt M_told M_kept M_then M_row _ h) kX5_bestNow ml_X5_224 ⟨rfl, rfl, by decide, by decide⟩ (q0 := 0) (ci := 5) rfl rfl rfl rfl hl.1 rfl (Nat.le_of_ble_eq_true rfl) dX5_best_1 ⟨Nat.zero_le _, Nat.zero_le _⟩) (fun r_1 u H locs h hP1 hk1 hS => ?_)
  try dsimp only at h
  have hP : va_P D vwCl ((bX5 cI cJ cC a_M M_pipes M_used M_taped M_at M_statements M_hasImage M_isKeeping M_cursor M_nextAt M_nextMost M_rowMany M_refused M_setting M_hole M_pipeAt M_chance M_weight M_tape M_letter M_letterAt M_told M_kept M_then M_row)) H := hP1
  exact hret r_1 () _ _ _ _ rfl h hP hS dX5_best_4
def wpX5_safeAt (post : Int64 → Prop) (M_pipes : Int32) (M_setting : Nat → Int32) (M_pipeAt : Nat → Int32) (M_chance : Nat → Int32) (M_weight : Nat → Int32) (p1 : Int32) : Prop := wpX5_woodAt (fun (r_1 : Int64) => wpX5_chancesAt (fun (r_2 : Int32) => post (r_1 * (((10 : Int32) - r_2).toInt64))) M_pipes M_pipeAt M_chance p1) M_setting M_weight p1
set_option maxHeartbeats 4000000 in
set_option maxRecDepth 100000 in
theorem mX5_safeAt (l : Launch) (D : va_G) (cI cJ cC : ClassId) (G : Nat → Nat → Nat) (a_M : Nat → Nat) (sz : Nat) (M_pipes : Int32) (M_used : Int32) (M_taped : Int32) (M_at : Int32) (M_statements : Int32) (M_hasImage : Int32) (M_isKeeping : Int32) (M_cursor : Int32) (M_nextAt : Int32) (M_nextMost : Int64) (M_rowMany : Int32) (M_refused : Nat → Int32) (M_setting : Nat → Int32) (M_hole : Nat → Int32) (M_pipeAt : Nat → Int32) (M_chance : Nat → Int32) (M_weight : Nat → Int32) (M_tape : Nat → Int32) (M_letter : Nat → Int32) (M_letterAt : Nat → Int32) (M_told : Nat → Int32) (M_kept : Nat → Int32) (M_then : Nat → Int64) (M_row : Nat → Int32) (p1 : Int32) (post : Int64 → Prop) (h : wpX5_safeAt post M_pipes M_setting M_pipeAt M_chance M_weight p1) : Met l yX5_safeAt (wz yX5_safeAt cX5_safeAt 2 (some .long)) ({ frames := 5, cells := 0, slots := 0, locals := 112 }) (va_Pc [.ref (a_M 0), .int p1] (PW D (tz cI cJ cC) G ((bX5 cI cJ cC a_M M_pipes M_used M_taped M_at M_statements M_hasImage M_isKeeping M_cursor M_nextAt M_nextMost M_rowMany M_refused M_setting M_hole M_pipeAt M_chance M_weight M_tape M_letter M_letterAt M_told M_kept M_then M_row)) sz)) (va_Ql (fun (r : Int64) (u : Unit) => post r ) (fun (u : Unit) t => va_P D vwCl ((bX5 cI cJ cC a_M M_pipes M_used M_taped M_at M_statements M_hasImage M_isKeeping M_cursor M_nextAt M_nextMost M_rowMany M_refused M_setting M_hole M_pipeAt M_chance M_weight M_tape M_letter M_letterAt M_told M_kept M_then M_row)) t.heap) (va_A ((bX5 cI cJ cC a_M M_pipes M_used M_taped M_at M_statements M_hasImage M_isKeeping M_cursor M_nextAt M_nextMost M_rowMany M_refused M_setting M_hole M_pipeAt M_chance M_weight M_tape M_letter M_letterAt M_told M_kept M_then M_row)) sz)) 0 0 (va_A ((bX5 cI cJ cC a_M M_pipes M_used M_taped M_at M_statements M_hasImage M_isKeeping M_cursor M_nextAt M_nextMost M_rowMany M_refused M_setting M_hole M_pipeAt M_chance M_weight M_tape M_letter M_letterAt M_told M_kept M_then M_row)) sz) := by
  refine zml (gw := fun (u : Unit) => (bX5 cI cJ cC a_M M_pipes M_used M_taped M_at M_statements M_hasImage M_isKeeping M_cursor M_nextAt M_nextMost M_rowMany M_refused M_setting M_hole M_pipeAt M_chance M_weight M_tape M_letter M_letterAt M_told M_kept M_then M_row)) (plainFor_of_name (by decide)) (Nat.le_of_ble_eq_true rfl) ?_
  intro p e s m below meth c A Q ls S hK hD hA hE hP hl hret
  obtain ⟨hx, hb, hml, hown, ht⟩ := id S
  have hS : va_S A s.heap s.heap [] := va_S.rf
  have hDD : ∀ ws : va_W, ws.map (fun q => q.1) = [a_M 0, a_M 1, a_M 2, a_M 3, a_M 4, a_M 5, a_M 6, a_M 7, a_M 8, a_M 9, a_M 10, a_M 11, a_M 12, a_M 13] → va_D A ws := fun ws hw => zD hD (hw.trans rfl)
  have hl : lv_has ls 2 [(0, .ref (a_M 0)), (1, .int p1)] := hl
  unfold wpX5_safeAt at h
  refine lv_aload_n hx hb dX5_safeAt_0 rfl (lv_at hl 0 rfl) ?_
  refine lv_iload_n hx hb dX5_safeAt_1 rfl (lv_at hl 1 rfl) ?_
  refine zcl hA (hDD _ rfl) hS (zrunV (As := [.int p1]) (rest := []) S hK hA hE hP (hDD _ rfl) hS (mX5_woodAt l D cI cJ cC G a_M _ M_pipes M_used M_taped M_at M_statements M_hasImage M_isKeeping M_cursor M_nextAt M_nextMost M_rowMany M_refused M_setting M_hole M_pipeAt M_chance M_weight M_tape M_letter M_letterAt M_told M_kept M_then M_row p1 _ h) kX5_woodAt ml_X5_213 ⟨rfl, rfl, by decide, by decide⟩ (q0 := 0) (ci := 5) rfl rfl rfl rfl hl.1 rfl (Nat.le_of_ble_eq_true rfl) dX5_safeAt_2 ⟨Nat.zero_le _, Nat.zero_le _⟩) (fun r_1 u H locs h hP1 hk1 hS => ?_)
  try dsimp only at h
  have hP : va_P D vwCl ((bX5 cI cJ cC a_M M_pipes M_used M_taped M_at M_statements M_hasImage M_isKeeping M_cursor M_nextAt M_nextMost M_rowMany M_refused M_setting M_hole M_pipeAt M_chance M_weight M_tape M_letter M_letterAt M_told M_kept M_then M_row)) H := hP1
  refine lv_bipush (v := (10 : Int32)) hx hb dX5_safeAt_5 (by decide) ?_
  refine lv_aload_n hx hb dX5_safeAt_7 rfl (lv_at hl 0 rfl) ?_
  refine lv_iload_n hx hb dX5_safeAt_8 rfl (lv_at hl 1 rfl) ?_
  refine zci hA (hDD _ rfl) hS (zrunV (As := [.int p1]) (rest := [.int (10 : Int32), .long r_1]) S hK hA hE hP (hDD _ rfl) hS (mX5_chancesAt l D cI cJ cC G a_M _ M_pipes M_used M_taped M_at M_statements M_hasImage M_isKeeping M_cursor M_nextAt M_nextMost M_rowMany M_refused M_setting M_hole M_pipeAt M_chance M_weight M_tape M_letter M_letterAt M_told M_kept M_then M_row p1 _ h) kX5_chancesAt ml_X5_207 ⟨rfl, rfl, by decide, by decide⟩ (q0 := 0) (ci := 5) rfl rfl rfl rfl hl.1 rfl (Nat.le_of_ble_eq_true rfl) dX5_safeAt_9 ⟨Nat.zero_le _, Nat.zero_le _⟩) (fun r_2 u H locs h hP1 hk1 hS => ?_)
  try dsimp only at h
  have hP : va_P D vwCl ((bX5 cI cJ cC a_M M_pipes M_used M_taped M_at M_statements M_hasImage M_isKeeping M_cursor M_nextAt M_nextMost M_rowMany M_refused M_setting M_hole M_pipeAt M_chance M_weight M_tape M_letter M_letterAt M_told M_kept M_then M_row)) H := hP1
  refine lv_isub hx hb dX5_safeAt_12 ?_
  refine lv_i2l hx hb dX5_safeAt_13 rfl ?_
  refine lv_lmul hx hb dX5_safeAt_14 ?_
  exact hret (r_1 * (((10 : Int32) - r_2).toInt64)) () _ _ _ _ h hP hS dX5_safeAt_15
def lpX5_safest_4 (K : Int32 → Int32 → Prop) (M_pipes : Int32) (M_setting : Nat → Int32) (M_pipeAt : Nat → Int32) (M_chance : Nat → Int32) (M_weight : Nat → Int32) : Nat → Int32 → Int32 → Prop
  | 0, _, _ => False
  | n + 1, x1, x2 => (((48 : Int32) ≤ x2 → (K x1 x2)) ∧ (¬ ((48 : Int32) ≤ x2) → (wpX5_safeAt (fun (r_1 : Int64) => wpX5_safeAt (fun (r_2 : Int64) => ((r_1 ≤ r_2 → (lpX5_safest_4 K M_pipes M_setting M_pipeAt M_chance M_weight n x1 (x2 + (1 : Int32)))) ∧ (¬ (r_1 ≤ r_2) → (lpX5_safest_4 K M_pipes M_setting M_pipeAt M_chance M_weight n x2 (x2 + (1 : Int32)))))) M_pipes M_setting M_pipeAt M_chance M_weight x1) M_pipes M_setting M_pipeAt M_chance M_weight x2)))
set_option maxHeartbeats 4000000 in
set_option maxRecDepth 100000 in
theorem wX5_safest_4 (l : Launch) (D : va_G) (cI cJ cC : ClassId) (G : Nat → Nat → Nat) (a_M : Nat → Nat) {p : Program} {e : Env} {s : State} {m : MethodId} {below : List Frame} {meth : Method} {c : Code} {A : Nat → Prop} {Q : State → Prop} (M_pipes : Int32) (M_used : Int32) (M_taped : Int32) (M_at : Int32) (M_statements : Int32) (M_hasImage : Int32) (M_isKeeping : Int32) (M_cursor : Int32) (M_nextAt : Int32) (M_nextMost : Int64) (M_rowMany : Int32) (M_refused : Nat → Int32) (M_setting : Nat → Int32) (M_hole : Nat → Int32) (M_pipeAt : Nat → Int32) (M_chance : Nat → Int32) (M_weight : Nat → Int32) (M_tape : Nat → Int32) (M_letter : Nat → Int32) (M_letterAt : Nat → Int32) (M_told : Nat → Int32) (M_kept : Nat → Int32) (M_then : Nat → Int64) (M_row : Nat → Int32) (K : Int32 → Int32 → Prop) (S : CallFix p m c cX5_safest 3 s ([.ref (a_M 0)] : List Value).toArray bg RX5) (hK : va_K D vwCl (tz cI cJ cC) s) (hDD : ∀ ws : va_W, ws.map (fun q => q.1) = [a_M 0, a_M 1, a_M 2, a_M 3, a_M 4, a_M 5, a_M 6, a_M 7, a_M 8, a_M 9, a_M 10, a_M 11, a_M 12, a_M 13] → va_D A ws) (hA : ∀ q, s.heap.size ≤ q → A q) (hE : EV G A s) (hKK : ∀ (x1 : Int32) (x2 : Int32) (H : Heap) (locs : List Loc) (ls : Array Slot), K x1 x2 → va_P D vwCl ((bX5 cI cJ cC a_M M_pipes M_used M_taped M_at M_statements M_hasImage M_isKeeping M_cursor M_nextAt M_nextMost M_rowMany M_refused M_setting M_hole M_pipeAt M_chance M_weight M_tape M_letter M_letterAt M_told M_kept M_then M_row)) H → va_S A s.heap H locs → lv_has ls 3 [(1, .int x1)] → W p l e ({ frames := 6, cells := 0, slots := 0, locals := 133 }) s m ([.ref (a_M 0)] : List Value).toArray below meth c H locs 0 0 Q (F0 m 36 ls [])) :
    ∀ (n : Nat) (x1 : Int32) (x2 : Int32) (H : Heap) (locs : List Loc) (ls : Array Slot), lpX5_safest_4 K M_pipes M_setting M_pipeAt M_chance M_weight n x1 x2 → va_P D vwCl ((bX5 cI cJ cC a_M M_pipes M_used M_taped M_at M_statements M_hasImage M_isKeeping M_cursor M_nextAt M_nextMost M_rowMany M_refused M_setting M_hole M_pipeAt M_chance M_weight M_tape M_letter M_letterAt M_told M_kept M_then M_row)) H → va_S A s.heap H locs → lv_has ls 3 [(0, .ref (a_M 0)), (1, .int x1), (2, .int x2)] → W p l e ({ frames := 6, cells := 0, slots := 0, locals := 133 }) s m ([.ref (a_M 0)] : List Value).toArray below meth c H locs 0 0 Q (F0 m 4 ls []) := by
  obtain ⟨hx, hb, hml, hown, ht⟩ := id S
  intro n
  induction n with
  | zero =>
    intro x1 x2 H locs ls h
    exact absurd h (by simp [lpX5_safest_4])
  | succ n ih =>
    intro x1 x2 H locs ls h hP hS hl
    rw [lpX5_safest_4] at h
    refine lv_iload_n hx hb dX5_safest_4 rfl (lv_at hl 2 rfl) ?_
    refine lv_bipush (v := (48 : Int32)) hx hb dX5_safest_5 (by decide) ?_
    refine lv_icmp_ge (tgt := 36) hx hb dX5_safest_7 (by decide) (fun z => ?_) (fun z => ?_)
    · replace h := h.1 z
      exact hKK x1 x2 _ _ _ h hP hS (lv_sub hl [1] rfl)
    · replace h := h.2 z
      refine lv_aload_n hx hb dX5_safest_10 rfl (lv_at hl 0 rfl) ?_
      refine lv_iload_n hx hb dX5_safest_11 rfl (lv_at hl 2 rfl) ?_
      refine zcl hA (hDD _ rfl) hS (zrunV (As := [.int x2]) (rest := []) S hK hA hE hP (hDD _ rfl) hS (mX5_safeAt l D cI cJ cC G a_M _ M_pipes M_used M_taped M_at M_statements M_hasImage M_isKeeping M_cursor M_nextAt M_nextMost M_rowMany M_refused M_setting M_hole M_pipeAt M_chance M_weight M_tape M_letter M_letterAt M_told M_kept M_then M_row x2 _ h) kX5_safeAt ml_X5_227 ⟨rfl, rfl, by decide, by decide⟩ (q0 := 0) (ci := 5) rfl rfl rfl rfl hl.1 rfl (Nat.le_of_ble_eq_true rfl) dX5_safest_12 ⟨Nat.zero_le _, Nat.zero_le _⟩) (fun r_1 u H locs h hP1 hk1 hS => ?_)
      try dsimp only at h
      have hP : va_P D vwCl ((bX5 cI cJ cC a_M M_pipes M_used M_taped M_at M_statements M_hasImage M_isKeeping M_cursor M_nextAt M_nextMost M_rowMany M_refused M_setting M_hole M_pipeAt M_chance M_weight M_tape M_letter M_letterAt M_told M_kept M_then M_row)) H := hP1
      refine lv_aload_n hx hb dX5_safest_15 rfl (lv_at hl 0 rfl) ?_
      refine lv_iload_n hx hb dX5_safest_16 rfl (lv_at hl 1 rfl) ?_
      refine zcl hA (hDD _ rfl) hS (zrunV (As := [.int x1]) (rest := [.long r_1]) S hK hA hE hP (hDD _ rfl) hS (mX5_safeAt l D cI cJ cC G a_M _ M_pipes M_used M_taped M_at M_statements M_hasImage M_isKeeping M_cursor M_nextAt M_nextMost M_rowMany M_refused M_setting M_hole M_pipeAt M_chance M_weight M_tape M_letter M_letterAt M_told M_kept M_then M_row x1 _ h) kX5_safeAt ml_X5_227 ⟨rfl, rfl, by decide, by decide⟩ (q0 := 0) (ci := 5) rfl rfl rfl rfl hl.1 rfl (Nat.le_of_ble_eq_true rfl) dX5_safest_17 ⟨Nat.zero_le _, Nat.zero_le _⟩) (fun r_2 u H locs h hP1 hk1 hS => ?_)
      try dsimp only at h
      have hP : va_P D vwCl ((bX5 cI cJ cC a_M M_pipes M_used M_taped M_at M_statements M_hasImage M_isKeeping M_cursor M_nextAt M_nextMost M_rowMany M_refused M_setting M_hole M_pipeAt M_chance M_weight M_tape M_letter M_letterAt M_told M_kept M_then M_row)) H := hP1
      refine W.lcmp hx hb dX5_safest_20 ?_
      refine lv_if_le (tgt := 28) hx hb dX5_safest_21 (by decide) (fun z => ?_) (fun z => ?_)
      · replace h := h.1 (zl_le.mp z)
        refine lv_iload_n hx hb dX5_safest_28 rfl (lv_at hl 1 rfl) ?_
        refine lv_istore_n (lv' := [(1, .int x1), (0, .ref (a_M 0)), (2, .int x2)]) hx hb dX5_safest_29 rfl hl (by decide) rfl (fun ls hl => ?_)
        refine lv_iinc (v := x2 + (1 : Int32)) (lv' := [(2, .int (x2 + (1 : Int32))), (1, .int x1), (0, .ref (a_M 0))]) hx hb dX5_safest_30 hl (k := 2) rfl (by rfl) (by decide) rfl (fun ls hl => ?_)
        refine lv_goto (tgt := 4) hx hb dX5_safest_33 (by decide) ?_
        exact ih x1 (x2 + (1 : Int32)) _ _ _ h hP hS (lv_sub hl [2, 1, 0] rfl)
      · replace h := h.2 (fun q => z (zl_le.mpr q))
        refine lv_iload_n hx hb dX5_safest_24 rfl (lv_at hl 2 rfl) ?_
        refine lv_goto (tgt := 29) hx hb dX5_safest_25 (by decide) ?_
        refine lv_istore_n (lv' := [(1, .int x2), (0, .ref (a_M 0)), (2, .int x2)]) hx hb dX5_safest_29 rfl hl (by decide) rfl (fun ls hl => ?_)
        refine lv_iinc (v := x2 + (1 : Int32)) (lv' := [(2, .int (x2 + (1 : Int32))), (1, .int x2), (0, .ref (a_M 0))]) hx hb dX5_safest_30 hl (k := 2) rfl (by rfl) (by decide) rfl (fun ls hl => ?_)
        refine lv_goto (tgt := 4) hx hb dX5_safest_33 (by decide) ?_
        exact ih x2 (x2 + (1 : Int32)) _ _ _ h hP hS (lv_sub hl [2, 1, 0] rfl)
def wpX5_safest (post : Int32 → Prop) (M_pipes : Int32) (M_setting : Nat → Int32) (M_pipeAt : Nat → Int32) (M_chance : Nat → Int32) (M_weight : Nat → Int32) : Prop := ∃ n_3 : Nat, lpX5_safest_4 (fun (x1_4 : Int32) (x2_5 : Int32) => post x1_4) M_pipes M_setting M_pipeAt M_chance M_weight n_3 (0 : Int32) (1 : Int32)
set_option maxHeartbeats 4000000 in
set_option maxRecDepth 100000 in
theorem mX5_safest (l : Launch) (D : va_G) (cI cJ cC : ClassId) (G : Nat → Nat → Nat) (a_M : Nat → Nat) (sz : Nat) (M_pipes : Int32) (M_used : Int32) (M_taped : Int32) (M_at : Int32) (M_statements : Int32) (M_hasImage : Int32) (M_isKeeping : Int32) (M_cursor : Int32) (M_nextAt : Int32) (M_nextMost : Int64) (M_rowMany : Int32) (M_refused : Nat → Int32) (M_setting : Nat → Int32) (M_hole : Nat → Int32) (M_pipeAt : Nat → Int32) (M_chance : Nat → Int32) (M_weight : Nat → Int32) (M_tape : Nat → Int32) (M_letter : Nat → Int32) (M_letterAt : Nat → Int32) (M_told : Nat → Int32) (M_kept : Nat → Int32) (M_then : Nat → Int64) (M_row : Nat → Int32) (post : Int32 → Prop) (h : wpX5_safest post M_pipes M_setting M_pipeAt M_chance M_weight) : Met l yX5_safest (wz yX5_safest cX5_safest 3 (some .int)) ({ frames := 6, cells := 0, slots := 0, locals := 133 }) (va_Pc [.ref (a_M 0)] (PW D (tz cI cJ cC) G ((bX5 cI cJ cC a_M M_pipes M_used M_taped M_at M_statements M_hasImage M_isKeeping M_cursor M_nextAt M_nextMost M_rowMany M_refused M_setting M_hole M_pipeAt M_chance M_weight M_tape M_letter M_letterAt M_told M_kept M_then M_row)) sz)) (va_Qi (fun (r : Int32) (u : Unit) => post r ) (fun (u : Unit) t => va_P D vwCl ((bX5 cI cJ cC a_M M_pipes M_used M_taped M_at M_statements M_hasImage M_isKeeping M_cursor M_nextAt M_nextMost M_rowMany M_refused M_setting M_hole M_pipeAt M_chance M_weight M_tape M_letter M_letterAt M_told M_kept M_then M_row)) t.heap) (va_A ((bX5 cI cJ cC a_M M_pipes M_used M_taped M_at M_statements M_hasImage M_isKeeping M_cursor M_nextAt M_nextMost M_rowMany M_refused M_setting M_hole M_pipeAt M_chance M_weight M_tape M_letter M_letterAt M_told M_kept M_then M_row)) sz)) 0 0 (va_A ((bX5 cI cJ cC a_M M_pipes M_used M_taped M_at M_statements M_hasImage M_isKeeping M_cursor M_nextAt M_nextMost M_rowMany M_refused M_setting M_hole M_pipeAt M_chance M_weight M_tape M_letter M_letterAt M_told M_kept M_then M_row)) sz) := by
  refine zmi (gw := fun (u : Unit) => (bX5 cI cJ cC a_M M_pipes M_used M_taped M_at M_statements M_hasImage M_isKeeping M_cursor M_nextAt M_nextMost M_rowMany M_refused M_setting M_hole M_pipeAt M_chance M_weight M_tape M_letter M_letterAt M_told M_kept M_then M_row)) (plainFor_of_name (by decide)) (Nat.le_of_ble_eq_true rfl) ?_
  intro p e s m below meth c A Q ls S hK hD hA hE hP hl hret
  obtain ⟨hx, hb, hml, hown, ht⟩ := id S
  have hS : va_S A s.heap s.heap [] := va_S.rf
  have hDD : ∀ ws : va_W, ws.map (fun q => q.1) = [a_M 0, a_M 1, a_M 2, a_M 3, a_M 4, a_M 5, a_M 6, a_M 7, a_M 8, a_M 9, a_M 10, a_M 11, a_M 12, a_M 13] → va_D A ws := fun ws hw => zD hD (hw.trans rfl)
  have hl : lv_has ls 3 [(0, .ref (a_M 0))] := hl
  unfold wpX5_safest at h
  refine lv_iconst (v := (0 : Int32)) hx hb dX5_safest_0 (by decide) ?_
  refine lv_istore_n (lv' := [(1, .int (0 : Int32)), (0, .ref (a_M 0))]) hx hb dX5_safest_1 rfl hl (by decide) rfl (fun ls hl => ?_)
  refine lv_iconst (v := (1 : Int32)) hx hb dX5_safest_2 (by decide) ?_
  refine lv_istore_n (lv' := [(2, .int (1 : Int32)), (1, .int (0 : Int32)), (0, .ref (a_M 0))]) hx hb dX5_safest_3 rfl hl (by decide) rfl (fun ls hl => ?_)
  obtain ⟨n_3, h⟩ := h
  refine wX5_safest_4 l D cI cJ cC G a_M M_pipes M_used M_taped M_at M_statements M_hasImage M_isKeeping M_cursor M_nextAt M_nextMost M_rowMany M_refused M_setting M_hole M_pipeAt M_chance M_weight M_tape M_letter M_letterAt M_told M_kept M_then M_row _ S hK hDD hA hE (fun x1_4 x2_5 H locs ls h hP hS hl => ?_) n_3 (0 : Int32) (1 : Int32) _ _ _ h hP hS (lv_sub hl [2, 1, 0] rfl)
  try dsimp only at h
  refine lv_iload_n hx hb dX5_safest_36 rfl (lv_at hl 0 rfl) ?_
  exact hret x1_4 () _ _ _ _ rfl h hP hS dX5_safest_37
def lpX5_holesBy_2 (post : Int32 → Prop) (K : Int32 → Prop) (x1 : Int32) (x2 : Int32) (M_setting : Nat → Int32) : Nat → Int32 → Prop
  | 0, _ => False
  | n + 1, x3 => (((48 : Int32) ≤ x3 → (K x3)) ∧ (¬ ((48 : Int32) ≤ x3) → (wpX5_isWood (fun (r_1 : Int32) => ((r_1 = (0 : Int32) → (lpX5_holesBy_2 post K x1 x2 M_setting n (x3 + (1 : Int32)))) ∧ (¬ (r_1 = (0 : Int32)) → (post (x3 + (1 : Int32)))))) M_setting ((x1 + (x3 * (M_setting 1))) - (x1 + (x3 * (M_setting 1))) / (48 : Int32) * (48 : Int32)) x2)))
set_option maxHeartbeats 4000000 in
set_option maxRecDepth 100000 in
theorem wX5_holesBy_2 (l : Launch) (D : va_G) (cI cJ cC : ClassId) (G : Nat → Nat → Nat) (a_M : Nat → Nat) {p : Program} {e : Env} {s : State} {m : MethodId} {below : List Frame} {meth : Method} {c : Code} {A : Nat → Prop} {Q : State → Prop} (p1 : Int32) (p2 : Int32) (x1 : Int32) (x2 : Int32) (M_pipes : Int32) (M_used : Int32) (M_taped : Int32) (M_at : Int32) (M_statements : Int32) (M_hasImage : Int32) (M_isKeeping : Int32) (M_cursor : Int32) (M_nextAt : Int32) (M_nextMost : Int64) (M_rowMany : Int32) (M_refused : Nat → Int32) (M_setting : Nat → Int32) (M_hole : Nat → Int32) (M_pipeAt : Nat → Int32) (M_chance : Nat → Int32) (M_weight : Nat → Int32) (M_tape : Nat → Int32) (M_letter : Nat → Int32) (M_letterAt : Nat → Int32) (M_told : Nat → Int32) (M_kept : Nat → Int32) (M_then : Nat → Int64) (M_row : Nat → Int32) (post : Int32 → Prop) (K : Int32 → Prop) (S : CallFix p m c cX5_holesBy 4 s ([.ref (a_M 0), .int p1, .int p2] : List Value).toArray bg RX5) (hK : va_K D vwCl (tz cI cJ cC) s) (hDD : ∀ ws : va_W, ws.map (fun q => q.1) = [a_M 0, a_M 1, a_M 2, a_M 3, a_M 4, a_M 5, a_M 6, a_M 7, a_M 8, a_M 9, a_M 10, a_M 11, a_M 12, a_M 13] → va_D A ws) (hA : ∀ q, s.heap.size ≤ q → A q) (hE : EV G A s) (hret : ∀ (r : Int32) (u : Unit) (H : Heap) (locs : List Loc) (ls : Array Slot) (pc : Nat), narrow .int (.int r) = .int r → post r  → va_P D vwCl ((bX5 cI cJ cC a_M M_pipes M_used M_taped M_at M_statements M_hasImage M_isKeeping M_cursor M_nextAt M_nextMost M_rowMany M_refused M_setting M_hole M_pipeAt M_chance M_weight M_tape M_letter M_letterAt M_told M_kept M_then M_row)) H → va_S A s.heap H locs → decode cX5_holesBy pc = .ok (.ireturn, 1) → W p l e ({ frames := 4, cells := 0, slots := 0, locals := 88 }) s m ([.ref (a_M 0), .int p1, .int p2] : List Value).toArray below meth c H locs 0 0 Q (F0 m pc ls [.int r])) (hKK : ∀ (x3 : Int32) (H : Heap) (locs : List Loc) (ls : Array Slot), K x3 → va_P D vwCl ((bX5 cI cJ cC a_M M_pipes M_used M_taped M_at M_statements M_hasImage M_isKeeping M_cursor M_nextAt M_nextMost M_rowMany M_refused M_setting M_hole M_pipeAt M_chance M_weight M_tape M_letter M_letterAt M_told M_kept M_then M_row)) H → va_S A s.heap H locs → lv_has ls 4 [] → W p l e ({ frames := 4, cells := 0, slots := 0, locals := 88 }) s m ([.ref (a_M 0), .int p1, .int p2] : List Value).toArray below meth c H locs 0 0 Q (F0 m 39 ls [])) :
    ∀ (n : Nat) (x3 : Int32) (H : Heap) (locs : List Loc) (ls : Array Slot), lpX5_holesBy_2 post K x1 x2 M_setting n x3 → va_P D vwCl ((bX5 cI cJ cC a_M M_pipes M_used M_taped M_at M_statements M_hasImage M_isKeeping M_cursor M_nextAt M_nextMost M_rowMany M_refused M_setting M_hole M_pipeAt M_chance M_weight M_tape M_letter M_letterAt M_told M_kept M_then M_row)) H → va_S A s.heap H locs → lv_has ls 4 [(0, .ref (a_M 0)), (1, .int x1), (2, .int x2), (3, .int x3)] → W p l e ({ frames := 4, cells := 0, slots := 0, locals := 88 }) s m ([.ref (a_M 0), .int p1, .int p2] : List Value).toArray below meth c H locs 0 0 Q (F0 m 2 ls []) := by
  obtain ⟨hx, hb, hml, hown, ht⟩ := id S
  intro n
  induction n with
  | zero =>
    intro x3 H locs ls h
    exact absurd h (by simp [lpX5_holesBy_2])
  | succ n ih =>
    intro x3 H locs ls h hP hS hl
    rw [lpX5_holesBy_2] at h
    refine lv_iload_n hx hb dX5_holesBy_2 rfl (lv_at hl 3 rfl) ?_
    refine lv_bipush (v := (48 : Int32)) hx hb dX5_holesBy_3 (by decide) ?_
    refine lv_icmp_ge (tgt := 39) hx hb dX5_holesBy_5 (by decide) (fun z => ?_) (fun z => ?_)
    · replace h := h.1 z
      exact hKK x3 _ _ _ h hP hS (lv_sub hl [] rfl)
    · replace h := h.2 z
      refine lv_aload_n hx hb dX5_holesBy_8 rfl (lv_at hl 0 rfl) ?_
      refine lv_iload_n hx hb dX5_holesBy_9 rfl (lv_at hl 1 rfl) ?_
      refine lv_iload_n hx hb dX5_holesBy_10 rfl (lv_at hl 3 rfl) ?_
      refine lv_aload_n hx hb dX5_holesBy_11 rfl (lv_at hl 0 rfl) ?_
      refine va_get (D := D) (ci := 5) (v := .ref (a_M 2)) (C := RX5) (T := TX5) (N := 24) hx hb ht inX5 hown hK hP 0 rfl rfl 1 (by decide) (ht _ fl_X5_13) (fun _ h9 => h9) rfl dX5_holesBy_12 ?_
      refine lv_iconst (v := (1 : Int32)) hx hb dX5_holesBy_15 (by decide) ?_
      refine va_iald hx hb hK hP 2 0 rfl rfl (by unfold vp_in; decide) dX5_holesBy_16 ?_
      refine zti (y := M_setting 1) (by rfl) ?_
      refine lv_imul hx hb dX5_holesBy_17 ?_
      refine lv_iadd hx hb dX5_holesBy_18 ?_
      refine lv_bipush (v := (48 : Int32)) hx hb dX5_holesBy_19 (by decide) ?_
      refine lv_irem hx hb dX5_holesBy_21 (by decide) ?_
      refine lv_iload_n hx hb dX5_holesBy_22 rfl (lv_at hl 2 rfl) ?_
      refine zci hA (hDD _ rfl) hS (zrunV (As := [.int ((x1 + (x3 * (M_setting 1))) - (x1 + (x3 * (M_setting 1))) / (48 : Int32) * (48 : Int32)), .int x2]) (rest := []) S hK hA hE hP (hDD _ rfl) hS (mX5_isWood l D cI cJ cC G a_M _ M_pipes M_used M_taped M_at M_statements M_hasImage M_isKeeping M_cursor M_nextAt M_nextMost M_rowMany M_refused M_setting M_hole M_pipeAt M_chance M_weight M_tape M_letter M_letterAt M_told M_kept M_then M_row ((x1 + (x3 * (M_setting 1))) - (x1 + (x3 * (M_setting 1))) / (48 : Int32) * (48 : Int32)) x2 _ h) kX5_isWood ml_X5_171 ⟨rfl, rfl, by decide, by decide⟩ (q0 := 0) (ci := 5) rfl rfl rfl rfl hl.1 rfl (Nat.le_of_ble_eq_true rfl) dX5_holesBy_23 ⟨Nat.zero_le _, Nat.zero_le _⟩) (fun r_1 u H locs h hP1 hk1 hS => ?_)
      try dsimp only at h
      have hP : va_P D vwCl ((bX5 cI cJ cC a_M M_pipes M_used M_taped M_at M_statements M_hasImage M_isKeeping M_cursor M_nextAt M_nextMost M_rowMany M_refused M_setting M_hole M_pipeAt M_chance M_weight M_tape M_letter M_letterAt M_told M_kept M_then M_row)) H := hP1
      refine lv_if_eq (tgt := 33) hx hb dX5_holesBy_26 (by decide) (fun z => ?_) (fun z => ?_)
      · replace h := h.1 z
        refine lv_iinc (v := x3 + (1 : Int32)) (lv' := [(3, .int (x3 + (1 : Int32))), (0, .ref (a_M 0)), (1, .int x1), (2, .int x2)]) hx hb dX5_holesBy_33 hl (k := 3) rfl (by rfl) (by decide) rfl (fun ls hl => ?_)
        refine lv_goto (tgt := 2) hx hb dX5_holesBy_36 (by decide) ?_
        exact ih (x3 + (1 : Int32)) _ _ _ h hP hS (lv_sub hl [1, 2, 3, 0] rfl)
      · replace h := h.2 z
        refine lv_iload_n hx hb dX5_holesBy_29 rfl (lv_at hl 3 rfl) ?_
        refine lv_iconst (v := (1 : Int32)) hx hb dX5_holesBy_30 (by decide) ?_
        refine lv_iadd hx hb dX5_holesBy_31 ?_
        exact hret (x3 + (1 : Int32)) () _ _ _ _ rfl h hP hS dX5_holesBy_32
def wpX5_holesBy (post : Int32 → Prop) (M_setting : Nat → Int32) (p1 : Int32) (p2 : Int32) : Prop := ∃ n_2 : Nat, lpX5_holesBy_2 post (fun (x3_3 : Int32) => post (-9 : Int32)) p1 p2 M_setting n_2 (0 : Int32)
set_option maxHeartbeats 4000000 in
set_option maxRecDepth 100000 in
theorem mX5_holesBy (l : Launch) (D : va_G) (cI cJ cC : ClassId) (G : Nat → Nat → Nat) (a_M : Nat → Nat) (sz : Nat) (M_pipes : Int32) (M_used : Int32) (M_taped : Int32) (M_at : Int32) (M_statements : Int32) (M_hasImage : Int32) (M_isKeeping : Int32) (M_cursor : Int32) (M_nextAt : Int32) (M_nextMost : Int64) (M_rowMany : Int32) (M_refused : Nat → Int32) (M_setting : Nat → Int32) (M_hole : Nat → Int32) (M_pipeAt : Nat → Int32) (M_chance : Nat → Int32) (M_weight : Nat → Int32) (M_tape : Nat → Int32) (M_letter : Nat → Int32) (M_letterAt : Nat → Int32) (M_told : Nat → Int32) (M_kept : Nat → Int32) (M_then : Nat → Int64) (M_row : Nat → Int32) (p1 : Int32) (p2 : Int32) (post : Int32 → Prop) (h : wpX5_holesBy post M_setting p1 p2) : Met l yX5_holesBy (wz yX5_holesBy cX5_holesBy 4 (some .int)) ({ frames := 4, cells := 0, slots := 0, locals := 88 }) (va_Pc [.ref (a_M 0), .int p1, .int p2] (PW D (tz cI cJ cC) G ((bX5 cI cJ cC a_M M_pipes M_used M_taped M_at M_statements M_hasImage M_isKeeping M_cursor M_nextAt M_nextMost M_rowMany M_refused M_setting M_hole M_pipeAt M_chance M_weight M_tape M_letter M_letterAt M_told M_kept M_then M_row)) sz)) (va_Qi (fun (r : Int32) (u : Unit) => post r ) (fun (u : Unit) t => va_P D vwCl ((bX5 cI cJ cC a_M M_pipes M_used M_taped M_at M_statements M_hasImage M_isKeeping M_cursor M_nextAt M_nextMost M_rowMany M_refused M_setting M_hole M_pipeAt M_chance M_weight M_tape M_letter M_letterAt M_told M_kept M_then M_row)) t.heap) (va_A ((bX5 cI cJ cC a_M M_pipes M_used M_taped M_at M_statements M_hasImage M_isKeeping M_cursor M_nextAt M_nextMost M_rowMany M_refused M_setting M_hole M_pipeAt M_chance M_weight M_tape M_letter M_letterAt M_told M_kept M_then M_row)) sz)) 0 0 (va_A ((bX5 cI cJ cC a_M M_pipes M_used M_taped M_at M_statements M_hasImage M_isKeeping M_cursor M_nextAt M_nextMost M_rowMany M_refused M_setting M_hole M_pipeAt M_chance M_weight M_tape M_letter M_letterAt M_told M_kept M_then M_row)) sz) := by
  refine zmi (gw := fun (u : Unit) => (bX5 cI cJ cC a_M M_pipes M_used M_taped M_at M_statements M_hasImage M_isKeeping M_cursor M_nextAt M_nextMost M_rowMany M_refused M_setting M_hole M_pipeAt M_chance M_weight M_tape M_letter M_letterAt M_told M_kept M_then M_row)) (plainFor_of_name (by decide)) (Nat.le_of_ble_eq_true rfl) ?_
  intro p e s m below meth c A Q ls S hK hD hA hE hP hl hret
  obtain ⟨hx, hb, hml, hown, ht⟩ := id S
  have hS : va_S A s.heap s.heap [] := va_S.rf
  have hDD : ∀ ws : va_W, ws.map (fun q => q.1) = [a_M 0, a_M 1, a_M 2, a_M 3, a_M 4, a_M 5, a_M 6, a_M 7, a_M 8, a_M 9, a_M 10, a_M 11, a_M 12, a_M 13] → va_D A ws := fun ws hw => zD hD (hw.trans rfl)
  have hl : lv_has ls 4 [(0, .ref (a_M 0)), (1, .int p1), (2, .int p2)] := hl
  unfold wpX5_holesBy at h
  refine lv_iconst (v := (0 : Int32)) hx hb dX5_holesBy_0 (by decide) ?_
  refine lv_istore_n (lv' := [(3, .int (0 : Int32)), (0, .ref (a_M 0)), (1, .int p1), (2, .int p2)]) hx hb dX5_holesBy_1 rfl hl (by decide) rfl (fun ls hl => ?_)
  obtain ⟨n_2, h⟩ := h
  refine wX5_holesBy_2 l D cI cJ cC G a_M p1 p2 p1 p2 M_pipes M_used M_taped M_at M_statements M_hasImage M_isKeeping M_cursor M_nextAt M_nextMost M_rowMany M_refused M_setting M_hole M_pipeAt M_chance M_weight M_tape M_letter M_letterAt M_told M_kept M_then M_row post _ S hK hDD hA hE hret (fun x3_3 H locs ls h hP hS hl => ?_) n_2 (0 : Int32) _ _ _ h hP hS (lv_sub hl [1, 2, 3, 0] rfl)
  try dsimp only at h
  refine lv_bipush (v := (-9 : Int32)) hx hb dX5_holesBy_39 (by decide) ?_
  exact hret (-9 : Int32) () _ _ _ _ rfl h hP hS dX5_holesBy_41
def lpX5_holes_17 (post : Int32 → (Nat → Int32) → Prop) (K : Int32 → Int32 → Prop) (x1 : Int32) (M_refused : Nat → Int32) (M_setting : Nat → Int32) (M_weight : Nat → Int32) : Nat → Int32 → Int32 → Prop
  | 0, _, _ => False
  | n + 1, x2, x3 => (((M_setting 0) ≤ x3 → (K x2 x3)) ∧ (¬ ((M_setting 0) ≤ x3) → (vp_in x3 24 ∧ ((((M_weight x3.toNatClampNeg) = (0 : Int32) → ((((0 : Int32) ≤ x2 → (lpX5_holes_17 post K x1 M_refused M_setting M_weight n x2 (x3 + (1 : Int32)))) ∧ (¬ ((0 : Int32) ≤ x2) → (lpX5_holes_17 post K x1 M_refused M_setting M_weight n (0 : Int32) (x3 + (1 : Int32))))))) ∧ (¬ ((M_weight x3.toNatClampNeg) = (0 : Int32)) → (wpX5_holesBy (fun (r_2 : Int32) => (((0 : Int32) ≤ r_2 → (((r_2 ≤ x2 → (lpX5_holes_17 post K x1 M_refused M_setting M_weight n x2 (x3 + (1 : Int32)))) ∧ (¬ (r_2 ≤ x2) → (lpX5_holes_17 post K x1 M_refused M_setting M_weight n r_2 (x3 + (1 : Int32))))))) ∧ (¬ ((0 : Int32) ≤ r_2) → (post (-9 : Int32) M_refused)))) M_setting x1 x3)))))))
set_option maxHeartbeats 4000000 in
set_option maxRecDepth 100000 in
theorem wX5_holes_17 (l : Launch) (D : va_G) (cI cJ cC : ClassId) (G : Nat → Nat → Nat) (a_M : Nat → Nat) {p : Program} {e : Env} {s : State} {m : MethodId} {below : List Frame} {meth : Method} {c : Code} {A : Nat → Prop} {Q : State → Prop} (p1 : Int32) (x1 : Int32) (M_pipes : Int32) (M_used : Int32) (M_taped : Int32) (M_at : Int32) (M_statements : Int32) (M_hasImage : Int32) (M_isKeeping : Int32) (M_cursor : Int32) (M_nextAt : Int32) (M_nextMost : Int64) (M_rowMany : Int32) (M_refused : Nat → Int32) (M_setting : Nat → Int32) (M_hole : Nat → Int32) (M_pipeAt : Nat → Int32) (M_chance : Nat → Int32) (M_weight : Nat → Int32) (M_tape : Nat → Int32) (M_letter : Nat → Int32) (M_letterAt : Nat → Int32) (M_told : Nat → Int32) (M_kept : Nat → Int32) (M_then : Nat → Int64) (M_row : Nat → Int32) (post : Int32 → (Nat → Int32) → Prop) (K : Int32 → Int32 → Prop) (S : CallFix p m c cX5_holes 5 s ([.ref (a_M 0), .int p1] : List Value).toArray bg RX5) (hK : va_K D vwCl (tz cI cJ cC) s) (hDD : ∀ ws : va_W, ws.map (fun q => q.1) = [a_M 0, a_M 1, a_M 2, a_M 3, a_M 4, a_M 5, a_M 6, a_M 7, a_M 8, a_M 9, a_M 10, a_M 11, a_M 12, a_M 13] → va_D A ws) (hA : ∀ q, s.heap.size ≤ q → A q) (hE : EV G A s) (hret : ∀ (r : Int32) (u : (Nat → Int32)) (H : Heap) (locs : List Loc) (ls : Array Slot) (pc : Nat), narrow .int (.int r) = .int r → post r u → va_P D vwCl ((bX5 cI cJ cC a_M M_pipes M_used M_taped M_at M_statements M_hasImage M_isKeeping M_cursor M_nextAt M_nextMost M_rowMany u M_setting M_hole M_pipeAt M_chance M_weight M_tape M_letter M_letterAt M_told M_kept M_then M_row)) H → va_S A s.heap H locs → decode cX5_holes pc = .ok (.ireturn, 1) → W p l e ({ frames := 5, cells := 0, slots := 0, locals := 111 }) s m ([.ref (a_M 0), .int p1] : List Value).toArray below meth c H locs 0 0 Q (F0 m pc ls [.int r])) (hKK : ∀ (x2 : Int32) (x3 : Int32) (H : Heap) (locs : List Loc) (ls : Array Slot), K x2 x3 → va_P D vwCl ((bX5 cI cJ cC a_M M_pipes M_used M_taped M_at M_statements M_hasImage M_isKeeping M_cursor M_nextAt M_nextMost M_rowMany M_refused M_setting M_hole M_pipeAt M_chance M_weight M_tape M_letter M_letterAt M_told M_kept M_then M_row)) H → va_S A s.heap H locs → lv_has ls 5 [(2, .int x2)] → W p l e ({ frames := 5, cells := 0, slots := 0, locals := 111 }) s m ([.ref (a_M 0), .int p1] : List Value).toArray below meth c H locs 0 0 Q (F0 m 75 ls [])) :
    ∀ (n : Nat) (x2 : Int32) (x3 : Int32) (H : Heap) (locs : List Loc) (ls : Array Slot), lpX5_holes_17 post K x1 M_refused M_setting M_weight n x2 x3 → va_P D vwCl ((bX5 cI cJ cC a_M M_pipes M_used M_taped M_at M_statements M_hasImage M_isKeeping M_cursor M_nextAt M_nextMost M_rowMany M_refused M_setting M_hole M_pipeAt M_chance M_weight M_tape M_letter M_letterAt M_told M_kept M_then M_row)) H → va_S A s.heap H locs → lv_has ls 5 [(0, .ref (a_M 0)), (1, .int x1), (2, .int x2), (3, .int x3)] → W p l e ({ frames := 5, cells := 0, slots := 0, locals := 111 }) s m ([.ref (a_M 0), .int p1] : List Value).toArray below meth c H locs 0 0 Q (F0 m 17 ls []) := by
  obtain ⟨hx, hb, hml, hown, ht⟩ := id S
  intro n
  induction n with
  | zero =>
    intro x2 x3 H locs ls h
    exact absurd h (by simp [lpX5_holes_17])
  | succ n ih =>
    intro x2 x3 H locs ls h hP hS hl
    rw [lpX5_holes_17] at h
    refine lv_iload_n hx hb dX5_holes_17 rfl (lv_at hl 3 rfl) ?_
    refine lv_aload_n hx hb dX5_holes_18 rfl (lv_at hl 0 rfl) ?_
    refine va_get (D := D) (ci := 5) (v := .ref (a_M 2)) (C := RX5) (T := TX5) (N := 24) hx hb ht inX5 hown hK hP 0 rfl rfl 1 (by decide) (ht _ fl_X5_13) (fun _ h9 => h9) rfl dX5_holes_19 ?_
    refine lv_iconst (v := (0 : Int32)) hx hb dX5_holes_22 (by decide) ?_
    refine va_iald hx hb hK hP 2 0 rfl rfl (by unfold vp_in; decide) dX5_holes_23 ?_
    refine zti (y := M_setting 0) (by rfl) ?_
    refine lv_icmp_ge (tgt := 75) hx hb dX5_holes_24 (by decide) (fun z => ?_) (fun z => ?_)
    · replace h := h.1 z
      exact hKK x2 x3 _ _ _ h hP hS (lv_sub hl [2] rfl)
    · replace h := h.2 z
      refine lv_aload_n hx hb dX5_holes_27 rfl (lv_at hl 0 rfl) ?_
      refine va_get (D := D) (ci := 5) (v := .ref (a_M 6)) (C := RX5) (T := TX5) (N := 24) hx hb ht inX5 hown hK hP 0 rfl rfl 5 (by decide) (ht _ fl_X5_25) (fun _ h9 => h9) rfl dX5_holes_28 ?_
      refine lv_iload_n hx hb dX5_holes_31 rfl (lv_at hl 3 rfl) ?_
      obtain ⟨hin, h⟩ := h
      refine va_iald hx hb hK hP 6 0 rfl rfl hin dX5_holes_32 ?_
      refine lv_if_ne (tgt := 40) hx hb dX5_holes_33 (by decide) (fun z => ?_) (fun z => ?_)
      · replace h := h.2 z
        refine lv_aload_n hx hb dX5_holes_40 rfl (lv_at hl 0 rfl) ?_
        refine lv_iload_n hx hb dX5_holes_41 rfl (lv_at hl 1 rfl) ?_
        refine lv_iload_n hx hb dX5_holes_42 rfl (lv_at hl 3 rfl) ?_
        refine zci hA (hDD _ rfl) hS (zrunV (As := [.int x1, .int x3]) (rest := []) S hK hA hE hP (hDD _ rfl) hS (mX5_holesBy l D cI cJ cC G a_M _ M_pipes M_used M_taped M_at M_statements M_hasImage M_isKeeping M_cursor M_nextAt M_nextMost M_rowMany M_refused M_setting M_hole M_pipeAt M_chance M_weight M_tape M_letter M_letterAt M_told M_kept M_then M_row x1 x3 _ h) kX5_holesBy ml_X5_230 ⟨rfl, rfl, by decide, by decide⟩ (q0 := 0) (ci := 5) rfl rfl rfl rfl hl.1 rfl (Nat.le_of_ble_eq_true rfl) dX5_holes_43 ⟨Nat.zero_le _, Nat.zero_le _⟩) (fun r_2 u H locs h hP1 hk1 hS => ?_)
        try dsimp only at h
        have hP : va_P D vwCl ((bX5 cI cJ cC a_M M_pipes M_used M_taped M_at M_statements M_hasImage M_isKeeping M_cursor M_nextAt M_nextMost M_rowMany M_refused M_setting M_hole M_pipeAt M_chance M_weight M_tape M_letter M_letterAt M_told M_kept M_then M_row)) H := hP1
        refine lv_istore (lv' := [(4, .int r_2), (0, .ref (a_M 0)), (1, .int x1), (2, .int x2), (3, .int x3)]) hx hb dX5_holes_46 hl (by decide) rfl (fun ls hl => ?_)
        refine lv_iload hx hb dX5_holes_48 (lv_at hl 0 rfl) ?_
        refine lv_if_ge (tgt := 56) hx hb dX5_holes_50 (by decide) (fun z => ?_) (fun z => ?_)
        · replace h := h.1 z
          refine lv_iload hx hb dX5_holes_56 (lv_at hl 0 rfl) ?_
          refine lv_iload_n hx hb dX5_holes_58 rfl (lv_at hl 3 rfl) ?_
          refine lv_icmp_le (tgt := 67) hx hb dX5_holes_59 (by decide) (fun z => ?_) (fun z => ?_)
          · replace h := h.1 z
            refine lv_iload_n hx hb dX5_holes_67 rfl (lv_at hl 3 rfl) ?_
            refine lv_istore_n (lv' := [(2, .int x2), (4, .int r_2), (0, .ref (a_M 0)), (1, .int x1), (3, .int x3)]) hx hb dX5_holes_68 rfl hl (by decide) rfl (fun ls hl => ?_)
            refine lv_iinc (v := x3 + (1 : Int32)) (lv' := [(3, .int (x3 + (1 : Int32))), (2, .int x2), (4, .int r_2), (0, .ref (a_M 0)), (1, .int x1)]) hx hb dX5_holes_69 hl (k := 4) rfl (by rfl) (by decide) rfl (fun ls hl => ?_)
            refine lv_goto (tgt := 17) hx hb dX5_holes_72 (by decide) ?_
            exact ih x2 (x3 + (1 : Int32)) _ _ _ h hP hS (lv_sub hl [3, 4, 1, 0] rfl)
          · replace h := h.2 z
            refine lv_iload hx hb dX5_holes_62 (lv_at hl 0 rfl) ?_
            refine lv_goto (tgt := 68) hx hb dX5_holes_64 (by decide) ?_
            refine lv_istore_n (lv' := [(2, .int r_2), (4, .int r_2), (0, .ref (a_M 0)), (1, .int x1), (3, .int x3)]) hx hb dX5_holes_68 rfl hl (by decide) rfl (fun ls hl => ?_)
            refine lv_iinc (v := x3 + (1 : Int32)) (lv' := [(3, .int (x3 + (1 : Int32))), (2, .int r_2), (4, .int r_2), (0, .ref (a_M 0)), (1, .int x1)]) hx hb dX5_holes_69 hl (k := 4) rfl (by rfl) (by decide) rfl (fun ls hl => ?_)
            refine lv_goto (tgt := 17) hx hb dX5_holes_72 (by decide) ?_
            exact ih r_2 (x3 + (1 : Int32)) _ _ _ h hP hS (lv_sub hl [3, 4, 1, 0] rfl)
        · replace h := h.2 z
          refine lv_bipush (v := (-9 : Int32)) hx hb dX5_holes_53 (by decide) ?_
          exact hret (-9 : Int32) M_refused _ _ _ _ rfl h hP hS dX5_holes_55
      · replace h := h.1 z
        refine lv_iconst (v := (0 : Int32)) hx hb dX5_holes_36 (by decide) ?_
        refine lv_goto (tgt := 46) hx hb dX5_holes_37 (by decide) ?_
        refine lv_istore (lv' := [(4, .int (0 : Int32)), (0, .ref (a_M 0)), (1, .int x1), (2, .int x2), (3, .int x3)]) hx hb dX5_holes_46 hl (by decide) rfl (fun ls hl => ?_)
        refine lv_iload hx hb dX5_holes_48 (lv_at hl 0 rfl) ?_
        refine lv_if_ge (tgt := 56) hx hb dX5_holes_50 (by decide) (fun z => ?_) (fun z => ?_)
        · refine lv_iload hx hb dX5_holes_56 (lv_at hl 0 rfl) ?_
          refine lv_iload_n hx hb dX5_holes_58 rfl (lv_at hl 3 rfl) ?_
          refine lv_icmp_le (tgt := 67) hx hb dX5_holes_59 (by decide) (fun z => ?_) (fun z => ?_)
          · replace h := h.1 z
            refine lv_iload_n hx hb dX5_holes_67 rfl (lv_at hl 3 rfl) ?_
            refine lv_istore_n (lv' := [(2, .int x2), (4, .int (0 : Int32)), (0, .ref (a_M 0)), (1, .int x1), (3, .int x3)]) hx hb dX5_holes_68 rfl hl (by decide) rfl (fun ls hl => ?_)
            refine lv_iinc (v := x3 + (1 : Int32)) (lv' := [(3, .int (x3 + (1 : Int32))), (2, .int x2), (4, .int (0 : Int32)), (0, .ref (a_M 0)), (1, .int x1)]) hx hb dX5_holes_69 hl (k := 4) rfl (by rfl) (by decide) rfl (fun ls hl => ?_)
            refine lv_goto (tgt := 17) hx hb dX5_holes_72 (by decide) ?_
            exact ih x2 (x3 + (1 : Int32)) _ _ _ h hP hS (lv_sub hl [3, 4, 1, 0] rfl)
          · replace h := h.2 z
            refine lv_iload hx hb dX5_holes_62 (lv_at hl 0 rfl) ?_
            refine lv_goto (tgt := 68) hx hb dX5_holes_64 (by decide) ?_
            refine lv_istore_n (lv' := [(2, .int (0 : Int32)), (4, .int (0 : Int32)), (0, .ref (a_M 0)), (1, .int x1), (3, .int x3)]) hx hb dX5_holes_68 rfl hl (by decide) rfl (fun ls hl => ?_)
            refine lv_iinc (v := x3 + (1 : Int32)) (lv' := [(3, .int (x3 + (1 : Int32))), (2, .int (0 : Int32)), (4, .int (0 : Int32)), (0, .ref (a_M 0)), (1, .int x1)]) hx hb dX5_holes_69 hl (k := 4) rfl (by rfl) (by decide) rfl (fun ls hl => ?_)
            refine lv_goto (tgt := 17) hx hb dX5_holes_72 (by decide) ?_
            exact ih (0 : Int32) (x3 + (1 : Int32)) _ _ _ h hP hS (lv_sub hl [3, 4, 1, 0] rfl)
        · exact absurd (by decide) z
def wpX5_holes (post : Int32 → (Nat → Int32) → Prop) (M_refused : Nat → Int32) (M_setting : Nat → Int32) (M_weight : Nat → Int32) (p1 : Int32) : Prop := wpX5_isInch (fun (r_1 : Int32) => ((r_1 = (0 : Int32) → (wpX5_no (fun (r_6 : Int32) (M_refused_7 : Nat → Int32) => post r_6 M_refused_7) M_refused (-1 : Int32))) ∧ (¬ (r_1 = (0 : Int32)) → (∃ n_3 : Nat, lpX5_holes_17 post (fun (x2_4 : Int32) (x3_5 : Int32) => post x2_4 M_refused) p1 M_refused M_setting M_weight n_3 (0 : Int32) (0 : Int32))))) p1
set_option maxHeartbeats 4000000 in
set_option maxRecDepth 100000 in
theorem mX5_holes (l : Launch) (D : va_G) (cI cJ cC : ClassId) (G : Nat → Nat → Nat) (a_M : Nat → Nat) (sz : Nat) (M_pipes : Int32) (M_used : Int32) (M_taped : Int32) (M_at : Int32) (M_statements : Int32) (M_hasImage : Int32) (M_isKeeping : Int32) (M_cursor : Int32) (M_nextAt : Int32) (M_nextMost : Int64) (M_rowMany : Int32) (M_refused : Nat → Int32) (M_setting : Nat → Int32) (M_hole : Nat → Int32) (M_pipeAt : Nat → Int32) (M_chance : Nat → Int32) (M_weight : Nat → Int32) (M_tape : Nat → Int32) (M_letter : Nat → Int32) (M_letterAt : Nat → Int32) (M_told : Nat → Int32) (M_kept : Nat → Int32) (M_then : Nat → Int64) (M_row : Nat → Int32) (p1 : Int32) (post : Int32 → (Nat → Int32) → Prop) (h : wpX5_holes post M_refused M_setting M_weight p1) : Met l yX5_holes (wz yX5_holes cX5_holes 5 (some .int)) ({ frames := 5, cells := 0, slots := 0, locals := 111 }) (va_Pc [.ref (a_M 0), .int p1] (PW D (tz cI cJ cC) G ((bX5 cI cJ cC a_M M_pipes M_used M_taped M_at M_statements M_hasImage M_isKeeping M_cursor M_nextAt M_nextMost M_rowMany M_refused M_setting M_hole M_pipeAt M_chance M_weight M_tape M_letter M_letterAt M_told M_kept M_then M_row)) sz)) (va_Qi (fun (r : Int32) (u : (Nat → Int32)) => post r u) (fun (u : (Nat → Int32)) t => va_P D vwCl ((bX5 cI cJ cC a_M M_pipes M_used M_taped M_at M_statements M_hasImage M_isKeeping M_cursor M_nextAt M_nextMost M_rowMany u M_setting M_hole M_pipeAt M_chance M_weight M_tape M_letter M_letterAt M_told M_kept M_then M_row)) t.heap) (va_A ((bX5 cI cJ cC a_M M_pipes M_used M_taped M_at M_statements M_hasImage M_isKeeping M_cursor M_nextAt M_nextMost M_rowMany M_refused M_setting M_hole M_pipeAt M_chance M_weight M_tape M_letter M_letterAt M_told M_kept M_then M_row)) sz)) 0 0 (va_A ((bX5 cI cJ cC a_M M_pipes M_used M_taped M_at M_statements M_hasImage M_isKeeping M_cursor M_nextAt M_nextMost M_rowMany M_refused M_setting M_hole M_pipeAt M_chance M_weight M_tape M_letter M_letterAt M_told M_kept M_then M_row)) sz) := by
  refine zmi (gw := fun (u : (Nat → Int32)) => (bX5 cI cJ cC a_M M_pipes M_used M_taped M_at M_statements M_hasImage M_isKeeping M_cursor M_nextAt M_nextMost M_rowMany u M_setting M_hole M_pipeAt M_chance M_weight M_tape M_letter M_letterAt M_told M_kept M_then M_row)) (plainFor_of_name (by decide)) (Nat.le_of_ble_eq_true rfl) ?_
  intro p e s m below meth c A Q ls S hK hD hA hE hP hl hret
  obtain ⟨hx, hb, hml, hown, ht⟩ := id S
  have hS : va_S A s.heap s.heap [] := va_S.rf
  have hDD : ∀ ws : va_W, ws.map (fun q => q.1) = [a_M 0, a_M 1, a_M 2, a_M 3, a_M 4, a_M 5, a_M 6, a_M 7, a_M 8, a_M 9, a_M 10, a_M 11, a_M 12, a_M 13] → va_D A ws := fun ws hw => zD hD (hw.trans rfl)
  have hl : lv_has ls 5 [(0, .ref (a_M 0)), (1, .int p1)] := hl
  unfold wpX5_holes at h
  refine lv_iload_n hx hb dX5_holes_0 rfl (lv_at hl 1 rfl) ?_
  refine zci hA zD0 hS (zrunS (As := [.int p1]) (rest := []) S hK hA hE zP0 zD0 hS (mX5_isInch l D cI cJ cC G _ p1 _ h) kX5_isInch ml_X5_113 ⟨rfl, rfl, by decide, by decide⟩ rfl hl.1 rfl (Nat.le_of_ble_eq_true rfl) dX5_holes_1 ⟨Nat.zero_le _, Nat.zero_le _⟩) (fun r_1 u H locs h hP1 hk1 hS => ?_)
  try dsimp only at h
  have hP : va_P D vwCl ((bX5 cI cJ cC a_M M_pipes M_used M_taped M_at M_statements M_hasImage M_isKeeping M_cursor M_nextAt M_nextMost M_rowMany M_refused M_setting M_hole M_pipeAt M_chance M_weight M_tape M_letter M_letterAt M_told M_kept M_then M_row)) H := zKeep hP hk1
  refine lv_if_ne (tgt := 13) hx hb dX5_holes_4 (by decide) (fun z => ?_) (fun z => ?_)
  · replace h := h.2 z
    refine lv_iconst (v := (0 : Int32)) hx hb dX5_holes_13 (by decide) ?_
    refine lv_istore_n (lv' := [(2, .int (0 : Int32)), (0, .ref (a_M 0)), (1, .int p1)]) hx hb dX5_holes_14 rfl hl (by decide) rfl (fun ls hl => ?_)
    refine lv_iconst (v := (0 : Int32)) hx hb dX5_holes_15 (by decide) ?_
    refine lv_istore_n (lv' := [(3, .int (0 : Int32)), (2, .int (0 : Int32)), (0, .ref (a_M 0)), (1, .int p1)]) hx hb dX5_holes_16 rfl hl (by decide) rfl (fun ls hl => ?_)
    obtain ⟨n_3, h⟩ := h
    refine wX5_holes_17 l D cI cJ cC G a_M p1 p1 M_pipes M_used M_taped M_at M_statements M_hasImage M_isKeeping M_cursor M_nextAt M_nextMost M_rowMany M_refused M_setting M_hole M_pipeAt M_chance M_weight M_tape M_letter M_letterAt M_told M_kept M_then M_row post _ S hK hDD hA hE hret (fun x2_4 x3_5 H locs ls h hP hS hl => ?_) n_3 (0 : Int32) (0 : Int32) _ _ _ h hP hS (lv_sub hl [2, 3, 1, 0] rfl)
    try dsimp only at h
    refine lv_iload_n hx hb dX5_holes_75 rfl (lv_at hl 0 rfl) ?_
    exact hret x2_4 M_refused _ _ _ _ rfl h hP hS dX5_holes_76
  · replace h := h.1 z
    refine lv_aload_n hx hb dX5_holes_7 rfl (lv_at hl 0 rfl) ?_
    refine lv_iconst (v := (-1 : Int32)) hx hb dX5_holes_8 (by decide) ?_
    refine zci hA (hDD _ rfl) hS (zrunV (As := [.int (-1 : Int32)]) (rest := []) S hK hA hE hP (hDD _ rfl) hS (mX5_no l D cI cJ cC G a_M _ M_pipes M_used M_taped M_at M_statements M_hasImage M_isKeeping M_cursor M_nextAt M_nextMost M_rowMany M_refused M_setting M_hole M_pipeAt M_chance M_weight M_tape M_letter M_letterAt M_told M_kept M_then M_row (-1 : Int32) _ h) kX5_no ml_X5_66 ⟨rfl, rfl, by decide, by decide⟩ (q0 := 0) (ci := 5) rfl rfl rfl rfl hl.1 rfl (Nat.le_of_ble_eq_true rfl) dX5_holes_9 ⟨Nat.zero_le _, Nat.zero_le _⟩) (fun r_6 M_refused_7 H locs h hP1 hk1 hS => ?_)
    try dsimp only at h
    have hP : va_P D vwCl ((bX5 cI cJ cC a_M M_pipes M_used M_taped M_at M_statements M_hasImage M_isKeeping M_cursor M_nextAt M_nextMost M_rowMany M_refused_7 M_setting M_hole M_pipeAt M_chance M_weight M_tape M_letter M_letterAt M_told M_kept M_then M_row)) H := hP1
    exact hret r_6 M_refused_7 _ _ _ _ rfl h hP hS dX5_holes_12
def lpX5_holesAll_5 (K : Int64 → Int32 → Prop) (x1 : Int32) (M_setting : Nat → Int32) (M_weight : Nat → Int32) : Nat → Int64 → Int32 → Prop
  | 0, _, _ => False
  | n + 1, x2, x4 => (((M_setting 0) ≤ x4 → (K x2 x4)) ∧ (¬ ((M_setting 0) ≤ x4) → (wpX5_holesBy (fun (r_1 : Int32) => vp_in x4 24 ∧ ((((0 : Int32) ≤ r_1 → (lpX5_holesAll_5 K x1 M_setting M_weight n (x2 + (((M_weight x4.toNatClampNeg).toInt64) * r_1.toInt64)) (x4 + (1 : Int32)))) ∧ (¬ ((0 : Int32) ≤ r_1) → (lpX5_holesAll_5 K x1 M_setting M_weight n (x2 + (((M_weight x4.toNatClampNeg).toInt64) * ((48 : Int32).toInt64))) (x4 + (1 : Int32))))))) M_setting x1 x4)))
set_option maxHeartbeats 4000000 in
set_option maxRecDepth 100000 in
theorem wX5_holesAll_5 (l : Launch) (D : va_G) (cI cJ cC : ClassId) (G : Nat → Nat → Nat) (a_M : Nat → Nat) {p : Program} {e : Env} {s : State} {m : MethodId} {below : List Frame} {meth : Method} {c : Code} {A : Nat → Prop} {Q : State → Prop} (p1 : Int32) (x1 : Int32) (M_pipes : Int32) (M_used : Int32) (M_taped : Int32) (M_at : Int32) (M_statements : Int32) (M_hasImage : Int32) (M_isKeeping : Int32) (M_cursor : Int32) (M_nextAt : Int32) (M_nextMost : Int64) (M_rowMany : Int32) (M_refused : Nat → Int32) (M_setting : Nat → Int32) (M_hole : Nat → Int32) (M_pipeAt : Nat → Int32) (M_chance : Nat → Int32) (M_weight : Nat → Int32) (M_tape : Nat → Int32) (M_letter : Nat → Int32) (M_letterAt : Nat → Int32) (M_told : Nat → Int32) (M_kept : Nat → Int32) (M_then : Nat → Int64) (M_row : Nat → Int32) (K : Int64 → Int32 → Prop) (S : CallFix p m c cX5_holesAll 6 s ([.ref (a_M 0), .int p1] : List Value).toArray bg RX5) (hK : va_K D vwCl (tz cI cJ cC) s) (hDD : ∀ ws : va_W, ws.map (fun q => q.1) = [a_M 0, a_M 1, a_M 2, a_M 3, a_M 4, a_M 5, a_M 6, a_M 7, a_M 8, a_M 9, a_M 10, a_M 11, a_M 12, a_M 13] → va_D A ws) (hA : ∀ q, s.heap.size ≤ q → A q) (hE : EV G A s) (hKK : ∀ (x2 : Int64) (x4 : Int32) (H : Heap) (locs : List Loc) (ls : Array Slot), K x2 x4 → va_P D vwCl ((bX5 cI cJ cC a_M M_pipes M_used M_taped M_at M_statements M_hasImage M_isKeeping M_cursor M_nextAt M_nextMost M_rowMany M_refused M_setting M_hole M_pipeAt M_chance M_weight M_tape M_letter M_letterAt M_told M_kept M_then M_row)) H → va_S A s.heap H locs → lv_has ls 6 [(2, .long x2)] → W p l e ({ frames := 5, cells := 0, slots := 0, locals := 111 }) s m ([.ref (a_M 0), .int p1] : List Value).toArray below meth c H locs 0 0 Q (F0 m 56 ls [])) :
    ∀ (n : Nat) (x2 : Int64) (x4 : Int32) (H : Heap) (locs : List Loc) (ls : Array Slot), lpX5_holesAll_5 K x1 M_setting M_weight n x2 x4 → va_P D vwCl ((bX5 cI cJ cC a_M M_pipes M_used M_taped M_at M_statements M_hasImage M_isKeeping M_cursor M_nextAt M_nextMost M_rowMany M_refused M_setting M_hole M_pipeAt M_chance M_weight M_tape M_letter M_letterAt M_told M_kept M_then M_row)) H → va_S A s.heap H locs → lv_has ls 6 [(0, .ref (a_M 0)), (1, .int x1), (2, .long x2), (4, .int x4)] → W p l e ({ frames := 5, cells := 0, slots := 0, locals := 111 }) s m ([.ref (a_M 0), .int p1] : List Value).toArray below meth c H locs 0 0 Q (F0 m 5 ls []) := by
  obtain ⟨hx, hb, hml, hown, ht⟩ := id S
  intro n
  induction n with
  | zero =>
    intro x2 x4 H locs ls h
    exact absurd h (by simp [lpX5_holesAll_5])
  | succ n ih =>
    intro x2 x4 H locs ls h hP hS hl
    rw [lpX5_holesAll_5] at h
    refine lv_iload hx hb dX5_holesAll_5 (lv_at hl 3 rfl) ?_
    refine lv_aload_n hx hb dX5_holesAll_7 rfl (lv_at hl 0 rfl) ?_
    refine va_get (D := D) (ci := 5) (v := .ref (a_M 2)) (C := RX5) (T := TX5) (N := 24) hx hb ht inX5 hown hK hP 0 rfl rfl 1 (by decide) (ht _ fl_X5_13) (fun _ h9 => h9) rfl dX5_holesAll_8 ?_
    refine lv_iconst (v := (0 : Int32)) hx hb dX5_holesAll_11 (by decide) ?_
    refine va_iald hx hb hK hP 2 0 rfl rfl (by unfold vp_in; decide) dX5_holesAll_12 ?_
    refine zti (y := M_setting 0) (by rfl) ?_
    refine lv_icmp_ge (tgt := 56) hx hb dX5_holesAll_13 (by decide) (fun z => ?_) (fun z => ?_)
    · replace h := h.1 z
      exact hKK x2 x4 _ _ _ h hP hS (lv_sub hl [2] rfl)
    · replace h := h.2 z
      refine lv_aload_n hx hb dX5_holesAll_16 rfl (lv_at hl 0 rfl) ?_
      refine lv_iload_n hx hb dX5_holesAll_17 rfl (lv_at hl 1 rfl) ?_
      refine lv_iload hx hb dX5_holesAll_18 (lv_at hl 3 rfl) ?_
      refine zci hA (hDD _ rfl) hS (zrunV (As := [.int x1, .int x4]) (rest := []) S hK hA hE hP (hDD _ rfl) hS (mX5_holesBy l D cI cJ cC G a_M _ M_pipes M_used M_taped M_at M_statements M_hasImage M_isKeeping M_cursor M_nextAt M_nextMost M_rowMany M_refused M_setting M_hole M_pipeAt M_chance M_weight M_tape M_letter M_letterAt M_told M_kept M_then M_row x1 x4 _ h) kX5_holesBy ml_X5_230 ⟨rfl, rfl, by decide, by decide⟩ (q0 := 0) (ci := 5) rfl rfl rfl rfl hl.1 rfl (Nat.le_of_ble_eq_true rfl) dX5_holesAll_20 ⟨Nat.zero_le _, Nat.zero_le _⟩) (fun r_1 u H locs h hP1 hk1 hS => ?_)
      try dsimp only at h
      have hP : va_P D vwCl ((bX5 cI cJ cC a_M M_pipes M_used M_taped M_at M_statements M_hasImage M_isKeeping M_cursor M_nextAt M_nextMost M_rowMany M_refused M_setting M_hole M_pipeAt M_chance M_weight M_tape M_letter M_letterAt M_told M_kept M_then M_row)) H := hP1
      refine lv_istore (lv' := [(5, .int r_1), (0, .ref (a_M 0)), (1, .int x1), (2, .long x2), (4, .int x4)]) hx hb dX5_holesAll_23 hl (by decide) rfl (fun ls hl => ?_)
      refine lv_lload_n hx hb dX5_holesAll_25 rfl (lv_at hl 3 rfl) ?_
      refine lv_aload_n hx hb dX5_holesAll_26 rfl (lv_at hl 1 rfl) ?_
      refine va_get (D := D) (ci := 5) (v := .ref (a_M 6)) (C := RX5) (T := TX5) (N := 24) hx hb ht inX5 hown hK hP 0 rfl rfl 5 (by decide) (ht _ fl_X5_25) (fun _ h9 => h9) rfl dX5_holesAll_27 ?_
      refine lv_iload hx hb dX5_holesAll_30 (lv_at hl 4 rfl) ?_
      obtain ⟨hin, h⟩ := h
      refine va_iald hx hb hK hP 6 0 rfl rfl hin dX5_holesAll_32 ?_
      refine lv_i2l hx hb dX5_holesAll_33 rfl ?_
      refine lv_iload hx hb dX5_holesAll_34 (lv_at hl 0 rfl) ?_
      refine lv_if_ge (tgt := 44) hx hb dX5_holesAll_36 (by decide) (fun z => ?_) (fun z => ?_)
      · replace h := h.1 z
        refine lv_iload hx hb dX5_holesAll_44 (lv_at hl 0 rfl) ?_
        refine lv_i2l hx hb dX5_holesAll_46 rfl ?_
        refine lv_lmul hx hb dX5_holesAll_47 ?_
        refine lv_ladd hx hb dX5_holesAll_48 ?_
        refine lv_lstore_n (lv' := [(2, .long (x2 + (((M_weight x4.toNatClampNeg).toInt64) * r_1.toInt64))), (5, .int r_1), (0, .ref (a_M 0)), (1, .int x1), (4, .int x4)]) hx hb dX5_holesAll_49 rfl hl (by decide) rfl (fun ls hl => ?_)
        refine lv_iinc (v := x4 + (1 : Int32)) (lv' := [(4, .int (x4 + (1 : Int32))), (2, .long (x2 + (((M_weight x4.toNatClampNeg).toInt64) * r_1.toInt64))), (5, .int r_1), (0, .ref (a_M 0)), (1, .int x1)]) hx hb dX5_holesAll_50 hl (k := 4) rfl (by rfl) (by decide) rfl (fun ls hl => ?_)
        refine lv_goto (tgt := 5) hx hb dX5_holesAll_53 (by decide) ?_
        exact ih (x2 + (((M_weight x4.toNatClampNeg).toInt64) * r_1.toInt64)) (x4 + (1 : Int32)) _ _ _ h hP hS (lv_sub hl [3, 4, 1, 0] rfl)
      · replace h := h.2 z
        refine lv_bipush (v := (48 : Int32)) hx hb dX5_holesAll_39 (by decide) ?_
        refine lv_goto (tgt := 46) hx hb dX5_holesAll_41 (by decide) ?_
        refine lv_i2l hx hb dX5_holesAll_46 rfl ?_
        refine lv_lmul hx hb dX5_holesAll_47 ?_
        refine lv_ladd hx hb dX5_holesAll_48 ?_
        refine lv_lstore_n (lv' := [(2, .long (x2 + (((M_weight x4.toNatClampNeg).toInt64) * ((48 : Int32).toInt64)))), (5, .int r_1), (0, .ref (a_M 0)), (1, .int x1), (4, .int x4)]) hx hb dX5_holesAll_49 rfl hl (by decide) rfl (fun ls hl => ?_)
        refine lv_iinc (v := x4 + (1 : Int32)) (lv' := [(4, .int (x4 + (1 : Int32))), (2, .long (x2 + (((M_weight x4.toNatClampNeg).toInt64) * ((48 : Int32).toInt64)))), (5, .int r_1), (0, .ref (a_M 0)), (1, .int x1)]) hx hb dX5_holesAll_50 hl (k := 4) rfl (by rfl) (by decide) rfl (fun ls hl => ?_)
        refine lv_goto (tgt := 5) hx hb dX5_holesAll_53 (by decide) ?_
        exact ih (x2 + (((M_weight x4.toNatClampNeg).toInt64) * ((48 : Int32).toInt64))) (x4 + (1 : Int32)) _ _ _ h hP hS (lv_sub hl [3, 4, 1, 0] rfl)
def wpX5_holesAll (post : Int64 → Prop) (M_setting : Nat → Int32) (M_weight : Nat → Int32) (p1 : Int32) : Prop := ∃ n_2 : Nat, lpX5_holesAll_5 (fun (x2_3 : Int64) (x4_4 : Int32) => post x2_3) p1 M_setting M_weight n_2 (0 : Int64) (0 : Int32)
set_option maxHeartbeats 4000000 in
set_option maxRecDepth 100000 in
theorem mX5_holesAll (l : Launch) (D : va_G) (cI cJ cC : ClassId) (G : Nat → Nat → Nat) (a_M : Nat → Nat) (sz : Nat) (M_pipes : Int32) (M_used : Int32) (M_taped : Int32) (M_at : Int32) (M_statements : Int32) (M_hasImage : Int32) (M_isKeeping : Int32) (M_cursor : Int32) (M_nextAt : Int32) (M_nextMost : Int64) (M_rowMany : Int32) (M_refused : Nat → Int32) (M_setting : Nat → Int32) (M_hole : Nat → Int32) (M_pipeAt : Nat → Int32) (M_chance : Nat → Int32) (M_weight : Nat → Int32) (M_tape : Nat → Int32) (M_letter : Nat → Int32) (M_letterAt : Nat → Int32) (M_told : Nat → Int32) (M_kept : Nat → Int32) (M_then : Nat → Int64) (M_row : Nat → Int32) (p1 : Int32) (post : Int64 → Prop) (h : wpX5_holesAll post M_setting M_weight p1) : Met l yX5_holesAll (wz yX5_holesAll cX5_holesAll 6 (some .long)) ({ frames := 5, cells := 0, slots := 0, locals := 111 }) (va_Pc [.ref (a_M 0), .int p1] (PW D (tz cI cJ cC) G ((bX5 cI cJ cC a_M M_pipes M_used M_taped M_at M_statements M_hasImage M_isKeeping M_cursor M_nextAt M_nextMost M_rowMany M_refused M_setting M_hole M_pipeAt M_chance M_weight M_tape M_letter M_letterAt M_told M_kept M_then M_row)) sz)) (va_Ql (fun (r : Int64) (u : Unit) => post r ) (fun (u : Unit) t => va_P D vwCl ((bX5 cI cJ cC a_M M_pipes M_used M_taped M_at M_statements M_hasImage M_isKeeping M_cursor M_nextAt M_nextMost M_rowMany M_refused M_setting M_hole M_pipeAt M_chance M_weight M_tape M_letter M_letterAt M_told M_kept M_then M_row)) t.heap) (va_A ((bX5 cI cJ cC a_M M_pipes M_used M_taped M_at M_statements M_hasImage M_isKeeping M_cursor M_nextAt M_nextMost M_rowMany M_refused M_setting M_hole M_pipeAt M_chance M_weight M_tape M_letter M_letterAt M_told M_kept M_then M_row)) sz)) 0 0 (va_A ((bX5 cI cJ cC a_M M_pipes M_used M_taped M_at M_statements M_hasImage M_isKeeping M_cursor M_nextAt M_nextMost M_rowMany M_refused M_setting M_hole M_pipeAt M_chance M_weight M_tape M_letter M_letterAt M_told M_kept M_then M_row)) sz) := by
  refine zml (gw := fun (u : Unit) => (bX5 cI cJ cC a_M M_pipes M_used M_taped M_at M_statements M_hasImage M_isKeeping M_cursor M_nextAt M_nextMost M_rowMany M_refused M_setting M_hole M_pipeAt M_chance M_weight M_tape M_letter M_letterAt M_told M_kept M_then M_row)) (plainFor_of_name (by decide)) (Nat.le_of_ble_eq_true rfl) ?_
  intro p e s m below meth c A Q ls S hK hD hA hE hP hl hret
  obtain ⟨hx, hb, hml, hown, ht⟩ := id S
  have hS : va_S A s.heap s.heap [] := va_S.rf
  have hDD : ∀ ws : va_W, ws.map (fun q => q.1) = [a_M 0, a_M 1, a_M 2, a_M 3, a_M 4, a_M 5, a_M 6, a_M 7, a_M 8, a_M 9, a_M 10, a_M 11, a_M 12, a_M 13] → va_D A ws := fun ws hw => zD hD (hw.trans rfl)
  have hl : lv_has ls 6 [(0, .ref (a_M 0)), (1, .int p1)] := hl
  unfold wpX5_holesAll at h
  refine lv_lconst (v := (0 : Int64)) hx hb dX5_holesAll_0 (by decide) ?_
  refine lv_lstore_n (lv' := [(2, .long (0 : Int64)), (0, .ref (a_M 0)), (1, .int p1)]) hx hb dX5_holesAll_1 rfl hl (by decide) rfl (fun ls hl => ?_)
  refine lv_iconst (v := (0 : Int32)) hx hb dX5_holesAll_2 (by decide) ?_
  refine lv_istore (lv' := [(4, .int (0 : Int32)), (2, .long (0 : Int64)), (0, .ref (a_M 0)), (1, .int p1)]) hx hb dX5_holesAll_3 hl (by decide) rfl (fun ls hl => ?_)
  obtain ⟨n_2, h⟩ := h
  refine wX5_holesAll_5 l D cI cJ cC G a_M p1 p1 M_pipes M_used M_taped M_at M_statements M_hasImage M_isKeeping M_cursor M_nextAt M_nextMost M_rowMany M_refused M_setting M_hole M_pipeAt M_chance M_weight M_tape M_letter M_letterAt M_told M_kept M_then M_row _ S hK hDD hA hE (fun x2_3 x4_4 H locs ls h hP hS hl => ?_) n_2 (0 : Int64) (0 : Int32) _ _ _ h hP hS (lv_sub hl [2, 3, 1, 0] rfl)
  try dsimp only at h
  refine lv_lload_n hx hb dX5_holesAll_56 rfl (lv_at hl 0 rfl) ?_
  exact hret x2_3 () _ _ _ _ h hP hS dX5_holesAll_57
def wpX5_mean (post : Int64 → (Nat → Int32) → Prop) (M_refused : Nat → Int32) (M_setting : Nat → Int32) (M_weight : Nat → Int32) (p1 : Int32) (p2 : Int32) : Prop := wpX5_isInch (fun (r_1 : Int32) => ((r_1 = (0 : Int32) → (wpX5_lowest (fun (r_8 : Int64) (M_refused_9 : Nat → Int32) => post r_8 M_refused_9) M_refused (-1 : Int32))) ∧ (¬ (r_1 = (0 : Int32)) → (wpX5_isIn (fun (r_2 : Int32) => ((r_2 = (0 : Int32) → (wpX5_lowest (fun (r_3 : Int64) (M_refused_4 : Nat → Int32) => post r_3 M_refused_4) M_refused (-2 : Int32))) ∧ (¬ (r_2 = (0 : Int32)) → (wpX5_holesAll (fun (r_5 : Int64) => wpX5_all (fun (r_6 : Int64) => wpX5_partOf (fun (r_7 : Int64) => post r_7 M_refused) r_5 r_6 p2) M_setting M_weight) M_setting M_weight p1)))) p2 (0 : Int32) (1 : Int32))))) p1
set_option maxHeartbeats 4000000 in
set_option maxRecDepth 100000 in
theorem mX5_mean (l : Launch) (D : va_G) (cI cJ cC : ClassId) (G : Nat → Nat → Nat) (a_M : Nat → Nat) (sz : Nat) (M_pipes : Int32) (M_used : Int32) (M_taped : Int32) (M_at : Int32) (M_statements : Int32) (M_hasImage : Int32) (M_isKeeping : Int32) (M_cursor : Int32) (M_nextAt : Int32) (M_nextMost : Int64) (M_rowMany : Int32) (M_refused : Nat → Int32) (M_setting : Nat → Int32) (M_hole : Nat → Int32) (M_pipeAt : Nat → Int32) (M_chance : Nat → Int32) (M_weight : Nat → Int32) (M_tape : Nat → Int32) (M_letter : Nat → Int32) (M_letterAt : Nat → Int32) (M_told : Nat → Int32) (M_kept : Nat → Int32) (M_then : Nat → Int64) (M_row : Nat → Int32) (p1 : Int32) (p2 : Int32) (post : Int64 → (Nat → Int32) → Prop) (h : wpX5_mean post M_refused M_setting M_weight p1 p2) : Met l yX5_mean (wz yX5_mean cX5_mean 3 (some .long)) ({ frames := 6, cells := 0, slots := 0, locals := 136 }) (va_Pc [.ref (a_M 0), .int p1, .int p2] (PW D (tz cI cJ cC) G ((bX5 cI cJ cC a_M M_pipes M_used M_taped M_at M_statements M_hasImage M_isKeeping M_cursor M_nextAt M_nextMost M_rowMany M_refused M_setting M_hole M_pipeAt M_chance M_weight M_tape M_letter M_letterAt M_told M_kept M_then M_row)) sz)) (va_Ql (fun (r : Int64) (u : (Nat → Int32)) => post r u) (fun (u : (Nat → Int32)) t => va_P D vwCl ((bX5 cI cJ cC a_M M_pipes M_used M_taped M_at M_statements M_hasImage M_isKeeping M_cursor M_nextAt M_nextMost M_rowMany u M_setting M_hole M_pipeAt M_chance M_weight M_tape M_letter M_letterAt M_told M_kept M_then M_row)) t.heap) (va_A ((bX5 cI cJ cC a_M M_pipes M_used M_taped M_at M_statements M_hasImage M_isKeeping M_cursor M_nextAt M_nextMost M_rowMany M_refused M_setting M_hole M_pipeAt M_chance M_weight M_tape M_letter M_letterAt M_told M_kept M_then M_row)) sz)) 0 0 (va_A ((bX5 cI cJ cC a_M M_pipes M_used M_taped M_at M_statements M_hasImage M_isKeeping M_cursor M_nextAt M_nextMost M_rowMany M_refused M_setting M_hole M_pipeAt M_chance M_weight M_tape M_letter M_letterAt M_told M_kept M_then M_row)) sz) := by
  refine zml (gw := fun (u : (Nat → Int32)) => (bX5 cI cJ cC a_M M_pipes M_used M_taped M_at M_statements M_hasImage M_isKeeping M_cursor M_nextAt M_nextMost M_rowMany u M_setting M_hole M_pipeAt M_chance M_weight M_tape M_letter M_letterAt M_told M_kept M_then M_row)) (plainFor_of_name (by decide)) (Nat.le_of_ble_eq_true rfl) ?_
  intro p e s m below meth c A Q ls S hK hD hA hE hP hl hret
  obtain ⟨hx, hb, hml, hown, ht⟩ := id S
  have hS : va_S A s.heap s.heap [] := va_S.rf
  have hDD : ∀ ws : va_W, ws.map (fun q => q.1) = [a_M 0, a_M 1, a_M 2, a_M 3, a_M 4, a_M 5, a_M 6, a_M 7, a_M 8, a_M 9, a_M 10, a_M 11, a_M 12, a_M 13] → va_D A ws := fun ws hw => zD hD (hw.trans rfl)
  have hl : lv_has ls 3 [(0, .ref (a_M 0)), (1, .int p1), (2, .int p2)] := hl
  unfold wpX5_mean at h
  refine lv_iload_n hx hb dX5_mean_0 rfl (lv_at hl 1 rfl) ?_
  refine zci hA zD0 hS (zrunS (As := [.int p1]) (rest := []) S hK hA hE zP0 zD0 hS (mX5_isInch l D cI cJ cC G _ p1 _ h) kX5_isInch ml_X5_113 ⟨rfl, rfl, by decide, by decide⟩ rfl hl.1 rfl (Nat.le_of_ble_eq_true rfl) dX5_mean_1 ⟨Nat.zero_le _, Nat.zero_le _⟩) (fun r_1 u H locs h hP1 hk1 hS => ?_)
  try dsimp only at h
  have hP : va_P D vwCl ((bX5 cI cJ cC a_M M_pipes M_used M_taped M_at M_statements M_hasImage M_isKeeping M_cursor M_nextAt M_nextMost M_rowMany M_refused M_setting M_hole M_pipeAt M_chance M_weight M_tape M_letter M_letterAt M_told M_kept M_then M_row)) H := zKeep hP hk1
  refine lv_if_ne (tgt := 13) hx hb dX5_mean_4 (by decide) (fun z => ?_) (fun z => ?_)
  · replace h := h.2 z
    refine lv_iload_n hx hb dX5_mean_13 rfl (lv_at hl 2 rfl) ?_
    refine lv_iconst (v := (0 : Int32)) hx hb dX5_mean_14 (by decide) ?_
    refine lv_iconst (v := (1 : Int32)) hx hb dX5_mean_15 (by decide) ?_
    refine zci hA zD0 hS (zrunS (As := [.int p2, .int (0 : Int32), .int (1 : Int32)]) (rest := []) S hK hA hE zP0 zD0 hS (mX5_isIn l D cI cJ cC G _ p2 (0 : Int32) (1 : Int32) _ h) kX5_isIn ml_X5_77 ⟨rfl, rfl, by decide, by decide⟩ rfl hl.1 rfl (Nat.le_of_ble_eq_true rfl) dX5_mean_16 ⟨Nat.zero_le _, Nat.zero_le _⟩) (fun r_2 u H locs h hP1 hk1 hS => ?_)
    try dsimp only at h
    have hP : va_P D vwCl ((bX5 cI cJ cC a_M M_pipes M_used M_taped M_at M_statements M_hasImage M_isKeeping M_cursor M_nextAt M_nextMost M_rowMany M_refused M_setting M_hole M_pipeAt M_chance M_weight M_tape M_letter M_letterAt M_told M_kept M_then M_row)) H := zKeep hP hk1
    refine lv_if_eq (tgt := 38) hx hb dX5_mean_19 (by decide) (fun z => ?_) (fun z => ?_)
    · replace h := h.1 z
      refine lv_aload_n hx hb dX5_mean_38 rfl (lv_at hl 0 rfl) ?_
      refine lv_bipush (v := (-2 : Int32)) hx hb dX5_mean_39 (by decide) ?_
      refine zcl hA (hDD _ rfl) hS (zrunV (As := [.int (-2 : Int32)]) (rest := []) S hK hA hE hP (hDD _ rfl) hS (mX5_lowest l D cI cJ cC G a_M _ M_pipes M_used M_taped M_at M_statements M_hasImage M_isKeeping M_cursor M_nextAt M_nextMost M_rowMany M_refused M_setting M_hole M_pipeAt M_chance M_weight M_tape M_letter M_letterAt M_told M_kept M_then M_row (-2 : Int32) _ h) kX5_lowest ml_X5_197 ⟨rfl, rfl, by decide, by decide⟩ (q0 := 0) (ci := 5) rfl rfl rfl rfl hl.1 rfl (Nat.le_of_ble_eq_true rfl) dX5_mean_41 ⟨Nat.zero_le _, Nat.zero_le _⟩) (fun r_3 M_refused_4 H locs h hP1 hk1 hS => ?_)
      try dsimp only at h
      have hP : va_P D vwCl ((bX5 cI cJ cC a_M M_pipes M_used M_taped M_at M_statements M_hasImage M_isKeeping M_cursor M_nextAt M_nextMost M_rowMany M_refused_4 M_setting M_hole M_pipeAt M_chance M_weight M_tape M_letter M_letterAt M_told M_kept M_then M_row)) H := hP1
      exact hret r_3 M_refused_4 _ _ _ _ h hP hS dX5_mean_44
    · replace h := h.2 z
      refine lv_aload_n hx hb dX5_mean_22 rfl (lv_at hl 0 rfl) ?_
      refine lv_iload_n hx hb dX5_mean_23 rfl (lv_at hl 1 rfl) ?_
      refine zcl hA (hDD _ rfl) hS (zrunV (As := [.int p1]) (rest := []) S hK hA hE hP (hDD _ rfl) hS (mX5_holesAll l D cI cJ cC G a_M _ M_pipes M_used M_taped M_at M_statements M_hasImage M_isKeeping M_cursor M_nextAt M_nextMost M_rowMany M_refused M_setting M_hole M_pipeAt M_chance M_weight M_tape M_letter M_letterAt M_told M_kept M_then M_row p1 _ h) kX5_holesAll ml_X5_233 ⟨rfl, rfl, by decide, by decide⟩ (q0 := 0) (ci := 5) rfl rfl rfl rfl hl.1 rfl (Nat.le_of_ble_eq_true rfl) dX5_mean_24 ⟨Nat.zero_le _, Nat.zero_le _⟩) (fun r_5 u H locs h hP1 hk1 hS => ?_)
      try dsimp only at h
      have hP : va_P D vwCl ((bX5 cI cJ cC a_M M_pipes M_used M_taped M_at M_statements M_hasImage M_isKeeping M_cursor M_nextAt M_nextMost M_rowMany M_refused M_setting M_hole M_pipeAt M_chance M_weight M_tape M_letter M_letterAt M_told M_kept M_then M_row)) H := hP1
      refine lv_aload_n hx hb dX5_mean_27 rfl (lv_at hl 0 rfl) ?_
      refine zcl hA (hDD _ rfl) hS (zrunV (As := []) (rest := [.long r_5]) S hK hA hE hP (hDD _ rfl) hS (mX5_all l D cI cJ cC G a_M _ M_pipes M_used M_taped M_at M_statements M_hasImage M_isKeeping M_cursor M_nextAt M_nextMost M_rowMany M_refused M_setting M_hole M_pipeAt M_chance M_weight M_tape M_letter M_letterAt M_told M_kept M_then M_row _ h) kX5_all ml_X5_216 ⟨rfl, rfl, by decide, by decide⟩ (q0 := 0) (ci := 5) rfl rfl rfl rfl hl.1 rfl (Nat.le_of_ble_eq_true rfl) dX5_mean_28 ⟨Nat.zero_le _, Nat.zero_le _⟩) (fun r_6 u H locs h hP1 hk1 hS => ?_)
      try dsimp only at h
      have hP : va_P D vwCl ((bX5 cI cJ cC a_M M_pipes M_used M_taped M_at M_statements M_hasImage M_isKeeping M_cursor M_nextAt M_nextMost M_rowMany M_refused M_setting M_hole M_pipeAt M_chance M_weight M_tape M_letter M_letterAt M_told M_kept M_then M_row)) H := hP1
      refine lv_iload_n hx hb dX5_mean_31 rfl (lv_at hl 2 rfl) ?_
      refine zcl hA zD0 hS (zrunS (As := [.long r_5, .long r_6, .int p2]) (rest := []) S hK hA hE zP0 zD0 hS (mX5_partOf l D cI cJ cC G _ r_5 r_6 p2 _ h) kX5_partOf ml_X5_220 ⟨rfl, rfl, by decide, by decide⟩ rfl hl.1 rfl (Nat.le_of_ble_eq_true rfl) dX5_mean_32 ⟨Nat.zero_le _, Nat.zero_le _⟩) (fun r_7 u H locs h hP1 hk1 hS => ?_)
      try dsimp only at h
      have hP : va_P D vwCl ((bX5 cI cJ cC a_M M_pipes M_used M_taped M_at M_statements M_hasImage M_isKeeping M_cursor M_nextAt M_nextMost M_rowMany M_refused M_setting M_hole M_pipeAt M_chance M_weight M_tape M_letter M_letterAt M_told M_kept M_then M_row)) H := zKeep hP hk1
      refine lv_goto (tgt := 44) hx hb dX5_mean_35 (by decide) ?_
      exact hret r_7 M_refused _ _ _ _ h hP hS dX5_mean_44
  · replace h := h.1 z
    refine lv_aload_n hx hb dX5_mean_7 rfl (lv_at hl 0 rfl) ?_
    refine lv_iconst (v := (-1 : Int32)) hx hb dX5_mean_8 (by decide) ?_
    refine zcl hA (hDD _ rfl) hS (zrunV (As := [.int (-1 : Int32)]) (rest := []) S hK hA hE hP (hDD _ rfl) hS (mX5_lowest l D cI cJ cC G a_M _ M_pipes M_used M_taped M_at M_statements M_hasImage M_isKeeping M_cursor M_nextAt M_nextMost M_rowMany M_refused M_setting M_hole M_pipeAt M_chance M_weight M_tape M_letter M_letterAt M_told M_kept M_then M_row (-1 : Int32) _ h) kX5_lowest ml_X5_197 ⟨rfl, rfl, by decide, by decide⟩ (q0 := 0) (ci := 5) rfl rfl rfl rfl hl.1 rfl (Nat.le_of_ble_eq_true rfl) dX5_mean_9 ⟨Nat.zero_le _, Nat.zero_le _⟩) (fun r_8 M_refused_9 H locs h hP1 hk1 hS => ?_)
    try dsimp only at h
    have hP : va_P D vwCl ((bX5 cI cJ cC a_M M_pipes M_used M_taped M_at M_statements M_hasImage M_isKeeping M_cursor M_nextAt M_nextMost M_rowMany M_refused_9 M_setting M_hole M_pipeAt M_chance M_weight M_tape M_letter M_letterAt M_told M_kept M_then M_row)) H := hP1
    exact hret r_8 M_refused_9 _ _ _ _ h hP hS dX5_mean_12
def lpX5_from_4 (K : Int32 → Int32 → Prop) (M_setting : Nat → Int32) (M_weight : Nat → Int32) : Nat → Int32 → Int32 → Prop
  | 0, _, _ => False
  | n + 1, x1, x2 => (((48 : Int32) ≤ x2 → (K x1 x2)) ∧ (¬ ((48 : Int32) ≤ x2) → (wpX5_holesAll (fun (r_1 : Int64) => wpX5_holesAll (fun (r_2 : Int64) => ((r_2 ≤ r_1 → (lpX5_from_4 K M_setting M_weight n x1 (x2 + (1 : Int32)))) ∧ (¬ (r_2 ≤ r_1) → (lpX5_from_4 K M_setting M_weight n x2 (x2 + (1 : Int32)))))) M_setting M_weight x1) M_setting M_weight x2)))
set_option maxHeartbeats 4000000 in
set_option maxRecDepth 100000 in
theorem wX5_from_4 (l : Launch) (D : va_G) (cI cJ cC : ClassId) (G : Nat → Nat → Nat) (a_M : Nat → Nat) {p : Program} {e : Env} {s : State} {m : MethodId} {below : List Frame} {meth : Method} {c : Code} {A : Nat → Prop} {Q : State → Prop} (M_pipes : Int32) (M_used : Int32) (M_taped : Int32) (M_at : Int32) (M_statements : Int32) (M_hasImage : Int32) (M_isKeeping : Int32) (M_cursor : Int32) (M_nextAt : Int32) (M_nextMost : Int64) (M_rowMany : Int32) (M_refused : Nat → Int32) (M_setting : Nat → Int32) (M_hole : Nat → Int32) (M_pipeAt : Nat → Int32) (M_chance : Nat → Int32) (M_weight : Nat → Int32) (M_tape : Nat → Int32) (M_letter : Nat → Int32) (M_letterAt : Nat → Int32) (M_told : Nat → Int32) (M_kept : Nat → Int32) (M_then : Nat → Int64) (M_row : Nat → Int32) (K : Int32 → Int32 → Prop) (S : CallFix p m c cX5_from 3 s ([.ref (a_M 0)] : List Value).toArray bg RX5) (hK : va_K D vwCl (tz cI cJ cC) s) (hDD : ∀ ws : va_W, ws.map (fun q => q.1) = [a_M 0, a_M 1, a_M 2, a_M 3, a_M 4, a_M 5, a_M 6, a_M 7, a_M 8, a_M 9, a_M 10, a_M 11, a_M 12, a_M 13] → va_D A ws) (hA : ∀ q, s.heap.size ≤ q → A q) (hE : EV G A s) (hKK : ∀ (x1 : Int32) (x2 : Int32) (H : Heap) (locs : List Loc) (ls : Array Slot), K x1 x2 → va_P D vwCl ((bX5 cI cJ cC a_M M_pipes M_used M_taped M_at M_statements M_hasImage M_isKeeping M_cursor M_nextAt M_nextMost M_rowMany M_refused M_setting M_hole M_pipeAt M_chance M_weight M_tape M_letter M_letterAt M_told M_kept M_then M_row)) H → va_S A s.heap H locs → lv_has ls 3 [(1, .int x1)] → W p l e ({ frames := 6, cells := 0, slots := 0, locals := 136 }) s m ([.ref (a_M 0)] : List Value).toArray below meth c H locs 0 0 Q (F0 m 36 ls [])) :
    ∀ (n : Nat) (x1 : Int32) (x2 : Int32) (H : Heap) (locs : List Loc) (ls : Array Slot), lpX5_from_4 K M_setting M_weight n x1 x2 → va_P D vwCl ((bX5 cI cJ cC a_M M_pipes M_used M_taped M_at M_statements M_hasImage M_isKeeping M_cursor M_nextAt M_nextMost M_rowMany M_refused M_setting M_hole M_pipeAt M_chance M_weight M_tape M_letter M_letterAt M_told M_kept M_then M_row)) H → va_S A s.heap H locs → lv_has ls 3 [(0, .ref (a_M 0)), (1, .int x1), (2, .int x2)] → W p l e ({ frames := 6, cells := 0, slots := 0, locals := 136 }) s m ([.ref (a_M 0)] : List Value).toArray below meth c H locs 0 0 Q (F0 m 4 ls []) := by
  obtain ⟨hx, hb, hml, hown, ht⟩ := id S
  intro n
  induction n with
  | zero =>
    intro x1 x2 H locs ls h
    exact absurd h (by simp [lpX5_from_4])
  | succ n ih =>
    intro x1 x2 H locs ls h hP hS hl
    rw [lpX5_from_4] at h
    refine lv_iload_n hx hb dX5_from_4 rfl (lv_at hl 2 rfl) ?_
    refine lv_bipush (v := (48 : Int32)) hx hb dX5_from_5 (by decide) ?_
    refine lv_icmp_ge (tgt := 36) hx hb dX5_from_7 (by decide) (fun z => ?_) (fun z => ?_)
    · replace h := h.1 z
      exact hKK x1 x2 _ _ _ h hP hS (lv_sub hl [1] rfl)
    · replace h := h.2 z
      refine lv_aload_n hx hb dX5_from_10 rfl (lv_at hl 0 rfl) ?_
      refine lv_iload_n hx hb dX5_from_11 rfl (lv_at hl 2 rfl) ?_
      refine zcl hA (hDD _ rfl) hS (zrunV (As := [.int x2]) (rest := []) S hK hA hE hP (hDD _ rfl) hS (mX5_holesAll l D cI cJ cC G a_M _ M_pipes M_used M_taped M_at M_statements M_hasImage M_isKeeping M_cursor M_nextAt M_nextMost M_rowMany M_refused M_setting M_hole M_pipeAt M_chance M_weight M_tape M_letter M_letterAt M_told M_kept M_then M_row x2 _ h) kX5_holesAll ml_X5_233 ⟨rfl, rfl, by decide, by decide⟩ (q0 := 0) (ci := 5) rfl rfl rfl rfl hl.1 rfl (Nat.le_of_ble_eq_true rfl) dX5_from_12 ⟨Nat.zero_le _, Nat.zero_le _⟩) (fun r_1 u H locs h hP1 hk1 hS => ?_)
      try dsimp only at h
      have hP : va_P D vwCl ((bX5 cI cJ cC a_M M_pipes M_used M_taped M_at M_statements M_hasImage M_isKeeping M_cursor M_nextAt M_nextMost M_rowMany M_refused M_setting M_hole M_pipeAt M_chance M_weight M_tape M_letter M_letterAt M_told M_kept M_then M_row)) H := hP1
      refine lv_aload_n hx hb dX5_from_15 rfl (lv_at hl 0 rfl) ?_
      refine lv_iload_n hx hb dX5_from_16 rfl (lv_at hl 1 rfl) ?_
      refine zcl hA (hDD _ rfl) hS (zrunV (As := [.int x1]) (rest := [.long r_1]) S hK hA hE hP (hDD _ rfl) hS (mX5_holesAll l D cI cJ cC G a_M _ M_pipes M_used M_taped M_at M_statements M_hasImage M_isKeeping M_cursor M_nextAt M_nextMost M_rowMany M_refused M_setting M_hole M_pipeAt M_chance M_weight M_tape M_letter M_letterAt M_told M_kept M_then M_row x1 _ h) kX5_holesAll ml_X5_233 ⟨rfl, rfl, by decide, by decide⟩ (q0 := 0) (ci := 5) rfl rfl rfl rfl hl.1 rfl (Nat.le_of_ble_eq_true rfl) dX5_from_17 ⟨Nat.zero_le _, Nat.zero_le _⟩) (fun r_2 u H locs h hP1 hk1 hS => ?_)
      try dsimp only at h
      have hP : va_P D vwCl ((bX5 cI cJ cC a_M M_pipes M_used M_taped M_at M_statements M_hasImage M_isKeeping M_cursor M_nextAt M_nextMost M_rowMany M_refused M_setting M_hole M_pipeAt M_chance M_weight M_tape M_letter M_letterAt M_told M_kept M_then M_row)) H := hP1
      refine W.lcmp hx hb dX5_from_20 ?_
      refine lv_if_ge (tgt := 28) hx hb dX5_from_21 (by decide) (fun z => ?_) (fun z => ?_)
      · replace h := h.1 (zl_ge.mp z)
        refine lv_iload_n hx hb dX5_from_28 rfl (lv_at hl 1 rfl) ?_
        refine lv_istore_n (lv' := [(1, .int x1), (0, .ref (a_M 0)), (2, .int x2)]) hx hb dX5_from_29 rfl hl (by decide) rfl (fun ls hl => ?_)
        refine lv_iinc (v := x2 + (1 : Int32)) (lv' := [(2, .int (x2 + (1 : Int32))), (1, .int x1), (0, .ref (a_M 0))]) hx hb dX5_from_30 hl (k := 2) rfl (by rfl) (by decide) rfl (fun ls hl => ?_)
        refine lv_goto (tgt := 4) hx hb dX5_from_33 (by decide) ?_
        exact ih x1 (x2 + (1 : Int32)) _ _ _ h hP hS (lv_sub hl [2, 1, 0] rfl)
      · replace h := h.2 (fun q => z (zl_ge.mpr q))
        refine lv_iload_n hx hb dX5_from_24 rfl (lv_at hl 2 rfl) ?_
        refine lv_goto (tgt := 29) hx hb dX5_from_25 (by decide) ?_
        refine lv_istore_n (lv' := [(1, .int x2), (0, .ref (a_M 0)), (2, .int x2)]) hx hb dX5_from_29 rfl hl (by decide) rfl (fun ls hl => ?_)
        refine lv_iinc (v := x2 + (1 : Int32)) (lv' := [(2, .int (x2 + (1 : Int32))), (1, .int x2), (0, .ref (a_M 0))]) hx hb dX5_from_30 hl (k := 2) rfl (by rfl) (by decide) rfl (fun ls hl => ?_)
        refine lv_goto (tgt := 4) hx hb dX5_from_33 (by decide) ?_
        exact ih x2 (x2 + (1 : Int32)) _ _ _ h hP hS (lv_sub hl [2, 1, 0] rfl)
def wpX5_from (post : Int32 → Prop) (M_setting : Nat → Int32) (M_weight : Nat → Int32) : Prop := ∃ n_3 : Nat, lpX5_from_4 (fun (x1_4 : Int32) (x2_5 : Int32) => post x1_4) M_setting M_weight n_3 (0 : Int32) (1 : Int32)
set_option maxHeartbeats 4000000 in
set_option maxRecDepth 100000 in
theorem mX5_from (l : Launch) (D : va_G) (cI cJ cC : ClassId) (G : Nat → Nat → Nat) (a_M : Nat → Nat) (sz : Nat) (M_pipes : Int32) (M_used : Int32) (M_taped : Int32) (M_at : Int32) (M_statements : Int32) (M_hasImage : Int32) (M_isKeeping : Int32) (M_cursor : Int32) (M_nextAt : Int32) (M_nextMost : Int64) (M_rowMany : Int32) (M_refused : Nat → Int32) (M_setting : Nat → Int32) (M_hole : Nat → Int32) (M_pipeAt : Nat → Int32) (M_chance : Nat → Int32) (M_weight : Nat → Int32) (M_tape : Nat → Int32) (M_letter : Nat → Int32) (M_letterAt : Nat → Int32) (M_told : Nat → Int32) (M_kept : Nat → Int32) (M_then : Nat → Int64) (M_row : Nat → Int32) (post : Int32 → Prop) (h : wpX5_from post M_setting M_weight) : Met l yX5_from (wz yX5_from cX5_from 3 (some .int)) ({ frames := 6, cells := 0, slots := 0, locals := 136 }) (va_Pc [.ref (a_M 0)] (PW D (tz cI cJ cC) G ((bX5 cI cJ cC a_M M_pipes M_used M_taped M_at M_statements M_hasImage M_isKeeping M_cursor M_nextAt M_nextMost M_rowMany M_refused M_setting M_hole M_pipeAt M_chance M_weight M_tape M_letter M_letterAt M_told M_kept M_then M_row)) sz)) (va_Qi (fun (r : Int32) (u : Unit) => post r ) (fun (u : Unit) t => va_P D vwCl ((bX5 cI cJ cC a_M M_pipes M_used M_taped M_at M_statements M_hasImage M_isKeeping M_cursor M_nextAt M_nextMost M_rowMany M_refused M_setting M_hole M_pipeAt M_chance M_weight M_tape M_letter M_letterAt M_told M_kept M_then M_row)) t.heap) (va_A ((bX5 cI cJ cC a_M M_pipes M_used M_taped M_at M_statements M_hasImage M_isKeeping M_cursor M_nextAt M_nextMost M_rowMany M_refused M_setting M_hole M_pipeAt M_chance M_weight M_tape M_letter M_letterAt M_told M_kept M_then M_row)) sz)) 0 0 (va_A ((bX5 cI cJ cC a_M M_pipes M_used M_taped M_at M_statements M_hasImage M_isKeeping M_cursor M_nextAt M_nextMost M_rowMany M_refused M_setting M_hole M_pipeAt M_chance M_weight M_tape M_letter M_letterAt M_told M_kept M_then M_row)) sz) := by
  refine zmi (gw := fun (u : Unit) => (bX5 cI cJ cC a_M M_pipes M_used M_taped M_at M_statements M_hasImage M_isKeeping M_cursor M_nextAt M_nextMost M_rowMany M_refused M_setting M_hole M_pipeAt M_chance M_weight M_tape M_letter M_letterAt M_told M_kept M_then M_row)) (plainFor_of_name (by decide)) (Nat.le_of_ble_eq_true rfl) ?_
  intro p e s m below meth c A Q ls S hK hD hA hE hP hl hret
  obtain ⟨hx, hb, hml, hown, ht⟩ := id S
  have hS : va_S A s.heap s.heap [] := va_S.rf
  have hDD : ∀ ws : va_W, ws.map (fun q => q.1) = [a_M 0, a_M 1, a_M 2, a_M 3, a_M 4, a_M 5, a_M 6, a_M 7, a_M 8, a_M 9, a_M 10, a_M 11, a_M 12, a_M 13] → va_D A ws := fun ws hw => zD hD (hw.trans rfl)
  have hl : lv_has ls 3 [(0, .ref (a_M 0))] := hl
  unfold wpX5_from at h
  refine lv_iconst (v := (0 : Int32)) hx hb dX5_from_0 (by decide) ?_
  refine lv_istore_n (lv' := [(1, .int (0 : Int32)), (0, .ref (a_M 0))]) hx hb dX5_from_1 rfl hl (by decide) rfl (fun ls hl => ?_)
  refine lv_iconst (v := (1 : Int32)) hx hb dX5_from_2 (by decide) ?_
  refine lv_istore_n (lv' := [(2, .int (1 : Int32)), (1, .int (0 : Int32)), (0, .ref (a_M 0))]) hx hb dX5_from_3 rfl hl (by decide) rfl (fun ls hl => ?_)
  obtain ⟨n_3, h⟩ := h
  refine wX5_from_4 l D cI cJ cC G a_M M_pipes M_used M_taped M_at M_statements M_hasImage M_isKeeping M_cursor M_nextAt M_nextMost M_rowMany M_refused M_setting M_hole M_pipeAt M_chance M_weight M_tape M_letter M_letterAt M_told M_kept M_then M_row _ S hK hDD hA hE (fun x1_4 x2_5 H locs ls h hP hS hl => ?_) n_3 (0 : Int32) (1 : Int32) _ _ _ h hP hS (lv_sub hl [2, 1, 0] rfl)
  try dsimp only at h
  refine lv_iload_n hx hb dX5_from_36 rfl (lv_at hl 0 rfl) ?_
  exact hret x1_4 () _ _ _ _ rfl h hP hS dX5_from_37
def lpX5_greatestBehind_3 (K : Int32 → (Nat → Int64) → Prop) (x1 : Int32) (x2 : Int32) (x3 : Int32) (M_setting : Nat → Int32) (M_weight : Nat → Int32) : Nat → Int32 → (Nat → Int64) → Prop
  | 0, _, _ => False
  | n + 1, x4, M_then => (((M_setting 0) ≤ x4 → (K x4 M_then)) ∧ (¬ ((M_setting 0) ≤ x4) → (vp_in x4 24 ∧ (wpX5_tenths (fun (r_1 : Int32) => vp_in x4 24 ∧ (lpX5_greatestBehind_3 K x1 x2 x3 M_setting M_weight n (x4 + (1 : Int32)) (vp_updL M_then x4.toNatClampNeg (((M_weight x4.toNatClampNeg).toInt64) * r_1.toInt64)))) M_setting x1 x2 x3 x4))))
set_option maxHeartbeats 4000000 in
set_option maxRecDepth 100000 in
theorem wX5_greatestBehind_3 (l : Launch) (D : va_G) (cI cJ cC : ClassId) (G : Nat → Nat → Nat) (a_M : Nat → Nat) {p : Program} {e : Env} {s : State} {m : MethodId} {below : List Frame} {meth : Method} {c : Code} {A : Nat → Prop} {Q : State → Prop} (p1 : Int32) (p2 : Int32) (p3 : Int32) (x1 : Int32) (x2 : Int32) (x3 : Int32) (M_pipes : Int32) (M_used : Int32) (M_taped : Int32) (M_at : Int32) (M_statements : Int32) (M_hasImage : Int32) (M_isKeeping : Int32) (M_cursor : Int32) (M_nextAt : Int32) (M_nextMost : Int64) (M_rowMany : Int32) (M_refused : Nat → Int32) (M_setting : Nat → Int32) (M_hole : Nat → Int32) (M_pipeAt : Nat → Int32) (M_chance : Nat → Int32) (M_weight : Nat → Int32) (M_tape : Nat → Int32) (M_letter : Nat → Int32) (M_letterAt : Nat → Int32) (M_told : Nat → Int32) (M_kept : Nat → Int32) (M_row : Nat → Int32) (K : Int32 → (Nat → Int64) → Prop) (S : CallFix p m c cX5_greatestBehind 10 s ([.ref (a_M 0), .int p1, .int p2, .int p3] : List Value).toArray bg RX5) (hK : va_K D vwCl (tz cI cJ cC) s) (hDD : ∀ ws : va_W, ws.map (fun q => q.1) = [a_M 0, a_M 1, a_M 2, a_M 3, a_M 4, a_M 5, a_M 6, a_M 7, a_M 8, a_M 9, a_M 10, a_M 11, a_M 12, a_M 13] → va_D A ws) (hA : ∀ q, s.heap.size ≤ q → A q) (hE : EV G A s) (hKK : ∀ (x4 : Int32) (M_then : Nat → Int64) (H : Heap) (locs : List Loc) (ls : Array Slot), K x4 M_then → va_P D vwCl ((bX5 cI cJ cC a_M M_pipes M_used M_taped M_at M_statements M_hasImage M_isKeeping M_cursor M_nextAt M_nextMost M_rowMany M_refused M_setting M_hole M_pipeAt M_chance M_weight M_tape M_letter M_letterAt M_told M_kept M_then M_row)) H → va_S A s.heap H locs → lv_has ls 10 [(0, .ref (a_M 0))] → W p l e ({ frames := 5, cells := 0, slots := 0, locals := 114 }) s m ([.ref (a_M 0), .int p1, .int p2, .int p3] : List Value).toArray below meth c H locs 0 0 Q (F0 m 46 ls [])) :
    ∀ (n : Nat) (x4 : Int32) (M_then : Nat → Int64) (H : Heap) (locs : List Loc) (ls : Array Slot), lpX5_greatestBehind_3 K x1 x2 x3 M_setting M_weight n x4 M_then → va_P D vwCl ((bX5 cI cJ cC a_M M_pipes M_used M_taped M_at M_statements M_hasImage M_isKeeping M_cursor M_nextAt M_nextMost M_rowMany M_refused M_setting M_hole M_pipeAt M_chance M_weight M_tape M_letter M_letterAt M_told M_kept M_then M_row)) H → va_S A s.heap H locs → lv_has ls 10 [(0, .ref (a_M 0)), (1, .int x1), (2, .int x2), (3, .int x3), (4, .int x4)] → W p l e ({ frames := 5, cells := 0, slots := 0, locals := 114 }) s m ([.ref (a_M 0), .int p1, .int p2, .int p3] : List Value).toArray below meth c H locs 0 0 Q (F0 m 3 ls []) := by
  obtain ⟨hx, hb, hml, hown, ht⟩ := id S
  intro n
  induction n with
  | zero =>
    intro x4 M_then H locs ls h
    exact absurd h (by simp [lpX5_greatestBehind_3])
  | succ n ih =>
    intro x4 M_then H locs ls h hP hS hl
    rw [lpX5_greatestBehind_3] at h
    refine lv_iload hx hb dX5_greatestBehind_3 (lv_at hl 4 rfl) ?_
    refine lv_aload_n hx hb dX5_greatestBehind_5 rfl (lv_at hl 0 rfl) ?_
    refine va_get (D := D) (ci := 5) (v := .ref (a_M 2)) (C := RX5) (T := TX5) (N := 24) hx hb ht inX5 hown hK hP 0 rfl rfl 1 (by decide) (ht _ fl_X5_13) (fun _ h9 => h9) rfl dX5_greatestBehind_6 ?_
    refine lv_iconst (v := (0 : Int32)) hx hb dX5_greatestBehind_9 (by decide) ?_
    refine va_iald hx hb hK hP 2 0 rfl rfl (by unfold vp_in; decide) dX5_greatestBehind_10 ?_
    refine zti (y := M_setting 0) (by rfl) ?_
    refine lv_icmp_ge (tgt := 46) hx hb dX5_greatestBehind_11 (by decide) (fun z => ?_) (fun z => ?_)
    · replace h := h.1 z
      exact hKK x4 M_then _ _ _ h hP hS (lv_sub hl [0] rfl)
    · replace h := h.2 z
      refine lv_aload_n hx hb dX5_greatestBehind_14 rfl (lv_at hl 0 rfl) ?_
      refine va_get (D := D) (ci := 5) (v := .ref (a_M 12)) (C := RX5) (T := TX5) (N := 24) hx hb ht inX5 hown hK hP 0 rfl rfl 19 (by decide) (ht _ fl_X5_43) (fun _ h9 => h9) rfl dX5_greatestBehind_15 ?_
      refine lv_iload hx hb dX5_greatestBehind_18 (lv_at hl 4 rfl) ?_
      refine lv_aload_n hx hb dX5_greatestBehind_20 rfl (lv_at hl 0 rfl) ?_
      refine va_get (D := D) (ci := 5) (v := .ref (a_M 6)) (C := RX5) (T := TX5) (N := 24) hx hb ht inX5 hown hK hP 0 rfl rfl 5 (by decide) (ht _ fl_X5_25) (fun _ h9 => h9) rfl dX5_greatestBehind_21 ?_
      refine lv_iload hx hb dX5_greatestBehind_24 (lv_at hl 4 rfl) ?_
      obtain ⟨hin, h⟩ := h
      refine va_iald hx hb hK hP 6 0 rfl rfl hin dX5_greatestBehind_26 ?_
      refine lv_i2l hx hb dX5_greatestBehind_27 rfl ?_
      refine lv_aload_n hx hb dX5_greatestBehind_28 rfl (lv_at hl 0 rfl) ?_
      refine lv_iload_n hx hb dX5_greatestBehind_29 rfl (lv_at hl 1 rfl) ?_
      refine lv_iload_n hx hb dX5_greatestBehind_30 rfl (lv_at hl 2 rfl) ?_
      refine lv_iload_n hx hb dX5_greatestBehind_31 rfl (lv_at hl 3 rfl) ?_
      refine lv_iload hx hb dX5_greatestBehind_32 (lv_at hl 4 rfl) ?_
      refine zci hA (hDD _ rfl) hS (zrunV (As := [.int x1, .int x2, .int x3, .int x4]) (rest := [.long ((M_weight x4.toNatClampNeg).toInt64), .int x4, .ref (a_M 12)]) S hK hA hE hP (hDD _ rfl) hS (mX5_tenths l D cI cJ cC G a_M _ M_pipes M_used M_taped M_at M_statements M_hasImage M_isKeeping M_cursor M_nextAt M_nextMost M_rowMany M_refused M_setting M_hole M_pipeAt M_chance M_weight M_tape M_letter M_letterAt M_told M_kept M_then M_row x1 x2 x3 x4 _ h) kX5_tenths ml_X5_184 ⟨rfl, rfl, by decide, by decide⟩ (q0 := 0) (ci := 5) rfl rfl rfl rfl hl.1 rfl (Nat.le_of_ble_eq_true rfl) dX5_greatestBehind_34 ⟨Nat.zero_le _, Nat.zero_le _⟩) (fun r_1 u H locs h hP1 hk1 hS => ?_)
      try dsimp only at h
      have hP : va_P D vwCl ((bX5 cI cJ cC a_M M_pipes M_used M_taped M_at M_statements M_hasImage M_isKeeping M_cursor M_nextAt M_nextMost M_rowMany M_refused M_setting M_hole M_pipeAt M_chance M_weight M_tape M_letter M_letterAt M_told M_kept M_then M_row)) H := hP1
      refine lv_i2l hx hb dX5_greatestBehind_37 rfl ?_
      refine lv_lmul hx hb dX5_greatestBehind_38 ?_
      obtain ⟨hin, h⟩ := h
      refine va_last hx hb hK hP (hDD _ rfl) hS 12 1 rfl rfl hin dX5_greatestBehind_39 (fun H locs hP _ hS => ?_)
      have hP : va_P D vwCl ((bX5 cI cJ cC a_M M_pipes M_used M_taped M_at M_statements M_hasImage M_isKeeping M_cursor M_nextAt M_nextMost M_rowMany M_refused M_setting M_hole M_pipeAt M_chance M_weight M_tape M_letter M_letterAt M_told M_kept (vp_updL M_then x4.toNatClampNeg (((M_weight x4.toNatClampNeg).toInt64) * r_1.toInt64)) M_row)) H := hP
      refine lv_iinc (v := x4 + (1 : Int32)) (lv' := [(4, .int (x4 + (1 : Int32))), (0, .ref (a_M 0)), (1, .int x1), (2, .int x2), (3, .int x3)]) hx hb dX5_greatestBehind_40 hl (k := 4) rfl (by rfl) (by decide) rfl (fun ls hl => ?_)
      refine lv_goto (tgt := 3) hx hb dX5_greatestBehind_43 (by decide) ?_
      exact ih (x4 + (1 : Int32)) (vp_updL M_then x4.toNatClampNeg (((M_weight x4.toNatClampNeg).toInt64) * r_1.toInt64)) _ _ _ h hP hS (lv_sub hl [1, 2, 3, 4, 0] rfl)
def lpX5_greatestBehind_65 (K : Int64 → Int32 → Prop) (x6 : Int32) (M_setting : Nat → Int32) (M_then : Nat → Int64) : Nat → Int64 → Int32 → Prop
  | 0, _, _ => False
  | n + 1, x7, x9 => (((M_setting 0) ≤ x9 → (K x7 x9)) ∧ (¬ ((M_setting 0) ≤ x9) → (wpX5_isWood (fun (r_5 : Int32) => ((r_5 = (0 : Int32) → (lpX5_greatestBehind_65 K x6 M_setting M_then n (x7 + (0 : Int64)) (x9 + (1 : Int32)))) ∧ (¬ (r_5 = (0 : Int32)) → (vp_in x9 24 ∧ (lpX5_greatestBehind_65 K x6 M_setting M_then n (x7 + (M_then x9.toNatClampNeg)) (x9 + (1 : Int32))))))) M_setting x6 x9)))
set_option maxHeartbeats 4000000 in
set_option maxRecDepth 100000 in
theorem wX5_greatestBehind_65 (l : Launch) (D : va_G) (cI cJ cC : ClassId) (G : Nat → Nat → Nat) (a_M : Nat → Nat) {p : Program} {e : Env} {s : State} {m : MethodId} {below : List Frame} {meth : Method} {c : Code} {A : Nat → Prop} {Q : State → Prop} (p1 : Int32) (p2 : Int32) (p3 : Int32) (x4 : Int64) (x6 : Int32) (M_pipes : Int32) (M_used : Int32) (M_taped : Int32) (M_at : Int32) (M_statements : Int32) (M_hasImage : Int32) (M_isKeeping : Int32) (M_cursor : Int32) (M_nextAt : Int32) (M_nextMost : Int64) (M_rowMany : Int32) (M_refused : Nat → Int32) (M_setting : Nat → Int32) (M_hole : Nat → Int32) (M_pipeAt : Nat → Int32) (M_chance : Nat → Int32) (M_weight : Nat → Int32) (M_tape : Nat → Int32) (M_letter : Nat → Int32) (M_letterAt : Nat → Int32) (M_told : Nat → Int32) (M_kept : Nat → Int32) (M_then : Nat → Int64) (M_row : Nat → Int32) (K : Int64 → Int32 → Prop) (S : CallFix p m c cX5_greatestBehind 10 s ([.ref (a_M 0), .int p1, .int p2, .int p3] : List Value).toArray bg RX5) (hK : va_K D vwCl (tz cI cJ cC) s) (hDD : ∀ ws : va_W, ws.map (fun q => q.1) = [a_M 0, a_M 1, a_M 2, a_M 3, a_M 4, a_M 5, a_M 6, a_M 7, a_M 8, a_M 9, a_M 10, a_M 11, a_M 12, a_M 13] → va_D A ws) (hA : ∀ q, s.heap.size ≤ q → A q) (hE : EV G A s) (hKK : ∀ (x7 : Int64) (x9 : Int32) (H : Heap) (locs : List Loc) (ls : Array Slot), K x7 x9 → va_P D vwCl ((bX5 cI cJ cC a_M M_pipes M_used M_taped M_at M_statements M_hasImage M_isKeeping M_cursor M_nextAt M_nextMost M_rowMany M_refused M_setting M_hole M_pipeAt M_chance M_weight M_tape M_letter M_letterAt M_told M_kept M_then M_row)) H → va_S A s.heap H locs → lv_has ls 10 [(0, .ref (a_M 0)), (4, .long x4), (6, .int x6), (7, .long x7)] → W p l e ({ frames := 5, cells := 0, slots := 0, locals := 114 }) s m ([.ref (a_M 0), .int p1, .int p2, .int p3] : List Value).toArray below meth c H locs 0 0 Q (F0 m 109 ls [])) :
    ∀ (n : Nat) (x7 : Int64) (x9 : Int32) (H : Heap) (locs : List Loc) (ls : Array Slot), lpX5_greatestBehind_65 K x6 M_setting M_then n x7 x9 → va_P D vwCl ((bX5 cI cJ cC a_M M_pipes M_used M_taped M_at M_statements M_hasImage M_isKeeping M_cursor M_nextAt M_nextMost M_rowMany M_refused M_setting M_hole M_pipeAt M_chance M_weight M_tape M_letter M_letterAt M_told M_kept M_then M_row)) H → va_S A s.heap H locs → lv_has ls 10 [(0, .ref (a_M 0)), (4, .long x4), (6, .int x6), (7, .long x7), (9, .int x9)] → W p l e ({ frames := 5, cells := 0, slots := 0, locals := 114 }) s m ([.ref (a_M 0), .int p1, .int p2, .int p3] : List Value).toArray below meth c H locs 0 0 Q (F0 m 65 ls []) := by
  obtain ⟨hx, hb, hml, hown, ht⟩ := id S
  intro n
  induction n with
  | zero =>
    intro x7 x9 H locs ls h
    exact absurd h (by simp [lpX5_greatestBehind_65])
  | succ n ih =>
    intro x7 x9 H locs ls h hP hS hl
    rw [lpX5_greatestBehind_65] at h
    refine lv_iload hx hb dX5_greatestBehind_65 (lv_at hl 4 rfl) ?_
    refine lv_aload_n hx hb dX5_greatestBehind_67 rfl (lv_at hl 0 rfl) ?_
    refine va_get (D := D) (ci := 5) (v := .ref (a_M 2)) (C := RX5) (T := TX5) (N := 24) hx hb ht inX5 hown hK hP 0 rfl rfl 1 (by decide) (ht _ fl_X5_13) (fun _ h9 => h9) rfl dX5_greatestBehind_68 ?_
    refine lv_iconst (v := (0 : Int32)) hx hb dX5_greatestBehind_71 (by decide) ?_
    refine va_iald hx hb hK hP 2 0 rfl rfl (by unfold vp_in; decide) dX5_greatestBehind_72 ?_
    refine zti (y := M_setting 0) (by rfl) ?_
    refine lv_icmp_ge (tgt := 109) hx hb dX5_greatestBehind_73 (by decide) (fun z => ?_) (fun z => ?_)
    · replace h := h.1 z
      exact hKK x7 x9 _ _ _ h hP hS (lv_sub hl [0, 1, 2, 3] rfl)
    · replace h := h.2 z
      refine lv_lload hx hb dX5_greatestBehind_76 (lv_at hl 3 rfl) ?_
      refine lv_aload_n hx hb dX5_greatestBehind_78 rfl (lv_at hl 0 rfl) ?_
      refine lv_iload hx hb dX5_greatestBehind_79 (lv_at hl 2 rfl) ?_
      refine lv_iload hx hb dX5_greatestBehind_81 (lv_at hl 4 rfl) ?_
      refine zci hA (hDD _ rfl) hS (zrunV (As := [.int x6, .int x9]) (rest := [.long x7]) S hK hA hE hP (hDD _ rfl) hS (mX5_isWood l D cI cJ cC G a_M _ M_pipes M_used M_taped M_at M_statements M_hasImage M_isKeeping M_cursor M_nextAt M_nextMost M_rowMany M_refused M_setting M_hole M_pipeAt M_chance M_weight M_tape M_letter M_letterAt M_told M_kept M_then M_row x6 x9 _ h) kX5_isWood ml_X5_171 ⟨rfl, rfl, by decide, by decide⟩ (q0 := 0) (ci := 5) rfl rfl rfl rfl hl.1 rfl (Nat.le_of_ble_eq_true rfl) dX5_greatestBehind_83 ⟨Nat.zero_le _, Nat.zero_le _⟩) (fun r_5 u H locs h hP1 hk1 hS => ?_)
      try dsimp only at h
      have hP : va_P D vwCl ((bX5 cI cJ cC a_M M_pipes M_used M_taped M_at M_statements M_hasImage M_isKeeping M_cursor M_nextAt M_nextMost M_rowMany M_refused M_setting M_hole M_pipeAt M_chance M_weight M_tape M_letter M_letterAt M_told M_kept M_then M_row)) H := hP1
      refine lv_if_eq (tgt := 99) hx hb dX5_greatestBehind_86 (by decide) (fun z => ?_) (fun z => ?_)
      · replace h := h.1 z
        refine lv_lconst (v := (0 : Int64)) hx hb dX5_greatestBehind_99 (by decide) ?_
        refine lv_ladd hx hb dX5_greatestBehind_100 ?_
        refine lv_lstore (lv' := [(7, .long (x7 + (0 : Int64))), (0, .ref (a_M 0)), (4, .long x4), (6, .int x6), (9, .int x9)]) hx hb dX5_greatestBehind_101 hl (by decide) rfl (fun ls hl => ?_)
        refine lv_iinc (v := x9 + (1 : Int32)) (lv' := [(9, .int (x9 + (1 : Int32))), (7, .long (x7 + (0 : Int64))), (0, .ref (a_M 0)), (4, .long x4), (6, .int x6)]) hx hb dX5_greatestBehind_103 hl (k := 4) rfl (by rfl) (by decide) rfl (fun ls hl => ?_)
        refine lv_goto (tgt := 65) hx hb dX5_greatestBehind_106 (by decide) ?_
        exact ih (x7 + (0 : Int64)) (x9 + (1 : Int32)) _ _ _ h hP hS (lv_sub hl [2, 3, 4, 1, 0] rfl)
      · replace h := h.2 z
        refine lv_aload_n hx hb dX5_greatestBehind_89 rfl (lv_at hl 0 rfl) ?_
        refine va_get (D := D) (ci := 5) (v := .ref (a_M 12)) (C := RX5) (T := TX5) (N := 24) hx hb ht inX5 hown hK hP 0 rfl rfl 19 (by decide) (ht _ fl_X5_43) (fun _ h9 => h9) rfl dX5_greatestBehind_90 ?_
        refine lv_iload hx hb dX5_greatestBehind_93 (lv_at hl 4 rfl) ?_
        obtain ⟨hin, h⟩ := h
        refine va_lald hx hb hK hP 12 1 rfl rfl hin dX5_greatestBehind_95 ?_
        refine lv_goto (tgt := 100) hx hb dX5_greatestBehind_96 (by decide) ?_
        refine lv_ladd hx hb dX5_greatestBehind_100 ?_
        refine lv_lstore (lv' := [(7, .long (x7 + (M_then x9.toNatClampNeg))), (0, .ref (a_M 0)), (4, .long x4), (6, .int x6), (9, .int x9)]) hx hb dX5_greatestBehind_101 hl (by decide) rfl (fun ls hl => ?_)
        refine lv_iinc (v := x9 + (1 : Int32)) (lv' := [(9, .int (x9 + (1 : Int32))), (7, .long (x7 + (M_then x9.toNatClampNeg))), (0, .ref (a_M 0)), (4, .long x4), (6, .int x6)]) hx hb dX5_greatestBehind_103 hl (k := 4) rfl (by rfl) (by decide) rfl (fun ls hl => ?_)
        refine lv_goto (tgt := 65) hx hb dX5_greatestBehind_106 (by decide) ?_
        exact ih (x7 + (M_then x9.toNatClampNeg)) (x9 + (1 : Int32)) _ _ _ h hP hS (lv_sub hl [2, 3, 4, 1, 0] rfl)
def lpX5_greatestBehind_52 (K : Int64 → Int32 → Prop) (M_setting : Nat → Int32) (M_then : Nat → Int64) : Nat → Int64 → Int32 → Prop
  | 0, _, _ => False
  | n + 1, x4, x6 => (((48 : Int32) ≤ x6 → (K x4 x6)) ∧ (¬ ((48 : Int32) ≤ x6) → (∃ n_6 : Nat, lpX5_greatestBehind_65 (fun (x7_7 : Int64) (x9_8 : Int32) => ((x7_7 ≤ x4 → (lpX5_greatestBehind_52 K M_setting M_then n x4 (x6 + (1 : Int32)))) ∧ (¬ (x7_7 ≤ x4) → (lpX5_greatestBehind_52 K M_setting M_then n x7_7 (x6 + (1 : Int32)))))) x6 M_setting M_then n_6 (0 : Int64) (0 : Int32))))
set_option maxHeartbeats 4000000 in
set_option maxRecDepth 100000 in
theorem wX5_greatestBehind_52 (l : Launch) (D : va_G) (cI cJ cC : ClassId) (G : Nat → Nat → Nat) (a_M : Nat → Nat) {p : Program} {e : Env} {s : State} {m : MethodId} {below : List Frame} {meth : Method} {c : Code} {A : Nat → Prop} {Q : State → Prop} (p1 : Int32) (p2 : Int32) (p3 : Int32) (M_pipes : Int32) (M_used : Int32) (M_taped : Int32) (M_at : Int32) (M_statements : Int32) (M_hasImage : Int32) (M_isKeeping : Int32) (M_cursor : Int32) (M_nextAt : Int32) (M_nextMost : Int64) (M_rowMany : Int32) (M_refused : Nat → Int32) (M_setting : Nat → Int32) (M_hole : Nat → Int32) (M_pipeAt : Nat → Int32) (M_chance : Nat → Int32) (M_weight : Nat → Int32) (M_tape : Nat → Int32) (M_letter : Nat → Int32) (M_letterAt : Nat → Int32) (M_told : Nat → Int32) (M_kept : Nat → Int32) (M_then : Nat → Int64) (M_row : Nat → Int32) (K : Int64 → Int32 → Prop) (S : CallFix p m c cX5_greatestBehind 10 s ([.ref (a_M 0), .int p1, .int p2, .int p3] : List Value).toArray bg RX5) (hK : va_K D vwCl (tz cI cJ cC) s) (hDD : ∀ ws : va_W, ws.map (fun q => q.1) = [a_M 0, a_M 1, a_M 2, a_M 3, a_M 4, a_M 5, a_M 6, a_M 7, a_M 8, a_M 9, a_M 10, a_M 11, a_M 12, a_M 13] → va_D A ws) (hA : ∀ q, s.heap.size ≤ q → A q) (hE : EV G A s) (hKK : ∀ (x4 : Int64) (x6 : Int32) (H : Heap) (locs : List Loc) (ls : Array Slot), K x4 x6 → va_P D vwCl ((bX5 cI cJ cC a_M M_pipes M_used M_taped M_at M_statements M_hasImage M_isKeeping M_cursor M_nextAt M_nextMost M_rowMany M_refused M_setting M_hole M_pipeAt M_chance M_weight M_tape M_letter M_letterAt M_told M_kept M_then M_row)) H → va_S A s.heap H locs → lv_has ls 10 [(4, .long x4)] → W p l e ({ frames := 5, cells := 0, slots := 0, locals := 114 }) s m ([.ref (a_M 0), .int p1, .int p2, .int p3] : List Value).toArray below meth c H locs 0 0 Q (F0 m 132 ls [])) :
    ∀ (n : Nat) (x4 : Int64) (x6 : Int32) (H : Heap) (locs : List Loc) (ls : Array Slot), lpX5_greatestBehind_52 K M_setting M_then n x4 x6 → va_P D vwCl ((bX5 cI cJ cC a_M M_pipes M_used M_taped M_at M_statements M_hasImage M_isKeeping M_cursor M_nextAt M_nextMost M_rowMany M_refused M_setting M_hole M_pipeAt M_chance M_weight M_tape M_letter M_letterAt M_told M_kept M_then M_row)) H → va_S A s.heap H locs → lv_has ls 10 [(0, .ref (a_M 0)), (4, .long x4), (6, .int x6)] → W p l e ({ frames := 5, cells := 0, slots := 0, locals := 114 }) s m ([.ref (a_M 0), .int p1, .int p2, .int p3] : List Value).toArray below meth c H locs 0 0 Q (F0 m 52 ls []) := by
  obtain ⟨hx, hb, hml, hown, ht⟩ := id S
  intro n
  induction n with
  | zero =>
    intro x4 x6 H locs ls h
    exact absurd h (by simp [lpX5_greatestBehind_52])
  | succ n ih =>
    intro x4 x6 H locs ls h hP hS hl
    rw [lpX5_greatestBehind_52] at h
    refine lv_iload hx hb dX5_greatestBehind_52 (lv_at hl 2 rfl) ?_
    refine lv_bipush (v := (48 : Int32)) hx hb dX5_greatestBehind_54 (by decide) ?_
    refine lv_icmp_ge (tgt := 132) hx hb dX5_greatestBehind_56 (by decide) (fun z => ?_) (fun z => ?_)
    · replace h := h.1 z
      exact hKK x4 x6 _ _ _ h hP hS (lv_sub hl [1] rfl)
    · replace h := h.2 z
      refine lv_lconst (v := (0 : Int64)) hx hb dX5_greatestBehind_59 (by decide) ?_
      refine lv_lstore (lv' := [(7, .long (0 : Int64)), (0, .ref (a_M 0)), (4, .long x4), (6, .int x6)]) hx hb dX5_greatestBehind_60 hl (by decide) rfl (fun ls hl => ?_)
      refine lv_iconst (v := (0 : Int32)) hx hb dX5_greatestBehind_62 (by decide) ?_
      refine lv_istore (lv' := [(9, .int (0 : Int32)), (7, .long (0 : Int64)), (0, .ref (a_M 0)), (4, .long x4), (6, .int x6)]) hx hb dX5_greatestBehind_63 hl (by decide) rfl (fun ls hl => ?_)
      obtain ⟨n_6, h⟩ := h
      refine wX5_greatestBehind_65 l D cI cJ cC G a_M p1 p2 p3 x4 x6 M_pipes M_used M_taped M_at M_statements M_hasImage M_isKeeping M_cursor M_nextAt M_nextMost M_rowMany M_refused M_setting M_hole M_pipeAt M_chance M_weight M_tape M_letter M_letterAt M_told M_kept M_then M_row _ S hK hDD hA hE (fun x7_7 x9_8 H locs ls h hP hS hl => ?_) n_6 (0 : Int64) (0 : Int32) _ _ _ h hP hS (lv_sub hl [2, 3, 4, 1, 0] rfl)
      try dsimp only at h
      refine lv_lload hx hb dX5_greatestBehind_109 (lv_at hl 3 rfl) ?_
      refine lv_lload hx hb dX5_greatestBehind_111 (lv_at hl 1 rfl) ?_
      refine W.lcmp hx hb dX5_greatestBehind_113 ?_
      refine lv_if_le (tgt := 122) hx hb dX5_greatestBehind_114 (by decide) (fun z => ?_) (fun z => ?_)
      · replace h := h.1 (zl_le.mp z)
        refine lv_lload hx hb dX5_greatestBehind_122 (lv_at hl 1 rfl) ?_
        refine lv_lstore (lv' := [(4, .long x4), (0, .ref (a_M 0)), (6, .int x6), (7, .long x7_7)]) hx hb dX5_greatestBehind_124 hl (by decide) rfl (fun ls hl => ?_)
        refine lv_iinc (v := x6 + (1 : Int32)) (lv' := [(6, .int (x6 + (1 : Int32))), (4, .long x4), (0, .ref (a_M 0)), (7, .long x7_7)]) hx hb dX5_greatestBehind_126 hl (k := 2) rfl (by rfl) (by decide) rfl (fun ls hl => ?_)
        refine lv_goto (tgt := 52) hx hb dX5_greatestBehind_129 (by decide) ?_
        exact ih x4 (x6 + (1 : Int32)) _ _ _ h hP hS (lv_sub hl [2, 1, 0] rfl)
      · replace h := h.2 (fun q => z (zl_le.mpr q))
        refine lv_lload hx hb dX5_greatestBehind_117 (lv_at hl 3 rfl) ?_
        refine lv_goto (tgt := 124) hx hb dX5_greatestBehind_119 (by decide) ?_
        refine lv_lstore (lv' := [(4, .long x7_7), (0, .ref (a_M 0)), (6, .int x6), (7, .long x7_7)]) hx hb dX5_greatestBehind_124 hl (by decide) rfl (fun ls hl => ?_)
        refine lv_iinc (v := x6 + (1 : Int32)) (lv' := [(6, .int (x6 + (1 : Int32))), (4, .long x7_7), (0, .ref (a_M 0)), (7, .long x7_7)]) hx hb dX5_greatestBehind_126 hl (k := 2) rfl (by rfl) (by decide) rfl (fun ls hl => ?_)
        refine lv_goto (tgt := 52) hx hb dX5_greatestBehind_129 (by decide) ?_
        exact ih x7_7 (x6 + (1 : Int32)) _ _ _ h hP hS (lv_sub hl [2, 1, 0] rfl)
def wpX5_greatestBehind (post : Int64 → (Nat → Int64) → Prop) (M_setting : Nat → Int32) (M_weight : Nat → Int32) (M_then : Nat → Int64) (p1 : Int32) (p2 : Int32) (p3 : Int32) : Prop := ∃ n_2 : Nat, lpX5_greatestBehind_3 (fun (x4_3 : Int32) (M_then_4 : Nat → Int64) => ∃ n_9 : Nat, lpX5_greatestBehind_52 (fun (x4_10 : Int64) (x6_11 : Int32) => post x4_10 M_then_4) M_setting M_then_4 n_9 (0 : Int64) (0 : Int32)) p1 p2 p3 M_setting M_weight n_2 (0 : Int32) M_then
set_option maxHeartbeats 4000000 in
set_option maxRecDepth 100000 in
theorem mX5_greatestBehind (l : Launch) (D : va_G) (cI cJ cC : ClassId) (G : Nat → Nat → Nat) (a_M : Nat → Nat) (sz : Nat) (M_pipes : Int32) (M_used : Int32) (M_taped : Int32) (M_at : Int32) (M_statements : Int32) (M_hasImage : Int32) (M_isKeeping : Int32) (M_cursor : Int32) (M_nextAt : Int32) (M_nextMost : Int64) (M_rowMany : Int32) (M_refused : Nat → Int32) (M_setting : Nat → Int32) (M_hole : Nat → Int32) (M_pipeAt : Nat → Int32) (M_chance : Nat → Int32) (M_weight : Nat → Int32) (M_tape : Nat → Int32) (M_letter : Nat → Int32) (M_letterAt : Nat → Int32) (M_told : Nat → Int32) (M_kept : Nat → Int32) (M_then : Nat → Int64) (M_row : Nat → Int32) (p1 : Int32) (p2 : Int32) (p3 : Int32) (post : Int64 → (Nat → Int64) → Prop) (h : wpX5_greatestBehind post M_setting M_weight M_then p1 p2 p3) : Met l yX5_greatestBehind (wz yX5_greatestBehind cX5_greatestBehind 10 (some .long)) ({ frames := 5, cells := 0, slots := 0, locals := 114 }) (va_Pc [.ref (a_M 0), .int p1, .int p2, .int p3] (PW D (tz cI cJ cC) G ((bX5 cI cJ cC a_M M_pipes M_used M_taped M_at M_statements M_hasImage M_isKeeping M_cursor M_nextAt M_nextMost M_rowMany M_refused M_setting M_hole M_pipeAt M_chance M_weight M_tape M_letter M_letterAt M_told M_kept M_then M_row)) sz)) (va_Ql (fun (r : Int64) (u : (Nat → Int64)) => post r u) (fun (u : (Nat → Int64)) t => va_P D vwCl ((bX5 cI cJ cC a_M M_pipes M_used M_taped M_at M_statements M_hasImage M_isKeeping M_cursor M_nextAt M_nextMost M_rowMany M_refused M_setting M_hole M_pipeAt M_chance M_weight M_tape M_letter M_letterAt M_told M_kept u M_row)) t.heap) (va_A ((bX5 cI cJ cC a_M M_pipes M_used M_taped M_at M_statements M_hasImage M_isKeeping M_cursor M_nextAt M_nextMost M_rowMany M_refused M_setting M_hole M_pipeAt M_chance M_weight M_tape M_letter M_letterAt M_told M_kept M_then M_row)) sz)) 0 0 (va_A ((bX5 cI cJ cC a_M M_pipes M_used M_taped M_at M_statements M_hasImage M_isKeeping M_cursor M_nextAt M_nextMost M_rowMany M_refused M_setting M_hole M_pipeAt M_chance M_weight M_tape M_letter M_letterAt M_told M_kept M_then M_row)) sz) := by
  refine zml (gw := fun (u : (Nat → Int64)) => (bX5 cI cJ cC a_M M_pipes M_used M_taped M_at M_statements M_hasImage M_isKeeping M_cursor M_nextAt M_nextMost M_rowMany M_refused M_setting M_hole M_pipeAt M_chance M_weight M_tape M_letter M_letterAt M_told M_kept u M_row)) (plainFor_of_name (by decide)) (Nat.le_of_ble_eq_true rfl) ?_
  intro p e s m below meth c A Q ls S hK hD hA hE hP hl hret
  obtain ⟨hx, hb, hml, hown, ht⟩ := id S
  have hS : va_S A s.heap s.heap [] := va_S.rf
  have hDD : ∀ ws : va_W, ws.map (fun q => q.1) = [a_M 0, a_M 1, a_M 2, a_M 3, a_M 4, a_M 5, a_M 6, a_M 7, a_M 8, a_M 9, a_M 10, a_M 11, a_M 12, a_M 13] → va_D A ws := fun ws hw => zD hD (hw.trans rfl)
  have hl : lv_has ls 10 [(0, .ref (a_M 0)), (1, .int p1), (2, .int p2), (3, .int p3)] := hl
  unfold wpX5_greatestBehind at h
  refine lv_iconst (v := (0 : Int32)) hx hb dX5_greatestBehind_0 (by decide) ?_
  refine lv_istore (lv' := [(4, .int (0 : Int32)), (0, .ref (a_M 0)), (1, .int p1), (2, .int p2), (3, .int p3)]) hx hb dX5_greatestBehind_1 hl (by decide) rfl (fun ls hl => ?_)
  obtain ⟨n_2, h⟩ := h
  refine wX5_greatestBehind_3 l D cI cJ cC G a_M p1 p2 p3 p1 p2 p3 M_pipes M_used M_taped M_at M_statements M_hasImage M_isKeeping M_cursor M_nextAt M_nextMost M_rowMany M_refused M_setting M_hole M_pipeAt M_chance M_weight M_tape M_letter M_letterAt M_told M_kept M_row _ S hK hDD hA hE (fun x4_3 M_then_4 H locs ls h hP hS hl => ?_) n_2 (0 : Int32) M_then _ _ _ h hP hS (lv_sub hl [1, 2, 3, 4, 0] rfl)
  try dsimp only at h
  refine lv_lconst (v := (0 : Int64)) hx hb dX5_greatestBehind_46 (by decide) ?_
  refine lv_lstore (lv' := [(4, .long (0 : Int64)), (0, .ref (a_M 0))]) hx hb dX5_greatestBehind_47 hl (by decide) rfl (fun ls hl => ?_)
  refine lv_iconst (v := (0 : Int32)) hx hb dX5_greatestBehind_49 (by decide) ?_
  refine lv_istore (lv' := [(6, .int (0 : Int32)), (4, .long (0 : Int64)), (0, .ref (a_M 0))]) hx hb dX5_greatestBehind_50 hl (by decide) rfl (fun ls hl => ?_)
  obtain ⟨n_9, h⟩ := h
  refine wX5_greatestBehind_52 l D cI cJ cC G a_M p1 p2 p3 M_pipes M_used M_taped M_at M_statements M_hasImage M_isKeeping M_cursor M_nextAt M_nextMost M_rowMany M_refused M_setting M_hole M_pipeAt M_chance M_weight M_tape M_letter M_letterAt M_told M_kept M_then_4 M_row _ S hK hDD hA hE (fun x4_10 x6_11 H locs ls h hP hS hl => ?_) n_9 (0 : Int64) (0 : Int32) _ _ _ h hP hS (lv_sub hl [2, 1, 0] rfl)
  try dsimp only at h
  refine lv_lload hx hb dX5_greatestBehind_132 (lv_at hl 0 rfl) ?_
  exact hret x4_10 M_then_4 _ _ _ _ h hP hS dX5_greatestBehind_134
def wpX5_nextParts (post : Int64 → (Nat → Int64) → Prop) (M_setting : Nat → Int32) (M_weight : Nat → Int32) (M_then : Nat → Int64) (p1 : Int32) (p2 : Int32) : Prop := wpX5_greatestBehind (fun (r_1 : Int64) (M_then_2 : Nat → Int64) => wpX5_greatestBehind (fun (r_3 : Int64) (M_then_4 : Nat → Int64) => post (r_1 + r_3) M_then_4) M_setting M_weight M_then_2 p1 p2 (0 : Int32)) M_setting M_weight M_then p1 p2 (1 : Int32)
set_option maxHeartbeats 4000000 in
set_option maxRecDepth 100000 in
theorem mX5_nextParts (l : Launch) (D : va_G) (cI cJ cC : ClassId) (G : Nat → Nat → Nat) (a_M : Nat → Nat) (sz : Nat) (M_pipes : Int32) (M_used : Int32) (M_taped : Int32) (M_at : Int32) (M_statements : Int32) (M_hasImage : Int32) (M_isKeeping : Int32) (M_cursor : Int32) (M_nextAt : Int32) (M_nextMost : Int64) (M_rowMany : Int32) (M_refused : Nat → Int32) (M_setting : Nat → Int32) (M_hole : Nat → Int32) (M_pipeAt : Nat → Int32) (M_chance : Nat → Int32) (M_weight : Nat → Int32) (M_tape : Nat → Int32) (M_letter : Nat → Int32) (M_letterAt : Nat → Int32) (M_told : Nat → Int32) (M_kept : Nat → Int32) (M_then : Nat → Int64) (M_row : Nat → Int32) (p1 : Int32) (p2 : Int32) (post : Int64 → (Nat → Int64) → Prop) (h : wpX5_nextParts post M_setting M_weight M_then p1 p2) : Met l yX5_nextParts (wz yX5_nextParts cX5_nextParts 3 (some .long)) ({ frames := 6, cells := 0, slots := 0, locals := 143 }) (va_Pc [.ref (a_M 0), .int p1, .int p2] (PW D (tz cI cJ cC) G ((bX5 cI cJ cC a_M M_pipes M_used M_taped M_at M_statements M_hasImage M_isKeeping M_cursor M_nextAt M_nextMost M_rowMany M_refused M_setting M_hole M_pipeAt M_chance M_weight M_tape M_letter M_letterAt M_told M_kept M_then M_row)) sz)) (va_Ql (fun (r : Int64) (u : (Nat → Int64)) => post r u) (fun (u : (Nat → Int64)) t => va_P D vwCl ((bX5 cI cJ cC a_M M_pipes M_used M_taped M_at M_statements M_hasImage M_isKeeping M_cursor M_nextAt M_nextMost M_rowMany M_refused M_setting M_hole M_pipeAt M_chance M_weight M_tape M_letter M_letterAt M_told M_kept u M_row)) t.heap) (va_A ((bX5 cI cJ cC a_M M_pipes M_used M_taped M_at M_statements M_hasImage M_isKeeping M_cursor M_nextAt M_nextMost M_rowMany M_refused M_setting M_hole M_pipeAt M_chance M_weight M_tape M_letter M_letterAt M_told M_kept M_then M_row)) sz)) 0 0 (va_A ((bX5 cI cJ cC a_M M_pipes M_used M_taped M_at M_statements M_hasImage M_isKeeping M_cursor M_nextAt M_nextMost M_rowMany M_refused M_setting M_hole M_pipeAt M_chance M_weight M_tape M_letter M_letterAt M_told M_kept M_then M_row)) sz) := by
  refine zml (gw := fun (u : (Nat → Int64)) => (bX5 cI cJ cC a_M M_pipes M_used M_taped M_at M_statements M_hasImage M_isKeeping M_cursor M_nextAt M_nextMost M_rowMany M_refused M_setting M_hole M_pipeAt M_chance M_weight M_tape M_letter M_letterAt M_told M_kept u M_row)) (plainFor_of_name (by decide)) (Nat.le_of_ble_eq_true rfl) ?_
  intro p e s m below meth c A Q ls S hK hD hA hE hP hl hret
  obtain ⟨hx, hb, hml, hown, ht⟩ := id S
  have hS : va_S A s.heap s.heap [] := va_S.rf
  have hDD : ∀ ws : va_W, ws.map (fun q => q.1) = [a_M 0, a_M 1, a_M 2, a_M 3, a_M 4, a_M 5, a_M 6, a_M 7, a_M 8, a_M 9, a_M 10, a_M 11, a_M 12, a_M 13] → va_D A ws := fun ws hw => zD hD (hw.trans rfl)
  have hl : lv_has ls 3 [(0, .ref (a_M 0)), (1, .int p1), (2, .int p2)] := hl
  unfold wpX5_nextParts at h
  refine lv_aload_n hx hb dX5_nextParts_0 rfl (lv_at hl 0 rfl) ?_
  refine lv_iload_n hx hb dX5_nextParts_1 rfl (lv_at hl 1 rfl) ?_
  refine lv_iload_n hx hb dX5_nextParts_2 rfl (lv_at hl 2 rfl) ?_
  refine lv_iconst (v := (1 : Int32)) hx hb dX5_nextParts_3 (by decide) ?_
  refine zcl hA (hDD _ rfl) hS (zrunV (As := [.int p1, .int p2, .int (1 : Int32)]) (rest := []) S hK hA hE hP (hDD _ rfl) hS (mX5_greatestBehind l D cI cJ cC G a_M _ M_pipes M_used M_taped M_at M_statements M_hasImage M_isKeeping M_cursor M_nextAt M_nextMost M_rowMany M_refused M_setting M_hole M_pipeAt M_chance M_weight M_tape M_letter M_letterAt M_told M_kept M_then M_row p1 p2 (1 : Int32) _ h) kX5_greatestBehind ml_X5_236 ⟨rfl, rfl, by decide, by decide⟩ (q0 := 0) (ci := 5) rfl rfl rfl rfl hl.1 rfl (Nat.le_of_ble_eq_true rfl) dX5_nextParts_4 ⟨Nat.zero_le _, Nat.zero_le _⟩) (fun r_1 M_then_2 H locs h hP1 hk1 hS => ?_)
  try dsimp only at h
  have hP : va_P D vwCl ((bX5 cI cJ cC a_M M_pipes M_used M_taped M_at M_statements M_hasImage M_isKeeping M_cursor M_nextAt M_nextMost M_rowMany M_refused M_setting M_hole M_pipeAt M_chance M_weight M_tape M_letter M_letterAt M_told M_kept M_then_2 M_row)) H := hP1
  refine lv_aload_n hx hb dX5_nextParts_7 rfl (lv_at hl 0 rfl) ?_
  refine lv_iload_n hx hb dX5_nextParts_8 rfl (lv_at hl 1 rfl) ?_
  refine lv_iload_n hx hb dX5_nextParts_9 rfl (lv_at hl 2 rfl) ?_
  refine lv_iconst (v := (0 : Int32)) hx hb dX5_nextParts_10 (by decide) ?_
  refine zcl hA (hDD _ rfl) hS (zrunV (As := [.int p1, .int p2, .int (0 : Int32)]) (rest := [.long r_1]) S hK hA hE hP (hDD _ rfl) hS (mX5_greatestBehind l D cI cJ cC G a_M _ M_pipes M_used M_taped M_at M_statements M_hasImage M_isKeeping M_cursor M_nextAt M_nextMost M_rowMany M_refused M_setting M_hole M_pipeAt M_chance M_weight M_tape M_letter M_letterAt M_told M_kept M_then_2 M_row p1 p2 (0 : Int32) _ h) kX5_greatestBehind ml_X5_236 ⟨rfl, rfl, by decide, by decide⟩ (q0 := 0) (ci := 5) rfl rfl rfl rfl hl.1 rfl (Nat.le_of_ble_eq_true rfl) dX5_nextParts_11 ⟨Nat.zero_le _, Nat.zero_le _⟩) (fun r_3 M_then_4 H locs h hP1 hk1 hS => ?_)
  try dsimp only at h
  have hP : va_P D vwCl ((bX5 cI cJ cC a_M M_pipes M_used M_taped M_at M_statements M_hasImage M_isKeeping M_cursor M_nextAt M_nextMost M_rowMany M_refused M_setting M_hole M_pipeAt M_chance M_weight M_tape M_letter M_letterAt M_told M_kept M_then_4 M_row)) H := hP1
  refine lv_ladd hx hb dX5_nextParts_14 ?_
  exact hret (r_1 + r_3) M_then_4 _ _ _ _ h hP hS dX5_nextParts_15
def lpX5_findNext_14 (K : Int32 → Int32 → Int64 → (Nat → Int64) → Prop) (x1 : Int32) (M_setting : Nat → Int32) (M_weight : Nat → Int32) : Nat → Int32 → Int32 → Int64 → (Nat → Int64) → Prop
  | 0, _, _, _, _ => False
  | n + 1, x2, M_nextAt, M_nextMost, M_then => (((48 : Int32) ≤ x2 → (K x2 M_nextAt M_nextMost M_then)) ∧ (¬ ((48 : Int32) ≤ x2) → (wpX5_nextParts (fun (r_1 : Int64) (M_then_2 : Nat → Int64) => ((M_nextMost < r_1 → (lpX5_findNext_14 K x1 M_setting M_weight n (x2 + (1 : Int32)) x2 r_1 M_then_2)) ∧ (¬ (M_nextMost < r_1) → (lpX5_findNext_14 K x1 M_setting M_weight n (x2 + (1 : Int32)) M_nextAt M_nextMost M_then_2)))) M_setting M_weight M_then x1 x2)))
set_option maxHeartbeats 4000000 in
set_option maxRecDepth 100000 in
theorem wX5_findNext_14 (l : Launch) (D : va_G) (cI cJ cC : ClassId) (G : Nat → Nat → Nat) (a_M : Nat → Nat) {p : Program} {e : Env} {s : State} {m : MethodId} {below : List Frame} {meth : Method} {c : Code} {A : Nat → Prop} {Q : State → Prop} (p1 : Int32) (x1 : Int32) (M_pipes : Int32) (M_used : Int32) (M_taped : Int32) (M_at : Int32) (M_statements : Int32) (M_hasImage : Int32) (M_isKeeping : Int32) (M_cursor : Int32) (M_rowMany : Int32) (M_refused : Nat → Int32) (M_setting : Nat → Int32) (M_hole : Nat → Int32) (M_pipeAt : Nat → Int32) (M_chance : Nat → Int32) (M_weight : Nat → Int32) (M_tape : Nat → Int32) (M_letter : Nat → Int32) (M_letterAt : Nat → Int32) (M_told : Nat → Int32) (M_kept : Nat → Int32) (M_row : Nat → Int32) (K : Int32 → Int32 → Int64 → (Nat → Int64) → Prop) (S : CallFix p m c cX5_findNext 5 s ([.ref (a_M 0), .int p1] : List Value).toArray bg RX5) (hK : va_K D vwCl (tz cI cJ cC) s) (hDD : ∀ ws : va_W, ws.map (fun q => q.1) = [a_M 0, a_M 1, a_M 2, a_M 3, a_M 4, a_M 5, a_M 6, a_M 7, a_M 8, a_M 9, a_M 10, a_M 11, a_M 12, a_M 13] → va_D A ws) (hA : ∀ q, s.heap.size ≤ q → A q) (hE : EV G A s) (hKK : ∀ (x2 : Int32) (M_nextAt : Int32) (M_nextMost : Int64) (M_then : Nat → Int64) (H : Heap) (locs : List Loc) (ls : Array Slot), K x2 M_nextAt M_nextMost M_then → va_P D vwCl ((bX5 cI cJ cC a_M M_pipes M_used M_taped M_at M_statements M_hasImage M_isKeeping M_cursor M_nextAt M_nextMost M_rowMany M_refused M_setting M_hole M_pipeAt M_chance M_weight M_tape M_letter M_letterAt M_told M_kept M_then M_row)) H → va_S A s.heap H locs → lv_has ls 5 [] → W p l e ({ frames := 7, cells := 0, slots := 0, locals := 165 }) s m ([.ref (a_M 0), .int p1] : List Value).toArray below meth c H locs 0 0 Q (F0 m 55 ls [])) :
    ∀ (n : Nat) (x2 : Int32) (M_nextAt : Int32) (M_nextMost : Int64) (M_then : Nat → Int64) (H : Heap) (locs : List Loc) (ls : Array Slot), lpX5_findNext_14 K x1 M_setting M_weight n x2 M_nextAt M_nextMost M_then → va_P D vwCl ((bX5 cI cJ cC a_M M_pipes M_used M_taped M_at M_statements M_hasImage M_isKeeping M_cursor M_nextAt M_nextMost M_rowMany M_refused M_setting M_hole M_pipeAt M_chance M_weight M_tape M_letter M_letterAt M_told M_kept M_then M_row)) H → va_S A s.heap H locs → lv_has ls 5 [(0, .ref (a_M 0)), (1, .int x1), (2, .int x2)] → W p l e ({ frames := 7, cells := 0, slots := 0, locals := 165 }) s m ([.ref (a_M 0), .int p1] : List Value).toArray below meth c H locs 0 0 Q (F0 m 14 ls []) := by
  obtain ⟨hx, hb, hml, hown, ht⟩ := id S
  intro n
  induction n with
  | zero =>
    intro x2 M_nextAt M_nextMost M_then H locs ls h
    exact absurd h (by simp [lpX5_findNext_14])
  | succ n ih =>
    intro x2 M_nextAt M_nextMost M_then H locs ls h hP hS hl
    rw [lpX5_findNext_14] at h
    refine lv_iload_n hx hb dX5_findNext_14 rfl (lv_at hl 2 rfl) ?_
    refine lv_bipush (v := (48 : Int32)) hx hb dX5_findNext_15 (by decide) ?_
    refine lv_icmp_ge (tgt := 55) hx hb dX5_findNext_17 (by decide) (fun z => ?_) (fun z => ?_)
    · replace h := h.1 z
      exact hKK x2 M_nextAt M_nextMost M_then _ _ _ h hP hS (lv_sub hl [] rfl)
    · replace h := h.2 z
      refine lv_aload_n hx hb dX5_findNext_20 rfl (lv_at hl 0 rfl) ?_
      refine lv_iload_n hx hb dX5_findNext_21 rfl (lv_at hl 1 rfl) ?_
      refine lv_iload_n hx hb dX5_findNext_22 rfl (lv_at hl 2 rfl) ?_
      refine zcl hA (hDD _ rfl) hS (zrunV (As := [.int x1, .int x2]) (rest := []) S hK hA hE hP (hDD _ rfl) hS (mX5_nextParts l D cI cJ cC G a_M _ M_pipes M_used M_taped M_at M_statements M_hasImage M_isKeeping M_cursor M_nextAt M_nextMost M_rowMany M_refused M_setting M_hole M_pipeAt M_chance M_weight M_tape M_letter M_letterAt M_told M_kept M_then M_row x1 x2 _ h) kX5_nextParts ml_X5_249 ⟨rfl, rfl, by decide, by decide⟩ (q0 := 0) (ci := 5) rfl rfl rfl rfl hl.1 rfl (Nat.le_of_ble_eq_true rfl) dX5_findNext_23 ⟨Nat.zero_le _, Nat.zero_le _⟩) (fun r_1 M_then_2 H locs h hP1 hk1 hS => ?_)
      try dsimp only at h
      have hP : va_P D vwCl ((bX5 cI cJ cC a_M M_pipes M_used M_taped M_at M_statements M_hasImage M_isKeeping M_cursor M_nextAt M_nextMost M_rowMany M_refused M_setting M_hole M_pipeAt M_chance M_weight M_tape M_letter M_letterAt M_told M_kept M_then_2 M_row)) H := hP1
      refine lv_lstore_n (lv' := [(3, .long r_1), (0, .ref (a_M 0)), (1, .int x1), (2, .int x2)]) hx hb dX5_findNext_26 rfl hl (by decide) rfl (fun ls hl => ?_)
      refine lv_lload_n hx hb dX5_findNext_27 rfl (lv_at hl 0 rfl) ?_
      refine lv_aload_n hx hb dX5_findNext_28 rfl (lv_at hl 1 rfl) ?_
      refine va_get (D := D) (ci := 5) (v := .long M_nextMost) (C := RX5) (T := TX5) (N := 24) hx hb ht inX5 hown hK hP 0 rfl rfl 21 (by decide) (ht _ fl_X5_245) (fun _ h9 => h9) rfl dX5_findNext_29 ?_
      refine W.lcmp hx hb dX5_findNext_32 ?_
      refine lv_if_gt (tgt := 39) hx hb dX5_findNext_33 (by decide) (fun z => ?_) (fun z => ?_)
      · replace h := h.1 (zl_gt.mp z)
        refine lv_aload_n hx hb dX5_findNext_39 rfl (lv_at hl 1 rfl) ?_
        refine lv_iload_n hx hb dX5_findNext_40 rfl (lv_at hl 3 rfl) ?_
        refine va_put (D := D) (ci := 5) (v := .int x2) (ty := .int) (C := RX5) (T := TX5) (N := 24) hx hb ht inX5 tyX5 tyX5_ok nmX5 hown hK hP (hDD _ rfl) hS 0 rfl rfl 20 (by decide) (ht _ fl_X5_240) (fun _ h9 => h9) rfl (by decide +kernel) rfl rfl (Nat.le_of_ble_eq_true rfl) dX5_findNext_41 (fun H locs hP _ hS => ?_)
        have hP : va_P D vwCl ((bX5 cI cJ cC a_M M_pipes M_used M_taped M_at M_statements M_hasImage M_isKeeping M_cursor x2 M_nextMost M_rowMany M_refused M_setting M_hole M_pipeAt M_chance M_weight M_tape M_letter M_letterAt M_told M_kept M_then_2 M_row)) H := hP
        refine lv_aload_n hx hb dX5_findNext_44 rfl (lv_at hl 1 rfl) ?_
        refine lv_lload_n hx hb dX5_findNext_45 rfl (lv_at hl 0 rfl) ?_
        refine va_put (D := D) (ci := 5) (v := .long r_1) (ty := .long) (C := RX5) (T := TX5) (N := 24) hx hb ht inX5 tyX5 tyX5_ok nmX5 hown hK hP (hDD _ rfl) hS 0 rfl rfl 21 (by decide) (ht _ fl_X5_245) (fun _ h9 => h9) rfl (by decide +kernel) rfl rfl (Nat.le_of_ble_eq_true rfl) dX5_findNext_46 (fun H locs hP _ hS => ?_)
        have hP : va_P D vwCl ((bX5 cI cJ cC a_M M_pipes M_used M_taped M_at M_statements M_hasImage M_isKeeping M_cursor x2 r_1 M_rowMany M_refused M_setting M_hole M_pipeAt M_chance M_weight M_tape M_letter M_letterAt M_told M_kept M_then_2 M_row)) H := hP
        refine lv_iinc (v := x2 + (1 : Int32)) (lv' := [(2, .int (x2 + (1 : Int32))), (3, .long r_1), (0, .ref (a_M 0)), (1, .int x1)]) hx hb dX5_findNext_49 hl (k := 3) rfl (by rfl) (by decide) rfl (fun ls hl => ?_)
        refine lv_goto (tgt := 14) hx hb dX5_findNext_52 (by decide) ?_
        exact ih (x2 + (1 : Int32)) x2 r_1 M_then_2 _ _ _ h hP hS (lv_sub hl [2, 3, 0] rfl)
      · replace h := h.2 (fun q => z (zl_gt.mpr q))
        refine lv_goto (tgt := 49) hx hb dX5_findNext_36 (by decide) ?_
        refine lv_iinc (v := x2 + (1 : Int32)) (lv' := [(2, .int (x2 + (1 : Int32))), (3, .long r_1), (0, .ref (a_M 0)), (1, .int x1)]) hx hb dX5_findNext_49 hl (k := 3) rfl (by rfl) (by decide) rfl (fun ls hl => ?_)
        refine lv_goto (tgt := 14) hx hb dX5_findNext_52 (by decide) ?_
        exact ih (x2 + (1 : Int32)) M_nextAt M_nextMost M_then_2 _ _ _ h hP hS (lv_sub hl [2, 3, 0] rfl)
def wpX5_findNext (post : Int32 → Int64 → (Nat → Int64) → Prop) (M_setting : Nat → Int32) (M_weight : Nat → Int32) (M_then : Nat → Int64) (p1 : Int32) : Prop := ∃ n_3 : Nat, lpX5_findNext_14 (fun (x2_4 : Int32) (M_nextAt_5 : Int32) (M_nextMost_6 : Int64) (M_then_7 : Nat → Int64) => post M_nextAt_5 M_nextMost_6 M_then_7) p1 M_setting M_weight n_3 (0 : Int32) (0 : Int32) (-1 : Int64) M_then
set_option maxHeartbeats 4000000 in
set_option maxRecDepth 100000 in
theorem mX5_findNext (l : Launch) (D : va_G) (cI cJ cC : ClassId) (G : Nat → Nat → Nat) (a_M : Nat → Nat) (sz : Nat) (M_pipes : Int32) (M_used : Int32) (M_taped : Int32) (M_at : Int32) (M_statements : Int32) (M_hasImage : Int32) (M_isKeeping : Int32) (M_cursor : Int32) (M_nextAt : Int32) (M_nextMost : Int64) (M_rowMany : Int32) (M_refused : Nat → Int32) (M_setting : Nat → Int32) (M_hole : Nat → Int32) (M_pipeAt : Nat → Int32) (M_chance : Nat → Int32) (M_weight : Nat → Int32) (M_tape : Nat → Int32) (M_letter : Nat → Int32) (M_letterAt : Nat → Int32) (M_told : Nat → Int32) (M_kept : Nat → Int32) (M_then : Nat → Int64) (M_row : Nat → Int32) (p1 : Int32) (post : Int32 → Int64 → (Nat → Int64) → Prop) (h : wpX5_findNext post M_setting M_weight M_then p1) : Met l yX5_findNext (wz yX5_findNext cX5_findNext 5 none) ({ frames := 7, cells := 0, slots := 0, locals := 165 }) (va_Pc [.ref (a_M 0), .int p1] (PW D (tz cI cJ cC) G ((bX5 cI cJ cC a_M M_pipes M_used M_taped M_at M_statements M_hasImage M_isKeeping M_cursor M_nextAt M_nextMost M_rowMany M_refused M_setting M_hole M_pipeAt M_chance M_weight M_tape M_letter M_letterAt M_told M_kept M_then M_row)) sz)) (va_Qv (fun (u : Int32 × Int64 × (Nat → Int64)) => post u.1 u.2.1 u.2.2) (fun (u : Int32 × Int64 × (Nat → Int64)) t => va_P D vwCl ((bX5 cI cJ cC a_M M_pipes M_used M_taped M_at M_statements M_hasImage M_isKeeping M_cursor u.1 u.2.1 M_rowMany M_refused M_setting M_hole M_pipeAt M_chance M_weight M_tape M_letter M_letterAt M_told M_kept u.2.2 M_row)) t.heap) (va_A ((bX5 cI cJ cC a_M M_pipes M_used M_taped M_at M_statements M_hasImage M_isKeeping M_cursor M_nextAt M_nextMost M_rowMany M_refused M_setting M_hole M_pipeAt M_chance M_weight M_tape M_letter M_letterAt M_told M_kept M_then M_row)) sz)) 0 0 (va_A ((bX5 cI cJ cC a_M M_pipes M_used M_taped M_at M_statements M_hasImage M_isKeeping M_cursor M_nextAt M_nextMost M_rowMany M_refused M_setting M_hole M_pipeAt M_chance M_weight M_tape M_letter M_letterAt M_told M_kept M_then M_row)) sz) := by
  refine zmv (gw := fun (u : Int32 × Int64 × (Nat → Int64)) => (bX5 cI cJ cC a_M M_pipes M_used M_taped M_at M_statements M_hasImage M_isKeeping M_cursor u.1 u.2.1 M_rowMany M_refused M_setting M_hole M_pipeAt M_chance M_weight M_tape M_letter M_letterAt M_told M_kept u.2.2 M_row)) (plainFor_of_name (by decide)) (Nat.le_of_ble_eq_true rfl) ?_
  intro p e s m below meth c A Q ls S hK hD hA hE hP hl hret
  obtain ⟨hx, hb, hml, hown, ht⟩ := id S
  have hS : va_S A s.heap s.heap [] := va_S.rf
  have hDD : ∀ ws : va_W, ws.map (fun q => q.1) = [a_M 0, a_M 1, a_M 2, a_M 3, a_M 4, a_M 5, a_M 6, a_M 7, a_M 8, a_M 9, a_M 10, a_M 11, a_M 12, a_M 13] → va_D A ws := fun ws hw => zD hD (hw.trans rfl)
  have hl : lv_has ls 5 [(0, .ref (a_M 0)), (1, .int p1)] := hl
  unfold wpX5_findNext at h
  refine lv_aload_n hx hb dX5_findNext_0 rfl (lv_at hl 0 rfl) ?_
  refine lv_iconst (v := (0 : Int32)) hx hb dX5_findNext_1 (by decide) ?_
  refine va_put (D := D) (ci := 5) (v := .int (0 : Int32)) (ty := .int) (C := RX5) (T := TX5) (N := 24) hx hb ht inX5 tyX5 tyX5_ok nmX5 hown hK hP (hDD _ rfl) hS 0 rfl rfl 20 (by decide) (ht _ fl_X5_240) (fun _ h9 => h9) rfl (by decide +kernel) rfl rfl (Nat.le_of_ble_eq_true rfl) dX5_findNext_2 (fun H locs hP _ hS => ?_)
  have hP : va_P D vwCl ((bX5 cI cJ cC a_M M_pipes M_used M_taped M_at M_statements M_hasImage M_isKeeping M_cursor (0 : Int32) M_nextMost M_rowMany M_refused M_setting M_hole M_pipeAt M_chance M_weight M_tape M_letter M_letterAt M_told M_kept M_then M_row)) H := hP
  refine lv_aload_n hx hb dX5_findNext_5 rfl (lv_at hl 0 rfl) ?_
  refine lv_ldc2 hx hb hown (ht _ kc_X5_243) dX5_findNext_6 ?_
  refine va_put (D := D) (ci := 5) (v := .long (-1 : Int64)) (ty := .long) (C := RX5) (T := TX5) (N := 24) hx hb ht inX5 tyX5 tyX5_ok nmX5 hown hK hP (hDD _ rfl) hS 0 rfl rfl 21 (by decide) (ht _ fl_X5_245) (fun _ h9 => h9) rfl (by decide +kernel) rfl rfl (Nat.le_of_ble_eq_true rfl) dX5_findNext_9 (fun H locs hP _ hS => ?_)
  have hP : va_P D vwCl ((bX5 cI cJ cC a_M M_pipes M_used M_taped M_at M_statements M_hasImage M_isKeeping M_cursor (0 : Int32) (-1 : Int64) M_rowMany M_refused M_setting M_hole M_pipeAt M_chance M_weight M_tape M_letter M_letterAt M_told M_kept M_then M_row)) H := hP
  refine lv_iconst (v := (0 : Int32)) hx hb dX5_findNext_12 (by decide) ?_
  refine lv_istore_n (lv' := [(2, .int (0 : Int32)), (0, .ref (a_M 0)), (1, .int p1)]) hx hb dX5_findNext_13 rfl hl (by decide) rfl (fun ls hl => ?_)
  obtain ⟨n_3, h⟩ := h
  refine wX5_findNext_14 l D cI cJ cC G a_M p1 p1 M_pipes M_used M_taped M_at M_statements M_hasImage M_isKeeping M_cursor M_rowMany M_refused M_setting M_hole M_pipeAt M_chance M_weight M_tape M_letter M_letterAt M_told M_kept M_row _ S hK hDD hA hE (fun x2_4 M_nextAt_5 M_nextMost_6 M_then_7 H locs ls h hP hS hl => ?_) n_3 (0 : Int32) (0 : Int32) (-1 : Int64) M_then _ _ _ h hP hS (lv_sub hl [1, 2, 0] rfl)
  try dsimp only at h
  exact hret (M_nextAt_5, M_nextMost_6, M_then_7) _ _ _ _ h hP hS dX5_findNext_55
def wpX5_worthParts (post : Int64 → Int32 → Int64 → (Nat → Int64) → Prop) (M_setting : Nat → Int32) (M_weight : Nat → Int32) (M_then : Nat → Int64) (p1 : Int32) : Prop := wpX5_findNext (fun (M_nextAt_1 : Int32) (M_nextMost_2 : Int64) (M_then_3 : Nat → Int64) => wpX5_bestNow (fun (r_4 : Int32) => wpX5_woodAt (fun (r_5 : Int64) => post (M_nextMost_2 - ((10 : Int64) * r_5)) M_nextAt_1 M_nextMost_2 M_then_3) M_setting M_weight r_4) M_setting M_weight) M_setting M_weight M_then p1
set_option maxHeartbeats 4000000 in
set_option maxRecDepth 100000 in
theorem mX5_worthParts (l : Launch) (D : va_G) (cI cJ cC : ClassId) (G : Nat → Nat → Nat) (a_M : Nat → Nat) (sz : Nat) (M_pipes : Int32) (M_used : Int32) (M_taped : Int32) (M_at : Int32) (M_statements : Int32) (M_hasImage : Int32) (M_isKeeping : Int32) (M_cursor : Int32) (M_nextAt : Int32) (M_nextMost : Int64) (M_rowMany : Int32) (M_refused : Nat → Int32) (M_setting : Nat → Int32) (M_hole : Nat → Int32) (M_pipeAt : Nat → Int32) (M_chance : Nat → Int32) (M_weight : Nat → Int32) (M_tape : Nat → Int32) (M_letter : Nat → Int32) (M_letterAt : Nat → Int32) (M_told : Nat → Int32) (M_kept : Nat → Int32) (M_then : Nat → Int64) (M_row : Nat → Int32) (p1 : Int32) (post : Int64 → Int32 → Int64 → (Nat → Int64) → Prop) (h : wpX5_worthParts post M_setting M_weight M_then p1) : Met l yX5_worthParts (wz yX5_worthParts cX5_worthParts 2 (some .long)) ({ frames := 8, cells := 0, slots := 0, locals := 189 }) (va_Pc [.ref (a_M 0), .int p1] (PW D (tz cI cJ cC) G ((bX5 cI cJ cC a_M M_pipes M_used M_taped M_at M_statements M_hasImage M_isKeeping M_cursor M_nextAt M_nextMost M_rowMany M_refused M_setting M_hole M_pipeAt M_chance M_weight M_tape M_letter M_letterAt M_told M_kept M_then M_row)) sz)) (va_Ql (fun (r : Int64) (u : Int32 × Int64 × (Nat → Int64)) => post r u.1 u.2.1 u.2.2) (fun (u : Int32 × Int64 × (Nat → Int64)) t => va_P D vwCl ((bX5 cI cJ cC a_M M_pipes M_used M_taped M_at M_statements M_hasImage M_isKeeping M_cursor u.1 u.2.1 M_rowMany M_refused M_setting M_hole M_pipeAt M_chance M_weight M_tape M_letter M_letterAt M_told M_kept u.2.2 M_row)) t.heap) (va_A ((bX5 cI cJ cC a_M M_pipes M_used M_taped M_at M_statements M_hasImage M_isKeeping M_cursor M_nextAt M_nextMost M_rowMany M_refused M_setting M_hole M_pipeAt M_chance M_weight M_tape M_letter M_letterAt M_told M_kept M_then M_row)) sz)) 0 0 (va_A ((bX5 cI cJ cC a_M M_pipes M_used M_taped M_at M_statements M_hasImage M_isKeeping M_cursor M_nextAt M_nextMost M_rowMany M_refused M_setting M_hole M_pipeAt M_chance M_weight M_tape M_letter M_letterAt M_told M_kept M_then M_row)) sz) := by
  refine zml (gw := fun (u : Int32 × Int64 × (Nat → Int64)) => (bX5 cI cJ cC a_M M_pipes M_used M_taped M_at M_statements M_hasImage M_isKeeping M_cursor u.1 u.2.1 M_rowMany M_refused M_setting M_hole M_pipeAt M_chance M_weight M_tape M_letter M_letterAt M_told M_kept u.2.2 M_row)) (plainFor_of_name (by decide)) (Nat.le_of_ble_eq_true rfl) ?_
  intro p e s m below meth c A Q ls S hK hD hA hE hP hl hret
  obtain ⟨hx, hb, hml, hown, ht⟩ := id S
  have hS : va_S A s.heap s.heap [] := va_S.rf
  have hDD : ∀ ws : va_W, ws.map (fun q => q.1) = [a_M 0, a_M 1, a_M 2, a_M 3, a_M 4, a_M 5, a_M 6, a_M 7, a_M 8, a_M 9, a_M 10, a_M 11, a_M 12, a_M 13] → va_D A ws := fun ws hw => zD hD (hw.trans rfl)
  have hl : lv_has ls 2 [(0, .ref (a_M 0)), (1, .int p1)] := hl
  unfold wpX5_worthParts at h
  refine lv_aload_n hx hb dX5_worthParts_0 rfl (lv_at hl 0 rfl) ?_
  refine lv_iload_n hx hb dX5_worthParts_1 rfl (lv_at hl 1 rfl) ?_
  refine zcv hA (hDD _ rfl) hS (zrunV (As := [.int p1]) (rest := []) S hK hA hE hP (hDD _ rfl) hS (mX5_findNext l D cI cJ cC G a_M _ M_pipes M_used M_taped M_at M_statements M_hasImage M_isKeeping M_cursor M_nextAt M_nextMost M_rowMany M_refused M_setting M_hole M_pipeAt M_chance M_weight M_tape M_letter M_letterAt M_told M_kept M_then M_row p1 _ h) kX5_findNext ml_X5_253 ⟨rfl, rfl, by decide, by decide⟩ (q0 := 0) (ci := 5) rfl rfl rfl rfl hl.1 rfl (Nat.le_of_ble_eq_true rfl) dX5_worthParts_2 ⟨Nat.zero_le _, Nat.zero_le _⟩) (fun u H locs h hP1 hk1 hS => ?_)
  obtain ⟨M_nextAt_1, M_nextMost_2, M_then_3⟩ := u
  dsimp only at h
  have hP : va_P D vwCl ((bX5 cI cJ cC a_M M_pipes M_used M_taped M_at M_statements M_hasImage M_isKeeping M_cursor M_nextAt_1 M_nextMost_2 M_rowMany M_refused M_setting M_hole M_pipeAt M_chance M_weight M_tape M_letter M_letterAt M_told M_kept M_then_3 M_row)) H := hP1
  refine lv_aload_n hx hb dX5_worthParts_5 rfl (lv_at hl 0 rfl) ?_
  refine va_get (D := D) (ci := 5) (v := .long M_nextMost_2) (C := RX5) (T := TX5) (N := 24) hx hb ht inX5 hown hK hP 0 rfl rfl 21 (by decide) (ht _ fl_X5_245) (fun _ h9 => h9) rfl dX5_worthParts_6 ?_
  refine lv_ldc2 hx hb hown (ht _ kc_X5_257) dX5_worthParts_9 ?_
  refine lv_aload_n hx hb dX5_worthParts_12 rfl (lv_at hl 0 rfl) ?_
  refine lv_aload_n hx hb dX5_worthParts_13 rfl (lv_at hl 0 rfl) ?_
  refine zci hA (hDD _ rfl) hS (zrunV (As := []) (rest := [.ref (a_M 0), .long (10 : Int64), .long M_nextMost_2]) S hK hA hE hP (hDD _ rfl) hS (mX5_bestNow l D cI cJ cC G a_M _ M_pipes M_used M_taped M_at M_statements M_hasImage M_isKeeping M_cursor M_nextAt_1 M_nextMost_2 M_rowMany M_refused M_setting M_hole M_pipeAt M_chance M_weight M_tape M_letter M_letterAt M_told M_kept M_then_3 M_row _ h) kX5_bestNow ml_X5_224 ⟨rfl, rfl, by decide, by decide⟩ (q0 := 0) (ci := 5) rfl rfl rfl rfl hl.1 rfl (Nat.le_of_ble_eq_true rfl) dX5_worthParts_14 ⟨Nat.zero_le _, Nat.zero_le _⟩) (fun r_4 u H locs h hP1 hk1 hS => ?_)
  try dsimp only at h
  have hP : va_P D vwCl ((bX5 cI cJ cC a_M M_pipes M_used M_taped M_at M_statements M_hasImage M_isKeeping M_cursor M_nextAt_1 M_nextMost_2 M_rowMany M_refused M_setting M_hole M_pipeAt M_chance M_weight M_tape M_letter M_letterAt M_told M_kept M_then_3 M_row)) H := hP1
  refine zcl hA (hDD _ rfl) hS (zrunV (As := [.int r_4]) (rest := [.long (10 : Int64), .long M_nextMost_2]) S hK hA hE hP (hDD _ rfl) hS (mX5_woodAt l D cI cJ cC G a_M _ M_pipes M_used M_taped M_at M_statements M_hasImage M_isKeeping M_cursor M_nextAt_1 M_nextMost_2 M_rowMany M_refused M_setting M_hole M_pipeAt M_chance M_weight M_tape M_letter M_letterAt M_told M_kept M_then_3 M_row r_4 _ h) kX5_woodAt ml_X5_213 ⟨rfl, rfl, by decide, by decide⟩ (q0 := 0) (ci := 5) rfl rfl rfl rfl hl.1 rfl (Nat.le_of_ble_eq_true rfl) dX5_worthParts_17 ⟨Nat.zero_le _, Nat.zero_le _⟩) (fun r_5 u H locs h hP1 hk1 hS => ?_)
  try dsimp only at h
  have hP : va_P D vwCl ((bX5 cI cJ cC a_M M_pipes M_used M_taped M_at M_statements M_hasImage M_isKeeping M_cursor M_nextAt_1 M_nextMost_2 M_rowMany M_refused M_setting M_hole M_pipeAt M_chance M_weight M_tape M_letter M_letterAt M_told M_kept M_then_3 M_row)) H := hP1
  refine lv_lmul hx hb dX5_worthParts_20 ?_
  refine lv_lsub hx hb dX5_worthParts_21 ?_
  exact hret (M_nextMost_2 - ((10 : Int64) * r_5)) (M_nextAt_1, M_nextMost_2, M_then_3) _ _ _ _ h hP hS dX5_worthParts_22
