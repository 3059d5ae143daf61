def lpX5_wire_46 (K : Int32 → Prop) (x1 : Int32) (x2 : Int32) : Nat → Int32 → Prop
  | 0, _ => False
  | n + 1, x4 => ((((x1 * x1) + (((4 : Int32) * x2) * x2)) ≤ (x4 * x4) → (K x4)) ∧ (¬ (((x1 * x1) + (((4 : Int32) * x2) * x2)) ≤ (x4 * x4)) → (lpX5_wire_46 K x1 x2 n (x4 + (1 : Int32)))))
set_option maxHeartbeats 4000000 in
set_option maxRecDepth 100000 in
theorem wX5_wire_46 (l : Launch) (D : va_G) (cI cJ cC : ClassId) (G : Nat → Nat → Nat) (a_M : Nat → Nat) {p : Program} {e : Env} {s : State} {m : MethodId} {below : List Frame} {meth : Method} {c : Code} {A : Nat → Prop} {Q : State → Prop} (p1 : Int32) (p2 : Int32) (x1 : Int32) (x2 : Int32) (M_pipes : Int32) (M_used : Int32) (M_taped : Int32) (M_at : Int32) (M_statements : Int32) (M_hasImage : Int32) (M_isKeeping : Int32) (M_cursor : Int32) (M_nextAt : Int32) (M_nextMost : Int64) (M_rowMany : Int32) (M_refused : Nat → Int32) (M_setting : Nat → Int32) (M_hole : Nat → Int32) (M_pipeAt : Nat → Int32) (M_chance : Nat → Int32) (M_weight : Nat → Int32) (M_tape : Nat → Int32) (M_letter : Nat → Int32) (M_letterAt : Nat → Int32) (M_told : Nat → Int32) (M_kept : Nat → Int32) (M_then : Nat → Int64) (M_row : Nat → Int32) (K : Int32 → Prop) (S : CallFix p m c cX5_wire 5 s ([.ref (a_M 0), .int p1, .int p2] : List Value).toArray bg RX5) (hK : va_K D vwCl (tz cI cJ cC) s) (hDD : ∀ ws : va_W, ws.map (fun q => q.1) = [a_M 0, a_M 1, a_M 2, a_M 3, a_M 4, a_M 5, a_M 6, a_M 7, a_M 8, a_M 9, a_M 10, a_M 11, a_M 12, a_M 13] → va_D A ws) (hA : ∀ q, s.heap.size ≤ q → A q) (hE : EV G A s) (hKK : ∀ (x4 : Int32) (H : Heap) (locs : List Loc) (ls : Array Slot), K x4 → va_P D vwCl ((bX5 cI cJ cC a_M M_pipes M_used M_taped M_at M_statements M_hasImage M_isKeeping M_cursor M_nextAt M_nextMost M_rowMany M_refused M_setting M_hole M_pipeAt M_chance M_weight M_tape M_letter M_letterAt M_told M_kept M_then M_row)) H → va_S A s.heap H locs → lv_has ls 5 [(4, .int x4)] → W p l e ({ frames := 1, cells := 0, slots := 0, locals := 21 }) s m ([.ref (a_M 0), .int p1, .int p2] : List Value).toArray below meth c H locs 0 0 Q (F0 m 69 ls [])) :
    ∀ (n : Nat) (x4 : Int32) (H : Heap) (locs : List Loc) (ls : Array Slot), lpX5_wire_46 K x1 x2 n x4 → va_P D vwCl ((bX5 cI cJ cC a_M M_pipes M_used M_taped M_at M_statements M_hasImage M_isKeeping M_cursor M_nextAt M_nextMost M_rowMany M_refused M_setting M_hole M_pipeAt M_chance M_weight M_tape M_letter M_letterAt M_told M_kept M_then M_row)) H → va_S A s.heap H locs → lv_has ls 5 [(1, .int x1), (2, .int x2), (4, .int x4)] → W p l e ({ frames := 1, cells := 0, slots := 0, locals := 21 }) s m ([.ref (a_M 0), .int p1, .int p2] : List Value).toArray below meth c H locs 0 0 Q (F0 m 46 ls []) := by
  obtain ⟨hx, hb, hml, hown, ht⟩ := id S
  intro n
  induction n with
  | zero =>
    intro x4 H locs ls h
    exact absurd h (by simp [lpX5_wire_46])
  | succ n ih =>
    intro x4 H locs ls h hP hS hl
    rw [lpX5_wire_46] at h
    refine lv_iload hx hb dX5_wire_46 (lv_at hl 2 rfl) ?_
    refine lv_iload hx hb dX5_wire_48 (lv_at hl 2 rfl) ?_
    refine lv_imul hx hb dX5_wire_50 ?_
    refine lv_iload_n hx hb dX5_wire_51 rfl (lv_at hl 0 rfl) ?_
    refine lv_iload_n hx hb dX5_wire_52 rfl (lv_at hl 0 rfl) ?_
    refine lv_imul hx hb dX5_wire_53 ?_
    refine lv_iconst (v := (4 : Int32)) hx hb dX5_wire_54 (by decide) ?_
    refine lv_iload_n hx hb dX5_wire_55 rfl (lv_at hl 1 rfl) ?_
    refine lv_imul hx hb dX5_wire_56 ?_
    refine lv_iload_n hx hb dX5_wire_57 rfl (lv_at hl 1 rfl) ?_
    refine lv_imul hx hb dX5_wire_58 ?_
    refine lv_iadd hx hb dX5_wire_59 ?_
    refine lv_icmp_ge (tgt := 69) hx hb dX5_wire_60 (by decide) (fun z => ?_) (fun z => ?_)
    · replace h := h.1 z
      exact hKK x4 _ _ _ h hP hS (lv_sub hl [2] rfl)
    · replace h := h.2 z
      refine lv_iinc (v := x4 + (1 : Int32)) (lv' := [(4, .int (x4 + (1 : Int32))), (1, .int x1), (2, .int x2)]) hx hb dX5_wire_63 hl (k := 2) rfl (by rfl) (by decide) rfl (fun ls hl => ?_)
      refine lv_goto (tgt := 46) hx hb dX5_wire_66 (by decide) ?_
      exact ih (x4 + (1 : Int32)) _ _ _ h hP hS (lv_sub hl [1, 2, 0] rfl)
def wpX5_wire (post : Int32 → (Nat → Int32) → Prop) (M_refused : Nat → Int32) (p1 : Int32) (p2 : Int32) : Prop := ((p1 < (1 : Int32) → (wpX5_no (fun (r_1 : Int32) (M_refused_2 : Nat → Int32) => post r_1 M_refused_2) M_refused (-4 : Int32))) ∧ (¬ (p1 < (1 : Int32)) → ((((0 : Int32) ≤ p2 → ((((40 : Int32) < p1 → (wpX5_no (fun (r_3 : Int32) (M_refused_4 : Nat → Int32) => post r_3 M_refused_4) M_refused (-6 : Int32))) ∧ (¬ ((40 : Int32) < p1) → (((p2 ≤ (40 : Int32) → (∃ n_5 : Nat, lpX5_wire_46 (fun (x4_6 : Int32) => post x4_6 M_refused) p1 p2 n_5 p1)) ∧ (¬ (p2 ≤ (40 : Int32)) → (wpX5_no (fun (r_7 : Int32) (M_refused_8 : Nat → Int32) => post r_7 M_refused_8) M_refused (-6 : Int32))))))))) ∧ (¬ ((0 : Int32) ≤ p2) → (wpX5_no (fun (r_9 : Int32) (M_refused_10 : Nat → Int32) => post r_9 M_refused_10) M_refused (-4 : Int32)))))))
set_option maxHeartbeats 4000000 in
set_option maxRecDepth 100000 in
theorem mX5_wire (l : Launch) (D : va_G) (cI cJ cC : ClassId) (G : Nat → Nat → Nat) (a_M : Nat → Nat) (sz : Nat) (M_pipes : Int32) (M_used : Int32) (M_taped : Int32) (M_at : Int32) (M_statements : Int32) (M_hasImage : Int32) (M_isKeeping : Int32) (M_cursor : Int32) (M_nextAt : Int32) (M_nextMost : Int64) (M_rowMany : Int32) (M_refused : Nat → Int32) (M_setting : Nat → Int32) (M_hole : Nat → Int32) (M_pipeAt : Nat → Int32) (M_chance : Nat → Int32) (M_weight : Nat → Int32) (M_tape : Nat → Int32) (M_letter : Nat → Int32) (M_letterAt : Nat → Int32) (M_told : Nat → Int32) (M_kept : Nat → Int32) (M_then : Nat → Int64) (M_row : Nat → Int32) (p1 : Int32) (p2 : Int32) (post : Int32 → (Nat → Int32) → Prop) (h : wpX5_wire post M_refused p1 p2) : Met l yX5_wire (wz yX5_wire cX5_wire 5 (some .int)) ({ frames := 1, cells := 0, slots := 0, locals := 21 }) (va_Pc [.ref (a_M 0), .int p1, .int p2] (PW D (tz cI cJ cC) G ((bX5 cI cJ cC a_M M_pipes M_used M_taped M_at M_statements M_hasImage M_isKeeping M_cursor M_nextAt M_nextMost M_rowMany M_refused M_setting M_hole M_pipeAt M_chance M_weight M_tape M_letter M_letterAt M_told M_kept M_then M_row)) sz)) (va_Qi (fun (r : Int32) (u : (Nat → Int32)) => post r u) (fun (u : (Nat → Int32)) t => va_P D vwCl ((bX5 cI cJ cC a_M M_pipes M_used M_taped M_at M_statements M_hasImage M_isKeeping M_cursor M_nextAt M_nextMost M_rowMany u M_setting M_hole M_pipeAt M_chance M_weight M_tape M_letter M_letterAt M_told M_kept M_then M_row)) t.heap) (va_A ((bX5 cI cJ cC a_M M_pipes M_used M_taped M_at M_statements M_hasImage M_isKeeping M_cursor M_nextAt M_nextMost M_rowMany M_refused M_setting M_hole M_pipeAt M_chance M_weight M_tape M_letter M_letterAt M_told M_kept M_then M_row)) sz)) 0 0 (va_A ((bX5 cI cJ cC a_M M_pipes M_used M_taped M_at M_statements M_hasImage M_isKeeping M_cursor M_nextAt M_nextMost M_rowMany M_refused M_setting M_hole M_pipeAt M_chance M_weight M_tape M_letter M_letterAt M_told M_kept M_then M_row)) sz) := by
  refine zmi (gw := fun (u : (Nat → Int32)) => (bX5 cI cJ cC a_M M_pipes M_used M_taped M_at M_statements M_hasImage M_isKeeping M_cursor M_nextAt M_nextMost M_rowMany u M_setting M_hole M_pipeAt M_chance M_weight M_tape M_letter M_letterAt M_told M_kept M_then M_row)) (plainFor_of_name (by decide)) (Nat.le_of_ble_eq_true rfl) ?_
  intro p e s m below meth c A Q ls S hK hD hA hE hP hl hret
  obtain ⟨hx, hb, hml, hown, ht⟩ := id S
  have hS : va_S A s.heap s.heap [] := va_S.rf
  have hDD : ∀ ws : va_W, ws.map (fun q => q.1) = [a_M 0, a_M 1, a_M 2, a_M 3, a_M 4, a_M 5, a_M 6, a_M 7, a_M 8, a_M 9, a_M 10, a_M 11, a_M 12, a_M 13] → va_D A ws := fun ws hw => zD hD (hw.trans rfl)
  have hl : lv_has ls 5 [(0, .ref (a_M 0)), (1, .int p1), (2, .int p2)] := hl
  unfold wpX5_wire at h
  refine lv_iload_n hx hb dX5_wire_0 rfl (lv_at hl 1 rfl) ?_
  refine lv_iconst (v := (1 : Int32)) hx hb dX5_wire_1 (by decide) ?_
  refine lv_icmp_lt (tgt := 9) hx hb dX5_wire_2 (by decide) (fun z => ?_) (fun z => ?_)
  · replace h := h.1 z
    refine lv_bipush (v := (-4 : Int32)) hx hb dX5_wire_9 (by decide) ?_
    refine lv_goto (tgt := 32) hx hb dX5_wire_11 (by decide) ?_
    refine lv_istore_n (lv' := [(3, .int (-4 : Int32)), (0, .ref (a_M 0)), (1, .int p1), (2, .int p2)]) hx hb dX5_wire_32 rfl hl (by decide) rfl (fun ls hl => ?_)
    refine lv_iload_n hx hb dX5_wire_33 rfl (lv_at hl 0 rfl) ?_
    refine lv_if_eq (tgt := 43) hx hb dX5_wire_34 (by decide) (fun z => ?_) (fun z => ?_)
    · exact absurd z (by decide)
    · refine lv_aload_n hx hb dX5_wire_37 rfl (lv_at hl 1 rfl) ?_
      refine lv_iload_n hx hb dX5_wire_38 rfl (lv_at hl 0 rfl) ?_
      refine zci hA (hDD _ rfl) hS (zrunV (As := [.int (-4 : Int32)]) (rest := []) S hK hA hE hP (hDD _ rfl) hS (mX5_no l D cI cJ cC G a_M _ M_pipes M_used M_taped M_at M_statements M_hasImage M_isKeeping M_cursor M_nextAt M_nextMost M_rowMany M_refused M_setting M_hole M_pipeAt M_chance M_weight M_tape M_letter M_letterAt M_told M_kept M_then M_row (-4 : Int32) _ h) kX5_no ml_X5_66 ⟨rfl, rfl, by decide, by decide⟩ (q0 := 0) (ci := 5) rfl rfl rfl rfl hl.1 rfl (Nat.le_of_ble_eq_true rfl) dX5_wire_39 ⟨Nat.zero_le _, Nat.zero_le _⟩) (fun r_1 M_refused_2 H locs h hP1 hk1 hS => ?_)
      try dsimp only at h
      have hP : va_P D vwCl ((bX5 cI cJ cC a_M M_pipes M_used M_taped M_at M_statements M_hasImage M_isKeeping M_cursor M_nextAt M_nextMost M_rowMany M_refused_2 M_setting M_hole M_pipeAt M_chance M_weight M_tape M_letter M_letterAt M_told M_kept M_then M_row)) H := hP1
      exact hret r_1 M_refused_2 _ _ _ _ rfl h hP hS dX5_wire_42
  · replace h := h.2 z
    refine lv_iload_n hx hb dX5_wire_5 rfl (lv_at hl 2 rfl) ?_
    refine lv_if_ge (tgt := 14) hx hb dX5_wire_6 (by decide) (fun z => ?_) (fun z => ?_)
    · replace h := h.1 z
      refine lv_iload_n hx hb dX5_wire_14 rfl (lv_at hl 1 rfl) ?_
      refine lv_bipush (v := (40 : Int32)) hx hb dX5_wire_15 (by decide) ?_
      refine lv_icmp_gt (tgt := 26) hx hb dX5_wire_17 (by decide) (fun z => ?_) (fun z => ?_)
      · replace h := h.1 z
        refine lv_bipush (v := (-6 : Int32)) hx hb dX5_wire_26 (by decide) ?_
        refine lv_goto (tgt := 32) hx hb dX5_wire_28 (by decide) ?_
        refine lv_istore_n (lv' := [(3, .int (-6 : Int32)), (0, .ref (a_M 0)), (1, .int p1), (2, .int p2)]) hx hb dX5_wire_32 rfl hl (by decide) rfl (fun ls hl => ?_)
        refine lv_iload_n hx hb dX5_wire_33 rfl (lv_at hl 0 rfl) ?_
        refine lv_if_eq (tgt := 43) hx hb dX5_wire_34 (by decide) (fun z => ?_) (fun z => ?_)
        · exact absurd z (by decide)
        · refine lv_aload_n hx hb dX5_wire_37 rfl (lv_at hl 1 rfl) ?_
          refine lv_iload_n hx hb dX5_wire_38 rfl (lv_at hl 0 rfl) ?_
          refine zci hA (hDD _ rfl) hS (zrunV (As := [.int (-6 : Int32)]) (rest := []) S hK hA hE hP (hDD _ rfl) hS (mX5_no l D cI cJ cC G a_M _ M_pipes M_used M_taped M_at M_statements M_hasImage M_isKeeping M_cursor M_nextAt M_nextMost M_rowMany M_refused M_setting M_hole M_pipeAt M_chance M_weight M_tape M_letter M_letterAt M_told M_kept M_then M_row (-6 : Int32) _ h) kX5_no ml_X5_66 ⟨rfl, rfl, by decide, by decide⟩ (q0 := 0) (ci := 5) rfl rfl rfl rfl hl.1 rfl (Nat.le_of_ble_eq_true rfl) dX5_wire_39 ⟨Nat.zero_le _, Nat.zero_le _⟩) (fun r_3 M_refused_4 H locs h hP1 hk1 hS => ?_)
          try dsimp only at h
          have hP : va_P D vwCl ((bX5 cI cJ cC a_M M_pipes M_used M_taped M_at M_statements M_hasImage M_isKeeping M_cursor M_nextAt M_nextMost M_rowMany M_refused_4 M_setting M_hole M_pipeAt M_chance M_weight M_tape M_letter M_letterAt M_told M_kept M_then M_row)) H := hP1
          exact hret r_3 M_refused_4 _ _ _ _ rfl h hP hS dX5_wire_42
      · replace h := h.2 z
        refine lv_iload_n hx hb dX5_wire_20 rfl (lv_at hl 2 rfl) ?_
        refine lv_bipush (v := (40 : Int32)) hx hb dX5_wire_21 (by decide) ?_
        refine lv_icmp_le (tgt := 31) hx hb dX5_wire_23 (by decide) (fun z => ?_) (fun z => ?_)
        · replace h := h.1 z
          refine lv_iconst (v := (0 : Int32)) hx hb dX5_wire_31 (by decide) ?_
          refine lv_istore_n (lv' := [(3, .int (0 : Int32)), (0, .ref (a_M 0)), (1, .int p1), (2, .int p2)]) hx hb dX5_wire_32 rfl hl (by decide) rfl (fun ls hl => ?_)
          refine lv_iload_n hx hb dX5_wire_33 rfl (lv_at hl 0 rfl) ?_
          refine lv_if_eq (tgt := 43) hx hb dX5_wire_34 (by decide) (fun z => ?_) (fun z => ?_)
          · refine lv_iload_n hx hb dX5_wire_43 rfl (lv_at hl 2 rfl) ?_
            refine lv_istore (lv' := [(4, .int p1), (3, .int (0 : Int32)), (0, .ref (a_M 0)), (1, .int p1), (2, .int p2)]) hx hb dX5_wire_44 hl (by decide) rfl (fun ls hl => ?_)
            obtain ⟨n_5, h⟩ := h
            refine wX5_wire_46 l D cI cJ cC G a_M p1 p2 p1 p2 M_pipes M_used M_taped M_at M_statements M_hasImage M_isKeeping M_cursor M_nextAt M_nextMost M_rowMany M_refused M_setting M_hole M_pipeAt M_chance M_weight M_tape M_letter M_letterAt M_told M_kept M_then M_row _ S hK hDD hA hE (fun x4_6 H locs ls h hP hS hl => ?_) n_5 p1 _ _ _ h hP hS (lv_sub hl [3, 4, 0] rfl)
            try dsimp only at h
            refine lv_iload hx hb dX5_wire_69 (lv_at hl 0 rfl) ?_
            exact hret x4_6 M_refused _ _ _ _ rfl h hP hS dX5_wire_71
          · exact absurd (by decide) z
        · replace h := h.2 z
          refine lv_bipush (v := (-6 : Int32)) hx hb dX5_wire_26 (by decide) ?_
          refine lv_goto (tgt := 32) hx hb dX5_wire_28 (by decide) ?_
          refine lv_istore_n (lv' := [(3, .int (-6 : Int32)), (0, .ref (a_M 0)), (1, .int p1), (2, .int p2)]) hx hb dX5_wire_32 rfl hl (by decide) rfl (fun ls hl => ?_)
          refine lv_iload_n hx hb dX5_wire_33 rfl (lv_at hl 0 rfl) ?_
          refine lv_if_eq (tgt := 43) hx hb dX5_wire_34 (by decide) (fun z => ?_) (fun z => ?_)
          · exact absurd z (by decide)
          · refine lv_aload_n hx hb dX5_wire_37 rfl (lv_at hl 1 rfl) ?_
            refine lv_iload_n hx hb dX5_wire_38 rfl (lv_at hl 0 rfl) ?_
            refine zci hA (hDD _ rfl) hS (zrunV (As := [.int (-6 : Int32)]) (rest := []) S hK hA hE hP (hDD _ rfl) hS (mX5_no l D cI cJ cC G a_M _ M_pipes M_used M_taped M_at M_statements M_hasImage M_isKeeping M_cursor M_nextAt M_nextMost M_rowMany M_refused M_setting M_hole M_pipeAt M_chance M_weight M_tape M_letter M_letterAt M_told M_kept M_then M_row (-6 : Int32) _ h) kX5_no ml_X5_66 ⟨rfl, rfl, by decide, by decide⟩ (q0 := 0) (ci := 5) rfl rfl rfl rfl hl.1 rfl (Nat.le_of_ble_eq_true rfl) dX5_wire_39 ⟨Nat.zero_le _, Nat.zero_le _⟩) (fun r_7 M_refused_8 H locs h hP1 hk1 hS => ?_)
            try dsimp only at h
            have hP : va_P D vwCl ((bX5 cI cJ cC a_M M_pipes M_used M_taped M_at M_statements M_hasImage M_isKeeping M_cursor M_nextAt M_nextMost M_rowMany M_refused_8 M_setting M_hole M_pipeAt M_chance M_weight M_tape M_letter M_letterAt M_told M_kept M_then M_row)) H := hP1
            exact hret r_7 M_refused_8 _ _ _ _ rfl h hP hS dX5_wire_42
    · replace h := h.2 z
      refine lv_bipush (v := (-4 : Int32)) hx hb dX5_wire_9 (by decide) ?_
      refine lv_goto (tgt := 32) hx hb dX5_wire_11 (by decide) ?_
      refine lv_istore_n (lv' := [(3, .int (-4 : Int32)), (0, .ref (a_M 0)), (1, .int p1), (2, .int p2)]) hx hb dX5_wire_32 rfl hl (by decide) rfl (fun ls hl => ?_)
      refine lv_iload_n hx hb dX5_wire_33 rfl (lv_at hl 0 rfl) ?_
      refine lv_if_eq (tgt := 43) hx hb dX5_wire_34 (by decide) (fun z => ?_) (fun z => ?_)
      · exact absurd z (by decide)
      · refine lv_aload_n hx hb dX5_wire_37 rfl (lv_at hl 1 rfl) ?_
        refine lv_iload_n hx hb dX5_wire_38 rfl (lv_at hl 0 rfl) ?_
        refine zci hA (hDD _ rfl) hS (zrunV (As := [.int (-4 : Int32)]) (rest := []) S hK hA hE hP (hDD _ rfl) hS (mX5_no l D cI cJ cC G a_M _ M_pipes M_used M_taped M_at M_statements M_hasImage M_isKeeping M_cursor M_nextAt M_nextMost M_rowMany M_refused M_setting M_hole M_pipeAt M_chance M_weight M_tape M_letter M_letterAt M_told M_kept M_then M_row (-4 : Int32) _ h) kX5_no ml_X5_66 ⟨rfl, rfl, by decide, by decide⟩ (q0 := 0) (ci := 5) rfl rfl rfl rfl hl.1 rfl (Nat.le_of_ble_eq_true rfl) dX5_wire_39 ⟨Nat.zero_le _, Nat.zero_le _⟩) (fun r_9 M_refused_10 H locs h hP1 hk1 hS => ?_)
        try dsimp only at h
        have hP : va_P D vwCl ((bX5 cI cJ cC a_M M_pipes M_used M_taped M_at M_statements M_hasImage M_isKeeping M_cursor M_nextAt M_nextMost M_rowMany M_refused_10 M_setting M_hole M_pipeAt M_chance M_weight M_tape M_letter M_letterAt M_told M_kept M_then M_row)) H := hP1
        exact hret r_9 M_refused_10 _ _ _ _ rfl h hP hS dX5_wire_42
def wpX5_twin (post : Int32 → (Nat → Int32) → Prop) (M_refused : Nat → Int32) (M_setting : Nat → Int32) (M_weight : Nat → Int32) (p1 : Int32) : Prop := wpX5_isInch (fun (r_1 : Int32) => ((r_1 = (0 : Int32) → (wpX5_no (fun (r_2 : Int32) (M_refused_3 : Nat → Int32) => post r_2 M_refused_3) M_refused (-1 : Int32))) ∧ (¬ (r_1 = (0 : Int32)) → (wpX5_leftBy (fun (r_4 : Int32) => post r_4 M_refused) M_setting M_weight ((47 : Int32) - p1) (1 : Int32))))) p1
set_option maxHeartbeats 4000000 in
set_option maxRecDepth 100000 in
theorem mX5_twin (l : Launch) (D : va_G) (cI cJ cC : ClassId) (G : Nat → Nat → Nat) (a_M : Nat → Nat) (sz : Nat) (M_pipes : Int32) (M_used : Int32) (M_taped : Int32) (M_at : Int32) (M_statements : Int32) (M_hasImage : Int32) (M_isKeeping : Int32) (M_cursor : Int32) (M_nextAt : Int32) (M_nextMost : Int64) (M_rowMany : Int32) (M_refused : Nat → Int32) (M_setting : Nat → Int32) (M_hole : Nat → Int32) (M_pipeAt : Nat → Int32) (M_chance : Nat → Int32) (M_weight : Nat → Int32) (M_tape : Nat → Int32) (M_letter : Nat → Int32) (M_letterAt : Nat → Int32) (M_told : Nat → Int32) (M_kept : Nat → Int32) (M_then : Nat → Int64) (M_row : Nat → Int32) (p1 : Int32) (post : Int32 → (Nat → Int32) → Prop) (h : wpX5_twin post M_refused M_setting M_weight p1) : Met l yX5_twin (wz yX5_twin cX5_twin 2 (some .int)) ({ frames := 5, cells := 0, slots := 0, locals := 112 }) (va_Pc [.ref (a_M 0), .int p1] (PW D (tz cI cJ cC) G ((bX5 cI cJ cC a_M M_pipes M_used M_taped M_at M_statements M_hasImage M_isKeeping M_cursor M_nextAt M_nextMost M_rowMany M_refused M_setting M_hole M_pipeAt M_chance M_weight M_tape M_letter M_letterAt M_told M_kept M_then M_row)) sz)) (va_Qi (fun (r : Int32) (u : (Nat → Int32)) => post r u) (fun (u : (Nat → Int32)) t => va_P D vwCl ((bX5 cI cJ cC a_M M_pipes M_used M_taped M_at M_statements M_hasImage M_isKeeping M_cursor M_nextAt M_nextMost M_rowMany u M_setting M_hole M_pipeAt M_chance M_weight M_tape M_letter M_letterAt M_told M_kept M_then M_row)) t.heap) (va_A ((bX5 cI cJ cC a_M M_pipes M_used M_taped M_at M_statements M_hasImage M_isKeeping M_cursor M_nextAt M_nextMost M_rowMany M_refused M_setting M_hole M_pipeAt M_chance M_weight M_tape M_letter M_letterAt M_told M_kept M_then M_row)) sz)) 0 0 (va_A ((bX5 cI cJ cC a_M M_pipes M_used M_taped M_at M_statements M_hasImage M_isKeeping M_cursor M_nextAt M_nextMost M_rowMany M_refused M_setting M_hole M_pipeAt M_chance M_weight M_tape M_letter M_letterAt M_told M_kept M_then M_row)) sz) := by
  refine zmi (gw := fun (u : (Nat → Int32)) => (bX5 cI cJ cC a_M M_pipes M_used M_taped M_at M_statements M_hasImage M_isKeeping M_cursor M_nextAt M_nextMost M_rowMany u M_setting M_hole M_pipeAt M_chance M_weight M_tape M_letter M_letterAt M_told M_kept M_then M_row)) (plainFor_of_name (by decide)) (Nat.le_of_ble_eq_true rfl) ?_
  intro p e s m below meth c A Q ls S hK hD hA hE hP hl hret
  obtain ⟨hx, hb, hml, hown, ht⟩ := id S
  have hS : va_S A s.heap s.heap [] := va_S.rf
  have hDD : ∀ ws : va_W, ws.map (fun q => q.1) = [a_M 0, a_M 1, a_M 2, a_M 3, a_M 4, a_M 5, a_M 6, a_M 7, a_M 8, a_M 9, a_M 10, a_M 11, a_M 12, a_M 13] → va_D A ws := fun ws hw => zD hD (hw.trans rfl)
  have hl : lv_has ls 2 [(0, .ref (a_M 0)), (1, .int p1)] := hl
  unfold wpX5_twin at h
  refine lv_iload_n hx hb dX5_twin_0 rfl (lv_at hl 1 rfl) ?_
  refine zci hA zD0 hS (zrunS (As := [.int p1]) (rest := []) S hK hA hE zP0 zD0 hS (mX5_isInch l D cI cJ cC G _ p1 _ h) kX5_isInch ml_X5_113 ⟨rfl, rfl, by decide, by decide⟩ rfl hl.1 rfl (Nat.le_of_ble_eq_true rfl) dX5_twin_1 ⟨Nat.zero_le _, Nat.zero_le _⟩) (fun r_1 u H locs h hP1 hk1 hS => ?_)
  try dsimp only at h
  have hP : va_P D vwCl ((bX5 cI cJ cC a_M M_pipes M_used M_taped M_at M_statements M_hasImage M_isKeeping M_cursor M_nextAt M_nextMost M_rowMany M_refused M_setting M_hole M_pipeAt M_chance M_weight M_tape M_letter M_letterAt M_told M_kept M_then M_row)) H := zKeep hP hk1
  refine lv_if_eq (tgt := 19) hx hb dX5_twin_4 (by decide) (fun z => ?_) (fun z => ?_)
  · replace h := h.1 z
    refine lv_aload_n hx hb dX5_twin_19 rfl (lv_at hl 0 rfl) ?_
    refine lv_iconst (v := (-1 : Int32)) hx hb dX5_twin_20 (by decide) ?_
    refine zci hA (hDD _ rfl) hS (zrunV (As := [.int (-1 : Int32)]) (rest := []) S hK hA hE hP (hDD _ rfl) hS (mX5_no l D cI cJ cC G a_M _ M_pipes M_used M_taped M_at M_statements M_hasImage M_isKeeping M_cursor M_nextAt M_nextMost M_rowMany M_refused M_setting M_hole M_pipeAt M_chance M_weight M_tape M_letter M_letterAt M_told M_kept M_then M_row (-1 : Int32) _ h) kX5_no ml_X5_66 ⟨rfl, rfl, by decide, by decide⟩ (q0 := 0) (ci := 5) rfl rfl rfl rfl hl.1 rfl (Nat.le_of_ble_eq_true rfl) dX5_twin_21 ⟨Nat.zero_le _, Nat.zero_le _⟩) (fun r_2 M_refused_3 H locs h hP1 hk1 hS => ?_)
    try dsimp only at h
    have hP : va_P D vwCl ((bX5 cI cJ cC a_M M_pipes M_used M_taped M_at M_statements M_hasImage M_isKeeping M_cursor M_nextAt M_nextMost M_rowMany M_refused_3 M_setting M_hole M_pipeAt M_chance M_weight M_tape M_letter M_letterAt M_told M_kept M_then M_row)) H := hP1
    exact hret r_2 M_refused_3 _ _ _ _ rfl h hP hS dX5_twin_24
  · replace h := h.2 z
    refine lv_aload_n hx hb dX5_twin_7 rfl (lv_at hl 0 rfl) ?_
    refine lv_bipush (v := (47 : Int32)) hx hb dX5_twin_8 (by decide) ?_
    refine lv_iload_n hx hb dX5_twin_10 rfl (lv_at hl 1 rfl) ?_
    refine lv_isub hx hb dX5_twin_11 ?_
    refine lv_iconst (v := (1 : Int32)) hx hb dX5_twin_12 (by decide) ?_
    refine zci hA (hDD _ rfl) hS (zrunV (As := [.int ((47 : Int32) - p1), .int (1 : Int32)]) (rest := []) S hK hA hE hP (hDD _ rfl) hS (mX5_leftBy l D cI cJ cC G a_M _ M_pipes M_used M_taped M_at M_statements M_hasImage M_isKeeping M_cursor M_nextAt M_nextMost M_rowMany M_refused M_setting M_hole M_pipeAt M_chance M_weight M_tape M_letter M_letterAt M_told M_kept M_then M_row ((47 : Int32) - p1) (1 : Int32) _ h) kX5_leftBy ml_X5_120 ⟨rfl, rfl, by decide, by decide⟩ (q0 := 0) (ci := 5) rfl rfl rfl rfl hl.1 rfl (Nat.le_of_ble_eq_true rfl) dX5_twin_13 ⟨Nat.zero_le _, Nat.zero_le _⟩) (fun r_4 u H locs h hP1 hk1 hS => ?_)
    try dsimp only at h
    have hP : va_P D vwCl ((bX5 cI cJ cC a_M M_pipes M_used M_taped M_at M_statements M_hasImage M_isKeeping M_cursor M_nextAt M_nextMost M_rowMany M_refused M_setting M_hole M_pipeAt M_chance M_weight M_tape M_letter M_letterAt M_told M_kept M_then M_row)) H := hP1
    refine lv_goto (tgt := 24) hx hb dX5_twin_16 (by decide) ?_
    exact hret r_4 M_refused _ _ _ _ rfl h hP hS dX5_twin_24
def lpX5_twinLikely_45 (K : Int64 → Int64 → Int32 → Prop) (x1 : Int32) (x2 : Int32) (M_setting : Nat → Int32) (M_weight : Nat → Int32) : Nat → Int64 → Int64 → Int32 → Prop
  | 0, _, _, _ => False
  | n + 1, x4, x6, x8 => (((M_setting 0) ≤ x8 → (K x4 x6 x8)) ∧ (¬ ((M_setting 0) ≤ x8) → (wpX5_isWood (fun (r_6 : Int32) => ((r_6 = (0 : Int32) → (lpX5_twinLikely_45 K x1 x2 M_setting M_weight n x4 x6 (x8 + (1 : Int32)))) ∧ (¬ (r_6 = (0 : Int32)) → (vp_in x8 24 ∧ (wpX5_isWood (fun (r_7 : Int32) => ((r_7 = (0 : Int32) → (lpX5_twinLikely_45 K x1 x2 M_setting M_weight n (x4 + (0 : Int64)) (x6 + ((M_weight x8.toNatClampNeg).toInt64)) (x8 + (1 : Int32)))) ∧ (¬ (r_7 = (0 : Int32)) → (vp_in x8 24 ∧ (lpX5_twinLikely_45 K x1 x2 M_setting M_weight n (x4 + ((M_weight x8.toNatClampNeg).toInt64)) (x6 + ((M_weight x8.toNatClampNeg).toInt64)) (x8 + (1 : Int32))))))) M_setting x2 x8))))) M_setting ((47 : Int32) - x1) x8)))
set_option maxHeartbeats 4000000 in
set_option maxRecDepth 100000 in
theorem wX5_twinLikely_45 (l : Launch) (D : va_G) (cI cJ cC : ClassId) (G : Nat → Nat → Nat) (a_M : Nat → Nat) {p : Program} {e : Env} {s : State} {m : MethodId} {below : List Frame} {meth : Method} {c : Code} {A : Nat → Prop} {Q : State → Prop} (p1 : Int32) (p2 : Int32) (p3 : Int32) (x1 : Int32) (x2 : Int32) (x3 : Int32) (M_pipes : Int32) (M_used : Int32) (M_taped : Int32) (M_at : Int32) (M_statements : Int32) (M_hasImage : Int32) (M_isKeeping : Int32) (M_cursor : Int32) (M_nextAt : Int32) (M_nextMost : Int64) (M_rowMany : Int32) (M_refused : Nat → Int32) (M_setting : Nat → Int32) (M_hole : Nat → Int32) (M_pipeAt : Nat → Int32) (M_chance : Nat → Int32) (M_weight : Nat → Int32) (M_tape : Nat → Int32) (M_letter : Nat → Int32) (M_letterAt : Nat → Int32) (M_told : Nat → Int32) (M_kept : Nat → Int32) (M_then : Nat → Int64) (M_row : Nat → Int32) (K : Int64 → Int64 → Int32 → Prop) (S : CallFix p m c cX5_twinLikely 9 s ([.ref (a_M 0), .int p1, .int p2, .int p3] : List Value).toArray bg RX5) (hK : va_K D vwCl (tz cI cJ cC) s) (hDD : ∀ ws : va_W, ws.map (fun q => q.1) = [a_M 0, a_M 1, a_M 2, a_M 3, a_M 4, a_M 5, a_M 6, a_M 7, a_M 8, a_M 9, a_M 10, a_M 11, a_M 12, a_M 13] → va_D A ws) (hA : ∀ q, s.heap.size ≤ q → A q) (hE : EV G A s) (hKK : ∀ (x4 : Int64) (x6 : Int64) (x8 : Int32) (H : Heap) (locs : List Loc) (ls : Array Slot), K x4 x6 x8 → va_P D vwCl ((bX5 cI cJ cC a_M M_pipes M_used M_taped M_at M_statements M_hasImage M_isKeeping M_cursor M_nextAt M_nextMost M_rowMany M_refused M_setting M_hole M_pipeAt M_chance M_weight M_tape M_letter M_letterAt M_told M_kept M_then M_row)) H → va_S A s.heap H locs → lv_has ls 9 [(3, .int x3), (4, .long x4), (6, .long x6)] → W p l e ({ frames := 4, cells := 0, slots := 0, locals := 88 }) s m ([.ref (a_M 0), .int p1, .int p2, .int p3] : List Value).toArray below meth c H locs 0 0 Q (F0 m 118 ls [])) :
    ∀ (n : Nat) (x4 : Int64) (x6 : Int64) (x8 : Int32) (H : Heap) (locs : List Loc) (ls : Array Slot), lpX5_twinLikely_45 K x1 x2 M_setting M_weight n x4 x6 x8 → va_P D vwCl ((bX5 cI cJ cC a_M M_pipes M_used M_taped M_at M_statements M_hasImage M_isKeeping M_cursor M_nextAt M_nextMost M_rowMany M_refused M_setting M_hole M_pipeAt M_chance M_weight M_tape M_letter M_letterAt M_told M_kept M_then M_row)) H → va_S A s.heap H locs → lv_has ls 9 [(0, .ref (a_M 0)), (1, .int x1), (2, .int x2), (3, .int x3), (4, .long x4), (6, .long x6), (8, .int x8)] → W p l e ({ frames := 4, cells := 0, slots := 0, locals := 88 }) s m ([.ref (a_M 0), .int p1, .int p2, .int p3] : List Value).toArray below meth c H locs 0 0 Q (F0 m 45 ls []) := by
  obtain ⟨hx, hb, hml, hown, ht⟩ := id S
  intro n
  induction n with
  | zero =>
    intro x4 x6 x8 H locs ls h
    exact absurd h (by simp [lpX5_twinLikely_45])
  | succ n ih =>
    intro x4 x6 x8 H locs ls h hP hS hl
    rw [lpX5_twinLikely_45] at h
    refine lv_iload hx hb dX5_twinLikely_45 (lv_at hl 6 rfl) ?_
    refine lv_aload_n hx hb dX5_twinLikely_47 rfl (lv_at hl 0 rfl) ?_
    refine va_get (D := D) (ci := 5) (v := .ref (a_M 2)) (C := RX5) (T := TX5) (N := 24) hx hb ht inX5 hown hK hP 0 rfl rfl 1 (by decide) (ht _ fl_X5_13) (fun _ h9 => h9) rfl dX5_twinLikely_48 ?_
    refine lv_iconst (v := (0 : Int32)) hx hb dX5_twinLikely_51 (by decide) ?_
    refine va_iald hx hb hK hP 2 0 rfl rfl (by unfold vp_in; decide) dX5_twinLikely_52 ?_
    refine zti (y := M_setting 0) (by rfl) ?_
    refine lv_icmp_ge (tgt := 118) hx hb dX5_twinLikely_53 (by decide) (fun z => ?_) (fun z => ?_)
    · replace h := h.1 z
      exact hKK x4 x6 x8 _ _ _ h hP hS (lv_sub hl [3, 4, 5] rfl)
    · replace h := h.2 z
      refine lv_aload_n hx hb dX5_twinLikely_56 rfl (lv_at hl 0 rfl) ?_
      refine lv_bipush (v := (47 : Int32)) hx hb dX5_twinLikely_57 (by decide) ?_
      refine lv_iload_n hx hb dX5_twinLikely_59 rfl (lv_at hl 1 rfl) ?_
      refine lv_isub hx hb dX5_twinLikely_60 ?_
      refine lv_iload hx hb dX5_twinLikely_61 (lv_at hl 6 rfl) ?_
      refine zci hA (hDD _ rfl) hS (zrunV (As := [.int ((47 : Int32) - x1), .int x8]) (rest := []) S hK hA hE hP (hDD _ rfl) hS (mX5_isWood l D cI cJ cC G a_M _ M_pipes M_used M_taped M_at M_statements M_hasImage M_isKeeping M_cursor M_nextAt M_nextMost M_rowMany M_refused M_setting M_hole M_pipeAt M_chance M_weight M_tape M_letter M_letterAt M_told M_kept M_then M_row ((47 : Int32) - x1) x8 _ h) kX5_isWood ml_X5_171 ⟨rfl, rfl, by decide, by decide⟩ (q0 := 0) (ci := 5) rfl rfl rfl rfl hl.1 rfl (Nat.le_of_ble_eq_true rfl) dX5_twinLikely_63 ⟨Nat.zero_le _, Nat.zero_le _⟩) (fun r_6 u H locs h hP1 hk1 hS => ?_)
      try dsimp only at h
      have hP : va_P D vwCl ((bX5 cI cJ cC a_M M_pipes M_used M_taped M_at M_statements M_hasImage M_isKeeping M_cursor M_nextAt M_nextMost M_rowMany M_refused M_setting M_hole M_pipeAt M_chance M_weight M_tape M_letter M_letterAt M_told M_kept M_then M_row)) H := hP1
      refine lv_if_ne (tgt := 72) hx hb dX5_twinLikely_66 (by decide) (fun z => ?_) (fun z => ?_)
      · replace h := h.2 z
        refine lv_lload hx hb dX5_twinLikely_72 (lv_at hl 5 rfl) ?_
        refine lv_aload_n hx hb dX5_twinLikely_74 rfl (lv_at hl 0 rfl) ?_
        refine va_get (D := D) (ci := 5) (v := .ref (a_M 6)) (C := RX5) (T := TX5) (N := 24) hx hb ht inX5 hown hK hP 0 rfl rfl 5 (by decide) (ht _ fl_X5_25) (fun _ h9 => h9) rfl dX5_twinLikely_75 ?_
        refine lv_iload hx hb dX5_twinLikely_78 (lv_at hl 6 rfl) ?_
        obtain ⟨hin, h⟩ := h
        refine va_iald hx hb hK hP 6 0 rfl rfl hin dX5_twinLikely_80 ?_
        refine lv_i2l hx hb dX5_twinLikely_81 rfl ?_
        refine lv_ladd hx hb dX5_twinLikely_82 ?_
        refine lv_lstore (lv' := [(6, .long (x6 + ((M_weight x8.toNatClampNeg).toInt64))), (0, .ref (a_M 0)), (1, .int x1), (2, .int x2), (3, .int x3), (4, .long x4), (8, .int x8)]) hx hb dX5_twinLikely_83 hl (by decide) rfl (fun ls hl => ?_)
        refine lv_lload hx hb dX5_twinLikely_85 (lv_at hl 5 rfl) ?_
        refine lv_aload_n hx hb dX5_twinLikely_87 rfl (lv_at hl 1 rfl) ?_
        refine lv_iload_n hx hb dX5_twinLikely_88 rfl (lv_at hl 3 rfl) ?_
        refine lv_iload hx hb dX5_twinLikely_89 (lv_at hl 6 rfl) ?_
        refine zci hA (hDD _ rfl) hS (zrunV (As := [.int x2, .int x8]) (rest := [.long x4]) S hK hA hE hP (hDD _ rfl) hS (mX5_isWood l D cI cJ cC G a_M _ M_pipes M_used M_taped M_at M_statements M_hasImage M_isKeeping M_cursor M_nextAt M_nextMost M_rowMany M_refused M_setting M_hole M_pipeAt M_chance M_weight M_tape M_letter M_letterAt M_told M_kept M_then M_row x2 x8 _ h) kX5_isWood ml_X5_171 ⟨rfl, rfl, by decide, by decide⟩ (q0 := 0) (ci := 5) rfl rfl rfl rfl hl.1 rfl (Nat.le_of_ble_eq_true rfl) dX5_twinLikely_91 ⟨Nat.zero_le _, Nat.zero_le _⟩) (fun r_7 u H locs h hP1 hk1 hS => ?_)
        try dsimp only at h
        have hP : va_P D vwCl ((bX5 cI cJ cC a_M M_pipes M_used M_taped M_at M_statements M_hasImage M_isKeeping M_cursor M_nextAt M_nextMost M_rowMany M_refused M_setting M_hole M_pipeAt M_chance M_weight M_tape M_letter M_letterAt M_told M_kept M_then M_row)) H := hP1
        refine lv_if_eq (tgt := 108) hx hb dX5_twinLikely_94 (by decide) (fun z => ?_) (fun z => ?_)
        · replace h := h.1 z
          refine lv_lconst (v := (0 : Int64)) hx hb dX5_twinLikely_108 (by decide) ?_
          refine lv_ladd hx hb dX5_twinLikely_109 ?_
          refine lv_lstore (lv' := [(4, .long (x4 + (0 : Int64))), (6, .long (x6 + ((M_weight x8.toNatClampNeg).toInt64))), (0, .ref (a_M 0)), (1, .int x1), (2, .int x2), (3, .int x3), (8, .int x8)]) hx hb dX5_twinLikely_110 hl (by decide) rfl (fun ls hl => ?_)
          refine lv_iinc (v := x8 + (1 : Int32)) (lv' := [(8, .int (x8 + (1 : Int32))), (4, .long (x4 + (0 : Int64))), (6, .long (x6 + ((M_weight x8.toNatClampNeg).toInt64))), (0, .ref (a_M 0)), (1, .int x1), (2, .int x2), (3, .int x3)]) hx hb dX5_twinLikely_112 hl (k := 6) rfl (by rfl) (by decide) rfl (fun ls hl => ?_)
          refine lv_goto (tgt := 45) hx hb dX5_twinLikely_115 (by decide) ?_
          exact ih (x4 + (0 : Int64)) (x6 + ((M_weight x8.toNatClampNeg).toInt64)) (x8 + (1 : Int32)) _ _ _ h hP hS (lv_sub hl [3, 4, 5, 6, 1, 2, 0] rfl)
        · replace h := h.2 z
          refine lv_aload_n hx hb dX5_twinLikely_97 rfl (lv_at hl 1 rfl) ?_
          refine va_get (D := D) (ci := 5) (v := .ref (a_M 6)) (C := RX5) (T := TX5) (N := 24) hx hb ht inX5 hown hK hP 0 rfl rfl 5 (by decide) (ht _ fl_X5_25) (fun _ h9 => h9) rfl dX5_twinLikely_98 ?_
          refine lv_iload hx hb dX5_twinLikely_101 (lv_at hl 6 rfl) ?_
          obtain ⟨hin, h⟩ := h
          refine va_iald hx hb hK hP 6 0 rfl rfl hin dX5_twinLikely_103 ?_
          refine lv_i2l hx hb dX5_twinLikely_104 rfl ?_
          refine lv_goto (tgt := 109) hx hb dX5_twinLikely_105 (by decide) ?_
          refine lv_ladd hx hb dX5_twinLikely_109 ?_
          refine lv_lstore (lv' := [(4, .long (x4 + ((M_weight x8.toNatClampNeg).toInt64))), (6, .long (x6 + ((M_weight x8.toNatClampNeg).toInt64))), (0, .ref (a_M 0)), (1, .int x1), (2, .int x2), (3, .int x3), (8, .int x8)]) hx hb dX5_twinLikely_110 hl (by decide) rfl (fun ls hl => ?_)
          refine lv_iinc (v := x8 + (1 : Int32)) (lv' := [(8, .int (x8 + (1 : Int32))), (4, .long (x4 + ((M_weight x8.toNatClampNeg).toInt64))), (6, .long (x6 + ((M_weight x8.toNatClampNeg).toInt64))), (0, .ref (a_M 0)), (1, .int x1), (2, .int x2), (3, .int x3)]) hx hb dX5_twinLikely_112 hl (k := 6) rfl (by rfl) (by decide) rfl (fun ls hl => ?_)
          refine lv_goto (tgt := 45) hx hb dX5_twinLikely_115 (by decide) ?_
          exact ih (x4 + ((M_weight x8.toNatClampNeg).toInt64)) (x6 + ((M_weight x8.toNatClampNeg).toInt64)) (x8 + (1 : Int32)) _ _ _ h hP hS (lv_sub hl [3, 4, 5, 6, 1, 2, 0] rfl)
      · replace h := h.1 z
        refine lv_goto (tgt := 112) hx hb dX5_twinLikely_69 (by decide) ?_
        refine lv_iinc (v := x8 + (1 : Int32)) (lv' := [(8, .int (x8 + (1 : Int32))), (0, .ref (a_M 0)), (1, .int x1), (2, .int x2), (3, .int x3), (4, .long x4), (6, .long x6)]) hx hb dX5_twinLikely_112 hl (k := 6) rfl (by rfl) (by decide) rfl (fun ls hl => ?_)
        refine lv_goto (tgt := 45) hx hb dX5_twinLikely_115 (by decide) ?_
        exact ih x4 x6 (x8 + (1 : Int32)) _ _ _ h hP hS (lv_sub hl [1, 2, 3, 4, 5, 6, 0] rfl)
def wpX5_twinLikely (post : Int64 → (Nat → Int32) → Prop) (M_refused : Nat → Int32) (M_setting : Nat → Int32) (M_weight : Nat → Int32) (p1 : Int32) (p2 : Int32) (p3 : Int32) : Prop := wpX5_isInch (fun (r_1 : Int32) => ((r_1 = (0 : Int32) → (wpX5_lowest (fun (r_2 : Int64) (M_refused_3 : Nat → Int32) => post r_2 M_refused_3) M_refused (-1 : Int32))) ∧ (¬ (r_1 = (0 : Int32)) → (wpX5_isInch (fun (r_4 : Int32) => ((r_4 = (0 : Int32) → (wpX5_lowest (fun (r_15 : Int64) (M_refused_16 : Nat → Int32) => post r_15 M_refused_16) M_refused (-1 : Int32))) ∧ (¬ (r_4 = (0 : Int32)) → (wpX5_isIn (fun (r_5 : Int32) => ((r_5 = (0 : Int32) → (wpX5_lowest (fun (r_13 : Int64) (M_refused_14 : Nat → Int32) => post r_13 M_refused_14) M_refused (-2 : Int32))) ∧ (¬ (r_5 = (0 : Int32)) → (∃ n_8 : Nat, lpX5_twinLikely_45 (fun (x4_9 : Int64) (x6_10 : Int64) (x8_11 : Int32) => wpX5_partOf (fun (r_12 : Int64) => post r_12 M_refused) x4_9 x6_10 p3) p1 p2 M_setting M_weight n_8 (0 : Int64) (0 : Int64) (0 : Int32))))) p3 (0 : Int32) (1 : Int32))))) p2)))) p1
set_option maxHeartbeats 4000000 in
set_option maxRecDepth 100000 in
theorem mX5_twinLikely (l : Launch) (D : va_G) (cI cJ cC : ClassId) (G : Nat → Nat → Nat) (a_M : Nat → Nat) (sz : Nat) (M_pipes : Int32) (M_used : Int32) (M_taped : Int32) (M_at : Int32) (M_statements : Int32) (M_hasImage : Int32) (M_isKeeping : Int32) (M_cursor : Int32) (M_nextAt : Int32) (M_nextMost : Int64) (M_rowMany : Int32) (M_refused : Nat → Int32) (M_setting : Nat → Int32) (M_hole : Nat → Int32) (M_pipeAt : Nat → Int32) (M_chance : Nat → Int32) (M_weight : Nat → Int32) (M_tape : Nat → Int32) (M_letter : Nat → Int32) (M_letterAt : Nat → Int32) (M_told : Nat → Int32) (M_kept : Nat → Int32) (M_then : Nat → Int64) (M_row : Nat → Int32) (p1 : Int32) (p2 : Int32) (p3 : Int32) (post : Int64 → (Nat → Int32) → Prop) (h : wpX5_twinLikely post M_refused M_setting M_weight p1 p2 p3) : Met l yX5_twinLikely (wz yX5_twinLikely cX5_twinLikely 9 (some .long)) ({ frames := 4, cells := 0, slots := 0, locals := 88 }) (va_Pc [.ref (a_M 0), .int p1, .int p2, .int p3] (PW D (tz cI cJ cC) G ((bX5 cI cJ cC a_M M_pipes M_used M_taped M_at M_statements M_hasImage M_isKeeping M_cursor M_nextAt M_nextMost M_rowMany M_refused M_setting M_hole M_pipeAt M_chance M_weight M_tape M_letter M_letterAt M_told M_kept M_then M_row)) sz)) (va_Ql (fun (r : Int64) (u : (Nat → Int32)) => post r u) (fun (u : (Nat → Int32)) t => va_P D vwCl ((bX5 cI cJ cC a_M M_pipes M_used M_taped M_at M_statements M_hasImage M_isKeeping M_cursor M_nextAt M_nextMost M_rowMany u M_setting M_hole M_pipeAt M_chance M_weight M_tape M_letter M_letterAt M_told M_kept M_then M_row)) t.heap) (va_A ((bX5 cI cJ cC a_M M_pipes M_used M_taped M_at M_statements M_hasImage M_isKeeping M_cursor M_nextAt M_nextMost M_rowMany M_refused M_setting M_hole M_pipeAt M_chance M_weight M_tape M_letter M_letterAt M_told M_kept M_then M_row)) sz)) 0 0 (va_A ((bX5 cI cJ cC a_M M_pipes M_used M_taped M_at M_statements M_hasImage M_isKeeping M_cursor M_nextAt M_nextMost M_rowMany M_refused M_setting M_hole M_pipeAt M_chance M_weight M_tape M_letter M_letterAt M_told M_kept M_then M_row)) sz) := by
  refine zml (gw := fun (u : (Nat → Int32)) => (bX5 cI cJ cC a_M M_pipes M_used M_taped M_at M_statements M_hasImage M_isKeeping M_cursor M_nextAt M_nextMost M_rowMany u M_setting M_hole M_pipeAt M_chance M_weight M_tape M_letter M_letterAt M_told M_kept M_then M_row)) (plainFor_of_name (by decide)) (Nat.le_of_ble_eq_true rfl) ?_
  intro p e s m below meth c A Q ls S hK hD hA hE hP hl hret
  obtain ⟨hx, hb, hml, hown, ht⟩ := id S
  have hS : va_S A s.heap s.heap [] := va_S.rf
  have hDD : ∀ ws : va_W, ws.map (fun q => q.1) = [a_M 0, a_M 1, a_M 2, a_M 3, a_M 4, a_M 5, a_M 6, a_M 7, a_M 8, a_M 9, a_M 10, a_M 11, a_M 12, a_M 13] → va_D A ws := fun ws hw => zD hD (hw.trans rfl)
  have hl : lv_has ls 9 [(0, .ref (a_M 0)), (1, .int p1), (2, .int p2), (3, .int p3)] := hl
  unfold wpX5_twinLikely at h
  refine lv_iload_n hx hb dX5_twinLikely_0 rfl (lv_at hl 1 rfl) ?_
  refine zci hA zD0 hS (zrunS (As := [.int p1]) (rest := []) S hK hA hE zP0 zD0 hS (mX5_isInch l D cI cJ cC G _ p1 _ h) kX5_isInch ml_X5_113 ⟨rfl, rfl, by decide, by decide⟩ rfl hl.1 rfl (Nat.le_of_ble_eq_true rfl) dX5_twinLikely_1 ⟨Nat.zero_le _, Nat.zero_le _⟩) (fun r_1 u H locs h hP1 hk1 hS => ?_)
  try dsimp only at h
  have hP : va_P D vwCl ((bX5 cI cJ cC a_M M_pipes M_used M_taped M_at M_statements M_hasImage M_isKeeping M_cursor M_nextAt M_nextMost M_rowMany M_refused M_setting M_hole M_pipeAt M_chance M_weight M_tape M_letter M_letterAt M_told M_kept M_then M_row)) H := zKeep hP hk1
  refine lv_if_eq (tgt := 14) hx hb dX5_twinLikely_4 (by decide) (fun z => ?_) (fun z => ?_)
  · replace h := h.1 z
    refine lv_aload_n hx hb dX5_twinLikely_14 rfl (lv_at hl 0 rfl) ?_
    refine lv_iconst (v := (-1 : Int32)) hx hb dX5_twinLikely_15 (by decide) ?_
    refine zcl hA (hDD _ rfl) hS (zrunV (As := [.int (-1 : Int32)]) (rest := []) S hK hA hE hP (hDD _ rfl) hS (mX5_lowest l D cI cJ cC G a_M _ M_pipes M_used M_taped M_at M_statements M_hasImage M_isKeeping M_cursor M_nextAt M_nextMost M_rowMany M_refused M_setting M_hole M_pipeAt M_chance M_weight M_tape M_letter M_letterAt M_told M_kept M_then M_row (-1 : Int32) _ h) kX5_lowest ml_X5_197 ⟨rfl, rfl, by decide, by decide⟩ (q0 := 0) (ci := 5) rfl rfl rfl rfl hl.1 rfl (Nat.le_of_ble_eq_true rfl) dX5_twinLikely_16 ⟨Nat.zero_le _, Nat.zero_le _⟩) (fun r_2 M_refused_3 H locs h hP1 hk1 hS => ?_)
    try dsimp only at h
    have hP : va_P D vwCl ((bX5 cI cJ cC a_M M_pipes M_used M_taped M_at M_statements M_hasImage M_isKeeping M_cursor M_nextAt M_nextMost M_rowMany M_refused_3 M_setting M_hole M_pipeAt M_chance M_weight M_tape M_letter M_letterAt M_told M_kept M_then M_row)) H := hP1
    exact hret r_2 M_refused_3 _ _ _ _ h hP hS dX5_twinLikely_19
  · replace h := h.2 z
    refine lv_iload_n hx hb dX5_twinLikely_7 rfl (lv_at hl 2 rfl) ?_
    refine zci hA zD0 hS (zrunS (As := [.int p2]) (rest := []) S hK hA hE zP0 zD0 hS (mX5_isInch l D cI cJ cC G _ p2 _ h) kX5_isInch ml_X5_113 ⟨rfl, rfl, by decide, by decide⟩ rfl hl.1 rfl (Nat.le_of_ble_eq_true rfl) dX5_twinLikely_8 ⟨Nat.zero_le _, Nat.zero_le _⟩) (fun r_4 u H locs h hP1 hk1 hS => ?_)
    try dsimp only at h
    have hP : va_P D vwCl ((bX5 cI cJ cC a_M M_pipes M_used M_taped M_at M_statements M_hasImage M_isKeeping M_cursor M_nextAt M_nextMost M_rowMany M_refused M_setting M_hole M_pipeAt M_chance M_weight M_tape M_letter M_letterAt M_told M_kept M_then M_row)) H := zKeep hP hk1
    refine lv_if_ne (tgt := 20) hx hb dX5_twinLikely_11 (by decide) (fun z => ?_) (fun z => ?_)
    · replace h := h.2 z
      refine lv_iload_n hx hb dX5_twinLikely_20 rfl (lv_at hl 3 rfl) ?_
      refine lv_iconst (v := (0 : Int32)) hx hb dX5_twinLikely_21 (by decide) ?_
      refine lv_iconst (v := (1 : Int32)) hx hb dX5_twinLikely_22 (by decide) ?_
      refine zci hA zD0 hS (zrunS (As := [.int p3, .int (0 : Int32), .int (1 : Int32)]) (rest := []) S hK hA hE zP0 zD0 hS (mX5_isIn l D cI cJ cC G _ p3 (0 : Int32) (1 : Int32) _ h) kX5_isIn ml_X5_77 ⟨rfl, rfl, by decide, by decide⟩ rfl hl.1 rfl (Nat.le_of_ble_eq_true rfl) dX5_twinLikely_23 ⟨Nat.zero_le _, Nat.zero_le _⟩) (fun r_5 u H locs h hP1 hk1 hS => ?_)
      try dsimp only at h
      have hP : va_P D vwCl ((bX5 cI cJ cC a_M M_pipes M_used M_taped M_at M_statements M_hasImage M_isKeeping M_cursor M_nextAt M_nextMost M_rowMany M_refused M_setting M_hole M_pipeAt M_chance M_weight M_tape M_letter M_letterAt M_told M_kept M_then M_row)) H := zKeep hP hk1
      refine lv_if_ne (tgt := 36) hx hb dX5_twinLikely_26 (by decide) (fun z => ?_) (fun z => ?_)
      · replace h := h.2 z
        refine lv_lconst (v := (0 : Int64)) hx hb dX5_twinLikely_36 (by decide) ?_
        refine lv_lstore (lv' := [(4, .long (0 : Int64)), (0, .ref (a_M 0)), (1, .int p1), (2, .int p2), (3, .int p3)]) hx hb dX5_twinLikely_37 hl (by decide) rfl (fun ls hl => ?_)
        refine lv_lconst (v := (0 : Int64)) hx hb dX5_twinLikely_39 (by decide) ?_
        refine lv_lstore (lv' := [(6, .long (0 : Int64)), (4, .long (0 : Int64)), (0, .ref (a_M 0)), (1, .int p1), (2, .int p2), (3, .int p3)]) hx hb dX5_twinLikely_40 hl (by decide) rfl (fun ls hl => ?_)
        refine lv_iconst (v := (0 : Int32)) hx hb dX5_twinLikely_42 (by decide) ?_
        refine lv_istore (lv' := [(8, .int (0 : Int32)), (6, .long (0 : Int64)), (4, .long (0 : Int64)), (0, .ref (a_M 0)), (1, .int p1), (2, .int p2), (3, .int p3)]) hx hb dX5_twinLikely_43 hl (by decide) rfl (fun ls hl => ?_)
        obtain ⟨n_8, h⟩ := h
        refine wX5_twinLikely_45 l D cI cJ cC G a_M p1 p2 p3 p1 p2 p3 M_pipes M_used M_taped M_at M_statements M_hasImage M_isKeeping M_cursor M_nextAt M_nextMost M_rowMany M_refused M_setting M_hole M_pipeAt M_chance M_weight M_tape M_letter M_letterAt M_told M_kept M_then M_row _ S hK hDD hA hE (fun x4_9 x6_10 x8_11 H locs ls h hP hS hl => ?_) n_8 (0 : Int64) (0 : Int64) (0 : Int32) _ _ _ h hP hS (lv_sub hl [3, 4, 5, 6, 2, 1, 0] rfl)
        try dsimp only at h
        refine lv_lload hx hb dX5_twinLikely_118 (lv_at hl 1 rfl) ?_
        refine lv_lload hx hb dX5_twinLikely_120 (lv_at hl 2 rfl) ?_
        refine lv_iload_n hx hb dX5_twinLikely_122 rfl (lv_at hl 0 rfl) ?_
        refine zcl hA zD0 hS (zrunS (As := [.long x4_9, .long x6_10, .int p3]) (rest := []) S hK hA hE zP0 zD0 hS (mX5_partOf l D cI cJ cC G _ x4_9 x6_10 p3 _ h) kX5_partOf ml_X5_220 ⟨rfl, rfl, by decide, by decide⟩ rfl hl.1 rfl (Nat.le_of_ble_eq_true rfl) dX5_twinLikely_123 ⟨Nat.zero_le _, Nat.zero_le _⟩) (fun r_12 u H locs h hP1 hk1 hS => ?_)
        try dsimp only at h
        have hP : va_P D vwCl ((bX5 cI cJ cC a_M M_pipes M_used M_taped M_at M_statements M_hasImage M_isKeeping M_cursor M_nextAt M_nextMost M_rowMany M_refused M_setting M_hole M_pipeAt M_chance M_weight M_tape M_letter M_letterAt M_told M_kept M_then M_row)) H := zKeep hP hk1
        exact hret r_12 M_refused _ _ _ _ h hP hS dX5_twinLikely_126
      · replace h := h.1 z
        refine lv_aload_n hx hb dX5_twinLikely_29 rfl (lv_at hl 0 rfl) ?_
        refine lv_bipush (v := (-2 : Int32)) hx hb dX5_twinLikely_30 (by decide) ?_
        refine zcl hA (hDD _ rfl) hS (zrunV (As := [.int (-2 : Int32)]) (rest := []) S hK hA hE hP (hDD _ rfl) hS (mX5_lowest l D cI cJ cC G a_M _ M_pipes M_used M_taped M_at M_statements M_hasImage M_isKeeping M_cursor M_nextAt M_nextMost M_rowMany M_refused M_setting M_hole M_pipeAt M_chance M_weight M_tape M_letter M_letterAt M_told M_kept M_then M_row (-2 : Int32) _ h) kX5_lowest ml_X5_197 ⟨rfl, rfl, by decide, by decide⟩ (q0 := 0) (ci := 5) rfl rfl rfl rfl hl.1 rfl (Nat.le_of_ble_eq_true rfl) dX5_twinLikely_32 ⟨Nat.zero_le _, Nat.zero_le _⟩) (fun r_13 M_refused_14 H locs h hP1 hk1 hS => ?_)
        try dsimp only at h
        have hP : va_P D vwCl ((bX5 cI cJ cC a_M M_pipes M_used M_taped M_at M_statements M_hasImage M_isKeeping M_cursor M_nextAt M_nextMost M_rowMany M_refused_14 M_setting M_hole M_pipeAt M_chance M_weight M_tape M_letter M_letterAt M_told M_kept M_then M_row)) H := hP1
        exact hret r_13 M_refused_14 _ _ _ _ h hP hS dX5_twinLikely_35
    · replace h := h.1 z
      refine lv_aload_n hx hb dX5_twinLikely_14 rfl (lv_at hl 0 rfl) ?_
      refine lv_iconst (v := (-1 : Int32)) hx hb dX5_twinLikely_15 (by decide) ?_
      refine zcl hA (hDD _ rfl) hS (zrunV (As := [.int (-1 : Int32)]) (rest := []) S hK hA hE hP (hDD _ rfl) hS (mX5_lowest l D cI cJ cC G a_M _ M_pipes M_used M_taped M_at M_statements M_hasImage M_isKeeping M_cursor M_nextAt M_nextMost M_rowMany M_refused M_setting M_hole M_pipeAt M_chance M_weight M_tape M_letter M_letterAt M_told M_kept M_then M_row (-1 : Int32) _ h) kX5_lowest ml_X5_197 ⟨rfl, rfl, by decide, by decide⟩ (q0 := 0) (ci := 5) rfl rfl rfl rfl hl.1 rfl (Nat.le_of_ble_eq_true rfl) dX5_twinLikely_16 ⟨Nat.zero_le _, Nat.zero_le _⟩) (fun r_15 M_refused_16 H locs h hP1 hk1 hS => ?_)
      try dsimp only at h
      have hP : va_P D vwCl ((bX5 cI cJ cC a_M M_pipes M_used M_taped M_at M_statements M_hasImage M_isKeeping M_cursor M_nextAt M_nextMost M_rowMany M_refused_16 M_setting M_hole M_pipeAt M_chance M_weight M_tape M_letter M_letterAt M_told M_kept M_then M_row)) H := hP1
      exact hret r_15 M_refused_16 _ _ _ _ h hP hS dX5_twinLikely_19
def wpX5_row (post : Int32 → Int32 → (Nat → Int32) → (Nat → Int32) → Prop) (M_rowMany : Int32) (M_refused : Nat → Int32) (M_row : Nat → Int32) (p1 : Int32) : Prop := wpX5_bound (fun (r_1 : Int32) => ((r_1 = (0 : Int32) → (((M_rowMany = (8 : Int32) → (wpX5_no (fun (r_6 : Int32) (M_refused_7 : Nat → Int32) => post r_6 M_rowMany M_refused_7 M_row) M_refused (-6 : Int32))) ∧ (¬ (M_rowMany = (8 : Int32)) → (((r_1 = (0 : Int32) → (vp_in M_rowMany 8 ∧ (post (M_rowMany + (1 : Int32)) (M_rowMany + (1 : Int32)) M_refused (upd M_row M_rowMany.toNatClampNeg p1)))) ∧ (¬ (r_1 = (0 : Int32)) → (wpX5_no (fun (r_4 : Int32) (M_refused_5 : Nat → Int32) => post r_4 M_rowMany M_refused_5 M_row) M_refused r_1)))))))) ∧ (¬ (r_1 = (0 : Int32)) → (((r_1 = (0 : Int32) → (vp_in M_rowMany 8 ∧ (post (M_rowMany + (1 : Int32)) (M_rowMany + (1 : Int32)) M_refused (upd M_row M_rowMany.toNatClampNeg p1)))) ∧ (¬ (r_1 = (0 : Int32)) → (wpX5_no (fun (r_2 : Int32) (M_refused_3 : Nat → Int32) => post r_2 M_rowMany M_refused_3 M_row) M_refused r_1))))))) p1 (0 : Int32) (99 : Int32)
set_option maxHeartbeats 4000000 in
set_option maxRecDepth 100000 in
theorem mX5_row (l : Launch) (D : va_G) (cI cJ cC : ClassId) (G : Nat → Nat → Nat) (a_M : Nat → Nat) (sz : Nat) (M_pipes : Int32) (M_used : Int32) (M_taped : Int32) (M_at : Int32) (M_statements : Int32) (M_hasImage : Int32) (M_isKeeping : Int32) (M_cursor : Int32) (M_nextAt : Int32) (M_nextMost : Int64) (M_rowMany : Int32) (M_refused : Nat → Int32) (M_setting : Nat → Int32) (M_hole : Nat → Int32) (M_pipeAt : Nat → Int32) (M_chance : Nat → Int32) (M_weight : Nat → Int32) (M_tape : Nat → Int32) (M_letter : Nat → Int32) (M_letterAt : Nat → Int32) (M_told : Nat → Int32) (M_kept : Nat → Int32) (M_then : Nat → Int64) (M_row : Nat → Int32) (p1 : Int32) (post : Int32 → Int32 → (Nat → Int32) → (Nat → Int32) → Prop) (h : wpX5_row post M_rowMany M_refused M_row p1) : Met l yX5_row (wz yX5_row cX5_row 3 (some .int)) ({ frames := 1, cells := 0, slots := 0, locals := 22 }) (va_Pc [.ref (a_M 0), .int p1] (PW D (tz cI cJ cC) G ((bX5 cI cJ cC a_M M_pipes M_used M_taped M_at M_statements M_hasImage M_isKeeping M_cursor M_nextAt M_nextMost M_rowMany M_refused M_setting M_hole M_pipeAt M_chance M_weight M_tape M_letter M_letterAt M_told M_kept M_then M_row)) sz)) (va_Qi (fun (r : Int32) (u : Int32 × (Nat → Int32) × (Nat → Int32)) => post r u.1 u.2.1 u.2.2) (fun (u : Int32 × (Nat → Int32) × (Nat → Int32)) t => va_P D vwCl ((bX5 cI cJ cC a_M M_pipes M_used M_taped M_at M_statements M_hasImage M_isKeeping M_cursor M_nextAt M_nextMost u.1 u.2.1 M_setting M_hole M_pipeAt M_chance M_weight M_tape M_letter M_letterAt M_told M_kept M_then u.2.2)) t.heap) (va_A ((bX5 cI cJ cC a_M M_pipes M_used M_taped M_at M_statements M_hasImage M_isKeeping M_cursor M_nextAt M_nextMost M_rowMany M_refused M_setting M_hole M_pipeAt M_chance M_weight M_tape M_letter M_letterAt M_told M_kept M_then M_row)) sz)) 0 0 (va_A ((bX5 cI cJ cC a_M M_pipes M_used M_taped M_at M_statements M_hasImage M_isKeeping M_cursor M_nextAt M_nextMost M_rowMany M_refused M_setting M_hole M_pipeAt M_chance M_weight M_tape M_letter M_letterAt M_told M_kept M_then M_row)) sz) := by
  refine zmi (gw := fun (u : Int32 × (Nat → Int32) × (Nat → Int32)) => (bX5 cI cJ cC a_M M_pipes M_used M_taped M_at M_statements M_hasImage M_isKeeping M_cursor M_nextAt M_nextMost u.1 u.2.1 M_setting M_hole M_pipeAt M_chance M_weight M_tape M_letter M_letterAt M_told M_kept M_then u.2.2)) (plainFor_of_name (by decide)) (Nat.le_of_ble_eq_true rfl) ?_
  intro p e s m below meth c A Q ls S hK hD hA hE hP hl hret
  obtain ⟨hx, hb, hml, hown, ht⟩ := id S
  have hS : va_S A s.heap s.heap [] := va_S.rf
  have hDD : ∀ ws : va_W, ws.map (fun q => q.1) = [a_M 0, a_M 1, a_M 2, a_M 3, a_M 4, a_M 5, a_M 6, a_M 7, a_M 8, a_M 9, a_M 10, a_M 11, a_M 12, a_M 13] → va_D A ws := fun ws hw => zD hD (hw.trans rfl)
  have hl : lv_has ls 3 [(0, .ref (a_M 0)), (1, .int p1)] := hl
  unfold wpX5_row at h
  refine lv_iload_n hx hb dX5_row_0 rfl (lv_at hl 1 rfl) ?_
  refine lv_iconst (v := (0 : Int32)) hx hb dX5_row_1 (by decide) ?_
  refine lv_bipush (v := (99 : Int32)) hx hb dX5_row_2 (by decide) ?_
  refine zci hA zD0 hS (zrunS (As := [.int p1, .int (0 : Int32), .int (99 : Int32)]) (rest := []) S hK hA hE zP0 zD0 hS (mX5_bound l D cI cJ cC G _ p1 (0 : Int32) (99 : Int32) _ h) kX5_bound ml_X5_59 ⟨rfl, rfl, by decide, by decide⟩ rfl hl.1 rfl (Nat.le_of_ble_eq_true rfl) dX5_row_4 ⟨Nat.zero_le _, Nat.zero_le _⟩) (fun r_1 u H locs h hP1 hk1 hS => ?_)
  try dsimp only at h
  have hP : va_P D vwCl ((bX5 cI cJ cC a_M M_pipes M_used M_taped M_at M_statements M_hasImage M_isKeeping M_cursor M_nextAt M_nextMost M_rowMany M_refused M_setting M_hole M_pipeAt M_chance M_weight M_tape M_letter M_letterAt M_told M_kept M_then M_row)) H := zKeep hP hk1
  refine lv_istore_n (lv' := [(2, .int r_1), (0, .ref (a_M 0)), (1, .int p1)]) hx hb dX5_row_7 rfl hl (by decide) rfl (fun ls hl => ?_)
  refine lv_iload_n hx hb dX5_row_8 rfl (lv_at hl 0 rfl) ?_
  refine lv_if_ne (tgt := 24) hx hb dX5_row_9 (by decide) (fun z => ?_) (fun z => ?_)
  · replace h := h.2 z
    refine lv_iload_n hx hb dX5_row_24 rfl (lv_at hl 0 rfl) ?_
    refine lv_if_eq (tgt := 34) hx hb dX5_row_25 (by decide) (fun z => ?_) (fun z => ?_)
    · replace h := h.1 z
      refine lv_aload_n hx hb dX5_row_34 rfl (lv_at hl 1 rfl) ?_
      refine va_get (D := D) (ci := 5) (v := .ref (a_M 13)) (C := RX5) (T := TX5) (N := 24) hx hb ht inX5 hown hK hP 0 rfl rfl 22 (by decide) (ht _ fl_X5_47) (fun _ h9 => h9) rfl dX5_row_35 ?_
      refine lv_aload_n hx hb dX5_row_38 rfl (lv_at hl 1 rfl) ?_
      refine va_get (D := D) (ci := 5) (v := .int M_rowMany) (C := RX5) (T := TX5) (N := 24) hx hb ht inX5 hown hK hP 0 rfl rfl 23 (by decide) (ht _ fl_X5_274) (fun _ h9 => h9) rfl dX5_row_39 ?_
      refine lv_iload_n hx hb dX5_row_42 rfl (lv_at hl 2 rfl) ?_
      obtain ⟨hin, h⟩ := h
      refine va_iast hx hb hK hP (hDD _ rfl) hS 13 0 rfl rfl hin dX5_row_43 (fun H locs hP _ hS => ?_)
      have hP : va_P D vwCl ((bX5 cI cJ cC a_M M_pipes M_used M_taped M_at M_statements M_hasImage M_isKeeping M_cursor M_nextAt M_nextMost M_rowMany M_refused M_setting M_hole M_pipeAt M_chance M_weight M_tape M_letter M_letterAt M_told M_kept M_then (upd M_row M_rowMany.toNatClampNeg p1))) H := hP
      refine lv_aload_n hx hb dX5_row_44 rfl (lv_at hl 1 rfl) ?_
      refine lv_dup hx hb dX5_row_45 rfl ?_
      refine va_get (D := D) (ci := 5) (v := .int M_rowMany) (C := RX5) (T := TX5) (N := 24) hx hb ht inX5 hown hK hP 0 rfl rfl 23 (by decide) (ht _ fl_X5_274) (fun _ h9 => h9) rfl dX5_row_46 ?_
      refine lv_iconst (v := (1 : Int32)) hx hb dX5_row_49 (by decide) ?_
      refine lv_iadd hx hb dX5_row_50 ?_
      refine va_put (D := D) (ci := 5) (v := .int (M_rowMany + (1 : Int32))) (ty := .int) (C := RX5) (T := TX5) (N := 24) hx hb ht inX5 tyX5 tyX5_ok nmX5 hown hK hP (hDD _ rfl) hS 0 rfl rfl 23 (by decide) (ht _ fl_X5_274) (fun _ h9 => h9) rfl (by decide +kernel) rfl rfl (Nat.le_of_ble_eq_true rfl) dX5_row_51 (fun H locs hP _ hS => ?_)
      have hP : va_P D vwCl ((bX5 cI cJ cC a_M M_pipes M_used M_taped M_at M_statements M_hasImage M_isKeeping M_cursor M_nextAt M_nextMost (M_rowMany + (1 : Int32)) M_refused M_setting M_hole M_pipeAt M_chance M_weight M_tape M_letter M_letterAt M_told M_kept M_then (upd M_row M_rowMany.toNatClampNeg p1))) H := hP
      refine lv_aload_n hx hb dX5_row_54 rfl (lv_at hl 1 rfl) ?_
      refine va_get (D := D) (ci := 5) (v := .int (M_rowMany + (1 : Int32))) (C := RX5) (T := TX5) (N := 24) hx hb ht inX5 hown hK hP 0 rfl rfl 23 (by decide) (ht _ fl_X5_274) (fun _ h9 => h9) rfl dX5_row_55 ?_
      exact hret (M_rowMany + (1 : Int32)) (M_rowMany + (1 : Int32), M_refused, upd M_row M_rowMany.toNatClampNeg p1) _ _ _ _ rfl h hP hS dX5_row_58
    · replace h := h.2 z
      refine lv_aload_n hx hb dX5_row_28 rfl (lv_at hl 1 rfl) ?_
      refine lv_iload_n hx hb dX5_row_29 rfl (lv_at hl 0 rfl) ?_
      refine zci hA (hDD _ rfl) hS (zrunV (As := [.int r_1]) (rest := []) S hK hA hE hP (hDD _ rfl) hS (mX5_no l D cI cJ cC G a_M _ M_pipes M_used M_taped M_at M_statements M_hasImage M_isKeeping M_cursor M_nextAt M_nextMost M_rowMany M_refused M_setting M_hole M_pipeAt M_chance M_weight M_tape M_letter M_letterAt M_told M_kept M_then M_row r_1 _ h) kX5_no ml_X5_66 ⟨rfl, rfl, by decide, by decide⟩ (q0 := 0) (ci := 5) rfl rfl rfl rfl hl.1 rfl (Nat.le_of_ble_eq_true rfl) dX5_row_30 ⟨Nat.zero_le _, Nat.zero_le _⟩) (fun r_2 M_refused_3 H locs h hP1 hk1 hS => ?_)
      try dsimp only at h
      have hP : va_P D vwCl ((bX5 cI cJ cC a_M M_pipes M_used M_taped M_at M_statements M_hasImage M_isKeeping M_cursor M_nextAt M_nextMost M_rowMany M_refused_3 M_setting M_hole M_pipeAt M_chance M_weight M_tape M_letter M_letterAt M_told M_kept M_then M_row)) H := hP1
      exact hret r_2 (M_rowMany, M_refused_3, M_row) _ _ _ _ rfl h hP hS dX5_row_33
  · replace h := h.1 z
    refine lv_aload_n hx hb dX5_row_12 rfl (lv_at hl 1 rfl) ?_
    refine va_get (D := D) (ci := 5) (v := .int M_rowMany) (C := RX5) (T := TX5) (N := 24) hx hb ht inX5 hown hK hP 0 rfl rfl 23 (by decide) (ht _ fl_X5_274) (fun _ h9 => h9) rfl dX5_row_13 ?_
    refine lv_bipush (v := (8 : Int32)) hx hb dX5_row_16 (by decide) ?_
    refine lv_icmp_ne (tgt := 24) hx hb dX5_row_18 (by decide) (fun z => ?_) (fun z => ?_)
    · replace h := h.2 z
      refine lv_iload_n hx hb dX5_row_24 rfl (lv_at hl 0 rfl) ?_
      refine lv_if_eq (tgt := 34) hx hb dX5_row_25 (by decide) (fun z => ?_) (fun z => ?_)
      · replace h := h.1 z
        refine lv_aload_n hx hb dX5_row_34 rfl (lv_at hl 1 rfl) ?_
        refine va_get (D := D) (ci := 5) (v := .ref (a_M 13)) (C := RX5) (T := TX5) (N := 24) hx hb ht inX5 hown hK hP 0 rfl rfl 22 (by decide) (ht _ fl_X5_47) (fun _ h9 => h9) rfl dX5_row_35 ?_
        refine lv_aload_n hx hb dX5_row_38 rfl (lv_at hl 1 rfl) ?_
        refine va_get (D := D) (ci := 5) (v := .int M_rowMany) (C := RX5) (T := TX5) (N := 24) hx hb ht inX5 hown hK hP 0 rfl rfl 23 (by decide) (ht _ fl_X5_274) (fun _ h9 => h9) rfl dX5_row_39 ?_
        refine lv_iload_n hx hb dX5_row_42 rfl (lv_at hl 2 rfl) ?_
        obtain ⟨hin, h⟩ := h
        refine va_iast hx hb hK hP (hDD _ rfl) hS 13 0 rfl rfl hin dX5_row_43 (fun H locs hP _ hS => ?_)
        have hP : va_P D vwCl ((bX5 cI cJ cC a_M M_pipes M_used M_taped M_at M_statements M_hasImage M_isKeeping M_cursor M_nextAt M_nextMost M_rowMany M_refused M_setting M_hole M_pipeAt M_chance M_weight M_tape M_letter M_letterAt M_told M_kept M_then (upd M_row M_rowMany.toNatClampNeg p1))) H := hP
        refine lv_aload_n hx hb dX5_row_44 rfl (lv_at hl 1 rfl) ?_
        refine lv_dup hx hb dX5_row_45 rfl ?_
        refine va_get (D := D) (ci := 5) (v := .int M_rowMany) (C := RX5) (T := TX5) (N := 24) hx hb ht inX5 hown hK hP 0 rfl rfl 23 (by decide) (ht _ fl_X5_274) (fun _ h9 => h9) rfl dX5_row_46 ?_
        refine lv_iconst (v := (1 : Int32)) hx hb dX5_row_49 (by decide) ?_
        refine lv_iadd hx hb dX5_row_50 ?_
        refine va_put (D := D) (ci := 5) (v := .int (M_rowMany + (1 : Int32))) (ty := .int) (C := RX5) (T := TX5) (N := 24) hx hb ht inX5 tyX5 tyX5_ok nmX5 hown hK hP (hDD _ rfl) hS 0 rfl rfl 23 (by decide) (ht _ fl_X5_274) (fun _ h9 => h9) rfl (by decide +kernel) rfl rfl (Nat.le_of_ble_eq_true rfl) dX5_row_51 (fun H locs hP _ hS => ?_)
        have hP : va_P D vwCl ((bX5 cI cJ cC a_M M_pipes M_used M_taped M_at M_statements M_hasImage M_isKeeping M_cursor M_nextAt M_nextMost (M_rowMany + (1 : Int32)) M_refused M_setting M_hole M_pipeAt M_chance M_weight M_tape M_letter M_letterAt M_told M_kept M_then (upd M_row M_rowMany.toNatClampNeg p1))) H := hP
        refine lv_aload_n hx hb dX5_row_54 rfl (lv_at hl 1 rfl) ?_
        refine va_get (D := D) (ci := 5) (v := .int (M_rowMany + (1 : Int32))) (C := RX5) (T := TX5) (N := 24) hx hb ht inX5 hown hK hP 0 rfl rfl 23 (by decide) (ht _ fl_X5_274) (fun _ h9 => h9) rfl dX5_row_55 ?_
        exact hret (M_rowMany + (1 : Int32)) (M_rowMany + (1 : Int32), M_refused, upd M_row M_rowMany.toNatClampNeg p1) _ _ _ _ rfl h hP hS dX5_row_58
      · replace h := h.2 z
        refine lv_aload_n hx hb dX5_row_28 rfl (lv_at hl 1 rfl) ?_
        refine lv_iload_n hx hb dX5_row_29 rfl (lv_at hl 0 rfl) ?_
        refine zci hA (hDD _ rfl) hS (zrunV (As := [.int r_1]) (rest := []) S hK hA hE hP (hDD _ rfl) hS (mX5_no l D cI cJ cC G a_M _ M_pipes M_used M_taped M_at M_statements M_hasImage M_isKeeping M_cursor M_nextAt M_nextMost M_rowMany M_refused M_setting M_hole M_pipeAt M_chance M_weight M_tape M_letter M_letterAt M_told M_kept M_then M_row r_1 _ h) kX5_no ml_X5_66 ⟨rfl, rfl, by decide, by decide⟩ (q0 := 0) (ci := 5) rfl rfl rfl rfl hl.1 rfl (Nat.le_of_ble_eq_true rfl) dX5_row_30 ⟨Nat.zero_le _, Nat.zero_le _⟩) (fun r_4 M_refused_5 H locs h hP1 hk1 hS => ?_)
        try dsimp only at h
        have hP : va_P D vwCl ((bX5 cI cJ cC a_M M_pipes M_used M_taped M_at M_statements M_hasImage M_isKeeping M_cursor M_nextAt M_nextMost M_rowMany M_refused_5 M_setting M_hole M_pipeAt M_chance M_weight M_tape M_letter M_letterAt M_told M_kept M_then M_row)) H := hP1
        exact hret r_4 (M_rowMany, M_refused_5, M_row) _ _ _ _ rfl h hP hS dX5_row_33
    · replace h := h.1 z
      refine lv_bipush (v := (-6 : Int32)) hx hb dX5_row_21 (by decide) ?_
      refine lv_istore_n (lv' := [(2, .int (-6 : Int32)), (0, .ref (a_M 0)), (1, .int p1)]) hx hb dX5_row_23 rfl hl (by decide) rfl (fun ls hl => ?_)
      refine lv_iload_n hx hb dX5_row_24 rfl (lv_at hl 0 rfl) ?_
      refine lv_if_eq (tgt := 34) hx hb dX5_row_25 (by decide) (fun z => ?_) (fun z => ?_)
      · exact absurd z (by decide)
      · refine lv_aload_n hx hb dX5_row_28 rfl (lv_at hl 1 rfl) ?_
        refine lv_iload_n hx hb dX5_row_29 rfl (lv_at hl 0 rfl) ?_
        refine zci hA (hDD _ rfl) hS (zrunV (As := [.int (-6 : Int32)]) (rest := []) S hK hA hE hP (hDD _ rfl) hS (mX5_no l D cI cJ cC G a_M _ M_pipes M_used M_taped M_at M_statements M_hasImage M_isKeeping M_cursor M_nextAt M_nextMost M_rowMany M_refused M_setting M_hole M_pipeAt M_chance M_weight M_tape M_letter M_letterAt M_told M_kept M_then M_row (-6 : Int32) _ h) kX5_no ml_X5_66 ⟨rfl, rfl, by decide, by decide⟩ (q0 := 0) (ci := 5) rfl rfl rfl rfl hl.1 rfl (Nat.le_of_ble_eq_true rfl) dX5_row_30 ⟨Nat.zero_le _, Nat.zero_le _⟩) (fun r_6 M_refused_7 H locs h hP1 hk1 hS => ?_)
        try dsimp only at h
        have hP : va_P D vwCl ((bX5 cI cJ cC a_M M_pipes M_used M_taped M_at M_statements M_hasImage M_isKeeping M_cursor M_nextAt M_nextMost M_rowMany M_refused_7 M_setting M_hole M_pipeAt M_chance M_weight M_tape M_letter M_letterAt M_told M_kept M_then M_row)) H := hP1
        exact hret r_6 (M_rowMany, M_refused_7, M_row) _ _ _ _ rfl h hP hS dX5_row_33
def lpX5_areInches_2 (post : Int32 → Prop) (K : Int32 → Prop) (M_rowMany : Int32) (M_row : Nat → Int32) : Nat → Int32 → Prop
  | 0, _ => False
  | n + 1, x1 => ((M_rowMany ≤ x1 → (K x1)) ∧ (¬ (M_rowMany ≤ x1) → (vp_in x1 8 ∧ (wpX5_isInch (fun (r_1 : Int32) => ((r_1 = (0 : Int32) → (post (0 : Int32))) ∧ (¬ (r_1 = (0 : Int32)) → (lpX5_areInches_2 post K M_rowMany M_row n (x1 + (1 : Int32)))))) ((M_row x1.toNatClampNeg) - (M_row x1.toNatClampNeg) / (50 : Int32) * (50 : Int32))))))
set_option maxHeartbeats 4000000 in
set_option maxRecDepth 100000 in
theorem wX5_areInches_2 (l : Launch) (D : va_G) (cI cJ cC : ClassId) (G : Nat → Nat → Nat) (a_M : Nat → Nat) {p : Program} {e : Env} {s : State} {m : MethodId} {below : List Frame} {meth : Method} {c : Code} {A : Nat → Prop} {Q : State → Prop} (M_pipes : Int32) (M_used : Int32) (M_taped : Int32) (M_at : Int32) (M_statements : Int32) (M_hasImage : Int32) (M_isKeeping : Int32) (M_cursor : Int32) (M_nextAt : Int32) (M_nextMost : Int64) (M_rowMany : Int32) (M_refused : Nat → Int32) (M_setting : Nat → Int32) (M_hole : Nat → Int32) (M_pipeAt : Nat → Int32) (M_chance : Nat → Int32) (M_weight : Nat → Int32) (M_tape : Nat → Int32) (M_letter : Nat → Int32) (M_letterAt : Nat → Int32) (M_told : Nat → Int32) (M_kept : Nat → Int32) (M_then : Nat → Int64) (M_row : Nat → Int32) (post : Int32 → Prop) (K : Int32 → Prop) (S : CallFix p m c cX5_areInches 2 s ([.ref (a_M 0)] : List Value).toArray bg RX5) (hK : va_K D vwCl (tz cI cJ cC) s) (hDD : ∀ ws : va_W, ws.map (fun q => q.1) = [a_M 0, a_M 1, a_M 2, a_M 3, a_M 4, a_M 5, a_M 6, a_M 7, a_M 8, a_M 9, a_M 10, a_M 11, a_M 12, a_M 13] → va_D A ws) (hA : ∀ q, s.heap.size ≤ q → A q) (hE : EV G A s) (hret : ∀ (r : Int32) (u : Unit) (H : Heap) (locs : List Loc) (ls : Array Slot) (pc : Nat), narrow .boolean (.int r) = .int r → post r  → va_P D vwCl ((bX5 cI cJ cC a_M M_pipes M_used M_taped M_at M_statements M_hasImage M_isKeeping M_cursor M_nextAt M_nextMost M_rowMany M_refused M_setting M_hole M_pipeAt M_chance M_weight M_tape M_letter M_letterAt M_told M_kept M_then M_row)) H → va_S A s.heap H locs → decode cX5_areInches pc = .ok (.ireturn, 1) → W p l e ({ frames := 1, cells := 0, slots := 0, locals := 20 }) s m ([.ref (a_M 0)] : List Value).toArray below meth c H locs 0 0 Q (F0 m pc ls [.int r])) (hKK : ∀ (x1 : Int32) (H : Heap) (locs : List Loc) (ls : Array Slot), K x1 → va_P D vwCl ((bX5 cI cJ cC a_M M_pipes M_used M_taped M_at M_statements M_hasImage M_isKeeping M_cursor M_nextAt M_nextMost M_rowMany M_refused M_setting M_hole M_pipeAt M_chance M_weight M_tape M_letter M_letterAt M_told M_kept M_then M_row)) H → va_S A s.heap H locs → lv_has ls 2 [] → W p l e ({ frames := 1, cells := 0, slots := 0, locals := 20 }) s m ([.ref (a_M 0)] : List Value).toArray below meth c H locs 0 0 Q (F0 m 33 ls [])) :
    ∀ (n : Nat) (x1 : Int32) (H : Heap) (locs : List Loc) (ls : Array Slot), lpX5_areInches_2 post K M_rowMany M_row n x1 → va_P D vwCl ((bX5 cI cJ cC a_M M_pipes M_used M_taped M_at M_statements M_hasImage M_isKeeping M_cursor M_nextAt M_nextMost M_rowMany M_refused M_setting M_hole M_pipeAt M_chance M_weight M_tape M_letter M_letterAt M_told M_kept M_then M_row)) H → va_S A s.heap H locs → lv_has ls 2 [(0, .ref (a_M 0)), (1, .int x1)] → W p l e ({ frames := 1, cells := 0, slots := 0, locals := 20 }) s m ([.ref (a_M 0)] : List Value).toArray below meth c H locs 0 0 Q (F0 m 2 ls []) := by
  obtain ⟨hx, hb, hml, hown, ht⟩ := id S
  intro n
  induction n with
  | zero =>
    intro x1 H locs ls h
    exact absurd h (by simp [lpX5_areInches_2])
  | succ n ih =>
    intro x1 H locs ls h hP hS hl
    rw [lpX5_areInches_2] at h
    refine lv_iload_n hx hb dX5_areInches_2 rfl (lv_at hl 1 rfl) ?_
    refine lv_aload_n hx hb dX5_areInches_3 rfl (lv_at hl 0 rfl) ?_
    refine va_get (D := D) (ci := 5) (v := .int M_rowMany) (C := RX5) (T := TX5) (N := 24) hx hb ht inX5 hown hK hP 0 rfl rfl 23 (by decide) (ht _ fl_X5_274) (fun _ h9 => h9) rfl dX5_areInches_4 ?_
    refine lv_icmp_ge (tgt := 33) hx hb dX5_areInches_7 (by decide) (fun z => ?_) (fun z => ?_)
    · replace h := h.1 z
      exact hKK x1 _ _ _ h hP hS (lv_sub hl [] rfl)
    · replace h := h.2 z
      refine lv_aload_n hx hb dX5_areInches_10 rfl (lv_at hl 0 rfl) ?_
      refine va_get (D := D) (ci := 5) (v := .ref (a_M 13)) (C := RX5) (T := TX5) (N := 24) hx hb ht inX5 hown hK hP 0 rfl rfl 22 (by decide) (ht _ fl_X5_47) (fun _ h9 => h9) rfl dX5_areInches_11 ?_
      refine lv_iload_n hx hb dX5_areInches_14 rfl (lv_at hl 1 rfl) ?_
      obtain ⟨hin, h⟩ := h
      refine va_iald hx hb hK hP 13 0 rfl rfl hin dX5_areInches_15 ?_
      refine lv_bipush (v := (50 : Int32)) hx hb dX5_areInches_16 (by decide) ?_
      refine lv_irem hx hb dX5_areInches_18 (by decide) ?_
      refine zci hA zD0 hS (zrunS (As := [.int ((M_row x1.toNatClampNeg) - (M_row x1.toNatClampNeg) / (50 : Int32) * (50 : Int32))]) (rest := []) S hK hA hE zP0 zD0 hS (mX5_isInch l D cI cJ cC G _ ((M_row x1.toNatClampNeg) - (M_row x1.toNatClampNeg) / (50 : Int32) * (50 : Int32)) _ h) kX5_isInch ml_X5_113 ⟨rfl, rfl, by decide, by decide⟩ rfl hl.1 rfl (Nat.le_of_ble_eq_true rfl) dX5_areInches_19 ⟨Nat.zero_le _, Nat.zero_le _⟩) (fun r_1 u H locs h hP1 hk1 hS => ?_)
      try dsimp only at h
      have hP : va_P D vwCl ((bX5 cI cJ cC a_M M_pipes M_used M_taped M_at M_statements M_hasImage M_isKeeping M_cursor M_nextAt M_nextMost M_rowMany M_refused M_setting M_hole M_pipeAt M_chance M_weight M_tape M_letter M_letterAt M_told M_kept M_then M_row)) H := zKeep hP hk1
      refine lv_if_ne (tgt := 27) hx hb dX5_areInches_22 (by decide) (fun z => ?_) (fun z => ?_)
      · replace h := h.2 z
        refine lv_iinc (v := x1 + (1 : Int32)) (lv' := [(1, .int (x1 + (1 : Int32))), (0, .ref (a_M 0))]) hx hb dX5_areInches_27 hl (k := 1) rfl (by rfl) (by decide) rfl (fun ls hl => ?_)
        refine lv_goto (tgt := 2) hx hb dX5_areInches_30 (by decide) ?_
        exact ih (x1 + (1 : Int32)) _ _ _ h hP hS (lv_sub hl [1, 0] rfl)
      · replace h := h.1 z
        refine lv_iconst (v := (0 : Int32)) hx hb dX5_areInches_25 (by decide) ?_
        exact hret (0 : Int32) () _ _ _ _ rfl h hP hS dX5_areInches_26
def wpX5_areInches (post : Int32 → Prop) (M_rowMany : Int32) (M_row : Nat → Int32) : Prop := ∃ n_2 : Nat, lpX5_areInches_2 post (fun (x1_3 : Int32) => post (1 : Int32)) M_rowMany M_row n_2 (0 : Int32)
set_option maxHeartbeats 4000000 in
set_option maxRecDepth 100000 in
theorem mX5_areInches (l : Launch) (D : va_G) (cI cJ cC : ClassId) (G : Nat → Nat → Nat) (a_M : Nat → Nat) (sz : Nat) (M_pipes : Int32) (M_used : Int32) (M_taped : Int32) (M_at : Int32) (M_statements : Int32) (M_hasImage : Int32) (M_isKeeping : Int32) (M_cursor : Int32) (M_nextAt : Int32) (M_nextMost : Int64) (M_rowMany : Int32) (M_refused : Nat → Int32) (M_setting : Nat → Int32) (M_hole : Nat → Int32) (M_pipeAt : Nat → Int32) (M_chance : Nat → Int32) (M_weight : Nat → Int32) (M_tape : Nat → Int32) (M_letter : Nat → Int32) (M_letterAt : Nat → Int32) (M_told : Nat → Int32) (M_kept : Nat → Int32) (M_then : Nat → Int64) (M_row : Nat → Int32) (post : Int32 → Prop) (h : wpX5_areInches post M_rowMany M_row) : Met l yX5_areInches (wz yX5_areInches cX5_areInches 2 (some .boolean)) ({ frames := 1, cells := 0, slots := 0, locals := 20 }) (va_Pc [.ref (a_M 0)] (PW D (tz cI cJ cC) G ((bX5 cI cJ cC a_M M_pipes M_used M_taped M_at M_statements M_hasImage M_isKeeping M_cursor M_nextAt M_nextMost M_rowMany M_refused M_setting M_hole M_pipeAt M_chance M_weight M_tape M_letter M_letterAt M_told M_kept M_then M_row)) sz)) (va_Qi (fun (r : Int32) (u : Unit) => post r ) (fun (u : Unit) t => va_P D vwCl ((bX5 cI cJ cC a_M M_pipes M_used M_taped M_at M_statements M_hasImage M_isKeeping M_cursor M_nextAt M_nextMost M_rowMany M_refused M_setting M_hole M_pipeAt M_chance M_weight M_tape M_letter M_letterAt M_told M_kept M_then M_row)) t.heap) (va_A ((bX5 cI cJ cC a_M M_pipes M_used M_taped M_at M_statements M_hasImage M_isKeeping M_cursor M_nextAt M_nextMost M_rowMany M_refused M_setting M_hole M_pipeAt M_chance M_weight M_tape M_letter M_letterAt M_told M_kept M_then M_row)) sz)) 0 0 (va_A ((bX5 cI cJ cC a_M M_pipes M_used M_taped M_at M_statements M_hasImage M_isKeeping M_cursor M_nextAt M_nextMost M_rowMany M_refused M_setting M_hole M_pipeAt M_chance M_weight M_tape M_letter M_letterAt M_told M_kept M_then M_row)) sz) := by
  refine zmi (gw := fun (u : Unit) => (bX5 cI cJ cC a_M M_pipes M_used M_taped M_at M_statements M_hasImage M_isKeeping M_cursor M_nextAt M_nextMost M_rowMany M_refused M_setting M_hole M_pipeAt M_chance M_weight M_tape M_letter M_letterAt M_told M_kept M_then M_row)) (plainFor_of_name (by decide)) (Nat.le_of_ble_eq_true rfl) ?_
  intro p e s m below meth c A Q ls S hK hD hA hE hP hl hret
  obtain ⟨hx, hb, hml, hown, ht⟩ := id S
  have hS : va_S A s.heap s.heap [] := va_S.rf
  have hDD : ∀ ws : va_W, ws.map (fun q => q.1) = [a_M 0, a_M 1, a_M 2, a_M 3, a_M 4, a_M 5, a_M 6, a_M 7, a_M 8, a_M 9, a_M 10, a_M 11, a_M 12, a_M 13] → va_D A ws := fun ws hw => zD hD (hw.trans rfl)
  have hl : lv_has ls 2 [(0, .ref (a_M 0))] := hl
  unfold wpX5_areInches at h
  refine lv_iconst (v := (0 : Int32)) hx hb dX5_areInches_0 (by decide) ?_
  refine lv_istore_n (lv' := [(1, .int (0 : Int32)), (0, .ref (a_M 0))]) hx hb dX5_areInches_1 rfl hl (by decide) rfl (fun ls hl => ?_)
  obtain ⟨n_2, h⟩ := h
  refine wX5_areInches_2 l D cI cJ cC G a_M M_pipes M_used M_taped M_at M_statements M_hasImage M_isKeeping M_cursor M_nextAt M_nextMost M_rowMany M_refused M_setting M_hole M_pipeAt M_chance M_weight M_tape M_letter M_letterAt M_told M_kept M_then M_row post _ S hK hDD hA hE hret (fun x1_3 H locs ls h hP hS hl => ?_) n_2 (0 : Int32) _ _ _ h hP hS (lv_sub hl [1, 0] rfl)
  try dsimp only at h
  refine lv_iconst (v := (1 : Int32)) hx hb dX5_areInches_33 (by decide) ?_
  exact hret (1 : Int32) () _ _ _ _ rfl h hP hS dX5_areInches_34
def lpX5_isAsTold_2 (post : Int32 → Prop) (K : Int32 → Prop) (x1 : Int32) (M_rowMany : Int32) (M_setting : Nat → Int32) (M_row : Nat → Int32) : Nat → Int32 → Prop
  | 0, _ => False
  | n + 1, x2 => ((M_rowMany ≤ x2 → (K x2)) ∧ (¬ (M_rowMany ≤ x2) → (vp_in x2 8 ∧ (wpX5_isWood (fun (r_1 : Int32) => vp_in x2 8 ∧ ((((M_row x2.toNatClampNeg) < (50 : Int32) → (((r_1 = (0 : Int32) → (lpX5_isAsTold_2 post K x1 M_rowMany M_setting M_row n (x2 + (1 : Int32)))) ∧ (¬ (r_1 = (0 : Int32)) → (post (0 : Int32)))))) ∧ (¬ ((M_row x2.toNatClampNeg) < (50 : Int32)) → (((r_1 = (1 : Int32) → (lpX5_isAsTold_2 post K x1 M_rowMany M_setting M_row n (x2 + (1 : Int32)))) ∧ (¬ (r_1 = (1 : Int32)) → (post (0 : Int32))))))))) M_setting ((M_row x2.toNatClampNeg) - (M_row x2.toNatClampNeg) / (50 : Int32) * (50 : Int32)) x1))))
set_option maxHeartbeats 4000000 in
set_option maxRecDepth 100000 in
theorem wX5_isAsTold_2 (l : Launch) (D : va_G) (cI cJ cC : ClassId) (G : Nat → Nat → Nat) (a_M : Nat → Nat) {p : Program} {e : Env} {s : State} {m : MethodId} {below : List Frame} {meth : Method} {c : Code} {A : Nat → Prop} {Q : State → Prop} (p1 : Int32) (x1 : Int32) (M_pipes : Int32) (M_used : Int32) (M_taped : Int32) (M_at : Int32) (M_statements : Int32) (M_hasImage : Int32) (M_isKeeping : Int32) (M_cursor : Int32) (M_nextAt : Int32) (M_nextMost : Int64) (M_rowMany : Int32) (M_refused : Nat → Int32) (M_setting : Nat → Int32) (M_hole : Nat → Int32) (M_pipeAt : Nat → Int32) (M_chance : Nat → Int32) (M_weight : Nat → Int32) (M_tape : Nat → Int32) (M_letter : Nat → Int32) (M_letterAt : Nat → Int32) (M_told : Nat → Int32) (M_kept : Nat → Int32) (M_then : Nat → Int64) (M_row : Nat → Int32) (post : Int32 → Prop) (K : Int32 → Prop) (S : CallFix p m c cX5_isAsTold 3 s ([.ref (a_M 0), .int p1] : List Value).toArray bg RX5) (hK : va_K D vwCl (tz cI cJ cC) s) (hDD : ∀ ws : va_W, ws.map (fun q => q.1) = [a_M 0, a_M 1, a_M 2, a_M 3, a_M 4, a_M 5, a_M 6, a_M 7, a_M 8, a_M 9, a_M 10, a_M 11, a_M 12, a_M 13] → va_D A ws) (hA : ∀ q, s.heap.size ≤ q → A q) (hE : EV G A s) (hret : ∀ (r : Int32) (u : Unit) (H : Heap) (locs : List Loc) (ls : Array Slot) (pc : Nat), narrow .boolean (.int r) = .int r → post r  → va_P D vwCl ((bX5 cI cJ cC a_M M_pipes M_used M_taped M_at M_statements M_hasImage M_isKeeping M_cursor M_nextAt M_nextMost M_rowMany M_refused M_setting M_hole M_pipeAt M_chance M_weight M_tape M_letter M_letterAt M_told M_kept M_then M_row)) H → va_S A s.heap H locs → decode cX5_isAsTold pc = .ok (.ireturn, 1) → W p l e ({ frames := 4, cells := 0, slots := 0, locals := 88 }) s m ([.ref (a_M 0), .int p1] : List Value).toArray below meth c H locs 0 0 Q (F0 m pc ls [.int r])) (hKK : ∀ (x2 : Int32) (H : Heap) (locs : List Loc) (ls : Array Slot), K x2 → va_P D vwCl ((bX5 cI cJ cC a_M M_pipes M_used M_taped M_at M_statements M_hasImage M_isKeeping M_cursor M_nextAt M_nextMost M_rowMany M_refused M_setting M_hole M_pipeAt M_chance M_weight M_tape M_letter M_letterAt M_told M_kept M_then M_row)) H → va_S A s.heap H locs → lv_has ls 3 [] → W p l e ({ frames := 4, cells := 0, slots := 0, locals := 88 }) s m ([.ref (a_M 0), .int p1] : List Value).toArray below meth c H locs 0 0 Q (F0 m 51 ls [])) :
    ∀ (n : Nat) (x2 : Int32) (H : Heap) (locs : List Loc) (ls : Array Slot), lpX5_isAsTold_2 post K x1 M_rowMany M_setting M_row n x2 → va_P D vwCl ((bX5 cI cJ cC a_M M_pipes M_used M_taped M_at M_statements M_hasImage M_isKeeping M_cursor M_nextAt M_nextMost M_rowMany M_refused M_setting M_hole M_pipeAt M_chance M_weight M_tape M_letter M_letterAt M_told M_kept M_then M_row)) H → va_S A s.heap H locs → lv_has ls 3 [(0, .ref (a_M 0)), (1, .int x1), (2, .int x2)] → W p l e ({ frames := 4, cells := 0, slots := 0, locals := 88 }) s m ([.ref (a_M 0), .int p1] : List Value).toArray below meth c H locs 0 0 Q (F0 m 2 ls []) := by
  obtain ⟨hx, hb, hml, hown, ht⟩ := id S
  intro n
  induction n with
  | zero =>
    intro x2 H locs ls h
    exact absurd h (by simp [lpX5_isAsTold_2])
  | succ n ih =>
    intro x2 H locs ls h hP hS hl
    rw [lpX5_isAsTold_2] at h
    refine lv_iload_n hx hb dX5_isAsTold_2 rfl (lv_at hl 2 rfl) ?_
    refine lv_aload_n hx hb dX5_isAsTold_3 rfl (lv_at hl 0 rfl) ?_
    refine va_get (D := D) (ci := 5) (v := .int M_rowMany) (C := RX5) (T := TX5) (N := 24) hx hb ht inX5 hown hK hP 0 rfl rfl 23 (by decide) (ht _ fl_X5_274) (fun _ h9 => h9) rfl dX5_isAsTold_4 ?_
    refine lv_icmp_ge (tgt := 51) hx hb dX5_isAsTold_7 (by decide) (fun z => ?_) (fun z => ?_)
    · replace h := h.1 z
      exact hKK x2 _ _ _ h hP hS (lv_sub hl [] rfl)
    · replace h := h.2 z
      refine lv_aload_n hx hb dX5_isAsTold_10 rfl (lv_at hl 0 rfl) ?_
      refine lv_aload_n hx hb dX5_isAsTold_11 rfl (lv_at hl 0 rfl) ?_
      refine va_get (D := D) (ci := 5) (v := .ref (a_M 13)) (C := RX5) (T := TX5) (N := 24) hx hb ht inX5 hown hK hP 0 rfl rfl 22 (by decide) (ht _ fl_X5_47) (fun _ h9 => h9) rfl dX5_isAsTold_12 ?_
      refine lv_iload_n hx hb dX5_isAsTold_15 rfl (lv_at hl 2 rfl) ?_
      obtain ⟨hin, h⟩ := h
      refine va_iald hx hb hK hP 13 0 rfl rfl hin dX5_isAsTold_16 ?_
      refine lv_bipush (v := (50 : Int32)) hx hb dX5_isAsTold_17 (by decide) ?_
      refine lv_irem hx hb dX5_isAsTold_19 (by decide) ?_
      refine lv_iload_n hx hb dX5_isAsTold_20 rfl (lv_at hl 1 rfl) ?_
      refine zci hA (hDD _ rfl) hS (zrunV (As := [.int ((M_row x2.toNatClampNeg) - (M_row x2.toNatClampNeg) / (50 : Int32) * (50 : Int32)), .int x1]) (rest := []) S hK hA hE hP (hDD _ rfl) hS (mX5_isWood l D cI cJ cC G a_M _ M_pipes M_used M_taped M_at M_statements M_hasImage M_isKeeping M_cursor M_nextAt M_nextMost M_rowMany M_refused M_setting M_hole M_pipeAt M_chance M_weight M_tape M_letter M_letterAt M_told M_kept M_then M_row ((M_row x2.toNatClampNeg) - (M_row x2.toNatClampNeg) / (50 : Int32) * (50 : Int32)) x1 _ h) kX5_isWood ml_X5_171 ⟨rfl, rfl, by decide, by decide⟩ (q0 := 0) (ci := 5) rfl rfl rfl rfl hl.1 rfl (Nat.le_of_ble_eq_true rfl) dX5_isAsTold_21 ⟨Nat.zero_le _, Nat.zero_le _⟩) (fun r_1 u H locs h hP1 hk1 hS => ?_)
      try dsimp only at h
      have hP : va_P D vwCl ((bX5 cI cJ cC a_M M_pipes M_used M_taped M_at M_statements M_hasImage M_isKeeping M_cursor M_nextAt M_nextMost M_rowMany M_refused M_setting M_hole M_pipeAt M_chance M_weight M_tape M_letter M_letterAt M_told M_kept M_then M_row)) H := hP1
      refine lv_aload_n hx hb dX5_isAsTold_24 rfl (lv_at hl 0 rfl) ?_
      refine va_get (D := D) (ci := 5) (v := .ref (a_M 13)) (C := RX5) (T := TX5) (N := 24) hx hb ht inX5 hown hK hP 0 rfl rfl 22 (by decide) (ht _ fl_X5_47) (fun _ h9 => h9) rfl dX5_isAsTold_25 ?_
      refine lv_iload_n hx hb dX5_isAsTold_28 rfl (lv_at hl 2 rfl) ?_
      obtain ⟨hin, h⟩ := h
      refine va_iald hx hb hK hP 13 0 rfl rfl hin dX5_isAsTold_29 ?_
      refine lv_bipush (v := (50 : Int32)) hx hb dX5_isAsTold_30 (by decide) ?_
      refine lv_icmp_lt (tgt := 39) hx hb dX5_isAsTold_32 (by decide) (fun z => ?_) (fun z => ?_)
      · replace h := h.1 z
        refine lv_iconst (v := (0 : Int32)) hx hb dX5_isAsTold_39 (by decide) ?_
        refine lv_icmp_eq (tgt := 45) hx hb dX5_isAsTold_40 (by decide) (fun z => ?_) (fun z => ?_)
        · replace h := h.1 z
          refine lv_iinc (v := x2 + (1 : Int32)) (lv' := [(2, .int (x2 + (1 : Int32))), (0, .ref (a_M 0)), (1, .int x1)]) hx hb dX5_isAsTold_45 hl (k := 2) rfl (by rfl) (by decide) rfl (fun ls hl => ?_)
          refine lv_goto (tgt := 2) hx hb dX5_isAsTold_48 (by decide) ?_
          exact ih (x2 + (1 : Int32)) _ _ _ h hP hS (lv_sub hl [1, 2, 0] rfl)
        · replace h := h.2 z
          refine lv_iconst (v := (0 : Int32)) hx hb dX5_isAsTold_43 (by decide) ?_
          exact hret (0 : Int32) () _ _ _ _ rfl h hP hS dX5_isAsTold_44
      · replace h := h.2 z
        refine lv_iconst (v := (1 : Int32)) hx hb dX5_isAsTold_35 (by decide) ?_
        refine lv_goto (tgt := 40) hx hb dX5_isAsTold_36 (by decide) ?_
        refine lv_icmp_eq (tgt := 45) hx hb dX5_isAsTold_40 (by decide) (fun z => ?_) (fun z => ?_)
        · replace h := h.1 z
          refine lv_iinc (v := x2 + (1 : Int32)) (lv' := [(2, .int (x2 + (1 : Int32))), (0, .ref (a_M 0)), (1, .int x1)]) hx hb dX5_isAsTold_45 hl (k := 2) rfl (by rfl) (by decide) rfl (fun ls hl => ?_)
          refine lv_goto (tgt := 2) hx hb dX5_isAsTold_48 (by decide) ?_
          exact ih (x2 + (1 : Int32)) _ _ _ h hP hS (lv_sub hl [1, 2, 0] rfl)
        · replace h := h.2 z
          refine lv_iconst (v := (0 : Int32)) hx hb dX5_isAsTold_43 (by decide) ?_
          exact hret (0 : Int32) () _ _ _ _ rfl h hP hS dX5_isAsTold_44
def wpX5_isAsTold (post : Int32 → Prop) (M_rowMany : Int32) (M_setting : Nat → Int32) (M_row : Nat → Int32) (p1 : Int32) : Prop := ∃ n_2 : Nat, lpX5_isAsTold_2 post (fun (x2_3 : Int32) => post (1 : Int32)) p1 M_rowMany M_setting M_row n_2 (0 : Int32)
set_option maxHeartbeats 4000000 in
set_option maxRecDepth 100000 in
theorem mX5_isAsTold (l : Launch) (D : va_G) (cI cJ cC : ClassId) (G : Nat → Nat → Nat) (a_M : Nat → Nat) (sz : Nat) (M_pipes : Int32) (M_used : Int32) (M_taped : Int32) (M_at : Int32) (M_statements : Int32) (M_hasImage : Int32) (M_isKeeping : Int32) (M_cursor : Int32) (M_nextAt : Int32) (M_nextMost : Int64) (M_rowMany : Int32) (M_refused : Nat → Int32) (M_setting : Nat → Int32) (M_hole : Nat → Int32) (M_pipeAt : Nat → Int32) (M_chance : Nat → Int32) (M_weight : Nat → Int32) (M_tape : Nat → Int32) (M_letter : Nat → Int32) (M_letterAt : Nat → Int32) (M_told : Nat → Int32) (M_kept : Nat → Int32) (M_then : Nat → Int64) (M_row : Nat → Int32) (p1 : Int32) (post : Int32 → Prop) (h : wpX5_isAsTold post M_rowMany M_setting M_row p1) : Met l yX5_isAsTold (wz yX5_isAsTold cX5_isAsTold 3 (some .boolean)) ({ frames := 4, cells := 0, slots := 0, locals := 88 }) (va_Pc [.ref (a_M 0), .int p1] (PW D (tz cI cJ cC) G ((bX5 cI cJ cC a_M M_pipes M_used M_taped M_at M_statements M_hasImage M_isKeeping M_cursor M_nextAt M_nextMost M_rowMany M_refused M_setting M_hole M_pipeAt M_chance M_weight M_tape M_letter M_letterAt M_told M_kept M_then M_row)) sz)) (va_Qi (fun (r : Int32) (u : Unit) => post r ) (fun (u : Unit) t => va_P D vwCl ((bX5 cI cJ cC a_M M_pipes M_used M_taped M_at M_statements M_hasImage M_isKeeping M_cursor M_nextAt M_nextMost M_rowMany M_refused M_setting M_hole M_pipeAt M_chance M_weight M_tape M_letter M_letterAt M_told M_kept M_then M_row)) t.heap) (va_A ((bX5 cI cJ cC a_M M_pipes M_used M_taped M_at M_statements M_hasImage M_isKeeping M_cursor M_nextAt M_nextMost M_rowMany M_refused M_setting M_hole M_pipeAt M_chance M_weight M_tape M_letter M_letterAt M_told M_kept M_then M_row)) sz)) 0 0 (va_A ((bX5 cI cJ cC a_M M_pipes M_used M_taped M_at M_statements M_hasImage M_isKeeping M_cursor M_nextAt M_nextMost M_rowMany M_refused M_setting M_hole M_pipeAt M_chance M_weight M_tape M_letter M_letterAt M_told M_kept M_then M_row)) sz) := by
  refine zmi (gw := fun (u : Unit) => (bX5 cI cJ cC a_M M_pipes M_used M_taped M_at M_statements M_hasImage M_isKeeping M_cursor M_nextAt M_nextMost M_rowMany M_refused M_setting M_hole M_pipeAt M_chance M_weight M_tape M_letter M_letterAt M_told M_kept M_then M_row)) (plainFor_of_name (by decide)) (Nat.le_of_ble_eq_true rfl) ?_
  intro p e s m below meth c A Q ls S hK hD hA hE hP hl hret
  obtain ⟨hx, hb, hml, hown, ht⟩ := id S
  have hS : va_S A s.heap s.heap [] := va_S.rf
  have hDD : ∀ ws : va_W, ws.map (fun q => q.1) = [a_M 0, a_M 1, a_M 2, a_M 3, a_M 4, a_M 5, a_M 6, a_M 7, a_M 8, a_M 9, a_M 10, a_M 11, a_M 12, a_M 13] → va_D A ws := fun ws hw => zD hD (hw.trans rfl)
  have hl : lv_has ls 3 [(0, .ref (a_M 0)), (1, .int p1)] := hl
  unfold wpX5_isAsTold at h
  refine lv_iconst (v := (0 : Int32)) hx hb dX5_isAsTold_0 (by decide) ?_
  refine lv_istore_n (lv' := [(2, .int (0 : Int32)), (0, .ref (a_M 0)), (1, .int p1)]) hx hb dX5_isAsTold_1 rfl hl (by decide) rfl (fun ls hl => ?_)
  obtain ⟨n_2, h⟩ := h
  refine wX5_isAsTold_2 l D cI cJ cC G a_M p1 p1 M_pipes M_used M_taped M_at M_statements M_hasImage M_isKeeping M_cursor M_nextAt M_nextMost M_rowMany M_refused M_setting M_hole M_pipeAt M_chance M_weight M_tape M_letter M_letterAt M_told M_kept M_then M_row post _ S hK hDD hA hE hret (fun x2_3 H locs ls h hP hS hl => ?_) n_2 (0 : Int32) _ _ _ h hP hS (lv_sub hl [1, 2, 0] rfl)
  try dsimp only at h
  refine lv_iconst (v := (1 : Int32)) hx hb dX5_isAsTold_51 (by decide) ?_
  exact hret (1 : Int32) () _ _ _ _ rfl h hP hS dX5_isAsTold_52
def lpX5_old_4 (K : Int32 → Int32 → Prop) (M_rowMany : Int32) (M_setting : Nat → Int32) (M_weight : Nat → Int32) (M_row : Nat → Int32) : Nat → Int32 → Int32 → Prop
  | 0, _, _ => False
  | n + 1, x1, x2 => (((M_setting 0) ≤ x2 → (K x1 x2)) ∧ (¬ ((M_setting 0) ≤ x2) → (wpX5_areInches (fun (r_1 : Int32) => ((r_1 = (0 : Int32) → (K x1 x2)) ∧ (¬ (r_1 = (0 : Int32)) → (vp_in x2 24 ∧ ((((M_weight x2.toNatClampNeg) ≤ (0 : Int32) → (lpX5_old_4 K M_rowMany M_setting M_weight M_row n (x1 ||| (0 : Int32)) (x2 + (1 : Int32)))) ∧ (¬ ((M_weight x2.toNatClampNeg) ≤ (0 : Int32)) → (wpX5_isAsTold (fun (r_2 : Int32) => ((r_2 = (0 : Int32) → (lpX5_old_4 K M_rowMany M_setting M_weight M_row n (x1 ||| (0 : Int32)) (x2 + (1 : Int32)))) ∧ (¬ (r_2 = (0 : Int32)) → (lpX5_old_4 K M_rowMany M_setting M_weight M_row n (x1 ||| ((1 : Int32) <<< (x2 &&& 31))) (x2 + (1 : Int32)))))) M_rowMany M_setting M_row x2)))))))) M_rowMany M_row)))
set_option maxHeartbeats 4000000 in
set_option maxRecDepth 100000 in
theorem wX5_old_4 (l : Launch) (D : va_G) (cI cJ cC : ClassId) (G : Nat → Nat → Nat) (a_M : Nat → Nat) {p : Program} {e : Env} {s : State} {m : MethodId} {below : List Frame} {meth : Method} {c : Code} {A : Nat → Prop} {Q : State → Prop} (M_pipes : Int32) (M_used : Int32) (M_taped : Int32) (M_at : Int32) (M_statements : Int32) (M_hasImage : Int32) (M_isKeeping : Int32) (M_cursor : Int32) (M_nextAt : Int32) (M_nextMost : Int64) (M_rowMany : Int32) (M_refused : Nat → Int32) (M_setting : Nat → Int32) (M_hole : Nat → Int32) (M_pipeAt : Nat → Int32) (M_chance : Nat → Int32) (M_weight : Nat → Int32) (M_tape : Nat → Int32) (M_letter : Nat → Int32) (M_letterAt : Nat → Int32) (M_told : Nat → Int32) (M_kept : Nat → Int32) (M_then : Nat → Int64) (M_row : Nat → Int32) (K : Int32 → Int32 → Prop) (S : CallFix p m c cX5_old 3 s ([.ref (a_M 0)] : List Value).toArray bg RX5) (hK : va_K D vwCl (tz cI cJ cC) s) (hDD : ∀ ws : va_W, ws.map (fun q => q.1) = [a_M 0, a_M 1, a_M 2, a_M 3, a_M 4, a_M 5, a_M 6, a_M 7, a_M 8, a_M 9, a_M 10, a_M 11, a_M 12, a_M 13] → va_D A ws) (hA : ∀ q, s.heap.size ≤ q → A q) (hE : EV G A s) (hKK : ∀ (x1 : Int32) (x2 : Int32) (H : Heap) (locs : List Loc) (ls : Array Slot), K x1 x2 → va_P D vwCl ((bX5 cI cJ cC a_M M_pipes M_used M_taped M_at M_statements M_hasImage M_isKeeping M_cursor M_nextAt M_nextMost M_rowMany M_refused M_setting M_hole M_pipeAt M_chance M_weight M_tape M_letter M_letterAt M_told M_kept M_then M_row)) H → va_S A s.heap H locs → lv_has ls 3 [(1, .int x1)] → W p l e ({ frames := 5, cells := 0, slots := 0, locals := 110 }) s m ([.ref (a_M 0)] : List Value).toArray below meth c H locs 0 0 Q (F0 m 54 ls [])) :
    ∀ (n : Nat) (x1 : Int32) (x2 : Int32) (H : Heap) (locs : List Loc) (ls : Array Slot), lpX5_old_4 K M_rowMany M_setting M_weight M_row n x1 x2 → va_P D vwCl ((bX5 cI cJ cC a_M M_pipes M_used M_taped M_at M_statements M_hasImage M_isKeeping M_cursor M_nextAt M_nextMost M_rowMany M_refused M_setting M_hole M_pipeAt M_chance M_weight M_tape M_letter M_letterAt M_told M_kept M_then M_row)) H → va_S A s.heap H locs → lv_has ls 3 [(0, .ref (a_M 0)), (1, .int x1), (2, .int x2)] → W p l e ({ frames := 5, cells := 0, slots := 0, locals := 110 }) s m ([.ref (a_M 0)] : List Value).toArray below meth c H locs 0 0 Q (F0 m 4 ls []) := by
  obtain ⟨hx, hb, hml, hown, ht⟩ := id S
  intro n
  induction n with
  | zero =>
    intro x1 x2 H locs ls h
    exact absurd h (by simp [lpX5_old_4])
  | succ n ih =>
    intro x1 x2 H locs ls h hP hS hl
    rw [lpX5_old_4] at h
    refine lv_iload_n hx hb dX5_old_4 rfl (lv_at hl 2 rfl) ?_
    refine lv_aload_n hx hb dX5_old_5 rfl (lv_at hl 0 rfl) ?_
    refine va_get (D := D) (ci := 5) (v := .ref (a_M 2)) (C := RX5) (T := TX5) (N := 24) hx hb ht inX5 hown hK hP 0 rfl rfl 1 (by decide) (ht _ fl_X5_13) (fun _ h9 => h9) rfl dX5_old_6 ?_
    refine lv_iconst (v := (0 : Int32)) hx hb dX5_old_9 (by decide) ?_
    refine va_iald hx hb hK hP 2 0 rfl rfl (by unfold vp_in; decide) dX5_old_10 ?_
    refine zti (y := M_setting 0) (by rfl) ?_
    refine lv_icmp_ge (tgt := 54) hx hb dX5_old_11 (by decide) (fun z => ?_) (fun z => ?_)
    · replace h := h.1 z
      exact hKK x1 x2 _ _ _ h hP hS (lv_sub hl [1] rfl)
    · replace h := h.2 z
      refine lv_aload_n hx hb dX5_old_14 rfl (lv_at hl 0 rfl) ?_
      refine zci hA (hDD _ rfl) hS (zrunV (As := []) (rest := []) S hK hA hE hP (hDD _ rfl) hS (mX5_areInches l D cI cJ cC G a_M _ M_pipes M_used M_taped M_at M_statements M_hasImage M_isKeeping M_cursor M_nextAt M_nextMost M_rowMany M_refused M_setting M_hole M_pipeAt M_chance M_weight M_tape M_letter M_letterAt M_told M_kept M_then M_row _ h) kX5_areInches ml_X5_277 ⟨rfl, rfl, by decide, by decide⟩ (q0 := 0) (ci := 5) rfl rfl rfl rfl hl.1 rfl (Nat.le_of_ble_eq_true rfl) dX5_old_15 ⟨Nat.zero_le _, Nat.zero_le _⟩) (fun r_1 u H locs h hP1 hk1 hS => ?_)
      try dsimp only at h
      have hP : va_P D vwCl ((bX5 cI cJ cC a_M M_pipes M_used M_taped M_at M_statements M_hasImage M_isKeeping M_cursor M_nextAt M_nextMost M_rowMany M_refused M_setting M_hole M_pipeAt M_chance M_weight M_tape M_letter M_letterAt M_told M_kept M_then M_row)) H := hP1
      refine lv_if_eq (tgt := 54) hx hb dX5_old_18 (by decide) (fun z => ?_) (fun z => ?_)
      · replace h := h.1 z
        exact hKK x1 x2 _ _ _ h hP hS (lv_sub hl [1] rfl)
      · replace h := h.2 z
        refine lv_iload_n hx hb dX5_old_21 rfl (lv_at hl 1 rfl) ?_
        refine lv_aload_n hx hb dX5_old_22 rfl (lv_at hl 0 rfl) ?_
        refine va_get (D := D) (ci := 5) (v := .ref (a_M 6)) (C := RX5) (T := TX5) (N := 24) hx hb ht inX5 hown hK hP 0 rfl rfl 5 (by decide) (ht _ fl_X5_25) (fun _ h9 => h9) rfl dX5_old_23 ?_
        refine lv_iload_n hx hb dX5_old_26 rfl (lv_at hl 2 rfl) ?_
        obtain ⟨hin, h⟩ := h
        refine va_iald hx hb hK hP 6 0 rfl rfl hin dX5_old_27 ?_
        refine lv_if_le (tgt := 45) hx hb dX5_old_28 (by decide) (fun z => ?_) (fun z => ?_)
        · replace h := h.1 z
          refine lv_iconst (v := (0 : Int32)) hx hb dX5_old_45 (by decide) ?_
          refine lv_ior hx hb dX5_old_46 ?_
          refine lv_istore_n (lv' := [(1, .int (x1 ||| (0 : Int32))), (0, .ref (a_M 0)), (2, .int x2)]) hx hb dX5_old_47 rfl hl (by decide) rfl (fun ls hl => ?_)
          refine lv_iinc (v := x2 + (1 : Int32)) (lv' := [(2, .int (x2 + (1 : Int32))), (1, .int (x1 ||| (0 : Int32))), (0, .ref (a_M 0))]) hx hb dX5_old_48 hl (k := 2) rfl (by rfl) (by decide) rfl (fun ls hl => ?_)
          refine lv_goto (tgt := 4) hx hb dX5_old_51 (by decide) ?_
          exact ih (x1 ||| (0 : Int32)) (x2 + (1 : Int32)) _ _ _ h hP hS (lv_sub hl [2, 1, 0] rfl)
        · replace h := h.2 z
          refine lv_aload_n hx hb dX5_old_31 rfl (lv_at hl 0 rfl) ?_
          refine lv_iload_n hx hb dX5_old_32 rfl (lv_at hl 2 rfl) ?_
          refine zci hA (hDD _ rfl) hS (zrunV (As := [.int x2]) (rest := [.int x1]) S hK hA hE hP (hDD _ rfl) hS (mX5_isAsTold l D cI cJ cC G a_M _ M_pipes M_used M_taped M_at M_statements M_hasImage M_isKeeping M_cursor M_nextAt M_nextMost M_rowMany M_refused M_setting M_hole M_pipeAt M_chance M_weight M_tape M_letter M_letterAt M_told M_kept M_then M_row x2 _ h) kX5_isAsTold ml_X5_280 ⟨rfl, rfl, by decide, by decide⟩ (q0 := 0) (ci := 5) rfl rfl rfl rfl hl.1 rfl (Nat.le_of_ble_eq_true rfl) dX5_old_33 ⟨Nat.zero_le _, Nat.zero_le _⟩) (fun r_2 u H locs h hP1 hk1 hS => ?_)
          try dsimp only at h
          have hP : va_P D vwCl ((bX5 cI cJ cC a_M M_pipes M_used M_taped M_at M_statements M_hasImage M_isKeeping M_cursor M_nextAt M_nextMost M_rowMany M_refused M_setting M_hole M_pipeAt M_chance M_weight M_tape M_letter M_letterAt M_told M_kept M_then M_row)) H := hP1
          refine lv_if_eq (tgt := 45) hx hb dX5_old_36 (by decide) (fun z => ?_) (fun z => ?_)
          · replace h := h.1 z
            refine lv_iconst (v := (0 : Int32)) hx hb dX5_old_45 (by decide) ?_
            refine lv_ior hx hb dX5_old_46 ?_
            refine lv_istore_n (lv' := [(1, .int (x1 ||| (0 : Int32))), (0, .ref (a_M 0)), (2, .int x2)]) hx hb dX5_old_47 rfl hl (by decide) rfl (fun ls hl => ?_)
            refine lv_iinc (v := x2 + (1 : Int32)) (lv' := [(2, .int (x2 + (1 : Int32))), (1, .int (x1 ||| (0 : Int32))), (0, .ref (a_M 0))]) hx hb dX5_old_48 hl (k := 2) rfl (by rfl) (by decide) rfl (fun ls hl => ?_)
            refine lv_goto (tgt := 4) hx hb dX5_old_51 (by decide) ?_
            exact ih (x1 ||| (0 : Int32)) (x2 + (1 : Int32)) _ _ _ h hP hS (lv_sub hl [2, 1, 0] rfl)
          · replace h := h.2 z
            refine lv_iconst (v := (1 : Int32)) hx hb dX5_old_39 (by decide) ?_
            refine lv_iload_n hx hb dX5_old_40 rfl (lv_at hl 2 rfl) ?_
            refine lv_ishl hx hb dX5_old_41 ?_
            refine lv_goto (tgt := 46) hx hb dX5_old_42 (by decide) ?_
            refine lv_ior hx hb dX5_old_46 ?_
            refine lv_istore_n (lv' := [(1, .int (x1 ||| ((1 : Int32) <<< (x2 &&& 31)))), (0, .ref (a_M 0)), (2, .int x2)]) hx hb dX5_old_47 rfl hl (by decide) rfl (fun ls hl => ?_)
            refine lv_iinc (v := x2 + (1 : Int32)) (lv' := [(2, .int (x2 + (1 : Int32))), (1, .int (x1 ||| ((1 : Int32) <<< (x2 &&& 31)))), (0, .ref (a_M 0))]) hx hb dX5_old_48 hl (k := 2) rfl (by rfl) (by decide) rfl (fun ls hl => ?_)
            refine lv_goto (tgt := 4) hx hb dX5_old_51 (by decide) ?_
            exact ih (x1 ||| ((1 : Int32) <<< (x2 &&& 31))) (x2 + (1 : Int32)) _ _ _ h hP hS (lv_sub hl [2, 1, 0] rfl)
def wpX5_old (post : Int32 → Prop) (M_rowMany : Int32) (M_setting : Nat → Int32) (M_weight : Nat → Int32) (M_row : Nat → Int32) : Prop := ∃ n_3 : Nat, lpX5_old_4 (fun (x1_4 : Int32) (x2_5 : Int32) => post x1_4) M_rowMany M_setting M_weight M_row n_3 (0 : Int32) (0 : Int32)
set_option maxHeartbeats 4000000 in
set_option maxRecDepth 100000 in
theorem mX5_old (l : Launch) (D : va_G) (cI cJ cC : ClassId) (G : Nat → Nat → Nat) (a_M : Nat → Nat) (sz : Nat) (M_pipes : Int32) (M_used : Int32) (M_taped : Int32) (M_at : Int32) (M_statements : Int32) (M_hasImage : Int32) (M_isKeeping : Int32) (M_cursor : Int32) (M_nextAt : Int32) (M_nextMost : Int64) (M_rowMany : Int32) (M_refused : Nat → Int32) (M_setting : Nat → Int32) (M_hole : Nat → Int32) (M_pipeAt : Nat → Int32) (M_chance : Nat → Int32) (M_weight : Nat → Int32) (M_tape : Nat → Int32) (M_letter : Nat → Int32) (M_letterAt : Nat → Int32) (M_told : Nat → Int32) (M_kept : Nat → Int32) (M_then : Nat → Int64) (M_row : Nat → Int32) (post : Int32 → Prop) (h : wpX5_old post M_rowMany M_setting M_weight M_row) : Met l yX5_old (wz yX5_old cX5_old 3 (some .int)) ({ frames := 5, cells := 0, slots := 0, locals := 110 }) (va_Pc [.ref (a_M 0)] (PW D (tz cI cJ cC) G ((bX5 cI cJ cC a_M M_pipes M_used M_taped M_at M_statements M_hasImage M_isKeeping M_cursor M_nextAt M_nextMost M_rowMany M_refused M_setting M_hole M_pipeAt M_chance M_weight M_tape M_letter M_letterAt M_told M_kept M_then M_row)) sz)) (va_Qi (fun (r : Int32) (u : Unit) => post r ) (fun (u : Unit) t => va_P D vwCl ((bX5 cI cJ cC a_M M_pipes M_used M_taped M_at M_statements M_hasImage M_isKeeping M_cursor M_nextAt M_nextMost M_rowMany M_refused M_setting M_hole M_pipeAt M_chance M_weight M_tape M_letter M_letterAt M_told M_kept M_then M_row)) t.heap) (va_A ((bX5 cI cJ cC a_M M_pipes M_used M_taped M_at M_statements M_hasImage M_isKeeping M_cursor M_nextAt M_nextMost M_rowMany M_refused M_setting M_hole M_pipeAt M_chance M_weight M_tape M_letter M_letterAt M_told M_kept M_then M_row)) sz)) 0 0 (va_A ((bX5 cI cJ cC a_M M_pipes M_used M_taped M_at M_statements M_hasImage M_isKeeping M_cursor M_nextAt M_nextMost M_rowMany M_refused M_setting M_hole M_pipeAt M_chance M_weight M_tape M_letter M_letterAt M_told M_kept M_then M_row)) sz) := by
  refine zmi (gw := fun (u : Unit) => (bX5 cI cJ cC a_M M_pipes M_used M_taped M_at M_statements M_hasImage M_isKeeping M_cursor M_nextAt M_nextMost M_rowMany M_refused M_setting M_hole M_pipeAt M_chance M_weight M_tape M_letter M_letterAt M_told M_kept M_then M_row)) (plainFor_of_name (by decide)) (Nat.le_of_ble_eq_true rfl) ?_
  intro p e s m below meth c A Q ls S hK hD hA hE hP hl hret
  obtain ⟨hx, hb, hml, hown, ht⟩ := id S
  have hS : va_S A s.heap s.heap [] := va_S.rf
  have hDD : ∀ ws : va_W, ws.map (fun q => q.1) = [a_M 0, a_M 1, a_M 2, a_M 3, a_M 4, a_M 5, a_M 6, a_M 7, a_M 8, a_M 9, a_M 10, a_M 11, a_M 12, a_M 13] → va_D A ws := fun ws hw => zD hD (hw.trans rfl)
  have hl : lv_has ls 3 [(0, .ref (a_M 0))] := hl
  unfold wpX5_old at h
  refine lv_iconst (v := (0 : Int32)) hx hb dX5_old_0 (by decide) ?_
  refine lv_istore_n (lv' := [(1, .int (0 : Int32)), (0, .ref (a_M 0))]) hx hb dX5_old_1 rfl hl (by decide) rfl (fun ls hl => ?_)
  refine lv_iconst (v := (0 : Int32)) hx hb dX5_old_2 (by decide) ?_
  refine lv_istore_n (lv' := [(2, .int (0 : Int32)), (1, .int (0 : Int32)), (0, .ref (a_M 0))]) hx hb dX5_old_3 rfl hl (by decide) rfl (fun ls hl => ?_)
  obtain ⟨n_3, h⟩ := h
  refine wX5_old_4 l D cI cJ cC G a_M M_pipes M_used M_taped M_at M_statements M_hasImage M_isKeeping M_cursor M_nextAt M_nextMost M_rowMany M_refused M_setting M_hole M_pipeAt M_chance M_weight M_tape M_letter M_letterAt M_told M_kept M_then M_row _ S hK hDD hA hE (fun x1_4 x2_5 H locs ls h hP hS hl => ?_) n_3 (0 : Int32) (0 : Int32) _ _ _ h hP hS (lv_sub hl [2, 1, 0] rfl)
  try dsimp only at h
  refine lv_iload_n hx hb dX5_old_54 rfl (lv_at hl 0 rfl) ?_
  exact hret x1_4 () _ _ _ _ rfl h hP hS dX5_old_55
def lpX5_happened_70 (K : Int64 → Int32 → Prop) (x1 : Int32) (x7 : Int32) (M_rowMany : Int32) (M_setting : Nat → Int32) (M_row : Nat → Int32) : Nat → Int64 → Int32 → Prop
  | 0, _, _ => False
  | n + 1, x8, x10 => ((M_rowMany ≤ x10 → (K x8 x10)) ∧ (¬ (M_rowMany ≤ x10) → (vp_in x10 8 ∧ (vp_in x10 8 ∧ (wpX5_tenths (fun (r_7 : Int32) => lpX5_happened_70 K x1 x7 M_rowMany M_setting M_row n (x8 * r_7.toInt64) (x10 + (1 : Int32))) M_setting x1 ((M_row x10.toNatClampNeg) - (M_row x10.toNatClampNeg) / (50 : Int32) * (50 : Int32)) ((M_row x10.toNatClampNeg) / (50 : Int32)) x7)))))
set_option maxHeartbeats 4000000 in
set_option maxRecDepth 100000 in
theorem wX5_happened_70 (l : Launch) (D : va_G) (cI cJ cC : ClassId) (G : Nat → Nat → Nat) (a_M : Nat → Nat) {p : Program} {e : Env} {s : State} {m : MethodId} {below : List Frame} {meth : Method} {c : Code} {A : Nat → Prop} {Q : State → Prop} (p1 : Int32) (p2 : Int32) (x1 : Int32) (x2 : Int32) (x3 : Int64) (x5 : Int64) (x7 : Int32) (M_pipes : Int32) (M_used : Int32) (M_taped : Int32) (M_at : Int32) (M_statements : Int32) (M_hasImage : Int32) (M_isKeeping : Int32) (M_cursor : Int32) (M_nextAt : Int32) (M_nextMost : Int64) (M_rowMany : Int32) (M_refused : Nat → Int32) (M_setting : Nat → Int32) (M_hole : Nat → Int32) (M_pipeAt : Nat → Int32) (M_chance : Nat → Int32) (M_weight : Nat → Int32) (M_tape : Nat → Int32) (M_letter : Nat → Int32) (M_letterAt : Nat → Int32) (M_told : Nat → Int32) (M_kept : Nat → Int32) (M_then : Nat → Int64) (M_row : Nat → Int32) (K : Int64 → Int32 → Prop) (S : CallFix p m c cX5_happened 11 s ([.ref (a_M 0), .int p1, .int p2] : List Value).toArray bg RX5) (hK : va_K D vwCl (tz cI cJ cC) s) (hDD : ∀ ws : va_W, ws.map (fun q => q.1) = [a_M 0, a_M 1, a_M 2, a_M 3, a_M 4, a_M 5, a_M 6, a_M 7, a_M 8, a_M 9, a_M 10, a_M 11, a_M 12, a_M 13] → va_D A ws) (hA : ∀ q, s.heap.size ≤ q → A q) (hE : EV G A s) (hKK : ∀ (x8 : Int64) (x10 : Int32) (H : Heap) (locs : List Loc) (ls : Array Slot), K x8 x10 → va_P D vwCl ((bX5 cI cJ cC a_M M_pipes M_used M_taped M_at M_statements M_hasImage M_isKeeping M_cursor M_nextAt M_nextMost M_rowMany M_refused M_setting M_hole M_pipeAt M_chance M_weight M_tape M_letter M_letterAt M_told M_kept M_then M_row)) H → va_S A s.heap H locs → lv_has ls 11 [(0, .ref (a_M 0)), (1, .int x1), (2, .int x2), (3, .long x3), (5, .long x5), (7, .int x7), (8, .long x8)] → W p l e ({ frames := 5, cells := 0, slots := 0, locals := 114 }) s m ([.ref (a_M 0), .int p1, .int p2] : List Value).toArray below meth c H locs 0 0 Q (F0 m 118 ls [])) :
    ∀ (n : Nat) (x8 : Int64) (x10 : Int32) (H : Heap) (locs : List Loc) (ls : Array Slot), lpX5_happened_70 K x1 x7 M_rowMany M_setting M_row n x8 x10 → va_P D vwCl ((bX5 cI cJ cC a_M M_pipes M_used M_taped M_at M_statements M_hasImage M_isKeeping M_cursor M_nextAt M_nextMost M_rowMany M_refused M_setting M_hole M_pipeAt M_chance M_weight M_tape M_letter M_letterAt M_told M_kept M_then M_row)) H → va_S A s.heap H locs → lv_has ls 11 [(0, .ref (a_M 0)), (1, .int x1), (2, .int x2), (3, .long x3), (5, .long x5), (7, .int x7), (8, .long x8), (10, .int x10)] → W p l e ({ frames := 5, cells := 0, slots := 0, locals := 114 }) s m ([.ref (a_M 0), .int p1, .int p2] : List Value).toArray below meth c H locs 0 0 Q (F0 m 70 ls []) := by
  obtain ⟨hx, hb, hml, hown, ht⟩ := id S
  intro n
  induction n with
  | zero =>
    intro x8 x10 H locs ls h
    exact absurd h (by simp [lpX5_happened_70])
  | succ n ih =>
    intro x8 x10 H locs ls h hP hS hl
    rw [lpX5_happened_70] at h
    refine lv_iload hx hb dX5_happened_70 (lv_at hl 7 rfl) ?_
    refine lv_aload_n hx hb dX5_happened_72 rfl (lv_at hl 0 rfl) ?_
    refine va_get (D := D) (ci := 5) (v := .int M_rowMany) (C := RX5) (T := TX5) (N := 24) hx hb ht inX5 hown hK hP 0 rfl rfl 23 (by decide) (ht _ fl_X5_274) (fun _ h9 => h9) rfl dX5_happened_73 ?_
    refine lv_icmp_ge (tgt := 118) hx hb dX5_happened_76 (by decide) (fun z => ?_) (fun z => ?_)
    · replace h := h.1 z
      exact hKK x8 x10 _ _ _ h hP hS (lv_sub hl [0, 1, 2, 3, 4, 5, 6] rfl)
    · replace h := h.2 z
      refine lv_lload hx hb dX5_happened_79 (lv_at hl 6 rfl) ?_
      refine lv_aload_n hx hb dX5_happened_81 rfl (lv_at hl 0 rfl) ?_
      refine lv_iload_n hx hb dX5_happened_82 rfl (lv_at hl 1 rfl) ?_
      refine lv_aload_n hx hb dX5_happened_83 rfl (lv_at hl 0 rfl) ?_
      refine va_get (D := D) (ci := 5) (v := .ref (a_M 13)) (C := RX5) (T := TX5) (N := 24) hx hb ht inX5 hown hK hP 0 rfl rfl 22 (by decide) (ht _ fl_X5_47) (fun _ h9 => h9) rfl dX5_happened_84 ?_
      refine lv_iload hx hb dX5_happened_87 (lv_at hl 7 rfl) ?_
      obtain ⟨hin, h⟩ := h
      refine va_iald hx hb hK hP 13 0 rfl rfl hin dX5_happened_89 ?_
      refine lv_bipush (v := (50 : Int32)) hx hb dX5_happened_90 (by decide) ?_
      refine lv_irem hx hb dX5_happened_92 (by decide) ?_
      refine lv_aload_n hx hb dX5_happened_93 rfl (lv_at hl 0 rfl) ?_
      refine va_get (D := D) (ci := 5) (v := .ref (a_M 13)) (C := RX5) (T := TX5) (N := 24) hx hb ht inX5 hown hK hP 0 rfl rfl 22 (by decide) (ht _ fl_X5_47) (fun _ h9 => h9) rfl dX5_happened_94 ?_
      refine lv_iload hx hb dX5_happened_97 (lv_at hl 7 rfl) ?_
      obtain ⟨hin, h⟩ := h
      refine va_iald hx hb hK hP 13 0 rfl rfl hin dX5_happened_99 ?_
      refine lv_bipush (v := (50 : Int32)) hx hb dX5_happened_100 (by decide) ?_
      refine lv_idiv hx hb dX5_happened_102 (by decide) ?_
      refine lv_iload hx hb dX5_happened_103 (lv_at hl 5 rfl) ?_
      refine zci hA (hDD _ rfl) hS (zrunV (As := [.int x1, .int ((M_row x10.toNatClampNeg) - (M_row x10.toNatClampNeg) / (50 : Int32) * (50 : Int32)), .int ((M_row x10.toNatClampNeg) / (50 : Int32)), .int x7]) (rest := [.long x8]) S hK hA hE hP (hDD _ rfl) hS (mX5_tenths l D cI cJ cC G a_M _ M_pipes M_used M_taped M_at M_statements M_hasImage M_isKeeping M_cursor M_nextAt M_nextMost M_rowMany M_refused M_setting M_hole M_pipeAt M_chance M_weight M_tape M_letter M_letterAt M_told M_kept M_then M_row x1 ((M_row x10.toNatClampNeg) - (M_row x10.toNatClampNeg) / (50 : Int32) * (50 : Int32)) ((M_row x10.toNatClampNeg) / (50 : Int32)) x7 _ h) kX5_tenths ml_X5_184 ⟨rfl, rfl, by decide, by decide⟩ (q0 := 0) (ci := 5) rfl rfl rfl rfl hl.1 rfl (Nat.le_of_ble_eq_true rfl) dX5_happened_105 ⟨Nat.zero_le _, Nat.zero_le _⟩) (fun r_7 u H locs h hP1 hk1 hS => ?_)
      try dsimp only at h
      have hP : va_P D vwCl ((bX5 cI cJ cC a_M M_pipes M_used M_taped M_at M_statements M_hasImage M_isKeeping M_cursor M_nextAt M_nextMost M_rowMany M_refused M_setting M_hole M_pipeAt M_chance M_weight M_tape M_letter M_letterAt M_told M_kept M_then M_row)) H := hP1
      refine lv_i2l hx hb dX5_happened_108 rfl ?_
      refine lv_lmul hx hb dX5_happened_109 ?_
      refine lv_lstore (lv' := [(8, .long (x8 * r_7.toInt64)), (0, .ref (a_M 0)), (1, .int x1), (2, .int x2), (3, .long x3), (5, .long x5), (7, .int x7), (10, .int x10)]) hx hb dX5_happened_110 hl (by decide) rfl (fun ls hl => ?_)
      refine lv_iinc (v := x10 + (1 : Int32)) (lv' := [(10, .int (x10 + (1 : Int32))), (8, .long (x8 * r_7.toInt64)), (0, .ref (a_M 0)), (1, .int x1), (2, .int x2), (3, .long x3), (5, .long x5), (7, .int x7)]) hx hb dX5_happened_112 hl (k := 7) rfl (by rfl) (by decide) rfl (fun ls hl => ?_)
      refine lv_goto (tgt := 70) hx hb dX5_happened_115 (by decide) ?_
      exact ih (x8 * r_7.toInt64) (x10 + (1 : Int32)) _ _ _ h hP hS (lv_sub hl [2, 3, 4, 5, 6, 7, 1, 0] rfl)
def lpX5_happened_46 (K : Int64 → Int32 → Prop) (x1 : Int32) (M_rowMany : Int32) (M_setting : Nat → Int32) (M_weight : Nat → Int32) (M_row : Nat → Int32) : Nat → Int64 → Int32 → Prop
  | 0, _, _ => False
  | n + 1, x3, x7 => (((M_setting 0) ≤ x7 → (K x3 x7)) ∧ (¬ ((M_setting 0) ≤ x7) → (vp_in x7 24 ∧ (∃ n_8 : Nat, lpX5_happened_70 (fun (x8_9 : Int64) (x10_10 : Int32) => lpX5_happened_46 K x1 M_rowMany M_setting M_weight M_row n (x3 + x8_9) (x7 + (1 : Int32))) x1 x7 M_rowMany M_setting M_row n_8 ((M_weight x7.toNatClampNeg).toInt64) (0 : Int32)))))
set_option maxHeartbeats 4000000 in
set_option maxRecDepth 100000 in
theorem wX5_happened_46 (l : Launch) (D : va_G) (cI cJ cC : ClassId) (G : Nat → Nat → Nat) (a_M : Nat → Nat) {p : Program} {e : Env} {s : State} {m : MethodId} {below : List Frame} {meth : Method} {c : Code} {A : Nat → Prop} {Q : State → Prop} (p1 : Int32) (p2 : Int32) (x1 : Int32) (x2 : Int32) (x5 : Int64) (M_pipes : Int32) (M_used : Int32) (M_taped : Int32) (M_at : Int32) (M_statements : Int32) (M_hasImage : Int32) (M_isKeeping : Int32) (M_cursor : Int32) (M_nextAt : Int32) (M_nextMost : Int64) (M_rowMany : Int32) (M_refused : Nat → Int32) (M_setting : Nat → Int32) (M_hole : Nat → Int32) (M_pipeAt : Nat → Int32) (M_chance : Nat → Int32) (M_weight : Nat → Int32) (M_tape : Nat → Int32) (M_letter : Nat → Int32) (M_letterAt : Nat → Int32) (M_told : Nat → Int32) (M_kept : Nat → Int32) (M_then : Nat → Int64) (M_row : Nat → Int32) (K : Int64 → Int32 → Prop) (S : CallFix p m c cX5_happened 11 s ([.ref (a_M 0), .int p1, .int p2] : List Value).toArray bg RX5) (hK : va_K D vwCl (tz cI cJ cC) s) (hDD : ∀ ws : va_W, ws.map (fun q => q.1) = [a_M 0, a_M 1, a_M 2, a_M 3, a_M 4, a_M 5, a_M 6, a_M 7, a_M 8, a_M 9, a_M 10, a_M 11, a_M 12, a_M 13] → va_D A ws) (hA : ∀ q, s.heap.size ≤ q → A q) (hE : EV G A s) (hKK : ∀ (x3 : Int64) (x7 : Int32) (H : Heap) (locs : List Loc) (ls : Array Slot), K x3 x7 → va_P D vwCl ((bX5 cI cJ cC a_M M_pipes M_used M_taped M_at M_statements M_hasImage M_isKeeping M_cursor M_nextAt M_nextMost M_rowMany M_refused M_setting M_hole M_pipeAt M_chance M_weight M_tape M_letter M_letterAt M_told M_kept M_then M_row)) H → va_S A s.heap H locs → lv_has ls 11 [(0, .ref (a_M 0)), (2, .int x2), (3, .long x3), (5, .long x5)] → W p l e ({ frames := 5, cells := 0, slots := 0, locals := 114 }) s m ([.ref (a_M 0), .int p1, .int p2] : List Value).toArray below meth c H locs 0 0 Q (F0 m 129 ls [])) :
    ∀ (n : Nat) (x3 : Int64) (x7 : Int32) (H : Heap) (locs : List Loc) (ls : Array Slot), lpX5_happened_46 K x1 M_rowMany M_setting M_weight M_row n x3 x7 → va_P D vwCl ((bX5 cI cJ cC a_M M_pipes M_used M_taped M_at M_statements M_hasImage M_isKeeping M_cursor M_nextAt M_nextMost M_rowMany M_refused M_setting M_hole M_pipeAt M_chance M_weight M_tape M_letter M_letterAt M_told M_kept M_then M_row)) H → va_S A s.heap H locs → lv_has ls 11 [(0, .ref (a_M 0)), (1, .int x1), (2, .int x2), (3, .long x3), (5, .long x5), (7, .int x7)] → W p l e ({ frames := 5, cells := 0, slots := 0, locals := 114 }) s m ([.ref (a_M 0), .int p1, .int p2] : List Value).toArray below meth c H locs 0 0 Q (F0 m 46 ls []) := by
  obtain ⟨hx, hb, hml, hown, ht⟩ := id S
  intro n
  induction n with
  | zero =>
    intro x3 x7 H locs ls h
    exact absurd h (by simp [lpX5_happened_46])
  | succ n ih =>
    intro x3 x7 H locs ls h hP hS hl
    rw [lpX5_happened_46] at h
    refine lv_iload hx hb dX5_happened_46 (lv_at hl 5 rfl) ?_
    refine lv_aload_n hx hb dX5_happened_48 rfl (lv_at hl 0 rfl) ?_
    refine va_get (D := D) (ci := 5) (v := .ref (a_M 2)) (C := RX5) (T := TX5) (N := 24) hx hb ht inX5 hown hK hP 0 rfl rfl 1 (by decide) (ht _ fl_X5_13) (fun _ h9 => h9) rfl dX5_happened_49 ?_
    refine lv_iconst (v := (0 : Int32)) hx hb dX5_happened_52 (by decide) ?_
    refine va_iald hx hb hK hP 2 0 rfl rfl (by unfold vp_in; decide) dX5_happened_53 ?_
    refine zti (y := M_setting 0) (by rfl) ?_
    refine lv_icmp_ge (tgt := 129) hx hb dX5_happened_54 (by decide) (fun z => ?_) (fun z => ?_)
    · replace h := h.1 z
      exact hKK x3 x7 _ _ _ h hP hS (lv_sub hl [0, 2, 3, 4] rfl)
    · replace h := h.2 z
      refine lv_aload_n hx hb dX5_happened_57 rfl (lv_at hl 0 rfl) ?_
      refine va_get (D := D) (ci := 5) (v := .ref (a_M 6)) (C := RX5) (T := TX5) (N := 24) hx hb ht inX5 hown hK hP 0 rfl rfl 5 (by decide) (ht _ fl_X5_25) (fun _ h9 => h9) rfl dX5_happened_58 ?_
      refine lv_iload hx hb dX5_happened_61 (lv_at hl 5 rfl) ?_
      obtain ⟨hin, h⟩ := h
      refine va_iald hx hb hK hP 6 0 rfl rfl hin dX5_happened_63 ?_
      refine lv_i2l hx hb dX5_happened_64 rfl ?_
      refine lv_lstore (lv' := [(8, .long ((M_weight x7.toNatClampNeg).toInt64)), (0, .ref (a_M 0)), (1, .int x1), (2, .int x2), (3, .long x3), (5, .long x5), (7, .int x7)]) hx hb dX5_happened_65 hl (by decide) rfl (fun ls hl => ?_)
      refine lv_iconst (v := (0 : Int32)) hx hb dX5_happened_67 (by decide) ?_
      refine lv_istore (lv' := [(10, .int (0 : Int32)), (8, .long ((M_weight x7.toNatClampNeg).toInt64)), (0, .ref (a_M 0)), (1, .int x1), (2, .int x2), (3, .long x3), (5, .long x5), (7, .int x7)]) hx hb dX5_happened_68 hl (by decide) rfl (fun ls hl => ?_)
      obtain ⟨n_8, h⟩ := h
      refine wX5_happened_70 l D cI cJ cC G a_M p1 p2 x1 x2 x3 x5 x7 M_pipes M_used M_taped M_at M_statements M_hasImage M_isKeeping M_cursor M_nextAt M_nextMost M_rowMany M_refused M_setting M_hole M_pipeAt M_chance M_weight M_tape M_letter M_letterAt M_told M_kept M_then M_row _ S hK hDD hA hE (fun x8_9 x10_10 H locs ls h hP hS hl => ?_) n_8 ((M_weight x7.toNatClampNeg).toInt64) (0 : Int32) _ _ _ h hP hS (lv_sub hl [2, 3, 4, 5, 6, 7, 1, 0] rfl)
      try dsimp only at h
      refine lv_lload_n hx hb dX5_happened_118 rfl (lv_at hl 3 rfl) ?_
      refine lv_lload hx hb dX5_happened_119 (lv_at hl 6 rfl) ?_
      refine lv_ladd hx hb dX5_happened_121 ?_
      refine lv_lstore_n (lv' := [(3, .long (x3 + x8_9)), (0, .ref (a_M 0)), (1, .int x1), (2, .int x2), (5, .long x5), (7, .int x7), (8, .long x8_9)]) hx hb dX5_happened_122 rfl hl (by decide) rfl (fun ls hl => ?_)
      refine lv_iinc (v := x7 + (1 : Int32)) (lv' := [(7, .int (x7 + (1 : Int32))), (3, .long (x3 + x8_9)), (0, .ref (a_M 0)), (1, .int x1), (2, .int x2), (5, .long x5), (8, .long x8_9)]) hx hb dX5_happened_123 hl (k := 5) rfl (by rfl) (by decide) rfl (fun ls hl => ?_)
      refine lv_goto (tgt := 46) hx hb dX5_happened_126 (by decide) ?_
      exact ih (x3 + x8_9) (x7 + (1 : Int32)) _ _ _ h hP hS (lv_sub hl [2, 3, 4, 1, 5, 0] rfl)
def lpX5_happened_132 (K : Int64 → Int32 → Prop) (M_rowMany : Int32) : Nat → Int64 → Int32 → Prop
  | 0, _, _ => False
  | n + 1, x5, x7 => ((M_rowMany ≤ x7 → (K x5 x7)) ∧ (¬ (M_rowMany ≤ x7) → (lpX5_happened_132 K M_rowMany n (x5 * (10 : Int64)) (x7 + (1 : Int32)))))
set_option maxHeartbeats 4000000 in
set_option maxRecDepth 100000 in
theorem wX5_happened_132 (l : Launch) (D : va_G) (cI cJ cC : ClassId) (G : Nat → Nat → Nat) (a_M : Nat → Nat) {p : Program} {e : Env} {s : State} {m : MethodId} {below : List Frame} {meth : Method} {c : Code} {A : Nat → Prop} {Q : State → Prop} (p1 : Int32) (p2 : Int32) (x2 : Int32) (x3 : Int64) (M_pipes : Int32) (M_used : Int32) (M_taped : Int32) (M_at : Int32) (M_statements : Int32) (M_hasImage : Int32) (M_isKeeping : Int32) (M_cursor : Int32) (M_nextAt : Int32) (M_nextMost : Int64) (M_rowMany : Int32) (M_refused : Nat → Int32) (M_setting : Nat → Int32) (M_hole : Nat → Int32) (M_pipeAt : Nat → Int32) (M_chance : Nat → Int32) (M_weight : Nat → Int32) (M_tape : Nat → Int32) (M_letter : Nat → Int32) (M_letterAt : Nat → Int32) (M_told : Nat → Int32) (M_kept : Nat → Int32) (M_then : Nat → Int64) (M_row : Nat → Int32) (K : Int64 → Int32 → Prop) (S : CallFix p m c cX5_happened 11 s ([.ref (a_M 0), .int p1, .int p2] : List Value).toArray bg RX5) (hK : va_K D vwCl (tz cI cJ cC) s) (hDD : ∀ ws : va_W, ws.map (fun q => q.1) = [a_M 0, a_M 1, a_M 2, a_M 3, a_M 4, a_M 5, a_M 6, a_M 7, a_M 8, a_M 9, a_M 10, a_M 11, a_M 12, a_M 13] → va_D A ws) (hA : ∀ q, s.heap.size ≤ q → A q) (hE : EV G A s) (hKK : ∀ (x5 : Int64) (x7 : Int32) (H : Heap) (locs : List Loc) (ls : Array Slot), K x5 x7 → va_P D vwCl ((bX5 cI cJ cC a_M M_pipes M_used M_taped M_at M_statements M_hasImage M_isKeeping M_cursor M_nextAt M_nextMost M_rowMany M_refused M_setting M_hole M_pipeAt M_chance M_weight M_tape M_letter M_letterAt M_told M_kept M_then M_row)) H → va_S A s.heap H locs → lv_has ls 11 [(2, .int x2), (3, .long x3), (5, .long x5)] → W p l e ({ frames := 5, cells := 0, slots := 0, locals := 114 }) s m ([.ref (a_M 0), .int p1, .int p2] : List Value).toArray below meth c H locs 0 0 Q (F0 m 155 ls [])) :
    ∀ (n : Nat) (x5 : Int64) (x7 : Int32) (H : Heap) (locs : List Loc) (ls : Array Slot), lpX5_happened_132 K M_rowMany n x5 x7 → va_P D vwCl ((bX5 cI cJ cC a_M M_pipes M_used M_taped M_at M_statements M_hasImage M_isKeeping M_cursor M_nextAt M_nextMost M_rowMany M_refused M_setting M_hole M_pipeAt M_chance M_weight M_tape M_letter M_letterAt M_told M_kept M_then M_row)) H → va_S A s.heap H locs → lv_has ls 11 [(0, .ref (a_M 0)), (2, .int x2), (3, .long x3), (5, .long x5), (7, .int x7)] → W p l e ({ frames := 5, cells := 0, slots := 0, locals := 114 }) s m ([.ref (a_M 0), .int p1, .int p2] : List Value).toArray below meth c H locs 0 0 Q (F0 m 132 ls []) := by
  obtain ⟨hx, hb, hml, hown, ht⟩ := id S
  intro n
  induction n with
  | zero =>
    intro x5 x7 H locs ls h
    exact absurd h (by simp [lpX5_happened_132])
  | succ n ih =>
    intro x5 x7 H locs ls h hP hS hl
    rw [lpX5_happened_132] at h
    refine lv_iload hx hb dX5_happened_132 (lv_at hl 4 rfl) ?_
    refine lv_aload_n hx hb dX5_happened_134 rfl (lv_at hl 0 rfl) ?_
    refine va_get (D := D) (ci := 5) (v := .int M_rowMany) (C := RX5) (T := TX5) (N := 24) hx hb ht inX5 hown hK hP 0 rfl rfl 23 (by decide) (ht _ fl_X5_274) (fun _ h9 => h9) rfl dX5_happened_135 ?_
    refine lv_icmp_ge (tgt := 155) hx hb dX5_happened_138 (by decide) (fun z => ?_) (fun z => ?_)
    · replace h := h.1 z
      exact hKK x5 x7 _ _ _ h hP hS (lv_sub hl [1, 2, 3] rfl)
    · replace h := h.2 z
      refine lv_lload hx hb dX5_happened_141 (lv_at hl 3 rfl) ?_
      refine lv_ldc2 hx hb hown (ht _ kc_X5_257) dX5_happened_143 ?_
      refine lv_lmul hx hb dX5_happened_146 ?_
      refine lv_lstore (lv' := [(5, .long (x5 * (10 : Int64))), (0, .ref (a_M 0)), (2, .int x2), (3, .long x3), (7, .int x7)]) hx hb dX5_happened_147 hl (by decide) rfl (fun ls hl => ?_)
      refine lv_iinc (v := x7 + (1 : Int32)) (lv' := [(7, .int (x7 + (1 : Int32))), (5, .long (x5 * (10 : Int64))), (0, .ref (a_M 0)), (2, .int x2), (3, .long x3)]) hx hb dX5_happened_149 hl (k := 4) rfl (by rfl) (by decide) rfl (fun ls hl => ?_)
      refine lv_goto (tgt := 132) hx hb dX5_happened_152 (by decide) ?_
      exact ih (x5 * (10 : Int64)) (x7 + (1 : Int32)) _ _ _ h hP hS (lv_sub hl [2, 3, 4, 1, 0] rfl)
def wpX5_happened (post : Int64 → (Nat → Int32) → Prop) (M_rowMany : Int32) (M_refused : Nat → Int32) (M_setting : Nat → Int32) (M_weight : Nat → Int32) (M_row : Nat → Int32) (p1 : Int32) (p2 : Int32) : Prop := wpX5_isIn (fun (r_1 : Int32) => ((r_1 = (0 : Int32) → (wpX5_lowest (fun (r_2 : Int64) (M_refused_3 : Nat → Int32) => post r_2 M_refused_3) M_refused (-2 : Int32))) ∧ (¬ (r_1 = (0 : Int32)) → (wpX5_isIn (fun (r_4 : Int32) => ((r_4 = (0 : Int32) → (wpX5_lowest (fun (r_18 : Int64) (M_refused_19 : Nat → Int32) => post r_18 M_refused_19) M_refused (-2 : Int32))) ∧ (¬ (r_4 = (0 : Int32)) → (wpX5_areInches (fun (r_5 : Int32) => ((r_5 = (0 : Int32) → (post p2.toInt64 M_refused)) ∧ (¬ (r_5 = (0 : Int32)) → (wpX5_all (fun (r_6 : Int64) => ∃ n_11 : Nat, lpX5_happened_46 (fun (x3_12 : Int64) (x7_13 : Int32) => ∃ n_14 : Nat, lpX5_happened_132 (fun (x5_15 : Int64) (x7_16 : Int32) => wpX5_partOf (fun (r_17 : Int64) => post r_17 M_refused) x3_12 x5_15 p2) M_rowMany n_14 r_6 (0 : Int32)) p1 M_rowMany M_setting M_weight M_row n_11 (0 : Int64) (0 : Int32)) M_setting M_weight)))) M_rowMany M_row)))) p2 (0 : Int32) (1 : Int32))))) p1 (0 : Int32) (4 : Int32)
set_option maxHeartbeats 4000000 in
set_option maxRecDepth 100000 in
theorem mX5_happened (l : Launch) (D : va_G) (cI cJ cC : ClassId) (G : Nat → Nat → Nat) (a_M : Nat → Nat) (sz : Nat) (M_pipes : Int32) (M_used : Int32) (M_taped : Int32) (M_at : Int32) (M_statements : Int32) (M_hasImage : Int32) (M_isKeeping : Int32) (M_cursor : Int32) (M_nextAt : Int32) (M_nextMost : Int64) (M_rowMany : Int32) (M_refused : Nat → Int32) (M_setting : Nat → Int32) (M_hole : Nat → Int32) (M_pipeAt : Nat → Int32) (M_chance : Nat → Int32) (M_weight : Nat → Int32) (M_tape : Nat → Int32) (M_letter : Nat → Int32) (M_letterAt : Nat → Int32) (M_told : Nat → Int32) (M_kept : Nat → Int32) (M_then : Nat → Int64) (M_row : Nat → Int32) (p1 : Int32) (p2 : Int32) (post : Int64 → (Nat → Int32) → Prop) (h : wpX5_happened post M_rowMany M_refused M_setting M_weight M_row p1 p2) : Met l yX5_happened (wz yX5_happened cX5_happened 11 (some .long)) ({ frames := 5, cells := 0, slots := 0, locals := 114 }) (va_Pc [.ref (a_M 0), .int p1, .int p2] (PW D (tz cI cJ cC) G ((bX5 cI cJ cC a_M M_pipes M_used M_taped M_at M_statements M_hasImage M_isKeeping M_cursor M_nextAt M_nextMost M_rowMany M_refused M_setting M_hole M_pipeAt M_chance M_weight M_tape M_letter M_letterAt M_told M_kept M_then M_row)) sz)) (va_Ql (fun (r : Int64) (u : (Nat → Int32)) => post r u) (fun (u : (Nat → Int32)) t => va_P D vwCl ((bX5 cI cJ cC a_M M_pipes M_used M_taped M_at M_statements M_hasImage M_isKeeping M_cursor M_nextAt M_nextMost M_rowMany u M_setting M_hole M_pipeAt M_chance M_weight M_tape M_letter M_letterAt M_told M_kept M_then M_row)) t.heap) (va_A ((bX5 cI cJ cC a_M M_pipes M_used M_taped M_at M_statements M_hasImage M_isKeeping M_cursor M_nextAt M_nextMost M_rowMany M_refused M_setting M_hole M_pipeAt M_chance M_weight M_tape M_letter M_letterAt M_told M_kept M_then M_row)) sz)) 0 0 (va_A ((bX5 cI cJ cC a_M M_pipes M_used M_taped M_at M_statements M_hasImage M_isKeeping M_cursor M_nextAt M_nextMost M_rowMany M_refused M_setting M_hole M_pipeAt M_chance M_weight M_tape M_letter M_letterAt M_told M_kept M_then M_row)) sz) := by
  refine zml (gw := fun (u : (Nat → Int32)) => (bX5 cI cJ cC a_M M_pipes M_used M_taped M_at M_statements M_hasImage M_isKeeping M_cursor M_nextAt M_nextMost M_rowMany u M_setting M_hole M_pipeAt M_chance M_weight M_tape M_letter M_letterAt M_told M_kept M_then M_row)) (plainFor_of_name (by decide)) (Nat.le_of_ble_eq_true rfl) ?_
  intro p e s m below meth c A Q ls S hK hD hA hE hP hl hret
  obtain ⟨hx, hb, hml, hown, ht⟩ := id S
  have hS : va_S A s.heap s.heap [] := va_S.rf
  have hDD : ∀ ws : va_W, ws.map (fun q => q.1) = [a_M 0, a_M 1, a_M 2, a_M 3, a_M 4, a_M 5, a_M 6, a_M 7, a_M 8, a_M 9, a_M 10, a_M 11, a_M 12, a_M 13] → va_D A ws := fun ws hw => zD hD (hw.trans rfl)
  have hl : lv_has ls 11 [(0, .ref (a_M 0)), (1, .int p1), (2, .int p2)] := hl
  unfold wpX5_happened at h
  refine lv_iload_n hx hb dX5_happened_0 rfl (lv_at hl 1 rfl) ?_
  refine lv_iconst (v := (0 : Int32)) hx hb dX5_happened_1 (by decide) ?_
  refine lv_iconst (v := (4 : Int32)) hx hb dX5_happened_2 (by decide) ?_
  refine zci hA zD0 hS (zrunS (As := [.int p1, .int (0 : Int32), .int (4 : Int32)]) (rest := []) S hK hA hE zP0 zD0 hS (mX5_isIn l D cI cJ cC G _ p1 (0 : Int32) (4 : Int32) _ h) kX5_isIn ml_X5_77 ⟨rfl, rfl, by decide, by decide⟩ rfl hl.1 rfl (Nat.le_of_ble_eq_true rfl) dX5_happened_3 ⟨Nat.zero_le _, Nat.zero_le _⟩) (fun r_1 u H locs h hP1 hk1 hS => ?_)
  try dsimp only at h
  have hP : va_P D vwCl ((bX5 cI cJ cC a_M M_pipes M_used M_taped M_at M_statements M_hasImage M_isKeeping M_cursor M_nextAt M_nextMost M_rowMany M_refused M_setting M_hole M_pipeAt M_chance M_weight M_tape M_letter M_letterAt M_told M_kept M_then M_row)) H := zKeep hP hk1
  refine lv_if_eq (tgt := 18) hx hb dX5_happened_6 (by decide) (fun z => ?_) (fun z => ?_)
  · replace h := h.1 z
    refine lv_aload_n hx hb dX5_happened_18 rfl (lv_at hl 0 rfl) ?_
    refine lv_bipush (v := (-2 : Int32)) hx hb dX5_happened_19 (by decide) ?_
    refine zcl hA (hDD _ rfl) hS (zrunV (As := [.int (-2 : Int32)]) (rest := []) S hK hA hE hP (hDD _ rfl) hS (mX5_lowest l D cI cJ cC G a_M _ M_pipes M_used M_taped M_at M_statements M_hasImage M_isKeeping M_cursor M_nextAt M_nextMost M_rowMany M_refused M_setting M_hole M_pipeAt M_chance M_weight M_tape M_letter M_letterAt M_told M_kept M_then M_row (-2 : Int32) _ h) kX5_lowest ml_X5_197 ⟨rfl, rfl, by decide, by decide⟩ (q0 := 0) (ci := 5) rfl rfl rfl rfl hl.1 rfl (Nat.le_of_ble_eq_true rfl) dX5_happened_21 ⟨Nat.zero_le _, Nat.zero_le _⟩) (fun r_2 M_refused_3 H locs h hP1 hk1 hS => ?_)
    try dsimp only at h
    have hP : va_P D vwCl ((bX5 cI cJ cC a_M M_pipes M_used M_taped M_at M_statements M_hasImage M_isKeeping M_cursor M_nextAt M_nextMost M_rowMany M_refused_3 M_setting M_hole M_pipeAt M_chance M_weight M_tape M_letter M_letterAt M_told M_kept M_then M_row)) H := hP1
    exact hret r_2 M_refused_3 _ _ _ _ h hP hS dX5_happened_24
  · replace h := h.2 z
    refine lv_iload_n hx hb dX5_happened_9 rfl (lv_at hl 2 rfl) ?_
    refine lv_iconst (v := (0 : Int32)) hx hb dX5_happened_10 (by decide) ?_
    refine lv_iconst (v := (1 : Int32)) hx hb dX5_happened_11 (by decide) ?_
    refine zci hA zD0 hS (zrunS (As := [.int p2, .int (0 : Int32), .int (1 : Int32)]) (rest := []) S hK hA hE zP0 zD0 hS (mX5_isIn l D cI cJ cC G _ p2 (0 : Int32) (1 : Int32) _ h) kX5_isIn ml_X5_77 ⟨rfl, rfl, by decide, by decide⟩ rfl hl.1 rfl (Nat.le_of_ble_eq_true rfl) dX5_happened_12 ⟨Nat.zero_le _, Nat.zero_le _⟩) (fun r_4 u H locs h hP1 hk1 hS => ?_)
    try dsimp only at h
    have hP : va_P D vwCl ((bX5 cI cJ cC a_M M_pipes M_used M_taped M_at M_statements M_hasImage M_isKeeping M_cursor M_nextAt M_nextMost M_rowMany M_refused M_setting M_hole M_pipeAt M_chance M_weight M_tape M_letter M_letterAt M_told M_kept M_then M_row)) H := zKeep hP hk1
    refine lv_if_ne (tgt := 25) hx hb dX5_happened_15 (by decide) (fun z => ?_) (fun z => ?_)
    · replace h := h.2 z
      refine lv_aload_n hx hb dX5_happened_25 rfl (lv_at hl 0 rfl) ?_
      refine zci hA (hDD _ rfl) hS (zrunV (As := []) (rest := []) S hK hA hE hP (hDD _ rfl) hS (mX5_areInches l D cI cJ cC G a_M _ M_pipes M_used M_taped M_at M_statements M_hasImage M_isKeeping M_cursor M_nextAt M_nextMost M_rowMany M_refused M_setting M_hole M_pipeAt M_chance M_weight M_tape M_letter M_letterAt M_told M_kept M_then M_row _ h) kX5_areInches ml_X5_277 ⟨rfl, rfl, by decide, by decide⟩ (q0 := 0) (ci := 5) rfl rfl rfl rfl hl.1 rfl (Nat.le_of_ble_eq_true rfl) dX5_happened_26 ⟨Nat.zero_le _, Nat.zero_le _⟩) (fun r_5 u H locs h hP1 hk1 hS => ?_)
      try dsimp only at h
      have hP : va_P D vwCl ((bX5 cI cJ cC a_M M_pipes M_used M_taped M_at M_statements M_hasImage M_isKeeping M_cursor M_nextAt M_nextMost M_rowMany M_refused M_setting M_hole M_pipeAt M_chance M_weight M_tape M_letter M_letterAt M_told M_kept M_then M_row)) H := hP1
      refine lv_if_ne (tgt := 35) hx hb dX5_happened_29 (by decide) (fun z => ?_) (fun z => ?_)
      · replace h := h.2 z
        refine lv_lconst (v := (0 : Int64)) hx hb dX5_happened_35 (by decide) ?_
        refine lv_lstore_n (lv' := [(3, .long (0 : Int64)), (0, .ref (a_M 0)), (1, .int p1), (2, .int p2)]) hx hb dX5_happened_36 rfl hl (by decide) rfl (fun ls hl => ?_)
        refine lv_aload_n hx hb dX5_happened_37 rfl (lv_at hl 1 rfl) ?_
        refine zcl hA (hDD _ rfl) hS (zrunV (As := []) (rest := []) S hK hA hE hP (hDD _ rfl) hS (mX5_all l D cI cJ cC G a_M _ M_pipes M_used M_taped M_at M_statements M_hasImage M_isKeeping M_cursor M_nextAt M_nextMost M_rowMany M_refused M_setting M_hole M_pipeAt M_chance M_weight M_tape M_letter M_letterAt M_told M_kept M_then M_row _ h) kX5_all ml_X5_216 ⟨rfl, rfl, by decide, by decide⟩ (q0 := 0) (ci := 5) rfl rfl rfl rfl hl.1 rfl (Nat.le_of_ble_eq_true rfl) dX5_happened_38 ⟨Nat.zero_le _, Nat.zero_le _⟩) (fun r_6 u H locs h hP1 hk1 hS => ?_)
        try dsimp only at h
        have hP : va_P D vwCl ((bX5 cI cJ cC a_M M_pipes M_used M_taped M_at M_statements M_hasImage M_isKeeping M_cursor M_nextAt M_nextMost M_rowMany M_refused M_setting M_hole M_pipeAt M_chance M_weight M_tape M_letter M_letterAt M_told M_kept M_then M_row)) H := hP1
        refine lv_lstore (lv' := [(5, .long r_6), (3, .long (0 : Int64)), (0, .ref (a_M 0)), (1, .int p1), (2, .int p2)]) hx hb dX5_happened_41 hl (by decide) rfl (fun ls hl => ?_)
        refine lv_iconst (v := (0 : Int32)) hx hb dX5_happened_43 (by decide) ?_
        refine lv_istore (lv' := [(7, .int (0 : Int32)), (5, .long r_6), (3, .long (0 : Int64)), (0, .ref (a_M 0)), (1, .int p1), (2, .int p2)]) hx hb dX5_happened_44 hl (by decide) rfl (fun ls hl => ?_)
        obtain ⟨n_11, h⟩ := h
        refine wX5_happened_46 l D cI cJ cC G a_M p1 p2 p1 p2 r_6 M_pipes M_used M_taped M_at M_statements M_hasImage M_isKeeping M_cursor M_nextAt M_nextMost M_rowMany M_refused M_setting M_hole M_pipeAt M_chance M_weight M_tape M_letter M_letterAt M_told M_kept M_then M_row _ S hK hDD hA hE (fun x3_12 x7_13 H locs ls h hP hS hl => ?_) n_11 (0 : Int64) (0 : Int32) _ _ _ h hP hS (lv_sub hl [3, 4, 5, 2, 1, 0] rfl)
        try dsimp only at h
        refine lv_iconst (v := (0 : Int32)) hx hb dX5_happened_129 (by decide) ?_
        refine lv_istore (lv' := [(7, .int (0 : Int32)), (0, .ref (a_M 0)), (2, .int p2), (3, .long x3_12), (5, .long r_6)]) hx hb dX5_happened_130 hl (by decide) rfl (fun ls hl => ?_)
        obtain ⟨n_14, h⟩ := h
        refine wX5_happened_132 l D cI cJ cC G a_M p1 p2 p2 x3_12 M_pipes M_used M_taped M_at M_statements M_hasImage M_isKeeping M_cursor M_nextAt M_nextMost M_rowMany M_refused M_setting M_hole M_pipeAt M_chance M_weight M_tape M_letter M_letterAt M_told M_kept M_then M_row _ S hK hDD hA hE (fun x5_15 x7_16 H locs ls h hP hS hl => ?_) n_14 r_6 (0 : Int32) _ _ _ h hP hS (lv_sub hl [1, 2, 3, 4, 0] rfl)
        try dsimp only at h
        refine lv_lload_n hx hb dX5_happened_155 rfl (lv_at hl 1 rfl) ?_
        refine lv_lload hx hb dX5_happened_156 (lv_at hl 2 rfl) ?_
        refine lv_iload_n hx hb dX5_happened_158 rfl (lv_at hl 0 rfl) ?_
        refine zcl hA zD0 hS (zrunS (As := [.long x3_12, .long x5_15, .int p2]) (rest := []) S hK hA hE zP0 zD0 hS (mX5_partOf l D cI cJ cC G _ x3_12 x5_15 p2 _ h) kX5_partOf ml_X5_220 ⟨rfl, rfl, by decide, by decide⟩ rfl hl.1 rfl (Nat.le_of_ble_eq_true rfl) dX5_happened_159 ⟨Nat.zero_le _, Nat.zero_le _⟩) (fun r_17 u H locs h hP1 hk1 hS => ?_)
        try dsimp only at h
        have hP : va_P D vwCl ((bX5 cI cJ cC a_M M_pipes M_used M_taped M_at M_statements M_hasImage M_isKeeping M_cursor M_nextAt M_nextMost M_rowMany M_refused M_setting M_hole M_pipeAt M_chance M_weight M_tape M_letter M_letterAt M_told M_kept M_then M_row)) H := zKeep hP hk1
        exact hret r_17 M_refused _ _ _ _ h hP hS dX5_happened_162
      · replace h := h.1 z
        refine lv_iload_n hx hb dX5_happened_32 rfl (lv_at hl 2 rfl) ?_
        refine lv_i2l hx hb dX5_happened_33 rfl ?_
        exact hret p2.toInt64 M_refused _ _ _ _ h hP hS dX5_happened_34
    · replace h := h.1 z
      refine lv_aload_n hx hb dX5_happened_18 rfl (lv_at hl 0 rfl) ?_
      refine lv_bipush (v := (-2 : Int32)) hx hb dX5_happened_19 (by decide) ?_
      refine zcl hA (hDD _ rfl) hS (zrunV (As := [.int (-2 : Int32)]) (rest := []) S hK hA hE hP (hDD _ rfl) hS (mX5_lowest l D cI cJ cC G a_M _ M_pipes M_used M_taped M_at M_statements M_hasImage M_isKeeping M_cursor M_nextAt M_nextMost M_rowMany M_refused M_setting M_hole M_pipeAt M_chance M_weight M_tape M_letter M_letterAt M_told M_kept M_then M_row (-2 : Int32) _ h) kX5_lowest ml_X5_197 ⟨rfl, rfl, by decide, by decide⟩ (q0 := 0) (ci := 5) rfl rfl rfl rfl hl.1 rfl (Nat.le_of_ble_eq_true rfl) dX5_happened_21 ⟨Nat.zero_le _, Nat.zero_le _⟩) (fun r_18 M_refused_19 H locs h hP1 hk1 hS => ?_)
      try dsimp only at h
      have hP : va_P D vwCl ((bX5 cI cJ cC a_M M_pipes M_used M_taped M_at M_statements M_hasImage M_isKeeping M_cursor M_nextAt M_nextMost M_rowMany M_refused_19 M_setting M_hole M_pipeAt M_chance M_weight M_tape M_letter M_letterAt M_told M_kept M_then M_row)) H := hP1
      exact hret r_18 M_refused_19 _ _ _ _ h hP hS dX5_happened_24
def lpX5_judge_21 (K : Int32 → Int32 → (Nat → Int32) → Prop) (x1 : Int32) (M_setting : Nat → Int32) (M_row : Nat → Int32) : Nat → Int32 → Int32 → (Nat → Int32) → Prop
  | 0, _, _, _ => False
  | n + 1, x2, x3, M_weight => ((x1 ≤ x3 → (K x2 x3 M_weight)) ∧ (¬ (x1 ≤ x3) → ((((0 : Int32) ≤ x2 → (K x2 x3 M_weight)) ∧ (¬ ((0 : Int32) ≤ x2) → (vp_in x3 8 ∧ (wpX5_isInch (fun (r_11 : Int32) => ((r_11 = (0 : Int32) → (lpX5_judge_21 K x1 M_setting M_row n x3 (x3 + (1 : Int32)) M_weight)) ∧ (¬ (r_11 = (0 : Int32)) → (vp_in x3 8 ∧ (vp_in x3 8 ∧ (wpX5_leftBy (fun (r_12 : Int32) => ((r_12 ≤ (0 : Int32) → (lpX5_judge_21 K x1 M_setting M_row n x3 (x3 + (1 : Int32)) M_weight)) ∧ (¬ (r_12 ≤ (0 : Int32)) → (vp_in x3 8 ∧ (vp_in x3 8 ∧ (wpX5_leaves (fun (M_weight_13 : Nat → Int32) => lpX5_judge_21 K x1 M_setting M_row n (-9 : Int32) (x3 + (1 : Int32)) M_weight_13) M_setting M_weight ((M_row x3.toNatClampNeg) - (M_row x3.toNatClampNeg) / (50 : Int32) * (50 : Int32)) ((M_row x3.toNatClampNeg) / (50 : Int32)))))))) M_setting M_weight ((M_row x3.toNatClampNeg) - (M_row x3.toNatClampNeg) / (50 : Int32) * (50 : Int32)) ((M_row x3.toNatClampNeg) / (50 : Int32)))))))) ((M_row x3.toNatClampNeg) - (M_row x3.toNatClampNeg) / (50 : Int32) * (50 : Int32)))))))))
set_option maxHeartbeats 4000000 in
set_option maxRecDepth 100000 in
theorem wX5_judge_21 (l : Launch) (D : va_G) (cI cJ cC : ClassId) (G : Nat → Nat → Nat) (a_M : Nat → Nat) {p : Program} {e : Env} {s : State} {m : MethodId} {below : List Frame} {meth : Method} {c : Code} {A : Nat → Prop} {Q : State → Prop} (x1 : Int32) (M_pipes : Int32) (M_used : Int32) (M_taped : Int32) (M_at : Int32) (M_statements : Int32) (M_hasImage : Int32) (M_isKeeping : Int32) (M_cursor : Int32) (M_nextAt : Int32) (M_nextMost : Int64) (M_rowMany : Int32) (M_refused : Nat → Int32) (M_setting : Nat → Int32) (M_hole : Nat → Int32) (M_pipeAt : Nat → Int32) (M_chance : Nat → Int32) (M_tape : Nat → Int32) (M_letter : Nat → Int32) (M_letterAt : Nat → Int32) (M_told : Nat → Int32) (M_kept : Nat → Int32) (M_then : Nat → Int64) (M_row : Nat → Int32) (K : Int32 → Int32 → (Nat → Int32) → Prop) (S : CallFix p m c cX5_judge 5 s ([.ref (a_M 0)] : List Value).toArray bg RX5) (hK : va_K D vwCl (tz cI cJ cC) s) (hDD : ∀ ws : va_W, ws.map (fun q => q.1) = [a_M 0, a_M 1, a_M 2, a_M 3, a_M 4, a_M 5, a_M 6, a_M 7, a_M 8, a_M 9, a_M 10, a_M 11, a_M 12, a_M 13] → va_D A ws) (hA : ∀ q, s.heap.size ≤ q → A q) (hE : EV G A s) (hKK : ∀ (x2 : Int32) (x3 : Int32) (M_weight : Nat → Int32) (H : Heap) (locs : List Loc) (ls : Array Slot), K x2 x3 M_weight → va_P D vwCl ((bX5 cI cJ cC a_M M_pipes M_used M_taped M_at M_statements M_hasImage M_isKeeping M_cursor M_nextAt M_nextMost M_rowMany M_refused M_setting M_hole M_pipeAt M_chance M_weight M_tape M_letter M_letterAt M_told M_kept M_then M_row)) H → va_S A s.heap H locs → lv_has ls 5 [(0, .ref (a_M 0)), (2, .int x2)] → W p l e ({ frames := 5, cells := 0, slots := 0, locals := 112 }) s m ([.ref (a_M 0)] : List Value).toArray below meth c H locs 0 0 Q (F0 m 122 ls [])) :
    ∀ (n : Nat) (x2 : Int32) (x3 : Int32) (M_weight : Nat → Int32) (H : Heap) (locs : List Loc) (ls : Array Slot), lpX5_judge_21 K x1 M_setting M_row n x2 x3 M_weight → va_P D vwCl ((bX5 cI cJ cC a_M M_pipes M_used M_taped M_at M_statements M_hasImage M_isKeeping M_cursor M_nextAt M_nextMost M_rowMany M_refused M_setting M_hole M_pipeAt M_chance M_weight M_tape M_letter M_letterAt M_told M_kept M_then M_row)) H → va_S A s.heap H locs → lv_has ls 5 [(0, .ref (a_M 0)), (1, .int x1), (2, .int x2), (3, .int x3)] → W p l e ({ frames := 5, cells := 0, slots := 0, locals := 112 }) s m ([.ref (a_M 0)] : List Value).toArray below meth c H locs 0 0 Q (F0 m 21 ls []) := by
  obtain ⟨hx, hb, hml, hown, ht⟩ := id S
  intro n
  induction n with
  | zero =>
    intro x2 x3 M_weight H locs ls h
    exact absurd h (by simp [lpX5_judge_21])
  | succ n ih =>
    intro x2 x3 M_weight H locs ls h hP hS hl
    rw [lpX5_judge_21] at h
    refine lv_iload_n hx hb dX5_judge_21 rfl (lv_at hl 3 rfl) ?_
    refine lv_iload_n hx hb dX5_judge_22 rfl (lv_at hl 1 rfl) ?_
    refine lv_icmp_ge (tgt := 122) hx hb dX5_judge_23 (by decide) (fun z => ?_) (fun z => ?_)
    · replace h := h.1 z
      exact hKK x2 x3 M_weight _ _ _ h hP hS (lv_sub hl [0, 2] rfl)
    · replace h := h.2 z
      refine lv_iload_n hx hb dX5_judge_26 rfl (lv_at hl 2 rfl) ?_
      refine lv_if_ge (tgt := 122) hx hb dX5_judge_27 (by decide) (fun z => ?_) (fun z => ?_)
      · replace h := h.1 z
        exact hKK x2 x3 M_weight _ _ _ h hP hS (lv_sub hl [0, 2] rfl)
      · replace h := h.2 z
        refine lv_aload_n hx hb dX5_judge_30 rfl (lv_at hl 0 rfl) ?_
        refine va_get (D := D) (ci := 5) (v := .ref (a_M 13)) (C := RX5) (T := TX5) (N := 24) hx hb ht inX5 hown hK hP 0 rfl rfl 22 (by decide) (ht _ fl_X5_47) (fun _ h9 => h9) rfl dX5_judge_31 ?_
        refine lv_iload_n hx hb dX5_judge_34 rfl (lv_at hl 3 rfl) ?_
        obtain ⟨hin, h⟩ := h
        refine va_iald hx hb hK hP 13 0 rfl rfl hin dX5_judge_35 ?_
        refine lv_bipush (v := (50 : Int32)) hx hb dX5_judge_36 (by decide) ?_
        refine lv_irem hx hb dX5_judge_38 (by decide) ?_
        refine zci hA zD0 hS (zrunS (As := [.int ((M_row x3.toNatClampNeg) - (M_row x3.toNatClampNeg) / (50 : Int32) * (50 : Int32))]) (rest := []) S hK hA hE zP0 zD0 hS (mX5_isInch l D cI cJ cC G _ ((M_row x3.toNatClampNeg) - (M_row x3.toNatClampNeg) / (50 : Int32) * (50 : Int32)) _ h) kX5_isInch ml_X5_113 ⟨rfl, rfl, by decide, by decide⟩ rfl hl.1 rfl (Nat.le_of_ble_eq_true rfl) dX5_judge_39 ⟨Nat.zero_le _, Nat.zero_le _⟩) (fun r_11 u H locs h hP1 hk1 hS => ?_)
        try dsimp only at h
        have hP : va_P D vwCl ((bX5 cI cJ cC a_M M_pipes M_used M_taped M_at M_statements M_hasImage M_isKeeping M_cursor M_nextAt M_nextMost M_rowMany M_refused M_setting M_hole M_pipeAt M_chance M_weight M_tape M_letter M_letterAt M_told M_kept M_then M_row)) H := zKeep hP hk1
        refine lv_if_eq (tgt := 74) hx hb dX5_judge_42 (by decide) (fun z => ?_) (fun z => ?_)
        · replace h := h.1 z
          refine lv_iconst (v := (0 : Int32)) hx hb dX5_judge_74 (by decide) ?_
          refine lv_istore (lv' := [(4, .int (0 : Int32)), (0, .ref (a_M 0)), (1, .int x1), (2, .int x2), (3, .int x3)]) hx hb dX5_judge_75 hl (by decide) rfl (fun ls hl => ?_)
          refine lv_iload hx hb dX5_judge_77 (lv_at hl 0 rfl) ?_
          refine lv_if_eq (tgt := 104) hx hb dX5_judge_79 (by decide) (fun z => ?_) (fun z => ?_)
          · refine lv_iload hx hb dX5_judge_104 (lv_at hl 0 rfl) ?_
            refine lv_if_eq (tgt := 114) hx hb dX5_judge_106 (by decide) (fun z => ?_) (fun z => ?_)
            · refine lv_iload_n hx hb dX5_judge_114 rfl (lv_at hl 4 rfl) ?_
              refine lv_istore_n (lv' := [(2, .int x3), (4, .int (0 : Int32)), (0, .ref (a_M 0)), (1, .int x1), (3, .int x3)]) hx hb dX5_judge_115 rfl hl (by decide) rfl (fun ls hl => ?_)
              refine lv_iinc (v := x3 + (1 : Int32)) (lv' := [(3, .int (x3 + (1 : Int32))), (2, .int x3), (4, .int (0 : Int32)), (0, .ref (a_M 0)), (1, .int x1)]) hx hb dX5_judge_116 hl (k := 4) rfl (by rfl) (by decide) rfl (fun ls hl => ?_)
              refine lv_goto (tgt := 21) hx hb dX5_judge_119 (by decide) ?_
              exact ih x3 (x3 + (1 : Int32)) M_weight _ _ _ h hP hS (lv_sub hl [3, 4, 1, 0] rfl)
            · exact absurd (by decide) z
          · exact absurd (by decide) z
        · replace h := h.2 z
          refine lv_aload_n hx hb dX5_judge_45 rfl (lv_at hl 0 rfl) ?_
          refine lv_aload_n hx hb dX5_judge_46 rfl (lv_at hl 0 rfl) ?_
          refine va_get (D := D) (ci := 5) (v := .ref (a_M 13)) (C := RX5) (T := TX5) (N := 24) hx hb ht inX5 hown hK hP 0 rfl rfl 22 (by decide) (ht _ fl_X5_47) (fun _ h9 => h9) rfl dX5_judge_47 ?_
          refine lv_iload_n hx hb dX5_judge_50 rfl (lv_at hl 3 rfl) ?_
          obtain ⟨hin, h⟩ := h
          refine va_iald hx hb hK hP 13 0 rfl rfl hin dX5_judge_51 ?_
          refine lv_bipush (v := (50 : Int32)) hx hb dX5_judge_52 (by decide) ?_
          refine lv_irem hx hb dX5_judge_54 (by decide) ?_
          refine lv_aload_n hx hb dX5_judge_55 rfl (lv_at hl 0 rfl) ?_
          refine va_get (D := D) (ci := 5) (v := .ref (a_M 13)) (C := RX5) (T := TX5) (N := 24) hx hb ht inX5 hown hK hP 0 rfl rfl 22 (by decide) (ht _ fl_X5_47) (fun _ h9 => h9) rfl dX5_judge_56 ?_
          refine lv_iload_n hx hb dX5_judge_59 rfl (lv_at hl 3 rfl) ?_
          obtain ⟨hin, h⟩ := h
          refine va_iald hx hb hK hP 13 0 rfl rfl hin dX5_judge_60 ?_
          refine lv_bipush (v := (50 : Int32)) hx hb dX5_judge_61 (by decide) ?_
          refine lv_idiv hx hb dX5_judge_63 (by decide) ?_
          refine zci hA (hDD _ rfl) hS (zrunV (As := [.int ((M_row x3.toNatClampNeg) - (M_row x3.toNatClampNeg) / (50 : Int32) * (50 : Int32)), .int ((M_row x3.toNatClampNeg) / (50 : Int32))]) (rest := []) S hK hA hE hP (hDD _ rfl) hS (mX5_leftBy l D cI cJ cC G a_M _ M_pipes M_used M_taped M_at M_statements M_hasImage M_isKeeping M_cursor M_nextAt M_nextMost M_rowMany M_refused M_setting M_hole M_pipeAt M_chance M_weight M_tape M_letter M_letterAt M_told M_kept M_then M_row ((M_row x3.toNatClampNeg) - (M_row x3.toNatClampNeg) / (50 : Int32) * (50 : Int32)) ((M_row x3.toNatClampNeg) / (50 : Int32)) _ h) kX5_leftBy ml_X5_120 ⟨rfl, rfl, by decide, by decide⟩ (q0 := 0) (ci := 5) rfl rfl rfl rfl hl.1 rfl (Nat.le_of_ble_eq_true rfl) dX5_judge_64 ⟨Nat.zero_le _, Nat.zero_le _⟩) (fun r_12 u H locs h hP1 hk1 hS => ?_)
          try dsimp only at h
          have hP : va_P D vwCl ((bX5 cI cJ cC a_M M_pipes M_used M_taped M_at M_statements M_hasImage M_isKeeping M_cursor M_nextAt M_nextMost M_rowMany M_refused M_setting M_hole M_pipeAt M_chance M_weight M_tape M_letter M_letterAt M_told M_kept M_then M_row)) H := hP1
          refine lv_if_le (tgt := 74) hx hb dX5_judge_67 (by decide) (fun z => ?_) (fun z => ?_)
          · replace h := h.1 z
            refine lv_iconst (v := (0 : Int32)) hx hb dX5_judge_74 (by decide) ?_
            refine lv_istore (lv' := [(4, .int (0 : Int32)), (0, .ref (a_M 0)), (1, .int x1), (2, .int x2), (3, .int x3)]) hx hb dX5_judge_75 hl (by decide) rfl (fun ls hl => ?_)
            refine lv_iload hx hb dX5_judge_77 (lv_at hl 0 rfl) ?_
            refine lv_if_eq (tgt := 104) hx hb dX5_judge_79 (by decide) (fun z => ?_) (fun z => ?_)
            · refine lv_iload hx hb dX5_judge_104 (lv_at hl 0 rfl) ?_
              refine lv_if_eq (tgt := 114) hx hb dX5_judge_106 (by decide) (fun z => ?_) (fun z => ?_)
              · refine lv_iload_n hx hb dX5_judge_114 rfl (lv_at hl 4 rfl) ?_
                refine lv_istore_n (lv' := [(2, .int x3), (4, .int (0 : Int32)), (0, .ref (a_M 0)), (1, .int x1), (3, .int x3)]) hx hb dX5_judge_115 rfl hl (by decide) rfl (fun ls hl => ?_)
                refine lv_iinc (v := x3 + (1 : Int32)) (lv' := [(3, .int (x3 + (1 : Int32))), (2, .int x3), (4, .int (0 : Int32)), (0, .ref (a_M 0)), (1, .int x1)]) hx hb dX5_judge_116 hl (k := 4) rfl (by rfl) (by decide) rfl (fun ls hl => ?_)
                refine lv_goto (tgt := 21) hx hb dX5_judge_119 (by decide) ?_
                exact ih x3 (x3 + (1 : Int32)) M_weight _ _ _ h hP hS (lv_sub hl [3, 4, 1, 0] rfl)
              · exact absurd (by decide) z
            · exact absurd (by decide) z
          · replace h := h.2 z
            refine lv_iconst (v := (1 : Int32)) hx hb dX5_judge_70 (by decide) ?_
            refine lv_goto (tgt := 75) hx hb dX5_judge_71 (by decide) ?_
            refine lv_istore (lv' := [(4, .int (1 : Int32)), (0, .ref (a_M 0)), (1, .int x1), (2, .int x2), (3, .int x3)]) hx hb dX5_judge_75 hl (by decide) rfl (fun ls hl => ?_)
            refine lv_iload hx hb dX5_judge_77 (lv_at hl 0 rfl) ?_
            refine lv_if_eq (tgt := 104) hx hb dX5_judge_79 (by decide) (fun z => ?_) (fun z => ?_)
            · exact absurd z (by decide)
            · refine lv_aload_n hx hb dX5_judge_82 rfl (lv_at hl 1 rfl) ?_
              refine lv_aload_n hx hb dX5_judge_83 rfl (lv_at hl 1 rfl) ?_
              refine va_get (D := D) (ci := 5) (v := .ref (a_M 13)) (C := RX5) (T := TX5) (N := 24) hx hb ht inX5 hown hK hP 0 rfl rfl 22 (by decide) (ht _ fl_X5_47) (fun _ h9 => h9) rfl dX5_judge_84 ?_
              refine lv_iload_n hx hb dX5_judge_87 rfl (lv_at hl 4 rfl) ?_
              obtain ⟨hin, h⟩ := h
              refine va_iald hx hb hK hP 13 0 rfl rfl hin dX5_judge_88 ?_
              refine lv_bipush (v := (50 : Int32)) hx hb dX5_judge_89 (by decide) ?_
              refine lv_irem hx hb dX5_judge_91 (by decide) ?_
              refine lv_aload_n hx hb dX5_judge_92 rfl (lv_at hl 1 rfl) ?_
              refine va_get (D := D) (ci := 5) (v := .ref (a_M 13)) (C := RX5) (T := TX5) (N := 24) hx hb ht inX5 hown hK hP 0 rfl rfl 22 (by decide) (ht _ fl_X5_47) (fun _ h9 => h9) rfl dX5_judge_93 ?_
              refine lv_iload_n hx hb dX5_judge_96 rfl (lv_at hl 4 rfl) ?_
              obtain ⟨hin, h⟩ := h
              refine va_iald hx hb hK hP 13 0 rfl rfl hin dX5_judge_97 ?_
              refine lv_bipush (v := (50 : Int32)) hx hb dX5_judge_98 (by decide) ?_
              refine lv_idiv hx hb dX5_judge_100 (by decide) ?_
              refine zcv hA (hDD _ rfl) hS (zrunV (As := [.int ((M_row x3.toNatClampNeg) - (M_row x3.toNatClampNeg) / (50 : Int32) * (50 : Int32)), .int ((M_row x3.toNatClampNeg) / (50 : Int32))]) (rest := []) S hK hA hE hP (hDD _ rfl) hS (mX5_leaves l D cI cJ cC G a_M _ M_pipes M_used M_taped M_at M_statements M_hasImage M_isKeeping M_cursor M_nextAt M_nextMost M_rowMany M_refused M_setting M_hole M_pipeAt M_chance M_weight M_tape M_letter M_letterAt M_told M_kept M_then M_row ((M_row x3.toNatClampNeg) - (M_row x3.toNatClampNeg) / (50 : Int32) * (50 : Int32)) ((M_row x3.toNatClampNeg) / (50 : Int32)) _ h) kX5_leaves ml_X5_191 ⟨rfl, rfl, by decide, by decide⟩ (q0 := 0) (ci := 5) rfl rfl rfl rfl hl.1 rfl (Nat.le_of_ble_eq_true rfl) dX5_judge_101 ⟨Nat.zero_le _, Nat.zero_le _⟩) (fun M_weight_13 H locs h hP1 hk1 hS => ?_)
              try dsimp only at h
              have hP : va_P D vwCl ((bX5 cI cJ cC a_M M_pipes M_used M_taped M_at M_statements M_hasImage M_isKeeping M_cursor M_nextAt M_nextMost M_rowMany M_refused M_setting M_hole M_pipeAt M_chance M_weight_13 M_tape M_letter M_letterAt M_told M_kept M_then M_row)) H := hP1
              refine lv_iload hx hb dX5_judge_104 (lv_at hl 0 rfl) ?_
              refine lv_if_eq (tgt := 114) hx hb dX5_judge_106 (by decide) (fun z => ?_) (fun z => ?_)
              · exact absurd z (by decide)
              · refine lv_bipush (v := (-9 : Int32)) hx hb dX5_judge_109 (by decide) ?_
                refine lv_goto (tgt := 115) hx hb dX5_judge_111 (by decide) ?_
                refine lv_istore_n (lv' := [(2, .int (-9 : Int32)), (4, .int (1 : Int32)), (0, .ref (a_M 0)), (1, .int x1), (3, .int x3)]) hx hb dX5_judge_115 rfl hl (by decide) rfl (fun ls hl => ?_)
                refine lv_iinc (v := x3 + (1 : Int32)) (lv' := [(3, .int (x3 + (1 : Int32))), (2, .int (-9 : Int32)), (4, .int (1 : Int32)), (0, .ref (a_M 0)), (1, .int x1)]) hx hb dX5_judge_116 hl (k := 4) rfl (by rfl) (by decide) rfl (fun ls hl => ?_)
                refine lv_goto (tgt := 21) hx hb dX5_judge_119 (by decide) ?_
                exact ih (-9 : Int32) (x3 + (1 : Int32)) M_weight_13 _ _ _ h hP hS (lv_sub hl [3, 4, 1, 0] rfl)
def wpX5_judge (post : Int32 → Int32 → Int32 → Int32 → Int32 → Int32 → (Nat → Int32) → (Nat → Int32) → (Nat → Int32) → (Nat → Int32) → (Nat → Int32) → (Nat → Int32) → Prop) (M_pipes : Int32) (M_used : Int32) (M_rowMany : Int32) (M_setting : Nat → Int32) (M_hole : Nat → Int32) (M_pipeAt : Nat → Int32) (M_chance : Nat → Int32) (M_weight : Nat → Int32) (M_kept : Nat → Int32) (M_row : Nat → Int32) : Prop := wpX5_passesAll (fun (M_pipes_1 : Int32) (M_used_2 : Int32) (M_isKeeping_3 : Int32) (M_cursor_4 : Int32) (M_setting_5 : Nat → Int32) (M_hole_6 : Nat → Int32) (M_pipeAt_7 : Nat → Int32) (M_chance_8 : Nat → Int32) (M_weight_9 : Nat → Int32) (M_kept_10 : Nat → Int32) => ∃ n_14 : Nat, lpX5_judge_21 (fun (x2_15 : Int32) (x3_16 : Int32) (M_weight_17 : Nat → Int32) => wpX5_passesAll (fun (M_pipes_18 : Int32) (M_used_19 : Int32) (M_isKeeping_20 : Int32) (M_cursor_21 : Int32) (M_setting_22 : Nat → Int32) (M_hole_23 : Nat → Int32) (M_pipeAt_24 : Nat → Int32) (M_chance_25 : Nat → Int32) (M_weight_26 : Nat → Int32) (M_kept_27 : Nat → Int32) => post x2_15 M_pipes_18 M_used_19 M_isKeeping_20 M_cursor_21 (0 : Int32) M_setting_22 M_hole_23 M_pipeAt_24 M_chance_25 M_weight_26 M_kept_27) M_pipes_1 M_used_2 M_setting_5 M_hole_6 M_pipeAt_7 M_chance_8 M_weight_17 M_kept_10 (1 : Int32) (0 : Int32)) M_rowMany M_setting_5 M_row n_14 (-9 : Int32) (0 : Int32) M_weight_9) M_pipes M_used M_setting M_hole M_pipeAt M_chance M_weight M_kept (1 : Int32) (1 : Int32)
set_option maxHeartbeats 4000000 in
set_option maxRecDepth 100000 in
theorem mX5_judge (l : Launch) (D : va_G) (cI cJ cC : ClassId) (G : Nat → Nat → Nat) (a_M : Nat → Nat) (sz : Nat) (M_pipes : Int32) (M_used : Int32) (M_taped : Int32) (M_at : Int32) (M_statements : Int32) (M_hasImage : Int32) (M_isKeeping : Int32) (M_cursor : Int32) (M_nextAt : Int32) (M_nextMost : Int64) (M_rowMany : Int32) (M_refused : Nat → Int32) (M_setting : Nat → Int32) (M_hole : Nat → Int32) (M_pipeAt : Nat → Int32) (M_chance : Nat → Int32) (M_weight : Nat → Int32) (M_tape : Nat → Int32) (M_letter : Nat → Int32) (M_letterAt : Nat → Int32) (M_told : Nat → Int32) (M_kept : Nat → Int32) (M_then : Nat → Int64) (M_row : Nat → Int32) (post : Int32 → Int32 → Int32 → Int32 → Int32 → Int32 → (Nat → Int32) → (Nat → Int32) → (Nat → Int32) → (Nat → Int32) → (Nat → Int32) → (Nat → Int32) → Prop) (h : wpX5_judge post M_pipes M_used M_rowMany M_setting M_hole M_pipeAt M_chance M_weight M_kept M_row) : Met l yX5_judge (wz yX5_judge cX5_judge 5 (some .int)) ({ frames := 5, cells := 0, slots := 0, locals := 112 }) (va_Pc [.ref (a_M 0)] (PW D (tz cI cJ cC) G ((bX5 cI cJ cC a_M M_pipes M_used M_taped M_at M_statements M_hasImage M_isKeeping M_cursor M_nextAt M_nextMost M_rowMany M_refused M_setting M_hole M_pipeAt M_chance M_weight M_tape M_letter M_letterAt M_told M_kept M_then M_row)) sz)) (va_Qi (fun (r : Int32) (u : Int32 × Int32 × Int32 × Int32 × Int32 × (Nat → Int32) × (Nat → Int32) × (Nat → Int32) × (Nat → Int32) × (Nat → Int32) × (Nat → Int32)) => post r u.1 u.2.1 u.2.2.1 u.2.2.2.1 u.2.2.2.2.1 u.2.2.2.2.2.1 u.2.2.2.2.2.2.1 u.2.2.2.2.2.2.2.1 u.2.2.2.2.2.2.2.2.1 u.2.2.2.2.2.2.2.2.2.1 u.2.2.2.2.2.2.2.2.2.2) (fun (u : Int32 × Int32 × Int32 × Int32 × Int32 × (Nat → Int32) × (Nat → Int32) × (Nat → Int32) × (Nat → Int32) × (Nat → Int32) × (Nat → Int32)) t => va_P D vwCl ((bX5 cI cJ cC a_M u.1 u.2.1 M_taped M_at M_statements M_hasImage u.2.2.1 u.2.2.2.1 M_nextAt M_nextMost u.2.2.2.2.1 M_refused u.2.2.2.2.2.1 u.2.2.2.2.2.2.1 u.2.2.2.2.2.2.2.1 u.2.2.2.2.2.2.2.2.1 u.2.2.2.2.2.2.2.2.2.1 M_tape M_letter M_letterAt M_told u.2.2.2.2.2.2.2.2.2.2 M_then M_row)) t.heap) (va_A ((bX5 cI cJ cC a_M M_pipes M_used M_taped M_at M_statements M_hasImage M_isKeeping M_cursor M_nextAt M_nextMost M_rowMany M_refused M_setting M_hole M_pipeAt M_chance M_weight M_tape M_letter M_letterAt M_told M_kept M_then M_row)) sz)) 0 0 (va_A ((bX5 cI cJ cC a_M M_pipes M_used M_taped M_at M_statements M_hasImage M_isKeeping M_cursor M_nextAt M_nextMost M_rowMany M_refused M_setting M_hole M_pipeAt M_chance M_weight M_tape M_letter M_letterAt M_told M_kept M_then M_row)) sz) := by
  refine zmi (gw := fun (u : Int32 × Int32 × Int32 × Int32 × Int32 × (Nat → Int32) × (Nat → Int32) × (Nat → Int32) × (Nat → Int32) × (Nat → Int32) × (Nat → Int32)) => (bX5 cI cJ cC a_M u.1 u.2.1 M_taped M_at M_statements M_hasImage u.2.2.1 u.2.2.2.1 M_nextAt M_nextMost u.2.2.2.2.1 M_refused u.2.2.2.2.2.1 u.2.2.2.2.2.2.1 u.2.2.2.2.2.2.2.1 u.2.2.2.2.2.2.2.2.1 u.2.2.2.2.2.2.2.2.2.1 M_tape M_letter M_letterAt M_told u.2.2.2.2.2.2.2.2.2.2 M_then M_row)) (plainFor_of_name (by decide)) (Nat.le_of_ble_eq_true rfl) ?_
  intro p e s m below meth c A Q ls S hK hD hA hE hP hl hret
  obtain ⟨hx, hb, hml, hown, ht⟩ := id S
  have hS : va_S A s.heap s.heap [] := va_S.rf
  have hDD : ∀ ws : va_W, ws.map (fun q => q.1) = [a_M 0, a_M 1, a_M 2, a_M 3, a_M 4, a_M 5, a_M 6, a_M 7, a_M 8, a_M 9, a_M 10, a_M 11, a_M 12, a_M 13] → va_D A ws := fun ws hw => zD hD (hw.trans rfl)
  have hl : lv_has ls 5 [(0, .ref (a_M 0))] := hl
  unfold wpX5_judge at h
  refine lv_aload_n hx hb dX5_judge_0 rfl (lv_at hl 0 rfl) ?_
  refine va_get (D := D) (ci := 5) (v := .int M_rowMany) (C := RX5) (T := TX5) (N := 24) hx hb ht inX5 hown hK hP 0 rfl rfl 23 (by decide) (ht _ fl_X5_274) (fun _ h9 => h9) rfl dX5_judge_1 ?_
  refine lv_istore_n (lv' := [(1, .int M_rowMany), (0, .ref (a_M 0))]) hx hb dX5_judge_4 rfl hl (by decide) rfl (fun ls hl => ?_)
  refine lv_aload_n hx hb dX5_judge_5 rfl (lv_at hl 1 rfl) ?_
  refine lv_iconst (v := (0 : Int32)) hx hb dX5_judge_6 (by decide) ?_
  refine va_put (D := D) (ci := 5) (v := .int (0 : Int32)) (ty := .int) (C := RX5) (T := TX5) (N := 24) hx hb ht inX5 tyX5 tyX5_ok nmX5 hown hK hP (hDD _ rfl) hS 0 rfl rfl 23 (by decide) (ht _ fl_X5_274) (fun _ h9 => h9) rfl (by decide +kernel) rfl rfl (Nat.le_of_ble_eq_true rfl) dX5_judge_7 (fun H locs hP _ hS => ?_)
  have hP : va_P D vwCl ((bX5 cI cJ cC a_M M_pipes M_used M_taped M_at M_statements M_hasImage M_isKeeping M_cursor M_nextAt M_nextMost (0 : Int32) M_refused M_setting M_hole M_pipeAt M_chance M_weight M_tape M_letter M_letterAt M_told M_kept M_then M_row)) H := hP
  refine lv_aload_n hx hb dX5_judge_10 rfl (lv_at hl 1 rfl) ?_
  refine lv_iconst (v := (1 : Int32)) hx hb dX5_judge_11 (by decide) ?_
  refine lv_iconst (v := (1 : Int32)) hx hb dX5_judge_12 (by decide) ?_
  refine zcv hA (hDD _ rfl) hS (zrunV (As := [.int (1 : Int32), .int (1 : Int32)]) (rest := []) S hK hA hE hP (hDD _ rfl) hS (mX5_passesAll l D cI cJ cC G a_M _ M_pipes M_used M_taped M_at M_statements M_hasImage M_isKeeping M_cursor M_nextAt M_nextMost (0 : Int32) M_refused M_setting M_hole M_pipeAt M_chance M_weight M_tape M_letter M_letterAt M_told M_kept M_then M_row (1 : Int32) (1 : Int32) _ h) kX5_passesAll ml_X5_138 ⟨rfl, rfl, by decide, by decide⟩ (q0 := 0) (ci := 5) rfl rfl rfl rfl hl.1 rfl (Nat.le_of_ble_eq_true rfl) dX5_judge_13 ⟨Nat.zero_le _, Nat.zero_le _⟩) (fun u H locs h hP1 hk1 hS => ?_)
  obtain ⟨M_pipes_1, M_used_2, M_isKeeping_3, M_cursor_4, M_setting_5, M_hole_6, M_pipeAt_7, M_chance_8, M_weight_9, M_kept_10⟩ := u
  dsimp only at h
  have hP : va_P D vwCl ((bX5 cI cJ cC a_M M_pipes_1 M_used_2 M_taped M_at M_statements M_hasImage M_isKeeping_3 M_cursor_4 M_nextAt M_nextMost (0 : Int32) M_refused M_setting_5 M_hole_6 M_pipeAt_7 M_chance_8 M_weight_9 M_tape M_letter M_letterAt M_told M_kept_10 M_then M_row)) H := hP1
  refine lv_bipush (v := (-9 : Int32)) hx hb dX5_judge_16 (by decide) ?_
  refine lv_istore_n (lv' := [(2, .int (-9 : Int32)), (1, .int M_rowMany), (0, .ref (a_M 0))]) hx hb dX5_judge_18 rfl hl (by decide) rfl (fun ls hl => ?_)
  refine lv_iconst (v := (0 : Int32)) hx hb dX5_judge_19 (by decide) ?_
  refine lv_istore_n (lv' := [(3, .int (0 : Int32)), (2, .int (-9 : Int32)), (1, .int M_rowMany), (0, .ref (a_M 0))]) hx hb dX5_judge_20 rfl hl (by decide) rfl (fun ls hl => ?_)
  obtain ⟨n_14, h⟩ := h
  refine wX5_judge_21 l D cI cJ cC G a_M M_rowMany M_pipes_1 M_used_2 M_taped M_at M_statements M_hasImage M_isKeeping_3 M_cursor_4 M_nextAt M_nextMost (0 : Int32) M_refused M_setting_5 M_hole_6 M_pipeAt_7 M_chance_8 M_tape M_letter M_letterAt M_told M_kept_10 M_then M_row _ S hK hDD hA hE (fun x2_15 x3_16 M_weight_17 H locs ls h hP hS hl => ?_) n_14 (-9 : Int32) (0 : Int32) M_weight_9 _ _ _ h hP hS (lv_sub hl [3, 2, 1, 0] rfl)
  try dsimp only at h
  refine lv_aload_n hx hb dX5_judge_122 rfl (lv_at hl 0 rfl) ?_
  refine lv_iconst (v := (1 : Int32)) hx hb dX5_judge_123 (by decide) ?_
  refine lv_iconst (v := (0 : Int32)) hx hb dX5_judge_124 (by decide) ?_
  refine zcv hA (hDD _ rfl) hS (zrunV (As := [.int (1 : Int32), .int (0 : Int32)]) (rest := []) S hK hA hE hP (hDD _ rfl) hS (mX5_passesAll l D cI cJ cC G a_M _ M_pipes_1 M_used_2 M_taped M_at M_statements M_hasImage M_isKeeping_3 M_cursor_4 M_nextAt M_nextMost (0 : Int32) M_refused M_setting_5 M_hole_6 M_pipeAt_7 M_chance_8 M_weight_17 M_tape M_letter M_letterAt M_told M_kept_10 M_then M_row (1 : Int32) (0 : Int32) _ h) kX5_passesAll ml_X5_138 ⟨rfl, rfl, by decide, by decide⟩ (q0 := 0) (ci := 5) rfl rfl rfl rfl hl.1 rfl (Nat.le_of_ble_eq_true rfl) dX5_judge_125 ⟨Nat.zero_le _, Nat.zero_le _⟩) (fun u H locs h hP1 hk1 hS => ?_)
  obtain ⟨M_pipes_18, M_used_19, M_isKeeping_20, M_cursor_21, M_setting_22, M_hole_23, M_pipeAt_24, M_chance_25, M_weight_26, M_kept_27⟩ := u
  dsimp only at h
  have hP : va_P D vwCl ((bX5 cI cJ cC a_M M_pipes_18 M_used_19 M_taped M_at M_statements M_hasImage M_isKeeping_20 M_cursor_21 M_nextAt M_nextMost (0 : Int32) M_refused M_setting_22 M_hole_23 M_pipeAt_24 M_chance_25 M_weight_26 M_tape M_letter M_letterAt M_told M_kept_27 M_then M_row)) H := hP1
  refine lv_iload_n hx hb dX5_judge_128 rfl (lv_at hl 1 rfl) ?_
  exact hret x2_15 (M_pipes_18, M_used_19, M_isKeeping_20, M_cursor_21, (0 : Int32), M_setting_22, M_hole_23, M_pipeAt_24, M_chance_25, M_weight_26, M_kept_27) _ _ _ _ rfl h hP hS dX5_judge_129
def lpX5_nailsBy_6 (post : Int32 → Int32 → (Nat → Int32) → Prop) (K : Int32 → (Nat → Int32) → Prop) (x1 : Int32) (M_used : Int32) (M_setting : Nat → Int32) : Nat → Int32 → (Nat → Int32) → Prop
  | 0, _, _ => False
  | n + 1, x2, M_weight => (((48 : Int32) ≤ x2 → (K x2 M_weight)) ∧ (¬ ((48 : Int32) ≤ x2) → (wpX5_bestNow (fun (r_3 : Int32) => wpX5_isWood (fun (r_4 : Int32) => ((r_4 = (0 : Int32) → (wpX5_leaves (fun (M_weight_5 : Nat → Int32) => lpX5_nailsBy_6 post K x1 M_used M_setting n (x2 + (1 : Int32)) M_weight_5) M_setting M_weight r_3 (0 : Int32))) ∧ (¬ (r_4 = (0 : Int32)) → (post (x2 + (1 : Int32)) M_used M_weight)))) M_setting r_3 x1) M_setting M_weight)))
set_option maxHeartbeats 4000000 in
set_option maxRecDepth 100000 in
theorem wX5_nailsBy_6 (l : Launch) (D : va_G) (cI cJ cC : ClassId) (G : Nat → Nat → Nat) (a_M : Nat → Nat) {p : Program} {e : Env} {s : State} {m : MethodId} {below : List Frame} {meth : Method} {c : Code} {A : Nat → Prop} {Q : State → Prop} (p1 : Int32) (x1 : Int32) (M_pipes : Int32) (M_used : Int32) (M_taped : Int32) (M_at : Int32) (M_statements : Int32) (M_hasImage : Int32) (M_isKeeping : Int32) (M_cursor : Int32) (M_nextAt : Int32) (M_nextMost : Int64) (M_rowMany : Int32) (M_refused : Nat → Int32) (M_setting : Nat → Int32) (M_hole : Nat → Int32) (M_pipeAt : Nat → Int32) (M_chance : Nat → Int32) (M_tape : Nat → Int32) (M_letter : Nat → Int32) (M_letterAt : Nat → Int32) (M_told : Nat → Int32) (M_kept : Nat → Int32) (M_then : Nat → Int64) (M_row : Nat → Int32) (post : Int32 → Int32 → (Nat → Int32) → Prop) (K : Int32 → (Nat → Int32) → Prop) (S : CallFix p m c cX5_nailsBy 4 s ([.ref (a_M 0), .int p1] : List Value).toArray bg RX5) (hK : va_K D vwCl (tz cI cJ cC) s) (hDD : ∀ ws : va_W, ws.map (fun q => q.1) = [a_M 0, a_M 1, a_M 2, a_M 3, a_M 4, a_M 5, a_M 6, a_M 7, a_M 8, a_M 9, a_M 10, a_M 11, a_M 12, a_M 13] → va_D A ws) (hA : ∀ q, s.heap.size ≤ q → A q) (hE : EV G A s) (hret : ∀ (r : Int32) (u : Int32 × (Nat → Int32)) (H : Heap) (locs : List Loc) (ls : Array Slot) (pc : Nat), narrow .int (.int r) = .int r → post r u.1 u.2 → va_P D vwCl ((bX5 cI cJ cC a_M M_pipes u.1 M_taped M_at M_statements M_hasImage M_isKeeping M_cursor M_nextAt M_nextMost M_rowMany M_refused M_setting M_hole M_pipeAt M_chance u.2 M_tape M_letter M_letterAt M_told M_kept M_then M_row)) H → va_S A s.heap H locs → decode cX5_nailsBy pc = .ok (.ireturn, 1) → W p l e ({ frames := 6, cells := 0, slots := 0, locals := 134 }) s m ([.ref (a_M 0), .int p1] : List Value).toArray below meth c H locs 0 0 Q (F0 m pc ls [.int r])) (hKK : ∀ (x2 : Int32) (M_weight : Nat → Int32) (H : Heap) (locs : List Loc) (ls : Array Slot), K x2 M_weight → va_P D vwCl ((bX5 cI cJ cC a_M M_pipes M_used M_taped M_at M_statements M_hasImage M_isKeeping M_cursor M_nextAt M_nextMost M_rowMany M_refused M_setting M_hole M_pipeAt M_chance M_weight M_tape M_letter M_letterAt M_told M_kept M_then M_row)) H → va_S A s.heap H locs → lv_has ls 4 [(2, .int x2)] → W p l e ({ frames := 6, cells := 0, slots := 0, locals := 134 }) s m ([.ref (a_M 0), .int p1] : List Value).toArray below meth c H locs 0 0 Q (F0 m 40 ls [])) :
    ∀ (n : Nat) (x2 : Int32) (M_weight : Nat → Int32) (H : Heap) (locs : List Loc) (ls : Array Slot), lpX5_nailsBy_6 post K x1 M_used M_setting n x2 M_weight → va_P D vwCl ((bX5 cI cJ cC a_M M_pipes M_used M_taped M_at M_statements M_hasImage M_isKeeping M_cursor M_nextAt M_nextMost M_rowMany M_refused M_setting M_hole M_pipeAt M_chance M_weight M_tape M_letter M_letterAt M_told M_kept M_then M_row)) H → va_S A s.heap H locs → lv_has ls 4 [(0, .ref (a_M 0)), (1, .int x1), (2, .int x2)] → W p l e ({ frames := 6, cells := 0, slots := 0, locals := 134 }) s m ([.ref (a_M 0), .int p1] : List Value).toArray below meth c H locs 0 0 Q (F0 m 6 ls []) := by
  obtain ⟨hx, hb, hml, hown, ht⟩ := id S
  intro n
  induction n with
  | zero =>
    intro x2 M_weight H locs ls h
    exact absurd h (by simp [lpX5_nailsBy_6])
  | succ n ih =>
    intro x2 M_weight H locs ls h hP hS hl
    rw [lpX5_nailsBy_6] at h
    refine lv_iload_n hx hb dX5_nailsBy_6 rfl (lv_at hl 2 rfl) ?_
    refine lv_bipush (v := (48 : Int32)) hx hb dX5_nailsBy_7 (by decide) ?_
    refine lv_icmp_ge (tgt := 40) hx hb dX5_nailsBy_9 (by decide) (fun z => ?_) (fun z => ?_)
    · replace h := h.1 z
      exact hKK x2 M_weight _ _ _ h hP hS (lv_sub hl [2] rfl)
    · replace h := h.2 z
      refine lv_aload_n hx hb dX5_nailsBy_12 rfl (lv_at hl 0 rfl) ?_
      refine zci hA (hDD _ rfl) hS (zrunV (As := []) (rest := []) S hK hA hE hP (hDD _ rfl) hS (mX5_bestNow l D cI cJ cC G a_M _ M_pipes M_used M_taped M_at M_statements M_hasImage M_isKeeping M_cursor M_nextAt M_nextMost M_rowMany M_refused M_setting M_hole M_pipeAt M_chance M_weight M_tape M_letter M_letterAt M_told M_kept M_then M_row _ h) kX5_bestNow ml_X5_224 ⟨rfl, rfl, by decide, by decide⟩ (q0 := 0) (ci := 5) rfl rfl rfl rfl hl.1 rfl (Nat.le_of_ble_eq_true rfl) dX5_nailsBy_13 ⟨Nat.zero_le _, Nat.zero_le _⟩) (fun r_3 u H locs h hP1 hk1 hS => ?_)
      try dsimp only at h
      have hP : va_P D vwCl ((bX5 cI cJ cC a_M M_pipes M_used M_taped M_at M_statements M_hasImage M_isKeeping M_cursor M_nextAt M_nextMost M_rowMany M_refused M_setting M_hole M_pipeAt M_chance M_weight M_tape M_letter M_letterAt M_told M_kept M_then M_row)) H := hP1
      refine lv_istore_n (lv' := [(3, .int r_3), (0, .ref (a_M 0)), (1, .int x1), (2, .int x2)]) hx hb dX5_nailsBy_16 rfl hl (by decide) rfl (fun ls hl => ?_)
      refine lv_iinc (v := x2 + (1 : Int32)) (lv' := [(2, .int (x2 + (1 : Int32))), (3, .int r_3), (0, .ref (a_M 0)), (1, .int x1)]) hx hb dX5_nailsBy_17 hl (k := 3) rfl (by rfl) (by decide) rfl (fun ls hl => ?_)
      refine lv_aload_n hx hb dX5_nailsBy_20 rfl (lv_at hl 2 rfl) ?_
      refine lv_iload_n hx hb dX5_nailsBy_21 rfl (lv_at hl 1 rfl) ?_
      refine lv_iload_n hx hb dX5_nailsBy_22 rfl (lv_at hl 3 rfl) ?_
      refine zci hA (hDD _ rfl) hS (zrunV (As := [.int r_3, .int x1]) (rest := []) S hK hA hE hP (hDD _ rfl) hS (mX5_isWood l D cI cJ cC G a_M _ M_pipes M_used M_taped M_at M_statements M_hasImage M_isKeeping M_cursor M_nextAt M_nextMost M_rowMany M_refused M_setting M_hole M_pipeAt M_chance M_weight M_tape M_letter M_letterAt M_told M_kept M_then M_row r_3 x1 _ h) kX5_isWood ml_X5_171 ⟨rfl, rfl, by decide, by decide⟩ (q0 := 0) (ci := 5) rfl rfl rfl rfl hl.1 rfl (Nat.le_of_ble_eq_true rfl) dX5_nailsBy_23 ⟨Nat.zero_le _, Nat.zero_le _⟩) (fun r_4 u H locs h hP1 hk1 hS => ?_)
      try dsimp only at h
      have hP : va_P D vwCl ((bX5 cI cJ cC a_M M_pipes M_used M_taped M_at M_statements M_hasImage M_isKeeping M_cursor M_nextAt M_nextMost M_rowMany M_refused M_setting M_hole M_pipeAt M_chance M_weight M_tape M_letter M_letterAt M_told M_kept M_then M_row)) H := hP1
      refine lv_if_eq (tgt := 31) hx hb dX5_nailsBy_26 (by decide) (fun z => ?_) (fun z => ?_)
      · replace h := h.1 z
        refine lv_aload_n hx hb dX5_nailsBy_31 rfl (lv_at hl 2 rfl) ?_
        refine lv_iload_n hx hb dX5_nailsBy_32 rfl (lv_at hl 1 rfl) ?_
        refine lv_iconst (v := (0 : Int32)) hx hb dX5_nailsBy_33 (by decide) ?_
        refine zcv hA (hDD _ rfl) hS (zrunV (As := [.int r_3, .int (0 : Int32)]) (rest := []) S hK hA hE hP (hDD _ rfl) hS (mX5_leaves l D cI cJ cC G a_M _ M_pipes M_used M_taped M_at M_statements M_hasImage M_isKeeping M_cursor M_nextAt M_nextMost M_rowMany M_refused M_setting M_hole M_pipeAt M_chance M_weight M_tape M_letter M_letterAt M_told M_kept M_then M_row r_3 (0 : Int32) _ h) kX5_leaves ml_X5_191 ⟨rfl, rfl, by decide, by decide⟩ (q0 := 0) (ci := 5) rfl rfl rfl rfl hl.1 rfl (Nat.le_of_ble_eq_true rfl) dX5_nailsBy_34 ⟨Nat.zero_le _, Nat.zero_le _⟩) (fun M_weight_5 H locs h hP1 hk1 hS => ?_)
        try dsimp only at h
        have hP : va_P D vwCl ((bX5 cI cJ cC a_M M_pipes M_used M_taped M_at M_statements M_hasImage M_isKeeping M_cursor M_nextAt M_nextMost M_rowMany M_refused M_setting M_hole M_pipeAt M_chance M_weight_5 M_tape M_letter M_letterAt M_told M_kept M_then M_row)) H := hP1
        refine lv_goto (tgt := 6) hx hb dX5_nailsBy_37 (by decide) ?_
        exact ih (x2 + (1 : Int32)) M_weight_5 _ _ _ h hP hS (lv_sub hl [2, 3, 0] rfl)
      · replace h := h.2 z
        refine lv_iload_n hx hb dX5_nailsBy_29 rfl (lv_at hl 0 rfl) ?_
        exact hret (x2 + (1 : Int32)) (M_used, M_weight) _ _ _ _ rfl h hP hS dX5_nailsBy_30
def wpX5_nailsBy (post : Int32 → Int32 → (Nat → Int32) → Prop) (M_setting : Nat → Int32) (M_weight : Nat → Int32) (p1 : Int32) : Prop := wpX5_alike (fun (M_used_1 : Int32) (M_weight_2 : Nat → Int32) => ∃ n_6 : Nat, lpX5_nailsBy_6 post (fun (x2_7 : Int32) (M_weight_8 : Nat → Int32) => post x2_7 M_used_1 M_weight_8) p1 M_used_1 M_setting n_6 (0 : Int32) M_weight_2) M_weight
set_option maxHeartbeats 4000000 in
set_option maxRecDepth 100000 in
theorem mX5_nailsBy (l : Launch) (D : va_G) (cI cJ cC : ClassId) (G : Nat → Nat → Nat) (a_M : Nat → Nat) (sz : Nat) (M_pipes : Int32) (M_used : Int32) (M_taped : Int32) (M_at : Int32) (M_statements : Int32) (M_hasImage : Int32) (M_isKeeping : Int32) (M_cursor : Int32) (M_nextAt : Int32) (M_nextMost : Int64) (M_rowMany : Int32) (M_refused : Nat → Int32) (M_setting : Nat → Int32) (M_hole : Nat → Int32) (M_pipeAt : Nat → Int32) (M_chance : Nat → Int32) (M_weight : Nat → Int32) (M_tape : Nat → Int32) (M_letter : Nat → Int32) (M_letterAt : Nat → Int32) (M_told : Nat → Int32) (M_kept : Nat → Int32) (M_then : Nat → Int64) (M_row : Nat → Int32) (p1 : Int32) (post : Int32 → Int32 → (Nat → Int32) → Prop) (h : wpX5_nailsBy post M_setting M_weight p1) : Met l yX5_nailsBy (wz yX5_nailsBy cX5_nailsBy 4 (some .int)) ({ frames := 6, cells := 0, slots := 0, locals := 134 }) (va_Pc [.ref (a_M 0), .int p1] (PW D (tz cI cJ cC) G ((bX5 cI cJ cC a_M M_pipes M_used M_taped M_at M_statements M_hasImage M_isKeeping M_cursor M_nextAt M_nextMost M_rowMany M_refused M_setting M_hole M_pipeAt M_chance M_weight M_tape M_letter M_letterAt M_told M_kept M_then M_row)) sz)) (va_Qi (fun (r : Int32) (u : Int32 × (Nat → Int32)) => post r u.1 u.2) (fun (u : Int32 × (Nat → Int32)) t => va_P D vwCl ((bX5 cI cJ cC a_M M_pipes u.1 M_taped M_at M_statements M_hasImage M_isKeeping M_cursor M_nextAt M_nextMost M_rowMany M_refused M_setting M_hole M_pipeAt M_chance u.2 M_tape M_letter M_letterAt M_told M_kept M_then M_row)) t.heap) (va_A ((bX5 cI cJ cC a_M M_pipes M_used M_taped M_at M_statements M_hasImage M_isKeeping M_cursor M_nextAt M_nextMost M_rowMany M_refused M_setting M_hole M_pipeAt M_chance M_weight M_tape M_letter M_letterAt M_told M_kept M_then M_row)) sz)) 0 0 (va_A ((bX5 cI cJ cC a_M M_pipes M_used M_taped M_at M_statements M_hasImage M_isKeeping M_cursor M_nextAt M_nextMost M_rowMany M_refused M_setting M_hole M_pipeAt M_chance M_weight M_tape M_letter M_letterAt M_told M_kept M_then M_row)) sz) := by
  refine zmi (gw := fun (u : Int32 × (Nat → Int32)) => (bX5 cI cJ cC a_M M_pipes u.1 M_taped M_at M_statements M_hasImage M_isKeeping M_cursor M_nextAt M_nextMost M_rowMany M_refused M_setting M_hole M_pipeAt M_chance u.2 M_tape M_letter M_letterAt M_told M_kept M_then M_row)) (plainFor_of_name (by decide)) (Nat.le_of_ble_eq_true rfl) ?_
  intro p e s m below meth c A Q ls S hK hD hA hE hP hl hret
  obtain ⟨hx, hb, hml, hown, ht⟩ := id S
  have hS : va_S A s.heap s.heap [] := va_S.rf
  have hDD : ∀ ws : va_W, ws.map (fun q => q.1) = [a_M 0, a_M 1, a_M 2, a_M 3, a_M 4, a_M 5, a_M 6, a_M 7, a_M 8, a_M 9, a_M 10, a_M 11, a_M 12, a_M 13] → va_D A ws := fun ws hw => zD hD (hw.trans rfl)
  have hl : lv_has ls 4 [(0, .ref (a_M 0)), (1, .int p1)] := hl
  unfold wpX5_nailsBy at h
  refine lv_aload_n hx hb dX5_nailsBy_0 rfl (lv_at hl 0 rfl) ?_
  refine zcv hA (hDD _ rfl) hS (zrunV (As := []) (rest := []) S hK hA hE hP (hDD _ rfl) hS (mX5_alike l D cI cJ cC G a_M _ M_pipes M_used M_taped M_at M_statements M_hasImage M_isKeeping M_cursor M_nextAt M_nextMost M_rowMany M_refused M_setting M_hole M_pipeAt M_chance M_weight M_tape M_letter M_letterAt M_told M_kept M_then M_row _ h) kX5_alike ml_X5_50 ⟨rfl, rfl, by decide, by decide⟩ (q0 := 0) (ci := 5) rfl rfl rfl rfl hl.1 rfl (Nat.le_of_ble_eq_true rfl) dX5_nailsBy_1 ⟨Nat.zero_le _, Nat.zero_le _⟩) (fun u H locs h hP1 hk1 hS => ?_)
  obtain ⟨M_used_1, M_weight_2⟩ := u
  dsimp only at h
  have hP : va_P D vwCl ((bX5 cI cJ cC a_M M_pipes M_used_1 M_taped M_at M_statements M_hasImage M_isKeeping M_cursor M_nextAt M_nextMost M_rowMany M_refused M_setting M_hole M_pipeAt M_chance M_weight_2 M_tape M_letter M_letterAt M_told M_kept M_then M_row)) H := hP1
  refine lv_iconst (v := (0 : Int32)) hx hb dX5_nailsBy_4 (by decide) ?_
  refine lv_istore_n (lv' := [(2, .int (0 : Int32)), (0, .ref (a_M 0)), (1, .int p1)]) hx hb dX5_nailsBy_5 rfl hl (by decide) rfl (fun ls hl => ?_)
  obtain ⟨n_6, h⟩ := h
  refine wX5_nailsBy_6 l D cI cJ cC G a_M p1 p1 M_pipes M_used_1 M_taped M_at M_statements M_hasImage M_isKeeping M_cursor M_nextAt M_nextMost M_rowMany M_refused M_setting M_hole M_pipeAt M_chance M_tape M_letter M_letterAt M_told M_kept M_then M_row post _ S hK hDD hA hE hret (fun x2_7 M_weight_8 H locs ls h hP hS hl => ?_) n_6 (0 : Int32) M_weight_2 _ _ _ h hP hS (lv_sub hl [1, 2, 0] rfl)
  try dsimp only at h
  refine lv_iload_n hx hb dX5_nailsBy_40 rfl (lv_at hl 0 rfl) ?_
  exact hret x2_7 (M_used_1, M_weight_8) _ _ _ _ rfl h hP hS dX5_nailsBy_41
