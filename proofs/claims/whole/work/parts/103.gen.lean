def lpX5_passes_M2_2 (K : Int32 → Int32 → (Nat → Int32) → (Nat → Int32) → Prop) (M_isKeeping : Int32) : Nat → Int32 → Int32 → (Nat → Int32) → (Nat → Int32) → Prop
  | 0, _, _, _, _ => False
  | n + 1, x2, M_cursor, M_setting, M_kept => (((4 : Int32) ≤ x2 → (K x2 M_cursor M_setting M_kept)) ∧ (¬ ((4 : Int32) ≤ x2) → (((M_isKeeping = (0 : Int32) → (vp_in M_cursor 200 ∧ (vp_in x2 4 ∧ (lpX5_passes_M2_2 K M_isKeeping n (x2 + (1 : Int32)) (M_cursor + (1 : Int32)) (upd M_setting x2.toNatClampNeg (M_kept M_cursor.toNatClampNeg)) M_kept)))) ∧ (¬ (M_isKeeping = (0 : Int32)) → (vp_in x2 4 ∧ (vp_in M_cursor 200 ∧ (lpX5_passes_M2_2 K M_isKeeping n (x2 + (1 : Int32)) (M_cursor + (1 : Int32)) M_setting (upd M_kept M_cursor.toNatClampNeg (M_setting x2.toNatClampNeg))))))))))
set_option maxHeartbeats 4000000 in
set_option maxRecDepth 100000 in
theorem wX5_passes_M2_2 (l : Launch) (D : va_G) (cI cJ cC : ClassId) (G : Nat → Nat → Nat) (a_M : Nat → Nat) {p : Program} {e : Env} {s : State} {m : MethodId} {below : List Frame} {meth : Method} {c : Code} {A : Nat → Prop} {Q : State → Prop} (M_pipes : Int32) (M_used : Int32) (M_taped : Int32) (M_at : Int32) (M_statements : Int32) (M_hasImage : Int32) (M_isKeeping : Int32) (M_nextAt : Int32) (M_nextMost : Int64) (M_rowMany : Int32) (M_refused : Nat → Int32) (M_hole : Nat → Int32) (M_pipeAt : Nat → Int32) (M_chance : Nat → Int32) (M_weight : Nat → Int32) (M_tape : Nat → Int32) (M_letter : Nat → Int32) (M_letterAt : Nat → Int32) (M_told : Nat → Int32) (M_then : Nat → Int64) (M_row : Nat → Int32) (K : Int32 → Int32 → (Nat → Int32) → (Nat → Int32) → Prop) (S : CallFix p m c cX5_passes 3 s ([.ref (a_M 0), .ref (a_M 2)] : List Value).toArray bg RX5) (hK : va_K D vwCl (tz cI cJ cC) s) (hDD : ∀ ws : va_W, ws.map (fun q => q.1) = [a_M 0, a_M 1, a_M 2, a_M 3, a_M 4, a_M 5, a_M 6, a_M 7, a_M 8, a_M 9, a_M 10, a_M 11, a_M 12, a_M 13] → va_D A ws) (hA : ∀ q, s.heap.size ≤ q → A q) (hE : EV G A s) (hKK : ∀ (x2 : Int32) (M_cursor : Int32) (M_setting : Nat → Int32) (M_kept : Nat → Int32) (H : Heap) (locs : List Loc) (ls : Array Slot), K x2 M_cursor M_setting M_kept → va_P D vwCl ((bX5 cI cJ cC a_M M_pipes M_used M_taped M_at M_statements M_hasImage M_isKeeping M_cursor M_nextAt M_nextMost M_rowMany M_refused M_setting M_hole M_pipeAt M_chance M_weight M_tape M_letter M_letterAt M_told M_kept M_then M_row)) H → va_S A s.heap H locs → lv_has ls 3 [] → W p l e ({ frames := 0, cells := 0, slots := 0, locals := 0 }) s m ([.ref (a_M 0), .ref (a_M 2)] : List Value).toArray below meth c H locs 0 0 Q (F0 m 58 ls [])) :
    ∀ (n : Nat) (x2 : Int32) (M_cursor : Int32) (M_setting : Nat → Int32) (M_kept : Nat → Int32) (H : Heap) (locs : List Loc) (ls : Array Slot), lpX5_passes_M2_2 K M_isKeeping n x2 M_cursor M_setting M_kept → va_P D vwCl ((bX5 cI cJ cC a_M M_pipes M_used M_taped M_at M_statements M_hasImage M_isKeeping M_cursor M_nextAt M_nextMost M_rowMany M_refused M_setting M_hole M_pipeAt M_chance M_weight M_tape M_letter M_letterAt M_told M_kept M_then M_row)) H → va_S A s.heap H locs → lv_has ls 3 [(0, .ref (a_M 0)), (1, .ref (a_M 2)), (2, .int x2)] → W p l e ({ frames := 0, cells := 0, slots := 0, locals := 0 }) s m ([.ref (a_M 0), .ref (a_M 2)] : List Value).toArray below meth c H locs 0 0 Q (F0 m 2 ls []) := by
  obtain ⟨hx, hb, hml, hown, ht⟩ := id S
  intro n
  induction n with
  | zero =>
    intro x2 M_cursor M_setting M_kept H locs ls h
    exact absurd h (by simp [lpX5_passes_M2_2])
  | succ n ih =>
    intro x2 M_cursor M_setting M_kept H locs ls h hP hS hl
    rw [lpX5_passes_M2_2] at h
    refine lv_iload_n hx hb dX5_passes_2 rfl (lv_at hl 2 rfl) ?_
    refine lv_aload_n hx hb dX5_passes_3 rfl (lv_at hl 1 rfl) ?_
    refine va_alen hx hb hK hP 2 0 rfl rfl (v := (4 : Int32)) rfl dX5_passes_4 ?_
    refine lv_icmp_ge (tgt := 58) hx hb dX5_passes_5 (by decide) (fun z => ?_) (fun z => ?_)
    · replace h := h.1 z
      exact hKK x2 M_cursor M_setting M_kept _ _ _ h hP hS (lv_sub hl [] rfl)
    · replace h := h.2 z
      refine lv_aload_n hx hb dX5_passes_8 rfl (lv_at hl 0 rfl) ?_
      refine va_get (D := D) (ci := 5) (v := .int M_isKeeping) (C := RX5) (T := TX5) (N := 24) hx hb ht inX5 hown hK hP 0 rfl rfl 17 (by decide) (ht _ fl_X5_145) (fun _ h9 => h9) rfl dX5_passes_9 ?_
      refine lv_if_eq (tgt := 30) hx hb dX5_passes_12 (by decide) (fun z => ?_) (fun z => ?_)
      · replace h := h.1 z
        refine lv_aload_n hx hb dX5_passes_30 rfl (lv_at hl 1 rfl) ?_
        refine lv_iload_n hx hb dX5_passes_31 rfl (lv_at hl 2 rfl) ?_
        refine lv_aload_n hx hb dX5_passes_32 rfl (lv_at hl 0 rfl) ?_
        refine va_get (D := D) (ci := 5) (v := .ref (a_M 11)) (C := RX5) (T := TX5) (N := 24) hx hb ht inX5 hown hK hP 0 rfl rfl 15 (by decide) (ht _ fl_X5_40) (fun _ h9 => h9) rfl dX5_passes_33 ?_
        refine lv_aload_n hx hb dX5_passes_36 rfl (lv_at hl 0 rfl) ?_
        refine va_get (D := D) (ci := 5) (v := .int M_cursor) (C := RX5) (T := TX5) (N := 24) hx hb ht inX5 hown hK hP 0 rfl rfl 18 (by decide) (ht _ fl_X5_149) (fun _ h9 => h9) rfl dX5_passes_37 ?_
        obtain ⟨hin, h⟩ := h
        refine va_iald hx hb hK hP 11 0 rfl rfl hin dX5_passes_40 ?_
        obtain ⟨hin, h⟩ := h
        refine va_iast hx hb hK hP (hDD _ rfl) hS 2 0 rfl rfl hin dX5_passes_41 (fun H locs hP _ hS => ?_)
        have hP : va_P D vwCl ((bX5 cI cJ cC a_M M_pipes M_used M_taped M_at M_statements M_hasImage M_isKeeping M_cursor M_nextAt M_nextMost M_rowMany M_refused (upd M_setting x2.toNatClampNeg (M_kept M_cursor.toNatClampNeg)) M_hole M_pipeAt M_chance M_weight M_tape M_letter M_letterAt M_told M_kept M_then M_row)) H := hP
        refine lv_aload_n hx hb dX5_passes_42 rfl (lv_at hl 0 rfl) ?_
        refine lv_dup hx hb dX5_passes_43 rfl ?_
        refine va_get (D := D) (ci := 5) (v := .int M_cursor) (C := RX5) (T := TX5) (N := 24) hx hb ht inX5 hown hK hP 0 rfl rfl 18 (by decide) (ht _ fl_X5_149) (fun _ h9 => h9) rfl dX5_passes_44 ?_
        refine lv_iconst (v := (1 : Int32)) hx hb dX5_passes_47 (by decide) ?_
        refine lv_iadd hx hb dX5_passes_48 ?_
        refine va_put (D := D) (ci := 5) (v := .int (M_cursor + (1 : Int32))) (ty := .int) (C := RX5) (T := TX5) (N := 24) hx hb ht inX5 tyX5 tyX5_ok nmX5 hown hK hP (hDD _ rfl) hS 0 rfl rfl 18 (by decide) (ht _ fl_X5_149) (fun _ h9 => h9) rfl (by decide +kernel) rfl rfl (Nat.le_of_ble_eq_true rfl) dX5_passes_49 (fun H locs hP _ hS => ?_)
        have hP : va_P D vwCl ((bX5 cI cJ cC a_M M_pipes M_used M_taped M_at M_statements M_hasImage M_isKeeping (M_cursor + (1 : Int32)) M_nextAt M_nextMost M_rowMany M_refused (upd M_setting x2.toNatClampNeg (M_kept M_cursor.toNatClampNeg)) M_hole M_pipeAt M_chance M_weight M_tape M_letter M_letterAt M_told M_kept M_then M_row)) H := hP
        refine lv_iinc (v := x2 + (1 : Int32)) (lv' := [(2, .int (x2 + (1 : Int32))), (0, .ref (a_M 0)), (1, .ref (a_M 2))]) hx hb dX5_passes_52 hl (k := 2) rfl (by rfl) (by decide) rfl (fun ls hl => ?_)
        refine lv_goto (tgt := 2) hx hb dX5_passes_55 (by decide) ?_
        exact ih (x2 + (1 : Int32)) (M_cursor + (1 : Int32)) (upd M_setting x2.toNatClampNeg (M_kept M_cursor.toNatClampNeg)) M_kept _ _ _ h hP hS (lv_sub hl [1, 2, 0] rfl)
      · replace h := h.2 z
        refine lv_aload_n hx hb dX5_passes_15 rfl (lv_at hl 0 rfl) ?_
        refine va_get (D := D) (ci := 5) (v := .ref (a_M 11)) (C := RX5) (T := TX5) (N := 24) hx hb ht inX5 hown hK hP 0 rfl rfl 15 (by decide) (ht _ fl_X5_40) (fun _ h9 => h9) rfl dX5_passes_16 ?_
        refine lv_aload_n hx hb dX5_passes_19 rfl (lv_at hl 0 rfl) ?_
        refine va_get (D := D) (ci := 5) (v := .int M_cursor) (C := RX5) (T := TX5) (N := 24) hx hb ht inX5 hown hK hP 0 rfl rfl 18 (by decide) (ht _ fl_X5_149) (fun _ h9 => h9) rfl dX5_passes_20 ?_
        refine lv_aload_n hx hb dX5_passes_23 rfl (lv_at hl 1 rfl) ?_
        refine lv_iload_n hx hb dX5_passes_24 rfl (lv_at hl 2 rfl) ?_
        obtain ⟨hin, h⟩ := h
        refine va_iald hx hb hK hP 2 0 rfl rfl hin dX5_passes_25 ?_
        obtain ⟨hin, h⟩ := h
        refine va_iast hx hb hK hP (hDD _ rfl) hS 11 0 rfl rfl hin dX5_passes_26 (fun H locs hP _ hS => ?_)
        have hP : va_P D vwCl ((bX5 cI cJ cC a_M M_pipes M_used M_taped M_at M_statements M_hasImage M_isKeeping M_cursor M_nextAt M_nextMost M_rowMany M_refused M_setting M_hole M_pipeAt M_chance M_weight M_tape M_letter M_letterAt M_told (upd M_kept M_cursor.toNatClampNeg (M_setting x2.toNatClampNeg)) M_then M_row)) H := hP
        refine lv_goto (tgt := 42) hx hb dX5_passes_27 (by decide) ?_
        refine lv_aload_n hx hb dX5_passes_42 rfl (lv_at hl 0 rfl) ?_
        refine lv_dup hx hb dX5_passes_43 rfl ?_
        refine va_get (D := D) (ci := 5) (v := .int M_cursor) (C := RX5) (T := TX5) (N := 24) hx hb ht inX5 hown hK hP 0 rfl rfl 18 (by decide) (ht _ fl_X5_149) (fun _ h9 => h9) rfl dX5_passes_44 ?_
        refine lv_iconst (v := (1 : Int32)) hx hb dX5_passes_47 (by decide) ?_
        refine lv_iadd hx hb dX5_passes_48 ?_
        refine va_put (D := D) (ci := 5) (v := .int (M_cursor + (1 : Int32))) (ty := .int) (C := RX5) (T := TX5) (N := 24) hx hb ht inX5 tyX5 tyX5_ok nmX5 hown hK hP (hDD _ rfl) hS 0 rfl rfl 18 (by decide) (ht _ fl_X5_149) (fun _ h9 => h9) rfl (by decide +kernel) rfl rfl (Nat.le_of_ble_eq_true rfl) dX5_passes_49 (fun H locs hP _ hS => ?_)
        have hP : va_P D vwCl ((bX5 cI cJ cC a_M M_pipes M_used M_taped M_at M_statements M_hasImage M_isKeeping (M_cursor + (1 : Int32)) M_nextAt M_nextMost M_rowMany M_refused M_setting M_hole M_pipeAt M_chance M_weight M_tape M_letter M_letterAt M_told (upd M_kept M_cursor.toNatClampNeg (M_setting x2.toNatClampNeg)) M_then M_row)) H := hP
        refine lv_iinc (v := x2 + (1 : Int32)) (lv' := [(2, .int (x2 + (1 : Int32))), (0, .ref (a_M 0)), (1, .ref (a_M 2))]) hx hb dX5_passes_52 hl (k := 2) rfl (by rfl) (by decide) rfl (fun ls hl => ?_)
        refine lv_goto (tgt := 2) hx hb dX5_passes_55 (by decide) ?_
        exact ih (x2 + (1 : Int32)) (M_cursor + (1 : Int32)) M_setting (upd M_kept M_cursor.toNatClampNeg (M_setting x2.toNatClampNeg)) _ _ _ h hP hS (lv_sub hl [1, 2, 0] rfl)
def wpX5_passes_M2 (post : Int32 → (Nat → Int32) → (Nat → Int32) → Prop) (M_isKeeping : Int32) (M_cursor : Int32) (M_setting : Nat → Int32) (M_kept : Nat → Int32) : Prop := ∃ n_1 : Nat, lpX5_passes_M2_2 (fun (x2_2 : Int32) (M_cursor_3 : Int32) (M_setting_4 : Nat → Int32) (M_kept_5 : Nat → Int32) => post M_cursor_3 M_setting_4 M_kept_5) M_isKeeping n_1 (0 : Int32) M_cursor M_setting M_kept
set_option maxHeartbeats 4000000 in
set_option maxRecDepth 100000 in
theorem mX5_passes_M2 (l : Launch) (D : va_G) (cI cJ cC : ClassId) (G : Nat → Nat → Nat) (a_M : Nat → Nat) (sz : Nat) (M_pipes : Int32) (M_used : Int32) (M_taped : Int32) (M_at : Int32) (M_statements : Int32) (M_hasImage : Int32) (M_isKeeping : Int32) (M_cursor : Int32) (M_nextAt : Int32) (M_nextMost : Int64) (M_rowMany : Int32) (M_refused : Nat → Int32) (M_setting : Nat → Int32) (M_hole : Nat → Int32) (M_pipeAt : Nat → Int32) (M_chance : Nat → Int32) (M_weight : Nat → Int32) (M_tape : Nat → Int32) (M_letter : Nat → Int32) (M_letterAt : Nat → Int32) (M_told : Nat → Int32) (M_kept : Nat → Int32) (M_then : Nat → Int64) (M_row : Nat → Int32) (post : Int32 → (Nat → Int32) → (Nat → Int32) → Prop) (h : wpX5_passes_M2 post M_isKeeping M_cursor M_setting M_kept) : Met l yX5_passes (wz yX5_passes cX5_passes 3 none) ({ frames := 0, cells := 0, slots := 0, locals := 0 }) (va_Pc [.ref (a_M 0), .ref (a_M 2)] (PW D (tz cI cJ cC) G ((bX5 cI cJ cC a_M M_pipes M_used M_taped M_at M_statements M_hasImage M_isKeeping M_cursor M_nextAt M_nextMost M_rowMany M_refused M_setting M_hole M_pipeAt M_chance M_weight M_tape M_letter M_letterAt M_told M_kept M_then M_row)) sz)) (va_Qv (fun (u : Int32 × (Nat → Int32) × (Nat → Int32)) => post u.1 u.2.1 u.2.2) (fun (u : Int32 × (Nat → Int32) × (Nat → Int32)) t => va_P D vwCl ((bX5 cI cJ cC a_M M_pipes M_used M_taped M_at M_statements M_hasImage M_isKeeping u.1 M_nextAt M_nextMost M_rowMany M_refused u.2.1 M_hole M_pipeAt M_chance M_weight M_tape M_letter M_letterAt M_told u.2.2 M_then M_row)) t.heap) (va_A ((bX5 cI cJ cC a_M M_pipes M_used M_taped M_at M_statements M_hasImage M_isKeeping M_cursor M_nextAt M_nextMost M_rowMany M_refused M_setting M_hole M_pipeAt M_chance M_weight M_tape M_letter M_letterAt M_told M_kept M_then M_row)) sz)) 0 0 (va_A ((bX5 cI cJ cC a_M M_pipes M_used M_taped M_at M_statements M_hasImage M_isKeeping M_cursor M_nextAt M_nextMost M_rowMany M_refused M_setting M_hole M_pipeAt M_chance M_weight M_tape M_letter M_letterAt M_told M_kept M_then M_row)) sz) := by
  refine zmv (gw := fun (u : Int32 × (Nat → Int32) × (Nat → Int32)) => (bX5 cI cJ cC a_M M_pipes M_used M_taped M_at M_statements M_hasImage M_isKeeping u.1 M_nextAt M_nextMost M_rowMany M_refused u.2.1 M_hole M_pipeAt M_chance M_weight M_tape M_letter M_letterAt M_told u.2.2 M_then M_row)) (plainFor_of_name (by decide)) (Nat.le_of_ble_eq_true rfl) ?_
  intro p e s m below meth c A Q ls S hK hD hA hE hP hl hret
  obtain ⟨hx, hb, hml, hown, ht⟩ := id S
  have hS : va_S A s.heap s.heap [] := va_S.rf
  have hDD : ∀ ws : va_W, ws.map (fun q => q.1) = [a_M 0, a_M 1, a_M 2, a_M 3, a_M 4, a_M 5, a_M 6, a_M 7, a_M 8, a_M 9, a_M 10, a_M 11, a_M 12, a_M 13] → va_D A ws := fun ws hw => zD hD (hw.trans rfl)
  have hl : lv_has ls 3 [(0, .ref (a_M 0)), (1, .ref (a_M 2))] := hl
  unfold wpX5_passes_M2 at h
  refine lv_iconst (v := (0 : Int32)) hx hb dX5_passes_0 (by decide) ?_
  refine lv_istore_n (lv' := [(2, .int (0 : Int32)), (0, .ref (a_M 0)), (1, .ref (a_M 2))]) hx hb dX5_passes_1 rfl hl (by decide) rfl (fun ls hl => ?_)
  obtain ⟨n_1, h⟩ := h
  refine wX5_passes_M2_2 l D cI cJ cC G a_M M_pipes M_used M_taped M_at M_statements M_hasImage M_isKeeping M_nextAt M_nextMost M_rowMany M_refused M_hole M_pipeAt M_chance M_weight M_tape M_letter M_letterAt M_told M_then M_row _ S hK hDD hA hE (fun x2_2 M_cursor_3 M_setting_4 M_kept_5 H locs ls h hP hS hl => ?_) n_1 (0 : Int32) M_cursor M_setting M_kept _ _ _ h hP hS (lv_sub hl [1, 2, 0] rfl)
  try dsimp only at h
  exact hret (M_cursor_3, M_setting_4, M_kept_5) _ _ _ _ h hP hS dX5_passes_58
def lpX5_passes_M3_2 (K : Int32 → Int32 → (Nat → Int32) → (Nat → Int32) → Prop) (M_isKeeping : Int32) : Nat → Int32 → Int32 → (Nat → Int32) → (Nat → Int32) → Prop
  | 0, _, _, _, _ => False
  | n + 1, x2, M_cursor, M_hole, M_kept => (((48 : Int32) ≤ x2 → (K x2 M_cursor M_hole M_kept)) ∧ (¬ ((48 : Int32) ≤ x2) → (((M_isKeeping = (0 : Int32) → (vp_in M_cursor 200 ∧ (vp_in x2 48 ∧ (lpX5_passes_M3_2 K M_isKeeping n (x2 + (1 : Int32)) (M_cursor + (1 : Int32)) (upd M_hole x2.toNatClampNeg (M_kept M_cursor.toNatClampNeg)) M_kept)))) ∧ (¬ (M_isKeeping = (0 : Int32)) → (vp_in x2 48 ∧ (vp_in M_cursor 200 ∧ (lpX5_passes_M3_2 K M_isKeeping n (x2 + (1 : Int32)) (M_cursor + (1 : Int32)) M_hole (upd M_kept M_cursor.toNatClampNeg (M_hole x2.toNatClampNeg))))))))))
set_option maxHeartbeats 4000000 in
set_option maxRecDepth 100000 in
theorem wX5_passes_M3_2 (l : Launch) (D : va_G) (cI cJ cC : ClassId) (G : Nat → Nat → Nat) (a_M : Nat → Nat) {p : Program} {e : Env} {s : State} {m : MethodId} {below : List Frame} {meth : Method} {c : Code} {A : Nat → Prop} {Q : State → Prop} (M_pipes : Int32) (M_used : Int32) (M_taped : Int32) (M_at : Int32) (M_statements : Int32) (M_hasImage : Int32) (M_isKeeping : Int32) (M_nextAt : Int32) (M_nextMost : Int64) (M_rowMany : Int32) (M_refused : Nat → Int32) (M_setting : Nat → Int32) (M_pipeAt : Nat → Int32) (M_chance : Nat → Int32) (M_weight : Nat → Int32) (M_tape : Nat → Int32) (M_letter : Nat → Int32) (M_letterAt : Nat → Int32) (M_told : Nat → Int32) (M_then : Nat → Int64) (M_row : Nat → Int32) (K : Int32 → Int32 → (Nat → Int32) → (Nat → Int32) → Prop) (S : CallFix p m c cX5_passes 3 s ([.ref (a_M 0), .ref (a_M 3)] : List Value).toArray bg RX5) (hK : va_K D vwCl (tz cI cJ cC) s) (hDD : ∀ ws : va_W, ws.map (fun q => q.1) = [a_M 0, a_M 1, a_M 2, a_M 3, a_M 4, a_M 5, a_M 6, a_M 7, a_M 8, a_M 9, a_M 10, a_M 11, a_M 12, a_M 13] → va_D A ws) (hA : ∀ q, s.heap.size ≤ q → A q) (hE : EV G A s) (hKK : ∀ (x2 : Int32) (M_cursor : Int32) (M_hole : Nat → Int32) (M_kept : Nat → Int32) (H : Heap) (locs : List Loc) (ls : Array Slot), K x2 M_cursor M_hole M_kept → va_P D vwCl ((bX5 cI cJ cC a_M M_pipes M_used M_taped M_at M_statements M_hasImage M_isKeeping M_cursor M_nextAt M_nextMost M_rowMany M_refused M_setting M_hole M_pipeAt M_chance M_weight M_tape M_letter M_letterAt M_told M_kept M_then M_row)) H → va_S A s.heap H locs → lv_has ls 3 [] → W p l e ({ frames := 0, cells := 0, slots := 0, locals := 0 }) s m ([.ref (a_M 0), .ref (a_M 3)] : List Value).toArray below meth c H locs 0 0 Q (F0 m 58 ls [])) :
    ∀ (n : Nat) (x2 : Int32) (M_cursor : Int32) (M_hole : Nat → Int32) (M_kept : Nat → Int32) (H : Heap) (locs : List Loc) (ls : Array Slot), lpX5_passes_M3_2 K M_isKeeping n x2 M_cursor M_hole M_kept → va_P D vwCl ((bX5 cI cJ cC a_M M_pipes M_used M_taped M_at M_statements M_hasImage M_isKeeping M_cursor M_nextAt M_nextMost M_rowMany M_refused M_setting M_hole M_pipeAt M_chance M_weight M_tape M_letter M_letterAt M_told M_kept M_then M_row)) H → va_S A s.heap H locs → lv_has ls 3 [(0, .ref (a_M 0)), (1, .ref (a_M 3)), (2, .int x2)] → W p l e ({ frames := 0, cells := 0, slots := 0, locals := 0 }) s m ([.ref (a_M 0), .ref (a_M 3)] : List Value).toArray below meth c H locs 0 0 Q (F0 m 2 ls []) := by
  obtain ⟨hx, hb, hml, hown, ht⟩ := id S
  intro n
  induction n with
  | zero =>
    intro x2 M_cursor M_hole M_kept H locs ls h
    exact absurd h (by simp [lpX5_passes_M3_2])
  | succ n ih =>
    intro x2 M_cursor M_hole M_kept H locs ls h hP hS hl
    rw [lpX5_passes_M3_2] at h
    refine lv_iload_n hx hb dX5_passes_2 rfl (lv_at hl 2 rfl) ?_
    refine lv_aload_n hx hb dX5_passes_3 rfl (lv_at hl 1 rfl) ?_
    refine va_alen hx hb hK hP 3 0 rfl rfl (v := (48 : Int32)) rfl dX5_passes_4 ?_
    refine lv_icmp_ge (tgt := 58) hx hb dX5_passes_5 (by decide) (fun z => ?_) (fun z => ?_)
    · replace h := h.1 z
      exact hKK x2 M_cursor M_hole M_kept _ _ _ h hP hS (lv_sub hl [] rfl)
    · replace h := h.2 z
      refine lv_aload_n hx hb dX5_passes_8 rfl (lv_at hl 0 rfl) ?_
      refine va_get (D := D) (ci := 5) (v := .int M_isKeeping) (C := RX5) (T := TX5) (N := 24) hx hb ht inX5 hown hK hP 0 rfl rfl 17 (by decide) (ht _ fl_X5_145) (fun _ h9 => h9) rfl dX5_passes_9 ?_
      refine lv_if_eq (tgt := 30) hx hb dX5_passes_12 (by decide) (fun z => ?_) (fun z => ?_)
      · replace h := h.1 z
        refine lv_aload_n hx hb dX5_passes_30 rfl (lv_at hl 1 rfl) ?_
        refine lv_iload_n hx hb dX5_passes_31 rfl (lv_at hl 2 rfl) ?_
        refine lv_aload_n hx hb dX5_passes_32 rfl (lv_at hl 0 rfl) ?_
        refine va_get (D := D) (ci := 5) (v := .ref (a_M 11)) (C := RX5) (T := TX5) (N := 24) hx hb ht inX5 hown hK hP 0 rfl rfl 15 (by decide) (ht _ fl_X5_40) (fun _ h9 => h9) rfl dX5_passes_33 ?_
        refine lv_aload_n hx hb dX5_passes_36 rfl (lv_at hl 0 rfl) ?_
        refine va_get (D := D) (ci := 5) (v := .int M_cursor) (C := RX5) (T := TX5) (N := 24) hx hb ht inX5 hown hK hP 0 rfl rfl 18 (by decide) (ht _ fl_X5_149) (fun _ h9 => h9) rfl dX5_passes_37 ?_
        obtain ⟨hin, h⟩ := h
        refine va_iald hx hb hK hP 11 0 rfl rfl hin dX5_passes_40 ?_
        obtain ⟨hin, h⟩ := h
        refine va_iast hx hb hK hP (hDD _ rfl) hS 3 0 rfl rfl hin dX5_passes_41 (fun H locs hP _ hS => ?_)
        have hP : va_P D vwCl ((bX5 cI cJ cC a_M M_pipes M_used M_taped M_at M_statements M_hasImage M_isKeeping M_cursor M_nextAt M_nextMost M_rowMany M_refused M_setting (upd M_hole x2.toNatClampNeg (M_kept M_cursor.toNatClampNeg)) M_pipeAt M_chance M_weight M_tape M_letter M_letterAt M_told M_kept M_then M_row)) H := hP
        refine lv_aload_n hx hb dX5_passes_42 rfl (lv_at hl 0 rfl) ?_
        refine lv_dup hx hb dX5_passes_43 rfl ?_
        refine va_get (D := D) (ci := 5) (v := .int M_cursor) (C := RX5) (T := TX5) (N := 24) hx hb ht inX5 hown hK hP 0 rfl rfl 18 (by decide) (ht _ fl_X5_149) (fun _ h9 => h9) rfl dX5_passes_44 ?_
        refine lv_iconst (v := (1 : Int32)) hx hb dX5_passes_47 (by decide) ?_
        refine lv_iadd hx hb dX5_passes_48 ?_
        refine va_put (D := D) (ci := 5) (v := .int (M_cursor + (1 : Int32))) (ty := .int) (C := RX5) (T := TX5) (N := 24) hx hb ht inX5 tyX5 tyX5_ok nmX5 hown hK hP (hDD _ rfl) hS 0 rfl rfl 18 (by decide) (ht _ fl_X5_149) (fun _ h9 => h9) rfl (by decide +kernel) rfl rfl (Nat.le_of_ble_eq_true rfl) dX5_passes_49 (fun H locs hP _ hS => ?_)
        have hP : va_P D vwCl ((bX5 cI cJ cC a_M M_pipes M_used M_taped M_at M_statements M_hasImage M_isKeeping (M_cursor + (1 : Int32)) M_nextAt M_nextMost M_rowMany M_refused M_setting (upd M_hole x2.toNatClampNeg (M_kept M_cursor.toNatClampNeg)) M_pipeAt M_chance M_weight M_tape M_letter M_letterAt M_told M_kept M_then M_row)) H := hP
        refine lv_iinc (v := x2 + (1 : Int32)) (lv' := [(2, .int (x2 + (1 : Int32))), (0, .ref (a_M 0)), (1, .ref (a_M 3))]) hx hb dX5_passes_52 hl (k := 2) rfl (by rfl) (by decide) rfl (fun ls hl => ?_)
        refine lv_goto (tgt := 2) hx hb dX5_passes_55 (by decide) ?_
        exact ih (x2 + (1 : Int32)) (M_cursor + (1 : Int32)) (upd M_hole x2.toNatClampNeg (M_kept M_cursor.toNatClampNeg)) M_kept _ _ _ h hP hS (lv_sub hl [1, 2, 0] rfl)
      · replace h := h.2 z
        refine lv_aload_n hx hb dX5_passes_15 rfl (lv_at hl 0 rfl) ?_
        refine va_get (D := D) (ci := 5) (v := .ref (a_M 11)) (C := RX5) (T := TX5) (N := 24) hx hb ht inX5 hown hK hP 0 rfl rfl 15 (by decide) (ht _ fl_X5_40) (fun _ h9 => h9) rfl dX5_passes_16 ?_
        refine lv_aload_n hx hb dX5_passes_19 rfl (lv_at hl 0 rfl) ?_
        refine va_get (D := D) (ci := 5) (v := .int M_cursor) (C := RX5) (T := TX5) (N := 24) hx hb ht inX5 hown hK hP 0 rfl rfl 18 (by decide) (ht _ fl_X5_149) (fun _ h9 => h9) rfl dX5_passes_20 ?_
        refine lv_aload_n hx hb dX5_passes_23 rfl (lv_at hl 1 rfl) ?_
        refine lv_iload_n hx hb dX5_passes_24 rfl (lv_at hl 2 rfl) ?_
        obtain ⟨hin, h⟩ := h
        refine va_iald hx hb hK hP 3 0 rfl rfl hin dX5_passes_25 ?_
        obtain ⟨hin, h⟩ := h
        refine va_iast hx hb hK hP (hDD _ rfl) hS 11 0 rfl rfl hin dX5_passes_26 (fun H locs hP _ hS => ?_)
        have hP : va_P D vwCl ((bX5 cI cJ cC a_M M_pipes M_used M_taped M_at M_statements M_hasImage M_isKeeping M_cursor M_nextAt M_nextMost M_rowMany M_refused M_setting M_hole M_pipeAt M_chance M_weight M_tape M_letter M_letterAt M_told (upd M_kept M_cursor.toNatClampNeg (M_hole x2.toNatClampNeg)) M_then M_row)) H := hP
        refine lv_goto (tgt := 42) hx hb dX5_passes_27 (by decide) ?_
        refine lv_aload_n hx hb dX5_passes_42 rfl (lv_at hl 0 rfl) ?_
        refine lv_dup hx hb dX5_passes_43 rfl ?_
        refine va_get (D := D) (ci := 5) (v := .int M_cursor) (C := RX5) (T := TX5) (N := 24) hx hb ht inX5 hown hK hP 0 rfl rfl 18 (by decide) (ht _ fl_X5_149) (fun _ h9 => h9) rfl dX5_passes_44 ?_
        refine lv_iconst (v := (1 : Int32)) hx hb dX5_passes_47 (by decide) ?_
        refine lv_iadd hx hb dX5_passes_48 ?_
        refine va_put (D := D) (ci := 5) (v := .int (M_cursor + (1 : Int32))) (ty := .int) (C := RX5) (T := TX5) (N := 24) hx hb ht inX5 tyX5 tyX5_ok nmX5 hown hK hP (hDD _ rfl) hS 0 rfl rfl 18 (by decide) (ht _ fl_X5_149) (fun _ h9 => h9) rfl (by decide +kernel) rfl rfl (Nat.le_of_ble_eq_true rfl) dX5_passes_49 (fun H locs hP _ hS => ?_)
        have hP : va_P D vwCl ((bX5 cI cJ cC a_M M_pipes M_used M_taped M_at M_statements M_hasImage M_isKeeping (M_cursor + (1 : Int32)) M_nextAt M_nextMost M_rowMany M_refused M_setting M_hole M_pipeAt M_chance M_weight M_tape M_letter M_letterAt M_told (upd M_kept M_cursor.toNatClampNeg (M_hole x2.toNatClampNeg)) M_then M_row)) H := hP
        refine lv_iinc (v := x2 + (1 : Int32)) (lv' := [(2, .int (x2 + (1 : Int32))), (0, .ref (a_M 0)), (1, .ref (a_M 3))]) hx hb dX5_passes_52 hl (k := 2) rfl (by rfl) (by decide) rfl (fun ls hl => ?_)
        refine lv_goto (tgt := 2) hx hb dX5_passes_55 (by decide) ?_
        exact ih (x2 + (1 : Int32)) (M_cursor + (1 : Int32)) M_hole (upd M_kept M_cursor.toNatClampNeg (M_hole x2.toNatClampNeg)) _ _ _ h hP hS (lv_sub hl [1, 2, 0] rfl)
def wpX5_passes_M3 (post : Int32 → (Nat → Int32) → (Nat → Int32) → Prop) (M_isKeeping : Int32) (M_cursor : Int32) (M_hole : Nat → Int32) (M_kept : Nat → Int32) : Prop := ∃ n_1 : Nat, lpX5_passes_M3_2 (fun (x2_2 : Int32) (M_cursor_3 : Int32) (M_hole_4 : Nat → Int32) (M_kept_5 : Nat → Int32) => post M_cursor_3 M_hole_4 M_kept_5) M_isKeeping n_1 (0 : Int32) M_cursor M_hole M_kept
set_option maxHeartbeats 4000000 in
set_option maxRecDepth 100000 in
theorem mX5_passes_M3 (l : Launch) (D : va_G) (cI cJ cC : ClassId) (G : Nat → Nat → Nat) (a_M : Nat → Nat) (sz : Nat) (M_pipes : Int32) (M_used : Int32) (M_taped : Int32) (M_at : Int32) (M_statements : Int32) (M_hasImage : Int32) (M_isKeeping : Int32) (M_cursor : Int32) (M_nextAt : Int32) (M_nextMost : Int64) (M_rowMany : Int32) (M_refused : Nat → Int32) (M_setting : Nat → Int32) (M_hole : Nat → Int32) (M_pipeAt : Nat → Int32) (M_chance : Nat → Int32) (M_weight : Nat → Int32) (M_tape : Nat → Int32) (M_letter : Nat → Int32) (M_letterAt : Nat → Int32) (M_told : Nat → Int32) (M_kept : Nat → Int32) (M_then : Nat → Int64) (M_row : Nat → Int32) (post : Int32 → (Nat → Int32) → (Nat → Int32) → Prop) (h : wpX5_passes_M3 post M_isKeeping M_cursor M_hole M_kept) : Met l yX5_passes (wz yX5_passes cX5_passes 3 none) ({ frames := 0, cells := 0, slots := 0, locals := 0 }) (va_Pc [.ref (a_M 0), .ref (a_M 3)] (PW D (tz cI cJ cC) G ((bX5 cI cJ cC a_M M_pipes M_used M_taped M_at M_statements M_hasImage M_isKeeping M_cursor M_nextAt M_nextMost M_rowMany M_refused M_setting M_hole M_pipeAt M_chance M_weight M_tape M_letter M_letterAt M_told M_kept M_then M_row)) sz)) (va_Qv (fun (u : Int32 × (Nat → Int32) × (Nat → Int32)) => post u.1 u.2.1 u.2.2) (fun (u : Int32 × (Nat → Int32) × (Nat → Int32)) t => va_P D vwCl ((bX5 cI cJ cC a_M M_pipes M_used M_taped M_at M_statements M_hasImage M_isKeeping u.1 M_nextAt M_nextMost M_rowMany M_refused M_setting u.2.1 M_pipeAt M_chance M_weight M_tape M_letter M_letterAt M_told u.2.2 M_then M_row)) t.heap) (va_A ((bX5 cI cJ cC a_M M_pipes M_used M_taped M_at M_statements M_hasImage M_isKeeping M_cursor M_nextAt M_nextMost M_rowMany M_refused M_setting M_hole M_pipeAt M_chance M_weight M_tape M_letter M_letterAt M_told M_kept M_then M_row)) sz)) 0 0 (va_A ((bX5 cI cJ cC a_M M_pipes M_used M_taped M_at M_statements M_hasImage M_isKeeping M_cursor M_nextAt M_nextMost M_rowMany M_refused M_setting M_hole M_pipeAt M_chance M_weight M_tape M_letter M_letterAt M_told M_kept M_then M_row)) sz) := by
  refine zmv (gw := fun (u : Int32 × (Nat → Int32) × (Nat → Int32)) => (bX5 cI cJ cC a_M M_pipes M_used M_taped M_at M_statements M_hasImage M_isKeeping u.1 M_nextAt M_nextMost M_rowMany M_refused M_setting u.2.1 M_pipeAt M_chance M_weight M_tape M_letter M_letterAt M_told u.2.2 M_then M_row)) (plainFor_of_name (by decide)) (Nat.le_of_ble_eq_true rfl) ?_
  intro p e s m below meth c A Q ls S hK hD hA hE hP hl hret
  obtain ⟨hx, hb, hml, hown, ht⟩ := id S
  have hS : va_S A s.heap s.heap [] := va_S.rf
  have hDD : ∀ ws : va_W, ws.map (fun q => q.1) = [a_M 0, a_M 1, a_M 2, a_M 3, a_M 4, a_M 5, a_M 6, a_M 7, a_M 8, a_M 9, a_M 10, a_M 11, a_M 12, a_M 13] → va_D A ws := fun ws hw => zD hD (hw.trans rfl)
  have hl : lv_has ls 3 [(0, .ref (a_M 0)), (1, .ref (a_M 3))] := hl
  unfold wpX5_passes_M3 at h
  refine lv_iconst (v := (0 : Int32)) hx hb dX5_passes_0 (by decide) ?_
  refine lv_istore_n (lv' := [(2, .int (0 : Int32)), (0, .ref (a_M 0)), (1, .ref (a_M 3))]) hx hb dX5_passes_1 rfl hl (by decide) rfl (fun ls hl => ?_)
  obtain ⟨n_1, h⟩ := h
  refine wX5_passes_M3_2 l D cI cJ cC G a_M M_pipes M_used M_taped M_at M_statements M_hasImage M_isKeeping M_nextAt M_nextMost M_rowMany M_refused M_setting M_pipeAt M_chance M_weight M_tape M_letter M_letterAt M_told M_then M_row _ S hK hDD hA hE (fun x2_2 M_cursor_3 M_hole_4 M_kept_5 H locs ls h hP hS hl => ?_) n_1 (0 : Int32) M_cursor M_hole M_kept _ _ _ h hP hS (lv_sub hl [1, 2, 0] rfl)
  try dsimp only at h
  exact hret (M_cursor_3, M_hole_4, M_kept_5) _ _ _ _ h hP hS dX5_passes_58
def lpX5_passes_M4_2 (K : Int32 → Int32 → (Nat → Int32) → (Nat → Int32) → Prop) (M_isKeeping : Int32) : Nat → Int32 → Int32 → (Nat → Int32) → (Nat → Int32) → Prop
  | 0, _, _, _, _ => False
  | n + 1, x2, M_cursor, M_pipeAt, M_kept => (((6 : Int32) ≤ x2 → (K x2 M_cursor M_pipeAt M_kept)) ∧ (¬ ((6 : Int32) ≤ x2) → (((M_isKeeping = (0 : Int32) → (vp_in M_cursor 200 ∧ (vp_in x2 6 ∧ (lpX5_passes_M4_2 K M_isKeeping n (x2 + (1 : Int32)) (M_cursor + (1 : Int32)) (upd M_pipeAt x2.toNatClampNeg (M_kept M_cursor.toNatClampNeg)) M_kept)))) ∧ (¬ (M_isKeeping = (0 : Int32)) → (vp_in x2 6 ∧ (vp_in M_cursor 200 ∧ (lpX5_passes_M4_2 K M_isKeeping n (x2 + (1 : Int32)) (M_cursor + (1 : Int32)) M_pipeAt (upd M_kept M_cursor.toNatClampNeg (M_pipeAt x2.toNatClampNeg))))))))))
set_option maxHeartbeats 4000000 in
set_option maxRecDepth 100000 in
theorem wX5_passes_M4_2 (l : Launch) (D : va_G) (cI cJ cC : ClassId) (G : Nat → Nat → Nat) (a_M : Nat → Nat) {p : Program} {e : Env} {s : State} {m : MethodId} {below : List Frame} {meth : Method} {c : Code} {A : Nat → Prop} {Q : State → Prop} (M_pipes : Int32) (M_used : Int32) (M_taped : Int32) (M_at : Int32) (M_statements : Int32) (M_hasImage : Int32) (M_isKeeping : Int32) (M_nextAt : Int32) (M_nextMost : Int64) (M_rowMany : Int32) (M_refused : Nat → Int32) (M_setting : Nat → Int32) (M_hole : Nat → Int32) (M_chance : Nat → Int32) (M_weight : Nat → Int32) (M_tape : Nat → Int32) (M_letter : Nat → Int32) (M_letterAt : Nat → Int32) (M_told : Nat → Int32) (M_then : Nat → Int64) (M_row : Nat → Int32) (K : Int32 → Int32 → (Nat → Int32) → (Nat → Int32) → Prop) (S : CallFix p m c cX5_passes 3 s ([.ref (a_M 0), .ref (a_M 4)] : List Value).toArray bg RX5) (hK : va_K D vwCl (tz cI cJ cC) s) (hDD : ∀ ws : va_W, ws.map (fun q => q.1) = [a_M 0, a_M 1, a_M 2, a_M 3, a_M 4, a_M 5, a_M 6, a_M 7, a_M 8, a_M 9, a_M 10, a_M 11, a_M 12, a_M 13] → va_D A ws) (hA : ∀ q, s.heap.size ≤ q → A q) (hE : EV G A s) (hKK : ∀ (x2 : Int32) (M_cursor : Int32) (M_pipeAt : Nat → Int32) (M_kept : Nat → Int32) (H : Heap) (locs : List Loc) (ls : Array Slot), K x2 M_cursor M_pipeAt M_kept → va_P D vwCl ((bX5 cI cJ cC a_M M_pipes M_used M_taped M_at M_statements M_hasImage M_isKeeping M_cursor M_nextAt M_nextMost M_rowMany M_refused M_setting M_hole M_pipeAt M_chance M_weight M_tape M_letter M_letterAt M_told M_kept M_then M_row)) H → va_S A s.heap H locs → lv_has ls 3 [] → W p l e ({ frames := 0, cells := 0, slots := 0, locals := 0 }) s m ([.ref (a_M 0), .ref (a_M 4)] : List Value).toArray below meth c H locs 0 0 Q (F0 m 58 ls [])) :
    ∀ (n : Nat) (x2 : Int32) (M_cursor : Int32) (M_pipeAt : Nat → Int32) (M_kept : Nat → Int32) (H : Heap) (locs : List Loc) (ls : Array Slot), lpX5_passes_M4_2 K M_isKeeping n x2 M_cursor M_pipeAt M_kept → va_P D vwCl ((bX5 cI cJ cC a_M M_pipes M_used M_taped M_at M_statements M_hasImage M_isKeeping M_cursor M_nextAt M_nextMost M_rowMany M_refused M_setting M_hole M_pipeAt M_chance M_weight M_tape M_letter M_letterAt M_told M_kept M_then M_row)) H → va_S A s.heap H locs → lv_has ls 3 [(0, .ref (a_M 0)), (1, .ref (a_M 4)), (2, .int x2)] → W p l e ({ frames := 0, cells := 0, slots := 0, locals := 0 }) s m ([.ref (a_M 0), .ref (a_M 4)] : List Value).toArray below meth c H locs 0 0 Q (F0 m 2 ls []) := by
  obtain ⟨hx, hb, hml, hown, ht⟩ := id S
  intro n
  induction n with
  | zero =>
    intro x2 M_cursor M_pipeAt M_kept H locs ls h
    exact absurd h (by simp [lpX5_passes_M4_2])
  | succ n ih =>
    intro x2 M_cursor M_pipeAt M_kept H locs ls h hP hS hl
    rw [lpX5_passes_M4_2] at h
    refine lv_iload_n hx hb dX5_passes_2 rfl (lv_at hl 2 rfl) ?_
    refine lv_aload_n hx hb dX5_passes_3 rfl (lv_at hl 1 rfl) ?_
    refine va_alen hx hb hK hP 4 0 rfl rfl (v := (6 : Int32)) rfl dX5_passes_4 ?_
    refine lv_icmp_ge (tgt := 58) hx hb dX5_passes_5 (by decide) (fun z => ?_) (fun z => ?_)
    · replace h := h.1 z
      exact hKK x2 M_cursor M_pipeAt M_kept _ _ _ h hP hS (lv_sub hl [] rfl)
    · replace h := h.2 z
      refine lv_aload_n hx hb dX5_passes_8 rfl (lv_at hl 0 rfl) ?_
      refine va_get (D := D) (ci := 5) (v := .int M_isKeeping) (C := RX5) (T := TX5) (N := 24) hx hb ht inX5 hown hK hP 0 rfl rfl 17 (by decide) (ht _ fl_X5_145) (fun _ h9 => h9) rfl dX5_passes_9 ?_
      refine lv_if_eq (tgt := 30) hx hb dX5_passes_12 (by decide) (fun z => ?_) (fun z => ?_)
      · replace h := h.1 z
        refine lv_aload_n hx hb dX5_passes_30 rfl (lv_at hl 1 rfl) ?_
        refine lv_iload_n hx hb dX5_passes_31 rfl (lv_at hl 2 rfl) ?_
        refine lv_aload_n hx hb dX5_passes_32 rfl (lv_at hl 0 rfl) ?_
        refine va_get (D := D) (ci := 5) (v := .ref (a_M 11)) (C := RX5) (T := TX5) (N := 24) hx hb ht inX5 hown hK hP 0 rfl rfl 15 (by decide) (ht _ fl_X5_40) (fun _ h9 => h9) rfl dX5_passes_33 ?_
        refine lv_aload_n hx hb dX5_passes_36 rfl (lv_at hl 0 rfl) ?_
        refine va_get (D := D) (ci := 5) (v := .int M_cursor) (C := RX5) (T := TX5) (N := 24) hx hb ht inX5 hown hK hP 0 rfl rfl 18 (by decide) (ht _ fl_X5_149) (fun _ h9 => h9) rfl dX5_passes_37 ?_
        obtain ⟨hin, h⟩ := h
        refine va_iald hx hb hK hP 11 0 rfl rfl hin dX5_passes_40 ?_
        obtain ⟨hin, h⟩ := h
        refine va_iast hx hb hK hP (hDD _ rfl) hS 4 0 rfl rfl hin dX5_passes_41 (fun H locs hP _ hS => ?_)
        have hP : va_P D vwCl ((bX5 cI cJ cC a_M M_pipes M_used M_taped M_at M_statements M_hasImage M_isKeeping M_cursor M_nextAt M_nextMost M_rowMany M_refused M_setting M_hole (upd M_pipeAt x2.toNatClampNeg (M_kept M_cursor.toNatClampNeg)) M_chance M_weight M_tape M_letter M_letterAt M_told M_kept M_then M_row)) H := hP
        refine lv_aload_n hx hb dX5_passes_42 rfl (lv_at hl 0 rfl) ?_
        refine lv_dup hx hb dX5_passes_43 rfl ?_
        refine va_get (D := D) (ci := 5) (v := .int M_cursor) (C := RX5) (T := TX5) (N := 24) hx hb ht inX5 hown hK hP 0 rfl rfl 18 (by decide) (ht _ fl_X5_149) (fun _ h9 => h9) rfl dX5_passes_44 ?_
        refine lv_iconst (v := (1 : Int32)) hx hb dX5_passes_47 (by decide) ?_
        refine lv_iadd hx hb dX5_passes_48 ?_
        refine va_put (D := D) (ci := 5) (v := .int (M_cursor + (1 : Int32))) (ty := .int) (C := RX5) (T := TX5) (N := 24) hx hb ht inX5 tyX5 tyX5_ok nmX5 hown hK hP (hDD _ rfl) hS 0 rfl rfl 18 (by decide) (ht _ fl_X5_149) (fun _ h9 => h9) rfl (by decide +kernel) rfl rfl (Nat.le_of_ble_eq_true rfl) dX5_passes_49 (fun H locs hP _ hS => ?_)
        have hP : va_P D vwCl ((bX5 cI cJ cC a_M M_pipes M_used M_taped M_at M_statements M_hasImage M_isKeeping (M_cursor + (1 : Int32)) M_nextAt M_nextMost M_rowMany M_refused M_setting M_hole (upd M_pipeAt x2.toNatClampNeg (M_kept M_cursor.toNatClampNeg)) M_chance M_weight M_tape M_letter M_letterAt M_told M_kept M_then M_row)) H := hP
        refine lv_iinc (v := x2 + (1 : Int32)) (lv' := [(2, .int (x2 + (1 : Int32))), (0, .ref (a_M 0)), (1, .ref (a_M 4))]) hx hb dX5_passes_52 hl (k := 2) rfl (by rfl) (by decide) rfl (fun ls hl => ?_)
        refine lv_goto (tgt := 2) hx hb dX5_passes_55 (by decide) ?_
        exact ih (x2 + (1 : Int32)) (M_cursor + (1 : Int32)) (upd M_pipeAt x2.toNatClampNeg (M_kept M_cursor.toNatClampNeg)) M_kept _ _ _ h hP hS (lv_sub hl [1, 2, 0] rfl)
      · replace h := h.2 z
        refine lv_aload_n hx hb dX5_passes_15 rfl (lv_at hl 0 rfl) ?_
        refine va_get (D := D) (ci := 5) (v := .ref (a_M 11)) (C := RX5) (T := TX5) (N := 24) hx hb ht inX5 hown hK hP 0 rfl rfl 15 (by decide) (ht _ fl_X5_40) (fun _ h9 => h9) rfl dX5_passes_16 ?_
        refine lv_aload_n hx hb dX5_passes_19 rfl (lv_at hl 0 rfl) ?_
        refine va_get (D := D) (ci := 5) (v := .int M_cursor) (C := RX5) (T := TX5) (N := 24) hx hb ht inX5 hown hK hP 0 rfl rfl 18 (by decide) (ht _ fl_X5_149) (fun _ h9 => h9) rfl dX5_passes_20 ?_
        refine lv_aload_n hx hb dX5_passes_23 rfl (lv_at hl 1 rfl) ?_
        refine lv_iload_n hx hb dX5_passes_24 rfl (lv_at hl 2 rfl) ?_
        obtain ⟨hin, h⟩ := h
        refine va_iald hx hb hK hP 4 0 rfl rfl hin dX5_passes_25 ?_
        obtain ⟨hin, h⟩ := h
        refine va_iast hx hb hK hP (hDD _ rfl) hS 11 0 rfl rfl hin dX5_passes_26 (fun H locs hP _ hS => ?_)
        have hP : va_P D vwCl ((bX5 cI cJ cC a_M M_pipes M_used M_taped M_at M_statements M_hasImage M_isKeeping M_cursor M_nextAt M_nextMost M_rowMany M_refused M_setting M_hole M_pipeAt M_chance M_weight M_tape M_letter M_letterAt M_told (upd M_kept M_cursor.toNatClampNeg (M_pipeAt x2.toNatClampNeg)) M_then M_row)) H := hP
        refine lv_goto (tgt := 42) hx hb dX5_passes_27 (by decide) ?_
        refine lv_aload_n hx hb dX5_passes_42 rfl (lv_at hl 0 rfl) ?_
        refine lv_dup hx hb dX5_passes_43 rfl ?_
        refine va_get (D := D) (ci := 5) (v := .int M_cursor) (C := RX5) (T := TX5) (N := 24) hx hb ht inX5 hown hK hP 0 rfl rfl 18 (by decide) (ht _ fl_X5_149) (fun _ h9 => h9) rfl dX5_passes_44 ?_
        refine lv_iconst (v := (1 : Int32)) hx hb dX5_passes_47 (by decide) ?_
        refine lv_iadd hx hb dX5_passes_48 ?_
        refine va_put (D := D) (ci := 5) (v := .int (M_cursor + (1 : Int32))) (ty := .int) (C := RX5) (T := TX5) (N := 24) hx hb ht inX5 tyX5 tyX5_ok nmX5 hown hK hP (hDD _ rfl) hS 0 rfl rfl 18 (by decide) (ht _ fl_X5_149) (fun _ h9 => h9) rfl (by decide +kernel) rfl rfl (Nat.le_of_ble_eq_true rfl) dX5_passes_49 (fun H locs hP _ hS => ?_)
        have hP : va_P D vwCl ((bX5 cI cJ cC a_M M_pipes M_used M_taped M_at M_statements M_hasImage M_isKeeping (M_cursor + (1 : Int32)) M_nextAt M_nextMost M_rowMany M_refused M_setting M_hole M_pipeAt M_chance M_weight M_tape M_letter M_letterAt M_told (upd M_kept M_cursor.toNatClampNeg (M_pipeAt x2.toNatClampNeg)) M_then M_row)) H := hP
        refine lv_iinc (v := x2 + (1 : Int32)) (lv' := [(2, .int (x2 + (1 : Int32))), (0, .ref (a_M 0)), (1, .ref (a_M 4))]) hx hb dX5_passes_52 hl (k := 2) rfl (by rfl) (by decide) rfl (fun ls hl => ?_)
        refine lv_goto (tgt := 2) hx hb dX5_passes_55 (by decide) ?_
        exact ih (x2 + (1 : Int32)) (M_cursor + (1 : Int32)) M_pipeAt (upd M_kept M_cursor.toNatClampNeg (M_pipeAt x2.toNatClampNeg)) _ _ _ h hP hS (lv_sub hl [1, 2, 0] rfl)
def wpX5_passes_M4 (post : Int32 → (Nat → Int32) → (Nat → Int32) → Prop) (M_isKeeping : Int32) (M_cursor : Int32) (M_pipeAt : Nat → Int32) (M_kept : Nat → Int32) : Prop := ∃ n_1 : Nat, lpX5_passes_M4_2 (fun (x2_2 : Int32) (M_cursor_3 : Int32) (M_pipeAt_4 : Nat → Int32) (M_kept_5 : Nat → Int32) => post M_cursor_3 M_pipeAt_4 M_kept_5) M_isKeeping n_1 (0 : Int32) M_cursor M_pipeAt M_kept
set_option maxHeartbeats 4000000 in
set_option maxRecDepth 100000 in
theorem mX5_passes_M4 (l : Launch) (D : va_G) (cI cJ cC : ClassId) (G : Nat → Nat → Nat) (a_M : Nat → Nat) (sz : Nat) (M_pipes : Int32) (M_used : Int32) (M_taped : Int32) (M_at : Int32) (M_statements : Int32) (M_hasImage : Int32) (M_isKeeping : Int32) (M_cursor : Int32) (M_nextAt : Int32) (M_nextMost : Int64) (M_rowMany : Int32) (M_refused : Nat → Int32) (M_setting : Nat → Int32) (M_hole : Nat → Int32) (M_pipeAt : Nat → Int32) (M_chance : Nat → Int32) (M_weight : Nat → Int32) (M_tape : Nat → Int32) (M_letter : Nat → Int32) (M_letterAt : Nat → Int32) (M_told : Nat → Int32) (M_kept : Nat → Int32) (M_then : Nat → Int64) (M_row : Nat → Int32) (post : Int32 → (Nat → Int32) → (Nat → Int32) → Prop) (h : wpX5_passes_M4 post M_isKeeping M_cursor M_pipeAt M_kept) : Met l yX5_passes (wz yX5_passes cX5_passes 3 none) ({ frames := 0, cells := 0, slots := 0, locals := 0 }) (va_Pc [.ref (a_M 0), .ref (a_M 4)] (PW D (tz cI cJ cC) G ((bX5 cI cJ cC a_M M_pipes M_used M_taped M_at M_statements M_hasImage M_isKeeping M_cursor M_nextAt M_nextMost M_rowMany M_refused M_setting M_hole M_pipeAt M_chance M_weight M_tape M_letter M_letterAt M_told M_kept M_then M_row)) sz)) (va_Qv (fun (u : Int32 × (Nat → Int32) × (Nat → Int32)) => post u.1 u.2.1 u.2.2) (fun (u : Int32 × (Nat → Int32) × (Nat → Int32)) t => va_P D vwCl ((bX5 cI cJ cC a_M M_pipes M_used M_taped M_at M_statements M_hasImage M_isKeeping u.1 M_nextAt M_nextMost M_rowMany M_refused M_setting M_hole u.2.1 M_chance M_weight M_tape M_letter M_letterAt M_told u.2.2 M_then M_row)) t.heap) (va_A ((bX5 cI cJ cC a_M M_pipes M_used M_taped M_at M_statements M_hasImage M_isKeeping M_cursor M_nextAt M_nextMost M_rowMany M_refused M_setting M_hole M_pipeAt M_chance M_weight M_tape M_letter M_letterAt M_told M_kept M_then M_row)) sz)) 0 0 (va_A ((bX5 cI cJ cC a_M M_pipes M_used M_taped M_at M_statements M_hasImage M_isKeeping M_cursor M_nextAt M_nextMost M_rowMany M_refused M_setting M_hole M_pipeAt M_chance M_weight M_tape M_letter M_letterAt M_told M_kept M_then M_row)) sz) := by
  refine zmv (gw := fun (u : Int32 × (Nat → Int32) × (Nat → Int32)) => (bX5 cI cJ cC a_M M_pipes M_used M_taped M_at M_statements M_hasImage M_isKeeping u.1 M_nextAt M_nextMost M_rowMany M_refused M_setting M_hole u.2.1 M_chance M_weight M_tape M_letter M_letterAt M_told u.2.2 M_then M_row)) (plainFor_of_name (by decide)) (Nat.le_of_ble_eq_true rfl) ?_
  intro p e s m below meth c A Q ls S hK hD hA hE hP hl hret
  obtain ⟨hx, hb, hml, hown, ht⟩ := id S
  have hS : va_S A s.heap s.heap [] := va_S.rf
  have hDD : ∀ ws : va_W, ws.map (fun q => q.1) = [a_M 0, a_M 1, a_M 2, a_M 3, a_M 4, a_M 5, a_M 6, a_M 7, a_M 8, a_M 9, a_M 10, a_M 11, a_M 12, a_M 13] → va_D A ws := fun ws hw => zD hD (hw.trans rfl)
  have hl : lv_has ls 3 [(0, .ref (a_M 0)), (1, .ref (a_M 4))] := hl
  unfold wpX5_passes_M4 at h
  refine lv_iconst (v := (0 : Int32)) hx hb dX5_passes_0 (by decide) ?_
  refine lv_istore_n (lv' := [(2, .int (0 : Int32)), (0, .ref (a_M 0)), (1, .ref (a_M 4))]) hx hb dX5_passes_1 rfl hl (by decide) rfl (fun ls hl => ?_)
  obtain ⟨n_1, h⟩ := h
  refine wX5_passes_M4_2 l D cI cJ cC G a_M M_pipes M_used M_taped M_at M_statements M_hasImage M_isKeeping M_nextAt M_nextMost M_rowMany M_refused M_setting M_hole M_chance M_weight M_tape M_letter M_letterAt M_told M_then M_row _ S hK hDD hA hE (fun x2_2 M_cursor_3 M_pipeAt_4 M_kept_5 H locs ls h hP hS hl => ?_) n_1 (0 : Int32) M_cursor M_pipeAt M_kept _ _ _ h hP hS (lv_sub hl [1, 2, 0] rfl)
  try dsimp only at h
  exact hret (M_cursor_3, M_pipeAt_4, M_kept_5) _ _ _ _ h hP hS dX5_passes_58
def lpX5_passes_M5_2 (K : Int32 → Int32 → (Nat → Int32) → (Nat → Int32) → Prop) (M_isKeeping : Int32) : Nat → Int32 → Int32 → (Nat → Int32) → (Nat → Int32) → Prop
  | 0, _, _, _, _ => False
  | n + 1, x2, M_cursor, M_chance, M_kept => (((6 : Int32) ≤ x2 → (K x2 M_cursor M_chance M_kept)) ∧ (¬ ((6 : Int32) ≤ x2) → (((M_isKeeping = (0 : Int32) → (vp_in M_cursor 200 ∧ (vp_in x2 6 ∧ (lpX5_passes_M5_2 K M_isKeeping n (x2 + (1 : Int32)) (M_cursor + (1 : Int32)) (upd M_chance x2.toNatClampNeg (M_kept M_cursor.toNatClampNeg)) M_kept)))) ∧ (¬ (M_isKeeping = (0 : Int32)) → (vp_in x2 6 ∧ (vp_in M_cursor 200 ∧ (lpX5_passes_M5_2 K M_isKeeping n (x2 + (1 : Int32)) (M_cursor + (1 : Int32)) M_chance (upd M_kept M_cursor.toNatClampNeg (M_chance x2.toNatClampNeg))))))))))
set_option maxHeartbeats 4000000 in
set_option maxRecDepth 100000 in
theorem wX5_passes_M5_2 (l : Launch) (D : va_G) (cI cJ cC : ClassId) (G : Nat → Nat → Nat) (a_M : Nat → Nat) {p : Program} {e : Env} {s : State} {m : MethodId} {below : List Frame} {meth : Method} {c : Code} {A : Nat → Prop} {Q : State → Prop} (M_pipes : Int32) (M_used : Int32) (M_taped : Int32) (M_at : Int32) (M_statements : Int32) (M_hasImage : Int32) (M_isKeeping : Int32) (M_nextAt : Int32) (M_nextMost : Int64) (M_rowMany : Int32) (M_refused : Nat → Int32) (M_setting : Nat → Int32) (M_hole : Nat → Int32) (M_pipeAt : Nat → Int32) (M_weight : Nat → Int32) (M_tape : Nat → Int32) (M_letter : Nat → Int32) (M_letterAt : Nat → Int32) (M_told : Nat → Int32) (M_then : Nat → Int64) (M_row : Nat → Int32) (K : Int32 → Int32 → (Nat → Int32) → (Nat → Int32) → Prop) (S : CallFix p m c cX5_passes 3 s ([.ref (a_M 0), .ref (a_M 5)] : List Value).toArray bg RX5) (hK : va_K D vwCl (tz cI cJ cC) s) (hDD : ∀ ws : va_W, ws.map (fun q => q.1) = [a_M 0, a_M 1, a_M 2, a_M 3, a_M 4, a_M 5, a_M 6, a_M 7, a_M 8, a_M 9, a_M 10, a_M 11, a_M 12, a_M 13] → va_D A ws) (hA : ∀ q, s.heap.size ≤ q → A q) (hE : EV G A s) (hKK : ∀ (x2 : Int32) (M_cursor : Int32) (M_chance : Nat → Int32) (M_kept : Nat → Int32) (H : Heap) (locs : List Loc) (ls : Array Slot), K x2 M_cursor M_chance M_kept → va_P D vwCl ((bX5 cI cJ cC a_M M_pipes M_used M_taped M_at M_statements M_hasImage M_isKeeping M_cursor M_nextAt M_nextMost M_rowMany M_refused M_setting M_hole M_pipeAt M_chance M_weight M_tape M_letter M_letterAt M_told M_kept M_then M_row)) H → va_S A s.heap H locs → lv_has ls 3 [] → W p l e ({ frames := 0, cells := 0, slots := 0, locals := 0 }) s m ([.ref (a_M 0), .ref (a_M 5)] : List Value).toArray below meth c H locs 0 0 Q (F0 m 58 ls [])) :
    ∀ (n : Nat) (x2 : Int32) (M_cursor : Int32) (M_chance : Nat → Int32) (M_kept : Nat → Int32) (H : Heap) (locs : List Loc) (ls : Array Slot), lpX5_passes_M5_2 K M_isKeeping n x2 M_cursor M_chance M_kept → va_P D vwCl ((bX5 cI cJ cC a_M M_pipes M_used M_taped M_at M_statements M_hasImage M_isKeeping M_cursor M_nextAt M_nextMost M_rowMany M_refused M_setting M_hole M_pipeAt M_chance M_weight M_tape M_letter M_letterAt M_told M_kept M_then M_row)) H → va_S A s.heap H locs → lv_has ls 3 [(0, .ref (a_M 0)), (1, .ref (a_M 5)), (2, .int x2)] → W p l e ({ frames := 0, cells := 0, slots := 0, locals := 0 }) s m ([.ref (a_M 0), .ref (a_M 5)] : List Value).toArray below meth c H locs 0 0 Q (F0 m 2 ls []) := by
  obtain ⟨hx, hb, hml, hown, ht⟩ := id S
  intro n
  induction n with
  | zero =>
    intro x2 M_cursor M_chance M_kept H locs ls h
    exact absurd h (by simp [lpX5_passes_M5_2])
  | succ n ih =>
    intro x2 M_cursor M_chance M_kept H locs ls h hP hS hl
    rw [lpX5_passes_M5_2] at h
    refine lv_iload_n hx hb dX5_passes_2 rfl (lv_at hl 2 rfl) ?_
    refine lv_aload_n hx hb dX5_passes_3 rfl (lv_at hl 1 rfl) ?_
    refine va_alen hx hb hK hP 5 0 rfl rfl (v := (6 : Int32)) rfl dX5_passes_4 ?_
    refine lv_icmp_ge (tgt := 58) hx hb dX5_passes_5 (by decide) (fun z => ?_) (fun z => ?_)
    · replace h := h.1 z
      exact hKK x2 M_cursor M_chance M_kept _ _ _ h hP hS (lv_sub hl [] rfl)
    · replace h := h.2 z
      refine lv_aload_n hx hb dX5_passes_8 rfl (lv_at hl 0 rfl) ?_
      refine va_get (D := D) (ci := 5) (v := .int M_isKeeping) (C := RX5) (T := TX5) (N := 24) hx hb ht inX5 hown hK hP 0 rfl rfl 17 (by decide) (ht _ fl_X5_145) (fun _ h9 => h9) rfl dX5_passes_9 ?_
      refine lv_if_eq (tgt := 30) hx hb dX5_passes_12 (by decide) (fun z => ?_) (fun z => ?_)
      · replace h := h.1 z
        refine lv_aload_n hx hb dX5_passes_30 rfl (lv_at hl 1 rfl) ?_
        refine lv_iload_n hx hb dX5_passes_31 rfl (lv_at hl 2 rfl) ?_
        refine lv_aload_n hx hb dX5_passes_32 rfl (lv_at hl 0 rfl) ?_
        refine va_get (D := D) (ci := 5) (v := .ref (a_M 11)) (C := RX5) (T := TX5) (N := 24) hx hb ht inX5 hown hK hP 0 rfl rfl 15 (by decide) (ht _ fl_X5_40) (fun _ h9 => h9) rfl dX5_passes_33 ?_
        refine lv_aload_n hx hb dX5_passes_36 rfl (lv_at hl 0 rfl) ?_
        refine va_get (D := D) (ci := 5) (v := .int M_cursor) (C := RX5) (T := TX5) (N := 24) hx hb ht inX5 hown hK hP 0 rfl rfl 18 (by decide) (ht _ fl_X5_149) (fun _ h9 => h9) rfl dX5_passes_37 ?_
        obtain ⟨hin, h⟩ := h
        refine va_iald hx hb hK hP 11 0 rfl rfl hin dX5_passes_40 ?_
        obtain ⟨hin, h⟩ := h
        refine va_iast hx hb hK hP (hDD _ rfl) hS 5 0 rfl rfl hin dX5_passes_41 (fun H locs hP _ hS => ?_)
        have hP : va_P D vwCl ((bX5 cI cJ cC a_M M_pipes M_used M_taped M_at M_statements M_hasImage M_isKeeping M_cursor M_nextAt M_nextMost M_rowMany M_refused M_setting M_hole M_pipeAt (upd M_chance x2.toNatClampNeg (M_kept M_cursor.toNatClampNeg)) M_weight M_tape M_letter M_letterAt M_told M_kept M_then M_row)) H := hP
        refine lv_aload_n hx hb dX5_passes_42 rfl (lv_at hl 0 rfl) ?_
        refine lv_dup hx hb dX5_passes_43 rfl ?_
        refine va_get (D := D) (ci := 5) (v := .int M_cursor) (C := RX5) (T := TX5) (N := 24) hx hb ht inX5 hown hK hP 0 rfl rfl 18 (by decide) (ht _ fl_X5_149) (fun _ h9 => h9) rfl dX5_passes_44 ?_
        refine lv_iconst (v := (1 : Int32)) hx hb dX5_passes_47 (by decide) ?_
        refine lv_iadd hx hb dX5_passes_48 ?_
        refine va_put (D := D) (ci := 5) (v := .int (M_cursor + (1 : Int32))) (ty := .int) (C := RX5) (T := TX5) (N := 24) hx hb ht inX5 tyX5 tyX5_ok nmX5 hown hK hP (hDD _ rfl) hS 0 rfl rfl 18 (by decide) (ht _ fl_X5_149) (fun _ h9 => h9) rfl (by decide +kernel) rfl rfl (Nat.le_of_ble_eq_true rfl) dX5_passes_49 (fun H locs hP _ hS => ?_)
        have hP : va_P D vwCl ((bX5 cI cJ cC a_M M_pipes M_used M_taped M_at M_statements M_hasImage M_isKeeping (M_cursor + (1 : Int32)) M_nextAt M_nextMost M_rowMany M_refused M_setting M_hole M_pipeAt (upd M_chance x2.toNatClampNeg (M_kept M_cursor.toNatClampNeg)) M_weight M_tape M_letter M_letterAt M_told M_kept M_then M_row)) H := hP
        refine lv_iinc (v := x2 + (1 : Int32)) (lv' := [(2, .int (x2 + (1 : Int32))), (0, .ref (a_M 0)), (1, .ref (a_M 5))]) hx hb dX5_passes_52 hl (k := 2) rfl (by rfl) (by decide) rfl (fun ls hl => ?_)
        refine lv_goto (tgt := 2) hx hb dX5_passes_55 (by decide) ?_
        exact ih (x2 + (1 : Int32)) (M_cursor + (1 : Int32)) (upd M_chance x2.toNatClampNeg (M_kept M_cursor.toNatClampNeg)) M_kept _ _ _ h hP hS (lv_sub hl [1, 2, 0] rfl)
      · replace h := h.2 z
        refine lv_aload_n hx hb dX5_passes_15 rfl (lv_at hl 0 rfl) ?_
        refine va_get (D := D) (ci := 5) (v := .ref (a_M 11)) (C := RX5) (T := TX5) (N := 24) hx hb ht inX5 hown hK hP 0 rfl rfl 15 (by decide) (ht _ fl_X5_40) (fun _ h9 => h9) rfl dX5_passes_16 ?_
        refine lv_aload_n hx hb dX5_passes_19 rfl (lv_at hl 0 rfl) ?_
        refine va_get (D := D) (ci := 5) (v := .int M_cursor) (C := RX5) (T := TX5) (N := 24) hx hb ht inX5 hown hK hP 0 rfl rfl 18 (by decide) (ht _ fl_X5_149) (fun _ h9 => h9) rfl dX5_passes_20 ?_
        refine lv_aload_n hx hb dX5_passes_23 rfl (lv_at hl 1 rfl) ?_
        refine lv_iload_n hx hb dX5_passes_24 rfl (lv_at hl 2 rfl) ?_
        obtain ⟨hin, h⟩ := h
        refine va_iald hx hb hK hP 5 0 rfl rfl hin dX5_passes_25 ?_
        obtain ⟨hin, h⟩ := h
        refine va_iast hx hb hK hP (hDD _ rfl) hS 11 0 rfl rfl hin dX5_passes_26 (fun H locs hP _ hS => ?_)
        have hP : va_P D vwCl ((bX5 cI cJ cC a_M M_pipes M_used M_taped M_at M_statements M_hasImage M_isKeeping M_cursor M_nextAt M_nextMost M_rowMany M_refused M_setting M_hole M_pipeAt M_chance M_weight M_tape M_letter M_letterAt M_told (upd M_kept M_cursor.toNatClampNeg (M_chance x2.toNatClampNeg)) M_then M_row)) H := hP
        refine lv_goto (tgt := 42) hx hb dX5_passes_27 (by decide) ?_
        refine lv_aload_n hx hb dX5_passes_42 rfl (lv_at hl 0 rfl) ?_
        refine lv_dup hx hb dX5_passes_43 rfl ?_
        refine va_get (D := D) (ci := 5) (v := .int M_cursor) (C := RX5) (T := TX5) (N := 24) hx hb ht inX5 hown hK hP 0 rfl rfl 18 (by decide) (ht _ fl_X5_149) (fun _ h9 => h9) rfl dX5_passes_44 ?_
        refine lv_iconst (v := (1 : Int32)) hx hb dX5_passes_47 (by decide) ?_
        refine lv_iadd hx hb dX5_passes_48 ?_
        refine va_put (D := D) (ci := 5) (v := .int (M_cursor + (1 : Int32))) (ty := .int) (C := RX5) (T := TX5) (N := 24) hx hb ht inX5 tyX5 tyX5_ok nmX5 hown hK hP (hDD _ rfl) hS 0 rfl rfl 18 (by decide) (ht _ fl_X5_149) (fun _ h9 => h9) rfl (by decide +kernel) rfl rfl (Nat.le_of_ble_eq_true rfl) dX5_passes_49 (fun H locs hP _ hS => ?_)
        have hP : va_P D vwCl ((bX5 cI cJ cC a_M M_pipes M_used M_taped M_at M_statements M_hasImage M_isKeeping (M_cursor + (1 : Int32)) M_nextAt M_nextMost M_rowMany M_refused M_setting M_hole M_pipeAt M_chance M_weight M_tape M_letter M_letterAt M_told (upd M_kept M_cursor.toNatClampNeg (M_chance x2.toNatClampNeg)) M_then M_row)) H := hP
        refine lv_iinc (v := x2 + (1 : Int32)) (lv' := [(2, .int (x2 + (1 : Int32))), (0, .ref (a_M 0)), (1, .ref (a_M 5))]) hx hb dX5_passes_52 hl (k := 2) rfl (by rfl) (by decide) rfl (fun ls hl => ?_)
        refine lv_goto (tgt := 2) hx hb dX5_passes_55 (by decide) ?_
        exact ih (x2 + (1 : Int32)) (M_cursor + (1 : Int32)) M_chance (upd M_kept M_cursor.toNatClampNeg (M_chance x2.toNatClampNeg)) _ _ _ h hP hS (lv_sub hl [1, 2, 0] rfl)
def wpX5_passes_M5 (post : Int32 → (Nat → Int32) → (Nat → Int32) → Prop) (M_isKeeping : Int32) (M_cursor : Int32) (M_chance : Nat → Int32) (M_kept : Nat → Int32) : Prop := ∃ n_1 : Nat, lpX5_passes_M5_2 (fun (x2_2 : Int32) (M_cursor_3 : Int32) (M_chance_4 : Nat → Int32) (M_kept_5 : Nat → Int32) => post M_cursor_3 M_chance_4 M_kept_5) M_isKeeping n_1 (0 : Int32) M_cursor M_chance M_kept
set_option maxHeartbeats 4000000 in
set_option maxRecDepth 100000 in
theorem mX5_passes_M5 (l : Launch) (D : va_G) (cI cJ cC : ClassId) (G : Nat → Nat → Nat) (a_M : Nat → Nat) (sz : Nat) (M_pipes : Int32) (M_used : Int32) (M_taped : Int32) (M_at : Int32) (M_statements : Int32) (M_hasImage : Int32) (M_isKeeping : Int32) (M_cursor : Int32) (M_nextAt : Int32) (M_nextMost : Int64) (M_rowMany : Int32) (M_refused : Nat → Int32) (M_setting : Nat → Int32) (M_hole : Nat → Int32) (M_pipeAt : Nat → Int32) (M_chance : Nat → Int32) (M_weight : Nat → Int32) (M_tape : Nat → Int32) (M_letter : Nat → Int32) (M_letterAt : Nat → Int32) (M_told : Nat → Int32) (M_kept : Nat → Int32) (M_then : Nat → Int64) (M_row : Nat → Int32) (post : Int32 → (Nat → Int32) → (Nat → Int32) → Prop) (h : wpX5_passes_M5 post M_isKeeping M_cursor M_chance M_kept) : Met l yX5_passes (wz yX5_passes cX5_passes 3 none) ({ frames := 0, cells := 0, slots := 0, locals := 0 }) (va_Pc [.ref (a_M 0), .ref (a_M 5)] (PW D (tz cI cJ cC) G ((bX5 cI cJ cC a_M M_pipes M_used M_taped M_at M_statements M_hasImage M_isKeeping M_cursor M_nextAt M_nextMost M_rowMany M_refused M_setting M_hole M_pipeAt M_chance M_weight M_tape M_letter M_letterAt M_told M_kept M_then M_row)) sz)) (va_Qv (fun (u : Int32 × (Nat → Int32) × (Nat → Int32)) => post u.1 u.2.1 u.2.2) (fun (u : Int32 × (Nat → Int32) × (Nat → Int32)) t => va_P D vwCl ((bX5 cI cJ cC a_M M_pipes M_used M_taped M_at M_statements M_hasImage M_isKeeping u.1 M_nextAt M_nextMost M_rowMany M_refused M_setting M_hole M_pipeAt u.2.1 M_weight M_tape M_letter M_letterAt M_told u.2.2 M_then M_row)) t.heap) (va_A ((bX5 cI cJ cC a_M M_pipes M_used M_taped M_at M_statements M_hasImage M_isKeeping M_cursor M_nextAt M_nextMost M_rowMany M_refused M_setting M_hole M_pipeAt M_chance M_weight M_tape M_letter M_letterAt M_told M_kept M_then M_row)) sz)) 0 0 (va_A ((bX5 cI cJ cC a_M M_pipes M_used M_taped M_at M_statements M_hasImage M_isKeeping M_cursor M_nextAt M_nextMost M_rowMany M_refused M_setting M_hole M_pipeAt M_chance M_weight M_tape M_letter M_letterAt M_told M_kept M_then M_row)) sz) := by
  refine zmv (gw := fun (u : Int32 × (Nat → Int32) × (Nat → Int32)) => (bX5 cI cJ cC a_M M_pipes M_used M_taped M_at M_statements M_hasImage M_isKeeping u.1 M_nextAt M_nextMost M_rowMany M_refused M_setting M_hole M_pipeAt u.2.1 M_weight M_tape M_letter M_letterAt M_told u.2.2 M_then M_row)) (plainFor_of_name (by decide)) (Nat.le_of_ble_eq_true rfl) ?_
  intro p e s m below meth c A Q ls S hK hD hA hE hP hl hret
  obtain ⟨hx, hb, hml, hown, ht⟩ := id S
  have hS : va_S A s.heap s.heap [] := va_S.rf
  have hDD : ∀ ws : va_W, ws.map (fun q => q.1) = [a_M 0, a_M 1, a_M 2, a_M 3, a_M 4, a_M 5, a_M 6, a_M 7, a_M 8, a_M 9, a_M 10, a_M 11, a_M 12, a_M 13] → va_D A ws := fun ws hw => zD hD (hw.trans rfl)
  have hl : lv_has ls 3 [(0, .ref (a_M 0)), (1, .ref (a_M 5))] := hl
  unfold wpX5_passes_M5 at h
  refine lv_iconst (v := (0 : Int32)) hx hb dX5_passes_0 (by decide) ?_
  refine lv_istore_n (lv' := [(2, .int (0 : Int32)), (0, .ref (a_M 0)), (1, .ref (a_M 5))]) hx hb dX5_passes_1 rfl hl (by decide) rfl (fun ls hl => ?_)
  obtain ⟨n_1, h⟩ := h
  refine wX5_passes_M5_2 l D cI cJ cC G a_M M_pipes M_used M_taped M_at M_statements M_hasImage M_isKeeping M_nextAt M_nextMost M_rowMany M_refused M_setting M_hole M_pipeAt M_weight M_tape M_letter M_letterAt M_told M_then M_row _ S hK hDD hA hE (fun x2_2 M_cursor_3 M_chance_4 M_kept_5 H locs ls h hP hS hl => ?_) n_1 (0 : Int32) M_cursor M_chance M_kept _ _ _ h hP hS (lv_sub hl [1, 2, 0] rfl)
  try dsimp only at h
  exact hret (M_cursor_3, M_chance_4, M_kept_5) _ _ _ _ h hP hS dX5_passes_58
def lpX5_passes_M6_2 (K : Int32 → Int32 → (Nat → Int32) → (Nat → Int32) → Prop) (M_isKeeping : Int32) : Nat → Int32 → Int32 → (Nat → Int32) → (Nat → Int32) → Prop
  | 0, _, _, _, _ => False
  | n + 1, x2, M_cursor, M_weight, M_kept => (((24 : Int32) ≤ x2 → (K x2 M_cursor M_weight M_kept)) ∧ (¬ ((24 : Int32) ≤ x2) → (((M_isKeeping = (0 : Int32) → (vp_in M_cursor 200 ∧ (vp_in x2 24 ∧ (lpX5_passes_M6_2 K M_isKeeping n (x2 + (1 : Int32)) (M_cursor + (1 : Int32)) (upd M_weight x2.toNatClampNeg (M_kept M_cursor.toNatClampNeg)) M_kept)))) ∧ (¬ (M_isKeeping = (0 : Int32)) → (vp_in x2 24 ∧ (vp_in M_cursor 200 ∧ (lpX5_passes_M6_2 K M_isKeeping n (x2 + (1 : Int32)) (M_cursor + (1 : Int32)) M_weight (upd M_kept M_cursor.toNatClampNeg (M_weight x2.toNatClampNeg))))))))))
set_option maxHeartbeats 4000000 in
set_option maxRecDepth 100000 in
theorem wX5_passes_M6_2 (l : Launch) (D : va_G) (cI cJ cC : ClassId) (G : Nat → Nat → Nat) (a_M : Nat → Nat) {p : Program} {e : Env} {s : State} {m : MethodId} {below : List Frame} {meth : Method} {c : Code} {A : Nat → Prop} {Q : State → Prop} (M_pipes : Int32) (M_used : Int32) (M_taped : Int32) (M_at : Int32) (M_statements : Int32) (M_hasImage : Int32) (M_isKeeping : Int32) (M_nextAt : Int32) (M_nextMost : Int64) (M_rowMany : Int32) (M_refused : Nat → Int32) (M_setting : Nat → Int32) (M_hole : Nat → Int32) (M_pipeAt : Nat → Int32) (M_chance : Nat → Int32) (M_tape : Nat → Int32) (M_letter : Nat → Int32) (M_letterAt : Nat → Int32) (M_told : Nat → Int32) (M_then : Nat → Int64) (M_row : Nat → Int32) (K : Int32 → Int32 → (Nat → Int32) → (Nat → Int32) → Prop) (S : CallFix p m c cX5_passes 3 s ([.ref (a_M 0), .ref (a_M 6)] : List Value).toArray bg RX5) (hK : va_K D vwCl (tz cI cJ cC) s) (hDD : ∀ ws : va_W, ws.map (fun q => q.1) = [a_M 0, a_M 1, a_M 2, a_M 3, a_M 4, a_M 5, a_M 6, a_M 7, a_M 8, a_M 9, a_M 10, a_M 11, a_M 12, a_M 13] → va_D A ws) (hA : ∀ q, s.heap.size ≤ q → A q) (hE : EV G A s) (hKK : ∀ (x2 : Int32) (M_cursor : Int32) (M_weight : Nat → Int32) (M_kept : Nat → Int32) (H : Heap) (locs : List Loc) (ls : Array Slot), K x2 M_cursor M_weight M_kept → va_P D vwCl ((bX5 cI cJ cC a_M M_pipes M_used M_taped M_at M_statements M_hasImage M_isKeeping M_cursor M_nextAt M_nextMost M_rowMany M_refused M_setting M_hole M_pipeAt M_chance M_weight M_tape M_letter M_letterAt M_told M_kept M_then M_row)) H → va_S A s.heap H locs → lv_has ls 3 [] → W p l e ({ frames := 0, cells := 0, slots := 0, locals := 0 }) s m ([.ref (a_M 0), .ref (a_M 6)] : List Value).toArray below meth c H locs 0 0 Q (F0 m 58 ls [])) :
    ∀ (n : Nat) (x2 : Int32) (M_cursor : Int32) (M_weight : Nat → Int32) (M_kept : Nat → Int32) (H : Heap) (locs : List Loc) (ls : Array Slot), lpX5_passes_M6_2 K M_isKeeping n x2 M_cursor M_weight M_kept → va_P D vwCl ((bX5 cI cJ cC a_M M_pipes M_used M_taped M_at M_statements M_hasImage M_isKeeping M_cursor M_nextAt M_nextMost M_rowMany M_refused M_setting M_hole M_pipeAt M_chance M_weight M_tape M_letter M_letterAt M_told M_kept M_then M_row)) H → va_S A s.heap H locs → lv_has ls 3 [(0, .ref (a_M 0)), (1, .ref (a_M 6)), (2, .int x2)] → W p l e ({ frames := 0, cells := 0, slots := 0, locals := 0 }) s m ([.ref (a_M 0), .ref (a_M 6)] : List Value).toArray below meth c H locs 0 0 Q (F0 m 2 ls []) := by
  obtain ⟨hx, hb, hml, hown, ht⟩ := id S
  intro n
  induction n with
  | zero =>
    intro x2 M_cursor M_weight M_kept H locs ls h
    exact absurd h (by simp [lpX5_passes_M6_2])
  | succ n ih =>
    intro x2 M_cursor M_weight M_kept H locs ls h hP hS hl
    rw [lpX5_passes_M6_2] at h
    refine lv_iload_n hx hb dX5_passes_2 rfl (lv_at hl 2 rfl) ?_
    refine lv_aload_n hx hb dX5_passes_3 rfl (lv_at hl 1 rfl) ?_
    refine va_alen hx hb hK hP 6 0 rfl rfl (v := (24 : Int32)) rfl dX5_passes_4 ?_
    refine lv_icmp_ge (tgt := 58) hx hb dX5_passes_5 (by decide) (fun z => ?_) (fun z => ?_)
    · replace h := h.1 z
      exact hKK x2 M_cursor M_weight M_kept _ _ _ h hP hS (lv_sub hl [] rfl)
    · replace h := h.2 z
      refine lv_aload_n hx hb dX5_passes_8 rfl (lv_at hl 0 rfl) ?_
      refine va_get (D := D) (ci := 5) (v := .int M_isKeeping) (C := RX5) (T := TX5) (N := 24) hx hb ht inX5 hown hK hP 0 rfl rfl 17 (by decide) (ht _ fl_X5_145) (fun _ h9 => h9) rfl dX5_passes_9 ?_
      refine lv_if_eq (tgt := 30) hx hb dX5_passes_12 (by decide) (fun z => ?_) (fun z => ?_)
      · replace h := h.1 z
        refine lv_aload_n hx hb dX5_passes_30 rfl (lv_at hl 1 rfl) ?_
        refine lv_iload_n hx hb dX5_passes_31 rfl (lv_at hl 2 rfl) ?_
        refine lv_aload_n hx hb dX5_passes_32 rfl (lv_at hl 0 rfl) ?_
        refine va_get (D := D) (ci := 5) (v := .ref (a_M 11)) (C := RX5) (T := TX5) (N := 24) hx hb ht inX5 hown hK hP 0 rfl rfl 15 (by decide) (ht _ fl_X5_40) (fun _ h9 => h9) rfl dX5_passes_33 ?_
        refine lv_aload_n hx hb dX5_passes_36 rfl (lv_at hl 0 rfl) ?_
        refine va_get (D := D) (ci := 5) (v := .int M_cursor) (C := RX5) (T := TX5) (N := 24) hx hb ht inX5 hown hK hP 0 rfl rfl 18 (by decide) (ht _ fl_X5_149) (fun _ h9 => h9) rfl dX5_passes_37 ?_
        obtain ⟨hin, h⟩ := h
        refine va_iald hx hb hK hP 11 0 rfl rfl hin dX5_passes_40 ?_
        obtain ⟨hin, h⟩ := h
        refine va_iast hx hb hK hP (hDD _ rfl) hS 6 0 rfl rfl hin dX5_passes_41 (fun H locs hP _ hS => ?_)
        have hP : va_P D vwCl ((bX5 cI cJ cC a_M M_pipes M_used M_taped M_at M_statements M_hasImage M_isKeeping M_cursor M_nextAt M_nextMost M_rowMany M_refused M_setting M_hole M_pipeAt M_chance (upd M_weight x2.toNatClampNeg (M_kept M_cursor.toNatClampNeg)) M_tape M_letter M_letterAt M_told M_kept M_then M_row)) H := hP
        refine lv_aload_n hx hb dX5_passes_42 rfl (lv_at hl 0 rfl) ?_
        refine lv_dup hx hb dX5_passes_43 rfl ?_
        refine va_get (D := D) (ci := 5) (v := .int M_cursor) (C := RX5) (T := TX5) (N := 24) hx hb ht inX5 hown hK hP 0 rfl rfl 18 (by decide) (ht _ fl_X5_149) (fun _ h9 => h9) rfl dX5_passes_44 ?_
        refine lv_iconst (v := (1 : Int32)) hx hb dX5_passes_47 (by decide) ?_
        refine lv_iadd hx hb dX5_passes_48 ?_
        refine va_put (D := D) (ci := 5) (v := .int (M_cursor + (1 : Int32))) (ty := .int) (C := RX5) (T := TX5) (N := 24) hx hb ht inX5 tyX5 tyX5_ok nmX5 hown hK hP (hDD _ rfl) hS 0 rfl rfl 18 (by decide) (ht _ fl_X5_149) (fun _ h9 => h9) rfl (by decide +kernel) rfl rfl (Nat.le_of_ble_eq_true rfl) dX5_passes_49 (fun H locs hP _ hS => ?_)
        have hP : va_P D vwCl ((bX5 cI cJ cC a_M M_pipes M_used M_taped M_at M_statements M_hasImage M_isKeeping (M_cursor + (1 : Int32)) M_nextAt M_nextMost M_rowMany M_refused M_setting M_hole M_pipeAt M_chance (upd M_weight x2.toNatClampNeg (M_kept M_cursor.toNatClampNeg)) M_tape M_letter M_letterAt M_told M_kept M_then M_row)) H := hP
        refine lv_iinc (v := x2 + (1 : Int32)) (lv' := [(2, .int (x2 + (1 : Int32))), (0, .ref (a_M 0)), (1, .ref (a_M 6))]) hx hb dX5_passes_52 hl (k := 2) rfl (by rfl) (by decide) rfl (fun ls hl => ?_)
        refine lv_goto (tgt := 2) hx hb dX5_passes_55 (by decide) ?_
        exact ih (x2 + (1 : Int32)) (M_cursor + (1 : Int32)) (upd M_weight x2.toNatClampNeg (M_kept M_cursor.toNatClampNeg)) M_kept _ _ _ h hP hS (lv_sub hl [1, 2, 0] rfl)
      · replace h := h.2 z
        refine lv_aload_n hx hb dX5_passes_15 rfl (lv_at hl 0 rfl) ?_
        refine va_get (D := D) (ci := 5) (v := .ref (a_M 11)) (C := RX5) (T := TX5) (N := 24) hx hb ht inX5 hown hK hP 0 rfl rfl 15 (by decide) (ht _ fl_X5_40) (fun _ h9 => h9) rfl dX5_passes_16 ?_
        refine lv_aload_n hx hb dX5_passes_19 rfl (lv_at hl 0 rfl) ?_
        refine va_get (D := D) (ci := 5) (v := .int M_cursor) (C := RX5) (T := TX5) (N := 24) hx hb ht inX5 hown hK hP 0 rfl rfl 18 (by decide) (ht _ fl_X5_149) (fun _ h9 => h9) rfl dX5_passes_20 ?_
        refine lv_aload_n hx hb dX5_passes_23 rfl (lv_at hl 1 rfl) ?_
        refine lv_iload_n hx hb dX5_passes_24 rfl (lv_at hl 2 rfl) ?_
        obtain ⟨hin, h⟩ := h
        refine va_iald hx hb hK hP 6 0 rfl rfl hin dX5_passes_25 ?_
        obtain ⟨hin, h⟩ := h
        refine va_iast hx hb hK hP (hDD _ rfl) hS 11 0 rfl rfl hin dX5_passes_26 (fun H locs hP _ hS => ?_)
        have hP : va_P D vwCl ((bX5 cI cJ cC a_M M_pipes M_used M_taped M_at M_statements M_hasImage M_isKeeping M_cursor M_nextAt M_nextMost M_rowMany M_refused M_setting M_hole M_pipeAt M_chance M_weight M_tape M_letter M_letterAt M_told (upd M_kept M_cursor.toNatClampNeg (M_weight x2.toNatClampNeg)) M_then M_row)) H := hP
        refine lv_goto (tgt := 42) hx hb dX5_passes_27 (by decide) ?_
        refine lv_aload_n hx hb dX5_passes_42 rfl (lv_at hl 0 rfl) ?_
        refine lv_dup hx hb dX5_passes_43 rfl ?_
        refine va_get (D := D) (ci := 5) (v := .int M_cursor) (C := RX5) (T := TX5) (N := 24) hx hb ht inX5 hown hK hP 0 rfl rfl 18 (by decide) (ht _ fl_X5_149) (fun _ h9 => h9) rfl dX5_passes_44 ?_
        refine lv_iconst (v := (1 : Int32)) hx hb dX5_passes_47 (by decide) ?_
        refine lv_iadd hx hb dX5_passes_48 ?_
        refine va_put (D := D) (ci := 5) (v := .int (M_cursor + (1 : Int32))) (ty := .int) (C := RX5) (T := TX5) (N := 24) hx hb ht inX5 tyX5 tyX5_ok nmX5 hown hK hP (hDD _ rfl) hS 0 rfl rfl 18 (by decide) (ht _ fl_X5_149) (fun _ h9 => h9) rfl (by decide +kernel) rfl rfl (Nat.le_of_ble_eq_true rfl) dX5_passes_49 (fun H locs hP _ hS => ?_)
        have hP : va_P D vwCl ((bX5 cI cJ cC a_M M_pipes M_used M_taped M_at M_statements M_hasImage M_isKeeping (M_cursor + (1 : Int32)) M_nextAt M_nextMost M_rowMany M_refused M_setting M_hole M_pipeAt M_chance M_weight M_tape M_letter M_letterAt M_told (upd M_kept M_cursor.toNatClampNeg (M_weight x2.toNatClampNeg)) M_then M_row)) H := hP
        refine lv_iinc (v := x2 + (1 : Int32)) (lv' := [(2, .int (x2 + (1 : Int32))), (0, .ref (a_M 0)), (1, .ref (a_M 6))]) hx hb dX5_passes_52 hl (k := 2) rfl (by rfl) (by decide) rfl (fun ls hl => ?_)
        refine lv_goto (tgt := 2) hx hb dX5_passes_55 (by decide) ?_
        exact ih (x2 + (1 : Int32)) (M_cursor + (1 : Int32)) M_weight (upd M_kept M_cursor.toNatClampNeg (M_weight x2.toNatClampNeg)) _ _ _ h hP hS (lv_sub hl [1, 2, 0] rfl)
def wpX5_passes_M6 (post : Int32 → (Nat → Int32) → (Nat → Int32) → Prop) (M_isKeeping : Int32) (M_cursor : Int32) (M_weight : Nat → Int32) (M_kept : Nat → Int32) : Prop := ∃ n_1 : Nat, lpX5_passes_M6_2 (fun (x2_2 : Int32) (M_cursor_3 : Int32) (M_weight_4 : Nat → Int32) (M_kept_5 : Nat → Int32) => post M_cursor_3 M_weight_4 M_kept_5) M_isKeeping n_1 (0 : Int32) M_cursor M_weight M_kept
set_option maxHeartbeats 4000000 in
set_option maxRecDepth 100000 in
theorem mX5_passes_M6 (l : Launch) (D : va_G) (cI cJ cC : ClassId) (G : Nat → Nat → Nat) (a_M : Nat → Nat) (sz : Nat) (M_pipes : Int32) (M_used : Int32) (M_taped : Int32) (M_at : Int32) (M_statements : Int32) (M_hasImage : Int32) (M_isKeeping : Int32) (M_cursor : Int32) (M_nextAt : Int32) (M_nextMost : Int64) (M_rowMany : Int32) (M_refused : Nat → Int32) (M_setting : Nat → Int32) (M_hole : Nat → Int32) (M_pipeAt : Nat → Int32) (M_chance : Nat → Int32) (M_weight : Nat → Int32) (M_tape : Nat → Int32) (M_letter : Nat → Int32) (M_letterAt : Nat → Int32) (M_told : Nat → Int32) (M_kept : Nat → Int32) (M_then : Nat → Int64) (M_row : Nat → Int32) (post : Int32 → (Nat → Int32) → (Nat → Int32) → Prop) (h : wpX5_passes_M6 post M_isKeeping M_cursor M_weight M_kept) : Met l yX5_passes (wz yX5_passes cX5_passes 3 none) ({ frames := 0, cells := 0, slots := 0, locals := 0 }) (va_Pc [.ref (a_M 0), .ref (a_M 6)] (PW D (tz cI cJ cC) G ((bX5 cI cJ cC a_M M_pipes M_used M_taped M_at M_statements M_hasImage M_isKeeping M_cursor M_nextAt M_nextMost M_rowMany M_refused M_setting M_hole M_pipeAt M_chance M_weight M_tape M_letter M_letterAt M_told M_kept M_then M_row)) sz)) (va_Qv (fun (u : Int32 × (Nat → Int32) × (Nat → Int32)) => post u.1 u.2.1 u.2.2) (fun (u : Int32 × (Nat → Int32) × (Nat → Int32)) t => va_P D vwCl ((bX5 cI cJ cC a_M M_pipes M_used M_taped M_at M_statements M_hasImage M_isKeeping u.1 M_nextAt M_nextMost M_rowMany M_refused M_setting M_hole M_pipeAt M_chance u.2.1 M_tape M_letter M_letterAt M_told u.2.2 M_then M_row)) t.heap) (va_A ((bX5 cI cJ cC a_M M_pipes M_used M_taped M_at M_statements M_hasImage M_isKeeping M_cursor M_nextAt M_nextMost M_rowMany M_refused M_setting M_hole M_pipeAt M_chance M_weight M_tape M_letter M_letterAt M_told M_kept M_then M_row)) sz)) 0 0 (va_A ((bX5 cI cJ cC a_M M_pipes M_used M_taped M_at M_statements M_hasImage M_isKeeping M_cursor M_nextAt M_nextMost M_rowMany M_refused M_setting M_hole M_pipeAt M_chance M_weight M_tape M_letter M_letterAt M_told M_kept M_then M_row)) sz) := by
  refine zmv (gw := fun (u : Int32 × (Nat → Int32) × (Nat → Int32)) => (bX5 cI cJ cC a_M M_pipes M_used M_taped M_at M_statements M_hasImage M_isKeeping u.1 M_nextAt M_nextMost M_rowMany M_refused M_setting M_hole M_pipeAt M_chance u.2.1 M_tape M_letter M_letterAt M_told u.2.2 M_then M_row)) (plainFor_of_name (by decide)) (Nat.le_of_ble_eq_true rfl) ?_
  intro p e s m below meth c A Q ls S hK hD hA hE hP hl hret
  obtain ⟨hx, hb, hml, hown, ht⟩ := id S
  have hS : va_S A s.heap s.heap [] := va_S.rf
  have hDD : ∀ ws : va_W, ws.map (fun q => q.1) = [a_M 0, a_M 1, a_M 2, a_M 3, a_M 4, a_M 5, a_M 6, a_M 7, a_M 8, a_M 9, a_M 10, a_M 11, a_M 12, a_M 13] → va_D A ws := fun ws hw => zD hD (hw.trans rfl)
  have hl : lv_has ls 3 [(0, .ref (a_M 0)), (1, .ref (a_M 6))] := hl
  unfold wpX5_passes_M6 at h
  refine lv_iconst (v := (0 : Int32)) hx hb dX5_passes_0 (by decide) ?_
  refine lv_istore_n (lv' := [(2, .int (0 : Int32)), (0, .ref (a_M 0)), (1, .ref (a_M 6))]) hx hb dX5_passes_1 rfl hl (by decide) rfl (fun ls hl => ?_)
  obtain ⟨n_1, h⟩ := h
  refine wX5_passes_M6_2 l D cI cJ cC G a_M M_pipes M_used M_taped M_at M_statements M_hasImage M_isKeeping M_nextAt M_nextMost M_rowMany M_refused M_setting M_hole M_pipeAt M_chance M_tape M_letter M_letterAt M_told M_then M_row _ S hK hDD hA hE (fun x2_2 M_cursor_3 M_weight_4 M_kept_5 H locs ls h hP hS hl => ?_) n_1 (0 : Int32) M_cursor M_weight M_kept _ _ _ h hP hS (lv_sub hl [1, 2, 0] rfl)
  try dsimp only at h
  exact hret (M_cursor_3, M_weight_4, M_kept_5) _ _ _ _ h hP hS dX5_passes_58
def wpX5_passOne (post : Int32 → Int32 → (Nat → Int32) → Prop) (M_isKeeping : Int32) (M_cursor : Int32) (M_kept : Nat → Int32) (p1 : Int32) : Prop := ((M_isKeeping = (0 : Int32) → (vp_in M_cursor 200 ∧ (((M_isKeeping = (0 : Int32) → (post (M_kept M_cursor.toNatClampNeg) (M_cursor + (1 : Int32)) M_kept)) ∧ (¬ (M_isKeeping = (0 : Int32)) → (vp_in M_cursor 200 ∧ (post (M_kept M_cursor.toNatClampNeg) (M_cursor + (1 : Int32)) (upd M_kept M_cursor.toNatClampNeg p1)))))))) ∧ (¬ (M_isKeeping = (0 : Int32)) → (((M_isKeeping = (0 : Int32) → (post p1 (M_cursor + (1 : Int32)) M_kept)) ∧ (¬ (M_isKeeping = (0 : Int32)) → (vp_in M_cursor 200 ∧ (post p1 (M_cursor + (1 : Int32)) (upd M_kept M_cursor.toNatClampNeg p1))))))))
set_option maxHeartbeats 4000000 in
set_option maxRecDepth 100000 in
theorem mX5_passOne (l : Launch) (D : va_G) (cI cJ cC : ClassId) (G : Nat → Nat → Nat) (a_M : Nat → Nat) (sz : Nat) (M_pipes : Int32) (M_used : Int32) (M_taped : Int32) (M_at : Int32) (M_statements : Int32) (M_hasImage : Int32) (M_isKeeping : Int32) (M_cursor : Int32) (M_nextAt : Int32) (M_nextMost : Int64) (M_rowMany : Int32) (M_refused : Nat → Int32) (M_setting : Nat → Int32) (M_hole : Nat → Int32) (M_pipeAt : Nat → Int32) (M_chance : Nat → Int32) (M_weight : Nat → Int32) (M_tape : Nat → Int32) (M_letter : Nat → Int32) (M_letterAt : Nat → Int32) (M_told : Nat → Int32) (M_kept : Nat → Int32) (M_then : Nat → Int64) (M_row : Nat → Int32) (p1 : Int32) (post : Int32 → Int32 → (Nat → Int32) → Prop) (h : wpX5_passOne post M_isKeeping M_cursor M_kept p1) : Met l yX5_passOne (wz yX5_passOne cX5_passOne 3 (some .int)) ({ frames := 0, cells := 0, slots := 0, locals := 0 }) (va_Pc [.ref (a_M 0), .int p1] (PW D (tz cI cJ cC) G ((bX5 cI cJ cC a_M M_pipes M_used M_taped M_at M_statements M_hasImage M_isKeeping M_cursor M_nextAt M_nextMost M_rowMany M_refused M_setting M_hole M_pipeAt M_chance M_weight M_tape M_letter M_letterAt M_told M_kept M_then M_row)) sz)) (va_Qi (fun (r : Int32) (u : Int32 × (Nat → Int32)) => post r u.1 u.2) (fun (u : Int32 × (Nat → Int32)) t => va_P D vwCl ((bX5 cI cJ cC a_M M_pipes M_used M_taped M_at M_statements M_hasImage M_isKeeping u.1 M_nextAt M_nextMost M_rowMany M_refused M_setting M_hole M_pipeAt M_chance M_weight M_tape M_letter M_letterAt M_told u.2 M_then M_row)) t.heap) (va_A ((bX5 cI cJ cC a_M M_pipes M_used M_taped M_at M_statements M_hasImage M_isKeeping M_cursor M_nextAt M_nextMost M_rowMany M_refused M_setting M_hole M_pipeAt M_chance M_weight M_tape M_letter M_letterAt M_told M_kept M_then M_row)) sz)) 0 0 (va_A ((bX5 cI cJ cC a_M M_pipes M_used M_taped M_at M_statements M_hasImage M_isKeeping M_cursor M_nextAt M_nextMost M_rowMany M_refused M_setting M_hole M_pipeAt M_chance M_weight M_tape M_letter M_letterAt M_told M_kept M_then M_row)) sz) := by
  refine zmi (gw := fun (u : Int32 × (Nat → Int32)) => (bX5 cI cJ cC a_M M_pipes M_used M_taped M_at M_statements M_hasImage M_isKeeping u.1 M_nextAt M_nextMost M_rowMany M_refused M_setting M_hole M_pipeAt M_chance M_weight M_tape M_letter M_letterAt M_told u.2 M_then M_row)) (plainFor_of_name (by decide)) (Nat.le_of_ble_eq_true rfl) ?_
  intro p e s m below meth c A Q ls S hK hD hA hE hP hl hret
  obtain ⟨hx, hb, hml, hown, ht⟩ := id S
  have hS : va_S A s.heap s.heap [] := va_S.rf
  have hDD : ∀ ws : va_W, ws.map (fun q => q.1) = [a_M 0, a_M 1, a_M 2, a_M 3, a_M 4, a_M 5, a_M 6, a_M 7, a_M 8, a_M 9, a_M 10, a_M 11, a_M 12, a_M 13] → va_D A ws := fun ws hw => zD hD (hw.trans rfl)
  have hl : lv_has ls 3 [(0, .ref (a_M 0)), (1, .int p1)] := hl
  unfold wpX5_passOne at h
  refine lv_aload_n hx hb dX5_passOne_0 rfl (lv_at hl 0 rfl) ?_
  refine va_get (D := D) (ci := 5) (v := .int M_isKeeping) (C := RX5) (T := TX5) (N := 24) hx hb ht inX5 hown hK hP 0 rfl rfl 17 (by decide) (ht _ fl_X5_145) (fun _ h9 => h9) rfl dX5_passOne_1 ?_
  refine lv_if_eq (tgt := 11) hx hb dX5_passOne_4 (by decide) (fun z => ?_) (fun z => ?_)
  · replace h := h.1 z
    refine lv_aload_n hx hb dX5_passOne_11 rfl (lv_at hl 0 rfl) ?_
    refine va_get (D := D) (ci := 5) (v := .ref (a_M 11)) (C := RX5) (T := TX5) (N := 24) hx hb ht inX5 hown hK hP 0 rfl rfl 15 (by decide) (ht _ fl_X5_40) (fun _ h9 => h9) rfl dX5_passOne_12 ?_
    refine lv_aload_n hx hb dX5_passOne_15 rfl (lv_at hl 0 rfl) ?_
    refine va_get (D := D) (ci := 5) (v := .int M_cursor) (C := RX5) (T := TX5) (N := 24) hx hb ht inX5 hown hK hP 0 rfl rfl 18 (by decide) (ht _ fl_X5_149) (fun _ h9 => h9) rfl dX5_passOne_16 ?_
    obtain ⟨hin, h⟩ := h
    refine va_iald hx hb hK hP 11 0 rfl rfl hin dX5_passOne_19 ?_
    refine lv_istore_n (lv' := [(2, .int (M_kept M_cursor.toNatClampNeg)), (0, .ref (a_M 0)), (1, .int p1)]) hx hb dX5_passOne_20 rfl hl (by decide) rfl (fun ls hl => ?_)
    refine lv_aload_n hx hb dX5_passOne_21 rfl (lv_at hl 1 rfl) ?_
    refine va_get (D := D) (ci := 5) (v := .int M_isKeeping) (C := RX5) (T := TX5) (N := 24) hx hb ht inX5 hown hK hP 0 rfl rfl 17 (by decide) (ht _ fl_X5_145) (fun _ h9 => h9) rfl dX5_passOne_22 ?_
    refine lv_if_eq (tgt := 38) hx hb dX5_passOne_25 (by decide) (fun z => ?_) (fun z => ?_)
    · replace h := h.1 z
      refine lv_aload_n hx hb dX5_passOne_38 rfl (lv_at hl 1 rfl) ?_
      refine lv_dup hx hb dX5_passOne_39 rfl ?_
      refine va_get (D := D) (ci := 5) (v := .int M_cursor) (C := RX5) (T := TX5) (N := 24) hx hb ht inX5 hown hK hP 0 rfl rfl 18 (by decide) (ht _ fl_X5_149) (fun _ h9 => h9) rfl dX5_passOne_40 ?_
      refine lv_iconst (v := (1 : Int32)) hx hb dX5_passOne_43 (by decide) ?_
      refine lv_iadd hx hb dX5_passOne_44 ?_
      refine va_put (D := D) (ci := 5) (v := .int (M_cursor + (1 : Int32))) (ty := .int) (C := RX5) (T := TX5) (N := 24) hx hb ht inX5 tyX5 tyX5_ok nmX5 hown hK hP (hDD _ rfl) hS 0 rfl rfl 18 (by decide) (ht _ fl_X5_149) (fun _ h9 => h9) rfl (by decide +kernel) rfl rfl (Nat.le_of_ble_eq_true rfl) dX5_passOne_45 (fun H locs hP _ hS => ?_)
      have hP : va_P D vwCl ((bX5 cI cJ cC a_M M_pipes M_used M_taped M_at M_statements M_hasImage M_isKeeping (M_cursor + (1 : Int32)) M_nextAt M_nextMost M_rowMany M_refused M_setting M_hole M_pipeAt M_chance M_weight M_tape M_letter M_letterAt M_told M_kept M_then M_row)) H := hP
      refine lv_iload_n hx hb dX5_passOne_48 rfl (lv_at hl 0 rfl) ?_
      exact hret (M_kept M_cursor.toNatClampNeg) (M_cursor + (1 : Int32), M_kept) _ _ _ _ rfl h hP hS dX5_passOne_49
    · replace h := h.2 z
      refine lv_aload_n hx hb dX5_passOne_28 rfl (lv_at hl 1 rfl) ?_
      refine va_get (D := D) (ci := 5) (v := .ref (a_M 11)) (C := RX5) (T := TX5) (N := 24) hx hb ht inX5 hown hK hP 0 rfl rfl 15 (by decide) (ht _ fl_X5_40) (fun _ h9 => h9) rfl dX5_passOne_29 ?_
      refine lv_aload_n hx hb dX5_passOne_32 rfl (lv_at hl 1 rfl) ?_
      refine va_get (D := D) (ci := 5) (v := .int M_cursor) (C := RX5) (T := TX5) (N := 24) hx hb ht inX5 hown hK hP 0 rfl rfl 18 (by decide) (ht _ fl_X5_149) (fun _ h9 => h9) rfl dX5_passOne_33 ?_
      refine lv_iload_n hx hb dX5_passOne_36 rfl (lv_at hl 2 rfl) ?_
      obtain ⟨hin, h⟩ := h
      refine va_iast hx hb hK hP (hDD _ rfl) hS 11 0 rfl rfl hin dX5_passOne_37 (fun H locs hP _ hS => ?_)
      have hP : va_P D vwCl ((bX5 cI cJ cC a_M M_pipes M_used M_taped M_at M_statements M_hasImage M_isKeeping M_cursor M_nextAt M_nextMost M_rowMany M_refused M_setting M_hole M_pipeAt M_chance M_weight M_tape M_letter M_letterAt M_told (upd M_kept M_cursor.toNatClampNeg p1) M_then M_row)) H := hP
      refine lv_aload_n hx hb dX5_passOne_38 rfl (lv_at hl 1 rfl) ?_
      refine lv_dup hx hb dX5_passOne_39 rfl ?_
      refine va_get (D := D) (ci := 5) (v := .int M_cursor) (C := RX5) (T := TX5) (N := 24) hx hb ht inX5 hown hK hP 0 rfl rfl 18 (by decide) (ht _ fl_X5_149) (fun _ h9 => h9) rfl dX5_passOne_40 ?_
      refine lv_iconst (v := (1 : Int32)) hx hb dX5_passOne_43 (by decide) ?_
      refine lv_iadd hx hb dX5_passOne_44 ?_
      refine va_put (D := D) (ci := 5) (v := .int (M_cursor + (1 : Int32))) (ty := .int) (C := RX5) (T := TX5) (N := 24) hx hb ht inX5 tyX5 tyX5_ok nmX5 hown hK hP (hDD _ rfl) hS 0 rfl rfl 18 (by decide) (ht _ fl_X5_149) (fun _ h9 => h9) rfl (by decide +kernel) rfl rfl (Nat.le_of_ble_eq_true rfl) dX5_passOne_45 (fun H locs hP _ hS => ?_)
      have hP : va_P D vwCl ((bX5 cI cJ cC a_M M_pipes M_used M_taped M_at M_statements M_hasImage M_isKeeping (M_cursor + (1 : Int32)) M_nextAt M_nextMost M_rowMany M_refused M_setting M_hole M_pipeAt M_chance M_weight M_tape M_letter M_letterAt M_told (upd M_kept M_cursor.toNatClampNeg p1) M_then M_row)) H := hP
      refine lv_iload_n hx hb dX5_passOne_48 rfl (lv_at hl 0 rfl) ?_
      exact hret (M_kept M_cursor.toNatClampNeg) (M_cursor + (1 : Int32), upd M_kept M_cursor.toNatClampNeg p1) _ _ _ _ rfl h hP hS dX5_passOne_49
  · replace h := h.2 z
    refine lv_iload_n hx hb dX5_passOne_7 rfl (lv_at hl 1 rfl) ?_
    refine lv_goto (tgt := 20) hx hb dX5_passOne_8 (by decide) ?_
    refine lv_istore_n (lv' := [(2, .int p1), (0, .ref (a_M 0)), (1, .int p1)]) hx hb dX5_passOne_20 rfl hl (by decide) rfl (fun ls hl => ?_)
    refine lv_aload_n hx hb dX5_passOne_21 rfl (lv_at hl 1 rfl) ?_
    refine va_get (D := D) (ci := 5) (v := .int M_isKeeping) (C := RX5) (T := TX5) (N := 24) hx hb ht inX5 hown hK hP 0 rfl rfl 17 (by decide) (ht _ fl_X5_145) (fun _ h9 => h9) rfl dX5_passOne_22 ?_
    refine lv_if_eq (tgt := 38) hx hb dX5_passOne_25 (by decide) (fun z => ?_) (fun z => ?_)
    · replace h := h.1 z
      refine lv_aload_n hx hb dX5_passOne_38 rfl (lv_at hl 1 rfl) ?_
      refine lv_dup hx hb dX5_passOne_39 rfl ?_
      refine va_get (D := D) (ci := 5) (v := .int M_cursor) (C := RX5) (T := TX5) (N := 24) hx hb ht inX5 hown hK hP 0 rfl rfl 18 (by decide) (ht _ fl_X5_149) (fun _ h9 => h9) rfl dX5_passOne_40 ?_
      refine lv_iconst (v := (1 : Int32)) hx hb dX5_passOne_43 (by decide) ?_
      refine lv_iadd hx hb dX5_passOne_44 ?_
      refine va_put (D := D) (ci := 5) (v := .int (M_cursor + (1 : Int32))) (ty := .int) (C := RX5) (T := TX5) (N := 24) hx hb ht inX5 tyX5 tyX5_ok nmX5 hown hK hP (hDD _ rfl) hS 0 rfl rfl 18 (by decide) (ht _ fl_X5_149) (fun _ h9 => h9) rfl (by decide +kernel) rfl rfl (Nat.le_of_ble_eq_true rfl) dX5_passOne_45 (fun H locs hP _ hS => ?_)
      have hP : va_P D vwCl ((bX5 cI cJ cC a_M M_pipes M_used M_taped M_at M_statements M_hasImage M_isKeeping (M_cursor + (1 : Int32)) M_nextAt M_nextMost M_rowMany M_refused M_setting M_hole M_pipeAt M_chance M_weight M_tape M_letter M_letterAt M_told M_kept M_then M_row)) H := hP
      refine lv_iload_n hx hb dX5_passOne_48 rfl (lv_at hl 0 rfl) ?_
      exact hret p1 (M_cursor + (1 : Int32), M_kept) _ _ _ _ rfl h hP hS dX5_passOne_49
    · replace h := h.2 z
      refine lv_aload_n hx hb dX5_passOne_28 rfl (lv_at hl 1 rfl) ?_
      refine va_get (D := D) (ci := 5) (v := .ref (a_M 11)) (C := RX5) (T := TX5) (N := 24) hx hb ht inX5 hown hK hP 0 rfl rfl 15 (by decide) (ht _ fl_X5_40) (fun _ h9 => h9) rfl dX5_passOne_29 ?_
      refine lv_aload_n hx hb dX5_passOne_32 rfl (lv_at hl 1 rfl) ?_
      refine va_get (D := D) (ci := 5) (v := .int M_cursor) (C := RX5) (T := TX5) (N := 24) hx hb ht inX5 hown hK hP 0 rfl rfl 18 (by decide) (ht _ fl_X5_149) (fun _ h9 => h9) rfl dX5_passOne_33 ?_
      refine lv_iload_n hx hb dX5_passOne_36 rfl (lv_at hl 2 rfl) ?_
      obtain ⟨hin, h⟩ := h
      refine va_iast hx hb hK hP (hDD _ rfl) hS 11 0 rfl rfl hin dX5_passOne_37 (fun H locs hP _ hS => ?_)
      have hP : va_P D vwCl ((bX5 cI cJ cC a_M M_pipes M_used M_taped M_at M_statements M_hasImage M_isKeeping M_cursor M_nextAt M_nextMost M_rowMany M_refused M_setting M_hole M_pipeAt M_chance M_weight M_tape M_letter M_letterAt M_told (upd M_kept M_cursor.toNatClampNeg p1) M_then M_row)) H := hP
      refine lv_aload_n hx hb dX5_passOne_38 rfl (lv_at hl 1 rfl) ?_
      refine lv_dup hx hb dX5_passOne_39 rfl ?_
      refine va_get (D := D) (ci := 5) (v := .int M_cursor) (C := RX5) (T := TX5) (N := 24) hx hb ht inX5 hown hK hP 0 rfl rfl 18 (by decide) (ht _ fl_X5_149) (fun _ h9 => h9) rfl dX5_passOne_40 ?_
      refine lv_iconst (v := (1 : Int32)) hx hb dX5_passOne_43 (by decide) ?_
      refine lv_iadd hx hb dX5_passOne_44 ?_
      refine va_put (D := D) (ci := 5) (v := .int (M_cursor + (1 : Int32))) (ty := .int) (C := RX5) (T := TX5) (N := 24) hx hb ht inX5 tyX5 tyX5_ok nmX5 hown hK hP (hDD _ rfl) hS 0 rfl rfl 18 (by decide) (ht _ fl_X5_149) (fun _ h9 => h9) rfl (by decide +kernel) rfl rfl (Nat.le_of_ble_eq_true rfl) dX5_passOne_45 (fun H locs hP _ hS => ?_)
      have hP : va_P D vwCl ((bX5 cI cJ cC a_M M_pipes M_used M_taped M_at M_statements M_hasImage M_isKeeping (M_cursor + (1 : Int32)) M_nextAt M_nextMost M_rowMany M_refused M_setting M_hole M_pipeAt M_chance M_weight M_tape M_letter M_letterAt M_told (upd M_kept M_cursor.toNatClampNeg p1) M_then M_row)) H := hP
      refine lv_iload_n hx hb dX5_passOne_48 rfl (lv_at hl 0 rfl) ?_
      exact hret p1 (M_cursor + (1 : Int32), upd M_kept M_cursor.toNatClampNeg p1) _ _ _ _ rfl h hP hS dX5_passOne_49
def wpX5_passesAll (post : Int32 → Int32 → Int32 → Int32 → (Nat → Int32) → (Nat → Int32) → (Nat → Int32) → (Nat → Int32) → (Nat → Int32) → (Nat → Int32) → Prop) (M_pipes : Int32) (M_used : Int32) (M_setting : Nat → Int32) (M_hole : Nat → Int32) (M_pipeAt : Nat → Int32) (M_chance : Nat → Int32) (M_weight : Nat → Int32) (M_kept : Nat → Int32) (p1 : Int32) (p2 : Int32) : Prop := (narrow .boolean (.int p2) = .int p2 ∧ fits .boolean (.int p2) = true) ∧ (wpX5_passes_M2 (fun (M_cursor_1 : Int32) (M_setting_2 : Nat → Int32) (M_kept_3 : Nat → Int32) => wpX5_passes_M3 (fun (M_cursor_4 : Int32) (M_hole_5 : Nat → Int32) (M_kept_6 : Nat → Int32) => wpX5_passes_M4 (fun (M_cursor_7 : Int32) (M_pipeAt_8 : Nat → Int32) (M_kept_9 : Nat → Int32) => wpX5_passes_M5 (fun (M_cursor_10 : Int32) (M_chance_11 : Nat → Int32) (M_kept_12 : Nat → Int32) => wpX5_passes_M6 (fun (M_cursor_13 : Int32) (M_weight_14 : Nat → Int32) (M_kept_15 : Nat → Int32) => wpX5_passOne (fun (r_16 : Int32) (M_cursor_17 : Int32) (M_kept_18 : Nat → Int32) => wpX5_passOne (fun (r_19 : Int32) (M_cursor_20 : Int32) (M_kept_21 : Nat → Int32) => post r_16 r_19 p2 M_cursor_20 M_setting_2 M_hole_5 M_pipeAt_8 M_chance_11 M_weight_14 M_kept_21) p2 M_cursor_17 M_kept_18 M_used) p2 M_cursor_13 M_kept_15 M_pipes) p2 M_cursor_10 M_weight M_kept_12) p2 M_cursor_7 M_chance M_kept_9) p2 M_cursor_4 M_pipeAt M_kept_6) p2 M_cursor_1 M_hole M_kept_3) p2 ((100 : Int32) * p1) M_setting M_kept)
set_option maxHeartbeats 4000000 in
set_option maxRecDepth 100000 in
theorem mX5_passesAll (l : Launch) (D : va_G) (cI cJ cC : ClassId) (G : Nat → Nat → Nat) (a_M : Nat → Nat) (sz : Nat) (M_pipes : Int32) (M_used : Int32) (M_taped : Int32) (M_at : Int32) (M_statements : Int32) (M_hasImage : Int32) (M_isKeeping : Int32) (M_cursor : Int32) (M_nextAt : Int32) (M_nextMost : Int64) (M_rowMany : Int32) (M_refused : Nat → Int32) (M_setting : Nat → Int32) (M_hole : Nat → Int32) (M_pipeAt : Nat → Int32) (M_chance : Nat → Int32) (M_weight : Nat → Int32) (M_tape : Nat → Int32) (M_letter : Nat → Int32) (M_letterAt : Nat → Int32) (M_told : Nat → Int32) (M_kept : Nat → Int32) (M_then : Nat → Int64) (M_row : Nat → Int32) (p1 : Int32) (p2 : Int32) (post : Int32 → Int32 → Int32 → Int32 → (Nat → Int32) → (Nat → Int32) → (Nat → Int32) → (Nat → Int32) → (Nat → Int32) → (Nat → Int32) → Prop) (h : wpX5_passesAll post M_pipes M_used M_setting M_hole M_pipeAt M_chance M_weight M_kept p1 p2) : Met l yX5_passesAll (wz yX5_passesAll cX5_passesAll 3 none) ({ frames := 1, cells := 0, slots := 0, locals := 22 }) (va_Pc [.ref (a_M 0), .int p1, .int p2] (PW D (tz cI cJ cC) G ((bX5 cI cJ cC a_M M_pipes M_used M_taped M_at M_statements M_hasImage M_isKeeping M_cursor M_nextAt M_nextMost M_rowMany M_refused M_setting M_hole M_pipeAt M_chance M_weight M_tape M_letter M_letterAt M_told M_kept M_then M_row)) sz)) (va_Qv (fun (u : Int32 × Int32 × Int32 × Int32 × (Nat → Int32) × (Nat → Int32) × (Nat → Int32) × (Nat → Int32) × (Nat → Int32) × (Nat → Int32)) => post u.1 u.2.1 u.2.2.1 u.2.2.2.1 u.2.2.2.2.1 u.2.2.2.2.2.1 u.2.2.2.2.2.2.1 u.2.2.2.2.2.2.2.1 u.2.2.2.2.2.2.2.2.1 u.2.2.2.2.2.2.2.2.2) (fun (u : Int32 × Int32 × Int32 × Int32 × (Nat → Int32) × (Nat → Int32) × (Nat → Int32) × (Nat → Int32) × (Nat → Int32) × (Nat → Int32)) t => va_P D vwCl ((bX5 cI cJ cC a_M u.1 u.2.1 M_taped M_at M_statements M_hasImage u.2.2.1 u.2.2.2.1 M_nextAt M_nextMost M_rowMany M_refused u.2.2.2.2.1 u.2.2.2.2.2.1 u.2.2.2.2.2.2.1 u.2.2.2.2.2.2.2.1 u.2.2.2.2.2.2.2.2.1 M_tape M_letter M_letterAt M_told u.2.2.2.2.2.2.2.2.2 M_then M_row)) t.heap) (va_A ((bX5 cI cJ cC a_M M_pipes M_used M_taped M_at M_statements M_hasImage M_isKeeping M_cursor M_nextAt M_nextMost M_rowMany M_refused M_setting M_hole M_pipeAt M_chance M_weight M_tape M_letter M_letterAt M_told M_kept M_then M_row)) sz)) 0 0 (va_A ((bX5 cI cJ cC a_M M_pipes M_used M_taped M_at M_statements M_hasImage M_isKeeping M_cursor M_nextAt M_nextMost M_rowMany M_refused M_setting M_hole M_pipeAt M_chance M_weight M_tape M_letter M_letterAt M_told M_kept M_then M_row)) sz) := by
  refine zmv (gw := fun (u : Int32 × Int32 × Int32 × Int32 × (Nat → Int32) × (Nat → Int32) × (Nat → Int32) × (Nat → Int32) × (Nat → Int32) × (Nat → Int32)) => (bX5 cI cJ cC a_M u.1 u.2.1 M_taped M_at M_statements M_hasImage u.2.2.1 u.2.2.2.1 M_nextAt M_nextMost M_rowMany M_refused u.2.2.2.2.1 u.2.2.2.2.2.1 u.2.2.2.2.2.2.1 u.2.2.2.2.2.2.2.1 u.2.2.2.2.2.2.2.2.1 M_tape M_letter M_letterAt M_told u.2.2.2.2.2.2.2.2.2 M_then M_row)) (plainFor_of_name (by decide)) (Nat.le_of_ble_eq_true rfl) ?_
  intro p e s m below meth c A Q ls S hK hD hA hE hP hl hret
  obtain ⟨hx, hb, hml, hown, ht⟩ := id S
  have hS : va_S A s.heap s.heap [] := va_S.rf
  have hDD : ∀ ws : va_W, ws.map (fun q => q.1) = [a_M 0, a_M 1, a_M 2, a_M 3, a_M 4, a_M 5, a_M 6, a_M 7, a_M 8, a_M 9, a_M 10, a_M 11, a_M 12, a_M 13] → va_D A ws := fun ws hw => zD hD (hw.trans rfl)
  have hl : lv_has ls 3 [(0, .ref (a_M 0)), (1, .int p1), (2, .int p2)] := hl
  unfold wpX5_passesAll at h
  refine lv_aload_n hx hb dX5_passesAll_0 rfl (lv_at hl 0 rfl) ?_
  refine lv_bipush (v := (100 : Int32)) hx hb dX5_passesAll_1 (by decide) ?_
  refine lv_iload_n hx hb dX5_passesAll_3 rfl (lv_at hl 1 rfl) ?_
  refine lv_imul hx hb dX5_passesAll_4 ?_
  refine va_put (D := D) (ci := 5) (v := .int ((100 : Int32) * p1)) (ty := .int) (C := RX5) (T := TX5) (N := 24) hx hb ht inX5 tyX5 tyX5_ok nmX5 hown hK hP (hDD _ rfl) hS 0 rfl rfl 18 (by decide) (ht _ fl_X5_149) (fun _ h9 => h9) rfl (by decide +kernel) rfl rfl (Nat.le_of_ble_eq_true rfl) dX5_passesAll_5 (fun H locs hP _ hS => ?_)
  have hP : va_P D vwCl ((bX5 cI cJ cC a_M M_pipes M_used M_taped M_at M_statements M_hasImage M_isKeeping ((100 : Int32) * p1) M_nextAt M_nextMost M_rowMany M_refused M_setting M_hole M_pipeAt M_chance M_weight M_tape M_letter M_letterAt M_told M_kept M_then M_row)) H := hP
  refine lv_aload_n hx hb dX5_passesAll_8 rfl (lv_at hl 0 rfl) ?_
  refine lv_iload_n hx hb dX5_passesAll_9 rfl (lv_at hl 2 rfl) ?_
  obtain ⟨⟨hn, hf⟩, h⟩ := h
  refine va_put (D := D) (ci := 5) (v := .int p2) (ty := .boolean) (C := RX5) (T := TX5) (N := 24) hx hb ht inX5 tyX5 tyX5_ok nmX5 hown hK hP (hDD _ rfl) hS 0 rfl rfl 17 (by decide) (ht _ fl_X5_145) (fun _ h9 => h9) rfl (by decide +kernel) hn hf (Nat.le_of_ble_eq_true rfl) dX5_passesAll_10 (fun H locs hP _ hS => ?_)
  have hP : va_P D vwCl ((bX5 cI cJ cC a_M M_pipes M_used M_taped M_at M_statements M_hasImage p2 ((100 : Int32) * p1) M_nextAt M_nextMost M_rowMany M_refused M_setting M_hole M_pipeAt M_chance M_weight M_tape M_letter M_letterAt M_told M_kept M_then M_row)) H := hP
  refine lv_aload_n hx hb dX5_passesAll_13 rfl (lv_at hl 0 rfl) ?_
  refine lv_aload_n hx hb dX5_passesAll_14 rfl (lv_at hl 0 rfl) ?_
  refine va_get (D := D) (ci := 5) (v := .ref (a_M 2)) (C := RX5) (T := TX5) (N := 24) hx hb ht inX5 hown hK hP 0 rfl rfl 1 (by decide) (ht _ fl_X5_13) (fun _ h9 => h9) rfl dX5_passesAll_15 ?_
  refine zcv hA (hDD _ rfl) hS (zrunV (As := [.ref (a_M 2)]) (rest := []) S hK hA hE hP (hDD _ rfl) hS (mX5_passes_M2 l D cI cJ cC G a_M _ M_pipes M_used M_taped M_at M_statements M_hasImage p2 ((100 : Int32) * p1) M_nextAt M_nextMost M_rowMany M_refused M_setting M_hole M_pipeAt M_chance M_weight M_tape M_letter M_letterAt M_told M_kept M_then M_row _ h) kX5_passes ml_X5_152 ⟨rfl, rfl, by decide, by decide⟩ (q0 := 0) (ci := 5) rfl rfl rfl rfl hl.1 rfl (Nat.le_of_ble_eq_true rfl) dX5_passesAll_18 ⟨Nat.zero_le _, Nat.zero_le _⟩) (fun u H locs h hP1 hk1 hS => ?_)
  obtain ⟨M_cursor_1, M_setting_2, M_kept_3⟩ := u
  dsimp only at h
  have hP : va_P D vwCl ((bX5 cI cJ cC a_M M_pipes M_used M_taped M_at M_statements M_hasImage p2 M_cursor_1 M_nextAt M_nextMost M_rowMany M_refused M_setting_2 M_hole M_pipeAt M_chance M_weight M_tape M_letter M_letterAt M_told M_kept_3 M_then M_row)) H := hP1
  refine lv_aload_n hx hb dX5_passesAll_21 rfl (lv_at hl 0 rfl) ?_
  refine lv_aload_n hx hb dX5_passesAll_22 rfl (lv_at hl 0 rfl) ?_
  refine va_get (D := D) (ci := 5) (v := .ref (a_M 3)) (C := RX5) (T := TX5) (N := 24) hx hb ht inX5 hown hK hP 0 rfl rfl 2 (by decide) (ht _ fl_X5_16) (fun _ h9 => h9) rfl dX5_passesAll_23 ?_
  refine zcv hA (hDD _ rfl) hS (zrunV (As := [.ref (a_M 3)]) (rest := []) S hK hA hE hP (hDD _ rfl) hS (mX5_passes_M3 l D cI cJ cC G a_M _ M_pipes M_used M_taped M_at M_statements M_hasImage p2 M_cursor_1 M_nextAt M_nextMost M_rowMany M_refused M_setting_2 M_hole M_pipeAt M_chance M_weight M_tape M_letter M_letterAt M_told M_kept_3 M_then M_row _ h) kX5_passes ml_X5_152 ⟨rfl, rfl, by decide, by decide⟩ (q0 := 0) (ci := 5) rfl rfl rfl rfl hl.1 rfl (Nat.le_of_ble_eq_true rfl) dX5_passesAll_26 ⟨Nat.zero_le _, Nat.zero_le _⟩) (fun u H locs h hP1 hk1 hS => ?_)
  obtain ⟨M_cursor_4, M_hole_5, M_kept_6⟩ := u
  dsimp only at h
  have hP : va_P D vwCl ((bX5 cI cJ cC a_M M_pipes M_used M_taped M_at M_statements M_hasImage p2 M_cursor_4 M_nextAt M_nextMost M_rowMany M_refused M_setting_2 M_hole_5 M_pipeAt M_chance M_weight M_tape M_letter M_letterAt M_told M_kept_6 M_then M_row)) H := hP1
  refine lv_aload_n hx hb dX5_passesAll_29 rfl (lv_at hl 0 rfl) ?_
  refine lv_aload_n hx hb dX5_passesAll_30 rfl (lv_at hl 0 rfl) ?_
  refine va_get (D := D) (ci := 5) (v := .ref (a_M 4)) (C := RX5) (T := TX5) (N := 24) hx hb ht inX5 hown hK hP 0 rfl rfl 3 (by decide) (ht _ fl_X5_19) (fun _ h9 => h9) rfl dX5_passesAll_31 ?_
  refine zcv hA (hDD _ rfl) hS (zrunV (As := [.ref (a_M 4)]) (rest := []) S hK hA hE hP (hDD _ rfl) hS (mX5_passes_M4 l D cI cJ cC G a_M _ M_pipes M_used M_taped M_at M_statements M_hasImage p2 M_cursor_4 M_nextAt M_nextMost M_rowMany M_refused M_setting_2 M_hole_5 M_pipeAt M_chance M_weight M_tape M_letter M_letterAt M_told M_kept_6 M_then M_row _ h) kX5_passes ml_X5_152 ⟨rfl, rfl, by decide, by decide⟩ (q0 := 0) (ci := 5) rfl rfl rfl rfl hl.1 rfl (Nat.le_of_ble_eq_true rfl) dX5_passesAll_34 ⟨Nat.zero_le _, Nat.zero_le _⟩) (fun u H locs h hP1 hk1 hS => ?_)
  obtain ⟨M_cursor_7, M_pipeAt_8, M_kept_9⟩ := u
  dsimp only at h
  have hP : va_P D vwCl ((bX5 cI cJ cC a_M M_pipes M_used M_taped M_at M_statements M_hasImage p2 M_cursor_7 M_nextAt M_nextMost M_rowMany M_refused M_setting_2 M_hole_5 M_pipeAt_8 M_chance M_weight M_tape M_letter M_letterAt M_told M_kept_9 M_then M_row)) H := hP1
  refine lv_aload_n hx hb dX5_passesAll_37 rfl (lv_at hl 0 rfl) ?_
  refine lv_aload_n hx hb dX5_passesAll_38 rfl (lv_at hl 0 rfl) ?_
  refine va_get (D := D) (ci := 5) (v := .ref (a_M 5)) (C := RX5) (T := TX5) (N := 24) hx hb ht inX5 hown hK hP 0 rfl rfl 4 (by decide) (ht _ fl_X5_22) (fun _ h9 => h9) rfl dX5_passesAll_39 ?_
  refine zcv hA (hDD _ rfl) hS (zrunV (As := [.ref (a_M 5)]) (rest := []) S hK hA hE hP (hDD _ rfl) hS (mX5_passes_M5 l D cI cJ cC G a_M _ M_pipes M_used M_taped M_at M_statements M_hasImage p2 M_cursor_7 M_nextAt M_nextMost M_rowMany M_refused M_setting_2 M_hole_5 M_pipeAt_8 M_chance M_weight M_tape M_letter M_letterAt M_told M_kept_9 M_then M_row _ h) kX5_passes ml_X5_152 ⟨rfl, rfl, by decide, by decide⟩ (q0 := 0) (ci := 5) rfl rfl rfl rfl hl.1 rfl (Nat.le_of_ble_eq_true rfl) dX5_passesAll_42 ⟨Nat.zero_le _, Nat.zero_le _⟩) (fun u H locs h hP1 hk1 hS => ?_)
  obtain ⟨M_cursor_10, M_chance_11, M_kept_12⟩ := u
  dsimp only at h
  have hP : va_P D vwCl ((bX5 cI cJ cC a_M M_pipes M_used M_taped M_at M_statements M_hasImage p2 M_cursor_10 M_nextAt M_nextMost M_rowMany M_refused M_setting_2 M_hole_5 M_pipeAt_8 M_chance_11 M_weight M_tape M_letter M_letterAt M_told M_kept_12 M_then M_row)) H := hP1
  refine lv_aload_n hx hb dX5_passesAll_45 rfl (lv_at hl 0 rfl) ?_
  refine lv_aload_n hx hb dX5_passesAll_46 rfl (lv_at hl 0 rfl) ?_
  refine va_get (D := D) (ci := 5) (v := .ref (a_M 6)) (C := RX5) (T := TX5) (N := 24) hx hb ht inX5 hown hK hP 0 rfl rfl 5 (by decide) (ht _ fl_X5_25) (fun _ h9 => h9) rfl dX5_passesAll_47 ?_
  refine zcv hA (hDD _ rfl) hS (zrunV (As := [.ref (a_M 6)]) (rest := []) S hK hA hE hP (hDD _ rfl) hS (mX5_passes_M6 l D cI cJ cC G a_M _ M_pipes M_used M_taped M_at M_statements M_hasImage p2 M_cursor_10 M_nextAt M_nextMost M_rowMany M_refused M_setting_2 M_hole_5 M_pipeAt_8 M_chance_11 M_weight M_tape M_letter M_letterAt M_told M_kept_12 M_then M_row _ h) kX5_passes ml_X5_152 ⟨rfl, rfl, by decide, by decide⟩ (q0 := 0) (ci := 5) rfl rfl rfl rfl hl.1 rfl (Nat.le_of_ble_eq_true rfl) dX5_passesAll_50 ⟨Nat.zero_le _, Nat.zero_le _⟩) (fun u H locs h hP1 hk1 hS => ?_)
  obtain ⟨M_cursor_13, M_weight_14, M_kept_15⟩ := u
  dsimp only at h
  have hP : va_P D vwCl ((bX5 cI cJ cC a_M M_pipes M_used M_taped M_at M_statements M_hasImage p2 M_cursor_13 M_nextAt M_nextMost M_rowMany M_refused M_setting_2 M_hole_5 M_pipeAt_8 M_chance_11 M_weight_14 M_tape M_letter M_letterAt M_told M_kept_15 M_then M_row)) H := hP1
  refine lv_aload_n hx hb dX5_passesAll_53 rfl (lv_at hl 0 rfl) ?_
  refine lv_aload_n hx hb dX5_passesAll_54 rfl (lv_at hl 0 rfl) ?_
  refine lv_aload_n hx hb dX5_passesAll_55 rfl (lv_at hl 0 rfl) ?_
  refine va_get (D := D) (ci := 5) (v := .int M_pipes) (C := RX5) (T := TX5) (N := 24) hx hb ht inX5 hown hK hP 0 rfl rfl 6 (by decide) (ht _ fl_X5_128) (fun _ h9 => h9) rfl dX5_passesAll_56 ?_
  refine zci hA (hDD _ rfl) hS (zrunV (As := [.int M_pipes]) (rest := [.ref (a_M 0)]) S hK hA hE hP (hDD _ rfl) hS (mX5_passOne l D cI cJ cC G a_M _ M_pipes M_used M_taped M_at M_statements M_hasImage p2 M_cursor_13 M_nextAt M_nextMost M_rowMany M_refused M_setting_2 M_hole_5 M_pipeAt_8 M_chance_11 M_weight_14 M_tape M_letter M_letterAt M_told M_kept_15 M_then M_row M_pipes _ h) kX5_passOne ml_X5_156 ⟨rfl, rfl, by decide, by decide⟩ (q0 := 0) (ci := 5) rfl rfl rfl rfl hl.1 rfl (Nat.le_of_ble_eq_true rfl) dX5_passesAll_59 ⟨Nat.zero_le _, Nat.zero_le _⟩) (fun r_16 u H locs h hP1 hk1 hS => ?_)
  obtain ⟨M_cursor_17, M_kept_18⟩ := u
  dsimp only at h
  have hP : va_P D vwCl ((bX5 cI cJ cC a_M M_pipes M_used M_taped M_at M_statements M_hasImage p2 M_cursor_17 M_nextAt M_nextMost M_rowMany M_refused M_setting_2 M_hole_5 M_pipeAt_8 M_chance_11 M_weight_14 M_tape M_letter M_letterAt M_told M_kept_18 M_then M_row)) H := hP1
  refine va_put (D := D) (ci := 5) (v := .int r_16) (ty := .int) (C := RX5) (T := TX5) (N := 24) hx hb ht inX5 tyX5 tyX5_ok nmX5 hown hK hP (hDD _ rfl) hS 0 rfl rfl 6 (by decide) (ht _ fl_X5_128) (fun _ h9 => h9) rfl (by decide +kernel) rfl rfl (Nat.le_of_ble_eq_true rfl) dX5_passesAll_62 (fun H locs hP _ hS => ?_)
  have hP : va_P D vwCl ((bX5 cI cJ cC a_M r_16 M_used M_taped M_at M_statements M_hasImage p2 M_cursor_17 M_nextAt M_nextMost M_rowMany M_refused M_setting_2 M_hole_5 M_pipeAt_8 M_chance_11 M_weight_14 M_tape M_letter M_letterAt M_told M_kept_18 M_then M_row)) H := hP
  refine lv_aload_n hx hb dX5_passesAll_65 rfl (lv_at hl 0 rfl) ?_
  refine lv_aload_n hx hb dX5_passesAll_66 rfl (lv_at hl 0 rfl) ?_
  refine lv_aload_n hx hb dX5_passesAll_67 rfl (lv_at hl 0 rfl) ?_
  refine va_get (D := D) (ci := 5) (v := .int M_used) (C := RX5) (T := TX5) (N := 24) hx hb ht inX5 hown hK hP 0 rfl rfl 7 (by decide) (ht _ fl_X5_55) (fun _ h9 => h9) rfl dX5_passesAll_68 ?_
  refine zci hA (hDD _ rfl) hS (zrunV (As := [.int M_used]) (rest := [.ref (a_M 0)]) S hK hA hE hP (hDD _ rfl) hS (mX5_passOne l D cI cJ cC G a_M _ r_16 M_used M_taped M_at M_statements M_hasImage p2 M_cursor_17 M_nextAt M_nextMost M_rowMany M_refused M_setting_2 M_hole_5 M_pipeAt_8 M_chance_11 M_weight_14 M_tape M_letter M_letterAt M_told M_kept_18 M_then M_row M_used _ h) kX5_passOne ml_X5_156 ⟨rfl, rfl, by decide, by decide⟩ (q0 := 0) (ci := 5) rfl rfl rfl rfl hl.1 rfl (Nat.le_of_ble_eq_true rfl) dX5_passesAll_71 ⟨Nat.zero_le _, Nat.zero_le _⟩) (fun r_19 u H locs h hP1 hk1 hS => ?_)
  obtain ⟨M_cursor_20, M_kept_21⟩ := u
  dsimp only at h
  have hP : va_P D vwCl ((bX5 cI cJ cC a_M r_16 M_used M_taped M_at M_statements M_hasImage p2 M_cursor_20 M_nextAt M_nextMost M_rowMany M_refused M_setting_2 M_hole_5 M_pipeAt_8 M_chance_11 M_weight_14 M_tape M_letter M_letterAt M_told M_kept_21 M_then M_row)) H := hP1
  refine va_put (D := D) (ci := 5) (v := .int r_19) (ty := .int) (C := RX5) (T := TX5) (N := 24) hx hb ht inX5 tyX5 tyX5_ok nmX5 hown hK hP (hDD _ rfl) hS 0 rfl rfl 7 (by decide) (ht _ fl_X5_55) (fun _ h9 => h9) rfl (by decide +kernel) rfl rfl (Nat.le_of_ble_eq_true rfl) dX5_passesAll_74 (fun H locs hP _ hS => ?_)
  have hP : va_P D vwCl ((bX5 cI cJ cC a_M r_16 r_19 M_taped M_at M_statements M_hasImage p2 M_cursor_20 M_nextAt M_nextMost M_rowMany M_refused M_setting_2 M_hole_5 M_pipeAt_8 M_chance_11 M_weight_14 M_tape M_letter M_letterAt M_told M_kept_21 M_then M_row)) H := hP
  exact hret (r_16, r_19, p2, M_cursor_20, M_setting_2, M_hole_5, M_pipeAt_8, M_chance_11, M_weight_14, M_kept_21) _ _ _ _ h hP hS dX5_passesAll_77
def lpX5_wall_12 (K : Int32 → Int32 → Int32 → (Nat → Int32) → (Nat → Int32) → (Nat → Int32) → Prop) (M_taped : Int32) (M_tape : Nat → Int32) : Nat → Int32 → Int32 → Int32 → (Nat → Int32) → (Nat → Int32) → (Nat → Int32) → Prop
  | 0, _, _, _, _, _, _ => False
  | n + 1, x1, M_at, M_statements, M_letter, M_letterAt, M_told => ((x1 = (0 : Int32) → (K x1 M_at M_statements M_letter M_letterAt M_told)) ∧ (¬ (x1 = (0 : Int32)) → (((M_at < M_taped → (wpX5_statement (fun (r_1 : Int32) (M_at_2 : Int32) (M_letter_3 : Nat → Int32) (M_letterAt_4 : Nat → Int32) (M_told_5 : Nat → Int32) => ((r_1 = (0 : Int32) → (lpX5_wall_12 K M_taped M_tape n r_1 M_at_2 (M_statements + (0 : Int32)) M_letter_3 M_letterAt_4 M_told_5)) ∧ (¬ (r_1 = (0 : Int32)) → (lpX5_wall_12 K M_taped M_tape n r_1 M_at_2 (M_statements + (1 : Int32)) M_letter_3 M_letterAt_4 M_told_5)))) M_taped M_at M_statements M_tape M_letter M_letterAt M_told)) ∧ (¬ (M_at < M_taped) → (((M_statements = (0 : Int32) → (wpX5_statement (fun (r_6 : Int32) (M_at_7 : Int32) (M_letter_8 : Nat → Int32) (M_letterAt_9 : Nat → Int32) (M_told_10 : Nat → Int32) => ((r_6 = (0 : Int32) → (lpX5_wall_12 K M_taped M_tape n r_6 M_at_7 (M_statements + (0 : Int32)) M_letter_8 M_letterAt_9 M_told_10)) ∧ (¬ (r_6 = (0 : Int32)) → (lpX5_wall_12 K M_taped M_tape n r_6 M_at_7 (M_statements + (1 : Int32)) M_letter_8 M_letterAt_9 M_told_10)))) M_taped M_at M_statements M_tape M_letter M_letterAt M_told)) ∧ (¬ (M_statements = (0 : Int32)) → (K x1 M_at M_statements M_letter M_letterAt M_told)))))))))
set_option maxHeartbeats 4000000 in
set_option maxRecDepth 100000 in
theorem wX5_wall_12 (l : Launch) (D : va_G) (cI cJ cC : ClassId) (G : Nat → Nat → Nat) (a_M : Nat → Nat) {p : Program} {e : Env} {s : State} {m : MethodId} {below : List Frame} {meth : Method} {c : Code} {A : Nat → Prop} {Q : State → Prop} (M_pipes : Int32) (M_used : Int32) (M_taped : Int32) (M_hasImage : Int32) (M_isKeeping : Int32) (M_cursor : Int32) (M_nextAt : Int32) (M_nextMost : Int64) (M_rowMany : Int32) (M_refused : Nat → Int32) (M_setting : Nat → Int32) (M_hole : Nat → Int32) (M_pipeAt : Nat → Int32) (M_chance : Nat → Int32) (M_weight : Nat → Int32) (M_tape : Nat → Int32) (M_kept : Nat → Int32) (M_then : Nat → Int64) (M_row : Nat → Int32) (K : Int32 → Int32 → Int32 → (Nat → Int32) → (Nat → Int32) → (Nat → Int32) → Prop) (S : CallFix p m c cX5_wall 3 s ([.ref (a_M 0)] : List Value).toArray bg RX5) (hK : va_K D vwCl (tz cI cJ cC) s) (hDD : ∀ ws : va_W, ws.map (fun q => q.1) = [a_M 0, a_M 1, a_M 2, a_M 3, a_M 4, a_M 5, a_M 6, a_M 7, a_M 8, a_M 9, a_M 10, a_M 11, a_M 12, a_M 13] → va_D A ws) (hA : ∀ q, s.heap.size ≤ q → A q) (hE : EV G A s) (hKK : ∀ (x1 : Int32) (M_at : Int32) (M_statements : Int32) (M_letter : Nat → Int32) (M_letterAt : Nat → Int32) (M_told : Nat → Int32) (H : Heap) (locs : List Loc) (ls : Array Slot), K x1 M_at M_statements M_letter M_letterAt M_told → va_P D vwCl ((bX5 cI cJ cC a_M M_pipes M_used M_taped M_at M_statements M_hasImage M_isKeeping M_cursor M_nextAt M_nextMost M_rowMany M_refused M_setting M_hole M_pipeAt M_chance M_weight M_tape M_letter M_letterAt M_told M_kept M_then M_row)) H → va_S A s.heap H locs → lv_has ls 3 [(0, .ref (a_M 0)), (1, .int x1)] → W p l e ({ frames := 7, cells := 0, slots := 0, locals := 160 }) s m ([.ref (a_M 0)] : List Value).toArray below meth c H locs 0 0 Q (F0 m 60 ls [])) :
    ∀ (n : Nat) (x1 : Int32) (M_at : Int32) (M_statements : Int32) (M_letter : Nat → Int32) (M_letterAt : Nat → Int32) (M_told : Nat → Int32) (H : Heap) (locs : List Loc) (ls : Array Slot), lpX5_wall_12 K M_taped M_tape n x1 M_at M_statements M_letter M_letterAt M_told → va_P D vwCl ((bX5 cI cJ cC a_M M_pipes M_used M_taped M_at M_statements M_hasImage M_isKeeping M_cursor M_nextAt M_nextMost M_rowMany M_refused M_setting M_hole M_pipeAt M_chance M_weight M_tape M_letter M_letterAt M_told M_kept M_then M_row)) H → va_S A s.heap H locs → lv_has ls 3 [(0, .ref (a_M 0)), (1, .int x1)] → W p l e ({ frames := 7, cells := 0, slots := 0, locals := 160 }) s m ([.ref (a_M 0)] : List Value).toArray below meth c H locs 0 0 Q (F0 m 12 ls []) := by
  obtain ⟨hx, hb, hml, hown, ht⟩ := id S
  intro n
  induction n with
  | zero =>
    intro x1 M_at M_statements M_letter M_letterAt M_told H locs ls h
    exact absurd h (by simp [lpX5_wall_12])
  | succ n ih =>
    intro x1 M_at M_statements M_letter M_letterAt M_told H locs ls h hP hS hl
    rw [lpX5_wall_12] at h
    refine lv_iload_n hx hb dX5_wall_12 rfl (lv_at hl 1 rfl) ?_
    refine lv_if_eq (tgt := 60) hx hb dX5_wall_13 (by decide) (fun z => ?_) (fun z => ?_)
    · replace h := h.1 z
      exact hKK x1 M_at M_statements M_letter M_letterAt M_told _ _ _ h hP hS (lv_sub hl [0, 1] rfl)
    · replace h := h.2 z
      refine lv_aload_n hx hb dX5_wall_16 rfl (lv_at hl 0 rfl) ?_
      refine va_get (D := D) (ci := 5) (v := .int M_at) (C := RX5) (T := TX5) (N := 24) hx hb ht inX5 hown hK hP 0 rfl rfl 13 (by decide) (ht _ fl_X5_70) (fun _ h9 => h9) rfl dX5_wall_17 ?_
      refine lv_aload_n hx hb dX5_wall_20 rfl (lv_at hl 0 rfl) ?_
      refine va_get (D := D) (ci := 5) (v := .int M_taped) (C := RX5) (T := TX5) (N := 24) hx hb ht inX5 hown hK hP 0 rfl rfl 12 (by decide) (ht _ fl_X5_63) (fun _ h9 => h9) rfl dX5_wall_21 ?_
      refine lv_icmp_lt (tgt := 34) hx hb dX5_wall_24 (by decide) (fun z => ?_) (fun z => ?_)
      · replace h := h.1 z
        refine lv_aload_n hx hb dX5_wall_34 rfl (lv_at hl 0 rfl) ?_
        refine zci hA (hDD _ rfl) hS (zrunV (As := []) (rest := []) S hK hA hE hP (hDD _ rfl) hS (mX5_statement l D cI cJ cC G a_M _ M_pipes M_used M_taped M_at M_statements M_hasImage M_isKeeping M_cursor M_nextAt M_nextMost M_rowMany M_refused M_setting M_hole M_pipeAt M_chance M_weight M_tape M_letter M_letterAt M_told M_kept M_then M_row _ h) kX5_statement ml_X5_134 ⟨rfl, rfl, by decide, by decide⟩ (q0 := 0) (ci := 5) rfl rfl rfl rfl hl.1 rfl (Nat.le_of_ble_eq_true rfl) dX5_wall_35 ⟨Nat.zero_le _, Nat.zero_le _⟩) (fun r_1 u H locs h hP1 hk1 hS => ?_)
        obtain ⟨M_at_2, M_letter_3, M_letterAt_4, M_told_5⟩ := u
        dsimp only at h
        have hP : va_P D vwCl ((bX5 cI cJ cC a_M M_pipes M_used M_taped M_at_2 M_statements M_hasImage M_isKeeping M_cursor M_nextAt M_nextMost M_rowMany M_refused M_setting M_hole M_pipeAt M_chance M_weight M_tape M_letter_3 M_letterAt_4 M_told_5 M_kept M_then M_row)) H := hP1
        refine lv_istore_n (lv' := [(1, .int r_1), (0, .ref (a_M 0))]) hx hb dX5_wall_38 rfl hl (by decide) rfl (fun ls hl => ?_)
        refine lv_aload_n hx hb dX5_wall_39 rfl (lv_at hl 1 rfl) ?_
        refine lv_dup hx hb dX5_wall_40 rfl ?_
        refine va_get (D := D) (ci := 5) (v := .int M_statements) (C := RX5) (T := TX5) (N := 24) hx hb ht inX5 hown hK hP 0 rfl rfl 14 (by decide) (ht _ fl_X5_97) (fun _ h9 => h9) rfl dX5_wall_41 ?_
        refine lv_iload_n hx hb dX5_wall_44 rfl (lv_at hl 0 rfl) ?_
        refine lv_if_eq (tgt := 52) hx hb dX5_wall_45 (by decide) (fun z => ?_) (fun z => ?_)
        · replace h := h.1 z
          refine lv_iconst (v := (0 : Int32)) hx hb dX5_wall_52 (by decide) ?_
          refine lv_iadd hx hb dX5_wall_53 ?_
          refine va_put (D := D) (ci := 5) (v := .int (M_statements + (0 : Int32))) (ty := .int) (C := RX5) (T := TX5) (N := 24) hx hb ht inX5 tyX5 tyX5_ok nmX5 hown hK hP (hDD _ rfl) hS 0 rfl rfl 14 (by decide) (ht _ fl_X5_97) (fun _ h9 => h9) rfl (by decide +kernel) rfl rfl (Nat.le_of_ble_eq_true rfl) dX5_wall_54 (fun H locs hP _ hS => ?_)
          have hP : va_P D vwCl ((bX5 cI cJ cC a_M M_pipes M_used M_taped M_at_2 (M_statements + (0 : Int32)) M_hasImage M_isKeeping M_cursor M_nextAt M_nextMost M_rowMany M_refused M_setting M_hole M_pipeAt M_chance M_weight M_tape M_letter_3 M_letterAt_4 M_told_5 M_kept M_then M_row)) H := hP
          refine lv_goto (tgt := 12) hx hb dX5_wall_57 (by decide) ?_
          exact ih r_1 M_at_2 (M_statements + (0 : Int32)) M_letter_3 M_letterAt_4 M_told_5 _ _ _ h hP hS (lv_sub hl [1, 0] rfl)
        · replace h := h.2 z
          refine lv_iconst (v := (1 : Int32)) hx hb dX5_wall_48 (by decide) ?_
          refine lv_goto (tgt := 53) hx hb dX5_wall_49 (by decide) ?_
          refine lv_iadd hx hb dX5_wall_53 ?_
          refine va_put (D := D) (ci := 5) (v := .int (M_statements + (1 : Int32))) (ty := .int) (C := RX5) (T := TX5) (N := 24) hx hb ht inX5 tyX5 tyX5_ok nmX5 hown hK hP (hDD _ rfl) hS 0 rfl rfl 14 (by decide) (ht _ fl_X5_97) (fun _ h9 => h9) rfl (by decide +kernel) rfl rfl (Nat.le_of_ble_eq_true rfl) dX5_wall_54 (fun H locs hP _ hS => ?_)
          have hP : va_P D vwCl ((bX5 cI cJ cC a_M M_pipes M_used M_taped M_at_2 (M_statements + (1 : Int32)) M_hasImage M_isKeeping M_cursor M_nextAt M_nextMost M_rowMany M_refused M_setting M_hole M_pipeAt M_chance M_weight M_tape M_letter_3 M_letterAt_4 M_told_5 M_kept M_then M_row)) H := hP
          refine lv_goto (tgt := 12) hx hb dX5_wall_57 (by decide) ?_
          exact ih r_1 M_at_2 (M_statements + (1 : Int32)) M_letter_3 M_letterAt_4 M_told_5 _ _ _ h hP hS (lv_sub hl [1, 0] rfl)
      · replace h := h.2 z
        refine lv_aload_n hx hb dX5_wall_27 rfl (lv_at hl 0 rfl) ?_
        refine va_get (D := D) (ci := 5) (v := .int M_statements) (C := RX5) (T := TX5) (N := 24) hx hb ht inX5 hown hK hP 0 rfl rfl 14 (by decide) (ht _ fl_X5_97) (fun _ h9 => h9) rfl dX5_wall_28 ?_
        refine lv_if_ne (tgt := 60) hx hb dX5_wall_31 (by decide) (fun z => ?_) (fun z => ?_)
        · replace h := h.2 z
          exact hKK x1 M_at M_statements M_letter M_letterAt M_told _ _ _ h hP hS (lv_sub hl [0, 1] rfl)
        · replace h := h.1 z
          refine lv_aload_n hx hb dX5_wall_34 rfl (lv_at hl 0 rfl) ?_
          refine zci hA (hDD _ rfl) hS (zrunV (As := []) (rest := []) S hK hA hE hP (hDD _ rfl) hS (mX5_statement l D cI cJ cC G a_M _ M_pipes M_used M_taped M_at M_statements M_hasImage M_isKeeping M_cursor M_nextAt M_nextMost M_rowMany M_refused M_setting M_hole M_pipeAt M_chance M_weight M_tape M_letter M_letterAt M_told M_kept M_then M_row _ h) kX5_statement ml_X5_134 ⟨rfl, rfl, by decide, by decide⟩ (q0 := 0) (ci := 5) rfl rfl rfl rfl hl.1 rfl (Nat.le_of_ble_eq_true rfl) dX5_wall_35 ⟨Nat.zero_le _, Nat.zero_le _⟩) (fun r_6 u H locs h hP1 hk1 hS => ?_)
          obtain ⟨M_at_7, M_letter_8, M_letterAt_9, M_told_10⟩ := u
          dsimp only at h
          have hP : va_P D vwCl ((bX5 cI cJ cC a_M M_pipes M_used M_taped M_at_7 M_statements M_hasImage M_isKeeping M_cursor M_nextAt M_nextMost M_rowMany M_refused M_setting M_hole M_pipeAt M_chance M_weight M_tape M_letter_8 M_letterAt_9 M_told_10 M_kept M_then M_row)) H := hP1
          refine lv_istore_n (lv' := [(1, .int r_6), (0, .ref (a_M 0))]) hx hb dX5_wall_38 rfl hl (by decide) rfl (fun ls hl => ?_)
          refine lv_aload_n hx hb dX5_wall_39 rfl (lv_at hl 1 rfl) ?_
          refine lv_dup hx hb dX5_wall_40 rfl ?_
          refine va_get (D := D) (ci := 5) (v := .int M_statements) (C := RX5) (T := TX5) (N := 24) hx hb ht inX5 hown hK hP 0 rfl rfl 14 (by decide) (ht _ fl_X5_97) (fun _ h9 => h9) rfl dX5_wall_41 ?_
          refine lv_iload_n hx hb dX5_wall_44 rfl (lv_at hl 0 rfl) ?_
          refine lv_if_eq (tgt := 52) hx hb dX5_wall_45 (by decide) (fun z => ?_) (fun z => ?_)
          · replace h := h.1 z
            refine lv_iconst (v := (0 : Int32)) hx hb dX5_wall_52 (by decide) ?_
            refine lv_iadd hx hb dX5_wall_53 ?_
            refine va_put (D := D) (ci := 5) (v := .int (M_statements + (0 : Int32))) (ty := .int) (C := RX5) (T := TX5) (N := 24) hx hb ht inX5 tyX5 tyX5_ok nmX5 hown hK hP (hDD _ rfl) hS 0 rfl rfl 14 (by decide) (ht _ fl_X5_97) (fun _ h9 => h9) rfl (by decide +kernel) rfl rfl (Nat.le_of_ble_eq_true rfl) dX5_wall_54 (fun H locs hP _ hS => ?_)
            have hP : va_P D vwCl ((bX5 cI cJ cC a_M M_pipes M_used M_taped M_at_7 (M_statements + (0 : Int32)) M_hasImage M_isKeeping M_cursor M_nextAt M_nextMost M_rowMany M_refused M_setting M_hole M_pipeAt M_chance M_weight M_tape M_letter_8 M_letterAt_9 M_told_10 M_kept M_then M_row)) H := hP
            refine lv_goto (tgt := 12) hx hb dX5_wall_57 (by decide) ?_
            exact ih r_6 M_at_7 (M_statements + (0 : Int32)) M_letter_8 M_letterAt_9 M_told_10 _ _ _ h hP hS (lv_sub hl [1, 0] rfl)
          · replace h := h.2 z
            refine lv_iconst (v := (1 : Int32)) hx hb dX5_wall_48 (by decide) ?_
            refine lv_goto (tgt := 53) hx hb dX5_wall_49 (by decide) ?_
            refine lv_iadd hx hb dX5_wall_53 ?_
            refine va_put (D := D) (ci := 5) (v := .int (M_statements + (1 : Int32))) (ty := .int) (C := RX5) (T := TX5) (N := 24) hx hb ht inX5 tyX5 tyX5_ok nmX5 hown hK hP (hDD _ rfl) hS 0 rfl rfl 14 (by decide) (ht _ fl_X5_97) (fun _ h9 => h9) rfl (by decide +kernel) rfl rfl (Nat.le_of_ble_eq_true rfl) dX5_wall_54 (fun H locs hP _ hS => ?_)
            have hP : va_P D vwCl ((bX5 cI cJ cC a_M M_pipes M_used M_taped M_at_7 (M_statements + (1 : Int32)) M_hasImage M_isKeeping M_cursor M_nextAt M_nextMost M_rowMany M_refused M_setting M_hole M_pipeAt M_chance M_weight M_tape M_letter_8 M_letterAt_9 M_told_10 M_kept M_then M_row)) H := hP
            refine lv_goto (tgt := 12) hx hb dX5_wall_57 (by decide) ?_
            exact ih r_6 M_at_7 (M_statements + (1 : Int32)) M_letter_8 M_letterAt_9 M_told_10 _ _ _ h hP hS (lv_sub hl [1, 0] rfl)
def lpX5_wall_86 (post : Int32 → Int32 → Int32 → Int32 → Int32 → Int32 → Int32 → Int32 → (Nat → Int32) → (Nat → Int32) → (Nat → Int32) → (Nat → Int32) → (Nat → Int32) → (Nat → Int32) → (Nat → Int32) → (Nat → Int32) → (Nat → Int32) → Prop) (K : Int32 → Int32 → Int32 → Int32 → Int32 → (Nat → Int32) → (Nat → Int32) → (Nat → Int32) → (Nat → Int32) → (Nat → Int32) → (Nat → Int32) → Prop) (M_taped : Int32) (M_at : Int32) (M_statements : Int32) (M_letter : Nat → Int32) (M_letterAt : Nat → Int32) (M_told : Nat → Int32) : Nat → Int32 → Int32 → Int32 → Int32 → Int32 → (Nat → Int32) → (Nat → Int32) → (Nat → Int32) → (Nat → Int32) → (Nat → Int32) → (Nat → Int32) → Prop
  | 0, _, _, _, _, _, _, _, _, _, _, _ => False
  | n + 1, x2, M_pipes, M_used, M_isKeeping, M_cursor, M_setting, M_hole, M_pipeAt, M_chance, M_weight, M_kept => ((M_statements ≤ x2 → (K x2 M_pipes M_used M_isKeeping M_cursor M_setting M_hole M_pipeAt M_chance M_weight M_kept)) ∧ (¬ (M_statements ≤ x2) → (wpX5_comes (fun (r_28 : Int32) (M_pipes_29 : Int32) (M_used_30 : Int32) (M_setting_31 : Nat → Int32) (M_hole_32 : Nat → Int32) (M_pipeAt_33 : Nat → Int32) (M_chance_34 : Nat → Int32) (M_weight_35 : Nat → Int32) => ((r_28 = (0 : Int32) → (wpX5_passesAll (fun (M_pipes_36 : Int32) (M_used_37 : Int32) (M_isKeeping_38 : Int32) (M_cursor_39 : Int32) (M_setting_40 : Nat → Int32) (M_hole_41 : Nat → Int32) (M_pipeAt_42 : Nat → Int32) (M_chance_43 : Nat → Int32) (M_weight_44 : Nat → Int32) (M_kept_45 : Nat → Int32) => vp_in x2 48 ∧ (post ((-2000 : Int32) - (M_letterAt x2.toNatClampNeg)) M_pipes_36 M_used_37 M_taped M_at M_statements M_isKeeping_38 M_cursor_39 M_setting_40 M_hole_41 M_pipeAt_42 M_chance_43 M_weight_44 M_letter M_letterAt M_told M_kept_45)) M_pipes_29 M_used_30 M_setting_31 M_hole_32 M_pipeAt_33 M_chance_34 M_weight_35 M_kept (1 : Int32) (0 : Int32))) ∧ (¬ (r_28 = (0 : Int32)) → (lpX5_wall_86 post K M_taped M_at M_statements M_letter M_letterAt M_told n (x2 + (1 : Int32)) M_pipes_29 M_used_30 M_isKeeping M_cursor M_setting_31 M_hole_32 M_pipeAt_33 M_chance_34 M_weight_35 M_kept)))) M_pipes M_used M_setting M_hole M_pipeAt M_chance M_weight M_letter M_told x2)))
set_option maxHeartbeats 4000000 in
set_option maxRecDepth 100000 in
theorem wX5_wall_86 (l : Launch) (D : va_G) (cI cJ cC : ClassId) (G : Nat → Nat → Nat) (a_M : Nat → Nat) {p : Program} {e : Env} {s : State} {m : MethodId} {below : List Frame} {meth : Method} {c : Code} {A : Nat → Prop} {Q : State → Prop} (M_taped : Int32) (M_at : Int32) (M_statements : Int32) (M_hasImage : Int32) (M_nextAt : Int32) (M_nextMost : Int64) (M_rowMany : Int32) (M_refused : Nat → Int32) (M_tape : Nat → Int32) (M_letter : Nat → Int32) (M_letterAt : Nat → Int32) (M_told : Nat → Int32) (M_then : Nat → Int64) (M_row : Nat → Int32) (post : Int32 → Int32 → Int32 → Int32 → Int32 → Int32 → Int32 → Int32 → (Nat → Int32) → (Nat → Int32) → (Nat → Int32) → (Nat → Int32) → (Nat → Int32) → (Nat → Int32) → (Nat → Int32) → (Nat → Int32) → (Nat → Int32) → Prop) (K : Int32 → Int32 → Int32 → Int32 → Int32 → (Nat → Int32) → (Nat → Int32) → (Nat → Int32) → (Nat → Int32) → (Nat → Int32) → (Nat → Int32) → Prop) (S : CallFix p m c cX5_wall 3 s ([.ref (a_M 0)] : List Value).toArray bg RX5) (hK : va_K D vwCl (tz cI cJ cC) s) (hDD : ∀ ws : va_W, ws.map (fun q => q.1) = [a_M 0, a_M 1, a_M 2, a_M 3, a_M 4, a_M 5, a_M 6, a_M 7, a_M 8, a_M 9, a_M 10, a_M 11, a_M 12, a_M 13] → va_D A ws) (hA : ∀ q, s.heap.size ≤ q → A q) (hE : EV G A s) (hret : ∀ (r : Int32) (u : Int32 × Int32 × Int32 × Int32 × Int32 × Int32 × Int32 × (Nat → Int32) × (Nat → Int32) × (Nat → Int32) × (Nat → Int32) × (Nat → Int32) × (Nat → Int32) × (Nat → Int32) × (Nat → Int32) × (Nat → Int32)) (H : Heap) (locs : List Loc) (ls : Array Slot) (pc : Nat), narrow .int (.int r) = .int r → post r u.1 u.2.1 u.2.2.1 u.2.2.2.1 u.2.2.2.2.1 u.2.2.2.2.2.1 u.2.2.2.2.2.2.1 u.2.2.2.2.2.2.2.1 u.2.2.2.2.2.2.2.2.1 u.2.2.2.2.2.2.2.2.2.1 u.2.2.2.2.2.2.2.2.2.2.1 u.2.2.2.2.2.2.2.2.2.2.2.1 u.2.2.2.2.2.2.2.2.2.2.2.2.1 u.2.2.2.2.2.2.2.2.2.2.2.2.2.1 u.2.2.2.2.2.2.2.2.2.2.2.2.2.2.1 u.2.2.2.2.2.2.2.2.2.2.2.2.2.2.2 → va_P D vwCl ((bX5 cI cJ cC a_M u.1 u.2.1 u.2.2.1 u.2.2.2.1 u.2.2.2.2.1 M_hasImage u.2.2.2.2.2.1 u.2.2.2.2.2.2.1 M_nextAt M_nextMost M_rowMany M_refused u.2.2.2.2.2.2.2.1 u.2.2.2.2.2.2.2.2.1 u.2.2.2.2.2.2.2.2.2.1 u.2.2.2.2.2.2.2.2.2.2.1 u.2.2.2.2.2.2.2.2.2.2.2.1 M_tape u.2.2.2.2.2.2.2.2.2.2.2.2.1 u.2.2.2.2.2.2.2.2.2.2.2.2.2.1 u.2.2.2.2.2.2.2.2.2.2.2.2.2.2.1 u.2.2.2.2.2.2.2.2.2.2.2.2.2.2.2 M_then M_row)) H → va_S A s.heap H locs → decode cX5_wall pc = .ok (.ireturn, 1) → W p l e ({ frames := 7, cells := 0, slots := 0, locals := 160 }) s m ([.ref (a_M 0)] : List Value).toArray below meth c H locs 0 0 Q (F0 m pc ls [.int r])) (hKK : ∀ (x2 : Int32) (M_pipes : Int32) (M_used : Int32) (M_isKeeping : Int32) (M_cursor : Int32) (M_setting : Nat → Int32) (M_hole : Nat → Int32) (M_pipeAt : Nat → Int32) (M_chance : Nat → Int32) (M_weight : Nat → Int32) (M_kept : Nat → Int32) (H : Heap) (locs : List Loc) (ls : Array Slot), K x2 M_pipes M_used M_isKeeping M_cursor M_setting M_hole M_pipeAt M_chance M_weight M_kept → va_P D vwCl ((bX5 cI cJ cC a_M M_pipes M_used M_taped M_at M_statements M_hasImage M_isKeeping M_cursor M_nextAt M_nextMost M_rowMany M_refused M_setting M_hole M_pipeAt M_chance M_weight M_tape M_letter M_letterAt M_told M_kept M_then M_row)) H → va_S A s.heap H locs → lv_has ls 3 [(0, .ref (a_M 0))] → W p l e ({ frames := 7, cells := 0, slots := 0, locals := 160 }) s m ([.ref (a_M 0)] : List Value).toArray below meth c H locs 0 0 Q (F0 m 128 ls [])) :
    ∀ (n : Nat) (x2 : Int32) (M_pipes : Int32) (M_used : Int32) (M_isKeeping : Int32) (M_cursor : Int32) (M_setting : Nat → Int32) (M_hole : Nat → Int32) (M_pipeAt : Nat → Int32) (M_chance : Nat → Int32) (M_weight : Nat → Int32) (M_kept : Nat → Int32) (H : Heap) (locs : List Loc) (ls : Array Slot), lpX5_wall_86 post K M_taped M_at M_statements M_letter M_letterAt M_told n x2 M_pipes M_used M_isKeeping M_cursor M_setting M_hole M_pipeAt M_chance M_weight M_kept → va_P D vwCl ((bX5 cI cJ cC a_M M_pipes M_used M_taped M_at M_statements M_hasImage M_isKeeping M_cursor M_nextAt M_nextMost M_rowMany M_refused M_setting M_hole M_pipeAt M_chance M_weight M_tape M_letter M_letterAt M_told M_kept M_then M_row)) H → va_S A s.heap H locs → lv_has ls 3 [(0, .ref (a_M 0)), (2, .int x2)] → W p l e ({ frames := 7, cells := 0, slots := 0, locals := 160 }) s m ([.ref (a_M 0)] : List Value).toArray below meth c H locs 0 0 Q (F0 m 86 ls []) := by
  obtain ⟨hx, hb, hml, hown, ht⟩ := id S
  intro n
  induction n with
  | zero =>
    intro x2 M_pipes M_used M_isKeeping M_cursor M_setting M_hole M_pipeAt M_chance M_weight M_kept H locs ls h
    exact absurd h (by simp [lpX5_wall_86])
  | succ n ih =>
    intro x2 M_pipes M_used M_isKeeping M_cursor M_setting M_hole M_pipeAt M_chance M_weight M_kept H locs ls h hP hS hl
    rw [lpX5_wall_86] at h
    refine lv_iload_n hx hb dX5_wall_86 rfl (lv_at hl 1 rfl) ?_
    refine lv_aload_n hx hb dX5_wall_87 rfl (lv_at hl 0 rfl) ?_
    refine va_get (D := D) (ci := 5) (v := .int M_statements) (C := RX5) (T := TX5) (N := 24) hx hb ht inX5 hown hK hP 0 rfl rfl 14 (by decide) (ht _ fl_X5_97) (fun _ h9 => h9) rfl dX5_wall_88 ?_
    refine lv_icmp_ge (tgt := 128) hx hb dX5_wall_91 (by decide) (fun z => ?_) (fun z => ?_)
    · replace h := h.1 z
      exact hKK x2 M_pipes M_used M_isKeeping M_cursor M_setting M_hole M_pipeAt M_chance M_weight M_kept _ _ _ h hP hS (lv_sub hl [0] rfl)
    · replace h := h.2 z
      refine lv_aload_n hx hb dX5_wall_94 rfl (lv_at hl 0 rfl) ?_
      refine lv_iload_n hx hb dX5_wall_95 rfl (lv_at hl 1 rfl) ?_
      refine zci hA (hDD _ rfl) hS (zrunV (As := [.int x2]) (rest := []) S hK hA hE hP (hDD _ rfl) hS (mX5_comes l D cI cJ cC G a_M _ M_pipes M_used M_taped M_at M_statements M_hasImage M_isKeeping M_cursor M_nextAt M_nextMost M_rowMany M_refused M_setting M_hole M_pipeAt M_chance M_weight M_tape M_letter M_letterAt M_told M_kept M_then M_row x2 _ h) kX5_comes ml_X5_142 ⟨rfl, rfl, by decide, by decide⟩ (q0 := 0) (ci := 5) rfl rfl rfl rfl hl.1 rfl (Nat.le_of_ble_eq_true rfl) dX5_wall_96 ⟨Nat.zero_le _, Nat.zero_le _⟩) (fun r_28 u H locs h hP1 hk1 hS => ?_)
      obtain ⟨M_pipes_29, M_used_30, M_setting_31, M_hole_32, M_pipeAt_33, M_chance_34, M_weight_35⟩ := u
      dsimp only at h
      have hP : va_P D vwCl ((bX5 cI cJ cC a_M M_pipes_29 M_used_30 M_taped M_at M_statements M_hasImage M_isKeeping M_cursor M_nextAt M_nextMost M_rowMany M_refused M_setting_31 M_hole_32 M_pipeAt_33 M_chance_34 M_weight_35 M_tape M_letter M_letterAt M_told M_kept M_then M_row)) H := hP1
      refine lv_if_eq (tgt := 105) hx hb dX5_wall_99 (by decide) (fun z => ?_) (fun z => ?_)
      · replace h := h.1 z
        refine lv_aload_n hx hb dX5_wall_105 rfl (lv_at hl 0 rfl) ?_
        refine lv_iconst (v := (1 : Int32)) hx hb dX5_wall_106 (by decide) ?_
        refine lv_iconst (v := (0 : Int32)) hx hb dX5_wall_107 (by decide) ?_
        refine zcv hA (hDD _ rfl) hS (zrunV (As := [.int (1 : Int32), .int (0 : Int32)]) (rest := []) S hK hA hE hP (hDD _ rfl) hS (mX5_passesAll l D cI cJ cC G a_M _ M_pipes_29 M_used_30 M_taped M_at M_statements M_hasImage M_isKeeping M_cursor M_nextAt M_nextMost M_rowMany M_refused M_setting_31 M_hole_32 M_pipeAt_33 M_chance_34 M_weight_35 M_tape M_letter M_letterAt M_told M_kept M_then M_row (1 : Int32) (0 : Int32) _ h) kX5_passesAll ml_X5_138 ⟨rfl, rfl, by decide, by decide⟩ (q0 := 0) (ci := 5) rfl rfl rfl rfl hl.1 rfl (Nat.le_of_ble_eq_true rfl) dX5_wall_108 ⟨Nat.zero_le _, Nat.zero_le _⟩) (fun u H locs h hP1 hk1 hS => ?_)
        obtain ⟨M_pipes_36, M_used_37, M_isKeeping_38, M_cursor_39, M_setting_40, M_hole_41, M_pipeAt_42, M_chance_43, M_weight_44, M_kept_45⟩ := u
        dsimp only at h
        have hP : va_P D vwCl ((bX5 cI cJ cC a_M M_pipes_36 M_used_37 M_taped M_at M_statements M_hasImage M_isKeeping_38 M_cursor_39 M_nextAt M_nextMost M_rowMany M_refused M_setting_40 M_hole_41 M_pipeAt_42 M_chance_43 M_weight_44 M_tape M_letter M_letterAt M_told M_kept_45 M_then M_row)) H := hP1
        refine lv_sipush (v := (-2000 : Int32)) hx hb dX5_wall_111 (by decide) ?_
        refine lv_aload_n hx hb dX5_wall_114 rfl (lv_at hl 0 rfl) ?_
        refine va_get (D := D) (ci := 5) (v := .ref (a_M 9)) (C := RX5) (T := TX5) (N := 24) hx hb ht inX5 hown hK hP 0 rfl rfl 10 (by decide) (ht _ fl_X5_34) (fun _ h9 => h9) rfl dX5_wall_115 ?_
        refine lv_iload_n hx hb dX5_wall_118 rfl (lv_at hl 1 rfl) ?_
        obtain ⟨hin, h⟩ := h
        refine va_iald hx hb hK hP 9 0 rfl rfl hin dX5_wall_119 ?_
        refine lv_isub hx hb dX5_wall_120 ?_
        exact hret ((-2000 : Int32) - (M_letterAt x2.toNatClampNeg)) (M_pipes_36, M_used_37, M_taped, M_at, M_statements, M_isKeeping_38, M_cursor_39, M_setting_40, M_hole_41, M_pipeAt_42, M_chance_43, M_weight_44, M_letter, M_letterAt, M_told, M_kept_45) _ _ _ _ rfl h hP hS dX5_wall_121
      · replace h := h.2 z
        refine lv_goto (tgt := 122) hx hb dX5_wall_102 (by decide) ?_
        refine lv_iinc (v := x2 + (1 : Int32)) (lv' := [(2, .int (x2 + (1 : Int32))), (0, .ref (a_M 0))]) hx hb dX5_wall_122 hl (k := 1) rfl (by rfl) (by decide) rfl (fun ls hl => ?_)
        refine lv_goto (tgt := 86) hx hb dX5_wall_125 (by decide) ?_
        exact ih (x2 + (1 : Int32)) M_pipes_29 M_used_30 M_isKeeping M_cursor M_setting_31 M_hole_32 M_pipeAt_33 M_chance_34 M_weight_35 M_kept _ _ _ h hP hS (lv_sub hl [1, 0] rfl)
def wpX5_wall (post : Int32 → Int32 → Int32 → Int32 → Int32 → Int32 → Int32 → Int32 → (Nat → Int32) → (Nat → Int32) → (Nat → Int32) → (Nat → Int32) → (Nat → Int32) → (Nat → Int32) → (Nat → Int32) → (Nat → Int32) → (Nat → Int32) → Prop) (M_pipes : Int32) (M_used : Int32) (M_taped : Int32) (M_isKeeping : Int32) (M_cursor : Int32) (M_setting : Nat → Int32) (M_hole : Nat → Int32) (M_pipeAt : Nat → Int32) (M_chance : Nat → Int32) (M_weight : Nat → Int32) (M_tape : Nat → Int32) (M_letter : Nat → Int32) (M_letterAt : Nat → Int32) (M_told : Nat → Int32) (M_kept : Nat → Int32) : Prop := ∃ n_11 : Nat, lpX5_wall_12 (fun (x1_12 : Int32) (M_at_13 : Int32) (M_statements_14 : Int32) (M_letter_15 : Nat → Int32) (M_letterAt_16 : Nat → Int32) (M_told_17 : Nat → Int32) => ((x1_12 = (0 : Int32) → (post ((-1000 : Int32) - M_at_13) M_pipes M_used (0 : Int32) M_at_13 M_statements_14 M_isKeeping M_cursor M_setting M_hole M_pipeAt M_chance M_weight M_letter_15 M_letterAt_16 M_told_17 M_kept)) ∧ (¬ (x1_12 = (0 : Int32)) → (wpX5_passesAll (fun (M_pipes_18 : Int32) (M_used_19 : Int32) (M_isKeeping_20 : Int32) (M_cursor_21 : Int32) (M_setting_22 : Nat → Int32) (M_hole_23 : Nat → Int32) (M_pipeAt_24 : Nat → Int32) (M_chance_25 : Nat → Int32) (M_weight_26 : Nat → Int32) (M_kept_27 : Nat → Int32) => ∃ n_46 : Nat, lpX5_wall_86 post (fun (x2_47 : Int32) (M_pipes_48 : Int32) (M_used_49 : Int32) (M_isKeeping_50 : Int32) (M_cursor_51 : Int32) (M_setting_52 : Nat → Int32) (M_hole_53 : Nat → Int32) (M_pipeAt_54 : Nat → Int32) (M_chance_55 : Nat → Int32) (M_weight_56 : Nat → Int32) (M_kept_57 : Nat → Int32) => post M_statements_14 M_pipes_48 M_used_49 (0 : Int32) M_at_13 M_statements_14 M_isKeeping_50 M_cursor_51 M_setting_52 M_hole_53 M_pipeAt_54 M_chance_55 M_weight_56 M_letter_15 M_letterAt_16 M_told_17 M_kept_57) (0 : Int32) M_at_13 M_statements_14 M_letter_15 M_letterAt_16 M_told_17 n_46 (0 : Int32) M_pipes_18 M_used_19 M_isKeeping_20 M_cursor_21 M_setting_22 M_hole_23 M_pipeAt_24 M_chance_25 M_weight_26 M_kept_27) M_pipes M_used M_setting M_hole M_pipeAt M_chance M_weight M_kept (1 : Int32) (1 : Int32))))) M_taped M_tape n_11 (1 : Int32) (0 : Int32) (0 : Int32) M_letter M_letterAt M_told
set_option maxHeartbeats 4000000 in
set_option maxRecDepth 100000 in
theorem mX5_wall (l : Launch) (D : va_G) (cI cJ cC : ClassId) (G : Nat → Nat → Nat) (a_M : Nat → Nat) (sz : Nat) (M_pipes : Int32) (M_used : Int32) (M_taped : Int32) (M_at : Int32) (M_statements : Int32) (M_hasImage : Int32) (M_isKeeping : Int32) (M_cursor : Int32) (M_nextAt : Int32) (M_nextMost : Int64) (M_rowMany : Int32) (M_refused : Nat → Int32) (M_setting : Nat → Int32) (M_hole : Nat → Int32) (M_pipeAt : Nat → Int32) (M_chance : Nat → Int32) (M_weight : Nat → Int32) (M_tape : Nat → Int32) (M_letter : Nat → Int32) (M_letterAt : Nat → Int32) (M_told : Nat → Int32) (M_kept : Nat → Int32) (M_then : Nat → Int64) (M_row : Nat → Int32) (post : Int32 → Int32 → Int32 → Int32 → Int32 → Int32 → Int32 → Int32 → (Nat → Int32) → (Nat → Int32) → (Nat → Int32) → (Nat → Int32) → (Nat → Int32) → (Nat → Int32) → (Nat → Int32) → (Nat → Int32) → (Nat → Int32) → Prop) (h : wpX5_wall post M_pipes M_used M_taped M_isKeeping M_cursor M_setting M_hole M_pipeAt M_chance M_weight M_tape M_letter M_letterAt M_told M_kept) : Met l yX5_wall (wz yX5_wall cX5_wall 3 (some .int)) ({ frames := 7, cells := 0, slots := 0, locals := 160 }) (va_Pc [.ref (a_M 0)] (PW D (tz cI cJ cC) G ((bX5 cI cJ cC a_M M_pipes M_used M_taped M_at M_statements M_hasImage M_isKeeping M_cursor M_nextAt M_nextMost M_rowMany M_refused M_setting M_hole M_pipeAt M_chance M_weight M_tape M_letter M_letterAt M_told M_kept M_then M_row)) sz)) (va_Qi (fun (r : Int32) (u : Int32 × Int32 × Int32 × Int32 × Int32 × Int32 × Int32 × (Nat → Int32) × (Nat → Int32) × (Nat → Int32) × (Nat → Int32) × (Nat → Int32) × (Nat → Int32) × (Nat → Int32) × (Nat → Int32) × (Nat → Int32)) => post r u.1 u.2.1 u.2.2.1 u.2.2.2.1 u.2.2.2.2.1 u.2.2.2.2.2.1 u.2.2.2.2.2.2.1 u.2.2.2.2.2.2.2.1 u.2.2.2.2.2.2.2.2.1 u.2.2.2.2.2.2.2.2.2.1 u.2.2.2.2.2.2.2.2.2.2.1 u.2.2.2.2.2.2.2.2.2.2.2.1 u.2.2.2.2.2.2.2.2.2.2.2.2.1 u.2.2.2.2.2.2.2.2.2.2.2.2.2.1 u.2.2.2.2.2.2.2.2.2.2.2.2.2.2.1 u.2.2.2.2.2.2.2.2.2.2.2.2.2.2.2) (fun (u : Int32 × Int32 × Int32 × Int32 × Int32 × Int32 × Int32 × (Nat → Int32) × (Nat → Int32) × (Nat → Int32) × (Nat → Int32) × (Nat → Int32) × (Nat → Int32) × (Nat → Int32) × (Nat → Int32) × (Nat → Int32)) t => va_P D vwCl ((bX5 cI cJ cC a_M u.1 u.2.1 u.2.2.1 u.2.2.2.1 u.2.2.2.2.1 M_hasImage u.2.2.2.2.2.1 u.2.2.2.2.2.2.1 M_nextAt M_nextMost M_rowMany M_refused u.2.2.2.2.2.2.2.1 u.2.2.2.2.2.2.2.2.1 u.2.2.2.2.2.2.2.2.2.1 u.2.2.2.2.2.2.2.2.2.2.1 u.2.2.2.2.2.2.2.2.2.2.2.1 M_tape u.2.2.2.2.2.2.2.2.2.2.2.2.1 u.2.2.2.2.2.2.2.2.2.2.2.2.2.1 u.2.2.2.2.2.2.2.2.2.2.2.2.2.2.1 u.2.2.2.2.2.2.2.2.2.2.2.2.2.2.2 M_then M_row)) t.heap) (va_A ((bX5 cI cJ cC a_M M_pipes M_used M_taped M_at M_statements M_hasImage M_isKeeping M_cursor M_nextAt M_nextMost M_rowMany M_refused M_setting M_hole M_pipeAt M_chance M_weight M_tape M_letter M_letterAt M_told M_kept M_then M_row)) sz)) 0 0 (va_A ((bX5 cI cJ cC a_M M_pipes M_used M_taped M_at M_statements M_hasImage M_isKeeping M_cursor M_nextAt M_nextMost M_rowMany M_refused M_setting M_hole M_pipeAt M_chance M_weight M_tape M_letter M_letterAt M_told M_kept M_then M_row)) sz) := by
  refine zmi (gw := fun (u : Int32 × Int32 × Int32 × Int32 × Int32 × Int32 × Int32 × (Nat → Int32) × (Nat → Int32) × (Nat → Int32) × (Nat → Int32) × (Nat → Int32) × (Nat → Int32) × (Nat → Int32) × (Nat → Int32) × (Nat → Int32)) => (bX5 cI cJ cC a_M u.1 u.2.1 u.2.2.1 u.2.2.2.1 u.2.2.2.2.1 M_hasImage u.2.2.2.2.2.1 u.2.2.2.2.2.2.1 M_nextAt M_nextMost M_rowMany M_refused u.2.2.2.2.2.2.2.1 u.2.2.2.2.2.2.2.2.1 u.2.2.2.2.2.2.2.2.2.1 u.2.2.2.2.2.2.2.2.2.2.1 u.2.2.2.2.2.2.2.2.2.2.2.1 M_tape u.2.2.2.2.2.2.2.2.2.2.2.2.1 u.2.2.2.2.2.2.2.2.2.2.2.2.2.1 u.2.2.2.2.2.2.2.2.2.2.2.2.2.2.1 u.2.2.2.2.2.2.2.2.2.2.2.2.2.2.2 M_then M_row)) (plainFor_of_name (by decide)) (Nat.le_of_ble_eq_true rfl) ?_
  intro p e s m below meth c A Q ls S hK hD hA hE hP hl hret
  obtain ⟨hx, hb, hml, hown, ht⟩ := id S
  have hS : va_S A s.heap s.heap [] := va_S.rf
  have hDD : ∀ ws : va_W, ws.map (fun q => q.1) = [a_M 0, a_M 1, a_M 2, a_M 3, a_M 4, a_M 5, a_M 6, a_M 7, a_M 8, a_M 9, a_M 10, a_M 11, a_M 12, a_M 13] → va_D A ws := fun ws hw => zD hD (hw.trans rfl)
  have hl : lv_has ls 3 [(0, .ref (a_M 0))] := hl
  unfold wpX5_wall at h
  refine lv_aload_n hx hb dX5_wall_0 rfl (lv_at hl 0 rfl) ?_
  refine lv_iconst (v := (0 : Int32)) hx hb dX5_wall_1 (by decide) ?_
  refine va_put (D := D) (ci := 5) (v := .int (0 : Int32)) (ty := .int) (C := RX5) (T := TX5) (N := 24) hx hb ht inX5 tyX5 tyX5_ok nmX5 hown hK hP (hDD _ rfl) hS 0 rfl rfl 13 (by decide) (ht _ fl_X5_70) (fun _ h9 => h9) rfl (by decide +kernel) rfl rfl (Nat.le_of_ble_eq_true rfl) dX5_wall_2 (fun H locs hP _ hS => ?_)
  have hP : va_P D vwCl ((bX5 cI cJ cC a_M M_pipes M_used M_taped (0 : Int32) M_statements M_hasImage M_isKeeping M_cursor M_nextAt M_nextMost M_rowMany M_refused M_setting M_hole M_pipeAt M_chance M_weight M_tape M_letter M_letterAt M_told M_kept M_then M_row)) H := hP
  refine lv_aload_n hx hb dX5_wall_5 rfl (lv_at hl 0 rfl) ?_
  refine lv_iconst (v := (0 : Int32)) hx hb dX5_wall_6 (by decide) ?_
  refine va_put (D := D) (ci := 5) (v := .int (0 : Int32)) (ty := .int) (C := RX5) (T := TX5) (N := 24) hx hb ht inX5 tyX5 tyX5_ok nmX5 hown hK hP (hDD _ rfl) hS 0 rfl rfl 14 (by decide) (ht _ fl_X5_97) (fun _ h9 => h9) rfl (by decide +kernel) rfl rfl (Nat.le_of_ble_eq_true rfl) dX5_wall_7 (fun H locs hP _ hS => ?_)
  have hP : va_P D vwCl ((bX5 cI cJ cC a_M M_pipes M_used M_taped (0 : Int32) (0 : Int32) M_hasImage M_isKeeping M_cursor M_nextAt M_nextMost M_rowMany M_refused M_setting M_hole M_pipeAt M_chance M_weight M_tape M_letter M_letterAt M_told M_kept M_then M_row)) H := hP
  refine lv_iconst (v := (1 : Int32)) hx hb dX5_wall_10 (by decide) ?_
  refine lv_istore_n (lv' := [(1, .int (1 : Int32)), (0, .ref (a_M 0))]) hx hb dX5_wall_11 rfl hl (by decide) rfl (fun ls hl => ?_)
  obtain ⟨n_11, h⟩ := h
  refine wX5_wall_12 l D cI cJ cC G a_M M_pipes M_used M_taped M_hasImage M_isKeeping M_cursor M_nextAt M_nextMost M_rowMany M_refused M_setting M_hole M_pipeAt M_chance M_weight M_tape M_kept M_then M_row _ S hK hDD hA hE (fun x1_12 M_at_13 M_statements_14 M_letter_15 M_letterAt_16 M_told_17 H locs ls h hP hS hl => ?_) n_11 (1 : Int32) (0 : Int32) (0 : Int32) M_letter M_letterAt M_told _ _ _ h hP hS (lv_sub hl [1, 0] rfl)
  try dsimp only at h
  refine lv_aload_n hx hb dX5_wall_60 rfl (lv_at hl 0 rfl) ?_
  refine lv_iconst (v := (0 : Int32)) hx hb dX5_wall_61 (by decide) ?_
  refine va_put (D := D) (ci := 5) (v := .int (0 : Int32)) (ty := .int) (C := RX5) (T := TX5) (N := 24) hx hb ht inX5 tyX5 tyX5_ok nmX5 hown hK hP (hDD _ rfl) hS 0 rfl rfl 12 (by decide) (ht _ fl_X5_63) (fun _ h9 => h9) rfl (by decide +kernel) rfl rfl (Nat.le_of_ble_eq_true rfl) dX5_wall_62 (fun H locs hP _ hS => ?_)
  have hP : va_P D vwCl ((bX5 cI cJ cC a_M M_pipes M_used (0 : Int32) M_at_13 M_statements_14 M_hasImage M_isKeeping M_cursor M_nextAt M_nextMost M_rowMany M_refused M_setting M_hole M_pipeAt M_chance M_weight M_tape M_letter_15 M_letterAt_16 M_told_17 M_kept M_then M_row)) H := hP
  refine lv_iload_n hx hb dX5_wall_65 rfl (lv_at hl 1 rfl) ?_
  refine lv_if_ne (tgt := 78) hx hb dX5_wall_66 (by decide) (fun z => ?_) (fun z => ?_)
  · replace h := h.2 z
    refine lv_aload_n hx hb dX5_wall_78 rfl (lv_at hl 0 rfl) ?_
    refine lv_iconst (v := (1 : Int32)) hx hb dX5_wall_79 (by decide) ?_
    refine lv_iconst (v := (1 : Int32)) hx hb dX5_wall_80 (by decide) ?_
    refine zcv hA (hDD _ rfl) hS (zrunV (As := [.int (1 : Int32), .int (1 : Int32)]) (rest := []) S hK hA hE hP (hDD _ rfl) hS (mX5_passesAll l D cI cJ cC G a_M _ M_pipes M_used (0 : Int32) M_at_13 M_statements_14 M_hasImage M_isKeeping M_cursor M_nextAt M_nextMost M_rowMany M_refused M_setting M_hole M_pipeAt M_chance M_weight M_tape M_letter_15 M_letterAt_16 M_told_17 M_kept M_then M_row (1 : Int32) (1 : Int32) _ h) kX5_passesAll ml_X5_138 ⟨rfl, rfl, by decide, by decide⟩ (q0 := 0) (ci := 5) rfl rfl rfl rfl hl.1 rfl (Nat.le_of_ble_eq_true rfl) dX5_wall_81 ⟨Nat.zero_le _, Nat.zero_le _⟩) (fun u H locs h hP1 hk1 hS => ?_)
    obtain ⟨M_pipes_18, M_used_19, M_isKeeping_20, M_cursor_21, M_setting_22, M_hole_23, M_pipeAt_24, M_chance_25, M_weight_26, M_kept_27⟩ := u
    dsimp only at h
    have hP : va_P D vwCl ((bX5 cI cJ cC a_M M_pipes_18 M_used_19 (0 : Int32) M_at_13 M_statements_14 M_hasImage M_isKeeping_20 M_cursor_21 M_nextAt M_nextMost M_rowMany M_refused M_setting_22 M_hole_23 M_pipeAt_24 M_chance_25 M_weight_26 M_tape M_letter_15 M_letterAt_16 M_told_17 M_kept_27 M_then M_row)) H := hP1
    refine lv_iconst (v := (0 : Int32)) hx hb dX5_wall_84 (by decide) ?_
    refine lv_istore_n (lv' := [(2, .int (0 : Int32)), (0, .ref (a_M 0)), (1, .int x1_12)]) hx hb dX5_wall_85 rfl hl (by decide) rfl (fun ls hl => ?_)
    obtain ⟨n_46, h⟩ := h
    refine wX5_wall_86 l D cI cJ cC G a_M (0 : Int32) M_at_13 M_statements_14 M_hasImage M_nextAt M_nextMost M_rowMany M_refused M_tape M_letter_15 M_letterAt_16 M_told_17 M_then M_row post _ S hK hDD hA hE hret (fun x2_47 M_pipes_48 M_used_49 M_isKeeping_50 M_cursor_51 M_setting_52 M_hole_53 M_pipeAt_54 M_chance_55 M_weight_56 M_kept_57 H locs ls h hP hS hl => ?_) n_46 (0 : Int32) M_pipes_18 M_used_19 M_isKeeping_20 M_cursor_21 M_setting_22 M_hole_23 M_pipeAt_24 M_chance_25 M_weight_26 M_kept_27 _ _ _ h hP hS (lv_sub hl [1, 0] rfl)
    try dsimp only at h
    refine lv_aload_n hx hb dX5_wall_128 rfl (lv_at hl 0 rfl) ?_
    refine va_get (D := D) (ci := 5) (v := .int M_statements_14) (C := RX5) (T := TX5) (N := 24) hx hb ht inX5 hown hK hP 0 rfl rfl 14 (by decide) (ht _ fl_X5_97) (fun _ h9 => h9) rfl dX5_wall_129 ?_
    exact hret M_statements_14 (M_pipes_48, M_used_49, (0 : Int32), M_at_13, M_statements_14, M_isKeeping_50, M_cursor_51, M_setting_52, M_hole_53, M_pipeAt_54, M_chance_55, M_weight_56, M_letter_15, M_letterAt_16, M_told_17, M_kept_57) _ _ _ _ rfl h hP hS dX5_wall_132
  · replace h := h.1 z
    refine lv_sipush (v := (-1000 : Int32)) hx hb dX5_wall_69 (by decide) ?_
    refine lv_aload_n hx hb dX5_wall_72 rfl (lv_at hl 0 rfl) ?_
    refine va_get (D := D) (ci := 5) (v := .int M_at_13) (C := RX5) (T := TX5) (N := 24) hx hb ht inX5 hown hK hP 0 rfl rfl 13 (by decide) (ht _ fl_X5_70) (fun _ h9 => h9) rfl dX5_wall_73 ?_
    refine lv_isub hx hb dX5_wall_76 ?_
    exact hret ((-1000 : Int32) - M_at_13) (M_pipes, M_used, (0 : Int32), M_at_13, M_statements_14, M_isKeeping, M_cursor, M_setting, M_hole, M_pipeAt, M_chance, M_weight, M_letter_15, M_letterAt_16, M_told_17, M_kept) _ _ _ _ rfl h hP hS dX5_wall_77
def wpX5_image (post : Int32 → Int32 → Int32 → Int32 → Int32 → Int32 → (Nat → Int32) → (Nat → Int32) → (Nat → Int32) → (Nat → Int32) → (Nat → Int32) → (Nat → Int32) → Prop) (M_pipes : Int32) (M_used : Int32) (M_setting : Nat → Int32) (M_hole : Nat → Int32) (M_pipeAt : Nat → Int32) (M_chance : Nat → Int32) (M_weight : Nat → Int32) (M_kept : Nat → Int32) : Prop := wpX5_passesAll (fun (M_pipes_1 : Int32) (M_used_2 : Int32) (M_isKeeping_3 : Int32) (M_cursor_4 : Int32) (M_setting_5 : Nat → Int32) (M_hole_6 : Nat → Int32) (M_pipeAt_7 : Nat → Int32) (M_chance_8 : Nat → Int32) (M_weight_9 : Nat → Int32) (M_kept_10 : Nat → Int32) => post M_used_2 M_pipes_1 M_used_2 (1 : Int32) M_isKeeping_3 M_cursor_4 M_setting_5 M_hole_6 M_pipeAt_7 M_chance_8 M_weight_9 M_kept_10) M_pipes M_used M_setting M_hole M_pipeAt M_chance M_weight M_kept (0 : Int32) (1 : Int32)
set_option maxHeartbeats 4000000 in
set_option maxRecDepth 100000 in
theorem mX5_image (l : Launch) (D : va_G) (cI cJ cC : ClassId) (G : Nat → Nat → Nat) (a_M : Nat → Nat) (sz : Nat) (M_pipes : Int32) (M_used : Int32) (M_taped : Int32) (M_at : Int32) (M_statements : Int32) (M_hasImage : Int32) (M_isKeeping : Int32) (M_cursor : Int32) (M_nextAt : Int32) (M_nextMost : Int64) (M_rowMany : Int32) (M_refused : Nat → Int32) (M_setting : Nat → Int32) (M_hole : Nat → Int32) (M_pipeAt : Nat → Int32) (M_chance : Nat → Int32) (M_weight : Nat → Int32) (M_tape : Nat → Int32) (M_letter : Nat → Int32) (M_letterAt : Nat → Int32) (M_told : Nat → Int32) (M_kept : Nat → Int32) (M_then : Nat → Int64) (M_row : Nat → Int32) (post : Int32 → Int32 → Int32 → Int32 → Int32 → Int32 → (Nat → Int32) → (Nat → Int32) → (Nat → Int32) → (Nat → Int32) → (Nat → Int32) → (Nat → Int32) → Prop) (h : wpX5_image post M_pipes M_used M_setting M_hole M_pipeAt M_chance M_weight M_kept) : Met l yX5_image (wz yX5_image cX5_image 1 (some .int)) ({ frames := 2, cells := 0, slots := 0, locals := 44 }) (va_Pc [.ref (a_M 0)] (PW D (tz cI cJ cC) G ((bX5 cI cJ cC a_M M_pipes M_used M_taped M_at M_statements M_hasImage M_isKeeping M_cursor M_nextAt M_nextMost M_rowMany M_refused M_setting M_hole M_pipeAt M_chance M_weight M_tape M_letter M_letterAt M_told M_kept M_then M_row)) sz)) (va_Qi (fun (r : Int32) (u : Int32 × Int32 × Int32 × Int32 × Int32 × (Nat → Int32) × (Nat → Int32) × (Nat → Int32) × (Nat → Int32) × (Nat → Int32) × (Nat → Int32)) => post r u.1 u.2.1 u.2.2.1 u.2.2.2.1 u.2.2.2.2.1 u.2.2.2.2.2.1 u.2.2.2.2.2.2.1 u.2.2.2.2.2.2.2.1 u.2.2.2.2.2.2.2.2.1 u.2.2.2.2.2.2.2.2.2.1 u.2.2.2.2.2.2.2.2.2.2) (fun (u : Int32 × Int32 × Int32 × Int32 × Int32 × (Nat → Int32) × (Nat → Int32) × (Nat → Int32) × (Nat → Int32) × (Nat → Int32) × (Nat → Int32)) t => va_P D vwCl ((bX5 cI cJ cC a_M u.1 u.2.1 M_taped M_at M_statements u.2.2.1 u.2.2.2.1 u.2.2.2.2.1 M_nextAt M_nextMost M_rowMany M_refused u.2.2.2.2.2.1 u.2.2.2.2.2.2.1 u.2.2.2.2.2.2.2.1 u.2.2.2.2.2.2.2.2.1 u.2.2.2.2.2.2.2.2.2.1 M_tape M_letter M_letterAt M_told u.2.2.2.2.2.2.2.2.2.2 M_then M_row)) t.heap) (va_A ((bX5 cI cJ cC a_M M_pipes M_used M_taped M_at M_statements M_hasImage M_isKeeping M_cursor M_nextAt M_nextMost M_rowMany M_refused M_setting M_hole M_pipeAt M_chance M_weight M_tape M_letter M_letterAt M_told M_kept M_then M_row)) sz)) 0 0 (va_A ((bX5 cI cJ cC a_M M_pipes M_used M_taped M_at M_statements M_hasImage M_isKeeping M_cursor M_nextAt M_nextMost M_rowMany M_refused M_setting M_hole M_pipeAt M_chance M_weight M_tape M_letter M_letterAt M_told M_kept M_then M_row)) sz) := by
  refine zmi (gw := fun (u : Int32 × Int32 × Int32 × Int32 × Int32 × (Nat → Int32) × (Nat → Int32) × (Nat → Int32) × (Nat → Int32) × (Nat → Int32) × (Nat → Int32)) => (bX5 cI cJ cC a_M u.1 u.2.1 M_taped M_at M_statements u.2.2.1 u.2.2.2.1 u.2.2.2.2.1 M_nextAt M_nextMost M_rowMany M_refused u.2.2.2.2.2.1 u.2.2.2.2.2.2.1 u.2.2.2.2.2.2.2.1 u.2.2.2.2.2.2.2.2.1 u.2.2.2.2.2.2.2.2.2.1 M_tape M_letter M_letterAt M_told u.2.2.2.2.2.2.2.2.2.2 M_then M_row)) (plainFor_of_name (by decide)) (Nat.le_of_ble_eq_true rfl) ?_
  intro p e s m below meth c A Q ls S hK hD hA hE hP hl hret
  obtain ⟨hx, hb, hml, hown, ht⟩ := id S
  have hS : va_S A s.heap s.heap [] := va_S.rf
  have hDD : ∀ ws : va_W, ws.map (fun q => q.1) = [a_M 0, a_M 1, a_M 2, a_M 3, a_M 4, a_M 5, a_M 6, a_M 7, a_M 8, a_M 9, a_M 10, a_M 11, a_M 12, a_M 13] → va_D A ws := fun ws hw => zD hD (hw.trans rfl)
  have hl : lv_has ls 1 [(0, .ref (a_M 0))] := hl
  unfold wpX5_image at h
  refine lv_aload_n hx hb dX5_image_0 rfl (lv_at hl 0 rfl) ?_
  refine lv_iconst (v := (1 : Int32)) hx hb dX5_image_1 (by decide) ?_
  refine va_put (D := D) (ci := 5) (v := .int (1 : Int32)) (ty := .boolean) (C := RX5) (T := TX5) (N := 24) hx hb ht inX5 tyX5 tyX5_ok nmX5 hown hK hP (hDD _ rfl) hS 0 rfl rfl 16 (by decide) (ht _ fl_X5_159) (fun _ h9 => h9) rfl (by decide +kernel) rfl rfl (Nat.le_of_ble_eq_true rfl) dX5_image_2 (fun H locs hP _ hS => ?_)
  have hP : va_P D vwCl ((bX5 cI cJ cC a_M M_pipes M_used M_taped M_at M_statements (1 : Int32) M_isKeeping M_cursor M_nextAt M_nextMost M_rowMany M_refused M_setting M_hole M_pipeAt M_chance M_weight M_tape M_letter M_letterAt M_told M_kept M_then M_row)) H := hP
  refine lv_aload_n hx hb dX5_image_5 rfl (lv_at hl 0 rfl) ?_
  refine lv_iconst (v := (0 : Int32)) hx hb dX5_image_6 (by decide) ?_
  refine lv_iconst (v := (1 : Int32)) hx hb dX5_image_7 (by decide) ?_
  refine zcv hA (hDD _ rfl) hS (zrunV (As := [.int (0 : Int32), .int (1 : Int32)]) (rest := []) S hK hA hE hP (hDD _ rfl) hS (mX5_passesAll l D cI cJ cC G a_M _ M_pipes M_used M_taped M_at M_statements (1 : Int32) M_isKeeping M_cursor M_nextAt M_nextMost M_rowMany M_refused M_setting M_hole M_pipeAt M_chance M_weight M_tape M_letter M_letterAt M_told M_kept M_then M_row (0 : Int32) (1 : Int32) _ h) kX5_passesAll ml_X5_138 ⟨rfl, rfl, by decide, by decide⟩ (q0 := 0) (ci := 5) rfl rfl rfl rfl hl.1 rfl (Nat.le_of_ble_eq_true rfl) dX5_image_8 ⟨Nat.zero_le _, Nat.zero_le _⟩) (fun u H locs h hP1 hk1 hS => ?_)
  obtain ⟨M_pipes_1, M_used_2, M_isKeeping_3, M_cursor_4, M_setting_5, M_hole_6, M_pipeAt_7, M_chance_8, M_weight_9, M_kept_10⟩ := u
  dsimp only at h
  have hP : va_P D vwCl ((bX5 cI cJ cC a_M M_pipes_1 M_used_2 M_taped M_at M_statements (1 : Int32) M_isKeeping_3 M_cursor_4 M_nextAt M_nextMost M_rowMany M_refused M_setting_5 M_hole_6 M_pipeAt_7 M_chance_8 M_weight_9 M_tape M_letter M_letterAt M_told M_kept_10 M_then M_row)) H := hP1
  refine lv_aload_n hx hb dX5_image_11 rfl (lv_at hl 0 rfl) ?_
  refine va_get (D := D) (ci := 5) (v := .int M_used_2) (C := RX5) (T := TX5) (N := 24) hx hb ht inX5 hown hK hP 0 rfl rfl 7 (by decide) (ht _ fl_X5_55) (fun _ h9 => h9) rfl dX5_image_12 ?_
  exact hret M_used_2 (M_pipes_1, M_used_2, (1 : Int32), M_isKeeping_3, M_cursor_4, M_setting_5, M_hole_6, M_pipeAt_7, M_chance_8, M_weight_9, M_kept_10) _ _ _ _ rfl h hP hS dX5_image_15
def wpX5_on (post : Int32 → Int32 → Int32 → Int32 → Int32 → (Nat → Int32) → (Nat → Int32) → (Nat → Int32) → (Nat → Int32) → (Nat → Int32) → (Nat → Int32) → (Nat → Int32) → Prop) (M_pipes : Int32) (M_used : Int32) (M_hasImage : Int32) (M_isKeeping : Int32) (M_cursor : Int32) (M_refused : Nat → Int32) (M_setting : Nat → Int32) (M_hole : Nat → Int32) (M_pipeAt : Nat → Int32) (M_chance : Nat → Int32) (M_weight : Nat → Int32) (M_kept : Nat → Int32) : Prop := ((M_hasImage = (0 : Int32) → (wpX5_no (fun (r_11 : Int32) (M_refused_12 : Nat → Int32) => post r_11 M_pipes M_used M_isKeeping M_cursor M_refused_12 M_setting M_hole M_pipeAt M_chance M_weight M_kept) M_refused (-3 : Int32))) ∧ (¬ (M_hasImage = (0 : Int32)) → (wpX5_passesAll (fun (M_pipes_1 : Int32) (M_used_2 : Int32) (M_isKeeping_3 : Int32) (M_cursor_4 : Int32) (M_setting_5 : Nat → Int32) (M_hole_6 : Nat → Int32) (M_pipeAt_7 : Nat → Int32) (M_chance_8 : Nat → Int32) (M_weight_9 : Nat → Int32) (M_kept_10 : Nat → Int32) => post M_used_2 M_pipes_1 M_used_2 M_isKeeping_3 M_cursor_4 M_refused M_setting_5 M_hole_6 M_pipeAt_7 M_chance_8 M_weight_9 M_kept_10) M_pipes M_used M_setting M_hole M_pipeAt M_chance M_weight M_kept (0 : Int32) (0 : Int32))))
set_option maxHeartbeats 4000000 in
set_option maxRecDepth 100000 in
theorem mX5_on (l : Launch) (D : va_G) (cI cJ cC : ClassId) (G : Nat → Nat → Nat) (a_M : Nat → Nat) (sz : Nat) (M_pipes : Int32) (M_used : Int32) (M_taped : Int32) (M_at : Int32) (M_statements : Int32) (M_hasImage : Int32) (M_isKeeping : Int32) (M_cursor : Int32) (M_nextAt : Int32) (M_nextMost : Int64) (M_rowMany : Int32) (M_refused : Nat → Int32) (M_setting : Nat → Int32) (M_hole : Nat → Int32) (M_pipeAt : Nat → Int32) (M_chance : Nat → Int32) (M_weight : Nat → Int32) (M_tape : Nat → Int32) (M_letter : Nat → Int32) (M_letterAt : Nat → Int32) (M_told : Nat → Int32) (M_kept : Nat → Int32) (M_then : Nat → Int64) (M_row : Nat → Int32) (post : Int32 → Int32 → Int32 → Int32 → Int32 → (Nat → Int32) → (Nat → Int32) → (Nat → Int32) → (Nat → Int32) → (Nat → Int32) → (Nat → Int32) → (Nat → Int32) → Prop) (h : wpX5_on post M_pipes M_used M_hasImage M_isKeeping M_cursor M_refused M_setting M_hole M_pipeAt M_chance M_weight M_kept) : Met l yX5_on (wz yX5_on cX5_on 1 (some .int)) ({ frames := 2, cells := 0, slots := 0, locals := 44 }) (va_Pc [.ref (a_M 0)] (PW D (tz cI cJ cC) G ((bX5 cI cJ cC a_M M_pipes M_used M_taped M_at M_statements M_hasImage M_isKeeping M_cursor M_nextAt M_nextMost M_rowMany M_refused M_setting M_hole M_pipeAt M_chance M_weight M_tape M_letter M_letterAt M_told M_kept M_then M_row)) sz)) (va_Qi (fun (r : Int32) (u : Int32 × Int32 × Int32 × Int32 × (Nat → Int32) × (Nat → Int32) × (Nat → Int32) × (Nat → Int32) × (Nat → Int32) × (Nat → Int32) × (Nat → Int32)) => post r u.1 u.2.1 u.2.2.1 u.2.2.2.1 u.2.2.2.2.1 u.2.2.2.2.2.1 u.2.2.2.2.2.2.1 u.2.2.2.2.2.2.2.1 u.2.2.2.2.2.2.2.2.1 u.2.2.2.2.2.2.2.2.2.1 u.2.2.2.2.2.2.2.2.2.2) (fun (u : Int32 × Int32 × Int32 × Int32 × (Nat → Int32) × (Nat → Int32) × (Nat → Int32) × (Nat → Int32) × (Nat → Int32) × (Nat → Int32) × (Nat → Int32)) t => va_P D vwCl ((bX5 cI cJ cC a_M u.1 u.2.1 M_taped M_at M_statements M_hasImage u.2.2.1 u.2.2.2.1 M_nextAt M_nextMost M_rowMany u.2.2.2.2.1 u.2.2.2.2.2.1 u.2.2.2.2.2.2.1 u.2.2.2.2.2.2.2.1 u.2.2.2.2.2.2.2.2.1 u.2.2.2.2.2.2.2.2.2.1 M_tape M_letter M_letterAt M_told u.2.2.2.2.2.2.2.2.2.2 M_then M_row)) t.heap) (va_A ((bX5 cI cJ cC a_M M_pipes M_used M_taped M_at M_statements M_hasImage M_isKeeping M_cursor M_nextAt M_nextMost M_rowMany M_refused M_setting M_hole M_pipeAt M_chance M_weight M_tape M_letter M_letterAt M_told M_kept M_then M_row)) sz)) 0 0 (va_A ((bX5 cI cJ cC a_M M_pipes M_used M_taped M_at M_statements M_hasImage M_isKeeping M_cursor M_nextAt M_nextMost M_rowMany M_refused M_setting M_hole M_pipeAt M_chance M_weight M_tape M_letter M_letterAt M_told M_kept M_then M_row)) sz) := by
  refine zmi (gw := fun (u : Int32 × Int32 × Int32 × Int32 × (Nat → Int32) × (Nat → Int32) × (Nat → Int32) × (Nat → Int32) × (Nat → Int32) × (Nat → Int32) × (Nat → Int32)) => (bX5 cI cJ cC a_M u.1 u.2.1 M_taped M_at M_statements M_hasImage u.2.2.1 u.2.2.2.1 M_nextAt M_nextMost M_rowMany u.2.2.2.2.1 u.2.2.2.2.2.1 u.2.2.2.2.2.2.1 u.2.2.2.2.2.2.2.1 u.2.2.2.2.2.2.2.2.1 u.2.2.2.2.2.2.2.2.2.1 M_tape M_letter M_letterAt M_told u.2.2.2.2.2.2.2.2.2.2 M_then M_row)) (plainFor_of_name (by decide)) (Nat.le_of_ble_eq_true rfl) ?_
  intro p e s m below meth c A Q ls S hK hD hA hE hP hl hret
  obtain ⟨hx, hb, hml, hown, ht⟩ := id S
  have hS : va_S A s.heap s.heap [] := va_S.rf
  have hDD : ∀ ws : va_W, ws.map (fun q => q.1) = [a_M 0, a_M 1, a_M 2, a_M 3, a_M 4, a_M 5, a_M 6, a_M 7, a_M 8, a_M 9, a_M 10, a_M 11, a_M 12, a_M 13] → va_D A ws := fun ws hw => zD hD (hw.trans rfl)
  have hl : lv_has ls 1 [(0, .ref (a_M 0))] := hl
  unfold wpX5_on at h
  refine lv_aload_n hx hb dX5_on_0 rfl (lv_at hl 0 rfl) ?_
  refine va_get (D := D) (ci := 5) (v := .int M_hasImage) (C := RX5) (T := TX5) (N := 24) hx hb ht inX5 hown hK hP 0 rfl rfl 16 (by decide) (ht _ fl_X5_159) (fun _ h9 => h9) rfl dX5_on_1 ?_
  refine lv_if_ne (tgt := 14) hx hb dX5_on_4 (by decide) (fun z => ?_) (fun z => ?_)
  · replace h := h.2 z
    refine lv_aload_n hx hb dX5_on_14 rfl (lv_at hl 0 rfl) ?_
    refine lv_iconst (v := (0 : Int32)) hx hb dX5_on_15 (by decide) ?_
    refine lv_iconst (v := (0 : Int32)) hx hb dX5_on_16 (by decide) ?_
    refine zcv hA (hDD _ rfl) hS (zrunV (As := [.int (0 : Int32), .int (0 : Int32)]) (rest := []) S hK hA hE hP (hDD _ rfl) hS (mX5_passesAll l D cI cJ cC G a_M _ M_pipes M_used M_taped M_at M_statements M_hasImage M_isKeeping M_cursor M_nextAt M_nextMost M_rowMany M_refused M_setting M_hole M_pipeAt M_chance M_weight M_tape M_letter M_letterAt M_told M_kept M_then M_row (0 : Int32) (0 : Int32) _ h) kX5_passesAll ml_X5_138 ⟨rfl, rfl, by decide, by decide⟩ (q0 := 0) (ci := 5) rfl rfl rfl rfl hl.1 rfl (Nat.le_of_ble_eq_true rfl) dX5_on_17 ⟨Nat.zero_le _, Nat.zero_le _⟩) (fun u H locs h hP1 hk1 hS => ?_)
    obtain ⟨M_pipes_1, M_used_2, M_isKeeping_3, M_cursor_4, M_setting_5, M_hole_6, M_pipeAt_7, M_chance_8, M_weight_9, M_kept_10⟩ := u
    dsimp only at h
    have hP : va_P D vwCl ((bX5 cI cJ cC a_M M_pipes_1 M_used_2 M_taped M_at M_statements M_hasImage M_isKeeping_3 M_cursor_4 M_nextAt M_nextMost M_rowMany M_refused M_setting_5 M_hole_6 M_pipeAt_7 M_chance_8 M_weight_9 M_tape M_letter M_letterAt M_told M_kept_10 M_then M_row)) H := hP1
    refine lv_aload_n hx hb dX5_on_20 rfl (lv_at hl 0 rfl) ?_
    refine va_get (D := D) (ci := 5) (v := .int M_used_2) (C := RX5) (T := TX5) (N := 24) hx hb ht inX5 hown hK hP 0 rfl rfl 7 (by decide) (ht _ fl_X5_55) (fun _ h9 => h9) rfl dX5_on_21 ?_
    exact hret M_used_2 (M_pipes_1, M_used_2, M_isKeeping_3, M_cursor_4, M_refused, M_setting_5, M_hole_6, M_pipeAt_7, M_chance_8, M_weight_9, M_kept_10) _ _ _ _ rfl h hP hS dX5_on_24
  · replace h := h.1 z
    refine lv_aload_n hx hb dX5_on_7 rfl (lv_at hl 0 rfl) ?_
    refine lv_bipush (v := (-3 : Int32)) hx hb dX5_on_8 (by decide) ?_
    refine zci hA (hDD _ rfl) hS (zrunV (As := [.int (-3 : Int32)]) (rest := []) S hK hA hE hP (hDD _ rfl) hS (mX5_no l D cI cJ cC G a_M _ M_pipes M_used M_taped M_at M_statements M_hasImage M_isKeeping M_cursor M_nextAt M_nextMost M_rowMany M_refused M_setting M_hole M_pipeAt M_chance M_weight M_tape M_letter M_letterAt M_told M_kept M_then M_row (-3 : Int32) _ h) kX5_no ml_X5_66 ⟨rfl, rfl, by decide, by decide⟩ (q0 := 0) (ci := 5) rfl rfl rfl rfl hl.1 rfl (Nat.le_of_ble_eq_true rfl) dX5_on_10 ⟨Nat.zero_le _, Nat.zero_le _⟩) (fun r_11 M_refused_12 H locs h hP1 hk1 hS => ?_)
    try dsimp only at h
    have hP : va_P D vwCl ((bX5 cI cJ cC a_M M_pipes M_used M_taped M_at M_statements M_hasImage M_isKeeping M_cursor M_nextAt M_nextMost M_rowMany M_refused_12 M_setting M_hole M_pipeAt M_chance M_weight M_tape M_letter M_letterAt M_told M_kept M_then M_row)) H := hP1
    exact hret r_11 (M_pipes, M_used, M_isKeeping, M_cursor, M_refused_12, M_setting, M_hole, M_pipeAt, M_chance, M_weight, M_kept) _ _ _ _ rfl h hP hS dX5_on_13
def wpX5_costOf (post : Int32 → Prop) (p0 : Int32) : Prop := ((p0 = (1 : Int32) → (post (3 : Int32))) ∧ (¬ (p0 = (1 : Int32)) → (((p0 = (2 : Int32) → (post (2 : Int32))) ∧ (¬ (p0 = (2 : Int32)) → (((p0 = (4 : Int32) → (post (5 : Int32))) ∧ (¬ (p0 = (4 : Int32)) → (post (1 : Int32))))))))))
set_option maxHeartbeats 4000000 in
set_option maxRecDepth 100000 in
theorem mX5_costOf (l : Launch) (D : va_G) (cI cJ cC : ClassId) (G : Nat → Nat → Nat) (sz : Nat) (p0 : Int32) (post : Int32 → Prop) (h : wpX5_costOf post p0) : Met l yX5_costOf (wz yX5_costOf cX5_costOf 1 (some .int)) ({ frames := 0, cells := 0, slots := 0, locals := 0 }) (va_Pc [.int p0] (PW D (tz cI cJ cC) G ([]) sz)) (va_Qi (fun (r : Int32) (u : Unit) => post r ) (fun (u : Unit) t => va_P D vwCl ([]) t.heap) (va_A ([]) sz)) 0 0 (va_A ([]) sz) := by
  refine zmi (gw := fun (u : Unit) => []) (plainFor_of_name (by decide)) (Nat.le_of_ble_eq_true rfl) ?_
  intro p e s m below meth c A Q ls S hK hD hA hE hP hl hret
  obtain ⟨hx, hb, hml, hown, ht⟩ := id S
  have hS : va_S A s.heap s.heap [] := va_S.rf
  have hDD : ∀ ws : va_W, ws.map (fun q => q.1) = [] → va_D A ws := fun ws hw => zD hD (hw.trans rfl)
  have hl : lv_has ls 1 [(0, .int p0)] := hl
  unfold wpX5_costOf at h
  refine lv_iload_n hx hb dX5_costOf_0 rfl (lv_at hl 0 rfl) ?_
  refine lv_iconst (v := (1 : Int32)) hx hb dX5_costOf_1 (by decide) ?_
  refine lv_icmp_ne (tgt := 9) hx hb dX5_costOf_2 (by decide) (fun z => ?_) (fun z => ?_)
  · replace h := h.2 z
    refine lv_iload_n hx hb dX5_costOf_9 rfl (lv_at hl 0 rfl) ?_
    refine lv_iconst (v := (2 : Int32)) hx hb dX5_costOf_10 (by decide) ?_
    refine lv_icmp_ne (tgt := 18) hx hb dX5_costOf_11 (by decide) (fun z => ?_) (fun z => ?_)
    · replace h := h.2 z
      refine lv_iload_n hx hb dX5_costOf_18 rfl (lv_at hl 0 rfl) ?_
      refine lv_iconst (v := (4 : Int32)) hx hb dX5_costOf_19 (by decide) ?_
      refine lv_icmp_ne (tgt := 27) hx hb dX5_costOf_20 (by decide) (fun z => ?_) (fun z => ?_)
      · replace h := h.2 z
        refine lv_iconst (v := (1 : Int32)) hx hb dX5_costOf_27 (by decide) ?_
        exact hret (1 : Int32) () _ _ _ _ rfl h hP hS dX5_costOf_28
      · replace h := h.1 z
        refine lv_iconst (v := (5 : Int32)) hx hb dX5_costOf_23 (by decide) ?_
        refine lv_goto (tgt := 28) hx hb dX5_costOf_24 (by decide) ?_
        exact hret (5 : Int32) () _ _ _ _ rfl h hP hS dX5_costOf_28
    · replace h := h.1 z
      refine lv_iconst (v := (2 : Int32)) hx hb dX5_costOf_14 (by decide) ?_
      refine lv_goto (tgt := 28) hx hb dX5_costOf_15 (by decide) ?_
      exact hret (2 : Int32) () _ _ _ _ rfl h hP hS dX5_costOf_28
  · replace h := h.1 z
    refine lv_iconst (v := (3 : Int32)) hx hb dX5_costOf_5 (by decide) ?_
    refine lv_goto (tgt := 28) hx hb dX5_costOf_6 (by decide) ?_
    exact hret (3 : Int32) () _ _ _ _ rfl h hP hS dX5_costOf_28
def wpX5_set (post : Int32 → Int32 → (Nat → Int32) → (Nat → Int32) → (Nat → Int32) → Prop) (M_used : Int32) (M_refused : Nat → Int32) (M_setting : Nat → Int32) (M_weight : Nat → Int32) (p1 : Int32) (p2 : Int32) : Prop := wpX5_isIn (fun (r_1 : Int32) => ((r_1 = (0 : Int32) → (wpX5_no (fun (r_9 : Int32) (M_refused_10 : Nat → Int32) => post r_9 M_used M_refused_10 M_setting M_weight) M_refused (-2 : Int32))) ∧ (¬ (r_1 = (0 : Int32)) → (wpX5_leastOf (fun (r_2 : Int32) => wpX5_mostOf (fun (r_3 : Int32) => wpX5_bound (fun (r_4 : Int32) => ((r_4 = (0 : Int32) → (vp_in p1 4 ∧ (vp_in p1 4 ∧ (wpX5_alike (fun (M_used_5 : Int32) (M_weight_6 : Nat → Int32) => post (M_setting p1.toNatClampNeg) M_used_5 M_refused (upd M_setting p1.toNatClampNeg p2) M_weight_6) M_weight)))) ∧ (¬ (r_4 = (0 : Int32)) → (wpX5_no (fun (r_7 : Int32) (M_refused_8 : Nat → Int32) => post r_7 M_used M_refused_8 M_setting M_weight) M_refused r_4)))) p2 r_2 r_3) p1) p1)))) p1 (0 : Int32) (3 : Int32)
set_option maxHeartbeats 4000000 in
set_option maxRecDepth 100000 in
theorem mX5_set (l : Launch) (D : va_G) (cI cJ cC : ClassId) (G : Nat → Nat → Nat) (a_M : Nat → Nat) (sz : Nat) (M_pipes : Int32) (M_used : Int32) (M_taped : Int32) (M_at : Int32) (M_statements : Int32) (M_hasImage : Int32) (M_isKeeping : Int32) (M_cursor : Int32) (M_nextAt : Int32) (M_nextMost : Int64) (M_rowMany : Int32) (M_refused : Nat → Int32) (M_setting : Nat → Int32) (M_hole : Nat → Int32) (M_pipeAt : Nat → Int32) (M_chance : Nat → Int32) (M_weight : Nat → Int32) (M_tape : Nat → Int32) (M_letter : Nat → Int32) (M_letterAt : Nat → Int32) (M_told : Nat → Int32) (M_kept : Nat → Int32) (M_then : Nat → Int64) (M_row : Nat → Int32) (p1 : Int32) (p2 : Int32) (post : Int32 → Int32 → (Nat → Int32) → (Nat → Int32) → (Nat → Int32) → Prop) (h : wpX5_set post M_used M_refused M_setting M_weight p1 p2) : Met l yX5_set (wz yX5_set cX5_set 5 (some .int)) ({ frames := 1, cells := 0, slots := 0, locals := 22 }) (va_Pc [.ref (a_M 0), .int p1, .int p2] (PW D (tz cI cJ cC) G ((bX5 cI cJ cC a_M M_pipes M_used M_taped M_at M_statements M_hasImage M_isKeeping M_cursor M_nextAt M_nextMost M_rowMany M_refused M_setting M_hole M_pipeAt M_chance M_weight M_tape M_letter M_letterAt M_told M_kept M_then M_row)) sz)) (va_Qi (fun (r : Int32) (u : Int32 × (Nat → Int32) × (Nat → Int32) × (Nat → Int32)) => post r u.1 u.2.1 u.2.2.1 u.2.2.2) (fun (u : Int32 × (Nat → Int32) × (Nat → Int32) × (Nat → Int32)) t => va_P D vwCl ((bX5 cI cJ cC a_M M_pipes u.1 M_taped M_at M_statements M_hasImage M_isKeeping M_cursor M_nextAt M_nextMost M_rowMany u.2.1 u.2.2.1 M_hole M_pipeAt M_chance u.2.2.2 M_tape M_letter M_letterAt M_told M_kept M_then M_row)) t.heap) (va_A ((bX5 cI cJ cC a_M M_pipes M_used M_taped M_at M_statements M_hasImage M_isKeeping M_cursor M_nextAt M_nextMost M_rowMany M_refused M_setting M_hole M_pipeAt M_chance M_weight M_tape M_letter M_letterAt M_told M_kept M_then M_row)) sz)) 0 0 (va_A ((bX5 cI cJ cC a_M M_pipes M_used M_taped M_at M_statements M_hasImage M_isKeeping M_cursor M_nextAt M_nextMost M_rowMany M_refused M_setting M_hole M_pipeAt M_chance M_weight M_tape M_letter M_letterAt M_told M_kept M_then M_row)) sz) := by
  refine zmi (gw := fun (u : Int32 × (Nat → Int32) × (Nat → Int32) × (Nat → Int32)) => (bX5 cI cJ cC a_M M_pipes u.1 M_taped M_at M_statements M_hasImage M_isKeeping M_cursor M_nextAt M_nextMost M_rowMany u.2.1 u.2.2.1 M_hole M_pipeAt M_chance u.2.2.2 M_tape M_letter M_letterAt M_told M_kept M_then M_row)) (plainFor_of_name (by decide)) (Nat.le_of_ble_eq_true rfl) ?_
  intro p e s m below meth c A Q ls S hK hD hA hE hP hl hret
  obtain ⟨hx, hb, hml, hown, ht⟩ := id S
  have hS : va_S A s.heap s.heap [] := va_S.rf
  have hDD : ∀ ws : va_W, ws.map (fun q => q.1) = [a_M 0, a_M 1, a_M 2, a_M 3, a_M 4, a_M 5, a_M 6, a_M 7, a_M 8, a_M 9, a_M 10, a_M 11, a_M 12, a_M 13] → va_D A ws := fun ws hw => zD hD (hw.trans rfl)
  have hl : lv_has ls 5 [(0, .ref (a_M 0)), (1, .int p1), (2, .int p2)] := hl
  unfold wpX5_set at h
  refine lv_iload_n hx hb dX5_set_0 rfl (lv_at hl 1 rfl) ?_
  refine lv_iconst (v := (0 : Int32)) hx hb dX5_set_1 (by decide) ?_
  refine lv_iconst (v := (3 : Int32)) hx hb dX5_set_2 (by decide) ?_
  refine zci hA zD0 hS (zrunS (As := [.int p1, .int (0 : Int32), .int (3 : Int32)]) (rest := []) S hK hA hE zP0 zD0 hS (mX5_isIn l D cI cJ cC G _ p1 (0 : Int32) (3 : Int32) _ h) kX5_isIn ml_X5_77 ⟨rfl, rfl, by decide, by decide⟩ rfl hl.1 rfl (Nat.le_of_ble_eq_true rfl) dX5_set_3 ⟨Nat.zero_le _, Nat.zero_le _⟩) (fun r_1 u H locs h hP1 hk1 hS => ?_)
  try dsimp only at h
  have hP : va_P D vwCl ((bX5 cI cJ cC a_M M_pipes M_used M_taped M_at M_statements M_hasImage M_isKeeping M_cursor M_nextAt M_nextMost M_rowMany M_refused M_setting M_hole M_pipeAt M_chance M_weight M_tape M_letter M_letterAt M_told M_kept M_then M_row)) H := zKeep hP hk1
  refine lv_if_ne (tgt := 14) hx hb dX5_set_6 (by decide) (fun z => ?_) (fun z => ?_)
  · replace h := h.2 z
    refine lv_iload_n hx hb dX5_set_14 rfl (lv_at hl 2 rfl) ?_
    refine lv_iload_n hx hb dX5_set_15 rfl (lv_at hl 1 rfl) ?_
    refine zci hA zD0 hS (zrunS (As := [.int p1]) (rest := [.int p2]) S hK hA hE zP0 zD0 hS (mX5_leastOf l D cI cJ cC G _ p1 _ h) kX5_leastOf ml_X5_104 ⟨rfl, rfl, by decide, by decide⟩ rfl hl.1 rfl (Nat.le_of_ble_eq_true rfl) dX5_set_16 ⟨Nat.zero_le _, Nat.zero_le _⟩) (fun r_2 u H locs h hP1 hk1 hS => ?_)
    try dsimp only at h
    have hP : va_P D vwCl ((bX5 cI cJ cC a_M M_pipes M_used M_taped M_at M_statements M_hasImage M_isKeeping M_cursor M_nextAt M_nextMost M_rowMany M_refused M_setting M_hole M_pipeAt M_chance M_weight M_tape M_letter M_letterAt M_told M_kept M_then M_row)) H := zKeep hP hk1
    refine lv_iload_n hx hb dX5_set_19 rfl (lv_at hl 1 rfl) ?_
    refine zci hA zD0 hS (zrunS (As := [.int p1]) (rest := [.int r_2, .int p2]) S hK hA hE zP0 zD0 hS (mX5_mostOf l D cI cJ cC G _ p1 _ h) kX5_mostOf ml_X5_107 ⟨rfl, rfl, by decide, by decide⟩ rfl hl.1 rfl (Nat.le_of_ble_eq_true rfl) dX5_set_20 ⟨Nat.zero_le _, Nat.zero_le _⟩) (fun r_3 u H locs h hP1 hk1 hS => ?_)
    try dsimp only at h
    have hP : va_P D vwCl ((bX5 cI cJ cC a_M M_pipes M_used M_taped M_at M_statements M_hasImage M_isKeeping M_cursor M_nextAt M_nextMost M_rowMany M_refused M_setting M_hole M_pipeAt M_chance M_weight M_tape M_letter M_letterAt M_told M_kept M_then M_row)) H := zKeep hP hk1
    refine zci hA zD0 hS (zrunS (As := [.int p2, .int r_2, .int r_3]) (rest := []) S hK hA hE zP0 zD0 hS (mX5_bound l D cI cJ cC G _ p2 r_2 r_3 _ h) kX5_bound ml_X5_59 ⟨rfl, rfl, by decide, by decide⟩ rfl hl.1 rfl (Nat.le_of_ble_eq_true rfl) dX5_set_23 ⟨Nat.zero_le _, Nat.zero_le _⟩) (fun r_4 u H locs h hP1 hk1 hS => ?_)
    try dsimp only at h
    have hP : va_P D vwCl ((bX5 cI cJ cC a_M M_pipes M_used M_taped M_at M_statements M_hasImage M_isKeeping M_cursor M_nextAt M_nextMost M_rowMany M_refused M_setting M_hole M_pipeAt M_chance M_weight M_tape M_letter M_letterAt M_told M_kept M_then M_row)) H := zKeep hP hk1
    refine lv_istore_n (lv' := [(3, .int r_4), (0, .ref (a_M 0)), (1, .int p1), (2, .int p2)]) hx hb dX5_set_26 rfl hl (by decide) rfl (fun ls hl => ?_)
    refine lv_iload_n hx hb dX5_set_27 rfl (lv_at hl 0 rfl) ?_
    refine lv_if_eq (tgt := 37) hx hb dX5_set_28 (by decide) (fun z => ?_) (fun z => ?_)
    · replace h := h.1 z
      refine lv_aload_n hx hb dX5_set_37 rfl (lv_at hl 1 rfl) ?_
      refine va_get (D := D) (ci := 5) (v := .ref (a_M 2)) (C := RX5) (T := TX5) (N := 24) hx hb ht inX5 hown hK hP 0 rfl rfl 1 (by decide) (ht _ fl_X5_13) (fun _ h9 => h9) rfl dX5_set_38 ?_
      refine lv_iload_n hx hb dX5_set_41 rfl (lv_at hl 2 rfl) ?_
      obtain ⟨hin, h⟩ := h
      refine va_iald hx hb hK hP 2 0 rfl rfl hin dX5_set_42 ?_
      refine lv_istore (lv' := [(4, .int (M_setting p1.toNatClampNeg)), (3, .int r_4), (0, .ref (a_M 0)), (1, .int p1), (2, .int p2)]) hx hb dX5_set_43 hl (by decide) rfl (fun ls hl => ?_)
      refine lv_aload_n hx hb dX5_set_45 rfl (lv_at hl 2 rfl) ?_
      refine va_get (D := D) (ci := 5) (v := .ref (a_M 2)) (C := RX5) (T := TX5) (N := 24) hx hb ht inX5 hown hK hP 0 rfl rfl 1 (by decide) (ht _ fl_X5_13) (fun _ h9 => h9) rfl dX5_set_46 ?_
      refine lv_iload_n hx hb dX5_set_49 rfl (lv_at hl 3 rfl) ?_
      refine lv_iload_n hx hb dX5_set_50 rfl (lv_at hl 4 rfl) ?_
      obtain ⟨hin, h⟩ := h
      refine va_iast hx hb hK hP (hDD _ rfl) hS 2 0 rfl rfl hin dX5_set_51 (fun H locs hP _ hS => ?_)
      have hP : va_P D vwCl ((bX5 cI cJ cC a_M M_pipes M_used M_taped M_at M_statements M_hasImage M_isKeeping M_cursor M_nextAt M_nextMost M_rowMany M_refused (upd M_setting p1.toNatClampNeg p2) M_hole M_pipeAt M_chance M_weight M_tape M_letter M_letterAt M_told M_kept M_then M_row)) H := hP
      refine lv_aload_n hx hb dX5_set_52 rfl (lv_at hl 2 rfl) ?_
      refine zcv hA (hDD _ rfl) hS (zrunV (As := []) (rest := []) S hK hA hE hP (hDD _ rfl) hS (mX5_alike l D cI cJ cC G a_M _ M_pipes M_used M_taped M_at M_statements M_hasImage M_isKeeping M_cursor M_nextAt M_nextMost M_rowMany M_refused (upd M_setting p1.toNatClampNeg p2) M_hole M_pipeAt M_chance M_weight M_tape M_letter M_letterAt M_told M_kept M_then M_row _ h) kX5_alike ml_X5_50 ⟨rfl, rfl, by decide, by decide⟩ (q0 := 0) (ci := 5) rfl rfl rfl rfl hl.1 rfl (Nat.le_of_ble_eq_true rfl) dX5_set_53 ⟨Nat.zero_le _, Nat.zero_le _⟩) (fun u H locs h hP1 hk1 hS => ?_)
      obtain ⟨M_used_5, M_weight_6⟩ := u
      dsimp only at h
      have hP : va_P D vwCl ((bX5 cI cJ cC a_M M_pipes M_used_5 M_taped M_at M_statements M_hasImage M_isKeeping M_cursor M_nextAt M_nextMost M_rowMany M_refused (upd M_setting p1.toNatClampNeg p2) M_hole M_pipeAt M_chance M_weight_6 M_tape M_letter M_letterAt M_told M_kept M_then M_row)) H := hP1
      refine lv_iload hx hb dX5_set_56 (lv_at hl 0 rfl) ?_
      exact hret (M_setting p1.toNatClampNeg) (M_used_5, M_refused, upd M_setting p1.toNatClampNeg p2, M_weight_6) _ _ _ _ rfl h hP hS dX5_set_58
    · replace h := h.2 z
      refine lv_aload_n hx hb dX5_set_31 rfl (lv_at hl 1 rfl) ?_
      refine lv_iload_n hx hb dX5_set_32 rfl (lv_at hl 0 rfl) ?_
      refine zci hA (hDD _ rfl) hS (zrunV (As := [.int r_4]) (rest := []) S hK hA hE hP (hDD _ rfl) hS (mX5_no l D cI cJ cC G a_M _ M_pipes M_used M_taped M_at M_statements M_hasImage M_isKeeping M_cursor M_nextAt M_nextMost M_rowMany M_refused M_setting M_hole M_pipeAt M_chance M_weight M_tape M_letter M_letterAt M_told M_kept M_then M_row r_4 _ h) kX5_no ml_X5_66 ⟨rfl, rfl, by decide, by decide⟩ (q0 := 0) (ci := 5) rfl rfl rfl rfl hl.1 rfl (Nat.le_of_ble_eq_true rfl) dX5_set_33 ⟨Nat.zero_le _, Nat.zero_le _⟩) (fun r_7 M_refused_8 H locs h hP1 hk1 hS => ?_)
      try dsimp only at h
      have hP : va_P D vwCl ((bX5 cI cJ cC a_M M_pipes M_used M_taped M_at M_statements M_hasImage M_isKeeping M_cursor M_nextAt M_nextMost M_rowMany M_refused_8 M_setting M_hole M_pipeAt M_chance M_weight M_tape M_letter M_letterAt M_told M_kept M_then M_row)) H := hP1
      exact hret r_7 (M_used, M_refused_8, M_setting, M_weight) _ _ _ _ rfl h hP hS dX5_set_36
  · replace h := h.1 z
    refine lv_bipush (v := (-2 : Int32)) hx hb dX5_set_9 (by decide) ?_
    refine lv_goto (tgt := 26) hx hb dX5_set_11 (by decide) ?_
    refine lv_istore_n (lv' := [(3, .int (-2 : Int32)), (0, .ref (a_M 0)), (1, .int p1), (2, .int p2)]) hx hb dX5_set_26 rfl hl (by decide) rfl (fun ls hl => ?_)
    refine lv_iload_n hx hb dX5_set_27 rfl (lv_at hl 0 rfl) ?_
    refine lv_if_eq (tgt := 37) hx hb dX5_set_28 (by decide) (fun z => ?_) (fun z => ?_)
    · exact absurd z (by decide)
    · refine lv_aload_n hx hb dX5_set_31 rfl (lv_at hl 1 rfl) ?_
      refine lv_iload_n hx hb dX5_set_32 rfl (lv_at hl 0 rfl) ?_
      refine zci hA (hDD _ rfl) hS (zrunV (As := [.int (-2 : Int32)]) (rest := []) S hK hA hE hP (hDD _ rfl) hS (mX5_no l D cI cJ cC G a_M _ M_pipes M_used M_taped M_at M_statements M_hasImage M_isKeeping M_cursor M_nextAt M_nextMost M_rowMany M_refused M_setting M_hole M_pipeAt M_chance M_weight M_tape M_letter M_letterAt M_told M_kept M_then M_row (-2 : Int32) _ h) kX5_no ml_X5_66 ⟨rfl, rfl, by decide, by decide⟩ (q0 := 0) (ci := 5) rfl rfl rfl rfl hl.1 rfl (Nat.le_of_ble_eq_true rfl) dX5_set_33 ⟨Nat.zero_le _, Nat.zero_le _⟩) (fun r_9 M_refused_10 H locs h hP1 hk1 hS => ?_)
      try dsimp only at h
      have hP : va_P D vwCl ((bX5 cI cJ cC a_M M_pipes M_used M_taped M_at M_statements M_hasImage M_isKeeping M_cursor M_nextAt M_nextMost M_rowMany M_refused_10 M_setting M_hole M_pipeAt M_chance M_weight M_tape M_letter M_letterAt M_told M_kept M_then M_row)) H := hP1
      exact hret r_9 (M_used, M_refused_10, M_setting, M_weight) _ _ _ _ rfl h hP hS dX5_set_36
