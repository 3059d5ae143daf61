def lpX4_commonDivisor_9 (K : Int64 → Int64 → Int32 → Prop) : Nat → Int64 → Int64 → Int32 → Prop
  | 0, _, _, _ => False
  | n + 1, x4, x6, x8 => (((200 : Int32) ≤ x8 → (K x4 x6 x8)) ∧ (¬ ((200 : Int32) ≤ x8) → (((x6 = (0 : Int64) → (K x4 x6 x8)) ∧ (¬ (x6 = (0 : Int64)) → (¬ x6 = 0 ∧ (lpX4_commonDivisor_9 K n x6 (x4 - x4 / x6 * x6) (x8 + (1 : Int32)))))))))
set_option maxHeartbeats 4000000 in
set_option maxRecDepth 100000 in
theorem wX4_commonDivisor_9 (l : Launch) (D : va_G) (cI cJ cC : ClassId) (G : Nat → Nat → Nat) {p : Program} {e : Env} {s : State} {m : MethodId} {below : List Frame} {meth : Method} {c : Code} {A : Nat → Prop} {Q : State → Prop} (p0 : Int64) (p1 : Int64) (K : Int64 → Int64 → Int32 → Prop) (S : CallFix p m c cX4_commonDivisor 11 s ([.long p0, .long p1] : List Value).toArray bg RX4) (hK : va_K D vwCl (tz cI cJ cC) s) (hDD : ∀ ws : va_W, ws.map (fun q => q.1) = [] → va_D A ws) (hA : ∀ q, s.heap.size ≤ q → A q) (hE : EV G A s) (hKK : ∀ (x4 : Int64) (x6 : Int64) (x8 : Int32) (H : Heap) (locs : List Loc) (ls : Array Slot), K x4 x6 x8 → va_P D vwCl ([]) H → va_S A s.heap H locs → lv_has ls 11 [(4, .long x4)] → W p l e ({ frames := 0, cells := 0, slots := 0, locals := 0 }) s m ([.long p0, .long p1] : List Value).toArray below meth c H locs 0 0 Q (F0 m 45 ls [])) :
    ∀ (n : Nat) (x4 : Int64) (x6 : Int64) (x8 : Int32) (H : Heap) (locs : List Loc) (ls : Array Slot), lpX4_commonDivisor_9 K n x4 x6 x8 → va_P D vwCl ([]) H → va_S A s.heap H locs → lv_has ls 11 [(4, .long x4), (6, .long x6), (8, .int x8)] → W p l e ({ frames := 0, cells := 0, slots := 0, locals := 0 }) s m ([.long p0, .long p1] : List Value).toArray below meth c H locs 0 0 Q (F0 m 9 ls []) := by
  obtain ⟨hx, hb, hml, hown, ht⟩ := id S
  intro n
  induction n with
  | zero =>
    intro x4 x6 x8 H locs ls h
    exact absurd h (by simp [lpX4_commonDivisor_9])
  | succ n ih =>
    intro x4 x6 x8 H locs ls h hP hS hl
    rw [lpX4_commonDivisor_9] at h
    refine lv_iload hx hb dX4_commonDivisor_9 (lv_at hl 2 rfl) ?_
    refine lv_sipush (v := (200 : Int32)) hx hb dX4_commonDivisor_11 (by decide) ?_
    refine lv_icmp_ge (tgt := 45) hx hb dX4_commonDivisor_14 (by decide) (fun z => ?_) (fun z => ?_)
    · replace h := h.1 z
      exact hKK x4 x6 x8 _ _ _ h hP hS (lv_sub hl [0] rfl)
    · replace h := h.2 z
      refine lv_lload hx hb dX4_commonDivisor_17 (lv_at hl 1 rfl) ?_
      refine lv_lconst (v := (0 : Int64)) hx hb dX4_commonDivisor_19 (by decide) ?_
      refine W.lcmp hx hb dX4_commonDivisor_20 ?_
      refine lv_if_eq (tgt := 45) hx hb dX4_commonDivisor_21 (by decide) (fun z => ?_) (fun z => ?_)
      · replace h := h.1 (zl_eq.mp z)
        exact hKK x4 x6 x8 _ _ _ h hP hS (lv_sub hl [0] rfl)
      · replace h := h.2 (fun q => z (zl_eq.mpr q))
        refine lv_lload hx hb dX4_commonDivisor_24 (lv_at hl 0 rfl) ?_
        refine lv_lload hx hb dX4_commonDivisor_26 (lv_at hl 1 rfl) ?_
        obtain ⟨hne, h⟩ := h
        refine lv_lrem hx hb dX4_commonDivisor_28 hne ?_
        refine lv_lstore (lv' := [(9, .long (x4 - x4 / x6 * x6)), (4, .long x4), (6, .long x6), (8, .int x8)]) hx hb dX4_commonDivisor_29 hl (by decide) rfl (fun ls hl => ?_)
        refine lv_lload hx hb dX4_commonDivisor_31 (lv_at hl 2 rfl) ?_
        refine lv_lstore (lv' := [(4, .long x6), (9, .long (x4 - x4 / x6 * x6)), (6, .long x6), (8, .int x8)]) hx hb dX4_commonDivisor_33 hl (by decide) rfl (fun ls hl => ?_)
        refine lv_lload hx hb dX4_commonDivisor_35 (lv_at hl 1 rfl) ?_
        refine lv_lstore (lv' := [(6, .long (x4 - x4 / x6 * x6)), (4, .long x6), (9, .long (x4 - x4 / x6 * x6)), (8, .int x8)]) hx hb dX4_commonDivisor_37 hl (by decide) rfl (fun ls hl => ?_)
        refine lv_iinc (v := x8 + (1 : Int32)) (lv' := [(8, .int (x8 + (1 : Int32))), (6, .long (x4 - x4 / x6 * x6)), (4, .long x6), (9, .long (x4 - x4 / x6 * x6))]) hx hb dX4_commonDivisor_39 hl (k := 3) rfl (by rfl) (by decide) rfl (fun ls hl => ?_)
        refine lv_goto (tgt := 9) hx hb dX4_commonDivisor_42 (by decide) ?_
        exact ih x6 (x4 - x4 / x6 * x6) (x8 + (1 : Int32)) _ _ _ h hP hS (lv_sub hl [2, 1, 0] rfl)
def wpX4_commonDivisor (post : Int64 → Prop) (p0 : Int64) (p1 : Int64) : Prop := ∃ n_1 : Nat, lpX4_commonDivisor_9 (fun (x4_2 : Int64) (x6_3 : Int64) (x8_4 : Int32) => post x4_2) n_1 p0 p1 (0 : Int32)
set_option maxHeartbeats 4000000 in
set_option maxRecDepth 100000 in
theorem mX4_commonDivisor (l : Launch) (D : va_G) (cI cJ cC : ClassId) (G : Nat → Nat → Nat) (sz : Nat) (p0 : Int64) (p1 : Int64) (post : Int64 → Prop) (h : wpX4_commonDivisor post p0 p1) : Met l yX4_commonDivisor (wz yX4_commonDivisor cX4_commonDivisor 11 (some .long)) ({ frames := 0, cells := 0, slots := 0, locals := 0 }) (va_Pc [.long p0, .long p1] (PW D (tz cI cJ cC) G ([]) sz)) (va_Ql (fun (r : Int64) (u : Unit) => post r ) (fun (u : Unit) t => va_P D vwCl ([]) t.heap) (va_A ([]) sz)) 0 0 (va_A ([]) sz) := by
  refine zml (gw := fun (u : Unit) => []) (plainFor_of_name (by decide)) (Nat.le_of_ble_eq_true rfl) ?_
  intro p e s m below meth c A Q ls S hK hD hA hE hP hl hret
  obtain ⟨hx, hb, hml, hown, ht⟩ := id S
  have hS : va_S A s.heap s.heap [] := va_S.rf
  have hDD : ∀ ws : va_W, ws.map (fun q => q.1) = [] → va_D A ws := fun ws hw => zD hD (hw.trans rfl)
  have hl : lv_has ls 11 [(0, .long p0), (2, .long p1)] := hl
  unfold wpX4_commonDivisor at h
  refine lv_lload_n hx hb dX4_commonDivisor_0 rfl (lv_at hl 0 rfl) ?_
  refine lv_lstore (lv' := [(4, .long p0), (0, .long p0), (2, .long p1)]) hx hb dX4_commonDivisor_1 hl (by decide) rfl (fun ls hl => ?_)
  refine lv_lload_n hx hb dX4_commonDivisor_3 rfl (lv_at hl 2 rfl) ?_
  refine lv_lstore (lv' := [(6, .long p1), (4, .long p0), (0, .long p0), (2, .long p1)]) hx hb dX4_commonDivisor_4 hl (by decide) rfl (fun ls hl => ?_)
  refine lv_iconst (v := (0 : Int32)) hx hb dX4_commonDivisor_6 (by decide) ?_
  refine lv_istore (lv' := [(8, .int (0 : Int32)), (6, .long p1), (4, .long p0), (0, .long p0), (2, .long p1)]) hx hb dX4_commonDivisor_7 hl (by decide) rfl (fun ls hl => ?_)
  obtain ⟨n_1, h⟩ := h
  refine wX4_commonDivisor_9 l D cI cJ cC G p0 p1 _ S hK hDD hA hE (fun x4_2 x6_3 x8_4 H locs ls h hP hS hl => ?_) n_1 p0 p1 (0 : Int32) _ _ _ h hP hS (lv_sub hl [2, 1, 0] rfl)
  try dsimp only at h
  refine lv_lload hx hb dX4_commonDivisor_45 (lv_at hl 0 rfl) ?_
  exact hret x4_2 () _ _ _ _ h hP hS dX4_commonDivisor_47
def lpX3_lessenWeights_4 (K : Int64 → Int32 → Prop) (w_weights : Nat → Int64) : Nat → Int64 → Int32 → Prop
  | 0, _, _ => False
  | n + 1, x1, x3 => (((24 : Int32) ≤ x3 → (K x1 x3)) ∧ (¬ ((24 : Int32) ≤ x3) → (vp_in x3 24 ∧ (wpX4_commonDivisor (fun (r_1 : Int64) => lpX3_lessenWeights_4 K w_weights n r_1 (x3 + (1 : Int32))) (w_weights x3.toNatClampNeg) x1))))
set_option maxHeartbeats 4000000 in
set_option maxRecDepth 100000 in
theorem wX3_lessenWeights_4 (l : Launch) (D : va_G) (cI cJ cC : ClassId) (G : Nat → Nat → Nat) (a_w : Nat → Nat) {p : Program} {e : Env} {s : State} {m : MethodId} {below : List Frame} {meth : Method} {c : Code} {A : Nat → Prop} {Q : State → Prop} (w_space : Int32) (w_beam : Int32) (w_door : Int32) (w_law : Int32) (w_used : Int32) (w_pipes : Int32) (w_drilled : Int64) (w_total : Int64) (w_open : Int32) (w_pipeInches : Nat → Int32) (w_pipeChances : Nat → Int32) (w_weights : Nat → Int64) (w_woods : Nat → Int32) (w_sums : Nat → Int64) (K : Int64 → Int32 → Prop) (S : CallFix p m c cX3_lessenWeights 4 s ([.ref (a_w 0)] : List Value).toArray bg RX3) (hK : va_K D vwCl (tz cI cJ cC) s) (hDD : ∀ ws : va_W, ws.map (fun q => q.1) = [a_w 0, a_w 1, a_w 2, a_w 3, a_w 4, a_w 5] → va_D A ws) (hA : ∀ q, s.heap.size ≤ q → A q) (hE : EV G A s) (hKK : ∀ (x1 : Int64) (x3 : Int32) (H : Heap) (locs : List Loc) (ls : Array Slot), K x1 x3 → va_P D vwCl ((bX3 cI cJ cC a_w w_space w_beam w_door w_law w_used w_pipes w_drilled w_total w_open w_pipeInches w_pipeChances w_weights w_woods w_sums)) H → va_S A s.heap H locs → lv_has ls 4 [(0, .ref (a_w 0)), (1, .long x1)] → W p l e ({ frames := 1, cells := 0, slots := 0, locals := 30 }) s m ([.ref (a_w 0)] : List Value).toArray below meth c H locs 0 0 Q (F0 m 27 ls [])) :
    ∀ (n : Nat) (x1 : Int64) (x3 : Int32) (H : Heap) (locs : List Loc) (ls : Array Slot), lpX3_lessenWeights_4 K w_weights n x1 x3 → va_P D vwCl ((bX3 cI cJ cC a_w w_space w_beam w_door w_law w_used w_pipes w_drilled w_total w_open w_pipeInches w_pipeChances w_weights w_woods w_sums)) H → va_S A s.heap H locs → lv_has ls 4 [(0, .ref (a_w 0)), (1, .long x1), (3, .int x3)] → W p l e ({ frames := 1, cells := 0, slots := 0, locals := 30 }) s m ([.ref (a_w 0)] : List Value).toArray below meth c H locs 0 0 Q (F0 m 4 ls []) := by
  obtain ⟨hx, hb, hml, hown, ht⟩ := id S
  intro n
  induction n with
  | zero =>
    intro x1 x3 H locs ls h
    exact absurd h (by simp [lpX3_lessenWeights_4])
  | succ n ih =>
    intro x1 x3 H locs ls h hP hS hl
    rw [lpX3_lessenWeights_4] at h
    refine lv_iload_n hx hb dX3_lessenWeights_4 rfl (lv_at hl 2 rfl) ?_
    refine lv_bipush (v := (24 : Int32)) hx hb dX3_lessenWeights_5 (by decide) ?_
    refine lv_icmp_ge (tgt := 27) hx hb dX3_lessenWeights_7 (by decide) (fun z => ?_) (fun z => ?_)
    · replace h := h.1 z
      exact hKK x1 x3 _ _ _ h hP hS (lv_sub hl [0, 1] rfl)
    · replace h := h.2 z
      refine lv_aload_n hx hb dX3_lessenWeights_10 rfl (lv_at hl 0 rfl) ?_
      refine va_get (D := D) (ci := 3) (v := .ref (a_w 3)) (C := RX3) (T := TX3) (N := 14) hx hb ht inX3 hown hK hP 0 rfl rfl 9 (by decide) (ht _ fl_X3_41) (fun _ h9 => h9) rfl dX3_lessenWeights_11 ?_
      refine lv_iload_n hx hb dX3_lessenWeights_14 rfl (lv_at hl 2 rfl) ?_
      obtain ⟨hin, h⟩ := h
      refine va_lald hx hb hK hP 3 1 rfl rfl hin dX3_lessenWeights_15 ?_
      refine lv_lload_n hx hb dX3_lessenWeights_16 rfl (lv_at hl 1 rfl) ?_
      refine zcl hA zD0 hS (zrunN (As := [.long (w_weights x3.toNatClampNeg), .long x1]) (rest := []) S hK hA hE zP0 zD0 hS (mX4_commonDivisor l D cI cJ cC G _ (w_weights x3.toNatClampNeg) x1 _ h) kX4_commonDivisor 8 rfl ⟨rfl, rfl, by decide, by decide⟩ rfl hl.1 rfl (Nat.le_of_ble_eq_true rfl) dX3_lessenWeights_17 ⟨Nat.zero_le _, Nat.zero_le _⟩) (fun r_1 u H locs h hP1 hk1 hS => ?_)
      try dsimp only at h
      have hP : va_P D vwCl ((bX3 cI cJ cC a_w w_space w_beam w_door w_law w_used w_pipes w_drilled w_total w_open w_pipeInches w_pipeChances w_weights w_woods w_sums)) H := zKeep hP hk1
      refine lv_lstore_n (lv' := [(1, .long r_1), (0, .ref (a_w 0)), (3, .int x3)]) hx hb dX3_lessenWeights_20 rfl hl (by decide) rfl (fun ls hl => ?_)
      refine lv_iinc (v := x3 + (1 : Int32)) (lv' := [(3, .int (x3 + (1 : Int32))), (1, .long r_1), (0, .ref (a_w 0))]) hx hb dX3_lessenWeights_21 hl (k := 2) rfl (by rfl) (by decide) rfl (fun ls hl => ?_)
      refine lv_goto (tgt := 4) hx hb dX3_lessenWeights_24 (by decide) ?_
      exact ih r_1 (x3 + (1 : Int32)) _ _ _ h hP hS (lv_sub hl [2, 1, 0] rfl)
def lpX3_lessenWeights_29 (K : Int32 → (Nat → Int64) → Prop) (x1 : Int64) : Nat → Int32 → (Nat → Int64) → Prop
  | 0, _, _ => False
  | n + 1, x3, w_weights => (((24 : Int32) ≤ x3 → (K x3 w_weights)) ∧ (¬ ((24 : Int32) ≤ x3) → (((x1 ≤ (1 : Int64) → (K x3 w_weights)) ∧ (¬ (x1 ≤ (1 : Int64)) → (vp_in x3 24 ∧ (¬ x1 = 0 ∧ (vp_in x3 24 ∧ (lpX3_lessenWeights_29 K x1 n (x3 + (1 : Int32)) (vp_updL w_weights x3.toNatClampNeg ((w_weights x3.toNatClampNeg) / x1)))))))))))
set_option maxHeartbeats 4000000 in
set_option maxRecDepth 100000 in
theorem wX3_lessenWeights_29 (l : Launch) (D : va_G) (cI cJ cC : ClassId) (G : Nat → Nat → Nat) (a_w : Nat → Nat) {p : Program} {e : Env} {s : State} {m : MethodId} {below : List Frame} {meth : Method} {c : Code} {A : Nat → Prop} {Q : State → Prop} (x1 : Int64) (w_space : Int32) (w_beam : Int32) (w_door : Int32) (w_law : Int32) (w_used : Int32) (w_pipes : Int32) (w_drilled : Int64) (w_total : Int64) (w_open : Int32) (w_pipeInches : Nat → Int32) (w_pipeChances : Nat → Int32) (w_woods : Nat → Int32) (w_sums : Nat → Int64) (K : Int32 → (Nat → Int64) → Prop) (S : CallFix p m c cX3_lessenWeights 4 s ([.ref (a_w 0)] : List Value).toArray bg RX3) (hK : va_K D vwCl (tz cI cJ cC) s) (hDD : ∀ ws : va_W, ws.map (fun q => q.1) = [a_w 0, a_w 1, a_w 2, a_w 3, a_w 4, a_w 5] → va_D A ws) (hA : ∀ q, s.heap.size ≤ q → A q) (hE : EV G A s) (hKK : ∀ (x3 : Int32) (w_weights : Nat → Int64) (H : Heap) (locs : List Loc) (ls : Array Slot), K x3 w_weights → va_P D vwCl ((bX3 cI cJ cC a_w w_space w_beam w_door w_law w_used w_pipes w_drilled w_total w_open w_pipeInches w_pipeChances w_weights w_woods w_sums)) H → va_S A s.heap H locs → lv_has ls 4 [] → W p l e ({ frames := 1, cells := 0, slots := 0, locals := 30 }) s m ([.ref (a_w 0)] : List Value).toArray below meth c H locs 0 0 Q (F0 m 57 ls [])) :
    ∀ (n : Nat) (x3 : Int32) (w_weights : Nat → Int64) (H : Heap) (locs : List Loc) (ls : Array Slot), lpX3_lessenWeights_29 K x1 n x3 w_weights → va_P D vwCl ((bX3 cI cJ cC a_w w_space w_beam w_door w_law w_used w_pipes w_drilled w_total w_open w_pipeInches w_pipeChances w_weights w_woods w_sums)) H → va_S A s.heap H locs → lv_has ls 4 [(0, .ref (a_w 0)), (1, .long x1), (3, .int x3)] → W p l e ({ frames := 1, cells := 0, slots := 0, locals := 30 }) s m ([.ref (a_w 0)] : List Value).toArray below meth c H locs 0 0 Q (F0 m 29 ls []) := by
  obtain ⟨hx, hb, hml, hown, ht⟩ := id S
  intro n
  induction n with
  | zero =>
    intro x3 w_weights H locs ls h
    exact absurd h (by simp [lpX3_lessenWeights_29])
  | succ n ih =>
    intro x3 w_weights H locs ls h hP hS hl
    rw [lpX3_lessenWeights_29] at h
    refine lv_iload_n hx hb dX3_lessenWeights_29 rfl (lv_at hl 2 rfl) ?_
    refine lv_bipush (v := (24 : Int32)) hx hb dX3_lessenWeights_30 (by decide) ?_
    refine lv_icmp_ge (tgt := 57) hx hb dX3_lessenWeights_32 (by decide) (fun z => ?_) (fun z => ?_)
    · replace h := h.1 z
      exact hKK x3 w_weights _ _ _ h hP hS (lv_sub hl [] rfl)
    · replace h := h.2 z
      refine lv_lload_n hx hb dX3_lessenWeights_35 rfl (lv_at hl 1 rfl) ?_
      refine lv_lconst (v := (1 : Int64)) hx hb dX3_lessenWeights_36 (by decide) ?_
      refine W.lcmp hx hb dX3_lessenWeights_37 ?_
      refine lv_if_le (tgt := 57) hx hb dX3_lessenWeights_38 (by decide) (fun z => ?_) (fun z => ?_)
      · replace h := h.1 (zl_le.mp z)
        exact hKK x3 w_weights _ _ _ h hP hS (lv_sub hl [] rfl)
      · replace h := h.2 (fun q => z (zl_le.mpr q))
        refine lv_aload_n hx hb dX3_lessenWeights_41 rfl (lv_at hl 0 rfl) ?_
        refine va_get (D := D) (ci := 3) (v := .ref (a_w 3)) (C := RX3) (T := TX3) (N := 14) hx hb ht inX3 hown hK hP 0 rfl rfl 9 (by decide) (ht _ fl_X3_41) (fun _ h9 => h9) rfl dX3_lessenWeights_42 ?_
        refine lv_iload_n hx hb dX3_lessenWeights_45 rfl (lv_at hl 2 rfl) ?_
        refine lv_dup2_11 hx hb dX3_lessenWeights_46 rfl rfl ?_
        obtain ⟨hin, h⟩ := h
        refine va_lald hx hb hK hP 3 1 rfl rfl hin dX3_lessenWeights_47 ?_
        refine lv_lload_n hx hb dX3_lessenWeights_48 rfl (lv_at hl 1 rfl) ?_
        obtain ⟨hne, h⟩ := h
        refine lv_ldiv hx hb dX3_lessenWeights_49 hne ?_
        obtain ⟨hin, h⟩ := h
        refine va_last hx hb hK hP (hDD _ rfl) hS 3 1 rfl rfl hin dX3_lessenWeights_50 (fun H locs hP _ hS => ?_)
        have hP : va_P D vwCl ((bX3 cI cJ cC a_w w_space w_beam w_door w_law w_used w_pipes w_drilled w_total w_open w_pipeInches w_pipeChances (vp_updL w_weights x3.toNatClampNeg ((w_weights x3.toNatClampNeg) / x1)) w_woods w_sums)) H := hP
        refine lv_iinc (v := x3 + (1 : Int32)) (lv' := [(3, .int (x3 + (1 : Int32))), (0, .ref (a_w 0)), (1, .long x1)]) hx hb dX3_lessenWeights_51 hl (k := 2) rfl (by rfl) (by decide) rfl (fun ls hl => ?_)
        refine lv_goto (tgt := 29) hx hb dX3_lessenWeights_54 (by decide) ?_
        exact ih (x3 + (1 : Int32)) (vp_updL w_weights x3.toNatClampNeg ((w_weights x3.toNatClampNeg) / x1)) _ _ _ h hP hS (lv_sub hl [1, 2, 0] rfl)
def wpX3_lessenWeights (post : (Nat → Int64) → Prop) (w_weights : Nat → Int64) : Prop := ∃ n_2 : Nat, lpX3_lessenWeights_4 (fun (x1_3 : Int64) (x3_4 : Int32) => ∃ n_5 : Nat, lpX3_lessenWeights_29 (fun (x3_6 : Int32) (w_weights_7 : Nat → Int64) => post w_weights_7) x1_3 n_5 (0 : Int32) w_weights) w_weights n_2 (0 : Int64) (0 : Int32)
set_option maxHeartbeats 4000000 in
set_option maxRecDepth 100000 in
theorem mX3_lessenWeights (l : Launch) (D : va_G) (cI cJ cC : ClassId) (G : Nat → Nat → Nat) (a_w : Nat → Nat) (sz : Nat) (w_space : Int32) (w_beam : Int32) (w_door : Int32) (w_law : Int32) (w_used : Int32) (w_pipes : Int32) (w_drilled : Int64) (w_total : Int64) (w_open : Int32) (w_pipeInches : Nat → Int32) (w_pipeChances : Nat → Int32) (w_weights : Nat → Int64) (w_woods : Nat → Int32) (w_sums : Nat → Int64) (post : (Nat → Int64) → Prop) (h : wpX3_lessenWeights post w_weights) : Met l yX3_lessenWeights (wz yX3_lessenWeights cX3_lessenWeights 4 none) ({ frames := 1, cells := 0, slots := 0, locals := 30 }) (va_Pc [.ref (a_w 0)] (PW D (tz cI cJ cC) G ((bX3 cI cJ cC a_w w_space w_beam w_door w_law w_used w_pipes w_drilled w_total w_open w_pipeInches w_pipeChances w_weights w_woods w_sums)) sz)) (va_Qv (fun (u : (Nat → Int64)) => post u) (fun (u : (Nat → Int64)) t => va_P D vwCl ((bX3 cI cJ cC a_w w_space w_beam w_door w_law w_used w_pipes w_drilled w_total w_open w_pipeInches w_pipeChances u w_woods w_sums)) t.heap) (va_A ((bX3 cI cJ cC a_w w_space w_beam w_door w_law w_used w_pipes w_drilled w_total w_open w_pipeInches w_pipeChances w_weights w_woods w_sums)) sz)) 0 0 (va_A ((bX3 cI cJ cC a_w w_space w_beam w_door w_law w_used w_pipes w_drilled w_total w_open w_pipeInches w_pipeChances w_weights w_woods w_sums)) sz) := by
  refine zmv (gw := fun (u : (Nat → Int64)) => (bX3 cI cJ cC a_w w_space w_beam w_door w_law w_used w_pipes w_drilled w_total w_open w_pipeInches w_pipeChances u w_woods w_sums)) (plainFor_of_name (by decide)) (Nat.le_of_ble_eq_true rfl) ?_
  intro p e s m below meth c A Q ls S hK hD hA hE hP hl hret
  obtain ⟨hx, hb, hml, hown, ht⟩ := id S
  have hS : va_S A s.heap s.heap [] := va_S.rf
  have hDD : ∀ ws : va_W, ws.map (fun q => q.1) = [a_w 0, a_w 1, a_w 2, a_w 3, a_w 4, a_w 5] → va_D A ws := fun ws hw => zD hD (hw.trans rfl)
  have hl : lv_has ls 4 [(0, .ref (a_w 0))] := hl
  unfold wpX3_lessenWeights at h
  refine lv_lconst (v := (0 : Int64)) hx hb dX3_lessenWeights_0 (by decide) ?_
  refine lv_lstore_n (lv' := [(1, .long (0 : Int64)), (0, .ref (a_w 0))]) hx hb dX3_lessenWeights_1 rfl hl (by decide) rfl (fun ls hl => ?_)
  refine lv_iconst (v := (0 : Int32)) hx hb dX3_lessenWeights_2 (by decide) ?_
  refine lv_istore_n (lv' := [(3, .int (0 : Int32)), (1, .long (0 : Int64)), (0, .ref (a_w 0))]) hx hb dX3_lessenWeights_3 rfl hl (by decide) rfl (fun ls hl => ?_)
  obtain ⟨n_2, h⟩ := h
  refine wX3_lessenWeights_4 l D cI cJ cC G a_w w_space w_beam w_door w_law w_used w_pipes w_drilled w_total w_open w_pipeInches w_pipeChances w_weights w_woods w_sums _ S hK hDD hA hE (fun x1_3 x3_4 H locs ls h hP hS hl => ?_) n_2 (0 : Int64) (0 : Int32) _ _ _ h hP hS (lv_sub hl [2, 1, 0] rfl)
  try dsimp only at h
  refine lv_iconst (v := (0 : Int32)) hx hb dX3_lessenWeights_27 (by decide) ?_
  refine lv_istore_n (lv' := [(3, .int (0 : Int32)), (0, .ref (a_w 0)), (1, .long x1_3)]) hx hb dX3_lessenWeights_28 rfl hl (by decide) rfl (fun ls hl => ?_)
  obtain ⟨n_5, h⟩ := h
  refine wX3_lessenWeights_29 l D cI cJ cC G a_w x1_3 w_space w_beam w_door w_law w_used w_pipes w_drilled w_total w_open w_pipeInches w_pipeChances w_woods w_sums _ S hK hDD hA hE (fun x3_6 w_weights_7 H locs ls h hP hS hl => ?_) n_5 (0 : Int32) w_weights _ _ _ h hP hS (lv_sub hl [1, 2, 0] rfl)
  try dsimp only at h
  exact hret w_weights_7 _ _ _ _ h hP hS dX3_lessenWeights_57
def wpX3_drill (post : Int64 → Prop) (w_drilled : Int64) (p1 : Int32) : Prop := post (w_drilled ||| ((1 : Int64) <<< (p1.toInt64 &&& 63)))
set_option maxHeartbeats 4000000 in
set_option maxRecDepth 100000 in
theorem mX3_drill (l : Launch) (D : va_G) (cI cJ cC : ClassId) (G : Nat → Nat → Nat) (a_w : Nat → Nat) (sz : Nat) (w_space : Int32) (w_beam : Int32) (w_door : Int32) (w_law : Int32) (w_used : Int32) (w_pipes : Int32) (w_drilled : Int64) (w_total : Int64) (w_open : Int32) (w_pipeInches : Nat → Int32) (w_pipeChances : Nat → Int32) (w_weights : Nat → Int64) (w_woods : Nat → Int32) (w_sums : Nat → Int64) (p1 : Int32) (post : Int64 → Prop) (h : wpX3_drill post w_drilled p1) : Met l yX3_drill (wz yX3_drill cX3_drill 2 none) ({ frames := 0, cells := 0, slots := 0, locals := 0 }) (va_Pc [.ref (a_w 0), .int p1] (PW D (tz cI cJ cC) G ((bX3 cI cJ cC a_w w_space w_beam w_door w_law w_used w_pipes w_drilled w_total w_open w_pipeInches w_pipeChances w_weights w_woods w_sums)) sz)) (va_Qv (fun (u : Int64) => post u) (fun (u : Int64) t => va_P D vwCl ((bX3 cI cJ cC a_w w_space w_beam w_door w_law w_used w_pipes u w_total w_open w_pipeInches w_pipeChances w_weights w_woods w_sums)) t.heap) (va_A ((bX3 cI cJ cC a_w w_space w_beam w_door w_law w_used w_pipes w_drilled w_total w_open w_pipeInches w_pipeChances w_weights w_woods w_sums)) sz)) 0 0 (va_A ((bX3 cI cJ cC a_w w_space w_beam w_door w_law w_used w_pipes w_drilled w_total w_open w_pipeInches w_pipeChances w_weights w_woods w_sums)) sz) := by
  refine zmv (gw := fun (u : Int64) => (bX3 cI cJ cC a_w w_space w_beam w_door w_law w_used w_pipes u w_total w_open w_pipeInches w_pipeChances w_weights w_woods w_sums)) (plainFor_of_name (by decide)) (Nat.le_of_ble_eq_true rfl) ?_
  intro p e s m below meth c A Q ls S hK hD hA hE hP hl hret
  obtain ⟨hx, hb, hml, hown, ht⟩ := id S
  have hS : va_S A s.heap s.heap [] := va_S.rf
  have hDD : ∀ ws : va_W, ws.map (fun q => q.1) = [a_w 0, a_w 1, a_w 2, a_w 3, a_w 4, a_w 5] → va_D A ws := fun ws hw => zD hD (hw.trans rfl)
  have hl : lv_has ls 2 [(0, .ref (a_w 0)), (1, .int p1)] := hl
  unfold wpX3_drill at h
  refine lv_aload_n hx hb dX3_drill_0 rfl (lv_at hl 0 rfl) ?_
  refine lv_dup hx hb dX3_drill_1 rfl ?_
  refine va_get (D := D) (ci := 3) (v := .long w_drilled) (C := RX3) (T := TX3) (N := 14) hx hb ht inX3 hown hK hP 0 rfl rfl 6 (by decide) (ht _ fl_X3_30) (fun _ h9 => h9) rfl dX3_drill_2 ?_
  refine lv_lconst (v := (1 : Int64)) hx hb dX3_drill_5 (by decide) ?_
  refine lv_iload_n hx hb dX3_drill_6 rfl (lv_at hl 1 rfl) ?_
  refine lv_lshl hx hb dX3_drill_7 rfl ?_
  refine lv_lor hx hb dX3_drill_8 ?_
  refine va_put (D := D) (ci := 3) (v := .long (w_drilled ||| ((1 : Int64) <<< (p1.toInt64 &&& 63)))) (ty := .long) (C := RX3) (T := TX3) (N := 14) hx hb ht inX3 tyX3 tyX3_ok nmX3 hown hK hP (hDD _ rfl) hS 0 rfl rfl 6 (by decide) (ht _ fl_X3_30) (fun _ h9 => h9) rfl (by decide +kernel) rfl rfl (Nat.le_of_ble_eq_true rfl) dX3_drill_9 (fun H locs hP _ hS => ?_)
  have hP : va_P D vwCl ((bX3 cI cJ cC a_w w_space w_beam w_door w_law w_used w_pipes (w_drilled ||| ((1 : Int64) <<< (p1.toInt64 &&& 63))) w_total w_open w_pipeInches w_pipeChances w_weights w_woods w_sums)) H := hP
  exact hret (w_drilled ||| ((1 : Int64) <<< (p1.toInt64 &&& 63))) _ _ _ _ h hP hS dX3_drill_12
def lpX3_takeTelling_3 (K : Int32 → (Nat → Int64) → Prop) (x1 : Int32) (x2 : Int32) (x3 : Int32) (w_woods : Nat → Int32) : Nat → Int32 → (Nat → Int64) → Prop
  | 0, _, _ => False
  | n + 1, x4, w_weights => (((24 : Int32) ≤ x4 → (K x4 w_weights)) ∧ (¬ ((24 : Int32) ≤ x4) → (vp_in x4 24 ∧ (wpX3_hasWood (fun (r_1 : Int32) => wpX4_tenths (fun (r_2 : Int32) => vp_in x4 24 ∧ (lpX3_takeTelling_3 K x1 x2 x3 w_woods n (x4 + (1 : Int32)) (vp_updL w_weights x4.toNatClampNeg ((w_weights x4.toNatClampNeg) * r_2.toInt64)))) x1 x3 r_1) w_woods x2 x4))))
set_option maxHeartbeats 4000000 in
set_option maxRecDepth 100000 in
theorem wX3_takeTelling_3 (l : Launch) (D : va_G) (cI cJ cC : ClassId) (G : Nat → Nat → Nat) (a_w : Nat → Nat) {p : Program} {e : Env} {s : State} {m : MethodId} {below : List Frame} {meth : Method} {c : Code} {A : Nat → Prop} {Q : State → Prop} (p1 : Int32) (p2 : Int32) (p3 : Int32) (x1 : Int32) (x2 : Int32) (x3 : Int32) (w_space : Int32) (w_beam : Int32) (w_door : Int32) (w_law : Int32) (w_used : Int32) (w_pipes : Int32) (w_drilled : Int64) (w_total : Int64) (w_open : Int32) (w_pipeInches : Nat → Int32) (w_pipeChances : Nat → Int32) (w_woods : Nat → Int32) (w_sums : Nat → Int64) (K : Int32 → (Nat → Int64) → Prop) (S : CallFix p m c cX3_takeTelling 5 s ([.ref (a_w 0), .int p1, .int p2, .int p3] : List Value).toArray bg RX3) (hK : va_K D vwCl (tz cI cJ cC) s) (hDD : ∀ ws : va_W, ws.map (fun q => q.1) = [a_w 0, a_w 1, a_w 2, a_w 3, a_w 4, a_w 5] → va_D A ws) (hA : ∀ q, s.heap.size ≤ q → A q) (hE : EV G A s) (hKK : ∀ (x4 : Int32) (w_weights : Nat → Int64) (H : Heap) (locs : List Loc) (ls : Array Slot), K x4 w_weights → va_P D vwCl ((bX3 cI cJ cC a_w w_space w_beam w_door w_law w_used w_pipes w_drilled w_total w_open w_pipeInches w_pipeChances w_weights w_woods w_sums)) H → va_S A s.heap H locs → lv_has ls 5 [(0, .ref (a_w 0)), (1, .int x1), (2, .int x2)] → W p l e ({ frames := 3, cells := 0, slots := 0, locals := 66 }) s m ([.ref (a_w 0), .int p1, .int p2, .int p3] : List Value).toArray below meth c H locs 0 0 Q (F0 m 39 ls [])) :
    ∀ (n : Nat) (x4 : Int32) (w_weights : Nat → Int64) (H : Heap) (locs : List Loc) (ls : Array Slot), lpX3_takeTelling_3 K x1 x2 x3 w_woods n x4 w_weights → va_P D vwCl ((bX3 cI cJ cC a_w w_space w_beam w_door w_law w_used w_pipes w_drilled w_total w_open w_pipeInches w_pipeChances w_weights w_woods w_sums)) H → va_S A s.heap H locs → lv_has ls 5 [(0, .ref (a_w 0)), (1, .int x1), (2, .int x2), (3, .int x3), (4, .int x4)] → W p l e ({ frames := 3, cells := 0, slots := 0, locals := 66 }) s m ([.ref (a_w 0), .int p1, .int p2, .int p3] : List Value).toArray below meth c H locs 0 0 Q (F0 m 3 ls []) := by
  obtain ⟨hx, hb, hml, hown, ht⟩ := id S
  intro n
  induction n with
  | zero =>
    intro x4 w_weights H locs ls h
    exact absurd h (by simp [lpX3_takeTelling_3])
  | succ n ih =>
    intro x4 w_weights H locs ls h hP hS hl
    rw [lpX3_takeTelling_3] at h
    refine lv_iload hx hb dX3_takeTelling_3 (lv_at hl 4 rfl) ?_
    refine lv_bipush (v := (24 : Int32)) hx hb dX3_takeTelling_5 (by decide) ?_
    refine lv_icmp_ge (tgt := 39) hx hb dX3_takeTelling_7 (by decide) (fun z => ?_) (fun z => ?_)
    · replace h := h.1 z
      exact hKK x4 w_weights _ _ _ h hP hS (lv_sub hl [0, 1, 2] rfl)
    · replace h := h.2 z
      refine lv_aload_n hx hb dX3_takeTelling_10 rfl (lv_at hl 0 rfl) ?_
      refine va_get (D := D) (ci := 3) (v := .ref (a_w 3)) (C := RX3) (T := TX3) (N := 14) hx hb ht inX3 hown hK hP 0 rfl rfl 9 (by decide) (ht _ fl_X3_41) (fun _ h9 => h9) rfl dX3_takeTelling_11 ?_
      refine lv_iload hx hb dX3_takeTelling_14 (lv_at hl 4 rfl) ?_
      refine lv_dup2_11 hx hb dX3_takeTelling_16 rfl rfl ?_
      obtain ⟨hin, h⟩ := h
      refine va_lald hx hb hK hP 3 1 rfl rfl hin dX3_takeTelling_17 ?_
      refine lv_iload_n hx hb dX3_takeTelling_18 rfl (lv_at hl 1 rfl) ?_
      refine lv_iload_n hx hb dX3_takeTelling_19 rfl (lv_at hl 3 rfl) ?_
      refine lv_aload_n hx hb dX3_takeTelling_20 rfl (lv_at hl 0 rfl) ?_
      refine lv_iload_n hx hb dX3_takeTelling_21 rfl (lv_at hl 2 rfl) ?_
      refine lv_iload hx hb dX3_takeTelling_22 (lv_at hl 4 rfl) ?_
      refine zci hA (hDD _ rfl) hS (zrunV (As := [.int x2, .int x4]) (rest := [.int x3, .int x1, .long (w_weights x4.toNatClampNeg), .int x4, .ref (a_w 3)]) S hK hA hE hP (hDD _ rfl) hS (mX3_hasWood l D cI cJ cC G a_w _ w_space w_beam w_door w_law w_used w_pipes w_drilled w_total w_open w_pipeInches w_pipeChances w_weights w_woods w_sums x2 x4 _ h) kX3_hasWood ml_X3_95 ⟨rfl, rfl, by decide, by decide⟩ (q0 := 0) (ci := 3) rfl rfl rfl rfl hl.1 rfl (Nat.le_of_ble_eq_true rfl) dX3_takeTelling_24 ⟨Nat.zero_le _, Nat.zero_le _⟩) (fun r_1 u H locs h hP1 hk1 hS => ?_)
      try dsimp only at h
      have hP : va_P D vwCl ((bX3 cI cJ cC a_w w_space w_beam w_door w_law w_used w_pipes w_drilled w_total w_open w_pipeInches w_pipeChances w_weights w_woods w_sums)) H := hP1
      refine zci hA zD0 hS (zrunN (As := [.int x1, .int x3, .int r_1]) (rest := [.long (w_weights x4.toNatClampNeg), .int x4, .ref (a_w 3)]) S hK hA hE zP0 zD0 hS (mX4_tenths l D cI cJ cC G _ x1 x3 r_1 _ h) kX4_tenths 7 rfl ⟨rfl, rfl, by decide, by decide⟩ rfl hl.1 rfl (Nat.le_of_ble_eq_true rfl) dX3_takeTelling_27 ⟨Nat.zero_le _, Nat.zero_le _⟩) (fun r_2 u H locs h hP1 hk1 hS => ?_)
      try dsimp only at h
      have hP : va_P D vwCl ((bX3 cI cJ cC a_w w_space w_beam w_door w_law w_used w_pipes w_drilled w_total w_open w_pipeInches w_pipeChances w_weights w_woods w_sums)) H := zKeep hP hk1
      refine lv_i2l hx hb dX3_takeTelling_30 rfl ?_
      refine lv_lmul hx hb dX3_takeTelling_31 ?_
      obtain ⟨hin, h⟩ := h
      refine va_last hx hb hK hP (hDD _ rfl) hS 3 1 rfl rfl hin dX3_takeTelling_32 (fun H locs hP _ hS => ?_)
      have hP : va_P D vwCl ((bX3 cI cJ cC a_w w_space w_beam w_door w_law w_used w_pipes w_drilled w_total w_open w_pipeInches w_pipeChances (vp_updL w_weights x4.toNatClampNeg ((w_weights x4.toNatClampNeg) * r_2.toInt64)) w_woods w_sums)) H := hP
      refine lv_iinc (v := x4 + (1 : Int32)) (lv' := [(4, .int (x4 + (1 : Int32))), (0, .ref (a_w 0)), (1, .int x1), (2, .int x2), (3, .int x3)]) hx hb dX3_takeTelling_33 hl (k := 4) rfl (by rfl) (by decide) rfl (fun ls hl => ?_)
      refine lv_goto (tgt := 3) hx hb dX3_takeTelling_36 (by decide) ?_
      exact ih (x4 + (1 : Int32)) (vp_updL w_weights x4.toNatClampNeg ((w_weights x4.toNatClampNeg) * r_2.toInt64)) _ _ _ h hP hS (lv_sub hl [1, 2, 3, 4, 0] rfl)
def wpX3_takeTelling (post : Int32 → Int64 → Int64 → Int32 → (Nat → Int64) → (Nat → Int64) → Prop) (w_used : Int32) (w_drilled : Int64) (w_weights : Nat → Int64) (w_woods : Nat → Int32) (w_sums : Nat → Int64) (p1 : Int32) (p2 : Int32) (p3 : Int32) : Prop := ∃ n_3 : Nat, lpX3_takeTelling_3 (fun (x4_4 : Int32) (w_weights_5 : Nat → Int64) => ((p1 = (4 : Int32) → (wpX3_drill (fun (w_drilled_10 : Int64) => wpX3_lessenWeights (fun (w_weights_11 : Nat → Int64) => wpX3_addUp (fun (w_total_12 : Int64) (w_open_13 : Int32) (w_sums_14 : Nat → Int64) => post (w_used + (1 : Int32)) w_drilled_10 w_total_12 w_open_13 w_weights_11 w_sums_14) w_weights_11 w_woods w_sums) w_weights_5) w_drilled p2)) ∧ (¬ (p1 = (4 : Int32)) → (wpX3_lessenWeights (fun (w_weights_6 : Nat → Int64) => wpX3_addUp (fun (w_total_7 : Int64) (w_open_8 : Int32) (w_sums_9 : Nat → Int64) => post (w_used + (1 : Int32)) w_drilled w_total_7 w_open_8 w_weights_6 w_sums_9) w_weights_6 w_woods w_sums) w_weights_5)))) p1 p2 p3 w_woods n_3 (0 : Int32) w_weights
set_option maxHeartbeats 4000000 in
set_option maxRecDepth 100000 in
theorem mX3_takeTelling (l : Launch) (D : va_G) (cI cJ cC : ClassId) (G : Nat → Nat → Nat) (a_w : Nat → Nat) (sz : Nat) (w_space : Int32) (w_beam : Int32) (w_door : Int32) (w_law : Int32) (w_used : Int32) (w_pipes : Int32) (w_drilled : Int64) (w_total : Int64) (w_open : Int32) (w_pipeInches : Nat → Int32) (w_pipeChances : Nat → Int32) (w_weights : Nat → Int64) (w_woods : Nat → Int32) (w_sums : Nat → Int64) (p1 : Int32) (p2 : Int32) (p3 : Int32) (post : Int32 → Int64 → Int64 → Int32 → (Nat → Int64) → (Nat → Int64) → Prop) (h : wpX3_takeTelling post w_used w_drilled w_weights w_woods w_sums p1 p2 p3) : Met l yX3_takeTelling (wz yX3_takeTelling cX3_takeTelling 5 none) ({ frames := 3, cells := 0, slots := 0, locals := 66 }) (va_Pc [.ref (a_w 0), .int p1, .int p2, .int p3] (PW D (tz cI cJ cC) G ((bX3 cI cJ cC a_w w_space w_beam w_door w_law w_used w_pipes w_drilled w_total w_open w_pipeInches w_pipeChances w_weights w_woods w_sums)) sz)) (va_Qv (fun (u : Int32 × Int64 × Int64 × Int32 × (Nat → Int64) × (Nat → Int64)) => post u.1 u.2.1 u.2.2.1 u.2.2.2.1 u.2.2.2.2.1 u.2.2.2.2.2) (fun (u : Int32 × Int64 × Int64 × Int32 × (Nat → Int64) × (Nat → Int64)) t => va_P D vwCl ((bX3 cI cJ cC a_w w_space w_beam w_door w_law u.1 w_pipes u.2.1 u.2.2.1 u.2.2.2.1 w_pipeInches w_pipeChances u.2.2.2.2.1 w_woods u.2.2.2.2.2)) t.heap) (va_A ((bX3 cI cJ cC a_w w_space w_beam w_door w_law w_used w_pipes w_drilled w_total w_open w_pipeInches w_pipeChances w_weights w_woods w_sums)) sz)) 0 0 (va_A ((bX3 cI cJ cC a_w w_space w_beam w_door w_law w_used w_pipes w_drilled w_total w_open w_pipeInches w_pipeChances w_weights w_woods w_sums)) sz) := by
  refine zmv (gw := fun (u : Int32 × Int64 × Int64 × Int32 × (Nat → Int64) × (Nat → Int64)) => (bX3 cI cJ cC a_w w_space w_beam w_door w_law u.1 w_pipes u.2.1 u.2.2.1 u.2.2.2.1 w_pipeInches w_pipeChances u.2.2.2.2.1 w_woods u.2.2.2.2.2)) (plainFor_of_name (by decide)) (Nat.le_of_ble_eq_true rfl) ?_
  intro p e s m below meth c A Q ls S hK hD hA hE hP hl hret
  obtain ⟨hx, hb, hml, hown, ht⟩ := id S
  have hS : va_S A s.heap s.heap [] := va_S.rf
  have hDD : ∀ ws : va_W, ws.map (fun q => q.1) = [a_w 0, a_w 1, a_w 2, a_w 3, a_w 4, a_w 5] → va_D A ws := fun ws hw => zD hD (hw.trans rfl)
  have hl : lv_has ls 5 [(0, .ref (a_w 0)), (1, .int p1), (2, .int p2), (3, .int p3)] := hl
  unfold wpX3_takeTelling at h
  refine lv_iconst (v := (0 : Int32)) hx hb dX3_takeTelling_0 (by decide) ?_
  refine lv_istore (lv' := [(4, .int (0 : Int32)), (0, .ref (a_w 0)), (1, .int p1), (2, .int p2), (3, .int p3)]) hx hb dX3_takeTelling_1 hl (by decide) rfl (fun ls hl => ?_)
  obtain ⟨n_3, h⟩ := h
  refine wX3_takeTelling_3 l D cI cJ cC G a_w p1 p2 p3 p1 p2 p3 w_space w_beam w_door w_law w_used w_pipes w_drilled w_total w_open w_pipeInches w_pipeChances w_woods w_sums _ S hK hDD hA hE (fun x4_4 w_weights_5 H locs ls h hP hS hl => ?_) n_3 (0 : Int32) w_weights _ _ _ h hP hS (lv_sub hl [1, 2, 3, 4, 0] rfl)
  try dsimp only at h
  refine lv_aload_n hx hb dX3_takeTelling_39 rfl (lv_at hl 0 rfl) ?_
  refine lv_dup hx hb dX3_takeTelling_40 rfl ?_
  refine va_get (D := D) (ci := 3) (v := .int w_used) (C := RX3) (T := TX3) (N := 14) hx hb ht inX3 hown hK hP 0 rfl rfl 4 (by decide) (ht _ fl_X3_24) (fun _ h9 => h9) rfl dX3_takeTelling_41 ?_
  refine lv_iconst (v := (1 : Int32)) hx hb dX3_takeTelling_44 (by decide) ?_
  refine lv_iadd hx hb dX3_takeTelling_45 ?_
  refine va_put (D := D) (ci := 3) (v := .int (w_used + (1 : Int32))) (ty := .int) (C := RX3) (T := TX3) (N := 14) hx hb ht inX3 tyX3 tyX3_ok nmX3 hown hK hP (hDD _ rfl) hS 0 rfl rfl 4 (by decide) (ht _ fl_X3_24) (fun _ h9 => h9) rfl (by decide +kernel) rfl rfl (Nat.le_of_ble_eq_true rfl) dX3_takeTelling_46 (fun H locs hP _ hS => ?_)
  have hP : va_P D vwCl ((bX3 cI cJ cC a_w w_space w_beam w_door w_law (w_used + (1 : Int32)) w_pipes w_drilled w_total w_open w_pipeInches w_pipeChances w_weights_5 w_woods w_sums)) H := hP
  refine lv_iload_n hx hb dX3_takeTelling_49 rfl (lv_at hl 1 rfl) ?_
  refine lv_iconst (v := (4 : Int32)) hx hb dX3_takeTelling_50 (by decide) ?_
  refine lv_icmp_ne (tgt := 59) hx hb dX3_takeTelling_51 (by decide) (fun z => ?_) (fun z => ?_)
  · replace h := h.2 z
    refine lv_aload_n hx hb dX3_takeTelling_59 rfl (lv_at hl 0 rfl) ?_
    refine zcv hA (hDD _ rfl) hS (zrunV (As := []) (rest := []) S hK hA hE hP (hDD _ rfl) hS (mX3_lessenWeights l D cI cJ cC G a_w _ w_space w_beam w_door w_law (w_used + (1 : Int32)) w_pipes w_drilled w_total w_open w_pipeInches w_pipeChances w_weights_5 w_woods w_sums _ h) kX3_lessenWeights ml_X3_106 ⟨rfl, rfl, by decide, by decide⟩ (q0 := 0) (ci := 3) rfl rfl rfl rfl hl.1 rfl (Nat.le_of_ble_eq_true rfl) dX3_takeTelling_60 ⟨Nat.zero_le _, Nat.zero_le _⟩) (fun w_weights_6 H locs h hP1 hk1 hS => ?_)
    try dsimp only at h
    have hP : va_P D vwCl ((bX3 cI cJ cC a_w w_space w_beam w_door w_law (w_used + (1 : Int32)) w_pipes w_drilled w_total w_open w_pipeInches w_pipeChances w_weights_6 w_woods w_sums)) H := hP1
    refine lv_aload_n hx hb dX3_takeTelling_63 rfl (lv_at hl 0 rfl) ?_
    refine zcv hA (hDD _ rfl) hS (zrunV (As := []) (rest := []) S hK hA hE hP (hDD _ rfl) hS (mX3_addUp l D cI cJ cC G a_w _ w_space w_beam w_door w_law (w_used + (1 : Int32)) w_pipes w_drilled w_total w_open w_pipeInches w_pipeChances w_weights_6 w_woods w_sums _ h) kX3_addUp ml_X3_70 ⟨rfl, rfl, by decide, by decide⟩ (q0 := 0) (ci := 3) rfl rfl rfl rfl hl.1 rfl (Nat.le_of_ble_eq_true rfl) dX3_takeTelling_64 ⟨Nat.zero_le _, Nat.zero_le _⟩) (fun u H locs h hP1 hk1 hS => ?_)
    obtain ⟨w_total_7, w_open_8, w_sums_9⟩ := u
    dsimp only at h
    have hP : va_P D vwCl ((bX3 cI cJ cC a_w w_space w_beam w_door w_law (w_used + (1 : Int32)) w_pipes w_drilled w_total_7 w_open_8 w_pipeInches w_pipeChances w_weights_6 w_woods w_sums_9)) H := hP1
    exact hret (w_used + (1 : Int32), w_drilled, w_total_7, w_open_8, w_weights_6, w_sums_9) _ _ _ _ h hP hS dX3_takeTelling_67
  · replace h := h.1 z
    refine lv_aload_n hx hb dX3_takeTelling_54 rfl (lv_at hl 0 rfl) ?_
    refine lv_iload_n hx hb dX3_takeTelling_55 rfl (lv_at hl 2 rfl) ?_
    refine zcv hA (hDD _ rfl) hS (zrunV (As := [.int p2]) (rest := []) S hK hA hE hP (hDD _ rfl) hS (mX3_drill l D cI cJ cC G a_w _ w_space w_beam w_door w_law (w_used + (1 : Int32)) w_pipes w_drilled w_total w_open w_pipeInches w_pipeChances w_weights_5 w_woods w_sums p2 _ h) kX3_drill ml_X3_102 ⟨rfl, rfl, by decide, by decide⟩ (q0 := 0) (ci := 3) rfl rfl rfl rfl hl.1 rfl (Nat.le_of_ble_eq_true rfl) dX3_takeTelling_56 ⟨Nat.zero_le _, Nat.zero_le _⟩) (fun w_drilled_10 H locs h hP1 hk1 hS => ?_)
    try dsimp only at h
    have hP : va_P D vwCl ((bX3 cI cJ cC a_w w_space w_beam w_door w_law (w_used + (1 : Int32)) w_pipes w_drilled_10 w_total w_open w_pipeInches w_pipeChances w_weights_5 w_woods w_sums)) H := hP1
    refine lv_aload_n hx hb dX3_takeTelling_59 rfl (lv_at hl 0 rfl) ?_
    refine zcv hA (hDD _ rfl) hS (zrunV (As := []) (rest := []) S hK hA hE hP (hDD _ rfl) hS (mX3_lessenWeights l D cI cJ cC G a_w _ w_space w_beam w_door w_law (w_used + (1 : Int32)) w_pipes w_drilled_10 w_total w_open w_pipeInches w_pipeChances w_weights_5 w_woods w_sums _ h) kX3_lessenWeights ml_X3_106 ⟨rfl, rfl, by decide, by decide⟩ (q0 := 0) (ci := 3) rfl rfl rfl rfl hl.1 rfl (Nat.le_of_ble_eq_true rfl) dX3_takeTelling_60 ⟨Nat.zero_le _, Nat.zero_le _⟩) (fun w_weights_11 H locs h hP1 hk1 hS => ?_)
    try dsimp only at h
    have hP : va_P D vwCl ((bX3 cI cJ cC a_w w_space w_beam w_door w_law (w_used + (1 : Int32)) w_pipes w_drilled_10 w_total w_open w_pipeInches w_pipeChances w_weights_11 w_woods w_sums)) H := hP1
    refine lv_aload_n hx hb dX3_takeTelling_63 rfl (lv_at hl 0 rfl) ?_
    refine zcv hA (hDD _ rfl) hS (zrunV (As := []) (rest := []) S hK hA hE hP (hDD _ rfl) hS (mX3_addUp l D cI cJ cC G a_w _ w_space w_beam w_door w_law (w_used + (1 : Int32)) w_pipes w_drilled_10 w_total w_open w_pipeInches w_pipeChances w_weights_11 w_woods w_sums _ h) kX3_addUp ml_X3_70 ⟨rfl, rfl, by decide, by decide⟩ (q0 := 0) (ci := 3) rfl rfl rfl rfl hl.1 rfl (Nat.le_of_ble_eq_true rfl) dX3_takeTelling_64 ⟨Nat.zero_le _, Nat.zero_le _⟩) (fun u H locs h hP1 hk1 hS => ?_)
    obtain ⟨w_total_12, w_open_13, w_sums_14⟩ := u
    dsimp only at h
    have hP : va_P D vwCl ((bX3 cI cJ cC a_w w_space w_beam w_door w_law (w_used + (1 : Int32)) w_pipes w_drilled_10 w_total_12 w_open_13 w_pipeInches w_pipeChances w_weights_11 w_woods w_sums_14)) H := hP1
    exact hret (w_used + (1 : Int32), w_drilled_10, w_total_12, w_open_13, w_weights_11, w_sums_14) _ _ _ _ h hP hS dX3_takeTelling_67
def wpX3_offsetsByNail (post : Int32 → Prop) (w_open : Int32) (w_woods : Nat → Int32) (p1 : Int32) (p2 : Int32) : Prop := ((p2 = (0 : Int32) → (vp_in p1 48 ∧ (post (w_open &&& ((w_woods p1.toNatClampNeg) ^^^ (-1 : Int32)))))) ∧ (¬ (p2 = (0 : Int32)) → (vp_in p1 48 ∧ (post (w_open &&& (w_woods p1.toNatClampNeg))))))
set_option maxHeartbeats 4000000 in
set_option maxRecDepth 100000 in
theorem mX3_offsetsByNail (l : Launch) (D : va_G) (cI cJ cC : ClassId) (G : Nat → Nat → Nat) (a_w : Nat → Nat) (sz : Nat) (w_space : Int32) (w_beam : Int32) (w_door : Int32) (w_law : Int32) (w_used : Int32) (w_pipes : Int32) (w_drilled : Int64) (w_total : Int64) (w_open : Int32) (w_pipeInches : Nat → Int32) (w_pipeChances : Nat → Int32) (w_weights : Nat → Int64) (w_woods : Nat → Int32) (w_sums : Nat → Int64) (p1 : Int32) (p2 : Int32) (post : Int32 → Prop) (h : wpX3_offsetsByNail post w_open w_woods p1 p2) : Met l yX3_offsetsByNail (wz yX3_offsetsByNail cX3_offsetsByNail 3 (some .int)) ({ frames := 0, cells := 0, slots := 0, locals := 0 }) (va_Pc [.ref (a_w 0), .int p1, .int p2] (PW D (tz cI cJ cC) G ((bX3 cI cJ cC a_w w_space w_beam w_door w_law w_used w_pipes w_drilled w_total w_open w_pipeInches w_pipeChances w_weights w_woods w_sums)) sz)) (va_Qi (fun (r : Int32) (u : Unit) => post r ) (fun (u : Unit) t => va_P D vwCl ((bX3 cI cJ cC a_w w_space w_beam w_door w_law w_used w_pipes w_drilled w_total w_open w_pipeInches w_pipeChances w_weights w_woods w_sums)) t.heap) (va_A ((bX3 cI cJ cC a_w w_space w_beam w_door w_law w_used w_pipes w_drilled w_total w_open w_pipeInches w_pipeChances w_weights w_woods w_sums)) sz)) 0 0 (va_A ((bX3 cI cJ cC a_w w_space w_beam w_door w_law w_used w_pipes w_drilled w_total w_open w_pipeInches w_pipeChances w_weights w_woods w_sums)) sz) := by
  refine zmi (gw := fun (u : Unit) => (bX3 cI cJ cC a_w w_space w_beam w_door w_law w_used w_pipes w_drilled w_total w_open w_pipeInches w_pipeChances w_weights w_woods w_sums)) (plainFor_of_name (by decide)) (Nat.le_of_ble_eq_true rfl) ?_
  intro p e s m below meth c A Q ls S hK hD hA hE hP hl hret
  obtain ⟨hx, hb, hml, hown, ht⟩ := id S
  have hS : va_S A s.heap s.heap [] := va_S.rf
  have hDD : ∀ ws : va_W, ws.map (fun q => q.1) = [a_w 0, a_w 1, a_w 2, a_w 3, a_w 4, a_w 5] → va_D A ws := fun ws hw => zD hD (hw.trans rfl)
  have hl : lv_has ls 3 [(0, .ref (a_w 0)), (1, .int p1), (2, .int p2)] := hl
  unfold wpX3_offsetsByNail at h
  refine lv_aload_n hx hb dX3_offsetsByNail_0 rfl (lv_at hl 0 rfl) ?_
  refine va_get (D := D) (ci := 3) (v := .int w_open) (C := RX3) (T := TX3) (N := 14) hx hb ht inX3 hown hK hP 0 rfl rfl 13 (by decide) (ht _ fl_X3_54) (fun _ h9 => h9) rfl dX3_offsetsByNail_1 ?_
  refine lv_iload_n hx hb dX3_offsetsByNail_4 rfl (lv_at hl 2 rfl) ?_
  refine lv_if_eq (tgt := 17) hx hb dX3_offsetsByNail_5 (by decide) (fun z => ?_) (fun z => ?_)
  · replace h := h.1 z
    refine lv_aload_n hx hb dX3_offsetsByNail_17 rfl (lv_at hl 0 rfl) ?_
    refine va_get (D := D) (ci := 3) (v := .ref (a_w 4)) (C := RX3) (T := TX3) (N := 14) hx hb ht inX3 hown hK hP 0 rfl rfl 10 (by decide) (ht _ fl_X3_45) (fun _ h9 => h9) rfl dX3_offsetsByNail_18 ?_
    refine lv_iload_n hx hb dX3_offsetsByNail_21 rfl (lv_at hl 1 rfl) ?_
    obtain ⟨hin, h⟩ := h
    refine va_iald hx hb hK hP 4 0 rfl rfl hin dX3_offsetsByNail_22 ?_
    refine lv_iconst (v := (-1 : Int32)) hx hb dX3_offsetsByNail_23 (by decide) ?_
    refine lv_ixor hx hb dX3_offsetsByNail_24 ?_
    refine lv_iand hx hb dX3_offsetsByNail_25 ?_
    exact hret (w_open &&& ((w_woods p1.toNatClampNeg) ^^^ (-1 : Int32))) () _ _ _ _ rfl h hP hS dX3_offsetsByNail_26
  · replace h := h.2 z
    refine lv_aload_n hx hb dX3_offsetsByNail_8 rfl (lv_at hl 0 rfl) ?_
    refine va_get (D := D) (ci := 3) (v := .ref (a_w 4)) (C := RX3) (T := TX3) (N := 14) hx hb ht inX3 hown hK hP 0 rfl rfl 10 (by decide) (ht _ fl_X3_45) (fun _ h9 => h9) rfl dX3_offsetsByNail_9 ?_
    refine lv_iload_n hx hb dX3_offsetsByNail_12 rfl (lv_at hl 1 rfl) ?_
    obtain ⟨hin, h⟩ := h
    refine va_iald hx hb hK hP 4 0 rfl rfl hin dX3_offsetsByNail_13 ?_
    refine lv_goto (tgt := 25) hx hb dX3_offsetsByNail_14 (by decide) ?_
    refine lv_iand hx hb dX3_offsetsByNail_25 ?_
    exact hret (w_open &&& (w_woods p1.toNatClampNeg)) () _ _ _ _ rfl h hP hS dX3_offsetsByNail_26
def wpX3_couldNail (post : Int32 → Prop) (w_open : Int32) (w_woods : Nat → Int32) (p1 : Int32) (p2 : Int32) : Prop := wpX3_offsetsByNail (fun (r_1 : Int32) => ((r_1 = (0 : Int32) → (post (0 : Int32))) ∧ (¬ (r_1 = (0 : Int32)) → (post (1 : Int32))))) w_open w_woods p1 p2
set_option maxHeartbeats 4000000 in
set_option maxRecDepth 100000 in
theorem mX3_couldNail (l : Launch) (D : va_G) (cI cJ cC : ClassId) (G : Nat → Nat → Nat) (a_w : Nat → Nat) (sz : Nat) (w_space : Int32) (w_beam : Int32) (w_door : Int32) (w_law : Int32) (w_used : Int32) (w_pipes : Int32) (w_drilled : Int64) (w_total : Int64) (w_open : Int32) (w_pipeInches : Nat → Int32) (w_pipeChances : Nat → Int32) (w_weights : Nat → Int64) (w_woods : Nat → Int32) (w_sums : Nat → Int64) (p1 : Int32) (p2 : Int32) (post : Int32 → Prop) (h : wpX3_couldNail post w_open w_woods p1 p2) : Met l yX3_couldNail (wz yX3_couldNail cX3_couldNail 3 (some .boolean)) ({ frames := 1, cells := 0, slots := 0, locals := 22 }) (va_Pc [.ref (a_w 0), .int p1, .int p2] (PW D (tz cI cJ cC) G ((bX3 cI cJ cC a_w w_space w_beam w_door w_law w_used w_pipes w_drilled w_total w_open w_pipeInches w_pipeChances w_weights w_woods w_sums)) sz)) (va_Qi (fun (r : Int32) (u : Unit) => post r ) (fun (u : Unit) t => va_P D vwCl ((bX3 cI cJ cC a_w w_space w_beam w_door w_law w_used w_pipes w_drilled w_total w_open w_pipeInches w_pipeChances w_weights w_woods w_sums)) t.heap) (va_A ((bX3 cI cJ cC a_w w_space w_beam w_door w_law w_used w_pipes w_drilled w_total w_open w_pipeInches w_pipeChances w_weights w_woods w_sums)) sz)) 0 0 (va_A ((bX3 cI cJ cC a_w w_space w_beam w_door w_law w_used w_pipes w_drilled w_total w_open w_pipeInches w_pipeChances w_weights w_woods w_sums)) sz) := by
  refine zmi (gw := fun (u : Unit) => (bX3 cI cJ cC a_w w_space w_beam w_door w_law w_used w_pipes w_drilled w_total w_open w_pipeInches w_pipeChances w_weights w_woods w_sums)) (plainFor_of_name (by decide)) (Nat.le_of_ble_eq_true rfl) ?_
  intro p e s m below meth c A Q ls S hK hD hA hE hP hl hret
  obtain ⟨hx, hb, hml, hown, ht⟩ := id S
  have hS : va_S A s.heap s.heap [] := va_S.rf
  have hDD : ∀ ws : va_W, ws.map (fun q => q.1) = [a_w 0, a_w 1, a_w 2, a_w 3, a_w 4, a_w 5] → va_D A ws := fun ws hw => zD hD (hw.trans rfl)
  have hl : lv_has ls 3 [(0, .ref (a_w 0)), (1, .int p1), (2, .int p2)] := hl
  unfold wpX3_couldNail at h
  refine lv_aload_n hx hb dX3_couldNail_0 rfl (lv_at hl 0 rfl) ?_
  refine lv_iload_n hx hb dX3_couldNail_1 rfl (lv_at hl 1 rfl) ?_
  refine lv_iload_n hx hb dX3_couldNail_2 rfl (lv_at hl 2 rfl) ?_
  refine zci hA (hDD _ rfl) hS (zrunV (As := [.int p1, .int p2]) (rest := []) S hK hA hE hP (hDD _ rfl) hS (mX3_offsetsByNail l D cI cJ cC G a_w _ w_space w_beam w_door w_law w_used w_pipes w_drilled w_total w_open w_pipeInches w_pipeChances w_weights w_woods w_sums p1 p2 _ h) kX3_offsetsByNail ml_X3_109 ⟨rfl, rfl, by decide, by decide⟩ (q0 := 0) (ci := 3) rfl rfl rfl rfl hl.1 rfl (Nat.le_of_ble_eq_true rfl) dX3_couldNail_3 ⟨Nat.zero_le _, Nat.zero_le _⟩) (fun r_1 u H locs h hP1 hk1 hS => ?_)
  try dsimp only at h
  have hP : va_P D vwCl ((bX3 cI cJ cC a_w w_space w_beam w_door w_law w_used w_pipes w_drilled w_total w_open w_pipeInches w_pipeChances w_weights w_woods w_sums)) H := hP1
  refine lv_if_eq (tgt := 13) hx hb dX3_couldNail_6 (by decide) (fun z => ?_) (fun z => ?_)
  · replace h := h.1 z
    refine lv_iconst (v := (0 : Int32)) hx hb dX3_couldNail_13 (by decide) ?_
    exact hret (0 : Int32) () _ _ _ _ rfl h hP hS dX3_couldNail_14
  · replace h := h.2 z
    refine lv_iconst (v := (1 : Int32)) hx hb dX3_couldNail_9 (by decide) ?_
    refine lv_goto (tgt := 14) hx hb dX3_couldNail_10 (by decide) ?_
    exact hret (1 : Int32) () _ _ _ _ rfl h hP hS dX3_couldNail_14
def lpX3_takeNail_10 (K : Int32 → (Nat → Int64) → Prop) (x3 : Int32) : Nat → Int32 → (Nat → Int64) → Prop
  | 0, _, _ => False
  | n + 1, x4, w_weights => (((24 : Int32) ≤ x4 → (K x4 w_weights)) ∧ (¬ ((24 : Int32) ≤ x4) → (wpX4_isIn (fun (r_2 : Int32) => ((r_2 = (0 : Int32) → (vp_in x4 24 ∧ (lpX3_takeNail_10 K x3 n (x4 + (1 : Int32)) (vp_updL w_weights x4.toNatClampNeg (0 : Int64))))) ∧ (¬ (r_2 = (0 : Int32)) → (lpX3_takeNail_10 K x3 n (x4 + (1 : Int32)) w_weights)))) x3 x4)))
set_option maxHeartbeats 4000000 in
set_option maxRecDepth 100000 in
theorem wX3_takeNail_10 (l : Launch) (D : va_G) (cI cJ cC : ClassId) (G : Nat → Nat → Nat) (a_w : Nat → Nat) {p : Program} {e : Env} {s : State} {m : MethodId} {below : List Frame} {meth : Method} {c : Code} {A : Nat → Prop} {Q : State → Prop} (p1 : Int32) (p2 : Int32) (x1 : Int32) (x3 : Int32) (w_space : Int32) (w_beam : Int32) (w_door : Int32) (w_law : Int32) (w_used : Int32) (w_pipes : Int32) (w_drilled : Int64) (w_total : Int64) (w_open : Int32) (w_pipeInches : Nat → Int32) (w_pipeChances : Nat → Int32) (w_woods : Nat → Int32) (w_sums : Nat → Int64) (K : Int32 → (Nat → Int64) → Prop) (S : CallFix p m c cX3_takeNail 5 s ([.ref (a_w 0), .int p1, .int p2] : List Value).toArray bg RX3) (hK : va_K D vwCl (tz cI cJ cC) s) (hDD : ∀ ws : va_W, ws.map (fun q => q.1) = [a_w 0, a_w 1, a_w 2, a_w 3, a_w 4, a_w 5] → va_D A ws) (hA : ∀ q, s.heap.size ≤ q → A q) (hE : EV G A s) (hKK : ∀ (x4 : Int32) (w_weights : Nat → Int64) (H : Heap) (locs : List Loc) (ls : Array Slot), K x4 w_weights → va_P D vwCl ((bX3 cI cJ cC a_w w_space w_beam w_door w_law w_used w_pipes w_drilled w_total w_open w_pipeInches w_pipeChances w_weights w_woods w_sums)) H → va_S A s.heap H locs → lv_has ls 5 [(0, .ref (a_w 0)), (1, .int x1)] → W p l e ({ frames := 3, cells := 0, slots := 0, locals := 66 }) s m ([.ref (a_w 0), .int p1, .int p2] : List Value).toArray below meth c H locs 0 0 Q (F0 m 40 ls [])) :
    ∀ (n : Nat) (x4 : Int32) (w_weights : Nat → Int64) (H : Heap) (locs : List Loc) (ls : Array Slot), lpX3_takeNail_10 K x3 n x4 w_weights → va_P D vwCl ((bX3 cI cJ cC a_w w_space w_beam w_door w_law w_used w_pipes w_drilled w_total w_open w_pipeInches w_pipeChances w_weights w_woods w_sums)) H → va_S A s.heap H locs → lv_has ls 5 [(0, .ref (a_w 0)), (1, .int x1), (3, .int x3), (4, .int x4)] → W p l e ({ frames := 3, cells := 0, slots := 0, locals := 66 }) s m ([.ref (a_w 0), .int p1, .int p2] : List Value).toArray below meth c H locs 0 0 Q (F0 m 10 ls []) := by
  obtain ⟨hx, hb, hml, hown, ht⟩ := id S
  intro n
  induction n with
  | zero =>
    intro x4 w_weights H locs ls h
    exact absurd h (by simp [lpX3_takeNail_10])
  | succ n ih =>
    intro x4 w_weights H locs ls h hP hS hl
    rw [lpX3_takeNail_10] at h
    refine lv_iload hx hb dX3_takeNail_10 (lv_at hl 3 rfl) ?_
    refine lv_bipush (v := (24 : Int32)) hx hb dX3_takeNail_12 (by decide) ?_
    refine lv_icmp_ge (tgt := 40) hx hb dX3_takeNail_14 (by decide) (fun z => ?_) (fun z => ?_)
    · replace h := h.1 z
      exact hKK x4 w_weights _ _ _ h hP hS (lv_sub hl [0, 1] rfl)
    · replace h := h.2 z
      refine lv_iload_n hx hb dX3_takeNail_17 rfl (lv_at hl 2 rfl) ?_
      refine lv_iload hx hb dX3_takeNail_18 (lv_at hl 3 rfl) ?_
      refine zci hA zD0 hS (zrunN (As := [.int x3, .int x4]) (rest := []) S hK hA hE zP0 zD0 hS (mX4_isIn l D cI cJ cC G _ x3 x4 _ h) kX4_isIn 0 rfl ⟨rfl, rfl, by decide, by decide⟩ rfl hl.1 rfl (Nat.le_of_ble_eq_true rfl) dX3_takeNail_20 ⟨Nat.zero_le _, Nat.zero_le _⟩) (fun r_2 u H locs h hP1 hk1 hS => ?_)
      try dsimp only at h
      have hP : va_P D vwCl ((bX3 cI cJ cC a_w w_space w_beam w_door w_law w_used w_pipes w_drilled w_total w_open w_pipeInches w_pipeChances w_weights w_woods w_sums)) H := zKeep hP hk1
      refine lv_if_ne (tgt := 34) hx hb dX3_takeNail_23 (by decide) (fun z => ?_) (fun z => ?_)
      · replace h := h.2 z
        refine lv_iinc (v := x4 + (1 : Int32)) (lv' := [(4, .int (x4 + (1 : Int32))), (0, .ref (a_w 0)), (1, .int x1), (3, .int x3)]) hx hb dX3_takeNail_34 hl (k := 3) rfl (by rfl) (by decide) rfl (fun ls hl => ?_)
        refine lv_goto (tgt := 10) hx hb dX3_takeNail_37 (by decide) ?_
        exact ih (x4 + (1 : Int32)) w_weights _ _ _ h hP hS (lv_sub hl [1, 2, 3, 0] rfl)
      · replace h := h.1 z
        refine lv_aload_n hx hb dX3_takeNail_26 rfl (lv_at hl 0 rfl) ?_
        refine va_get (D := D) (ci := 3) (v := .ref (a_w 3)) (C := RX3) (T := TX3) (N := 14) hx hb ht inX3 hown hK hP 0 rfl rfl 9 (by decide) (ht _ fl_X3_41) (fun _ h9 => h9) rfl dX3_takeNail_27 ?_
        refine lv_iload hx hb dX3_takeNail_30 (lv_at hl 3 rfl) ?_
        refine lv_lconst (v := (0 : Int64)) hx hb dX3_takeNail_32 (by decide) ?_
        obtain ⟨hin, h⟩ := h
        refine va_last hx hb hK hP (hDD _ rfl) hS 3 1 rfl rfl hin dX3_takeNail_33 (fun H locs hP _ hS => ?_)
        have hP : va_P D vwCl ((bX3 cI cJ cC a_w w_space w_beam w_door w_law w_used w_pipes w_drilled w_total w_open w_pipeInches w_pipeChances (vp_updL w_weights x4.toNatClampNeg (0 : Int64)) w_woods w_sums)) H := hP
        refine lv_iinc (v := x4 + (1 : Int32)) (lv' := [(4, .int (x4 + (1 : Int32))), (0, .ref (a_w 0)), (1, .int x1), (3, .int x3)]) hx hb dX3_takeNail_34 hl (k := 3) rfl (by rfl) (by decide) rfl (fun ls hl => ?_)
        refine lv_goto (tgt := 10) hx hb dX3_takeNail_37 (by decide) ?_
        exact ih (x4 + (1 : Int32)) (vp_updL w_weights x4.toNatClampNeg (0 : Int64)) _ _ _ h hP hS (lv_sub hl [1, 2, 3, 0] rfl)
def wpX3_takeNail (post : Int64 → Int64 → Int32 → (Nat → Int64) → (Nat → Int64) → Prop) (w_drilled : Int64) (w_open : Int32) (w_weights : Nat → Int64) (w_woods : Nat → Int32) (w_sums : Nat → Int64) (p1 : Int32) (p2 : Int32) : Prop := wpX3_offsetsByNail (fun (r_1 : Int32) => ∃ n_3 : Nat, lpX3_takeNail_10 (fun (x4_4 : Int32) (w_weights_5 : Nat → Int64) => wpX3_drill (fun (w_drilled_6 : Int64) => wpX3_lessenWeights (fun (w_weights_7 : Nat → Int64) => wpX3_addUp (fun (w_total_8 : Int64) (w_open_9 : Int32) (w_sums_10 : Nat → Int64) => post w_drilled_6 w_total_8 w_open_9 w_weights_7 w_sums_10) w_weights_7 w_woods w_sums) w_weights_5) w_drilled p1) r_1 n_3 (0 : Int32) w_weights) w_open w_woods p1 p2
set_option maxHeartbeats 4000000 in
set_option maxRecDepth 100000 in
theorem mX3_takeNail (l : Launch) (D : va_G) (cI cJ cC : ClassId) (G : Nat → Nat → Nat) (a_w : Nat → Nat) (sz : Nat) (w_space : Int32) (w_beam : Int32) (w_door : Int32) (w_law : Int32) (w_used : Int32) (w_pipes : Int32) (w_drilled : Int64) (w_total : Int64) (w_open : Int32) (w_pipeInches : Nat → Int32) (w_pipeChances : Nat → Int32) (w_weights : Nat → Int64) (w_woods : Nat → Int32) (w_sums : Nat → Int64) (p1 : Int32) (p2 : Int32) (post : Int64 → Int64 → Int32 → (Nat → Int64) → (Nat → Int64) → Prop) (h : wpX3_takeNail post w_drilled w_open w_weights w_woods w_sums p1 p2) : Met l yX3_takeNail (wz yX3_takeNail cX3_takeNail 5 none) ({ frames := 3, cells := 0, slots := 0, locals := 66 }) (va_Pc [.ref (a_w 0), .int p1, .int p2] (PW D (tz cI cJ cC) G ((bX3 cI cJ cC a_w w_space w_beam w_door w_law w_used w_pipes w_drilled w_total w_open w_pipeInches w_pipeChances w_weights w_woods w_sums)) sz)) (va_Qv (fun (u : Int64 × Int64 × Int32 × (Nat → Int64) × (Nat → Int64)) => post u.1 u.2.1 u.2.2.1 u.2.2.2.1 u.2.2.2.2) (fun (u : Int64 × Int64 × Int32 × (Nat → Int64) × (Nat → Int64)) t => va_P D vwCl ((bX3 cI cJ cC a_w w_space w_beam w_door w_law w_used w_pipes u.1 u.2.1 u.2.2.1 w_pipeInches w_pipeChances u.2.2.2.1 w_woods u.2.2.2.2)) t.heap) (va_A ((bX3 cI cJ cC a_w w_space w_beam w_door w_law w_used w_pipes w_drilled w_total w_open w_pipeInches w_pipeChances w_weights w_woods w_sums)) sz)) 0 0 (va_A ((bX3 cI cJ cC a_w w_space w_beam w_door w_law w_used w_pipes w_drilled w_total w_open w_pipeInches w_pipeChances w_weights w_woods w_sums)) sz) := by
  refine zmv (gw := fun (u : Int64 × Int64 × Int32 × (Nat → Int64) × (Nat → Int64)) => (bX3 cI cJ cC a_w w_space w_beam w_door w_law w_used w_pipes u.1 u.2.1 u.2.2.1 w_pipeInches w_pipeChances u.2.2.2.1 w_woods u.2.2.2.2)) (plainFor_of_name (by decide)) (Nat.le_of_ble_eq_true rfl) ?_
  intro p e s m below meth c A Q ls S hK hD hA hE hP hl hret
  obtain ⟨hx, hb, hml, hown, ht⟩ := id S
  have hS : va_S A s.heap s.heap [] := va_S.rf
  have hDD : ∀ ws : va_W, ws.map (fun q => q.1) = [a_w 0, a_w 1, a_w 2, a_w 3, a_w 4, a_w 5] → va_D A ws := fun ws hw => zD hD (hw.trans rfl)
  have hl : lv_has ls 5 [(0, .ref (a_w 0)), (1, .int p1), (2, .int p2)] := hl
  unfold wpX3_takeNail at h
  refine lv_aload_n hx hb dX3_takeNail_0 rfl (lv_at hl 0 rfl) ?_
  refine lv_iload_n hx hb dX3_takeNail_1 rfl (lv_at hl 1 rfl) ?_
  refine lv_iload_n hx hb dX3_takeNail_2 rfl (lv_at hl 2 rfl) ?_
  refine zci hA (hDD _ rfl) hS (zrunV (As := [.int p1, .int p2]) (rest := []) S hK hA hE hP (hDD _ rfl) hS (mX3_offsetsByNail l D cI cJ cC G a_w _ w_space w_beam w_door w_law w_used w_pipes w_drilled w_total w_open w_pipeInches w_pipeChances w_weights w_woods w_sums p1 p2 _ h) kX3_offsetsByNail ml_X3_109 ⟨rfl, rfl, by decide, by decide⟩ (q0 := 0) (ci := 3) rfl rfl rfl rfl hl.1 rfl (Nat.le_of_ble_eq_true rfl) dX3_takeNail_3 ⟨Nat.zero_le _, Nat.zero_le _⟩) (fun r_1 u H locs h hP1 hk1 hS => ?_)
  try dsimp only at h
  have hP : va_P D vwCl ((bX3 cI cJ cC a_w w_space w_beam w_door w_law w_used w_pipes w_drilled w_total w_open w_pipeInches w_pipeChances w_weights w_woods w_sums)) H := hP1
  refine lv_istore_n (lv' := [(3, .int r_1), (0, .ref (a_w 0)), (1, .int p1), (2, .int p2)]) hx hb dX3_takeNail_6 rfl hl (by decide) rfl (fun ls hl => ?_)
  refine lv_iconst (v := (0 : Int32)) hx hb dX3_takeNail_7 (by decide) ?_
  refine lv_istore (lv' := [(4, .int (0 : Int32)), (3, .int r_1), (0, .ref (a_w 0)), (1, .int p1), (2, .int p2)]) hx hb dX3_takeNail_8 hl (by decide) rfl (fun ls hl => ?_)
  obtain ⟨n_3, h⟩ := h
  refine wX3_takeNail_10 l D cI cJ cC G a_w p1 p2 p1 r_1 w_space w_beam w_door w_law w_used w_pipes w_drilled w_total w_open w_pipeInches w_pipeChances w_woods w_sums _ S hK hDD hA hE (fun x4_4 w_weights_5 H locs ls h hP hS hl => ?_) n_3 (0 : Int32) w_weights _ _ _ h hP hS (lv_sub hl [2, 3, 1, 0] rfl)
  try dsimp only at h
  refine lv_aload_n hx hb dX3_takeNail_40 rfl (lv_at hl 0 rfl) ?_
  refine lv_iload_n hx hb dX3_takeNail_41 rfl (lv_at hl 1 rfl) ?_
  refine zcv hA (hDD _ rfl) hS (zrunV (As := [.int p1]) (rest := []) S hK hA hE hP (hDD _ rfl) hS (mX3_drill l D cI cJ cC G a_w _ w_space w_beam w_door w_law w_used w_pipes w_drilled w_total w_open w_pipeInches w_pipeChances w_weights_5 w_woods w_sums p1 _ h) kX3_drill ml_X3_102 ⟨rfl, rfl, by decide, by decide⟩ (q0 := 0) (ci := 3) rfl rfl rfl rfl hl.1 rfl (Nat.le_of_ble_eq_true rfl) dX3_takeNail_42 ⟨Nat.zero_le _, Nat.zero_le _⟩) (fun w_drilled_6 H locs h hP1 hk1 hS => ?_)
  try dsimp only at h
  have hP : va_P D vwCl ((bX3 cI cJ cC a_w w_space w_beam w_door w_law w_used w_pipes w_drilled_6 w_total w_open w_pipeInches w_pipeChances w_weights_5 w_woods w_sums)) H := hP1
  refine lv_aload_n hx hb dX3_takeNail_45 rfl (lv_at hl 0 rfl) ?_
  refine zcv hA (hDD _ rfl) hS (zrunV (As := []) (rest := []) S hK hA hE hP (hDD _ rfl) hS (mX3_lessenWeights l D cI cJ cC G a_w _ w_space w_beam w_door w_law w_used w_pipes w_drilled_6 w_total w_open w_pipeInches w_pipeChances w_weights_5 w_woods w_sums _ h) kX3_lessenWeights ml_X3_106 ⟨rfl, rfl, by decide, by decide⟩ (q0 := 0) (ci := 3) rfl rfl rfl rfl hl.1 rfl (Nat.le_of_ble_eq_true rfl) dX3_takeNail_46 ⟨Nat.zero_le _, Nat.zero_le _⟩) (fun w_weights_7 H locs h hP1 hk1 hS => ?_)
  try dsimp only at h
  have hP : va_P D vwCl ((bX3 cI cJ cC a_w w_space w_beam w_door w_law w_used w_pipes w_drilled_6 w_total w_open w_pipeInches w_pipeChances w_weights_7 w_woods w_sums)) H := hP1
  refine lv_aload_n hx hb dX3_takeNail_49 rfl (lv_at hl 0 rfl) ?_
  refine zcv hA (hDD _ rfl) hS (zrunV (As := []) (rest := []) S hK hA hE hP (hDD _ rfl) hS (mX3_addUp l D cI cJ cC G a_w _ w_space w_beam w_door w_law w_used w_pipes w_drilled_6 w_total w_open w_pipeInches w_pipeChances w_weights_7 w_woods w_sums _ h) kX3_addUp ml_X3_70 ⟨rfl, rfl, by decide, by decide⟩ (q0 := 0) (ci := 3) rfl rfl rfl rfl hl.1 rfl (Nat.le_of_ble_eq_true rfl) dX3_takeNail_50 ⟨Nat.zero_le _, Nat.zero_le _⟩) (fun u H locs h hP1 hk1 hS => ?_)
  obtain ⟨w_total_8, w_open_9, w_sums_10⟩ := u
  dsimp only at h
  have hP : va_P D vwCl ((bX3 cI cJ cC a_w w_space w_beam w_door w_law w_used w_pipes w_drilled_6 w_total_8 w_open_9 w_pipeInches w_pipeChances w_weights_7 w_woods w_sums_10)) H := hP1
  exact hret (w_drilled_6, w_total_8, w_open_9, w_weights_7, w_sums_10) _ _ _ _ h hP hS dX3_takeNail_53
def wpJ13_bitCount_95d88 (post : Int32 → Prop) (p0 : Int64) : Prop := ∀ x0_1 : Int64, x0_1 = p0 - (((p0.toUInt64 >>> ((1 : Int32).toInt64.toUInt64 &&& Int64.toUInt64 63)).toInt64) &&& (6148914691236517205 : Int64)) → (∀ x0_2 : Int64, x0_2 = (x0_1 &&& (3689348814741910323 : Int64)) + (((x0_1.toUInt64 >>> ((2 : Int32).toInt64.toUInt64 &&& Int64.toUInt64 63)).toInt64) &&& (3689348814741910323 : Int64)) → (∀ x0_3 : Int64, x0_3 = (x0_2 + ((x0_2.toUInt64 >>> ((4 : Int32).toInt64.toUInt64 &&& Int64.toUInt64 63)).toInt64)) &&& (1085102592571150095 : Int64) → (∀ x0_4 : Int64, x0_4 = (x0_3 + ((x0_3.toUInt64 >>> ((8 : Int32).toInt64.toUInt64 &&& Int64.toUInt64 63)).toInt64)) + (((x0_3 + ((x0_3.toUInt64 >>> ((8 : Int32).toInt64.toUInt64 &&& Int64.toUInt64 63)).toInt64)).toUInt64 >>> ((16 : Int32).toInt64.toUInt64 &&& Int64.toUInt64 63)).toInt64) → (post (((x0_4 + ((x0_4.toUInt64 >>> ((32 : Int32).toInt64.toUInt64 &&& Int64.toUInt64 63)).toInt64)).toInt32) &&& (127 : Int32))))))
set_option maxHeartbeats 4000000 in
set_option maxRecDepth 100000 in
theorem mJ13_bitCount_95d88 (l : Launch) (D : va_G) (cI cJ cC : ClassId) (G : Nat → Nat → Nat) (sz : Nat) (p0 : Int64) (post : Int32 → Prop) (h : wpJ13_bitCount_95d88 post p0) : Met l yJ13_bitCount_95d88 (wz yJ13_bitCount_95d88 cJ13_bitCount_95d88 2 (some .int)) ({ frames := 0, cells := 0, slots := 0, locals := 0 }) (va_Pc [.long p0] (PW D (tz cI cJ cC) G ([]) sz)) (va_Qi (fun (r : Int32) (u : Unit) => post r ) (fun (u : Unit) t => va_P D vwCl ([]) t.heap) (va_A ([]) sz)) 0 0 (va_A ([]) sz) := by
  refine zmi (gw := fun (u : Unit) => []) (plainFor_of_name (by decide)) (Nat.le_of_ble_eq_true rfl) ?_
  intro p e s m below meth c A Q ls S hK hD hA hE hP hl hret
  obtain ⟨hx, hb, hml, hown, ht⟩ := id S
  have hS : va_S A s.heap s.heap [] := va_S.rf
  have hDD : ∀ ws : va_W, ws.map (fun q => q.1) = [] → va_D A ws := fun ws hw => zD hD (hw.trans rfl)
  have hl : lv_has ls 2 [(0, .long p0)] := hl
  unfold wpJ13_bitCount_95d88 at h
  refine lv_lload_n hx hb dJ13_bitCount_95d88_0 rfl (lv_at hl 0 rfl) ?_
  refine lv_lload_n hx hb dJ13_bitCount_95d88_1 rfl (lv_at hl 0 rfl) ?_
  refine lv_iconst (v := (1 : Int32)) hx hb dJ13_bitCount_95d88_2 (by decide) ?_
  refine lv_lushr hx hb dJ13_bitCount_95d88_3 rfl ?_
  refine lv_ldc2 hx hb hown (ht _ kc_J13_314) dJ13_bitCount_95d88_4 ?_
  refine lv_land hx hb dJ13_bitCount_95d88_7 ?_
  refine lv_lsub hx hb dJ13_bitCount_95d88_8 ?_
  refine lv_topl (fun x0_1 ex0_1 => ?_)
  replace h := h x0_1 ex0_1
  refine lv_lstore_n (lv' := [(0, .long x0_1)]) hx hb dJ13_bitCount_95d88_9 rfl hl (by decide) rfl (fun ls hl => ?_)
  refine lv_lload_n hx hb dJ13_bitCount_95d88_10 rfl (lv_at hl 0 rfl) ?_
  refine lv_ldc2 hx hb hown (ht _ kc_J13_316) dJ13_bitCount_95d88_11 ?_
  refine lv_land hx hb dJ13_bitCount_95d88_14 ?_
  refine lv_lload_n hx hb dJ13_bitCount_95d88_15 rfl (lv_at hl 0 rfl) ?_
  refine lv_iconst (v := (2 : Int32)) hx hb dJ13_bitCount_95d88_16 (by decide) ?_
  refine lv_lushr hx hb dJ13_bitCount_95d88_17 rfl ?_
  refine lv_ldc2 hx hb hown (ht _ kc_J13_316) dJ13_bitCount_95d88_18 ?_
  refine lv_land hx hb dJ13_bitCount_95d88_21 ?_
  refine lv_ladd hx hb dJ13_bitCount_95d88_22 ?_
  refine lv_topl (fun x0_2 ex0_2 => ?_)
  replace h := h x0_2 ex0_2
  refine lv_lstore_n (lv' := [(0, .long x0_2)]) hx hb dJ13_bitCount_95d88_23 rfl hl (by decide) rfl (fun ls hl => ?_)
  refine lv_lload_n hx hb dJ13_bitCount_95d88_24 rfl (lv_at hl 0 rfl) ?_
  refine lv_lload_n hx hb dJ13_bitCount_95d88_25 rfl (lv_at hl 0 rfl) ?_
  refine lv_iconst (v := (4 : Int32)) hx hb dJ13_bitCount_95d88_26 (by decide) ?_
  refine lv_lushr hx hb dJ13_bitCount_95d88_27 rfl ?_
  refine lv_ladd hx hb dJ13_bitCount_95d88_28 ?_
  refine lv_ldc2 hx hb hown (ht _ kc_J13_318) dJ13_bitCount_95d88_29 ?_
  refine lv_land hx hb dJ13_bitCount_95d88_32 ?_
  refine lv_topl (fun x0_3 ex0_3 => ?_)
  replace h := h x0_3 ex0_3
  refine lv_lstore_n (lv' := [(0, .long x0_3)]) hx hb dJ13_bitCount_95d88_33 rfl hl (by decide) rfl (fun ls hl => ?_)
  refine lv_lload_n hx hb dJ13_bitCount_95d88_34 rfl (lv_at hl 0 rfl) ?_
  refine lv_lload_n hx hb dJ13_bitCount_95d88_35 rfl (lv_at hl 0 rfl) ?_
  refine lv_bipush (v := (8 : Int32)) hx hb dJ13_bitCount_95d88_36 (by decide) ?_
  refine lv_lushr hx hb dJ13_bitCount_95d88_38 rfl ?_
  refine lv_ladd hx hb dJ13_bitCount_95d88_39 ?_
  refine lv_lstore_n (lv' := [(0, .long (x0_3 + ((x0_3.toUInt64 >>> ((8 : Int32).toInt64.toUInt64 &&& Int64.toUInt64 63)).toInt64)))]) hx hb dJ13_bitCount_95d88_40 rfl hl (by decide) rfl (fun ls hl => ?_)
  refine lv_lload_n hx hb dJ13_bitCount_95d88_41 rfl (lv_at hl 0 rfl) ?_
  refine lv_lload_n hx hb dJ13_bitCount_95d88_42 rfl (lv_at hl 0 rfl) ?_
  refine lv_bipush (v := (16 : Int32)) hx hb dJ13_bitCount_95d88_43 (by decide) ?_
  refine lv_lushr hx hb dJ13_bitCount_95d88_45 rfl ?_
  refine lv_ladd hx hb dJ13_bitCount_95d88_46 ?_
  refine lv_topl (fun x0_4 ex0_4 => ?_)
  replace h := h x0_4 ex0_4
  refine lv_lstore_n (lv' := [(0, .long x0_4)]) hx hb dJ13_bitCount_95d88_47 rfl hl (by decide) rfl (fun ls hl => ?_)
  refine lv_lload_n hx hb dJ13_bitCount_95d88_48 rfl (lv_at hl 0 rfl) ?_
  refine lv_lload_n hx hb dJ13_bitCount_95d88_49 rfl (lv_at hl 0 rfl) ?_
  refine lv_bipush (v := (32 : Int32)) hx hb dJ13_bitCount_95d88_50 (by decide) ?_
  refine lv_lushr hx hb dJ13_bitCount_95d88_52 rfl ?_
  refine lv_ladd hx hb dJ13_bitCount_95d88_53 ?_
  refine lv_lstore_n (lv' := [(0, .long (x0_4 + ((x0_4.toUInt64 >>> ((32 : Int32).toInt64.toUInt64 &&& Int64.toUInt64 63)).toInt64)))]) hx hb dJ13_bitCount_95d88_54 rfl hl (by decide) rfl (fun ls hl => ?_)
  refine lv_lload_n hx hb dJ13_bitCount_95d88_55 rfl (lv_at hl 0 rfl) ?_
  refine lv_l2i hx hb dJ13_bitCount_95d88_56 rfl ?_
  refine lv_bipush (v := (127 : Int32)) hx hb dJ13_bitCount_95d88_57 (by decide) ?_
  refine lv_iand hx hb dJ13_bitCount_95d88_59 ?_
  exact hret (((x0_4 + ((x0_4.toUInt64 >>> ((32 : Int32).toInt64.toUInt64 &&& Int64.toUInt64 63)).toInt64)).toInt32) &&& (127 : Int32)) () _ _ _ _ rfl h hP hS dJ13_bitCount_95d88_60
def wpX3_holesWithin (post : Int32 → Prop) (w_drilled : Int64) (p1 : Int32) (p2 : Int32) : Prop := wpJ13_bitCount_95d88 (fun (r_1 : Int32) => post r_1) (w_drilled &&& ((((1 : Int64) <<< (p2.toInt64 &&& 63)) - (1 : Int64)) <<< (p1.toInt64 &&& 63)))
set_option maxHeartbeats 4000000 in
set_option maxRecDepth 100000 in
theorem mX3_holesWithin (l : Launch) (D : va_G) (cI cJ cC : ClassId) (G : Nat → Nat → Nat) (a_w : Nat → Nat) (sz : Nat) (w_space : Int32) (w_beam : Int32) (w_door : Int32) (w_law : Int32) (w_used : Int32) (w_pipes : Int32) (w_drilled : Int64) (w_total : Int64) (w_open : Int32) (w_pipeInches : Nat → Int32) (w_pipeChances : Nat → Int32) (w_weights : Nat → Int64) (w_woods : Nat → Int32) (w_sums : Nat → Int64) (p1 : Int32) (p2 : Int32) (post : Int32 → Prop) (h : wpX3_holesWithin post w_drilled p1 p2) : Met l yX3_holesWithin (wz yX3_holesWithin cX3_holesWithin 5 (some .int)) ({ frames := 1, cells := 0, slots := 0, locals := 21 }) (va_Pc [.ref (a_w 0), .int p1, .int p2] (PW D (tz cI cJ cC) G ((bX3 cI cJ cC a_w w_space w_beam w_door w_law w_used w_pipes w_drilled w_total w_open w_pipeInches w_pipeChances w_weights w_woods w_sums)) sz)) (va_Qi (fun (r : Int32) (u : Unit) => post r ) (fun (u : Unit) t => va_P D vwCl ((bX3 cI cJ cC a_w w_space w_beam w_door w_law w_used w_pipes w_drilled w_total w_open w_pipeInches w_pipeChances w_weights w_woods w_sums)) t.heap) (va_A ((bX3 cI cJ cC a_w w_space w_beam w_door w_law w_used w_pipes w_drilled w_total w_open w_pipeInches w_pipeChances w_weights w_woods w_sums)) sz)) 0 0 (va_A ((bX3 cI cJ cC a_w w_space w_beam w_door w_law w_used w_pipes w_drilled w_total w_open w_pipeInches w_pipeChances w_weights w_woods w_sums)) sz) := by
  refine zmi (gw := fun (u : Unit) => (bX3 cI cJ cC a_w w_space w_beam w_door w_law w_used w_pipes w_drilled w_total w_open w_pipeInches w_pipeChances w_weights w_woods w_sums)) (plainFor_of_name (by decide)) (Nat.le_of_ble_eq_true rfl) ?_
  intro p e s m below meth c A Q ls S hK hD hA hE hP hl hret
  obtain ⟨hx, hb, hml, hown, ht⟩ := id S
  have hS : va_S A s.heap s.heap [] := va_S.rf
  have hDD : ∀ ws : va_W, ws.map (fun q => q.1) = [a_w 0, a_w 1, a_w 2, a_w 3, a_w 4, a_w 5] → va_D A ws := fun ws hw => zD hD (hw.trans rfl)
  have hl : lv_has ls 5 [(0, .ref (a_w 0)), (1, .int p1), (2, .int p2)] := hl
  unfold wpX3_holesWithin at h
  refine lv_lconst (v := (1 : Int64)) hx hb dX3_holesWithin_0 (by decide) ?_
  refine lv_iload_n hx hb dX3_holesWithin_1 rfl (lv_at hl 2 rfl) ?_
  refine lv_lshl hx hb dX3_holesWithin_2 rfl ?_
  refine lv_lconst (v := (1 : Int64)) hx hb dX3_holesWithin_3 (by decide) ?_
  refine lv_lsub hx hb dX3_holesWithin_4 ?_
  refine lv_iload_n hx hb dX3_holesWithin_5 rfl (lv_at hl 1 rfl) ?_
  refine lv_lshl hx hb dX3_holesWithin_6 rfl ?_
  refine lv_lstore_n (lv' := [(3, .long ((((1 : Int64) <<< (p2.toInt64 &&& 63)) - (1 : Int64)) <<< (p1.toInt64 &&& 63))), (0, .ref (a_w 0)), (1, .int p1), (2, .int p2)]) hx hb dX3_holesWithin_7 rfl hl (by decide) rfl (fun ls hl => ?_)
  refine lv_aload_n hx hb dX3_holesWithin_8 rfl (lv_at hl 1 rfl) ?_
  refine va_get (D := D) (ci := 3) (v := .long w_drilled) (C := RX3) (T := TX3) (N := 14) hx hb ht inX3 hown hK hP 0 rfl rfl 6 (by decide) (ht _ fl_X3_30) (fun _ h9 => h9) rfl dX3_holesWithin_9 ?_
  refine lv_lload_n hx hb dX3_holesWithin_12 rfl (lv_at hl 0 rfl) ?_
  refine lv_land hx hb dX3_holesWithin_13 ?_
  refine zci hA zD0 hS (zrunS (As := [.long (w_drilled &&& ((((1 : Int64) <<< (p2.toInt64 &&& 63)) - (1 : Int64)) <<< (p1.toInt64 &&& 63)))]) (rest := []) S hK hA hE zP0 zD0 hS (mJ13_bitCount_95d88 l D cI cJ cC G _ (w_drilled &&& ((((1 : Int64) <<< (p2.toInt64 &&& 63)) - (1 : Int64)) <<< (p1.toInt64 &&& 63))) _ h) kJ13_bitCount_95d88 ml_X3_117 ⟨rfl, rfl, by decide, by decide⟩ rfl hl.1 rfl (Nat.le_of_ble_eq_true rfl) dX3_holesWithin_14 ⟨Nat.zero_le _, Nat.zero_le _⟩) (fun r_1 u H locs h hP1 hk1 hS => ?_)
  try dsimp only at h
  have hP : va_P D vwCl ((bX3 cI cJ cC a_w w_space w_beam w_door w_law w_used w_pipes w_drilled w_total w_open w_pipeInches w_pipeChances w_weights w_woods w_sums)) H := zKeep hP hk1
  exact hret r_1 () _ _ _ _ rfl h hP hS dX3_holesWithin_17
def wpX3_hasRoomForPipe (post : Int32 → Prop) (w_pipes : Int32) : Prop := (((6 : Int32) ≤ w_pipes → (post (0 : Int32))) ∧ (¬ ((6 : Int32) ≤ w_pipes) → (post (1 : Int32))))
set_option maxHeartbeats 4000000 in
set_option maxRecDepth 100000 in
theorem mX3_hasRoomForPipe (l : Launch) (D : va_G) (cI cJ cC : ClassId) (G : Nat → Nat → Nat) (a_w : Nat → Nat) (sz : Nat) (w_space : Int32) (w_beam : Int32) (w_door : Int32) (w_law : Int32) (w_used : Int32) (w_pipes : Int32) (w_drilled : Int64) (w_total : Int64) (w_open : Int32) (w_pipeInches : Nat → Int32) (w_pipeChances : Nat → Int32) (w_weights : Nat → Int64) (w_woods : Nat → Int32) (w_sums : Nat → Int64) (post : Int32 → Prop) (h : wpX3_hasRoomForPipe post w_pipes) : Met l yX3_hasRoomForPipe (wz yX3_hasRoomForPipe cX3_hasRoomForPipe 1 (some .boolean)) ({ frames := 0, cells := 0, slots := 0, locals := 0 }) (va_Pc [.ref (a_w 0)] (PW D (tz cI cJ cC) G ((bX3 cI cJ cC a_w w_space w_beam w_door w_law w_used w_pipes w_drilled w_total w_open w_pipeInches w_pipeChances w_weights w_woods w_sums)) sz)) (va_Qi (fun (r : Int32) (u : Unit) => post r ) (fun (u : Unit) t => va_P D vwCl ((bX3 cI cJ cC a_w w_space w_beam w_door w_law w_used w_pipes w_drilled w_total w_open w_pipeInches w_pipeChances w_weights w_woods w_sums)) t.heap) (va_A ((bX3 cI cJ cC a_w w_space w_beam w_door w_law w_used w_pipes w_drilled w_total w_open w_pipeInches w_pipeChances w_weights w_woods w_sums)) sz)) 0 0 (va_A ((bX3 cI cJ cC a_w w_space w_beam w_door w_law w_used w_pipes w_drilled w_total w_open w_pipeInches w_pipeChances w_weights w_woods w_sums)) sz) := by
  refine zmi (gw := fun (u : Unit) => (bX3 cI cJ cC a_w w_space w_beam w_door w_law w_used w_pipes w_drilled w_total w_open w_pipeInches w_pipeChances w_weights w_woods w_sums)) (plainFor_of_name (by decide)) (Nat.le_of_ble_eq_true rfl) ?_
  intro p e s m below meth c A Q ls S hK hD hA hE hP hl hret
  obtain ⟨hx, hb, hml, hown, ht⟩ := id S
  have hS : va_S A s.heap s.heap [] := va_S.rf
  have hDD : ∀ ws : va_W, ws.map (fun q => q.1) = [a_w 0, a_w 1, a_w 2, a_w 3, a_w 4, a_w 5] → va_D A ws := fun ws hw => zD hD (hw.trans rfl)
  have hl : lv_has ls 1 [(0, .ref (a_w 0))] := hl
  unfold wpX3_hasRoomForPipe at h
  refine lv_aload_n hx hb dX3_hasRoomForPipe_0 rfl (lv_at hl 0 rfl) ?_
  refine va_get (D := D) (ci := 3) (v := .int w_pipes) (C := RX3) (T := TX3) (N := 14) hx hb ht inX3 hown hK hP 0 rfl rfl 5 (by decide) (ht _ fl_X3_27) (fun _ h9 => h9) rfl dX3_hasRoomForPipe_1 ?_
  refine lv_bipush (v := (6 : Int32)) hx hb dX3_hasRoomForPipe_4 (by decide) ?_
  refine lv_icmp_ge (tgt := 13) hx hb dX3_hasRoomForPipe_6 (by decide) (fun z => ?_) (fun z => ?_)
  · replace h := h.1 z
    refine lv_iconst (v := (0 : Int32)) hx hb dX3_hasRoomForPipe_13 (by decide) ?_
    exact hret (0 : Int32) () _ _ _ _ rfl h hP hS dX3_hasRoomForPipe_14
  · replace h := h.2 z
    refine lv_iconst (v := (1 : Int32)) hx hb dX3_hasRoomForPipe_9 (by decide) ?_
    refine lv_goto (tgt := 14) hx hb dX3_hasRoomForPipe_10 (by decide) ?_
    exact hret (1 : Int32) () _ _ _ _ rfl h hP hS dX3_hasRoomForPipe_14
def wpX3_takePipe (post : Int32 → (Nat → Int32) → (Nat → Int32) → Prop) (w_pipes : Int32) (w_pipeInches : Nat → Int32) (w_pipeChances : Nat → Int32) (p1 : Int32) (p2 : Int32) : Prop := wpX3_hasRoomForPipe (fun (r_1 : Int32) => ((r_1 = (0 : Int32) → (post w_pipes w_pipeInches w_pipeChances)) ∧ (¬ (r_1 = (0 : Int32)) → (vp_in w_pipes 6 ∧ (vp_in w_pipes 6 ∧ (post (w_pipes + (1 : Int32)) (upd w_pipeInches w_pipes.toNatClampNeg p1) (upd w_pipeChances w_pipes.toNatClampNeg p2))))))) w_pipes
set_option maxHeartbeats 4000000 in
set_option maxRecDepth 100000 in
theorem mX3_takePipe (l : Launch) (D : va_G) (cI cJ cC : ClassId) (G : Nat → Nat → Nat) (a_w : Nat → Nat) (sz : Nat) (w_space : Int32) (w_beam : Int32) (w_door : Int32) (w_law : Int32) (w_used : Int32) (w_pipes : Int32) (w_drilled : Int64) (w_total : Int64) (w_open : Int32) (w_pipeInches : Nat → Int32) (w_pipeChances : Nat → Int32) (w_weights : Nat → Int64) (w_woods : Nat → Int32) (w_sums : Nat → Int64) (p1 : Int32) (p2 : Int32) (post : Int32 → (Nat → Int32) → (Nat → Int32) → Prop) (h : wpX3_takePipe post w_pipes w_pipeInches w_pipeChances p1 p2) : Met l yX3_takePipe (wz yX3_takePipe cX3_takePipe 3 none) ({ frames := 1, cells := 0, slots := 0, locals := 20 }) (va_Pc [.ref (a_w 0), .int p1, .int p2] (PW D (tz cI cJ cC) G ((bX3 cI cJ cC a_w w_space w_beam w_door w_law w_used w_pipes w_drilled w_total w_open w_pipeInches w_pipeChances w_weights w_woods w_sums)) sz)) (va_Qv (fun (u : Int32 × (Nat → Int32) × (Nat → Int32)) => post u.1 u.2.1 u.2.2) (fun (u : Int32 × (Nat → Int32) × (Nat → Int32)) t => va_P D vwCl ((bX3 cI cJ cC a_w w_space w_beam w_door w_law w_used u.1 w_drilled w_total w_open u.2.1 u.2.2 w_weights w_woods w_sums)) t.heap) (va_A ((bX3 cI cJ cC a_w w_space w_beam w_door w_law w_used w_pipes w_drilled w_total w_open w_pipeInches w_pipeChances w_weights w_woods w_sums)) sz)) 0 0 (va_A ((bX3 cI cJ cC a_w w_space w_beam w_door w_law w_used w_pipes w_drilled w_total w_open w_pipeInches w_pipeChances w_weights w_woods w_sums)) sz) := by
  refine zmv (gw := fun (u : Int32 × (Nat → Int32) × (Nat → Int32)) => (bX3 cI cJ cC a_w w_space w_beam w_door w_law w_used u.1 w_drilled w_total w_open u.2.1 u.2.2 w_weights w_woods w_sums)) (plainFor_of_name (by decide)) (Nat.le_of_ble_eq_true rfl) ?_
  intro p e s m below meth c A Q ls S hK hD hA hE hP hl hret
  obtain ⟨hx, hb, hml, hown, ht⟩ := id S
  have hS : va_S A s.heap s.heap [] := va_S.rf
  have hDD : ∀ ws : va_W, ws.map (fun q => q.1) = [a_w 0, a_w 1, a_w 2, a_w 3, a_w 4, a_w 5] → va_D A ws := fun ws hw => zD hD (hw.trans rfl)
  have hl : lv_has ls 3 [(0, .ref (a_w 0)), (1, .int p1), (2, .int p2)] := hl
  unfold wpX3_takePipe at h
  refine lv_aload_n hx hb dX3_takePipe_0 rfl (lv_at hl 0 rfl) ?_
  refine zci hA (hDD _ rfl) hS (zrunV (As := []) (rest := []) S hK hA hE hP (hDD _ rfl) hS (mX3_hasRoomForPipe l D cI cJ cC G a_w _ w_space w_beam w_door w_law w_used w_pipes w_drilled w_total w_open w_pipeInches w_pipeChances w_weights w_woods w_sums _ h) kX3_hasRoomForPipe ml_X3_123 ⟨rfl, rfl, by decide, by decide⟩ (q0 := 0) (ci := 3) rfl rfl rfl rfl hl.1 rfl (Nat.le_of_ble_eq_true rfl) dX3_takePipe_1 ⟨Nat.zero_le _, Nat.zero_le _⟩) (fun r_1 u H locs h hP1 hk1 hS => ?_)
  try dsimp only at h
  have hP : va_P D vwCl ((bX3 cI cJ cC a_w w_space w_beam w_door w_law w_used w_pipes w_drilled w_total w_open w_pipeInches w_pipeChances w_weights w_woods w_sums)) H := hP1
  refine lv_if_eq (tgt := 37) hx hb dX3_takePipe_4 (by decide) (fun z => ?_) (fun z => ?_)
  · replace h := h.1 z
    exact hret (w_pipes, w_pipeInches, w_pipeChances) _ _ _ _ h hP hS dX3_takePipe_37
  · replace h := h.2 z
    refine lv_aload_n hx hb dX3_takePipe_7 rfl (lv_at hl 0 rfl) ?_
    refine va_get (D := D) (ci := 3) (v := .ref (a_w 1)) (C := RX3) (T := TX3) (N := 14) hx hb ht inX3 hown hK hP 0 rfl rfl 7 (by decide) (ht _ fl_X3_34) (fun _ h9 => h9) rfl dX3_takePipe_8 ?_
    refine lv_aload_n hx hb dX3_takePipe_11 rfl (lv_at hl 0 rfl) ?_
    refine va_get (D := D) (ci := 3) (v := .int w_pipes) (C := RX3) (T := TX3) (N := 14) hx hb ht inX3 hown hK hP 0 rfl rfl 5 (by decide) (ht _ fl_X3_27) (fun _ h9 => h9) rfl dX3_takePipe_12 ?_
    refine lv_iload_n hx hb dX3_takePipe_15 rfl (lv_at hl 1 rfl) ?_
    obtain ⟨hin, h⟩ := h
    refine va_iast hx hb hK hP (hDD _ rfl) hS 1 0 rfl rfl hin dX3_takePipe_16 (fun H locs hP _ hS => ?_)
    have hP : va_P D vwCl ((bX3 cI cJ cC a_w w_space w_beam w_door w_law w_used w_pipes w_drilled w_total w_open (upd w_pipeInches w_pipes.toNatClampNeg p1) w_pipeChances w_weights w_woods w_sums)) H := hP
    refine lv_aload_n hx hb dX3_takePipe_17 rfl (lv_at hl 0 rfl) ?_
    refine va_get (D := D) (ci := 3) (v := .ref (a_w 2)) (C := RX3) (T := TX3) (N := 14) hx hb ht inX3 hown hK hP 0 rfl rfl 8 (by decide) (ht _ fl_X3_38) (fun _ h9 => h9) rfl dX3_takePipe_18 ?_
    refine lv_aload_n hx hb dX3_takePipe_21 rfl (lv_at hl 0 rfl) ?_
    refine va_get (D := D) (ci := 3) (v := .int w_pipes) (C := RX3) (T := TX3) (N := 14) hx hb ht inX3 hown hK hP 0 rfl rfl 5 (by decide) (ht _ fl_X3_27) (fun _ h9 => h9) rfl dX3_takePipe_22 ?_
    refine lv_iload_n hx hb dX3_takePipe_25 rfl (lv_at hl 2 rfl) ?_
    obtain ⟨hin, h⟩ := h
    refine va_iast hx hb hK hP (hDD _ rfl) hS 2 0 rfl rfl hin dX3_takePipe_26 (fun H locs hP _ hS => ?_)
    have hP : va_P D vwCl ((bX3 cI cJ cC a_w w_space w_beam w_door w_law w_used w_pipes w_drilled w_total w_open (upd w_pipeInches w_pipes.toNatClampNeg p1) (upd w_pipeChances w_pipes.toNatClampNeg p2) w_weights w_woods w_sums)) H := hP
    refine lv_aload_n hx hb dX3_takePipe_27 rfl (lv_at hl 0 rfl) ?_
    refine lv_dup hx hb dX3_takePipe_28 rfl ?_
    refine va_get (D := D) (ci := 3) (v := .int w_pipes) (C := RX3) (T := TX3) (N := 14) hx hb ht inX3 hown hK hP 0 rfl rfl 5 (by decide) (ht _ fl_X3_27) (fun _ h9 => h9) rfl dX3_takePipe_29 ?_
    refine lv_iconst (v := (1 : Int32)) hx hb dX3_takePipe_32 (by decide) ?_
    refine lv_iadd hx hb dX3_takePipe_33 ?_
    refine va_put (D := D) (ci := 3) (v := .int (w_pipes + (1 : Int32))) (ty := .int) (C := RX3) (T := TX3) (N := 14) hx hb ht inX3 tyX3 tyX3_ok nmX3 hown hK hP (hDD _ rfl) hS 0 rfl rfl 5 (by decide) (ht _ fl_X3_27) (fun _ h9 => h9) rfl (by decide +kernel) rfl rfl (Nat.le_of_ble_eq_true rfl) dX3_takePipe_34 (fun H locs hP _ hS => ?_)
    have hP : va_P D vwCl ((bX3 cI cJ cC a_w w_space w_beam w_door w_law w_used (w_pipes + (1 : Int32)) w_drilled w_total w_open (upd w_pipeInches w_pipes.toNatClampNeg p1) (upd w_pipeChances w_pipes.toNatClampNeg p2) w_weights w_woods w_sums)) H := hP
    exact hret (w_pipes + (1 : Int32), upd w_pipeInches w_pipes.toNatClampNeg p1, upd w_pipeChances w_pipes.toNatClampNeg p2) _ _ _ _ h hP hS dX3_takePipe_37
def wpJ9_min_7cf53 (post : Int32 → Prop) (p0 : Int32) (p1 : Int32) : Prop := ((p1 < p0 → (post p1)) ∧ (¬ (p1 < p0) → (post p0)))
set_option maxHeartbeats 4000000 in
set_option maxRecDepth 100000 in
theorem mJ9_min_7cf53 (l : Launch) (D : va_G) (cI cJ cC : ClassId) (G : Nat → Nat → Nat) (sz : Nat) (p0 : Int32) (p1 : Int32) (post : Int32 → Prop) (h : wpJ9_min_7cf53 post p0 p1) : Met l yJ9_min_7cf53 (wz yJ9_min_7cf53 cJ9_min_7cf53 2 (some .int)) ({ frames := 0, cells := 0, slots := 0, locals := 0 }) (va_Pc [.int p0, .int p1] (PW D (tz cI cJ cC) G ([]) sz)) (va_Qi (fun (r : Int32) (u : Unit) => post r ) (fun (u : Unit) t => va_P D vwCl ([]) t.heap) (va_A ([]) sz)) 0 0 (va_A ([]) sz) := by
  refine zmi (gw := fun (u : Unit) => []) (by decide +kernel) (Nat.le_of_ble_eq_true rfl) ?_
  intro p e s m below meth c A Q ls S hK hD hA hE hP hl hret
  obtain ⟨hx, hb, hml, hown, ht⟩ := id S
  have hS : va_S A s.heap s.heap [] := va_S.rf
  have hDD : ∀ ws : va_W, ws.map (fun q => q.1) = [] → va_D A ws := fun ws hw => zD hD (hw.trans rfl)
  have hl : lv_has ls 2 [(0, .int p0), (1, .int p1)] := hl
  unfold wpJ9_min_7cf53 at h
  refine lv_iload_n hx hb dJ9_min_7cf53_0 rfl (lv_at hl 0 rfl) ?_
  refine lv_iload_n hx hb dJ9_min_7cf53_1 rfl (lv_at hl 1 rfl) ?_
  refine lv_icmp_gt (tgt := 9) hx hb dJ9_min_7cf53_2 (by decide) (fun z => ?_) (fun z => ?_)
  · replace h := h.1 z
    refine lv_iload_n hx hb dJ9_min_7cf53_9 rfl (lv_at hl 1 rfl) ?_
    exact hret p1 () _ _ _ _ rfl h hP hS dJ9_min_7cf53_10
  · replace h := h.2 z
    refine lv_iload_n hx hb dJ9_min_7cf53_5 rfl (lv_at hl 0 rfl) ?_
    refine lv_goto (tgt := 10) hx hb dJ9_min_7cf53_6 (by decide) ?_
    exact hret p0 () _ _ _ _ rfl h hP hS dJ9_min_7cf53_10
def lpX3_riskAt_4 (K : Int32 → Int32 → Prop) (x1 : Int32) (w_pipes : Int32) (w_pipeInches : Nat → Int32) (w_pipeChances : Nat → Int32) : Nat → Int32 → Int32 → Prop
  | 0, _, _ => False
  | n + 1, x2, x3 => (((6 : Int32) ≤ x3 → (K x2 x3)) ∧ (¬ ((6 : Int32) ≤ x3) → (((w_pipes ≤ x3 → (K x2 x3)) ∧ (¬ (w_pipes ≤ x3) → (vp_in x3 6 ∧ ((((w_pipeInches x3.toNatClampNeg) = x1 → (vp_in x3 6 ∧ (lpX3_riskAt_4 K x1 w_pipes w_pipeInches w_pipeChances n (x2 + (w_pipeChances x3.toNatClampNeg)) (x3 + (1 : Int32))))) ∧ (¬ ((w_pipeInches x3.toNatClampNeg) = x1) → (lpX3_riskAt_4 K x1 w_pipes w_pipeInches w_pipeChances n x2 (x3 + (1 : Int32))))))))))))
set_option maxHeartbeats 4000000 in
set_option maxRecDepth 100000 in
theorem wX3_riskAt_4 (l : Launch) (D : va_G) (cI cJ cC : ClassId) (G : Nat → Nat → Nat) (a_w : Nat → Nat) {p : Program} {e : Env} {s : State} {m : MethodId} {below : List Frame} {meth : Method} {c : Code} {A : Nat → Prop} {Q : State → Prop} (p1 : Int32) (x1 : Int32) (w_space : Int32) (w_beam : Int32) (w_door : Int32) (w_law : Int32) (w_used : Int32) (w_pipes : Int32) (w_drilled : Int64) (w_total : Int64) (w_open : Int32) (w_pipeInches : Nat → Int32) (w_pipeChances : Nat → Int32) (w_weights : Nat → Int64) (w_woods : Nat → Int32) (w_sums : Nat → Int64) (K : Int32 → Int32 → Prop) (S : CallFix p m c cX3_riskAt 4 s ([.ref (a_w 0), .int p1] : List Value).toArray bg RX3) (hK : va_K D vwCl (tz cI cJ cC) s) (hDD : ∀ ws : va_W, ws.map (fun q => q.1) = [a_w 0, a_w 1, a_w 2, a_w 3, a_w 4, a_w 5] → va_D A ws) (hA : ∀ q, s.heap.size ≤ q → A q) (hE : EV G A s) (hKK : ∀ (x2 : Int32) (x3 : Int32) (H : Heap) (locs : List Loc) (ls : Array Slot), K x2 x3 → va_P D vwCl ((bX3 cI cJ cC a_w w_space w_beam w_door w_law w_used w_pipes w_drilled w_total w_open w_pipeInches w_pipeChances w_weights w_woods w_sums)) H → va_S A s.heap H locs → lv_has ls 4 [(2, .int x2)] → W p l e ({ frames := 1, cells := 0, slots := 0, locals := 21 }) s m ([.ref (a_w 0), .int p1] : List Value).toArray below meth c H locs 0 0 Q (F0 m 43 ls [])) :
    ∀ (n : Nat) (x2 : Int32) (x3 : Int32) (H : Heap) (locs : List Loc) (ls : Array Slot), lpX3_riskAt_4 K x1 w_pipes w_pipeInches w_pipeChances n x2 x3 → va_P D vwCl ((bX3 cI cJ cC a_w w_space w_beam w_door w_law w_used w_pipes w_drilled w_total w_open w_pipeInches w_pipeChances w_weights w_woods w_sums)) H → va_S A s.heap H locs → lv_has ls 4 [(0, .ref (a_w 0)), (1, .int x1), (2, .int x2), (3, .int x3)] → W p l e ({ frames := 1, cells := 0, slots := 0, locals := 21 }) s m ([.ref (a_w 0), .int p1] : List Value).toArray below meth c H locs 0 0 Q (F0 m 4 ls []) := by
  obtain ⟨hx, hb, hml, hown, ht⟩ := id S
  intro n
  induction n with
  | zero =>
    intro x2 x3 H locs ls h
    exact absurd h (by simp [lpX3_riskAt_4])
  | succ n ih =>
    intro x2 x3 H locs ls h hP hS hl
    rw [lpX3_riskAt_4] at h
    refine lv_iload_n hx hb dX3_riskAt_4 rfl (lv_at hl 3 rfl) ?_
    refine lv_bipush (v := (6 : Int32)) hx hb dX3_riskAt_5 (by decide) ?_
    refine lv_icmp_ge (tgt := 43) hx hb dX3_riskAt_7 (by decide) (fun z => ?_) (fun z => ?_)
    · replace h := h.1 z
      exact hKK x2 x3 _ _ _ h hP hS (lv_sub hl [2] rfl)
    · replace h := h.2 z
      refine lv_iload_n hx hb dX3_riskAt_10 rfl (lv_at hl 3 rfl) ?_
      refine lv_aload_n hx hb dX3_riskAt_11 rfl (lv_at hl 0 rfl) ?_
      refine va_get (D := D) (ci := 3) (v := .int w_pipes) (C := RX3) (T := TX3) (N := 14) hx hb ht inX3 hown hK hP 0 rfl rfl 5 (by decide) (ht _ fl_X3_27) (fun _ h9 => h9) rfl dX3_riskAt_12 ?_
      refine lv_icmp_ge (tgt := 43) hx hb dX3_riskAt_15 (by decide) (fun z => ?_) (fun z => ?_)
      · replace h := h.1 z
        exact hKK x2 x3 _ _ _ h hP hS (lv_sub hl [2] rfl)
      · replace h := h.2 z
        refine lv_aload_n hx hb dX3_riskAt_18 rfl (lv_at hl 0 rfl) ?_
        refine va_get (D := D) (ci := 3) (v := .ref (a_w 1)) (C := RX3) (T := TX3) (N := 14) hx hb ht inX3 hown hK hP 0 rfl rfl 7 (by decide) (ht _ fl_X3_34) (fun _ h9 => h9) rfl dX3_riskAt_19 ?_
        refine lv_iload_n hx hb dX3_riskAt_22 rfl (lv_at hl 3 rfl) ?_
        obtain ⟨hin, h⟩ := h
        refine va_iald hx hb hK hP 1 0 rfl rfl hin dX3_riskAt_23 ?_
        refine lv_iload_n hx hb dX3_riskAt_24 rfl (lv_at hl 1 rfl) ?_
        refine lv_icmp_ne (tgt := 37) hx hb dX3_riskAt_25 (by decide) (fun z => ?_) (fun z => ?_)
        · replace h := h.2 z
          refine lv_iinc (v := x3 + (1 : Int32)) (lv' := [(3, .int (x3 + (1 : Int32))), (0, .ref (a_w 0)), (1, .int x1), (2, .int x2)]) hx hb dX3_riskAt_37 hl (k := 3) rfl (by rfl) (by decide) rfl (fun ls hl => ?_)
          refine lv_goto (tgt := 4) hx hb dX3_riskAt_40 (by decide) ?_
          exact ih x2 (x3 + (1 : Int32)) _ _ _ h hP hS (lv_sub hl [1, 2, 3, 0] rfl)
        · replace h := h.1 z
          refine lv_iload_n hx hb dX3_riskAt_28 rfl (lv_at hl 2 rfl) ?_
          refine lv_aload_n hx hb dX3_riskAt_29 rfl (lv_at hl 0 rfl) ?_
          refine va_get (D := D) (ci := 3) (v := .ref (a_w 2)) (C := RX3) (T := TX3) (N := 14) hx hb ht inX3 hown hK hP 0 rfl rfl 8 (by decide) (ht _ fl_X3_38) (fun _ h9 => h9) rfl dX3_riskAt_30 ?_
          refine lv_iload_n hx hb dX3_riskAt_33 rfl (lv_at hl 3 rfl) ?_
          obtain ⟨hin, h⟩ := h
          refine va_iald hx hb hK hP 2 0 rfl rfl hin dX3_riskAt_34 ?_
          refine lv_iadd hx hb dX3_riskAt_35 ?_
          refine lv_istore_n (lv' := [(2, .int (x2 + (w_pipeChances x3.toNatClampNeg))), (0, .ref (a_w 0)), (1, .int x1), (3, .int x3)]) hx hb dX3_riskAt_36 rfl hl (by decide) rfl (fun ls hl => ?_)
          refine lv_iinc (v := x3 + (1 : Int32)) (lv' := [(3, .int (x3 + (1 : Int32))), (2, .int (x2 + (w_pipeChances x3.toNatClampNeg))), (0, .ref (a_w 0)), (1, .int x1)]) hx hb dX3_riskAt_37 hl (k := 3) rfl (by rfl) (by decide) rfl (fun ls hl => ?_)
          refine lv_goto (tgt := 4) hx hb dX3_riskAt_40 (by decide) ?_
          exact ih (x2 + (w_pipeChances x3.toNatClampNeg)) (x3 + (1 : Int32)) _ _ _ h hP hS (lv_sub hl [2, 3, 1, 0] rfl)
def wpX3_riskAt (post : Int32 → Prop) (w_pipes : Int32) (w_pipeInches : Nat → Int32) (w_pipeChances : Nat → Int32) (p1 : Int32) : Prop := ∃ n_1 : Nat, lpX3_riskAt_4 (fun (x2_2 : Int32) (x3_3 : Int32) => wpJ9_min_7cf53 (fun (r_4 : Int32) => post r_4) x2_2 (10 : Int32)) p1 w_pipes w_pipeInches w_pipeChances n_1 (0 : Int32) (0 : Int32)
set_option maxHeartbeats 4000000 in
set_option maxRecDepth 100000 in
theorem mX3_riskAt (l : Launch) (D : va_G) (cI cJ cC : ClassId) (G : Nat → Nat → Nat) (a_w : Nat → Nat) (sz : Nat) (w_space : Int32) (w_beam : Int32) (w_door : Int32) (w_law : Int32) (w_used : Int32) (w_pipes : Int32) (w_drilled : Int64) (w_total : Int64) (w_open : Int32) (w_pipeInches : Nat → Int32) (w_pipeChances : Nat → Int32) (w_weights : Nat → Int64) (w_woods : Nat → Int32) (w_sums : Nat → Int64) (p1 : Int32) (post : Int32 → Prop) (h : wpX3_riskAt post w_pipes w_pipeInches w_pipeChances p1) : Met l yX3_riskAt (wz yX3_riskAt cX3_riskAt 4 (some .int)) ({ frames := 1, cells := 0, slots := 0, locals := 21 }) (va_Pc [.ref (a_w 0), .int p1] (PW D (tz cI cJ cC) G ((bX3 cI cJ cC a_w w_space w_beam w_door w_law w_used w_pipes w_drilled w_total w_open w_pipeInches w_pipeChances w_weights w_woods w_sums)) sz)) (va_Qi (fun (r : Int32) (u : Unit) => post r ) (fun (u : Unit) t => va_P D vwCl ((bX3 cI cJ cC a_w w_space w_beam w_door w_law w_used w_pipes w_drilled w_total w_open w_pipeInches w_pipeChances w_weights w_woods w_sums)) t.heap) (va_A ((bX3 cI cJ cC a_w w_space w_beam w_door w_law w_used w_pipes w_drilled w_total w_open w_pipeInches w_pipeChances w_weights w_woods w_sums)) sz)) 0 0 (va_A ((bX3 cI cJ cC a_w w_space w_beam w_door w_law w_used w_pipes w_drilled w_total w_open w_pipeInches w_pipeChances w_weights w_woods w_sums)) sz) := by
  refine zmi (gw := fun (u : Unit) => (bX3 cI cJ cC a_w w_space w_beam w_door w_law w_used w_pipes w_drilled w_total w_open w_pipeInches w_pipeChances w_weights w_woods w_sums)) (plainFor_of_name (by decide)) (Nat.le_of_ble_eq_true rfl) ?_
  intro p e s m below meth c A Q ls S hK hD hA hE hP hl hret
  obtain ⟨hx, hb, hml, hown, ht⟩ := id S
  have hS : va_S A s.heap s.heap [] := va_S.rf
  have hDD : ∀ ws : va_W, ws.map (fun q => q.1) = [a_w 0, a_w 1, a_w 2, a_w 3, a_w 4, a_w 5] → va_D A ws := fun ws hw => zD hD (hw.trans rfl)
  have hl : lv_has ls 4 [(0, .ref (a_w 0)), (1, .int p1)] := hl
  unfold wpX3_riskAt at h
  refine lv_iconst (v := (0 : Int32)) hx hb dX3_riskAt_0 (by decide) ?_
  refine lv_istore_n (lv' := [(2, .int (0 : Int32)), (0, .ref (a_w 0)), (1, .int p1)]) hx hb dX3_riskAt_1 rfl hl (by decide) rfl (fun ls hl => ?_)
  refine lv_iconst (v := (0 : Int32)) hx hb dX3_riskAt_2 (by decide) ?_
  refine lv_istore_n (lv' := [(3, .int (0 : Int32)), (2, .int (0 : Int32)), (0, .ref (a_w 0)), (1, .int p1)]) hx hb dX3_riskAt_3 rfl hl (by decide) rfl (fun ls hl => ?_)
  obtain ⟨n_1, h⟩ := h
  refine wX3_riskAt_4 l D cI cJ cC G a_w p1 p1 w_space w_beam w_door w_law w_used w_pipes w_drilled w_total w_open w_pipeInches w_pipeChances w_weights w_woods w_sums _ S hK hDD hA hE (fun x2_2 x3_3 H locs ls h hP hS hl => ?_) n_1 (0 : Int32) (0 : Int32) _ _ _ h hP hS (lv_sub hl [2, 3, 1, 0] rfl)
  try dsimp only at h
  refine lv_iload_n hx hb dX3_riskAt_43 rfl (lv_at hl 0 rfl) ?_
  refine lv_bipush (v := (10 : Int32)) hx hb dX3_riskAt_44 (by decide) ?_
  refine zci hA zD0 hS (zrunS (As := [.int x2_2, .int (10 : Int32)]) (rest := []) S hK hA hE zP0 zD0 hS (mJ9_min_7cf53 l D cI cJ cC G _ x2_2 (10 : Int32) _ h) kJ9_min_7cf53 ml_X3_127 ⟨rfl, rfl, by decide, by decide⟩ rfl hl.1 rfl (Nat.le_of_ble_eq_true rfl) dX3_riskAt_46 ⟨Nat.zero_le _, Nat.zero_le _⟩) (fun r_4 u H locs h hP1 hk1 hS => ?_)
  try dsimp only at h
  have hP : va_P D vwCl ((bX3 cI cJ cC a_w w_space w_beam w_door w_law w_used w_pipes w_drilled w_total w_open w_pipeInches w_pipeChances w_weights w_woods w_sums)) H := zKeep hP hk1
  exact hret r_4 () _ _ _ _ rfl h hP hS dX3_riskAt_49
def wpX3_safety (post : Int64 → Prop) (w_pipes : Int32) (w_pipeInches : Nat → Int32) (w_pipeChances : Nat → Int32) (w_sums : Nat → Int64) (p1 : Int32) : Prop := vp_in p1 48 ∧ (wpX3_riskAt (fun (r_1 : Int32) => post ((w_sums p1.toNatClampNeg) * (((10 : Int32) - r_1).toInt64))) w_pipes w_pipeInches w_pipeChances p1)
set_option maxHeartbeats 4000000 in
set_option maxRecDepth 100000 in
theorem mX3_safety (l : Launch) (D : va_G) (cI cJ cC : ClassId) (G : Nat → Nat → Nat) (a_w : Nat → Nat) (sz : Nat) (w_space : Int32) (w_beam : Int32) (w_door : Int32) (w_law : Int32) (w_used : Int32) (w_pipes : Int32) (w_drilled : Int64) (w_total : Int64) (w_open : Int32) (w_pipeInches : Nat → Int32) (w_pipeChances : Nat → Int32) (w_weights : Nat → Int64) (w_woods : Nat → Int32) (w_sums : Nat → Int64) (p1 : Int32) (post : Int64 → Prop) (h : wpX3_safety post w_pipes w_pipeInches w_pipeChances w_sums p1) : Met l yX3_safety (wz yX3_safety cX3_safety 2 (some .long)) ({ frames := 2, cells := 0, slots := 0, locals := 44 }) (va_Pc [.ref (a_w 0), .int p1] (PW D (tz cI cJ cC) G ((bX3 cI cJ cC a_w w_space w_beam w_door w_law w_used w_pipes w_drilled w_total w_open w_pipeInches w_pipeChances w_weights w_woods w_sums)) sz)) (va_Ql (fun (r : Int64) (u : Unit) => post r ) (fun (u : Unit) t => va_P D vwCl ((bX3 cI cJ cC a_w w_space w_beam w_door w_law w_used w_pipes w_drilled w_total w_open w_pipeInches w_pipeChances w_weights w_woods w_sums)) t.heap) (va_A ((bX3 cI cJ cC a_w w_space w_beam w_door w_law w_used w_pipes w_drilled w_total w_open w_pipeInches w_pipeChances w_weights w_woods w_sums)) sz)) 0 0 (va_A ((bX3 cI cJ cC a_w w_space w_beam w_door w_law w_used w_pipes w_drilled w_total w_open w_pipeInches w_pipeChances w_weights w_woods w_sums)) sz) := by
  refine zml (gw := fun (u : Unit) => (bX3 cI cJ cC a_w w_space w_beam w_door w_law w_used w_pipes w_drilled w_total w_open w_pipeInches w_pipeChances w_weights w_woods w_sums)) (plainFor_of_name (by decide)) (Nat.le_of_ble_eq_true rfl) ?_
  intro p e s m below meth c A Q ls S hK hD hA hE hP hl hret
  obtain ⟨hx, hb, hml, hown, ht⟩ := id S
  have hS : va_S A s.heap s.heap [] := va_S.rf
  have hDD : ∀ ws : va_W, ws.map (fun q => q.1) = [a_w 0, a_w 1, a_w 2, a_w 3, a_w 4, a_w 5] → va_D A ws := fun ws hw => zD hD (hw.trans rfl)
  have hl : lv_has ls 2 [(0, .ref (a_w 0)), (1, .int p1)] := hl
  unfold wpX3_safety at h
  refine lv_aload_n hx hb dX3_safety_0 rfl (lv_at hl 0 rfl) ?_
  refine va_get (D := D) (ci := 3) (v := .ref (a_w 5)) (C := RX3) (T := TX3) (N := 14) hx hb ht inX3 hown hK hP 0 rfl rfl 11 (by decide) (ht _ fl_X3_48) (fun _ h9 => h9) rfl dX3_safety_1 ?_
  refine lv_iload_n hx hb dX3_safety_4 rfl (lv_at hl 1 rfl) ?_
  obtain ⟨hin, h⟩ := h
  refine va_lald hx hb hK hP 5 1 rfl rfl hin dX3_safety_5 ?_
  refine lv_bipush (v := (10 : Int32)) hx hb dX3_safety_6 (by decide) ?_
  refine lv_aload_n hx hb dX3_safety_8 rfl (lv_at hl 0 rfl) ?_
  refine lv_iload_n hx hb dX3_safety_9 rfl (lv_at hl 1 rfl) ?_
  refine zci hA (hDD _ rfl) hS (zrunV (As := [.int p1]) (rest := [.int (10 : Int32), .long (w_sums p1.toNatClampNeg)]) S hK hA hE hP (hDD _ rfl) hS (mX3_riskAt l D cI cJ cC G a_w _ w_space w_beam w_door w_law w_used w_pipes w_drilled w_total w_open w_pipeInches w_pipeChances w_weights w_woods w_sums p1 _ h) kX3_riskAt ml_X3_133 ⟨rfl, rfl, by decide, by decide⟩ (q0 := 0) (ci := 3) rfl rfl rfl rfl hl.1 rfl (Nat.le_of_ble_eq_true rfl) dX3_safety_10 ⟨Nat.zero_le _, Nat.zero_le _⟩) (fun r_1 u H locs h hP1 hk1 hS => ?_)
  try dsimp only at h
  have hP : va_P D vwCl ((bX3 cI cJ cC a_w w_space w_beam w_door w_law w_used w_pipes w_drilled w_total w_open w_pipeInches w_pipeChances w_weights w_woods w_sums)) H := hP1
  refine lv_isub hx hb dX3_safety_13 ?_
  refine lv_i2l hx hb dX3_safety_14 rfl ?_
  refine lv_lmul hx hb dX3_safety_15 ?_
  exact hret ((w_sums p1.toNatClampNeg) * (((10 : Int32) - r_1).toInt64)) () _ _ _ _ h hP hS dX3_safety_16
def wpX3_isSure (post : Int32 → Prop) (w_open : Int32) (w_woods : Nat → Int32) (p1 : Int32) (p2 : Int32) : Prop := ((p2 = (0 : Int32) → (vp_in p1 48 ∧ ((((w_open &&& (w_woods p1.toNatClampNeg)) = (0 : Int32) → (post (1 : Int32))) ∧ (¬ ((w_open &&& (w_woods p1.toNatClampNeg)) = (0 : Int32)) → (post (0 : Int32))))))) ∧ (¬ (p2 = (0 : Int32)) → (vp_in p1 48 ∧ ((((w_open &&& ((w_woods p1.toNatClampNeg) ^^^ (-1 : Int32))) = (0 : Int32) → (post (1 : Int32))) ∧ (¬ ((w_open &&& ((w_woods p1.toNatClampNeg) ^^^ (-1 : Int32))) = (0 : Int32)) → (post (0 : Int32))))))))
set_option maxHeartbeats 4000000 in
set_option maxRecDepth 100000 in
theorem mX3_isSure (l : Launch) (D : va_G) (cI cJ cC : ClassId) (G : Nat → Nat → Nat) (a_w : Nat → Nat) (sz : Nat) (w_space : Int32) (w_beam : Int32) (w_door : Int32) (w_law : Int32) (w_used : Int32) (w_pipes : Int32) (w_drilled : Int64) (w_total : Int64) (w_open : Int32) (w_pipeInches : Nat → Int32) (w_pipeChances : Nat → Int32) (w_weights : Nat → Int64) (w_woods : Nat → Int32) (w_sums : Nat → Int64) (p1 : Int32) (p2 : Int32) (post : Int32 → Prop) (h : wpX3_isSure post w_open w_woods p1 p2) : Met l yX3_isSure (wz yX3_isSure cX3_isSure 3 (some .boolean)) ({ frames := 0, cells := 0, slots := 0, locals := 0 }) (va_Pc [.ref (a_w 0), .int p1, .int p2] (PW D (tz cI cJ cC) G ((bX3 cI cJ cC a_w w_space w_beam w_door w_law w_used w_pipes w_drilled w_total w_open w_pipeInches w_pipeChances w_weights w_woods w_sums)) sz)) (va_Qi (fun (r : Int32) (u : Unit) => post r ) (fun (u : Unit) t => va_P D vwCl ((bX3 cI cJ cC a_w w_space w_beam w_door w_law w_used w_pipes w_drilled w_total w_open w_pipeInches w_pipeChances w_weights w_woods w_sums)) t.heap) (va_A ((bX3 cI cJ cC a_w w_space w_beam w_door w_law w_used w_pipes w_drilled w_total w_open w_pipeInches w_pipeChances w_weights w_woods w_sums)) sz)) 0 0 (va_A ((bX3 cI cJ cC a_w w_space w_beam w_door w_law w_used w_pipes w_drilled w_total w_open w_pipeInches w_pipeChances w_weights w_woods w_sums)) sz) := by
  refine zmi (gw := fun (u : Unit) => (bX3 cI cJ cC a_w w_space w_beam w_door w_law w_used w_pipes w_drilled w_total w_open w_pipeInches w_pipeChances w_weights w_woods w_sums)) (plainFor_of_name (by decide)) (Nat.le_of_ble_eq_true rfl) ?_
  intro p e s m below meth c A Q ls S hK hD hA hE hP hl hret
  obtain ⟨hx, hb, hml, hown, ht⟩ := id S
  have hS : va_S A s.heap s.heap [] := va_S.rf
  have hDD : ∀ ws : va_W, ws.map (fun q => q.1) = [a_w 0, a_w 1, a_w 2, a_w 3, a_w 4, a_w 5] → va_D A ws := fun ws hw => zD hD (hw.trans rfl)
  have hl : lv_has ls 3 [(0, .ref (a_w 0)), (1, .int p1), (2, .int p2)] := hl
  unfold wpX3_isSure at h
  refine lv_aload_n hx hb dX3_isSure_0 rfl (lv_at hl 0 rfl) ?_
  refine va_get (D := D) (ci := 3) (v := .int w_open) (C := RX3) (T := TX3) (N := 14) hx hb ht inX3 hown hK hP 0 rfl rfl 13 (by decide) (ht _ fl_X3_54) (fun _ h9 => h9) rfl dX3_isSure_1 ?_
  refine lv_iload_n hx hb dX3_isSure_4 rfl (lv_at hl 2 rfl) ?_
  refine lv_if_eq (tgt := 19) hx hb dX3_isSure_5 (by decide) (fun z => ?_) (fun z => ?_)
  · replace h := h.1 z
    refine lv_aload_n hx hb dX3_isSure_19 rfl (lv_at hl 0 rfl) ?_
    refine va_get (D := D) (ci := 3) (v := .ref (a_w 4)) (C := RX3) (T := TX3) (N := 14) hx hb ht inX3 hown hK hP 0 rfl rfl 10 (by decide) (ht _ fl_X3_45) (fun _ h9 => h9) rfl dX3_isSure_20 ?_
    refine lv_iload_n hx hb dX3_isSure_23 rfl (lv_at hl 1 rfl) ?_
    obtain ⟨hin, h⟩ := h
    refine va_iald hx hb hK hP 4 0 rfl rfl hin dX3_isSure_24 ?_
    refine lv_iand hx hb dX3_isSure_25 ?_
    refine lv_if_ne (tgt := 33) hx hb dX3_isSure_26 (by decide) (fun z => ?_) (fun z => ?_)
    · replace h := h.2 z
      refine lv_iconst (v := (0 : Int32)) hx hb dX3_isSure_33 (by decide) ?_
      exact hret (0 : Int32) () _ _ _ _ rfl h hP hS dX3_isSure_34
    · replace h := h.1 z
      refine lv_iconst (v := (1 : Int32)) hx hb dX3_isSure_29 (by decide) ?_
      refine lv_goto (tgt := 34) hx hb dX3_isSure_30 (by decide) ?_
      exact hret (1 : Int32) () _ _ _ _ rfl h hP hS dX3_isSure_34
  · replace h := h.2 z
    refine lv_aload_n hx hb dX3_isSure_8 rfl (lv_at hl 0 rfl) ?_
    refine va_get (D := D) (ci := 3) (v := .ref (a_w 4)) (C := RX3) (T := TX3) (N := 14) hx hb ht inX3 hown hK hP 0 rfl rfl 10 (by decide) (ht _ fl_X3_45) (fun _ h9 => h9) rfl dX3_isSure_9 ?_
    refine lv_iload_n hx hb dX3_isSure_12 rfl (lv_at hl 1 rfl) ?_
    obtain ⟨hin, h⟩ := h
    refine va_iald hx hb hK hP 4 0 rfl rfl hin dX3_isSure_13 ?_
    refine lv_iconst (v := (-1 : Int32)) hx hb dX3_isSure_14 (by decide) ?_
    refine lv_ixor hx hb dX3_isSure_15 ?_
    refine lv_goto (tgt := 25) hx hb dX3_isSure_16 (by decide) ?_
    refine lv_iand hx hb dX3_isSure_25 ?_
    refine lv_if_ne (tgt := 33) hx hb dX3_isSure_26 (by decide) (fun z => ?_) (fun z => ?_)
    · replace h := h.2 z
      refine lv_iconst (v := (0 : Int32)) hx hb dX3_isSure_33 (by decide) ?_
      exact hret (0 : Int32) () _ _ _ _ rfl h hP hS dX3_isSure_34
    · replace h := h.1 z
      refine lv_iconst (v := (1 : Int32)) hx hb dX3_isSure_29 (by decide) ?_
      refine lv_goto (tgt := 34) hx hb dX3_isSure_30 (by decide) ?_
      exact hret (1 : Int32) () _ _ _ _ rfl h hP hS dX3_isSure_34
def lpX3_likeliest_7 (K : Int32 → Int32 → Prop) (x2 : Int32) (w_sums : Nat → Int64) : Nat → Int32 → Int32 → Prop
  | 0, _, _ => False
  | n + 1, x3, x4 => ((x2 ≤ x4 → (K x3 x4)) ∧ (¬ (x2 ≤ x4) → ((((48 : Int32) ≤ x4 → (K x3 x4)) ∧ (¬ ((48 : Int32) ≤ x4) → (vp_in x4 48 ∧ (vp_in x3 48 ∧ ((((w_sums x4.toNatClampNeg) ≤ (w_sums x3.toNatClampNeg) → (lpX3_likeliest_7 K x2 w_sums n x3 (x4 + (1 : Int32)))) ∧ (¬ ((w_sums x4.toNatClampNeg) ≤ (w_sums x3.toNatClampNeg)) → (lpX3_likeliest_7 K x2 w_sums n x4 (x4 + (1 : Int32)))))))))))))
set_option maxHeartbeats 4000000 in
set_option maxRecDepth 100000 in
theorem wX3_likeliest_7 (l : Launch) (D : va_G) (cI cJ cC : ClassId) (G : Nat → Nat → Nat) (a_w : Nat → Nat) {p : Program} {e : Env} {s : State} {m : MethodId} {below : List Frame} {meth : Method} {c : Code} {A : Nat → Prop} {Q : State → Prop} (p1 : Int32) (p2 : Int32) (x2 : Int32) (w_space : Int32) (w_beam : Int32) (w_door : Int32) (w_law : Int32) (w_used : Int32) (w_pipes : Int32) (w_drilled : Int64) (w_total : Int64) (w_open : Int32) (w_pipeInches : Nat → Int32) (w_pipeChances : Nat → Int32) (w_weights : Nat → Int64) (w_woods : Nat → Int32) (w_sums : Nat → Int64) (K : Int32 → Int32 → Prop) (S : CallFix p m c cX3_likeliest 5 s ([.ref (a_w 0), .int p1, .int p2] : List Value).toArray bg RX3) (hK : va_K D vwCl (tz cI cJ cC) s) (hDD : ∀ ws : va_W, ws.map (fun q => q.1) = [a_w 0, a_w 1, a_w 2, a_w 3, a_w 4, a_w 5] → va_D A ws) (hA : ∀ q, s.heap.size ≤ q → A q) (hE : EV G A s) (hKK : ∀ (x3 : Int32) (x4 : Int32) (H : Heap) (locs : List Loc) (ls : Array Slot), K x3 x4 → va_P D vwCl ((bX3 cI cJ cC a_w w_space w_beam w_door w_law w_used w_pipes w_drilled w_total w_open w_pipeInches w_pipeChances w_weights w_woods w_sums)) H → va_S A s.heap H locs → lv_has ls 5 [(3, .int x3)] → W p l e ({ frames := 0, cells := 0, slots := 0, locals := 0 }) s m ([.ref (a_w 0), .int p1, .int p2] : List Value).toArray below meth c H locs 0 0 Q (F0 m 46 ls [])) :
    ∀ (n : Nat) (x3 : Int32) (x4 : Int32) (H : Heap) (locs : List Loc) (ls : Array Slot), lpX3_likeliest_7 K x2 w_sums n x3 x4 → va_P D vwCl ((bX3 cI cJ cC a_w w_space w_beam w_door w_law w_used w_pipes w_drilled w_total w_open w_pipeInches w_pipeChances w_weights w_woods w_sums)) H → va_S A s.heap H locs → lv_has ls 5 [(0, .ref (a_w 0)), (2, .int x2), (3, .int x3), (4, .int x4)] → W p l e ({ frames := 0, cells := 0, slots := 0, locals := 0 }) s m ([.ref (a_w 0), .int p1, .int p2] : List Value).toArray below meth c H locs 0 0 Q (F0 m 7 ls []) := by
  obtain ⟨hx, hb, hml, hown, ht⟩ := id S
  intro n
  induction n with
  | zero =>
    intro x3 x4 H locs ls h
    exact absurd h (by simp [lpX3_likeliest_7])
  | succ n ih =>
    intro x3 x4 H locs ls h hP hS hl
    rw [lpX3_likeliest_7] at h
    refine lv_iload hx hb dX3_likeliest_7 (lv_at hl 3 rfl) ?_
    refine lv_iload_n hx hb dX3_likeliest_9 rfl (lv_at hl 1 rfl) ?_
    refine lv_icmp_ge (tgt := 46) hx hb dX3_likeliest_10 (by decide) (fun z => ?_) (fun z => ?_)
    · replace h := h.1 z
      exact hKK x3 x4 _ _ _ h hP hS (lv_sub hl [2] rfl)
    · replace h := h.2 z
      refine lv_iload hx hb dX3_likeliest_13 (lv_at hl 3 rfl) ?_
      refine lv_bipush (v := (48 : Int32)) hx hb dX3_likeliest_15 (by decide) ?_
      refine lv_icmp_ge (tgt := 46) hx hb dX3_likeliest_17 (by decide) (fun z => ?_) (fun z => ?_)
      · replace h := h.1 z
        exact hKK x3 x4 _ _ _ h hP hS (lv_sub hl [2] rfl)
      · replace h := h.2 z
        refine lv_aload_n hx hb dX3_likeliest_20 rfl (lv_at hl 0 rfl) ?_
        refine va_get (D := D) (ci := 3) (v := .ref (a_w 5)) (C := RX3) (T := TX3) (N := 14) hx hb ht inX3 hown hK hP 0 rfl rfl 11 (by decide) (ht _ fl_X3_48) (fun _ h9 => h9) rfl dX3_likeliest_21 ?_
        refine lv_iload hx hb dX3_likeliest_24 (lv_at hl 3 rfl) ?_
        obtain ⟨hin, h⟩ := h
        refine va_lald hx hb hK hP 5 1 rfl rfl hin dX3_likeliest_26 ?_
        refine lv_aload_n hx hb dX3_likeliest_27 rfl (lv_at hl 0 rfl) ?_
        refine va_get (D := D) (ci := 3) (v := .ref (a_w 5)) (C := RX3) (T := TX3) (N := 14) hx hb ht inX3 hown hK hP 0 rfl rfl 11 (by decide) (ht _ fl_X3_48) (fun _ h9 => h9) rfl dX3_likeliest_28 ?_
        refine lv_iload_n hx hb dX3_likeliest_31 rfl (lv_at hl 2 rfl) ?_
        obtain ⟨hin, h⟩ := h
        refine va_lald hx hb hK hP 5 1 rfl rfl hin dX3_likeliest_32 ?_
        refine W.lcmp hx hb dX3_likeliest_33 ?_
        refine lv_if_le (tgt := 40) hx hb dX3_likeliest_34 (by decide) (fun z => ?_) (fun z => ?_)
        · replace h := h.1 (zl_le.mp z)
          refine lv_iinc (v := x4 + (1 : Int32)) (lv' := [(4, .int (x4 + (1 : Int32))), (0, .ref (a_w 0)), (2, .int x2), (3, .int x3)]) hx hb dX3_likeliest_40 hl (k := 3) rfl (by rfl) (by decide) rfl (fun ls hl => ?_)
          refine lv_goto (tgt := 7) hx hb dX3_likeliest_43 (by decide) ?_
          exact ih x3 (x4 + (1 : Int32)) _ _ _ h hP hS (lv_sub hl [1, 2, 3, 0] rfl)
        · replace h := h.2 (fun q => z (zl_le.mpr q))
          refine lv_iload hx hb dX3_likeliest_37 (lv_at hl 3 rfl) ?_
          refine lv_istore_n (lv' := [(3, .int x4), (0, .ref (a_w 0)), (2, .int x2), (4, .int x4)]) hx hb dX3_likeliest_39 rfl hl (by decide) rfl (fun ls hl => ?_)
          refine lv_iinc (v := x4 + (1 : Int32)) (lv' := [(4, .int (x4 + (1 : Int32))), (3, .int x4), (0, .ref (a_w 0)), (2, .int x2)]) hx hb dX3_likeliest_40 hl (k := 3) rfl (by rfl) (by decide) rfl (fun ls hl => ?_)
          refine lv_goto (tgt := 7) hx hb dX3_likeliest_43 (by decide) ?_
          exact ih x4 (x4 + (1 : Int32)) _ _ _ h hP hS (lv_sub hl [2, 3, 1, 0] rfl)
def wpX3_likeliest (post : Int32 → Prop) (w_sums : Nat → Int64) (p1 : Int32) (p2 : Int32) : Prop := ∃ n_1 : Nat, lpX3_likeliest_7 (fun (x3_2 : Int32) (x4_3 : Int32) => post x3_2) p2 w_sums n_1 p1 (p1 + (1 : Int32))
set_option maxHeartbeats 4000000 in
set_option maxRecDepth 100000 in
theorem mX3_likeliest (l : Launch) (D : va_G) (cI cJ cC : ClassId) (G : Nat → Nat → Nat) (a_w : Nat → Nat) (sz : Nat) (w_space : Int32) (w_beam : Int32) (w_door : Int32) (w_law : Int32) (w_used : Int32) (w_pipes : Int32) (w_drilled : Int64) (w_total : Int64) (w_open : Int32) (w_pipeInches : Nat → Int32) (w_pipeChances : Nat → Int32) (w_weights : Nat → Int64) (w_woods : Nat → Int32) (w_sums : Nat → Int64) (p1 : Int32) (p2 : Int32) (post : Int32 → Prop) (h : wpX3_likeliest post w_sums p1 p2) : Met l yX3_likeliest (wz yX3_likeliest cX3_likeliest 5 (some .int)) ({ frames := 0, cells := 0, slots := 0, locals := 0 }) (va_Pc [.ref (a_w 0), .int p1, .int p2] (PW D (tz cI cJ cC) G ((bX3 cI cJ cC a_w w_space w_beam w_door w_law w_used w_pipes w_drilled w_total w_open w_pipeInches w_pipeChances w_weights w_woods w_sums)) sz)) (va_Qi (fun (r : Int32) (u : Unit) => post r ) (fun (u : Unit) t => va_P D vwCl ((bX3 cI cJ cC a_w w_space w_beam w_door w_law w_used w_pipes w_drilled w_total w_open w_pipeInches w_pipeChances w_weights w_woods w_sums)) t.heap) (va_A ((bX3 cI cJ cC a_w w_space w_beam w_door w_law w_used w_pipes w_drilled w_total w_open w_pipeInches w_pipeChances w_weights w_woods w_sums)) sz)) 0 0 (va_A ((bX3 cI cJ cC a_w w_space w_beam w_door w_law w_used w_pipes w_drilled w_total w_open w_pipeInches w_pipeChances w_weights w_woods w_sums)) sz) := by
  refine zmi (gw := fun (u : Unit) => (bX3 cI cJ cC a_w w_space w_beam w_door w_law w_used w_pipes w_drilled w_total w_open w_pipeInches w_pipeChances w_weights w_woods w_sums)) (plainFor_of_name (by decide)) (Nat.le_of_ble_eq_true rfl) ?_
  intro p e s m below meth c A Q ls S hK hD hA hE hP hl hret
  obtain ⟨hx, hb, hml, hown, ht⟩ := id S
  have hS : va_S A s.heap s.heap [] := va_S.rf
  have hDD : ∀ ws : va_W, ws.map (fun q => q.1) = [a_w 0, a_w 1, a_w 2, a_w 3, a_w 4, a_w 5] → va_D A ws := fun ws hw => zD hD (hw.trans rfl)
  have hl : lv_has ls 5 [(0, .ref (a_w 0)), (1, .int p1), (2, .int p2)] := hl
  unfold wpX3_likeliest at h
  refine lv_iload_n hx hb dX3_likeliest_0 rfl (lv_at hl 1 rfl) ?_
  refine lv_istore_n (lv' := [(3, .int p1), (0, .ref (a_w 0)), (1, .int p1), (2, .int p2)]) hx hb dX3_likeliest_1 rfl hl (by decide) rfl (fun ls hl => ?_)
  refine lv_iload_n hx hb dX3_likeliest_2 rfl (lv_at hl 2 rfl) ?_
  refine lv_iconst (v := (1 : Int32)) hx hb dX3_likeliest_3 (by decide) ?_
  refine lv_iadd hx hb dX3_likeliest_4 ?_
  refine lv_istore (lv' := [(4, .int (p1 + (1 : Int32))), (3, .int p1), (0, .ref (a_w 0)), (1, .int p1), (2, .int p2)]) hx hb dX3_likeliest_5 hl (by decide) rfl (fun ls hl => ?_)
  obtain ⟨n_1, h⟩ := h
  refine wX3_likeliest_7 l D cI cJ cC G a_w p1 p2 p2 w_space w_beam w_door w_law w_used w_pipes w_drilled w_total w_open w_pipeInches w_pipeChances w_weights w_woods w_sums _ S hK hDD hA hE (fun x3_2 x4_3 H locs ls h hP hS hl => ?_) n_1 p1 (p1 + (1 : Int32)) _ _ _ h hP hS (lv_sub hl [2, 4, 1, 0] rfl)
  try dsimp only at h
  refine lv_iload_n hx hb dX3_likeliest_46 rfl (lv_at hl 0 rfl) ?_
  exact hret x3_2 () _ _ _ _ rfl h hP hS dX3_likeliest_47
def lpX3_likeliestPair_9 (K : Int32 → Int64 → Int32 → Prop) (x1 : Int32) (w_weights : Nat → Int64) (w_woods : Nat → Int32) : Nat → Int32 → Int64 → Int32 → Prop
  | 0, _, _, _ => False
  | n + 1, x2, x3, x5 => ((((48 : Int32) - x1) ≤ x5 → (K x2 x3 x5)) ∧ (¬ (((48 : Int32) - x1) ≤ x5) → (wpX3_sumAtBoth (fun (r_1 : Int64) => ((r_1 ≤ x3 → (lpX3_likeliestPair_9 K x1 w_weights w_woods n x2 x3 (x5 + (1 : Int32)))) ∧ (¬ (r_1 ≤ x3) → (lpX3_likeliestPair_9 K x1 w_weights w_woods n x5 r_1 (x5 + (1 : Int32)))))) w_weights w_woods x5 (x5 + x1))))
set_option maxHeartbeats 4000000 in
set_option maxRecDepth 100000 in
theorem wX3_likeliestPair_9 (l : Launch) (D : va_G) (cI cJ cC : ClassId) (G : Nat → Nat → Nat) (a_w : Nat → Nat) {p : Program} {e : Env} {s : State} {m : MethodId} {below : List Frame} {meth : Method} {c : Code} {A : Nat → Prop} {Q : State → Prop} (p1 : Int32) (x1 : Int32) (w_space : Int32) (w_beam : Int32) (w_door : Int32) (w_law : Int32) (w_used : Int32) (w_pipes : Int32) (w_drilled : Int64) (w_total : Int64) (w_open : Int32) (w_pipeInches : Nat → Int32) (w_pipeChances : Nat → Int32) (w_weights : Nat → Int64) (w_woods : Nat → Int32) (w_sums : Nat → Int64) (K : Int32 → Int64 → Int32 → Prop) (S : CallFix p m c cX3_likeliestPair 8 s ([.ref (a_w 0), .int p1] : List Value).toArray bg RX3) (hK : va_K D vwCl (tz cI cJ cC) s) (hDD : ∀ ws : va_W, ws.map (fun q => q.1) = [a_w 0, a_w 1, a_w 2, a_w 3, a_w 4, a_w 5] → va_D A ws) (hA : ∀ q, s.heap.size ≤ q → A q) (hE : EV G A s) (hKK : ∀ (x2 : Int32) (x3 : Int64) (x5 : Int32) (H : Heap) (locs : List Loc) (ls : Array Slot), K x2 x3 x5 → va_P D vwCl ((bX3 cI cJ cC a_w w_space w_beam w_door w_law w_used w_pipes w_drilled w_total w_open w_pipeInches w_pipeChances w_weights w_woods w_sums)) H → va_S A s.heap H locs → lv_has ls 8 [(2, .int x2)] → W p l e ({ frames := 3, cells := 0, slots := 0, locals := 67 }) s m ([.ref (a_w 0), .int p1] : List Value).toArray below meth c H locs 0 0 Q (F0 m 49 ls [])) :
    ∀ (n : Nat) (x2 : Int32) (x3 : Int64) (x5 : Int32) (H : Heap) (locs : List Loc) (ls : Array Slot), lpX3_likeliestPair_9 K x1 w_weights w_woods n x2 x3 x5 → va_P D vwCl ((bX3 cI cJ cC a_w w_space w_beam w_door w_law w_used w_pipes w_drilled w_total w_open w_pipeInches w_pipeChances w_weights w_woods w_sums)) H → va_S A s.heap H locs → lv_has ls 8 [(0, .ref (a_w 0)), (1, .int x1), (2, .int x2), (3, .long x3), (5, .int x5)] → W p l e ({ frames := 3, cells := 0, slots := 0, locals := 67 }) s m ([.ref (a_w 0), .int p1] : List Value).toArray below meth c H locs 0 0 Q (F0 m 9 ls []) := by
  obtain ⟨hx, hb, hml, hown, ht⟩ := id S
  intro n
  induction n with
  | zero =>
    intro x2 x3 x5 H locs ls h
    exact absurd h (by simp [lpX3_likeliestPair_9])
  | succ n ih =>
    intro x2 x3 x5 H locs ls h hP hS hl
    rw [lpX3_likeliestPair_9] at h
    refine lv_iload hx hb dX3_likeliestPair_9 (lv_at hl 4 rfl) ?_
    refine lv_bipush (v := (48 : Int32)) hx hb dX3_likeliestPair_11 (by decide) ?_
    refine lv_iload_n hx hb dX3_likeliestPair_13 rfl (lv_at hl 1 rfl) ?_
    refine lv_isub hx hb dX3_likeliestPair_14 ?_
    refine lv_icmp_ge (tgt := 49) hx hb dX3_likeliestPair_15 (by decide) (fun z => ?_) (fun z => ?_)
    · replace h := h.1 z
      exact hKK x2 x3 x5 _ _ _ h hP hS (lv_sub hl [2] rfl)
    · replace h := h.2 z
      refine lv_aload_n hx hb dX3_likeliestPair_18 rfl (lv_at hl 0 rfl) ?_
      refine lv_iload hx hb dX3_likeliestPair_19 (lv_at hl 4 rfl) ?_
      refine lv_iload hx hb dX3_likeliestPair_21 (lv_at hl 4 rfl) ?_
      refine lv_iload_n hx hb dX3_likeliestPair_23 rfl (lv_at hl 1 rfl) ?_
      refine lv_iadd hx hb dX3_likeliestPair_24 ?_
      refine zcl hA (hDD _ rfl) hS (zrunV (As := [.int x5, .int (x5 + x1)]) (rest := []) S hK hA hE hP (hDD _ rfl) hS (mX3_sumAtBoth l D cI cJ cC G a_w _ w_space w_beam w_door w_law w_used w_pipes w_drilled w_total w_open w_pipeInches w_pipeChances w_weights w_woods w_sums x5 (x5 + x1) _ h) kX3_sumAtBoth ml_X3_138 ⟨rfl, rfl, by decide, by decide⟩ (q0 := 0) (ci := 3) rfl rfl rfl rfl hl.1 rfl (Nat.le_of_ble_eq_true rfl) dX3_likeliestPair_25 ⟨Nat.zero_le _, Nat.zero_le _⟩) (fun r_1 u H locs h hP1 hk1 hS => ?_)
      try dsimp only at h
      have hP : va_P D vwCl ((bX3 cI cJ cC a_w w_space w_beam w_door w_law w_used w_pipes w_drilled w_total w_open w_pipeInches w_pipeChances w_weights w_woods w_sums)) H := hP1
      refine lv_lstore (lv' := [(6, .long r_1), (0, .ref (a_w 0)), (1, .int x1), (2, .int x2), (3, .long x3), (5, .int x5)]) hx hb dX3_likeliestPair_28 hl (by decide) rfl (fun ls hl => ?_)
      refine lv_lload hx hb dX3_likeliestPair_30 (lv_at hl 0 rfl) ?_
      refine lv_lload_n hx hb dX3_likeliestPair_32 rfl (lv_at hl 4 rfl) ?_
      refine W.lcmp hx hb dX3_likeliestPair_33 ?_
      refine lv_if_le (tgt := 43) hx hb dX3_likeliestPair_34 (by decide) (fun z => ?_) (fun z => ?_)
      · replace h := h.1 (zl_le.mp z)
        refine lv_iinc (v := x5 + (1 : Int32)) (lv' := [(5, .int (x5 + (1 : Int32))), (6, .long r_1), (0, .ref (a_w 0)), (1, .int x1), (2, .int x2), (3, .long x3)]) hx hb dX3_likeliestPair_43 hl (k := 5) rfl (by rfl) (by decide) rfl (fun ls hl => ?_)
        refine lv_goto (tgt := 9) hx hb dX3_likeliestPair_46 (by decide) ?_
        exact ih x2 x3 (x5 + (1 : Int32)) _ _ _ h hP hS (lv_sub hl [2, 3, 4, 5, 0] rfl)
      · replace h := h.2 (fun q => z (zl_le.mpr q))
        refine lv_iload hx hb dX3_likeliestPair_37 (lv_at hl 5 rfl) ?_
        refine lv_istore_n (lv' := [(2, .int x5), (6, .long r_1), (0, .ref (a_w 0)), (1, .int x1), (3, .long x3), (5, .int x5)]) hx hb dX3_likeliestPair_39 rfl hl (by decide) rfl (fun ls hl => ?_)
        refine lv_lload hx hb dX3_likeliestPair_40 (lv_at hl 1 rfl) ?_
        refine lv_lstore_n (lv' := [(3, .long r_1), (2, .int x5), (6, .long r_1), (0, .ref (a_w 0)), (1, .int x1), (5, .int x5)]) hx hb dX3_likeliestPair_42 rfl hl (by decide) rfl (fun ls hl => ?_)
        refine lv_iinc (v := x5 + (1 : Int32)) (lv' := [(5, .int (x5 + (1 : Int32))), (3, .long r_1), (2, .int x5), (6, .long r_1), (0, .ref (a_w 0)), (1, .int x1)]) hx hb dX3_likeliestPair_43 hl (k := 5) rfl (by rfl) (by decide) rfl (fun ls hl => ?_)
        refine lv_goto (tgt := 9) hx hb dX3_likeliestPair_46 (by decide) ?_
        exact ih x5 r_1 (x5 + (1 : Int32)) _ _ _ h hP hS (lv_sub hl [4, 5, 2, 1, 0] rfl)
def wpX3_likeliestPair (post : Int32 → Prop) (w_weights : Nat → Int64) (w_woods : Nat → Int32) (p1 : Int32) : Prop := ∃ n_2 : Nat, lpX3_likeliestPair_9 (fun (x2_3 : Int32) (x3_4 : Int64) (x5_5 : Int32) => post x2_3) p1 w_weights w_woods n_2 (0 : Int32) (-1 : Int64) (0 : Int32)
set_option maxHeartbeats 4000000 in
set_option maxRecDepth 100000 in
theorem mX3_likeliestPair (l : Launch) (D : va_G) (cI cJ cC : ClassId) (G : Nat → Nat → Nat) (a_w : Nat → Nat) (sz : Nat) (w_space : Int32) (w_beam : Int32) (w_door : Int32) (w_law : Int32) (w_used : Int32) (w_pipes : Int32) (w_drilled : Int64) (w_total : Int64) (w_open : Int32) (w_pipeInches : Nat → Int32) (w_pipeChances : Nat → Int32) (w_weights : Nat → Int64) (w_woods : Nat → Int32) (w_sums : Nat → Int64) (p1 : Int32) (post : Int32 → Prop) (h : wpX3_likeliestPair post w_weights w_woods p1) : Met l yX3_likeliestPair (wz yX3_likeliestPair cX3_likeliestPair 8 (some .int)) ({ frames := 3, cells := 0, slots := 0, locals := 67 }) (va_Pc [.ref (a_w 0), .int p1] (PW D (tz cI cJ cC) G ((bX3 cI cJ cC a_w w_space w_beam w_door w_law w_used w_pipes w_drilled w_total w_open w_pipeInches w_pipeChances w_weights w_woods w_sums)) sz)) (va_Qi (fun (r : Int32) (u : Unit) => post r ) (fun (u : Unit) t => va_P D vwCl ((bX3 cI cJ cC a_w w_space w_beam w_door w_law w_used w_pipes w_drilled w_total w_open w_pipeInches w_pipeChances w_weights w_woods w_sums)) t.heap) (va_A ((bX3 cI cJ cC a_w w_space w_beam w_door w_law w_used w_pipes w_drilled w_total w_open w_pipeInches w_pipeChances w_weights w_woods w_sums)) sz)) 0 0 (va_A ((bX3 cI cJ cC a_w w_space w_beam w_door w_law w_used w_pipes w_drilled w_total w_open w_pipeInches w_pipeChances w_weights w_woods w_sums)) sz) := by
  refine zmi (gw := fun (u : Unit) => (bX3 cI cJ cC a_w w_space w_beam w_door w_law w_used w_pipes w_drilled w_total w_open w_pipeInches w_pipeChances w_weights w_woods w_sums)) (plainFor_of_name (by decide)) (Nat.le_of_ble_eq_true rfl) ?_
  intro p e s m below meth c A Q ls S hK hD hA hE hP hl hret
  obtain ⟨hx, hb, hml, hown, ht⟩ := id S
  have hS : va_S A s.heap s.heap [] := va_S.rf
  have hDD : ∀ ws : va_W, ws.map (fun q => q.1) = [a_w 0, a_w 1, a_w 2, a_w 3, a_w 4, a_w 5] → va_D A ws := fun ws hw => zD hD (hw.trans rfl)
  have hl : lv_has ls 8 [(0, .ref (a_w 0)), (1, .int p1)] := hl
  unfold wpX3_likeliestPair at h
  refine lv_iconst (v := (0 : Int32)) hx hb dX3_likeliestPair_0 (by decide) ?_
  refine lv_istore_n (lv' := [(2, .int (0 : Int32)), (0, .ref (a_w 0)), (1, .int p1)]) hx hb dX3_likeliestPair_1 rfl hl (by decide) rfl (fun ls hl => ?_)
  refine lv_ldc2 hx hb hown (ht _ kc_X3_136) dX3_likeliestPair_2 ?_
  refine lv_lstore_n (lv' := [(3, .long (-1 : Int64)), (2, .int (0 : Int32)), (0, .ref (a_w 0)), (1, .int p1)]) hx hb dX3_likeliestPair_5 rfl hl (by decide) rfl (fun ls hl => ?_)
  refine lv_iconst (v := (0 : Int32)) hx hb dX3_likeliestPair_6 (by decide) ?_
  refine lv_istore (lv' := [(5, .int (0 : Int32)), (3, .long (-1 : Int64)), (2, .int (0 : Int32)), (0, .ref (a_w 0)), (1, .int p1)]) hx hb dX3_likeliestPair_7 hl (by decide) rfl (fun ls hl => ?_)
  obtain ⟨n_2, h⟩ := h
  refine wX3_likeliestPair_9 l D cI cJ cC G a_w p1 p1 w_space w_beam w_door w_law w_used w_pipes w_drilled w_total w_open w_pipeInches w_pipeChances w_weights w_woods w_sums _ S hK hDD hA hE (fun x2_3 x3_4 x5_5 H locs ls h hP hS hl => ?_) n_2 (0 : Int32) (-1 : Int64) (0 : Int32) _ _ _ h hP hS (lv_sub hl [3, 4, 2, 1, 0] rfl)
  try dsimp only at h
  refine lv_iload_n hx hb dX3_likeliestPair_49 rfl (lv_at hl 0 rfl) ?_
  exact hret x2_3 () _ _ _ _ rfl h hP hS dX3_likeliestPair_50
def wpJ9_floorMod_7cf53 (post : Int32 → Prop) (p0 : Int32) (p1 : Int32) : Prop := ¬ p1 = 0 ∧ ((((0 : Int32) ≤ (p0 ^^^ p1) → (post (p0 - p0 / p1 * p1))) ∧ (¬ ((0 : Int32) ≤ (p0 ^^^ p1)) → ((((p0 - p0 / p1 * p1) = (0 : Int32) → (post (p0 - p0 / p1 * p1))) ∧ (¬ ((p0 - p0 / p1 * p1) = (0 : Int32)) → (post ((p0 - p0 / p1 * p1) + p1))))))))
set_option maxHeartbeats 4000000 in
set_option maxRecDepth 100000 in
theorem mJ9_floorMod_7cf53 (l : Launch) (D : va_G) (cI cJ cC : ClassId) (G : Nat → Nat → Nat) (sz : Nat) (p0 : Int32) (p1 : Int32) (post : Int32 → Prop) (h : wpJ9_floorMod_7cf53 post p0 p1) : Met l yJ9_floorMod_7cf53 (wz yJ9_floorMod_7cf53 cJ9_floorMod_7cf53 3 (some .int)) ({ frames := 0, cells := 0, slots := 0, locals := 0 }) (va_Pc [.int p0, .int p1] (PW D (tz cI cJ cC) G ([]) sz)) (va_Qi (fun (r : Int32) (u : Unit) => post r ) (fun (u : Unit) t => va_P D vwCl ([]) t.heap) (va_A ([]) sz)) 0 0 (va_A ([]) sz) := by
  refine zmi (gw := fun (u : Unit) => []) (by decide +kernel) (Nat.le_of_ble_eq_true rfl) ?_
  intro p e s m below meth c A Q ls S hK hD hA hE hP hl hret
  obtain ⟨hx, hb, hml, hown, ht⟩ := id S
  have hS : va_S A s.heap s.heap [] := va_S.rf
  have hDD : ∀ ws : va_W, ws.map (fun q => q.1) = [] → va_D A ws := fun ws hw => zD hD (hw.trans rfl)
  have hl : lv_has ls 3 [(0, .int p0), (1, .int p1)] := hl
  unfold wpJ9_floorMod_7cf53 at h
  refine lv_iload_n hx hb dJ9_floorMod_7cf53_0 rfl (lv_at hl 0 rfl) ?_
  refine lv_iload_n hx hb dJ9_floorMod_7cf53_1 rfl (lv_at hl 1 rfl) ?_
  obtain ⟨hne, h⟩ := h
  refine lv_irem hx hb dJ9_floorMod_7cf53_2 hne ?_
  refine lv_istore_n (lv' := [(2, .int (p0 - p0 / p1 * p1)), (0, .int p0), (1, .int p1)]) hx hb dJ9_floorMod_7cf53_3 rfl hl (by decide) rfl (fun ls hl => ?_)
  refine lv_iload_n hx hb dJ9_floorMod_7cf53_4 rfl (lv_at hl 1 rfl) ?_
  refine lv_iload_n hx hb dJ9_floorMod_7cf53_5 rfl (lv_at hl 2 rfl) ?_
  refine lv_ixor hx hb dJ9_floorMod_7cf53_6 ?_
  refine lv_if_ge (tgt := 18) hx hb dJ9_floorMod_7cf53_7 (by decide) (fun z => ?_) (fun z => ?_)
  · replace h := h.1 z
    refine lv_iload_n hx hb dJ9_floorMod_7cf53_18 rfl (lv_at hl 0 rfl) ?_
    exact hret (p0 - p0 / p1 * p1) () _ _ _ _ rfl h hP hS dJ9_floorMod_7cf53_19
  · replace h := h.2 z
    refine lv_iload_n hx hb dJ9_floorMod_7cf53_10 rfl (lv_at hl 0 rfl) ?_
    refine lv_if_eq (tgt := 18) hx hb dJ9_floorMod_7cf53_11 (by decide) (fun z => ?_) (fun z => ?_)
    · replace h := h.1 z
      refine lv_iload_n hx hb dJ9_floorMod_7cf53_18 rfl (lv_at hl 0 rfl) ?_
      exact hret (p0 - p0 / p1 * p1) () _ _ _ _ rfl h hP hS dJ9_floorMod_7cf53_19
    · replace h := h.2 z
      refine lv_iload_n hx hb dJ9_floorMod_7cf53_14 rfl (lv_at hl 0 rfl) ?_
      refine lv_iload_n hx hb dJ9_floorMod_7cf53_15 rfl (lv_at hl 2 rfl) ?_
      refine lv_iadd hx hb dJ9_floorMod_7cf53_16 ?_
      exact hret ((p0 - p0 / p1 * p1) + p1) () _ _ _ _ rfl h hP hS dJ9_floorMod_7cf53_17
def wpX4_modulo (post : Int32 → Prop) (p0 : Int32) (p1 : Int32) : Prop := (((1 : Int32) ≤ p1 → (wpJ9_floorMod_7cf53 (fun (r_1 : Int32) => post r_1) p0 p1)) ∧ (¬ ((1 : Int32) ≤ p1) → (post (0 : Int32))))
set_option maxHeartbeats 4000000 in
set_option maxRecDepth 100000 in
theorem mX4_modulo (l : Launch) (D : va_G) (cI cJ cC : ClassId) (G : Nat → Nat → Nat) (sz : Nat) (p0 : Int32) (p1 : Int32) (post : Int32 → Prop) (h : wpX4_modulo post p0 p1) : Met l yX4_modulo (wz yX4_modulo cX4_modulo 2 (some .int)) ({ frames := 1, cells := 0, slots := 0, locals := 22 }) (va_Pc [.int p0, .int p1] (PW D (tz cI cJ cC) G ([]) sz)) (va_Qi (fun (r : Int32) (u : Unit) => post r ) (fun (u : Unit) t => va_P D vwCl ([]) t.heap) (va_A ([]) sz)) 0 0 (va_A ([]) sz) := by
  refine zmi (gw := fun (u : Unit) => []) (plainFor_of_name (by decide)) (Nat.le_of_ble_eq_true rfl) ?_
  intro p e s m below meth c A Q ls S hK hD hA hE hP hl hret
  obtain ⟨hx, hb, hml, hown, ht⟩ := id S
  have hS : va_S A s.heap s.heap [] := va_S.rf
  have hDD : ∀ ws : va_W, ws.map (fun q => q.1) = [] → va_D A ws := fun ws hw => zD hD (hw.trans rfl)
  have hl : lv_has ls 2 [(0, .int p0), (1, .int p1)] := hl
  unfold wpX4_modulo at h
  refine lv_iload_n hx hb dX4_modulo_0 rfl (lv_at hl 1 rfl) ?_
  refine lv_iconst (v := (1 : Int32)) hx hb dX4_modulo_1 (by decide) ?_
  refine lv_icmp_ge (tgt := 9) hx hb dX4_modulo_2 (by decide) (fun z => ?_) (fun z => ?_)
  · replace h := h.1 z
    refine lv_iload_n hx hb dX4_modulo_9 rfl (lv_at hl 0 rfl) ?_
    refine lv_iload_n hx hb dX4_modulo_10 rfl (lv_at hl 1 rfl) ?_
    refine zci hA (hDD _ rfl) hS (zrunS (As := [.int p0, .int p1]) (rest := []) S hK hA hE hP (hDD _ rfl) hS (mJ9_floorMod_7cf53 l D cI cJ cC G _ p0 p1 _ h) kJ9_floorMod_7cf53 ml_X4_272 ⟨rfl, rfl, by decide, by decide⟩ rfl hl.1 rfl (Nat.le_of_ble_eq_true rfl) dX4_modulo_11 ⟨Nat.zero_le _, Nat.zero_le _⟩) (fun r_1 u H locs h hP1 hk1 hS => ?_)
    try dsimp only at h
    have hP : va_P D vwCl ([]) H := hP1
    exact hret r_1 () _ _ _ _ rfl h hP hS dX4_modulo_14
  · replace h := h.2 z
    refine lv_iconst (v := (0 : Int32)) hx hb dX4_modulo_5 (by decide) ?_
    refine lv_goto (tgt := 14) hx hb dX4_modulo_6 (by decide) ?_
    exact hret (0 : Int32) () _ _ _ _ rfl h hP hS dX4_modulo_14
def lpX3_tillWood_5 (K : Int32 → Int32 → Prop) (x2 : Int32) (w_beam : Int32) (w_woods : Nat → Int32) : Nat → Int32 → Int32 → Prop
  | 0, _, _ => False
  | n + 1, x3, x4 => (((48 : Int32) < x4 → (K x3 x4)) ∧ (¬ ((48 : Int32) < x4) → (wpX3_hasWood (fun (r_1 : Int32) => ((r_1 = (0 : Int32) → (wpX4_modulo (fun (r_2 : Int32) => lpX3_tillWood_5 K x2 w_beam w_woods n r_2 (x4 + (1 : Int32))) (x3 + w_beam) (48 : Int32))) ∧ (¬ (r_1 = (0 : Int32)) → (K x3 x4)))) w_woods x3 x2)))
set_option maxHeartbeats 4000000 in
set_option maxRecDepth 100000 in
theorem wX3_tillWood_5 (l : Launch) (D : va_G) (cI cJ cC : ClassId) (G : Nat → Nat → Nat) (a_w : Nat → Nat) {p : Program} {e : Env} {s : State} {m : MethodId} {below : List Frame} {meth : Method} {c : Code} {A : Nat → Prop} {Q : State → Prop} (p1 : Int32) (p2 : Int32) (x2 : Int32) (w_space : Int32) (w_beam : Int32) (w_door : Int32) (w_law : Int32) (w_used : Int32) (w_pipes : Int32) (w_drilled : Int64) (w_total : Int64) (w_open : Int32) (w_pipeInches : Nat → Int32) (w_pipeChances : Nat → Int32) (w_weights : Nat → Int64) (w_woods : Nat → Int32) (w_sums : Nat → Int64) (K : Int32 → Int32 → Prop) (S : CallFix p m c cX3_tillWood 5 s ([.ref (a_w 0), .int p1, .int p2] : List Value).toArray bg RX3) (hK : va_K D vwCl (tz cI cJ cC) s) (hDD : ∀ ws : va_W, ws.map (fun q => q.1) = [a_w 0, a_w 1, a_w 2, a_w 3, a_w 4, a_w 5] → va_D A ws) (hA : ∀ q, s.heap.size ≤ q → A q) (hE : EV G A s) (hKK : ∀ (x3 : Int32) (x4 : Int32) (H : Heap) (locs : List Loc) (ls : Array Slot), K x3 x4 → va_P D vwCl ((bX3 cI cJ cC a_w w_space w_beam w_door w_law w_used w_pipes w_drilled w_total w_open w_pipeInches w_pipeChances w_weights w_woods w_sums)) H → va_S A s.heap H locs → lv_has ls 5 [(4, .int x4)] → W p l e ({ frames := 2, cells := 0, slots := 0, locals := 43 }) s m ([.ref (a_w 0), .int p1, .int p2] : List Value).toArray below meth c H locs 0 0 Q (F0 m 39 ls [])) :
    ∀ (n : Nat) (x3 : Int32) (x4 : Int32) (H : Heap) (locs : List Loc) (ls : Array Slot), lpX3_tillWood_5 K x2 w_beam w_woods n x3 x4 → va_P D vwCl ((bX3 cI cJ cC a_w w_space w_beam w_door w_law w_used w_pipes w_drilled w_total w_open w_pipeInches w_pipeChances w_weights w_woods w_sums)) H → va_S A s.heap H locs → lv_has ls 5 [(0, .ref (a_w 0)), (2, .int x2), (3, .int x3), (4, .int x4)] → W p l e ({ frames := 2, cells := 0, slots := 0, locals := 43 }) s m ([.ref (a_w 0), .int p1, .int p2] : List Value).toArray below meth c H locs 0 0 Q (F0 m 5 ls []) := by
  obtain ⟨hx, hb, hml, hown, ht⟩ := id S
  intro n
  induction n with
  | zero =>
    intro x3 x4 H locs ls h
    exact absurd h (by simp [lpX3_tillWood_5])
  | succ n ih =>
    intro x3 x4 H locs ls h hP hS hl
    rw [lpX3_tillWood_5] at h
    refine lv_iload hx hb dX3_tillWood_5 (lv_at hl 3 rfl) ?_
    refine lv_bipush (v := (48 : Int32)) hx hb dX3_tillWood_7 (by decide) ?_
    refine lv_icmp_gt (tgt := 39) hx hb dX3_tillWood_9 (by decide) (fun z => ?_) (fun z => ?_)
    · replace h := h.1 z
      exact hKK x3 x4 _ _ _ h hP hS (lv_sub hl [3] rfl)
    · replace h := h.2 z
      refine lv_aload_n hx hb dX3_tillWood_12 rfl (lv_at hl 0 rfl) ?_
      refine lv_iload_n hx hb dX3_tillWood_13 rfl (lv_at hl 2 rfl) ?_
      refine lv_iload_n hx hb dX3_tillWood_14 rfl (lv_at hl 1 rfl) ?_
      refine zci hA (hDD _ rfl) hS (zrunV (As := [.int x3, .int x2]) (rest := []) S hK hA hE hP (hDD _ rfl) hS (mX3_hasWood l D cI cJ cC G a_w _ w_space w_beam w_door w_law w_used w_pipes w_drilled w_total w_open w_pipeInches w_pipeChances w_weights w_woods w_sums x3 x2 _ h) kX3_hasWood ml_X3_95 ⟨rfl, rfl, by decide, by decide⟩ (q0 := 0) (ci := 3) rfl rfl rfl rfl hl.1 rfl (Nat.le_of_ble_eq_true rfl) dX3_tillWood_15 ⟨Nat.zero_le _, Nat.zero_le _⟩) (fun r_1 u H locs h hP1 hk1 hS => ?_)
      try dsimp only at h
      have hP : va_P D vwCl ((bX3 cI cJ cC a_w w_space w_beam w_door w_law w_used w_pipes w_drilled w_total w_open w_pipeInches w_pipeChances w_weights w_woods w_sums)) H := hP1
      refine lv_if_ne (tgt := 39) hx hb dX3_tillWood_18 (by decide) (fun z => ?_) (fun z => ?_)
      · replace h := h.2 z
        exact hKK x3 x4 _ _ _ h hP hS (lv_sub hl [3] rfl)
      · replace h := h.1 z
        refine lv_iload_n hx hb dX3_tillWood_21 rfl (lv_at hl 2 rfl) ?_
        refine lv_aload_n hx hb dX3_tillWood_22 rfl (lv_at hl 0 rfl) ?_
        refine va_get (D := D) (ci := 3) (v := .int w_beam) (C := RX3) (T := TX3) (N := 14) hx hb ht inX3 hown hK hP 0 rfl rfl 1 (by decide) (ht _ fl_X3_15) (fun _ h9 => h9) rfl dX3_tillWood_23 ?_
        refine lv_iadd hx hb dX3_tillWood_26 ?_
        refine lv_bipush (v := (48 : Int32)) hx hb dX3_tillWood_27 (by decide) ?_
        refine zci hA zD0 hS (zrunN (As := [.int (x3 + w_beam), .int (48 : Int32)]) (rest := []) S hK hA hE zP0 zD0 hS (mX4_modulo l D cI cJ cC G _ (x3 + w_beam) (48 : Int32) _ h) kX4_modulo 9 rfl ⟨rfl, rfl, by decide, by decide⟩ rfl hl.1 rfl (Nat.le_of_ble_eq_true rfl) dX3_tillWood_29 ⟨Nat.zero_le _, Nat.zero_le _⟩) (fun r_2 u H locs h hP1 hk1 hS => ?_)
        try dsimp only at h
        have hP : va_P D vwCl ((bX3 cI cJ cC a_w w_space w_beam w_door w_law w_used w_pipes w_drilled w_total w_open w_pipeInches w_pipeChances w_weights w_woods w_sums)) H := zKeep hP hk1
        refine lv_istore_n (lv' := [(3, .int r_2), (0, .ref (a_w 0)), (2, .int x2), (4, .int x4)]) hx hb dX3_tillWood_32 rfl hl (by decide) rfl (fun ls hl => ?_)
        refine lv_iinc (v := x4 + (1 : Int32)) (lv' := [(4, .int (x4 + (1 : Int32))), (3, .int r_2), (0, .ref (a_w 0)), (2, .int x2)]) hx hb dX3_tillWood_33 hl (k := 3) rfl (by rfl) (by decide) rfl (fun ls hl => ?_)
        refine lv_goto (tgt := 5) hx hb dX3_tillWood_36 (by decide) ?_
        exact ih r_2 (x4 + (1 : Int32)) _ _ _ h hP hS (lv_sub hl [2, 3, 1, 0] rfl)
def wpX3_tillWood (post : Int32 → Prop) (w_beam : Int32) (w_woods : Nat → Int32) (p1 : Int32) (p2 : Int32) : Prop := ∃ n_3 : Nat, lpX3_tillWood_5 (fun (x3_4 : Int32) (x4_5 : Int32) => post x4_5) p2 w_beam w_woods n_3 p1 (1 : Int32)
set_option maxHeartbeats 4000000 in
set_option maxRecDepth 100000 in
theorem mX3_tillWood (l : Launch) (D : va_G) (cI cJ cC : ClassId) (G : Nat → Nat → Nat) (a_w : Nat → Nat) (sz : Nat) (w_space : Int32) (w_beam : Int32) (w_door : Int32) (w_law : Int32) (w_used : Int32) (w_pipes : Int32) (w_drilled : Int64) (w_total : Int64) (w_open : Int32) (w_pipeInches : Nat → Int32) (w_pipeChances : Nat → Int32) (w_weights : Nat → Int64) (w_woods : Nat → Int32) (w_sums : Nat → Int64) (p1 : Int32) (p2 : Int32) (post : Int32 → Prop) (h : wpX3_tillWood post w_beam w_woods p1 p2) : Met l yX3_tillWood (wz yX3_tillWood cX3_tillWood 5 (some .int)) ({ frames := 2, cells := 0, slots := 0, locals := 43 }) (va_Pc [.ref (a_w 0), .int p1, .int p2] (PW D (tz cI cJ cC) G ((bX3 cI cJ cC a_w w_space w_beam w_door w_law w_used w_pipes w_drilled w_total w_open w_pipeInches w_pipeChances w_weights w_woods w_sums)) sz)) (va_Qi (fun (r : Int32) (u : Unit) => post r ) (fun (u : Unit) t => va_P D vwCl ((bX3 cI cJ cC a_w w_space w_beam w_door w_law w_used w_pipes w_drilled w_total w_open w_pipeInches w_pipeChances w_weights w_woods w_sums)) t.heap) (va_A ((bX3 cI cJ cC a_w w_space w_beam w_door w_law w_used w_pipes w_drilled w_total w_open w_pipeInches w_pipeChances w_weights w_woods w_sums)) sz)) 0 0 (va_A ((bX3 cI cJ cC a_w w_space w_beam w_door w_law w_used w_pipes w_drilled w_total w_open w_pipeInches w_pipeChances w_weights w_woods w_sums)) sz) := by
  refine zmi (gw := fun (u : Unit) => (bX3 cI cJ cC a_w w_space w_beam w_door w_law w_used w_pipes w_drilled w_total w_open w_pipeInches w_pipeChances w_weights w_woods w_sums)) (plainFor_of_name (by decide)) (Nat.le_of_ble_eq_true rfl) ?_
  intro p e s m below meth c A Q ls S hK hD hA hE hP hl hret
  obtain ⟨hx, hb, hml, hown, ht⟩ := id S
  have hS : va_S A s.heap s.heap [] := va_S.rf
  have hDD : ∀ ws : va_W, ws.map (fun q => q.1) = [a_w 0, a_w 1, a_w 2, a_w 3, a_w 4, a_w 5] → va_D A ws := fun ws hw => zD hD (hw.trans rfl)
  have hl : lv_has ls 5 [(0, .ref (a_w 0)), (1, .int p1), (2, .int p2)] := hl
  unfold wpX3_tillWood at h
  refine lv_iload_n hx hb dX3_tillWood_0 rfl (lv_at hl 1 rfl) ?_
  refine lv_istore_n (lv' := [(3, .int p1), (0, .ref (a_w 0)), (1, .int p1), (2, .int p2)]) hx hb dX3_tillWood_1 rfl hl (by decide) rfl (fun ls hl => ?_)
  refine lv_iconst (v := (1 : Int32)) hx hb dX3_tillWood_2 (by decide) ?_
  refine lv_istore (lv' := [(4, .int (1 : Int32)), (3, .int p1), (0, .ref (a_w 0)), (1, .int p1), (2, .int p2)]) hx hb dX3_tillWood_3 hl (by decide) rfl (fun ls hl => ?_)
  obtain ⟨n_3, h⟩ := h
  refine wX3_tillWood_5 l D cI cJ cC G a_w p1 p2 p2 w_space w_beam w_door w_law w_used w_pipes w_drilled w_total w_open w_pipeInches w_pipeChances w_weights w_woods w_sums _ S hK hDD hA hE (fun x3_4 x4_5 H locs ls h hP hS hl => ?_) n_3 p1 (1 : Int32) _ _ _ h hP hS (lv_sub hl [2, 4, 1, 0] rfl)
  try dsimp only at h
  refine lv_iload hx hb dX3_tillWood_39 (lv_at hl 0 rfl) ?_
  exact hret x4_5 () _ _ _ _ rfl h hP hS dX3_tillWood_41
def wpJ9_max_7cf53 (post : Int32 → Prop) (p0 : Int32) (p1 : Int32) : Prop := ((p0 < p1 → (post p1)) ∧ (¬ (p0 < p1) → (post p0)))
set_option maxHeartbeats 4000000 in
set_option maxRecDepth 100000 in
theorem mJ9_max_7cf53 (l : Launch) (D : va_G) (cI cJ cC : ClassId) (G : Nat → Nat → Nat) (sz : Nat) (p0 : Int32) (p1 : Int32) (post : Int32 → Prop) (h : wpJ9_max_7cf53 post p0 p1) : Met l yJ9_max_7cf53 (wz yJ9_max_7cf53 cJ9_max_7cf53 2 (some .int)) ({ frames := 0, cells := 0, slots := 0, locals := 0 }) (va_Pc [.int p0, .int p1] (PW D (tz cI cJ cC) G ([]) sz)) (va_Qi (fun (r : Int32) (u : Unit) => post r ) (fun (u : Unit) t => va_P D vwCl ([]) t.heap) (va_A ([]) sz)) 0 0 (va_A ([]) sz) := by
  refine zmi (gw := fun (u : Unit) => []) (by decide +kernel) (Nat.le_of_ble_eq_true rfl) ?_
  intro p e s m below meth c A Q ls S hK hD hA hE hP hl hret
  obtain ⟨hx, hb, hml, hown, ht⟩ := id S
  have hS : va_S A s.heap s.heap [] := va_S.rf
  have hDD : ∀ ws : va_W, ws.map (fun q => q.1) = [] → va_D A ws := fun ws hw => zD hD (hw.trans rfl)
  have hl : lv_has ls 2 [(0, .int p0), (1, .int p1)] := hl
  unfold wpJ9_max_7cf53 at h
  refine lv_iload_n hx hb dJ9_max_7cf53_0 rfl (lv_at hl 0 rfl) ?_
  refine lv_iload_n hx hb dJ9_max_7cf53_1 rfl (lv_at hl 1 rfl) ?_
  refine lv_icmp_lt (tgt := 9) hx hb dJ9_max_7cf53_2 (by decide) (fun z => ?_) (fun z => ?_)
  · replace h := h.1 z
    refine lv_iload_n hx hb dJ9_max_7cf53_9 rfl (lv_at hl 1 rfl) ?_
    exact hret p1 () _ _ _ _ rfl h hP hS dJ9_max_7cf53_10
  · replace h := h.2 z
    refine lv_iload_n hx hb dJ9_max_7cf53_5 rfl (lv_at hl 0 rfl) ?_
    refine lv_goto (tgt := 10) hx hb dJ9_max_7cf53_6 (by decide) ?_
    exact hret p0 () _ _ _ _ rfl h hP hS dJ9_max_7cf53_10
def lpX3_worstTillWood_4 (K : Int32 → Int32 → Prop) (x1 : Int32) (w_beam : Int32) (w_weights : Nat → Int64) (w_woods : Nat → Int32) : Nat → Int32 → Int32 → Prop
  | 0, _, _ => False
  | n + 1, x2, x3 => (((24 : Int32) ≤ x3 → (K x2 x3)) ∧ (¬ ((24 : Int32) ≤ x3) → (vp_in x3 24 ∧ ((((w_weights x3.toNatClampNeg) ≤ (0 : Int64) → (lpX3_worstTillWood_4 K x1 w_beam w_weights w_woods n x2 (x3 + (1 : Int32)))) ∧ (¬ ((w_weights x3.toNatClampNeg) ≤ (0 : Int64)) → (wpX3_tillWood (fun (r_1 : Int32) => wpJ9_max_7cf53 (fun (r_2 : Int32) => lpX3_worstTillWood_4 K x1 w_beam w_weights w_woods n r_2 (x3 + (1 : Int32))) x2 r_1) w_beam w_woods x1 x3)))))))
set_option maxHeartbeats 4000000 in
set_option maxRecDepth 100000 in
theorem wX3_worstTillWood_4 (l : Launch) (D : va_G) (cI cJ cC : ClassId) (G : Nat → Nat → Nat) (a_w : Nat → Nat) {p : Program} {e : Env} {s : State} {m : MethodId} {below : List Frame} {meth : Method} {c : Code} {A : Nat → Prop} {Q : State → Prop} (p1 : Int32) (x1 : Int32) (w_space : Int32) (w_beam : Int32) (w_door : Int32) (w_law : Int32) (w_used : Int32) (w_pipes : Int32) (w_drilled : Int64) (w_total : Int64) (w_open : Int32) (w_pipeInches : Nat → Int32) (w_pipeChances : Nat → Int32) (w_weights : Nat → Int64) (w_woods : Nat → Int32) (w_sums : Nat → Int64) (K : Int32 → Int32 → Prop) (S : CallFix p m c cX3_worstTillWood 4 s ([.ref (a_w 0), .int p1] : List Value).toArray bg RX3) (hK : va_K D vwCl (tz cI cJ cC) s) (hDD : ∀ ws : va_W, ws.map (fun q => q.1) = [a_w 0, a_w 1, a_w 2, a_w 3, a_w 4, a_w 5] → va_D A ws) (hA : ∀ q, s.heap.size ≤ q → A q) (hE : EV G A s) (hKK : ∀ (x2 : Int32) (x3 : Int32) (H : Heap) (locs : List Loc) (ls : Array Slot), K x2 x3 → va_P D vwCl ((bX3 cI cJ cC a_w w_space w_beam w_door w_law w_used w_pipes w_drilled w_total w_open w_pipeInches w_pipeChances w_weights w_woods w_sums)) H → va_S A s.heap H locs → lv_has ls 4 [(2, .int x2)] → W p l e ({ frames := 3, cells := 0, slots := 0, locals := 67 }) s m ([.ref (a_w 0), .int p1] : List Value).toArray below meth c H locs 0 0 Q (F0 m 38 ls [])) :
    ∀ (n : Nat) (x2 : Int32) (x3 : Int32) (H : Heap) (locs : List Loc) (ls : Array Slot), lpX3_worstTillWood_4 K x1 w_beam w_weights w_woods n x2 x3 → va_P D vwCl ((bX3 cI cJ cC a_w w_space w_beam w_door w_law w_used w_pipes w_drilled w_total w_open w_pipeInches w_pipeChances w_weights w_woods w_sums)) H → va_S A s.heap H locs → lv_has ls 4 [(0, .ref (a_w 0)), (1, .int x1), (2, .int x2), (3, .int x3)] → W p l e ({ frames := 3, cells := 0, slots := 0, locals := 67 }) s m ([.ref (a_w 0), .int p1] : List Value).toArray below meth c H locs 0 0 Q (F0 m 4 ls []) := by
  obtain ⟨hx, hb, hml, hown, ht⟩ := id S
  intro n
  induction n with
  | zero =>
    intro x2 x3 H locs ls h
    exact absurd h (by simp [lpX3_worstTillWood_4])
  | succ n ih =>
    intro x2 x3 H locs ls h hP hS hl
    rw [lpX3_worstTillWood_4] at h
    refine lv_iload_n hx hb dX3_worstTillWood_4 rfl (lv_at hl 3 rfl) ?_
    refine lv_bipush (v := (24 : Int32)) hx hb dX3_worstTillWood_5 (by decide) ?_
    refine lv_icmp_ge (tgt := 38) hx hb dX3_worstTillWood_7 (by decide) (fun z => ?_) (fun z => ?_)
    · replace h := h.1 z
      exact hKK x2 x3 _ _ _ h hP hS (lv_sub hl [2] rfl)
    · replace h := h.2 z
      refine lv_aload_n hx hb dX3_worstTillWood_10 rfl (lv_at hl 0 rfl) ?_
      refine va_get (D := D) (ci := 3) (v := .ref (a_w 3)) (C := RX3) (T := TX3) (N := 14) hx hb ht inX3 hown hK hP 0 rfl rfl 9 (by decide) (ht _ fl_X3_41) (fun _ h9 => h9) rfl dX3_worstTillWood_11 ?_
      refine lv_iload_n hx hb dX3_worstTillWood_14 rfl (lv_at hl 3 rfl) ?_
      obtain ⟨hin, h⟩ := h
      refine va_lald hx hb hK hP 3 1 rfl rfl hin dX3_worstTillWood_15 ?_
      refine lv_lconst (v := (0 : Int64)) hx hb dX3_worstTillWood_16 (by decide) ?_
      refine W.lcmp hx hb dX3_worstTillWood_17 ?_
      refine lv_if_le (tgt := 32) hx hb dX3_worstTillWood_18 (by decide) (fun z => ?_) (fun z => ?_)
      · replace h := h.1 (zl_le.mp z)
        refine lv_iinc (v := x3 + (1 : Int32)) (lv' := [(3, .int (x3 + (1 : Int32))), (0, .ref (a_w 0)), (1, .int x1), (2, .int x2)]) hx hb dX3_worstTillWood_32 hl (k := 3) rfl (by rfl) (by decide) rfl (fun ls hl => ?_)
        refine lv_goto (tgt := 4) hx hb dX3_worstTillWood_35 (by decide) ?_
        exact ih x2 (x3 + (1 : Int32)) _ _ _ h hP hS (lv_sub hl [1, 2, 3, 0] rfl)
      · replace h := h.2 (fun q => z (zl_le.mpr q))
        refine lv_iload_n hx hb dX3_worstTillWood_21 rfl (lv_at hl 2 rfl) ?_
        refine lv_aload_n hx hb dX3_worstTillWood_22 rfl (lv_at hl 0 rfl) ?_
        refine lv_iload_n hx hb dX3_worstTillWood_23 rfl (lv_at hl 1 rfl) ?_
        refine lv_iload_n hx hb dX3_worstTillWood_24 rfl (lv_at hl 3 rfl) ?_
        refine zci hA (hDD _ rfl) hS (zrunV (As := [.int x1, .int x3]) (rest := [.int x2]) S hK hA hE hP (hDD _ rfl) hS (mX3_tillWood l D cI cJ cC G a_w _ w_space w_beam w_door w_law w_used w_pipes w_drilled w_total w_open w_pipeInches w_pipeChances w_weights w_woods w_sums x1 x3 _ h) kX3_tillWood ml_X3_145 ⟨rfl, rfl, by decide, by decide⟩ (q0 := 0) (ci := 3) rfl rfl rfl rfl hl.1 rfl (Nat.le_of_ble_eq_true rfl) dX3_worstTillWood_25 ⟨Nat.zero_le _, Nat.zero_le _⟩) (fun r_1 u H locs h hP1 hk1 hS => ?_)
        try dsimp only at h
        have hP : va_P D vwCl ((bX3 cI cJ cC a_w w_space w_beam w_door w_law w_used w_pipes w_drilled w_total w_open w_pipeInches w_pipeChances w_weights w_woods w_sums)) H := hP1
        refine zci hA zD0 hS (zrunS (As := [.int x2, .int r_1]) (rest := []) S hK hA hE zP0 zD0 hS (mJ9_max_7cf53 l D cI cJ cC G _ x2 r_1 _ h) kJ9_max_7cf53 ml_X3_148 ⟨rfl, rfl, by decide, by decide⟩ rfl hl.1 rfl (Nat.le_of_ble_eq_true rfl) dX3_worstTillWood_28 ⟨Nat.zero_le _, Nat.zero_le _⟩) (fun r_2 u H locs h hP1 hk1 hS => ?_)
        try dsimp only at h
        have hP : va_P D vwCl ((bX3 cI cJ cC a_w w_space w_beam w_door w_law w_used w_pipes w_drilled w_total w_open w_pipeInches w_pipeChances w_weights w_woods w_sums)) H := zKeep hP hk1
        refine lv_istore_n (lv' := [(2, .int r_2), (0, .ref (a_w 0)), (1, .int x1), (3, .int x3)]) hx hb dX3_worstTillWood_31 rfl hl (by decide) rfl (fun ls hl => ?_)
        refine lv_iinc (v := x3 + (1 : Int32)) (lv' := [(3, .int (x3 + (1 : Int32))), (2, .int r_2), (0, .ref (a_w 0)), (1, .int x1)]) hx hb dX3_worstTillWood_32 hl (k := 3) rfl (by rfl) (by decide) rfl (fun ls hl => ?_)
        refine lv_goto (tgt := 4) hx hb dX3_worstTillWood_35 (by decide) ?_
        exact ih r_2 (x3 + (1 : Int32)) _ _ _ h hP hS (lv_sub hl [2, 3, 1, 0] rfl)
def wpX3_worstTillWood (post : Int32 → Prop) (w_beam : Int32) (w_weights : Nat → Int64) (w_woods : Nat → Int32) (p1 : Int32) : Prop := ∃ n_3 : Nat, lpX3_worstTillWood_4 (fun (x2_4 : Int32) (x3_5 : Int32) => ((x2_4 ≤ (48 : Int32) → (post x2_4)) ∧ (¬ (x2_4 ≤ (48 : Int32)) → (post (-9 : Int32))))) p1 w_beam w_weights w_woods n_3 (0 : Int32) (0 : Int32)
set_option maxHeartbeats 4000000 in
set_option maxRecDepth 100000 in
theorem mX3_worstTillWood (l : Launch) (D : va_G) (cI cJ cC : ClassId) (G : Nat → Nat → Nat) (a_w : Nat → Nat) (sz : Nat) (w_space : Int32) (w_beam : Int32) (w_door : Int32) (w_law : Int32) (w_used : Int32) (w_pipes : Int32) (w_drilled : Int64) (w_total : Int64) (w_open : Int32) (w_pipeInches : Nat → Int32) (w_pipeChances : Nat → Int32) (w_weights : Nat → Int64) (w_woods : Nat → Int32) (w_sums : Nat → Int64) (p1 : Int32) (post : Int32 → Prop) (h : wpX3_worstTillWood post w_beam w_weights w_woods p1) : Met l yX3_worstTillWood (wz yX3_worstTillWood cX3_worstTillWood 4 (some .int)) ({ frames := 3, cells := 0, slots := 0, locals := 67 }) (va_Pc [.ref (a_w 0), .int p1] (PW D (tz cI cJ cC) G ((bX3 cI cJ cC a_w w_space w_beam w_door w_law w_used w_pipes w_drilled w_total w_open w_pipeInches w_pipeChances w_weights w_woods w_sums)) sz)) (va_Qi (fun (r : Int32) (u : Unit) => post r ) (fun (u : Unit) t => va_P D vwCl ((bX3 cI cJ cC a_w w_space w_beam w_door w_law w_used w_pipes w_drilled w_total w_open w_pipeInches w_pipeChances w_weights w_woods w_sums)) t.heap) (va_A ((bX3 cI cJ cC a_w w_space w_beam w_door w_law w_used w_pipes w_drilled w_total w_open w_pipeInches w_pipeChances w_weights w_woods w_sums)) sz)) 0 0 (va_A ((bX3 cI cJ cC a_w w_space w_beam w_door w_law w_used w_pipes w_drilled w_total w_open w_pipeInches w_pipeChances w_weights w_woods w_sums)) sz) := by
  refine zmi (gw := fun (u : Unit) => (bX3 cI cJ cC a_w w_space w_beam w_door w_law w_used w_pipes w_drilled w_total w_open w_pipeInches w_pipeChances w_weights w_woods w_sums)) (plainFor_of_name (by decide)) (Nat.le_of_ble_eq_true rfl) ?_
  intro p e s m below meth c A Q ls S hK hD hA hE hP hl hret
  obtain ⟨hx, hb, hml, hown, ht⟩ := id S
  have hS : va_S A s.heap s.heap [] := va_S.rf
  have hDD : ∀ ws : va_W, ws.map (fun q => q.1) = [a_w 0, a_w 1, a_w 2, a_w 3, a_w 4, a_w 5] → va_D A ws := fun ws hw => zD hD (hw.trans rfl)
  have hl : lv_has ls 4 [(0, .ref (a_w 0)), (1, .int p1)] := hl
  unfold wpX3_worstTillWood at h
  refine lv_iconst (v := (0 : Int32)) hx hb dX3_worstTillWood_0 (by decide) ?_
  refine lv_istore_n (lv' := [(2, .int (0 : Int32)), (0, .ref (a_w 0)), (1, .int p1)]) hx hb dX3_worstTillWood_1 rfl hl (by decide) rfl (fun ls hl => ?_)
  refine lv_iconst (v := (0 : Int32)) hx hb dX3_worstTillWood_2 (by decide) ?_
  refine lv_istore_n (lv' := [(3, .int (0 : Int32)), (2, .int (0 : Int32)), (0, .ref (a_w 0)), (1, .int p1)]) hx hb dX3_worstTillWood_3 rfl hl (by decide) rfl (fun ls hl => ?_)
  obtain ⟨n_3, h⟩ := h
  refine wX3_worstTillWood_4 l D cI cJ cC G a_w p1 p1 w_space w_beam w_door w_law w_used w_pipes w_drilled w_total w_open w_pipeInches w_pipeChances w_weights w_woods w_sums _ S hK hDD hA hE (fun x2_4 x3_5 H locs ls h hP hS hl => ?_) n_3 (0 : Int32) (0 : Int32) _ _ _ h hP hS (lv_sub hl [2, 3, 1, 0] rfl)
  try dsimp only at h
  refine lv_iload_n hx hb dX3_worstTillWood_38 rfl (lv_at hl 0 rfl) ?_
  refine lv_bipush (v := (48 : Int32)) hx hb dX3_worstTillWood_39 (by decide) ?_
  refine lv_icmp_le (tgt := 49) hx hb dX3_worstTillWood_41 (by decide) (fun z => ?_) (fun z => ?_)
  · replace h := h.1 z
    refine lv_iload_n hx hb dX3_worstTillWood_49 rfl (lv_at hl 0 rfl) ?_
    exact hret x2_4 () _ _ _ _ rfl h hP hS dX3_worstTillWood_50
  · replace h := h.2 z
    refine lv_bipush (v := (-9 : Int32)) hx hb dX3_worstTillWood_44 (by decide) ?_
    refine lv_goto (tgt := 50) hx hb dX3_worstTillWood_46 (by decide) ?_
    exact hret (-9 : Int32) () _ _ _ _ rfl h hP hS dX3_worstTillWood_50
def lpX3_allTillWood_5 (K : Int64 → Int32 → Prop) (x1 : Int32) (w_beam : Int32) (w_weights : Nat → Int64) (w_woods : Nat → Int32) : Nat → Int64 → Int32 → Prop
  | 0, _, _ => False
  | n + 1, x2, x4 => (((24 : Int32) ≤ x4 → (K x2 x4)) ∧ (¬ ((24 : Int32) ≤ x4) → (vp_in x4 24 ∧ ((((w_weights x4.toNatClampNeg) ≤ (0 : Int64) → (lpX3_allTillWood_5 K x1 w_beam w_weights w_woods n x2 (x4 + (1 : Int32)))) ∧ (¬ ((w_weights x4.toNatClampNeg) ≤ (0 : Int64)) → (vp_in x4 24 ∧ (wpX3_tillWood (fun (r_1 : Int32) => wpJ9_min_7cf53 (fun (r_2 : Int32) => lpX3_allTillWood_5 K x1 w_beam w_weights w_woods n (x2 + ((w_weights x4.toNatClampNeg) * r_2.toInt64)) (x4 + (1 : Int32))) r_1 (48 : Int32)) w_beam w_woods x1 x4))))))))
set_option maxHeartbeats 4000000 in
set_option maxRecDepth 100000 in
theorem wX3_allTillWood_5 (l : Launch) (D : va_G) (cI cJ cC : ClassId) (G : Nat → Nat → Nat) (a_w : Nat → Nat) {p : Program} {e : Env} {s : State} {m : MethodId} {below : List Frame} {meth : Method} {c : Code} {A : Nat → Prop} {Q : State → Prop} (p1 : Int32) (x1 : Int32) (w_space : Int32) (w_beam : Int32) (w_door : Int32) (w_law : Int32) (w_used : Int32) (w_pipes : Int32) (w_drilled : Int64) (w_total : Int64) (w_open : Int32) (w_pipeInches : Nat → Int32) (w_pipeChances : Nat → Int32) (w_weights : Nat → Int64) (w_woods : Nat → Int32) (w_sums : Nat → Int64) (K : Int64 → Int32 → Prop) (S : CallFix p m c cX3_allTillWood 5 s ([.ref (a_w 0), .int p1] : List Value).toArray bg RX3) (hK : va_K D vwCl (tz cI cJ cC) s) (hDD : ∀ ws : va_W, ws.map (fun q => q.1) = [a_w 0, a_w 1, a_w 2, a_w 3, a_w 4, a_w 5] → va_D A ws) (hA : ∀ q, s.heap.size ≤ q → A q) (hE : EV G A s) (hKK : ∀ (x2 : Int64) (x4 : Int32) (H : Heap) (locs : List Loc) (ls : Array Slot), K x2 x4 → va_P D vwCl ((bX3 cI cJ cC a_w w_space w_beam w_door w_law w_used w_pipes w_drilled w_total w_open w_pipeInches w_pipeChances w_weights w_woods w_sums)) H → va_S A s.heap H locs → lv_has ls 5 [(2, .long x2)] → W p l e ({ frames := 3, cells := 0, slots := 0, locals := 67 }) s m ([.ref (a_w 0), .int p1] : List Value).toArray below meth c H locs 0 0 Q (F0 m 54 ls [])) :
    ∀ (n : Nat) (x2 : Int64) (x4 : Int32) (H : Heap) (locs : List Loc) (ls : Array Slot), lpX3_allTillWood_5 K x1 w_beam w_weights w_woods n x2 x4 → va_P D vwCl ((bX3 cI cJ cC a_w w_space w_beam w_door w_law w_used w_pipes w_drilled w_total w_open w_pipeInches w_pipeChances w_weights w_woods w_sums)) H → va_S A s.heap H locs → lv_has ls 5 [(0, .ref (a_w 0)), (1, .int x1), (2, .long x2), (4, .int x4)] → W p l e ({ frames := 3, cells := 0, slots := 0, locals := 67 }) s m ([.ref (a_w 0), .int p1] : List Value).toArray below meth c H locs 0 0 Q (F0 m 5 ls []) := by
  obtain ⟨hx, hb, hml, hown, ht⟩ := id S
  intro n
  induction n with
  | zero =>
    intro x2 x4 H locs ls h
    exact absurd h (by simp [lpX3_allTillWood_5])
  | succ n ih =>
    intro x2 x4 H locs ls h hP hS hl
    rw [lpX3_allTillWood_5] at h
    refine lv_iload hx hb dX3_allTillWood_5 (lv_at hl 3 rfl) ?_
    refine lv_bipush (v := (24 : Int32)) hx hb dX3_allTillWood_7 (by decide) ?_
    refine lv_icmp_ge (tgt := 54) hx hb dX3_allTillWood_9 (by decide) (fun z => ?_) (fun z => ?_)
    · replace h := h.1 z
      exact hKK x2 x4 _ _ _ h hP hS (lv_sub hl [2] rfl)
    · replace h := h.2 z
      refine lv_aload_n hx hb dX3_allTillWood_12 rfl (lv_at hl 0 rfl) ?_
      refine va_get (D := D) (ci := 3) (v := .ref (a_w 3)) (C := RX3) (T := TX3) (N := 14) hx hb ht inX3 hown hK hP 0 rfl rfl 9 (by decide) (ht _ fl_X3_41) (fun _ h9 => h9) rfl dX3_allTillWood_13 ?_
      refine lv_iload hx hb dX3_allTillWood_16 (lv_at hl 3 rfl) ?_
      obtain ⟨hin, h⟩ := h
      refine va_lald hx hb hK hP 3 1 rfl rfl hin dX3_allTillWood_18 ?_
      refine lv_lconst (v := (0 : Int64)) hx hb dX3_allTillWood_19 (by decide) ?_
      refine W.lcmp hx hb dX3_allTillWood_20 ?_
      refine lv_if_le (tgt := 48) hx hb dX3_allTillWood_21 (by decide) (fun z => ?_) (fun z => ?_)
      · replace h := h.1 (zl_le.mp z)
        refine lv_iinc (v := x4 + (1 : Int32)) (lv' := [(4, .int (x4 + (1 : Int32))), (0, .ref (a_w 0)), (1, .int x1), (2, .long x2)]) hx hb dX3_allTillWood_48 hl (k := 3) rfl (by rfl) (by decide) rfl (fun ls hl => ?_)
        refine lv_goto (tgt := 5) hx hb dX3_allTillWood_51 (by decide) ?_
        exact ih x2 (x4 + (1 : Int32)) _ _ _ h hP hS (lv_sub hl [1, 2, 3, 0] rfl)
      · replace h := h.2 (fun q => z (zl_le.mpr q))
        refine lv_lload_n hx hb dX3_allTillWood_24 rfl (lv_at hl 2 rfl) ?_
        refine lv_aload_n hx hb dX3_allTillWood_25 rfl (lv_at hl 0 rfl) ?_
        refine va_get (D := D) (ci := 3) (v := .ref (a_w 3)) (C := RX3) (T := TX3) (N := 14) hx hb ht inX3 hown hK hP 0 rfl rfl 9 (by decide) (ht _ fl_X3_41) (fun _ h9 => h9) rfl dX3_allTillWood_26 ?_
        refine lv_iload hx hb dX3_allTillWood_29 (lv_at hl 3 rfl) ?_
        obtain ⟨hin, h⟩ := h
        refine va_lald hx hb hK hP 3 1 rfl rfl hin dX3_allTillWood_31 ?_
        refine lv_aload_n hx hb dX3_allTillWood_32 rfl (lv_at hl 0 rfl) ?_
        refine lv_iload_n hx hb dX3_allTillWood_33 rfl (lv_at hl 1 rfl) ?_
        refine lv_iload hx hb dX3_allTillWood_34 (lv_at hl 3 rfl) ?_
        refine zci hA (hDD _ rfl) hS (zrunV (As := [.int x1, .int x4]) (rest := [.long (w_weights x4.toNatClampNeg), .long x2]) S hK hA hE hP (hDD _ rfl) hS (mX3_tillWood l D cI cJ cC G a_w _ w_space w_beam w_door w_law w_used w_pipes w_drilled w_total w_open w_pipeInches w_pipeChances w_weights w_woods w_sums x1 x4 _ h) kX3_tillWood ml_X3_145 ⟨rfl, rfl, by decide, by decide⟩ (q0 := 0) (ci := 3) rfl rfl rfl rfl hl.1 rfl (Nat.le_of_ble_eq_true rfl) dX3_allTillWood_36 ⟨Nat.zero_le _, Nat.zero_le _⟩) (fun r_1 u H locs h hP1 hk1 hS => ?_)
        try dsimp only at h
        have hP : va_P D vwCl ((bX3 cI cJ cC a_w w_space w_beam w_door w_law w_used w_pipes w_drilled w_total w_open w_pipeInches w_pipeChances w_weights w_woods w_sums)) H := hP1
        refine lv_bipush (v := (48 : Int32)) hx hb dX3_allTillWood_39 (by decide) ?_
        refine zci hA zD0 hS (zrunS (As := [.int r_1, .int (48 : Int32)]) (rest := [.long (w_weights x4.toNatClampNeg), .long x2]) S hK hA hE zP0 zD0 hS (mJ9_min_7cf53 l D cI cJ cC G _ r_1 (48 : Int32) _ h) kJ9_min_7cf53 ml_X3_127 ⟨rfl, rfl, by decide, by decide⟩ rfl hl.1 rfl (Nat.le_of_ble_eq_true rfl) dX3_allTillWood_41 ⟨Nat.zero_le _, Nat.zero_le _⟩) (fun r_2 u H locs h hP1 hk1 hS => ?_)
        try dsimp only at h
        have hP : va_P D vwCl ((bX3 cI cJ cC a_w w_space w_beam w_door w_law w_used w_pipes w_drilled w_total w_open w_pipeInches w_pipeChances w_weights w_woods w_sums)) H := zKeep hP hk1
        refine lv_i2l hx hb dX3_allTillWood_44 rfl ?_
        refine lv_lmul hx hb dX3_allTillWood_45 ?_
        refine lv_ladd hx hb dX3_allTillWood_46 ?_
        refine lv_lstore_n (lv' := [(2, .long (x2 + ((w_weights x4.toNatClampNeg) * r_2.toInt64))), (0, .ref (a_w 0)), (1, .int x1), (4, .int x4)]) hx hb dX3_allTillWood_47 rfl hl (by decide) rfl (fun ls hl => ?_)
        refine lv_iinc (v := x4 + (1 : Int32)) (lv' := [(4, .int (x4 + (1 : Int32))), (2, .long (x2 + ((w_weights x4.toNatClampNeg) * r_2.toInt64))), (0, .ref (a_w 0)), (1, .int x1)]) hx hb dX3_allTillWood_48 hl (k := 3) rfl (by rfl) (by decide) rfl (fun ls hl => ?_)
        refine lv_goto (tgt := 5) hx hb dX3_allTillWood_51 (by decide) ?_
        exact ih (x2 + ((w_weights x4.toNatClampNeg) * r_2.toInt64)) (x4 + (1 : Int32)) _ _ _ h hP hS (lv_sub hl [2, 3, 1, 0] rfl)
def wpX3_allTillWood (post : Int64 → Prop) (w_beam : Int32) (w_weights : Nat → Int64) (w_woods : Nat → Int32) (p1 : Int32) : Prop := ∃ n_3 : Nat, lpX3_allTillWood_5 (fun (x2_4 : Int64) (x4_5 : Int32) => post x2_4) p1 w_beam w_weights w_woods n_3 (0 : Int64) (0 : Int32)
set_option maxHeartbeats 4000000 in
set_option maxRecDepth 100000 in
theorem mX3_allTillWood (l : Launch) (D : va_G) (cI cJ cC : ClassId) (G : Nat → Nat → Nat) (a_w : Nat → Nat) (sz : Nat) (w_space : Int32) (w_beam : Int32) (w_door : Int32) (w_law : Int32) (w_used : Int32) (w_pipes : Int32) (w_drilled : Int64) (w_total : Int64) (w_open : Int32) (w_pipeInches : Nat → Int32) (w_pipeChances : Nat → Int32) (w_weights : Nat → Int64) (w_woods : Nat → Int32) (w_sums : Nat → Int64) (p1 : Int32) (post : Int64 → Prop) (h : wpX3_allTillWood post w_beam w_weights w_woods p1) : Met l yX3_allTillWood (wz yX3_allTillWood cX3_allTillWood 5 (some .long)) ({ frames := 3, cells := 0, slots := 0, locals := 67 }) (va_Pc [.ref (a_w 0), .int p1] (PW D (tz cI cJ cC) G ((bX3 cI cJ cC a_w w_space w_beam w_door w_law w_used w_pipes w_drilled w_total w_open w_pipeInches w_pipeChances w_weights w_woods w_sums)) sz)) (va_Ql (fun (r : Int64) (u : Unit) => post r ) (fun (u : Unit) t => va_P D vwCl ((bX3 cI cJ cC a_w w_space w_beam w_door w_law w_used w_pipes w_drilled w_total w_open w_pipeInches w_pipeChances w_weights w_woods w_sums)) t.heap) (va_A ((bX3 cI cJ cC a_w w_space w_beam w_door w_law w_used w_pipes w_drilled w_total w_open w_pipeInches w_pipeChances w_weights w_woods w_sums)) sz)) 0 0 (va_A ((bX3 cI cJ cC a_w w_space w_beam w_door w_law w_used w_pipes w_drilled w_total w_open w_pipeInches w_pipeChances w_weights w_woods w_sums)) sz) := by
  refine zml (gw := fun (u : Unit) => (bX3 cI cJ cC a_w w_space w_beam w_door w_law w_used w_pipes w_drilled w_total w_open w_pipeInches w_pipeChances w_weights w_woods w_sums)) (plainFor_of_name (by decide)) (Nat.le_of_ble_eq_true rfl) ?_
  intro p e s m below meth c A Q ls S hK hD hA hE hP hl hret
  obtain ⟨hx, hb, hml, hown, ht⟩ := id S
  have hS : va_S A s.heap s.heap [] := va_S.rf
  have hDD : ∀ ws : va_W, ws.map (fun q => q.1) = [a_w 0, a_w 1, a_w 2, a_w 3, a_w 4, a_w 5] → va_D A ws := fun ws hw => zD hD (hw.trans rfl)
  have hl : lv_has ls 5 [(0, .ref (a_w 0)), (1, .int p1)] := hl
  unfold wpX3_allTillWood at h
  refine lv_lconst (v := (0 : Int64)) hx hb dX3_allTillWood_0 (by decide) ?_
  refine lv_lstore_n (lv' := [(2, .long (0 : Int64)), (0, .ref (a_w 0)), (1, .int p1)]) hx hb dX3_allTillWood_1 rfl hl (by decide) rfl (fun ls hl => ?_)
  refine lv_iconst (v := (0 : Int32)) hx hb dX3_allTillWood_2 (by decide) ?_
  refine lv_istore (lv' := [(4, .int (0 : Int32)), (2, .long (0 : Int64)), (0, .ref (a_w 0)), (1, .int p1)]) hx hb dX3_allTillWood_3 hl (by decide) rfl (fun ls hl => ?_)
  obtain ⟨n_3, h⟩ := h
  refine wX3_allTillWood_5 l D cI cJ cC G a_w p1 p1 w_space w_beam w_door w_law w_used w_pipes w_drilled w_total w_open w_pipeInches w_pipeChances w_weights w_woods w_sums _ S hK hDD hA hE (fun x2_4 x4_5 H locs ls h hP hS hl => ?_) n_3 (0 : Int64) (0 : Int32) _ _ _ h hP hS (lv_sub hl [2, 3, 1, 0] rfl)
  try dsimp only at h
  refine lv_lload_n hx hb dX3_allTillWood_54 rfl (lv_at hl 0 rfl) ?_
  exact hret x2_4 () _ _ _ _ h hP hS dX3_allTillWood_55
def wpJ6_bitCount_0f7a4 (post : Int32 → Prop) (p0 : Int32) : Prop := ∀ x0_1 : Int32, x0_1 = p0 - (((p0.toUInt32 >>> ((1 : Int32).toUInt32 &&& Int32.toUInt32 31)).toInt32) &&& (1431655765 : Int32)) → (∀ x0_2 : Int32, x0_2 = (x0_1 &&& (858993459 : Int32)) + (((x0_1.toUInt32 >>> ((2 : Int32).toUInt32 &&& Int32.toUInt32 31)).toInt32) &&& (858993459 : Int32)) → (∀ x0_3 : Int32, x0_3 = (x0_2 + ((x0_2.toUInt32 >>> ((4 : Int32).toUInt32 &&& Int32.toUInt32 31)).toInt32)) &&& (252645135 : Int32) → (∀ x0_4 : Int32, x0_4 = (x0_3 + ((x0_3.toUInt32 >>> ((8 : Int32).toUInt32 &&& Int32.toUInt32 31)).toInt32)) + (((x0_3 + ((x0_3.toUInt32 >>> ((8 : Int32).toUInt32 &&& Int32.toUInt32 31)).toInt32)).toUInt32 >>> ((16 : Int32).toUInt32 &&& Int32.toUInt32 31)).toInt32) → (post (x0_4 &&& (63 : Int32))))))
set_option maxHeartbeats 4000000 in
set_option maxRecDepth 100000 in
theorem mJ6_bitCount_0f7a4 (l : Launch) (D : va_G) (cI cJ cC : ClassId) (G : Nat → Nat → Nat) (sz : Nat) (p0 : Int32) (post : Int32 → Prop) (h : wpJ6_bitCount_0f7a4 post p0) : Met l yJ6_bitCount_0f7a4 (wz yJ6_bitCount_0f7a4 cJ6_bitCount_0f7a4 1 (some .int)) ({ frames := 0, cells := 0, slots := 0, locals := 0 }) (va_Pc [.int p0] (PW D (tz cI cJ cC) G ([]) sz)) (va_Qi (fun (r : Int32) (u : Unit) => post r ) (fun (u : Unit) t => va_P D vwCl ([]) t.heap) (va_A ([]) sz)) 0 0 (va_A ([]) sz) := by
  refine zmi (gw := fun (u : Unit) => []) (plainFor_of_name (by decide)) (Nat.le_of_ble_eq_true rfl) ?_
  intro p e s m below meth c A Q ls S hK hD hA hE hP hl hret
  obtain ⟨hx, hb, hml, hown, ht⟩ := id S
  have hS : va_S A s.heap s.heap [] := va_S.rf
  have hDD : ∀ ws : va_W, ws.map (fun q => q.1) = [] → va_D A ws := fun ws hw => zD hD (hw.trans rfl)
  have hl : lv_has ls 1 [(0, .int p0)] := hl
  unfold wpJ6_bitCount_0f7a4 at h
  refine lv_iload_n hx hb dJ6_bitCount_0f7a4_0 rfl (lv_at hl 0 rfl) ?_
  refine lv_iload_n hx hb dJ6_bitCount_0f7a4_1 rfl (lv_at hl 0 rfl) ?_
  refine lv_iconst (v := (1 : Int32)) hx hb dJ6_bitCount_0f7a4_2 (by decide) ?_
  refine lv_iushr hx hb dJ6_bitCount_0f7a4_3 rfl ?_
  refine lv_ldcw hx hb hown (ht _ kc_J6_265) dJ6_bitCount_0f7a4_4 ?_
  refine lv_iand hx hb dJ6_bitCount_0f7a4_7 ?_
  refine lv_isub hx hb dJ6_bitCount_0f7a4_8 ?_
  refine lv_topi (fun x0_1 ex0_1 => ?_)
  replace h := h x0_1 ex0_1
  refine lv_istore_n (lv' := [(0, .int x0_1)]) hx hb dJ6_bitCount_0f7a4_9 rfl hl (by decide) rfl (fun ls hl => ?_)
  refine lv_iload_n hx hb dJ6_bitCount_0f7a4_10 rfl (lv_at hl 0 rfl) ?_
  refine lv_ldcw hx hb hown (ht _ kc_J6_266) dJ6_bitCount_0f7a4_11 ?_
  refine lv_iand hx hb dJ6_bitCount_0f7a4_14 ?_
  refine lv_iload_n hx hb dJ6_bitCount_0f7a4_15 rfl (lv_at hl 0 rfl) ?_
  refine lv_iconst (v := (2 : Int32)) hx hb dJ6_bitCount_0f7a4_16 (by decide) ?_
  refine lv_iushr hx hb dJ6_bitCount_0f7a4_17 rfl ?_
  refine lv_ldcw hx hb hown (ht _ kc_J6_266) dJ6_bitCount_0f7a4_18 ?_
  refine lv_iand hx hb dJ6_bitCount_0f7a4_21 ?_
  refine lv_iadd hx hb dJ6_bitCount_0f7a4_22 ?_
  refine lv_topi (fun x0_2 ex0_2 => ?_)
  replace h := h x0_2 ex0_2
  refine lv_istore_n (lv' := [(0, .int x0_2)]) hx hb dJ6_bitCount_0f7a4_23 rfl hl (by decide) rfl (fun ls hl => ?_)
  refine lv_iload_n hx hb dJ6_bitCount_0f7a4_24 rfl (lv_at hl 0 rfl) ?_
  refine lv_iload_n hx hb dJ6_bitCount_0f7a4_25 rfl (lv_at hl 0 rfl) ?_
  refine lv_iconst (v := (4 : Int32)) hx hb dJ6_bitCount_0f7a4_26 (by decide) ?_
  refine lv_iushr hx hb dJ6_bitCount_0f7a4_27 rfl ?_
  refine lv_iadd hx hb dJ6_bitCount_0f7a4_28 ?_
  refine lv_ldcw hx hb hown (ht _ kc_J6_267) dJ6_bitCount_0f7a4_29 ?_
  refine lv_iand hx hb dJ6_bitCount_0f7a4_32 ?_
  refine lv_topi (fun x0_3 ex0_3 => ?_)
  replace h := h x0_3 ex0_3
  refine lv_istore_n (lv' := [(0, .int x0_3)]) hx hb dJ6_bitCount_0f7a4_33 rfl hl (by decide) rfl (fun ls hl => ?_)
  refine lv_iload_n hx hb dJ6_bitCount_0f7a4_34 rfl (lv_at hl 0 rfl) ?_
  refine lv_iload_n hx hb dJ6_bitCount_0f7a4_35 rfl (lv_at hl 0 rfl) ?_
  refine lv_bipush (v := (8 : Int32)) hx hb dJ6_bitCount_0f7a4_36 (by decide) ?_
  refine lv_iushr hx hb dJ6_bitCount_0f7a4_38 rfl ?_
  refine lv_iadd hx hb dJ6_bitCount_0f7a4_39 ?_
  refine lv_istore_n (lv' := [(0, .int (x0_3 + ((x0_3.toUInt32 >>> ((8 : Int32).toUInt32 &&& Int32.toUInt32 31)).toInt32)))]) hx hb dJ6_bitCount_0f7a4_40 rfl hl (by decide) rfl (fun ls hl => ?_)
  refine lv_iload_n hx hb dJ6_bitCount_0f7a4_41 rfl (lv_at hl 0 rfl) ?_
  refine lv_iload_n hx hb dJ6_bitCount_0f7a4_42 rfl (lv_at hl 0 rfl) ?_
  refine lv_bipush (v := (16 : Int32)) hx hb dJ6_bitCount_0f7a4_43 (by decide) ?_
  refine lv_iushr hx hb dJ6_bitCount_0f7a4_45 rfl ?_
  refine lv_iadd hx hb dJ6_bitCount_0f7a4_46 ?_
  refine lv_topi (fun x0_4 ex0_4 => ?_)
  replace h := h x0_4 ex0_4
  refine lv_istore_n (lv' := [(0, .int x0_4)]) hx hb dJ6_bitCount_0f7a4_47 rfl hl (by decide) rfl (fun ls hl => ?_)
  refine lv_iload_n hx hb dJ6_bitCount_0f7a4_48 rfl (lv_at hl 0 rfl) ?_
  refine lv_bipush (v := (63 : Int32)) hx hb dJ6_bitCount_0f7a4_49 (by decide) ?_
  refine lv_iand hx hb dJ6_bitCount_0f7a4_51 ?_
  exact hret (x0_4 &&& (63 : Int32)) () _ _ _ _ rfl h hP hS dJ6_bitCount_0f7a4_52
