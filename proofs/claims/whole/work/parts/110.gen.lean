def lpX3_inchOfMost_7 (K : Int32 → Int32 → Int32 → Prop) (x1 : Int32) (w_woods : Nat → Int32) : Nat → Int32 → Int32 → Int32 → Prop
  | 0, _, _, _ => False
  | n + 1, x2, x3, x4 => (((48 : Int32) ≤ x4 → (K x2 x3 x4)) ∧ (¬ ((48 : Int32) ≤ x4) → (vp_in x4 48 ∧ (wpJ6_bitCount_0f7a4 (fun (r_1 : Int32) => ((r_1 ≤ x3 → (lpX3_inchOfMost_7 K x1 w_woods n x2 x3 (x4 + (1 : Int32)))) ∧ (¬ (r_1 ≤ x3) → (lpX3_inchOfMost_7 K x1 w_woods n x4 r_1 (x4 + (1 : Int32)))))) ((w_woods x4.toNatClampNeg) &&& x1)))))
set_option maxHeartbeats 4000000 in
set_option maxRecDepth 100000 in
theorem wX3_inchOfMost_7 (l : Launch) (D : va_G) (cI cJ cC : ClassId) (G : Nat → Nat → Nat) (a_w : Nat → Nat) {p : Program} {e : Env} {s : State} {m : MethodId} {below : List Frame} {meth : Method} {c : Code} {A : Nat → Prop} {Q : State → Prop} (p1 : Int32) (x1 : Int32) (w_space : Int32) (w_beam : Int32) (w_door : Int32) (w_law : Int32) (w_used : Int32) (w_pipes : Int32) (w_drilled : Int64) (w_total : Int64) (w_open : Int32) (w_pipeInches : Nat → Int32) (w_pipeChances : Nat → Int32) (w_weights : Nat → Int64) (w_woods : Nat → Int32) (w_sums : Nat → Int64) (K : Int32 → Int32 → Int32 → Prop) (S : CallFix p m c cX3_inchOfMost 6 s ([.ref (a_w 0), .int p1] : List Value).toArray bg RX3) (hK : va_K D vwCl (tz cI cJ cC) s) (hDD : ∀ ws : va_W, ws.map (fun q => q.1) = [a_w 0, a_w 1, a_w 2, a_w 3, a_w 4, a_w 5] → va_D A ws) (hA : ∀ q, s.heap.size ≤ q → A q) (hE : EV G A s) (hKK : ∀ (x2 : Int32) (x3 : Int32) (x4 : Int32) (H : Heap) (locs : List Loc) (ls : Array Slot), K x2 x3 x4 → va_P D vwCl ((bX3 cI cJ cC a_w w_space w_beam w_door w_law w_used w_pipes w_drilled w_total w_open w_pipeInches w_pipeChances w_weights w_woods w_sums)) H → va_S A s.heap H locs → lv_has ls 6 [(2, .int x2)] → W p l e ({ frames := 1, cells := 0, slots := 0, locals := 20 }) s m ([.ref (a_w 0), .int p1] : List Value).toArray below meth c H locs 0 0 Q (F0 m 46 ls [])) :
    ∀ (n : Nat) (x2 : Int32) (x3 : Int32) (x4 : Int32) (H : Heap) (locs : List Loc) (ls : Array Slot), lpX3_inchOfMost_7 K x1 w_woods n x2 x3 x4 → va_P D vwCl ((bX3 cI cJ cC a_w w_space w_beam w_door w_law w_used w_pipes w_drilled w_total w_open w_pipeInches w_pipeChances w_weights w_woods w_sums)) H → va_S A s.heap H locs → lv_has ls 6 [(0, .ref (a_w 0)), (1, .int x1), (2, .int x2), (3, .int x3), (4, .int x4)] → W p l e ({ frames := 1, cells := 0, slots := 0, locals := 20 }) s m ([.ref (a_w 0), .int p1] : List Value).toArray below meth c H locs 0 0 Q (F0 m 7 ls []) := by
  obtain ⟨hx, hb, hml, hown, ht⟩ := id S
  intro n
  induction n with
  | zero =>
    intro x2 x3 x4 H locs ls h
    exact absurd h (by simp [lpX3_inchOfMost_7])
  | succ n ih =>
    intro x2 x3 x4 H locs ls h hP hS hl
    rw [lpX3_inchOfMost_7] at h
    refine lv_iload hx hb dX3_inchOfMost_7 (lv_at hl 4 rfl) ?_
    refine lv_bipush (v := (48 : Int32)) hx hb dX3_inchOfMost_9 (by decide) ?_
    refine lv_icmp_ge (tgt := 46) hx hb dX3_inchOfMost_11 (by decide) (fun z => ?_) (fun z => ?_)
    · replace h := h.1 z
      exact hKK x2 x3 x4 _ _ _ h hP hS (lv_sub hl [2] rfl)
    · replace h := h.2 z
      refine lv_aload_n hx hb dX3_inchOfMost_14 rfl (lv_at hl 0 rfl) ?_
      refine va_get (D := D) (ci := 3) (v := .ref (a_w 4)) (C := RX3) (T := TX3) (N := 14) hx hb ht inX3 hown hK hP 0 rfl rfl 10 (by decide) (ht _ fl_X3_45) (fun _ h9 => h9) rfl dX3_inchOfMost_15 ?_
      refine lv_iload hx hb dX3_inchOfMost_18 (lv_at hl 4 rfl) ?_
      obtain ⟨hin, h⟩ := h
      refine va_iald hx hb hK hP 4 0 rfl rfl hin dX3_inchOfMost_20 ?_
      refine lv_iload_n hx hb dX3_inchOfMost_21 rfl (lv_at hl 1 rfl) ?_
      refine lv_iand hx hb dX3_inchOfMost_22 ?_
      refine zci hA zD0 hS (zrunS (As := [.int ((w_woods x4.toNatClampNeg) &&& x1)]) (rest := []) S hK hA hE zP0 zD0 hS (mJ6_bitCount_0f7a4 l D cI cJ cC G _ ((w_woods x4.toNatClampNeg) &&& x1) _ h) kJ6_bitCount_0f7a4 ml_X3_154 ⟨rfl, rfl, by decide, by decide⟩ rfl hl.1 rfl (Nat.le_of_ble_eq_true rfl) dX3_inchOfMost_23 ⟨Nat.zero_le _, Nat.zero_le _⟩) (fun r_1 u H locs h hP1 hk1 hS => ?_)
      try dsimp only at h
      have hP : va_P D vwCl ((bX3 cI cJ cC a_w w_space w_beam w_door w_law w_used w_pipes w_drilled w_total w_open w_pipeInches w_pipeChances w_weights w_woods w_sums)) H := zKeep hP hk1
      refine lv_istore (lv' := [(5, .int r_1), (0, .ref (a_w 0)), (1, .int x1), (2, .int x2), (3, .int x3), (4, .int x4)]) hx hb dX3_inchOfMost_26 hl (by decide) rfl (fun ls hl => ?_)
      refine lv_iload hx hb dX3_inchOfMost_28 (lv_at hl 0 rfl) ?_
      refine lv_iload_n hx hb dX3_inchOfMost_30 rfl (lv_at hl 4 rfl) ?_
      refine lv_icmp_le (tgt := 40) hx hb dX3_inchOfMost_31 (by decide) (fun z => ?_) (fun z => ?_)
      · replace h := h.1 z
        refine lv_iinc (v := x4 + (1 : Int32)) (lv' := [(4, .int (x4 + (1 : Int32))), (5, .int r_1), (0, .ref (a_w 0)), (1, .int x1), (2, .int x2), (3, .int x3)]) hx hb dX3_inchOfMost_40 hl (k := 5) rfl (by rfl) (by decide) rfl (fun ls hl => ?_)
        refine lv_goto (tgt := 7) hx hb dX3_inchOfMost_43 (by decide) ?_
        exact ih x2 x3 (x4 + (1 : Int32)) _ _ _ h hP hS (lv_sub hl [2, 3, 4, 5, 0] rfl)
      · replace h := h.2 z
        refine lv_iload hx hb dX3_inchOfMost_34 (lv_at hl 5 rfl) ?_
        refine lv_istore_n (lv' := [(2, .int x4), (5, .int r_1), (0, .ref (a_w 0)), (1, .int x1), (3, .int x3), (4, .int x4)]) hx hb dX3_inchOfMost_36 rfl hl (by decide) rfl (fun ls hl => ?_)
        refine lv_iload hx hb dX3_inchOfMost_37 (lv_at hl 1 rfl) ?_
        refine lv_istore_n (lv' := [(3, .int r_1), (2, .int x4), (5, .int r_1), (0, .ref (a_w 0)), (1, .int x1), (4, .int x4)]) hx hb dX3_inchOfMost_39 rfl hl (by decide) rfl (fun ls hl => ?_)
        refine lv_iinc (v := x4 + (1 : Int32)) (lv' := [(4, .int (x4 + (1 : Int32))), (3, .int r_1), (2, .int x4), (5, .int r_1), (0, .ref (a_w 0)), (1, .int x1)]) hx hb dX3_inchOfMost_40 hl (k := 5) rfl (by rfl) (by decide) rfl (fun ls hl => ?_)
        refine lv_goto (tgt := 7) hx hb dX3_inchOfMost_43 (by decide) ?_
        exact ih x4 r_1 (x4 + (1 : Int32)) _ _ _ h hP hS (lv_sub hl [4, 5, 2, 1, 0] rfl)
def wpX3_inchOfMost (post : Int32 → Prop) (w_woods : Nat → Int32) (p1 : Int32) : Prop := ∃ n_2 : Nat, lpX3_inchOfMost_7 (fun (x2_3 : Int32) (x3_4 : Int32) (x4_5 : Int32) => post x2_3) p1 w_woods n_2 (0 : Int32) (-1 : Int32) (0 : Int32)
set_option maxHeartbeats 4000000 in
set_option maxRecDepth 100000 in
theorem mX3_inchOfMost (l : Launch) (D : va_G) (cI cJ cC : ClassId) (G : Nat → Nat → Nat) (a_w : Nat → Nat) (sz : Nat) (w_space : Int32) (w_beam : Int32) (w_door : Int32) (w_law : Int32) (w_used : Int32) (w_pipes : Int32) (w_drilled : Int64) (w_total : Int64) (w_open : Int32) (w_pipeInches : Nat → Int32) (w_pipeChances : Nat → Int32) (w_weights : Nat → Int64) (w_woods : Nat → Int32) (w_sums : Nat → Int64) (p1 : Int32) (post : Int32 → Prop) (h : wpX3_inchOfMost post w_woods p1) : Met l yX3_inchOfMost (wz yX3_inchOfMost cX3_inchOfMost 6 (some .int)) ({ frames := 1, cells := 0, slots := 0, locals := 20 }) (va_Pc [.ref (a_w 0), .int p1] (PW D (tz cI cJ cC) G ((bX3 cI cJ cC a_w w_space w_beam w_door w_law w_used w_pipes w_drilled w_total w_open w_pipeInches w_pipeChances w_weights w_woods w_sums)) sz)) (va_Qi (fun (r : Int32) (u : Unit) => post r ) (fun (u : Unit) t => va_P D vwCl ((bX3 cI cJ cC a_w w_space w_beam w_door w_law w_used w_pipes w_drilled w_total w_open w_pipeInches w_pipeChances w_weights w_woods w_sums)) t.heap) (va_A ((bX3 cI cJ cC a_w w_space w_beam w_door w_law w_used w_pipes w_drilled w_total w_open w_pipeInches w_pipeChances w_weights w_woods w_sums)) sz)) 0 0 (va_A ((bX3 cI cJ cC a_w w_space w_beam w_door w_law w_used w_pipes w_drilled w_total w_open w_pipeInches w_pipeChances w_weights w_woods w_sums)) sz) := by
  refine zmi (gw := fun (u : Unit) => (bX3 cI cJ cC a_w w_space w_beam w_door w_law w_used w_pipes w_drilled w_total w_open w_pipeInches w_pipeChances w_weights w_woods w_sums)) (plainFor_of_name (by decide)) (Nat.le_of_ble_eq_true rfl) ?_
  intro p e s m below meth c A Q ls S hK hD hA hE hP hl hret
  obtain ⟨hx, hb, hml, hown, ht⟩ := id S
  have hS : va_S A s.heap s.heap [] := va_S.rf
  have hDD : ∀ ws : va_W, ws.map (fun q => q.1) = [a_w 0, a_w 1, a_w 2, a_w 3, a_w 4, a_w 5] → va_D A ws := fun ws hw => zD hD (hw.trans rfl)
  have hl : lv_has ls 6 [(0, .ref (a_w 0)), (1, .int p1)] := hl
  unfold wpX3_inchOfMost at h
  refine lv_iconst (v := (0 : Int32)) hx hb dX3_inchOfMost_0 (by decide) ?_
  refine lv_istore_n (lv' := [(2, .int (0 : Int32)), (0, .ref (a_w 0)), (1, .int p1)]) hx hb dX3_inchOfMost_1 rfl hl (by decide) rfl (fun ls hl => ?_)
  refine lv_iconst (v := (-1 : Int32)) hx hb dX3_inchOfMost_2 (by decide) ?_
  refine lv_istore_n (lv' := [(3, .int (-1 : Int32)), (2, .int (0 : Int32)), (0, .ref (a_w 0)), (1, .int p1)]) hx hb dX3_inchOfMost_3 rfl hl (by decide) rfl (fun ls hl => ?_)
  refine lv_iconst (v := (0 : Int32)) hx hb dX3_inchOfMost_4 (by decide) ?_
  refine lv_istore (lv' := [(4, .int (0 : Int32)), (3, .int (-1 : Int32)), (2, .int (0 : Int32)), (0, .ref (a_w 0)), (1, .int p1)]) hx hb dX3_inchOfMost_5 hl (by decide) rfl (fun ls hl => ?_)
  obtain ⟨n_2, h⟩ := h
  refine wX3_inchOfMost_7 l D cI cJ cC G a_w p1 p1 w_space w_beam w_door w_law w_used w_pipes w_drilled w_total w_open w_pipeInches w_pipeChances w_weights w_woods w_sums _ S hK hDD hA hE (fun x2_3 x3_4 x4_5 H locs ls h hP hS hl => ?_) n_2 (0 : Int32) (-1 : Int32) (0 : Int32) _ _ _ h hP hS (lv_sub hl [3, 4, 2, 1, 0] rfl)
  try dsimp only at h
  refine lv_iload_n hx hb dX3_inchOfMost_46 rfl (lv_at hl 0 rfl) ?_
  exact hret x2_3 () _ _ _ _ rfl h hP hS dX3_inchOfMost_47
def lpX3_nailsTillWood_10 (K : Int32 → Int32 → Int32 → Prop) (x1 : Int32) (w_woods : Nat → Int32) : Nat → Int32 → Int32 → Int32 → Prop
  | 0, _, _, _ => False
  | n + 1, x2, x3, x4 => (((48 : Int32) ≤ x3 → (K x2 x3 x4)) ∧ (¬ ((48 : Int32) ≤ x3) → (((x4 = (0 : Int32) → (wpX3_inchOfMost (fun (r_2 : Int32) => wpX3_hasWood (fun (r_3 : Int32) => vp_in r_2 48 ∧ (lpX3_nailsTillWood_10 K x1 w_woods n (x2 &&& ((w_woods r_2.toNatClampNeg) ^^^ (-1 : Int32))) (x3 + (1 : Int32)) r_3)) w_woods r_2 x1) w_woods x2)) ∧ (¬ (x4 = (0 : Int32)) → (K x2 x3 x4))))))
set_option maxHeartbeats 4000000 in
set_option maxRecDepth 100000 in
theorem wX3_nailsTillWood_10 (l : Launch) (D : va_G) (cI cJ cC : ClassId) (G : Nat → Nat → Nat) (a_w : Nat → Nat) {p : Program} {e : Env} {s : State} {m : MethodId} {below : List Frame} {meth : Method} {c : Code} {A : Nat → Prop} {Q : State → Prop} (p1 : Int32) (x1 : Int32) (w_space : Int32) (w_beam : Int32) (w_door : Int32) (w_law : Int32) (w_used : Int32) (w_pipes : Int32) (w_drilled : Int64) (w_total : Int64) (w_open : Int32) (w_pipeInches : Nat → Int32) (w_pipeChances : Nat → Int32) (w_weights : Nat → Int64) (w_woods : Nat → Int32) (w_sums : Nat → Int64) (K : Int32 → Int32 → Int32 → Prop) (S : CallFix p m c cX3_nailsTillWood 6 s ([.ref (a_w 0), .int p1] : List Value).toArray bg RX3) (hK : va_K D vwCl (tz cI cJ cC) s) (hDD : ∀ ws : va_W, ws.map (fun q => q.1) = [a_w 0, a_w 1, a_w 2, a_w 3, a_w 4, a_w 5] → va_D A ws) (hA : ∀ q, s.heap.size ≤ q → A q) (hE : EV G A s) (hKK : ∀ (x2 : Int32) (x3 : Int32) (x4 : Int32) (H : Heap) (locs : List Loc) (ls : Array Slot), K x2 x3 x4 → va_P D vwCl ((bX3 cI cJ cC a_w w_space w_beam w_door w_law w_used w_pipes w_drilled w_total w_open w_pipeInches w_pipeChances w_weights w_woods w_sums)) H → va_S A s.heap H locs → lv_has ls 6 [(3, .int x3)] → W p l e ({ frames := 2, cells := 0, slots := 0, locals := 45 }) s m ([.ref (a_w 0), .int p1] : List Value).toArray below meth c H locs 0 0 Q (F0 m 55 ls [])) :
    ∀ (n : Nat) (x2 : Int32) (x3 : Int32) (x4 : Int32) (H : Heap) (locs : List Loc) (ls : Array Slot), lpX3_nailsTillWood_10 K x1 w_woods n x2 x3 x4 → va_P D vwCl ((bX3 cI cJ cC a_w w_space w_beam w_door w_law w_used w_pipes w_drilled w_total w_open w_pipeInches w_pipeChances w_weights w_woods w_sums)) H → va_S A s.heap H locs → lv_has ls 6 [(0, .ref (a_w 0)), (1, .int x1), (2, .int x2), (3, .int x3), (4, .int x4)] → W p l e ({ frames := 2, cells := 0, slots := 0, locals := 45 }) s m ([.ref (a_w 0), .int p1] : List Value).toArray below meth c H locs 0 0 Q (F0 m 10 ls []) := by
  obtain ⟨hx, hb, hml, hown, ht⟩ := id S
  intro n
  induction n with
  | zero =>
    intro x2 x3 x4 H locs ls h
    exact absurd h (by simp [lpX3_nailsTillWood_10])
  | succ n ih =>
    intro x2 x3 x4 H locs ls h hP hS hl
    rw [lpX3_nailsTillWood_10] at h
    refine lv_iload_n hx hb dX3_nailsTillWood_10 rfl (lv_at hl 3 rfl) ?_
    refine lv_bipush (v := (48 : Int32)) hx hb dX3_nailsTillWood_11 (by decide) ?_
    refine lv_icmp_ge (tgt := 55) hx hb dX3_nailsTillWood_13 (by decide) (fun z => ?_) (fun z => ?_)
    · replace h := h.1 z
      exact hKK x2 x3 x4 _ _ _ h hP hS (lv_sub hl [3] rfl)
    · replace h := h.2 z
      refine lv_iload hx hb dX3_nailsTillWood_16 (lv_at hl 4 rfl) ?_
      refine lv_if_ne (tgt := 55) hx hb dX3_nailsTillWood_18 (by decide) (fun z => ?_) (fun z => ?_)
      · replace h := h.2 z
        exact hKK x2 x3 x4 _ _ _ h hP hS (lv_sub hl [3] rfl)
      · replace h := h.1 z
        refine lv_aload_n hx hb dX3_nailsTillWood_21 rfl (lv_at hl 0 rfl) ?_
        refine lv_iload_n hx hb dX3_nailsTillWood_22 rfl (lv_at hl 2 rfl) ?_
        refine zci hA (hDD _ rfl) hS (zrunV (As := [.int x2]) (rest := []) S hK hA hE hP (hDD _ rfl) hS (mX3_inchOfMost l D cI cJ cC G a_w _ w_space w_beam w_door w_law w_used w_pipes w_drilled w_total w_open w_pipeInches w_pipeChances w_weights w_woods w_sums x2 _ h) kX3_inchOfMost ml_X3_151 ⟨rfl, rfl, by decide, by decide⟩ (q0 := 0) (ci := 3) rfl rfl rfl rfl hl.1 rfl (Nat.le_of_ble_eq_true rfl) dX3_nailsTillWood_23 ⟨Nat.zero_le _, Nat.zero_le _⟩) (fun r_2 u H locs h hP1 hk1 hS => ?_)
        try dsimp only at h
        have hP : va_P D vwCl ((bX3 cI cJ cC a_w w_space w_beam w_door w_law w_used w_pipes w_drilled w_total w_open w_pipeInches w_pipeChances w_weights w_woods w_sums)) H := hP1
        refine lv_istore (lv' := [(5, .int r_2), (0, .ref (a_w 0)), (1, .int x1), (2, .int x2), (3, .int x3), (4, .int x4)]) hx hb dX3_nailsTillWood_26 hl (by decide) rfl (fun ls hl => ?_)
        refine lv_aload_n hx hb dX3_nailsTillWood_28 rfl (lv_at hl 1 rfl) ?_
        refine lv_iload hx hb dX3_nailsTillWood_29 (lv_at hl 0 rfl) ?_
        refine lv_iload_n hx hb dX3_nailsTillWood_31 rfl (lv_at hl 2 rfl) ?_
        refine zci hA (hDD _ rfl) hS (zrunV (As := [.int r_2, .int x1]) (rest := []) S hK hA hE hP (hDD _ rfl) hS (mX3_hasWood l D cI cJ cC G a_w _ w_space w_beam w_door w_law w_used w_pipes w_drilled w_total w_open w_pipeInches w_pipeChances w_weights w_woods w_sums r_2 x1 _ h) kX3_hasWood ml_X3_95 ⟨rfl, rfl, by decide, by decide⟩ (q0 := 0) (ci := 3) rfl rfl rfl rfl hl.1 rfl (Nat.le_of_ble_eq_true rfl) dX3_nailsTillWood_32 ⟨Nat.zero_le _, Nat.zero_le _⟩) (fun r_3 u H locs h hP1 hk1 hS => ?_)
        try dsimp only at h
        have hP : va_P D vwCl ((bX3 cI cJ cC a_w w_space w_beam w_door w_law w_used w_pipes w_drilled w_total w_open w_pipeInches w_pipeChances w_weights w_woods w_sums)) H := hP1
        refine lv_istore (lv' := [(4, .int r_3), (5, .int r_2), (0, .ref (a_w 0)), (1, .int x1), (2, .int x2), (3, .int x3)]) hx hb dX3_nailsTillWood_35 hl (by decide) rfl (fun ls hl => ?_)
        refine lv_iload_n hx hb dX3_nailsTillWood_37 rfl (lv_at hl 4 rfl) ?_
        refine lv_aload_n hx hb dX3_nailsTillWood_38 rfl (lv_at hl 2 rfl) ?_
        refine va_get (D := D) (ci := 3) (v := .ref (a_w 4)) (C := RX3) (T := TX3) (N := 14) hx hb ht inX3 hown hK hP 0 rfl rfl 10 (by decide) (ht _ fl_X3_45) (fun _ h9 => h9) rfl dX3_nailsTillWood_39 ?_
        refine lv_iload hx hb dX3_nailsTillWood_42 (lv_at hl 1 rfl) ?_
        obtain ⟨hin, h⟩ := h
        refine va_iald hx hb hK hP 4 0 rfl rfl hin dX3_nailsTillWood_44 ?_
        refine lv_iconst (v := (-1 : Int32)) hx hb dX3_nailsTillWood_45 (by decide) ?_
        refine lv_ixor hx hb dX3_nailsTillWood_46 ?_
        refine lv_iand hx hb dX3_nailsTillWood_47 ?_
        refine lv_istore_n (lv' := [(2, .int (x2 &&& ((w_woods r_2.toNatClampNeg) ^^^ (-1 : Int32)))), (4, .int r_3), (5, .int r_2), (0, .ref (a_w 0)), (1, .int x1), (3, .int x3)]) hx hb dX3_nailsTillWood_48 rfl hl (by decide) rfl (fun ls hl => ?_)
        refine lv_iinc (v := x3 + (1 : Int32)) (lv' := [(3, .int (x3 + (1 : Int32))), (2, .int (x2 &&& ((w_woods r_2.toNatClampNeg) ^^^ (-1 : Int32)))), (4, .int r_3), (5, .int r_2), (0, .ref (a_w 0)), (1, .int x1)]) hx hb dX3_nailsTillWood_49 hl (k := 5) rfl (by rfl) (by decide) rfl (fun ls hl => ?_)
        refine lv_goto (tgt := 10) hx hb dX3_nailsTillWood_52 (by decide) ?_
        exact ih (x2 &&& ((w_woods r_2.toNatClampNeg) ^^^ (-1 : Int32))) (x3 + (1 : Int32)) r_3 _ _ _ h hP hS (lv_sub hl [4, 5, 1, 0, 2] rfl)
def wpX3_nailsTillWood (post : Int32 → Prop) (w_space : Int32) (w_woods : Nat → Int32) (p1 : Int32) : Prop := wpX3_allOffsets (fun (r_1 : Int32) => ∃ n_4 : Nat, lpX3_nailsTillWood_10 (fun (x2_5 : Int32) (x3_6 : Int32) (x4_7 : Int32) => post x3_6) p1 w_woods n_4 r_1 (0 : Int32) (0 : Int32)) w_space
set_option maxHeartbeats 4000000 in
set_option maxRecDepth 100000 in
theorem mX3_nailsTillWood (l : Launch) (D : va_G) (cI cJ cC : ClassId) (G : Nat → Nat → Nat) (a_w : Nat → Nat) (sz : Nat) (w_space : Int32) (w_beam : Int32) (w_door : Int32) (w_law : Int32) (w_used : Int32) (w_pipes : Int32) (w_drilled : Int64) (w_total : Int64) (w_open : Int32) (w_pipeInches : Nat → Int32) (w_pipeChances : Nat → Int32) (w_weights : Nat → Int64) (w_woods : Nat → Int32) (w_sums : Nat → Int64) (p1 : Int32) (post : Int32 → Prop) (h : wpX3_nailsTillWood post w_space w_woods p1) : Met l yX3_nailsTillWood (wz yX3_nailsTillWood cX3_nailsTillWood 6 (some .int)) ({ frames := 2, cells := 0, slots := 0, locals := 45 }) (va_Pc [.ref (a_w 0), .int p1] (PW D (tz cI cJ cC) G ((bX3 cI cJ cC a_w w_space w_beam w_door w_law w_used w_pipes w_drilled w_total w_open w_pipeInches w_pipeChances w_weights w_woods w_sums)) sz)) (va_Qi (fun (r : Int32) (u : Unit) => post r ) (fun (u : Unit) t => va_P D vwCl ((bX3 cI cJ cC a_w w_space w_beam w_door w_law w_used w_pipes w_drilled w_total w_open w_pipeInches w_pipeChances w_weights w_woods w_sums)) t.heap) (va_A ((bX3 cI cJ cC a_w w_space w_beam w_door w_law w_used w_pipes w_drilled w_total w_open w_pipeInches w_pipeChances w_weights w_woods w_sums)) sz)) 0 0 (va_A ((bX3 cI cJ cC a_w w_space w_beam w_door w_law w_used w_pipes w_drilled w_total w_open w_pipeInches w_pipeChances w_weights w_woods w_sums)) sz) := by
  refine zmi (gw := fun (u : Unit) => (bX3 cI cJ cC a_w w_space w_beam w_door w_law w_used w_pipes w_drilled w_total w_open w_pipeInches w_pipeChances w_weights w_woods w_sums)) (plainFor_of_name (by decide)) (Nat.le_of_ble_eq_true rfl) ?_
  intro p e s m below meth c A Q ls S hK hD hA hE hP hl hret
  obtain ⟨hx, hb, hml, hown, ht⟩ := id S
  have hS : va_S A s.heap s.heap [] := va_S.rf
  have hDD : ∀ ws : va_W, ws.map (fun q => q.1) = [a_w 0, a_w 1, a_w 2, a_w 3, a_w 4, a_w 5] → va_D A ws := fun ws hw => zD hD (hw.trans rfl)
  have hl : lv_has ls 6 [(0, .ref (a_w 0)), (1, .int p1)] := hl
  unfold wpX3_nailsTillWood at h
  refine lv_aload_n hx hb dX3_nailsTillWood_0 rfl (lv_at hl 0 rfl) ?_
  refine zci hA (hDD _ rfl) hS (zrunV (As := []) (rest := []) S hK hA hE hP (hDD _ rfl) hS (mX3_allOffsets l D cI cJ cC G a_w _ w_space w_beam w_door w_law w_used w_pipes w_drilled w_total w_open w_pipeInches w_pipeChances w_weights w_woods w_sums _ h) kX3_allOffsets ml_X3_83 ⟨rfl, rfl, by decide, by decide⟩ (q0 := 0) (ci := 3) rfl rfl rfl rfl hl.1 rfl (Nat.le_of_ble_eq_true rfl) dX3_nailsTillWood_1 ⟨Nat.zero_le _, Nat.zero_le _⟩) (fun r_1 u H locs h hP1 hk1 hS => ?_)
  try dsimp only at h
  have hP : va_P D vwCl ((bX3 cI cJ cC a_w w_space w_beam w_door w_law w_used w_pipes w_drilled w_total w_open w_pipeInches w_pipeChances w_weights w_woods w_sums)) H := hP1
  refine lv_istore_n (lv' := [(2, .int r_1), (0, .ref (a_w 0)), (1, .int p1)]) hx hb dX3_nailsTillWood_4 rfl hl (by decide) rfl (fun ls hl => ?_)
  refine lv_iconst (v := (0 : Int32)) hx hb dX3_nailsTillWood_5 (by decide) ?_
  refine lv_istore_n (lv' := [(3, .int (0 : Int32)), (2, .int r_1), (0, .ref (a_w 0)), (1, .int p1)]) hx hb dX3_nailsTillWood_6 rfl hl (by decide) rfl (fun ls hl => ?_)
  refine lv_iconst (v := (0 : Int32)) hx hb dX3_nailsTillWood_7 (by decide) ?_
  refine lv_istore (lv' := [(4, .int (0 : Int32)), (3, .int (0 : Int32)), (2, .int r_1), (0, .ref (a_w 0)), (1, .int p1)]) hx hb dX3_nailsTillWood_8 hl (by decide) rfl (fun ls hl => ?_)
  obtain ⟨n_4, h⟩ := h
  refine wX3_nailsTillWood_10 l D cI cJ cC G a_w p1 p1 w_space w_beam w_door w_law w_used w_pipes w_drilled w_total w_open w_pipeInches w_pipeChances w_weights w_woods w_sums _ S hK hDD hA hE (fun x2_5 x3_6 x4_7 H locs ls h hP hS hl => ?_) n_4 r_1 (0 : Int32) (0 : Int32) _ _ _ h hP hS (lv_sub hl [3, 4, 2, 1, 0] rfl)
  try dsimp only at h
  refine lv_iload_n hx hb dX3_nailsTillWood_55 rfl (lv_at hl 0 rfl) ?_
  exact hret x3_6 () _ _ _ _ rfl h hP hS dX3_nailsTillWood_56
def wpX0_inchOf (post : Int32 → Prop) (p0 : Int32) : Prop := post (p0 - p0 / (50 : Int32) * (50 : Int32))
set_option maxHeartbeats 4000000 in
set_option maxRecDepth 100000 in
theorem mX0_inchOf (l : Launch) (D : va_G) (cI cJ cC : ClassId) (G : Nat → Nat → Nat) (sz : Nat) (p0 : Int32) (post : Int32 → Prop) (h : wpX0_inchOf post p0) : Met l yX0_inchOf (wz yX0_inchOf cX0_inchOf 1 (some .int)) ({ frames := 0, cells := 0, slots := 0, locals := 0 }) (va_Pc [.int p0] (PW D (tz cI cJ cC) G ([]) sz)) (va_Qi (fun (r : Int32) (u : Unit) => post r ) (fun (u : Unit) t => va_P D vwCl ([]) t.heap) (va_A ([]) sz)) 0 0 (va_A ([]) sz) := by
  refine zmi (gw := fun (u : Unit) => []) (plainFor_of_name (by decide)) (Nat.le_of_ble_eq_true rfl) ?_
  intro p e s m below meth c A Q ls S hK hD hA hE hP hl hret
  obtain ⟨hx, hb, hml, hown, ht⟩ := id S
  have hS : va_S A s.heap s.heap [] := va_S.rf
  have hDD : ∀ ws : va_W, ws.map (fun q => q.1) = [] → va_D A ws := fun ws hw => zD hD (hw.trans rfl)
  have hl : lv_has ls 1 [(0, .int p0)] := hl
  unfold wpX0_inchOf at h
  refine lv_iload_n hx hb dX0_inchOf_0 rfl (lv_at hl 0 rfl) ?_
  refine lv_bipush (v := (50 : Int32)) hx hb dX0_inchOf_1 (by decide) ?_
  refine lv_irem hx hb dX0_inchOf_3 (by decide) ?_
  exact hret (p0 - p0 / (50 : Int32) * (50 : Int32)) () _ _ _ _ rfl h hP hS dX0_inchOf_4
def wpX0_tellsWood (post : Int32 → Prop) (p0 : Int32) : Prop := ((p0 < (50 : Int32) → (post (0 : Int32))) ∧ (¬ (p0 < (50 : Int32)) → (post (1 : Int32))))
set_option maxHeartbeats 4000000 in
set_option maxRecDepth 100000 in
theorem mX0_tellsWood (l : Launch) (D : va_G) (cI cJ cC : ClassId) (G : Nat → Nat → Nat) (sz : Nat) (p0 : Int32) (post : Int32 → Prop) (h : wpX0_tellsWood post p0) : Met l yX0_tellsWood (wz yX0_tellsWood cX0_tellsWood 1 (some .boolean)) ({ frames := 0, cells := 0, slots := 0, locals := 0 }) (va_Pc [.int p0] (PW D (tz cI cJ cC) G ([]) sz)) (va_Qi (fun (r : Int32) (u : Unit) => post r ) (fun (u : Unit) t => va_P D vwCl ([]) t.heap) (va_A ([]) sz)) 0 0 (va_A ([]) sz) := by
  refine zmi (gw := fun (u : Unit) => []) (plainFor_of_name (by decide)) (Nat.le_of_ble_eq_true rfl) ?_
  intro p e s m below meth c A Q ls S hK hD hA hE hP hl hret
  obtain ⟨hx, hb, hml, hown, ht⟩ := id S
  have hS : va_S A s.heap s.heap [] := va_S.rf
  have hDD : ∀ ws : va_W, ws.map (fun q => q.1) = [] → va_D A ws := fun ws hw => zD hD (hw.trans rfl)
  have hl : lv_has ls 1 [(0, .int p0)] := hl
  unfold wpX0_tellsWood at h
  refine lv_iload_n hx hb dX0_tellsWood_0 rfl (lv_at hl 0 rfl) ?_
  refine lv_bipush (v := (50 : Int32)) hx hb dX0_tellsWood_1 (by decide) ?_
  refine lv_icmp_lt (tgt := 10) hx hb dX0_tellsWood_3 (by decide) (fun z => ?_) (fun z => ?_)
  · replace h := h.1 z
    refine lv_iconst (v := (0 : Int32)) hx hb dX0_tellsWood_10 (by decide) ?_
    exact hret (0 : Int32) () _ _ _ _ rfl h hP hS dX0_tellsWood_11
  · replace h := h.2 z
    refine lv_iconst (v := (1 : Int32)) hx hb dX0_tellsWood_6 (by decide) ?_
    refine lv_goto (tgt := 11) hx hb dX0_tellsWood_7 (by decide) ?_
    exact hret (1 : Int32) () _ _ _ _ rfl h hP hS dX0_tellsWood_11
def wpX4_isNoInch (post : Int32 → Prop) (p0 : Int32) : Prop := ((p0 < (0 : Int32) → (post (1 : Int32))) ∧ (¬ (p0 < (0 : Int32)) → (((p0 ≤ (47 : Int32) → (post (0 : Int32))) ∧ (¬ (p0 ≤ (47 : Int32)) → (post (1 : Int32)))))))
set_option maxHeartbeats 4000000 in
set_option maxRecDepth 100000 in
theorem mX4_isNoInch (l : Launch) (D : va_G) (cI cJ cC : ClassId) (G : Nat → Nat → Nat) (sz : Nat) (p0 : Int32) (post : Int32 → Prop) (h : wpX4_isNoInch post p0) : Met l yX4_isNoInch (wz yX4_isNoInch cX4_isNoInch 1 (some .boolean)) ({ frames := 0, cells := 0, slots := 0, locals := 0 }) (va_Pc [.int p0] (PW D (tz cI cJ cC) G ([]) sz)) (va_Qi (fun (r : Int32) (u : Unit) => post r ) (fun (u : Unit) t => va_P D vwCl ([]) t.heap) (va_A ([]) sz)) 0 0 (va_A ([]) sz) := by
  refine zmi (gw := fun (u : Unit) => []) (plainFor_of_name (by decide)) (Nat.le_of_ble_eq_true rfl) ?_
  intro p e s m below meth c A Q ls S hK hD hA hE hP hl hret
  obtain ⟨hx, hb, hml, hown, ht⟩ := id S
  have hS : va_S A s.heap s.heap [] := va_S.rf
  have hDD : ∀ ws : va_W, ws.map (fun q => q.1) = [] → va_D A ws := fun ws hw => zD hD (hw.trans rfl)
  have hl : lv_has ls 1 [(0, .int p0)] := hl
  unfold wpX4_isNoInch at h
  refine lv_iload_n hx hb dX4_isNoInch_0 rfl (lv_at hl 0 rfl) ?_
  refine lv_if_lt (tgt := 10) hx hb dX4_isNoInch_1 (by decide) (fun z => ?_) (fun z => ?_)
  · replace h := h.1 z
    refine lv_iconst (v := (1 : Int32)) hx hb dX4_isNoInch_10 (by decide) ?_
    refine lv_goto (tgt := 15) hx hb dX4_isNoInch_11 (by decide) ?_
    exact hret (1 : Int32) () _ _ _ _ rfl h hP hS dX4_isNoInch_15
  · replace h := h.2 z
    refine lv_iload_n hx hb dX4_isNoInch_4 rfl (lv_at hl 0 rfl) ?_
    refine lv_bipush (v := (47 : Int32)) hx hb dX4_isNoInch_5 (by decide) ?_
    refine lv_icmp_le (tgt := 14) hx hb dX4_isNoInch_7 (by decide) (fun z => ?_) (fun z => ?_)
    · replace h := h.1 z
      refine lv_iconst (v := (0 : Int32)) hx hb dX4_isNoInch_14 (by decide) ?_
      exact hret (0 : Int32) () _ _ _ _ rfl h hP hS dX4_isNoInch_15
    · replace h := h.2 z
      refine lv_iconst (v := (1 : Int32)) hx hb dX4_isNoInch_10 (by decide) ?_
      refine lv_goto (tgt := 15) hx hb dX4_isNoInch_11 (by decide) ?_
      exact hret (1 : Int32) () _ _ _ _ rfl h hP hS dX4_isNoInch_15
def wpX0_offsetsBy (post : Int32 → Prop) (w_woods : Nat → Int32) (p1 : Int32) : Prop := wpX0_inchOf (fun (r_1 : Int32) => wpX4_isNoInch (fun (r_2 : Int32) => ((r_2 = (0 : Int32) → (wpX0_tellsWood (fun (r_3 : Int32) => ((r_3 = (0 : Int32) → (vp_in r_1 48 ∧ (post ((w_woods r_1.toNatClampNeg) ^^^ (-1 : Int32))))) ∧ (¬ (r_3 = (0 : Int32)) → (vp_in r_1 48 ∧ (post (w_woods r_1.toNatClampNeg)))))) p1)) ∧ (¬ (r_2 = (0 : Int32)) → (post (0 : Int32))))) r_1) p1
set_option maxHeartbeats 4000000 in
set_option maxRecDepth 100000 in
theorem mX0_offsetsBy (l : Launch) (D : va_G) (cI cJ cC : ClassId) (G : Nat → Nat → Nat) (a_w : Nat → Nat) (sz : Nat) (w_space : Int32) (w_beam : Int32) (w_door : Int32) (w_law : Int32) (w_used : Int32) (w_pipes : Int32) (w_drilled : Int64) (w_total : Int64) (w_open : Int32) (w_pipeInches : Nat → Int32) (w_pipeChances : Nat → Int32) (w_weights : Nat → Int64) (w_woods : Nat → Int32) (w_sums : Nat → Int64) (p1 : Int32) (post : Int32 → Prop) (h : wpX0_offsetsBy post w_woods p1) : Met l yX0_offsetsBy (wz yX0_offsetsBy cX0_offsetsBy 3 (some .int)) ({ frames := 1, cells := 0, slots := 0, locals := 20 }) (va_Pc [.ref (a_w 0), .int p1] (PW D (tz cI cJ cC) G ((bX3 cI cJ cC a_w w_space w_beam w_door w_law w_used w_pipes w_drilled w_total w_open w_pipeInches w_pipeChances w_weights w_woods w_sums)) sz)) (va_Qi (fun (r : Int32) (u : Unit) => post r ) (fun (u : Unit) t => va_P D vwCl ((bX3 cI cJ cC a_w w_space w_beam w_door w_law w_used w_pipes w_drilled w_total w_open w_pipeInches w_pipeChances w_weights w_woods w_sums)) t.heap) (va_A ((bX3 cI cJ cC a_w w_space w_beam w_door w_law w_used w_pipes w_drilled w_total w_open w_pipeInches w_pipeChances w_weights w_woods w_sums)) sz)) 0 0 (va_A ((bX3 cI cJ cC a_w w_space w_beam w_door w_law w_used w_pipes w_drilled w_total w_open w_pipeInches w_pipeChances w_weights w_woods w_sums)) sz) := by
  refine zmi (gw := fun (u : Unit) => (bX3 cI cJ cC a_w w_space w_beam w_door w_law w_used w_pipes w_drilled w_total w_open w_pipeInches w_pipeChances w_weights w_woods w_sums)) (plainFor_of_name (by decide)) (Nat.le_of_ble_eq_true rfl) ?_
  intro p e s m below meth c A Q ls S hK hD hA hE hP hl hret
  obtain ⟨hx, hb, hml, hown, ht⟩ := id S
  have hS : va_S A s.heap s.heap [] := va_S.rf
  have hDD : ∀ ws : va_W, ws.map (fun q => q.1) = [a_w 0, a_w 1, a_w 2, a_w 3, a_w 4, a_w 5] → va_D A ws := fun ws hw => zD hD (hw.trans rfl)
  have hl : lv_has ls 3 [(0, .ref (a_w 0)), (1, .int p1)] := hl
  unfold wpX0_offsetsBy at h
  refine lv_iload_n hx hb dX0_offsetsBy_0 rfl (lv_at hl 1 rfl) ?_
  refine zci hA zD0 hS (zrunS (As := [.int p1]) (rest := []) S hK hA hE zP0 zD0 hS (mX0_inchOf l D cI cJ cC G _ p1 _ h) kX0_inchOf ml_X0_19 ⟨rfl, rfl, by decide, by decide⟩ rfl hl.1 rfl (Nat.le_of_ble_eq_true rfl) dX0_offsetsBy_1 ⟨Nat.zero_le _, Nat.zero_le _⟩) (fun r_1 u H locs h hP1 hk1 hS => ?_)
  try dsimp only at h
  have hP : va_P D vwCl ((bX3 cI cJ cC a_w w_space w_beam w_door w_law w_used w_pipes w_drilled w_total w_open w_pipeInches w_pipeChances w_weights w_woods w_sums)) H := zKeep hP hk1
  refine lv_istore_n (lv' := [(2, .int r_1), (0, .ref (a_w 0)), (1, .int p1)]) hx hb dX0_offsetsBy_4 rfl hl (by decide) rfl (fun ls hl => ?_)
  refine lv_iload_n hx hb dX0_offsetsBy_5 rfl (lv_at hl 0 rfl) ?_
  refine zci hA zD0 hS (zrunN (As := [.int r_1]) (rest := []) S hK hA hE zP0 zD0 hS (mX4_isNoInch l D cI cJ cC G _ r_1 _ h) kX4_isNoInch 11 rfl ⟨rfl, rfl, by decide, by decide⟩ rfl hl.1 rfl (Nat.le_of_ble_eq_true rfl) dX0_offsetsBy_6 ⟨Nat.zero_le _, Nat.zero_le _⟩) (fun r_2 u H locs h hP1 hk1 hS => ?_)
  try dsimp only at h
  have hP : va_P D vwCl ((bX3 cI cJ cC a_w w_space w_beam w_door w_law w_used w_pipes w_drilled w_total w_open w_pipeInches w_pipeChances w_weights w_woods w_sums)) H := zKeep hP hk1
  refine lv_if_eq (tgt := 14) hx hb dX0_offsetsBy_9 (by decide) (fun z => ?_) (fun z => ?_)
  · replace h := h.1 z
    refine lv_iload_n hx hb dX0_offsetsBy_14 rfl (lv_at hl 2 rfl) ?_
    refine zci hA zD0 hS (zrunS (As := [.int p1]) (rest := []) S hK hA hE zP0 zD0 hS (mX0_tellsWood l D cI cJ cC G _ p1 _ h) kX0_tellsWood ml_X0_27 ⟨rfl, rfl, by decide, by decide⟩ rfl hl.1 rfl (Nat.le_of_ble_eq_true rfl) dX0_offsetsBy_15 ⟨Nat.zero_le _, Nat.zero_le _⟩) (fun r_3 u H locs h hP1 hk1 hS => ?_)
    try dsimp only at h
    have hP : va_P D vwCl ((bX3 cI cJ cC a_w w_space w_beam w_door w_law w_used w_pipes w_drilled w_total w_open w_pipeInches w_pipeChances w_weights w_woods w_sums)) H := zKeep hP hk1
    refine lv_if_eq (tgt := 30) hx hb dX0_offsetsBy_18 (by decide) (fun z => ?_) (fun z => ?_)
    · replace h := h.1 z
      refine lv_aload_n hx hb dX0_offsetsBy_30 rfl (lv_at hl 1 rfl) ?_
      refine va_get (D := D) (ci := 3) (v := .ref (a_w 4)) (C := RX3) (T := TX3) (N := 14) hx hb ht inX3 hown hK hP 0 rfl rfl 10 (by decide) (ht _ fl_X0_30) (fun _ h9 => h9) rfl dX0_offsetsBy_31 ?_
      refine lv_iload_n hx hb dX0_offsetsBy_34 rfl (lv_at hl 0 rfl) ?_
      obtain ⟨hin, h⟩ := h
      refine va_iald hx hb hK hP 4 0 rfl rfl hin dX0_offsetsBy_35 ?_
      refine lv_iconst (v := (-1 : Int32)) hx hb dX0_offsetsBy_36 (by decide) ?_
      refine lv_ixor hx hb dX0_offsetsBy_37 ?_
      exact hret ((w_woods r_1.toNatClampNeg) ^^^ (-1 : Int32)) () _ _ _ _ rfl h hP hS dX0_offsetsBy_38
    · replace h := h.2 z
      refine lv_aload_n hx hb dX0_offsetsBy_21 rfl (lv_at hl 1 rfl) ?_
      refine va_get (D := D) (ci := 3) (v := .ref (a_w 4)) (C := RX3) (T := TX3) (N := 14) hx hb ht inX3 hown hK hP 0 rfl rfl 10 (by decide) (ht _ fl_X0_30) (fun _ h9 => h9) rfl dX0_offsetsBy_22 ?_
      refine lv_iload_n hx hb dX0_offsetsBy_25 rfl (lv_at hl 0 rfl) ?_
      obtain ⟨hin, h⟩ := h
      refine va_iald hx hb hK hP 4 0 rfl rfl hin dX0_offsetsBy_26 ?_
      refine lv_goto (tgt := 38) hx hb dX0_offsetsBy_27 (by decide) ?_
      exact hret (w_woods r_1.toNatClampNeg) () _ _ _ _ rfl h hP hS dX0_offsetsBy_38
  · replace h := h.2 z
    refine lv_iconst (v := (0 : Int32)) hx hb dX0_offsetsBy_12 (by decide) ?_
    exact hret (0 : Int32) () _ _ _ _ rfl h hP hS dX0_offsetsBy_13
def lpX0_offsetsThatFit_8 (K : Int32 → Int32 → Prop) (x2 : Int32) (r_numbers : Nat → Int32) (w_woods : Nat → Int32) : Nat → Int32 → Int32 → Prop
  | 0, _, _ => False
  | n + 1, x3, x4 => ((x2 ≤ x4 → (K x3 x4)) ∧ (¬ (x2 ≤ x4) → ((((8 : Int32) ≤ x4 → (K x3 x4)) ∧ (¬ ((8 : Int32) ≤ x4) → (vp_in x4 8 ∧ (wpX0_offsetsBy (fun (r_1 : Int32) => lpX0_offsetsThatFit_8 K x2 r_numbers w_woods n (x3 &&& r_1) (x4 + (1 : Int32))) w_woods (r_numbers x4.toNatClampNeg))))))))
set_option maxHeartbeats 4000000 in
set_option maxRecDepth 100000 in
theorem wX0_offsetsThatFit_8 (l : Launch) (D : va_G) (cI cJ cC : ClassId) (G : Nat → Nat → Nat) (a_r : Nat → Nat) (a_w : Nat → Nat) {p : Program} {e : Env} {s : State} {m : MethodId} {below : List Frame} {meth : Method} {c : Code} {A : Nat → Prop} {Q : State → Prop} (p2 : Int32) (x2 : Int32) (r_length : Int32) (r_numbers : Nat → Int32) (w_space : Int32) (w_beam : Int32) (w_door : Int32) (w_law : Int32) (w_used : Int32) (w_pipes : Int32) (w_drilled : Int64) (w_total : Int64) (w_open : Int32) (w_pipeInches : Nat → Int32) (w_pipeChances : Nat → Int32) (w_weights : Nat → Int64) (w_woods : Nat → Int32) (w_sums : Nat → Int64) (K : Int32 → Int32 → Prop) (S : CallFix p m c cX0_offsetsThatFit 5 s ([.ref (a_r 0), .ref (a_w 0), .int p2] : List Value).toArray bg RX0) (hK : va_K D vwCl (tz cI cJ cC) s) (hDD : ∀ ws : va_W, ws.map (fun q => q.1) = [a_r 0, a_r 1, a_w 0, a_w 1, a_w 2, a_w 3, a_w 4, a_w 5] → va_D A ws) (hA : ∀ q, s.heap.size ≤ q → A q) (hE : EV G A s) (hKK : ∀ (x3 : Int32) (x4 : Int32) (H : Heap) (locs : List Loc) (ls : Array Slot), K x3 x4 → va_P D vwCl ((bX0 cI cJ cC a_r r_length r_numbers) ++ (bX3 cI cJ cC a_w w_space w_beam w_door w_law w_used w_pipes w_drilled w_total w_open w_pipeInches w_pipeChances w_weights w_woods w_sums)) H → va_S A s.heap H locs → lv_has ls 5 [(3, .int x3)] → W p l e ({ frames := 2, cells := 0, slots := 0, locals := 42 }) s m ([.ref (a_r 0), .ref (a_w 0), .int p2] : List Value).toArray below meth c H locs 0 0 Q (F0 m 41 ls [])) :
    ∀ (n : Nat) (x3 : Int32) (x4 : Int32) (H : Heap) (locs : List Loc) (ls : Array Slot), lpX0_offsetsThatFit_8 K x2 r_numbers w_woods n x3 x4 → va_P D vwCl ((bX0 cI cJ cC a_r r_length r_numbers) ++ (bX3 cI cJ cC a_w w_space w_beam w_door w_law w_used w_pipes w_drilled w_total w_open w_pipeInches w_pipeChances w_weights w_woods w_sums)) H → va_S A s.heap H locs → lv_has ls 5 [(0, .ref (a_r 0)), (1, .ref (a_w 0)), (2, .int x2), (3, .int x3), (4, .int x4)] → W p l e ({ frames := 2, cells := 0, slots := 0, locals := 42 }) s m ([.ref (a_r 0), .ref (a_w 0), .int p2] : List Value).toArray below meth c H locs 0 0 Q (F0 m 8 ls []) := by
  obtain ⟨hx, hb, hml, hown, ht⟩ := id S
  intro n
  induction n with
  | zero =>
    intro x3 x4 H locs ls h
    exact absurd h (by simp [lpX0_offsetsThatFit_8])
  | succ n ih =>
    intro x3 x4 H locs ls h hP hS hl
    rw [lpX0_offsetsThatFit_8] at h
    refine lv_iload hx hb dX0_offsetsThatFit_8 (lv_at hl 4 rfl) ?_
    refine lv_iload_n hx hb dX0_offsetsThatFit_10 rfl (lv_at hl 2 rfl) ?_
    refine lv_icmp_ge (tgt := 41) hx hb dX0_offsetsThatFit_11 (by decide) (fun z => ?_) (fun z => ?_)
    · replace h := h.1 z
      exact hKK x3 x4 _ _ _ h hP hS (lv_sub hl [3] rfl)
    · replace h := h.2 z
      refine lv_iload hx hb dX0_offsetsThatFit_14 (lv_at hl 4 rfl) ?_
      refine lv_bipush (v := (8 : Int32)) hx hb dX0_offsetsThatFit_16 (by decide) ?_
      refine lv_icmp_ge (tgt := 41) hx hb dX0_offsetsThatFit_18 (by decide) (fun z => ?_) (fun z => ?_)
      · replace h := h.1 z
        exact hKK x3 x4 _ _ _ h hP hS (lv_sub hl [3] rfl)
      · replace h := h.2 z
        refine lv_iload_n hx hb dX0_offsetsThatFit_21 rfl (lv_at hl 3 rfl) ?_
        refine lv_aload_n hx hb dX0_offsetsThatFit_22 rfl (lv_at hl 1 rfl) ?_
        refine lv_aload_n hx hb dX0_offsetsThatFit_23 rfl (lv_at hl 0 rfl) ?_
        refine va_get (D := D) (ci := 0) (v := .ref (a_r 1)) (C := RX0) (T := TX0) (N := 2) hx hb ht inX0 hown hK hP 0 rfl rfl 0 (by decide) (ht _ fl_X0_9) (fun _ h9 => h9) rfl dX0_offsetsThatFit_24 ?_
        refine lv_iload hx hb dX0_offsetsThatFit_27 (lv_at hl 4 rfl) ?_
        obtain ⟨hin, h⟩ := h
        refine va_iald hx hb hK hP 1 0 rfl rfl hin dX0_offsetsThatFit_29 ?_
        have hPw : va_P D vwCl ((bX3 cI cJ cC a_w w_space w_beam w_door w_law w_used w_pipes w_drilled w_total w_open w_pipeInches w_pipeChances w_weights w_woods w_sums)) _ := hP.sub [2, 3, 4, 5, 6, 7] rfl
        have hDw : va_D A ((bX3 cI cJ cC a_w w_space w_beam w_door w_law w_used w_pipes w_drilled w_total w_open w_pipeInches w_pipeChances w_weights w_woods w_sums)) := (hDD _ rfl).sub (ws := (bX0 cI cJ cC a_r r_length r_numbers) ++ (bX3 cI cJ cC a_w w_space w_beam w_door w_law w_used w_pipes w_drilled w_total w_open w_pipeInches w_pipeChances w_weights w_woods w_sums)) [2, 3, 4, 5, 6, 7] (by decide) rfl
        refine zci hA hDw hS (zrunS (As := [.ref (a_w 0), .int (r_numbers x4.toNatClampNeg)]) (rest := [.int x3]) S hK hA hE hPw hDw hS (mX0_offsetsBy l D cI cJ cC G a_w _ w_space w_beam w_door w_law w_used w_pipes w_drilled w_total w_open w_pipeInches w_pipeChances w_weights w_woods w_sums (r_numbers x4.toNatClampNeg) _ h) kX0_offsetsBy ml_X0_38 ⟨rfl, rfl, by decide, by decide⟩ rfl hl.1 rfl (Nat.le_of_ble_eq_true rfl) dX0_offsetsThatFit_30 ⟨Nat.zero_le _, Nat.zero_le _⟩) (fun r_1 u H locs h hP1 hk1 hS => ?_)
        try dsimp only at h
        have hP : va_P D vwCl ((bX0 cI cJ cC a_r r_length r_numbers) ++ (bX3 cI cJ cC a_w w_space w_beam w_door w_law w_used w_pipes w_drilled w_total w_open w_pipeInches w_pipeChances w_weights w_woods w_sums)) H := zMerge hP (hDD _ rfl) [2, 3, 4, 5, 6, 7] rfl rfl hk1 hP1
        refine lv_iand hx hb dX0_offsetsThatFit_33 ?_
        refine lv_istore_n (lv' := [(3, .int (x3 &&& r_1)), (0, .ref (a_r 0)), (1, .ref (a_w 0)), (2, .int x2), (4, .int x4)]) hx hb dX0_offsetsThatFit_34 rfl hl (by decide) rfl (fun ls hl => ?_)
        refine lv_iinc (v := x4 + (1 : Int32)) (lv' := [(4, .int (x4 + (1 : Int32))), (3, .int (x3 &&& r_1)), (0, .ref (a_r 0)), (1, .ref (a_w 0)), (2, .int x2)]) hx hb dX0_offsetsThatFit_35 hl (k := 4) rfl (by rfl) (by decide) rfl (fun ls hl => ?_)
        refine lv_goto (tgt := 8) hx hb dX0_offsetsThatFit_38 (by decide) ?_
        exact ih (x3 &&& r_1) (x4 + (1 : Int32)) _ _ _ h hP hS (lv_sub hl [2, 3, 4, 1, 0] rfl)
def wpX0_offsetsThatFit (post : Int32 → Prop) (r_numbers : Nat → Int32) (w_open : Int32) (w_woods : Nat → Int32) (p2 : Int32) : Prop := ∃ n_2 : Nat, lpX0_offsetsThatFit_8 (fun (x3_3 : Int32) (x4_4 : Int32) => post x3_3) p2 r_numbers w_woods n_2 w_open (0 : Int32)
set_option maxHeartbeats 4000000 in
set_option maxRecDepth 100000 in
theorem mX0_offsetsThatFit (l : Launch) (D : va_G) (cI cJ cC : ClassId) (G : Nat → Nat → Nat) (a_r : Nat → Nat) (a_w : Nat → Nat) (sz : Nat) (r_length : Int32) (r_numbers : Nat → Int32) (w_space : Int32) (w_beam : Int32) (w_door : Int32) (w_law : Int32) (w_used : Int32) (w_pipes : Int32) (w_drilled : Int64) (w_total : Int64) (w_open : Int32) (w_pipeInches : Nat → Int32) (w_pipeChances : Nat → Int32) (w_weights : Nat → Int64) (w_woods : Nat → Int32) (w_sums : Nat → Int64) (p2 : Int32) (post : Int32 → Prop) (h : wpX0_offsetsThatFit post r_numbers w_open w_woods p2) : Met l yX0_offsetsThatFit (wz yX0_offsetsThatFit cX0_offsetsThatFit 5 (some .int)) ({ frames := 2, cells := 0, slots := 0, locals := 42 }) (va_Pc [.ref (a_r 0), .ref (a_w 0), .int p2] (PW D (tz cI cJ cC) G ((bX0 cI cJ cC a_r r_length r_numbers) ++ (bX3 cI cJ cC a_w w_space w_beam w_door w_law w_used w_pipes w_drilled w_total w_open w_pipeInches w_pipeChances w_weights w_woods w_sums)) sz)) (va_Qi (fun (r : Int32) (u : Unit) => post r ) (fun (u : Unit) t => va_P D vwCl ((bX0 cI cJ cC a_r r_length r_numbers) ++ (bX3 cI cJ cC a_w w_space w_beam w_door w_law w_used w_pipes w_drilled w_total w_open w_pipeInches w_pipeChances w_weights w_woods w_sums)) t.heap) (va_A ((bX0 cI cJ cC a_r r_length r_numbers) ++ (bX3 cI cJ cC a_w w_space w_beam w_door w_law w_used w_pipes w_drilled w_total w_open w_pipeInches w_pipeChances w_weights w_woods w_sums)) sz)) 0 0 (va_A ((bX0 cI cJ cC a_r r_length r_numbers) ++ (bX3 cI cJ cC a_w w_space w_beam w_door w_law w_used w_pipes w_drilled w_total w_open w_pipeInches w_pipeChances w_weights w_woods w_sums)) sz) := by
  refine zmi (gw := fun (u : Unit) => (bX0 cI cJ cC a_r r_length r_numbers) ++ (bX3 cI cJ cC a_w w_space w_beam w_door w_law w_used w_pipes w_drilled w_total w_open w_pipeInches w_pipeChances w_weights w_woods w_sums)) (plainFor_of_name (by decide)) (Nat.le_of_ble_eq_true rfl) ?_
  intro p e s m below meth c A Q ls S hK hD hA hE hP hl hret
  obtain ⟨hx, hb, hml, hown, ht⟩ := id S
  have hS : va_S A s.heap s.heap [] := va_S.rf
  have hDD : ∀ ws : va_W, ws.map (fun q => q.1) = [a_r 0, a_r 1, a_w 0, a_w 1, a_w 2, a_w 3, a_w 4, a_w 5] → va_D A ws := fun ws hw => zD hD (hw.trans rfl)
  have hl : lv_has ls 5 [(0, .ref (a_r 0)), (1, .ref (a_w 0)), (2, .int p2)] := hl
  unfold wpX0_offsetsThatFit at h
  refine lv_aload_n hx hb dX0_offsetsThatFit_0 rfl (lv_at hl 1 rfl) ?_
  refine va_get (D := D) (ci := 3) (v := .int w_open) (C := RX3) (T := TX3) (N := 14) hx hb ht inX3 hown hK hP 2 rfl rfl 13 (by decide) (ht _ fl_X0_35) (fun _ h9 => h9) rfl dX0_offsetsThatFit_1 ?_
  refine lv_istore_n (lv' := [(3, .int w_open), (0, .ref (a_r 0)), (1, .ref (a_w 0)), (2, .int p2)]) hx hb dX0_offsetsThatFit_4 rfl hl (by decide) rfl (fun ls hl => ?_)
  refine lv_iconst (v := (0 : Int32)) hx hb dX0_offsetsThatFit_5 (by decide) ?_
  refine lv_istore (lv' := [(4, .int (0 : Int32)), (3, .int w_open), (0, .ref (a_r 0)), (1, .ref (a_w 0)), (2, .int p2)]) hx hb dX0_offsetsThatFit_6 hl (by decide) rfl (fun ls hl => ?_)
  obtain ⟨n_2, h⟩ := h
  refine wX0_offsetsThatFit_8 l D cI cJ cC G a_r a_w p2 p2 r_length r_numbers w_space w_beam w_door w_law w_used w_pipes w_drilled w_total w_open w_pipeInches w_pipeChances w_weights w_woods w_sums _ S hK hDD hA hE (fun x3_3 x4_4 H locs ls h hP hS hl => ?_) n_2 w_open (0 : Int32) _ _ _ h hP hS (lv_sub hl [2, 3, 4, 1, 0] rfl)
  try dsimp only at h
  refine lv_iload_n hx hb dX0_offsetsThatFit_41 rfl (lv_at hl 0 rfl) ?_
  exact hret x3_3 () _ _ _ _ rfl h hP hS dX0_offsetsThatFit_42
def wpX0_tenthsOf (post : Int32 → Prop) (w_woods : Nat → Int32) (p1 : Int32) (p2 : Int32) (p3 : Int32) : Prop := wpX0_inchOf (fun (r_1 : Int32) => wpX4_isNoInch (fun (r_2 : Int32) => ((r_2 = (0 : Int32) → (wpX0_tellsWood (fun (r_3 : Int32) => wpX3_hasWood (fun (r_4 : Int32) => wpX4_tenths (fun (r_5 : Int32) => post r_5) p1 r_3 r_4) w_woods r_1 p2) p3)) ∧ (¬ (r_2 = (0 : Int32)) → (post (0 : Int32))))) r_1) p3
set_option maxHeartbeats 4000000 in
set_option maxRecDepth 100000 in
theorem mX0_tenthsOf (l : Launch) (D : va_G) (cI cJ cC : ClassId) (G : Nat → Nat → Nat) (a_w : Nat → Nat) (sz : Nat) (w_space : Int32) (w_beam : Int32) (w_door : Int32) (w_law : Int32) (w_used : Int32) (w_pipes : Int32) (w_drilled : Int64) (w_total : Int64) (w_open : Int32) (w_pipeInches : Nat → Int32) (w_pipeChances : Nat → Int32) (w_weights : Nat → Int64) (w_woods : Nat → Int32) (w_sums : Nat → Int64) (p1 : Int32) (p2 : Int32) (p3 : Int32) (post : Int32 → Prop) (h : wpX0_tenthsOf post w_woods p1 p2 p3) : Met l yX0_tenthsOf (wz yX0_tenthsOf cX0_tenthsOf 5 (some .int)) ({ frames := 2, cells := 0, slots := 0, locals := 43 }) (va_Pc [.ref (a_w 0), .int p1, .int p2, .int p3] (PW D (tz cI cJ cC) G ((bX3 cI cJ cC a_w w_space w_beam w_door w_law w_used w_pipes w_drilled w_total w_open w_pipeInches w_pipeChances w_weights w_woods w_sums)) sz)) (va_Qi (fun (r : Int32) (u : Unit) => post r ) (fun (u : Unit) t => va_P D vwCl ((bX3 cI cJ cC a_w w_space w_beam w_door w_law w_used w_pipes w_drilled w_total w_open w_pipeInches w_pipeChances w_weights w_woods w_sums)) t.heap) (va_A ((bX3 cI cJ cC a_w w_space w_beam w_door w_law w_used w_pipes w_drilled w_total w_open w_pipeInches w_pipeChances w_weights w_woods w_sums)) sz)) 0 0 (va_A ((bX3 cI cJ cC a_w w_space w_beam w_door w_law w_used w_pipes w_drilled w_total w_open w_pipeInches w_pipeChances w_weights w_woods w_sums)) sz) := by
  refine zmi (gw := fun (u : Unit) => (bX3 cI cJ cC a_w w_space w_beam w_door w_law w_used w_pipes w_drilled w_total w_open w_pipeInches w_pipeChances w_weights w_woods w_sums)) (plainFor_of_name (by decide)) (Nat.le_of_ble_eq_true rfl) ?_
  intro p e s m below meth c A Q ls S hK hD hA hE hP hl hret
  obtain ⟨hx, hb, hml, hown, ht⟩ := id S
  have hS : va_S A s.heap s.heap [] := va_S.rf
  have hDD : ∀ ws : va_W, ws.map (fun q => q.1) = [a_w 0, a_w 1, a_w 2, a_w 3, a_w 4, a_w 5] → va_D A ws := fun ws hw => zD hD (hw.trans rfl)
  have hl : lv_has ls 5 [(0, .ref (a_w 0)), (1, .int p1), (2, .int p2), (3, .int p3)] := hl
  unfold wpX0_tenthsOf at h
  refine lv_iload_n hx hb dX0_tenthsOf_0 rfl (lv_at hl 3 rfl) ?_
  refine zci hA zD0 hS (zrunS (As := [.int p3]) (rest := []) S hK hA hE zP0 zD0 hS (mX0_inchOf l D cI cJ cC G _ p3 _ h) kX0_inchOf ml_X0_19 ⟨rfl, rfl, by decide, by decide⟩ rfl hl.1 rfl (Nat.le_of_ble_eq_true rfl) dX0_tenthsOf_1 ⟨Nat.zero_le _, Nat.zero_le _⟩) (fun r_1 u H locs h hP1 hk1 hS => ?_)
  try dsimp only at h
  have hP : va_P D vwCl ((bX3 cI cJ cC a_w w_space w_beam w_door w_law w_used w_pipes w_drilled w_total w_open w_pipeInches w_pipeChances w_weights w_woods w_sums)) H := zKeep hP hk1
  refine lv_istore (lv' := [(4, .int r_1), (0, .ref (a_w 0)), (1, .int p1), (2, .int p2), (3, .int p3)]) hx hb dX0_tenthsOf_4 hl (by decide) rfl (fun ls hl => ?_)
  refine lv_iload hx hb dX0_tenthsOf_6 (lv_at hl 0 rfl) ?_
  refine zci hA zD0 hS (zrunN (As := [.int r_1]) (rest := []) S hK hA hE zP0 zD0 hS (mX4_isNoInch l D cI cJ cC G _ r_1 _ h) kX4_isNoInch 11 rfl ⟨rfl, rfl, by decide, by decide⟩ rfl hl.1 rfl (Nat.le_of_ble_eq_true rfl) dX0_tenthsOf_8 ⟨Nat.zero_le _, Nat.zero_le _⟩) (fun r_2 u H locs h hP1 hk1 hS => ?_)
  try dsimp only at h
  have hP : va_P D vwCl ((bX3 cI cJ cC a_w w_space w_beam w_door w_law w_used w_pipes w_drilled w_total w_open w_pipeInches w_pipeChances w_weights w_woods w_sums)) H := zKeep hP hk1
  refine lv_if_eq (tgt := 16) hx hb dX0_tenthsOf_11 (by decide) (fun z => ?_) (fun z => ?_)
  · replace h := h.1 z
    refine lv_iload_n hx hb dX0_tenthsOf_16 rfl (lv_at hl 2 rfl) ?_
    refine lv_iload_n hx hb dX0_tenthsOf_17 rfl (lv_at hl 4 rfl) ?_
    refine zci hA zD0 hS (zrunS (As := [.int p3]) (rest := [.int p1]) S hK hA hE zP0 zD0 hS (mX0_tellsWood l D cI cJ cC G _ p3 _ h) kX0_tellsWood ml_X0_27 ⟨rfl, rfl, by decide, by decide⟩ rfl hl.1 rfl (Nat.le_of_ble_eq_true rfl) dX0_tenthsOf_18 ⟨Nat.zero_le _, Nat.zero_le _⟩) (fun r_3 u H locs h hP1 hk1 hS => ?_)
    try dsimp only at h
    have hP : va_P D vwCl ((bX3 cI cJ cC a_w w_space w_beam w_door w_law w_used w_pipes w_drilled w_total w_open w_pipeInches w_pipeChances w_weights w_woods w_sums)) H := zKeep hP hk1
    refine lv_aload_n hx hb dX0_tenthsOf_21 rfl (lv_at hl 1 rfl) ?_
    refine lv_iload hx hb dX0_tenthsOf_22 (lv_at hl 0 rfl) ?_
    refine lv_iload_n hx hb dX0_tenthsOf_24 rfl (lv_at hl 3 rfl) ?_
    refine zci hA (hDD _ rfl) hS (zrunV (As := [.int r_1, .int p2]) (rest := [.int r_3, .int p1]) S hK hA hE hP (hDD _ rfl) hS (mX3_hasWood l D cI cJ cC G a_w _ w_space w_beam w_door w_law w_used w_pipes w_drilled w_total w_open w_pipeInches w_pipeChances w_weights w_woods w_sums r_1 p2 _ h) kX3_hasWood ml_X0_50 ⟨rfl, rfl, by decide, by decide⟩ (q0 := 0) (ci := 3) rfl rfl rfl rfl hl.1 rfl (Nat.le_of_ble_eq_true rfl) dX0_tenthsOf_25 ⟨Nat.zero_le _, Nat.zero_le _⟩) (fun r_4 u H locs h hP1 hk1 hS => ?_)
    try dsimp only at h
    have hP : va_P D vwCl ((bX3 cI cJ cC a_w w_space w_beam w_door w_law w_used w_pipes w_drilled w_total w_open w_pipeInches w_pipeChances w_weights w_woods w_sums)) H := hP1
    refine zci hA zD0 hS (zrunN (As := [.int p1, .int r_3, .int r_4]) (rest := []) S hK hA hE zP0 zD0 hS (mX4_tenths l D cI cJ cC G _ p1 r_3 r_4 _ h) kX4_tenths 12 rfl ⟨rfl, rfl, by decide, by decide⟩ rfl hl.1 rfl (Nat.le_of_ble_eq_true rfl) dX0_tenthsOf_28 ⟨Nat.zero_le _, Nat.zero_le _⟩) (fun r_5 u H locs h hP1 hk1 hS => ?_)
    try dsimp only at h
    have hP : va_P D vwCl ((bX3 cI cJ cC a_w w_space w_beam w_door w_law w_used w_pipes w_drilled w_total w_open w_pipeInches w_pipeChances w_weights w_woods w_sums)) H := zKeep hP hk1
    exact hret r_5 () _ _ _ _ rfl h hP hS dX0_tenthsOf_31
  · replace h := h.2 z
    refine lv_iconst (v := (0 : Int32)) hx hb dX0_tenthsOf_14 (by decide) ?_
    exact hret (0 : Int32) () _ _ _ _ rfl h hP hS dX0_tenthsOf_15
def lpX0_waysToTell_24 (K : Int64 → Int32 → Prop) (x2 : Int32) (x5 : Int32) (r_length : Int32) (r_numbers : Nat → Int32) (w_woods : Nat → Int32) : Nat → Int64 → Int32 → Prop
  | 0, _, _ => False
  | n + 1, x6, x8 => ((r_length ≤ x8 → (K x6 x8)) ∧ (¬ (r_length ≤ x8) → ((((8 : Int32) ≤ x8 → (K x6 x8)) ∧ (¬ ((8 : Int32) ≤ x8) → (vp_in x8 8 ∧ (wpX0_tenthsOf (fun (r_1 : Int32) => lpX0_waysToTell_24 K x2 x5 r_length r_numbers w_woods n (x6 * r_1.toInt64) (x8 + (1 : Int32))) w_woods x2 x5 (r_numbers x8.toNatClampNeg))))))))
set_option maxHeartbeats 4000000 in
set_option maxRecDepth 100000 in
theorem wX0_waysToTell_24 (l : Launch) (D : va_G) (cI cJ cC : ClassId) (G : Nat → Nat → Nat) (a_r : Nat → Nat) (a_w : Nat → Nat) {p : Program} {e : Env} {s : State} {m : MethodId} {below : List Frame} {meth : Method} {c : Code} {A : Nat → Prop} {Q : State → Prop} (p2 : Int32) (x2 : Int32) (x3 : Int64) (x5 : Int32) (r_length : Int32) (r_numbers : Nat → Int32) (w_space : Int32) (w_beam : Int32) (w_door : Int32) (w_law : Int32) (w_used : Int32) (w_pipes : Int32) (w_drilled : Int64) (w_total : Int64) (w_open : Int32) (w_pipeInches : Nat → Int32) (w_pipeChances : Nat → Int32) (w_weights : Nat → Int64) (w_woods : Nat → Int32) (w_sums : Nat → Int64) (K : Int64 → Int32 → Prop) (S : CallFix p m c cX0_waysToTell 9 s ([.ref (a_r 0), .ref (a_w 0), .int p2] : List Value).toArray bg RX0) (hK : va_K D vwCl (tz cI cJ cC) s) (hDD : ∀ ws : va_W, ws.map (fun q => q.1) = [a_r 0, a_r 1, a_w 0, a_w 1, a_w 2, a_w 3, a_w 4, a_w 5] → va_D A ws) (hA : ∀ q, s.heap.size ≤ q → A q) (hE : EV G A s) (hKK : ∀ (x6 : Int64) (x8 : Int32) (H : Heap) (locs : List Loc) (ls : Array Slot), K x6 x8 → va_P D vwCl ((bX0 cI cJ cC a_r r_length r_numbers) ++ (bX3 cI cJ cC a_w w_space w_beam w_door w_law w_used w_pipes w_drilled w_total w_open w_pipeInches w_pipeChances w_weights w_woods w_sums)) H → va_S A s.heap H locs → lv_has ls 9 [(0, .ref (a_r 0)), (1, .ref (a_w 0)), (2, .int x2), (3, .long x3), (5, .int x5), (6, .long x6)] → W p l e ({ frames := 3, cells := 0, slots := 0, locals := 67 }) s m ([.ref (a_r 0), .ref (a_w 0), .int p2] : List Value).toArray below meth c H locs 0 0 Q (F0 m 66 ls [])) :
    ∀ (n : Nat) (x6 : Int64) (x8 : Int32) (H : Heap) (locs : List Loc) (ls : Array Slot), lpX0_waysToTell_24 K x2 x5 r_length r_numbers w_woods n x6 x8 → va_P D vwCl ((bX0 cI cJ cC a_r r_length r_numbers) ++ (bX3 cI cJ cC a_w w_space w_beam w_door w_law w_used w_pipes w_drilled w_total w_open w_pipeInches w_pipeChances w_weights w_woods w_sums)) H → va_S A s.heap H locs → lv_has ls 9 [(0, .ref (a_r 0)), (1, .ref (a_w 0)), (2, .int x2), (3, .long x3), (5, .int x5), (6, .long x6), (8, .int x8)] → W p l e ({ frames := 3, cells := 0, slots := 0, locals := 67 }) s m ([.ref (a_r 0), .ref (a_w 0), .int p2] : List Value).toArray below meth c H locs 0 0 Q (F0 m 24 ls []) := by
  obtain ⟨hx, hb, hml, hown, ht⟩ := id S
  intro n
  induction n with
  | zero =>
    intro x6 x8 H locs ls h
    exact absurd h (by simp [lpX0_waysToTell_24])
  | succ n ih =>
    intro x6 x8 H locs ls h hP hS hl
    rw [lpX0_waysToTell_24] at h
    refine lv_iload hx hb dX0_waysToTell_24 (lv_at hl 6 rfl) ?_
    refine lv_aload_n hx hb dX0_waysToTell_26 rfl (lv_at hl 0 rfl) ?_
    refine va_get (D := D) (ci := 0) (v := .int r_length) (C := RX0) (T := TX0) (N := 2) hx hb ht inX0 hown hK hP 0 rfl rfl 1 (by decide) (ht _ fl_X0_15) (fun _ h9 => h9) rfl dX0_waysToTell_27 ?_
    refine lv_icmp_ge (tgt := 66) hx hb dX0_waysToTell_30 (by decide) (fun z => ?_) (fun z => ?_)
    · replace h := h.1 z
      exact hKK x6 x8 _ _ _ h hP hS (lv_sub hl [0, 1, 2, 3, 4, 5] rfl)
    · replace h := h.2 z
      refine lv_iload hx hb dX0_waysToTell_33 (lv_at hl 6 rfl) ?_
      refine lv_bipush (v := (8 : Int32)) hx hb dX0_waysToTell_35 (by decide) ?_
      refine lv_icmp_ge (tgt := 66) hx hb dX0_waysToTell_37 (by decide) (fun z => ?_) (fun z => ?_)
      · replace h := h.1 z
        exact hKK x6 x8 _ _ _ h hP hS (lv_sub hl [0, 1, 2, 3, 4, 5] rfl)
      · replace h := h.2 z
        refine lv_lload hx hb dX0_waysToTell_40 (lv_at hl 5 rfl) ?_
        refine lv_aload_n hx hb dX0_waysToTell_42 rfl (lv_at hl 1 rfl) ?_
        refine lv_iload_n hx hb dX0_waysToTell_43 rfl (lv_at hl 2 rfl) ?_
        refine lv_iload hx hb dX0_waysToTell_44 (lv_at hl 4 rfl) ?_
        refine lv_aload_n hx hb dX0_waysToTell_46 rfl (lv_at hl 0 rfl) ?_
        refine va_get (D := D) (ci := 0) (v := .ref (a_r 1)) (C := RX0) (T := TX0) (N := 2) hx hb ht inX0 hown hK hP 0 rfl rfl 0 (by decide) (ht _ fl_X0_9) (fun _ h9 => h9) rfl dX0_waysToTell_47 ?_
        refine lv_iload hx hb dX0_waysToTell_50 (lv_at hl 6 rfl) ?_
        obtain ⟨hin, h⟩ := h
        refine va_iald hx hb hK hP 1 0 rfl rfl hin dX0_waysToTell_52 ?_
        have hPw : va_P D vwCl ((bX3 cI cJ cC a_w w_space w_beam w_door w_law w_used w_pipes w_drilled w_total w_open w_pipeInches w_pipeChances w_weights w_woods w_sums)) _ := hP.sub [2, 3, 4, 5, 6, 7] rfl
        have hDw : va_D A ((bX3 cI cJ cC a_w w_space w_beam w_door w_law w_used w_pipes w_drilled w_total w_open w_pipeInches w_pipeChances w_weights w_woods w_sums)) := (hDD _ rfl).sub (ws := (bX0 cI cJ cC a_r r_length r_numbers) ++ (bX3 cI cJ cC a_w w_space w_beam w_door w_law w_used w_pipes w_drilled w_total w_open w_pipeInches w_pipeChances w_weights w_woods w_sums)) [2, 3, 4, 5, 6, 7] (by decide) rfl
        refine zci hA hDw hS (zrunS (As := [.ref (a_w 0), .int x2, .int x5, .int (r_numbers x8.toNatClampNeg)]) (rest := [.long x6]) S hK hA hE hPw hDw hS (mX0_tenthsOf l D cI cJ cC G a_w _ w_space w_beam w_door w_law w_used w_pipes w_drilled w_total w_open w_pipeInches w_pipeChances w_weights w_woods w_sums x2 x5 (r_numbers x8.toNatClampNeg) _ h) kX0_tenthsOf ml_X0_46 ⟨rfl, rfl, by decide, by decide⟩ rfl hl.1 rfl (Nat.le_of_ble_eq_true rfl) dX0_waysToTell_53 ⟨Nat.zero_le _, Nat.zero_le _⟩) (fun r_1 u H locs h hP1 hk1 hS => ?_)
        try dsimp only at h
        have hP : va_P D vwCl ((bX0 cI cJ cC a_r r_length r_numbers) ++ (bX3 cI cJ cC a_w w_space w_beam w_door w_law w_used w_pipes w_drilled w_total w_open w_pipeInches w_pipeChances w_weights w_woods w_sums)) H := zMerge hP (hDD _ rfl) [2, 3, 4, 5, 6, 7] rfl rfl hk1 hP1
        refine lv_i2l hx hb dX0_waysToTell_56 rfl ?_
        refine lv_lmul hx hb dX0_waysToTell_57 ?_
        refine lv_lstore (lv' := [(6, .long (x6 * r_1.toInt64)), (0, .ref (a_r 0)), (1, .ref (a_w 0)), (2, .int x2), (3, .long x3), (5, .int x5), (8, .int x8)]) hx hb dX0_waysToTell_58 hl (by decide) rfl (fun ls hl => ?_)
        refine lv_iinc (v := x8 + (1 : Int32)) (lv' := [(8, .int (x8 + (1 : Int32))), (6, .long (x6 * r_1.toInt64)), (0, .ref (a_r 0)), (1, .ref (a_w 0)), (2, .int x2), (3, .long x3), (5, .int x5)]) hx hb dX0_waysToTell_60 hl (k := 6) rfl (by rfl) (by decide) rfl (fun ls hl => ?_)
        refine lv_goto (tgt := 24) hx hb dX0_waysToTell_63 (by decide) ?_
        exact ih (x6 * r_1.toInt64) (x8 + (1 : Int32)) _ _ _ h hP hS (lv_sub hl [2, 3, 4, 5, 6, 1, 0] rfl)
def lpX0_waysToTell_5 (K : Int64 → Int32 → Prop) (x2 : Int32) (r_length : Int32) (r_numbers : Nat → Int32) (w_weights : Nat → Int64) (w_woods : Nat → Int32) : Nat → Int64 → Int32 → Prop
  | 0, _, _ => False
  | n + 1, x3, x5 => (((24 : Int32) ≤ x5 → (K x3 x5)) ∧ (¬ ((24 : Int32) ≤ x5) → (vp_in x5 24 ∧ (∃ n_2 : Nat, lpX0_waysToTell_24 (fun (x6_3 : Int64) (x8_4 : Int32) => lpX0_waysToTell_5 K x2 r_length r_numbers w_weights w_woods n (x3 + x6_3) (x5 + (1 : Int32))) x2 x5 r_length r_numbers w_woods n_2 (w_weights x5.toNatClampNeg) (0 : Int32)))))
set_option maxHeartbeats 4000000 in
set_option maxRecDepth 100000 in
theorem wX0_waysToTell_5 (l : Launch) (D : va_G) (cI cJ cC : ClassId) (G : Nat → Nat → Nat) (a_r : Nat → Nat) (a_w : Nat → Nat) {p : Program} {e : Env} {s : State} {m : MethodId} {below : List Frame} {meth : Method} {c : Code} {A : Nat → Prop} {Q : State → Prop} (p2 : Int32) (x2 : Int32) (r_length : Int32) (r_numbers : Nat → Int32) (w_space : Int32) (w_beam : Int32) (w_door : Int32) (w_law : Int32) (w_used : Int32) (w_pipes : Int32) (w_drilled : Int64) (w_total : Int64) (w_open : Int32) (w_pipeInches : Nat → Int32) (w_pipeChances : Nat → Int32) (w_weights : Nat → Int64) (w_woods : Nat → Int32) (w_sums : Nat → Int64) (K : Int64 → Int32 → Prop) (S : CallFix p m c cX0_waysToTell 9 s ([.ref (a_r 0), .ref (a_w 0), .int p2] : List Value).toArray bg RX0) (hK : va_K D vwCl (tz cI cJ cC) s) (hDD : ∀ ws : va_W, ws.map (fun q => q.1) = [a_r 0, a_r 1, a_w 0, a_w 1, a_w 2, a_w 3, a_w 4, a_w 5] → va_D A ws) (hA : ∀ q, s.heap.size ≤ q → A q) (hE : EV G A s) (hKK : ∀ (x3 : Int64) (x5 : Int32) (H : Heap) (locs : List Loc) (ls : Array Slot), K x3 x5 → va_P D vwCl ((bX0 cI cJ cC a_r r_length r_numbers) ++ (bX3 cI cJ cC a_w w_space w_beam w_door w_law w_used w_pipes w_drilled w_total w_open w_pipeInches w_pipeChances w_weights w_woods w_sums)) H → va_S A s.heap H locs → lv_has ls 9 [(3, .long x3)] → W p l e ({ frames := 3, cells := 0, slots := 0, locals := 67 }) s m ([.ref (a_r 0), .ref (a_w 0), .int p2] : List Value).toArray below meth c H locs 0 0 Q (F0 m 77 ls [])) :
    ∀ (n : Nat) (x3 : Int64) (x5 : Int32) (H : Heap) (locs : List Loc) (ls : Array Slot), lpX0_waysToTell_5 K x2 r_length r_numbers w_weights w_woods n x3 x5 → va_P D vwCl ((bX0 cI cJ cC a_r r_length r_numbers) ++ (bX3 cI cJ cC a_w w_space w_beam w_door w_law w_used w_pipes w_drilled w_total w_open w_pipeInches w_pipeChances w_weights w_woods w_sums)) H → va_S A s.heap H locs → lv_has ls 9 [(0, .ref (a_r 0)), (1, .ref (a_w 0)), (2, .int x2), (3, .long x3), (5, .int x5)] → W p l e ({ frames := 3, cells := 0, slots := 0, locals := 67 }) s m ([.ref (a_r 0), .ref (a_w 0), .int p2] : List Value).toArray below meth c H locs 0 0 Q (F0 m 5 ls []) := by
  obtain ⟨hx, hb, hml, hown, ht⟩ := id S
  intro n
  induction n with
  | zero =>
    intro x3 x5 H locs ls h
    exact absurd h (by simp [lpX0_waysToTell_5])
  | succ n ih =>
    intro x3 x5 H locs ls h hP hS hl
    rw [lpX0_waysToTell_5] at h
    refine lv_iload hx hb dX0_waysToTell_5 (lv_at hl 4 rfl) ?_
    refine lv_bipush (v := (24 : Int32)) hx hb dX0_waysToTell_7 (by decide) ?_
    refine lv_icmp_ge (tgt := 77) hx hb dX0_waysToTell_9 (by decide) (fun z => ?_) (fun z => ?_)
    · replace h := h.1 z
      exact hKK x3 x5 _ _ _ h hP hS (lv_sub hl [3] rfl)
    · replace h := h.2 z
      refine lv_aload_n hx hb dX0_waysToTell_12 rfl (lv_at hl 1 rfl) ?_
      refine va_get (D := D) (ci := 3) (v := .ref (a_w 3)) (C := RX3) (T := TX3) (N := 14) hx hb ht inX3 hown hK hP 2 rfl rfl 9 (by decide) (ht _ fl_X0_42) (fun _ h9 => h9) rfl dX0_waysToTell_13 ?_
      refine lv_iload hx hb dX0_waysToTell_16 (lv_at hl 4 rfl) ?_
      obtain ⟨hin, h⟩ := h
      refine va_lald hx hb hK hP 5 1 rfl rfl hin dX0_waysToTell_18 ?_
      refine lv_lstore (lv' := [(6, .long (w_weights x5.toNatClampNeg)), (0, .ref (a_r 0)), (1, .ref (a_w 0)), (2, .int x2), (3, .long x3), (5, .int x5)]) hx hb dX0_waysToTell_19 hl (by decide) rfl (fun ls hl => ?_)
      refine lv_iconst (v := (0 : Int32)) hx hb dX0_waysToTell_21 (by decide) ?_
      refine lv_istore (lv' := [(8, .int (0 : Int32)), (6, .long (w_weights x5.toNatClampNeg)), (0, .ref (a_r 0)), (1, .ref (a_w 0)), (2, .int x2), (3, .long x3), (5, .int x5)]) hx hb dX0_waysToTell_22 hl (by decide) rfl (fun ls hl => ?_)
      obtain ⟨n_2, h⟩ := h
      refine wX0_waysToTell_24 l D cI cJ cC G a_r a_w p2 x2 x3 x5 r_length r_numbers w_space w_beam w_door w_law w_used w_pipes w_drilled w_total w_open w_pipeInches w_pipeChances w_weights w_woods w_sums _ S hK hDD hA hE (fun x6_3 x8_4 H locs ls h hP hS hl => ?_) n_2 (w_weights x5.toNatClampNeg) (0 : Int32) _ _ _ h hP hS (lv_sub hl [2, 3, 4, 5, 6, 1, 0] rfl)
      try dsimp only at h
      refine lv_lload_n hx hb dX0_waysToTell_66 rfl (lv_at hl 3 rfl) ?_
      refine lv_lload hx hb dX0_waysToTell_67 (lv_at hl 5 rfl) ?_
      refine lv_ladd hx hb dX0_waysToTell_69 ?_
      refine lv_lstore_n (lv' := [(3, .long (x3 + x6_3)), (0, .ref (a_r 0)), (1, .ref (a_w 0)), (2, .int x2), (5, .int x5), (6, .long x6_3)]) hx hb dX0_waysToTell_70 rfl hl (by decide) rfl (fun ls hl => ?_)
      refine lv_iinc (v := x5 + (1 : Int32)) (lv' := [(5, .int (x5 + (1 : Int32))), (3, .long (x3 + x6_3)), (0, .ref (a_r 0)), (1, .ref (a_w 0)), (2, .int x2), (6, .long x6_3)]) hx hb dX0_waysToTell_71 hl (k := 4) rfl (by rfl) (by decide) rfl (fun ls hl => ?_)
      refine lv_goto (tgt := 5) hx hb dX0_waysToTell_74 (by decide) ?_
      exact ih (x3 + x6_3) (x5 + (1 : Int32)) _ _ _ h hP hS (lv_sub hl [2, 3, 4, 1, 0] rfl)
def wpX0_waysToTell (post : Int64 → Prop) (r_length : Int32) (r_numbers : Nat → Int32) (w_weights : Nat → Int64) (w_woods : Nat → Int32) (p2 : Int32) : Prop := ∃ n_5 : Nat, lpX0_waysToTell_5 (fun (x3_6 : Int64) (x5_7 : Int32) => post x3_6) p2 r_length r_numbers w_weights w_woods n_5 (0 : Int64) (0 : Int32)
set_option maxHeartbeats 4000000 in
set_option maxRecDepth 100000 in
theorem mX0_waysToTell (l : Launch) (D : va_G) (cI cJ cC : ClassId) (G : Nat → Nat → Nat) (a_r : Nat → Nat) (a_w : Nat → Nat) (sz : Nat) (r_length : Int32) (r_numbers : Nat → Int32) (w_space : Int32) (w_beam : Int32) (w_door : Int32) (w_law : Int32) (w_used : Int32) (w_pipes : Int32) (w_drilled : Int64) (w_total : Int64) (w_open : Int32) (w_pipeInches : Nat → Int32) (w_pipeChances : Nat → Int32) (w_weights : Nat → Int64) (w_woods : Nat → Int32) (w_sums : Nat → Int64) (p2 : Int32) (post : Int64 → Prop) (h : wpX0_waysToTell post r_length r_numbers w_weights w_woods p2) : Met l yX0_waysToTell (wz yX0_waysToTell cX0_waysToTell 9 (some .long)) ({ frames := 3, cells := 0, slots := 0, locals := 67 }) (va_Pc [.ref (a_r 0), .ref (a_w 0), .int p2] (PW D (tz cI cJ cC) G ((bX0 cI cJ cC a_r r_length r_numbers) ++ (bX3 cI cJ cC a_w w_space w_beam w_door w_law w_used w_pipes w_drilled w_total w_open w_pipeInches w_pipeChances w_weights w_woods w_sums)) sz)) (va_Ql (fun (r : Int64) (u : Unit) => post r ) (fun (u : Unit) t => va_P D vwCl ((bX0 cI cJ cC a_r r_length r_numbers) ++ (bX3 cI cJ cC a_w w_space w_beam w_door w_law w_used w_pipes w_drilled w_total w_open w_pipeInches w_pipeChances w_weights w_woods w_sums)) t.heap) (va_A ((bX0 cI cJ cC a_r r_length r_numbers) ++ (bX3 cI cJ cC a_w w_space w_beam w_door w_law w_used w_pipes w_drilled w_total w_open w_pipeInches w_pipeChances w_weights w_woods w_sums)) sz)) 0 0 (va_A ((bX0 cI cJ cC a_r r_length r_numbers) ++ (bX3 cI cJ cC a_w w_space w_beam w_door w_law w_used w_pipes w_drilled w_total w_open w_pipeInches w_pipeChances w_weights w_woods w_sums)) sz) := by
  refine zml (gw := fun (u : Unit) => (bX0 cI cJ cC a_r r_length r_numbers) ++ (bX3 cI cJ cC a_w w_space w_beam w_door w_law w_used w_pipes w_drilled w_total w_open w_pipeInches w_pipeChances w_weights w_woods w_sums)) (plainFor_of_name (by decide)) (Nat.le_of_ble_eq_true rfl) ?_
  intro p e s m below meth c A Q ls S hK hD hA hE hP hl hret
  obtain ⟨hx, hb, hml, hown, ht⟩ := id S
  have hS : va_S A s.heap s.heap [] := va_S.rf
  have hDD : ∀ ws : va_W, ws.map (fun q => q.1) = [a_r 0, a_r 1, a_w 0, a_w 1, a_w 2, a_w 3, a_w 4, a_w 5] → va_D A ws := fun ws hw => zD hD (hw.trans rfl)
  have hl : lv_has ls 9 [(0, .ref (a_r 0)), (1, .ref (a_w 0)), (2, .int p2)] := hl
  unfold wpX0_waysToTell at h
  refine lv_lconst (v := (0 : Int64)) hx hb dX0_waysToTell_0 (by decide) ?_
  refine lv_lstore_n (lv' := [(3, .long (0 : Int64)), (0, .ref (a_r 0)), (1, .ref (a_w 0)), (2, .int p2)]) hx hb dX0_waysToTell_1 rfl hl (by decide) rfl (fun ls hl => ?_)
  refine lv_iconst (v := (0 : Int32)) hx hb dX0_waysToTell_2 (by decide) ?_
  refine lv_istore (lv' := [(5, .int (0 : Int32)), (3, .long (0 : Int64)), (0, .ref (a_r 0)), (1, .ref (a_w 0)), (2, .int p2)]) hx hb dX0_waysToTell_3 hl (by decide) rfl (fun ls hl => ?_)
  obtain ⟨n_5, h⟩ := h
  refine wX0_waysToTell_5 l D cI cJ cC G a_r a_w p2 p2 r_length r_numbers w_space w_beam w_door w_law w_used w_pipes w_drilled w_total w_open w_pipeInches w_pipeChances w_weights w_woods w_sums _ S hK hDD hA hE (fun x3_6 x5_7 H locs ls h hP hS hl => ?_) n_5 (0 : Int64) (0 : Int32) _ _ _ h hP hS (lv_sub hl [2, 3, 4, 1, 0] rfl)
  try dsimp only at h
  refine lv_lload_n hx hb dX0_waysToTell_77 rfl (lv_at hl 0 rfl) ?_
  exact hret x3_6 () _ _ _ _ h hP hS dX0_waysToTell_78
def lpX0_allWays_8 (K : Int64 → Int32 → Prop) (r_length : Int32) : Nat → Int64 → Int32 → Prop
  | 0, _, _ => False
  | n + 1, x2, x4 => ((r_length ≤ x4 → (K x2 x4)) ∧ (¬ (r_length ≤ x4) → ((((8 : Int32) ≤ x4 → (K x2 x4)) ∧ (¬ ((8 : Int32) ≤ x4) → (lpX0_allWays_8 K r_length n (x2 * (10 : Int64)) (x4 + (1 : Int32))))))))
set_option maxHeartbeats 4000000 in
set_option maxRecDepth 100000 in
theorem wX0_allWays_8 (l : Launch) (D : va_G) (cI cJ cC : ClassId) (G : Nat → Nat → Nat) (a_r : Nat → Nat) (a_w : Nat → Nat) {p : Program} {e : Env} {s : State} {m : MethodId} {below : List Frame} {meth : Method} {c : Code} {A : Nat → Prop} {Q : State → Prop} (r_length : Int32) (r_numbers : Nat → Int32) (w_space : Int32) (w_beam : Int32) (w_door : Int32) (w_law : Int32) (w_used : Int32) (w_pipes : Int32) (w_drilled : Int64) (w_total : Int64) (w_open : Int32) (w_pipeInches : Nat → Int32) (w_pipeChances : Nat → Int32) (w_weights : Nat → Int64) (w_woods : Nat → Int32) (w_sums : Nat → Int64) (K : Int64 → Int32 → Prop) (S : CallFix p m c cX0_allWays 5 s ([.ref (a_r 0), .ref (a_w 0)] : List Value).toArray bg RX0) (hK : va_K D vwCl (tz cI cJ cC) s) (hDD : ∀ ws : va_W, ws.map (fun q => q.1) = [a_r 0, a_r 1, a_w 0, a_w 1, a_w 2, a_w 3, a_w 4, a_w 5] → va_D A ws) (hA : ∀ q, s.heap.size ≤ q → A q) (hE : EV G A s) (hKK : ∀ (x2 : Int64) (x4 : Int32) (H : Heap) (locs : List Loc) (ls : Array Slot), K x2 x4 → va_P D vwCl ((bX0 cI cJ cC a_r r_length r_numbers) ++ (bX3 cI cJ cC a_w w_space w_beam w_door w_law w_used w_pipes w_drilled w_total w_open w_pipeInches w_pipeChances w_weights w_woods w_sums)) H → va_S A s.heap H locs → lv_has ls 5 [(2, .long x2)] → W p l e ({ frames := 0, cells := 0, slots := 0, locals := 0 }) s m ([.ref (a_r 0), .ref (a_w 0)] : List Value).toArray below meth c H locs 0 0 Q (F0 m 36 ls [])) :
    ∀ (n : Nat) (x2 : Int64) (x4 : Int32) (H : Heap) (locs : List Loc) (ls : Array Slot), lpX0_allWays_8 K r_length n x2 x4 → va_P D vwCl ((bX0 cI cJ cC a_r r_length r_numbers) ++ (bX3 cI cJ cC a_w w_space w_beam w_door w_law w_used w_pipes w_drilled w_total w_open w_pipeInches w_pipeChances w_weights w_woods w_sums)) H → va_S A s.heap H locs → lv_has ls 5 [(0, .ref (a_r 0)), (2, .long x2), (4, .int x4)] → W p l e ({ frames := 0, cells := 0, slots := 0, locals := 0 }) s m ([.ref (a_r 0), .ref (a_w 0)] : List Value).toArray below meth c H locs 0 0 Q (F0 m 8 ls []) := by
  obtain ⟨hx, hb, hml, hown, ht⟩ := id S
  intro n
  induction n with
  | zero =>
    intro x2 x4 H locs ls h
    exact absurd h (by simp [lpX0_allWays_8])
  | succ n ih =>
    intro x2 x4 H locs ls h hP hS hl
    rw [lpX0_allWays_8] at h
    refine lv_iload hx hb dX0_allWays_8 (lv_at hl 2 rfl) ?_
    refine lv_aload_n hx hb dX0_allWays_10 rfl (lv_at hl 0 rfl) ?_
    refine va_get (D := D) (ci := 0) (v := .int r_length) (C := RX0) (T := TX0) (N := 2) hx hb ht inX0 hown hK hP 0 rfl rfl 1 (by decide) (ht _ fl_X0_15) (fun _ h9 => h9) rfl dX0_allWays_11 ?_
    refine lv_icmp_ge (tgt := 36) hx hb dX0_allWays_14 (by decide) (fun z => ?_) (fun z => ?_)
    · replace h := h.1 z
      exact hKK x2 x4 _ _ _ h hP hS (lv_sub hl [1] rfl)
    · replace h := h.2 z
      refine lv_iload hx hb dX0_allWays_17 (lv_at hl 2 rfl) ?_
      refine lv_bipush (v := (8 : Int32)) hx hb dX0_allWays_19 (by decide) ?_
      refine lv_icmp_ge (tgt := 36) hx hb dX0_allWays_21 (by decide) (fun z => ?_) (fun z => ?_)
      · replace h := h.1 z
        exact hKK x2 x4 _ _ _ h hP hS (lv_sub hl [1] rfl)
      · replace h := h.2 z
        refine lv_lload_n hx hb dX0_allWays_24 rfl (lv_at hl 1 rfl) ?_
        refine lv_ldc2 hx hb hown (ht _ kc_X0_62) dX0_allWays_25 ?_
        refine lv_lmul hx hb dX0_allWays_28 ?_
        refine lv_lstore_n (lv' := [(2, .long (x2 * (10 : Int64))), (0, .ref (a_r 0)), (4, .int x4)]) hx hb dX0_allWays_29 rfl hl (by decide) rfl (fun ls hl => ?_)
        refine lv_iinc (v := x4 + (1 : Int32)) (lv' := [(4, .int (x4 + (1 : Int32))), (2, .long (x2 * (10 : Int64))), (0, .ref (a_r 0))]) hx hb dX0_allWays_30 hl (k := 2) rfl (by rfl) (by decide) rfl (fun ls hl => ?_)
        refine lv_goto (tgt := 8) hx hb dX0_allWays_33 (by decide) ?_
        exact ih (x2 * (10 : Int64)) (x4 + (1 : Int32)) _ _ _ h hP hS (lv_sub hl [2, 1, 0] rfl)
def wpX0_allWays (post : Int64 → Prop) (r_length : Int32) (w_total : Int64) : Prop := ∃ n_1 : Nat, lpX0_allWays_8 (fun (x2_2 : Int64) (x4_3 : Int32) => post x2_2) r_length n_1 w_total (0 : Int32)
set_option maxHeartbeats 4000000 in
set_option maxRecDepth 100000 in
theorem mX0_allWays (l : Launch) (D : va_G) (cI cJ cC : ClassId) (G : Nat → Nat → Nat) (a_r : Nat → Nat) (a_w : Nat → Nat) (sz : Nat) (r_length : Int32) (r_numbers : Nat → Int32) (w_space : Int32) (w_beam : Int32) (w_door : Int32) (w_law : Int32) (w_used : Int32) (w_pipes : Int32) (w_drilled : Int64) (w_total : Int64) (w_open : Int32) (w_pipeInches : Nat → Int32) (w_pipeChances : Nat → Int32) (w_weights : Nat → Int64) (w_woods : Nat → Int32) (w_sums : Nat → Int64) (post : Int64 → Prop) (h : wpX0_allWays post r_length w_total) : Met l yX0_allWays (wz yX0_allWays cX0_allWays 5 (some .long)) ({ frames := 0, cells := 0, slots := 0, locals := 0 }) (va_Pc [.ref (a_r 0), .ref (a_w 0)] (PW D (tz cI cJ cC) G ((bX0 cI cJ cC a_r r_length r_numbers) ++ (bX3 cI cJ cC a_w w_space w_beam w_door w_law w_used w_pipes w_drilled w_total w_open w_pipeInches w_pipeChances w_weights w_woods w_sums)) sz)) (va_Ql (fun (r : Int64) (u : Unit) => post r ) (fun (u : Unit) t => va_P D vwCl ((bX0 cI cJ cC a_r r_length r_numbers) ++ (bX3 cI cJ cC a_w w_space w_beam w_door w_law w_used w_pipes w_drilled w_total w_open w_pipeInches w_pipeChances w_weights w_woods w_sums)) t.heap) (va_A ((bX0 cI cJ cC a_r r_length r_numbers) ++ (bX3 cI cJ cC a_w w_space w_beam w_door w_law w_used w_pipes w_drilled w_total w_open w_pipeInches w_pipeChances w_weights w_woods w_sums)) sz)) 0 0 (va_A ((bX0 cI cJ cC a_r r_length r_numbers) ++ (bX3 cI cJ cC a_w w_space w_beam w_door w_law w_used w_pipes w_drilled w_total w_open w_pipeInches w_pipeChances w_weights w_woods w_sums)) sz) := by
  refine zml (gw := fun (u : Unit) => (bX0 cI cJ cC a_r r_length r_numbers) ++ (bX3 cI cJ cC a_w w_space w_beam w_door w_law w_used w_pipes w_drilled w_total w_open w_pipeInches w_pipeChances w_weights w_woods w_sums)) (plainFor_of_name (by decide)) (Nat.le_of_ble_eq_true rfl) ?_
  intro p e s m below meth c A Q ls S hK hD hA hE hP hl hret
  obtain ⟨hx, hb, hml, hown, ht⟩ := id S
  have hS : va_S A s.heap s.heap [] := va_S.rf
  have hDD : ∀ ws : va_W, ws.map (fun q => q.1) = [a_r 0, a_r 1, a_w 0, a_w 1, a_w 2, a_w 3, a_w 4, a_w 5] → va_D A ws := fun ws hw => zD hD (hw.trans rfl)
  have hl : lv_has ls 5 [(0, .ref (a_r 0)), (1, .ref (a_w 0))] := hl
  unfold wpX0_allWays at h
  refine lv_aload_n hx hb dX0_allWays_0 rfl (lv_at hl 1 rfl) ?_
  refine va_get (D := D) (ci := 3) (v := .long w_total) (C := RX3) (T := TX3) (N := 14) hx hb ht inX3 hown hK hP 2 rfl rfl 12 (by decide) (ht _ fl_X0_58) (fun _ h9 => h9) rfl dX0_allWays_1 ?_
  refine lv_lstore_n (lv' := [(2, .long w_total), (0, .ref (a_r 0)), (1, .ref (a_w 0))]) hx hb dX0_allWays_4 rfl hl (by decide) rfl (fun ls hl => ?_)
  refine lv_iconst (v := (0 : Int32)) hx hb dX0_allWays_5 (by decide) ?_
  refine lv_istore (lv' := [(4, .int (0 : Int32)), (2, .long w_total), (0, .ref (a_r 0)), (1, .ref (a_w 0))]) hx hb dX0_allWays_6 hl (by decide) rfl (fun ls hl => ?_)
  obtain ⟨n_1, h⟩ := h
  refine wX0_allWays_8 l D cI cJ cC G a_r a_w r_length r_numbers w_space w_beam w_door w_law w_used w_pipes w_drilled w_total w_open w_pipeInches w_pipeChances w_weights w_woods w_sums _ S hK hDD hA hE (fun x2_2 x4_3 H locs ls h hP hS hl => ?_) n_1 w_total (0 : Int32) _ _ _ h hP hS (lv_sub hl [2, 1, 0] rfl)
  try dsimp only at h
  refine lv_lload_n hx hb dX0_allWays_36 rfl (lv_at hl 0 rfl) ?_
  exact hret x2_2 () _ _ _ _ h hP hS dX0_allWays_37
def lpX1_gatherUnlike_18 (K : Int32 → Int32 → Prop) (x2 : Int32) (c_unlikes : Int32) (c_unlike : Nat → Int32) (w_woods : Nat → Int32) : Nat → Int32 → Int32 → Prop
  | 0, _, _ => False
  | n + 1, x3, x4 => ((c_unlikes ≤ x4 → (K x3 x4)) ∧ (¬ (c_unlikes ≤ x4) → ((((48 : Int32) ≤ x4 → (K x3 x4)) ∧ (¬ ((48 : Int32) ≤ x4) → (((x3 = (0 : Int32) → (K x3 x4)) ∧ (¬ (x3 = (0 : Int32)) → (vp_in x4 48 ∧ (vp_in (c_unlike x4.toNatClampNeg) 48 ∧ (vp_in x2 48 ∧ ((((w_woods (c_unlike x4.toNatClampNeg).toNatClampNeg) = (w_woods x2.toNatClampNeg) → (lpX1_gatherUnlike_18 K x2 c_unlikes c_unlike w_woods n (0 : Int32) (x4 + (1 : Int32)))) ∧ (¬ ((w_woods (c_unlike x4.toNatClampNeg).toNatClampNeg) = (w_woods x2.toNatClampNeg)) → (lpX1_gatherUnlike_18 K x2 c_unlikes c_unlike w_woods n (1 : Int32) (x4 + (1 : Int32)))))))))))))))))
set_option maxHeartbeats 4000000 in
set_option maxRecDepth 100000 in
theorem wX1_gatherUnlike_18 (l : Launch) (D : va_G) (cI cJ cC : ClassId) (G : Nat → Nat → Nat) (a_c : Nat → Nat) (a_w : Nat → Nat) {p : Program} {e : Env} {s : State} {m : MethodId} {below : List Frame} {meth : Method} {c : Code} {A : Nat → Prop} {Q : State → Prop} (x2 : Int32) (c_inch : Int32) (c_gain : Int64) (c_unlikes : Int32) (c_unlike : Nat → Int32) (c_shared : Nat → Int64) (w_space : Int32) (w_beam : Int32) (w_door : Int32) (w_law : Int32) (w_used : Int32) (w_pipes : Int32) (w_drilled : Int64) (w_total : Int64) (w_open : Int32) (w_pipeInches : Nat → Int32) (w_pipeChances : Nat → Int32) (w_weights : Nat → Int64) (w_woods : Nat → Int32) (w_sums : Nat → Int64) (K : Int32 → Int32 → Prop) (S : CallFix p m c cX1_gatherUnlike 5 s ([.ref (a_c 0), .ref (a_w 0)] : List Value).toArray bg RX1) (hK : va_K D vwCl (tz cI cJ cC) s) (hDD : ∀ ws : va_W, ws.map (fun q => q.1) = [a_c 0, a_c 1, a_c 2, a_w 0, a_w 1, a_w 2, a_w 3, a_w 4, a_w 5] → va_D A ws) (hA : ∀ q, s.heap.size ≤ q → A q) (hE : EV G A s) (hKK : ∀ (x3 : Int32) (x4 : Int32) (H : Heap) (locs : List Loc) (ls : Array Slot), K x3 x4 → va_P D vwCl ((bX1 cI cJ cC a_c c_inch c_gain c_unlikes c_unlike c_shared) ++ (bX3 cI cJ cC a_w w_space w_beam w_door w_law w_used w_pipes w_drilled w_total w_open w_pipeInches w_pipeChances w_weights w_woods w_sums)) H → va_S A s.heap H locs → lv_has ls 5 [(0, .ref (a_c 0)), (1, .ref (a_w 0)), (2, .int x2), (3, .int x3)] → W p l e ({ frames := 0, cells := 0, slots := 0, locals := 0 }) s m ([.ref (a_c 0), .ref (a_w 0)] : List Value).toArray below meth c H locs 0 0 Q (F0 m 71 ls [])) :
    ∀ (n : Nat) (x3 : Int32) (x4 : Int32) (H : Heap) (locs : List Loc) (ls : Array Slot), lpX1_gatherUnlike_18 K x2 c_unlikes c_unlike w_woods n x3 x4 → va_P D vwCl ((bX1 cI cJ cC a_c c_inch c_gain c_unlikes c_unlike c_shared) ++ (bX3 cI cJ cC a_w w_space w_beam w_door w_law w_used w_pipes w_drilled w_total w_open w_pipeInches w_pipeChances w_weights w_woods w_sums)) H → va_S A s.heap H locs → lv_has ls 5 [(0, .ref (a_c 0)), (1, .ref (a_w 0)), (2, .int x2), (3, .int x3), (4, .int x4)] → W p l e ({ frames := 0, cells := 0, slots := 0, locals := 0 }) s m ([.ref (a_c 0), .ref (a_w 0)] : List Value).toArray below meth c H locs 0 0 Q (F0 m 18 ls []) := by
  obtain ⟨hx, hb, hml, hown, ht⟩ := id S
  intro n
  induction n with
  | zero =>
    intro x3 x4 H locs ls h
    exact absurd h (by simp [lpX1_gatherUnlike_18])
  | succ n ih =>
    intro x3 x4 H locs ls h hP hS hl
    rw [lpX1_gatherUnlike_18] at h
    refine lv_iload hx hb dX1_gatherUnlike_18 (lv_at hl 4 rfl) ?_
    refine lv_aload_n hx hb dX1_gatherUnlike_20 rfl (lv_at hl 0 rfl) ?_
    refine va_get (D := D) (ci := 1) (v := .int c_unlikes) (C := RX1) (T := TX1) (N := 5) hx hb ht inX1 hown hK hP 0 rfl rfl 3 (by decide) (ht _ fl_X1_23) (fun _ h9 => h9) rfl dX1_gatherUnlike_21 ?_
    refine lv_icmp_ge (tgt := 71) hx hb dX1_gatherUnlike_24 (by decide) (fun z => ?_) (fun z => ?_)
    · replace h := h.1 z
      exact hKK x3 x4 _ _ _ h hP hS (lv_sub hl [0, 1, 2, 3] rfl)
    · replace h := h.2 z
      refine lv_iload hx hb dX1_gatherUnlike_27 (lv_at hl 4 rfl) ?_
      refine lv_bipush (v := (48 : Int32)) hx hb dX1_gatherUnlike_29 (by decide) ?_
      refine lv_icmp_ge (tgt := 71) hx hb dX1_gatherUnlike_31 (by decide) (fun z => ?_) (fun z => ?_)
      · replace h := h.1 z
        exact hKK x3 x4 _ _ _ h hP hS (lv_sub hl [0, 1, 2, 3] rfl)
      · replace h := h.2 z
        refine lv_iload_n hx hb dX1_gatherUnlike_34 rfl (lv_at hl 3 rfl) ?_
        refine lv_if_eq (tgt := 71) hx hb dX1_gatherUnlike_35 (by decide) (fun z => ?_) (fun z => ?_)
        · replace h := h.1 z
          exact hKK x3 x4 _ _ _ h hP hS (lv_sub hl [0, 1, 2, 3] rfl)
        · replace h := h.2 z
          refine lv_aload_n hx hb dX1_gatherUnlike_38 rfl (lv_at hl 1 rfl) ?_
          refine va_get (D := D) (ci := 3) (v := .ref (a_w 4)) (C := RX3) (T := TX3) (N := 14) hx hb ht inX3 hown hK hP 3 rfl rfl 10 (by decide) (ht _ fl_X1_55) (fun _ h9 => h9) rfl dX1_gatherUnlike_39 ?_
          refine lv_aload_n hx hb dX1_gatherUnlike_42 rfl (lv_at hl 0 rfl) ?_
          refine va_get (D := D) (ci := 1) (v := .ref (a_c 1)) (C := RX1) (T := TX1) (N := 5) hx hb ht inX1 hown hK hP 0 rfl rfl 2 (by decide) (ht _ fl_X1_19) (fun _ h9 => h9) rfl dX1_gatherUnlike_43 ?_
          refine lv_iload hx hb dX1_gatherUnlike_46 (lv_at hl 4 rfl) ?_
          obtain ⟨hin, h⟩ := h
          refine va_iald hx hb hK hP 1 0 rfl rfl hin dX1_gatherUnlike_48 ?_
          obtain ⟨hin, h⟩ := h
          refine va_iald hx hb hK hP 7 0 rfl rfl hin dX1_gatherUnlike_49 ?_
          refine lv_aload_n hx hb dX1_gatherUnlike_50 rfl (lv_at hl 1 rfl) ?_
          refine va_get (D := D) (ci := 3) (v := .ref (a_w 4)) (C := RX3) (T := TX3) (N := 14) hx hb ht inX3 hown hK hP 3 rfl rfl 10 (by decide) (ht _ fl_X1_55) (fun _ h9 => h9) rfl dX1_gatherUnlike_51 ?_
          refine lv_iload_n hx hb dX1_gatherUnlike_54 rfl (lv_at hl 2 rfl) ?_
          obtain ⟨hin, h⟩ := h
          refine va_iald hx hb hK hP 7 0 rfl rfl hin dX1_gatherUnlike_55 ?_
          refine lv_icmp_eq (tgt := 63) hx hb dX1_gatherUnlike_56 (by decide) (fun z => ?_) (fun z => ?_)
          · replace h := h.1 z
            refine lv_iconst (v := (0 : Int32)) hx hb dX1_gatherUnlike_63 (by decide) ?_
            refine lv_istore_n (lv' := [(3, .int (0 : Int32)), (0, .ref (a_c 0)), (1, .ref (a_w 0)), (2, .int x2), (4, .int x4)]) hx hb dX1_gatherUnlike_64 rfl hl (by decide) rfl (fun ls hl => ?_)
            refine lv_iinc (v := x4 + (1 : Int32)) (lv' := [(4, .int (x4 + (1 : Int32))), (3, .int (0 : Int32)), (0, .ref (a_c 0)), (1, .ref (a_w 0)), (2, .int x2)]) hx hb dX1_gatherUnlike_65 hl (k := 4) rfl (by rfl) (by decide) rfl (fun ls hl => ?_)
            refine lv_goto (tgt := 18) hx hb dX1_gatherUnlike_68 (by decide) ?_
            exact ih (0 : Int32) (x4 + (1 : Int32)) _ _ _ h hP hS (lv_sub hl [2, 3, 4, 1, 0] rfl)
          · replace h := h.2 z
            refine lv_iconst (v := (1 : Int32)) hx hb dX1_gatherUnlike_59 (by decide) ?_
            refine lv_goto (tgt := 64) hx hb dX1_gatherUnlike_60 (by decide) ?_
            refine lv_istore_n (lv' := [(3, .int (1 : Int32)), (0, .ref (a_c 0)), (1, .ref (a_w 0)), (2, .int x2), (4, .int x4)]) hx hb dX1_gatherUnlike_64 rfl hl (by decide) rfl (fun ls hl => ?_)
            refine lv_iinc (v := x4 + (1 : Int32)) (lv' := [(4, .int (x4 + (1 : Int32))), (3, .int (1 : Int32)), (0, .ref (a_c 0)), (1, .ref (a_w 0)), (2, .int x2)]) hx hb dX1_gatherUnlike_65 hl (k := 4) rfl (by rfl) (by decide) rfl (fun ls hl => ?_)
            refine lv_goto (tgt := 18) hx hb dX1_gatherUnlike_68 (by decide) ?_
            exact ih (1 : Int32) (x4 + (1 : Int32)) _ _ _ h hP hS (lv_sub hl [2, 3, 4, 1, 0] rfl)
def lpX1_gatherUnlike_7 (K : Int32 → Int32 → (Nat → Int32) → Prop) (w_woods : Nat → Int32) : Nat → Int32 → Int32 → (Nat → Int32) → Prop
  | 0, _, _, _ => False
  | n + 1, x2, c_unlikes, c_unlike => (((48 : Int32) ≤ x2 → (K x2 c_unlikes c_unlike)) ∧ (¬ ((48 : Int32) ≤ x2) → (∃ n_1 : Nat, lpX1_gatherUnlike_18 (fun (x3_2 : Int32) (x4_3 : Int32) => ((x3_2 = (0 : Int32) → (lpX1_gatherUnlike_7 K w_woods n (x2 + (1 : Int32)) c_unlikes c_unlike)) ∧ (¬ (x3_2 = (0 : Int32)) → ((((48 : Int32) ≤ c_unlikes → (lpX1_gatherUnlike_7 K w_woods n (x2 + (1 : Int32)) c_unlikes c_unlike)) ∧ (¬ ((48 : Int32) ≤ c_unlikes) → (vp_in c_unlikes 48 ∧ (lpX1_gatherUnlike_7 K w_woods n (x2 + (1 : Int32)) (c_unlikes + (1 : Int32)) (upd c_unlike c_unlikes.toNatClampNeg x2))))))))) x2 c_unlikes c_unlike w_woods n_1 (1 : Int32) (0 : Int32))))
set_option maxHeartbeats 4000000 in
set_option maxRecDepth 100000 in
theorem wX1_gatherUnlike_7 (l : Launch) (D : va_G) (cI cJ cC : ClassId) (G : Nat → Nat → Nat) (a_c : Nat → Nat) (a_w : Nat → Nat) {p : Program} {e : Env} {s : State} {m : MethodId} {below : List Frame} {meth : Method} {c : Code} {A : Nat → Prop} {Q : State → Prop} (c_inch : Int32) (c_gain : Int64) (c_shared : Nat → Int64) (w_space : Int32) (w_beam : Int32) (w_door : Int32) (w_law : Int32) (w_used : Int32) (w_pipes : Int32) (w_drilled : Int64) (w_total : Int64) (w_open : Int32) (w_pipeInches : Nat → Int32) (w_pipeChances : Nat → Int32) (w_weights : Nat → Int64) (w_woods : Nat → Int32) (w_sums : Nat → Int64) (K : Int32 → Int32 → (Nat → Int32) → Prop) (S : CallFix p m c cX1_gatherUnlike 5 s ([.ref (a_c 0), .ref (a_w 0)] : List Value).toArray bg RX1) (hK : va_K D vwCl (tz cI cJ cC) s) (hDD : ∀ ws : va_W, ws.map (fun q => q.1) = [a_c 0, a_c 1, a_c 2, a_w 0, a_w 1, a_w 2, a_w 3, a_w 4, a_w 5] → va_D A ws) (hA : ∀ q, s.heap.size ≤ q → A q) (hE : EV G A s) (hKK : ∀ (x2 : Int32) (c_unlikes : Int32) (c_unlike : Nat → Int32) (H : Heap) (locs : List Loc) (ls : Array Slot), K x2 c_unlikes c_unlike → va_P D vwCl ((bX1 cI cJ cC a_c c_inch c_gain c_unlikes c_unlike c_shared) ++ (bX3 cI cJ cC a_w w_space w_beam w_door w_law w_used w_pipes w_drilled w_total w_open w_pipeInches w_pipeChances w_weights w_woods w_sums)) H → va_S A s.heap H locs → lv_has ls 5 [] → W p l e ({ frames := 0, cells := 0, slots := 0, locals := 0 }) s m ([.ref (a_c 0), .ref (a_w 0)] : List Value).toArray below meth c H locs 0 0 Q (F0 m 110 ls [])) :
    ∀ (n : Nat) (x2 : Int32) (c_unlikes : Int32) (c_unlike : Nat → Int32) (H : Heap) (locs : List Loc) (ls : Array Slot), lpX1_gatherUnlike_7 K w_woods n x2 c_unlikes c_unlike → va_P D vwCl ((bX1 cI cJ cC a_c c_inch c_gain c_unlikes c_unlike c_shared) ++ (bX3 cI cJ cC a_w w_space w_beam w_door w_law w_used w_pipes w_drilled w_total w_open w_pipeInches w_pipeChances w_weights w_woods w_sums)) H → va_S A s.heap H locs → lv_has ls 5 [(0, .ref (a_c 0)), (1, .ref (a_w 0)), (2, .int x2)] → W p l e ({ frames := 0, cells := 0, slots := 0, locals := 0 }) s m ([.ref (a_c 0), .ref (a_w 0)] : List Value).toArray below meth c H locs 0 0 Q (F0 m 7 ls []) := by
  obtain ⟨hx, hb, hml, hown, ht⟩ := id S
  intro n
  induction n with
  | zero =>
    intro x2 c_unlikes c_unlike H locs ls h
    exact absurd h (by simp [lpX1_gatherUnlike_7])
  | succ n ih =>
    intro x2 c_unlikes c_unlike H locs ls h hP hS hl
    rw [lpX1_gatherUnlike_7] at h
    refine lv_iload_n hx hb dX1_gatherUnlike_7 rfl (lv_at hl 2 rfl) ?_
    refine lv_bipush (v := (48 : Int32)) hx hb dX1_gatherUnlike_8 (by decide) ?_
    refine lv_icmp_ge (tgt := 110) hx hb dX1_gatherUnlike_10 (by decide) (fun z => ?_) (fun z => ?_)
    · replace h := h.1 z
      exact hKK x2 c_unlikes c_unlike _ _ _ h hP hS (lv_sub hl [] rfl)
    · replace h := h.2 z
      refine lv_iconst (v := (1 : Int32)) hx hb dX1_gatherUnlike_13 (by decide) ?_
      refine lv_istore_n (lv' := [(3, .int (1 : Int32)), (0, .ref (a_c 0)), (1, .ref (a_w 0)), (2, .int x2)]) hx hb dX1_gatherUnlike_14 rfl hl (by decide) rfl (fun ls hl => ?_)
      refine lv_iconst (v := (0 : Int32)) hx hb dX1_gatherUnlike_15 (by decide) ?_
      refine lv_istore (lv' := [(4, .int (0 : Int32)), (3, .int (1 : Int32)), (0, .ref (a_c 0)), (1, .ref (a_w 0)), (2, .int x2)]) hx hb dX1_gatherUnlike_16 hl (by decide) rfl (fun ls hl => ?_)
      obtain ⟨n_1, h⟩ := h
      refine wX1_gatherUnlike_18 l D cI cJ cC G a_c a_w x2 c_inch c_gain c_unlikes c_unlike c_shared w_space w_beam w_door w_law w_used w_pipes w_drilled w_total w_open w_pipeInches w_pipeChances w_weights w_woods w_sums _ S hK hDD hA hE (fun x3_2 x4_3 H locs ls h hP hS hl => ?_) n_1 (1 : Int32) (0 : Int32) _ _ _ h hP hS (lv_sub hl [2, 3, 4, 1, 0] rfl)
      try dsimp only at h
      refine lv_iload_n hx hb dX1_gatherUnlike_71 rfl (lv_at hl 3 rfl) ?_
      refine lv_if_eq (tgt := 104) hx hb dX1_gatherUnlike_72 (by decide) (fun z => ?_) (fun z => ?_)
      · replace h := h.1 z
        refine lv_iinc (v := x2 + (1 : Int32)) (lv' := [(2, .int (x2 + (1 : Int32))), (0, .ref (a_c 0)), (1, .ref (a_w 0)), (3, .int x3_2)]) hx hb dX1_gatherUnlike_104 hl (k := 2) rfl (by rfl) (by decide) rfl (fun ls hl => ?_)
        refine lv_goto (tgt := 7) hx hb dX1_gatherUnlike_107 (by decide) ?_
        exact ih (x2 + (1 : Int32)) c_unlikes c_unlike _ _ _ h hP hS (lv_sub hl [1, 2, 0] rfl)
      · replace h := h.2 z
        refine lv_aload_n hx hb dX1_gatherUnlike_75 rfl (lv_at hl 0 rfl) ?_
        refine va_get (D := D) (ci := 1) (v := .int c_unlikes) (C := RX1) (T := TX1) (N := 5) hx hb ht inX1 hown hK hP 0 rfl rfl 3 (by decide) (ht _ fl_X1_23) (fun _ h9 => h9) rfl dX1_gatherUnlike_76 ?_
        refine lv_bipush (v := (48 : Int32)) hx hb dX1_gatherUnlike_79 (by decide) ?_
        refine lv_icmp_ge (tgt := 104) hx hb dX1_gatherUnlike_81 (by decide) (fun z => ?_) (fun z => ?_)
        · replace h := h.1 z
          refine lv_iinc (v := x2 + (1 : Int32)) (lv' := [(2, .int (x2 + (1 : Int32))), (0, .ref (a_c 0)), (1, .ref (a_w 0)), (3, .int x3_2)]) hx hb dX1_gatherUnlike_104 hl (k := 2) rfl (by rfl) (by decide) rfl (fun ls hl => ?_)
          refine lv_goto (tgt := 7) hx hb dX1_gatherUnlike_107 (by decide) ?_
          exact ih (x2 + (1 : Int32)) c_unlikes c_unlike _ _ _ h hP hS (lv_sub hl [1, 2, 0] rfl)
        · replace h := h.2 z
          refine lv_aload_n hx hb dX1_gatherUnlike_84 rfl (lv_at hl 0 rfl) ?_
          refine va_get (D := D) (ci := 1) (v := .ref (a_c 1)) (C := RX1) (T := TX1) (N := 5) hx hb ht inX1 hown hK hP 0 rfl rfl 2 (by decide) (ht _ fl_X1_19) (fun _ h9 => h9) rfl dX1_gatherUnlike_85 ?_
          refine lv_aload_n hx hb dX1_gatherUnlike_88 rfl (lv_at hl 0 rfl) ?_
          refine va_get (D := D) (ci := 1) (v := .int c_unlikes) (C := RX1) (T := TX1) (N := 5) hx hb ht inX1 hown hK hP 0 rfl rfl 3 (by decide) (ht _ fl_X1_23) (fun _ h9 => h9) rfl dX1_gatherUnlike_89 ?_
          refine lv_iload_n hx hb dX1_gatherUnlike_92 rfl (lv_at hl 2 rfl) ?_
          obtain ⟨hin, h⟩ := h
          refine va_iast hx hb hK hP (hDD _ rfl) hS 1 0 rfl rfl hin dX1_gatherUnlike_93 (fun H locs hP _ hS => ?_)
          have hP : va_P D vwCl ((bX1 cI cJ cC a_c c_inch c_gain c_unlikes (upd c_unlike c_unlikes.toNatClampNeg x2) c_shared) ++ (bX3 cI cJ cC a_w w_space w_beam w_door w_law w_used w_pipes w_drilled w_total w_open w_pipeInches w_pipeChances w_weights w_woods w_sums)) H := hP
          refine lv_aload_n hx hb dX1_gatherUnlike_94 rfl (lv_at hl 0 rfl) ?_
          refine lv_dup hx hb dX1_gatherUnlike_95 rfl ?_
          refine va_get (D := D) (ci := 1) (v := .int c_unlikes) (C := RX1) (T := TX1) (N := 5) hx hb ht inX1 hown hK hP 0 rfl rfl 3 (by decide) (ht _ fl_X1_23) (fun _ h9 => h9) rfl dX1_gatherUnlike_96 ?_
          refine lv_iconst (v := (1 : Int32)) hx hb dX1_gatherUnlike_99 (by decide) ?_
          refine lv_iadd hx hb dX1_gatherUnlike_100 ?_
          refine va_put (D := D) (ci := 1) (v := .int (c_unlikes + (1 : Int32))) (ty := .int) (C := RX1) (T := TX1) (N := 5) hx hb ht inX1 tyX1 tyX1_ok nmX1 hown hK hP (hDD _ rfl) hS 0 rfl rfl 3 (by decide) (ht _ fl_X1_23) (fun _ h9 => h9) rfl (by decide +kernel) rfl rfl (Nat.le_of_ble_eq_true rfl) dX1_gatherUnlike_101 (fun H locs hP _ hS => ?_)
          have hP : va_P D vwCl ((bX1 cI cJ cC a_c c_inch c_gain (c_unlikes + (1 : Int32)) (upd c_unlike c_unlikes.toNatClampNeg x2) c_shared) ++ (bX3 cI cJ cC a_w w_space w_beam w_door w_law w_used w_pipes w_drilled w_total w_open w_pipeInches w_pipeChances w_weights w_woods w_sums)) H := hP
          refine lv_iinc (v := x2 + (1 : Int32)) (lv' := [(2, .int (x2 + (1 : Int32))), (0, .ref (a_c 0)), (1, .ref (a_w 0)), (3, .int x3_2)]) hx hb dX1_gatherUnlike_104 hl (k := 2) rfl (by rfl) (by decide) rfl (fun ls hl => ?_)
          refine lv_goto (tgt := 7) hx hb dX1_gatherUnlike_107 (by decide) ?_
          exact ih (x2 + (1 : Int32)) (c_unlikes + (1 : Int32)) (upd c_unlike c_unlikes.toNatClampNeg x2) _ _ _ h hP hS (lv_sub hl [1, 2, 0] rfl)
def wpX1_gatherUnlike (post : Int32 → (Nat → Int32) → Prop) (c_unlike : Nat → Int32) (w_woods : Nat → Int32) : Prop := ∃ n_4 : Nat, lpX1_gatherUnlike_7 (fun (x2_5 : Int32) (c_unlikes_6 : Int32) (c_unlike_7 : Nat → Int32) => post c_unlikes_6 c_unlike_7) w_woods n_4 (0 : Int32) (0 : Int32) c_unlike
set_option maxHeartbeats 4000000 in
set_option maxRecDepth 100000 in
theorem mX1_gatherUnlike (l : Launch) (D : va_G) (cI cJ cC : ClassId) (G : Nat → Nat → Nat) (a_c : Nat → Nat) (a_w : Nat → Nat) (sz : Nat) (c_inch : Int32) (c_gain : Int64) (c_unlikes : Int32) (c_unlike : Nat → Int32) (c_shared : Nat → Int64) (w_space : Int32) (w_beam : Int32) (w_door : Int32) (w_law : Int32) (w_used : Int32) (w_pipes : Int32) (w_drilled : Int64) (w_total : Int64) (w_open : Int32) (w_pipeInches : Nat → Int32) (w_pipeChances : Nat → Int32) (w_weights : Nat → Int64) (w_woods : Nat → Int32) (w_sums : Nat → Int64) (post : Int32 → (Nat → Int32) → Prop) (h : wpX1_gatherUnlike post c_unlike w_woods) : Met l yX1_gatherUnlike (wz yX1_gatherUnlike cX1_gatherUnlike 5 none) ({ frames := 0, cells := 0, slots := 0, locals := 0 }) (va_Pc [.ref (a_c 0), .ref (a_w 0)] (PW D (tz cI cJ cC) G ((bX1 cI cJ cC a_c c_inch c_gain c_unlikes c_unlike c_shared) ++ (bX3 cI cJ cC a_w w_space w_beam w_door w_law w_used w_pipes w_drilled w_total w_open w_pipeInches w_pipeChances w_weights w_woods w_sums)) sz)) (va_Qv (fun (u : Int32 × (Nat → Int32)) => post u.1 u.2) (fun (u : Int32 × (Nat → Int32)) t => va_P D vwCl ((bX1 cI cJ cC a_c c_inch c_gain u.1 u.2 c_shared) ++ (bX3 cI cJ cC a_w w_space w_beam w_door w_law w_used w_pipes w_drilled w_total w_open w_pipeInches w_pipeChances w_weights w_woods w_sums)) t.heap) (va_A ((bX1 cI cJ cC a_c c_inch c_gain c_unlikes c_unlike c_shared) ++ (bX3 cI cJ cC a_w w_space w_beam w_door w_law w_used w_pipes w_drilled w_total w_open w_pipeInches w_pipeChances w_weights w_woods w_sums)) sz)) 0 0 (va_A ((bX1 cI cJ cC a_c c_inch c_gain c_unlikes c_unlike c_shared) ++ (bX3 cI cJ cC a_w w_space w_beam w_door w_law w_used w_pipes w_drilled w_total w_open w_pipeInches w_pipeChances w_weights w_woods w_sums)) sz) := by
  refine zmv (gw := fun (u : Int32 × (Nat → Int32)) => (bX1 cI cJ cC a_c c_inch c_gain u.1 u.2 c_shared) ++ (bX3 cI cJ cC a_w w_space w_beam w_door w_law w_used w_pipes w_drilled w_total w_open w_pipeInches w_pipeChances w_weights w_woods w_sums)) (plainFor_of_name (by decide)) (Nat.le_of_ble_eq_true rfl) ?_
  intro p e s m below meth c A Q ls S hK hD hA hE hP hl hret
  obtain ⟨hx, hb, hml, hown, ht⟩ := id S
  have hS : va_S A s.heap s.heap [] := va_S.rf
  have hDD : ∀ ws : va_W, ws.map (fun q => q.1) = [a_c 0, a_c 1, a_c 2, a_w 0, a_w 1, a_w 2, a_w 3, a_w 4, a_w 5] → va_D A ws := fun ws hw => zD hD (hw.trans rfl)
  have hl : lv_has ls 5 [(0, .ref (a_c 0)), (1, .ref (a_w 0))] := hl
  unfold wpX1_gatherUnlike at h
  refine lv_aload_n hx hb dX1_gatherUnlike_0 rfl (lv_at hl 0 rfl) ?_
  refine lv_iconst (v := (0 : Int32)) hx hb dX1_gatherUnlike_1 (by decide) ?_
  refine va_put (D := D) (ci := 1) (v := .int (0 : Int32)) (ty := .int) (C := RX1) (T := TX1) (N := 5) hx hb ht inX1 tyX1 tyX1_ok nmX1 hown hK hP (hDD _ rfl) hS 0 rfl rfl 3 (by decide) (ht _ fl_X1_23) (fun _ h9 => h9) rfl (by decide +kernel) rfl rfl (Nat.le_of_ble_eq_true rfl) dX1_gatherUnlike_2 (fun H locs hP _ hS => ?_)
  have hP : va_P D vwCl ((bX1 cI cJ cC a_c c_inch c_gain (0 : Int32) c_unlike c_shared) ++ (bX3 cI cJ cC a_w w_space w_beam w_door w_law w_used w_pipes w_drilled w_total w_open w_pipeInches w_pipeChances w_weights w_woods w_sums)) H := hP
  refine lv_iconst (v := (0 : Int32)) hx hb dX1_gatherUnlike_5 (by decide) ?_
  refine lv_istore_n (lv' := [(2, .int (0 : Int32)), (0, .ref (a_c 0)), (1, .ref (a_w 0))]) hx hb dX1_gatherUnlike_6 rfl hl (by decide) rfl (fun ls hl => ?_)
  obtain ⟨n_4, h⟩ := h
  refine wX1_gatherUnlike_7 l D cI cJ cC G a_c a_w c_inch c_gain c_shared w_space w_beam w_door w_law w_used w_pipes w_drilled w_total w_open w_pipeInches w_pipeChances w_weights w_woods w_sums _ S hK hDD hA hE (fun x2_5 c_unlikes_6 c_unlike_7 H locs ls h hP hS hl => ?_) n_4 (0 : Int32) (0 : Int32) c_unlike _ _ _ h hP hS (lv_sub hl [1, 2, 0] rfl)
  try dsimp only at h
  exact hret (c_unlikes_6, c_unlike_7) _ _ _ _ h hP hS dX1_gatherUnlike_110
def wpJ9_max_f86c9 (post : Int64 → Prop) (p0 : Int64) (p1 : Int64) : Prop := ((p0 < p1 → (post p1)) ∧ (¬ (p0 < p1) → (post p0)))
set_option maxHeartbeats 4000000 in
set_option maxRecDepth 100000 in
theorem mJ9_max_f86c9 (l : Launch) (D : va_G) (cI cJ cC : ClassId) (G : Nat → Nat → Nat) (sz : Nat) (p0 : Int64) (p1 : Int64) (post : Int64 → Prop) (h : wpJ9_max_f86c9 post p0 p1) : Met l yJ9_max_f86c9 (wz yJ9_max_f86c9 cJ9_max_f86c9 4 (some .long)) ({ frames := 0, cells := 0, slots := 0, locals := 0 }) (va_Pc [.long p0, .long p1] (PW D (tz cI cJ cC) G ([]) sz)) (va_Ql (fun (r : Int64) (u : Unit) => post r ) (fun (u : Unit) t => va_P D vwCl ([]) t.heap) (va_A ([]) sz)) 0 0 (va_A ([]) sz) := by
  refine zml (gw := fun (u : Unit) => []) (by decide +kernel) (Nat.le_of_ble_eq_true rfl) ?_
  intro p e s m below meth c A Q ls S hK hD hA hE hP hl hret
  obtain ⟨hx, hb, hml, hown, ht⟩ := id S
  have hS : va_S A s.heap s.heap [] := va_S.rf
  have hDD : ∀ ws : va_W, ws.map (fun q => q.1) = [] → va_D A ws := fun ws hw => zD hD (hw.trans rfl)
  have hl : lv_has ls 4 [(0, .long p0), (2, .long p1)] := hl
  unfold wpJ9_max_f86c9 at h
  refine lv_lload_n hx hb dJ9_max_f86c9_0 rfl (lv_at hl 0 rfl) ?_
  refine lv_lload_n hx hb dJ9_max_f86c9_1 rfl (lv_at hl 1 rfl) ?_
  refine W.lcmp hx hb dJ9_max_f86c9_2 ?_
  refine lv_if_lt (tgt := 10) hx hb dJ9_max_f86c9_3 (by decide) (fun z => ?_) (fun z => ?_)
  · replace h := h.1 (zl_lt.mp z)
    refine lv_lload_n hx hb dJ9_max_f86c9_10 rfl (lv_at hl 1 rfl) ?_
    exact hret p1 () _ _ _ _ h hP hS dJ9_max_f86c9_11
  · replace h := h.2 (fun q => z (zl_lt.mpr q))
    refine lv_lload_n hx hb dJ9_max_f86c9_6 rfl (lv_at hl 0 rfl) ?_
    refine lv_goto (tgt := 11) hx hb dJ9_max_f86c9_7 (by decide) ?_
    exact hret p0 () _ _ _ _ h hP hS dJ9_max_f86c9_11
def lpX1_greatestThen_22 (K : Int64 → Int32 → Prop) (x4 : Int32) (x5 : Int32) (c_unlikes : Int32) (c_unlike : Nat → Int32) (c_shared : Nat → Int64) (w_sums : Nat → Int64) : Nat → Int64 → Int32 → Prop
  | 0, _, _ => False
  | n + 1, x6, x8 => ((c_unlikes ≤ x8 → (K x6 x8)) ∧ (¬ (c_unlikes ≤ x8) → ((((48 : Int32) ≤ x8 → (K x6 x8)) ∧ (¬ ((48 : Int32) ≤ x8) → (vp_in x8 48 ∧ (vp_in x8 48 ∧ (vp_in (c_unlike x8.toNatClampNeg) 48 ∧ (vp_in x8 48 ∧ (∀ x9_3 : Int64, x9_3 = (x4.toInt64 * (c_shared x8.toNatClampNeg)) + (x5.toInt64 * ((w_sums (c_unlike x8.toNatClampNeg).toNatClampNeg) - (c_shared x8.toNatClampNeg))) → (wpJ9_max_f86c9 (fun (r_4 : Int64) => lpX1_greatestThen_22 K x4 x5 c_unlikes c_unlike c_shared w_sums n r_4 (x8 + (1 : Int32))) x6 x9_3)))))))))))
set_option maxHeartbeats 4000000 in
set_option maxRecDepth 100000 in
theorem wX1_greatestThen_22 (l : Launch) (D : va_G) (cI cJ cC : ClassId) (G : Nat → Nat → Nat) (a_c : Nat → Nat) (a_w : Nat → Nat) {p : Program} {e : Env} {s : State} {m : MethodId} {below : List Frame} {meth : Method} {c : Code} {A : Nat → Prop} {Q : State → Prop} (p2 : Int32) (p3 : Int32) (x4 : Int32) (x5 : Int32) (c_inch : Int32) (c_gain : Int64) (c_unlikes : Int32) (c_unlike : Nat → Int32) (c_shared : Nat → Int64) (w_space : Int32) (w_beam : Int32) (w_door : Int32) (w_law : Int32) (w_used : Int32) (w_pipes : Int32) (w_drilled : Int64) (w_total : Int64) (w_open : Int32) (w_pipeInches : Nat → Int32) (w_pipeChances : Nat → Int32) (w_weights : Nat → Int64) (w_woods : Nat → Int32) (w_sums : Nat → Int64) (K : Int64 → Int32 → Prop) (S : CallFix p m c cX1_greatestThen 11 s ([.ref (a_c 0), .ref (a_w 0), .int p2, .int p3] : List Value).toArray bg RX1) (hK : va_K D vwCl (tz cI cJ cC) s) (hDD : ∀ ws : va_W, ws.map (fun q => q.1) = [a_c 0, a_c 1, a_c 2, a_w 0, a_w 1, a_w 2, a_w 3, a_w 4, a_w 5] → va_D A ws) (hA : ∀ q, s.heap.size ≤ q → A q) (hE : EV G A s) (hKK : ∀ (x6 : Int64) (x8 : Int32) (H : Heap) (locs : List Loc) (ls : Array Slot), K x6 x8 → va_P D vwCl ((bX1 cI cJ cC a_c c_inch c_gain c_unlikes c_unlike c_shared) ++ (bX3 cI cJ cC a_w w_space w_beam w_door w_law w_used w_pipes w_drilled w_total w_open w_pipeInches w_pipeChances w_weights w_woods w_sums)) H → va_S A s.heap H locs → lv_has ls 11 [(6, .long x6)] → W p l e ({ frames := 1, cells := 0, slots := 0, locals := 23 }) s m ([.ref (a_c 0), .ref (a_w 0), .int p2, .int p3] : List Value).toArray below meth c H locs 0 0 Q (F0 m 91 ls [])) :
    ∀ (n : Nat) (x6 : Int64) (x8 : Int32) (H : Heap) (locs : List Loc) (ls : Array Slot), lpX1_greatestThen_22 K x4 x5 c_unlikes c_unlike c_shared w_sums n x6 x8 → va_P D vwCl ((bX1 cI cJ cC a_c c_inch c_gain c_unlikes c_unlike c_shared) ++ (bX3 cI cJ cC a_w w_space w_beam w_door w_law w_used w_pipes w_drilled w_total w_open w_pipeInches w_pipeChances w_weights w_woods w_sums)) H → va_S A s.heap H locs → lv_has ls 11 [(0, .ref (a_c 0)), (1, .ref (a_w 0)), (4, .int x4), (5, .int x5), (6, .long x6), (8, .int x8)] → W p l e ({ frames := 1, cells := 0, slots := 0, locals := 23 }) s m ([.ref (a_c 0), .ref (a_w 0), .int p2, .int p3] : List Value).toArray below meth c H locs 0 0 Q (F0 m 22 ls []) := by
  obtain ⟨hx, hb, hml, hown, ht⟩ := id S
  intro n
  induction n with
  | zero =>
    intro x6 x8 H locs ls h
    exact absurd h (by simp [lpX1_greatestThen_22])
  | succ n ih =>
    intro x6 x8 H locs ls h hP hS hl
    rw [lpX1_greatestThen_22] at h
    refine lv_iload hx hb dX1_greatestThen_22 (lv_at hl 5 rfl) ?_
    refine lv_aload_n hx hb dX1_greatestThen_24 rfl (lv_at hl 0 rfl) ?_
    refine va_get (D := D) (ci := 1) (v := .int c_unlikes) (C := RX1) (T := TX1) (N := 5) hx hb ht inX1 hown hK hP 0 rfl rfl 3 (by decide) (ht _ fl_X1_23) (fun _ h9 => h9) rfl dX1_greatestThen_25 ?_
    refine lv_icmp_ge (tgt := 91) hx hb dX1_greatestThen_28 (by decide) (fun z => ?_) (fun z => ?_)
    · replace h := h.1 z
      exact hKK x6 x8 _ _ _ h hP hS (lv_sub hl [4] rfl)
    · replace h := h.2 z
      refine lv_iload hx hb dX1_greatestThen_31 (lv_at hl 5 rfl) ?_
      refine lv_bipush (v := (48 : Int32)) hx hb dX1_greatestThen_33 (by decide) ?_
      refine lv_icmp_ge (tgt := 91) hx hb dX1_greatestThen_35 (by decide) (fun z => ?_) (fun z => ?_)
      · replace h := h.1 z
        exact hKK x6 x8 _ _ _ h hP hS (lv_sub hl [4] rfl)
      · replace h := h.2 z
        refine lv_iload hx hb dX1_greatestThen_38 (lv_at hl 2 rfl) ?_
        refine lv_i2l hx hb dX1_greatestThen_40 rfl ?_
        refine lv_aload_n hx hb dX1_greatestThen_41 rfl (lv_at hl 0 rfl) ?_
        refine va_get (D := D) (ci := 1) (v := .ref (a_c 2)) (C := RX1) (T := TX1) (N := 5) hx hb ht inX1 hown hK hP 0 rfl rfl 4 (by decide) (ht _ fl_X1_26) (fun _ h9 => h9) rfl dX1_greatestThen_42 ?_
        refine lv_iload hx hb dX1_greatestThen_45 (lv_at hl 5 rfl) ?_
        obtain ⟨hin, h⟩ := h
        refine va_lald hx hb hK hP 2 1 rfl rfl hin dX1_greatestThen_47 ?_
        refine lv_lmul hx hb dX1_greatestThen_48 ?_
        refine lv_iload hx hb dX1_greatestThen_49 (lv_at hl 3 rfl) ?_
        refine lv_i2l hx hb dX1_greatestThen_51 rfl ?_
        refine lv_aload_n hx hb dX1_greatestThen_52 rfl (lv_at hl 1 rfl) ?_
        refine va_get (D := D) (ci := 3) (v := .ref (a_w 5)) (C := RX3) (T := TX3) (N := 14) hx hb ht inX3 hown hK hP 3 rfl rfl 11 (by decide) (ht _ fl_X1_48) (fun _ h9 => h9) rfl dX1_greatestThen_53 ?_
        refine lv_aload_n hx hb dX1_greatestThen_56 rfl (lv_at hl 0 rfl) ?_
        refine va_get (D := D) (ci := 1) (v := .ref (a_c 1)) (C := RX1) (T := TX1) (N := 5) hx hb ht inX1 hown hK hP 0 rfl rfl 2 (by decide) (ht _ fl_X1_19) (fun _ h9 => h9) rfl dX1_greatestThen_57 ?_
        refine lv_iload hx hb dX1_greatestThen_60 (lv_at hl 5 rfl) ?_
        obtain ⟨hin, h⟩ := h
        refine va_iald hx hb hK hP 1 0 rfl rfl hin dX1_greatestThen_62 ?_
        obtain ⟨hin, h⟩ := h
        refine va_lald hx hb hK hP 8 1 rfl rfl hin dX1_greatestThen_63 ?_
        refine lv_aload_n hx hb dX1_greatestThen_64 rfl (lv_at hl 0 rfl) ?_
        refine va_get (D := D) (ci := 1) (v := .ref (a_c 2)) (C := RX1) (T := TX1) (N := 5) hx hb ht inX1 hown hK hP 0 rfl rfl 4 (by decide) (ht _ fl_X1_26) (fun _ h9 => h9) rfl dX1_greatestThen_65 ?_
        refine lv_iload hx hb dX1_greatestThen_68 (lv_at hl 5 rfl) ?_
        obtain ⟨hin, h⟩ := h
        refine va_lald hx hb hK hP 2 1 rfl rfl hin dX1_greatestThen_70 ?_
        refine lv_lsub hx hb dX1_greatestThen_71 ?_
        refine lv_lmul hx hb dX1_greatestThen_72 ?_
        refine lv_ladd hx hb dX1_greatestThen_73 ?_
        refine lv_topl (fun x9_3 ex9_3 => ?_)
        replace h := h x9_3 ex9_3
        refine lv_lstore (lv' := [(9, .long x9_3), (0, .ref (a_c 0)), (1, .ref (a_w 0)), (4, .int x4), (5, .int x5), (6, .long x6), (8, .int x8)]) hx hb dX1_greatestThen_74 hl (by decide) rfl (fun ls hl => ?_)
        refine lv_lload hx hb dX1_greatestThen_76 (lv_at hl 5 rfl) ?_
        refine lv_lload hx hb dX1_greatestThen_78 (lv_at hl 0 rfl) ?_
        refine zcl hA zD0 hS (zrunS (As := [.long x6, .long x9_3]) (rest := []) S hK hA hE zP0 zD0 hS (mJ9_max_f86c9 l D cI cJ cC G _ x6 x9_3 _ h) kJ9_max_f86c9 ml_X1_62 ⟨rfl, rfl, by decide, by decide⟩ rfl hl.1 rfl (Nat.le_of_ble_eq_true rfl) dX1_greatestThen_80 ⟨Nat.zero_le _, Nat.zero_le _⟩) (fun r_4 u H locs h hP1 hk1 hS => ?_)
        try dsimp only at h
        have hP : va_P D vwCl ((bX1 cI cJ cC a_c c_inch c_gain c_unlikes c_unlike c_shared) ++ (bX3 cI cJ cC a_w w_space w_beam w_door w_law w_used w_pipes w_drilled w_total w_open w_pipeInches w_pipeChances w_weights w_woods w_sums)) H := zKeep hP hk1
        refine lv_lstore (lv' := [(6, .long r_4), (9, .long x9_3), (0, .ref (a_c 0)), (1, .ref (a_w 0)), (4, .int x4), (5, .int x5), (8, .int x8)]) hx hb dX1_greatestThen_83 hl (by decide) rfl (fun ls hl => ?_)
        refine lv_iinc (v := x8 + (1 : Int32)) (lv' := [(8, .int (x8 + (1 : Int32))), (6, .long r_4), (9, .long x9_3), (0, .ref (a_c 0)), (1, .ref (a_w 0)), (4, .int x4), (5, .int x5)]) hx hb dX1_greatestThen_85 hl (k := 6) rfl (by rfl) (by decide) rfl (fun ls hl => ?_)
        refine lv_goto (tgt := 22) hx hb dX1_greatestThen_88 (by decide) ?_
        exact ih r_4 (x8 + (1 : Int32)) _ _ _ h hP hS (lv_sub hl [3, 4, 5, 6, 1, 0] rfl)
def wpX1_greatestThen (post : Int64 → Prop) (c_unlikes : Int32) (c_unlike : Nat → Int32) (c_shared : Nat → Int64) (w_sums : Nat → Int64) (p2 : Int32) (p3 : Int32) : Prop := wpX4_tenths (fun (r_1 : Int32) => wpX4_tenths (fun (r_2 : Int32) => ∃ n_5 : Nat, lpX1_greatestThen_22 (fun (x6_6 : Int64) (x8_7 : Int32) => post x6_6) r_1 r_2 c_unlikes c_unlike c_shared w_sums n_5 (0 : Int64) (0 : Int32)) p2 p3 (0 : Int32)) p2 p3 (1 : Int32)
set_option maxHeartbeats 4000000 in
set_option maxRecDepth 100000 in
theorem mX1_greatestThen (l : Launch) (D : va_G) (cI cJ cC : ClassId) (G : Nat → Nat → Nat) (a_c : Nat → Nat) (a_w : Nat → Nat) (sz : Nat) (c_inch : Int32) (c_gain : Int64) (c_unlikes : Int32) (c_unlike : Nat → Int32) (c_shared : Nat → Int64) (w_space : Int32) (w_beam : Int32) (w_door : Int32) (w_law : Int32) (w_used : Int32) (w_pipes : Int32) (w_drilled : Int64) (w_total : Int64) (w_open : Int32) (w_pipeInches : Nat → Int32) (w_pipeChances : Nat → Int32) (w_weights : Nat → Int64) (w_woods : Nat → Int32) (w_sums : Nat → Int64) (p2 : Int32) (p3 : Int32) (post : Int64 → Prop) (h : wpX1_greatestThen post c_unlikes c_unlike c_shared w_sums p2 p3) : Met l yX1_greatestThen (wz yX1_greatestThen cX1_greatestThen 11 (some .long)) ({ frames := 1, cells := 0, slots := 0, locals := 23 }) (va_Pc [.ref (a_c 0), .ref (a_w 0), .int p2, .int p3] (PW D (tz cI cJ cC) G ((bX1 cI cJ cC a_c c_inch c_gain c_unlikes c_unlike c_shared) ++ (bX3 cI cJ cC a_w w_space w_beam w_door w_law w_used w_pipes w_drilled w_total w_open w_pipeInches w_pipeChances w_weights w_woods w_sums)) sz)) (va_Ql (fun (r : Int64) (u : Unit) => post r ) (fun (u : Unit) t => va_P D vwCl ((bX1 cI cJ cC a_c c_inch c_gain c_unlikes c_unlike c_shared) ++ (bX3 cI cJ cC a_w w_space w_beam w_door w_law w_used w_pipes w_drilled w_total w_open w_pipeInches w_pipeChances w_weights w_woods w_sums)) t.heap) (va_A ((bX1 cI cJ cC a_c c_inch c_gain c_unlikes c_unlike c_shared) ++ (bX3 cI cJ cC a_w w_space w_beam w_door w_law w_used w_pipes w_drilled w_total w_open w_pipeInches w_pipeChances w_weights w_woods w_sums)) sz)) 0 0 (va_A ((bX1 cI cJ cC a_c c_inch c_gain c_unlikes c_unlike c_shared) ++ (bX3 cI cJ cC a_w w_space w_beam w_door w_law w_used w_pipes w_drilled w_total w_open w_pipeInches w_pipeChances w_weights w_woods w_sums)) sz) := by
  refine zml (gw := fun (u : Unit) => (bX1 cI cJ cC a_c c_inch c_gain c_unlikes c_unlike c_shared) ++ (bX3 cI cJ cC a_w w_space w_beam w_door w_law w_used w_pipes w_drilled w_total w_open w_pipeInches w_pipeChances w_weights w_woods w_sums)) (plainFor_of_name (by decide)) (Nat.le_of_ble_eq_true rfl) ?_
  intro p e s m below meth c A Q ls S hK hD hA hE hP hl hret
  obtain ⟨hx, hb, hml, hown, ht⟩ := id S
  have hS : va_S A s.heap s.heap [] := va_S.rf
  have hDD : ∀ ws : va_W, ws.map (fun q => q.1) = [a_c 0, a_c 1, a_c 2, a_w 0, a_w 1, a_w 2, a_w 3, a_w 4, a_w 5] → va_D A ws := fun ws hw => zD hD (hw.trans rfl)
  have hl : lv_has ls 11 [(0, .ref (a_c 0)), (1, .ref (a_w 0)), (2, .int p2), (3, .int p3)] := hl
  unfold wpX1_greatestThen at h
  refine lv_iload_n hx hb dX1_greatestThen_0 rfl (lv_at hl 2 rfl) ?_
  refine lv_iload_n hx hb dX1_greatestThen_1 rfl (lv_at hl 3 rfl) ?_
  refine lv_iconst (v := (1 : Int32)) hx hb dX1_greatestThen_2 (by decide) ?_
  refine zci hA zD0 hS (zrunN (As := [.int p2, .int p3, .int (1 : Int32)]) (rest := []) S hK hA hE zP0 zD0 hS (mX4_tenths l D cI cJ cC G _ p2 p3 (1 : Int32) _ h) kX4_tenths 10 rfl ⟨rfl, rfl, by decide, by decide⟩ rfl hl.1 rfl (Nat.le_of_ble_eq_true rfl) dX1_greatestThen_3 ⟨Nat.zero_le _, Nat.zero_le _⟩) (fun r_1 u H locs h hP1 hk1 hS => ?_)
  try dsimp only at h
  have hP : va_P D vwCl ((bX1 cI cJ cC a_c c_inch c_gain c_unlikes c_unlike c_shared) ++ (bX3 cI cJ cC a_w w_space w_beam w_door w_law w_used w_pipes w_drilled w_total w_open w_pipeInches w_pipeChances w_weights w_woods w_sums)) H := zKeep hP hk1
  refine lv_istore (lv' := [(4, .int r_1), (0, .ref (a_c 0)), (1, .ref (a_w 0)), (2, .int p2), (3, .int p3)]) hx hb dX1_greatestThen_6 hl (by decide) rfl (fun ls hl => ?_)
  refine lv_iload_n hx hb dX1_greatestThen_8 rfl (lv_at hl 3 rfl) ?_
  refine lv_iload_n hx hb dX1_greatestThen_9 rfl (lv_at hl 4 rfl) ?_
  refine lv_iconst (v := (0 : Int32)) hx hb dX1_greatestThen_10 (by decide) ?_
  refine zci hA zD0 hS (zrunN (As := [.int p2, .int p3, .int (0 : Int32)]) (rest := []) S hK hA hE zP0 zD0 hS (mX4_tenths l D cI cJ cC G _ p2 p3 (0 : Int32) _ h) kX4_tenths 10 rfl ⟨rfl, rfl, by decide, by decide⟩ rfl hl.1 rfl (Nat.le_of_ble_eq_true rfl) dX1_greatestThen_11 ⟨Nat.zero_le _, Nat.zero_le _⟩) (fun r_2 u H locs h hP1 hk1 hS => ?_)
  try dsimp only at h
  have hP : va_P D vwCl ((bX1 cI cJ cC a_c c_inch c_gain c_unlikes c_unlike c_shared) ++ (bX3 cI cJ cC a_w w_space w_beam w_door w_law w_used w_pipes w_drilled w_total w_open w_pipeInches w_pipeChances w_weights w_woods w_sums)) H := zKeep hP hk1
  refine lv_istore (lv' := [(5, .int r_2), (4, .int r_1), (0, .ref (a_c 0)), (1, .ref (a_w 0)), (2, .int p2), (3, .int p3)]) hx hb dX1_greatestThen_14 hl (by decide) rfl (fun ls hl => ?_)
  refine lv_lconst (v := (0 : Int64)) hx hb dX1_greatestThen_16 (by decide) ?_
  refine lv_lstore (lv' := [(6, .long (0 : Int64)), (5, .int r_2), (4, .int r_1), (0, .ref (a_c 0)), (1, .ref (a_w 0)), (2, .int p2), (3, .int p3)]) hx hb dX1_greatestThen_17 hl (by decide) rfl (fun ls hl => ?_)
  refine lv_iconst (v := (0 : Int32)) hx hb dX1_greatestThen_19 (by decide) ?_
  refine lv_istore (lv' := [(8, .int (0 : Int32)), (6, .long (0 : Int64)), (5, .int r_2), (4, .int r_1), (0, .ref (a_c 0)), (1, .ref (a_w 0)), (2, .int p2), (3, .int p3)]) hx hb dX1_greatestThen_20 hl (by decide) rfl (fun ls hl => ?_)
  obtain ⟨n_5, h⟩ := h
  refine wX1_greatestThen_22 l D cI cJ cC G a_c a_w p2 p3 r_1 r_2 c_inch c_gain c_unlikes c_unlike c_shared w_space w_beam w_door w_law w_used w_pipes w_drilled w_total w_open w_pipeInches w_pipeChances w_weights w_woods w_sums _ S hK hDD hA hE (fun x6_6 x8_7 H locs ls h hP hS hl => ?_) n_5 (0 : Int64) (0 : Int32) _ _ _ h hP hS (lv_sub hl [4, 5, 3, 2, 1, 0] rfl)
  try dsimp only at h
  refine lv_lload hx hb dX1_greatestThen_91 (lv_at hl 0 rfl) ?_
  exact hret x6_6 () _ _ _ _ h hP hS dX1_greatestThen_93
def lpX1_lookWith_45 (K : Int32 → (Nat → Int64) → Prop) (x6 : Int32) (c_unlikes : Int32) (c_unlike : Nat → Int32) (w_weights : Nat → Int64) (w_woods : Nat → Int32) : Nat → Int32 → (Nat → Int64) → Prop
  | 0, _, _ => False
  | n + 1, x7, c_shared => ((c_unlikes ≤ x7 → (K x7 c_shared)) ∧ (¬ (c_unlikes ≤ x7) → ((((48 : Int32) ≤ x7 → (K x7 c_shared)) ∧ (¬ ((48 : Int32) ≤ x7) → (vp_in x7 48 ∧ (wpX3_sumAtBoth (fun (r_3 : Int64) => vp_in x7 48 ∧ (lpX1_lookWith_45 K x6 c_unlikes c_unlike w_weights w_woods n (x7 + (1 : Int32)) (vp_updL c_shared x7.toNatClampNeg r_3))) w_weights w_woods x6 (c_unlike x7.toNatClampNeg))))))))
set_option maxHeartbeats 4000000 in
set_option maxRecDepth 100000 in
theorem wX1_lookWith_45 (l : Launch) (D : va_G) (cI cJ cC : ClassId) (G : Nat → Nat → Nat) (a_c : Nat → Nat) (a_w : Nat → Nat) {p : Program} {e : Env} {s : State} {m : MethodId} {below : List Frame} {meth : Method} {c : Code} {A : Nat → Prop} {Q : State → Prop} (p2 : Int32) (x2 : Int32) (x3 : Int64) (x5 : Int32) (x6 : Int32) (c_inch : Int32) (c_gain : Int64) (c_unlikes : Int32) (c_unlike : Nat → Int32) (w_space : Int32) (w_beam : Int32) (w_door : Int32) (w_law : Int32) (w_used : Int32) (w_pipes : Int32) (w_drilled : Int64) (w_total : Int64) (w_open : Int32) (w_pipeInches : Nat → Int32) (w_pipeChances : Nat → Int32) (w_weights : Nat → Int64) (w_woods : Nat → Int32) (w_sums : Nat → Int64) (K : Int32 → (Nat → Int64) → Prop) (S : CallFix p m c cX1_lookWith 9 s ([.ref (a_c 0), .ref (a_w 0), .int p2] : List Value).toArray bg RX1) (hK : va_K D vwCl (tz cI cJ cC) s) (hDD : ∀ ws : va_W, ws.map (fun q => q.1) = [a_c 0, a_c 1, a_c 2, a_w 0, a_w 1, a_w 2, a_w 3, a_w 4, a_w 5] → va_D A ws) (hA : ∀ q, s.heap.size ≤ q → A q) (hE : EV G A s) (hKK : ∀ (x7 : Int32) (c_shared : Nat → Int64) (H : Heap) (locs : List Loc) (ls : Array Slot), K x7 c_shared → va_P D vwCl ((bX1 cI cJ cC a_c c_inch c_gain c_unlikes c_unlike c_shared) ++ (bX3 cI cJ cC a_w w_space w_beam w_door w_law w_used w_pipes w_drilled w_total w_open w_pipeInches w_pipeChances w_weights w_woods w_sums)) H → va_S A s.heap H locs → lv_has ls 9 [(0, .ref (a_c 0)), (1, .ref (a_w 0)), (2, .int x2), (3, .long x3), (5, .int x5), (6, .int x6)] → W p l e ({ frames := 3, cells := 0, slots := 0, locals := 67 }) s m ([.ref (a_c 0), .ref (a_w 0), .int p2] : List Value).toArray below meth c H locs 0 0 Q (F0 m 87 ls [])) :
    ∀ (n : Nat) (x7 : Int32) (c_shared : Nat → Int64) (H : Heap) (locs : List Loc) (ls : Array Slot), lpX1_lookWith_45 K x6 c_unlikes c_unlike w_weights w_woods n x7 c_shared → va_P D vwCl ((bX1 cI cJ cC a_c c_inch c_gain c_unlikes c_unlike c_shared) ++ (bX3 cI cJ cC a_w w_space w_beam w_door w_law w_used w_pipes w_drilled w_total w_open w_pipeInches w_pipeChances w_weights w_woods w_sums)) H → va_S A s.heap H locs → lv_has ls 9 [(0, .ref (a_c 0)), (1, .ref (a_w 0)), (2, .int x2), (3, .long x3), (5, .int x5), (6, .int x6), (7, .int x7)] → W p l e ({ frames := 3, cells := 0, slots := 0, locals := 67 }) s m ([.ref (a_c 0), .ref (a_w 0), .int p2] : List Value).toArray below meth c H locs 0 0 Q (F0 m 45 ls []) := by
  obtain ⟨hx, hb, hml, hown, ht⟩ := id S
  intro n
  induction n with
  | zero =>
    intro x7 c_shared H locs ls h
    exact absurd h (by simp [lpX1_lookWith_45])
  | succ n ih =>
    intro x7 c_shared H locs ls h hP hS hl
    rw [lpX1_lookWith_45] at h
    refine lv_iload hx hb dX1_lookWith_45 (lv_at hl 6 rfl) ?_
    refine lv_aload_n hx hb dX1_lookWith_47 rfl (lv_at hl 0 rfl) ?_
    refine va_get (D := D) (ci := 1) (v := .int c_unlikes) (C := RX1) (T := TX1) (N := 5) hx hb ht inX1 hown hK hP 0 rfl rfl 3 (by decide) (ht _ fl_X1_23) (fun _ h9 => h9) rfl dX1_lookWith_48 ?_
    refine lv_icmp_ge (tgt := 87) hx hb dX1_lookWith_51 (by decide) (fun z => ?_) (fun z => ?_)
    · replace h := h.1 z
      exact hKK x7 c_shared _ _ _ h hP hS (lv_sub hl [0, 1, 2, 3, 4, 5] rfl)
    · replace h := h.2 z
      refine lv_iload hx hb dX1_lookWith_54 (lv_at hl 6 rfl) ?_
      refine lv_bipush (v := (48 : Int32)) hx hb dX1_lookWith_56 (by decide) ?_
      refine lv_icmp_ge (tgt := 87) hx hb dX1_lookWith_58 (by decide) (fun z => ?_) (fun z => ?_)
      · replace h := h.1 z
        exact hKK x7 c_shared _ _ _ h hP hS (lv_sub hl [0, 1, 2, 3, 4, 5] rfl)
      · replace h := h.2 z
        refine lv_aload_n hx hb dX1_lookWith_61 rfl (lv_at hl 0 rfl) ?_
        refine va_get (D := D) (ci := 1) (v := .ref (a_c 2)) (C := RX1) (T := TX1) (N := 5) hx hb ht inX1 hown hK hP 0 rfl rfl 4 (by decide) (ht _ fl_X1_26) (fun _ h9 => h9) rfl dX1_lookWith_62 ?_
        refine lv_iload hx hb dX1_lookWith_65 (lv_at hl 6 rfl) ?_
        refine lv_aload_n hx hb dX1_lookWith_67 rfl (lv_at hl 1 rfl) ?_
        refine lv_iload hx hb dX1_lookWith_68 (lv_at hl 5 rfl) ?_
        refine lv_aload_n hx hb dX1_lookWith_70 rfl (lv_at hl 0 rfl) ?_
        refine va_get (D := D) (ci := 1) (v := .ref (a_c 1)) (C := RX1) (T := TX1) (N := 5) hx hb ht inX1 hown hK hP 0 rfl rfl 2 (by decide) (ht _ fl_X1_19) (fun _ h9 => h9) rfl dX1_lookWith_71 ?_
        refine lv_iload hx hb dX1_lookWith_74 (lv_at hl 6 rfl) ?_
        obtain ⟨hin, h⟩ := h
        refine va_iald hx hb hK hP 1 0 rfl rfl hin dX1_lookWith_76 ?_
        have hPw : va_P D vwCl ((bX3 cI cJ cC a_w w_space w_beam w_door w_law w_used w_pipes w_drilled w_total w_open w_pipeInches w_pipeChances w_weights w_woods w_sums)) _ := hP.sub [3, 4, 5, 6, 7, 8] rfl
        have hDw : va_D A ((bX3 cI cJ cC a_w w_space w_beam w_door w_law w_used w_pipes w_drilled w_total w_open w_pipeInches w_pipeChances w_weights w_woods w_sums)) := (hDD _ rfl).sub (ws := (bX1 cI cJ cC a_c c_inch c_gain c_unlikes c_unlike c_shared) ++ (bX3 cI cJ cC a_w w_space w_beam w_door w_law w_used w_pipes w_drilled w_total w_open w_pipeInches w_pipeChances w_weights w_woods w_sums)) [3, 4, 5, 6, 7, 8] (by decide) rfl
        refine zcl hA hDw hS (zrunV (As := [.int x6, .int (c_unlike x7.toNatClampNeg)]) (rest := [.int x7, .ref (a_c 2)]) S hK hA hE hPw hDw hS (mX3_sumAtBoth l D cI cJ cC G a_w _ w_space w_beam w_door w_law w_used w_pipes w_drilled w_total w_open w_pipeInches w_pipeChances w_weights w_woods w_sums x6 (c_unlike x7.toNatClampNeg) _ h) kX3_sumAtBoth ml_X1_36 ⟨rfl, rfl, by decide, by decide⟩ (q0 := 0) (ci := 3) rfl rfl rfl rfl hl.1 rfl (Nat.le_of_ble_eq_true rfl) dX1_lookWith_77 ⟨Nat.zero_le _, Nat.zero_le _⟩) (fun r_3 u H locs h hP1 hk1 hS => ?_)
        try dsimp only at h
        have hP : va_P D vwCl ((bX1 cI cJ cC a_c c_inch c_gain c_unlikes c_unlike c_shared) ++ (bX3 cI cJ cC a_w w_space w_beam w_door w_law w_used w_pipes w_drilled w_total w_open w_pipeInches w_pipeChances w_weights w_woods w_sums)) H := zMerge hP (hDD _ rfl) [3, 4, 5, 6, 7, 8] rfl rfl hk1 hP1
        obtain ⟨hin, h⟩ := h
        refine va_last hx hb hK hP (hDD _ rfl) hS 2 1 rfl rfl hin dX1_lookWith_80 (fun H locs hP _ hS => ?_)
        have hP : va_P D vwCl ((bX1 cI cJ cC a_c c_inch c_gain c_unlikes c_unlike (vp_updL c_shared x7.toNatClampNeg r_3)) ++ (bX3 cI cJ cC a_w w_space w_beam w_door w_law w_used w_pipes w_drilled w_total w_open w_pipeInches w_pipeChances w_weights w_woods w_sums)) H := hP
        refine lv_iinc (v := x7 + (1 : Int32)) (lv' := [(7, .int (x7 + (1 : Int32))), (0, .ref (a_c 0)), (1, .ref (a_w 0)), (2, .int x2), (3, .long x3), (5, .int x5), (6, .int x6)]) hx hb dX1_lookWith_81 hl (k := 6) rfl (by rfl) (by decide) rfl (fun ls hl => ?_)
        refine lv_goto (tgt := 45) hx hb dX1_lookWith_84 (by decide) ?_
        exact ih (x7 + (1 : Int32)) (vp_updL c_shared x7.toNatClampNeg r_3) _ _ _ h hP hS (lv_sub hl [1, 2, 3, 4, 5, 6, 0] rfl)
def lpX1_lookWith_17 (K : Int64 → Int32 → Int32 → (Nat → Int64) → Prop) (x2 : Int32) (c_unlikes : Int32) (c_unlike : Nat → Int32) (w_weights : Nat → Int64) (w_woods : Nat → Int32) (w_sums : Nat → Int64) : Nat → Int64 → Int32 → Int32 → (Nat → Int64) → Prop
  | 0, _, _, _, _ => False
  | n + 1, x3, x5, c_inch, c_shared => ((c_unlikes ≤ x5 → (K x3 x5 c_inch c_shared)) ∧ (¬ (c_unlikes ≤ x5) → ((((48 : Int32) ≤ x5 → (K x3 x5 c_inch c_shared)) ∧ (¬ ((48 : Int32) ≤ x5) → (vp_in x5 48 ∧ (∃ n_4 : Nat, lpX1_lookWith_45 (fun (x7_5 : Int32) (c_shared_6 : Nat → Int64) => wpX1_greatestThen (fun (r_7 : Int64) => wpX1_greatestThen (fun (r_8 : Int64) => (((r_7 + r_8) ≤ x3 → (lpX1_lookWith_17 K x2 c_unlikes c_unlike w_weights w_woods w_sums n x3 (x5 + (1 : Int32)) c_inch c_shared_6)) ∧ (¬ ((r_7 + r_8) ≤ x3) → (lpX1_lookWith_17 K x2 c_unlikes c_unlike w_weights w_woods w_sums n (r_7 + r_8) (x5 + (1 : Int32)) (c_unlike x5.toNatClampNeg) c_shared_6)))) c_unlikes c_unlike c_shared_6 w_sums x2 (0 : Int32)) c_unlikes c_unlike c_shared_6 w_sums x2 (1 : Int32)) (c_unlike x5.toNatClampNeg) c_unlikes c_unlike w_weights w_woods n_4 (0 : Int32) c_shared)))))))
set_option maxHeartbeats 4000000 in
set_option maxRecDepth 100000 in
theorem wX1_lookWith_17 (l : Launch) (D : va_G) (cI cJ cC : ClassId) (G : Nat → Nat → Nat) (a_c : Nat → Nat) (a_w : Nat → Nat) {p : Program} {e : Env} {s : State} {m : MethodId} {below : List Frame} {meth : Method} {c : Code} {A : Nat → Prop} {Q : State → Prop} (p2 : Int32) (x2 : Int32) (c_gain : Int64) (c_unlikes : Int32) (c_unlike : Nat → Int32) (w_space : Int32) (w_beam : Int32) (w_door : Int32) (w_law : Int32) (w_used : Int32) (w_pipes : Int32) (w_drilled : Int64) (w_total : Int64) (w_open : Int32) (w_pipeInches : Nat → Int32) (w_pipeChances : Nat → Int32) (w_weights : Nat → Int64) (w_woods : Nat → Int32) (w_sums : Nat → Int64) (K : Int64 → Int32 → Int32 → (Nat → Int64) → Prop) (S : CallFix p m c cX1_lookWith 9 s ([.ref (a_c 0), .ref (a_w 0), .int p2] : List Value).toArray bg RX1) (hK : va_K D vwCl (tz cI cJ cC) s) (hDD : ∀ ws : va_W, ws.map (fun q => q.1) = [a_c 0, a_c 1, a_c 2, a_w 0, a_w 1, a_w 2, a_w 3, a_w 4, a_w 5] → va_D A ws) (hA : ∀ q, s.heap.size ≤ q → A q) (hE : EV G A s) (hKK : ∀ (x3 : Int64) (x5 : Int32) (c_inch : Int32) (c_shared : Nat → Int64) (H : Heap) (locs : List Loc) (ls : Array Slot), K x3 x5 c_inch c_shared → va_P D vwCl ((bX1 cI cJ cC a_c c_inch c_gain c_unlikes c_unlike c_shared) ++ (bX3 cI cJ cC a_w w_space w_beam w_door w_law w_used w_pipes w_drilled w_total w_open w_pipeInches w_pipeChances w_weights w_woods w_sums)) H → va_S A s.heap H locs → lv_has ls 9 [(0, .ref (a_c 0)), (1, .ref (a_w 0)), (3, .long x3)] → W p l e ({ frames := 3, cells := 0, slots := 0, locals := 67 }) s m ([.ref (a_c 0), .ref (a_w 0), .int p2] : List Value).toArray below meth c H locs 0 0 Q (F0 m 126 ls [])) :
    ∀ (n : Nat) (x3 : Int64) (x5 : Int32) (c_inch : Int32) (c_shared : Nat → Int64) (H : Heap) (locs : List Loc) (ls : Array Slot), lpX1_lookWith_17 K x2 c_unlikes c_unlike w_weights w_woods w_sums n x3 x5 c_inch c_shared → va_P D vwCl ((bX1 cI cJ cC a_c c_inch c_gain c_unlikes c_unlike c_shared) ++ (bX3 cI cJ cC a_w w_space w_beam w_door w_law w_used w_pipes w_drilled w_total w_open w_pipeInches w_pipeChances w_weights w_woods w_sums)) H → va_S A s.heap H locs → lv_has ls 9 [(0, .ref (a_c 0)), (1, .ref (a_w 0)), (2, .int x2), (3, .long x3), (5, .int x5)] → W p l e ({ frames := 3, cells := 0, slots := 0, locals := 67 }) s m ([.ref (a_c 0), .ref (a_w 0), .int p2] : List Value).toArray below meth c H locs 0 0 Q (F0 m 17 ls []) := by
  obtain ⟨hx, hb, hml, hown, ht⟩ := id S
  intro n
  induction n with
  | zero =>
    intro x3 x5 c_inch c_shared H locs ls h
    exact absurd h (by simp [lpX1_lookWith_17])
  | succ n ih =>
    intro x3 x5 c_inch c_shared H locs ls h hP hS hl
    rw [lpX1_lookWith_17] at h
    refine lv_iload hx hb dX1_lookWith_17 (lv_at hl 4 rfl) ?_
    refine lv_aload_n hx hb dX1_lookWith_19 rfl (lv_at hl 0 rfl) ?_
    refine va_get (D := D) (ci := 1) (v := .int c_unlikes) (C := RX1) (T := TX1) (N := 5) hx hb ht inX1 hown hK hP 0 rfl rfl 3 (by decide) (ht _ fl_X1_23) (fun _ h9 => h9) rfl dX1_lookWith_20 ?_
    refine lv_icmp_ge (tgt := 126) hx hb dX1_lookWith_23 (by decide) (fun z => ?_) (fun z => ?_)
    · replace h := h.1 z
      exact hKK x3 x5 c_inch c_shared _ _ _ h hP hS (lv_sub hl [0, 1, 3] rfl)
    · replace h := h.2 z
      refine lv_iload hx hb dX1_lookWith_26 (lv_at hl 4 rfl) ?_
      refine lv_bipush (v := (48 : Int32)) hx hb dX1_lookWith_28 (by decide) ?_
      refine lv_icmp_ge (tgt := 126) hx hb dX1_lookWith_30 (by decide) (fun z => ?_) (fun z => ?_)
      · replace h := h.1 z
        exact hKK x3 x5 c_inch c_shared _ _ _ h hP hS (lv_sub hl [0, 1, 3] rfl)
      · replace h := h.2 z
        refine lv_aload_n hx hb dX1_lookWith_33 rfl (lv_at hl 0 rfl) ?_
        refine va_get (D := D) (ci := 1) (v := .ref (a_c 1)) (C := RX1) (T := TX1) (N := 5) hx hb ht inX1 hown hK hP 0 rfl rfl 2 (by decide) (ht _ fl_X1_19) (fun _ h9 => h9) rfl dX1_lookWith_34 ?_
        refine lv_iload hx hb dX1_lookWith_37 (lv_at hl 4 rfl) ?_
        obtain ⟨hin, h⟩ := h
        refine va_iald hx hb hK hP 1 0 rfl rfl hin dX1_lookWith_39 ?_
        refine lv_istore (lv' := [(6, .int (c_unlike x5.toNatClampNeg)), (0, .ref (a_c 0)), (1, .ref (a_w 0)), (2, .int x2), (3, .long x3), (5, .int x5)]) hx hb dX1_lookWith_40 hl (by decide) rfl (fun ls hl => ?_)
        refine lv_iconst (v := (0 : Int32)) hx hb dX1_lookWith_42 (by decide) ?_
        refine lv_istore (lv' := [(7, .int (0 : Int32)), (6, .int (c_unlike x5.toNatClampNeg)), (0, .ref (a_c 0)), (1, .ref (a_w 0)), (2, .int x2), (3, .long x3), (5, .int x5)]) hx hb dX1_lookWith_43 hl (by decide) rfl (fun ls hl => ?_)
        obtain ⟨n_4, h⟩ := h
        refine wX1_lookWith_45 l D cI cJ cC G a_c a_w p2 x2 x3 x5 (c_unlike x5.toNatClampNeg) c_inch c_gain c_unlikes c_unlike w_space w_beam w_door w_law w_used w_pipes w_drilled w_total w_open w_pipeInches w_pipeChances w_weights w_woods w_sums _ S hK hDD hA hE (fun x7_5 c_shared_6 H locs ls h hP hS hl => ?_) n_4 (0 : Int32) c_shared _ _ _ h hP hS (lv_sub hl [2, 3, 4, 5, 6, 1, 0] rfl)
        try dsimp only at h
        refine lv_aload_n hx hb dX1_lookWith_87 rfl (lv_at hl 0 rfl) ?_
        refine lv_aload_n hx hb dX1_lookWith_88 rfl (lv_at hl 1 rfl) ?_
        refine lv_iload_n hx hb dX1_lookWith_89 rfl (lv_at hl 2 rfl) ?_
        refine lv_iconst (v := (1 : Int32)) hx hb dX1_lookWith_90 (by decide) ?_
        refine zcl hA (hDD _ rfl) hS (zrunV (As := [.ref (a_w 0), .int x2, .int (1 : Int32)]) (rest := []) S hK hA hE hP (hDD _ rfl) hS (mX1_greatestThen l D cI cJ cC G a_c a_w _ c_inch c_gain c_unlikes c_unlike c_shared_6 w_space w_beam w_door w_law w_used w_pipes w_drilled w_total w_open w_pipeInches w_pipeChances w_weights w_woods w_sums x2 (1 : Int32) _ h) kX1_greatestThen ml_X1_42 ⟨rfl, rfl, by decide, by decide⟩ (q0 := 0) (ci := 1) rfl rfl rfl rfl hl.1 rfl (Nat.le_of_ble_eq_true rfl) dX1_lookWith_91 ⟨Nat.zero_le _, Nat.zero_le _⟩) (fun r_7 u H locs h hP1 hk1 hS => ?_)
        try dsimp only at h
        have hP : va_P D vwCl ((bX1 cI cJ cC a_c c_inch c_gain c_unlikes c_unlike c_shared_6) ++ (bX3 cI cJ cC a_w w_space w_beam w_door w_law w_used w_pipes w_drilled w_total w_open w_pipeInches w_pipeChances w_weights w_woods w_sums)) H := hP1
        refine lv_aload_n hx hb dX1_lookWith_94 rfl (lv_at hl 0 rfl) ?_
        refine lv_aload_n hx hb dX1_lookWith_95 rfl (lv_at hl 1 rfl) ?_
        refine lv_iload_n hx hb dX1_lookWith_96 rfl (lv_at hl 2 rfl) ?_
        refine lv_iconst (v := (0 : Int32)) hx hb dX1_lookWith_97 (by decide) ?_
        refine zcl hA (hDD _ rfl) hS (zrunV (As := [.ref (a_w 0), .int x2, .int (0 : Int32)]) (rest := [.long r_7]) S hK hA hE hP (hDD _ rfl) hS (mX1_greatestThen l D cI cJ cC G a_c a_w _ c_inch c_gain c_unlikes c_unlike c_shared_6 w_space w_beam w_door w_law w_used w_pipes w_drilled w_total w_open w_pipeInches w_pipeChances w_weights w_woods w_sums x2 (0 : Int32) _ h) kX1_greatestThen ml_X1_42 ⟨rfl, rfl, by decide, by decide⟩ (q0 := 0) (ci := 1) rfl rfl rfl rfl hl.1 rfl (Nat.le_of_ble_eq_true rfl) dX1_lookWith_98 ⟨Nat.zero_le _, Nat.zero_le _⟩) (fun r_8 u H locs h hP1 hk1 hS => ?_)
        try dsimp only at h
        have hP : va_P D vwCl ((bX1 cI cJ cC a_c c_inch c_gain c_unlikes c_unlike c_shared_6) ++ (bX3 cI cJ cC a_w w_space w_beam w_door w_law w_used w_pipes w_drilled w_total w_open w_pipeInches w_pipeChances w_weights w_woods w_sums)) H := hP1
        refine lv_ladd hx hb dX1_lookWith_101 ?_
        refine lv_lstore (lv' := [(7, .long (r_7 + r_8)), (0, .ref (a_c 0)), (1, .ref (a_w 0)), (2, .int x2), (3, .long x3), (5, .int x5), (6, .int (c_unlike x5.toNatClampNeg))]) hx hb dX1_lookWith_102 hl (by decide) rfl (fun ls hl => ?_)
        refine lv_lload hx hb dX1_lookWith_104 (lv_at hl 0 rfl) ?_
        refine lv_lload_n hx hb dX1_lookWith_106 rfl (lv_at hl 4 rfl) ?_
        refine W.lcmp hx hb dX1_lookWith_107 ?_
        refine lv_if_le (tgt := 120) hx hb dX1_lookWith_108 (by decide) (fun z => ?_) (fun z => ?_)
        · replace h := h.1 (zl_le.mp z)
          refine lv_iinc (v := x5 + (1 : Int32)) (lv' := [(5, .int (x5 + (1 : Int32))), (7, .long (r_7 + r_8)), (0, .ref (a_c 0)), (1, .ref (a_w 0)), (2, .int x2), (3, .long x3), (6, .int (c_unlike x5.toNatClampNeg))]) hx hb dX1_lookWith_120 hl (k := 5) rfl (by rfl) (by decide) rfl (fun ls hl => ?_)
          refine lv_goto (tgt := 17) hx hb dX1_lookWith_123 (by decide) ?_
          exact ih x3 (x5 + (1 : Int32)) c_inch c_shared_6 _ _ _ h hP hS (lv_sub hl [2, 3, 4, 5, 0] rfl)
        · replace h := h.2 (fun q => z (zl_le.mpr q))
          refine lv_lload hx hb dX1_lookWith_111 (lv_at hl 0 rfl) ?_
          refine lv_lstore_n (lv' := [(3, .long (r_7 + r_8)), (7, .long (r_7 + r_8)), (0, .ref (a_c 0)), (1, .ref (a_w 0)), (2, .int x2), (5, .int x5), (6, .int (c_unlike x5.toNatClampNeg))]) hx hb dX1_lookWith_113 rfl hl (by decide) rfl (fun ls hl => ?_)
          refine lv_aload_n hx hb dX1_lookWith_114 rfl (lv_at hl 2 rfl) ?_
          refine lv_iload hx hb dX1_lookWith_115 (lv_at hl 6 rfl) ?_
          refine va_put (D := D) (ci := 1) (v := .int (c_unlike x5.toNatClampNeg)) (ty := .int) (C := RX1) (T := TX1) (N := 5) hx hb ht inX1 tyX1 tyX1_ok nmX1 hown hK hP (hDD _ rfl) hS 0 rfl rfl 0 (by decide) (ht _ fl_X1_9) (fun _ h9 => h9) rfl (by decide +kernel) rfl rfl (Nat.le_of_ble_eq_true rfl) dX1_lookWith_117 (fun H locs hP _ hS => ?_)
          have hP : va_P D vwCl ((bX1 cI cJ cC a_c (c_unlike x5.toNatClampNeg) c_gain c_unlikes c_unlike c_shared_6) ++ (bX3 cI cJ cC a_w w_space w_beam w_door w_law w_used w_pipes w_drilled w_total w_open w_pipeInches w_pipeChances w_weights w_woods w_sums)) H := hP
          refine lv_iinc (v := x5 + (1 : Int32)) (lv' := [(5, .int (x5 + (1 : Int32))), (3, .long (r_7 + r_8)), (7, .long (r_7 + r_8)), (0, .ref (a_c 0)), (1, .ref (a_w 0)), (2, .int x2), (6, .int (c_unlike x5.toNatClampNeg))]) hx hb dX1_lookWith_120 hl (k := 5) rfl (by rfl) (by decide) rfl (fun ls hl => ?_)
          refine lv_goto (tgt := 17) hx hb dX1_lookWith_123 (by decide) ?_
          exact ih (r_7 + r_8) (x5 + (1 : Int32)) (c_unlike x5.toNatClampNeg) c_shared_6 _ _ _ h hP hS (lv_sub hl [3, 4, 5, 1, 0] rfl)
def wpX1_lookWith (post : Int32 → Int64 → Int32 → (Nat → Int32) → (Nat → Int64) → Prop) (c_unlike : Nat → Int32) (c_shared : Nat → Int64) (w_weights : Nat → Int64) (w_woods : Nat → Int32) (w_sums : Nat → Int64) (p2 : Int32) : Prop := wpX1_gatherUnlike (fun (c_unlikes_1 : Int32) (c_unlike_2 : Nat → Int32) => ∃ n_9 : Nat, lpX1_lookWith_17 (fun (x3_10 : Int64) (x5_11 : Int32) (c_inch_12 : Int32) (c_shared_13 : Nat → Int64) => wpX3_likeliest (fun (r_14 : Int32) => vp_in r_14 48 ∧ (post c_inch_12 (x3_10 - ((10 : Int64) * (w_sums r_14.toNatClampNeg))) c_unlikes_1 c_unlike_2 c_shared_13)) w_sums (0 : Int32) (48 : Int32)) p2 c_unlikes_1 c_unlike_2 w_weights w_woods w_sums n_9 (-1 : Int64) (0 : Int32) (0 : Int32) c_shared) c_unlike w_woods
set_option maxHeartbeats 4000000 in
set_option maxRecDepth 100000 in
theorem mX1_lookWith (l : Launch) (D : va_G) (cI cJ cC : ClassId) (G : Nat → Nat → Nat) (a_c : Nat → Nat) (a_w : Nat → Nat) (sz : Nat) (c_inch : Int32) (c_gain : Int64) (c_unlikes : Int32) (c_unlike : Nat → Int32) (c_shared : Nat → Int64) (w_space : Int32) (w_beam : Int32) (w_door : Int32) (w_law : Int32) (w_used : Int32) (w_pipes : Int32) (w_drilled : Int64) (w_total : Int64) (w_open : Int32) (w_pipeInches : Nat → Int32) (w_pipeChances : Nat → Int32) (w_weights : Nat → Int64) (w_woods : Nat → Int32) (w_sums : Nat → Int64) (p2 : Int32) (post : Int32 → Int64 → Int32 → (Nat → Int32) → (Nat → Int64) → Prop) (h : wpX1_lookWith post c_unlike c_shared w_weights w_woods w_sums p2) : Met l yX1_lookWith (wz yX1_lookWith cX1_lookWith 9 none) ({ frames := 3, cells := 0, slots := 0, locals := 67 }) (va_Pc [.ref (a_c 0), .ref (a_w 0), .int p2] (PW D (tz cI cJ cC) G ((bX1 cI cJ cC a_c c_inch c_gain c_unlikes c_unlike c_shared) ++ (bX3 cI cJ cC a_w w_space w_beam w_door w_law w_used w_pipes w_drilled w_total w_open w_pipeInches w_pipeChances w_weights w_woods w_sums)) sz)) (va_Qv (fun (u : Int32 × Int64 × Int32 × (Nat → Int32) × (Nat → Int64)) => post u.1 u.2.1 u.2.2.1 u.2.2.2.1 u.2.2.2.2) (fun (u : Int32 × Int64 × Int32 × (Nat → Int32) × (Nat → Int64)) t => va_P D vwCl ((bX1 cI cJ cC a_c u.1 u.2.1 u.2.2.1 u.2.2.2.1 u.2.2.2.2) ++ (bX3 cI cJ cC a_w w_space w_beam w_door w_law w_used w_pipes w_drilled w_total w_open w_pipeInches w_pipeChances w_weights w_woods w_sums)) t.heap) (va_A ((bX1 cI cJ cC a_c c_inch c_gain c_unlikes c_unlike c_shared) ++ (bX3 cI cJ cC a_w w_space w_beam w_door w_law w_used w_pipes w_drilled w_total w_open w_pipeInches w_pipeChances w_weights w_woods w_sums)) sz)) 0 0 (va_A ((bX1 cI cJ cC a_c c_inch c_gain c_unlikes c_unlike c_shared) ++ (bX3 cI cJ cC a_w w_space w_beam w_door w_law w_used w_pipes w_drilled w_total w_open w_pipeInches w_pipeChances w_weights w_woods w_sums)) sz) := by
  refine zmv (gw := fun (u : Int32 × Int64 × Int32 × (Nat → Int32) × (Nat → Int64)) => (bX1 cI cJ cC a_c u.1 u.2.1 u.2.2.1 u.2.2.2.1 u.2.2.2.2) ++ (bX3 cI cJ cC a_w w_space w_beam w_door w_law w_used w_pipes w_drilled w_total w_open w_pipeInches w_pipeChances w_weights w_woods w_sums)) (plainFor_of_name (by decide)) (Nat.le_of_ble_eq_true rfl) ?_
  intro p e s m below meth c A Q ls S hK hD hA hE hP hl hret
  obtain ⟨hx, hb, hml, hown, ht⟩ := id S
  have hS : va_S A s.heap s.heap [] := va_S.rf
  have hDD : ∀ ws : va_W, ws.map (fun q => q.1) = [a_c 0, a_c 1, a_c 2, a_w 0, a_w 1, a_w 2, a_w 3, a_w 4, a_w 5] → va_D A ws := fun ws hw => zD hD (hw.trans rfl)
  have hl : lv_has ls 9 [(0, .ref (a_c 0)), (1, .ref (a_w 0)), (2, .int p2)] := hl
  unfold wpX1_lookWith at h
  refine lv_aload_n hx hb dX1_lookWith_0 rfl (lv_at hl 0 rfl) ?_
  refine lv_aload_n hx hb dX1_lookWith_1 rfl (lv_at hl 1 rfl) ?_
  refine zcv hA (hDD _ rfl) hS (zrunV (As := [.ref (a_w 0)]) (rest := []) S hK hA hE hP (hDD _ rfl) hS (mX1_gatherUnlike l D cI cJ cC G a_c a_w _ c_inch c_gain c_unlikes c_unlike c_shared w_space w_beam w_door w_law w_used w_pipes w_drilled w_total w_open w_pipeInches w_pipeChances w_weights w_woods w_sums _ h) kX1_gatherUnlike ml_X1_30 ⟨rfl, rfl, by decide, by decide⟩ (q0 := 0) (ci := 1) rfl rfl rfl rfl hl.1 rfl (Nat.le_of_ble_eq_true rfl) dX1_lookWith_2 ⟨Nat.zero_le _, Nat.zero_le _⟩) (fun u H locs h hP1 hk1 hS => ?_)
  obtain ⟨c_unlikes_1, c_unlike_2⟩ := u
  dsimp only at h
  have hP : va_P D vwCl ((bX1 cI cJ cC a_c c_inch c_gain c_unlikes_1 c_unlike_2 c_shared) ++ (bX3 cI cJ cC a_w w_space w_beam w_door w_law w_used w_pipes w_drilled w_total w_open w_pipeInches w_pipeChances w_weights w_woods w_sums)) H := hP1
  refine lv_aload_n hx hb dX1_lookWith_5 rfl (lv_at hl 0 rfl) ?_
  refine lv_iconst (v := (0 : Int32)) hx hb dX1_lookWith_6 (by decide) ?_
  refine va_put (D := D) (ci := 1) (v := .int (0 : Int32)) (ty := .int) (C := RX1) (T := TX1) (N := 5) hx hb ht inX1 tyX1 tyX1_ok nmX1 hown hK hP (hDD _ rfl) hS 0 rfl rfl 0 (by decide) (ht _ fl_X1_9) (fun _ h9 => h9) rfl (by decide +kernel) rfl rfl (Nat.le_of_ble_eq_true rfl) dX1_lookWith_7 (fun H locs hP _ hS => ?_)
  have hP : va_P D vwCl ((bX1 cI cJ cC a_c (0 : Int32) c_gain c_unlikes_1 c_unlike_2 c_shared) ++ (bX3 cI cJ cC a_w w_space w_beam w_door w_law w_used w_pipes w_drilled w_total w_open w_pipeInches w_pipeChances w_weights w_woods w_sums)) H := hP
  refine lv_ldc2 hx hb hown (ht _ kc_X1_34) dX1_lookWith_10 ?_
  refine lv_lstore_n (lv' := [(3, .long (-1 : Int64)), (0, .ref (a_c 0)), (1, .ref (a_w 0)), (2, .int p2)]) hx hb dX1_lookWith_13 rfl hl (by decide) rfl (fun ls hl => ?_)
  refine lv_iconst (v := (0 : Int32)) hx hb dX1_lookWith_14 (by decide) ?_
  refine lv_istore (lv' := [(5, .int (0 : Int32)), (3, .long (-1 : Int64)), (0, .ref (a_c 0)), (1, .ref (a_w 0)), (2, .int p2)]) hx hb dX1_lookWith_15 hl (by decide) rfl (fun ls hl => ?_)
  obtain ⟨n_9, h⟩ := h
  refine wX1_lookWith_17 l D cI cJ cC G a_c a_w p2 p2 c_gain c_unlikes_1 c_unlike_2 w_space w_beam w_door w_law w_used w_pipes w_drilled w_total w_open w_pipeInches w_pipeChances w_weights w_woods w_sums _ S hK hDD hA hE (fun x3_10 x5_11 c_inch_12 c_shared_13 H locs ls h hP hS hl => ?_) n_9 (-1 : Int64) (0 : Int32) (0 : Int32) c_shared _ _ _ h hP hS (lv_sub hl [2, 3, 4, 1, 0] rfl)
  try dsimp only at h
  refine lv_aload_n hx hb dX1_lookWith_126 rfl (lv_at hl 0 rfl) ?_
  refine lv_lload_n hx hb dX1_lookWith_127 rfl (lv_at hl 2 rfl) ?_
  refine lv_ldc2 hx hb hown (ht _ kc_X1_46) dX1_lookWith_128 ?_
  refine lv_aload_n hx hb dX1_lookWith_131 rfl (lv_at hl 1 rfl) ?_
  refine va_get (D := D) (ci := 3) (v := .ref (a_w 5)) (C := RX3) (T := TX3) (N := 14) hx hb ht inX3 hown hK hP 3 rfl rfl 11 (by decide) (ht _ fl_X1_48) (fun _ h9 => h9) rfl dX1_lookWith_132 ?_
  refine lv_aload_n hx hb dX1_lookWith_135 rfl (lv_at hl 1 rfl) ?_
  refine lv_iconst (v := (0 : Int32)) hx hb dX1_lookWith_136 (by decide) ?_
  refine lv_bipush (v := (48 : Int32)) hx hb dX1_lookWith_137 (by decide) ?_
  have hPw : va_P D vwCl ((bX3 cI cJ cC a_w w_space w_beam w_door w_law w_used w_pipes w_drilled w_total w_open w_pipeInches w_pipeChances w_weights w_woods w_sums)) _ := hP.sub [3, 4, 5, 6, 7, 8] rfl
  have hDw : va_D A ((bX3 cI cJ cC a_w w_space w_beam w_door w_law w_used w_pipes w_drilled w_total w_open w_pipeInches w_pipeChances w_weights w_woods w_sums)) := (hDD _ rfl).sub (ws := (bX1 cI cJ cC a_c c_inch_12 c_gain c_unlikes_1 c_unlike_2 c_shared_13) ++ (bX3 cI cJ cC a_w w_space w_beam w_door w_law w_used w_pipes w_drilled w_total w_open w_pipeInches w_pipeChances w_weights w_woods w_sums)) [3, 4, 5, 6, 7, 8] (by decide) rfl
  refine zci hA hDw hS (zrunV (As := [.int (0 : Int32), .int (48 : Int32)]) (rest := [.ref (a_w 5), .long (10 : Int64), .long x3_10, .ref (a_c 0)]) S hK hA hE hPw hDw hS (mX3_likeliest l D cI cJ cC G a_w _ w_space w_beam w_door w_law w_used w_pipes w_drilled w_total w_open w_pipeInches w_pipeChances w_weights w_woods w_sums (0 : Int32) (48 : Int32) _ h) kX3_likeliest ml_X1_51 ⟨rfl, rfl, by decide, by decide⟩ (q0 := 0) (ci := 3) rfl rfl rfl rfl hl.1 rfl (Nat.le_of_ble_eq_true rfl) dX1_lookWith_139 ⟨Nat.zero_le _, Nat.zero_le _⟩) (fun r_14 u H locs h hP1 hk1 hS => ?_)
  try dsimp only at h
  have hP : va_P D vwCl ((bX1 cI cJ cC a_c c_inch_12 c_gain c_unlikes_1 c_unlike_2 c_shared_13) ++ (bX3 cI cJ cC a_w w_space w_beam w_door w_law w_used w_pipes w_drilled w_total w_open w_pipeInches w_pipeChances w_weights w_woods w_sums)) H := zMerge hP (hDD _ rfl) [3, 4, 5, 6, 7, 8] rfl rfl hk1 hP1
  obtain ⟨hin, h⟩ := h
  refine va_lald hx hb hK hP 8 1 rfl rfl hin dX1_lookWith_142 ?_
  refine lv_lmul hx hb dX1_lookWith_143 ?_
  refine lv_lsub hx hb dX1_lookWith_144 ?_
  refine va_put (D := D) (ci := 1) (v := .long (x3_10 - ((10 : Int64) * (w_sums r_14.toNatClampNeg)))) (ty := .long) (C := RX1) (T := TX1) (N := 5) hx hb ht inX1 tyX1 tyX1_ok nmX1 hown hK hP (hDD _ rfl) hS 0 rfl rfl 1 (by decide) (ht _ fl_X1_15) (fun _ h9 => h9) rfl (by decide +kernel) rfl rfl (Nat.le_of_ble_eq_true rfl) dX1_lookWith_145 (fun H locs hP _ hS => ?_)
  have hP : va_P D vwCl ((bX1 cI cJ cC a_c c_inch_12 (x3_10 - ((10 : Int64) * (w_sums r_14.toNatClampNeg))) c_unlikes_1 c_unlike_2 c_shared_13) ++ (bX3 cI cJ cC a_w w_space w_beam w_door w_law w_used w_pipes w_drilled w_total w_open w_pipeInches w_pipeChances w_weights w_woods w_sums)) H := hP
  exact hret (c_inch_12, x3_10 - ((10 : Int64) * (w_sums r_14.toNatClampNeg)), c_unlikes_1, c_unlike_2, c_shared_13) _ _ _ _ h hP hS dX1_lookWith_148
def wpX2_signAt (post : Int32 → Prop) (s_length : Int32) (s_signs : Nat → Int32) (p1 : Int32) : Prop := ((p1 < (0 : Int32) → (post (0 : Int32))) ∧ (¬ (p1 < (0 : Int32)) → (((s_length ≤ p1 → (post (0 : Int32))) ∧ (¬ (s_length ≤ p1) → (((p1 < (96 : Int32) → (vp_in p1 96 ∧ (narrow .char (.int (s_signs p1.toNatClampNeg)) = .int (s_signs p1.toNatClampNeg) ∧ post (s_signs p1.toNatClampNeg)))) ∧ (¬ (p1 < (96 : Int32)) → (post (0 : Int32))))))))))
set_option maxHeartbeats 4000000 in
set_option maxRecDepth 100000 in
theorem mX2_signAt (l : Launch) (D : va_G) (cI cJ cC : ClassId) (G : Nat → Nat → Nat) (a_s : Nat → Nat) (sz : Nat) (s_length : Int32) (s_place : Int32) (s_signs : Nat → Int32) (p1 : Int32) (post : Int32 → Prop) (h : wpX2_signAt post s_length s_signs p1) : Met l yX2_signAt (wz yX2_signAt cX2_signAt 2 (some .char)) ({ frames := 0, cells := 0, slots := 0, locals := 0 }) (va_Pc [.ref (a_s 0), .int p1] (PW D (tz cI cJ cC) G ((bX2 cI cJ cC a_s s_length s_place s_signs)) sz)) (va_Qi (fun (r : Int32) (u : Unit) => post r ) (fun (u : Unit) t => va_P D vwCl ((bX2 cI cJ cC a_s s_length s_place s_signs)) t.heap) (va_A ((bX2 cI cJ cC a_s s_length s_place s_signs)) sz)) 0 0 (va_A ((bX2 cI cJ cC a_s s_length s_place s_signs)) sz) := by
  refine zmi (gw := fun (u : Unit) => (bX2 cI cJ cC a_s s_length s_place s_signs)) (plainFor_of_name (by decide)) (Nat.le_of_ble_eq_true rfl) ?_
  intro p e s m below meth c A Q ls S hK hD hA hE hP hl hret
  obtain ⟨hx, hb, hml, hown, ht⟩ := id S
  have hS : va_S A s.heap s.heap [] := va_S.rf
  have hDD : ∀ ws : va_W, ws.map (fun q => q.1) = [a_s 0, a_s 1] → va_D A ws := fun ws hw => zD hD (hw.trans rfl)
  have hl : lv_has ls 2 [(0, .ref (a_s 0)), (1, .int p1)] := hl
  unfold wpX2_signAt at h
  refine lv_iload_n hx hb dX2_signAt_0 rfl (lv_at hl 1 rfl) ?_
  refine lv_if_lt (tgt := 18) hx hb dX2_signAt_1 (by decide) (fun z => ?_) (fun z => ?_)
  · replace h := h.1 z
    refine lv_iconst (v := (0 : Int32)) hx hb dX2_signAt_18 (by decide) ?_
    refine lv_goto (tgt := 28) hx hb dX2_signAt_19 (by decide) ?_
    exact hret (0 : Int32) () _ _ _ _ rfl h hP hS dX2_signAt_28
  · replace h := h.2 z
    refine lv_iload_n hx hb dX2_signAt_4 rfl (lv_at hl 1 rfl) ?_
    refine lv_aload_n hx hb dX2_signAt_5 rfl (lv_at hl 0 rfl) ?_
    refine va_get (D := D) (ci := 2) (v := .int s_length) (C := RX2) (T := TX2) (N := 3) hx hb ht inX2 hown hK hP 0 rfl rfl 1 (by decide) (ht _ fl_X2_15) (fun _ h9 => h9) rfl dX2_signAt_6 ?_
    refine lv_icmp_ge (tgt := 18) hx hb dX2_signAt_9 (by decide) (fun z => ?_) (fun z => ?_)
    · replace h := h.1 z
      refine lv_iconst (v := (0 : Int32)) hx hb dX2_signAt_18 (by decide) ?_
      refine lv_goto (tgt := 28) hx hb dX2_signAt_19 (by decide) ?_
      exact hret (0 : Int32) () _ _ _ _ rfl h hP hS dX2_signAt_28
    · replace h := h.2 z
      refine lv_iload_n hx hb dX2_signAt_12 rfl (lv_at hl 1 rfl) ?_
      refine lv_bipush (v := (96 : Int32)) hx hb dX2_signAt_13 (by decide) ?_
      refine lv_icmp_lt (tgt := 22) hx hb dX2_signAt_15 (by decide) (fun z => ?_) (fun z => ?_)
      · replace h := h.1 z
        refine lv_aload_n hx hb dX2_signAt_22 rfl (lv_at hl 0 rfl) ?_
        refine va_get (D := D) (ci := 2) (v := .ref (a_s 1)) (C := RX2) (T := TX2) (N := 3) hx hb ht inX2 hown hK hP 0 rfl rfl 0 (by decide) (ht _ fl_X2_9) (fun _ h9 => h9) rfl dX2_signAt_23 ?_
        refine lv_iload_n hx hb dX2_signAt_26 rfl (lv_at hl 1 rfl) ?_
        obtain ⟨hin, h⟩ := h
        refine va_cald hx hb hK hP 1 2 rfl rfl hin dX2_signAt_27 ?_
        exact hret (s_signs p1.toNatClampNeg) () _ _ _ _ h.1 h.2 hP hS dX2_signAt_28
      · replace h := h.2 z
        refine lv_iconst (v := (0 : Int32)) hx hb dX2_signAt_18 (by decide) ?_
        refine lv_goto (tgt := 28) hx hb dX2_signAt_19 (by decide) ?_
        exact hret (0 : Int32) () _ _ _ _ rfl h hP hS dX2_signAt_28
def wpX2_formBehind (post : Nat → Prop) (p0 : Int32) : Prop := ((p0 = (100 : Int32) → (post 2)) ∧ (¬ (p0 = (100 : Int32)) → (((p0 = (108 : Int32) → (post 1)) ∧ (¬ (p0 = (108 : Int32)) → (((p0 = (110 : Int32) → (post 4)) ∧ (¬ (p0 = (110 : Int32)) → (((p0 = (112 : Int32) → (post 5)) ∧ (¬ (p0 = (112 : Int32)) → (((p0 = (115 : Int32) → (post 0)) ∧ (¬ (p0 = (115 : Int32)) → (((p0 = (116 : Int32) → (post 3)) ∧ (¬ (p0 = (116 : Int32)) → (post 6))))))))))))))))))
set_option maxHeartbeats 4000000 in
set_option maxRecDepth 100000 in
theorem mX2_formBehind (l : Launch) (D : va_G) (cI cJ cC : ClassId) (G : Nat → Nat → Nat) (sz : Nat) (p0 : Int32) (post : Nat → Prop) (h : wpX2_formBehind post p0) : Met l yX2_formBehind (wz yX2_formBehind cX2_formBehind 1 (some (.object "java/lang/String"))) ({ frames := 0, cells := 0, slots := 0, locals := 0 }) (va_Pc [.int p0] (PW D (tz cI cJ cC) G ([]) sz)) (va_Qr post (fun u a t => a = G 1 u ∧ va_P D vwCl ([]) t.heap) (va_A ([]) sz)) 0 0 (va_A ([]) sz) := by
  refine zmr (w0 := []) (plainFor_of_name (by decide)) (Nat.le_of_ble_eq_true rfl) ?_
  intro p e s m below meth c A Q ls S hK hD hA hE hP hl hret
  obtain ⟨hx, hb, hml, hown, ht⟩ := id S
  have hS : va_S A s.heap s.heap [] := va_S.rf
  have hDD : ∀ ws : va_W, ws.map (fun q => q.1) = [] → va_D A ws := fun ws hw => zD hD (hw.trans rfl)
  have hl : lv_has ls 1 [(0, .int p0)] := hl
  unfold wpX2_formBehind at h
  refine lv_iload_n hx hb dX2_formBehind_0 rfl (lv_at hl 0 rfl) ?_
  by_cases z0 : p0 = (100 : Int32)
  · replace h := h.1 z0
    refine lv_tableIn (off := 89) (tgt := 90) hx hb dX2_formBehind_1 (by rw [z0]; decide) (by rw [z0]; decide) (by rw [z0]; rfl) (by decide) ?_
    refine va_ldcS hx hb hown (hE.2.2.2.2.2 2 _ rfl) dX2_formBehind_90 ?_
    exact hret 2 _ _ _ _ h hP hS dX2_formBehind_92
  · replace h := h.2 z0
    by_cases z1 : p0 = (108 : Int32)
    · replace h := h.1 z1
      refine lv_tableIn (off := 86) (tgt := 87) hx hb dX2_formBehind_1 (by rw [z1]; decide) (by rw [z1]; decide) (by rw [z1]; rfl) (by decide) ?_
      refine va_ldcS hx hb hown (hE.2.2.2.2.2 1 _ rfl) dX2_formBehind_87 ?_
      exact hret 1 _ _ _ _ h hP hS dX2_formBehind_89
    · replace h := h.2 z1
      by_cases z2 : p0 = (110 : Int32)
      · replace h := h.1 z2
        refine lv_tableIn (off := 95) (tgt := 96) hx hb dX2_formBehind_1 (by rw [z2]; decide) (by rw [z2]; decide) (by rw [z2]; rfl) (by decide) ?_
        refine va_ldcS hx hb hown (hE.2.2.2.2.2 4 _ rfl) dX2_formBehind_96 ?_
        exact hret 4 _ _ _ _ h hP hS dX2_formBehind_98
      · replace h := h.2 z2
        by_cases z3 : p0 = (112 : Int32)
        · replace h := h.1 z3
          refine lv_tableIn (off := 98) (tgt := 99) hx hb dX2_formBehind_1 (by rw [z3]; decide) (by rw [z3]; decide) (by rw [z3]; rfl) (by decide) ?_
          refine va_ldcS hx hb hown (hE.2.2.2.2.2 5 _ rfl) dX2_formBehind_99 ?_
          exact hret 5 _ _ _ _ h hP hS dX2_formBehind_101
        · replace h := h.2 z3
          by_cases z4 : p0 = (115 : Int32)
          · replace h := h.1 z4
            refine lv_tableIn (off := 83) (tgt := 84) hx hb dX2_formBehind_1 (by rw [z4]; decide) (by rw [z4]; decide) (by rw [z4]; rfl) (by decide) ?_
            refine va_ldcS hx hb hown (hE.2.2.2.2.2 0 _ rfl) dX2_formBehind_84 ?_
            exact hret 0 _ _ _ _ h hP hS dX2_formBehind_86
          · replace h := h.2 z4
            by_cases z5 : p0 = (116 : Int32)
            · replace h := h.1 z5
              refine lv_tableIn (off := 92) (tgt := 93) hx hb dX2_formBehind_1 (by rw [z5]; decide) (by rw [z5]; decide) (by rw [z5]; rfl) (by decide) ?_
              refine va_ldcS hx hb hown (hE.2.2.2.2.2 3 _ rfl) dX2_formBehind_93 ?_
              exact hret 3 _ _ _ _ h hP hS dX2_formBehind_95
            · replace h := h.2 z5
              by_cases y101 : p0 = (101 : Int32)
              · refine lv_tableIn (off := 101) (tgt := 102) hx hb dX2_formBehind_1 (by rw [y101]; decide) (by rw [y101]; decide) (by rw [y101]; rfl) (by decide) ?_
                refine va_ldcS hx hb hown (hE.2.2.2.2.2 6 _ rfl) dX2_formBehind_102 ?_
                exact hret 6 _ _ _ _ h hP hS dX2_formBehind_104
              by_cases y102 : p0 = (102 : Int32)
              · refine lv_tableIn (off := 101) (tgt := 102) hx hb dX2_formBehind_1 (by rw [y102]; decide) (by rw [y102]; decide) (by rw [y102]; rfl) (by decide) ?_
                refine va_ldcS hx hb hown (hE.2.2.2.2.2 6 _ rfl) dX2_formBehind_102 ?_
                exact hret 6 _ _ _ _ h hP hS dX2_formBehind_104
              by_cases y103 : p0 = (103 : Int32)
              · refine lv_tableIn (off := 101) (tgt := 102) hx hb dX2_formBehind_1 (by rw [y103]; decide) (by rw [y103]; decide) (by rw [y103]; rfl) (by decide) ?_
                refine va_ldcS hx hb hown (hE.2.2.2.2.2 6 _ rfl) dX2_formBehind_102 ?_
                exact hret 6 _ _ _ _ h hP hS dX2_formBehind_104
              by_cases y104 : p0 = (104 : Int32)
              · refine lv_tableIn (off := 101) (tgt := 102) hx hb dX2_formBehind_1 (by rw [y104]; decide) (by rw [y104]; decide) (by rw [y104]; rfl) (by decide) ?_
                refine va_ldcS hx hb hown (hE.2.2.2.2.2 6 _ rfl) dX2_formBehind_102 ?_
                exact hret 6 _ _ _ _ h hP hS dX2_formBehind_104
              by_cases y105 : p0 = (105 : Int32)
              · refine lv_tableIn (off := 101) (tgt := 102) hx hb dX2_formBehind_1 (by rw [y105]; decide) (by rw [y105]; decide) (by rw [y105]; rfl) (by decide) ?_
                refine va_ldcS hx hb hown (hE.2.2.2.2.2 6 _ rfl) dX2_formBehind_102 ?_
                exact hret 6 _ _ _ _ h hP hS dX2_formBehind_104
              by_cases y106 : p0 = (106 : Int32)
              · refine lv_tableIn (off := 101) (tgt := 102) hx hb dX2_formBehind_1 (by rw [y106]; decide) (by rw [y106]; decide) (by rw [y106]; rfl) (by decide) ?_
                refine va_ldcS hx hb hown (hE.2.2.2.2.2 6 _ rfl) dX2_formBehind_102 ?_
                exact hret 6 _ _ _ _ h hP hS dX2_formBehind_104
              by_cases y107 : p0 = (107 : Int32)
              · refine lv_tableIn (off := 101) (tgt := 102) hx hb dX2_formBehind_1 (by rw [y107]; decide) (by rw [y107]; decide) (by rw [y107]; rfl) (by decide) ?_
                refine va_ldcS hx hb hown (hE.2.2.2.2.2 6 _ rfl) dX2_formBehind_102 ?_
                exact hret 6 _ _ _ _ h hP hS dX2_formBehind_104
              by_cases y109 : p0 = (109 : Int32)
              · refine lv_tableIn (off := 101) (tgt := 102) hx hb dX2_formBehind_1 (by rw [y109]; decide) (by rw [y109]; decide) (by rw [y109]; rfl) (by decide) ?_
                refine va_ldcS hx hb hown (hE.2.2.2.2.2 6 _ rfl) dX2_formBehind_102 ?_
                exact hret 6 _ _ _ _ h hP hS dX2_formBehind_104
              by_cases y111 : p0 = (111 : Int32)
              · refine lv_tableIn (off := 101) (tgt := 102) hx hb dX2_formBehind_1 (by rw [y111]; decide) (by rw [y111]; decide) (by rw [y111]; rfl) (by decide) ?_
                refine va_ldcS hx hb hown (hE.2.2.2.2.2 6 _ rfl) dX2_formBehind_102 ?_
                exact hret 6 _ _ _ _ h hP hS dX2_formBehind_104
              by_cases y113 : p0 = (113 : Int32)
              · refine lv_tableIn (off := 101) (tgt := 102) hx hb dX2_formBehind_1 (by rw [y113]; decide) (by rw [y113]; decide) (by rw [y113]; rfl) (by decide) ?_
                refine va_ldcS hx hb hown (hE.2.2.2.2.2 6 _ rfl) dX2_formBehind_102 ?_
                exact hret 6 _ _ _ _ h hP hS dX2_formBehind_104
              by_cases y114 : p0 = (114 : Int32)
              · refine lv_tableIn (off := 101) (tgt := 102) hx hb dX2_formBehind_1 (by rw [y114]; decide) (by rw [y114]; decide) (by rw [y114]; rfl) (by decide) ?_
                refine va_ldcS hx hb hown (hE.2.2.2.2.2 6 _ rfl) dX2_formBehind_102 ?_
                exact hret 6 _ _ _ _ h hP hS dX2_formBehind_104
              refine lv_tableOut (tgt := 102) hx hb dX2_formBehind_1 (by have n0 := lv_neT z0 (a := 100) (by decide); have n1 := lv_neT z1 (a := 108) (by decide); have n2 := lv_neT z2 (a := 110) (by decide); have n3 := lv_neT z3 (a := 112) (by decide); have n4 := lv_neT z4 (a := 115) (by decide); have n5 := lv_neT z5 (a := 116) (by decide); have n6 := lv_neT y101 (a := 101) (by decide); have n7 := lv_neT y102 (a := 102) (by decide); have n8 := lv_neT y103 (a := 103) (by decide); have n9 := lv_neT y104 (a := 104) (by decide); have n10 := lv_neT y105 (a := 105) (by decide); have n11 := lv_neT y106 (a := 106) (by decide); have n12 := lv_neT y107 (a := 107) (by decide); have n13 := lv_neT y109 (a := 109) (by decide); have n14 := lv_neT y111 (a := 111) (by decide); have n15 := lv_neT y113 (a := 113) (by decide); have n16 := lv_neT y114 (a := 114) (by decide); omega) (by decide) ?_
              refine va_ldcS hx hb hown (hE.2.2.2.2.2 6 _ rfl) dX2_formBehind_102 ?_
              exact hret 6 _ _ _ _ h hP hS dX2_formBehind_104
def wpJ0_isEmpty_aae02 (post : Int32 → Prop) (i0 : Nat) : Prop := i0 < 8 ∧ (i0 < 8 ∧ ((((nI (lenJS.getD i0 0)) = (0 : Int32) → (post (1 : Int32))) ∧ (¬ ((nI (lenJS.getD i0 0)) = (0 : Int32)) → (post (0 : Int32))))))
set_option maxHeartbeats 4000000 in
set_option maxRecDepth 100000 in
theorem mJ0_isEmpty_aae02 (l : Launch) (D : va_G) (cI cJ cC : ClassId) (G : Nat → Nat → Nat) (sz : Nat) (i0 : Nat) (post : Int32 → Prop) (h : wpJ0_isEmpty_aae02 post i0) : Met l yJ0_isEmpty_aae02 (wz yJ0_isEmpty_aae02 cJ0_isEmpty_aae02 1 (some .boolean)) ({ frames := 0, cells := 0, slots := 0, locals := 0 }) (va_Pc [.ref (G 1 i0)] (PW D (tz cI cJ cC) G ([]) sz)) (va_Qi (fun (r : Int32) (u : Unit) => post r ) (fun (u : Unit) t => va_P D vwCl ([]) t.heap) (va_A ([]) sz)) 0 0 (va_A ([]) sz) := by
  refine zmi (gw := fun (u : Unit) => []) (plainFor_of_name (by decide)) (Nat.le_of_ble_eq_true rfl) ?_
  intro p e s m below meth c A Q ls S hK hD hA hE hP hl hret
  obtain ⟨hx, hb, hml, hown, ht⟩ := id S
  have hS : va_S A s.heap s.heap [] := va_S.rf
  have hDD : ∀ ws : va_W, ws.map (fun q => q.1) = [] → va_D A ws := fun ws hw => zD hD (hw.trans rfl)
  have hl : lv_has ls 1 [(0, .ref (G 1 i0))] := hl
  unfold wpJ0_isEmpty_aae02 at h
  refine lv_aload_n hx hb dJ0_isEmpty_aae02_0 rfl (lv_at hl 0 rfl) ?_
  obtain ⟨hi, h⟩ := h
  refine vk_getf hx hb (hE.2.2.2.2.1.1 i0 hi).2.2.1 hS hown (ht _ fl_J0_9) (fun _ h9 => h9) dJ0_isEmpty_aae02_1 ?_
  obtain ⟨hi, h⟩ := h
  refine va_tlen (v := nI (lenJS.getD i0 0)) hx hb (hE.2.2.2.2.1.1 i0 hi).2.2.2 hS rfl dJ0_isEmpty_aae02_4 ?_
  refine lv_if_ne (tgt := 12) hx hb dJ0_isEmpty_aae02_5 (by decide) (fun z => ?_) (fun z => ?_)
  · replace h := h.2 z
    refine lv_iconst (v := (0 : Int32)) hx hb dJ0_isEmpty_aae02_12 (by decide) ?_
    exact hret (0 : Int32) () _ _ _ _ rfl h hP hS dJ0_isEmpty_aae02_13
  · replace h := h.1 z
    refine lv_iconst (v := (1 : Int32)) hx hb dJ0_isEmpty_aae02_8 (by decide) ?_
    refine lv_goto (tgt := 13) hx hb dJ0_isEmpty_aae02_9 (by decide) ?_
    exact hret (1 : Int32) () _ _ _ _ rfl h hP hS dJ0_isEmpty_aae02_13
def wpJ0_coder_7d493 (post : Int32 → Prop) (i0 : Nat) : Prop := i0 < 8 ∧ (post (0 : Int32))
set_option maxHeartbeats 4000000 in
set_option maxRecDepth 100000 in
theorem mJ0_coder_7d493 (l : Launch) (D : va_G) (cI cJ cC : ClassId) (G : Nat → Nat → Nat) (sz : Nat) (i0 : Nat) (post : Int32 → Prop) (h : wpJ0_coder_7d493 post i0) : Met l yJ0_coder_7d493 (wz yJ0_coder_7d493 cJ0_coder_7d493 1 (some .byte)) ({ frames := 0, cells := 0, slots := 0, locals := 0 }) (va_Pc [.ref (G 1 i0)] (PW D (tz cI cJ cC) G ([]) sz)) (va_Qi (fun (r : Int32) (u : Unit) => post r ) (fun (u : Unit) t => va_P D vwCl ([]) t.heap) (va_A ([]) sz)) 0 0 (va_A ([]) sz) := by
  refine zmi (gw := fun (u : Unit) => []) (plainFor_of_name (by decide)) (Nat.le_of_ble_eq_true rfl) ?_
  intro p e s m below meth c A Q ls S hK hD hA hE hP hl hret
  obtain ⟨hx, hb, hml, hown, ht⟩ := id S
  have hS : va_S A s.heap s.heap [] := va_S.rf
  have hDD : ∀ ws : va_W, ws.map (fun q => q.1) = [] → va_D A ws := fun ws hw => zD hD (hw.trans rfl)
  have hl : lv_has ls 1 [(0, .ref (G 1 i0))] := hl
  unfold wpJ0_coder_7d493 at h
  refine va_gets (v := .int 1) hx hb hE.2.2.1 hS hown (ht _ fl_J0_38) (fun _ h9 => h9) dJ0_coder_7d493_0 ?_
  refine lv_if_eq (tgt := 13) hx hb dJ0_coder_7d493_3 (by decide) (fun z => ?_) (fun z => ?_)
  · exact absurd z (by decide)
  · refine lv_aload_n hx hb dJ0_coder_7d493_6 rfl (lv_at hl 0 rfl) ?_
    obtain ⟨hi, h⟩ := h
    refine vk_getf hx hb (hE.2.2.2.2.1.1 i0 hi).2.1 hS hown (ht _ fl_J0_15) (fun _ h9 => h9) dJ0_coder_7d493_7 ?_
    refine lv_goto (tgt := 14) hx hb dJ0_coder_7d493_10 (by decide) ?_
    exact hret (0 : Int32) () _ _ _ _ rfl h hP hS dJ0_coder_7d493_14
def wpJ0_length_8abf5 (post : Int32 → Prop) (i0 : Nat) : Prop := i0 < 8 ∧ (i0 < 8 ∧ (i0 < 8 ∧ (wpJ0_coder_7d493 (fun (r_1 : Int32) => post ((nI (lenJS.getD i0 0)) >>> (r_1 &&& 31))) i0)))
set_option maxHeartbeats 4000000 in
set_option maxRecDepth 100000 in
theorem mJ0_length_8abf5 (l : Launch) (D : va_G) (cI cJ cC : ClassId) (G : Nat → Nat → Nat) (sz : Nat) (i0 : Nat) (post : Int32 → Prop) (h : wpJ0_length_8abf5 post i0) : Met l yJ0_length_8abf5 (wz yJ0_length_8abf5 cJ0_length_8abf5 1 (some .int)) ({ frames := 1, cells := 0, slots := 0, locals := 20 }) (va_Pc [.ref (G 1 i0)] (PW D (tz cI cJ cC) G ([]) sz)) (va_Qi (fun (r : Int32) (u : Unit) => post r ) (fun (u : Unit) t => va_P D vwCl ([]) t.heap) (va_A ([]) sz)) 0 0 (va_A ([]) sz) := by
  refine zmi (gw := fun (u : Unit) => []) (plainFor_of_name (by decide)) (Nat.le_of_ble_eq_true rfl) ?_
  intro p e s m below meth c A Q ls S hK hD hA hE hP hl hret
  obtain ⟨hx, hb, hml, hown, ht⟩ := id S
  have hS : va_S A s.heap s.heap [] := va_S.rf
  have hDD : ∀ ws : va_W, ws.map (fun q => q.1) = [] → va_D A ws := fun ws hw => zD hD (hw.trans rfl)
  have hl : lv_has ls 1 [(0, .ref (G 1 i0))] := hl
  unfold wpJ0_length_8abf5 at h
  refine lv_aload_n hx hb dJ0_length_8abf5_0 rfl (lv_at hl 0 rfl) ?_
  obtain ⟨hi, h⟩ := h
  refine vk_getf hx hb (hE.2.2.2.2.1.1 i0 hi).2.2.1 hS hown (ht _ fl_J0_9) (fun _ h9 => h9) dJ0_length_8abf5_1 ?_
  obtain ⟨hi, h⟩ := h
  refine va_tlen (v := nI (lenJS.getD i0 0)) hx hb (hE.2.2.2.2.1.1 i0 hi).2.2.2 hS rfl dJ0_length_8abf5_4 ?_
  refine lv_aload_n hx hb dJ0_length_8abf5_5 rfl (lv_at hl 0 rfl) ?_
  obtain ⟨hi, h⟩ := h
  refine zci hA (hDD _ rfl) hS (zrunR (As := []) (rest := [.int (nI (lenJS.getD i0 0))]) S hK hA hE hP (hDD _ rfl) hS (mJ0_coder_7d493 l D cI cJ cC G _ i0 _ h) kJ0_coder_7d493 ml_J0_335 ⟨rfl, rfl, by decide, by decide⟩ (vk_recv hE.2.2.2.2.1 hi hS) rfl hl.1 rfl (Nat.le_of_ble_eq_true rfl) dJ0_length_8abf5_6 ⟨Nat.zero_le _, Nat.zero_le _⟩) (fun r_1 u H locs h hP1 hk1 hS => ?_)
  try dsimp only at h
  have hP : va_P D vwCl ([]) H := hP1
  refine lv_ishr hx hb dJ0_length_8abf5_9 ?_
  exact hret ((nI (lenJS.getD i0 0)) >>> (r_1 &&& 31)) () _ _ _ _ rfl h hP hS dJ0_length_8abf5_10
def wpJ0_isLatin1_aae02 (post : Int32 → Prop) (i0 : Nat) : Prop := i0 < 8 ∧ (post (1 : Int32))
set_option maxHeartbeats 4000000 in
set_option maxRecDepth 100000 in
theorem mJ0_isLatin1_aae02 (l : Launch) (D : va_G) (cI cJ cC : ClassId) (G : Nat → Nat → Nat) (sz : Nat) (i0 : Nat) (post : Int32 → Prop) (h : wpJ0_isLatin1_aae02 post i0) : Met l yJ0_isLatin1_aae02 (wz yJ0_isLatin1_aae02 cJ0_isLatin1_aae02 1 (some .boolean)) ({ frames := 0, cells := 0, slots := 0, locals := 0 }) (va_Pc [.ref (G 1 i0)] (PW D (tz cI cJ cC) G ([]) sz)) (va_Qi (fun (r : Int32) (u : Unit) => post r ) (fun (u : Unit) t => va_P D vwCl ([]) t.heap) (va_A ([]) sz)) 0 0 (va_A ([]) sz) := by
  refine zmi (gw := fun (u : Unit) => []) (plainFor_of_name (by decide)) (Nat.le_of_ble_eq_true rfl) ?_
  intro p e s m below meth c A Q ls S hK hD hA hE hP hl hret
  obtain ⟨hx, hb, hml, hown, ht⟩ := id S
  have hS : va_S A s.heap s.heap [] := va_S.rf
  have hDD : ∀ ws : va_W, ws.map (fun q => q.1) = [] → va_D A ws := fun ws hw => zD hD (hw.trans rfl)
  have hl : lv_has ls 1 [(0, .ref (G 1 i0))] := hl
  unfold wpJ0_isLatin1_aae02 at h
  refine va_gets (v := .int 1) hx hb hE.2.2.1 hS hown (ht _ fl_J0_38) (fun _ h9 => h9) dJ0_isLatin1_aae02_0 ?_
  refine lv_if_eq (tgt := 17) hx hb dJ0_isLatin1_aae02_3 (by decide) (fun z => ?_) (fun z => ?_)
  · exact absurd z (by decide)
  · refine lv_aload_n hx hb dJ0_isLatin1_aae02_6 rfl (lv_at hl 0 rfl) ?_
    obtain ⟨hi, h⟩ := h
    refine vk_getf hx hb (hE.2.2.2.2.1.1 i0 hi).2.1 hS hown (ht _ fl_J0_15) (fun _ h9 => h9) dJ0_isLatin1_aae02_7 ?_
    refine lv_if_ne (tgt := 17) hx hb dJ0_isLatin1_aae02_10 (by decide) (fun z => ?_) (fun z => ?_)
    · exact absurd (by decide) z
    · refine lv_iconst (v := (1 : Int32)) hx hb dJ0_isLatin1_aae02_13 (by decide) ?_
      refine lv_goto (tgt := 18) hx hb dJ0_isLatin1_aae02_14 (by decide) ?_
      exact hret (1 : Int32) () _ _ _ _ rfl h hP hS dJ0_isLatin1_aae02_18
def wpJ3_checkIndex_8e157 (post : Int32 → Prop) (p0 : Int32) (p1 : Int32) : Prop := ((p0 < (0 : Int32) → (False)) ∧ (¬ (p0 < (0 : Int32)) → (((p0 < p1 → (post p0)) ∧ (¬ (p0 < p1) → (False))))))
set_option maxHeartbeats 4000000 in
set_option maxRecDepth 100000 in
theorem mJ3_checkIndex_8e157 (l : Launch) (D : va_G) (cI cJ cC : ClassId) (G : Nat → Nat → Nat) (sz : Nat) (p0 : Int32) (p1 : Int32) (vf : Value) (hvf : vf = .null ∨ ∃ t, vf = .ref t) (post : Int32 → Prop) (h : wpJ3_checkIndex_8e157 post p0 p1) : Met l yJ3_checkIndex_8e157 (wz yJ3_checkIndex_8e157 cJ3_checkIndex_8e157 3 (some .int)) ({ frames := 0, cells := 0, slots := 0, locals := 0 }) (va_Pc [.int p0, .int p1, vf] (PW D (tz cI cJ cC) G ([]) sz)) (va_Qi (fun (r : Int32) (u : Unit) => post r ) (fun (u : Unit) t => va_P D vwCl ([]) t.heap) (va_A ([]) sz)) 0 0 (va_A ([]) sz) := by
  rcases hvf with rfl | ⟨tf, rfl⟩
  · refine zmi (gw := fun (u : Unit) => []) (plainFor_of_name (by decide)) (Nat.le_of_ble_eq_true rfl) ?_
    intro p e s m below meth c A Q ls S hK hD hA hE hP hl hret
    obtain ⟨hx, hb, hml, hown, ht⟩ := id S
    have hS : va_S A s.heap s.heap [] := va_S.rf
    have hDD : ∀ ws : va_W, ws.map (fun q => q.1) = [] → va_D A ws := fun ws hw => zD hD (hw.trans rfl)
    have hl : lv_has ls 3 [(0, .int p0), (1, .int p1), (2, .null)] := hl
    unfold wpJ3_checkIndex_8e157 at h
    refine lv_iload_n hx hb dJ3_checkIndex_8e157_0 rfl (lv_at hl 0 rfl) ?_
    refine lv_if_lt (tgt := 9) hx hb dJ3_checkIndex_8e157_1 (by decide) (fun z => ?_) (fun z => ?_)
    · replace h := h.1 z
      exact h.elim
    · replace h := h.2 z
      refine lv_iload_n hx hb dJ3_checkIndex_8e157_4 rfl (lv_at hl 0 rfl) ?_
      refine lv_iload_n hx hb dJ3_checkIndex_8e157_5 rfl (lv_at hl 1 rfl) ?_
      refine lv_icmp_lt (tgt := 16) hx hb dJ3_checkIndex_8e157_6 (by decide) (fun z => ?_) (fun z => ?_)
      · replace h := h.1 z
        refine lv_iload_n hx hb dJ3_checkIndex_8e157_16 rfl (lv_at hl 0 rfl) ?_
        exact hret p0 () _ _ _ _ rfl h hP hS dJ3_checkIndex_8e157_17
      · replace h := h.2 z
        exact h.elim
  · refine zmi (gw := fun (u : Unit) => []) (plainFor_of_name (by decide)) (Nat.le_of_ble_eq_true rfl) ?_
    intro p e s m below meth c A Q ls S hK hD hA hE hP hl hret
    obtain ⟨hx, hb, hml, hown, ht⟩ := id S
    have hS : va_S A s.heap s.heap [] := va_S.rf
    have hDD : ∀ ws : va_W, ws.map (fun q => q.1) = [] → va_D A ws := fun ws hw => zD hD (hw.trans rfl)
    have hl : lv_has ls 3 [(0, .int p0), (1, .int p1), (2, (.ref tf))] := hl
    unfold wpJ3_checkIndex_8e157 at h
    refine lv_iload_n hx hb dJ3_checkIndex_8e157_0 rfl (lv_at hl 0 rfl) ?_
    refine lv_if_lt (tgt := 9) hx hb dJ3_checkIndex_8e157_1 (by decide) (fun z => ?_) (fun z => ?_)
    · replace h := h.1 z
      exact h.elim
    · replace h := h.2 z
      refine lv_iload_n hx hb dJ3_checkIndex_8e157_4 rfl (lv_at hl 0 rfl) ?_
      refine lv_iload_n hx hb dJ3_checkIndex_8e157_5 rfl (lv_at hl 1 rfl) ?_
      refine lv_icmp_lt (tgt := 16) hx hb dJ3_checkIndex_8e157_6 (by decide) (fun z => ?_) (fun z => ?_)
      · replace h := h.1 z
        refine lv_iload_n hx hb dJ3_checkIndex_8e157_16 rfl (lv_at hl 0 rfl) ?_
        exact hret p0 () _ _ _ _ rfl h hP hS dJ3_checkIndex_8e157_17
      · replace h := h.2 z
        exact h.elim
