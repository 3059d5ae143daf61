def wpJ0_checkIndex_df160 (post : Prop) (p0 : Int32) (p1 : Int32) : Prop := wpJ3_checkIndex_8e157 (fun (r_1 : Int32) => post) p0 p1
set_option maxHeartbeats 4000000 in
set_option maxRecDepth 100000 in
theorem mJ0_checkIndex_df160 (l : Launch) (D : va_G) (cI cJ cC : ClassId) (G : Nat → Nat → Nat) (sz : Nat) (p0 : Int32) (p1 : Int32) (post : Prop) (h : wpJ0_checkIndex_df160 post p0 p1) : Met l yJ0_checkIndex_df160 (wz yJ0_checkIndex_df160 cJ0_checkIndex_df160 2 none) ({ frames := 1, cells := 0, slots := 0, locals := 22 }) (va_Pc [.int p0, .int p1] (PW D (tz cI cJ cC) G ([]) sz)) (va_Qv (fun (u : Unit) => post ) (fun (u : Unit) t => va_P D vwCl ([]) t.heap) (va_A ([]) sz)) 0 0 (va_A ([]) sz) := by
  refine zmv (gw := fun (u : Unit) => []) (plainFor_of_name (by decide)) (Nat.le_of_ble_eq_true rfl) ?_
  intro p e s m below meth c A Q ls S hK hD hA hE hP hl hret
  obtain ⟨hx, hb, hml, hown, ht⟩ := id S
  have hS : va_S A s.heap s.heap [] := va_S.rf
  have hDD : ∀ ws : va_W, ws.map (fun q => q.1) = [] → va_D A ws := fun ws hw => zD hD (hw.trans rfl)
  have hl : lv_has ls 2 [(0, .int p0), (1, .int p1)] := hl
  unfold wpJ0_checkIndex_df160 at h
  refine lv_iload_n hx hb dJ0_checkIndex_df160_0 rfl (lv_at hl 0 rfl) ?_
  refine lv_iload_n hx hb dJ0_checkIndex_df160_1 rfl (lv_at hl 1 rfl) ?_
  rcases hE.2.2.2.1 with hz | ⟨tf, hz⟩
  · refine va_gets (v := .null) hx hb hz hS hown (ht _ fl_J0_1053) (fun _ h9 => h9) dJ0_checkIndex_df160_2 ?_
    refine zci hA (hDD _ rfl) hS (zrunS (As := [.int p0, .int p1, .null]) (rest := []) S hK hA hE hP (hDD _ rfl) hS (mJ3_checkIndex_8e157 l D cI cJ cC G _ p0 p1 _ (Or.inl rfl) _ h) kJ3_checkIndex_8e157 ml_J0_1059 ⟨rfl, rfl, by decide, by decide⟩ rfl hl.1 rfl (Nat.le_of_ble_eq_true rfl) dJ0_checkIndex_df160_5 ⟨Nat.zero_le _, Nat.zero_le _⟩) (fun r_1 u H locs h hP1 hk1 hS => ?_)
    try dsimp only at h
    have hP : va_P D vwCl ([]) H := hP1
    refine lv_pop hx hb dJ0_checkIndex_df160_8 rfl ?_
    exact hret () _ _ _ _ h hP hS dJ0_checkIndex_df160_9
  · refine va_gets (v := (.ref tf)) hx hb hz hS hown (ht _ fl_J0_1053) (fun _ h9 => h9) dJ0_checkIndex_df160_2 ?_
    refine zci hA (hDD _ rfl) hS (zrunS (As := [.int p0, .int p1, (.ref tf)]) (rest := []) S hK hA hE hP (hDD _ rfl) hS (mJ3_checkIndex_8e157 l D cI cJ cC G _ p0 p1 _ (Or.inr ⟨_, rfl⟩) _ h) kJ3_checkIndex_8e157 ml_J0_1059 ⟨rfl, rfl, by decide, by decide⟩ rfl hl.1 rfl (Nat.le_of_ble_eq_true rfl) dJ0_checkIndex_df160_5 ⟨Nat.zero_le _, Nat.zero_le _⟩) (fun r_1 u H locs h hP1 hk1 hS => ?_)
    try dsimp only at h
    have hP : va_P D vwCl ([]) H := hP1
    refine lv_pop hx hb dJ0_checkIndex_df160_8 rfl ?_
    exact hret () _ _ _ _ h hP hS dJ0_checkIndex_df160_9
def wpJ1_charAt_3b067 (post : Int32 → Prop) (i0 : Nat) (p1 : Int32) : Prop := i0 < 8 ∧ (wpJ0_checkIndex_df160 (i0 < 8 ∧ (vp_in p1 (lenJS.getD i0 0) ∧ (narrow .char (.int (((((bytJS.getD i0 []).getD p1.toNatClampNeg 0) &&& (255 : Int32)).toUInt32 % 65536).toInt32)) = .int (((((bytJS.getD i0 []).getD p1.toNatClampNeg 0) &&& (255 : Int32)).toUInt32 % 65536).toInt32) ∧ post (((((bytJS.getD i0 []).getD p1.toNatClampNeg 0) &&& (255 : Int32)).toUInt32 % 65536).toInt32)))) p1 (nI (lenJS.getD i0 0)))
set_option maxHeartbeats 4000000 in
set_option maxRecDepth 100000 in
theorem mJ1_charAt_3b067 (l : Launch) (D : va_G) (cI cJ cC : ClassId) (G : Nat → Nat → Nat) (sz : Nat) (i0 : Nat) (p1 : Int32) (post : Int32 → Prop) (h : wpJ1_charAt_3b067 post i0 p1) : Met l yJ1_charAt_3b067 (wz yJ1_charAt_3b067 cJ1_charAt_3b067 2 (some .char)) ({ frames := 2, cells := 0, slots := 0, locals := 43 }) (va_Pc [.ref (G 2 i0), .int p1] (PW D (tz cI cJ cC) G ([]) sz)) (va_Qi (fun (r : Int32) (u : Unit) => post r ) (fun (u : Unit) t => va_P D vwCl ([]) t.heap) (va_A ([]) sz)) 0 0 (va_A ([]) sz) := by
  refine zmi (gw := fun (u : Unit) => []) (plainFor_of_name (by decide)) (Nat.le_of_ble_eq_true rfl) ?_
  intro p e s m below meth c A Q ls S hK hD hA hE hP hl hret
  obtain ⟨hx, hb, hml, hown, ht⟩ := id S
  have hS : va_S A s.heap s.heap [] := va_S.rf
  have hDD : ∀ ws : va_W, ws.map (fun q => q.1) = [] → va_D A ws := fun ws hw => zD hD (hw.trans rfl)
  have hl : lv_has ls 2 [(0, .ref (G 2 i0)), (1, .int p1)] := hl
  unfold wpJ1_charAt_3b067 at h
  refine lv_iload_n hx hb dJ1_charAt_3b067_0 rfl (lv_at hl 1 rfl) ?_
  refine lv_aload_n hx hb dJ1_charAt_3b067_1 rfl (lv_at hl 0 rfl) ?_
  obtain ⟨hi, h⟩ := h
  refine va_tlen (v := nI (lenJS.getD i0 0)) hx hb (hE.2.2.2.2.1.1 i0 hi).2.2.2 hS rfl dJ1_charAt_3b067_2 ?_
  refine zcv hA (hDD _ rfl) hS (zrunS (As := [.int p1, .int (nI (lenJS.getD i0 0))]) (rest := []) S hK hA hE hP (hDD _ rfl) hS (mJ0_checkIndex_df160 l D cI cJ cC G _ p1 (nI (lenJS.getD i0 0)) _ h) kJ0_checkIndex_df160 ml_J1_9 ⟨rfl, rfl, by decide, by decide⟩ rfl hl.1 rfl (Nat.le_of_ble_eq_true rfl) dJ1_charAt_3b067_3 ⟨Nat.zero_le _, Nat.zero_le _⟩) (fun u H locs h hP1 hk1 hS => ?_)
  try dsimp only at h
  have hP : va_P D vwCl ([]) H := hP1
  refine lv_aload_n hx hb dJ1_charAt_3b067_6 rfl (lv_at hl 0 rfl) ?_
  refine lv_iload_n hx hb dJ1_charAt_3b067_7 rfl (lv_at hl 1 rfl) ?_
  obtain ⟨hi, h⟩ := h
  obtain ⟨hin, h⟩ := h
  refine va_tb (v := .int ((bytJS.getD i0 []).getD p1.toNatClampNeg 0)) hx hb (hE.2.2.2.2.1.1 i0 hi).2.2.2 hS hin rfl dJ1_charAt_3b067_8 ?_
  refine lv_sipush (v := (255 : Int32)) hx hb dJ1_charAt_3b067_9 (by decide) ?_
  refine lv_iand hx hb dJ1_charAt_3b067_12 ?_
  refine lv_i2c hx hb dJ1_charAt_3b067_13 rfl ?_
  exact hret (((((bytJS.getD i0 []).getD p1.toNatClampNeg 0) &&& (255 : Int32)).toUInt32 % 65536).toInt32) () _ _ _ _ h.1 h.2 hP hS dJ1_charAt_3b067_14
def wpJ0_charAt_5068e (post : Int32 → Prop) (i0 : Nat) (p1 : Int32) : Prop := i0 < 8 ∧ (wpJ0_isLatin1_aae02 (fun (r_1 : Int32) => ((r_1 = (0 : Int32) → (i0 < 8 ∧ (False))) ∧ (¬ (r_1 = (0 : Int32)) → (i0 < 8 ∧ (wpJ1_charAt_3b067 (fun (r_2 : Int32) => narrow .char (.int r_2) = .int r_2 ∧ post r_2) i0 p1))))) i0)
set_option maxHeartbeats 4000000 in
set_option maxRecDepth 100000 in
theorem mJ0_charAt_5068e (l : Launch) (D : va_G) (cI cJ cC : ClassId) (G : Nat → Nat → Nat) (sz : Nat) (i0 : Nat) (p1 : Int32) (post : Int32 → Prop) (h : wpJ0_charAt_5068e post i0 p1) : Met l yJ0_charAt_5068e (wz yJ0_charAt_5068e cJ0_charAt_5068e 2 (some .char)) ({ frames := 3, cells := 0, slots := 0, locals := 64 }) (va_Pc [.ref (G 1 i0), .int p1] (PW D (tz cI cJ cC) G ([]) sz)) (va_Qi (fun (r : Int32) (u : Unit) => post r ) (fun (u : Unit) t => va_P D vwCl ([]) t.heap) (va_A ([]) sz)) 0 0 (va_A ([]) sz) := by
  refine zmi (gw := fun (u : Unit) => []) (plainFor_of_name (by decide)) (Nat.le_of_ble_eq_true rfl) ?_
  intro p e s m below meth c A Q ls S hK hD hA hE hP hl hret
  obtain ⟨hx, hb, hml, hown, ht⟩ := id S
  have hS : va_S A s.heap s.heap [] := va_S.rf
  have hDD : ∀ ws : va_W, ws.map (fun q => q.1) = [] → va_D A ws := fun ws hw => zD hD (hw.trans rfl)
  have hl : lv_has ls 2 [(0, .ref (G 1 i0)), (1, .int p1)] := hl
  unfold wpJ0_charAt_5068e at h
  refine lv_aload_n hx hb dJ0_charAt_5068e_0 rfl (lv_at hl 0 rfl) ?_
  obtain ⟨hi, h⟩ := h
  refine zci hA (hDD _ rfl) hS (zrunR (As := []) (rest := []) S hK hA hE hP (hDD _ rfl) hS (mJ0_isLatin1_aae02 l D cI cJ cC G _ i0 _ h) kJ0_isLatin1_aae02 ml_J0_492 ⟨rfl, rfl, by decide, by decide⟩ (vk_recv hE.2.2.2.2.1 hi hS) rfl hl.1 rfl (Nat.le_of_ble_eq_true rfl) dJ0_charAt_5068e_1 ⟨Nat.zero_le _, Nat.zero_le _⟩) (fun r_1 u H locs h hP1 hk1 hS => ?_)
  try dsimp only at h
  have hP : va_P D vwCl ([]) H := hP1
  refine lv_if_eq (tgt := 16) hx hb dJ0_charAt_5068e_4 (by decide) (fun z => ?_) (fun z => ?_)
  · replace h := h.1 z
    refine lv_aload_n hx hb dJ0_charAt_5068e_16 rfl (lv_at hl 0 rfl) ?_
    obtain ⟨hi, h⟩ := h
    refine vk_getf hx hb (hE.2.2.2.2.1.1 i0 hi).2.2.1 hS hown (ht _ fl_J0_9) (fun _ h9 => h9) dJ0_charAt_5068e_17 ?_
    refine lv_iload_n hx hb dJ0_charAt_5068e_20 rfl (lv_at hl 1 rfl) ?_
    exact h.elim
  · replace h := h.2 z
    refine lv_aload_n hx hb dJ0_charAt_5068e_7 rfl (lv_at hl 0 rfl) ?_
    obtain ⟨hi, h⟩ := h
    refine vk_getf hx hb (hE.2.2.2.2.1.1 i0 hi).2.2.1 hS hown (ht _ fl_J0_9) (fun _ h9 => h9) dJ0_charAt_5068e_8 ?_
    refine lv_iload_n hx hb dJ0_charAt_5068e_11 rfl (lv_at hl 1 rfl) ?_
    refine zci hA (hDD _ rfl) hS (zrunS (As := [.ref (G 2 i0), .int p1]) (rest := []) S hK hA hE hP (hDD _ rfl) hS (mJ1_charAt_3b067 l D cI cJ cC G _ i0 p1 _ h) kJ1_charAt_3b067 ml_J0_495 ⟨rfl, rfl, by decide, by decide⟩ rfl hl.1 rfl (Nat.le_of_ble_eq_true rfl) dJ0_charAt_5068e_12 ⟨Nat.zero_le _, Nat.zero_le _⟩) (fun r_2 u H locs h hP1 hk1 hS => ?_)
    try dsimp only at h
    have hP : va_P D vwCl ([]) H := hP1
    exact hret r_2 () _ _ _ _ h.1 h.2 hP hS dJ0_charAt_5068e_15
def wpJ1_canEncode_9a6ad (post : Int32 → Prop) (p0 : Int32) : Prop := ((p0 < (0 : Int32) → (post (0 : Int32))) ∧ (¬ (p0 < (0 : Int32)) → ((((255 : Int32) < p0 → (post (0 : Int32))) ∧ (¬ ((255 : Int32) < p0) → (post (1 : Int32)))))))
set_option maxHeartbeats 4000000 in
set_option maxRecDepth 100000 in
theorem mJ1_canEncode_9a6ad (l : Launch) (D : va_G) (cI cJ cC : ClassId) (G : Nat → Nat → Nat) (sz : Nat) (p0 : Int32) (post : Int32 → Prop) (h : wpJ1_canEncode_9a6ad post p0) : Met l yJ1_canEncode_9a6ad (wz yJ1_canEncode_9a6ad cJ1_canEncode_9a6ad 1 (some .boolean)) ({ frames := 0, cells := 0, slots := 0, locals := 0 }) (va_Pc [.int p0] (PW D (tz cI cJ cC) G ([]) sz)) (va_Qi (fun (r : Int32) (u : Unit) => post r ) (fun (u : Unit) t => va_P D vwCl ([]) t.heap) (va_A ([]) sz)) 0 0 (va_A ([]) sz) := by
  refine zmi (gw := fun (u : Unit) => []) (plainFor_of_name (by decide)) (Nat.le_of_ble_eq_true rfl) ?_
  intro p e s m below meth c A Q ls S hK hD hA hE hP hl hret
  obtain ⟨hx, hb, hml, hown, ht⟩ := id S
  have hS : va_S A s.heap s.heap [] := va_S.rf
  have hDD : ∀ ws : va_W, ws.map (fun q => q.1) = [] → va_D A ws := fun ws hw => zD hD (hw.trans rfl)
  have hl : lv_has ls 1 [(0, .int p0)] := hl
  unfold wpJ1_canEncode_9a6ad at h
  refine lv_iload_n hx hb dJ1_canEncode_9a6ad_0 rfl (lv_at hl 0 rfl) ?_
  refine lv_if_lt (tgt := 15) hx hb dJ1_canEncode_9a6ad_1 (by decide) (fun z => ?_) (fun z => ?_)
  · replace h := h.1 z
    refine lv_iconst (v := (0 : Int32)) hx hb dJ1_canEncode_9a6ad_15 (by decide) ?_
    exact hret (0 : Int32) () _ _ _ _ rfl h hP hS dJ1_canEncode_9a6ad_16
  · replace h := h.2 z
    refine lv_iload_n hx hb dJ1_canEncode_9a6ad_4 rfl (lv_at hl 0 rfl) ?_
    refine lv_sipush (v := (255 : Int32)) hx hb dJ1_canEncode_9a6ad_5 (by decide) ?_
    refine lv_icmp_gt (tgt := 15) hx hb dJ1_canEncode_9a6ad_8 (by decide) (fun z => ?_) (fun z => ?_)
    · replace h := h.1 z
      refine lv_iconst (v := (0 : Int32)) hx hb dJ1_canEncode_9a6ad_15 (by decide) ?_
      exact hret (0 : Int32) () _ _ _ _ rfl h hP hS dJ1_canEncode_9a6ad_16
    · replace h := h.2 z
      refine lv_iconst (v := (1 : Int32)) hx hb dJ1_canEncode_9a6ad_11 (by decide) ?_
      refine lv_goto (tgt := 16) hx hb dJ1_canEncode_9a6ad_12 (by decide) ?_
      exact hret (1 : Int32) () _ _ _ _ rfl h hP hS dJ1_canEncode_9a6ad_16
def lpJ1_indexOfChar_4cfef_7 (post : Int32 → Prop) (K : Int32 → Prop) (x0 : Nat) (x3 : Int32) (x4 : Int32) : Nat → Int32 → Prop
  | 0, _ => False
  | n + 1, x5 => ((x3 ≤ x5 → (K x5)) ∧ (¬ (x3 ≤ x5) → (x0 < 8 ∧ (vp_in x5 (lenJS.getD x0 0) ∧ (((((bytJS.getD x0 []).getD x5.toNatClampNeg 0) = x4 → (post x5)) ∧ (¬ (((bytJS.getD x0 []).getD x5.toNatClampNeg 0) = x4) → (lpJ1_indexOfChar_4cfef_7 post K x0 x3 x4 n (x5 + (1 : Int32))))))))))
set_option maxHeartbeats 4000000 in
set_option maxRecDepth 100000 in
theorem wJ1_indexOfChar_4cfef_7 (l : Launch) (D : va_G) (cI cJ cC : ClassId) (G : Nat → Nat → Nat) {p : Program} {e : Env} {s : State} {m : MethodId} {below : List Frame} {meth : Method} {c : Code} {A : Nat → Prop} {Q : State → Prop} (i0 : Nat) (p1 : Int32) (p2 : Int32) (p3 : Int32) (x0 : Nat) (x3 : Int32) (x4 : Int32) (post : Int32 → Prop) (K : Int32 → Prop) (S : CallFix p m c cJ1_indexOfChar_4cfef 6 s ([.ref (G 2 i0), .int p1, .int p2, .int p3] : List Value).toArray bg RJ1) (hK : va_K D vwCl (tz cI cJ cC) s) (hDD : ∀ ws : va_W, ws.map (fun q => q.1) = [] → va_D A ws) (hA : ∀ q, s.heap.size ≤ q → A q) (hE : EV G A s) (hret : ∀ (r : Int32) (u : Unit) (H : Heap) (locs : List Loc) (ls : Array Slot) (pc : Nat), narrow .int (.int r) = .int r → post r  → va_P D vwCl ([]) H → va_S A s.heap H locs → decode cJ1_indexOfChar_4cfef pc = .ok (.ireturn, 1) → W p l e ({ frames := 0, cells := 0, slots := 0, locals := 0 }) s m ([.ref (G 2 i0), .int p1, .int p2, .int p3] : List Value).toArray below meth c H locs 0 0 Q (F0 m pc ls [.int r])) (hKK : ∀ (x5 : Int32) (H : Heap) (locs : List Loc) (ls : Array Slot), K x5 → va_P D vwCl ([]) H → va_S A s.heap H locs → lv_has ls 6 [] → W p l e ({ frames := 0, cells := 0, slots := 0, locals := 0 }) s m ([.ref (G 2 i0), .int p1, .int p2, .int p3] : List Value).toArray below meth c H locs 0 0 Q (F0 m 31 ls [])) :
    ∀ (n : Nat) (x5 : Int32) (H : Heap) (locs : List Loc) (ls : Array Slot), lpJ1_indexOfChar_4cfef_7 post K x0 x3 x4 n x5 → va_P D vwCl ([]) H → va_S A s.heap H locs → lv_has ls 6 [(0, .ref (G 2 x0)), (3, .int x3), (4, .int x4), (5, .int x5)] → W p l e ({ frames := 0, cells := 0, slots := 0, locals := 0 }) s m ([.ref (G 2 i0), .int p1, .int p2, .int p3] : List Value).toArray below meth c H locs 0 0 Q (F0 m 7 ls []) := by
  obtain ⟨hx, hb, hml, hown, ht⟩ := id S
  intro n
  induction n with
  | zero =>
    intro x5 H locs ls h
    exact absurd h (by simp [lpJ1_indexOfChar_4cfef_7])
  | succ n ih =>
    intro x5 H locs ls h hP hS hl
    rw [lpJ1_indexOfChar_4cfef_7] at h
    refine lv_iload hx hb dJ1_indexOfChar_4cfef_7 (lv_at hl 3 rfl) ?_
    refine lv_iload_n hx hb dJ1_indexOfChar_4cfef_9 rfl (lv_at hl 1 rfl) ?_
    refine lv_icmp_ge (tgt := 31) hx hb dJ1_indexOfChar_4cfef_10 (by decide) (fun z => ?_) (fun z => ?_)
    · replace h := h.1 z
      exact hKK x5 _ _ _ h hP hS (lv_sub hl [] rfl)
    · replace h := h.2 z
      refine lv_aload_n hx hb dJ1_indexOfChar_4cfef_13 rfl (lv_at hl 0 rfl) ?_
      refine lv_iload hx hb dJ1_indexOfChar_4cfef_14 (lv_at hl 3 rfl) ?_
      obtain ⟨hi, h⟩ := h
      obtain ⟨hin, h⟩ := h
      refine va_tb (v := .int ((bytJS.getD x0 []).getD x5.toNatClampNeg 0)) hx hb (hE.2.2.2.2.1.1 x0 hi).2.2.2 hS hin rfl dJ1_indexOfChar_4cfef_16 ?_
      refine lv_iload hx hb dJ1_indexOfChar_4cfef_17 (lv_at hl 2 rfl) ?_
      refine lv_icmp_ne (tgt := 25) hx hb dJ1_indexOfChar_4cfef_19 (by decide) (fun z => ?_) (fun z => ?_)
      · replace h := h.2 z
        refine lv_iinc (v := x5 + (1 : Int32)) (lv' := [(5, .int (x5 + (1 : Int32))), (0, .ref (G 2 x0)), (3, .int x3), (4, .int x4)]) hx hb dJ1_indexOfChar_4cfef_25 hl (k := 3) rfl (by rfl) (by decide) rfl (fun ls hl => ?_)
        refine lv_goto (tgt := 7) hx hb dJ1_indexOfChar_4cfef_28 (by decide) ?_
        exact ih (x5 + (1 : Int32)) _ _ _ h hP hS (lv_sub hl [1, 2, 3, 0] rfl)
      · replace h := h.1 z
        refine lv_iload hx hb dJ1_indexOfChar_4cfef_22 (lv_at hl 3 rfl) ?_
        exact hret x5 () _ _ _ _ rfl h hP hS dJ1_indexOfChar_4cfef_24
def wpJ1_indexOfChar_4cfef (post : Int32 → Prop) (i0 : Nat) (p1 : Int32) (p2 : Int32) (p3 : Int32) : Prop := ∃ n_1 : Nat, lpJ1_indexOfChar_4cfef_7 post (fun (x5_2 : Int32) => post (-1 : Int32)) i0 p3 p1.toInt8.toInt32 n_1 p2
set_option maxHeartbeats 4000000 in
set_option maxRecDepth 100000 in
theorem mJ1_indexOfChar_4cfef (l : Launch) (D : va_G) (cI cJ cC : ClassId) (G : Nat → Nat → Nat) (sz : Nat) (i0 : Nat) (p1 : Int32) (p2 : Int32) (p3 : Int32) (post : Int32 → Prop) (h : wpJ1_indexOfChar_4cfef post i0 p1 p2 p3) : Met l yJ1_indexOfChar_4cfef (wz yJ1_indexOfChar_4cfef cJ1_indexOfChar_4cfef 6 (some .int)) ({ frames := 0, cells := 0, slots := 0, locals := 0 }) (va_Pc [.ref (G 2 i0), .int p1, .int p2, .int p3] (PW D (tz cI cJ cC) G ([]) sz)) (va_Qi (fun (r : Int32) (u : Unit) => post r ) (fun (u : Unit) t => va_P D vwCl ([]) t.heap) (va_A ([]) sz)) 0 0 (va_A ([]) sz) := by
  refine zmi (gw := fun (u : Unit) => []) (plainFor_of_name (by decide)) (Nat.le_of_ble_eq_true rfl) ?_
  intro p e s m below meth c A Q ls S hK hD hA hE hP hl hret
  obtain ⟨hx, hb, hml, hown, ht⟩ := id S
  have hS : va_S A s.heap s.heap [] := va_S.rf
  have hDD : ∀ ws : va_W, ws.map (fun q => q.1) = [] → va_D A ws := fun ws hw => zD hD (hw.trans rfl)
  have hl : lv_has ls 6 [(0, .ref (G 2 i0)), (1, .int p1), (2, .int p2), (3, .int p3)] := hl
  unfold wpJ1_indexOfChar_4cfef at h
  refine lv_iload_n hx hb dJ1_indexOfChar_4cfef_0 rfl (lv_at hl 1 rfl) ?_
  refine lv_i2b hx hb dJ1_indexOfChar_4cfef_1 rfl ?_
  refine lv_istore (lv' := [(4, .int p1.toInt8.toInt32), (0, .ref (G 2 i0)), (1, .int p1), (2, .int p2), (3, .int p3)]) hx hb dJ1_indexOfChar_4cfef_2 hl (by decide) rfl (fun ls hl => ?_)
  refine lv_iload_n hx hb dJ1_indexOfChar_4cfef_4 rfl (lv_at hl 3 rfl) ?_
  refine lv_istore (lv' := [(5, .int p2), (4, .int p1.toInt8.toInt32), (0, .ref (G 2 i0)), (1, .int p1), (2, .int p2), (3, .int p3)]) hx hb dJ1_indexOfChar_4cfef_5 hl (by decide) rfl (fun ls hl => ?_)
  obtain ⟨n_1, h⟩ := h
  refine wJ1_indexOfChar_4cfef_7 l D cI cJ cC G i0 p1 p2 p3 i0 p3 p1.toInt8.toInt32 post _ S hK hDD hA hE hret (fun x5_2 H locs ls h hP hS hl => ?_) n_1 p2 _ _ _ h hP hS (lv_sub hl [2, 5, 1, 0] rfl)
  try dsimp only at h
  refine lv_iconst (v := (-1 : Int32)) hx hb dJ1_indexOfChar_4cfef_31 (by decide) ?_
  exact hret (-1 : Int32) () _ _ _ _ rfl h hP hS dJ1_indexOfChar_4cfef_32
def wpJ1_indexOf_4cfef (post : Int32 → Prop) (i0 : Nat) (p1 : Int32) (p2 : Int32) (p3 : Int32) : Prop := wpJ1_canEncode_9a6ad (fun (r_1 : Int32) => ((r_1 = (0 : Int32) → (post (-1 : Int32))) ∧ (¬ (r_1 = (0 : Int32)) → (wpJ9_max_7cf53 (fun (r_2 : Int32) => i0 < 8 ∧ (wpJ9_min_7cf53 (fun (r_3 : Int32) => ((r_2 < r_3 → (wpJ1_indexOfChar_4cfef (fun (r_4 : Int32) => post r_4) i0 p1 r_2 r_3)) ∧ (¬ (r_2 < r_3) → (post (-1 : Int32))))) p3 (nI (lenJS.getD i0 0)))) p2 (0 : Int32))))) p1
set_option maxHeartbeats 4000000 in
set_option maxRecDepth 100000 in
theorem mJ1_indexOf_4cfef (l : Launch) (D : va_G) (cI cJ cC : ClassId) (G : Nat → Nat → Nat) (sz : Nat) (i0 : Nat) (p1 : Int32) (p2 : Int32) (p3 : Int32) (post : Int32 → Prop) (h : wpJ1_indexOf_4cfef post i0 p1 p2 p3) : Met l yJ1_indexOf_4cfef (wz yJ1_indexOf_4cfef cJ1_indexOf_4cfef 4 (some .int)) ({ frames := 1, cells := 0, slots := 0, locals := 25 }) (va_Pc [.ref (G 2 i0), .int p1, .int p2, .int p3] (PW D (tz cI cJ cC) G ([]) sz)) (va_Qi (fun (r : Int32) (u : Unit) => post r ) (fun (u : Unit) t => va_P D vwCl ([]) t.heap) (va_A ([]) sz)) 0 0 (va_A ([]) sz) := by
  refine zmi (gw := fun (u : Unit) => []) (plainFor_of_name (by decide)) (Nat.le_of_ble_eq_true rfl) ?_
  intro p e s m below meth c A Q ls S hK hD hA hE hP hl hret
  obtain ⟨hx, hb, hml, hown, ht⟩ := id S
  have hS : va_S A s.heap s.heap [] := va_S.rf
  have hDD : ∀ ws : va_W, ws.map (fun q => q.1) = [] → va_D A ws := fun ws hw => zD hD (hw.trans rfl)
  have hl : lv_has ls 4 [(0, .ref (G 2 i0)), (1, .int p1), (2, .int p2), (3, .int p3)] := hl
  unfold wpJ1_indexOf_4cfef at h
  refine lv_iload_n hx hb dJ1_indexOf_4cfef_0 rfl (lv_at hl 1 rfl) ?_
  refine zci hA (hDD _ rfl) hS (zrunS (As := [.int p1]) (rest := []) S hK hA hE hP (hDD _ rfl) hS (mJ1_canEncode_9a6ad l D cI cJ cC G _ p1 _ h) kJ1_canEncode_9a6ad ml_J1_88 ⟨rfl, rfl, by decide, by decide⟩ rfl hl.1 rfl (Nat.le_of_ble_eq_true rfl) dJ1_indexOf_4cfef_1 ⟨Nat.zero_le _, Nat.zero_le _⟩) (fun r_1 u H locs h hP1 hk1 hS => ?_)
  try dsimp only at h
  have hP : va_P D vwCl ([]) H := hP1
  refine lv_if_ne (tgt := 9) hx hb dJ1_indexOf_4cfef_4 (by decide) (fun z => ?_) (fun z => ?_)
  · replace h := h.2 z
    refine lv_iload_n hx hb dJ1_indexOf_4cfef_9 rfl (lv_at hl 2 rfl) ?_
    refine lv_iconst (v := (0 : Int32)) hx hb dJ1_indexOf_4cfef_10 (by decide) ?_
    refine zci hA (hDD _ rfl) hS (zrunS (As := [.int p2, .int (0 : Int32)]) (rest := []) S hK hA hE hP (hDD _ rfl) hS (mJ9_max_7cf53 l D cI cJ cC G _ p2 (0 : Int32) _ h) kJ9_max_7cf53 ml_J1_92 ⟨rfl, rfl, by decide, by decide⟩ rfl hl.1 rfl (Nat.le_of_ble_eq_true rfl) dJ1_indexOf_4cfef_11 ⟨Nat.zero_le _, Nat.zero_le _⟩) (fun r_2 u H locs h hP1 hk1 hS => ?_)
    try dsimp only at h
    have hP : va_P D vwCl ([]) H := hP1
    refine lv_istore_n (lv' := [(2, .int r_2), (0, .ref (G 2 i0)), (1, .int p1), (3, .int p3)]) hx hb dJ1_indexOf_4cfef_14 rfl hl (by decide) rfl (fun ls hl => ?_)
    refine lv_iload_n hx hb dJ1_indexOf_4cfef_15 rfl (lv_at hl 3 rfl) ?_
    refine lv_aload_n hx hb dJ1_indexOf_4cfef_16 rfl (lv_at hl 1 rfl) ?_
    obtain ⟨hi, h⟩ := h
    refine va_tlen (v := nI (lenJS.getD i0 0)) hx hb (hE.2.2.2.2.1.1 i0 hi).2.2.2 hS rfl dJ1_indexOf_4cfef_17 ?_
    refine zci hA (hDD _ rfl) hS (zrunS (As := [.int p3, .int (nI (lenJS.getD i0 0))]) (rest := []) S hK hA hE hP (hDD _ rfl) hS (mJ9_min_7cf53 l D cI cJ cC G _ p3 (nI (lenJS.getD i0 0)) _ h) kJ9_min_7cf53 ml_J1_38 ⟨rfl, rfl, by decide, by decide⟩ rfl hl.1 rfl (Nat.le_of_ble_eq_true rfl) dJ1_indexOf_4cfef_18 ⟨Nat.zero_le _, Nat.zero_le _⟩) (fun r_3 u H locs h hP1 hk1 hS => ?_)
    try dsimp only at h
    have hP : va_P D vwCl ([]) H := hP1
    refine lv_istore_n (lv' := [(3, .int r_3), (2, .int r_2), (0, .ref (G 2 i0)), (1, .int p1)]) hx hb dJ1_indexOf_4cfef_21 rfl hl (by decide) rfl (fun ls hl => ?_)
    refine lv_iload_n hx hb dJ1_indexOf_4cfef_22 rfl (lv_at hl 1 rfl) ?_
    refine lv_iload_n hx hb dJ1_indexOf_4cfef_23 rfl (lv_at hl 0 rfl) ?_
    refine lv_icmp_lt (tgt := 29) hx hb dJ1_indexOf_4cfef_24 (by decide) (fun z => ?_) (fun z => ?_)
    · replace h := h.1 z
      refine lv_aload_n hx hb dJ1_indexOf_4cfef_29 rfl (lv_at hl 2 rfl) ?_
      refine lv_iload_n hx hb dJ1_indexOf_4cfef_30 rfl (lv_at hl 3 rfl) ?_
      refine lv_iload_n hx hb dJ1_indexOf_4cfef_31 rfl (lv_at hl 1 rfl) ?_
      refine lv_iload_n hx hb dJ1_indexOf_4cfef_32 rfl (lv_at hl 0 rfl) ?_
      refine zci hA (hDD _ rfl) hS (zrunS (As := [.ref (G 2 i0), .int p1, .int r_2, .int r_3]) (rest := []) S hK hA hE hP (hDD _ rfl) hS (mJ1_indexOfChar_4cfef l D cI cJ cC G _ i0 p1 r_2 r_3 _ h) kJ1_indexOfChar_4cfef ml_J1_95 ⟨rfl, rfl, by decide, by decide⟩ rfl hl.1 rfl (Nat.le_of_ble_eq_true rfl) dJ1_indexOf_4cfef_33 ⟨Nat.zero_le _, Nat.zero_le _⟩) (fun r_4 u H locs h hP1 hk1 hS => ?_)
      try dsimp only at h
      have hP : va_P D vwCl ([]) H := hP1
      exact hret r_4 () _ _ _ _ rfl h hP hS dJ1_indexOf_4cfef_36
    · replace h := h.2 z
      refine lv_iconst (v := (-1 : Int32)) hx hb dJ1_indexOf_4cfef_27 (by decide) ?_
      exact hret (-1 : Int32) () _ _ _ _ rfl h hP hS dJ1_indexOf_4cfef_28
  · replace h := h.1 z
    refine lv_iconst (v := (-1 : Int32)) hx hb dJ1_indexOf_4cfef_7 (by decide) ?_
    exact hret (-1 : Int32) () _ _ _ _ rfl h hP hS dJ1_indexOf_4cfef_8
def wpJ0_indexOf_7cf53 (post : Int32 → Prop) (i0 : Nat) (p1 : Int32) (p2 : Int32) : Prop := i0 < 8 ∧ (wpJ0_isLatin1_aae02 (fun (r_1 : Int32) => ((r_1 = (0 : Int32) → (i0 < 8 ∧ (i0 < 8 ∧ (wpJ0_length_8abf5 (fun (r_2 : Int32) => False) i0)))) ∧ (¬ (r_1 = (0 : Int32)) → (i0 < 8 ∧ (i0 < 8 ∧ (wpJ0_length_8abf5 (fun (r_3 : Int32) => wpJ1_indexOf_4cfef (fun (r_4 : Int32) => post r_4) i0 p1 p2 r_3) i0)))))) i0)
set_option maxHeartbeats 4000000 in
set_option maxRecDepth 100000 in
theorem mJ0_indexOf_7cf53 (l : Launch) (D : va_G) (cI cJ cC : ClassId) (G : Nat → Nat → Nat) (sz : Nat) (i0 : Nat) (p1 : Int32) (p2 : Int32) (post : Int32 → Prop) (h : wpJ0_indexOf_7cf53 post i0 p1 p2) : Met l yJ0_indexOf_7cf53 (wz yJ0_indexOf_7cf53 cJ0_indexOf_7cf53 3 (some .int)) ({ frames := 2, cells := 0, slots := 0, locals := 48 }) (va_Pc [.ref (G 1 i0), .int p1, .int p2] (PW D (tz cI cJ cC) G ([]) sz)) (va_Qi (fun (r : Int32) (u : Unit) => post r ) (fun (u : Unit) t => va_P D vwCl ([]) t.heap) (va_A ([]) sz)) 0 0 (va_A ([]) sz) := by
  refine zmi (gw := fun (u : Unit) => []) (plainFor_of_name (by decide)) (Nat.le_of_ble_eq_true rfl) ?_
  intro p e s m below meth c A Q ls S hK hD hA hE hP hl hret
  obtain ⟨hx, hb, hml, hown, ht⟩ := id S
  have hS : va_S A s.heap s.heap [] := va_S.rf
  have hDD : ∀ ws : va_W, ws.map (fun q => q.1) = [] → va_D A ws := fun ws hw => zD hD (hw.trans rfl)
  have hl : lv_has ls 3 [(0, .ref (G 1 i0)), (1, .int p1), (2, .int p2)] := hl
  unfold wpJ0_indexOf_7cf53 at h
  refine lv_aload_n hx hb dJ0_indexOf_7cf53_0 rfl (lv_at hl 0 rfl) ?_
  obtain ⟨hi, h⟩ := h
  refine zci hA (hDD _ rfl) hS (zrunR (As := []) (rest := []) S hK hA hE hP (hDD _ rfl) hS (mJ0_isLatin1_aae02 l D cI cJ cC G _ i0 _ h) kJ0_isLatin1_aae02 ml_J0_492 ⟨rfl, rfl, by decide, by decide⟩ (vk_recv hE.2.2.2.2.1 hi hS) rfl hl.1 rfl (Nat.le_of_ble_eq_true rfl) dJ0_indexOf_7cf53_1 ⟨Nat.zero_le _, Nat.zero_le _⟩) (fun r_1 u H locs h hP1 hk1 hS => ?_)
  try dsimp only at h
  have hP : va_P D vwCl ([]) H := hP1
  refine lv_if_eq (tgt := 23) hx hb dJ0_indexOf_7cf53_4 (by decide) (fun z => ?_) (fun z => ?_)
  · replace h := h.1 z
    refine lv_aload_n hx hb dJ0_indexOf_7cf53_23 rfl (lv_at hl 0 rfl) ?_
    obtain ⟨hi, h⟩ := h
    refine vk_getf hx hb (hE.2.2.2.2.1.1 i0 hi).2.2.1 hS hown (ht _ fl_J0_9) (fun _ h9 => h9) dJ0_indexOf_7cf53_24 ?_
    refine lv_iload_n hx hb dJ0_indexOf_7cf53_27 rfl (lv_at hl 1 rfl) ?_
    refine lv_iload_n hx hb dJ0_indexOf_7cf53_28 rfl (lv_at hl 2 rfl) ?_
    refine lv_aload_n hx hb dJ0_indexOf_7cf53_29 rfl (lv_at hl 0 rfl) ?_
    obtain ⟨hi, h⟩ := h
    refine zci hA (hDD _ rfl) hS (zrunR (As := []) (rest := [.int p2, .int p1, .ref (G 2 i0)]) S hK hA hE hP (hDD _ rfl) hS (mJ0_length_8abf5 l D cI cJ cC G _ i0 _ h) kJ0_length_8abf5 ml_J0_505 ⟨rfl, rfl, by decide, by decide⟩ (vk_recv hE.2.2.2.2.1 hi hS) rfl hl.1 rfl (Nat.le_of_ble_eq_true rfl) dJ0_indexOf_7cf53_30 ⟨Nat.zero_le _, Nat.zero_le _⟩) (fun r_2 u H locs h hP1 hk1 hS => ?_)
    exact False.elim h
  · replace h := h.2 z
    refine lv_aload_n hx hb dJ0_indexOf_7cf53_7 rfl (lv_at hl 0 rfl) ?_
    obtain ⟨hi, h⟩ := h
    refine vk_getf hx hb (hE.2.2.2.2.1.1 i0 hi).2.2.1 hS hown (ht _ fl_J0_9) (fun _ h9 => h9) dJ0_indexOf_7cf53_8 ?_
    refine lv_iload_n hx hb dJ0_indexOf_7cf53_11 rfl (lv_at hl 1 rfl) ?_
    refine lv_iload_n hx hb dJ0_indexOf_7cf53_12 rfl (lv_at hl 2 rfl) ?_
    refine lv_aload_n hx hb dJ0_indexOf_7cf53_13 rfl (lv_at hl 0 rfl) ?_
    obtain ⟨hi, h⟩ := h
    refine zci hA (hDD _ rfl) hS (zrunR (As := []) (rest := [.int p2, .int p1, .ref (G 2 i0)]) S hK hA hE hP (hDD _ rfl) hS (mJ0_length_8abf5 l D cI cJ cC G _ i0 _ h) kJ0_length_8abf5 ml_J0_505 ⟨rfl, rfl, by decide, by decide⟩ (vk_recv hE.2.2.2.2.1 hi hS) rfl hl.1 rfl (Nat.le_of_ble_eq_true rfl) dJ0_indexOf_7cf53_14 ⟨Nat.zero_le _, Nat.zero_le _⟩) (fun r_3 u H locs h hP1 hk1 hS => ?_)
    try dsimp only at h
    have hP : va_P D vwCl ([]) H := hP1
    refine zci hA (hDD _ rfl) hS (zrunS (As := [.ref (G 2 i0), .int p1, .int p2, .int r_3]) (rest := []) S hK hA hE hP (hDD _ rfl) hS (mJ1_indexOf_4cfef l D cI cJ cC G _ i0 p1 p2 r_3 _ h) kJ1_indexOf_4cfef ml_J0_637 ⟨rfl, rfl, by decide, by decide⟩ rfl hl.1 rfl (Nat.le_of_ble_eq_true rfl) dJ0_indexOf_7cf53_17 ⟨Nat.zero_le _, Nat.zero_le _⟩) (fun r_4 u H locs h hP1 hk1 hS => ?_)
    try dsimp only at h
    have hP : va_P D vwCl ([]) H := hP1
    refine lv_goto (tgt := 36) hx hb dJ0_indexOf_7cf53_20 (by decide) ?_
    exact hret r_4 () _ _ _ _ rfl h hP hS dJ0_indexOf_7cf53_36
def wpJ0_indexOf_0f7a4 (post : Int32 → Prop) (i0 : Nat) (p1 : Int32) : Prop := i0 < 8 ∧ (wpJ0_indexOf_7cf53 (fun (r_1 : Int32) => post r_1) i0 p1 (0 : Int32))
set_option maxHeartbeats 4000000 in
set_option maxRecDepth 100000 in
theorem mJ0_indexOf_0f7a4 (l : Launch) (D : va_G) (cI cJ cC : ClassId) (G : Nat → Nat → Nat) (sz : Nat) (i0 : Nat) (p1 : Int32) (post : Int32 → Prop) (h : wpJ0_indexOf_0f7a4 post i0 p1) : Met l yJ0_indexOf_0f7a4 (wz yJ0_indexOf_0f7a4 cJ0_indexOf_0f7a4 2 (some .int)) ({ frames := 3, cells := 0, slots := 0, locals := 70 }) (va_Pc [.ref (G 1 i0), .int p1] (PW D (tz cI cJ cC) G ([]) sz)) (va_Qi (fun (r : Int32) (u : Unit) => post r ) (fun (u : Unit) t => va_P D vwCl ([]) t.heap) (va_A ([]) sz)) 0 0 (va_A ([]) sz) := by
  refine zmi (gw := fun (u : Unit) => []) (plainFor_of_name (by decide)) (Nat.le_of_ble_eq_true rfl) ?_
  intro p e s m below meth c A Q ls S hK hD hA hE hP hl hret
  obtain ⟨hx, hb, hml, hown, ht⟩ := id S
  have hS : va_S A s.heap s.heap [] := va_S.rf
  have hDD : ∀ ws : va_W, ws.map (fun q => q.1) = [] → va_D A ws := fun ws hw => zD hD (hw.trans rfl)
  have hl : lv_has ls 2 [(0, .ref (G 1 i0)), (1, .int p1)] := hl
  unfold wpJ0_indexOf_0f7a4 at h
  refine lv_aload_n hx hb dJ0_indexOf_0f7a4_0 rfl (lv_at hl 0 rfl) ?_
  refine lv_iload_n hx hb dJ0_indexOf_0f7a4_1 rfl (lv_at hl 1 rfl) ?_
  refine lv_iconst (v := (0 : Int32)) hx hb dJ0_indexOf_0f7a4_2 (by decide) ?_
  obtain ⟨hi, h⟩ := h
  refine zci hA (hDD _ rfl) hS (zrunR (As := [.int p1, .int (0 : Int32)]) (rest := []) S hK hA hE hP (hDD _ rfl) hS (mJ0_indexOf_7cf53 l D cI cJ cC G _ i0 p1 (0 : Int32) _ h) kJ0_indexOf_7cf53 ml_J0_633 ⟨rfl, rfl, by decide, by decide⟩ (vk_recv hE.2.2.2.2.1 hi hS) rfl hl.1 rfl (Nat.le_of_ble_eq_true rfl) dJ0_indexOf_0f7a4_3 ⟨Nat.zero_le _, Nat.zero_le _⟩) (fun r_1 u H locs h hP1 hk1 hS => ?_)
  try dsimp only at h
  have hP : va_P D vwCl ([]) H := hP1
  exact hret r_1 () _ _ _ _ rfl h hP hS dJ0_indexOf_0f7a4_6
def wpX2_fits (post : Int32 → Prop) (p0 : Int32) (p1 : Int32) : Prop := ((p1 = (43 : Int32) → (((p0 = (43 : Int32) → (post (1 : Int32))) ∧ (¬ (p0 = (43 : Int32)) → (((p0 = (45 : Int32) → (post (1 : Int32))) ∧ (¬ (p0 = (45 : Int32)) → (post (0 : Int32))))))))) ∧ (¬ (p1 = (43 : Int32)) → (((p1 = (57 : Int32) → (((p0 < (48 : Int32) → (post (0 : Int32))) ∧ (¬ (p0 < (48 : Int32)) → ((((57 : Int32) < p0 → (post (0 : Int32))) ∧ (¬ ((57 : Int32) < p0) → (post (1 : Int32))))))))) ∧ (¬ (p1 = (57 : Int32)) → (((p1 = (63 : Int32) → (((p0 < (48 : Int32) → (post (0 : Int32))) ∧ (¬ (p0 < (48 : Int32)) → ((((57 : Int32) < p0 → (post (0 : Int32))) ∧ (¬ ((57 : Int32) < p0) → (post (1 : Int32))))))))) ∧ (¬ (p1 = (63 : Int32)) → (((p1 = (108 : Int32) → (wpJ0_indexOf_0f7a4 (fun (r_1 : Int32) => ((r_1 < (0 : Int32) → (post (0 : Int32))) ∧ (¬ (r_1 < (0 : Int32)) → (post (1 : Int32))))) 7 p0)) ∧ (¬ (p1 = (108 : Int32)) → (((p0 = p1 → (post (1 : Int32))) ∧ (¬ (p0 = p1) → (post (0 : Int32))))))))))))))))
set_option maxHeartbeats 4000000 in
set_option maxRecDepth 100000 in
theorem mX2_fits (l : Launch) (D : va_G) (cI cJ cC : ClassId) (G : Nat → Nat → Nat) (sz : Nat) (p0 : Int32) (p1 : Int32) (post : Int32 → Prop) (h : wpX2_fits post p0 p1) : Met l yX2_fits (wz yX2_fits cX2_fits 2 (some .boolean)) ({ frames := 4, cells := 0, slots := 0, locals := 91 }) (va_Pc [.int p0, .int p1] (PW D (tz cI cJ cC) G ([]) sz)) (va_Qi (fun (r : Int32) (u : Unit) => post r ) (fun (u : Unit) t => va_P D vwCl ([]) t.heap) (va_A ([]) sz)) 0 0 (va_A ([]) sz) := by
  refine zmi (gw := fun (u : Unit) => []) (plainFor_of_name (by decide)) (Nat.le_of_ble_eq_true rfl) ?_
  intro p e s m below meth c A Q ls S hK hD hA hE hP hl hret
  obtain ⟨hx, hb, hml, hown, ht⟩ := id S
  have hS : va_S A s.heap s.heap [] := va_S.rf
  have hDD : ∀ ws : va_W, ws.map (fun q => q.1) = [] → va_D A ws := fun ws hw => zD hD (hw.trans rfl)
  have hl : lv_has ls 2 [(0, .int p0), (1, .int p1)] := hl
  unfold wpX2_fits at h
  refine lv_iload_n hx hb dX2_fits_0 rfl (lv_at hl 1 rfl) ?_
  by_cases z0 : p1 = (43 : Int32)
  · replace h := h.1 z0
    refine lv_lookup (off := 76) (tgt := 77) hx hb dX2_fits_1 (by decide) (by rw [z0]; decide) (by decide) ?_
    refine lv_iload_n hx hb dX2_fits_77 rfl (lv_at hl 0 rfl) ?_
    refine lv_bipush (v := (43 : Int32)) hx hb dX2_fits_78 (by decide) ?_
    refine lv_icmp_eq (tgt := 89) hx hb dX2_fits_80 (by decide) (fun z => ?_) (fun z => ?_)
    · replace h := h.1 z
      refine lv_iconst (v := (1 : Int32)) hx hb dX2_fits_89 (by decide) ?_
      refine lv_goto (tgt := 94) hx hb dX2_fits_90 (by decide) ?_
      exact hret (1 : Int32) () _ _ _ _ rfl h hP hS dX2_fits_94
    · replace h := h.2 z
      refine lv_iload_n hx hb dX2_fits_83 rfl (lv_at hl 0 rfl) ?_
      refine lv_bipush (v := (45 : Int32)) hx hb dX2_fits_84 (by decide) ?_
      refine lv_icmp_ne (tgt := 93) hx hb dX2_fits_86 (by decide) (fun z => ?_) (fun z => ?_)
      · replace h := h.2 z
        refine lv_iconst (v := (0 : Int32)) hx hb dX2_fits_93 (by decide) ?_
        exact hret (0 : Int32) () _ _ _ _ rfl h hP hS dX2_fits_94
      · replace h := h.1 z
        refine lv_iconst (v := (1 : Int32)) hx hb dX2_fits_89 (by decide) ?_
        refine lv_goto (tgt := 94) hx hb dX2_fits_90 (by decide) ?_
        exact hret (1 : Int32) () _ _ _ _ rfl h hP hS dX2_fits_94
  · replace h := h.2 z0
    by_cases z1 : p1 = (57 : Int32)
    · replace h := h.1 z1
      refine lv_lookup (off := 43) (tgt := 44) hx hb dX2_fits_1 (by decide) (by rw [z1]; decide) (by decide) ?_
      refine lv_iload_n hx hb dX2_fits_44 rfl (lv_at hl 0 rfl) ?_
      refine lv_bipush (v := (48 : Int32)) hx hb dX2_fits_45 (by decide) ?_
      refine lv_icmp_lt (tgt := 60) hx hb dX2_fits_47 (by decide) (fun z => ?_) (fun z => ?_)
      · replace h := h.1 z
        refine lv_iconst (v := (0 : Int32)) hx hb dX2_fits_60 (by decide) ?_
        exact hret (0 : Int32) () _ _ _ _ rfl h hP hS dX2_fits_61
      · replace h := h.2 z
        refine lv_iload_n hx hb dX2_fits_50 rfl (lv_at hl 0 rfl) ?_
        refine lv_bipush (v := (57 : Int32)) hx hb dX2_fits_51 (by decide) ?_
        refine lv_icmp_gt (tgt := 60) hx hb dX2_fits_53 (by decide) (fun z => ?_) (fun z => ?_)
        · replace h := h.1 z
          refine lv_iconst (v := (0 : Int32)) hx hb dX2_fits_60 (by decide) ?_
          exact hret (0 : Int32) () _ _ _ _ rfl h hP hS dX2_fits_61
        · replace h := h.2 z
          refine lv_iconst (v := (1 : Int32)) hx hb dX2_fits_56 (by decide) ?_
          refine lv_goto (tgt := 61) hx hb dX2_fits_57 (by decide) ?_
          exact hret (1 : Int32) () _ _ _ _ rfl h hP hS dX2_fits_61
    · replace h := h.2 z1
      by_cases z2 : p1 = (63 : Int32)
      · replace h := h.1 z2
        refine lv_lookup (off := 43) (tgt := 44) hx hb dX2_fits_1 (by decide) (by rw [z2]; decide) (by decide) ?_
        refine lv_iload_n hx hb dX2_fits_44 rfl (lv_at hl 0 rfl) ?_
        refine lv_bipush (v := (48 : Int32)) hx hb dX2_fits_45 (by decide) ?_
        refine lv_icmp_lt (tgt := 60) hx hb dX2_fits_47 (by decide) (fun z => ?_) (fun z => ?_)
        · replace h := h.1 z
          refine lv_iconst (v := (0 : Int32)) hx hb dX2_fits_60 (by decide) ?_
          exact hret (0 : Int32) () _ _ _ _ rfl h hP hS dX2_fits_61
        · replace h := h.2 z
          refine lv_iload_n hx hb dX2_fits_50 rfl (lv_at hl 0 rfl) ?_
          refine lv_bipush (v := (57 : Int32)) hx hb dX2_fits_51 (by decide) ?_
          refine lv_icmp_gt (tgt := 60) hx hb dX2_fits_53 (by decide) (fun z => ?_) (fun z => ?_)
          · replace h := h.1 z
            refine lv_iconst (v := (0 : Int32)) hx hb dX2_fits_60 (by decide) ?_
            exact hret (0 : Int32) () _ _ _ _ rfl h hP hS dX2_fits_61
          · replace h := h.2 z
            refine lv_iconst (v := (1 : Int32)) hx hb dX2_fits_56 (by decide) ?_
            refine lv_goto (tgt := 61) hx hb dX2_fits_57 (by decide) ?_
            exact hret (1 : Int32) () _ _ _ _ rfl h hP hS dX2_fits_61
      · replace h := h.2 z2
        by_cases z3 : p1 = (108 : Int32)
        · replace h := h.1 z3
          refine lv_lookup (off := 61) (tgt := 62) hx hb dX2_fits_1 (by decide) (by rw [z3]; decide) (by decide) ?_
          refine va_ldcS hx hb hown (hE.2.2.2.2.2 7 _ rfl) dX2_fits_62 ?_
          refine lv_iload_n hx hb dX2_fits_64 rfl (lv_at hl 0 rfl) ?_
          refine zci hA (hDD _ rfl) hS (zrunR (As := [.int p0]) (rest := []) S hK hA hE hP (hDD _ rfl) hS (mJ0_indexOf_0f7a4 l D cI cJ cC G _ 7 p0 _ h) kJ0_indexOf_0f7a4 ml_X2_65 ⟨rfl, rfl, by decide, by decide⟩ (vk_recv hE.2.2.2.2.1 (by decide) hS) rfl hl.1 rfl (Nat.le_of_ble_eq_true rfl) dX2_fits_65 ⟨Nat.zero_le _, Nat.zero_le _⟩) (fun r_1 u H locs h hP1 hk1 hS => ?_)
          try dsimp only at h
          have hP : va_P D vwCl ([]) H := hP1
          refine lv_if_lt (tgt := 75) hx hb dX2_fits_68 (by decide) (fun z => ?_) (fun z => ?_)
          · replace h := h.1 z
            refine lv_iconst (v := (0 : Int32)) hx hb dX2_fits_75 (by decide) ?_
            exact hret (0 : Int32) () _ _ _ _ rfl h hP hS dX2_fits_76
          · replace h := h.2 z
            refine lv_iconst (v := (1 : Int32)) hx hb dX2_fits_71 (by decide) ?_
            refine lv_goto (tgt := 76) hx hb dX2_fits_72 (by decide) ?_
            exact hret (1 : Int32) () _ _ _ _ rfl h hP hS dX2_fits_76
        · replace h := h.2 z3
          refine lv_lookup (off := 94) (tgt := 95) hx hb dX2_fits_1 (by decide) (by rw [show (#[(43, 76), (57, 43), (63, 43), (108, 61)] : Array (Int × Int)).toList = [(43, 76), (57, 43), (63, 43), (108, 61)] from rfl, lv_osw z0 (by decide), lv_osw z1 (by decide), lv_osw z2 (by decide), lv_osw z3 (by decide)]; rfl) (by decide) ?_
          refine lv_iload_n hx hb dX2_fits_95 rfl (lv_at hl 0 rfl) ?_
          refine lv_iload_n hx hb dX2_fits_96 rfl (lv_at hl 1 rfl) ?_
          refine lv_icmp_ne (tgt := 104) hx hb dX2_fits_97 (by decide) (fun z => ?_) (fun z => ?_)
          · replace h := h.2 z
            refine lv_iconst (v := (0 : Int32)) hx hb dX2_fits_104 (by decide) ?_
            exact hret (0 : Int32) () _ _ _ _ rfl h hP hS dX2_fits_105
          · replace h := h.1 z
            refine lv_iconst (v := (1 : Int32)) hx hb dX2_fits_100 (by decide) ?_
            refine lv_goto (tgt := 105) hx hb dX2_fits_101 (by decide) ?_
            exact hret (1 : Int32) () _ _ _ _ rfl h hP hS dX2_fits_105
def lpX2_passStatement_33 (post : Int32 → Int32 → Prop) (K : Int32 → Int32 → Prop) (x1 : Nat) (s_length : Int32) (s_signs : Nat → Int32) : Nat → Int32 → Int32 → Prop
  | 0, _, _ => False
  | n + 1, x2, s_place => x1 < 8 ∧ (wpJ0_length_8abf5 (fun (r_4 : Int32) => ((r_4 ≤ x2 → (K x2 s_place)) ∧ (¬ (r_4 ≤ x2) → (wpX2_signAt (fun (r_5 : Int32) => x1 < 8 ∧ (wpJ0_charAt_5068e (fun (r_6 : Int32) => wpX2_fits (fun (r_7 : Int32) => ((r_7 = (0 : Int32) → (x1 < 8 ∧ (wpJ0_charAt_5068e (fun (r_8 : Int32) => ((r_8 = (63 : Int32) → (lpX2_passStatement_33 post K x1 s_length s_signs n (x2 + (1 : Int32)) s_place)) ∧ (¬ (r_8 = (63 : Int32)) → (post (0 : Int32) s_place)))) x1 x2))) ∧ (¬ (r_7 = (0 : Int32)) → (lpX2_passStatement_33 post K x1 s_length s_signs n (x2 + (1 : Int32)) (s_place + (1 : Int32)))))) r_5 r_6) x1 x2)) s_length s_signs s_place)))) x1)
set_option maxHeartbeats 4000000 in
set_option maxRecDepth 100000 in
theorem wX2_passStatement_33 (l : Launch) (D : va_G) (cI cJ cC : ClassId) (G : Nat → Nat → Nat) (a_s : Nat → Nat) {p : Program} {e : Env} {s : State} {m : MethodId} {below : List Frame} {meth : Method} {c : Code} {A : Nat → Prop} {Q : State → Prop} (x1 : Nat) (s_length : Int32) (s_signs : Nat → Int32) (post : Int32 → Int32 → Prop) (K : Int32 → Int32 → Prop) (S : CallFix p m c cX2_passStatement 3 s ([.ref (a_s 0)] : List Value).toArray bg RX2) (hK : va_K D vwCl (tz cI cJ cC) s) (hDD : ∀ ws : va_W, ws.map (fun q => q.1) = [a_s 0, a_s 1] → va_D A ws) (hA : ∀ q, s.heap.size ≤ q → A q) (hE : EV G A s) (hret : ∀ (r : Int32) (u : Int32) (H : Heap) (locs : List Loc) (ls : Array Slot) (pc : Nat), narrow .boolean (.int r) = .int r → post r u → va_P D vwCl ((bX2 cI cJ cC a_s s_length u s_signs)) H → va_S A s.heap H locs → decode cX2_passStatement pc = .ok (.ireturn, 1) → W p l e ({ frames := 5, cells := 0, slots := 0, locals := 112 }) s m ([.ref (a_s 0)] : List Value).toArray below meth c H locs 0 0 Q (F0 m pc ls [.int r])) (hKK : ∀ (x2 : Int32) (s_place : Int32) (H : Heap) (locs : List Loc) (ls : Array Slot), K x2 s_place → va_P D vwCl ((bX2 cI cJ cC a_s s_length s_place s_signs)) H → va_S A s.heap H locs → lv_has ls 3 [] → W p l e ({ frames := 5, cells := 0, slots := 0, locals := 112 }) s m ([.ref (a_s 0)] : List Value).toArray below meth c H locs 0 0 Q (F0 m 91 ls [])) :
    ∀ (n : Nat) (x2 : Int32) (s_place : Int32) (H : Heap) (locs : List Loc) (ls : Array Slot), lpX2_passStatement_33 post K x1 s_length s_signs n x2 s_place → va_P D vwCl ((bX2 cI cJ cC a_s s_length s_place s_signs)) H → va_S A s.heap H locs → lv_has ls 3 [(0, .ref (a_s 0)), (1, .ref (G 1 x1)), (2, .int x2)] → W p l e ({ frames := 5, cells := 0, slots := 0, locals := 112 }) s m ([.ref (a_s 0)] : List Value).toArray below meth c H locs 0 0 Q (F0 m 33 ls []) := by
  obtain ⟨hx, hb, hml, hown, ht⟩ := id S
  intro n
  induction n with
  | zero =>
    intro x2 s_place H locs ls h
    exact absurd h (by simp [lpX2_passStatement_33])
  | succ n ih =>
    intro x2 s_place H locs ls h hP hS hl
    rw [lpX2_passStatement_33] at h
    refine lv_iload_n hx hb dX2_passStatement_33 rfl (lv_at hl 2 rfl) ?_
    refine lv_aload_n hx hb dX2_passStatement_34 rfl (lv_at hl 1 rfl) ?_
    obtain ⟨hi, h⟩ := h
    refine zci hA zD0 hS (zrunR (As := []) (rest := [.int x2]) S hK hA hE zP0 zD0 hS (mJ0_length_8abf5 l D cI cJ cC G _ x1 _ h) kJ0_length_8abf5 ml_X2_39 ⟨rfl, rfl, by decide, by decide⟩ (vk_recv hE.2.2.2.2.1 hi hS) rfl hl.1 rfl (Nat.le_of_ble_eq_true rfl) dX2_passStatement_35 ⟨Nat.zero_le _, Nat.zero_le _⟩) (fun r_4 u H locs h hP1 hk1 hS => ?_)
    try dsimp only at h
    have hP : va_P D vwCl ((bX2 cI cJ cC a_s s_length s_place s_signs)) H := zKeep hP hk1
    refine lv_icmp_ge (tgt := 91) hx hb dX2_passStatement_38 (by decide) (fun z => ?_) (fun z => ?_)
    · replace h := h.1 z
      exact hKK x2 s_place _ _ _ h hP hS (lv_sub hl [] rfl)
    · replace h := h.2 z
      refine lv_aload_n hx hb dX2_passStatement_41 rfl (lv_at hl 0 rfl) ?_
      refine lv_aload_n hx hb dX2_passStatement_42 rfl (lv_at hl 0 rfl) ?_
      refine va_get (D := D) (ci := 2) (v := .int s_place) (C := RX2) (T := TX2) (N := 3) hx hb ht inX2 hown hK hP 0 rfl rfl 2 (by decide) (ht _ fl_X2_19) (fun _ h9 => h9) rfl dX2_passStatement_43 ?_
      refine zci hA (hDD _ rfl) hS (zrunV (As := [.int s_place]) (rest := []) S hK hA hE hP (hDD _ rfl) hS (mX2_signAt l D cI cJ cC G a_s _ s_length s_place s_signs s_place _ h) kX2_signAt ml_X2_26 ⟨rfl, rfl, by decide, by decide⟩ (q0 := 0) (ci := 2) rfl rfl rfl rfl hl.1 rfl (Nat.le_of_ble_eq_true rfl) dX2_passStatement_46 ⟨Nat.zero_le _, Nat.zero_le _⟩) (fun r_5 u H locs h hP1 hk1 hS => ?_)
      try dsimp only at h
      have hP : va_P D vwCl ((bX2 cI cJ cC a_s s_length s_place s_signs)) H := hP1
      refine lv_aload_n hx hb dX2_passStatement_49 rfl (lv_at hl 1 rfl) ?_
      refine lv_iload_n hx hb dX2_passStatement_50 rfl (lv_at hl 2 rfl) ?_
      obtain ⟨hi, h⟩ := h
      refine zci hA zD0 hS (zrunR (As := [.int x2]) (rest := [.int r_5]) S hK hA hE zP0 zD0 hS (mJ0_charAt_5068e l D cI cJ cC G _ x1 x2 _ h) kJ0_charAt_5068e ml_X2_42 ⟨rfl, rfl, by decide, by decide⟩ (vk_recv hE.2.2.2.2.1 hi hS) rfl hl.1 rfl (Nat.le_of_ble_eq_true rfl) dX2_passStatement_51 ⟨Nat.zero_le _, Nat.zero_le _⟩) (fun r_6 u H locs h hP1 hk1 hS => ?_)
      try dsimp only at h
      have hP : va_P D vwCl ((bX2 cI cJ cC a_s s_length s_place s_signs)) H := zKeep hP hk1
      refine zci hA zD0 hS (zrunS (As := [.int r_5, .int r_6]) (rest := []) S hK hA hE zP0 zD0 hS (mX2_fits l D cI cJ cC G _ r_5 r_6 _ h) kX2_fits ml_X2_45 ⟨rfl, rfl, by decide, by decide⟩ rfl hl.1 rfl (Nat.le_of_ble_eq_true rfl) dX2_passStatement_54 ⟨Nat.zero_le _, Nat.zero_le _⟩) (fun r_7 u H locs h hP1 hk1 hS => ?_)
      try dsimp only at h
      have hP : va_P D vwCl ((bX2 cI cJ cC a_s s_length s_place s_signs)) H := zKeep hP hk1
      refine lv_if_eq (tgt := 73) hx hb dX2_passStatement_57 (by decide) (fun z => ?_) (fun z => ?_)
      · replace h := h.1 z
        refine lv_aload_n hx hb dX2_passStatement_73 rfl (lv_at hl 1 rfl) ?_
        refine lv_iload_n hx hb dX2_passStatement_74 rfl (lv_at hl 2 rfl) ?_
        obtain ⟨hi, h⟩ := h
        refine zci hA zD0 hS (zrunR (As := [.int x2]) (rest := []) S hK hA hE zP0 zD0 hS (mJ0_charAt_5068e l D cI cJ cC G _ x1 x2 _ h) kJ0_charAt_5068e ml_X2_42 ⟨rfl, rfl, by decide, by decide⟩ (vk_recv hE.2.2.2.2.1 hi hS) rfl hl.1 rfl (Nat.le_of_ble_eq_true rfl) dX2_passStatement_75 ⟨Nat.zero_le _, Nat.zero_le _⟩) (fun r_8 u H locs h hP1 hk1 hS => ?_)
        try dsimp only at h
        have hP : va_P D vwCl ((bX2 cI cJ cC a_s s_length s_place s_signs)) H := zKeep hP hk1
        refine lv_bipush (v := (63 : Int32)) hx hb dX2_passStatement_78 (by decide) ?_
        refine lv_icmp_eq (tgt := 85) hx hb dX2_passStatement_80 (by decide) (fun z => ?_) (fun z => ?_)
        · replace h := h.1 z
          refine lv_iinc (v := x2 + (1 : Int32)) (lv' := [(2, .int (x2 + (1 : Int32))), (0, .ref (a_s 0)), (1, .ref (G 1 x1))]) hx hb dX2_passStatement_85 hl (k := 2) rfl (by rfl) (by decide) rfl (fun ls hl => ?_)
          refine lv_goto (tgt := 33) hx hb dX2_passStatement_88 (by decide) ?_
          exact ih (x2 + (1 : Int32)) s_place _ _ _ h hP hS (lv_sub hl [1, 2, 0] rfl)
        · replace h := h.2 z
          refine lv_iconst (v := (0 : Int32)) hx hb dX2_passStatement_83 (by decide) ?_
          exact hret (0 : Int32) s_place _ _ _ _ rfl h hP hS dX2_passStatement_84
      · replace h := h.2 z
        refine lv_aload_n hx hb dX2_passStatement_60 rfl (lv_at hl 0 rfl) ?_
        refine lv_dup hx hb dX2_passStatement_61 rfl ?_
        refine va_get (D := D) (ci := 2) (v := .int s_place) (C := RX2) (T := TX2) (N := 3) hx hb ht inX2 hown hK hP 0 rfl rfl 2 (by decide) (ht _ fl_X2_19) (fun _ h9 => h9) rfl dX2_passStatement_62 ?_
        refine lv_iconst (v := (1 : Int32)) hx hb dX2_passStatement_65 (by decide) ?_
        refine lv_iadd hx hb dX2_passStatement_66 ?_
        refine va_put (D := D) (ci := 2) (v := .int (s_place + (1 : Int32))) (ty := .int) (C := RX2) (T := TX2) (N := 3) hx hb ht inX2 tyX2 tyX2_ok nmX2 hown hK hP (hDD _ rfl) hS 0 rfl rfl 2 (by decide) (ht _ fl_X2_19) (fun _ h9 => h9) rfl (by decide +kernel) rfl rfl (Nat.le_of_ble_eq_true rfl) dX2_passStatement_67 (fun H locs hP _ hS => ?_)
        have hP : va_P D vwCl ((bX2 cI cJ cC a_s s_length (s_place + (1 : Int32)) s_signs)) H := hP
        refine lv_goto (tgt := 85) hx hb dX2_passStatement_70 (by decide) ?_
        refine lv_iinc (v := x2 + (1 : Int32)) (lv' := [(2, .int (x2 + (1 : Int32))), (0, .ref (a_s 0)), (1, .ref (G 1 x1))]) hx hb dX2_passStatement_85 hl (k := 2) rfl (by rfl) (by decide) rfl (fun ls hl => ?_)
        refine lv_goto (tgt := 33) hx hb dX2_passStatement_88 (by decide) ?_
        exact ih (x2 + (1 : Int32)) (s_place + (1 : Int32)) _ _ _ h hP hS (lv_sub hl [1, 2, 0] rfl)
def wpX2_passStatement (post : Int32 → Int32 → Prop) (s_length : Int32) (s_place : Int32) (s_signs : Nat → Int32) : Prop := wpX2_signAt (fun (r_1 : Int32) => wpX2_formBehind (fun (r_2 : Nat) => r_2 < 8 ∧ (wpJ0_isEmpty_aae02 (fun (r_3 : Int32) => ((r_3 = (0 : Int32) → (∃ n_9 : Nat, lpX2_passStatement_33 post (fun (x2_10 : Int32) (s_place_11 : Int32) => post (1 : Int32) s_place_11) r_2 s_length s_signs n_9 (0 : Int32) (s_place + (1 : Int32)))) ∧ (¬ (r_3 = (0 : Int32)) → (post (0 : Int32) s_place)))) r_2)) r_1) s_length s_signs s_place
set_option maxHeartbeats 4000000 in
set_option maxRecDepth 100000 in
theorem mX2_passStatement (l : Launch) (D : va_G) (cI cJ cC : ClassId) (G : Nat → Nat → Nat) (a_s : Nat → Nat) (sz : Nat) (s_length : Int32) (s_place : Int32) (s_signs : Nat → Int32) (post : Int32 → Int32 → Prop) (h : wpX2_passStatement post s_length s_place s_signs) : Met l yX2_passStatement (wz yX2_passStatement cX2_passStatement 3 (some .boolean)) ({ frames := 5, cells := 0, slots := 0, locals := 112 }) (va_Pc [.ref (a_s 0)] (PW D (tz cI cJ cC) G ((bX2 cI cJ cC a_s s_length s_place s_signs)) sz)) (va_Qi (fun (r : Int32) (u : Int32) => post r u) (fun (u : Int32) t => va_P D vwCl ((bX2 cI cJ cC a_s s_length u s_signs)) t.heap) (va_A ((bX2 cI cJ cC a_s s_length s_place s_signs)) sz)) 0 0 (va_A ((bX2 cI cJ cC a_s s_length s_place s_signs)) sz) := by
  refine zmi (gw := fun (u : Int32) => (bX2 cI cJ cC a_s s_length u s_signs)) (plainFor_of_name (by decide)) (Nat.le_of_ble_eq_true rfl) ?_
  intro p e s m below meth c A Q ls S hK hD hA hE hP hl hret
  obtain ⟨hx, hb, hml, hown, ht⟩ := id S
  have hS : va_S A s.heap s.heap [] := va_S.rf
  have hDD : ∀ ws : va_W, ws.map (fun q => q.1) = [a_s 0, a_s 1] → va_D A ws := fun ws hw => zD hD (hw.trans rfl)
  have hl : lv_has ls 3 [(0, .ref (a_s 0))] := hl
  unfold wpX2_passStatement at h
  refine lv_aload_n hx hb dX2_passStatement_0 rfl (lv_at hl 0 rfl) ?_
  refine lv_aload_n hx hb dX2_passStatement_1 rfl (lv_at hl 0 rfl) ?_
  refine va_get (D := D) (ci := 2) (v := .int s_place) (C := RX2) (T := TX2) (N := 3) hx hb ht inX2 hown hK hP 0 rfl rfl 2 (by decide) (ht _ fl_X2_19) (fun _ h9 => h9) rfl dX2_passStatement_2 ?_
  refine zci hA (hDD _ rfl) hS (zrunV (As := [.int s_place]) (rest := []) S hK hA hE hP (hDD _ rfl) hS (mX2_signAt l D cI cJ cC G a_s _ s_length s_place s_signs s_place _ h) kX2_signAt ml_X2_26 ⟨rfl, rfl, by decide, by decide⟩ (q0 := 0) (ci := 2) rfl rfl rfl rfl hl.1 rfl (Nat.le_of_ble_eq_true rfl) dX2_passStatement_5 ⟨Nat.zero_le _, Nat.zero_le _⟩) (fun r_1 u H locs h hP1 hk1 hS => ?_)
  try dsimp only at h
  have hP : va_P D vwCl ((bX2 cI cJ cC a_s s_length s_place s_signs)) H := hP1
  refine zcr hA zD0 hS (zrunS (As := [.int r_1]) (rest := []) S hK hA hE zP0 zD0 hS (mX2_formBehind l D cI cJ cC G _ r_1 _ h) kX2_formBehind ml_X2_30 ⟨rfl, rfl, by decide, by decide⟩ rfl hl.1 rfl (Nat.le_of_ble_eq_true rfl) dX2_passStatement_8 ⟨Nat.zero_le _, Nat.zero_le _⟩) (fun r_2  H locs h hP1 hk1 hS => ?_)
  try dsimp only at h
  have hP : va_P D vwCl ((bX2 cI cJ cC a_s s_length s_place s_signs)) H := zKeep hP hk1
  refine lv_astore_n (lv' := [(1, .ref (G 1 r_2)), (0, .ref (a_s 0))]) hx hb dX2_passStatement_11 rfl hl (by decide) rfl (fun ls hl => ?_)
  refine lv_aload_n hx hb dX2_passStatement_12 rfl (lv_at hl 0 rfl) ?_
  obtain ⟨hi, h⟩ := h
  refine zci hA zD0 hS (zrunR (As := []) (rest := []) S hK hA hE zP0 zD0 hS (mJ0_isEmpty_aae02 l D cI cJ cC G _ r_2 _ h) kJ0_isEmpty_aae02 ml_X2_34 ⟨rfl, rfl, by decide, by decide⟩ (vk_recv hE.2.2.2.2.1 hi hS) rfl hl.1 rfl (Nat.le_of_ble_eq_true rfl) dX2_passStatement_13 ⟨Nat.zero_le _, Nat.zero_le _⟩) (fun r_3 u H locs h hP1 hk1 hS => ?_)
  try dsimp only at h
  have hP : va_P D vwCl ((bX2 cI cJ cC a_s s_length s_place s_signs)) H := zKeep hP hk1
  refine lv_if_eq (tgt := 21) hx hb dX2_passStatement_16 (by decide) (fun z => ?_) (fun z => ?_)
  · replace h := h.1 z
    refine lv_aload_n hx hb dX2_passStatement_21 rfl (lv_at hl 1 rfl) ?_
    refine lv_dup hx hb dX2_passStatement_22 rfl ?_
    refine va_get (D := D) (ci := 2) (v := .int s_place) (C := RX2) (T := TX2) (N := 3) hx hb ht inX2 hown hK hP 0 rfl rfl 2 (by decide) (ht _ fl_X2_19) (fun _ h9 => h9) rfl dX2_passStatement_23 ?_
    refine lv_iconst (v := (1 : Int32)) hx hb dX2_passStatement_26 (by decide) ?_
    refine lv_iadd hx hb dX2_passStatement_27 ?_
    refine va_put (D := D) (ci := 2) (v := .int (s_place + (1 : Int32))) (ty := .int) (C := RX2) (T := TX2) (N := 3) hx hb ht inX2 tyX2 tyX2_ok nmX2 hown hK hP (hDD _ rfl) hS 0 rfl rfl 2 (by decide) (ht _ fl_X2_19) (fun _ h9 => h9) rfl (by decide +kernel) rfl rfl (Nat.le_of_ble_eq_true rfl) dX2_passStatement_28 (fun H locs hP _ hS => ?_)
    have hP : va_P D vwCl ((bX2 cI cJ cC a_s s_length (s_place + (1 : Int32)) s_signs)) H := hP
    refine lv_iconst (v := (0 : Int32)) hx hb dX2_passStatement_31 (by decide) ?_
    refine lv_istore_n (lv' := [(2, .int (0 : Int32)), (1, .ref (G 1 r_2)), (0, .ref (a_s 0))]) hx hb dX2_passStatement_32 rfl hl (by decide) rfl (fun ls hl => ?_)
    obtain ⟨n_9, h⟩ := h
    refine wX2_passStatement_33 l D cI cJ cC G a_s r_2 s_length s_signs post _ S hK hDD hA hE hret (fun x2_10 s_place_11 H locs ls h hP hS hl => ?_) n_9 (0 : Int32) (s_place + (1 : Int32)) _ _ _ h hP hS (lv_sub hl [2, 1, 0] rfl)
    try dsimp only at h
    refine lv_iconst (v := (1 : Int32)) hx hb dX2_passStatement_91 (by decide) ?_
    exact hret (1 : Int32) s_place_11 _ _ _ _ rfl h hP hS dX2_passStatement_92
  · replace h := h.2 z
    refine lv_iconst (v := (0 : Int32)) hx hb dX2_passStatement_19 (by decide) ?_
    exact hret (0 : Int32) s_place _ _ _ _ rfl h hP hS dX2_passStatement_20
def lpX2_passAll_9 (K : Int32 → Int32 → Int32 → Prop) (s_length : Int32) (s_signs : Nat → Int32) : Nat → Int32 → Int32 → Int32 → Prop
  | 0, _, _, _ => False
  | n + 1, x1, x2, s_place => ((x1 = (0 : Int32) → (K x1 x2 s_place)) ∧ (¬ (x1 = (0 : Int32)) → (((x2 = (0 : Int32) → ((((96 : Int32) ≤ x2 → (K x1 x2 s_place)) ∧ (¬ ((96 : Int32) ≤ x2) → (wpX2_passStatement (fun (r_1 : Int32) (s_place_2 : Int32) => lpX2_passAll_9 K s_length s_signs n r_1 (x2 + (1 : Int32)) s_place_2) s_length s_place s_signs))))) ∧ (¬ (x2 = (0 : Int32)) → (((s_length ≤ s_place → (K x1 x2 s_place)) ∧ (¬ (s_length ≤ s_place) → ((((96 : Int32) ≤ x2 → (K x1 x2 s_place)) ∧ (¬ ((96 : Int32) ≤ x2) → (wpX2_passStatement (fun (r_3 : Int32) (s_place_4 : Int32) => lpX2_passAll_9 K s_length s_signs n r_3 (x2 + (1 : Int32)) s_place_4) s_length s_place s_signs))))))))))))
set_option maxHeartbeats 4000000 in
set_option maxRecDepth 100000 in
theorem wX2_passAll_9 (l : Launch) (D : va_G) (cI cJ cC : ClassId) (G : Nat → Nat → Nat) (a_s : Nat → Nat) {p : Program} {e : Env} {s : State} {m : MethodId} {below : List Frame} {meth : Method} {c : Code} {A : Nat → Prop} {Q : State → Prop} (s_length : Int32) (s_signs : Nat → Int32) (K : Int32 → Int32 → Int32 → Prop) (S : CallFix p m c cX2_passAll 3 s ([.ref (a_s 0)] : List Value).toArray bg RX2) (hK : va_K D vwCl (tz cI cJ cC) s) (hDD : ∀ ws : va_W, ws.map (fun q => q.1) = [a_s 0, a_s 1] → va_D A ws) (hA : ∀ q, s.heap.size ≤ q → A q) (hE : EV G A s) (hKK : ∀ (x1 : Int32) (x2 : Int32) (s_place : Int32) (H : Heap) (locs : List Loc) (ls : Array Slot), K x1 x2 s_place → va_P D vwCl ((bX2 cI cJ cC a_s s_length s_place s_signs)) H → va_S A s.heap H locs → lv_has ls 3 [(1, .int x1)] → W p l e ({ frames := 6, cells := 0, slots := 0, locals := 134 }) s m ([.ref (a_s 0)] : List Value).toArray below meth c H locs 0 0 Q (F0 m 45 ls [])) :
    ∀ (n : Nat) (x1 : Int32) (x2 : Int32) (s_place : Int32) (H : Heap) (locs : List Loc) (ls : Array Slot), lpX2_passAll_9 K s_length s_signs n x1 x2 s_place → va_P D vwCl ((bX2 cI cJ cC a_s s_length s_place s_signs)) H → va_S A s.heap H locs → lv_has ls 3 [(0, .ref (a_s 0)), (1, .int x1), (2, .int x2)] → W p l e ({ frames := 6, cells := 0, slots := 0, locals := 134 }) s m ([.ref (a_s 0)] : List Value).toArray below meth c H locs 0 0 Q (F0 m 9 ls []) := by
  obtain ⟨hx, hb, hml, hown, ht⟩ := id S
  intro n
  induction n with
  | zero =>
    intro x1 x2 s_place H locs ls h
    exact absurd h (by simp [lpX2_passAll_9])
  | succ n ih =>
    intro x1 x2 s_place H locs ls h hP hS hl
    rw [lpX2_passAll_9] at h
    refine lv_iload_n hx hb dX2_passAll_9 rfl (lv_at hl 1 rfl) ?_
    refine lv_if_eq (tgt := 45) hx hb dX2_passAll_10 (by decide) (fun z => ?_) (fun z => ?_)
    · replace h := h.1 z
      exact hKK x1 x2 s_place _ _ _ h hP hS (lv_sub hl [1] rfl)
    · replace h := h.2 z
      refine lv_iload_n hx hb dX2_passAll_13 rfl (lv_at hl 2 rfl) ?_
      refine lv_if_eq (tgt := 28) hx hb dX2_passAll_14 (by decide) (fun z => ?_) (fun z => ?_)
      · replace h := h.1 z
        refine lv_iload_n hx hb dX2_passAll_28 rfl (lv_at hl 2 rfl) ?_
        refine lv_bipush (v := (96 : Int32)) hx hb dX2_passAll_29 (by decide) ?_
        refine lv_icmp_ge (tgt := 45) hx hb dX2_passAll_31 (by decide) (fun z => ?_) (fun z => ?_)
        · replace h := h.1 z
          exact hKK x1 x2 s_place _ _ _ h hP hS (lv_sub hl [1] rfl)
        · replace h := h.2 z
          refine lv_aload_n hx hb dX2_passAll_34 rfl (lv_at hl 0 rfl) ?_
          refine zci hA (hDD _ rfl) hS (zrunV (As := []) (rest := []) S hK hA hE hP (hDD _ rfl) hS (mX2_passStatement l D cI cJ cC G a_s _ s_length s_place s_signs _ h) kX2_passStatement ml_X2_22 ⟨rfl, rfl, by decide, by decide⟩ (q0 := 0) (ci := 2) rfl rfl rfl rfl hl.1 rfl (Nat.le_of_ble_eq_true rfl) dX2_passAll_35 ⟨Nat.zero_le _, Nat.zero_le _⟩) (fun r_1 s_place_2 H locs h hP1 hk1 hS => ?_)
          try dsimp only at h
          have hP : va_P D vwCl ((bX2 cI cJ cC a_s s_length s_place_2 s_signs)) H := hP1
          refine lv_istore_n (lv' := [(1, .int r_1), (0, .ref (a_s 0)), (2, .int x2)]) hx hb dX2_passAll_38 rfl hl (by decide) rfl (fun ls hl => ?_)
          refine lv_iinc (v := x2 + (1 : Int32)) (lv' := [(2, .int (x2 + (1 : Int32))), (1, .int r_1), (0, .ref (a_s 0))]) hx hb dX2_passAll_39 hl (k := 2) rfl (by rfl) (by decide) rfl (fun ls hl => ?_)
          refine lv_goto (tgt := 9) hx hb dX2_passAll_42 (by decide) ?_
          exact ih r_1 (x2 + (1 : Int32)) s_place_2 _ _ _ h hP hS (lv_sub hl [2, 1, 0] rfl)
      · replace h := h.2 z
        refine lv_aload_n hx hb dX2_passAll_17 rfl (lv_at hl 0 rfl) ?_
        refine va_get (D := D) (ci := 2) (v := .int s_place) (C := RX2) (T := TX2) (N := 3) hx hb ht inX2 hown hK hP 0 rfl rfl 2 (by decide) (ht _ fl_X2_19) (fun _ h9 => h9) rfl dX2_passAll_18 ?_
        refine lv_aload_n hx hb dX2_passAll_21 rfl (lv_at hl 0 rfl) ?_
        refine va_get (D := D) (ci := 2) (v := .int s_length) (C := RX2) (T := TX2) (N := 3) hx hb ht inX2 hown hK hP 0 rfl rfl 1 (by decide) (ht _ fl_X2_15) (fun _ h9 => h9) rfl dX2_passAll_22 ?_
        refine lv_icmp_ge (tgt := 45) hx hb dX2_passAll_25 (by decide) (fun z => ?_) (fun z => ?_)
        · replace h := h.1 z
          exact hKK x1 x2 s_place _ _ _ h hP hS (lv_sub hl [1] rfl)
        · replace h := h.2 z
          refine lv_iload_n hx hb dX2_passAll_28 rfl (lv_at hl 2 rfl) ?_
          refine lv_bipush (v := (96 : Int32)) hx hb dX2_passAll_29 (by decide) ?_
          refine lv_icmp_ge (tgt := 45) hx hb dX2_passAll_31 (by decide) (fun z => ?_) (fun z => ?_)
          · replace h := h.1 z
            exact hKK x1 x2 s_place _ _ _ h hP hS (lv_sub hl [1] rfl)
          · replace h := h.2 z
            refine lv_aload_n hx hb dX2_passAll_34 rfl (lv_at hl 0 rfl) ?_
            refine zci hA (hDD _ rfl) hS (zrunV (As := []) (rest := []) S hK hA hE hP (hDD _ rfl) hS (mX2_passStatement l D cI cJ cC G a_s _ s_length s_place s_signs _ h) kX2_passStatement ml_X2_22 ⟨rfl, rfl, by decide, by decide⟩ (q0 := 0) (ci := 2) rfl rfl rfl rfl hl.1 rfl (Nat.le_of_ble_eq_true rfl) dX2_passAll_35 ⟨Nat.zero_le _, Nat.zero_le _⟩) (fun r_3 s_place_4 H locs h hP1 hk1 hS => ?_)
            try dsimp only at h
            have hP : va_P D vwCl ((bX2 cI cJ cC a_s s_length s_place_4 s_signs)) H := hP1
            refine lv_istore_n (lv' := [(1, .int r_3), (0, .ref (a_s 0)), (2, .int x2)]) hx hb dX2_passAll_38 rfl hl (by decide) rfl (fun ls hl => ?_)
            refine lv_iinc (v := x2 + (1 : Int32)) (lv' := [(2, .int (x2 + (1 : Int32))), (1, .int r_3), (0, .ref (a_s 0))]) hx hb dX2_passAll_39 hl (k := 2) rfl (by rfl) (by decide) rfl (fun ls hl => ?_)
            refine lv_goto (tgt := 9) hx hb dX2_passAll_42 (by decide) ?_
            exact ih r_3 (x2 + (1 : Int32)) s_place_4 _ _ _ h hP hS (lv_sub hl [2, 1, 0] rfl)
def wpX2_passAll (post : Int32 → Int32 → Prop) (s_length : Int32) (s_signs : Nat → Int32) : Prop := ∃ n_5 : Nat, lpX2_passAll_9 (fun (x1_6 : Int32) (x2_7 : Int32) (s_place_8 : Int32) => narrow .boolean (.int x1_6) = .int x1_6 ∧ post x1_6 s_place_8) s_length s_signs n_5 (1 : Int32) (0 : Int32) (0 : Int32)
set_option maxHeartbeats 4000000 in
set_option maxRecDepth 100000 in
theorem mX2_passAll (l : Launch) (D : va_G) (cI cJ cC : ClassId) (G : Nat → Nat → Nat) (a_s : Nat → Nat) (sz : Nat) (s_length : Int32) (s_place : Int32) (s_signs : Nat → Int32) (post : Int32 → Int32 → Prop) (h : wpX2_passAll post s_length s_signs) : Met l yX2_passAll (wz yX2_passAll cX2_passAll 3 (some .boolean)) ({ frames := 6, cells := 0, slots := 0, locals := 134 }) (va_Pc [.ref (a_s 0)] (PW D (tz cI cJ cC) G ((bX2 cI cJ cC a_s s_length s_place s_signs)) sz)) (va_Qi (fun (r : Int32) (u : Int32) => post r u) (fun (u : Int32) t => va_P D vwCl ((bX2 cI cJ cC a_s s_length u s_signs)) t.heap) (va_A ((bX2 cI cJ cC a_s s_length s_place s_signs)) sz)) 0 0 (va_A ((bX2 cI cJ cC a_s s_length s_place s_signs)) sz) := by
  refine zmi (gw := fun (u : Int32) => (bX2 cI cJ cC a_s s_length u s_signs)) (plainFor_of_name (by decide)) (Nat.le_of_ble_eq_true rfl) ?_
  intro p e s m below meth c A Q ls S hK hD hA hE hP hl hret
  obtain ⟨hx, hb, hml, hown, ht⟩ := id S
  have hS : va_S A s.heap s.heap [] := va_S.rf
  have hDD : ∀ ws : va_W, ws.map (fun q => q.1) = [a_s 0, a_s 1] → va_D A ws := fun ws hw => zD hD (hw.trans rfl)
  have hl : lv_has ls 3 [(0, .ref (a_s 0))] := hl
  unfold wpX2_passAll at h
  refine lv_aload_n hx hb dX2_passAll_0 rfl (lv_at hl 0 rfl) ?_
  refine lv_iconst (v := (0 : Int32)) hx hb dX2_passAll_1 (by decide) ?_
  refine va_put (D := D) (ci := 2) (v := .int (0 : Int32)) (ty := .int) (C := RX2) (T := TX2) (N := 3) hx hb ht inX2 tyX2 tyX2_ok nmX2 hown hK hP (hDD _ rfl) hS 0 rfl rfl 2 (by decide) (ht _ fl_X2_19) (fun _ h9 => h9) rfl (by decide +kernel) rfl rfl (Nat.le_of_ble_eq_true rfl) dX2_passAll_2 (fun H locs hP _ hS => ?_)
  have hP : va_P D vwCl ((bX2 cI cJ cC a_s s_length (0 : Int32) s_signs)) H := hP
  refine lv_iconst (v := (1 : Int32)) hx hb dX2_passAll_5 (by decide) ?_
  refine lv_istore_n (lv' := [(1, .int (1 : Int32)), (0, .ref (a_s 0))]) hx hb dX2_passAll_6 rfl hl (by decide) rfl (fun ls hl => ?_)
  refine lv_iconst (v := (0 : Int32)) hx hb dX2_passAll_7 (by decide) ?_
  refine lv_istore_n (lv' := [(2, .int (0 : Int32)), (1, .int (1 : Int32)), (0, .ref (a_s 0))]) hx hb dX2_passAll_8 rfl hl (by decide) rfl (fun ls hl => ?_)
  obtain ⟨n_5, h⟩ := h
  refine wX2_passAll_9 l D cI cJ cC G a_s s_length s_signs _ S hK hDD hA hE (fun x1_6 x2_7 s_place_8 H locs ls h hP hS hl => ?_) n_5 (1 : Int32) (0 : Int32) (0 : Int32) _ _ _ h hP hS (lv_sub hl [2, 1, 0] rfl)
  try dsimp only at h
  refine lv_iload_n hx hb dX2_passAll_45 rfl (lv_at hl 0 rfl) ?_
  exact hret x1_6 s_place_8 _ _ _ _ h.1 h.2 hP hS dX2_passAll_46
def wpX2_skipSign (post : Int32 → Prop) (s_place : Int32) : Prop := post (s_place + (1 : Int32))
set_option maxHeartbeats 4000000 in
set_option maxRecDepth 100000 in
theorem mX2_skipSign (l : Launch) (D : va_G) (cI cJ cC : ClassId) (G : Nat → Nat → Nat) (a_s : Nat → Nat) (sz : Nat) (s_length : Int32) (s_place : Int32) (s_signs : Nat → Int32) (post : Int32 → Prop) (h : wpX2_skipSign post s_place) : Met l yX2_skipSign (wz yX2_skipSign cX2_skipSign 1 none) ({ frames := 0, cells := 0, slots := 0, locals := 0 }) (va_Pc [.ref (a_s 0)] (PW D (tz cI cJ cC) G ((bX2 cI cJ cC a_s s_length s_place s_signs)) sz)) (va_Qv (fun (u : Int32) => post u) (fun (u : Int32) t => va_P D vwCl ((bX2 cI cJ cC a_s s_length u s_signs)) t.heap) (va_A ((bX2 cI cJ cC a_s s_length s_place s_signs)) sz)) 0 0 (va_A ((bX2 cI cJ cC a_s s_length s_place s_signs)) sz) := by
  refine zmv (gw := fun (u : Int32) => (bX2 cI cJ cC a_s s_length u s_signs)) (plainFor_of_name (by decide)) (Nat.le_of_ble_eq_true rfl) ?_
  intro p e s m below meth c A Q ls S hK hD hA hE hP hl hret
  obtain ⟨hx, hb, hml, hown, ht⟩ := id S
  have hS : va_S A s.heap s.heap [] := va_S.rf
  have hDD : ∀ ws : va_W, ws.map (fun q => q.1) = [a_s 0, a_s 1] → va_D A ws := fun ws hw => zD hD (hw.trans rfl)
  have hl : lv_has ls 1 [(0, .ref (a_s 0))] := hl
  unfold wpX2_skipSign at h
  refine lv_aload_n hx hb dX2_skipSign_0 rfl (lv_at hl 0 rfl) ?_
  refine lv_dup hx hb dX2_skipSign_1 rfl ?_
  refine va_get (D := D) (ci := 2) (v := .int s_place) (C := RX2) (T := TX2) (N := 3) hx hb ht inX2 hown hK hP 0 rfl rfl 2 (by decide) (ht _ fl_X2_19) (fun _ h9 => h9) rfl dX2_skipSign_2 ?_
  refine lv_iconst (v := (1 : Int32)) hx hb dX2_skipSign_5 (by decide) ?_
  refine lv_iadd hx hb dX2_skipSign_6 ?_
  refine va_put (D := D) (ci := 2) (v := .int (s_place + (1 : Int32))) (ty := .int) (C := RX2) (T := TX2) (N := 3) hx hb ht inX2 tyX2 tyX2_ok nmX2 hown hK hP (hDD _ rfl) hS 0 rfl rfl 2 (by decide) (ht _ fl_X2_19) (fun _ h9 => h9) rfl (by decide +kernel) rfl rfl (Nat.le_of_ble_eq_true rfl) dX2_skipSign_7 (fun H locs hP _ hS => ?_)
  have hP : va_P D vwCl ((bX2 cI cJ cC a_s s_length (s_place + (1 : Int32)) s_signs)) H := hP
  exact hret (s_place + (1 : Int32)) _ _ _ _ h hP hS dX2_skipSign_10
def lpX2_readNumber_4 (K : Int32 → Int32 → Int32 → Prop) (x1 : Int32) (s_length : Int32) (s_signs : Nat → Int32) : Nat → Int32 → Int32 → Int32 → Prop
  | 0, _, _, _ => False
  | n + 1, x2, x3, s_place => ((x1 ≤ x3 → (K x2 x3 s_place)) ∧ (¬ (x1 ≤ x3) → (wpX2_signAt (fun (r_1 : Int32) => wpX2_skipSign (fun (s_place_2 : Int32) => lpX2_readNumber_4 K x1 s_length s_signs n ((((10 : Int32) * x2) + r_1) - (48 : Int32)) (x3 + (1 : Int32)) s_place_2) s_place) s_length s_signs s_place)))
set_option maxHeartbeats 4000000 in
set_option maxRecDepth 100000 in
theorem wX2_readNumber_4 (l : Launch) (D : va_G) (cI cJ cC : ClassId) (G : Nat → Nat → Nat) (a_s : Nat → Nat) {p : Program} {e : Env} {s : State} {m : MethodId} {below : List Frame} {meth : Method} {c : Code} {A : Nat → Prop} {Q : State → Prop} (p1 : Int32) (x1 : Int32) (s_length : Int32) (s_signs : Nat → Int32) (K : Int32 → Int32 → Int32 → Prop) (S : CallFix p m c cX2_readNumber 4 s ([.ref (a_s 0), .int p1] : List Value).toArray bg RX2) (hK : va_K D vwCl (tz cI cJ cC) s) (hDD : ∀ ws : va_W, ws.map (fun q => q.1) = [a_s 0, a_s 1] → va_D A ws) (hA : ∀ q, s.heap.size ≤ q → A q) (hE : EV G A s) (hKK : ∀ (x2 : Int32) (x3 : Int32) (s_place : Int32) (H : Heap) (locs : List Loc) (ls : Array Slot), K x2 x3 s_place → va_P D vwCl ((bX2 cI cJ cC a_s s_length s_place s_signs)) H → va_S A s.heap H locs → lv_has ls 4 [(2, .int x2)] → W p l e ({ frames := 1, cells := 0, slots := 0, locals := 21 }) s m ([.ref (a_s 0), .int p1] : List Value).toArray below meth c H locs 0 0 Q (F0 m 36 ls [])) :
    ∀ (n : Nat) (x2 : Int32) (x3 : Int32) (s_place : Int32) (H : Heap) (locs : List Loc) (ls : Array Slot), lpX2_readNumber_4 K x1 s_length s_signs n x2 x3 s_place → va_P D vwCl ((bX2 cI cJ cC a_s s_length s_place s_signs)) H → va_S A s.heap H locs → lv_has ls 4 [(0, .ref (a_s 0)), (1, .int x1), (2, .int x2), (3, .int x3)] → W p l e ({ frames := 1, cells := 0, slots := 0, locals := 21 }) s m ([.ref (a_s 0), .int p1] : List Value).toArray below meth c H locs 0 0 Q (F0 m 4 ls []) := by
  obtain ⟨hx, hb, hml, hown, ht⟩ := id S
  intro n
  induction n with
  | zero =>
    intro x2 x3 s_place H locs ls h
    exact absurd h (by simp [lpX2_readNumber_4])
  | succ n ih =>
    intro x2 x3 s_place H locs ls h hP hS hl
    rw [lpX2_readNumber_4] at h
    refine lv_iload_n hx hb dX2_readNumber_4 rfl (lv_at hl 3 rfl) ?_
    refine lv_iload_n hx hb dX2_readNumber_5 rfl (lv_at hl 1 rfl) ?_
    refine lv_icmp_ge (tgt := 36) hx hb dX2_readNumber_6 (by decide) (fun z => ?_) (fun z => ?_)
    · replace h := h.1 z
      exact hKK x2 x3 s_place _ _ _ h hP hS (lv_sub hl [2] rfl)
    · replace h := h.2 z
      refine lv_bipush (v := (10 : Int32)) hx hb dX2_readNumber_9 (by decide) ?_
      refine lv_iload_n hx hb dX2_readNumber_11 rfl (lv_at hl 2 rfl) ?_
      refine lv_imul hx hb dX2_readNumber_12 ?_
      refine lv_aload_n hx hb dX2_readNumber_13 rfl (lv_at hl 0 rfl) ?_
      refine lv_aload_n hx hb dX2_readNumber_14 rfl (lv_at hl 0 rfl) ?_
      refine va_get (D := D) (ci := 2) (v := .int s_place) (C := RX2) (T := TX2) (N := 3) hx hb ht inX2 hown hK hP 0 rfl rfl 2 (by decide) (ht _ fl_X2_19) (fun _ h9 => h9) rfl dX2_readNumber_15 ?_
      refine zci hA (hDD _ rfl) hS (zrunV (As := [.int s_place]) (rest := [.int ((10 : Int32) * x2)]) S hK hA hE hP (hDD _ rfl) hS (mX2_signAt l D cI cJ cC G a_s _ s_length s_place s_signs s_place _ h) kX2_signAt ml_X2_26 ⟨rfl, rfl, by decide, by decide⟩ (q0 := 0) (ci := 2) rfl rfl rfl rfl hl.1 rfl (Nat.le_of_ble_eq_true rfl) dX2_readNumber_18 ⟨Nat.zero_le _, Nat.zero_le _⟩) (fun r_1 u H locs h hP1 hk1 hS => ?_)
      try dsimp only at h
      have hP : va_P D vwCl ((bX2 cI cJ cC a_s s_length s_place s_signs)) H := hP1
      refine lv_iadd hx hb dX2_readNumber_21 ?_
      refine lv_bipush (v := (48 : Int32)) hx hb dX2_readNumber_22 (by decide) ?_
      refine lv_isub hx hb dX2_readNumber_24 ?_
      refine lv_istore_n (lv' := [(2, .int ((((10 : Int32) * x2) + r_1) - (48 : Int32))), (0, .ref (a_s 0)), (1, .int x1), (3, .int x3)]) hx hb dX2_readNumber_25 rfl hl (by decide) rfl (fun ls hl => ?_)
      refine lv_aload_n hx hb dX2_readNumber_26 rfl (lv_at hl 1 rfl) ?_
      refine zcv hA (hDD _ rfl) hS (zrunV (As := []) (rest := []) S hK hA hE hP (hDD _ rfl) hS (mX2_skipSign l D cI cJ cC G a_s _ s_length s_place s_signs _ h) kX2_skipSign ml_X2_69 ⟨rfl, rfl, by decide, by decide⟩ (q0 := 0) (ci := 2) rfl rfl rfl rfl hl.1 rfl (Nat.le_of_ble_eq_true rfl) dX2_readNumber_27 ⟨Nat.zero_le _, Nat.zero_le _⟩) (fun s_place_2 H locs h hP1 hk1 hS => ?_)
      try dsimp only at h
      have hP : va_P D vwCl ((bX2 cI cJ cC a_s s_length s_place_2 s_signs)) H := hP1
      refine lv_iinc (v := x3 + (1 : Int32)) (lv' := [(3, .int (x3 + (1 : Int32))), (2, .int ((((10 : Int32) * x2) + r_1) - (48 : Int32))), (0, .ref (a_s 0)), (1, .int x1)]) hx hb dX2_readNumber_30 hl (k := 3) rfl (by rfl) (by decide) rfl (fun ls hl => ?_)
      refine lv_goto (tgt := 4) hx hb dX2_readNumber_33 (by decide) ?_
      exact ih ((((10 : Int32) * x2) + r_1) - (48 : Int32)) (x3 + (1 : Int32)) s_place_2 _ _ _ h hP hS (lv_sub hl [2, 3, 1, 0] rfl)
def wpX2_readNumber (post : Int32 → Int32 → Prop) (s_length : Int32) (s_place : Int32) (s_signs : Nat → Int32) (p1 : Int32) : Prop := ∃ n_3 : Nat, lpX2_readNumber_4 (fun (x2_4 : Int32) (x3_5 : Int32) (s_place_6 : Int32) => post x2_4 s_place_6) p1 s_length s_signs n_3 (0 : Int32) (0 : Int32) s_place
set_option maxHeartbeats 4000000 in
set_option maxRecDepth 100000 in
theorem mX2_readNumber (l : Launch) (D : va_G) (cI cJ cC : ClassId) (G : Nat → Nat → Nat) (a_s : Nat → Nat) (sz : Nat) (s_length : Int32) (s_place : Int32) (s_signs : Nat → Int32) (p1 : Int32) (post : Int32 → Int32 → Prop) (h : wpX2_readNumber post s_length s_place s_signs p1) : Met l yX2_readNumber (wz yX2_readNumber cX2_readNumber 4 (some .int)) ({ frames := 1, cells := 0, slots := 0, locals := 21 }) (va_Pc [.ref (a_s 0), .int p1] (PW D (tz cI cJ cC) G ((bX2 cI cJ cC a_s s_length s_place s_signs)) sz)) (va_Qi (fun (r : Int32) (u : Int32) => post r u) (fun (u : Int32) t => va_P D vwCl ((bX2 cI cJ cC a_s s_length u s_signs)) t.heap) (va_A ((bX2 cI cJ cC a_s s_length s_place s_signs)) sz)) 0 0 (va_A ((bX2 cI cJ cC a_s s_length s_place s_signs)) sz) := by
  refine zmi (gw := fun (u : Int32) => (bX2 cI cJ cC a_s s_length u s_signs)) (plainFor_of_name (by decide)) (Nat.le_of_ble_eq_true rfl) ?_
  intro p e s m below meth c A Q ls S hK hD hA hE hP hl hret
  obtain ⟨hx, hb, hml, hown, ht⟩ := id S
  have hS : va_S A s.heap s.heap [] := va_S.rf
  have hDD : ∀ ws : va_W, ws.map (fun q => q.1) = [a_s 0, a_s 1] → va_D A ws := fun ws hw => zD hD (hw.trans rfl)
  have hl : lv_has ls 4 [(0, .ref (a_s 0)), (1, .int p1)] := hl
  unfold wpX2_readNumber at h
  refine lv_iconst (v := (0 : Int32)) hx hb dX2_readNumber_0 (by decide) ?_
  refine lv_istore_n (lv' := [(2, .int (0 : Int32)), (0, .ref (a_s 0)), (1, .int p1)]) hx hb dX2_readNumber_1 rfl hl (by decide) rfl (fun ls hl => ?_)
  refine lv_iconst (v := (0 : Int32)) hx hb dX2_readNumber_2 (by decide) ?_
  refine lv_istore_n (lv' := [(3, .int (0 : Int32)), (2, .int (0 : Int32)), (0, .ref (a_s 0)), (1, .int p1)]) hx hb dX2_readNumber_3 rfl hl (by decide) rfl (fun ls hl => ?_)
  obtain ⟨n_3, h⟩ := h
  refine wX2_readNumber_4 l D cI cJ cC G a_s p1 p1 s_length s_signs _ S hK hDD hA hE (fun x2_4 x3_5 s_place_6 H locs ls h hP hS hl => ?_) n_3 (0 : Int32) (0 : Int32) s_place _ _ _ h hP hS (lv_sub hl [2, 3, 1, 0] rfl)
  try dsimp only at h
  refine lv_iload_n hx hb dX2_readNumber_36 rfl (lv_at hl 0 rfl) ?_
  exact hret x2_4 s_place_6 _ _ _ _ rfl h hP hS dX2_readNumber_37
def wpX4_isOut (post : Int32 → Prop) (p0 : Int32) (p1 : Int32) : Prop := vp_in p0 4 ∧ (((p1 < (([6, 1, 0, 0] : List Int32).getD p0.toNatClampNeg 0) → (post (1 : Int32))) ∧ (¬ (p1 < (([6, 1, 0, 0] : List Int32).getD p0.toNatClampNeg 0)) → (vp_in p0 4 ∧ (((p1 ≤ (([24, 4, 47, 5] : List Int32).getD p0.toNatClampNeg 0) → (post (0 : Int32))) ∧ (¬ (p1 ≤ (([24, 4, 47, 5] : List Int32).getD p0.toNatClampNeg 0)) → (post (1 : Int32)))))))))
set_option maxHeartbeats 4000000 in
set_option maxRecDepth 100000 in
theorem mX4_isOut (l : Launch) (D : va_G) (cI cJ cC : ClassId) (G : Nat → Nat → Nat) (sz : Nat) (p0 : Int32) (p1 : Int32) (post : Int32 → Prop) (h : wpX4_isOut post p0 p1) : Met l yX4_isOut (wz yX4_isOut cX4_isOut 2 (some .boolean)) ({ frames := 0, cells := 0, slots := 0, locals := 0 }) (va_Pc [.int p0, .int p1] (PW D (tz cI cJ cC) G ([]) sz)) (va_Qi (fun (r : Int32) (u : Unit) => post r ) (fun (u : Unit) t => va_P D vwCl ([]) t.heap) (va_A ([]) sz)) 0 0 (va_A ([]) sz) := by
  refine zmi (gw := fun (u : Unit) => []) (plainFor_of_name (by decide)) (Nat.le_of_ble_eq_true rfl) ?_
  intro p e s m below meth c A Q ls S hK hD hA hE hP hl hret
  obtain ⟨hx, hb, hml, hown, ht⟩ := id S
  have hS : va_S A s.heap s.heap [] := va_S.rf
  have hDD : ∀ ws : va_W, ws.map (fun q => q.1) = [] → va_D A ws := fun ws hw => zD hD (hw.trans rfl)
  have hl : lv_has ls 2 [(0, .int p0), (1, .int p1)] := hl
  unfold wpX4_isOut at h
  refine lv_iload_n hx hb dX4_isOut_0 rfl (lv_at hl 1 rfl) ?_
  refine va_gets (v := .ref (G 0 0)) hx hb (hE.2.1 0 _ rfl).1 hS hown (ht _ fl_X4_82) (fun _ h9 => h9) dX4_isOut_1 ?_
  refine lv_iload_n hx hb dX4_isOut_4 rfl (lv_at hl 0 rfl) ?_
  obtain ⟨hin, h⟩ := h
  refine va_ti (v := .int (([6, 1, 0, 0] : List Int32).getD p0.toNatClampNeg 0)) hx hb (hE.2.1 0 _ rfl).2 hS hin rfl dX4_isOut_5 ?_
  refine lv_icmp_lt (tgt := 18) hx hb dX4_isOut_6 (by decide) (fun z => ?_) (fun z => ?_)
  · replace h := h.1 z
    refine lv_iconst (v := (1 : Int32)) hx hb dX4_isOut_18 (by decide) ?_
    refine lv_goto (tgt := 23) hx hb dX4_isOut_19 (by decide) ?_
    exact hret (1 : Int32) () _ _ _ _ rfl h hP hS dX4_isOut_23
  · replace h := h.2 z
    refine lv_iload_n hx hb dX4_isOut_9 rfl (lv_at hl 1 rfl) ?_
    refine va_gets (v := .ref (G 0 1)) hx hb (hE.2.1 1 _ rfl).1 hS hown (ht _ fl_X4_269) (fun _ h9 => h9) dX4_isOut_10 ?_
    refine lv_iload_n hx hb dX4_isOut_13 rfl (lv_at hl 0 rfl) ?_
    obtain ⟨hin, h⟩ := h
    refine va_ti (v := .int (([24, 4, 47, 5] : List Int32).getD p0.toNatClampNeg 0)) hx hb (hE.2.1 1 _ rfl).2 hS hin rfl dX4_isOut_14 ?_
    refine lv_icmp_le (tgt := 22) hx hb dX4_isOut_15 (by decide) (fun z => ?_) (fun z => ?_)
    · replace h := h.1 z
      refine lv_iconst (v := (0 : Int32)) hx hb dX4_isOut_22 (by decide) ?_
      exact hret (0 : Int32) () _ _ _ _ rfl h hP hS dX4_isOut_23
    · replace h := h.2 z
      refine lv_iconst (v := (1 : Int32)) hx hb dX4_isOut_18 (by decide) ?_
      refine lv_goto (tgt := 23) hx hb dX4_isOut_19 (by decide) ?_
      exact hret (1 : Int32) () _ _ _ _ rfl h hP hS dX4_isOut_23
def wpX2_readDoor (post : Int32 → Int32 → Int32 → Int32 → Int64 → Int32 → (Nat → Int64) → (Nat → Int32) → (Nat → Int64) → Prop) (s_length : Int32) (s_place : Int32) (s_signs : Nat → Int32) (w_space : Int32) (w_beam : Int32) (w_door : Int32) (w_law : Int32) (w_used : Int32) (w_total : Int64) (w_open : Int32) (w_weights : Nat → Int64) (w_woods : Nat → Int32) (w_sums : Nat → Int64) : Prop := wpX2_readNumber (fun (r_1 : Int32) (s_place_2 : Int32) => wpX2_skipSign (fun (s_place_3 : Int32) => wpX4_isOut (fun (r_4 : Int32) => ((r_4 = (0 : Int32) → (wpX3_beginAnew (fun (w_used_5 : Int32) (w_total_6 : Int64) (w_open_7 : Int32) (w_weights_8 : Nat → Int64) (w_woods_9 : Nat → Int32) (w_sums_10 : Nat → Int64) => post (1 : Int32) s_place_3 r_1 w_used_5 w_total_6 w_open_7 w_weights_8 w_woods_9 w_sums_10) w_space w_beam r_1 w_law w_weights w_woods w_sums)) ∧ (¬ (r_4 = (0 : Int32)) → (post (0 : Int32) s_place_3 w_door w_used w_total w_open w_weights w_woods w_sums)))) (2 : Int32) r_1) s_place_2) s_length s_place s_signs (2 : Int32)
set_option maxHeartbeats 4000000 in
set_option maxRecDepth 100000 in
theorem mX2_readDoor (l : Launch) (D : va_G) (cI cJ cC : ClassId) (G : Nat → Nat → Nat) (a_s : Nat → Nat) (a_w : Nat → Nat) (sz : Nat) (s_length : Int32) (s_place : Int32) (s_signs : Nat → Int32) (w_space : Int32) (w_beam : Int32) (w_door : Int32) (w_law : Int32) (w_used : Int32) (w_pipes : Int32) (w_drilled : Int64) (w_total : Int64) (w_open : Int32) (w_pipeInches : Nat → Int32) (w_pipeChances : Nat → Int32) (w_weights : Nat → Int64) (w_woods : Nat → Int32) (w_sums : Nat → Int64) (post : Int32 → Int32 → Int32 → Int32 → Int64 → Int32 → (Nat → Int64) → (Nat → Int32) → (Nat → Int64) → Prop) (h : wpX2_readDoor post s_length s_place s_signs w_space w_beam w_door w_law w_used w_total w_open w_weights w_woods w_sums) : Met l yX2_readDoor (wz yX2_readDoor cX2_readDoor 3 (some .boolean)) ({ frames := 4, cells := 0, slots := 0, locals := 87 }) (va_Pc [.ref (a_s 0), .ref (a_w 0)] (PW D (tz cI cJ cC) G ((bX2 cI cJ cC a_s s_length s_place s_signs) ++ (bX3 cI cJ cC a_w w_space w_beam w_door w_law w_used w_pipes w_drilled w_total w_open w_pipeInches w_pipeChances w_weights w_woods w_sums)) sz)) (va_Qi (fun (r : Int32) (u : Int32 × Int32 × Int32 × Int64 × Int32 × (Nat → Int64) × (Nat → Int32) × (Nat → Int64)) => post r u.1 u.2.1 u.2.2.1 u.2.2.2.1 u.2.2.2.2.1 u.2.2.2.2.2.1 u.2.2.2.2.2.2.1 u.2.2.2.2.2.2.2) (fun (u : Int32 × Int32 × Int32 × Int64 × Int32 × (Nat → Int64) × (Nat → Int32) × (Nat → Int64)) t => va_P D vwCl ((bX2 cI cJ cC a_s s_length u.1 s_signs) ++ (bX3 cI cJ cC a_w w_space w_beam u.2.1 w_law u.2.2.1 w_pipes w_drilled u.2.2.2.1 u.2.2.2.2.1 w_pipeInches w_pipeChances u.2.2.2.2.2.1 u.2.2.2.2.2.2.1 u.2.2.2.2.2.2.2)) t.heap) (va_A ((bX2 cI cJ cC a_s s_length s_place s_signs) ++ (bX3 cI cJ cC a_w w_space w_beam w_door w_law w_used w_pipes w_drilled w_total w_open w_pipeInches w_pipeChances w_weights w_woods w_sums)) sz)) 0 0 (va_A ((bX2 cI cJ cC a_s s_length s_place s_signs) ++ (bX3 cI cJ cC a_w w_space w_beam w_door w_law w_used w_pipes w_drilled w_total w_open w_pipeInches w_pipeChances w_weights w_woods w_sums)) sz) := by
  refine zmi (gw := fun (u : Int32 × Int32 × Int32 × Int64 × Int32 × (Nat → Int64) × (Nat → Int32) × (Nat → Int64)) => (bX2 cI cJ cC a_s s_length u.1 s_signs) ++ (bX3 cI cJ cC a_w w_space w_beam u.2.1 w_law u.2.2.1 w_pipes w_drilled u.2.2.2.1 u.2.2.2.2.1 w_pipeInches w_pipeChances u.2.2.2.2.2.1 u.2.2.2.2.2.2.1 u.2.2.2.2.2.2.2)) (plainFor_of_name (by decide)) (Nat.le_of_ble_eq_true rfl) ?_
  intro p e s m below meth c A Q ls S hK hD hA hE hP hl hret
  obtain ⟨hx, hb, hml, hown, ht⟩ := id S
  have hS : va_S A s.heap s.heap [] := va_S.rf
  have hDD : ∀ ws : va_W, ws.map (fun q => q.1) = [a_s 0, a_s 1, a_w 0, a_w 1, a_w 2, a_w 3, a_w 4, a_w 5] → va_D A ws := fun ws hw => zD hD (hw.trans rfl)
  have hl : lv_has ls 3 [(0, .ref (a_s 0)), (1, .ref (a_w 0))] := hl
  unfold wpX2_readDoor at h
  refine lv_aload_n hx hb dX2_readDoor_0 rfl (lv_at hl 0 rfl) ?_
  refine lv_iconst (v := (2 : Int32)) hx hb dX2_readDoor_1 (by decide) ?_
  have hPw : va_P D vwCl ((bX2 cI cJ cC a_s s_length s_place s_signs)) _ := hP.sub [0, 1] rfl
  have hDw : va_D A ((bX2 cI cJ cC a_s s_length s_place s_signs)) := (hDD _ rfl).sub (ws := (bX2 cI cJ cC a_s s_length s_place s_signs) ++ (bX3 cI cJ cC a_w w_space w_beam w_door w_law w_used w_pipes w_drilled w_total w_open w_pipeInches w_pipeChances w_weights w_woods w_sums)) [0, 1] (by decide) rfl
  refine zci hA hDw hS (zrunV (As := [.int (2 : Int32)]) (rest := []) S hK hA hE hPw hDw hS (mX2_readNumber l D cI cJ cC G a_s _ s_length s_place s_signs (2 : Int32) _ h) kX2_readNumber ml_X2_91 ⟨rfl, rfl, by decide, by decide⟩ (q0 := 0) (ci := 2) rfl rfl rfl rfl hl.1 rfl (Nat.le_of_ble_eq_true rfl) dX2_readDoor_2 ⟨Nat.zero_le _, Nat.zero_le _⟩) (fun r_1 s_place_2 H locs h hP1 hk1 hS => ?_)
  try dsimp only at h
  have hP : va_P D vwCl ((bX2 cI cJ cC a_s s_length s_place_2 s_signs) ++ (bX3 cI cJ cC a_w w_space w_beam w_door w_law w_used w_pipes w_drilled w_total w_open w_pipeInches w_pipeChances w_weights w_woods w_sums)) H := zMerge hP (hDD _ rfl) [0, 1] rfl rfl hk1 hP1
  refine lv_istore_n (lv' := [(2, .int r_1), (0, .ref (a_s 0)), (1, .ref (a_w 0))]) hx hb dX2_readDoor_5 rfl hl (by decide) rfl (fun ls hl => ?_)
  refine lv_aload_n hx hb dX2_readDoor_6 rfl (lv_at hl 1 rfl) ?_
  have hPw : va_P D vwCl ((bX2 cI cJ cC a_s s_length s_place_2 s_signs)) _ := hP.sub [0, 1] rfl
  have hDw : va_D A ((bX2 cI cJ cC a_s s_length s_place_2 s_signs)) := (hDD _ rfl).sub (ws := (bX2 cI cJ cC a_s s_length s_place_2 s_signs) ++ (bX3 cI cJ cC a_w w_space w_beam w_door w_law w_used w_pipes w_drilled w_total w_open w_pipeInches w_pipeChances w_weights w_woods w_sums)) [0, 1] (by decide) rfl
  refine zcv hA hDw hS (zrunV (As := []) (rest := []) S hK hA hE hPw hDw hS (mX2_skipSign l D cI cJ cC G a_s _ s_length s_place_2 s_signs _ h) kX2_skipSign ml_X2_69 ⟨rfl, rfl, by decide, by decide⟩ (q0 := 0) (ci := 2) rfl rfl rfl rfl hl.1 rfl (Nat.le_of_ble_eq_true rfl) dX2_readDoor_7 ⟨Nat.zero_le _, Nat.zero_le _⟩) (fun s_place_3 H locs h hP1 hk1 hS => ?_)
  try dsimp only at h
  have hP : va_P D vwCl ((bX2 cI cJ cC a_s s_length s_place_3 s_signs) ++ (bX3 cI cJ cC a_w w_space w_beam w_door w_law w_used w_pipes w_drilled w_total w_open w_pipeInches w_pipeChances w_weights w_woods w_sums)) H := zMerge hP (hDD _ rfl) [0, 1] rfl rfl hk1 hP1
  refine lv_iconst (v := (2 : Int32)) hx hb dX2_readDoor_10 (by decide) ?_
  refine lv_iload_n hx hb dX2_readDoor_11 rfl (lv_at hl 0 rfl) ?_
  refine zci hA zD0 hS (zrunN (As := [.int (2 : Int32), .int r_1]) (rest := []) S hK hA hE zP0 zD0 hS (mX4_isOut l D cI cJ cC G _ (2 : Int32) r_1 _ h) kX4_isOut 4 rfl ⟨rfl, rfl, by decide, by decide⟩ rfl hl.1 rfl (Nat.le_of_ble_eq_true rfl) dX2_readDoor_12 ⟨Nat.zero_le _, Nat.zero_le _⟩) (fun r_4 u H locs h hP1 hk1 hS => ?_)
  try dsimp only at h
  have hP : va_P D vwCl ((bX2 cI cJ cC a_s s_length s_place_3 s_signs) ++ (bX3 cI cJ cC a_w w_space w_beam w_door w_law w_used w_pipes w_drilled w_total w_open w_pipeInches w_pipeChances w_weights w_woods w_sums)) H := zKeep hP hk1
  refine lv_if_eq (tgt := 20) hx hb dX2_readDoor_15 (by decide) (fun z => ?_) (fun z => ?_)
  · replace h := h.1 z
    refine lv_aload_n hx hb dX2_readDoor_20 rfl (lv_at hl 2 rfl) ?_
    refine lv_iload_n hx hb dX2_readDoor_21 rfl (lv_at hl 0 rfl) ?_
    refine va_put (D := D) (ci := 3) (v := .int r_1) (ty := .int) (C := RX3) (T := TX3) (N := 14) hx hb ht inX3 tyX3 tyX3_ok nmX3 hown hK hP (hDD _ rfl) hS 2 rfl rfl 2 (by decide) (ht _ fl_X2_112) (fun _ h9 => h9) rfl (by decide +kernel) rfl rfl (Nat.le_of_ble_eq_true rfl) dX2_readDoor_22 (fun H locs hP _ hS => ?_)
    have hP : va_P D vwCl ((bX2 cI cJ cC a_s s_length s_place_3 s_signs) ++ (bX3 cI cJ cC a_w w_space w_beam r_1 w_law w_used w_pipes w_drilled w_total w_open w_pipeInches w_pipeChances w_weights w_woods w_sums)) H := hP
    refine lv_aload_n hx hb dX2_readDoor_25 rfl (lv_at hl 2 rfl) ?_
    have hPw : va_P D vwCl ((bX3 cI cJ cC a_w w_space w_beam r_1 w_law w_used w_pipes w_drilled w_total w_open w_pipeInches w_pipeChances w_weights w_woods w_sums)) _ := hP.sub [2, 3, 4, 5, 6, 7] rfl
    have hDw : va_D A ((bX3 cI cJ cC a_w w_space w_beam r_1 w_law w_used w_pipes w_drilled w_total w_open w_pipeInches w_pipeChances w_weights w_woods w_sums)) := (hDD _ rfl).sub (ws := (bX2 cI cJ cC a_s s_length s_place_3 s_signs) ++ (bX3 cI cJ cC a_w w_space w_beam r_1 w_law w_used w_pipes w_drilled w_total w_open w_pipeInches w_pipeChances w_weights w_woods w_sums)) [2, 3, 4, 5, 6, 7] (by decide) rfl
    refine zcv hA hDw hS (zrunV (As := []) (rest := []) S hK hA hE hPw hDw hS (mX3_beginAnew l D cI cJ cC G a_w _ w_space w_beam r_1 w_law w_used w_pipes w_drilled w_total w_open w_pipeInches w_pipeChances w_weights w_woods w_sums _ h) kX3_beginAnew ml_X2_106 ⟨rfl, rfl, by decide, by decide⟩ (q0 := 0) (ci := 3) rfl rfl rfl rfl hl.1 rfl (Nat.le_of_ble_eq_true rfl) dX2_readDoor_26 ⟨Nat.zero_le _, Nat.zero_le _⟩) (fun u H locs h hP1 hk1 hS => ?_)
    obtain ⟨w_used_5, w_total_6, w_open_7, w_weights_8, w_woods_9, w_sums_10⟩ := u
    dsimp only at h
    have hP : va_P D vwCl ((bX2 cI cJ cC a_s s_length s_place_3 s_signs) ++ (bX3 cI cJ cC a_w w_space w_beam r_1 w_law w_used_5 w_pipes w_drilled w_total_6 w_open_7 w_pipeInches w_pipeChances w_weights_8 w_woods_9 w_sums_10)) H := zMerge hP (hDD _ rfl) [2, 3, 4, 5, 6, 7] rfl rfl hk1 hP1
    refine lv_iconst (v := (1 : Int32)) hx hb dX2_readDoor_29 (by decide) ?_
    exact hret (1 : Int32) (s_place_3, r_1, w_used_5, w_total_6, w_open_7, w_weights_8, w_woods_9, w_sums_10) _ _ _ _ rfl h hP hS dX2_readDoor_30
  · replace h := h.2 z
    refine lv_iconst (v := (0 : Int32)) hx hb dX2_readDoor_18 (by decide) ?_
    exact hret (0 : Int32) (s_place_3, w_door, w_used, w_total, w_open, w_weights, w_woods, w_sums) _ _ _ _ rfl h hP hS dX2_readDoor_19
def wpX2_readLaw (post : Int32 → Int32 → Int32 → Int32 → Int64 → Int32 → (Nat → Int64) → (Nat → Int32) → (Nat → Int64) → Prop) (s_length : Int32) (s_place : Int32) (s_signs : Nat → Int32) (w_space : Int32) (w_beam : Int32) (w_door : Int32) (w_weights : Nat → Int64) (w_woods : Nat → Int32) (w_sums : Nat → Int64) : Prop := wpX2_signAt (fun (r_1 : Int32) => wpJ0_indexOf_0f7a4 (fun (r_2 : Int32) => wpX2_skipSign (fun (s_place_3 : Int32) => wpX2_skipSign (fun (s_place_4 : Int32) => wpX3_beginAnew (fun (w_used_5 : Int32) (w_total_6 : Int64) (w_open_7 : Int32) (w_weights_8 : Nat → Int64) (w_woods_9 : Nat → Int32) (w_sums_10 : Nat → Int64) => post (1 : Int32) s_place_4 r_2 w_used_5 w_total_6 w_open_7 w_weights_8 w_woods_9 w_sums_10) w_space w_beam w_door r_2 w_weights w_woods w_sums) s_place_3) s_place) 7 r_1) s_length s_signs s_place
set_option maxHeartbeats 4000000 in
set_option maxRecDepth 100000 in
theorem mX2_readLaw (l : Launch) (D : va_G) (cI cJ cC : ClassId) (G : Nat → Nat → Nat) (a_s : Nat → Nat) (a_w : Nat → Nat) (sz : Nat) (s_length : Int32) (s_place : Int32) (s_signs : Nat → Int32) (w_space : Int32) (w_beam : Int32) (w_door : Int32) (w_law : Int32) (w_used : Int32) (w_pipes : Int32) (w_drilled : Int64) (w_total : Int64) (w_open : Int32) (w_pipeInches : Nat → Int32) (w_pipeChances : Nat → Int32) (w_weights : Nat → Int64) (w_woods : Nat → Int32) (w_sums : Nat → Int64) (post : Int32 → Int32 → Int32 → Int32 → Int64 → Int32 → (Nat → Int64) → (Nat → Int32) → (Nat → Int64) → Prop) (h : wpX2_readLaw post s_length s_place s_signs w_space w_beam w_door w_weights w_woods w_sums) : Met l yX2_readLaw (wz yX2_readLaw cX2_readLaw 3 (some .boolean)) ({ frames := 4, cells := 0, slots := 0, locals := 91 }) (va_Pc [.ref (a_s 0), .ref (a_w 0)] (PW D (tz cI cJ cC) G ((bX2 cI cJ cC a_s s_length s_place s_signs) ++ (bX3 cI cJ cC a_w w_space w_beam w_door w_law w_used w_pipes w_drilled w_total w_open w_pipeInches w_pipeChances w_weights w_woods w_sums)) sz)) (va_Qi (fun (r : Int32) (u : Int32 × Int32 × Int32 × Int64 × Int32 × (Nat → Int64) × (Nat → Int32) × (Nat → Int64)) => post r u.1 u.2.1 u.2.2.1 u.2.2.2.1 u.2.2.2.2.1 u.2.2.2.2.2.1 u.2.2.2.2.2.2.1 u.2.2.2.2.2.2.2) (fun (u : Int32 × Int32 × Int32 × Int64 × Int32 × (Nat → Int64) × (Nat → Int32) × (Nat → Int64)) t => va_P D vwCl ((bX2 cI cJ cC a_s s_length u.1 s_signs) ++ (bX3 cI cJ cC a_w w_space w_beam w_door u.2.1 u.2.2.1 w_pipes w_drilled u.2.2.2.1 u.2.2.2.2.1 w_pipeInches w_pipeChances u.2.2.2.2.2.1 u.2.2.2.2.2.2.1 u.2.2.2.2.2.2.2)) t.heap) (va_A ((bX2 cI cJ cC a_s s_length s_place s_signs) ++ (bX3 cI cJ cC a_w w_space w_beam w_door w_law w_used w_pipes w_drilled w_total w_open w_pipeInches w_pipeChances w_weights w_woods w_sums)) sz)) 0 0 (va_A ((bX2 cI cJ cC a_s s_length s_place s_signs) ++ (bX3 cI cJ cC a_w w_space w_beam w_door w_law w_used w_pipes w_drilled w_total w_open w_pipeInches w_pipeChances w_weights w_woods w_sums)) sz) := by
  refine zmi (gw := fun (u : Int32 × Int32 × Int32 × Int64 × Int32 × (Nat → Int64) × (Nat → Int32) × (Nat → Int64)) => (bX2 cI cJ cC a_s s_length u.1 s_signs) ++ (bX3 cI cJ cC a_w w_space w_beam w_door u.2.1 u.2.2.1 w_pipes w_drilled u.2.2.2.1 u.2.2.2.2.1 w_pipeInches w_pipeChances u.2.2.2.2.2.1 u.2.2.2.2.2.2.1 u.2.2.2.2.2.2.2)) (plainFor_of_name (by decide)) (Nat.le_of_ble_eq_true rfl) ?_
  intro p e s m below meth c A Q ls S hK hD hA hE hP hl hret
  obtain ⟨hx, hb, hml, hown, ht⟩ := id S
  have hS : va_S A s.heap s.heap [] := va_S.rf
  have hDD : ∀ ws : va_W, ws.map (fun q => q.1) = [a_s 0, a_s 1, a_w 0, a_w 1, a_w 2, a_w 3, a_w 4, a_w 5] → va_D A ws := fun ws hw => zD hD (hw.trans rfl)
  have hl : lv_has ls 3 [(0, .ref (a_s 0)), (1, .ref (a_w 0))] := hl
  unfold wpX2_readLaw at h
  refine va_ldcS hx hb hown (hE.2.2.2.2.2 7 _ rfl) dX2_readLaw_0 ?_
  refine lv_aload_n hx hb dX2_readLaw_2 rfl (lv_at hl 0 rfl) ?_
  refine lv_aload_n hx hb dX2_readLaw_3 rfl (lv_at hl 0 rfl) ?_
  refine va_get (D := D) (ci := 2) (v := .int s_place) (C := RX2) (T := TX2) (N := 3) hx hb ht inX2 hown hK hP 0 rfl rfl 2 (by decide) (ht _ fl_X2_19) (fun _ h9 => h9) rfl dX2_readLaw_4 ?_
  have hPw : va_P D vwCl ((bX2 cI cJ cC a_s s_length s_place s_signs)) _ := hP.sub [0, 1] rfl
  have hDw : va_D A ((bX2 cI cJ cC a_s s_length s_place s_signs)) := (hDD _ rfl).sub (ws := (bX2 cI cJ cC a_s s_length s_place s_signs) ++ (bX3 cI cJ cC a_w w_space w_beam w_door w_law w_used w_pipes w_drilled w_total w_open w_pipeInches w_pipeChances w_weights w_woods w_sums)) [0, 1] (by decide) rfl
  refine zci hA hDw hS (zrunV (As := [.int s_place]) (rest := [.ref (G 1 7)]) S hK hA hE hPw hDw hS (mX2_signAt l D cI cJ cC G a_s _ s_length s_place s_signs s_place _ h) kX2_signAt ml_X2_26 ⟨rfl, rfl, by decide, by decide⟩ (q0 := 0) (ci := 2) rfl rfl rfl rfl hl.1 rfl (Nat.le_of_ble_eq_true rfl) dX2_readLaw_7 ⟨Nat.zero_le _, Nat.zero_le _⟩) (fun r_1 u H locs h hP1 hk1 hS => ?_)
  try dsimp only at h
  have hP : va_P D vwCl ((bX2 cI cJ cC a_s s_length s_place s_signs) ++ (bX3 cI cJ cC a_w w_space w_beam w_door w_law w_used w_pipes w_drilled w_total w_open w_pipeInches w_pipeChances w_weights w_woods w_sums)) H := zMerge hP (hDD _ rfl) [0, 1] rfl rfl hk1 hP1
  refine zci hA zD0 hS (zrunR (As := [.int r_1]) (rest := []) S hK hA hE zP0 zD0 hS (mJ0_indexOf_0f7a4 l D cI cJ cC G _ 7 r_1 _ h) kJ0_indexOf_0f7a4 ml_X2_65 ⟨rfl, rfl, by decide, by decide⟩ (vk_recv hE.2.2.2.2.1 (by decide) hS) rfl hl.1 rfl (Nat.le_of_ble_eq_true rfl) dX2_readLaw_10 ⟨Nat.zero_le _, Nat.zero_le _⟩) (fun r_2 u H locs h hP1 hk1 hS => ?_)
  try dsimp only at h
  have hP : va_P D vwCl ((bX2 cI cJ cC a_s s_length s_place s_signs) ++ (bX3 cI cJ cC a_w w_space w_beam w_door w_law w_used w_pipes w_drilled w_total w_open w_pipeInches w_pipeChances w_weights w_woods w_sums)) H := zKeep hP hk1
  refine lv_istore_n (lv' := [(2, .int r_2), (0, .ref (a_s 0)), (1, .ref (a_w 0))]) hx hb dX2_readLaw_13 rfl hl (by decide) rfl (fun ls hl => ?_)
  refine lv_aload_n hx hb dX2_readLaw_14 rfl (lv_at hl 1 rfl) ?_
  have hPw : va_P D vwCl ((bX2 cI cJ cC a_s s_length s_place s_signs)) _ := hP.sub [0, 1] rfl
  have hDw : va_D A ((bX2 cI cJ cC a_s s_length s_place s_signs)) := (hDD _ rfl).sub (ws := (bX2 cI cJ cC a_s s_length s_place s_signs) ++ (bX3 cI cJ cC a_w w_space w_beam w_door w_law w_used w_pipes w_drilled w_total w_open w_pipeInches w_pipeChances w_weights w_woods w_sums)) [0, 1] (by decide) rfl
  refine zcv hA hDw hS (zrunV (As := []) (rest := []) S hK hA hE hPw hDw hS (mX2_skipSign l D cI cJ cC G a_s _ s_length s_place s_signs _ h) kX2_skipSign ml_X2_69 ⟨rfl, rfl, by decide, by decide⟩ (q0 := 0) (ci := 2) rfl rfl rfl rfl hl.1 rfl (Nat.le_of_ble_eq_true rfl) dX2_readLaw_15 ⟨Nat.zero_le _, Nat.zero_le _⟩) (fun s_place_3 H locs h hP1 hk1 hS => ?_)
  try dsimp only at h
  have hP : va_P D vwCl ((bX2 cI cJ cC a_s s_length s_place_3 s_signs) ++ (bX3 cI cJ cC a_w w_space w_beam w_door w_law w_used w_pipes w_drilled w_total w_open w_pipeInches w_pipeChances w_weights w_woods w_sums)) H := zMerge hP (hDD _ rfl) [0, 1] rfl rfl hk1 hP1
  refine lv_aload_n hx hb dX2_readLaw_18 rfl (lv_at hl 1 rfl) ?_
  have hPw : va_P D vwCl ((bX2 cI cJ cC a_s s_length s_place_3 s_signs)) _ := hP.sub [0, 1] rfl
  have hDw : va_D A ((bX2 cI cJ cC a_s s_length s_place_3 s_signs)) := (hDD _ rfl).sub (ws := (bX2 cI cJ cC a_s s_length s_place_3 s_signs) ++ (bX3 cI cJ cC a_w w_space w_beam w_door w_law w_used w_pipes w_drilled w_total w_open w_pipeInches w_pipeChances w_weights w_woods w_sums)) [0, 1] (by decide) rfl
  refine zcv hA hDw hS (zrunV (As := []) (rest := []) S hK hA hE hPw hDw hS (mX2_skipSign l D cI cJ cC G a_s _ s_length s_place_3 s_signs _ h) kX2_skipSign ml_X2_69 ⟨rfl, rfl, by decide, by decide⟩ (q0 := 0) (ci := 2) rfl rfl rfl rfl hl.1 rfl (Nat.le_of_ble_eq_true rfl) dX2_readLaw_19 ⟨Nat.zero_le _, Nat.zero_le _⟩) (fun s_place_4 H locs h hP1 hk1 hS => ?_)
  try dsimp only at h
  have hP : va_P D vwCl ((bX2 cI cJ cC a_s s_length s_place_4 s_signs) ++ (bX3 cI cJ cC a_w w_space w_beam w_door w_law w_used w_pipes w_drilled w_total w_open w_pipeInches w_pipeChances w_weights w_woods w_sums)) H := zMerge hP (hDD _ rfl) [0, 1] rfl rfl hk1 hP1
  refine lv_aload_n hx hb dX2_readLaw_22 rfl (lv_at hl 2 rfl) ?_
  refine lv_iload_n hx hb dX2_readLaw_23 rfl (lv_at hl 0 rfl) ?_
  refine va_put (D := D) (ci := 3) (v := .int r_2) (ty := .int) (C := RX3) (T := TX3) (N := 14) hx hb ht inX3 tyX3 tyX3_ok nmX3 hown hK hP (hDD _ rfl) hS 2 rfl rfl 3 (by decide) (ht _ fl_X2_109) (fun _ h9 => h9) rfl (by decide +kernel) rfl rfl (Nat.le_of_ble_eq_true rfl) dX2_readLaw_24 (fun H locs hP _ hS => ?_)
  have hP : va_P D vwCl ((bX2 cI cJ cC a_s s_length s_place_4 s_signs) ++ (bX3 cI cJ cC a_w w_space w_beam w_door r_2 w_used w_pipes w_drilled w_total w_open w_pipeInches w_pipeChances w_weights w_woods w_sums)) H := hP
  refine lv_aload_n hx hb dX2_readLaw_27 rfl (lv_at hl 2 rfl) ?_
  have hPw : va_P D vwCl ((bX3 cI cJ cC a_w w_space w_beam w_door r_2 w_used w_pipes w_drilled w_total w_open w_pipeInches w_pipeChances w_weights w_woods w_sums)) _ := hP.sub [2, 3, 4, 5, 6, 7] rfl
  have hDw : va_D A ((bX3 cI cJ cC a_w w_space w_beam w_door r_2 w_used w_pipes w_drilled w_total w_open w_pipeInches w_pipeChances w_weights w_woods w_sums)) := (hDD _ rfl).sub (ws := (bX2 cI cJ cC a_s s_length s_place_4 s_signs) ++ (bX3 cI cJ cC a_w w_space w_beam w_door r_2 w_used w_pipes w_drilled w_total w_open w_pipeInches w_pipeChances w_weights w_woods w_sums)) [2, 3, 4, 5, 6, 7] (by decide) rfl
  refine zcv hA hDw hS (zrunV (As := []) (rest := []) S hK hA hE hPw hDw hS (mX3_beginAnew l D cI cJ cC G a_w _ w_space w_beam w_door r_2 w_used w_pipes w_drilled w_total w_open w_pipeInches w_pipeChances w_weights w_woods w_sums _ h) kX3_beginAnew ml_X2_106 ⟨rfl, rfl, by decide, by decide⟩ (q0 := 0) (ci := 3) rfl rfl rfl rfl hl.1 rfl (Nat.le_of_ble_eq_true rfl) dX2_readLaw_28 ⟨Nat.zero_le _, Nat.zero_le _⟩) (fun u H locs h hP1 hk1 hS => ?_)
  obtain ⟨w_used_5, w_total_6, w_open_7, w_weights_8, w_woods_9, w_sums_10⟩ := u
  dsimp only at h
  have hP : va_P D vwCl ((bX2 cI cJ cC a_s s_length s_place_4 s_signs) ++ (bX3 cI cJ cC a_w w_space w_beam w_door r_2 w_used_5 w_pipes w_drilled w_total_6 w_open_7 w_pipeInches w_pipeChances w_weights_8 w_woods_9 w_sums_10)) H := zMerge hP (hDD _ rfl) [2, 3, 4, 5, 6, 7] rfl rfl hk1 hP1
  refine lv_iconst (v := (1 : Int32)) hx hb dX2_readLaw_31 (by decide) ?_
  exact hret (1 : Int32) (s_place_4, r_2, w_used_5, w_total_6, w_open_7, w_weights_8, w_woods_9, w_sums_10) _ _ _ _ rfl h hP hS dX2_readLaw_32
def wpX2_readPlus (post : Int32 → Int32 → Prop) (s_length : Int32) (s_place : Int32) (s_signs : Nat → Int32) : Prop := wpX2_signAt (fun (r_1 : Int32) => ((r_1 = (43 : Int32) → (wpX2_skipSign (fun (s_place_3 : Int32) => post (1 : Int32) s_place_3) s_place)) ∧ (¬ (r_1 = (43 : Int32)) → (wpX2_skipSign (fun (s_place_2 : Int32) => post (0 : Int32) s_place_2) s_place)))) s_length s_signs s_place
set_option maxHeartbeats 4000000 in
set_option maxRecDepth 100000 in
theorem mX2_readPlus (l : Launch) (D : va_G) (cI cJ cC : ClassId) (G : Nat → Nat → Nat) (a_s : Nat → Nat) (sz : Nat) (s_length : Int32) (s_place : Int32) (s_signs : Nat → Int32) (post : Int32 → Int32 → Prop) (h : wpX2_readPlus post s_length s_place s_signs) : Met l yX2_readPlus (wz yX2_readPlus cX2_readPlus 2 (some .boolean)) ({ frames := 1, cells := 0, slots := 0, locals := 21 }) (va_Pc [.ref (a_s 0)] (PW D (tz cI cJ cC) G ((bX2 cI cJ cC a_s s_length s_place s_signs)) sz)) (va_Qi (fun (r : Int32) (u : Int32) => post r u) (fun (u : Int32) t => va_P D vwCl ((bX2 cI cJ cC a_s s_length u s_signs)) t.heap) (va_A ((bX2 cI cJ cC a_s s_length s_place s_signs)) sz)) 0 0 (va_A ((bX2 cI cJ cC a_s s_length s_place s_signs)) sz) := by
  refine zmi (gw := fun (u : Int32) => (bX2 cI cJ cC a_s s_length u s_signs)) (plainFor_of_name (by decide)) (Nat.le_of_ble_eq_true rfl) ?_
  intro p e s m below meth c A Q ls S hK hD hA hE hP hl hret
  obtain ⟨hx, hb, hml, hown, ht⟩ := id S
  have hS : va_S A s.heap s.heap [] := va_S.rf
  have hDD : ∀ ws : va_W, ws.map (fun q => q.1) = [a_s 0, a_s 1] → va_D A ws := fun ws hw => zD hD (hw.trans rfl)
  have hl : lv_has ls 2 [(0, .ref (a_s 0))] := hl
  unfold wpX2_readPlus at h
  refine lv_aload_n hx hb dX2_readPlus_0 rfl (lv_at hl 0 rfl) ?_
  refine lv_aload_n hx hb dX2_readPlus_1 rfl (lv_at hl 0 rfl) ?_
  refine va_get (D := D) (ci := 2) (v := .int s_place) (C := RX2) (T := TX2) (N := 3) hx hb ht inX2 hown hK hP 0 rfl rfl 2 (by decide) (ht _ fl_X2_19) (fun _ h9 => h9) rfl dX2_readPlus_2 ?_
  refine zci hA (hDD _ rfl) hS (zrunV (As := [.int s_place]) (rest := []) S hK hA hE hP (hDD _ rfl) hS (mX2_signAt l D cI cJ cC G a_s _ s_length s_place s_signs s_place _ h) kX2_signAt ml_X2_26 ⟨rfl, rfl, by decide, by decide⟩ (q0 := 0) (ci := 2) rfl rfl rfl rfl hl.1 rfl (Nat.le_of_ble_eq_true rfl) dX2_readPlus_5 ⟨Nat.zero_le _, Nat.zero_le _⟩) (fun r_1 u H locs h hP1 hk1 hS => ?_)
  try dsimp only at h
  have hP : va_P D vwCl ((bX2 cI cJ cC a_s s_length s_place s_signs)) H := hP1
  refine lv_bipush (v := (43 : Int32)) hx hb dX2_readPlus_8 (by decide) ?_
  refine lv_icmp_ne (tgt := 17) hx hb dX2_readPlus_10 (by decide) (fun z => ?_) (fun z => ?_)
  · replace h := h.2 z
    refine lv_iconst (v := (0 : Int32)) hx hb dX2_readPlus_17 (by decide) ?_
    refine lv_istore_n (lv' := [(1, .int (0 : Int32)), (0, .ref (a_s 0))]) hx hb dX2_readPlus_18 rfl hl (by decide) rfl (fun ls hl => ?_)
    refine lv_aload_n hx hb dX2_readPlus_19 rfl (lv_at hl 1 rfl) ?_
    refine zcv hA (hDD _ rfl) hS (zrunV (As := []) (rest := []) S hK hA hE hP (hDD _ rfl) hS (mX2_skipSign l D cI cJ cC G a_s _ s_length s_place s_signs _ h) kX2_skipSign ml_X2_69 ⟨rfl, rfl, by decide, by decide⟩ (q0 := 0) (ci := 2) rfl rfl rfl rfl hl.1 rfl (Nat.le_of_ble_eq_true rfl) dX2_readPlus_20 ⟨Nat.zero_le _, Nat.zero_le _⟩) (fun s_place_2 H locs h hP1 hk1 hS => ?_)
    try dsimp only at h
    have hP : va_P D vwCl ((bX2 cI cJ cC a_s s_length s_place_2 s_signs)) H := hP1
    refine lv_iload_n hx hb dX2_readPlus_23 rfl (lv_at hl 0 rfl) ?_
    exact hret (0 : Int32) s_place_2 _ _ _ _ rfl h hP hS dX2_readPlus_24
  · replace h := h.1 z
    refine lv_iconst (v := (1 : Int32)) hx hb dX2_readPlus_13 (by decide) ?_
    refine lv_goto (tgt := 18) hx hb dX2_readPlus_14 (by decide) ?_
    refine lv_istore_n (lv' := [(1, .int (1 : Int32)), (0, .ref (a_s 0))]) hx hb dX2_readPlus_18 rfl hl (by decide) rfl (fun ls hl => ?_)
    refine lv_aload_n hx hb dX2_readPlus_19 rfl (lv_at hl 1 rfl) ?_
    refine zcv hA (hDD _ rfl) hS (zrunV (As := []) (rest := []) S hK hA hE hP (hDD _ rfl) hS (mX2_skipSign l D cI cJ cC G a_s _ s_length s_place s_signs _ h) kX2_skipSign ml_X2_69 ⟨rfl, rfl, by decide, by decide⟩ (q0 := 0) (ci := 2) rfl rfl rfl rfl hl.1 rfl (Nat.le_of_ble_eq_true rfl) dX2_readPlus_20 ⟨Nat.zero_le _, Nat.zero_le _⟩) (fun s_place_3 H locs h hP1 hk1 hS => ?_)
    try dsimp only at h
    have hP : va_P D vwCl ((bX2 cI cJ cC a_s s_length s_place_3 s_signs)) H := hP1
    refine lv_iload_n hx hb dX2_readPlus_23 rfl (lv_at hl 0 rfl) ?_
    exact hret (1 : Int32) s_place_3 _ _ _ _ rfl h hP hS dX2_readPlus_24
def wpX2_readNail (post : Int32 → Int32 → Int64 → Int64 → Int32 → (Nat → Int64) → (Nat → Int64) → Prop) (s_length : Int32) (s_place : Int32) (s_signs : Nat → Int32) (w_drilled : Int64) (w_total : Int64) (w_open : Int32) (w_weights : Nat → Int64) (w_woods : Nat → Int32) (w_sums : Nat → Int64) : Prop := wpX2_readNumber (fun (r_1 : Int32) (s_place_2 : Int32) => wpX2_readPlus (fun (r_3 : Int32) (s_place_4 : Int32) => wpX2_skipSign (fun (s_place_5 : Int32) => wpX4_isNoInch (fun (r_6 : Int32) => ((r_6 = (0 : Int32) → (wpX3_couldNail (fun (r_7 : Int32) => ((r_7 = (0 : Int32) → (post (0 : Int32) s_place_5 w_drilled w_total w_open w_weights w_sums)) ∧ (¬ (r_7 = (0 : Int32)) → (wpX3_takeNail (fun (w_drilled_8 : Int64) (w_total_9 : Int64) (w_open_10 : Int32) (w_weights_11 : Nat → Int64) (w_sums_12 : Nat → Int64) => post (1 : Int32) s_place_5 w_drilled_8 w_total_9 w_open_10 w_weights_11 w_sums_12) w_drilled w_open w_weights w_woods w_sums r_1 r_3)))) w_open w_woods r_1 r_3)) ∧ (¬ (r_6 = (0 : Int32)) → (post (0 : Int32) s_place_5 w_drilled w_total w_open w_weights w_sums)))) r_1) s_place_4) s_length s_place_2 s_signs) s_length s_place s_signs (2 : Int32)
set_option maxHeartbeats 4000000 in
set_option maxRecDepth 100000 in
theorem mX2_readNail (l : Launch) (D : va_G) (cI cJ cC : ClassId) (G : Nat → Nat → Nat) (a_s : Nat → Nat) (a_w : Nat → Nat) (sz : Nat) (s_length : Int32) (s_place : Int32) (s_signs : Nat → Int32) (w_space : Int32) (w_beam : Int32) (w_door : Int32) (w_law : Int32) (w_used : Int32) (w_pipes : Int32) (w_drilled : Int64) (w_total : Int64) (w_open : Int32) (w_pipeInches : Nat → Int32) (w_pipeChances : Nat → Int32) (w_weights : Nat → Int64) (w_woods : Nat → Int32) (w_sums : Nat → Int64) (post : Int32 → Int32 → Int64 → Int64 → Int32 → (Nat → Int64) → (Nat → Int64) → Prop) (h : wpX2_readNail post s_length s_place s_signs w_drilled w_total w_open w_weights w_woods w_sums) : Met l yX2_readNail (wz yX2_readNail cX2_readNail 4 (some .boolean)) ({ frames := 4, cells := 0, slots := 0, locals := 90 }) (va_Pc [.ref (a_s 0), .ref (a_w 0)] (PW D (tz cI cJ cC) G ((bX2 cI cJ cC a_s s_length s_place s_signs) ++ (bX3 cI cJ cC a_w w_space w_beam w_door w_law w_used w_pipes w_drilled w_total w_open w_pipeInches w_pipeChances w_weights w_woods w_sums)) sz)) (va_Qi (fun (r : Int32) (u : Int32 × Int64 × Int64 × Int32 × (Nat → Int64) × (Nat → Int64)) => post r u.1 u.2.1 u.2.2.1 u.2.2.2.1 u.2.2.2.2.1 u.2.2.2.2.2) (fun (u : Int32 × Int64 × Int64 × Int32 × (Nat → Int64) × (Nat → Int64)) t => va_P D vwCl ((bX2 cI cJ cC a_s s_length u.1 s_signs) ++ (bX3 cI cJ cC a_w w_space w_beam w_door w_law w_used w_pipes u.2.1 u.2.2.1 u.2.2.2.1 w_pipeInches w_pipeChances u.2.2.2.2.1 w_woods u.2.2.2.2.2)) t.heap) (va_A ((bX2 cI cJ cC a_s s_length s_place s_signs) ++ (bX3 cI cJ cC a_w w_space w_beam w_door w_law w_used w_pipes w_drilled w_total w_open w_pipeInches w_pipeChances w_weights w_woods w_sums)) sz)) 0 0 (va_A ((bX2 cI cJ cC a_s s_length s_place s_signs) ++ (bX3 cI cJ cC a_w w_space w_beam w_door w_law w_used w_pipes w_drilled w_total w_open w_pipeInches w_pipeChances w_weights w_woods w_sums)) sz) := by
  refine zmi (gw := fun (u : Int32 × Int64 × Int64 × Int32 × (Nat → Int64) × (Nat → Int64)) => (bX2 cI cJ cC a_s s_length u.1 s_signs) ++ (bX3 cI cJ cC a_w w_space w_beam w_door w_law w_used w_pipes u.2.1 u.2.2.1 u.2.2.2.1 w_pipeInches w_pipeChances u.2.2.2.2.1 w_woods u.2.2.2.2.2)) (plainFor_of_name (by decide)) (Nat.le_of_ble_eq_true rfl) ?_
  intro p e s m below meth c A Q ls S hK hD hA hE hP hl hret
  obtain ⟨hx, hb, hml, hown, ht⟩ := id S
  have hS : va_S A s.heap s.heap [] := va_S.rf
  have hDD : ∀ ws : va_W, ws.map (fun q => q.1) = [a_s 0, a_s 1, a_w 0, a_w 1, a_w 2, a_w 3, a_w 4, a_w 5] → va_D A ws := fun ws hw => zD hD (hw.trans rfl)
  have hl : lv_has ls 4 [(0, .ref (a_s 0)), (1, .ref (a_w 0))] := hl
  unfold wpX2_readNail at h
  refine lv_aload_n hx hb dX2_readNail_0 rfl (lv_at hl 0 rfl) ?_
  refine lv_iconst (v := (2 : Int32)) hx hb dX2_readNail_1 (by decide) ?_
  have hPw : va_P D vwCl ((bX2 cI cJ cC a_s s_length s_place s_signs)) _ := hP.sub [0, 1] rfl
  have hDw : va_D A ((bX2 cI cJ cC a_s s_length s_place s_signs)) := (hDD _ rfl).sub (ws := (bX2 cI cJ cC a_s s_length s_place s_signs) ++ (bX3 cI cJ cC a_w w_space w_beam w_door w_law w_used w_pipes w_drilled w_total w_open w_pipeInches w_pipeChances w_weights w_woods w_sums)) [0, 1] (by decide) rfl
  refine zci hA hDw hS (zrunV (As := [.int (2 : Int32)]) (rest := []) S hK hA hE hPw hDw hS (mX2_readNumber l D cI cJ cC G a_s _ s_length s_place s_signs (2 : Int32) _ h) kX2_readNumber ml_X2_91 ⟨rfl, rfl, by decide, by decide⟩ (q0 := 0) (ci := 2) rfl rfl rfl rfl hl.1 rfl (Nat.le_of_ble_eq_true rfl) dX2_readNail_2 ⟨Nat.zero_le _, Nat.zero_le _⟩) (fun r_1 s_place_2 H locs h hP1 hk1 hS => ?_)
  try dsimp only at h
  have hP : va_P D vwCl ((bX2 cI cJ cC a_s s_length s_place_2 s_signs) ++ (bX3 cI cJ cC a_w w_space w_beam w_door w_law w_used w_pipes w_drilled w_total w_open w_pipeInches w_pipeChances w_weights w_woods w_sums)) H := zMerge hP (hDD _ rfl) [0, 1] rfl rfl hk1 hP1
  refine lv_istore_n (lv' := [(2, .int r_1), (0, .ref (a_s 0)), (1, .ref (a_w 0))]) hx hb dX2_readNail_5 rfl hl (by decide) rfl (fun ls hl => ?_)
  refine lv_aload_n hx hb dX2_readNail_6 rfl (lv_at hl 1 rfl) ?_
  have hPw : va_P D vwCl ((bX2 cI cJ cC a_s s_length s_place_2 s_signs)) _ := hP.sub [0, 1] rfl
  have hDw : va_D A ((bX2 cI cJ cC a_s s_length s_place_2 s_signs)) := (hDD _ rfl).sub (ws := (bX2 cI cJ cC a_s s_length s_place_2 s_signs) ++ (bX3 cI cJ cC a_w w_space w_beam w_door w_law w_used w_pipes w_drilled w_total w_open w_pipeInches w_pipeChances w_weights w_woods w_sums)) [0, 1] (by decide) rfl
  refine zci hA hDw hS (zrunV (As := []) (rest := []) S hK hA hE hPw hDw hS (mX2_readPlus l D cI cJ cC G a_s _ s_length s_place_2 s_signs _ h) kX2_readPlus ml_X2_115 ⟨rfl, rfl, by decide, by decide⟩ (q0 := 0) (ci := 2) rfl rfl rfl rfl hl.1 rfl (Nat.le_of_ble_eq_true rfl) dX2_readNail_7 ⟨Nat.zero_le _, Nat.zero_le _⟩) (fun r_3 s_place_4 H locs h hP1 hk1 hS => ?_)
  try dsimp only at h
  have hP : va_P D vwCl ((bX2 cI cJ cC a_s s_length s_place_4 s_signs) ++ (bX3 cI cJ cC a_w w_space w_beam w_door w_law w_used w_pipes w_drilled w_total w_open w_pipeInches w_pipeChances w_weights w_woods w_sums)) H := zMerge hP (hDD _ rfl) [0, 1] rfl rfl hk1 hP1
  refine lv_istore_n (lv' := [(3, .int r_3), (2, .int r_1), (0, .ref (a_s 0)), (1, .ref (a_w 0))]) hx hb dX2_readNail_10 rfl hl (by decide) rfl (fun ls hl => ?_)
  refine lv_aload_n hx hb dX2_readNail_11 rfl (lv_at hl 2 rfl) ?_
  have hPw : va_P D vwCl ((bX2 cI cJ cC a_s s_length s_place_4 s_signs)) _ := hP.sub [0, 1] rfl
  have hDw : va_D A ((bX2 cI cJ cC a_s s_length s_place_4 s_signs)) := (hDD _ rfl).sub (ws := (bX2 cI cJ cC a_s s_length s_place_4 s_signs) ++ (bX3 cI cJ cC a_w w_space w_beam w_door w_law w_used w_pipes w_drilled w_total w_open w_pipeInches w_pipeChances w_weights w_woods w_sums)) [0, 1] (by decide) rfl
  refine zcv hA hDw hS (zrunV (As := []) (rest := []) S hK hA hE hPw hDw hS (mX2_skipSign l D cI cJ cC G a_s _ s_length s_place_4 s_signs _ h) kX2_skipSign ml_X2_69 ⟨rfl, rfl, by decide, by decide⟩ (q0 := 0) (ci := 2) rfl rfl rfl rfl hl.1 rfl (Nat.le_of_ble_eq_true rfl) dX2_readNail_12 ⟨Nat.zero_le _, Nat.zero_le _⟩) (fun s_place_5 H locs h hP1 hk1 hS => ?_)
  try dsimp only at h
  have hP : va_P D vwCl ((bX2 cI cJ cC a_s s_length s_place_5 s_signs) ++ (bX3 cI cJ cC a_w w_space w_beam w_door w_law w_used w_pipes w_drilled w_total w_open w_pipeInches w_pipeChances w_weights w_woods w_sums)) H := zMerge hP (hDD _ rfl) [0, 1] rfl rfl hk1 hP1
  refine lv_iload_n hx hb dX2_readNail_15 rfl (lv_at hl 1 rfl) ?_
  refine zci hA zD0 hS (zrunN (As := [.int r_1]) (rest := []) S hK hA hE zP0 zD0 hS (mX4_isNoInch l D cI cJ cC G _ r_1 _ h) kX4_isNoInch 6 rfl ⟨rfl, rfl, by decide, by decide⟩ rfl hl.1 rfl (Nat.le_of_ble_eq_true rfl) dX2_readNail_16 ⟨Nat.zero_le _, Nat.zero_le _⟩) (fun r_6 u H locs h hP1 hk1 hS => ?_)
  try dsimp only at h
  have hP : va_P D vwCl ((bX2 cI cJ cC a_s s_length s_place_5 s_signs) ++ (bX3 cI cJ cC a_w w_space w_beam w_door w_law w_used w_pipes w_drilled w_total w_open w_pipeInches w_pipeChances w_weights w_woods w_sums)) H := zKeep hP hk1
  refine lv_if_ne (tgt := 31) hx hb dX2_readNail_19 (by decide) (fun z => ?_) (fun z => ?_)
  · replace h := h.2 z
    refine lv_iconst (v := (0 : Int32)) hx hb dX2_readNail_31 (by decide) ?_
    exact hret (0 : Int32) (s_place_5, w_drilled, w_total, w_open, w_weights, w_sums) _ _ _ _ rfl h hP hS dX2_readNail_32
  · replace h := h.1 z
    refine lv_aload_n hx hb dX2_readNail_22 rfl (lv_at hl 3 rfl) ?_
    refine lv_iload_n hx hb dX2_readNail_23 rfl (lv_at hl 1 rfl) ?_
    refine lv_iload_n hx hb dX2_readNail_24 rfl (lv_at hl 0 rfl) ?_
    have hPw : va_P D vwCl ((bX3 cI cJ cC a_w w_space w_beam w_door w_law w_used w_pipes w_drilled w_total w_open w_pipeInches w_pipeChances w_weights w_woods w_sums)) _ := hP.sub [2, 3, 4, 5, 6, 7] rfl
    have hDw : va_D A ((bX3 cI cJ cC a_w w_space w_beam w_door w_law w_used w_pipes w_drilled w_total w_open w_pipeInches w_pipeChances w_weights w_woods w_sums)) := (hDD _ rfl).sub (ws := (bX2 cI cJ cC a_s s_length s_place_5 s_signs) ++ (bX3 cI cJ cC a_w w_space w_beam w_door w_law w_used w_pipes w_drilled w_total w_open w_pipeInches w_pipeChances w_weights w_woods w_sums)) [2, 3, 4, 5, 6, 7] (by decide) rfl
    refine zci hA hDw hS (zrunV (As := [.int r_1, .int r_3]) (rest := []) S hK hA hE hPw hDw hS (mX3_couldNail l D cI cJ cC G a_w _ w_space w_beam w_door w_law w_used w_pipes w_drilled w_total w_open w_pipeInches w_pipeChances w_weights w_woods w_sums r_1 r_3 _ h) kX3_couldNail ml_X2_132 ⟨rfl, rfl, by decide, by decide⟩ (q0 := 0) (ci := 3) rfl rfl rfl rfl hl.1 rfl (Nat.le_of_ble_eq_true rfl) dX2_readNail_25 ⟨Nat.zero_le _, Nat.zero_le _⟩) (fun r_7 u H locs h hP1 hk1 hS => ?_)
    try dsimp only at h
    have hP : va_P D vwCl ((bX2 cI cJ cC a_s s_length s_place_5 s_signs) ++ (bX3 cI cJ cC a_w w_space w_beam w_door w_law w_used w_pipes w_drilled w_total w_open w_pipeInches w_pipeChances w_weights w_woods w_sums)) H := zMerge hP (hDD _ rfl) [2, 3, 4, 5, 6, 7] rfl rfl hk1 hP1
    refine lv_if_ne (tgt := 33) hx hb dX2_readNail_28 (by decide) (fun z => ?_) (fun z => ?_)
    · replace h := h.2 z
      refine lv_aload_n hx hb dX2_readNail_33 rfl (lv_at hl 3 rfl) ?_
      refine lv_iload_n hx hb dX2_readNail_34 rfl (lv_at hl 1 rfl) ?_
      refine lv_iload_n hx hb dX2_readNail_35 rfl (lv_at hl 0 rfl) ?_
      have hPw : va_P D vwCl ((bX3 cI cJ cC a_w w_space w_beam w_door w_law w_used w_pipes w_drilled w_total w_open w_pipeInches w_pipeChances w_weights w_woods w_sums)) _ := hP.sub [2, 3, 4, 5, 6, 7] rfl
      have hDw : va_D A ((bX3 cI cJ cC a_w w_space w_beam w_door w_law w_used w_pipes w_drilled w_total w_open w_pipeInches w_pipeChances w_weights w_woods w_sums)) := (hDD _ rfl).sub (ws := (bX2 cI cJ cC a_s s_length s_place_5 s_signs) ++ (bX3 cI cJ cC a_w w_space w_beam w_door w_law w_used w_pipes w_drilled w_total w_open w_pipeInches w_pipeChances w_weights w_woods w_sums)) [2, 3, 4, 5, 6, 7] (by decide) rfl
      refine zcv hA hDw hS (zrunV (As := [.int r_1, .int r_3]) (rest := []) S hK hA hE hPw hDw hS (mX3_takeNail l D cI cJ cC G a_w _ w_space w_beam w_door w_law w_used w_pipes w_drilled w_total w_open w_pipeInches w_pipeChances w_weights w_woods w_sums r_1 r_3 _ h) kX3_takeNail ml_X2_136 ⟨rfl, rfl, by decide, by decide⟩ (q0 := 0) (ci := 3) rfl rfl rfl rfl hl.1 rfl (Nat.le_of_ble_eq_true rfl) dX2_readNail_36 ⟨Nat.zero_le _, Nat.zero_le _⟩) (fun u H locs h hP1 hk1 hS => ?_)
      obtain ⟨w_drilled_8, w_total_9, w_open_10, w_weights_11, w_sums_12⟩ := u
      dsimp only at h
      have hP : va_P D vwCl ((bX2 cI cJ cC a_s s_length s_place_5 s_signs) ++ (bX3 cI cJ cC a_w w_space w_beam w_door w_law w_used w_pipes w_drilled_8 w_total_9 w_open_10 w_pipeInches w_pipeChances w_weights_11 w_woods w_sums_12)) H := zMerge hP (hDD _ rfl) [2, 3, 4, 5, 6, 7] rfl rfl hk1 hP1
      refine lv_iconst (v := (1 : Int32)) hx hb dX2_readNail_39 (by decide) ?_
      exact hret (1 : Int32) (s_place_5, w_drilled_8, w_total_9, w_open_10, w_weights_11, w_sums_12) _ _ _ _ rfl h hP hS dX2_readNail_40
    · replace h := h.1 z
      refine lv_iconst (v := (0 : Int32)) hx hb dX2_readNail_31 (by decide) ?_
      exact hret (0 : Int32) (s_place_5, w_drilled, w_total, w_open, w_weights, w_sums) _ _ _ _ rfl h hP hS dX2_readNail_32
def wpX2_readSpaces (post : Int32 → Int32 → Int32 → Int32 → Int32 → Int64 → Int32 → (Nat → Int64) → (Nat → Int32) → (Nat → Int64) → Prop) (s_length : Int32) (s_place : Int32) (s_signs : Nat → Int32) (w_space : Int32) (w_beam : Int32) (w_door : Int32) (w_law : Int32) (w_used : Int32) (w_total : Int64) (w_open : Int32) (w_weights : Nat → Int64) (w_woods : Nat → Int32) (w_sums : Nat → Int64) : Prop := wpX2_signAt (fun (r_1 : Int32) => ((r_1 = (44 : Int32) → (wpX2_readNumber (fun (r_16 : Int32) (s_place_17 : Int32) => wpX2_skipSign (fun (s_place_18 : Int32) => wpX2_readNumber (fun (r_19 : Int32) (s_place_20 : Int32) => wpX2_skipSign (fun (s_place_21 : Int32) => wpX4_isOut (fun (r_22 : Int32) => ((r_22 = (0 : Int32) → (wpX4_isOut (fun (r_23 : Int32) => ((r_23 = (0 : Int32) → (wpX3_beginAnew (fun (w_used_24 : Int32) (w_total_25 : Int64) (w_open_26 : Int32) (w_weights_27 : Nat → Int64) (w_woods_28 : Nat → Int32) (w_sums_29 : Nat → Int64) => post (1 : Int32) s_place_21 r_16 r_19 w_used_24 w_total_25 w_open_26 w_weights_27 w_woods_28 w_sums_29) r_16 r_19 w_door w_law w_weights w_woods w_sums)) ∧ (¬ (r_23 = (0 : Int32)) → (post (0 : Int32) s_place_21 w_space w_beam w_used w_total w_open w_weights w_woods w_sums)))) (1 : Int32) r_19)) ∧ (¬ (r_22 = (0 : Int32)) → (post (0 : Int32) s_place_21 w_space w_beam w_used w_total w_open w_weights w_woods w_sums)))) (0 : Int32) r_16) s_place_20) s_length s_place_18 s_signs (1 : Int32)) s_place_17) s_length s_place s_signs (1 : Int32))) ∧ (¬ (r_1 = (44 : Int32)) → (wpX2_readNumber (fun (r_2 : Int32) (s_place_3 : Int32) => wpX2_skipSign (fun (s_place_4 : Int32) => wpX2_readNumber (fun (r_5 : Int32) (s_place_6 : Int32) => wpX2_skipSign (fun (s_place_7 : Int32) => wpX4_isOut (fun (r_8 : Int32) => ((r_8 = (0 : Int32) → (wpX4_isOut (fun (r_9 : Int32) => ((r_9 = (0 : Int32) → (wpX3_beginAnew (fun (w_used_10 : Int32) (w_total_11 : Int64) (w_open_12 : Int32) (w_weights_13 : Nat → Int64) (w_woods_14 : Nat → Int32) (w_sums_15 : Nat → Int64) => post (1 : Int32) s_place_7 r_2 r_5 w_used_10 w_total_11 w_open_12 w_weights_13 w_woods_14 w_sums_15) r_2 r_5 w_door w_law w_weights w_woods w_sums)) ∧ (¬ (r_9 = (0 : Int32)) → (post (0 : Int32) s_place_7 w_space w_beam w_used w_total w_open w_weights w_woods w_sums)))) (1 : Int32) r_5)) ∧ (¬ (r_8 = (0 : Int32)) → (post (0 : Int32) s_place_7 w_space w_beam w_used w_total w_open w_weights w_woods w_sums)))) (0 : Int32) r_2) s_place_6) s_length s_place_4 s_signs (1 : Int32)) s_place_3) s_length s_place s_signs (2 : Int32))))) s_length s_signs (s_place + (1 : Int32))
set_option maxHeartbeats 4000000 in
set_option maxRecDepth 100000 in
theorem mX2_readSpaces (l : Launch) (D : va_G) (cI cJ cC : ClassId) (G : Nat → Nat → Nat) (a_s : Nat → Nat) (a_w : Nat → Nat) (sz : Nat) (s_length : Int32) (s_place : Int32) (s_signs : Nat → Int32) (w_space : Int32) (w_beam : Int32) (w_door : Int32) (w_law : Int32) (w_used : Int32) (w_pipes : Int32) (w_drilled : Int64) (w_total : Int64) (w_open : Int32) (w_pipeInches : Nat → Int32) (w_pipeChances : Nat → Int32) (w_weights : Nat → Int64) (w_woods : Nat → Int32) (w_sums : Nat → Int64) (post : Int32 → Int32 → Int32 → Int32 → Int32 → Int64 → Int32 → (Nat → Int64) → (Nat → Int32) → (Nat → Int64) → Prop) (h : wpX2_readSpaces post s_length s_place s_signs w_space w_beam w_door w_law w_used w_total w_open w_weights w_woods w_sums) : Met l yX2_readSpaces (wz yX2_readSpaces cX2_readSpaces 4 (some .boolean)) ({ frames := 4, cells := 0, slots := 0, locals := 87 }) (va_Pc [.ref (a_s 0), .ref (a_w 0)] (PW D (tz cI cJ cC) G ((bX2 cI cJ cC a_s s_length s_place s_signs) ++ (bX3 cI cJ cC a_w w_space w_beam w_door w_law w_used w_pipes w_drilled w_total w_open w_pipeInches w_pipeChances w_weights w_woods w_sums)) sz)) (va_Qi (fun (r : Int32) (u : Int32 × Int32 × Int32 × Int32 × Int64 × Int32 × (Nat → Int64) × (Nat → Int32) × (Nat → Int64)) => post r u.1 u.2.1 u.2.2.1 u.2.2.2.1 u.2.2.2.2.1 u.2.2.2.2.2.1 u.2.2.2.2.2.2.1 u.2.2.2.2.2.2.2.1 u.2.2.2.2.2.2.2.2) (fun (u : Int32 × Int32 × Int32 × Int32 × Int64 × Int32 × (Nat → Int64) × (Nat → Int32) × (Nat → Int64)) t => va_P D vwCl ((bX2 cI cJ cC a_s s_length u.1 s_signs) ++ (bX3 cI cJ cC a_w u.2.1 u.2.2.1 w_door w_law u.2.2.2.1 w_pipes w_drilled u.2.2.2.2.1 u.2.2.2.2.2.1 w_pipeInches w_pipeChances u.2.2.2.2.2.2.1 u.2.2.2.2.2.2.2.1 u.2.2.2.2.2.2.2.2)) t.heap) (va_A ((bX2 cI cJ cC a_s s_length s_place s_signs) ++ (bX3 cI cJ cC a_w w_space w_beam w_door w_law w_used w_pipes w_drilled w_total w_open w_pipeInches w_pipeChances w_weights w_woods w_sums)) sz)) 0 0 (va_A ((bX2 cI cJ cC a_s s_length s_place s_signs) ++ (bX3 cI cJ cC a_w w_space w_beam w_door w_law w_used w_pipes w_drilled w_total w_open w_pipeInches w_pipeChances w_weights w_woods w_sums)) sz) := by
  refine zmi (gw := fun (u : Int32 × Int32 × Int32 × Int32 × Int64 × Int32 × (Nat → Int64) × (Nat → Int32) × (Nat → Int64)) => (bX2 cI cJ cC a_s s_length u.1 s_signs) ++ (bX3 cI cJ cC a_w u.2.1 u.2.2.1 w_door w_law u.2.2.2.1 w_pipes w_drilled u.2.2.2.2.1 u.2.2.2.2.2.1 w_pipeInches w_pipeChances u.2.2.2.2.2.2.1 u.2.2.2.2.2.2.2.1 u.2.2.2.2.2.2.2.2)) (plainFor_of_name (by decide)) (Nat.le_of_ble_eq_true rfl) ?_
  intro p e s m below meth c A Q ls S hK hD hA hE hP hl hret
  obtain ⟨hx, hb, hml, hown, ht⟩ := id S
  have hS : va_S A s.heap s.heap [] := va_S.rf
  have hDD : ∀ ws : va_W, ws.map (fun q => q.1) = [a_s 0, a_s 1, a_w 0, a_w 1, a_w 2, a_w 3, a_w 4, a_w 5] → va_D A ws := fun ws hw => zD hD (hw.trans rfl)
  have hl : lv_has ls 4 [(0, .ref (a_s 0)), (1, .ref (a_w 0))] := hl
  unfold wpX2_readSpaces at h
  refine lv_aload_n hx hb dX2_readSpaces_0 rfl (lv_at hl 0 rfl) ?_
  refine lv_aload_n hx hb dX2_readSpaces_1 rfl (lv_at hl 0 rfl) ?_
  refine lv_aload_n hx hb dX2_readSpaces_2 rfl (lv_at hl 0 rfl) ?_
  refine va_get (D := D) (ci := 2) (v := .int s_place) (C := RX2) (T := TX2) (N := 3) hx hb ht inX2 hown hK hP 0 rfl rfl 2 (by decide) (ht _ fl_X2_19) (fun _ h9 => h9) rfl dX2_readSpaces_3 ?_
  refine lv_iconst (v := (1 : Int32)) hx hb dX2_readSpaces_6 (by decide) ?_
  refine lv_iadd hx hb dX2_readSpaces_7 ?_
  have hPw : va_P D vwCl ((bX2 cI cJ cC a_s s_length s_place s_signs)) _ := hP.sub [0, 1] rfl
  have hDw : va_D A ((bX2 cI cJ cC a_s s_length s_place s_signs)) := (hDD _ rfl).sub (ws := (bX2 cI cJ cC a_s s_length s_place s_signs) ++ (bX3 cI cJ cC a_w w_space w_beam w_door w_law w_used w_pipes w_drilled w_total w_open w_pipeInches w_pipeChances w_weights w_woods w_sums)) [0, 1] (by decide) rfl
  refine zci hA hDw hS (zrunV (As := [.int (s_place + (1 : Int32))]) (rest := [.ref (a_s 0)]) S hK hA hE hPw hDw hS (mX2_signAt l D cI cJ cC G a_s _ s_length s_place s_signs (s_place + (1 : Int32)) _ h) kX2_signAt ml_X2_26 ⟨rfl, rfl, by decide, by decide⟩ (q0 := 0) (ci := 2) rfl rfl rfl rfl hl.1 rfl (Nat.le_of_ble_eq_true rfl) dX2_readSpaces_8 ⟨Nat.zero_le _, Nat.zero_le _⟩) (fun r_1 u H locs h hP1 hk1 hS => ?_)
  try dsimp only at h
  have hP : va_P D vwCl ((bX2 cI cJ cC a_s s_length s_place s_signs) ++ (bX3 cI cJ cC a_w w_space w_beam w_door w_law w_used w_pipes w_drilled w_total w_open w_pipeInches w_pipeChances w_weights w_woods w_sums)) H := zMerge hP (hDD _ rfl) [0, 1] rfl rfl hk1 hP1
  refine lv_bipush (v := (44 : Int32)) hx hb dX2_readSpaces_11 (by decide) ?_
  refine lv_icmp_ne (tgt := 20) hx hb dX2_readSpaces_13 (by decide) (fun z => ?_) (fun z => ?_)
  · replace h := h.2 z
    refine lv_iconst (v := (2 : Int32)) hx hb dX2_readSpaces_20 (by decide) ?_
    have hPw : va_P D vwCl ((bX2 cI cJ cC a_s s_length s_place s_signs)) _ := hP.sub [0, 1] rfl
    have hDw : va_D A ((bX2 cI cJ cC a_s s_length s_place s_signs)) := (hDD _ rfl).sub (ws := (bX2 cI cJ cC a_s s_length s_place s_signs) ++ (bX3 cI cJ cC a_w w_space w_beam w_door w_law w_used w_pipes w_drilled w_total w_open w_pipeInches w_pipeChances w_weights w_woods w_sums)) [0, 1] (by decide) rfl
    refine zci hA hDw hS (zrunV (As := [.int (2 : Int32)]) (rest := []) S hK hA hE hPw hDw hS (mX2_readNumber l D cI cJ cC G a_s _ s_length s_place s_signs (2 : Int32) _ h) kX2_readNumber ml_X2_91 ⟨rfl, rfl, by decide, by decide⟩ (q0 := 0) (ci := 2) rfl rfl rfl rfl hl.1 rfl (Nat.le_of_ble_eq_true rfl) dX2_readSpaces_21 ⟨Nat.zero_le _, Nat.zero_le _⟩) (fun r_2 s_place_3 H locs h hP1 hk1 hS => ?_)
    try dsimp only at h
    have hP : va_P D vwCl ((bX2 cI cJ cC a_s s_length s_place_3 s_signs) ++ (bX3 cI cJ cC a_w w_space w_beam w_door w_law w_used w_pipes w_drilled w_total w_open w_pipeInches w_pipeChances w_weights w_woods w_sums)) H := zMerge hP (hDD _ rfl) [0, 1] rfl rfl hk1 hP1
    refine lv_istore_n (lv' := [(2, .int r_2), (0, .ref (a_s 0)), (1, .ref (a_w 0))]) hx hb dX2_readSpaces_24 rfl hl (by decide) rfl (fun ls hl => ?_)
    refine lv_aload_n hx hb dX2_readSpaces_25 rfl (lv_at hl 1 rfl) ?_
    have hPw : va_P D vwCl ((bX2 cI cJ cC a_s s_length s_place_3 s_signs)) _ := hP.sub [0, 1] rfl
    have hDw : va_D A ((bX2 cI cJ cC a_s s_length s_place_3 s_signs)) := (hDD _ rfl).sub (ws := (bX2 cI cJ cC a_s s_length s_place_3 s_signs) ++ (bX3 cI cJ cC a_w w_space w_beam w_door w_law w_used w_pipes w_drilled w_total w_open w_pipeInches w_pipeChances w_weights w_woods w_sums)) [0, 1] (by decide) rfl
    refine zcv hA hDw hS (zrunV (As := []) (rest := []) S hK hA hE hPw hDw hS (mX2_skipSign l D cI cJ cC G a_s _ s_length s_place_3 s_signs _ h) kX2_skipSign ml_X2_69 ⟨rfl, rfl, by decide, by decide⟩ (q0 := 0) (ci := 2) rfl rfl rfl rfl hl.1 rfl (Nat.le_of_ble_eq_true rfl) dX2_readSpaces_26 ⟨Nat.zero_le _, Nat.zero_le _⟩) (fun s_place_4 H locs h hP1 hk1 hS => ?_)
    try dsimp only at h
    have hP : va_P D vwCl ((bX2 cI cJ cC a_s s_length s_place_4 s_signs) ++ (bX3 cI cJ cC a_w w_space w_beam w_door w_law w_used w_pipes w_drilled w_total w_open w_pipeInches w_pipeChances w_weights w_woods w_sums)) H := zMerge hP (hDD _ rfl) [0, 1] rfl rfl hk1 hP1
    refine lv_aload_n hx hb dX2_readSpaces_29 rfl (lv_at hl 1 rfl) ?_
    refine lv_iconst (v := (1 : Int32)) hx hb dX2_readSpaces_30 (by decide) ?_
    have hPw : va_P D vwCl ((bX2 cI cJ cC a_s s_length s_place_4 s_signs)) _ := hP.sub [0, 1] rfl
    have hDw : va_D A ((bX2 cI cJ cC a_s s_length s_place_4 s_signs)) := (hDD _ rfl).sub (ws := (bX2 cI cJ cC a_s s_length s_place_4 s_signs) ++ (bX3 cI cJ cC a_w w_space w_beam w_door w_law w_used w_pipes w_drilled w_total w_open w_pipeInches w_pipeChances w_weights w_woods w_sums)) [0, 1] (by decide) rfl
    refine zci hA hDw hS (zrunV (As := [.int (1 : Int32)]) (rest := []) S hK hA hE hPw hDw hS (mX2_readNumber l D cI cJ cC G a_s _ s_length s_place_4 s_signs (1 : Int32) _ h) kX2_readNumber ml_X2_91 ⟨rfl, rfl, by decide, by decide⟩ (q0 := 0) (ci := 2) rfl rfl rfl rfl hl.1 rfl (Nat.le_of_ble_eq_true rfl) dX2_readSpaces_31 ⟨Nat.zero_le _, Nat.zero_le _⟩) (fun r_5 s_place_6 H locs h hP1 hk1 hS => ?_)
    try dsimp only at h
    have hP : va_P D vwCl ((bX2 cI cJ cC a_s s_length s_place_6 s_signs) ++ (bX3 cI cJ cC a_w w_space w_beam w_door w_law w_used w_pipes w_drilled w_total w_open w_pipeInches w_pipeChances w_weights w_woods w_sums)) H := zMerge hP (hDD _ rfl) [0, 1] rfl rfl hk1 hP1
    refine lv_istore_n (lv' := [(3, .int r_5), (2, .int r_2), (0, .ref (a_s 0)), (1, .ref (a_w 0))]) hx hb dX2_readSpaces_34 rfl hl (by decide) rfl (fun ls hl => ?_)
    refine lv_aload_n hx hb dX2_readSpaces_35 rfl (lv_at hl 2 rfl) ?_
    have hPw : va_P D vwCl ((bX2 cI cJ cC a_s s_length s_place_6 s_signs)) _ := hP.sub [0, 1] rfl
    have hDw : va_D A ((bX2 cI cJ cC a_s s_length s_place_6 s_signs)) := (hDD _ rfl).sub (ws := (bX2 cI cJ cC a_s s_length s_place_6 s_signs) ++ (bX3 cI cJ cC a_w w_space w_beam w_door w_law w_used w_pipes w_drilled w_total w_open w_pipeInches w_pipeChances w_weights w_woods w_sums)) [0, 1] (by decide) rfl
    refine zcv hA hDw hS (zrunV (As := []) (rest := []) S hK hA hE hPw hDw hS (mX2_skipSign l D cI cJ cC G a_s _ s_length s_place_6 s_signs _ h) kX2_skipSign ml_X2_69 ⟨rfl, rfl, by decide, by decide⟩ (q0 := 0) (ci := 2) rfl rfl rfl rfl hl.1 rfl (Nat.le_of_ble_eq_true rfl) dX2_readSpaces_36 ⟨Nat.zero_le _, Nat.zero_le _⟩) (fun s_place_7 H locs h hP1 hk1 hS => ?_)
    try dsimp only at h
    have hP : va_P D vwCl ((bX2 cI cJ cC a_s s_length s_place_7 s_signs) ++ (bX3 cI cJ cC a_w w_space w_beam w_door w_law w_used w_pipes w_drilled w_total w_open w_pipeInches w_pipeChances w_weights w_woods w_sums)) H := zMerge hP (hDD _ rfl) [0, 1] rfl rfl hk1 hP1
    refine lv_iconst (v := (0 : Int32)) hx hb dX2_readSpaces_39 (by decide) ?_
    refine lv_iload_n hx hb dX2_readSpaces_40 rfl (lv_at hl 1 rfl) ?_
    refine zci hA zD0 hS (zrunN (As := [.int (0 : Int32), .int r_2]) (rest := []) S hK hA hE zP0 zD0 hS (mX4_isOut l D cI cJ cC G _ (0 : Int32) r_2 _ h) kX4_isOut 4 rfl ⟨rfl, rfl, by decide, by decide⟩ rfl hl.1 rfl (Nat.le_of_ble_eq_true rfl) dX2_readSpaces_41 ⟨Nat.zero_le _, Nat.zero_le _⟩) (fun r_8 u H locs h hP1 hk1 hS => ?_)
    try dsimp only at h
    have hP : va_P D vwCl ((bX2 cI cJ cC a_s s_length s_place_7 s_signs) ++ (bX3 cI cJ cC a_w w_space w_beam w_door w_law w_used w_pipes w_drilled w_total w_open w_pipeInches w_pipeChances w_weights w_woods w_sums)) H := zKeep hP hk1
    refine lv_if_ne (tgt := 55) hx hb dX2_readSpaces_44 (by decide) (fun z => ?_) (fun z => ?_)
    · replace h := h.2 z
      refine lv_iconst (v := (0 : Int32)) hx hb dX2_readSpaces_55 (by decide) ?_
      exact hret (0 : Int32) (s_place_7, w_space, w_beam, w_used, w_total, w_open, w_weights, w_woods, w_sums) _ _ _ _ rfl h hP hS dX2_readSpaces_56
    · replace h := h.1 z
      refine lv_iconst (v := (1 : Int32)) hx hb dX2_readSpaces_47 (by decide) ?_
      refine lv_iload_n hx hb dX2_readSpaces_48 rfl (lv_at hl 0 rfl) ?_
      refine zci hA zD0 hS (zrunN (As := [.int (1 : Int32), .int r_5]) (rest := []) S hK hA hE zP0 zD0 hS (mX4_isOut l D cI cJ cC G _ (1 : Int32) r_5 _ h) kX4_isOut 4 rfl ⟨rfl, rfl, by decide, by decide⟩ rfl hl.1 rfl (Nat.le_of_ble_eq_true rfl) dX2_readSpaces_49 ⟨Nat.zero_le _, Nat.zero_le _⟩) (fun r_9 u H locs h hP1 hk1 hS => ?_)
      try dsimp only at h
      have hP : va_P D vwCl ((bX2 cI cJ cC a_s s_length s_place_7 s_signs) ++ (bX3 cI cJ cC a_w w_space w_beam w_door w_law w_used w_pipes w_drilled w_total w_open w_pipeInches w_pipeChances w_weights w_woods w_sums)) H := zKeep hP hk1
      refine lv_if_eq (tgt := 57) hx hb dX2_readSpaces_52 (by decide) (fun z => ?_) (fun z => ?_)
      · replace h := h.1 z
        refine lv_aload_n hx hb dX2_readSpaces_57 rfl (lv_at hl 3 rfl) ?_
        refine lv_iload_n hx hb dX2_readSpaces_58 rfl (lv_at hl 1 rfl) ?_
        refine va_put (D := D) (ci := 3) (v := .int r_2) (ty := .int) (C := RX3) (T := TX3) (N := 14) hx hb ht inX3 tyX3 tyX3_ok nmX3 hown hK hP (hDD _ rfl) hS 2 rfl rfl 0 (by decide) (ht _ fl_X2_98) (fun _ h9 => h9) rfl (by decide +kernel) rfl rfl (Nat.le_of_ble_eq_true rfl) dX2_readSpaces_59 (fun H locs hP _ hS => ?_)
        have hP : va_P D vwCl ((bX2 cI cJ cC a_s s_length s_place_7 s_signs) ++ (bX3 cI cJ cC a_w r_2 w_beam w_door w_law w_used w_pipes w_drilled w_total w_open w_pipeInches w_pipeChances w_weights w_woods w_sums)) H := hP
        refine lv_aload_n hx hb dX2_readSpaces_62 rfl (lv_at hl 3 rfl) ?_
        refine lv_iload_n hx hb dX2_readSpaces_63 rfl (lv_at hl 0 rfl) ?_
        refine va_put (D := D) (ci := 3) (v := .int r_5) (ty := .int) (C := RX3) (T := TX3) (N := 14) hx hb ht inX3 tyX3 tyX3_ok nmX3 hown hK hP (hDD _ rfl) hS 2 rfl rfl 1 (by decide) (ht _ fl_X2_103) (fun _ h9 => h9) rfl (by decide +kernel) rfl rfl (Nat.le_of_ble_eq_true rfl) dX2_readSpaces_64 (fun H locs hP _ hS => ?_)
        have hP : va_P D vwCl ((bX2 cI cJ cC a_s s_length s_place_7 s_signs) ++ (bX3 cI cJ cC a_w r_2 r_5 w_door w_law w_used w_pipes w_drilled w_total w_open w_pipeInches w_pipeChances w_weights w_woods w_sums)) H := hP
        refine lv_aload_n hx hb dX2_readSpaces_67 rfl (lv_at hl 3 rfl) ?_
        have hPw : va_P D vwCl ((bX3 cI cJ cC a_w r_2 r_5 w_door w_law w_used w_pipes w_drilled w_total w_open w_pipeInches w_pipeChances w_weights w_woods w_sums)) _ := hP.sub [2, 3, 4, 5, 6, 7] rfl
        have hDw : va_D A ((bX3 cI cJ cC a_w r_2 r_5 w_door w_law w_used w_pipes w_drilled w_total w_open w_pipeInches w_pipeChances w_weights w_woods w_sums)) := (hDD _ rfl).sub (ws := (bX2 cI cJ cC a_s s_length s_place_7 s_signs) ++ (bX3 cI cJ cC a_w r_2 r_5 w_door w_law w_used w_pipes w_drilled w_total w_open w_pipeInches w_pipeChances w_weights w_woods w_sums)) [2, 3, 4, 5, 6, 7] (by decide) rfl
        refine zcv hA hDw hS (zrunV (As := []) (rest := []) S hK hA hE hPw hDw hS (mX3_beginAnew l D cI cJ cC G a_w _ r_2 r_5 w_door w_law w_used w_pipes w_drilled w_total w_open w_pipeInches w_pipeChances w_weights w_woods w_sums _ h) kX3_beginAnew ml_X2_106 ⟨rfl, rfl, by decide, by decide⟩ (q0 := 0) (ci := 3) rfl rfl rfl rfl hl.1 rfl (Nat.le_of_ble_eq_true rfl) dX2_readSpaces_68 ⟨Nat.zero_le _, Nat.zero_le _⟩) (fun u H locs h hP1 hk1 hS => ?_)
        obtain ⟨w_used_10, w_total_11, w_open_12, w_weights_13, w_woods_14, w_sums_15⟩ := u
        dsimp only at h
        have hP : va_P D vwCl ((bX2 cI cJ cC a_s s_length s_place_7 s_signs) ++ (bX3 cI cJ cC a_w r_2 r_5 w_door w_law w_used_10 w_pipes w_drilled w_total_11 w_open_12 w_pipeInches w_pipeChances w_weights_13 w_woods_14 w_sums_15)) H := zMerge hP (hDD _ rfl) [2, 3, 4, 5, 6, 7] rfl rfl hk1 hP1
        refine lv_iconst (v := (1 : Int32)) hx hb dX2_readSpaces_71 (by decide) ?_
        exact hret (1 : Int32) (s_place_7, r_2, r_5, w_used_10, w_total_11, w_open_12, w_weights_13, w_woods_14, w_sums_15) _ _ _ _ rfl h hP hS dX2_readSpaces_72
      · replace h := h.2 z
        refine lv_iconst (v := (0 : Int32)) hx hb dX2_readSpaces_55 (by decide) ?_
        exact hret (0 : Int32) (s_place_7, w_space, w_beam, w_used, w_total, w_open, w_weights, w_woods, w_sums) _ _ _ _ rfl h hP hS dX2_readSpaces_56
  · replace h := h.1 z
    refine lv_iconst (v := (1 : Int32)) hx hb dX2_readSpaces_16 (by decide) ?_
    refine lv_goto (tgt := 21) hx hb dX2_readSpaces_17 (by decide) ?_
    have hPw : va_P D vwCl ((bX2 cI cJ cC a_s s_length s_place s_signs)) _ := hP.sub [0, 1] rfl
    have hDw : va_D A ((bX2 cI cJ cC a_s s_length s_place s_signs)) := (hDD _ rfl).sub (ws := (bX2 cI cJ cC a_s s_length s_place s_signs) ++ (bX3 cI cJ cC a_w w_space w_beam w_door w_law w_used w_pipes w_drilled w_total w_open w_pipeInches w_pipeChances w_weights w_woods w_sums)) [0, 1] (by decide) rfl
    refine zci hA hDw hS (zrunV (As := [.int (1 : Int32)]) (rest := []) S hK hA hE hPw hDw hS (mX2_readNumber l D cI cJ cC G a_s _ s_length s_place s_signs (1 : Int32) _ h) kX2_readNumber ml_X2_91 ⟨rfl, rfl, by decide, by decide⟩ (q0 := 0) (ci := 2) rfl rfl rfl rfl hl.1 rfl (Nat.le_of_ble_eq_true rfl) dX2_readSpaces_21 ⟨Nat.zero_le _, Nat.zero_le _⟩) (fun r_16 s_place_17 H locs h hP1 hk1 hS => ?_)
    try dsimp only at h
    have hP : va_P D vwCl ((bX2 cI cJ cC a_s s_length s_place_17 s_signs) ++ (bX3 cI cJ cC a_w w_space w_beam w_door w_law w_used w_pipes w_drilled w_total w_open w_pipeInches w_pipeChances w_weights w_woods w_sums)) H := zMerge hP (hDD _ rfl) [0, 1] rfl rfl hk1 hP1
    refine lv_istore_n (lv' := [(2, .int r_16), (0, .ref (a_s 0)), (1, .ref (a_w 0))]) hx hb dX2_readSpaces_24 rfl hl (by decide) rfl (fun ls hl => ?_)
    refine lv_aload_n hx hb dX2_readSpaces_25 rfl (lv_at hl 1 rfl) ?_
    have hPw : va_P D vwCl ((bX2 cI cJ cC a_s s_length s_place_17 s_signs)) _ := hP.sub [0, 1] rfl
    have hDw : va_D A ((bX2 cI cJ cC a_s s_length s_place_17 s_signs)) := (hDD _ rfl).sub (ws := (bX2 cI cJ cC a_s s_length s_place_17 s_signs) ++ (bX3 cI cJ cC a_w w_space w_beam w_door w_law w_used w_pipes w_drilled w_total w_open w_pipeInches w_pipeChances w_weights w_woods w_sums)) [0, 1] (by decide) rfl
    refine zcv hA hDw hS (zrunV (As := []) (rest := []) S hK hA hE hPw hDw hS (mX2_skipSign l D cI cJ cC G a_s _ s_length s_place_17 s_signs _ h) kX2_skipSign ml_X2_69 ⟨rfl, rfl, by decide, by decide⟩ (q0 := 0) (ci := 2) rfl rfl rfl rfl hl.1 rfl (Nat.le_of_ble_eq_true rfl) dX2_readSpaces_26 ⟨Nat.zero_le _, Nat.zero_le _⟩) (fun s_place_18 H locs h hP1 hk1 hS => ?_)
    try dsimp only at h
    have hP : va_P D vwCl ((bX2 cI cJ cC a_s s_length s_place_18 s_signs) ++ (bX3 cI cJ cC a_w w_space w_beam w_door w_law w_used w_pipes w_drilled w_total w_open w_pipeInches w_pipeChances w_weights w_woods w_sums)) H := zMerge hP (hDD _ rfl) [0, 1] rfl rfl hk1 hP1
    refine lv_aload_n hx hb dX2_readSpaces_29 rfl (lv_at hl 1 rfl) ?_
    refine lv_iconst (v := (1 : Int32)) hx hb dX2_readSpaces_30 (by decide) ?_
    have hPw : va_P D vwCl ((bX2 cI cJ cC a_s s_length s_place_18 s_signs)) _ := hP.sub [0, 1] rfl
    have hDw : va_D A ((bX2 cI cJ cC a_s s_length s_place_18 s_signs)) := (hDD _ rfl).sub (ws := (bX2 cI cJ cC a_s s_length s_place_18 s_signs) ++ (bX3 cI cJ cC a_w w_space w_beam w_door w_law w_used w_pipes w_drilled w_total w_open w_pipeInches w_pipeChances w_weights w_woods w_sums)) [0, 1] (by decide) rfl
    refine zci hA hDw hS (zrunV (As := [.int (1 : Int32)]) (rest := []) S hK hA hE hPw hDw hS (mX2_readNumber l D cI cJ cC G a_s _ s_length s_place_18 s_signs (1 : Int32) _ h) kX2_readNumber ml_X2_91 ⟨rfl, rfl, by decide, by decide⟩ (q0 := 0) (ci := 2) rfl rfl rfl rfl hl.1 rfl (Nat.le_of_ble_eq_true rfl) dX2_readSpaces_31 ⟨Nat.zero_le _, Nat.zero_le _⟩) (fun r_19 s_place_20 H locs h hP1 hk1 hS => ?_)
    try dsimp only at h
    have hP : va_P D vwCl ((bX2 cI cJ cC a_s s_length s_place_20 s_signs) ++ (bX3 cI cJ cC a_w w_space w_beam w_door w_law w_used w_pipes w_drilled w_total w_open w_pipeInches w_pipeChances w_weights w_woods w_sums)) H := zMerge hP (hDD _ rfl) [0, 1] rfl rfl hk1 hP1
    refine lv_istore_n (lv' := [(3, .int r_19), (2, .int r_16), (0, .ref (a_s 0)), (1, .ref (a_w 0))]) hx hb dX2_readSpaces_34 rfl hl (by decide) rfl (fun ls hl => ?_)
    refine lv_aload_n hx hb dX2_readSpaces_35 rfl (lv_at hl 2 rfl) ?_
    have hPw : va_P D vwCl ((bX2 cI cJ cC a_s s_length s_place_20 s_signs)) _ := hP.sub [0, 1] rfl
    have hDw : va_D A ((bX2 cI cJ cC a_s s_length s_place_20 s_signs)) := (hDD _ rfl).sub (ws := (bX2 cI cJ cC a_s s_length s_place_20 s_signs) ++ (bX3 cI cJ cC a_w w_space w_beam w_door w_law w_used w_pipes w_drilled w_total w_open w_pipeInches w_pipeChances w_weights w_woods w_sums)) [0, 1] (by decide) rfl
    refine zcv hA hDw hS (zrunV (As := []) (rest := []) S hK hA hE hPw hDw hS (mX2_skipSign l D cI cJ cC G a_s _ s_length s_place_20 s_signs _ h) kX2_skipSign ml_X2_69 ⟨rfl, rfl, by decide, by decide⟩ (q0 := 0) (ci := 2) rfl rfl rfl rfl hl.1 rfl (Nat.le_of_ble_eq_true rfl) dX2_readSpaces_36 ⟨Nat.zero_le _, Nat.zero_le _⟩) (fun s_place_21 H locs h hP1 hk1 hS => ?_)
    try dsimp only at h
    have hP : va_P D vwCl ((bX2 cI cJ cC a_s s_length s_place_21 s_signs) ++ (bX3 cI cJ cC a_w w_space w_beam w_door w_law w_used w_pipes w_drilled w_total w_open w_pipeInches w_pipeChances w_weights w_woods w_sums)) H := zMerge hP (hDD _ rfl) [0, 1] rfl rfl hk1 hP1
    refine lv_iconst (v := (0 : Int32)) hx hb dX2_readSpaces_39 (by decide) ?_
    refine lv_iload_n hx hb dX2_readSpaces_40 rfl (lv_at hl 1 rfl) ?_
    refine zci hA zD0 hS (zrunN (As := [.int (0 : Int32), .int r_16]) (rest := []) S hK hA hE zP0 zD0 hS (mX4_isOut l D cI cJ cC G _ (0 : Int32) r_16 _ h) kX4_isOut 4 rfl ⟨rfl, rfl, by decide, by decide⟩ rfl hl.1 rfl (Nat.le_of_ble_eq_true rfl) dX2_readSpaces_41 ⟨Nat.zero_le _, Nat.zero_le _⟩) (fun r_22 u H locs h hP1 hk1 hS => ?_)
    try dsimp only at h
    have hP : va_P D vwCl ((bX2 cI cJ cC a_s s_length s_place_21 s_signs) ++ (bX3 cI cJ cC a_w w_space w_beam w_door w_law w_used w_pipes w_drilled w_total w_open w_pipeInches w_pipeChances w_weights w_woods w_sums)) H := zKeep hP hk1
    refine lv_if_ne (tgt := 55) hx hb dX2_readSpaces_44 (by decide) (fun z => ?_) (fun z => ?_)
    · replace h := h.2 z
      refine lv_iconst (v := (0 : Int32)) hx hb dX2_readSpaces_55 (by decide) ?_
      exact hret (0 : Int32) (s_place_21, w_space, w_beam, w_used, w_total, w_open, w_weights, w_woods, w_sums) _ _ _ _ rfl h hP hS dX2_readSpaces_56
    · replace h := h.1 z
      refine lv_iconst (v := (1 : Int32)) hx hb dX2_readSpaces_47 (by decide) ?_
      refine lv_iload_n hx hb dX2_readSpaces_48 rfl (lv_at hl 0 rfl) ?_
      refine zci hA zD0 hS (zrunN (As := [.int (1 : Int32), .int r_19]) (rest := []) S hK hA hE zP0 zD0 hS (mX4_isOut l D cI cJ cC G _ (1 : Int32) r_19 _ h) kX4_isOut 4 rfl ⟨rfl, rfl, by decide, by decide⟩ rfl hl.1 rfl (Nat.le_of_ble_eq_true rfl) dX2_readSpaces_49 ⟨Nat.zero_le _, Nat.zero_le _⟩) (fun r_23 u H locs h hP1 hk1 hS => ?_)
      try dsimp only at h
      have hP : va_P D vwCl ((bX2 cI cJ cC a_s s_length s_place_21 s_signs) ++ (bX3 cI cJ cC a_w w_space w_beam w_door w_law w_used w_pipes w_drilled w_total w_open w_pipeInches w_pipeChances w_weights w_woods w_sums)) H := zKeep hP hk1
      refine lv_if_eq (tgt := 57) hx hb dX2_readSpaces_52 (by decide) (fun z => ?_) (fun z => ?_)
      · replace h := h.1 z
        refine lv_aload_n hx hb dX2_readSpaces_57 rfl (lv_at hl 3 rfl) ?_
        refine lv_iload_n hx hb dX2_readSpaces_58 rfl (lv_at hl 1 rfl) ?_
        refine va_put (D := D) (ci := 3) (v := .int r_16) (ty := .int) (C := RX3) (T := TX3) (N := 14) hx hb ht inX3 tyX3 tyX3_ok nmX3 hown hK hP (hDD _ rfl) hS 2 rfl rfl 0 (by decide) (ht _ fl_X2_98) (fun _ h9 => h9) rfl (by decide +kernel) rfl rfl (Nat.le_of_ble_eq_true rfl) dX2_readSpaces_59 (fun H locs hP _ hS => ?_)
        have hP : va_P D vwCl ((bX2 cI cJ cC a_s s_length s_place_21 s_signs) ++ (bX3 cI cJ cC a_w r_16 w_beam w_door w_law w_used w_pipes w_drilled w_total w_open w_pipeInches w_pipeChances w_weights w_woods w_sums)) H := hP
        refine lv_aload_n hx hb dX2_readSpaces_62 rfl (lv_at hl 3 rfl) ?_
        refine lv_iload_n hx hb dX2_readSpaces_63 rfl (lv_at hl 0 rfl) ?_
        refine va_put (D := D) (ci := 3) (v := .int r_19) (ty := .int) (C := RX3) (T := TX3) (N := 14) hx hb ht inX3 tyX3 tyX3_ok nmX3 hown hK hP (hDD _ rfl) hS 2 rfl rfl 1 (by decide) (ht _ fl_X2_103) (fun _ h9 => h9) rfl (by decide +kernel) rfl rfl (Nat.le_of_ble_eq_true rfl) dX2_readSpaces_64 (fun H locs hP _ hS => ?_)
        have hP : va_P D vwCl ((bX2 cI cJ cC a_s s_length s_place_21 s_signs) ++ (bX3 cI cJ cC a_w r_16 r_19 w_door w_law w_used w_pipes w_drilled w_total w_open w_pipeInches w_pipeChances w_weights w_woods w_sums)) H := hP
        refine lv_aload_n hx hb dX2_readSpaces_67 rfl (lv_at hl 3 rfl) ?_
        have hPw : va_P D vwCl ((bX3 cI cJ cC a_w r_16 r_19 w_door w_law w_used w_pipes w_drilled w_total w_open w_pipeInches w_pipeChances w_weights w_woods w_sums)) _ := hP.sub [2, 3, 4, 5, 6, 7] rfl
        have hDw : va_D A ((bX3 cI cJ cC a_w r_16 r_19 w_door w_law w_used w_pipes w_drilled w_total w_open w_pipeInches w_pipeChances w_weights w_woods w_sums)) := (hDD _ rfl).sub (ws := (bX2 cI cJ cC a_s s_length s_place_21 s_signs) ++ (bX3 cI cJ cC a_w r_16 r_19 w_door w_law w_used w_pipes w_drilled w_total w_open w_pipeInches w_pipeChances w_weights w_woods w_sums)) [2, 3, 4, 5, 6, 7] (by decide) rfl
        refine zcv hA hDw hS (zrunV (As := []) (rest := []) S hK hA hE hPw hDw hS (mX3_beginAnew l D cI cJ cC G a_w _ r_16 r_19 w_door w_law w_used w_pipes w_drilled w_total w_open w_pipeInches w_pipeChances w_weights w_woods w_sums _ h) kX3_beginAnew ml_X2_106 ⟨rfl, rfl, by decide, by decide⟩ (q0 := 0) (ci := 3) rfl rfl rfl rfl hl.1 rfl (Nat.le_of_ble_eq_true rfl) dX2_readSpaces_68 ⟨Nat.zero_le _, Nat.zero_le _⟩) (fun u H locs h hP1 hk1 hS => ?_)
        obtain ⟨w_used_24, w_total_25, w_open_26, w_weights_27, w_woods_28, w_sums_29⟩ := u
        dsimp only at h
        have hP : va_P D vwCl ((bX2 cI cJ cC a_s s_length s_place_21 s_signs) ++ (bX3 cI cJ cC a_w r_16 r_19 w_door w_law w_used_24 w_pipes w_drilled w_total_25 w_open_26 w_pipeInches w_pipeChances w_weights_27 w_woods_28 w_sums_29)) H := zMerge hP (hDD _ rfl) [2, 3, 4, 5, 6, 7] rfl rfl hk1 hP1
        refine lv_iconst (v := (1 : Int32)) hx hb dX2_readSpaces_71 (by decide) ?_
        exact hret (1 : Int32) (s_place_21, r_16, r_19, w_used_24, w_total_25, w_open_26, w_weights_27, w_woods_28, w_sums_29) _ _ _ _ rfl h hP hS dX2_readSpaces_72
      · replace h := h.2 z
        refine lv_iconst (v := (0 : Int32)) hx hb dX2_readSpaces_55 (by decide) ?_
        exact hret (0 : Int32) (s_place_21, w_space, w_beam, w_used, w_total, w_open, w_weights, w_woods, w_sums) _ _ _ _ rfl h hP hS dX2_readSpaces_56
def wpX4_isNoTool (post : Int32 → Prop) (p0 : Int32) : Prop := ((p0 < (0 : Int32) → (post (1 : Int32))) ∧ (¬ (p0 < (0 : Int32)) → (((p0 < (5 : Int32) → (post (0 : Int32))) ∧ (¬ (p0 < (5 : Int32)) → (post (1 : Int32)))))))
set_option maxHeartbeats 4000000 in
set_option maxRecDepth 100000 in
theorem mX4_isNoTool (l : Launch) (D : va_G) (cI cJ cC : ClassId) (G : Nat → Nat → Nat) (sz : Nat) (p0 : Int32) (post : Int32 → Prop) (h : wpX4_isNoTool post p0) : Met l yX4_isNoTool (wz yX4_isNoTool cX4_isNoTool 1 (some .boolean)) ({ frames := 0, cells := 0, slots := 0, locals := 0 }) (va_Pc [.int p0] (PW D (tz cI cJ cC) G ([]) sz)) (va_Qi (fun (r : Int32) (u : Unit) => post r ) (fun (u : Unit) t => va_P D vwCl ([]) t.heap) (va_A ([]) sz)) 0 0 (va_A ([]) sz) := by
  refine zmi (gw := fun (u : Unit) => []) (plainFor_of_name (by decide)) (Nat.le_of_ble_eq_true rfl) ?_
  intro p e s m below meth c A Q ls S hK hD hA hE hP hl hret
  obtain ⟨hx, hb, hml, hown, ht⟩ := id S
  have hS : va_S A s.heap s.heap [] := va_S.rf
  have hDD : ∀ ws : va_W, ws.map (fun q => q.1) = [] → va_D A ws := fun ws hw => zD hD (hw.trans rfl)
  have hl : lv_has ls 1 [(0, .int p0)] := hl
  unfold wpX4_isNoTool at h
  refine lv_iload_n hx hb dX4_isNoTool_0 rfl (lv_at hl 0 rfl) ?_
  refine lv_if_lt (tgt := 9) hx hb dX4_isNoTool_1 (by decide) (fun z => ?_) (fun z => ?_)
  · replace h := h.1 z
    refine lv_iconst (v := (1 : Int32)) hx hb dX4_isNoTool_9 (by decide) ?_
    refine lv_goto (tgt := 14) hx hb dX4_isNoTool_10 (by decide) ?_
    exact hret (1 : Int32) () _ _ _ _ rfl h hP hS dX4_isNoTool_14
  · replace h := h.2 z
    refine lv_iload_n hx hb dX4_isNoTool_4 rfl (lv_at hl 0 rfl) ?_
    refine lv_iconst (v := (5 : Int32)) hx hb dX4_isNoTool_5 (by decide) ?_
    refine lv_icmp_lt (tgt := 13) hx hb dX4_isNoTool_6 (by decide) (fun z => ?_) (fun z => ?_)
    · replace h := h.1 z
      refine lv_iconst (v := (0 : Int32)) hx hb dX4_isNoTool_13 (by decide) ?_
      exact hret (0 : Int32) () _ _ _ _ rfl h hP hS dX4_isNoTool_14
    · replace h := h.2 z
      refine lv_iconst (v := (1 : Int32)) hx hb dX4_isNoTool_9 (by decide) ?_
      refine lv_goto (tgt := 14) hx hb dX4_isNoTool_10 (by decide) ?_
      exact hret (1 : Int32) () _ _ _ _ rfl h hP hS dX4_isNoTool_14
def wpX2_readTelling (post : Int32 → Int32 → Int32 → Int64 → Int64 → Int32 → (Nat → Int64) → (Nat → Int64) → Prop) (s_length : Int32) (s_place : Int32) (s_signs : Nat → Int32) (w_used : Int32) (w_drilled : Int64) (w_total : Int64) (w_open : Int32) (w_weights : Nat → Int64) (w_woods : Nat → Int32) (w_sums : Nat → Int64) : Prop := wpX2_readNumber (fun (r_1 : Int32) (s_place_2 : Int32) => wpX2_readNumber (fun (r_3 : Int32) (s_place_4 : Int32) => wpX2_readPlus (fun (r_5 : Int32) (s_place_6 : Int32) => wpX2_skipSign (fun (s_place_7 : Int32) => wpX4_isNoTool (fun (r_8 : Int32) => ((r_8 = (0 : Int32) → (wpX4_isNoInch (fun (r_9 : Int32) => ((r_9 = (0 : Int32) → (((w_used < (6 : Int32) → (wpX3_takeTelling (fun (w_used_10 : Int32) (w_drilled_11 : Int64) (w_total_12 : Int64) (w_open_13 : Int32) (w_weights_14 : Nat → Int64) (w_sums_15 : Nat → Int64) => post (1 : Int32) s_place_7 w_used_10 w_drilled_11 w_total_12 w_open_13 w_weights_14 w_sums_15) w_used w_drilled w_weights w_woods w_sums r_1 r_3 r_5)) ∧ (¬ (w_used < (6 : Int32)) → (post (0 : Int32) s_place_7 w_used w_drilled w_total w_open w_weights w_sums))))) ∧ (¬ (r_9 = (0 : Int32)) → (post (0 : Int32) s_place_7 w_used w_drilled w_total w_open w_weights w_sums)))) r_3)) ∧ (¬ (r_8 = (0 : Int32)) → (post (0 : Int32) s_place_7 w_used w_drilled w_total w_open w_weights w_sums)))) r_1) s_place_6) s_length s_place_4 s_signs) s_length s_place_2 s_signs (2 : Int32)) s_length s_place s_signs (1 : Int32)
set_option maxHeartbeats 4000000 in
set_option maxRecDepth 100000 in
theorem mX2_readTelling (l : Launch) (D : va_G) (cI cJ cC : ClassId) (G : Nat → Nat → Nat) (a_s : Nat → Nat) (a_w : Nat → Nat) (sz : Nat) (s_length : Int32) (s_place : Int32) (s_signs : Nat → Int32) (w_space : Int32) (w_beam : Int32) (w_door : Int32) (w_law : Int32) (w_used : Int32) (w_pipes : Int32) (w_drilled : Int64) (w_total : Int64) (w_open : Int32) (w_pipeInches : Nat → Int32) (w_pipeChances : Nat → Int32) (w_weights : Nat → Int64) (w_woods : Nat → Int32) (w_sums : Nat → Int64) (post : Int32 → Int32 → Int32 → Int64 → Int64 → Int32 → (Nat → Int64) → (Nat → Int64) → Prop) (h : wpX2_readTelling post s_length s_place s_signs w_used w_drilled w_total w_open w_weights w_woods w_sums) : Met l yX2_readTelling (wz yX2_readTelling cX2_readTelling 5 (some .boolean)) ({ frames := 4, cells := 0, slots := 0, locals := 90 }) (va_Pc [.ref (a_s 0), .ref (a_w 0)] (PW D (tz cI cJ cC) G ((bX2 cI cJ cC a_s s_length s_place s_signs) ++ (bX3 cI cJ cC a_w w_space w_beam w_door w_law w_used w_pipes w_drilled w_total w_open w_pipeInches w_pipeChances w_weights w_woods w_sums)) sz)) (va_Qi (fun (r : Int32) (u : Int32 × Int32 × Int64 × Int64 × Int32 × (Nat → Int64) × (Nat → Int64)) => post r u.1 u.2.1 u.2.2.1 u.2.2.2.1 u.2.2.2.2.1 u.2.2.2.2.2.1 u.2.2.2.2.2.2) (fun (u : Int32 × Int32 × Int64 × Int64 × Int32 × (Nat → Int64) × (Nat → Int64)) t => va_P D vwCl ((bX2 cI cJ cC a_s s_length u.1 s_signs) ++ (bX3 cI cJ cC a_w w_space w_beam w_door w_law u.2.1 w_pipes u.2.2.1 u.2.2.2.1 u.2.2.2.2.1 w_pipeInches w_pipeChances u.2.2.2.2.2.1 w_woods u.2.2.2.2.2.2)) t.heap) (va_A ((bX2 cI cJ cC a_s s_length s_place s_signs) ++ (bX3 cI cJ cC a_w w_space w_beam w_door w_law w_used w_pipes w_drilled w_total w_open w_pipeInches w_pipeChances w_weights w_woods w_sums)) sz)) 0 0 (va_A ((bX2 cI cJ cC a_s s_length s_place s_signs) ++ (bX3 cI cJ cC a_w w_space w_beam w_door w_law w_used w_pipes w_drilled w_total w_open w_pipeInches w_pipeChances w_weights w_woods w_sums)) sz) := by
  refine zmi (gw := fun (u : Int32 × Int32 × Int64 × Int64 × Int32 × (Nat → Int64) × (Nat → Int64)) => (bX2 cI cJ cC a_s s_length u.1 s_signs) ++ (bX3 cI cJ cC a_w w_space w_beam w_door w_law u.2.1 w_pipes u.2.2.1 u.2.2.2.1 u.2.2.2.2.1 w_pipeInches w_pipeChances u.2.2.2.2.2.1 w_woods u.2.2.2.2.2.2)) (plainFor_of_name (by decide)) (Nat.le_of_ble_eq_true rfl) ?_
  intro p e s m below meth c A Q ls S hK hD hA hE hP hl hret
  obtain ⟨hx, hb, hml, hown, ht⟩ := id S
  have hS : va_S A s.heap s.heap [] := va_S.rf
  have hDD : ∀ ws : va_W, ws.map (fun q => q.1) = [a_s 0, a_s 1, a_w 0, a_w 1, a_w 2, a_w 3, a_w 4, a_w 5] → va_D A ws := fun ws hw => zD hD (hw.trans rfl)
  have hl : lv_has ls 5 [(0, .ref (a_s 0)), (1, .ref (a_w 0))] := hl
  unfold wpX2_readTelling at h
  refine lv_aload_n hx hb dX2_readTelling_0 rfl (lv_at hl 0 rfl) ?_
  refine lv_iconst (v := (1 : Int32)) hx hb dX2_readTelling_1 (by decide) ?_
  have hPw : va_P D vwCl ((bX2 cI cJ cC a_s s_length s_place s_signs)) _ := hP.sub [0, 1] rfl
  have hDw : va_D A ((bX2 cI cJ cC a_s s_length s_place s_signs)) := (hDD _ rfl).sub (ws := (bX2 cI cJ cC a_s s_length s_place s_signs) ++ (bX3 cI cJ cC a_w w_space w_beam w_door w_law w_used w_pipes w_drilled w_total w_open w_pipeInches w_pipeChances w_weights w_woods w_sums)) [0, 1] (by decide) rfl
  refine zci hA hDw hS (zrunV (As := [.int (1 : Int32)]) (rest := []) S hK hA hE hPw hDw hS (mX2_readNumber l D cI cJ cC G a_s _ s_length s_place s_signs (1 : Int32) _ h) kX2_readNumber ml_X2_91 ⟨rfl, rfl, by decide, by decide⟩ (q0 := 0) (ci := 2) rfl rfl rfl rfl hl.1 rfl (Nat.le_of_ble_eq_true rfl) dX2_readTelling_2 ⟨Nat.zero_le _, Nat.zero_le _⟩) (fun r_1 s_place_2 H locs h hP1 hk1 hS => ?_)
  try dsimp only at h
  have hP : va_P D vwCl ((bX2 cI cJ cC a_s s_length s_place_2 s_signs) ++ (bX3 cI cJ cC a_w w_space w_beam w_door w_law w_used w_pipes w_drilled w_total w_open w_pipeInches w_pipeChances w_weights w_woods w_sums)) H := zMerge hP (hDD _ rfl) [0, 1] rfl rfl hk1 hP1
  refine lv_istore_n (lv' := [(2, .int r_1), (0, .ref (a_s 0)), (1, .ref (a_w 0))]) hx hb dX2_readTelling_5 rfl hl (by decide) rfl (fun ls hl => ?_)
  refine lv_aload_n hx hb dX2_readTelling_6 rfl (lv_at hl 1 rfl) ?_
  refine lv_iconst (v := (2 : Int32)) hx hb dX2_readTelling_7 (by decide) ?_
  have hPw : va_P D vwCl ((bX2 cI cJ cC a_s s_length s_place_2 s_signs)) _ := hP.sub [0, 1] rfl
  have hDw : va_D A ((bX2 cI cJ cC a_s s_length s_place_2 s_signs)) := (hDD _ rfl).sub (ws := (bX2 cI cJ cC a_s s_length s_place_2 s_signs) ++ (bX3 cI cJ cC a_w w_space w_beam w_door w_law w_used w_pipes w_drilled w_total w_open w_pipeInches w_pipeChances w_weights w_woods w_sums)) [0, 1] (by decide) rfl
  refine zci hA hDw hS (zrunV (As := [.int (2 : Int32)]) (rest := []) S hK hA hE hPw hDw hS (mX2_readNumber l D cI cJ cC G a_s _ s_length s_place_2 s_signs (2 : Int32) _ h) kX2_readNumber ml_X2_91 ⟨rfl, rfl, by decide, by decide⟩ (q0 := 0) (ci := 2) rfl rfl rfl rfl hl.1 rfl (Nat.le_of_ble_eq_true rfl) dX2_readTelling_8 ⟨Nat.zero_le _, Nat.zero_le _⟩) (fun r_3 s_place_4 H locs h hP1 hk1 hS => ?_)
  try dsimp only at h
  have hP : va_P D vwCl ((bX2 cI cJ cC a_s s_length s_place_4 s_signs) ++ (bX3 cI cJ cC a_w w_space w_beam w_door w_law w_used w_pipes w_drilled w_total w_open w_pipeInches w_pipeChances w_weights w_woods w_sums)) H := zMerge hP (hDD _ rfl) [0, 1] rfl rfl hk1 hP1
  refine lv_istore_n (lv' := [(3, .int r_3), (2, .int r_1), (0, .ref (a_s 0)), (1, .ref (a_w 0))]) hx hb dX2_readTelling_11 rfl hl (by decide) rfl (fun ls hl => ?_)
  refine lv_aload_n hx hb dX2_readTelling_12 rfl (lv_at hl 2 rfl) ?_
  have hPw : va_P D vwCl ((bX2 cI cJ cC a_s s_length s_place_4 s_signs)) _ := hP.sub [0, 1] rfl
  have hDw : va_D A ((bX2 cI cJ cC a_s s_length s_place_4 s_signs)) := (hDD _ rfl).sub (ws := (bX2 cI cJ cC a_s s_length s_place_4 s_signs) ++ (bX3 cI cJ cC a_w w_space w_beam w_door w_law w_used w_pipes w_drilled w_total w_open w_pipeInches w_pipeChances w_weights w_woods w_sums)) [0, 1] (by decide) rfl
  refine zci hA hDw hS (zrunV (As := []) (rest := []) S hK hA hE hPw hDw hS (mX2_readPlus l D cI cJ cC G a_s _ s_length s_place_4 s_signs _ h) kX2_readPlus ml_X2_115 ⟨rfl, rfl, by decide, by decide⟩ (q0 := 0) (ci := 2) rfl rfl rfl rfl hl.1 rfl (Nat.le_of_ble_eq_true rfl) dX2_readTelling_13 ⟨Nat.zero_le _, Nat.zero_le _⟩) (fun r_5 s_place_6 H locs h hP1 hk1 hS => ?_)
  try dsimp only at h
  have hP : va_P D vwCl ((bX2 cI cJ cC a_s s_length s_place_6 s_signs) ++ (bX3 cI cJ cC a_w w_space w_beam w_door w_law w_used w_pipes w_drilled w_total w_open w_pipeInches w_pipeChances w_weights w_woods w_sums)) H := zMerge hP (hDD _ rfl) [0, 1] rfl rfl hk1 hP1
  refine lv_istore (lv' := [(4, .int r_5), (3, .int r_3), (2, .int r_1), (0, .ref (a_s 0)), (1, .ref (a_w 0))]) hx hb dX2_readTelling_16 hl (by decide) rfl (fun ls hl => ?_)
  refine lv_aload_n hx hb dX2_readTelling_18 rfl (lv_at hl 3 rfl) ?_
  have hPw : va_P D vwCl ((bX2 cI cJ cC a_s s_length s_place_6 s_signs)) _ := hP.sub [0, 1] rfl
  have hDw : va_D A ((bX2 cI cJ cC a_s s_length s_place_6 s_signs)) := (hDD _ rfl).sub (ws := (bX2 cI cJ cC a_s s_length s_place_6 s_signs) ++ (bX3 cI cJ cC a_w w_space w_beam w_door w_law w_used w_pipes w_drilled w_total w_open w_pipeInches w_pipeChances w_weights w_woods w_sums)) [0, 1] (by decide) rfl
  refine zcv hA hDw hS (zrunV (As := []) (rest := []) S hK hA hE hPw hDw hS (mX2_skipSign l D cI cJ cC G a_s _ s_length s_place_6 s_signs _ h) kX2_skipSign ml_X2_69 ⟨rfl, rfl, by decide, by decide⟩ (q0 := 0) (ci := 2) rfl rfl rfl rfl hl.1 rfl (Nat.le_of_ble_eq_true rfl) dX2_readTelling_19 ⟨Nat.zero_le _, Nat.zero_le _⟩) (fun s_place_7 H locs h hP1 hk1 hS => ?_)
  try dsimp only at h
  have hP : va_P D vwCl ((bX2 cI cJ cC a_s s_length s_place_7 s_signs) ++ (bX3 cI cJ cC a_w w_space w_beam w_door w_law w_used w_pipes w_drilled w_total w_open w_pipeInches w_pipeChances w_weights w_woods w_sums)) H := zMerge hP (hDD _ rfl) [0, 1] rfl rfl hk1 hP1
  refine lv_iload_n hx hb dX2_readTelling_22 rfl (lv_at hl 2 rfl) ?_
  refine zci hA zD0 hS (zrunN (As := [.int r_1]) (rest := []) S hK hA hE zP0 zD0 hS (mX4_isNoTool l D cI cJ cC G _ r_1 _ h) kX4_isNoTool 5 rfl ⟨rfl, rfl, by decide, by decide⟩ rfl hl.1 rfl (Nat.le_of_ble_eq_true rfl) dX2_readTelling_23 ⟨Nat.zero_le _, Nat.zero_le _⟩) (fun r_8 u H locs h hP1 hk1 hS => ?_)
  try dsimp only at h
  have hP : va_P D vwCl ((bX2 cI cJ cC a_s s_length s_place_7 s_signs) ++ (bX3 cI cJ cC a_w w_space w_beam w_door w_law w_used w_pipes w_drilled w_total w_open w_pipeInches w_pipeChances w_weights w_woods w_sums)) H := zKeep hP hk1
  refine lv_if_ne (tgt := 45) hx hb dX2_readTelling_26 (by decide) (fun z => ?_) (fun z => ?_)
  · replace h := h.2 z
    refine lv_iconst (v := (0 : Int32)) hx hb dX2_readTelling_45 (by decide) ?_
    exact hret (0 : Int32) (s_place_7, w_used, w_drilled, w_total, w_open, w_weights, w_sums) _ _ _ _ rfl h hP hS dX2_readTelling_46
  · replace h := h.1 z
    refine lv_iload_n hx hb dX2_readTelling_29 rfl (lv_at hl 1 rfl) ?_
    refine zci hA zD0 hS (zrunN (As := [.int r_3]) (rest := []) S hK hA hE zP0 zD0 hS (mX4_isNoInch l D cI cJ cC G _ r_3 _ h) kX4_isNoInch 6 rfl ⟨rfl, rfl, by decide, by decide⟩ rfl hl.1 rfl (Nat.le_of_ble_eq_true rfl) dX2_readTelling_30 ⟨Nat.zero_le _, Nat.zero_le _⟩) (fun r_9 u H locs h hP1 hk1 hS => ?_)
    try dsimp only at h
    have hP : va_P D vwCl ((bX2 cI cJ cC a_s s_length s_place_7 s_signs) ++ (bX3 cI cJ cC a_w w_space w_beam w_door w_law w_used w_pipes w_drilled w_total w_open w_pipeInches w_pipeChances w_weights w_woods w_sums)) H := zKeep hP hk1
    refine lv_if_ne (tgt := 45) hx hb dX2_readTelling_33 (by decide) (fun z => ?_) (fun z => ?_)
    · replace h := h.2 z
      refine lv_iconst (v := (0 : Int32)) hx hb dX2_readTelling_45 (by decide) ?_
      exact hret (0 : Int32) (s_place_7, w_used, w_drilled, w_total, w_open, w_weights, w_sums) _ _ _ _ rfl h hP hS dX2_readTelling_46
    · replace h := h.1 z
      refine lv_aload_n hx hb dX2_readTelling_36 rfl (lv_at hl 4 rfl) ?_
      refine va_get (D := D) (ci := 3) (v := .int w_used) (C := RX3) (T := TX3) (N := 14) hx hb ht inX3 hown hK hP 2 rfl rfl 4 (by decide) (ht _ fl_X2_125) (fun _ h9 => h9) rfl dX2_readTelling_37 ?_
      refine lv_bipush (v := (6 : Int32)) hx hb dX2_readTelling_40 (by decide) ?_
      refine lv_icmp_lt (tgt := 47) hx hb dX2_readTelling_42 (by decide) (fun z => ?_) (fun z => ?_)
      · replace h := h.1 z
        refine lv_aload_n hx hb dX2_readTelling_47 rfl (lv_at hl 4 rfl) ?_
        refine lv_iload_n hx hb dX2_readTelling_48 rfl (lv_at hl 2 rfl) ?_
        refine lv_iload_n hx hb dX2_readTelling_49 rfl (lv_at hl 1 rfl) ?_
        refine lv_iload hx hb dX2_readTelling_50 (lv_at hl 0 rfl) ?_
        have hPw : va_P D vwCl ((bX3 cI cJ cC a_w w_space w_beam w_door w_law w_used w_pipes w_drilled w_total w_open w_pipeInches w_pipeChances w_weights w_woods w_sums)) _ := hP.sub [2, 3, 4, 5, 6, 7] rfl
        have hDw : va_D A ((bX3 cI cJ cC a_w w_space w_beam w_door w_law w_used w_pipes w_drilled w_total w_open w_pipeInches w_pipeChances w_weights w_woods w_sums)) := (hDD _ rfl).sub (ws := (bX2 cI cJ cC a_s s_length s_place_7 s_signs) ++ (bX3 cI cJ cC a_w w_space w_beam w_door w_law w_used w_pipes w_drilled w_total w_open w_pipeInches w_pipeChances w_weights w_woods w_sums)) [2, 3, 4, 5, 6, 7] (by decide) rfl
        refine zcv hA hDw hS (zrunV (As := [.int r_1, .int r_3, .int r_5]) (rest := []) S hK hA hE hPw hDw hS (mX3_takeTelling l D cI cJ cC G a_w _ w_space w_beam w_door w_law w_used w_pipes w_drilled w_total w_open w_pipeInches w_pipeChances w_weights w_woods w_sums r_1 r_3 r_5 _ h) kX3_takeTelling ml_X2_128 ⟨rfl, rfl, by decide, by decide⟩ (q0 := 0) (ci := 3) rfl rfl rfl rfl hl.1 rfl (Nat.le_of_ble_eq_true rfl) dX2_readTelling_52 ⟨Nat.zero_le _, Nat.zero_le _⟩) (fun u H locs h hP1 hk1 hS => ?_)
        obtain ⟨w_used_10, w_drilled_11, w_total_12, w_open_13, w_weights_14, w_sums_15⟩ := u
        dsimp only at h
        have hP : va_P D vwCl ((bX2 cI cJ cC a_s s_length s_place_7 s_signs) ++ (bX3 cI cJ cC a_w w_space w_beam w_door w_law w_used_10 w_pipes w_drilled_11 w_total_12 w_open_13 w_pipeInches w_pipeChances w_weights_14 w_woods w_sums_15)) H := zMerge hP (hDD _ rfl) [2, 3, 4, 5, 6, 7] rfl rfl hk1 hP1
        refine lv_iconst (v := (1 : Int32)) hx hb dX2_readTelling_55 (by decide) ?_
        exact hret (1 : Int32) (s_place_7, w_used_10, w_drilled_11, w_total_12, w_open_13, w_weights_14, w_sums_15) _ _ _ _ rfl h hP hS dX2_readTelling_56
      · replace h := h.2 z
        refine lv_iconst (v := (0 : Int32)) hx hb dX2_readTelling_45 (by decide) ?_
        exact hret (0 : Int32) (s_place_7, w_used, w_drilled, w_total, w_open, w_weights, w_sums) _ _ _ _ rfl h hP hS dX2_readTelling_46
def wpX2_readPipe (post : Int32 → Int32 → Int32 → (Nat → Int32) → (Nat → Int32) → Prop) (s_length : Int32) (s_place : Int32) (s_signs : Nat → Int32) (w_pipes : Int32) (w_pipeInches : Nat → Int32) (w_pipeChances : Nat → Int32) : Prop := wpX2_readNumber (fun (r_1 : Int32) (s_place_2 : Int32) => wpX2_readNumber (fun (r_3 : Int32) (s_place_4 : Int32) => wpX2_skipSign (fun (s_place_5 : Int32) => wpX4_isNoInch (fun (r_6 : Int32) => ((r_6 = (0 : Int32) → (wpX3_hasRoomForPipe (fun (r_7 : Int32) => ((r_7 = (0 : Int32) → (post (0 : Int32) s_place_5 w_pipes w_pipeInches w_pipeChances)) ∧ (¬ (r_7 = (0 : Int32)) → (wpX3_takePipe (fun (w_pipes_8 : Int32) (w_pipeInches_9 : Nat → Int32) (w_pipeChances_10 : Nat → Int32) => post (1 : Int32) s_place_5 w_pipes_8 w_pipeInches_9 w_pipeChances_10) w_pipes w_pipeInches w_pipeChances r_1 r_3)))) w_pipes)) ∧ (¬ (r_6 = (0 : Int32)) → (post (0 : Int32) s_place_5 w_pipes w_pipeInches w_pipeChances)))) r_1) s_place_4) s_length s_place_2 s_signs (1 : Int32)) s_length s_place s_signs (2 : Int32)
set_option maxHeartbeats 4000000 in
set_option maxRecDepth 100000 in
theorem mX2_readPipe (l : Launch) (D : va_G) (cI cJ cC : ClassId) (G : Nat → Nat → Nat) (a_s : Nat → Nat) (a_w : Nat → Nat) (sz : Nat) (s_length : Int32) (s_place : Int32) (s_signs : Nat → Int32) (w_space : Int32) (w_beam : Int32) (w_door : Int32) (w_law : Int32) (w_used : Int32) (w_pipes : Int32) (w_drilled : Int64) (w_total : Int64) (w_open : Int32) (w_pipeInches : Nat → Int32) (w_pipeChances : Nat → Int32) (w_weights : Nat → Int64) (w_woods : Nat → Int32) (w_sums : Nat → Int64) (post : Int32 → Int32 → Int32 → (Nat → Int32) → (Nat → Int32) → Prop) (h : wpX2_readPipe post s_length s_place s_signs w_pipes w_pipeInches w_pipeChances) : Met l yX2_readPipe (wz yX2_readPipe cX2_readPipe 4 (some .boolean)) ({ frames := 2, cells := 0, slots := 0, locals := 44 }) (va_Pc [.ref (a_s 0), .ref (a_w 0)] (PW D (tz cI cJ cC) G ((bX2 cI cJ cC a_s s_length s_place s_signs) ++ (bX3 cI cJ cC a_w w_space w_beam w_door w_law w_used w_pipes w_drilled w_total w_open w_pipeInches w_pipeChances w_weights w_woods w_sums)) sz)) (va_Qi (fun (r : Int32) (u : Int32 × Int32 × (Nat → Int32) × (Nat → Int32)) => post r u.1 u.2.1 u.2.2.1 u.2.2.2) (fun (u : Int32 × Int32 × (Nat → Int32) × (Nat → Int32)) t => va_P D vwCl ((bX2 cI cJ cC a_s s_length u.1 s_signs) ++ (bX3 cI cJ cC a_w w_space w_beam w_door w_law w_used u.2.1 w_drilled w_total w_open u.2.2.1 u.2.2.2 w_weights w_woods w_sums)) t.heap) (va_A ((bX2 cI cJ cC a_s s_length s_place s_signs) ++ (bX3 cI cJ cC a_w w_space w_beam w_door w_law w_used w_pipes w_drilled w_total w_open w_pipeInches w_pipeChances w_weights w_woods w_sums)) sz)) 0 0 (va_A ((bX2 cI cJ cC a_s s_length s_place s_signs) ++ (bX3 cI cJ cC a_w w_space w_beam w_door w_law w_used w_pipes w_drilled w_total w_open w_pipeInches w_pipeChances w_weights w_woods w_sums)) sz) := by
  refine zmi (gw := fun (u : Int32 × Int32 × (Nat → Int32) × (Nat → Int32)) => (bX2 cI cJ cC a_s s_length u.1 s_signs) ++ (bX3 cI cJ cC a_w w_space w_beam w_door w_law w_used u.2.1 w_drilled w_total w_open u.2.2.1 u.2.2.2 w_weights w_woods w_sums)) (plainFor_of_name (by decide)) (Nat.le_of_ble_eq_true rfl) ?_
  intro p e s m below meth c A Q ls S hK hD hA hE hP hl hret
  obtain ⟨hx, hb, hml, hown, ht⟩ := id S
  have hS : va_S A s.heap s.heap [] := va_S.rf
  have hDD : ∀ ws : va_W, ws.map (fun q => q.1) = [a_s 0, a_s 1, a_w 0, a_w 1, a_w 2, a_w 3, a_w 4, a_w 5] → va_D A ws := fun ws hw => zD hD (hw.trans rfl)
  have hl : lv_has ls 4 [(0, .ref (a_s 0)), (1, .ref (a_w 0))] := hl
  unfold wpX2_readPipe at h
  refine lv_aload_n hx hb dX2_readPipe_0 rfl (lv_at hl 0 rfl) ?_
  refine lv_iconst (v := (2 : Int32)) hx hb dX2_readPipe_1 (by decide) ?_
  have hPw : va_P D vwCl ((bX2 cI cJ cC a_s s_length s_place s_signs)) _ := hP.sub [0, 1] rfl
  have hDw : va_D A ((bX2 cI cJ cC a_s s_length s_place s_signs)) := (hDD _ rfl).sub (ws := (bX2 cI cJ cC a_s s_length s_place s_signs) ++ (bX3 cI cJ cC a_w w_space w_beam w_door w_law w_used w_pipes w_drilled w_total w_open w_pipeInches w_pipeChances w_weights w_woods w_sums)) [0, 1] (by decide) rfl
  refine zci hA hDw hS (zrunV (As := [.int (2 : Int32)]) (rest := []) S hK hA hE hPw hDw hS (mX2_readNumber l D cI cJ cC G a_s _ s_length s_place s_signs (2 : Int32) _ h) kX2_readNumber ml_X2_91 ⟨rfl, rfl, by decide, by decide⟩ (q0 := 0) (ci := 2) rfl rfl rfl rfl hl.1 rfl (Nat.le_of_ble_eq_true rfl) dX2_readPipe_2 ⟨Nat.zero_le _, Nat.zero_le _⟩) (fun r_1 s_place_2 H locs h hP1 hk1 hS => ?_)
  try dsimp only at h
  have hP : va_P D vwCl ((bX2 cI cJ cC a_s s_length s_place_2 s_signs) ++ (bX3 cI cJ cC a_w w_space w_beam w_door w_law w_used w_pipes w_drilled w_total w_open w_pipeInches w_pipeChances w_weights w_woods w_sums)) H := zMerge hP (hDD _ rfl) [0, 1] rfl rfl hk1 hP1
  refine lv_istore_n (lv' := [(2, .int r_1), (0, .ref (a_s 0)), (1, .ref (a_w 0))]) hx hb dX2_readPipe_5 rfl hl (by decide) rfl (fun ls hl => ?_)
  refine lv_aload_n hx hb dX2_readPipe_6 rfl (lv_at hl 1 rfl) ?_
  refine lv_iconst (v := (1 : Int32)) hx hb dX2_readPipe_7 (by decide) ?_
  have hPw : va_P D vwCl ((bX2 cI cJ cC a_s s_length s_place_2 s_signs)) _ := hP.sub [0, 1] rfl
  have hDw : va_D A ((bX2 cI cJ cC a_s s_length s_place_2 s_signs)) := (hDD _ rfl).sub (ws := (bX2 cI cJ cC a_s s_length s_place_2 s_signs) ++ (bX3 cI cJ cC a_w w_space w_beam w_door w_law w_used w_pipes w_drilled w_total w_open w_pipeInches w_pipeChances w_weights w_woods w_sums)) [0, 1] (by decide) rfl
  refine zci hA hDw hS (zrunV (As := [.int (1 : Int32)]) (rest := []) S hK hA hE hPw hDw hS (mX2_readNumber l D cI cJ cC G a_s _ s_length s_place_2 s_signs (1 : Int32) _ h) kX2_readNumber ml_X2_91 ⟨rfl, rfl, by decide, by decide⟩ (q0 := 0) (ci := 2) rfl rfl rfl rfl hl.1 rfl (Nat.le_of_ble_eq_true rfl) dX2_readPipe_8 ⟨Nat.zero_le _, Nat.zero_le _⟩) (fun r_3 s_place_4 H locs h hP1 hk1 hS => ?_)
  try dsimp only at h
  have hP : va_P D vwCl ((bX2 cI cJ cC a_s s_length s_place_4 s_signs) ++ (bX3 cI cJ cC a_w w_space w_beam w_door w_law w_used w_pipes w_drilled w_total w_open w_pipeInches w_pipeChances w_weights w_woods w_sums)) H := zMerge hP (hDD _ rfl) [0, 1] rfl rfl hk1 hP1
  refine lv_istore_n (lv' := [(3, .int r_3), (2, .int r_1), (0, .ref (a_s 0)), (1, .ref (a_w 0))]) hx hb dX2_readPipe_11 rfl hl (by decide) rfl (fun ls hl => ?_)
  refine lv_aload_n hx hb dX2_readPipe_12 rfl (lv_at hl 2 rfl) ?_
  have hPw : va_P D vwCl ((bX2 cI cJ cC a_s s_length s_place_4 s_signs)) _ := hP.sub [0, 1] rfl
  have hDw : va_D A ((bX2 cI cJ cC a_s s_length s_place_4 s_signs)) := (hDD _ rfl).sub (ws := (bX2 cI cJ cC a_s s_length s_place_4 s_signs) ++ (bX3 cI cJ cC a_w w_space w_beam w_door w_law w_used w_pipes w_drilled w_total w_open w_pipeInches w_pipeChances w_weights w_woods w_sums)) [0, 1] (by decide) rfl
  refine zcv hA hDw hS (zrunV (As := []) (rest := []) S hK hA hE hPw hDw hS (mX2_skipSign l D cI cJ cC G a_s _ s_length s_place_4 s_signs _ h) kX2_skipSign ml_X2_69 ⟨rfl, rfl, by decide, by decide⟩ (q0 := 0) (ci := 2) rfl rfl rfl rfl hl.1 rfl (Nat.le_of_ble_eq_true rfl) dX2_readPipe_13 ⟨Nat.zero_le _, Nat.zero_le _⟩) (fun s_place_5 H locs h hP1 hk1 hS => ?_)
  try dsimp only at h
  have hP : va_P D vwCl ((bX2 cI cJ cC a_s s_length s_place_5 s_signs) ++ (bX3 cI cJ cC a_w w_space w_beam w_door w_law w_used w_pipes w_drilled w_total w_open w_pipeInches w_pipeChances w_weights w_woods w_sums)) H := zMerge hP (hDD _ rfl) [0, 1] rfl rfl hk1 hP1
  refine lv_iload_n hx hb dX2_readPipe_16 rfl (lv_at hl 1 rfl) ?_
  refine zci hA zD0 hS (zrunN (As := [.int r_1]) (rest := []) S hK hA hE zP0 zD0 hS (mX4_isNoInch l D cI cJ cC G _ r_1 _ h) kX4_isNoInch 6 rfl ⟨rfl, rfl, by decide, by decide⟩ rfl hl.1 rfl (Nat.le_of_ble_eq_true rfl) dX2_readPipe_17 ⟨Nat.zero_le _, Nat.zero_le _⟩) (fun r_6 u H locs h hP1 hk1 hS => ?_)
  try dsimp only at h
  have hP : va_P D vwCl ((bX2 cI cJ cC a_s s_length s_place_5 s_signs) ++ (bX3 cI cJ cC a_w w_space w_beam w_door w_law w_used w_pipes w_drilled w_total w_open w_pipeInches w_pipeChances w_weights w_woods w_sums)) H := zKeep hP hk1
  refine lv_if_ne (tgt := 30) hx hb dX2_readPipe_20 (by decide) (fun z => ?_) (fun z => ?_)
  · replace h := h.2 z
    refine lv_iconst (v := (0 : Int32)) hx hb dX2_readPipe_30 (by decide) ?_
    exact hret (0 : Int32) (s_place_5, w_pipes, w_pipeInches, w_pipeChances) _ _ _ _ rfl h hP hS dX2_readPipe_31
  · replace h := h.1 z
    refine lv_aload_n hx hb dX2_readPipe_23 rfl (lv_at hl 3 rfl) ?_
    have hPw : va_P D vwCl ((bX3 cI cJ cC a_w w_space w_beam w_door w_law w_used w_pipes w_drilled w_total w_open w_pipeInches w_pipeChances w_weights w_woods w_sums)) _ := hP.sub [2, 3, 4, 5, 6, 7] rfl
    have hDw : va_D A ((bX3 cI cJ cC a_w w_space w_beam w_door w_law w_used w_pipes w_drilled w_total w_open w_pipeInches w_pipeChances w_weights w_woods w_sums)) := (hDD _ rfl).sub (ws := (bX2 cI cJ cC a_s s_length s_place_5 s_signs) ++ (bX3 cI cJ cC a_w w_space w_beam w_door w_law w_used w_pipes w_drilled w_total w_open w_pipeInches w_pipeChances w_weights w_woods w_sums)) [2, 3, 4, 5, 6, 7] (by decide) rfl
    refine zci hA hDw hS (zrunV (As := []) (rest := []) S hK hA hE hPw hDw hS (mX3_hasRoomForPipe l D cI cJ cC G a_w _ w_space w_beam w_door w_law w_used w_pipes w_drilled w_total w_open w_pipeInches w_pipeChances w_weights w_woods w_sums _ h) kX3_hasRoomForPipe ml_X2_140 ⟨rfl, rfl, by decide, by decide⟩ (q0 := 0) (ci := 3) rfl rfl rfl rfl hl.1 rfl (Nat.le_of_ble_eq_true rfl) dX2_readPipe_24 ⟨Nat.zero_le _, Nat.zero_le _⟩) (fun r_7 u H locs h hP1 hk1 hS => ?_)
    try dsimp only at h
    have hP : va_P D vwCl ((bX2 cI cJ cC a_s s_length s_place_5 s_signs) ++ (bX3 cI cJ cC a_w w_space w_beam w_door w_law w_used w_pipes w_drilled w_total w_open w_pipeInches w_pipeChances w_weights w_woods w_sums)) H := zMerge hP (hDD _ rfl) [2, 3, 4, 5, 6, 7] rfl rfl hk1 hP1
    refine lv_if_ne (tgt := 32) hx hb dX2_readPipe_27 (by decide) (fun z => ?_) (fun z => ?_)
    · replace h := h.2 z
      refine lv_aload_n hx hb dX2_readPipe_32 rfl (lv_at hl 3 rfl) ?_
      refine lv_iload_n hx hb dX2_readPipe_33 rfl (lv_at hl 1 rfl) ?_
      refine lv_iload_n hx hb dX2_readPipe_34 rfl (lv_at hl 0 rfl) ?_
      have hPw : va_P D vwCl ((bX3 cI cJ cC a_w w_space w_beam w_door w_law w_used w_pipes w_drilled w_total w_open w_pipeInches w_pipeChances w_weights w_woods w_sums)) _ := hP.sub [2, 3, 4, 5, 6, 7] rfl
      have hDw : va_D A ((bX3 cI cJ cC a_w w_space w_beam w_door w_law w_used w_pipes w_drilled w_total w_open w_pipeInches w_pipeChances w_weights w_woods w_sums)) := (hDD _ rfl).sub (ws := (bX2 cI cJ cC a_s s_length s_place_5 s_signs) ++ (bX3 cI cJ cC a_w w_space w_beam w_door w_law w_used w_pipes w_drilled w_total w_open w_pipeInches w_pipeChances w_weights w_woods w_sums)) [2, 3, 4, 5, 6, 7] (by decide) rfl
      refine zcv hA hDw hS (zrunV (As := [.int r_1, .int r_3]) (rest := []) S hK hA hE hPw hDw hS (mX3_takePipe l D cI cJ cC G a_w _ w_space w_beam w_door w_law w_used w_pipes w_drilled w_total w_open w_pipeInches w_pipeChances w_weights w_woods w_sums r_1 r_3 _ h) kX3_takePipe ml_X2_143 ⟨rfl, rfl, by decide, by decide⟩ (q0 := 0) (ci := 3) rfl rfl rfl rfl hl.1 rfl (Nat.le_of_ble_eq_true rfl) dX2_readPipe_35 ⟨Nat.zero_le _, Nat.zero_le _⟩) (fun u H locs h hP1 hk1 hS => ?_)
      obtain ⟨w_pipes_8, w_pipeInches_9, w_pipeChances_10⟩ := u
      dsimp only at h
      have hP : va_P D vwCl ((bX2 cI cJ cC a_s s_length s_place_5 s_signs) ++ (bX3 cI cJ cC a_w w_space w_beam w_door w_law w_used w_pipes_8 w_drilled w_total w_open w_pipeInches_9 w_pipeChances_10 w_weights w_woods w_sums)) H := zMerge hP (hDD _ rfl) [2, 3, 4, 5, 6, 7] rfl rfl hk1 hP1
      refine lv_iconst (v := (1 : Int32)) hx hb dX2_readPipe_38 (by decide) ?_
      exact hret (1 : Int32) (s_place_5, w_pipes_8, w_pipeInches_9, w_pipeChances_10) _ _ _ _ rfl h hP hS dX2_readPipe_39
    · replace h := h.1 z
      refine lv_iconst (v := (0 : Int32)) hx hb dX2_readPipe_30 (by decide) ?_
      exact hret (0 : Int32) (s_place_5, w_pipes, w_pipeInches, w_pipeChances) _ _ _ _ rfl h hP hS dX2_readPipe_31
