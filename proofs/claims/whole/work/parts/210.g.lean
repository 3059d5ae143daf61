/-! holes -/
abbrev hb (hl : Nat → Nat) : Nat → Bool := fun x => decide (hl x = 1)
def hw (hl : Nat → Nat) (s m : Nat) : Nat := fb_sm (fun k => hl (s + k)) m
theorem fb_z {f : Nat → Nat} {n : Nat} (h : ∀ k, k < n → f k = 0) : fb_sm f n = 0 := by
  rw [fb_sm_cong (g := fun _ => 0) h, fb_sm_const, Nat.mul_zero]
theorem hb_n {hl : Nat → Nat} (h : ∀ x, hl x ≤ 1) (x : Nat) : (decide (hl x = 1)).toNat = hl x := by
  have := h x
  by_cases e : hl x = 1
  · rw [decide_eq_true e, e]; rfl
  · rw [decide_eq_false e, show hl x = 0 by omega]; rfl
theorem pn_bo (p : Nat → Bool) {n N : Nat} (h : n ≤ N) : pn (bo p n) N = fb_sm (fun i => (p i).toNat) n := by
  obtain ⟨d, rfl⟩ : ∃ d, N = n + d := ⟨N - n, by omega⟩
  show fb_sm _ (n + d) = _
  rw [fb_sm_split, fb_z (n := d) (fun k hk => ?_), Nat.add_zero]
  · apply fb_sm_cong
    intro k hk
    rw [bo_test, decide_eq_true hk, Bool.true_and]
  · rw [bo_test, decide_eq_false (by omega), Bool.false_and]; rfl
theorem pn_w {hl : Nat → Nat} (h1 : ∀ x, hl x ≤ 1) {s m : Nat} (h : s + m ≤ 48) : pn (bo (hb hl) 48 &&& ((2 ^ m - 1) * 2 ^ s)) 64 = hw hl s m := by
  have t : ∀ i, (bo (hb hl) 48 &&& ((2 ^ m - 1) * 2 ^ s)).testBit i = ((decide (i < 48) && decide (hl i = 1)) && (decide (i ≥ s) && decide (i - s < m))) := fun i => by
    rw [Nat.testBit_and, bo_test, Nat.testBit_mul_two_pow, Nat.testBit_two_pow_sub_one]
  have e : 64 = s + (m + (64 - s - m)) := by omega
  unfold pn
  rw [e, fb_sm_split, fb_sm_split, fb_z (n := s) (fun k hk => ?_), fb_z (n := 64 - s - m) (fun k hk => ?_), Nat.zero_add, Nat.add_zero]
  · apply fb_sm_cong
    intro k hk
    rw [t, decide_eq_true (by omega : s + k < 48), decide_eq_true (by omega : s + k ≥ s), decide_eq_true (by omega : s + k - s < m), Bool.true_and, Bool.and_self, Bool.and_true, hb_n h1]
  · rw [t, decide_eq_false (by omega : ¬ s + (m + k) - s < m), Bool.and_false, Bool.and_false]; rfl
  · rw [t, decide_eq_false (by omega : ¬ k ≥ s), Bool.false_and, Bool.and_false]; rfl
theorem sX3_holesWithin {hl : Nat → Nat} (h1 : ∀ x, hl x ≤ 1) {D : Int64} (eD : D = lN (bo (hb hl) 48)) {s m : Nat} (h : s + m ≤ 48) {post : Int32 → Prop} (hp : post (nI (hw hl s m))) : wpX3_holesWithin post D (nI s) (nI m) := by
  unfold wpX3_holesWithin
  have z : (1 : Int64) <<< ((nI m).toInt64 &&& 63) = lN (1 * 2 ^ m) := wb_shl 1 (by omega)
  have hm : 2 ^ m ≤ 2 ^ 48 := Nat.pow_le_pow_right (by decide) (by omega)
  have hm0 : 0 < 2 ^ m := Nat.two_pow_pos m
  rw [eD, z, Nat.one_mul, show (1 : Int64) = lN 1 from rfl, lN_sub (show 1 ≤ 2 ^ m from hm0), wb_shl _ (by omega), fb_andL]
  have hlt := bo_lt (hb hl) 48
  have hle : bo (hb hl) 48 &&& ((2 ^ m - 1) * 2 ^ s) ≤ bo (hb hl) 48 := Nat.and_le_left
  refine sJ13 (by omega) ?_
  rw [pn_w h1 h]
  exact hp
theorem hw_1 (hl : Nat → Nat) (x : Nat) : hw hl x 1 = hl x := by
  show 0 + hl (x + 0) = hl x
  rw [Nat.zero_add, Nat.add_zero]
theorem hw_48 (hl : Nat → Nat) : hw hl 0 48 = fb_sm hl 48 := fb_sm_cong (fun k _ => by rw [Nat.zero_add])
theorem sX3_allHoles {hl : Nat → Nat} (h1 : ∀ x, hl x ≤ 1) {D : Int64} (eD : D = lN (bo (hb hl) 48)) {post : Int32 → Prop} (hp : post (nI (fb_sm hl 48))) : wpJ13_bitCount_95d88 post D := by
  subst eD
  have hlt := bo_lt (hb hl) 48
  refine sJ13 (by omega) ?_
  rw [pn_bo _ (by omega), fb_sm_cong (fun k _ => hb_n h1 k)]
  exact hp
theorem lX5_holesMany {hl : Nat → Nat} {M : Nat → Int32} (hM : rN 48 hl M) {K : Int32 → Int32 → Prop} (h : K (nI (fb_sm hl 48)) (nI 48)) : ∀ d i, i + d = 48 → lpX5_holesMany_4 K M (d + 1) (nI (fb_sm hl i)) (nI i) := by
  intro d
  induction d with
  | zero =>
    intro i hi
    have e : i = 48 := by omega
    subst e
    rw [lpX5_holesMany_4]
    exact br_t (by decide) h
  | succ d ih =>
    intro i hi
    rw [lpX5_holesMany_4]
    refine br_f (nI_ge (a := i) (b := 48) (by omega) (by omega)) ⟨vp_in_nI (by omega) (by omega), ?_⟩
    rw [nI_clamp (by omega), hM i (by omega), nI_add, nI_1]
    exact ih (i + 1) (by omega)
theorem sX5_holesMany {hl : Nat → Nat} {M : Nat → Int32} (hM : rN 48 hl M) {post : Int32 → Prop} (h : post (nI (fb_sm hl 48))) : wpX5_holesMany post M :=
  ⟨49, lX5_holesMany (K := fun v _ => post v) hM h 48 0 (by omega)⟩
theorem lX5_covered {hl : Nat → Nat} {M : Nat → Int32} (hM : rN 48 hl M) {s m : Nat} (hs : s + m ≤ 48) {K : Int32 → Int32 → Prop} (h : K (nI (hw hl s m)) (nI (s + m))) : ∀ d i, i + d = m → lpX5_covered_5 K (nI s) (nI m) M (d + 1) (nI (hw hl s i)) (nI (s + i)) := by
  intro d
  induction d with
  | zero =>
    intro i hi
    have e : i = m := by omega
    subst e
    rw [lpX5_covered_5, nI_add]
    exact br_t (nI_le (Nat.le_refl _) (by omega)) h
  | succ d ih =>
    intro i hi
    rw [lpX5_covered_5, nI_add]
    refine br_f (nI_ge (by omega) (by omega)) ⟨vp_in_nI (by omega) (by omega), ?_⟩
    rw [nI_clamp (by omega), hM (s + i) (by omega), nI_add, nI_1]
    exact ih (i + 1) (by omega)
theorem sX5_covered {hl : Nat → Nat} {M : Nat → Int32} (hM : rN 48 hl M) {s m : Nat} (hs : s + m ≤ 48) {post : Int32 → Prop} (h : post (nI (hw hl s m))) : wpX5_covered post M (nI s) (nI m) :=
  ⟨m + 1, lX5_covered (K := fun v _ => post v) hM hs h m 0 (by omega)⟩
theorem ph_hole : PH_hole RE := by
  intro v_T v_n v_k v_t v_s v_r v_c v_M p0 hR
  obtain ⟨S, w, hl, pi, pc, g1, g2, g3, g4, g5, g6, g7⟩ := id hR
  obtain ⟨a1, a2, a3, a4, a5, a6, a7⟩ := id g1
  obtain ⟨c0, c1, c2, c3, c4, c5, c6, c7, c8, c9, c10, c11, c12, c13⟩ := id g2
  obtain ⟨m0, m1, m2, m3, m4, m5, m6⟩ := id g3
  refine inX (x := p0) 48 (by omega) (fun q => ?_) (fun j hj e => ?_)
  · refine sX4_isNoInchN q (br_f (by decide) (sX4_refuse 1 (by decide) rfl ?_))
    exact sX5_isInchN q (br_t rfl (sX5_no 1 (by decide) rfl ⟨rfl, S, w, hl, pi, pc, g1, g2, g3, g4, g5, rf_upd g6 1, g7⟩))
  · subst e
    refine sX4_isNoInch hj (br_t rfl (sX3_holesWithin (m := 1) a7 c6 (by omega) ?_))
    refine sX5_isInch hj (br_f (by decide) ⟨vp_in_nI hj (by omega), ?_, hR⟩)
    rw [hw_1, nI_clamp (by omega)]
    exact (m3 j hj).symm
theorem lX5_fill {K : Int32 → (Nat → Int32) → Prop} (h : ∀ M, rN 48 (fun _ => 0) M → K (nI 48) M) : ∀ d i M, i + d = 48 → rN i (fun _ => 0) M → lpX5_fill_7 K (d + 1) (nI i) M := by
  intro d
  induction d with
  | zero =>
    intro i M hi hM
    have e : i = 48 := by omega
    subst e
    rw [lpX5_fill_7]
    exact br_t (by decide) (h M hM)
  | succ d ih =>
    intro i M hi hM
    rw [lpX5_fill_7]
    refine br_f (nI_ge (a := i) (b := 48) (by omega) (by omega)) ⟨vp_in_nI (by omega) (by omega), ?_⟩
    rw [nI_1]
    refine ih (i + 1) _ (by omega) ?_
    intro x hx
    rw [nI_clamp (by omega)]
    by_cases e : x = i
    · subst e; rw [pk_us]; rfl
    · rw [pk_un e]; exact hM x (by omega)
theorem hz0 : (0 : Int64) = lN (bo (fun _ => decide ((0 : Nat) = 1)) 48) := by decide +kernel
theorem ph_fill : PH_fill RE := by
  intro v_T v_n v_k v_t v_s v_r v_c v_M hR
  obtain ⟨S, w, hl, pi, pc, g1, g2, g3, g4, g5, g6, g7⟩ := id hR
  obtain ⟨a1, a2, a3, a4, a5, a6, a7⟩ := id g1
  obtain ⟨c0, c1, c2, c3, c4, c5, c6, c7, c8, c9, c10, c11, c12, c13⟩ := id g2
  obtain ⟨m0, m1, m2, m3, m4, m5, m6⟩ := id g3
  refine sX3_allHoles a7 c6 (sX5_holesMany m3 ⟨49, lX5_fill (fun M hM => ?_) 48 0 _ (by omega) (fun x hx => absurd hx (Nat.not_lt_zero x))⟩)
  exact ⟨rfl, S, w, fun _ => 0, pi, pc, ⟨a1, a2, a3, a4, a5, a6, fun _ => Nat.zero_le 1⟩, ⟨c0, c1, c2, c3, c4, c5, hz0, c7, c8, c9, c10, c11, c12, c13⟩, ⟨m0, m1, m2, hM, m4, m5, m6⟩, g4, g5, g6, g7⟩
/-! covers -/
theorem ph_covers : PH_covers RE := by
  intro v_T v_n v_k v_t v_s v_r v_c v_M p0 p1 hR
  obtain ⟨S, w, hl, pi, pc, g1, g2, g3, g4, g5, g6, g7⟩ := id hR
  obtain ⟨a1, a2, a3, a4, a5, a6, a7⟩ := id g1
  obtain ⟨c0, c1, c2, c3, c4, c5, c6, c7, c8, c9, c10, c11, c12, c13⟩ := id g2
  obtain ⟨m0, m1, m2, m3, m4, m5, m6⟩ := id g3
  by_cases q1 : p0 < 0
  · exact br_t q1 (sX4_refuse 4 (by decide) rfl (br_t q1 (sX5_no 4 (by decide) rfl ⟨rfl, S, w, hl, pi, pc, g1, g2, g3, g4, g5, rf_upd g6 4, g7⟩)))
  · by_cases q2 : 1 ≤ p1
    · by_cases q3 : 40 < p1
      · exact br_f q1 (br_t q2 (br_t q3 (sX4_refuse 6 (by decide) rfl (br_f q1 (br_t q2 (br_t q3 (sX5_no 6 (by decide) rfl ⟨rfl, S, w, hl, pi, pc, g1, g2, g3, g4, g5, rf_upd g6 6, g7⟩)))))))
      · obtain ⟨m, hm, em⟩ := nI_of2 (x := p1) (M := 40) (n := 40) (by decide) (fun z => Int32.not_le.mpr (Int32.lt_trans z (by decide : (0 : Int32) < 1)) q2) (Int32.not_lt.mp q3)
        obtain ⟨s, hs, es⟩ := nI_of q1
        subst em
        subst es
        have x1 : (48 : Int32) - nI m = nI (48 - m) := pk_sub (a := 48) (by omega)
        refine br_f q1 (br_t q2 (br_f q3 ?_))
        rw [x1]
        by_cases q4 : s ≤ 48 - m
        · refine br_t (nI_le q4 (by omega)) (sX3_holesWithin a7 c6 (by omega) ?_)
          refine br_f q1 (br_t q2 (br_f q3 (br_f (nI_nlt (a := 48) (b := s) (by omega) (by omega)) ?_)))
          rw [nI_add]
          exact br_t (nI_le (b := 48) (by omega) (by omega)) (sX5_covered m3 (by omega) ⟨rfl, hR⟩)
        · refine br_f (nI_ge (by omega) (by omega)) (sX4_refuse 6 (by decide) rfl ?_)
          refine br_f q1 (br_t q2 (br_f q3 ?_))
          by_cases q5 : 48 < s
          · exact br_t (nI_lt (a := 48) (b := s) (by omega) (by omega)) (sX5_no 6 (by decide) rfl ⟨rfl, S, w, hl, pi, pc, g1, g2, g3, g4, g5, rf_upd g6 6, g7⟩)
          · refine br_f (nI_nlt (a := 48) (b := s) (by omega) (by omega)) ?_
            rw [nI_add]
            exact br_f (nI_ge (b := s + m) (a := 48) (by omega) (by omega)) (sX5_no 6 (by decide) rfl ⟨rfl, S, w, hl, pi, pc, g1, g2, g3, g4, g5, rf_upd g6 6, g7⟩)
    · exact br_f q1 (br_f q2 (sX4_refuse 4 (by decide) rfl (br_f q1 (br_f q2 (sX5_no 4 (by decide) rfl ⟨rfl, S, w, hl, pi, pc, g1, g2, g3, g4, g5, rf_upd g6 4, g7⟩)))))
