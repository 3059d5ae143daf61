/-! next, worth, kind -/
theorem sr_gb {S w hl pi pc : Nat → Nat} (g : okA S w hl pi pc) {k : Nat} (hk : k < 5) : sr_g S w k ≤ 255091680 := Nat.le_trans (Nat.sub_le _ _) (sr_vb g hk _)
theorem ph_next : PH_next RE := by
  intro v_T v_n v_k v_t v_s v_r v_c v_M p0 hR
  obtain ⟨S, w, hl, pi, pc, g1, g2, g3, g4, g5, g6, g7⟩ := id hR
  obtain ⟨c0, c1, c2, c3, c4, c5, c6, c7, c8, c9, c10, c11, c12, c13⟩ := id g2
  obtain ⟨m0, m1, m2, m3, m4, m5, m6⟩ := id g3
  refine inX (x := p0) 5 (by omega) (fun q => ?_) (fun k hk e => ?_)
  · refine sX4_isNoToolN q (br_f (by decide) (sX4_refuse 2 (by decide) rfl ?_))
    exact sX5_isInN 4 (by omega) rfl q (br_t rfl (sX5_no 2 (by decide) rfl ⟨rfl, S, w, hl, pi, pc, g1, g2, g3, g4, g5, rf_upd g6 2, g7⟩))
  · subst e
    refine sX4_isNoTool hk (br_t rfl (sX1_look g1 c11 c12 c13 hk (fun _ _ _ => ?_)))
    exact sX5_isIn0 (n := 4) (by omega) rfl hk (br_f (by decide) (sX5_findNext g1 m2 m6 hk (fun _ => ⟨rfl, S, w, hl, pi, pc, g1, g2, g3, g4, g5, g6, g7⟩)))
theorem ph_worth : PH_worth RE := by
  intro v_T v_n v_k v_t v_s v_r v_c v_M p0 p1 hR
  obtain ⟨S, w, hl, pi, pc, g1, g2, g3, g4, g5, g6, g7⟩ := id hR
  obtain ⟨c0, c1, c2, c3, c4, c5, c6, c7, c8, c9, c10, c11, c12, c13⟩ := id g2
  obtain ⟨m0, m1, m2, m3, m4, m5, m6⟩ := id g3
  have e7 : v_n.2.2.2.2.2.2.2.1 = lN (fb_sm w (S 0)) := c7
  have hs := sm_b g1
  refine inX (x := p0) 5 (by omega) (fun q => ?_) (fun k hk e => ?_)
  · refine sX4_isNoToolN q (br_f (by decide) (sX4_refuseLong 2 (by decide) rfl ?_))
    exact sX5_isInN 4 (by omega) rfl q (br_t rfl (sX5_lowest 2 (by decide) rfl ⟨rfl, S, w, hl, pi, pc, g1, g2, g3, g4, g5, rf_upd g6 2, g7⟩))
  · subst e
    refine sX4_isNoTool hk (br_t rfl ?_)
    refine inX (x := p1) 2 (by omega) (fun q => ?_) (fun i hi e => ?_)
    · refine sX4_isNoPartN q (br_f (by decide) (sX4_refuseLong 2 (by decide) rfl ?_))
      exact sX5_isIn0 (n := 4) (by omega) rfl hk (br_f (by decide) (sX5_isInN 1 (by omega) rfl q (br_t rfl (sX5_lowest 2 (by decide) rfl ⟨rfl, S, w, hl, pi, pc, g1, g2, g3, g4, g5, rf_upd g6 2, g7⟩))))
    · subst e
      have hg := sr_gb g1 hk
      refine sX4_isNoPart hi (br_t rfl (sX1_look g1 c11 c12 c13 hk (fun _ _ _ => ?_)))
      rw [e7, show (10 : Int64) = lN 10 from rfl, lN_mul]
      refine sX4_partOf (by omega) (by omega) hi ?_
      refine sX5_isIn0 (n := 4) (by omega) rfl hk (br_f (by decide) (sX5_isIn0 (n := 1) (by omega) rfl hi (br_f (by decide) (sX5_worthParts g1 m2 m6 hk (fun _ _ _ => sX5_all m2 g1.1 m6 (okA_w2 g1) ?_)))))
      rw [show (10 : Int64) = lN 10 from rfl, lN_mul]
      exact sX5_partOf (by omega) (by omega) hi ⟨rfl, S, w, hl, pi, pc, g1, g2, g3, g4, g5, g6, g7⟩
def sr_k (S w : Nat → Nat) : Nat → Nat
  | 0 => 0
  | n + 1 => if sr_g S w (n + 1) * tc (sr_k S w n) ≤ sr_g S w (sr_k S w n) * tc (n + 1) then sr_k S w n else n + 1
theorem sr_ks (S w : Nat → Nat) (n : Nat) : sr_k S w (n + 1) = if sr_g S w (n + 1) * tc (sr_k S w n) ≤ sr_g S w (sr_k S w n) * tc (n + 1) then sr_k S w n else n + 1 := rfl
theorem sr_kb (S w : Nat → Nat) : ∀ n, sr_k S w n ≤ n
  | 0 => Nat.le_refl _
  | n + 1 => by
    have := sr_kb S w n
    rw [sr_ks]
    split <;> omega
theorem tc_b {k : Nat} (hk : k < 5) : 1 ≤ tc k ∧ tc k ≤ 5 := by
  rcases (show k = 0 ∨ k = 1 ∨ k = 2 ∨ k = 3 ∨ k = 4 by omega) with rfl | rfl | rfl | rfl | rfl <;> decide
theorem sr_gt {S w hl pi pc : Nat → Nat} (g : okA S w hl pi pc) {k j : Nat} (hk : k < 5) (hj : j < 5) : sr_g S w k * tc j ≤ 255091680 * 5 := Nat.mul_le_mul (sr_gb g hk) (tc_b hj).2
theorem lX4_kind {S w hl pi pc : Nat → Nat} (g : okA S w hl pi pc) {Mw Ms : Nat → Int64} {wo : Nat → Int32} (hM : ∀ o, o < 24 → Mw o = lN (if o < S 0 then w o else 0)) (hwo : ∀ x, x < 48 → wo x = nI (bo (wd S x) (S 0))) (hMs : ∀ x, x < 48 → Ms x = lN (sw S w x)) {K : Int32 → Int64 → Int32 → Int32 → Int64 → Int32 → (Nat → Int32) → (Nat → Int64) → Prop} (h : ∀ a b c e f x y, K (nI (sr_k S w 4)) x y a b c e f) : ∀ d i a b c e f, i + d = 4 → lpX4_kind_7 K Mw wo Ms (d + 1) (nI (sr_k S w i)) (lN (sr_g S w (sr_k S w i))) (nI (i + 1)) a b c e f := by
  intro d
  induction d with
  | zero =>
    intro i a b c e f hi
    have e : i = 4 := by omega
    subst e
    rw [lpX4_kind_7]
    exact br_t (by decide) (h _ _ _ _ _ _ _)
  | succ d ih =>
    intro i a b c e f hi
    have hkb := sr_kb S w i
    have t1 := (tc_b (k := i + 1) (by omega)).2
    have t2 := (tc_b (k := sr_k S w i) (by omega)).2
    have b1 := sr_gt g (k := i + 1) (j := sr_k S w i) (by omega) (by omega)
    have b2 := sr_gt g (k := sr_k S w i) (j := i + 1) (by omega) (by omega)
    rw [lpX4_kind_7]
    refine br_f (nI_ge (a := i + 1) (b := 5) (by omega) (by omega)) (sX1_look g hM hwo hMs (by omega) (fun c1 c2 c3 => ⟨vp_in_nI (by omega) (by omega), vp_in_nI (by omega) (by omega), ?_⟩))
    rw [tc_c _ (by omega), tc_c _ (by omega), i2l (by omega), i2l (by omega), lN_mul, lN_mul, nI_1]
    have ih := fun a b c e f => ih (i + 1) a b c e f (by omega)
    by_cases q : sr_g S w (i + 1) * tc (sr_k S w i) ≤ sr_g S w (sr_k S w i) * tc (i + 1)
    · rw [sr_ks, if_pos q] at ih
      exact br_t ((lN_le' (by omega) (by omega)).mpr q) (ih _ _ _ _ _)
    · rw [sr_ks, if_neg q] at ih
      exact br_f (fun z => q ((lN_le' (by omega) (by omega)).mp z)) (ih _ _ _ _ _)
theorem sX4_kind0 {S w hl pi pc : Nat → Nat} (g : okA S w hl pi pc) {Mw Ms : Nat → Int64} {wo : Nat → Int32} (hM : ∀ o, o < 24 → Mw o = lN (if o < S 0 then w o else 0)) (hwo : ∀ x, x < 48 → wo x = nI (bo (wd S x) (S 0))) (hMs : ∀ x, x < 48 → Ms x = lN (sw S w x)) {K : Int32 → Int64 → Int32 → Int32 → Int64 → Int32 → (Nat → Int32) → (Nat → Int64) → Prop} (h : ∀ a b c e f x y, K (nI (sr_k S w 4)) x y a b c e f) (a : Int32) (b : Int64) (c : Int32) (e : Nat → Int32) (f : Nat → Int64) : lpX4_kind_7 K Mw wo Ms 6 0 0 0 a b c e f := by
  have b1 := sr_gb g (k := 0) (by omega)
  rw [lpX4_kind_7]
  refine br_f (by decide) (sX1_look (k := 0) g hM hwo hMs (by omega) (fun c1 c2 c3 => ⟨vp_in_nI (n := 0) (by omega) (by omega), vp_in_nI (n := 0) (by omega) (by omega), ?_⟩))
  have go := fun a b c e f => lX4_kind g hM hwo hMs h 4 0 a b c e f (by omega)
  have e0 : sr_k S w 0 = 0 := rfl
  rw [e0] at go
  have e1 : (([1, 3, 2, 1, 5] : List Int32).getD (0 : Int32).toNatClampNeg 0).toInt64 = lN 1 := by decide
  rw [e1, show (0 : Int64) = lN 0 from rfl, lN_mul, lN_mul, Nat.mul_one, Nat.zero_mul]
  by_cases q : sr_g S w 0 = 0
  · rw [q] at go ⊢
    exact br_t (by decide) (go _ _ _ _ _)
  · exact br_f (fun z => q (Nat.le_zero.mp ((lN_le' (b := 0) (by omega) (by omega)).mp z))) (go _ _ _ _ _)
theorem lX5_kind {S w hl pi pc : Nat → Nat} (g : okA S w hl pi pc) {M Mw : Nat → Int32} (hS : rS S M) (hw : rN (S 0) w Mw) {K : Int32 → Int64 → Int32 → Int32 → Int64 → (Nat → Int64) → Prop} (h : ∀ a b c x y, K (nI (sr_k S w 4)) x y a b c) : ∀ d i a b c, i + d = 4 → lpX5_kind_11 K M Mw (d + 1) (nI (sr_k S w i)) (lN (sr_g S w (sr_k S w i))) (nI (i + 1)) a b c := by
  intro d
  induction d with
  | zero =>
    intro i a b c hi
    have e : i = 4 := by omega
    subst e
    rw [lpX5_kind_11]
    exact br_t (by decide) (h _ _ _ _ _)
  | succ d ih =>
    intro i a b c hi
    have hkb := sr_kb S w i
    have t1 := (tc_b (k := i + 1) (by omega)).2
    have t2 := (tc_b (k := sr_k S w i) (by omega)).2
    have b1 := sr_gt g (k := i + 1) (j := sr_k S w i) (by omega) (by omega)
    have b2 := sr_gt g (k := sr_k S w i) (j := i + 1) (by omega) (by omega)
    rw [lpX5_kind_11]
    refine br_f (nI_nlt (a := 4) (b := i + 1) (by omega) (by omega)) (sX5_worthParts g hS hw (by omega) (fun a b c => sX5_costOf (by omega) (sX5_costOf (by omega) ?_)))
    rw [i2l (by omega), i2l (by omega), lN_mul, lN_mul, nI_1]
    have ih := ih (i + 1) a b c (by omega)
    by_cases q : sr_g S w (i + 1) * tc (sr_k S w i) ≤ sr_g S w (sr_k S w i) * tc (i + 1)
    · rw [sr_ks, if_pos q] at ih
      exact br_f (fun z => by have := (lN_lt' (by omega) (by omega)).mp z; omega) ih
    · rw [sr_ks, if_neg q] at ih
      exact br_t ((lN_lt' (by omega) (by omega)).mpr (by omega)) ih
theorem ph_kind : PH_kind RE := by
  intro v_T v_n v_k v_t v_s v_r v_c v_M hR
  obtain ⟨S, w, hl, pi, pc, g1, g2, g3, g4, g5, g6, g7⟩ := id hR
  obtain ⟨c0, c1, c2, c3, c4, c5, c6, c7, c8, c9, c10, c11, c12, c13⟩ := id g2
  obtain ⟨m0, m1, m2, m3, m4, m5, m6⟩ := id g3
  refine ⟨6, sX4_kind0 g1 c11 c12 c13 (fun _ _ _ _ _ _ _ => ?_) _ _ _ _ _⟩
  refine sX5_worthParts (k := 0) g1 m2 m6 (by omega) (fun a b c => ⟨5, ?_⟩)
  exact lX5_kind g1 m2 m6 (fun _ _ _ _ _ => ⟨rfl, S, w, hl, pi, pc, g1, g2, g3, g4, g5, g6, g7⟩) 4 0 a b c (by omega)
