/-! judge -/
def jd (P : Nat → Bool) : Nat → Nat → Int32
  | 0, _ => -9
  | d + 1, i => if P i then nI i else jd P d (i + 1)
abbrev jp (S w rw_ : Nat → Nat) : Nat → Bool := fun i => decide (bo (fl S w rw_ (i + 1)) (S 0) = 0)
theorem n9 {i : Nat} (h : i < 2 ^ 31) : ¬ nI i = -9 := fun z => by
  have := Int32.toInt_inj.mpr z
  rw [nI_toInt h, show (-9 : Int32).toInt = -9 by decide] at this
  omega
theorem lX4_judge {S w rw_ : Nat → Nat} (ok : okS S) {O : Int32} (eO : O = nI (bo (fun o => decide (0 < w o)) (S 0))) {wo R : Nat → Int32} (hwo : ∀ x, x < 48 → wo x = nI (bo (wd S x) (S 0))) {n : Nat} (hn : n ≤ 8) (hr : ∀ i, i < n → rw_ i < 100 ∧ R i = nI (rw_ i)) {K : Int32 → Int32 → Prop} : ∀ d i, i + d = n → (∀ c, K (jd (jp S w rw_) d i) c) → lpX4_judge_5 K O wo (nI n) R (d + 2) (-9) (nI i) := by
  intro d
  induction d with
  | zero =>
    intro i hi h
    have e : i = n := by omega
    subst e
    rw [lpX4_judge_5]
    exact br_t (nI_le (Nat.le_refl _) (by omega)) (h _)
  | succ d ih =>
    intro i hi h
    have hlt := bo_24 (p := fl S w rw_ (i + 1)) ok.2.1
    unfold jd at h
    rw [lpX4_judge_5]
    refine br_f (nI_ge (by omega) (by omega)) (br_t rfl ?_)
    rw [nI_1]
    refine sX0_fit ok eO hwo (by omega) (fun k hk => hr k (by omega)) ?_
    by_cases q : bo (fl S w rw_ (i + 1)) (S 0) = 0
    · rw [show jp S w rw_ i = true from decide_eq_true q, if_pos rfl] at h
      refine br_t ((nI0 (by omega)).mpr q) ?_
      rw [lpX4_judge_5]
      by_cases c : nI n ≤ nI (i + 1)
      · exact br_t c (h _)
      · exact br_f c (br_f (n9 (by omega)) (h _))
    · rw [show jp S w rw_ i = false from decide_eq_false q, if_neg (by decide)] at h
      exact br_f (fun z => q ((nI0 (by omega)).mp z)) (ih (i + 1) (by omega) h)
/-- the weights after i numbers -/
def wj (S w rw_ : Nat → Nat) (i o : Nat) : Nat := if fl S w rw_ i o then w o else 0
theorem wj_le (S w rw_ : Nat → Nat) (i o : Nat) : wj S w rw_ i o ≤ w o := by unfold wj; split <;> omega
theorem fl_w {S w rw_ : Nat → Nat} {o : Nat} : ∀ {i}, fl S w rw_ i o = true → 0 < w o
  | 0, h => of_decide_eq_true h
  | i + 1, h => by
    have h2 : (fl S w rw_ i o && fitb S (rw_ i) o) = true := h
    rw [Bool.and_eq_true] at h2
    exact fl_w h2.1
theorem wj_p (S w rw_ : Nat → Nat) (i o : Nat) : decide (0 < wj S w rw_ i o) = fl S w rw_ i o := by
  unfold wj
  cases h : fl S w rw_ i o with
  | true => rw [if_pos rfl]; exact decide_eq_true (fl_w h)
  | false => rw [if_neg (by decide)]; rfl
theorem wj_0 (S w rw_ : Nat → Nat) (o : Nat) : wj S w rw_ 0 o = w o := by
  show (if decide (0 < w o) = true then w o else 0) = w o
  by_cases c : 0 < w o
  · rw [decide_eq_true c, if_pos rfl]
  · rw [decide_eq_false c, if_neg (by decide)]; omega
theorem wj_lm {S w rw_ : Nat → Nat} {i : Nat} (q : rw_ i % 50 < 48) (o : Nat) : lm S (wj S w rw_ i) (rw_ i % 50) (decide (50 ≤ rw_ i)) o = fl S w rw_ (i + 1) o := by
  show (decide (0 < wj S w rw_ i o) && (wd S (rw_ i % 50) o == decide (50 ≤ rw_ i))) = (fl S w rw_ i o && (decide (rw_ i % 50 < 48) && (wd S (rw_ i % 50) o == decide (50 ≤ rw_ i))))
  rw [wj_p, decide_eq_true q, Bool.true_and]
theorem wj_s {S w rw_ : Nat → Nat} {i : Nat} (q : rw_ i % 50 < 48) (o : Nat) : w2 S (wj S w rw_ i) (rw_ i % 50) (decide (50 ≤ rw_ i)) o = wj S w rw_ (i + 1) o := by
  show (if (wd S (rw_ i % 50) o == decide (50 ≤ rw_ i)) = true then (if fl S w rw_ i o = true then w o else 0) else 0) = if (fl S w rw_ i o && (decide (rw_ i % 50 < 48) && (wd S (rw_ i % 50) o == decide (50 ≤ rw_ i)))) = true then w o else 0
  rw [decide_eq_true q, Bool.true_and]
  cases (wd S (rw_ i % 50) o == decide (50 ≤ rw_ i)) <;> cases fl S w rw_ i o <;> rfl
theorem is50 {v : Nat} (hv : v < 100) : nI v / (50 : Int32) = bi (decide (50 ≤ v)) := by
  rw [show (50 : Int32) = nI 50 from rfl, pk_div (by omega) (by decide) (by decide)]
  by_cases c : 50 ≤ v
  · rw [decide_eq_true c, show v / 50 = 1 by omega]; rfl
  · rw [decide_eq_false c, show v / 50 = 0 by omega]; rfl
theorem lX5_judge {S w rw_ hl pi pc : Nat → Nat} (g : okA S w hl pi pc) {M R : Nat → Int32} (hS : rS S M) {n : Nat} (hn : n ≤ 8) (hr : ∀ i, i < n → rw_ i < 100 ∧ R i = nI (rw_ i)) {K : Int32 → Int32 → (Nat → Int32) → Prop} : ∀ d i Mw, i + d = n → rN (S 0) (wj S w rw_ i) Mw → (∀ c M', K (jd (jp S w rw_) d i) c M') → lpX5_judge_21 K (nI n) M R (d + 2) (-9) (nI i) Mw := by
  intro d
  induction d with
  | zero =>
    intro i Mw hi hM h
    have e : i = n := by omega
    subst e
    rw [lpX5_judge_21]
    exact br_t (nI_le (Nat.le_refl _) (by omega)) (h _ _)
  | succ d ih =>
    intro i Mw hi hM h
    have hri := hr i (by omega)
    have hm : rw_ i % 50 < 50 := Nat.mod_lt _ (by decide)
    have vin : vp_in (nI i) 8 := vp_in_nI (by omega) (by omega)
    have hwb : ∀ o, o < S 0 → wj S w rw_ i o < 2 ^ 31 := fun o ho => by have := wj_le S w rw_ i o; have := okA_w2 g o ho; omega
    have found : bo (fl S w rw_ (i + 1)) (S 0) = 0 → lpX5_judge_21 K (nI n) M R (d + 2) (nI i) (nI (i + 1)) Mw := fun q => by
      unfold jd at h
      rw [show jp S w rw_ i = true from decide_eq_true q, if_pos rfl] at h
      rw [lpX5_judge_21]
      by_cases c : nI n ≤ nI (i + 1)
      · exact br_t c (h _ _)
      · exact br_f c (br_t (nI_pos' (by omega)) (h _ _))
    rw [lpX5_judge_21]
    refine br_f (nI_ge (by omega) (by omega)) (br_f (by decide) ⟨vin, ?_⟩)
    rw [nI_clamp (by omega), hri.2, inch50 hri.1, is50 hri.1, nI_1]
    by_cases q : rw_ i % 50 < 48
    · refine sX5_isInch q (br_f (by decide) ⟨vin, vin, sX5_leftBy hS g.1 hM hwb q ?_⟩)
      have ec : cl S (wj S w rw_ i) (rw_ i % 50) (decide (50 ≤ rw_ i)) (S 0) = 0 ↔ bo (fl S w rw_ (i + 1)) (S 0) = 0 := by
        rw [cl_0, bo_cong (q := fl S w rw_ (i + 1)) (fun o _ => wj_lm q o)]
      have hcb := cl_b S (wj S w rw_ i) (rw_ i % 50) (decide (50 ≤ rw_ i)) (S 0)
      have := g.1.2.1
      refine pk_le (cl S (wj S w rw_ i) (rw_ i % 50) (decide (50 ≤ rw_ i)) (S 0)) 0 (fun c => found (ec.mp (by omega))) (fun c => ⟨vin, vin, S 0 + 1, ?_⟩)
      refine lX5_leaves (w := wj S w rw_ i) g.1 hS q (fun _ M' hM' => ?_) (S 0) 0 Mw (by omega) (fun o ho => ?_)
      · unfold jd at h
        rw [show jp S w rw_ i = false from decide_eq_false (fun z => by have := ec.mpr z; omega), if_neg (by decide)] at h
        refine ih (i + 1) M' (by omega) (fun o ho => ?_) h
        rw [hM' o ho, wj_s q]
      · rw [hM o ho]
        dsimp only
        rw [if_neg (Nat.not_lt_zero o)]
    · refine sX5_isInchN (Or.inr (nI_le (by omega) (by omega))) (br_t rfl (found (bo_0.mpr (fun o _ => ?_))))
      show (fl S w rw_ i o && (decide (rw_ i % 50 < 48) && (wd S (rw_ i % 50) o == decide (50 ≤ rw_ i)))) = false
      rw [decide_eq_false q, Bool.false_and, Bool.and_false]
theorem rIm_out {v_T : PX4} {v_k : PX3} {v_M v_M' : PX5} (h : rIm v_T v_k v_M) (e : uM_hasImage v_M' = uM_hasImage v_M) (hk : ∀ j, j < 90 → uM_kept v_M' j = uM_kept v_M j) : rIm v_T v_k v_M' := by
  obtain ⟨b, b1, b2, b3⟩ := h
  refine ⟨b, b1, e.trans b2, fun z => ?_⟩
  obtain ⟨S, w, hl, pi, pc, k1, k2, m0, m1, ⟨s0, s1, s2, s3⟩, m3, m4, m5, m6⟩ := b3 z
  have h5 := k1.2.2.1
  have h0 := k1.1.2.1
  exact ⟨S, w, hl, pi, pc, k1, k2, (hk 88 (by omega)).trans m0, (hk 89 (by omega)).trans m1, ⟨(hk 0 (by omega)).trans s0, (hk 1 (by omega)).trans s1, (hk 2 (by omega)).trans s2, (hk 3 (by omega)).trans s3⟩, fun x hx => (hk (4 + x) (by omega)).trans (m3 x hx), fun x hx => (hk (52 + x) (by omega)).trans (m4 x hx), fun x hx => (hk (58 + x) (by omega)).trans (m5 x hx), fun x hx => (hk (64 + x) (by omega)).trans (m6 x hx)⟩
/-- kept and given back: the same wall -/
theorem rM_back {S w hl pi pc : Nat → Nat} (g : okA S w hl pi pc) {P U : Int32} {se ho pa ch wt k a1 a2 a3 a4 a5 : Nat → Int32} (h : rM S w hl pi pc P U se ho pa ch wt) {b : Nat} : rM S w hl pi pc (KP b k se ho pa ch wt P U (b + 4 + 48 + 6 + 6 + 24)) (KP b k se ho pa ch wt P U (b + 4 + 48 + 6 + 6 + 24 + 1)) (rs a1 (KP b k se ho pa ch wt P U) b 4) (rs a2 (KP b k se ho pa ch wt P U) (b + 4) 48) (rs a3 (KP b k se ho pa ch wt P U) (b + 4 + 48) 6) (rs a4 (KP b k se ho pa ch wt P U) (b + 4 + 48 + 6) 6) (rs a5 (KP b k se ho pa ch wt P U) (b + 4 + 48 + 6 + 6) 24) := by
  obtain ⟨m0, m1, ⟨s0, s1, s2, s3⟩, m3, m4, m5, m6⟩ := h
  have h5 := g.2.2.1
  have h0 := g.1.2.1
  refine ⟨KP_P.trans m0, KP_U.trans m1, ⟨?_, ?_, ?_, ?_⟩, fun x hx => ?_, fun x hx => ?_, fun x hx => ?_, fun x hx => ?_⟩
  · rw [rs_in (by decide), KP_se (by decide)]; exact s0
  · rw [rs_in (by decide), KP_se (by decide)]; exact s1
  · rw [rs_in (by decide), KP_se (by decide)]; exact s2
  · rw [rs_in (by decide), KP_se (by decide)]; exact s3
  · rw [rs_in hx, KP_ho hx]; exact m3 x hx
  · rw [rs_in (by omega), KP_pa (by omega)]; exact m4 x hx
  · rw [rs_in (by omega), KP_ch (by omega)]; exact m5 x hx
  · rw [rs_in (by omega), KP_wt (by omega)]; exact m6 x hx
theorem ph_judge : PH_judge RE := by
  intro v_T v_n v_k v_t v_s v_r v_c v_M hR
  obtain ⟨S, w, hl, pi, pc, g1, g2, g3, g4, ⟨n, rw_, h8, e1, e2, e3⟩, g6, g7⟩ := id hR
  obtain ⟨c0, c1, c2, c3, c4, c5, c6, c7, c8, c9, c10, c11, c12, c13⟩ := id g2
  obtain ⟨m0, m1, m2, m3, m4, m5, m6⟩ := id g3
  have e1' : v_r.1 = nI n := e1
  have e2' : v_M.2.2.2.2.2.2.2.2.2.2.1 = nI n := e2
  unfold wpX4_judge
  rw [e1']
  refine ⟨n + 2, lX4_judge g1.1 c8 c12 h8 (fun i hi => ⟨(e3 i hi).1, (e3 i hi).2.1⟩) n 0 (by omega) (fun _ => ?_)⟩
  unfold wpX5_judge
  rw [e2']
  refine sX5_keepAll (b := 100) (i := 1) rfl (by omega) ⟨n + 2, lX5_judge g1 m2 h8 (fun i hi => ⟨(e3 i hi).1, (e3 i hi).2.2⟩) n 0 _ (by omega) (fun o ho => ?_) (fun _ M' => ?_)⟩
  · rw [wj_0]; exact m6 o ho
  · refine sX5_giveAll (b := 100) (i := 1) rfl (by omega) ?_
    exact ⟨rfl, S, w, hl, pi, pc, g1, g2, rM_back (b := 100) (k := uM_kept v_M) (a1 := uM_setting v_M) (a2 := uM_hole v_M) (a3 := uM_pipeAt v_M) (a4 := uM_chance v_M) (a5 := M') g1 g3, g4, ⟨0, rw_, by omega, rfl, rfl, fun i hi => absurd hi (Nat.not_lt_zero i)⟩, g6, rIm_out g7 rfl (fun j hj => KP_out (Or.inl (by omega)))⟩
