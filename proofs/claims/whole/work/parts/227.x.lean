/-! happened: the reference -/
theorem lX5_hap1 {S rw_ : Nat → Nat} (ok : okS S) {M R : Nat → Int32} (hS : rS S M) {k o a : Nat} (hk : k < 5) (ho : o < S 0) {n : Nat} (hn : n ≤ 8) (hr : ∀ i, i < n → rw_ i < 100 ∧ R i = nI (rw_ i)) (hin : ∀ i, i < n → rw_ i % 50 < 48) {K : Int64 → Int32 → Prop} (h : ∀ c, K (lN (pw S rw_ k o a n)) c) : ∀ d i, i + d = n → lpX5_happened_70 K (nI k) (nI o) (nI n) M R (d + 1) (lN (pw S rw_ k o a i)) (nI i) := by
  intro d
  induction d with
  | zero =>
    intro i hi
    have e : i = n := by omega
    subst e
    rw [lpX5_happened_70]
    exact br_t (nI_le (Nat.le_refl _) (by omega)) (h _)
  | succ d ih =>
    intro i hi
    have ih := ih (i + 1) (by omega)
    have hri := hr i (by omega)
    have hi2 := hin i (by omega)
    have vin : vp_in (nI i) 8 := vp_in_nI (by omega) (by omega)
    have et : tv S k (rw_ i) o = tq k (decide (50 ≤ rw_ i)) (wd S (rw_ i % 50) o) := by
      unfold tv
      rw [if_pos hi2, decide_eq_true ho, Bool.true_and]
    have hb := (tq_b hk (decide (50 ≤ rw_ i)) (wd S (rw_ i % 50) o)).2
    have ep : pw S rw_ k o a (i + 1) = pw S rw_ k o a i * tv S k (rw_ i) o := rfl
    rw [ep, et] at ih
    rw [lpX5_happened_70]
    refine br_f (nI_ge (by omega) (by omega)) ⟨vin, vin, ?_⟩
    rw [nI_clamp (by omega), hri.2, inch50 hri.1, is50 hri.1, nI_1]
    refine sX5_tenths hS ok hk hi2 ho ?_
    rw [i2l (by omega), lN_mul]
    exact ih
theorem lX5_hap {S w rw_ : Nat → Nat} (ok : okS S) {M Mw R : Nat → Int32} (hS : rS S M) (hw : rN (S 0) w Mw) (hb : ∀ o, o < S 0 → w o < 2 ^ 31) {k : Nat} (hk : k < 5) {n : Nat} (hn : n ≤ 8) (hr : ∀ i, i < n → rw_ i < 100 ∧ R i = nI (rw_ i)) (hin : ∀ i, i < n → rw_ i % 50 < 48) {K : Int64 → Int32 → Prop} (h : ∀ c, K (lN (fb_sm (fun o => pw S rw_ k o (w o) n) (S 0))) c) : ∀ d i, i + d = S 0 → lpX5_happened_46 K (nI k) (nI n) M Mw R (d + 1) (lN (fb_sm (fun o => pw S rw_ k o (w o) n) i)) (nI i) := by
  obtain ⟨o1, o2, o3, o4, o5, o6⟩ := id ok
  intro d
  induction d with
  | zero =>
    intro i hi
    have e : i = S 0 := by omega
    subst e
    rw [lpX5_happened_46, hS.1]
    exact br_t (nI_le (Nat.le_refl _) (by omega)) (h _)
  | succ d ih =>
    intro i hi
    have ih := ih (i + 1) (by omega)
    rw [fb_sm_succ] at ih
    rw [lpX5_happened_46, hS.1]
    refine br_f (nI_ge (by omega) (by omega)) ⟨vp_in_nI (by omega) (by omega), n + 1, ?_⟩
    rw [nI_clamp (by omega), hw i (by omega), i2l (hb i (by omega)), nI_1]
    refine lX5_hap1 (a := w i) ok hS hk (by omega) hn hr hin (fun _ => ?_) n 0 (by omega)
    rw [lN_add]
    exact ih
theorem lX5_hapT {n t : Nat} (hn : n ≤ 8) {K : Int64 → Int32 → Prop} (h : ∀ c, K (lN (t * 10 ^ n)) c) : ∀ d i, i + d = n → lpX5_happened_132 K (nI n) (d + 1) (lN (t * 10 ^ i)) (nI i) := by
  intro d
  induction d with
  | zero =>
    intro i hi
    have e : i = n := by omega
    subst e
    rw [lpX5_happened_132]
    exact br_t (nI_le (Nat.le_refl _) (by omega)) (h _)
  | succ d ih =>
    intro i hi
    have ih := ih (i + 1) (by omega)
    rw [lpX5_happened_132]
    refine br_f (nI_ge (by omega) (by omega)) ?_
    rw [show (10 : Int64) = lN 10 from rfl, lN_mul, nI_1, Nat.mul_assoc, ← Nat.pow_succ]
    exact ih
theorem lX0_allW {n t : Nat} (hn : n ≤ 8) {K : Int64 → Int32 → Prop} (h : ∀ c, K (lN (t * 10 ^ n)) c) : ∀ d i, i + d = n → lpX0_allWays_8 K (nI n) (d + 1) (lN (t * 10 ^ i)) (nI i) := by
  intro d
  induction d with
  | zero =>
    intro i hi
    have e : i = n := by omega
    subst e
    rw [lpX0_allWays_8]
    exact br_t (nI_le (Nat.le_refl _) (by omega)) (h _)
  | succ d ih =>
    intro i hi
    have ih := ih (i + 1) (by omega)
    rw [lpX0_allWays_8]
    refine br_f (nI_ge (by omega) (by omega)) (br_f (nI_ge (a := i) (b := 8) (by omega) (by omega)) ?_)
    rw [show (10 : Int64) = lN 10 from rfl, lN_mul, nI_1, Nat.mul_assoc, ← Nat.pow_succ]
    exact ih
