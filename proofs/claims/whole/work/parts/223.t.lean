/-! rows of tellings -/
def fitb (S : Nat → Nat) (v o : Nat) : Bool := decide (v % 50 < 48) && (wd S (v % 50) o == decide (50 ≤ v))
def fl (S w rw : Nat → Nat) : Nat → Nat → Bool
  | 0, o => decide (0 < w o)
  | i + 1, o => fl S w rw i o && fitb S (rw i) o
theorem inch50 {v : Nat} (h : v < 100) : nI v - nI v / (50 : Int32) * (50 : Int32) = nI (v % 50) := pk_rem (d := 50) (by omega) (by decide) (by decide)
theorem sX0_offsetsBy {S : Nat → Nat} (ok : okS S) {wo : Nat → Int32} (hwo : ∀ x, x < 48 → wo x = nI (bo (wd S x) (S 0))) {v : Nat} (hv : v < 100) {post : Int32 → Prop} (h : ∀ r, (∀ p, nI (bo p (S 0)) &&& r = nI (bo (fun o => p o && fitb S v o) (S 0))) → post r) : wpX0_offsetsBy post wo (nI v) := by
  unfold wpX0_offsetsBy wpX0_inchOf
  rw [inch50 hv]
  have hm : v % 50 < 50 := Nat.mod_lt _ (by decide)
  by_cases q : v % 50 < 48
  · refine sX4_isNoInch q (br_t rfl ?_)
    refine pk_lt v 50 (fun c => br_t rfl ⟨vp_in_nI q (by omega), h _ (fun p => ?_)⟩) (fun c => br_f (by decide) ⟨vp_in_nI q (by omega), h _ (fun p => ?_)⟩)
    · rw [nI_clamp (by omega), hwo _ q, bo_not]
      rw [bo_cong (q := fun o => p o && fitb S v o) (fun o _ => ?_)]
      unfold fitb
      rw [decide_eq_true q, decide_eq_false (by omega : ¬ 50 ≤ v), Bool.true_and]
      cases wd S (v % 50) o <;> rfl
    · rw [nI_clamp (by omega), hwo _ q, fa_and, bo_and]
      rw [bo_cong (q := fun o => p o && fitb S v o) (fun o _ => ?_)]
      unfold fitb
      rw [decide_eq_true q, decide_eq_true c, Bool.true_and]
      cases wd S (v % 50) o <;> rfl
  · refine sX4_isNoInchN (Or.inr (nI_le (by omega) (by omega))) (br_f (by decide) (h _ (fun p => ?_)))
    rw [show (0 : Int32) = nI 0 from rfl, fa_and, Nat.and_zero]
    rw [show bo (fun o => p o && fitb S v o) (S 0) = 0 from bo_0.mpr (fun o _ => ?_)]
    unfold fitb
    rw [decide_eq_false q, Bool.false_and, Bool.and_false]
theorem lX0_fit {S w rw_ : Nat → Nat} (ok : okS S) {wo R : Nat → Int32} (hwo : ∀ x, x < 48 → wo x = nI (bo (wd S x) (S 0))) {m : Nat} (hm : m ≤ 8) (hr : ∀ i, i < m → rw_ i < 100 ∧ R i = nI (rw_ i)) {K : Int32 → Int32 → Prop} (h : ∀ c, K (nI (bo (fl S w rw_ m) (S 0))) c) : ∀ d i, i + d = m → lpX0_offsetsThatFit_8 K (nI m) R wo (d + 1) (nI (bo (fl S w rw_ i) (S 0))) (nI i) := by
  intro d
  induction d with
  | zero =>
    intro i hi
    have e : i = m := by omega
    subst e
    rw [lpX0_offsetsThatFit_8]
    exact br_t (nI_le (Nat.le_refl _) (by omega)) (h _)
  | succ d ih =>
    intro i hi
    have ih := ih (i + 1) (by omega)
    have hri := hr i (by omega)
    rw [lpX0_offsetsThatFit_8]
    refine br_f (nI_ge (by omega) (by omega)) (br_f (nI_ge (a := i) (b := 8) (by omega) (by omega)) ⟨vp_in_nI (by omega) (by omega), ?_⟩)
    rw [nI_clamp (by omega), hri.2, nI_1]
    refine sX0_offsetsBy ok hwo hri.1 (fun r hr2 => ?_)
    rw [hr2]
    exact ih
theorem sX0_fit {S w rw_ : Nat → Nat} (ok : okS S) {O : Int32} (eO : O = nI (bo (fun o => decide (0 < w o)) (S 0))) {wo R : Nat → Int32} (hwo : ∀ x, x < 48 → wo x = nI (bo (wd S x) (S 0))) {m : Nat} (hm : m ≤ 8) (hr : ∀ i, i < m → rw_ i < 100 ∧ R i = nI (rw_ i)) {post : Int32 → Prop} (h : post (nI (bo (fl S w rw_ m) (S 0)))) : wpX0_offsetsThatFit post R O wo (nI m) := by
  subst eO
  exact ⟨m + 1, lX0_fit (K := fun v _ => post v) ok hwo hm hr (fun _ => h) m 0 (by omega)⟩
/-! the reference -/
def ai (rw : Nat → Nat) : Nat → Nat → Bool
  | 0, _ => true
  | d + 1, i => decide (rw i % 50 < 48) && ai rw d (i + 1)
theorem lX5_areInches {rw_ : Nat → Nat} {R : Nat → Int32} {n : Nat} (hn : n ≤ 8) (hr : ∀ i, i < n → rw_ i < 100 ∧ R i = nI (rw_ i)) {post : Int32 → Prop} : ∀ d i, i + d = n → post (bi (ai rw_ d i)) → lpX5_areInches_2 post (fun _ => post 1) (nI n) R (d + 1) (nI i) := by
  intro d
  induction d with
  | zero =>
    intro i hi h
    have e : i = n := by omega
    subst e
    rw [lpX5_areInches_2]
    exact br_t (nI_le (Nat.le_refl _) (by omega)) h
  | succ d ih =>
    intro i hi h
    have hri := hr i (by omega)
    have hm : rw_ i % 50 < 50 := Nat.mod_lt _ (by decide)
    unfold ai at h
    rw [lpX5_areInches_2]
    refine br_f (nI_ge (by omega) (by omega)) ⟨vp_in_nI (by omega) (by omega), ?_⟩
    rw [nI_clamp (by omega), hri.2, inch50 hri.1, nI_1]
    by_cases q : rw_ i % 50 < 48
    · rw [decide_eq_true q, Bool.true_and] at h
      exact sX5_isInch q (br_f (by decide) (ih (i + 1) (by omega) h))
    · rw [decide_eq_false q, Bool.false_and] at h
      exact sX5_isInchN (Or.inr (nI_le (by omega) (by omega))) (br_t rfl h)
def at_ (S rw : Nat → Nat) (o : Nat) : Nat → Nat → Bool
  | 0, _ => true
  | d + 1, i => (wd S (rw i % 50) o == decide (50 ≤ rw i)) && at_ S rw o d (i + 1)
theorem lX5_isAsTold {S rw_ : Nat → Nat} (ok : okS S) {M R : Nat → Int32} (hS : rS S M) {n : Nat} (hn : n ≤ 8) (hr : ∀ i, i < n → rw_ i < 100 ∧ R i = nI (rw_ i)) (hin : ∀ i, i < n → rw_ i % 50 < 48) {o : Nat} (ho : o < S 0) {post : Int32 → Prop} : ∀ d i, i + d = n → post (bi (at_ S rw_ o d i)) → lpX5_isAsTold_2 post (fun _ => post 1) (nI o) (nI n) M R (d + 1) (nI i) := by
  intro d
  induction d with
  | zero =>
    intro i hi h
    have e : i = n := by omega
    subst e
    rw [lpX5_isAsTold_2]
    exact br_t (nI_le (Nat.le_refl _) (by omega)) h
  | succ d ih =>
    intro i hi h
    have hri := hr i (by omega)
    have vin : vp_in (nI i) 8 := vp_in_nI (by omega) (by omega)
    unfold at_ at h
    rw [lpX5_isAsTold_2]
    refine br_f (nI_ge (by omega) (by omega)) ⟨vin, ?_⟩
    rw [nI_clamp (by omega), hri.2, inch50 hri.1, nI_1]
    refine sX5_isWood hS ok (hin i (by omega)) ho ⟨vin, pk_lt (rw_ i) 50 (fun c => bi_0 ?_) (fun c => bi_1 ?_)⟩
    · rw [decide_eq_false (by omega : ¬ 50 ≤ rw_ i)] at h
      cases hd : wd S (rw_ i % 50) o with
      | true => rw [hd] at h; exact h
      | false => rw [hd] at h; exact ih (i + 1) (by omega) h
    · rw [decide_eq_true c] at h
      cases hd : wd S (rw_ i % 50) o with
      | true => rw [hd] at h; exact ih (i + 1) (by omega) h
      | false => rw [hd] at h; exact h
