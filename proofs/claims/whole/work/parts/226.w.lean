/-! happened -/
def tv (S : Nat → Nat) (k v o : Nat) : Nat := if v % 50 < 48 then tq k (decide (50 ≤ v)) (decide (o < S 0) && wd S (v % 50) o) else 0
def pw (S rw_ : Nat → Nat) (k o a : Nat) : Nat → Nat
  | 0 => a
  | i + 1 => pw S rw_ k o a i * tv S k (rw_ i) o
theorem tv_b {S : Nat → Nat} {k : Nat} (hk : k < 5) (v o : Nat) : tv S k v o ≤ 9 := by
  unfold tv
  split
  · exact (tq_b hk _ _).2
  · omega
theorem sX0_tenthsOf {S : Nat → Nat} (ok : okS S) {wo : Nat → Int32} (hwo : ∀ x, x < 48 → wo x = nI (bo (wd S x) (S 0))) {k v o : Nat} (hk : k < 5) (hv : v < 100) (ho : o < 24) {post : Int32 → Prop} (h : post (nI (tv S k v o))) : wpX0_tenthsOf post wo (nI k) (nI o) (nI v) := by
  unfold wpX0_tenthsOf wpX0_inchOf
  rw [inch50 hv]
  have hm : v % 50 < 50 := Nat.mod_lt _ (by decide)
  unfold tv at h
  by_cases q : v % 50 < 48
  · rw [if_pos q] at h
    refine sX4_isNoInch q (br_t rfl ?_)
    refine pk_lt v 50 (fun c => ?_) (fun c => ?_)
    · rw [decide_eq_false (by omega : ¬ 50 ≤ v)] at h
      exact sX3_hasWood hwo ok.2.1 q (by omega) (sX4_tenths (is := false) hk h)
    · rw [decide_eq_true c] at h
      exact sX3_hasWood hwo ok.2.1 q (by omega) (sX4_tenths (is := true) hk h)
  · rw [if_neg q] at h
    exact sX4_isNoInchN (Or.inr (nI_le (by omega) (by omega))) (br_f (by decide) h)
theorem lX0_ways1 {S rw_ : Nat → Nat} (ok : okS S) {wo R : Nat → Int32} (hwo : ∀ x, x < 48 → wo x = nI (bo (wd S x) (S 0))) {k o a : Nat} (hk : k < 5) (ho : o < 24) {n : Nat} (hn : n ≤ 8) (hr : ∀ i, i < n → rw_ i < 100 ∧ R i = nI (rw_ i)) {K : Int64 → Int32 → Prop} (h : ∀ c, K (lN (pw S rw_ k o a n)) c) : ∀ d i, i + d = n → lpX0_waysToTell_24 K (nI k) (nI o) (nI n) R wo (d + 1) (lN (pw S rw_ k o a i)) (nI i) := by
  intro d
  induction d with
  | zero =>
    intro i hi
    have e : i = n := by omega
    subst e
    rw [lpX0_waysToTell_24]
    exact br_t (nI_le (Nat.le_refl _) (by omega)) (h _)
  | succ d ih =>
    intro i hi
    have ih := ih (i + 1) (by omega)
    have hri := hr i (by omega)
    have hb := tv_b (S := S) hk (rw_ i) o
    rw [lpX0_waysToTell_24]
    refine br_f (nI_ge (by omega) (by omega)) (br_f (nI_ge (a := i) (b := 8) (by omega) (by omega)) ⟨vp_in_nI (by omega) (by omega), ?_⟩)
    rw [nI_clamp (by omega), hri.2, nI_1]
    refine sX0_tenthsOf ok hwo hk hri.1 ho ?_
    rw [i2l (by omega), lN_mul]
    exact ih
theorem lX0_ways {S rw_ W : Nat → Nat} (ok : okS S) {M : Nat → Int64} (hM : ∀ o, o < 24 → M o = lN (W o)) {wo R : Nat → Int32} (hwo : ∀ x, x < 48 → wo x = nI (bo (wd S x) (S 0))) {k : Nat} (hk : k < 5) {n : Nat} (hn : n ≤ 8) (hr : ∀ i, i < n → rw_ i < 100 ∧ R i = nI (rw_ i)) {K : Int64 → Int32 → Prop} (h : ∀ c, K (lN (fb_sm (fun o => pw S rw_ k o (W o) n) 24)) c) : ∀ d i, i + d = 24 → lpX0_waysToTell_5 K (nI k) (nI n) R M wo (d + 1) (lN (fb_sm (fun o => pw S rw_ k o (W o) n) i)) (nI i) := by
  intro d
  induction d with
  | zero =>
    intro i hi
    have e : i = 24 := by omega
    subst e
    rw [lpX0_waysToTell_5]
    exact br_t (by decide) (h _)
  | succ d ih =>
    intro i hi
    have ih := ih (i + 1) (by omega)
    rw [fb_sm_succ] at ih
    rw [lpX0_waysToTell_5]
    refine br_f (nI_ge (a := i) (b := 24) (by omega) (by omega)) ⟨vp_in_nI (by omega) (by omega), n + 1, ?_⟩
    rw [nI_clamp (by omega), hM i (by omega), nI_1]
    refine lX0_ways1 (a := W i) ok hwo hk (by omega) hn hr (fun _ => ?_) n 0 (by omega)
    rw [lN_add]
    exact ih
