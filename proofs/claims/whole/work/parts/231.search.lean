/-! the search: sums behind a telling -/
def sr_t (S w : Nat → Nat) (k x : Nat) (is : Bool) (y : Nat) : Nat := fb_sm (fun o => if wd S y o then w o * tq k is (wd S x o) else 0) (S 0)
def sr_n (S w : Nat → Nat) (x y : Nat) : Nat := fb_sm (fun o => if !wd S x o && wd S y o then w o else 0) (S 0)
def sr_m (f : Nat → Nat) : Nat → Nat
  | 0 => 0
  | n + 1 => if f n ≤ sr_m f n then sr_m f n else f n
theorem sr_ms (f : Nat → Nat) (n : Nat) : sr_m f (n + 1) = if f n ≤ sr_m f n then sr_m f n else f n := rfl
theorem sr_mge (f : Nat → Nat) : ∀ n i, i < n → f i ≤ sr_m f n
  | 0, i, h => absurd h (Nat.not_lt_zero i)
  | n + 1, i, h => by
    rw [sr_ms]
    by_cases e : i = n
    · subst e
      split <;> omega
    · have := sr_mge f n i (by omega)
      split <;> omega
theorem sr_mle (f : Nat → Nat) (B : Nat) : ∀ n, (∀ i, i < n → f i ≤ B) → sr_m f n ≤ B
  | 0, _ => Nat.zero_le _
  | n + 1, h => by
    have h1 := sr_mle f B n (fun i hi => h i (by omega))
    have h2 := h n (by omega)
    rw [sr_ms]
    split <;> omega
theorem sr_mul (c : Nat) (f : Nat → Nat) : ∀ n, fb_sm (fun k => c * f k) n = c * fb_sm f n
  | 0 => (Nat.mul_zero c).symm
  | n + 1 => by
    have h := sr_mul c f n
    rw [fb_sm_succ, fb_sm_succ, h, Nat.mul_add]
theorem sr_sw (S w : Nat → Nat) (x y : Nat) : sw S w y = sb S w x y + sr_n S w x y := by
  unfold sw sb sr_n
  rw [← fb_sm_add]
  apply fb_sm_cong
  intro o _
  cases wd S x o <;> cases wd S y o <;> simp
theorem sr_te (S w : Nat → Nat) (k x : Nat) (is : Bool) (y : Nat) : sr_t S w k x is y = tq k is true * sb S w x y + tq k is false * (sw S w y - sb S w x y) := by
  rw [sr_sw S w x y, Nat.add_sub_cancel_left]
  unfold sr_t sb sr_n
  rw [← sr_mul, ← sr_mul, ← fb_sm_add]
  apply fb_sm_cong
  intro o _
  cases wd S x o <;> cases wd S y o <;> simp [Nat.mul_comm]
theorem sr_t10 (S w : Nat → Nat) {k : Nat} (hk : k < 5) (x y : Nat) : sr_t S w k x true y + sr_t S w k x false y = 10 * sw S w y := by
  have a := tw_b hk
  have b := tn_b hk
  unfold sr_t sw
  rw [← sr_mul, ← fb_sm_add]
  apply fb_sm_cong
  intro o _
  cases wd S y o
  · simp
  · cases wd S x o
    · show w o * (10 - tn k) + w o * tn k = 10 * w o
      rw [← Nat.mul_add, Nat.mul_comm 10, show 10 - tn k + tn k = 10 by omega]
    · show w o * tw k + w o * (10 - tw k) = 10 * w o
      rw [← Nat.mul_add, Nat.mul_comm 10, show tw k + (10 - tw k) = 10 by omega]
theorem sr_tb (S w : Nat → Nat) {k : Nat} (hk : k < 5) (x : Nat) (is : Bool) (y : Nat) : sr_t S w k x is y ≤ 10 * sw S w y := by
  have h := sr_t10 S w hk x y
  cases is <;> omega
def sr_v (S w : Nat → Nat) (k x : Nat) : Nat := sr_m (sr_t S w k x true) 48 + sr_m (sr_t S w k x false) 48
theorem sr_mb {S w hl pi pc : Nat → Nat} (g : okA S w hl pi pc) {k : Nat} (hk : k < 5) (x : Nat) (is : Bool) (n : Nat) : sr_m (sr_t S w k x is) n ≤ 127545840 := sr_mle _ _ n (fun y _ => by
  have h1 := sr_tb S w hk x is y
  have h2 := sw_b g y
  omega)
theorem sr_vb {S w hl pi pc : Nat → Nat} (g : okA S w hl pi pc) {k : Nat} (hk : k < 5) (x : Nat) : sr_v S w k x ≤ 255091680 := by
  have h1 := sr_mb g hk x true 48
  have h2 := sr_mb g hk x false 48
  unfold sr_v
  omega
theorem sr_v10 (S w : Nat → Nat) {k : Nat} (hk : k < 5) (x : Nat) {y : Nat} (hy : y < 48) : 10 * sw S w y ≤ sr_v S w k x := by
  have h := sr_t10 S w hk x y
  have h1 := sr_mge (sr_t S w k x true) 48 y hy
  have h2 := sr_mge (sr_t S w k x false) 48 y hy
  unfold sr_v
  omega
def sr_g (S w : Nat → Nat) (k : Nat) : Nat := sr_v S w k (am (sr_v S w k) 0 47) - 10 * sw S w (am (sw S w) 0 47)
/-! first of the greatest -/
theorem am_ge (f : Nat → Nat) (a : Nat) : ∀ n j, a ≤ j → j ≤ a + n → f j ≤ f (am f a n)
  | 0, j, h1, h2 => by
    have e : j = a := by omega
    subst e
    exact Nat.le_refl _
  | n + 1, j, h1, h2 => by
    rw [am_s]
    by_cases e : j = a + 1 + n
    · subst e
      split
      · assumption
      · exact Nat.le_refl _
    · have ih := am_ge f a n j h1 (by omega)
      split <;> omega
theorem am_fst (f : Nat → Nat) (a : Nat) : ∀ n j, a ≤ j → j < am f a n → f j < f (am f a n)
  | 0, j, h1, h2 => by
    have e : am f a 0 = a := rfl
    omega
  | n + 1, j, h1, h2 => by
    rw [am_s] at h2 ⊢
    by_cases q : f (a + 1 + n) ≤ f (am f a n)
    · rw [if_pos q] at h2 ⊢
      exact am_fst f a n j h1 h2
    · rw [if_neg q] at h2 ⊢
      have ih := am_ge f a n j h1 (by omega)
      omega
/-! the reference -/
theorem lX5_gb65 {S T : Nat → Nat} {M : Nat → Int32} {Mt : Nat → Int64} (hS : rS S M) (ok : okS S) (hT : ∀ o, o < S 0 → Mt o = lN (T o)) {y : Nat} (hy : y < 48) {K : Int64 → Int32 → Prop} (h : ∀ c, K (lN (fb_sm (fun o => if wd S y o then T o else 0) (S 0))) c) : ∀ d i, i + d = S 0 → lpX5_greatestBehind_65 K (nI y) M Mt (d + 1) (lN (fb_sm (fun o => if wd S y o then T o else 0) i)) (nI i) := by
  obtain ⟨o1, o2, o3, o4, o5, o6⟩ := id ok
  intro d
  induction d with
  | zero =>
    intro i hi
    have e : i = S 0 := by omega
    subst e
    rw [lpX5_greatestBehind_65, hS.1]
    exact br_t (nI_le (Nat.le_refl _) (by omega)) (h _)
  | succ d ih =>
    intro i hi
    have ih := ih (i + 1) (by omega)
    rw [fb_sm_succ] at ih
    rw [lpX5_greatestBehind_65, hS.1]
    refine br_f (nI_ge (by omega) (by omega)) (sX5_isWood hS ok hy (by omega) (bi_0 ?_))
    cases hd : wd S y i with
    | true =>
      rw [hd, if_pos rfl] at ih
      refine ⟨vp_in_nI (by omega) (by omega), ?_⟩
      rw [nI_clamp (by omega), hT i (by omega), lN_add, nI_1]
      exact ih
    | false =>
      rw [hd, if_neg (by decide)] at ih
      rw [cond_false, show (0 : Int64) = lN 0 from rfl, lN_add, nI_1]
      exact ih
theorem lX5_gb52 {S T f : Nat → Nat} {M : Nat → Int32} {Mt : Nat → Int64} (hS : rS S M) (ok : okS S) (hT : ∀ o, o < S 0 → Mt o = lN (T o)) (hf : ∀ y, f y = fb_sm (fun o => if wd S y o then T o else 0) (S 0)) (hb : ∀ y, f y < 2 ^ 31) (hm : ∀ n, sr_m f n < 2 ^ 31) {K : Int64 → Int32 → Prop} (h : ∀ c, K (lN (sr_m f 48)) c) : ∀ d i, i + d = 48 → lpX5_greatestBehind_52 K M Mt (d + 1) (lN (sr_m f i)) (nI i) := by
  intro d
  induction d with
  | zero =>
    intro i hi
    have e : i = 48 := by omega
    subst e
    rw [lpX5_greatestBehind_52]
    exact br_t (by decide) (h _)
  | succ d ih =>
    intro i hi
    have ih := ih (i + 1) (by omega)
    rw [sr_ms] at ih
    rw [lpX5_greatestBehind_52]
    refine br_f (nI_ge (a := i) (b := 48) (by omega) (by omega)) ⟨S 0 + 1, lX5_gb65 hS ok hT (by omega) (fun _ => ?_) (S 0) 0 (by omega)⟩
    rw [← hf, nI_1]
    by_cases q : f i ≤ sr_m f i
    · rw [if_pos q] at ih
      exact br_t ((lN_le (hb _) (hm _)).mpr q) ih
    · rw [if_neg q] at ih
      exact br_f (fun z => q ((lN_le (hb _) (hm _)).mp z)) ih
theorem lX5_gb3 {S w : Nat → Nat} {M Mw : Nat → Int32} (hS : rS S M) (ok : okS S) (hw : rN (S 0) w Mw) (hb : ∀ o, o < S 0 → w o < 2 ^ 31) {k x : Nat} {is : Bool} (hk : k < 5) (hx : x < 48) {K : Int32 → (Nat → Int64) → Prop} (h : ∀ c Mt, (∀ o, o < S 0 → Mt o = lN (w o * tq k is (wd S x o))) → K c Mt) : ∀ d i Mt, i + d = S 0 → (∀ o, o < i → Mt o = lN (w o * tq k is (wd S x o))) → lpX5_greatestBehind_3 K (nI k) (nI x) (bi is) M Mw (d + 1) (nI i) Mt := by
  obtain ⟨o1, o2, o3, o4, o5, o6⟩ := id ok
  intro d
  induction d with
  | zero =>
    intro i Mt hi hM
    have e : i = S 0 := by omega
    subst e
    rw [lpX5_greatestBehind_3, hS.1]
    exact br_t (nI_le (Nat.le_refl _) (by omega)) (h _ _ hM)
  | succ d ih =>
    intro i Mt hi hM
    have ht := (tq_b hk is (wd S x i)).2
    have vin : vp_in (nI i) 24 := vp_in_nI (by omega) (by omega)
    rw [lpX5_greatestBehind_3, hS.1]
    refine br_f (nI_ge (by omega) (by omega)) ⟨vin, sX5_tenths hS ok hk hx (by omega) ⟨vin, ?_⟩⟩
    rw [nI_clamp (by omega), hw i (by omega), i2l (hb i (by omega)), i2l (by omega), lN_mul, nI_1]
    refine ih (i + 1) _ (by omega) (fun o ho => ?_)
    by_cases e : o = i
    · subst e
      rw [ul_s]
    · rw [ul_n e]
      exact hM o (by omega)
theorem sX5_gb {S w hl pi pc : Nat → Nat} (g : okA S w hl pi pc) {M Mw : Nat → Int32} {Mt : Nat → Int64} (hS : rS S M) (hw : rN (S 0) w Mw) {k x : Nat} {is : Bool} (hk : k < 5) (hx : x < 48) {post : Int64 → (Nat → Int64) → Prop} (h : ∀ Mt', post (lN (sr_m (sr_t S w k x is) 48)) Mt') : wpX5_greatestBehind post M Mw Mt (nI k) (nI x) (bi is) := by
  refine ⟨S 0 + 1, lX5_gb3 hS g.1 hw (okA_w2 g) hk hx (fun c Mt' hM => ⟨49, ?_⟩) (S 0) 0 Mt (by omega) (fun o ho => absurd ho (Nat.not_lt_zero o))⟩
  refine lX5_gb52 (f := sr_t S w k x is) (T := fun o => w o * tq k is (wd S x o)) hS g.1 hM (fun y => rfl) (fun y => ?_) (fun n => ?_) (fun _ => h _) 48 0 (by omega)
  · have h1 := sr_tb S w hk x is y
    have h2 := sw_b g y
    omega
  · have := sr_mb g hk x is n
    omega
theorem sX5_np {S w hl pi pc : Nat → Nat} (g : okA S w hl pi pc) {M Mw : Nat → Int32} {Mt : Nat → Int64} (hS : rS S M) (hw : rN (S 0) w Mw) {k x : Nat} (hk : k < 5) (hx : x < 48) {post : Int64 → (Nat → Int64) → Prop} (h : ∀ Mt', post (lN (sr_v S w k x)) Mt') : wpX5_nextParts post M Mw Mt (nI k) (nI x) := by
  refine sX5_gb (is := true) g hS hw hk hx (fun Mt1 => sX5_gb (is := false) g hS hw hk hx (fun Mt2 => ?_))
  rw [lN_add]
  exact h _
theorem lX5_fn {S w hl pi pc : Nat → Nat} (g : okA S w hl pi pc) {M Mw : Nat → Int32} (hS : rS S M) (hw : rN (S 0) w Mw) {k : Nat} (hk : k < 5) {K : Int32 → Int32 → Int64 → (Nat → Int64) → Prop} (h : ∀ c Mt, K c (nI (am (sr_v S w k) 0 47)) (lN (sr_v S w k (am (sr_v S w k) 0 47))) Mt) : ∀ d i Mt, i + d = 47 → lpX5_findNext_14 K (nI k) M Mw (d + 1) (nI (0 + 1 + i)) (nI (am (sr_v S w k) 0 i)) (lN (sr_v S w k (am (sr_v S w k) 0 i))) Mt := by
  have hv : ∀ x, sr_v S w k x < 2 ^ 31 := fun x => by have := sr_vb g hk x; omega
  intro d
  induction d with
  | zero =>
    intro i Mt hi
    have e : i = 47 := by omega
    subst e
    rw [lpX5_findNext_14]
    exact br_t (by decide) (h _ _)
  | succ d ih =>
    intro i Mt hi
    have ih := fun Mt => ih (i + 1) Mt (by omega)
    rw [lpX5_findNext_14]
    refine br_f (nI_ge (a := 0 + 1 + i) (b := 48) (by omega) (by omega)) (sX5_np g hS hw hk (by omega) (fun Mt' => ?_))
    rw [nI_1]
    have ih := ih Mt'
    rw [am_s, show 0 + 1 + (i + 1) = 0 + 1 + i + 1 by omega] at ih
    by_cases q : sr_v S w k (0 + 1 + i) ≤ sr_v S w k (am (sr_v S w k) 0 i)
    · rw [if_pos q] at ih
      exact br_f (fun z => by have := (lN_lt (hv _) (hv _)).mp z; omega) ih
    · rw [if_neg q] at ih
      exact br_t ((lN_lt (hv _) (hv _)).mpr (by omega)) ih
theorem sX5_findNext {S w hl pi pc : Nat → Nat} (g : okA S w hl pi pc) {M Mw : Nat → Int32} {Mt : Nat → Int64} (hS : rS S M) (hw : rN (S 0) w Mw) {k : Nat} (hk : k < 5) {post : Int32 → Int64 → (Nat → Int64) → Prop} (h : ∀ Mt', post (nI (am (sr_v S w k) 0 47)) (lN (sr_v S w k (am (sr_v S w k) 0 47))) Mt') : wpX5_findNext post M Mw Mt (nI k) := by
  refine ⟨49, ?_⟩
  rw [lpX5_findNext_14]
  refine br_f (by decide) (sX5_np (x := 0) g hS hw hk (by omega) (fun Mt' => br_t ?_ ?_))
  · have := sr_vb g hk 0
    rw [Int64.lt_iff_toInt_lt, lN_tI (by omega), show (-1 : Int64).toInt = -1 by decide]
    omega
  · exact lX5_fn (K := fun _ a b c => post a b c) g hS hw hk (fun _ _ => h _) 47 0 Mt' (by omega)
theorem sX5_worthParts {S w hl pi pc : Nat → Nat} (g : okA S w hl pi pc) {M Mw : Nat → Int32} {Mt : Nat → Int64} (hS : rS S M) (hw : rN (S 0) w Mw) {k : Nat} (hk : k < 5) {post : Int64 → Int32 → Int64 → (Nat → Int64) → Prop} (h : ∀ a b Mt', post (lN (sr_g S w k)) a b Mt') : wpX5_worthParts post M Mw Mt (nI k) := by
  have hf : ∀ x, sw S w x < 2 ^ 31 := fun x => by have := sw_b g x; omega
  have hab := am_b (sw S w) 0 47
  refine sX5_findNext g hS hw hk (fun Mt' => sX5_bestNow hS g.1 hw (okA_w2 g) hf (sX5_woodAt hS g.1 hw (okA_w2 g) (by omega) ?_))
  rw [show (10 : Int64) = lN 10 from rfl, lN_mul, lN_sub (sr_v10 S w hk _ (by omega))]
  exact h _ _ _
/-! the class: unlike inches -/
def sr_U (S : Nat → Nat) (m : Nat) (u : Nat → Nat) (x : Nat) : Prop := m ≤ x ∧ (∀ j, j < m → u j < x) ∧ (∀ i j, i < j → j < m → u i < u j) ∧ ∀ y, y < x → ∃ j, j < m ∧ u j ≤ y ∧ bo (wd S (u j)) (S 0) = bo (wd S y) (S 0)
theorem bo_inj {p q : Nat → Bool} {n : Nat} (h : bo p n = bo q n) : ∀ o, o < n → p o = q o := by
  intro o ho
  have h1 := bo_test p o n
  rw [h, bo_test, decide_eq_true ho, Bool.true_and, Bool.true_and] at h1
  exact h1.symm
theorem lX1_g18 {S : Nat → Nat} (ok : okS S) {wo : Nat → Int32} (hwo : ∀ x, x < 48 → wo x = nI (bo (wd S x) (S 0))) {m x : Nat} {u : Nat → Nat} {C : Nat → Int32} (hx : x < 48) (hm : m ≤ 48) (hu : ∀ j, j < m → u j < 48) (hC : ∀ j, j < m → C j = nI (u j)) {K : Int32 → Int32 → Prop} (h0 : (∃ j, j < m ∧ bo (wd S (u j)) (S 0) = bo (wd S x) (S 0)) → ∀ c, K 0 c) (h1 : (∀ j, j < m → ¬ bo (wd S (u j)) (S 0) = bo (wd S x) (S 0)) → ∀ c, K 1 c) : ∀ d i, i + d = m → (∀ j, j < i → ¬ bo (wd S (u j)) (S 0) = bo (wd S x) (S 0)) → lpX1_gatherUnlike_18 K (nI x) (nI m) C wo (d + 2) 1 (nI i) := by
  intro d
  induction d with
  | zero =>
    intro i hi hn
    have e : i = m := by omega
    subst e
    rw [lpX1_gatherUnlike_18]
    exact br_t (nI_le (Nat.le_refl _) (by omega)) (h1 hn _)
  | succ d ih =>
    intro i hi hn
    have hui := hu i (by omega)
    have e1 : (nI i).toNatClampNeg = i := nI_clamp (by omega)
    have e2 : (nI (u i)).toNatClampNeg = u i := nI_clamp (by omega)
    have e3 : (nI x).toNatClampNeg = x := nI_clamp (by omega)
    have b1 := bo_24 (p := wd S (u i)) ok.2.1
    have b2 := bo_24 (p := wd S x) ok.2.1
    rw [lpX1_gatherUnlike_18]
    refine br_f (nI_ge (by omega) (by omega)) (br_f (nI_ge (a := i) (b := 48) (by omega) (by omega)) (br_f (by decide) ⟨vp_in_nI (by omega) (by omega), ?_⟩))
    rw [e1, hC i (by omega), e2, e3, hwo (u i) hui, hwo x hx, nI_1]
    refine ⟨vp_in_nI hui (by omega), vp_in_nI hx (by omega), ?_⟩
    by_cases q : bo (wd S (u i)) (S 0) = bo (wd S x) (S 0)
    · refine br_t (by rw [q]) ?_
      rw [lpX1_gatherUnlike_18]
      by_cases c : nI m ≤ nI (i + 1)
      · exact br_t c (h0 ⟨i, by omega, q⟩ _)
      · refine br_f c ?_
        by_cases c2 : (48 : Int32) ≤ nI (i + 1)
        · exact br_t c2 (h0 ⟨i, by omega, q⟩ _)
        · exact br_f c2 (br_t rfl (h0 ⟨i, by omega, q⟩ _))
    · refine br_f (fun z => q ((nI_eq (by omega) (by omega)).mp z)) (ih (i + 1) (by omega) (fun j hj => ?_))
      by_cases e : j = i
      · subst e; exact q
      · exact hn j (by omega)
theorem lX1_g7 {S : Nat → Nat} (ok : okS S) {wo : Nat → Int32} (hwo : ∀ x, x < 48 → wo x = nI (bo (wd S x) (S 0))) {K : Int32 → Int32 → (Nat → Int32) → Prop} (h : ∀ c m u C, sr_U S m u 48 → (∀ j, j < m → C j = nI (u j)) → K c (nI m) C) : ∀ d x m u C, x + d = 48 → sr_U S m u x → (∀ j, j < m → C j = nI (u j)) → lpX1_gatherUnlike_7 K wo (d + 1) (nI x) (nI m) C := by
  intro d
  induction d with
  | zero =>
    intro x m u C hx hU hC
    have e : x = 48 := by omega
    subst e
    rw [lpX1_gatherUnlike_7]
    exact br_t (by decide) (h _ m u C hU hC)
  | succ d ih =>
    intro x m u C hx hU hC
    obtain ⟨u1, u2, u3, u4_⟩ := id hU
    rw [lpX1_gatherUnlike_7]
    refine br_f (nI_ge (a := x) (b := 48) (by omega) (by omega)) ⟨m + 2, lX1_g18 ok hwo (by omega) (by omega) (fun j hj => by have := u2 j hj; omega) hC (fun hq c => ?_) (fun hq c => ?_) m 0 (by omega) (fun j hj => absurd hj (Nat.not_lt_zero j))⟩
    · refine br_t rfl ?_
      rw [nI_1]
      refine ih (x + 1) m u C (by omega) ⟨by omega, fun j hj => by have := u2 j hj; omega, u3, fun y hy => ?_⟩ hC
      by_cases e : y = x
      · subst e
        obtain ⟨j, hj, hb⟩ := hq
        exact ⟨j, hj, by have := u2 j hj; omega, hb⟩
      · exact u4_ y (by omega)
    · refine br_f (by decide) (br_f (nI_ge (a := m) (b := 48) (by omega) (by omega)) ⟨vp_in_nI (by omega) (by omega), ?_⟩)
      rw [nI_clamp (by omega), nI_1, nI_1]
      refine ih (x + 1) (m + 1) (fun j => if j = m then x else u j) _ (by omega) ⟨by omega, fun j hj => ?_, fun i j hij hj => ?_, fun y hy => ?_⟩ (fun j hj => ?_)
      · dsimp only
        split
        · omega
        · have := u2 j (by omega)
          omega
      · dsimp only
        rw [if_neg (by omega : ¬ i = m)]
        by_cases e : j = m
        · rw [if_pos e]
          exact u2 i (by omega)
        · rw [if_neg e]
          exact u3 i j hij (by omega)
      · by_cases e : y = x
        · subst e
          exact ⟨m, by omega, by dsimp only; rw [if_pos rfl]; exact Nat.le_refl _, by dsimp only; rw [if_pos rfl]⟩
        · obtain ⟨j, h1, h2, h3⟩ := u4_ y (by omega)
          exact ⟨j, by omega, by dsimp only; rw [if_neg (by omega : ¬ j = m)]; exact h2, by dsimp only; rw [if_neg (by omega : ¬ j = m)]; exact h3⟩
      · show upd C m (nI x) j = nI (if j = m then x else u j)
        by_cases e : j = m
        · subst e
          rw [pk_us, if_pos rfl]
        · rw [pk_un e, if_neg e]
          exact hC j (by omega)
theorem sX1_gather {S : Nat → Nat} (ok : okS S) {wo C0 : Nat → Int32} (hwo : ∀ x, x < 48 → wo x = nI (bo (wd S x) (S 0))) {post : Int32 → (Nat → Int32) → Prop} (h : ∀ m u C, sr_U S m u 48 → (∀ j, j < m → C j = nI (u j)) → post (nI m) C) : wpX1_gatherUnlike post C0 wo :=
  ⟨49, lX1_g7 (K := fun _ a b => post a b) ok hwo (fun _ m u C h1 h2 => h m u C h1 h2) 48 0 0 (fun _ => 0) C0 (by omega) ⟨Nat.le_refl _, fun j hj => absurd hj (Nat.not_lt_zero j), fun i j _ hj => absurd hj (Nat.not_lt_zero j), fun y hy => absurd hy (Nat.not_lt_zero y)⟩ (fun j hj => absurd hj (Nat.not_lt_zero j))⟩
/-! unlike inches tell all -/
theorem sr_tc {S w : Nat → Nat} {k x y y' : Nat} {is : Bool} (h : bo (wd S y) (S 0) = bo (wd S y') (S 0)) : sr_t S w k x is y = sr_t S w k x is y' := fb_sm_cong (fun o ho => by rw [bo_inj h o ho])
theorem sr_tx {S w : Nat → Nat} {k x x' y : Nat} {is : Bool} (h : bo (wd S x) (S 0) = bo (wd S x') (S 0)) : sr_t S w k x is y = sr_t S w k x' is y := fb_sm_cong (fun o ho => by rw [bo_inj h o ho])
theorem sr_mu {S w : Nat → Nat} {m : Nat} {u : Nat → Nat} (hU : sr_U S m u 48) (k x : Nat) (is : Bool) : sr_m (fun j => sr_t S w k x is (u j)) m = sr_m (sr_t S w k x is) 48 := by
  obtain ⟨u1, u2, u3, u4_⟩ := hU
  apply Nat.le_antisymm
  · exact sr_mle _ _ _ (fun j hj => sr_mge (sr_t S w k x is) 48 (u j) (u2 j hj))
  · refine sr_mle _ _ _ (fun y hy => ?_)
    obtain ⟨j, h1, h2, h3⟩ := u4_ y hy
    rw [← sr_tc h3]
    exact sr_mge (fun j => sr_t S w k x is (u j)) m j h1
theorem sr_vx {S w : Nat → Nat} {k x x' : Nat} (h : bo (wd S x) (S 0) = bo (wd S x') (S 0)) : sr_v S w k x = sr_v S w k x' := by
  have e : ∀ is, sr_t S w k x is = sr_t S w k x' is := fun is => funext fun y => sr_tx h
  unfold sr_v
  rw [e, e]
theorem sr_am {S w : Nat → Nat} {m : Nat} {u : Nat → Nat} (hU : sr_U S m u 48) (k : Nat) : u (am (fun j => sr_v S w k (u j)) 0 (m - 1)) = am (sr_v S w k) 0 47 := by
  obtain ⟨u1, u2, u3, u4_⟩ := hU
  obtain ⟨j0, hj0, -⟩ := u4_ 0 (by omega)
  have hb := am_b (fun j => sr_v S w k (u j)) 0 (m - 1)
  have hb2 := am_b (sr_v S w k) 0 47
  have f1 := am_fst (fun j => sr_v S w k (u j)) 0 (m - 1)
  have f2 := am_fst (sr_v S w k) 0 47
  have g1 := am_ge (fun j => sr_v S w k (u j)) 0 (m - 1)
  have g2 := am_ge (sr_v S w k) 0 47
  generalize am (fun j => sr_v S w k (u j)) 0 (m - 1) = i at *
  generalize am (sr_v S w k) 0 47 = A at *
  obtain ⟨j, h1, h2, h3⟩ := u4_ A (by omega)
  have ev := sr_vx (w := w) (k := k) h3
  have a1 := g1 j (by omega) (by omega)
  have a2 := g2 (u i) (by omega) (by have := u2 i (by omega); omega)
  have a1 : sr_v S w k (u j) ≤ sr_v S w k (u i) := a1
  rcases Nat.lt_trichotomy (u i) A with q | q | q
  · have := f2 (u i) (by omega) q
    omega
  · exact q
  · have hji : j < i := by
      rcases Nat.lt_trichotomy j i with z | z | z
      · exact z
      · subst z; omega
      · have := u3 i j z h1
        omega
    have := f1 j (by omega) hji
    have : sr_v S w k (u j) < sr_v S w k (u i) := this
    omega
/-! the class: the search -/
theorem lX1_45 {S w : Nat → Nat} (ok : okS S) {Mw : Nat → Int64} {wo : Nat → Int32} (hM : ∀ o, o < 24 → Mw o = lN (if o < S 0 then w o else 0)) (hwo : ∀ x, x < 48 → wo x = nI (bo (wd S x) (S 0))) {m x : Nat} {u : Nat → Nat} {C : Nat → Int32} (hx : x < 48) (hm : m ≤ 48) (hu : ∀ j, j < m → u j < 48) (hC : ∀ j, j < m → C j = nI (u j)) {K : Int32 → (Nat → Int64) → Prop} (h : ∀ c Cs, (∀ j, j < m → Cs j = lN (sb S w x (u j))) → K c Cs) : ∀ d i Cs, i + d = m → (∀ j, j < i → Cs j = lN (sb S w x (u j))) → lpX1_lookWith_45 K (nI x) (nI m) C Mw wo (d + 1) (nI i) Cs := by
  intro d
  induction d with
  | zero =>
    intro i Cs hi hs
    have e : i = m := by omega
    subst e
    rw [lpX1_lookWith_45]
    exact br_t (nI_le (Nat.le_refl _) (by omega)) (h _ _ hs)
  | succ d ih =>
    intro i Cs hi hs
    have e1 : (nI i).toNatClampNeg = i := nI_clamp (by omega)
    have vin : vp_in (nI i) 48 := vp_in_nI (by omega) (by omega)
    rw [lpX1_lookWith_45]
    refine br_f (nI_ge (by omega) (by omega)) (br_f (nI_ge (a := i) (b := 48) (by omega) (by omega)) ⟨vin, ?_⟩)
    rw [e1, hC i (by omega), nI_1]
    refine sX3_sumAtBoth ok hM hwo hx (hu i (by omega)) ⟨vin, ?_⟩
    refine ih (i + 1) _ (by omega) (fun j hj => ?_)
    by_cases e : j = i
    · subst e
      rw [ul_s]
    · rw [ul_n e]
      exact hs j (by omega)
theorem lX1_22 {S w hl pi pc : Nat → Nat} (g : okA S w hl pi pc) {Ms Cs : Nat → Int64} (hMs : ∀ x, x < 48 → Ms x = lN (sw S w x)) {m x k : Nat} {is : Bool} {u : Nat → Nat} {C : Nat → Int32} (hk : k < 5) (hm : m ≤ 48) (hu : ∀ j, j < m → u j < 48) (hC : ∀ j, j < m → C j = nI (u j)) (hs : ∀ j, j < m → Cs j = lN (sb S w x (u j))) {K : Int64 → Int32 → Prop} (h : ∀ c, K (lN (sr_m (fun j => sr_t S w k x is (u j)) m)) c) : ∀ d i, i + d = m → lpX1_greatestThen_22 K (nI (tq k is true)) (nI (tq k is false)) (nI m) C Cs Ms (d + 1) (lN (sr_m (fun j => sr_t S w k x is (u j)) i)) (nI i) := by
  have ht := (tq_b hk is true).2
  have hn := (tq_b hk is false).2
  have hb : ∀ j, sr_t S w k x is (u j) < 2 ^ 31 := fun j => by
    have h1 := sr_tb S w hk x is (u j)
    have h2 := sw_b g (u j)
    omega
  have hmb : ∀ n, sr_m (fun j => sr_t S w k x is (u j)) n < 2 ^ 31 := fun n => by
    have : sr_m (fun j => sr_t S w k x is (u j)) n ≤ 127545840 := sr_mle _ _ n (fun j _ => by
      have h1 := sr_tb S w hk x is (u j)
      have h2 := sw_b g (u j)
      omega)
    omega
  intro d
  induction d with
  | zero =>
    intro i hi
    have e : i = m := by omega
    subst e
    rw [lpX1_greatestThen_22]
    exact br_t (nI_le (Nat.le_refl _) (by omega)) (h _)
  | succ d ih =>
    intro i hi
    have ih := ih (i + 1) (by omega)
    rw [sr_ms] at ih
    have hui := hu i (by omega)
    have e1 : (nI i).toNatClampNeg = i := nI_clamp (by omega)
    have e2 : (nI (u i)).toNatClampNeg = u i := nI_clamp (by omega)
    have vin : vp_in (nI i) 48 := vp_in_nI (by omega) (by omega)
    have hsb : sb S w x (u i) ≤ sw S w (u i) := by
      have := sr_sw S w x (u i)
      omega
    rw [lpX1_greatestThen_22]
    refine br_f (nI_ge (by omega) (by omega)) (br_f (nI_ge (a := i) (b := 48) (by omega) (by omega)) ⟨vin, vin, ?_⟩)
    rw [e1, hC i (by omega), e2, hMs (u i) hui, hs i (by omega), nI_1]
    refine ⟨vp_in_nI hui (by omega), vin, fun x9 h9 => ?_⟩
    rw [lN_sub hsb, i2l (by omega), i2l (by omega), lN_mul, lN_mul, lN_add, ← sr_te] at h9
    subst h9
    by_cases q : sr_t S w k x is (u i) ≤ sr_m (fun j => sr_t S w k x is (u j)) i
    · rw [if_pos q] at ih
      exact br_f (fun z => by have := (lN_lt (hmb _) (hb _)).mp z; omega) ih
    · rw [if_neg q] at ih
      exact br_t ((lN_lt (hmb _) (hb _)).mpr (by omega)) ih
theorem sX1_gt {S w hl pi pc : Nat → Nat} (g : okA S w hl pi pc) {Ms Cs : Nat → Int64} (hMs : ∀ x, x < 48 → Ms x = lN (sw S w x)) {m x k : Nat} {is : Bool} {u : Nat → Nat} {C : Nat → Int32} (hk : k < 5) (hU : sr_U S m u 48) (hC : ∀ j, j < m → C j = nI (u j)) (hs : ∀ j, j < m → Cs j = lN (sb S w x (u j))) {post : Int64 → Prop} (h : post (lN (sr_m (sr_t S w k x is) 48))) : wpX1_greatestThen post (nI m) C Cs Ms (nI k) (bi is) := by
  rw [← sr_mu hU] at h
  exact sX4_tenths (b := true) hk (sX4_tenths (b := false) hk ⟨m + 1, lX1_22 (K := fun v _ => post v) g hMs hk hU.1 hU.2.1 hC hs (fun _ => h) m 0 (by omega)⟩)
theorem lX1_17s {S w hl pi pc : Nat → Nat} (g : okA S w hl pi pc) {Mw Ms : Nat → Int64} {wo : Nat → Int32} (hM : ∀ o, o < 24 → Mw o = lN (if o < S 0 then w o else 0)) (hwo : ∀ x, x < 48 → wo x = nI (bo (wd S x) (S 0))) (hMs : ∀ x, x < 48 → Ms x = lN (sw S w x)) {m k : Nat} {u : Nat → Nat} {C : Nat → Int32} (hk : k < 5) (hU : sr_U S m u 48) (hC : ∀ j, j < m → C j = nI (u j)) {K : Int64 → Int32 → Int32 → (Nat → Int64) → Prop} {n i : Nat} (hi : i < m) {X : Int64} {I : Int32} {Cs : Nat → Int64} (h : ∀ Cs', (lN (sr_v S w k (u i)) ≤ X → lpX1_lookWith_17 K (nI k) (nI m) C Mw wo Ms n X (nI (i + 1)) I Cs') ∧ (¬ lN (sr_v S w k (u i)) ≤ X → lpX1_lookWith_17 K (nI k) (nI m) C Mw wo Ms n (lN (sr_v S w k (u i))) (nI (i + 1)) (nI (u i)) Cs')) : lpX1_lookWith_17 K (nI k) (nI m) C Mw wo Ms (n + 1) X (nI i) I Cs := by
  have u1 := hU.1
  have hui := hU.2.1 i hi
  have e1 : (nI i).toNatClampNeg = i := nI_clamp (by omega)
  rw [lpX1_lookWith_17]
  refine br_f (nI_ge hi (by omega)) (br_f (nI_ge (a := i) (b := 48) (by omega) (by omega)) ⟨vp_in_nI (by omega) (by omega), m + 1, ?_⟩)
  rw [e1, hC i hi, nI_1]
  refine lX1_45 g.1 hM hwo hui u1 hU.2.1 hC (fun _ Cs' hs => ?_) m 0 Cs (by omega) (fun j hj => absurd hj (Nat.not_lt_zero j))
  refine sX1_gt (is := true) g hMs hk hU hC hs (sX1_gt (is := false) g hMs hk hU hC hs ?_)
  rw [lN_add]
  exact h Cs'
theorem lX1_17 {S w hl pi pc : Nat → Nat} (g : okA S w hl pi pc) {Mw Ms : Nat → Int64} {wo : Nat → Int32} (hM : ∀ o, o < 24 → Mw o = lN (if o < S 0 then w o else 0)) (hwo : ∀ x, x < 48 → wo x = nI (bo (wd S x) (S 0))) (hMs : ∀ x, x < 48 → Ms x = lN (sw S w x)) {m k : Nat} {u : Nat → Nat} {C : Nat → Int32} (hk : k < 5) (hU : sr_U S m u 48) (hC : ∀ j, j < m → C j = nI (u j)) {K : Int64 → Int32 → Int32 → (Nat → Int64) → Prop} (h : ∀ c Cs, K (lN (sr_v S w k (u (am (fun j => sr_v S w k (u j)) 0 (m - 1))))) c (nI (u (am (fun j => sr_v S w k (u j)) 0 (m - 1)))) Cs) : ∀ d i Cs, 0 + 1 + i + d = m → lpX1_lookWith_17 K (nI k) (nI m) C Mw wo Ms (d + 1) (lN (sr_v S w k (u (am (fun j => sr_v S w k (u j)) 0 i)))) (nI (0 + 1 + i)) (nI (u (am (fun j => sr_v S w k (u j)) 0 i))) Cs := by
  have u1 := hU.1
  have hv : ∀ x, sr_v S w k x < 2 ^ 31 := fun x => by have := sr_vb g hk x; omega
  intro d
  induction d with
  | zero =>
    intro i Cs hi
    have e : i = m - 1 := by omega
    subst e
    rw [lpX1_lookWith_17]
    exact br_t (nI_le (by omega) (by omega)) (h _ _)
  | succ d ih =>
    intro i Cs hi
    refine lX1_17s g hM hwo hMs hk hU hC (by omega) (fun Cs' => ?_)
    have ih := ih (i + 1) Cs' (by omega)
    rw [am_s, show 0 + 1 + (i + 1) = 0 + 1 + i + 1 by omega] at ih
    by_cases q : sr_v S w k (u (0 + 1 + i)) ≤ sr_v S w k (u (am (fun j => sr_v S w k (u j)) 0 i))
    · rw [if_pos q] at ih
      exact br_t ((lN_le (hv _) (hv _)).mpr q) ih
    · rw [if_neg q] at ih
      exact br_f (fun z => q ((lN_le (hv _) (hv _)).mp z)) ih
theorem sX1_look {S w hl pi pc : Nat → Nat} (g : okA S w hl pi pc) {Mw Ms Cs : Nat → Int64} {wo C0 : Nat → Int32} (hM : ∀ o, o < 24 → Mw o = lN (if o < S 0 then w o else 0)) (hwo : ∀ x, x < 48 → wo x = nI (bo (wd S x) (S 0))) (hMs : ∀ x, x < 48 → Ms x = lN (sw S w x)) {k : Nat} (hk : k < 5) {post : Int32 → Int64 → Int32 → (Nat → Int32) → (Nat → Int64) → Prop} (h : ∀ a b c, post (nI (am (sr_v S w k) 0 47)) (lN (sr_g S w k)) a b c) : wpX1_lookWith post C0 Cs Mw wo Ms (nI k) := by
  have hf : ∀ x, sw S w x < 2 ^ 31 := fun x => by have := sw_b g x; omega
  have hab := am_b (sw S w) 0 47
  refine sX1_gather g.1 hwo (fun m u C hU hC => ⟨m + 1, ?_⟩)
  obtain ⟨j0, hj0, -⟩ := hU.2.2.2 0 (by omega)
  refine lX1_17s (i := 0) g hM hwo hMs hk hU hC (by omega) (fun Cs' => br_f (fun z => ?_) ?_)
  · have h1 := Int64.le_iff_toInt_le.mp z
    have h2 := sr_vb g hk (u 0)
    rw [lN_tI (by omega), show (-1 : Int64).toInt = -1 by decide] at h1
    omega
  · obtain ⟨d, rfl⟩ : ∃ d, m = d + 1 := ⟨m - 1, by omega⟩
    refine lX1_17 g hM hwo hMs hk hU hC (fun c Cs2 => ?_) d 0 Cs' (by omega)
    refine sX3_likeliest (f := sw S w) (a := 0) (n := 47) hMs hf (by omega) rfl ⟨vp_in_nI (by omega) (by omega), ?_⟩
    rw [sr_am hU, nI_clamp (by omega), hMs _ (by omega), show (10 : Int64) = lN 10 from rfl, lN_mul, lN_sub (sr_v10 S w hk _ (by omega))]
    exact h _ _ _
