/-! common divisors -/
theorem lN_tI {n : Nat} (h : n < 2 ^ 63) : (lN n).toInt = (n : Int) := lg_ofNat_toInt h
theorem lN_ofI {x : Int64} {n : Nat} (hn : n < 2 ^ 63) (h : x.toInt = (n : Int)) : x = lN n := Int64.toInt_inj.mp (by rw [h, lN_tI hn])
theorem lN_div {a b : Nat} (ha : a < 2 ^ 63) (hb : 0 < b) (hb2 : b < 2 ^ 63) : lN a / lN b = lN (a / b) := by
  have hq : a / b ≤ a := Nat.div_le_self a b
  refine lN_ofI (by omega) ?_
  rw [Int64.toInt_div, lN_tI ha, lN_tI hb2, Int.tdiv_eq_ediv_of_nonneg (by omega), ← Int.natCast_ediv]
  generalize a / b = q at *
  exact fb_bmodL (by omega) (by omega)
theorem lN_rem {a b : Nat} (ha : a < 2 ^ 63) (hb : 0 < b) (hb2 : b < 2 ^ 63) : lN a - lN a / lN b * lN b = lN (a % b) := by
  have h1 : a / b * b ≤ a := Nat.div_mul_le_self a b
  have h2 := Nat.mod_add_div a b
  have h3 : b * (a / b) = a / b * b := Nat.mul_comm _ _
  rw [lN_div ha hb hb2, lN_mul, lN_sub h1]
  congr 1
  omega
theorem lN_eq0 {n : Nat} (h : n < 2 ^ 63) : lN n = 0 ↔ n = 0 := fb_lN_inj (b := 0) h (by decide)
theorem sX5_divisor {a b : Nat} (ha : a < 2 ^ 63) (hb : b < 2 ^ 63) {K : Int64 → Int64 → Prop} (h : K (lN (Nat.gcd a b)) (lN 0)) : ∃ n, lpX5_divisor_6 K n (lN a) (lN b) := by
  induction b using Nat.strongRecOn generalizing a with
  | ind b ih =>
    rcases Nat.eq_zero_or_pos b with e | e
    · subst e
      rw [Nat.gcd_zero_right] at h
      exact ⟨1, by rw [lpX5_divisor_6]; exact br_t rfl h⟩
    · have hm : a % b < b := Nat.mod_lt _ e
      rw [Nat.gcd_comm a b, Nat.gcd_rec b a] at h
      rw [Nat.gcd_comm (a % b) b] at h
      obtain ⟨n, hn⟩ := ih (a % b) hm (a := b) hb (by omega) h
      refine ⟨n + 1, ?_⟩
      have q : ¬ lN b = 0 := fun z => by have := (lN_eq0 hb).mp z; omega
      rw [lpX5_divisor_6, lN_rem ha e hb]
      exact br_f q ⟨q, hn⟩
theorem gcd_step (a b : Nat) : Nat.gcd b (a % b) = Nat.gcd a b := by
  rw [Nat.gcd_comm b (a % b), ← Nat.gcd_rec b a, Nat.gcd_comm b a]
theorem lX4_commonDivisor {g : Nat} {K : Int64 → Int64 → Int32 → Prop} (h : ∀ c i, K (lN g) c i) : ∀ m a b i, Nat.gcd a b = g → b ≤ a → a < 2 ^ 63 → a * b < 2 ^ m → i + m < 200 → lpX4_commonDivisor_9 K (m + 1) (lN a) (lN b) (nI i) := by
  intro m
  induction m with
  | zero =>
    intro a b i e hab ha hm hi
    have hb : b = 0 := by
      rcases Nat.eq_zero_or_pos b with z | z
      · exact z
      · have : 1 * 1 ≤ a * b := Nat.mul_le_mul (by omega) z
        omega
    subst hb
    rw [Nat.gcd_zero_right] at e
    subst e
    rw [lpX4_commonDivisor_9]
    exact br_f (nI_ge (a := i) (b := 200) (by omega) (by omega)) (br_t rfl (h _ _))
  | succ m ih =>
    intro a b i e hab ha hm hi
    rw [lpX4_commonDivisor_9]
    refine br_f (nI_ge (a := i) (b := 200) (by omega) (by omega)) ?_
    rcases Nat.eq_zero_or_pos b with z | z
    · subst z
      rw [Nat.gcd_zero_right] at e
      subst e
      exact br_t rfl (h _ _)
    · have q : ¬ lN b = 0 := fun z => by have := (lN_eq0 (n := b) (by omega)).mp z; omega
      rw [lN_rem ha z (by omega), nI_1]
      refine br_f q ⟨q, ?_⟩
      have h1 : a % b < b := Nat.mod_lt _ z
      have h2 : 2 * (a % b) < a := by
        have x1 := Nat.mod_add_div a b
        have x2 : 1 ≤ a / b := (Nat.one_le_div_iff z).mpr hab
        have x3 : b * 1 ≤ b * (a / b) := Nat.mul_le_mul_left b x2
        omega
      refine ih b (a % b) (i + 1) ((gcd_step a b).trans e) (by omega) (by omega) ?_ (by omega)
      have h3 : b * (2 * (a % b)) < b * a := Nat.mul_lt_mul_of_pos_left h2 z
      have h4 : b * (2 * (a % b)) = 2 * (b * (a % b)) := by rw [Nat.mul_left_comm]
      have h5 : b * a = a * b := Nat.mul_comm _ _
      have h6 : 2 ^ (m + 1) = 2 * 2 ^ m := by rw [Nat.pow_succ, Nat.mul_comm]
      omega
theorem sX4_commonDivisor {a b : Nat} (ha : a < 2 ^ 63) (hb : b < 2 ^ 63) {post : Int64 → Prop} (h : post (lN (Nat.gcd a b))) : wpX4_commonDivisor post (lN a) (lN b) := by
  have hp : a * b < 2 ^ 126 := by
    have h1 : a * b ≤ 2 ^ 63 * b := Nat.mul_le_mul_right b (by omega)
    have h2 : 2 ^ 63 * b < 2 ^ 63 * 2 ^ 63 := Nat.mul_lt_mul_of_pos_left hb (by decide)
    have h3 : (2 : Nat) ^ 63 * 2 ^ 63 = 2 ^ 126 := by decide +kernel
    omega
  by_cases q : b ≤ a
  · exact ⟨127, lX4_commonDivisor (K := fun v _ _ => post v) (fun _ _ => h) 126 a b 0 rfl q ha hp (by omega)⟩
  · refine ⟨128, ?_⟩
    rw [lpX4_commonDivisor_9]
    have q0 : ¬ lN b = 0 := fun z => by have := (lN_eq0 hb).mp z; omega
    refine br_f (by decide) (br_f q0 ⟨q0, ?_⟩)
    rw [lN_rem ha (by omega) hb, Nat.mod_eq_of_lt (by omega)]
    exact lX4_commonDivisor (K := fun v _ _ => post v) (fun _ _ => h) 126 b a 1 (Nat.gcd_comm b a) (by omega) hb (by rw [Nat.mul_comm]; exact hp) (by omega)
/-- the lowest terms -/
def pt (a b i : Nat) : Nat := if b = 0 then i else if i = 0 then a / Nat.gcd a b else b / Nat.gcd a b
theorem lN_le0 {n : Nat} (h : n < 2 ^ 63) : lN n ≤ 0 ↔ n = 0 := by
  rw [Int64.le_iff_toInt_le, lN_tI h, show (0 : Int64).toInt = 0 by decide]
  omega
theorem lN_lt' {a b : Nat} (ha : a < 2 ^ 63) (hb : b < 2 ^ 63) : lN a < lN b ↔ a < b := by
  rw [Int64.lt_iff_toInt_lt, lN_tI ha, lN_tI hb]
  omega
theorem lN_le' {a b : Nat} (ha : a < 2 ^ 63) (hb : b < 2 ^ 63) : lN a ≤ lN b ↔ a ≤ b := by
  rw [Int64.le_iff_toInt_le, lN_tI ha, lN_tI hb]
  omega
theorem sX5_partOf {a b i : Nat} (ha : a < 2 ^ 63) (hb : b < 2 ^ 63) (hi : i < 2) {post : Int64 → Prop} (h : post (lN (pt a b i))) : wpX5_partOf post (lN a) (lN b) (nI i) := by
  unfold pt at h
  by_cases q : b = 0
  · subst q
    rw [if_pos rfl] at h
    refine br_t rfl ?_
    rw [i2l (by omega)]
    exact h
  · rw [if_neg q] at h
    have q0 : ¬ lN b = 0 := fun z => q ((lN_eq0 hb).mp z)
    have hg : 0 < Nat.gcd a b := Nat.gcd_pos_of_pos_right a (by omega)
    have hg2 : Nat.gcd a b ≤ b := Nat.gcd_le_right a (by omega)
    have q1 : ¬ lN (Nat.gcd a b) = 0 := fun z => by have := (lN_eq0 (by omega)).mp z; omega
    refine br_f q0 (pk_eq i 0 (fun e => ?_) (fun e => ?_))
    · rw [if_pos e] at h
      refine sX5_divisor (K := fun v _ => ¬ v = 0 ∧ post (lN a / v)) ha hb ⟨q1, ?_⟩
      rw [lN_div ha hg (by omega)]
      exact h
    · rw [if_neg e] at h
      refine sX5_divisor (K := fun v _ => ¬ v = 0 ∧ post (lN b / v)) ha hb ⟨q1, ?_⟩
      rw [lN_div hb hg (by omega)]
      exact h
theorem sX4_partOf {a b i : Nat} (ha : a < 2 ^ 63) (hb : b < 2 ^ 63) (hi : i < 2) {post : Int64 → Prop} (h : post (lN (pt a b i))) : wpX4_partOf post (lN a) (lN b) (nI i) := by
  unfold pt at h
  by_cases p : a = 0
  · subst p
    refine br_t ((lN_le0 ha).mpr rfl) ?_
    have h : post (lN i) := by
      by_cases q : b = 0
      · rw [if_pos q] at h; exact h
      · rw [if_neg q, Nat.gcd_zero_left, Nat.zero_div, Nat.div_self (by omega)] at h
        by_cases e : i = 0
        · rw [if_pos e] at h; rw [e]; exact h
        · rw [if_neg e] at h; rw [show i = 1 by omega]; exact h
    rcases (show i = 0 ∨ i = 1 by omega) with rfl | rfl
    · exact br_t rfl h
    · exact br_f (by decide) h
  · refine br_f (fun z => p ((lN_le0 ha).mp z)) ?_
    by_cases q : b = 0
    · subst q
      rw [if_pos rfl] at h
      refine br_f (by decide) ?_
      rcases (show i = 0 ∨ i = 1 by omega) with rfl | rfl
      · exact br_t rfl h
      · exact br_f (by decide) h
    · rw [if_neg q] at h
      have hg : 0 < Nat.gcd a b := Nat.gcd_pos_of_pos_right a (by omega)
      have hg2 : Nat.gcd a b ≤ b := Nat.gcd_le_right a (by omega)
      have q1 : ¬ lN (Nat.gcd a b) = 0 := fun z => by have := (lN_eq0 (by omega)).mp z; omega
      refine br_t ((lN_lt' (a := 0) (by omega) hb).mpr (by omega)) (sX4_commonDivisor ha hb ?_)
      refine br_f (fun z => ?_) ?_
      · have := (lN_lt' (b := 1) (by omega) (by omega)).mp z
        omega
      · refine pk_eq i 0 (fun e => ⟨q1, ?_⟩) (fun e => ⟨q1, ?_⟩)
        · rw [if_pos e] at h
          rw [lN_div ha hg (by omega)]
          exact h
        · rw [if_neg e] at h
          rw [lN_div hb hg (by omega)]
          exact h
theorem ph_likely : PH_likely RE := by
  intro v_T v_n v_k v_t v_s v_r v_c v_M p0 p1 hR
  obtain ⟨S, w, hl, pi, pc, g1, g2, g3, g4, g5, g6, g7⟩ := id hR
  obtain ⟨c0, c1, c2, c3, c4, c5, c6, c7, c8, c9, c10, c11, c12, c13⟩ := id g2
  obtain ⟨m0, m1, m2, m3, m4, m5, m6⟩ := id g3
  have h1 := sm_b g1
  refine inX (x := p0) 48 (by omega) (fun q => ?_) (fun j hj e => ?_)
  · refine sX4_isNoInchN q (br_f (by decide) (sX4_refuseLong 1 (by decide) rfl ?_))
    exact sX5_isInchN q (br_t rfl (sX5_lowest 1 (by decide) rfl ⟨rfl, S, w, hl, pi, pc, g1, g2, g3, g4, g5, rf_upd g6 1, g7⟩))
  · subst e
    refine sX4_isNoInch hj (br_t rfl ?_)
    refine inX (x := p1) 2 (by omega) (fun q => ?_) (fun i hi e => ?_)
    · refine sX4_isNoPartN q (br_f (by decide) (sX4_refuseLong 2 (by decide) rfl ?_))
      exact sX5_isInch hj (br_f (by decide) (sX5_isInN 1 (by omega) rfl q (br_t rfl (sX5_lowest 2 (by decide) rfl ⟨rfl, S, w, hl, pi, pc, g1, g2, g3, g4, g5, rf_upd g6 2, g7⟩))))
    · subst e
      have h2 := sw_b g1 j
      refine sX4_isNoPart hi (br_t rfl ⟨vp_in_nI hj (by omega), ?_⟩)
      have e1 : v_n.2.2.2.2.2.2.2.2.2.2.2.2.2 j = lN (sw S w j) := c13 j hj
      have e2 : v_n.2.2.2.2.2.2.2.1 = lN (fb_sm w (S 0)) := c7
      rw [nI_clamp (by omega), e1, e2]
      refine sX4_partOf (by omega) (by omega) hi ?_
      refine sX5_isInch hj (br_f (by decide) (sX5_isIn0 (n := 1) (by omega) rfl hi (br_f (by decide) ?_)))
      refine sX5_woodAt m2 g1.1 m6 (okA_w2 g1) hj (sX5_all m2 g1.1 m6 (okA_w2 g1) ?_)
      exact sX5_partOf (by omega) (by omega) hi ⟨rfl, hR⟩
