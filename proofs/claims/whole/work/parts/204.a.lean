/-! bits of a row of booleans -/
theorem bo_lt (p : Nat → Bool) : ∀ n, bo p n < 2 ^ n
  | 0 => Nat.lt_succ_self 0
  | n + 1 => by
    have h := bo_lt p n
    have e : 2 ^ (n + 1) = 2 ^ n + 2 ^ n := by rw [Nat.pow_succ]; omega
    show bo p n + (if p n then 2 ^ n else 0) < _
    split <;> omega
theorem bo_test (p : Nat → Bool) (i : Nat) : ∀ n, (bo p n).testBit i = (decide (i < n) && p i)
  | 0 => by
    show Nat.testBit 0 i = _
    rw [Nat.zero_testBit, decide_eq_false (by omega), Bool.false_and]
  | n + 1 => by
    have ih := bo_test p i n
    have hb := bo_lt p n
    show (bo p n + (if p n then 2 ^ n else 0)).testBit i = _
    rcases Nat.lt_trichotomy i n with q | q | q
    · rw [decide_eq_true (by omega : i < n), Bool.true_and] at ih
      rw [decide_eq_true (by omega : i < n + 1), Bool.true_and]
      split
      · rw [Nat.add_comm, Nat.testBit_two_pow_add_gt q, ih]
      · rw [Nat.add_zero, ih]
    · subst q
      rw [decide_eq_true (by omega : i < i + 1), Bool.true_and]
      rw [decide_eq_false (by omega : ¬ i < i), Bool.false_and] at ih
      cases hp : p i with
      | true => rw [if_pos rfl, Nat.add_comm, Nat.testBit_two_pow_add_eq, ih]; rfl
      | false => rw [if_neg (by decide), Nat.add_zero, ih]
    · rw [decide_eq_false (by omega : ¬ i < n + 1), Bool.false_and]
      apply Nat.testBit_lt_two_pow
      have h1 : 2 ^ (n + 1) ≤ 2 ^ i := Nat.pow_le_pow_right (by decide) (by omega)
      have h2 := bo_lt p (n + 1)
      have h3 : bo p (n + 1) = bo p n + (if p n then 2 ^ n else 0) := rfl
      omega
theorem bo_24 {p : Nat → Bool} {n : Nat} (h : n ≤ 24) : bo p n < 2 ^ 24 := Nat.lt_of_lt_of_le (bo_lt p n) (Nat.pow_le_pow_right (by decide) h)
/-! the class: small methods -/
theorem sX4_isIn {post : Int32 → Prop} {a o : Nat} (ha : a < 2 ^ 31) (ho : o < 31) (h : post (bi (a.testBit o))) : wpX4_isIn post (nI a) (nI o) := by
  unfold wpX4_isIn
  rw [pk_shrN ha (nI o &&& 31) o (s_l o (by omega)), pk_andN (Nat.lt_of_le_of_lt (Nat.div_le_self _ _) (by omega)) 1 (by decide)]
  rw [Nat.testBit_eq_decide_div_mod_eq] at h
  have hm : a / 2 ^ o % 2 ^ 1 = a / 2 ^ o % 2 := rfl
  rw [hm]
  refine pk_eq (a / 2 ^ o % 2) 1 (fun q => ?_) (fun q => ?_)
  · rw [decide_eq_true q] at h; exact h
  · rw [decide_eq_false q] at h; exact h
theorem sX3_hasWood {post : Int32 → Prop} {S : Nat → Nat} {wo : Nat → Int32} (hwo : ∀ x, x < 48 → wo x = nI (bo (wd S x) (S 0))) (hs : S 0 ≤ 24) {x o : Nat} (hx : x < 48) (ho : o < 31) (h : post (bi (decide (o < S 0) && wd S x o))) : wpX3_hasWood post wo (nI x) (nI o) := by
  refine ⟨vp_in_nI hx (by omega), ?_⟩
  rw [nI_clamp (by omega), hwo x hx]
  refine sX4_isIn (Nat.lt_of_lt_of_le (bo_24 hs) (by decide)) ho ?_
  rw [bo_test]
  exact ⟨bi_n _, h⟩
theorem ph_wood : PH_wood RE := by
  intro v_T v_n v_k v_t v_s v_r v_c v_M p0 p1 hR
  obtain ⟨S, w, hl, pi, pc, g1, g2, g3, g4, g5, g6, g7⟩ := id hR
  obtain ⟨o1, o2, o3, o4, o5, o6⟩ := g1.1
  have e0 : v_n.1 = nI (S 0) := g2.1
  have m0 : rS S (uM_setting v_M) := g3.2.2.1
  unfold wpX4_wood
  rw [e0]
  refine inX (x := p0) 48 (by omega) (fun q => ?_) (fun x hx e => ?_)
  · refine sX4_isNoInchN q (br_f (by decide) (sX4_refuse 1 (by decide) rfl ?_))
    exact sX5_isInchN q (br_t rfl (sX5_no 1 (by decide) rfl ⟨rfl, S, w, hl, pi, pc, g1, g2, g3, g4, g5, rf_upd g6 1, g7⟩))
  · subst e
    refine sX4_isNoInch hx (br_t rfl ?_)
    refine inX (x := p1) (S 0) (by omega) (fun q => ?_) (fun o ho e => ?_)
    · refine sX4_isNoOffsetN q (br_f (by decide) (sX4_refuse 1 (by decide) rfl ?_))
      exact sX5_isInch hx (br_f (by decide) (sX5_isOffsetN m0.1 q (br_t rfl (sX5_no 1 (by decide) rfl ⟨rfl, S, w, hl, pi, pc, g1, g2, g3, g4, g5, rf_upd g6 1, g7⟩))))
    · subst e
      refine sX4_isNoOffset (by omega) ho (br_t rfl (sX3_hasWood (S := S) g2.2.2.2.2.2.2.2.2.2.2.2.2.1 o2 hx (by omega) ?_))
      rw [decide_eq_true ho, Bool.true_and]
      refine bi_0 ?_
      have go : ∀ r : Int32, r = bi (wd S x o) → wpX5_wood (fun r_1 M_refused_1 => r = r_1 ∧ RE (v_T.1, v_T.2) v_n v_k v_s v_r (v_M.1, v_M.2.1, v_M.2.2.1, v_M.2.2.2.1, v_M.2.2.2.2.1, v_M.2.2.2.2.2.1, v_M.2.2.2.2.2.2.1, v_M.2.2.2.2.2.2.2.1, v_M.2.2.2.2.2.2.2.2.1, v_M.2.2.2.2.2.2.2.2.2.1, v_M.2.2.2.2.2.2.2.2.2.2.1, M_refused_1, v_M.2.2.2.2.2.2.2.2.2.2.2.2)) (uM_refused v_M) (uM_setting v_M) (nI x) (nI o) := by
        intro r hr
        refine sX5_isInch hx (br_f (by decide) (sX5_isOffset (by omega) m0.1 ho (br_f (by decide) (sX5_isWood m0 g1.1 hx ho (bi_0 ?_)))))
        cases hq : wd S x o with
        | true => rw [hq] at hr; exact ⟨hr, hR⟩
        | false => rw [hq] at hr; exact ⟨hr, hR⟩
      cases hq : wd S x o with
      | true => exact go 1 (by rw [hq]; rfl)
      | false => exact go 0 (by rw [hq]; rfl)
