/-! sums over masks -/
theorem bo_and (p q : Nat → Bool) (n : Nat) : bo p n &&& bo q n = bo (fun o => p o && q o) n := by
  apply Nat.eq_of_testBit_eq
  intro i
  rw [Nat.testBit_and, bo_test, bo_test, bo_test]
  cases decide (i < n) <;> simp
def fm (a : Nat) (W : Nat → Nat) (i : Nat) : Nat := fb_sm (fun o => if a.testBit o then W o else 0) i
theorem lX3_sumOf {a : Nat} (ha : a < 2 ^ 24) {W : Nat → Nat} {M : Nat → Int64} (hM : ∀ o, o < 24 → M o = lN (W o)) {K : Int64 → Int32 → Prop} (h : ∀ c, K (lN (fm a W 24)) c) : ∀ d i, i + d = 24 → lpX3_sumOf_5 K (nI a) M (d + 1) (lN (fm a W i)) (nI i) := by
  intro d
  induction d with
  | zero =>
    intro i hi
    have e : i = 24 := by omega
    subst e
    rw [lpX3_sumOf_5]
    exact br_t (by decide) (h _)
  | succ d ih =>
    intro i hi
    rw [lpX3_sumOf_5]
    refine br_f (nI_ge (a := i) (b := 24) (by omega) (by omega)) ?_
    rw [pk_shrN (by omega) (nI i &&& 31) i (s_l i (by omega))]
    have hd : a / 2 ^ i ≤ a := Nat.div_le_self _ _
    refine pk_eq (a / 2 ^ i) 0 (fun q => ?_) (fun q => ?_)
    · have hlt : a < 2 ^ i := by
        rcases Nat.lt_or_ge a (2 ^ i) with z | z
        · exact z
        · have := (Nat.one_le_div_iff (Nat.two_pow_pos i)).mpr z
          omega
      have e : fm a W 24 = fm a W i := by
        show fb_sm _ 24 = fb_sm _ i
        rw [show 24 = i + (24 - i) by omega, fb_sm_split, fb_z (n := 24 - i) (fun k hk => ?_), Nat.add_zero]
        rw [Nat.testBit_lt_two_pow (Nat.lt_of_lt_of_le hlt (Nat.pow_le_pow_right (by decide) (by omega)))]
        rfl
      rw [e] at h
      exact h _
    · refine sX4_isIn (by omega) (by omega) (bi_0 ?_)
      have ih := ih (i + 1) (by omega)
      have e : fm a W (i + 1) = fm a W i + (if a.testBit i then W i else 0) := rfl
      rw [e] at ih
      cases ht : a.testBit i with
      | true =>
        rw [ht, if_pos rfl] at ih
        refine ⟨vp_in_nI (by omega) (by omega), ?_⟩
        rw [nI_clamp (by omega), hM i (by omega), lN_add, nI_1]
        exact ih
      | false =>
        rw [ht, if_neg (by decide), Nat.add_zero] at ih
        rw [cond_false, nI_1]
        exact ih
theorem fm_bo {p : Nat → Bool} {w : Nat → Nat} {n : Nat} (hn : n ≤ 24) : fm (bo p n) (fun o => if o < n then w o else 0) 24 = fb_sm (fun o => if p o then w o else 0) n := by
  show fb_sm _ 24 = _
  rw [show 24 = n + (24 - n) by omega, fb_sm_split, fb_z (n := 24 - n) (fun k hk => ?_), Nat.add_zero]
  · apply fb_sm_cong
    intro k hk
    rw [bo_test, decide_eq_true hk, Bool.true_and]
    dsimp only
    rw [if_pos hk]
  · dsimp only
    rw [if_neg (by omega : ¬ n + k < n)]
    split <;> rfl
theorem sX3_sumOf {p : Nat → Bool} {w : Nat → Nat} {n : Nat} (hn : n ≤ 24) {M : Nat → Int64} (hM : ∀ o, o < 24 → M o = lN (if o < n then w o else 0)) {post : Int64 → Prop} (h : post (lN (fb_sm (fun o => if p o then w o else 0) n))) : wpX3_sumOf post M (nI (bo p n)) := by
  refine ⟨25, lX3_sumOf (K := fun v _ => post v) (W := fun o => if o < n then w o else 0) (bo_24 hn) hM (fun _ => ?_) 24 0 (by omega)⟩
  rw [fm_bo hn]
  exact h
/-! at both -/
def sb (S w : Nat → Nat) (x y : Nat) : Nat := fb_sm (fun o => if wd S x o && wd S y o then w o else 0) (S 0)
theorem sb_le (S w : Nat → Nat) (x y : Nat) : sb S w x y ≤ fb_sm w (S 0) := fb_sm_le (fun k hk => by split <;> omega)
theorem sbb_b {S w hl pi pc : Nat → Nat} (g : okA S w hl pi pc) (x y : Nat) : sb S w x y < 2 ^ 31 := by
  have h1 := sb_le S w x y
  have h2 := sm_b g
  omega
theorem sX3_sumAtBoth {S w : Nat → Nat} (ok : okS S) {M : Nat → Int64} {wo : Nat → Int32} (hM : ∀ o, o < 24 → M o = lN (if o < S 0 then w o else 0)) (hwo : ∀ x, x < 48 → wo x = nI (bo (wd S x) (S 0))) {x y : Nat} (hx : x < 48) (hy : y < 48) {post : Int64 → Prop} (h : post (lN (sb S w x y))) : wpX3_sumAtBoth post M wo (nI x) (nI y) := by
  refine ⟨vp_in_nI hx (by omega), vp_in_nI hy (by omega), ?_⟩
  rw [nI_clamp (by omega), nI_clamp (by omega), hwo x hx, hwo y hy, fa_and, bo_and]
  exact sX3_sumOf ok.2.1 hM h
theorem lX5_bothAt {S w : Nat → Nat} {M Mw : Nat → Int32} (hS : rS S M) (ok : okS S) (hw : rN (S 0) w Mw) (hb : ∀ o, o < S 0 → w o < 2 ^ 31) {x y : Nat} (hx : x + y < 48) {K : Int64 → Int32 → Prop} (h : K (lN (sb S w x (x + y))) (nI (S 0))) : ∀ d i, i + d = S 0 → lpX5_bothAt_5 K (nI x) (nI y) M Mw (d + 1) (lN (fb_sm (fun o => if wd S x o && wd S (x + y) o then w o else 0) i)) (nI i) := by
  obtain ⟨o1, o2, o3, o4, o5, o6⟩ := id ok
  intro d
  induction d with
  | zero =>
    intro i hi
    have e : i = S 0 := by omega
    subst e
    rw [lpX5_bothAt_5, hS.1]
    exact br_t (nI_le (Nat.le_refl _) (by omega)) h
  | succ d ih =>
    intro i hi
    rw [lpX5_bothAt_5, hS.1]
    have ih := ih (i + 1) (by omega)
    rw [fb_sm_succ] at ih
    refine br_f (nI_ge (by omega) (by omega)) (sX5_isWood hS ok (by omega) (by omega) (bi_0 ?_))
    cases hd : wd S x i with
    | false =>
      rw [hd, Bool.false_and, if_neg (by decide)] at ih
      rw [cond_false, show (0 : Int64) = lN 0 from rfl, lN_add, nI_1]
      exact ih
    | true =>
      rw [hd, Bool.true_and] at ih
      rw [cond_true, nI_add]
      refine sX5_isWood hS ok (by omega) (by omega) (bi_0 ?_)
      cases hd2 : wd S (x + y) i with
      | false =>
        rw [hd2, if_neg (by decide)] at ih
        rw [cond_false, show (0 : Int64) = lN 0 from rfl, lN_add, nI_1]
        exact ih
      | true =>
        rw [hd2, if_pos rfl] at ih
        refine ⟨vp_in_nI (by omega) (by omega), ?_⟩
        rw [nI_clamp (by omega), hw i (by omega), i2l (hb i (by omega)), lN_add, nI_1]
        exact ih
theorem sX5_bothAt {S w : Nat → Nat} {M Mw : Nat → Int32} (hS : rS S M) (ok : okS S) (hw : rN (S 0) w Mw) (hb : ∀ o, o < S 0 → w o < 2 ^ 31) {x y : Nat} (hx : x + y < 48) {post : Int64 → Prop} (h : post (lN (sb S w x (x + y)))) : wpX5_bothAt post M Mw (nI x) (nI y) :=
  ⟨S 0 + 1, lX5_bothAt (K := fun v _ => post v) hS ok hw hb hx h (S 0) 0 (by omega)⟩
abbrev fp (S w : Nat → Nat) (m : Nat) : Nat → Nat := fun x => sb S w x (x + m)
theorem lX3_likeliestPair {S w hl pi pc : Nat → Nat} (g : okA S w hl pi pc) {M : Nat → Int64} {wo : Nat → Int32} (hM : ∀ o, o < 24 → M o = lN (if o < S 0 then w o else 0)) (hwo : ∀ x, x < 48 → wo x = nI (bo (wd S x) (S 0))) {m : Nat} (hm : m ≤ 40) {K : Int32 → Int64 → Int32 → Prop} (h : ∀ c e, K (nI (am (fp S w m) 0 (47 - m))) c e) : ∀ d i, i + d = 47 - m → lpX3_likeliestPair_9 K (nI m) M wo (d + 1) (nI (am (fp S w m) 0 i)) (lN (fp S w m (am (fp S w m) 0 i))) (nI (0 + 1 + i)) := by
  have e48 : (48 : Int32) - nI m = nI (48 - m) := pk_sub (a := 48) (by omega)
  intro d
  induction d with
  | zero =>
    intro i hi
    have e : i = 47 - m := by omega
    subst e
    rw [lpX3_likeliestPair_9, e48]
    exact br_t (nI_le (by omega) (by omega)) (h _ _)
  | succ d ih =>
    intro i hi
    rw [lpX3_likeliestPair_9, e48]
    have ih := ih (i + 1) (by omega)
    have hab := am_b (fp S w m) 0 i
    refine br_f (nI_ge (by omega) (by omega)) ?_
    rw [nI_add, nI_1]
    refine sX3_sumAtBoth g.1 hM hwo (by omega) (by omega) ?_
    rw [am_s, show 0 + 1 + (i + 1) = 0 + 1 + i + 1 by omega] at ih
    by_cases q : fp S w m (0 + 1 + i) ≤ fp S w m (am (fp S w m) 0 i)
    · rw [if_pos q] at ih
      exact br_t ((lN_le (sbb_b g _ _) (sbb_b g _ _)).mpr q) ih
    · rw [if_neg q] at ih
      exact br_f (fun z => q ((lN_le (sbb_b g _ _) (sbb_b g _ _)).mp z)) ih
theorem sX3_likeliestPair {S w hl pi pc : Nat → Nat} (g : okA S w hl pi pc) {M : Nat → Int64} {wo : Nat → Int32} (hM : ∀ o, o < 24 → M o = lN (if o < S 0 then w o else 0)) (hwo : ∀ x, x < 48 → wo x = nI (bo (wd S x) (S 0))) {m : Nat} (hm : m ≤ 40) {post : Int32 → Prop} (h : post (nI (am (fp S w m) 0 (47 - m)))) : wpX3_likeliestPair post M wo (nI m) := by
  refine ⟨47 - m + 1 + 1, ?_⟩
  have e48 : (48 : Int32) - nI m = nI (48 - m) := pk_sub (a := 48) (by omega)
  rw [lpX3_likeliestPair_9, e48]
  refine br_f (nI_ge (a := 0) (by omega) (by omega)) ?_
  rw [show (0 : Int32) = nI 0 from rfl, nI_add, nI_1]
  refine sX3_sumAtBoth g.1 hM hwo (by omega) (by omega) (br_f (fun z => ?_) ?_)
  · have h1 := Int64.le_iff_toInt_le.mp z
    have h2 := sbb_b g 0 (0 + m)
    rw [lN_tI (by omega), show (-1 : Int64).toInt = -1 by decide] at h1
    omega
  · exact lX3_likeliestPair (K := fun v _ _ => post v) g hM hwo hm (fun _ _ => h) (47 - m) 0 (by omega)
theorem lX5_twoBy {S w hl pi pc : Nat → Nat} (g : okA S w hl pi pc) {M Mw : Nat → Int32} (hS : rS S M) (hw : rN (S 0) w Mw) {m : Nat} (hm : m ≤ 40) {K : Int32 → Int32 → Prop} (h : ∀ c, K (nI (am (fp S w m) 0 (47 - m))) c) : ∀ d i, i + d = 47 - m → lpX5_twoBy_4 K (nI m) M Mw (d + 1) (nI (am (fp S w m) 0 i)) (nI (0 + 1 + i)) := by
  intro d
  induction d with
  | zero =>
    intro i hi
    have e : i = 47 - m := by omega
    subst e
    rw [lpX5_twoBy_4, nI_add]
    exact br_t (nI_le (a := 48) (by omega) (by omega)) (h _)
  | succ d ih =>
    intro i hi
    rw [lpX5_twoBy_4, nI_add]
    have ih := ih (i + 1) (by omega)
    have hab := am_b (fp S w m) 0 i
    refine br_f (nI_ge (b := 48) (by omega) (by omega)) (sX5_bothAt hS g.1 hw (okA_w2 g) (by omega) (sX5_bothAt hS g.1 hw (okA_w2 g) (by omega) ?_))
    rw [nI_1]
    rw [am_s, show 0 + 1 + (i + 1) = 0 + 1 + i + 1 by omega] at ih
    by_cases q : fp S w m (0 + 1 + i) ≤ fp S w m (am (fp S w m) 0 i)
    · rw [if_pos q] at ih
      exact br_t ((lN_le (sbb_b g _ _) (sbb_b g _ _)).mpr q) ih
    · rw [if_neg q] at ih
      exact br_f (fun z => q ((lN_le (sbb_b g _ _) (sbb_b g _ _)).mp z)) ih
theorem sX5_twoBy {S w hl pi pc : Nat → Nat} (g : okA S w hl pi pc) {M Mw : Nat → Int32} (hS : rS S M) (hw : rN (S 0) w Mw) {m : Nat} (hm : m ≤ 40) {post : Int32 → Prop} (h : post (nI (am (fp S w m) 0 (47 - m)))) : wpX5_twoBy post M Mw (nI m) :=
  ⟨47 - m + 1, lX5_twoBy (K := fun v _ => post v) g hS hw hm (fun _ => h) (47 - m) 0 (by omega)⟩
/-- a width: below 1, over 40, or in between -/
theorem wx {P : Prop} {x : Int32} (h1 : ¬ (1 : Int32) ≤ x → P) (h2 : (1 : Int32) ≤ x → ¬ x ≤ 40 → P) (h3 : ∀ m, 1 ≤ m → m ≤ 40 → x = nI m → P) : P := by
  by_cases q1 : (1 : Int32) ≤ x
  · by_cases q2 : x ≤ 40
    · obtain ⟨m, hm, em⟩ := nI_of2 (x := x) (M := 40) (n := 40) (by decide) (fun z => Int32.not_le.mpr (Int32.lt_trans z (by decide : (0 : Int32) < 1)) q1) q2
      refine h3 m ?_ hm em
      rcases Nat.eq_zero_or_pos m with e | e
      · subst e; subst em; exact absurd q1 (by decide)
      · exact e
    · exact h2 q1 q2
  · exact h1 q1
theorem ph_two : PH_two RE := by
  intro v_T v_n v_k v_t v_s v_r v_c v_M p0 hR
  obtain ⟨S, w, hl, pi, pc, g1, g2, g3, g4, g5, g6, g7⟩ := id hR
  obtain ⟨c0, c1, c2, c3, c4, c5, c6, c7, c8, c9, c10, c11, c12, c13⟩ := id g2
  obtain ⟨m0, m1, m2, m3, m4, m5, m6⟩ := id g3
  refine wx (x := p0) (fun q => ?_) (fun q q2 => ?_) (fun m h1 h2 e => ?_)
  · exact br_f q (sX4_refuse 4 (by decide) rfl (sX5_boundL q (br_f (by decide) (sX5_no 4 (by decide) rfl ⟨rfl, S, w, hl, pi, pc, g1, g2, g3, g4, g5, rf_upd g6 4, g7⟩))))
  · exact br_t q (br_f q2 (sX4_refuse 6 (by decide) rfl (sX5_boundG q q2 (br_f (by decide) (sX5_no 6 (by decide) rfl ⟨rfl, S, w, hl, pi, pc, g1, g2, g3, g4, g5, rf_upd g6 6, g7⟩)))))
  · subst e
    have q1 : (1 : Int32) ≤ nI m := nI_le (a := 1) h1 (by omega)
    have q2 : nI m ≤ 40 := nI_le (b := 40) h2 (by omega)
    exact br_t q1 (br_t q2 (sX3_likeliestPair g1 c11 c12 h2 (sX5_bound0 q1 q2 (br_t rfl (sX5_twoBy g1 m2 m6 h2 ⟨rfl, hR⟩)))))
theorem ph_both : PH_both RE := by
  intro v_T v_n v_k v_t v_s v_r v_c v_M p0 p1 hR
  obtain ⟨S, w, hl, pi, pc, g1, g2, g3, g4, g5, g6, g7⟩ := id hR
  obtain ⟨c0, c1, c2, c3, c4, c5, c6, c7, c8, c9, c10, c11, c12, c13⟩ := id g2
  obtain ⟨m0, m1, m2, m3, m4, m5, m6⟩ := id g3
  have e2 : v_n.2.2.2.2.2.2.2.1 = lN (fb_sm w (S 0)) := c7
  refine wx (x := p0) (fun q => ?_) (fun q q2 => ?_) (fun m h1 h2 e => ?_)
  · exact br_f q (sX4_refuseLong 4 (by decide) rfl (sX5_boundL q (br_f (by decide) (br_f (by decide) (sX5_lowest 4 (by decide) rfl ⟨rfl, S, w, hl, pi, pc, g1, g2, g3, g4, g5, rf_upd g6 4, g7⟩)))))
  · exact br_t q (br_f q2 (sX4_refuseLong 6 (by decide) rfl (sX5_boundG q q2 (br_f (by decide) (br_f (by decide) (sX5_lowest 6 (by decide) rfl ⟨rfl, S, w, hl, pi, pc, g1, g2, g3, g4, g5, rf_upd g6 6, g7⟩))))))
  · subst e
    have q1 : (1 : Int32) ≤ nI m := nI_le (a := 1) h1 (by omega)
    have q2 : nI m ≤ 40 := nI_le (b := 40) h2 (by omega)
    refine br_t q1 (br_t q2 ?_)
    refine inX (x := p1) 2 (by omega) (fun q => ?_) (fun i hi e => ?_)
    · refine sX4_isNoPartN q (br_f (by decide) (sX4_refuseLong 2 (by decide) rfl ?_))
      exact sX5_bound0 q1 q2 (br_t rfl (sX5_isInN 1 (by omega) rfl q (br_t rfl (sX5_lowest 2 (by decide) rfl ⟨rfl, S, w, hl, pi, pc, g1, g2, g3, g4, g5, rf_upd g6 2, g7⟩))))
    · subst e
      have hab := am_b (fp S w m) 0 (47 - m)
      have hs := sm_b g1
      have hs2 := sbb_b g1 (am (fp S w m) 0 (47 - m)) (am (fp S w m) 0 (47 - m) + m)
      refine sX4_isNoPart hi (br_t rfl (sX3_likeliestPair g1 c11 c12 h2 ?_))
      rw [nI_add, e2]
      refine sX3_sumAtBoth g1.1 c11 c12 (by omega) (by omega) (sX4_partOf (by omega) (by omega) hi ?_)
      refine sX5_bound0 q1 q2 (br_t rfl (sX5_isIn0 (n := 1) (by omega) rfl hi (br_f (by decide) (br_t rfl (sX5_twoBy g1 m2 m6 h2 ?_)))))
      exact sX5_bothAt m2 g1.1 m6 (okA_w2 g1) (by omega) (sX5_all m2 g1.1 m6 (okA_w2 g1) (sX5_partOf (by omega) (by omega) hi ⟨rfl, hR⟩))
