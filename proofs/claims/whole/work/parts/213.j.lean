/-! offsets left -/
def cl (S w : Nat → Nat) (x : Nat) (is : Bool) (n : Nat) : Nat := fb_sm (fun o => (decide (0 < w o) && (wd S x o == is)).toNat) n
theorem lX5_leftBy {S w : Nat → Nat} {M Mw : Nat → Int32} (hS : rS S M) (ok : okS S) (hw : rN (S 0) w Mw) (hb : ∀ o, o < S 0 → w o < 2 ^ 31) {x : Nat} {is : Bool} (hx : x < 48) {K : Int32 → Int32 → Prop} (h : K (nI (cl S w x is (S 0))) (nI (S 0))) : ∀ d i, i + d = S 0 → lpX5_leftBy_5 K (nI x) (bi is) M Mw (d + 1) (nI (cl S w x is i)) (nI i) := by
  obtain ⟨o1, o2, o3, o4, o5, o6⟩ := id ok
  intro d
  induction d with
  | zero =>
    intro i hi
    have e : i = S 0 := by omega
    subst e
    rw [lpX5_leftBy_5, hS.1]
    exact br_t (nI_le (Nat.le_refl _) (by omega)) h
  | succ d ih =>
    intro i hi
    rw [lpX5_leftBy_5, hS.1]
    have ih := ih (i + 1) (by omega)
    have e : cl S w x is (i + 1) = cl S w x is i + (decide (0 < w i) && (wd S x i == is)).toNat := rfl
    rw [e] at ih
    have hwi := hb i (by omega)
    have z0 : ∀ a : Nat, nI a + 0 = nI a := fun a => nI_add a 0
    refine br_f (nI_ge (by omega) (by omega)) ⟨vp_in_nI (by omega) (by omega), ?_⟩
    rw [nI_clamp (by omega), hw i (by omega)]
    refine pk_le (w i) 0 (fun q => ?_) (fun q => ?_)
    · rw [decide_eq_false (by omega), Bool.false_and] at ih
      rw [z0, nI_1]
      exact ih
    · rw [decide_eq_true q, Bool.true_and] at ih
      refine sX5_isWood hS ok hx (by omega) ?_
      rw [z0, nI_1, nI_1]
      cases is with
      | true =>
        refine br_t rfl (bi_1 ?_)
        cases hd : wd S x i with
        | true => rw [hd] at ih; exact ih
        | false => rw [hd] at ih; exact ih
      | false =>
        refine br_f (by decide) (bi_0 ?_)
        cases hd : wd S x i with
        | true => rw [hd] at ih; exact ih
        | false => rw [hd] at ih; exact ih
theorem sX5_leftBy {S w : Nat → Nat} {M Mw : Nat → Int32} (hS : rS S M) (ok : okS S) (hw : rN (S 0) w Mw) (hb : ∀ o, o < S 0 → w o < 2 ^ 31) {x : Nat} {is : Bool} (hx : x < 48) {post : Int32 → Prop} (h : post (nI (cl S w x is (S 0)))) : wpX5_leftBy post M Mw (nI x) (bi is) :=
  ⟨S 0 + 1, lX5_leftBy (K := fun v _ => post v) hS ok hw hb hx h (S 0) 0 (by omega)⟩
theorem sX3_countOf {p : Nat → Bool} {n : Nat} (hn : n ≤ 24) {post : Int32 → Prop} (h : post (nI (fb_sm (fun o => (p o).toNat) n))) : wpJ6_bitCount_0f7a4 post (nI (bo p n)) := by
  have h1 := bo_24 (p := p) hn
  refine sJ6 (by omega) ?_
  rw [pn_bo _ (by omega)]
  exact h
theorem ph_twin : PH_twin RE := by
  intro v_T v_n v_k v_t v_s v_r v_c v_M p0 hR
  obtain ⟨S, w, hl, pi, pc, g1, g2, g3, g4, g5, g6, g7⟩ := id hR
  obtain ⟨c0, c1, c2, c3, c4, c5, c6, c7, c8, c9, c10, c11, c12, c13⟩ := id g2
  obtain ⟨m0, m1, m2, m3, m4, m5, m6⟩ := id g3
  refine inX (x := p0) 48 (by omega) (fun q => ?_) (fun j hj e => ?_)
  · refine sX4_isNoInchN q (br_f (by decide) (sX4_refuse 1 (by decide) rfl ?_))
    exact sX5_isInchN q (br_t rfl (sX5_no 1 (by decide) rfl ⟨rfl, S, w, hl, pi, pc, g1, g2, g3, g4, g5, rf_upd g6 1, g7⟩))
  · subst e
    have e47 : (47 : Int32) - nI j = nI (47 - j) := pk_sub (a := 47) (by omega)
    have e1 : v_n.2.2.2.2.2.2.2.2.2.2.2.2.1 (47 - j) = nI (bo (wd S (47 - j)) (S 0)) := c12 (47 - j) (by omega)
    have e2 : v_n.2.2.2.2.2.2.2.2.1 = nI (bo (fun o => decide (0 < w o)) (S 0)) := c8
    refine sX4_isNoInch hj (br_t rfl ?_)
    rw [e47]
    refine ⟨vp_in_nI (by omega) (by omega), ?_⟩
    rw [nI_clamp (by omega), e1, e2, fa_and, bo_and]
    refine sX3_countOf g1.1.2.1 ?_
    refine sX5_isInch hj (br_f (by decide) ?_)
    rw [e47]
    refine sX5_leftBy (is := true) m2 g1.1 m6 (okA_w2 g1) (by omega) ⟨?_, hR⟩
    congr 1
    apply fb_sm_cong
    intro k hk
    cases wd S (47 - j) k <;> simp
/-! twinLikely -/
theorem lX5_twinLikely {S w : Nat → Nat} {M Mw : Nat → Int32} (hS : rS S M) (ok : okS S) (hw : rN (S 0) w Mw) (hb : ∀ o, o < S 0 → w o < 2 ^ 31) {j x : Nat} (hj : j < 48) (hx : x < 48) {K : Int64 → Int64 → Int32 → Prop} (h : K (lN (sb S w (47 - j) x)) (lN (sw S w (47 - j))) (nI (S 0))) : ∀ d i, i + d = S 0 → lpX5_twinLikely_45 K (nI j) (nI x) M Mw (d + 1) (lN (fb_sm (fun o => if wd S (47 - j) o && wd S x o then w o else 0) i)) (lN (fb_sm (fun o => if wd S (47 - j) o then w o else 0) i)) (nI i) := by
  obtain ⟨o1, o2, o3, o4, o5, o6⟩ := id ok
  have e47 : (47 : Int32) - nI j = nI (47 - j) := pk_sub (a := 47) (by omega)
  have z0 : ∀ a : Nat, lN a + 0 = lN a := fun a => lN_add a 0
  intro d
  induction d with
  | zero =>
    intro i hi
    have e : i = S 0 := by omega
    subst e
    rw [lpX5_twinLikely_45, hS.1]
    exact br_t (nI_le (Nat.le_refl _) (by omega)) h
  | succ d ih =>
    intro i hi
    rw [lpX5_twinLikely_45, hS.1, e47]
    have ih := ih (i + 1) (by omega)
    rw [fb_sm_succ, fb_sm_succ] at ih
    refine br_f (nI_ge (by omega) (by omega)) (sX5_isWood hS ok (by omega) (by omega) (bi_0 ?_))
    cases hd : wd S (47 - j) i with
    | false =>
      rw [hd, Bool.false_and, if_neg (by decide), Nat.add_zero, Nat.add_zero] at ih
      rw [cond_false, nI_1]
      exact ih
    | true =>
      rw [hd, Bool.true_and] at ih
      rw [cond_true]
      refine ⟨vp_in_nI (by omega) (by omega), ?_⟩
      rw [nI_clamp (by omega), hw i (by omega), i2l (hb i (by omega)), lN_add, lN_add, nI_1, z0]
      refine sX5_isWood hS ok (by omega) (by omega) (bi_0 ?_)
      cases hd2 : wd S x i with
      | false =>
        rw [hd2, if_neg (by decide), if_pos rfl, Nat.add_zero] at ih
        exact ih
      | true =>
        rw [hd2, if_pos rfl] at ih
        exact ⟨vp_in_nI (by omega) (by omega), ih⟩
theorem ph_twinLikely : PH_twinLikely RE := by
  intro v_T v_n v_k v_t v_s v_r v_c v_M p0 p1 p2 hR
  obtain ⟨S, w, hl, pi, pc, g1, g2, g3, g4, g5, g6, g7⟩ := id hR
  obtain ⟨c0, c1, c2, c3, c4, c5, c6, c7, c8, c9, c10, c11, c12, c13⟩ := id g2
  obtain ⟨m0, m1, m2, m3, m4, m5, m6⟩ := id g3
  refine inX (x := p0) 48 (by omega) (fun q => ?_) (fun j hj e => ?_)
  · refine sX4_isNoInchN q (br_f (by decide) (sX4_refuseLong 1 (by decide) rfl ?_))
    exact sX5_isInchN q (br_t rfl (sX5_lowest 1 (by decide) rfl ⟨rfl, S, w, hl, pi, pc, g1, g2, g3, g4, g5, rf_upd g6 1, g7⟩))
  · subst e
    refine sX4_isNoInch hj (br_t rfl ?_)
    refine inX (x := p1) 48 (by omega) (fun q => ?_) (fun x hx e => ?_)
    · refine sX4_isNoInchN q (br_f (by decide) (sX4_refuseLong 1 (by decide) rfl ?_))
      exact sX5_isInch hj (br_f (by decide) (sX5_isInchN q (br_t rfl (sX5_lowest 1 (by decide) rfl ⟨rfl, S, w, hl, pi, pc, g1, g2, g3, g4, g5, rf_upd g6 1, g7⟩))))
    · subst e
      refine sX4_isNoInch hx (br_t rfl ?_)
      refine inX (x := p2) 2 (by omega) (fun q => ?_) (fun i hi e => ?_)
      · refine sX4_isNoPartN q (br_f (by decide) (sX4_refuseLong 2 (by decide) rfl ?_))
        exact sX5_isInch hj (br_f (by decide) (sX5_isInch hx (br_f (by decide) (sX5_isInN 1 (by omega) rfl q (br_t rfl (sX5_lowest 2 (by decide) rfl ⟨rfl, S, w, hl, pi, pc, g1, g2, g3, g4, g5, rf_upd g6 2, g7⟩))))))
      · subst e
        have e47 : (47 : Int32) - nI j = nI (47 - j) := pk_sub (a := 47) (by omega)
        have e1 : v_n.2.2.2.2.2.2.2.2.2.2.2.2.2 (47 - j) = lN (sw S w (47 - j)) := c13 (47 - j) (by omega)
        have hs1 := sw_b g1 (47 - j)
        have hs2 := sbb_b g1 (47 - j) x
        refine sX4_isNoPart hi (br_t rfl ?_)
        rw [e47]
        refine sX3_sumAtBoth g1.1 c11 c12 (by omega) (by omega) ⟨vp_in_nI (by omega) (by omega), ?_⟩
        rw [nI_clamp (by omega), e1]
        refine sX4_partOf (by omega) (by omega) hi ?_
        refine sX5_isInch hj (br_f (by decide) (sX5_isInch hx (br_f (by decide) (sX5_isIn0 (n := 1) (by omega) rfl hi (br_f (by decide) ⟨S 0 + 1, ?_⟩)))))
        exact lX5_twinLikely m2 g1.1 m6 (okA_w2 g1) hj hx (sX5_partOf (by omega) (by omega) hi ⟨rfl, hR⟩) (S 0) 0 (by omega)
/-! sure -/
theorem bo_0 {p : Nat → Bool} {n : Nat} : bo p n = 0 ↔ ∀ o, o < n → p o = false := by
  constructor
  · intro h o ho
    have t := bo_test p o n
    rw [h, Nat.zero_testBit, decide_eq_true ho, Bool.true_and] at t
    exact t.symm
  · intro h
    apply Nat.eq_of_testBit_eq
    intro i
    rw [bo_test, Nat.zero_testBit]
    by_cases q : i < n
    · rw [h i q, Bool.and_false]
    · rw [decide_eq_false q, Bool.false_and]
theorem bt_nI {a i : Nat} (hi : i < 32) : bt (nI a) i = a.testBit i := by
  show (BitVec.ofNat 32 a).getLsbD i = _
  rw [BitVec.getLsbD_ofNat, decide_eq_true hi, Bool.true_and]
theorem bo_not (p q : Nat → Bool) (n : Nat) : nI (bo p n) &&& (nI (bo q n) ^^^ (-1)) = nI (bo (fun o => p o && !q o) n) := by
  apply b_ext
  intro i hi
  rw [b_and, b_xor, b_m1 i hi, bt_nI hi, bt_nI hi, bt_nI hi, bo_test, bo_test, bo_test]
  cases decide (i < n) <;> cases p i <;> cases q i <;> rfl
theorem sw_zero {S w : Nat → Nat} {x : Nat} : sw S w x = 0 ↔ ∀ o, o < S 0 → (decide (0 < w o) && wd S x o) = false := by
  constructor
  · intro h o ho
    have := fb_sm_zero h o ho
    cases hd : wd S x o with
    | false => rw [Bool.and_false]
    | true =>
      rw [hd, if_pos rfl] at this
      rw [decide_eq_false (by omega), Bool.false_and]
  · intro h
    refine fb_z (fun o ho => ?_)
    have := h o ho
    cases hd : wd S x o with
    | false => rfl
    | true =>
      rw [hd, Bool.and_true] at this
      rw [if_pos rfl]
      have := of_decide_eq_false this
      omega
theorem sw_full {S w : Nat → Nat} {x : Nat} : sw S w x = fb_sm w (S 0) ↔ ∀ o, o < S 0 → (decide (0 < w o) && !wd S x o) = false := by
  have hs : fb_sm (fun o => (if wd S x o then w o else 0) + (if wd S x o then 0 else w o)) (S 0) = sw S w x + fb_sm (fun o => if wd S x o then 0 else w o) (S 0) := fb_sm_add _ _ _
  have hs2 : fb_sm (fun o => (if wd S x o then w o else 0) + (if wd S x o then 0 else w o)) (S 0) = fb_sm w (S 0) := fb_sm_cong (fun o _ => by split <;> omega)
  constructor
  · intro h o ho
    have := fb_sm_zero (f := fun o => if wd S x o then 0 else w o) (n := S 0) (by omega) o ho
    cases hd : wd S x o with
    | true => rw [Bool.not_true, Bool.and_false]
    | false =>
      rw [hd, if_neg (by decide)] at this
      rw [decide_eq_false (by omega), Bool.false_and]
  · intro h
    have : fb_sm (fun o => if wd S x o then 0 else w o) (S 0) = 0 := fb_z (fun o ho => by
      have := h o ho
      cases hd : wd S x o with
      | true => rfl
      | false =>
        rw [hd, Bool.not_false, Bool.and_true] at this
        rw [if_neg (by decide)]
        have := of_decide_eq_false this
        omega)
    omega
def su (S w : Nat → Nat) (k : Nat) (x : Nat) : Bool := if k = 0 then decide (sw S w x = fb_sm w (S 0)) else decide (sw S w x = 0)
theorem nI0 {a : Nat} (h : a < 2 ^ 31) : nI a = 0 ↔ a = 0 := nI_eq (b := 0) h (by omega)
theorem sX3_isSure {S w : Nat → Nat} (ok : okS S) {O : Int32} {wo : Nat → Int32} (eO : O = nI (bo (fun o => decide (0 < w o)) (S 0))) (hwo : ∀ x, x < 48 → wo x = nI (bo (wd S x) (S 0))) {x k : Nat} (hx : x < 48) (hk : k < 2) {p : Int32} (ep : p = nI (1 - k)) {post : Int32 → Prop} (h : post (bi (su S w k x))) : wpX3_isSure post O wo (nI x) p := by
  subst ep
  subst eO
  unfold wpX3_isSure
  rw [nI_clamp (by omega), hwo x hx, fa_and, bo_and, bo_not]
  have b1 := bo_24 (p := fun o => decide (0 < w o) && wd S x o) ok.2.1
  have b2 := bo_24 (p := fun o => decide (0 < w o) && !wd S x o) ok.2.1
  unfold su at h
  rcases (show k = 0 ∨ k = 1 by omega) with e | e
  · subst e
    rw [if_pos rfl] at h
    refine br_f (by decide) ⟨vp_in_nI hx (by omega), ?_⟩
    by_cases q : sw S w x = fb_sm w (S 0)
    · rw [decide_eq_true q] at h
      exact br_t ((nI0 (by omega)).mpr (bo_0.mpr (sw_full.mp q))) h
    · rw [decide_eq_false q] at h
      exact br_f (fun z => q (sw_full.mpr (bo_0.mp ((nI0 (by omega)).mp z)))) h
  · subst e
    rw [if_neg (by decide)] at h
    refine br_t rfl ⟨vp_in_nI hx (by omega), ?_⟩
    by_cases q : sw S w x = 0
    · rw [decide_eq_true q] at h
      exact br_t ((nI0 (by omega)).mpr (bo_0.mpr (sw_zero.mp q))) h
    · rw [decide_eq_false q] at h
      exact br_f (fun z => q (sw_zero.mpr (bo_0.mp ((nI0 (by omega)).mp z)))) h
/-- the answer: d inches left, f found, x now -/
def sv (P : Nat → Bool) (i : Int32) : Nat → Nat → Nat → Int32
  | 0, f, _ => if i = -1 then nI f else -9
  | d + 1, f, x => if P x then (if nI f = i then nI x else sv P i d (f + 1) (x + 1)) else sv P i d f (x + 1)
theorem lX4_sure {S w : Nat → Nat} (ok : okS S) {O : Int32} {wo : Nat → Int32} (eO : O = nI (bo (fun o => decide (0 < w o)) (S 0))) (hwo : ∀ x, x < 48 → wo x = nI (bo (wd S x) (S 0))) {k : Nat} (hk : k < 2) {T : Nat → Int32} {i : Int32} {post : Int32 → (Nat → Int32) → Prop} : ∀ d f x, x + d = 48 → post (sv (su S w k) i d f x) T → lpX4_sure_33 post (fun a _ => (i = -1 → post a T) ∧ (¬ i = -1 → post (-9) T)) (nI k) i T O wo (d + 1) (nI f) (nI x) := by
  intro d
  induction d with
  | zero =>
    intro f x hx h
    have e : x = 48 := by omega
    subst e
    rw [lpX4_sure_33]
    refine br_t (by decide) ?_
    unfold sv at h
    by_cases q : i = -1
    · rw [if_pos q] at h; exact br_t q h
    · rw [if_neg q] at h; exact br_f q h
  | succ d ih =>
    intro f x hx h
    rw [lpX4_sure_33]
    refine br_f (nI_ge (a := x) (b := 48) (by omega) (by omega)) ?_
    have fin : ∀ r : Int32, r = bi (su S w k x) → (r = 0 → lpX4_sure_33 post (fun a _ => (i = -1 → post a T) ∧ (¬ i = -1 → post (-9) T)) (nI k) i T O wo (d + 1) (nI f) (nI x + 1)) ∧ (¬ r = 0 → (nI f = i → post (nI x) T) ∧ (¬ nI f = i → lpX4_sure_33 post (fun a _ => (i = -1 → post a T) ∧ (¬ i = -1 → post (-9) T)) (nI k) i T O wo (d + 1) (nI f + 1) (nI x + 1))) := by
      intro r er
      subst er
      unfold sv at h
      rw [nI_1, nI_1]
      refine bi_0 ?_
      cases hs : su S w k x with
      | false =>
        rw [hs, if_neg (by decide)] at h
        exact ih f (x + 1) (by omega) h
      | true =>
        rw [hs, if_pos rfl] at h
        by_cases q : nI f = i
        · rw [if_pos q] at h; exact br_t q h
        · rw [if_neg q] at h; exact br_f q (ih (f + 1) (x + 1) (by omega) h)
    refine pk_eq k 0 (fun q => ?_) (fun q => ?_)
    · exact sX3_isSure ok eO hwo (k := k) (by omega) hk (by rw [q]; rfl) (fin _ rfl)
    · exact sX3_isSure ok eO hwo (k := k) (by omega) hk (by rw [show k = 1 by omega]; rfl) (fin _ rfl)
theorem lX5_sure {S w hl pi pc : Nat → Nat} (g : okA S w hl pi pc) {M Mw : Nat → Int32} (hS : rS S M) (hw : rN (S 0) w Mw) {k : Nat} (hk : k < 2) {T : Nat → Int32} {i : Int32} (hi : -1 ≤ i) {post : Int32 → (Nat → Int32) → Prop} : ∀ d f x, x + d = 48 → post (sv (su S w k) i d f x) T → lpX5_sure_42 post (fun a _ => ((0 : Int32) ≤ i → post (-9) T) ∧ (¬ (0 : Int32) ≤ i → post a T)) (nI k) i T M Mw (d + 1) (nI f) (nI x) := by
  have e1 : (-1 : Int32).toInt = -1 := by decide
  have h1 := Int32.le_iff_toInt_le.mp hi
  have hi2 : (0 : Int32) ≤ i ↔ ¬ i = -1 := by
    rw [Int32.le_iff_toInt_le, Int32.toInt_zero, ← Int32.toInt_inj]
    omega
  intro d
  induction d with
  | zero =>
    intro f x hx h
    have e : x = 48 := by omega
    subst e
    rw [lpX5_sure_42]
    refine br_t (by decide) ?_
    unfold sv at h
    by_cases q : i = -1
    · rw [if_pos q] at h; exact br_f (fun z => (hi2.mp z) q) h
    · rw [if_neg q] at h; exact br_t (hi2.mpr q) h
  | succ d ih =>
    intro f x hx h
    rw [lpX5_sure_42]
    refine br_f (nI_ge (a := x) (b := 48) (by omega) (by omega)) (sX5_woodAt hS g.1 hw (okA_w2 g) (by omega) ?_)
    unfold sv at h
    have hb1 := sw_b g x
    have hb2 := sm_b g
    rw [nI_1, nI_1]
    refine pk_eq k 0 (fun q => sX5_all hS g.1 hw (okA_w2 g) ?_) (fun q => ?_)
    · by_cases q2 : sw S w x = fb_sm w (S 0)
      · rw [show su S w k x = true by unfold su; rw [if_pos q]; exact decide_eq_true q2, if_pos rfl] at h
        refine br_t (by rw [q2]) ?_
        by_cases q : nI f = i
        · rw [if_pos q] at h; exact br_t q h
        · rw [if_neg q] at h; exact br_f q (ih (f + 1) (x + 1) (by omega) h)
      · rw [show su S w k x = false by unfold su; rw [if_pos q]; exact decide_eq_false q2, if_neg (by decide)] at h
        exact br_f (fun z => q2 ((lN_eq (by omega) (by omega)).mp z)) (ih f (x + 1) (by omega) h)
    · by_cases q2 : sw S w x = 0
      · rw [show su S w k x = true by unfold su; rw [if_neg q]; exact decide_eq_true q2, if_pos rfl] at h
        refine br_t (by rw [q2]; rfl) ?_
        by_cases q : nI f = i
        · rw [if_pos q] at h; exact br_t q h
        · rw [if_neg q] at h; exact br_f q (ih (f + 1) (x + 1) (by omega) h)
      · rw [show su S w k x = false by unfold su; rw [if_neg q]; exact decide_eq_false q2, if_neg (by decide)] at h
        exact br_f (fun z => q2 ((lN_eq (b := 0) (by omega) (by omega)).mp z)) (ih f (x + 1) (by omega) h)
theorem ph_sure : PH_sure RE := by
  intro v_T v_n v_k v_t v_s v_r v_c v_M p0 p1 hR
  obtain ⟨S, w, hl, pi, pc, g1, g2, g3, g4, g5, g6, g7⟩ := id hR
  obtain ⟨c0, c1, c2, c3, c4, c5, c6, c7, c8, c9, c10, c11, c12, c13⟩ := id g2
  obtain ⟨m0, m1, m2, m3, m4, m5, m6⟩ := id g3
  refine inX (x := p0) 2 (by omega) (fun q => ?_) (fun k hk e => ?_)
  · have h0 : ¬ p0 = 0 := fun e => by subst e; revert q; decide
    have h1 : ¬ p0 = 1 := fun e => by subst e; revert q; decide
    refine br_f h0 (br_f h1 (sX4_refuse 2 (by decide) rfl ?_))
    exact sX5_isInN 1 (by omega) rfl q (br_t rfl (sX5_no 2 (by decide) rfl ⟨rfl, S, w, hl, pi, pc, g1, g2, g3, g4, g5, rf_upd g6 2, g7⟩))
  · subst e
    by_cases q : (-1 : Int32) ≤ p1
    · have fin := fun (post : Int32 → (Nat → Int32) → Prop) (h : post (sv (su S w k) p1 48 0 0) v_T.2) => lX4_sure (post := post) (T := v_T.2) (i := p1) g1.1 c8 c12 hk 48 0 0 (by omega) h
      rcases (show k = 0 ∨ k = 1 by omega) with e | e
      · subst e
        refine br_t rfl (br_t q ⟨49, fin _ ?_⟩)
        exact sX5_isIn0 (n := 1) (by omega) rfl hk (br_f (by decide) (br_t q ⟨49, lX5_sure g1 m2 m6 hk q 48 0 0 (by omega) ⟨rfl, hR⟩⟩))
      · subst e
        refine br_f (by decide) (br_t rfl (br_t q ⟨49, fin _ ?_⟩))
        exact sX5_isIn0 (n := 1) (by omega) rfl hk (br_f (by decide) (br_t q ⟨49, lX5_sure g1 m2 m6 hk q 48 0 0 (by omega) ⟨rfl, hR⟩⟩))
    · rcases (show k = 0 ∨ k = 1 by omega) with e | e
      · subst e
        refine br_t rfl (br_f q (sX4_refuse 4 (by decide) rfl ?_))
        exact sX5_isIn0 (n := 1) (by omega) rfl hk (br_f (by decide) (br_f q (sX5_no 4 (by decide) rfl ⟨rfl, S, w, hl, pi, pc, g1, g2, g3, g4, g5, rf_upd g6 4, g7⟩)))
      · subst e
        refine br_f (by decide) (br_t rfl (br_f q (sX4_refuse 4 (by decide) rfl ?_)))
        exact sX5_isIn0 (n := 1) (by omega) rfl hk (br_f (by decide) (br_f q (sX5_no 4 (by decide) rfl ⟨rfl, S, w, hl, pi, pc, g1, g2, g3, g4, g5, rf_upd g6 4, g7⟩)))
