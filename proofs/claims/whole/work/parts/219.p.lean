/-! adding up -/
theorem ul_s {f : Nat → Int64} {k : Nat} {x : Int64} : vp_updL f k x k = x := if_pos rfl
theorem ul_n {f : Nat → Int64} {k j : Nat} {x : Int64} (h : j ≠ k) : vp_updL f k x j = f j := if_neg h
theorem bo_s2 (p : Nat → Bool) (i : Nat) : bo p (i + 1) = bo p i ||| (if p i then 2 ^ i else 0) := by
  apply Nat.eq_of_testBit_eq
  intro j
  rw [Nat.testBit_or, bo_test, bo_test]
  cases hp : p i with
  | true =>
    rw [if_pos rfl, Nat.testBit_two_pow]
    by_cases e : i = j
    · subst e
      rw [decide_eq_true (by omega : i < i + 1), hp, decide_eq_true rfl, Bool.or_true]; rfl
    · rw [decide_eq_false e, Bool.or_false]
      by_cases c : j < i
      · rw [decide_eq_true c, decide_eq_true (by omega : j < i + 1)]
      · rw [decide_eq_false c, decide_eq_false (by omega : ¬ j < i + 1)]
  | false =>
    rw [if_neg (by decide), Nat.zero_testBit, Bool.or_false]
    by_cases c : j < i
    · rw [decide_eq_true c, decide_eq_true (by omega : j < i + 1)]
    · by_cases e : j = i
      · subst e
        rw [hp, Bool.and_false, Bool.and_false]
      · rw [decide_eq_false c, decide_eq_false (by omega : ¬ j < i + 1)]
theorem bo_ext {p q : Nat → Bool} {n N : Nat} (h : n ≤ N) (h1 : ∀ o, o < n → p o = q o) (h2 : ∀ o, n ≤ o → q o = false) : bo q N = bo p n := by
  apply Nat.eq_of_testBit_eq
  intro i
  rw [bo_test, bo_test]
  by_cases c : i < n
  · rw [h1 i c, decide_eq_true c, decide_eq_true (by omega : i < N)]
  · rw [h2 i (by omega), decide_eq_false c, Bool.false_and, Bool.and_false]
theorem lX3_addUpO {W : Nat → Nat} {M : Nat → Int64} (hM : ∀ o, o < 24 → M o = lN (W o)) (hW : ∀ o, W o < 2 ^ 31) {K : Int32 → Int32 → Prop} (h : ∀ c, K c (nI (bo (fun o => decide (0 < W o)) 24))) : ∀ d i, i + d = 24 → lpX3_addUp_7 K M (d + 1) (nI i) (nI (bo (fun o => decide (0 < W o)) i)) := by
  intro d
  induction d with
  | zero =>
    intro i hi
    have e : i = 24 := by omega
    subst e
    rw [lpX3_addUp_7]
    exact br_t (by decide) (h _)
  | succ d ih =>
    intro i hi
    have ih := ih (i + 1) (by omega)
    rw [bo_s2] at ih
    have hwi := hW i
    rw [lpX3_addUp_7]
    refine br_f (nI_ge (a := i) (b := 24) (by omega) (by omega)) ⟨vp_in_nI (by omega) (by omega), ?_⟩
    rw [nI_clamp (by omega), hM i (by omega), nI_1, sh1 i (by omega), fa_or]
    by_cases q : W i = 0
    · rw [show decide (0 < W i) = false from decide_eq_false (by omega), if_neg (by decide), Nat.or_zero] at ih
      exact br_t ((lN_le0 (by omega)).mpr q) ih
    · rw [show decide (0 < W i) = true from decide_eq_true (by omega), if_pos rfl] at ih
      exact br_f (fun z => q ((lN_le0 (by omega)).mp z)) ih
theorem lX3_addUpS {S w : Nat → Nat} (ok : okS S) {M : Nat → Int64} {wo : Nat → Int32} (hM : ∀ o, o < 24 → M o = lN (if o < S 0 then w o else 0)) (hwo : ∀ x, x < 48 → wo x = nI (bo (wd S x) (S 0))) {K : Int32 → (Nat → Int64) → Prop} (h : ∀ c Ms, (∀ x, x < 48 → Ms x = lN (sw S w x)) → K c Ms) : ∀ d i Ms, i + d = 48 → (∀ x, x < i → Ms x = lN (sw S w x)) → lpX3_addUp_56 K M wo (d + 1) (nI i) Ms := by
  intro d
  induction d with
  | zero =>
    intro i Ms hi hs
    have e : i = 48 := by omega
    subst e
    rw [lpX3_addUp_56]
    exact br_t (by decide) (h _ _ hs)
  | succ d ih =>
    intro i Ms hi hs
    rw [lpX3_addUp_56]
    refine br_f (nI_ge (a := i) (b := 48) (by omega) (by omega)) ⟨vp_in_nI (by omega) (by omega), ?_⟩
    rw [nI_clamp (by omega), hwo i (by omega)]
    refine sX3_sumOf ok.2.1 hM ⟨vp_in_nI (by omega) (by omega), ?_⟩
    rw [nI_1]
    refine ih (i + 1) _ (by omega) (fun x hx => ?_)
    by_cases e : x = i
    · subst e; exact ul_s
    · rw [ul_n e]; exact hs x (by omega)
theorem sX3_addUp {S w : Nat → Nat} (ok : okS S) (hw : ∀ o, o < S 0 → w o < 2 ^ 31) {M Ms : Nat → Int64} {wo : Nat → Int32} (hM : ∀ o, o < 24 → M o = lN (if o < S 0 then w o else 0)) (hwo : ∀ x, x < 48 → wo x = nI (bo (wd S x) (S 0))) {post : Int64 → Int32 → (Nat → Int64) → Prop} (h : ∀ Ms', (∀ x, x < 48 → Ms' x = lN (sw S w x)) → post (lN (fb_sm w (S 0))) (nI (bo (fun o => decide (0 < w o)) (S 0))) Ms') : wpX3_addUp post M wo Ms := by
  obtain ⟨o1, o2, o3, o4, o5, o6⟩ := id ok
  refine ⟨25, lX3_addUpO (W := fun o => if o < S 0 then w o else 0) hM (fun o => ?_) (fun _ => ?_) 24 0 (by omega)⟩
  · split
    · exact hw o (by assumption)
    · decide
  · rw [bo_ext (p := fun o => decide (0 < w o)) (n := S 0) o2 (fun o ho => ?_) (fun o ho => ?_)]
    · refine sX3_sumOf o2 hM ⟨49, lX3_addUpS ok hM hwo (fun _ Ms' hs => ?_) 48 0 _ (by omega) (fun x hx => absurd hx (Nat.not_lt_zero x))⟩
      have e : fb_sm (fun o => if decide (0 < w o) = true then w o else 0) (S 0) = fb_sm w (S 0) := fb_sm_cong (fun o _ => by
        by_cases c : 0 < w o
        · rw [decide_eq_true c, if_pos rfl]
        · rw [decide_eq_false c, if_neg (by decide)]; omega)
      rw [e]
      exact h Ms' hs
    · rw [if_pos ho]
    · rw [if_neg (by omega)]
      rfl
/-! beginning anew -/
theorem lX3_beginW {sp : Nat} (hs : sp ≤ 24) {K : Int32 → (Nat → Int64) → Prop} (h : ∀ c M, (∀ o, o < 24 → M o = lN (if o < sp then 1 else 0)) → K c M) : ∀ d i M, i + d = 24 → (∀ o, o < i → M o = lN (if o < sp then 1 else 0)) → lpX3_beginAnew_2 K (nI sp) (d + 1) (nI i) M := by
  intro d
  induction d with
  | zero =>
    intro i M hi hM
    have e : i = 24 := by omega
    subst e
    rw [lpX3_beginAnew_2]
    exact br_t (by decide) (h _ _ hM)
  | succ d ih =>
    intro i M hi hM
    rw [lpX3_beginAnew_2]
    refine br_f (nI_ge (a := i) (b := 24) (by omega) (by omega)) ?_
    rw [nI_clamp (by omega), nI_1]
    refine pk_le sp i (fun q => ⟨vp_in_nI (by omega) (by omega), ?_⟩) (fun q => ⟨vp_in_nI (by omega) (by omega), ?_⟩)
    · refine ih (i + 1) _ (by omega) (fun o ho => ?_)
      by_cases e : o = i
      · subst e; rw [ul_s, if_neg (by omega)]; rfl
      · rw [ul_n e]; exact hM o (by omega)
    · refine ih (i + 1) _ (by omega) (fun o ho => ?_)
      by_cases e : o = i
      · subst e; rw [ul_s, if_pos q]; rfl
      · rw [ul_n e]; exact hM o (by omega)
theorem lX3_beginX {S : Nat → Nat} (ok : okS S) {K : Int32 → (Nat → Int32) → Prop} (h : ∀ c M, (∀ x, x < 48 → M x = nI (bo (wd S x) (S 0))) → K c M) : ∀ d i M, i + d = 48 → (∀ x, x < i → M x = nI (bo (wd S x) (S 0))) → lpX3_beginAnew_40 K (nI (S 0)) (nI (S 1)) (nI (S 2)) (nI (S 3)) (d + 1) (nI i) M := by
  intro d
  induction d with
  | zero =>
    intro i M hi hM
    have e : i = 48 := by omega
    subst e
    rw [lpX3_beginAnew_40]
    exact br_t (by decide) (h _ _ hM)
  | succ d ih =>
    intro i M hi hM
    rw [lpX3_beginAnew_40]
    refine br_f (nI_ge (a := i) (b := 48) (by omega) (by omega)) (sX3_woodsByLaw ok (by omega) ⟨vp_in_nI (by omega) (by omega), ?_⟩)
    rw [nI_clamp (by omega), nI_1]
    refine ih (i + 1) _ (by omega) (fun x hx => ?_)
    by_cases e : x = i
    · subst e; exact pk_us
    · rw [pk_un e]; exact hM x (by omega)
theorem sX3_beginAnew {S : Nat → Nat} (ok : okS S) {M Ms : Nat → Int64} {wo : Nat → Int32} {post : Int32 → Int64 → Int32 → (Nat → Int64) → (Nat → Int32) → (Nat → Int64) → Prop} (h : ∀ M' wo' Ms', (∀ o, o < 24 → M' o = lN (if o < S 0 then 1 else 0)) → (∀ x, x < 48 → wo' x = nI (bo (wd S x) (S 0))) → (∀ x, x < 48 → Ms' x = lN (sw S (fun _ => 1) x)) → post 0 (lN (fb_sm (fun _ => 1) (S 0))) (nI (bo (fun _ => decide (0 < 1)) (S 0))) M' wo' Ms') : wpX3_beginAnew post (nI (S 0)) (nI (S 1)) (nI (S 2)) (nI (S 3)) M wo Ms := by
  refine ⟨25, lX3_beginW ok.2.1 (fun _ M' hM => ⟨49, lX3_beginX ok (fun _ wo' hwo => ?_) 48 0 _ (by omega) (fun x hx => absurd hx (Nat.not_lt_zero x))⟩) 24 0 _ (by omega) (fun x hx => absurd hx (Nat.not_lt_zero x))⟩
  exact sX3_addUp (w := fun _ => 1) ok (fun _ _ => by decide) hM hwo (fun Ms' hs => h M' wo' Ms' hM hwo hs)
theorem lX5_alike {K : Int32 → (Nat → Int32) → Prop} (h : ∀ c M, rN 24 (fun _ => 1) M → K c M) : ∀ d i M, i + d = 24 → rN i (fun _ => 1) M → lpX5_alike_2 K (d + 1) (nI i) M := by
  intro d
  induction d with
  | zero =>
    intro i M hi hM
    have e : i = 24 := by omega
    subst e
    rw [lpX5_alike_2]
    exact br_t (by decide) (h _ _ hM)
  | succ d ih =>
    intro i M hi hM
    rw [lpX5_alike_2]
    refine br_f (nI_ge (a := i) (b := 24) (by omega) (by omega)) ⟨vp_in_nI (by omega) (by omega), ?_⟩
    rw [nI_clamp (by omega), nI_1]
    refine ih (i + 1) _ (by omega) (fun o ho => ?_)
    by_cases e : o = i
    · subst e; rw [pk_us]; rfl
    · rw [pk_un e]; exact hM o (by omega)
theorem sX5_alike {M : Nat → Int32} {post : Int32 → (Nat → Int32) → Prop} (h : ∀ M', rN 24 (fun _ => 1) M' → post 0 M') : wpX5_alike post M :=
  ⟨25, lX5_alike (K := fun _ M' => post 0 M') (fun _ M' hM => h M' hM) 24 0 M (by omega) (fun x hx => absurd hx (Nat.not_lt_zero x))⟩
theorem okA_new {S hl pi pc : Nat → Nat} (ok : okS S) (h4 : S 4 = 0) (h5 : S 5 ≤ 6) (hp : ∀ k, k < S 5 → pi k < 48 ∧ pc k ≤ 9) (hh : ∀ x, hl x ≤ 1) : okA S (fun _ => 1) hl pi pc := by
  refine ⟨ok, by omega, h5, fun o _ => ?_, ?_, hp, hh⟩
  · rw [h4]; exact Nat.le_refl 1
  · rw [fb_sm_const]; have := ok.1; omega
/-! set -/
def lo (j : Nat) : Nat := [6, 1, 0, 0].getD j 0
def hi_ (j : Nat) : Nat := [24, 4, 47, 5].getD j 0
theorem lo_c : ∀ j, j < 4 → ([6, 1, 0, 0] : List Int32).getD (nI j).toNatClampNeg 0 = nI (lo j) := by decide +kernel
theorem hi_c : ∀ j, j < 4 → ([24, 4, 47, 5] : List Int32).getD (nI j).toNatClampNeg 0 = nI (hi_ j) := by decide +kernel
theorem lo_b : ∀ j, j < 4 → lo j ≤ 6 ∧ hi_ j ≤ 47 := by decide +kernel
theorem sX5_leastOf {post : Int32 → Prop} {j : Nat} (hj : j < 4) (h : post (nI (lo j))) : wpX5_leastOf post (nI j) := by
  unfold wpX5_leastOf
  refine pk_eq j 0 (fun q => ?_) (fun q => pk_eq j 1 (fun q2 => ?_) (fun q2 => ?_))
  · subst q; exact h
  · subst q2; exact h
  · rcases (show j = 2 ∨ j = 3 by omega) with e | e <;> (subst e; exact h)
theorem sX5_mostOf {post : Int32 → Prop} {j : Nat} (hj : j < 4) (h : post (nI (hi_ j))) : wpX5_mostOf post (nI j) := by
  unfold wpX5_mostOf
  refine pk_eq j 0 (fun q => ?_) (fun q => pk_eq j 1 (fun q2 => ?_) (fun q2 => pk_eq j 2 (fun q3 => ?_) (fun q3 => ?_)))
  · subst q; exact h
  · subst q2; exact h
  · subst q3; exact h
  · have e : j = 3 := by omega
    subst e; exact h
def us (S : Nat → Nat) (j v : Nat) : Nat → Nat := fun i => if i = j then v else if i = 4 then 0 else S i
theorem us_ok {S : Nat → Nat} (ok : okS S) {j v : Nat} (hj : j < 4) (h1 : lo j ≤ v) (h2 : v ≤ hi_ j) : okS (us S j v) := by
  obtain ⟨o1, o2, o3, o4, o5, o6⟩ := ok
  rcases (show j = 0 ∨ j = 1 ∨ j = 2 ∨ j = 3 by omega) with e | e | e | e
  · subst e; exact ⟨h1, h2, o3, o4, o5, o6⟩
  · subst e; exact ⟨o1, o2, h1, h2, o5, o6⟩
  · subst e; exact ⟨o1, o2, o3, o4, h2, o6⟩
  · subst e; exact ⟨o1, o2, o3, o4, o5, h2⟩
theorem sX3_measure {S : Nat → Nat} {post : Int32 → Prop} {j : Nat} (hj : j < 4) (h : post (nI (S j))) : wpX3_measure post (nI (S 0)) (nI (S 1)) (nI (S 2)) (nI (S 3)) (nI j) := by
  unfold wpX3_measure
  refine pk_eq j 0 (fun q => ?_) (fun q => pk_eq j 1 (fun q2 => ?_) (fun q2 => pk_eq j 2 (fun q3 => ?_) (fun q3 => ?_)))
  · subst q; exact h
  · subst q2; exact h
  · subst q3; exact h
  · have e : j = 3 := by omega
    subst e; exact h
theorem sX3_change {S : Nat → Nat} {post : Int32 → Int32 → Int32 → Int32 → Prop} {j v : Nat} (hj : j < 4) (h : post (nI (us S j v 0)) (nI (us S j v 1)) (nI (us S j v 2)) (nI (us S j v 3))) : wpX3_changeMeasure post (nI (S 0)) (nI (S 1)) (nI (S 2)) (nI (S 3)) (nI j) (nI v) := by
  unfold wpX3_changeMeasure
  refine pk_eq j 0 (fun q => ?_) (fun q => pk_eq j 1 (fun q2 => ?_) (fun q2 => pk_eq j 2 (fun q3 => ?_) (fun q3 => ?_)))
  · subst q; exact h
  · subst q2; exact h
  · subst q3; exact h
  · have e : j = 3 := by omega
    subst e; exact h
theorem rS_us {S : Nat → Nat} {M : Nat → Int32} (hS : rS S M) {j v : Nat} (hj : j < 4) : rS (us S j v) (upd M j (nI v)) := by
  obtain ⟨s0, s1, s2, s3⟩ := hS
  rcases (show j = 0 ∨ j = 1 ∨ j = 2 ∨ j = 3 by omega) with e | e | e | e <;> subst e
  · exact ⟨pk_us, (pk_un (by decide)).trans s1, (pk_un (by decide)).trans s2, (pk_un (by decide)).trans s3⟩
  · exact ⟨(pk_un (by decide)).trans s0, pk_us, (pk_un (by decide)).trans s2, (pk_un (by decide)).trans s3⟩
  · exact ⟨(pk_un (by decide)).trans s0, (pk_un (by decide)).trans s1, pk_us, (pk_un (by decide)).trans s3⟩
  · exact ⟨(pk_un (by decide)).trans s0, (pk_un (by decide)).trans s1, (pk_un (by decide)).trans s2, pk_us⟩
theorem us_4 (S : Nat → Nat) {j v : Nat} (hj : j < 4) : us S j v 4 = 0 := by
  show (if 4 = j then v else if 4 = 4 then 0 else S 4) = 0
  rw [if_neg (by omega), if_pos rfl]
theorem us_5 (S : Nat → Nat) {j v : Nat} (hj : j < 4) : us S j v 5 = S 5 := by
  show (if 5 = j then v else if 5 = 4 then 0 else S 5) = S 5
  rw [if_neg (by omega), if_neg (by decide)]
theorem rS_j {S : Nat → Nat} {M : Nat → Int32} (hS : rS S M) {j : Nat} (hj : j < 4) : M j = nI (S j) := by
  obtain ⟨s0, s1, s2, s3⟩ := hS
  rcases (show j = 0 ∨ j = 1 ∨ j = 2 ∨ j = 3 by omega) with e | e | e | e <;> subst e
  · exact s0
  · exact s1
  · exact s2
  · exact s3
theorem ph_set : PH_set RE := by
  intro v_T v_n v_k v_t v_s v_r v_c v_M p0 p1 hR
  obtain ⟨S, w, hl, pi, pc, g1, g2, g3, g4, g5, g6, g7⟩ := id hR
  obtain ⟨a1, a2, a3, a4, a5, a6, a7⟩ := id g1
  obtain ⟨c0, c1, c2, c3, c4, c5, c6, c7, c8, c9, c10, c11, c12, c13⟩ := id g2
  obtain ⟨m0, m1, m2, m3, m4, m5, m6⟩ := id g3
  refine inX (x := p0) 4 (by omega) (fun q => ?_) (fun j hj e => ?_)
  · by_cases q0 : p0 < 0
    · refine br_t q0 (sX4_refuse 2 (by decide) rfl ?_)
      exact sX5_isInN 3 (by omega) rfl q (br_t rfl (sX5_no 2 (by decide) rfl ⟨rfl, S, w, hl, pi, pc, g1, g2, g3, g4, g5, rf_upd g6 2, g7⟩))
    · have q1 : ¬ p0 ≤ 3 := by
        have h1 := Int32.le_iff_toInt_le.mp (q.resolve_left q0)
        rw [nI_toInt (by omega)] at h1
        rw [Int32.le_iff_toInt_le, show (3 : Int32).toInt = 3 by decide]
        omega
      refine br_f q0 (br_f q1 (sX4_refuse 2 (by decide) rfl ?_))
      exact sX5_isInN 3 (by omega) rfl q (br_t rfl (sX5_no 2 (by decide) rfl ⟨rfl, S, w, hl, pi, pc, g1, g2, g3, g4, g5, rf_upd g6 2, g7⟩))
  · subst e
    have hb := lo_b j hj
    refine br_f (nI_pos (by omega)) (br_t (nI_le (a := j) (b := 3) (by omega) (by omega)) ⟨vp_in_nI hj (by omega), ?_⟩)
    rw [lo_c j hj, hi_c j hj]
    by_cases q : nI (lo j) ≤ p1
    · by_cases q2 : p1 ≤ nI (hi_ j)
      · obtain ⟨v, hv, ev⟩ := nI_of2 (x := p1) (M := nI (hi_ j)) (n := hi_ j) (nI_toInt (by omega)) (fun z => by
          have z1 := Int32.lt_iff_toInt_lt.mp z
          have z2 := Int32.le_iff_toInt_le.mp q
          rw [nI_toInt (by omega)] at z2
          rw [Int32.toInt_zero] at z1
          omega) q2
        subst ev
        have hv1 : lo j ≤ v := (nI_leI (by omega) (by omega)).mp q
        have e0 : v_n.1 = nI (S 0) := c0
        have e1 : v_n.2.1 = nI (S 1) := c1
        have e2 : v_n.2.2.1 = nI (S 2) := c2
        have e3 : v_n.2.2.2.1 = nI (S 3) := c3
        have nok := us_ok a1 hj hv1 hv
        refine br_f (Int32.not_lt.mpr q) ⟨vp_in_nI hj (by omega), br_t q2 (br_t rfl ?_)⟩
        rw [e0, e1, e2, e3]
        refine sX3_measure hj (sX3_change hj (sX3_beginAnew nok (fun M' wo' Ms' h1 h2 h3 => ?_)))
        refine sX5_isIn0 (n := 3) (by omega) rfl hj (br_f (by decide) (sX5_leastOf hj (sX5_mostOf hj (sX5_bound0 q q2 (br_t rfl ⟨vp_in_nI hj (by omega), vp_in_nI hj (by omega), sX5_alike (fun Mw' hw' => ?_)⟩)))))
        rw [nI_clamp (by omega)]
        have h5 := us_5 S (v := v) hj
        have h4 := us_4 S (v := v) hj
        refine ⟨(rS_j m2 hj).symm, us S j v, fun _ => 1, hl, pi, pc, okA_new nok h4 (by omega) (by rw [h5]; exact a6) a7, ⟨rfl, rfl, rfl, rfl, ?_, ?_, c6, rfl, rfl, ?_, ?_, h1, h2, h3⟩, ⟨?_, ?_, rS_us m2 hj, m3, ?_, ?_, fun o ho => hw' o (by have := nok.2.1; omega)⟩, g4, g5, g6, g7⟩
        · rw [h4]; rfl
        · rw [h5]; exact c5
        · rw [h5]; exact c9
        · rw [h5]; exact c10
        · rw [h5]; exact m0
        · rw [h4]; rfl
        · rw [h5]; exact m4
        · rw [h5]; exact m5
      · refine br_f (Int32.not_lt.mpr q) ⟨vp_in_nI hj (by omega), br_f q2 (br_f (by decide) ⟨vp_in_nI hj (by omega), br_t q (sX4_refuse 6 (by decide) rfl ?_)⟩)⟩
        exact sX5_isIn0 (n := 3) (by omega) rfl hj (br_f (by decide) (sX5_leastOf hj (sX5_mostOf hj (sX5_boundG q q2 (br_f (by decide) (sX5_no 6 (by decide) rfl ⟨rfl, S, w, hl, pi, pc, g1, g2, g3, g4, g5, rf_upd g6 6, g7⟩))))))
    · refine br_t (Int32.not_le.mp q) (br_f (by decide) ⟨vp_in_nI hj (by omega), br_f q (sX4_refuse 4 (by decide) rfl ?_)⟩)
      exact sX5_isIn0 (n := 3) (by omega) rfl hj (br_f (by decide) (sX5_leastOf hj (sX5_mostOf hj (sX5_boundL q (br_f (by decide) (sX5_no 4 (by decide) rfl ⟨rfl, S, w, hl, pi, pc, g1, g2, g3, g4, g5, rf_upd g6 4, g7⟩))))))
