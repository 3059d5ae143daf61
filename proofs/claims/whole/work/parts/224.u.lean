/-! old -/
theorem fl_at (S w rw_ : Nat → Nat) (o : Nat) : ∀ d i, (fl S w rw_ i o && (ai rw_ d i && at_ S rw_ o d i)) = fl S w rw_ (i + d) o
  | 0, i => by
    show (fl S w rw_ i o && (true && true)) = _
    rw [Bool.and_self, Bool.and_true]; rfl
  | d + 1, i => by
    have ih := fl_at S w rw_ o d (i + 1)
    rw [show i + (d + 1) = i + 1 + d by omega, ← ih]
    show (fl S w rw_ i o && ((decide (rw_ i % 50 < 48) && ai rw_ d (i + 1)) && ((wd S (rw_ i % 50) o == decide (50 ≤ rw_ i)) && at_ S rw_ o d (i + 1)))) = ((fl S w rw_ i o && (decide (rw_ i % 50 < 48) && (wd S (rw_ i % 50) o == decide (50 ≤ rw_ i)))) && (ai rw_ d (i + 1) && at_ S rw_ o d (i + 1)))
    cases fl S w rw_ i o <;> cases decide (rw_ i % 50 < 48) <;> cases ai rw_ d (i + 1) <;> cases (wd S (rw_ i % 50) o == decide (50 ≤ rw_ i)) <;> rfl
theorem ai_in {rw_ : Nat → Nat} : ∀ d i, ai rw_ d i = true → ∀ k, i ≤ k → k < i + d → rw_ k % 50 < 48
  | 0, i, _, k, h1, h2 => by omega
  | d + 1, i, h, k, h1, h2 => by
    unfold ai at h
    rw [Bool.and_eq_true] at h
    by_cases e : k = i
    · subst e; exact of_decide_eq_true h.1
    · exact ai_in d (i + 1) h.2 k (by omega) (by omega)
theorem lX5_old {S w rw_ hl pi pc : Nat → Nat} (g : okA S w hl pi pc) {M Mw R : Nat → Int32} (hS : rS S M) (hw : rN (S 0) w Mw) {n : Nat} (hn : n ≤ 8) (hr : ∀ i, i < n → rw_ i < 100 ∧ R i = nI (rw_ i)) (ha : ai rw_ n 0 = true) {K : Int32 → Int32 → Prop} (h : ∀ c, K (nI (bo (fl S w rw_ n) (S 0))) c) : ∀ d i, i + d = S 0 → lpX5_old_4 K (nI n) M Mw R (d + 1) (nI (bo (fl S w rw_ n) i)) (nI i) := by
  obtain ⟨o1, o2, o3, o4, o5, o6⟩ := id g.1
  have hin : ∀ i, i < n → rw_ i % 50 < 48 := fun i hi => ai_in n 0 ha i (Nat.zero_le _) (by omega)
  intro d
  induction d with
  | zero =>
    intro i hi
    have e : i = S 0 := by omega
    subst e
    rw [lpX5_old_4, hS.1]
    exact br_t (nI_le (Nat.le_refl _) (by omega)) (h _)
  | succ d ih =>
    intro i hi
    have ih := ih (i + 1) (by omega)
    rw [bo_s2] at ih
    have hwi := okA_w2 g i (by omega)
    have ef : fl S w rw_ n i = (decide (0 < w i) && at_ S rw_ i n 0) := by
      have := fl_at S w rw_ i n 0
      rw [ha, Bool.true_and, Nat.zero_add] at this
      exact this.symm
    rw [ef] at ih
    rw [lpX5_old_4, hS.1]
    refine br_f (nI_ge (by omega) (by omega)) ⟨n + 1, lX5_areInches hn hr n 0 (by omega) ?_⟩
    rw [ha]
    refine br_f (by decide) ⟨vp_in_nI (by omega) (by omega), ?_⟩
    rw [nI_clamp (by omega), hw i (by omega), nI_1, sh1 i (by omega), show (0 : Int32) = nI 0 from rfl, fa_or, fa_or]
    refine pk_le (w i) 0 (fun q => ?_) (fun q => ⟨n + 1, lX5_isAsTold g.1 hS hn hr hin (by omega) n 0 (by omega) (bi_0 ?_)⟩)
    · rw [decide_eq_false (by omega), Bool.false_and, if_neg (by decide)] at ih
      exact ih
    · rw [decide_eq_true q, Bool.true_and] at ih
      cases ht : at_ S rw_ i n 0 with
      | true => rw [ht, if_pos rfl] at ih; exact ih
      | false => rw [ht, if_neg (by decide)] at ih; exact ih
theorem sX5_old {S w rw_ hl pi pc : Nat → Nat} (g : okA S w hl pi pc) {N : Int32} {M Mw R : Nat → Int32} (hS : rS S M) (hw : rN (S 0) w Mw) {n : Nat} (eN : N = nI n) (hn : n ≤ 8) (hr : ∀ i, i < n → rw_ i < 100 ∧ R i = nI (rw_ i)) {post : Int32 → Prop} (h : post (nI (bo (fl S w rw_ n) (S 0)))) : wpX5_old post N M Mw R := by
  subst eN
  obtain ⟨o1, o2, o3, o4, o5, o6⟩ := id g.1
  cases ha : ai rw_ n 0 with
  | true => exact ⟨S 0 + 1, lX5_old (K := fun v _ => post v) g hS hw hn hr ha (fun _ => h) (S 0) 0 (by omega)⟩
  | false =>
    refine ⟨1, ?_⟩
    rw [lpX5_old_4, hS.1]
    refine br_f (nI_ge (a := 0) (by omega) (by omega)) ⟨n + 1, lX5_areInches hn hr n 0 (by omega) ?_⟩
    rw [ha]
    refine br_t rfl ?_
    have e : bo (fl S w rw_ n) (S 0) = 0 := bo_0.mpr (fun o _ => by
      have := fl_at S w rw_ o n 0
      rw [ha, Bool.false_and, Bool.and_false, Nat.zero_add] at this
      exact this.symm)
    rw [e] at h
    exact h
theorem ph_old : PH_old RE := by
  intro v_T v_n v_k v_t v_s v_r v_c v_M hR
  obtain ⟨S, w, hl, pi, pc, g1, g2, g3, g4, ⟨n, rw_, h8, e1, e2, e3⟩, g6, g7⟩ := id hR
  obtain ⟨c0, c1, c2, c3, c4, c5, c6, c7, c8, c9, c10, c11, c12, c13⟩ := id g2
  obtain ⟨m0, m1, m2, m3, m4, m5, m6⟩ := id g3
  have e1' : v_r.1 = nI n := e1
  unfold wpX4_old
  rw [e1']
  refine sX0_fit g1.1 c8 c12 h8 (fun i hi => ⟨(e3 i hi).1, (e3 i hi).2.1⟩) ?_
  exact sX5_old g1 m2 m6 e2 h8 (fun i hi => ⟨(e3 i hi).1, (e3 i hi).2.2⟩) ⟨rfl, hR⟩
