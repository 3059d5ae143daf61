/-! woods by law -/
theorem md {x sp o : Nat} (h : o < sp) : (x + sp - o) % sp = if o ≤ x % sp then x % sp - o else x % sp + sp - o := by
  have hr : x % sp < sp := Nat.mod_lt _ (by omega)
  have hx := Nat.mod_add_div x sp
  by_cases q : o ≤ x % sp
  · rw [if_pos q]
    have e : x + sp - o = (x % sp - o) + sp * (x / sp + 1) := by rw [Nat.mul_add, Nat.mul_one]; omega
    rw [e, Nat.add_mul_mod_self_left, Nat.mod_eq_of_lt (by omega)]
  · rw [if_neg q]
    have e : x + sp - o = (x % sp + sp - o) + sp * (x / sp) := by omega
    rw [e, Nat.add_mul_mod_self_left, Nat.mod_eq_of_lt (by omega)]
theorem md_iff {x sp o k : Nat} (ho : o < sp) (hk : k < sp) : (x + sp - o) % sp = k ↔ (x + sp - k) % sp = o := by
  have hr : x % sp < sp := Nat.mod_lt _ (by omega)
  rw [md ho, md hk]
  generalize x % sp = r at *
  constructor
  · intro h
    split at h <;> split <;> omega
  · intro h
    split at h <;> split <;> omega
theorem sh1 : ∀ t, t < 31 → (1 : Int32) <<< (nI t &&& 31) = nI (2 ^ t) := by decide +kernel
theorem lf_s {x sp k : Nat} (hk : k < sp) : bo (lf sp k x) sp ||| 2 ^ ((x + sp - k) % sp) = bo (lf sp (k + 1) x) sp := by
  have ht : (x + sp - k) % sp < sp := Nat.mod_lt _ (by omega)
  apply Nat.eq_of_testBit_eq
  intro i
  rw [Nat.testBit_or, bo_test, bo_test, Nat.testBit_two_pow]
  by_cases q : i < sp
  · rw [decide_eq_true q, Bool.true_and, Bool.true_and]
    have h := md_iff (x := x) q hk
    unfold lf
    by_cases e : (x + sp - k) % sp = i
    · rw [decide_eq_true e, Bool.or_true]
      exact (decide_eq_true (by have := h.mpr e; omega)).symm
    · rw [decide_eq_false e, Bool.or_false]
      have e2 : ¬ (x + sp - i) % sp = k := fun z => e (h.mp z)
      by_cases c : (x + sp - i) % sp < k
      · rw [decide_eq_true c]; exact (decide_eq_true (by omega)).symm
      · rw [decide_eq_false c]; exact (decide_eq_false (by omega)).symm
  · rw [decide_eq_false q, Bool.false_and, Bool.false_and, decide_eq_false (by omega)]
    rfl
theorem lX3_byLeft {S : Nat → Nat} (ok : okS S) {x : Nat} (hx : x < 1000) {K : Int32 → Int32 → Prop} (h : ∀ c, K (nI (bo (lf (S 0) (S 1) x) (S 0))) c) : ∀ d i, i + d = S 1 → lpX3_byLeft_4 K (nI x) (nI (S 0)) (nI (S 1)) (d + 1) (nI (bo (lf (S 0) i x) (S 0))) (nI i) := by
  obtain ⟨o1, o2, o3, o4, o5, o6⟩ := id ok
  intro d
  induction d with
  | zero =>
    intro i hi
    have e : i = S 1 := by omega
    subst e
    rw [lpX3_byLeft_4]
    exact br_t (nI_le (Nat.le_refl _) (by omega)) (h _)
  | succ d ih =>
    intro i hi
    have ih := ih (i + 1) (by omega)
    have ht : (x + S 0 - i) % S 0 < S 0 := Nat.mod_lt _ (by omega)
    rw [lpX3_byLeft_4]
    refine br_f (nI_ge (by omega) (by omega)) (br_f (nI_ge (a := 0) (b := S 0) (by omega) (by omega)) ⟨nI_ne0 (by omega) (by omega), ?_⟩)
    intro y ey
    have e : nI x - nI i + nI (S 0) = nI (x + S 0 - i) := by
      apply toI
      have h1 := sub_toInt (a := x) (b := i) (by omega) (by omega)
      have h2 := nI_toInt (n := S 0) (by omega)
      rw [fb_addI (by rw [h1, h2]; omega) (by rw [h1, h2]; omega), h1, h2, nI_toInt (by omega)]
      omega
    rw [e, pk_rem (by omega) (by omega) (by omega), sh1 _ (by omega), fa_or, lf_s (by omega)] at ey
    subst ey
    rw [nI_1]
    exact ih
theorem lf_0 (sp x n : Nat) : bo (lf sp 0 x) n = 0 := bo_0.mpr (fun o _ => decide_eq_false (by omega))
theorem sX3_byLeft {S : Nat → Nat} (ok : okS S) {x : Nat} (hx : x < 1000) {post : Int32 → Prop} (h : post (nI (bo (lf (S 0) (S 1) x) (S 0)))) : wpX3_byLeft post (nI (S 0)) (nI (S 1)) (nI x) := by
  have nx := lX3_byLeft (K := fun v _ => post v) ok hx (fun _ => h) (S 1) 0 (by omega)
  rw [lf_0] at nx
  exact ⟨S 1 + 1, nx⟩
theorem bo_cong {p q : Nat → Bool} {n : Nat} (h : ∀ o, o < n → p o = q o) : bo p n = bo q n := by
  apply Nat.eq_of_testBit_eq
  intro i
  rw [bo_test, bo_test]
  by_cases c : i < n
  · rw [h i c]
  · rw [decide_eq_false c, Bool.false_and, Bool.false_and]
theorem bo_all (n : Nat) : bo (fun _ => true) n = 2 ^ n - 1 := by
  apply Nat.eq_of_testBit_eq
  intro i
  rw [bo_test, Nat.testBit_two_pow_sub_one, Bool.and_true]
theorem sX3_allOffsets {S : Nat → Nat} (ok : okS S) {p : Nat → Bool} (hp : ∀ o, o < S 0 → p o = true) {post : Int32 → Prop} (h : post (nI (bo p (S 0)))) : wpX3_allOffsets post (nI (S 0)) := by
  obtain ⟨o1, o2, o3, o4, o5, o6⟩ := id ok
  unfold wpX3_allOffsets
  rw [sh1 _ (by omega), show (1 : Int32) = nI 1 from rfl, pk_sub (Nat.two_pow_pos _), ← bo_all, ← bo_cong hp]
  exact h
theorem sX3_byDoored {S : Nat → Nat} (ok : okS S) {x : Nat} (hx : x < 1000) {post : Int32 → Prop} (h : post (nI (bo (db S x) (S 0)))) : wpX3_byDoored post (nI (S 0)) (nI (S 1)) (nI (S 2)) (nI x) := by
  obtain ⟨o1, o2, o3, o4, o5, o6⟩ := id ok
  unfold wpX3_byDoored
  rw [nI_add]
  refine pk_lt x (S 2) (fun q => ?_) (fun q => pk_le (S 2 + S 1) x (fun q2 => ?_) (fun q2 => ?_))
  · refine sX3_byLeft ok hx ?_
    rw [bo_cong (q := db S x) (fun o _ => ?_)]
    · exact h
    · unfold db
      rw [decide_eq_false (by omega : ¬ S 2 ≤ x), Bool.false_and, Bool.or_false]
  · refine sX3_byLeft ok hx ?_
    rw [bo_cong (q := db S x) (fun o _ => ?_)]
    · exact h
    · unfold db
      rw [decide_eq_false (by omega : ¬ x < S 2 + S 1), Bool.and_false, Bool.or_false]
  · refine sX3_allOffsets ok (fun o _ => ?_) h
    unfold db
    rw [decide_eq_true (by omega : S 2 ≤ x), decide_eq_true (by omega : x < S 2 + S 1), Bool.and_self, Bool.or_true]
theorem bo_or (p q : Nat → Bool) (n : Nat) : bo p n ||| bo q n = bo (fun o => p o || q o) n := by
  apply Nat.eq_of_testBit_eq
  intro i
  rw [Nat.testBit_or, bo_test, bo_test, bo_test]
  cases decide (i < n) <;> simp
theorem sX3_woodsByLaw {S : Nat → Nat} (ok : okS S) {x : Nat} (hx : x < 48) {post : Int32 → Prop} (h : post (nI (bo (wd S x) (S 0)))) : wpX3_woodsByLaw post (nI (S 0)) (nI (S 1)) (nI (S 2)) (nI (S 3)) (nI x) := by
  obtain ⟨o1, o2, o3, o4, o5, o6⟩ := id ok
  have e47 : (47 : Int32) - nI x = nI (47 - x) := pk_sub (a := 47) (by omega)
  have e47b : (47 : Int32) - nI (S 1) = nI (47 - S 1) := pk_sub (a := 47) (by omega)
  have e2 : nI (S 0) / (2 : Int32) = nI (S 0 / 2) := pk_div (d := 2) (by omega) (by omega) (by omega)
  unfold wpX3_woodsByLaw
  rw [e47]
  have key : ∀ {q : Nat → Bool}, (∀ o, o < S 0 → q o = wd S x o) → post (nI (bo q (S 0))) := fun {q} hq => by
    rw [bo_cong hq]
    exact h
  refine pk_eq (S 3) 1 (fun q => ?_) (fun q1 => pk_eq (S 3) 2 (fun q => ?_) (fun q2 => pk_eq (S 3) 3 (fun q => ?_) (fun q3 => pk_eq (S 3) 4 (fun q => ?_) (fun q4 => pk_eq (S 3) 5 (fun q => ?_) (fun q5 => ?_)))))
  · exact sX3_byLeft ok (by omega) (key (fun o _ => by unfold wd; rw [if_pos q]))
  · exact sX3_byDoored ok (by omega) (key (fun o _ => by unfold wd; rw [if_neg q1, if_pos q]))
  · unfold wpX3_isCorner
    rw [e47b]
    have all : (x < S 1 ∨ 47 < x + S 1) → wpX3_allOffsets (fun r => post r) (nI (S 0)) := fun c => sX3_allOffsets ok (fun o _ => by
      unfold wd
      rw [if_neg q1, if_neg q2, if_pos q]
      rcases c with c | c
      · rw [decide_eq_true c, Bool.true_or, Bool.or_true]
      · rw [decide_eq_true c, Bool.or_true, Bool.or_true]) h
    refine pk_lt x (S 1) (fun c => ?_) (fun c => pk_le x (47 - S 1) (fun c2 => ?_) (fun c2 => ?_))
    · exact br_f (by decide) (all (Or.inl c))
    · refine br_t rfl (sX3_byLeft ok (by omega) (key (fun o _ => ?_)))
      unfold wd
      rw [if_neg q1, if_neg q2, if_pos q, decide_eq_false (by omega : ¬ x < S 1), decide_eq_false (by omega : ¬ 47 < x + S 1), Bool.or_false, Bool.or_false]
    · exact br_f (by decide) (all (Or.inr (by omega)))
  · refine sX3_byDoored ok (by omega) ?_
    rw [e2, nI_add]
    refine sX3_byDoored ok (by omega) ?_
    rw [fa_or, bo_or]
    exact key (fun o _ => by unfold wd; rw [if_neg q1, if_neg q2, if_neg q3, if_pos q])
  · refine pk_le 40 x (fun c => ?_) (fun c => ?_)
    · have e : (0 : Int32) = nI (bo (fun _ => false) (S 0)) := by rw [bo_0.mpr (fun _ _ => rfl)]; rfl
      rw [e]
      refine key (fun o _ => ?_)
      unfold wd
      rw [if_neg q1, if_neg q2, if_neg q3, if_neg q4, if_pos q, decide_eq_false (by omega : ¬ x < 40), Bool.false_and]
    · refine sX3_byLeft ok (by omega) (key (fun o _ => ?_))
      unfold wd
      rw [if_neg q1, if_neg q2, if_neg q3, if_neg q4, if_pos q, decide_eq_true c, Bool.true_and]
  · exact sX3_byLeft ok (by omega) (key (fun o _ => by unfold wd; rw [if_neg q1, if_neg q2, if_neg q3, if_neg q4, if_neg q5]))
