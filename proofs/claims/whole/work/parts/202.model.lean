/-! the reference's loops over the offsets -/
def tw (k : Nat) : Nat := [7, 4, 6, 8, 9].getD k 7
def tn (k : Nat) : Nat := [7, 9, 9, 6, 9].getD k 9
/-- tenths by which a tool of kind k tells 'is' where wood is b -/
def tq (k : Nat) (is b : Bool) : Nat := if b then (if is then tw k else 10 - tw k) else (if is then 10 - tn k else tn k)
theorem tw_b {k : Nat} (hk : k < 5) : 1 ≤ tw k ∧ tw k ≤ 9 := by
  rcases (show k = 0 ∨ k = 1 ∨ k = 2 ∨ k = 3 ∨ k = 4 by omega) with rfl | rfl | rfl | rfl | rfl <;> decide
theorem tn_b {k : Nat} (hk : k < 5) : 1 ≤ tn k ∧ tn k ≤ 9 := by
  rcases (show k = 0 ∨ k = 1 ∨ k = 2 ∨ k = 3 ∨ k = 4 by omega) with rfl | rfl | rfl | rfl | rfl <;> decide
theorem tq_b {k : Nat} (hk : k < 5) (is b : Bool) : 1 ≤ tq k is b ∧ tq k is b ≤ 9 := by
  have h1 := tw_b hk
  have h2 := tn_b hk
  cases is <;> cases b <;> simp [tq] <;> omega
theorem sX5_inWood {post : Int32 → Prop} {k : Nat} (hk : k < 5) (h : post (nI (tw k))) : wpX5_inWood post (nI k) := by
  unfold wpX5_inWood
  refine pk_eq k 1 (fun q => ?_) (fun q1 => pk_eq k 2 (fun q => ?_) (fun q2 => pk_eq k 3 (fun q => ?_) (fun q3 => pk_eq k 4 (fun q => ?_) (fun q4 => ?_))))
  · subst q; exact h
  · subst q; exact h
  · subst q; exact h
  · subst q; exact h
  · have e : k = 0 := by omega
    subst e; exact h
theorem sX5_inNone {post : Int32 → Prop} {k : Nat} (hk : k < 5) (h : post (nI (tn k))) : wpX5_inNone post (nI k) := by
  unfold wpX5_inNone
  refine pk_eq k 0 (fun q => ?_) (fun q1 => pk_eq k 3 (fun q => ?_) (fun q2 => ?_))
  · subst q; exact h
  · subst q; exact h
  · rcases (show k = 1 ∨ k = 2 ∨ k = 4 by omega) with e | e | e <;> (subst e; exact h)
theorem sX5_tenths {S : Nat → Nat} {M : Nat → Int32} (hS : rS S M) (ok : okS S) {k x o : Nat} {is : Bool} (hk : k < 5) (hx : x < 48) (ho : o < S 0) {post : Int32 → Prop} (h : post (nI (tq k is (wd S x o)))) : wpX5_tenths post M (nI k) (nI x) (bi is) (nI o) := by
  unfold wpX5_tenths
  refine sX5_isWood hS ok hx ho (bi_0 ?_)
  have h1 := tw_b hk
  have h2 := tn_b hk
  cases hw : wd S x o with
  | true =>
    rw [hw] at h
    rw [cond_true]
    refine sX5_inWood hk (bi_1 ?_)
    cases is with
    | true => exact bi_1 (b := true) h
    | false =>
      refine bi_0 (b := true) ?_
      rw [cond_true, show (10 : Int32) = nI 10 from rfl, pk_sub (by omega)]
      exact h
  | false =>
    rw [hw] at h
    rw [cond_false]
    refine sX5_inNone hk (bi_1 ?_)
    cases is with
    | true =>
      refine bi_1 (b := false) ?_
      rw [cond_false, show (10 : Int32) = nI 10 from rfl, pk_sub (by omega)]
      exact h
    | false => exact bi_0 (b := false) h
/-- sums of weights -/
def sw (S w : Nat → Nat) (x : Nat) : Nat := fb_sm (fun o => if wd S x o then w o else 0) (S 0)
theorem i2l {n : Nat} (h : n < 2 ^ 31) : (nI n).toInt64 = lN n := nI_l h
theorem lX5_all {S w : Nat → Nat} {M Mw : Nat → Int32} (hS : rS S M) (ok : okS S) (hw : rN (S 0) w Mw) (hb : ∀ o, o < S 0 → w o < 2 ^ 31) {K : Int64 → Int32 → Prop} (h : K (lN (fb_sm w (S 0))) (nI (S 0))) : ∀ d i, i + d = S 0 → lpX5_all_4 K M Mw (d + 1) (lN (fb_sm w i)) (nI i) := by
  obtain ⟨o1, o2, o3, o4, o5, o6⟩ := id ok
  intro d
  induction d with
  | zero =>
    intro i hi
    have e : i = S 0 := by omega
    subst e
    rw [lpX5_all_4, hS.1]
    exact br_t (nI_le (Nat.le_refl _) (by omega)) h
  | succ d ih =>
    intro i hi
    rw [lpX5_all_4, hS.1]
    refine br_f (nI_ge (by omega) (by omega)) ⟨vp_in_nI (by omega) (by omega), ?_⟩
    rw [nI_clamp (by omega), hw i (by omega), i2l (hb i (by omega)), lN_add, show (1 : Int32) = nI 1 from rfl, nI_add]
    exact ih (i + 1) (by omega)
theorem sX5_all {S w : Nat → Nat} {M Mw : Nat → Int32} (hS : rS S M) (ok : okS S) (hw : rN (S 0) w Mw) (hb : ∀ o, o < S 0 → w o < 2 ^ 31) {post : Int64 → Prop} (h : post (lN (fb_sm w (S 0)))) : wpX5_all post M Mw :=
  ⟨S 0 + 1, lX5_all (K := fun v _ => post v) hS ok hw hb h (S 0) 0 (by omega)⟩
theorem lX5_woodAt {S w : Nat → Nat} {M Mw : Nat → Int32} (hS : rS S M) (ok : okS S) (hw : rN (S 0) w Mw) (hb : ∀ o, o < S 0 → w o < 2 ^ 31) {x : Nat} (hx : x < 48) {K : Int64 → Int32 → Prop} (h : K (lN (sw S w x)) (nI (S 0))) : ∀ d i, i + d = S 0 → lpX5_woodAt_5 K (nI x) M Mw (d + 1) (lN (fb_sm (fun o => if wd S x o then w o else 0) i)) (nI i) := by
  obtain ⟨o1, o2, o3, o4, o5, o6⟩ := id ok
  intro d
  induction d with
  | zero =>
    intro i hi
    have e : i = S 0 := by omega
    subst e
    rw [lpX5_woodAt_5, hS.1]
    exact br_t (nI_le (Nat.le_refl _) (by omega)) h
  | succ d ih =>
    intro i hi
    rw [lpX5_woodAt_5, hS.1]
    refine br_f (nI_ge (by omega) (by omega)) (sX5_isWood hS ok hx (by omega) (bi_0 ?_))
    have ih := ih (i + 1) (by omega)
    rw [fb_sm_succ] at ih
    cases hd : wd S x i with
    | true =>
      rw [hd, if_pos rfl] at ih
      refine ⟨vp_in_nI (by omega) (by omega), ?_⟩
      rw [nI_clamp (by omega), hw i (by omega), i2l (hb i (by omega)), lN_add, show (1 : Int32) = nI 1 from rfl, nI_add]
      exact ih
    | false =>
      rw [hd, if_neg (by decide)] at ih
      rw [cond_false, show (0 : Int64) = lN 0 from rfl, lN_add, show (1 : Int32) = nI 1 from rfl, nI_add]
      exact ih
theorem sX5_woodAt {S w : Nat → Nat} {M Mw : Nat → Int32} (hS : rS S M) (ok : okS S) (hw : rN (S 0) w Mw) (hb : ∀ o, o < S 0 → w o < 2 ^ 31) {x : Nat} (hx : x < 48) {post : Int64 → Prop} (h : post (lN (sw S w x))) : wpX5_woodAt post M Mw (nI x) :=
  ⟨S 0 + 1, lX5_woodAt (K := fun v _ => post v) hS ok hw hb hx h (S 0) 0 (by omega)⟩
