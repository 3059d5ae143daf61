/-! numbers and booleans of the predicates -/
def bi (b : Bool) : Int32 := if b then 1 else 0
theorem bi_t : bi true = 1 := rfl
theorem bi_f : bi false = 0 := rfl
theorem bi_1 {b : Bool} {A B : Prop} (h : cond b A B) : (bi b = 1 → A) ∧ (¬ bi b = 1 → B) := by
  cases b
  · exact ⟨fun z => absurd z (by decide), fun _ => h⟩
  · exact ⟨fun _ => h, fun z => absurd rfl z⟩
theorem bi_0 {b : Bool} {A B : Prop} (h : cond b B A) : (bi b = 0 → A) ∧ (¬ bi b = 0 → B) := by
  cases b
  · exact ⟨fun _ => h, fun z => absurd rfl z⟩
  · exact ⟨fun z => absurd z (by decide), fun _ => h⟩
theorem bi_n (b : Bool) : narrow .boolean (.int (bi b)) = .int (bi b) := by cases b <;> rfl
theorem bi_dec {p : Prop} [Decidable p] : bi (decide p) = if p then 1 else 0 := by
  by_cases h : p <;> simp [bi, h]
theorem ex_n {P : Nat → Prop} (n : Nat) (h : P n) : ∃ n, P n := ⟨n, h⟩
theorem toI {a b : Int32} (h : a.toInt = b.toInt) : a = b := Int32.toInt_inj.mp h
theorem sub_toInt {a b : Nat} (ha : a < 2 ^ 30) (hb : b < 2 ^ 30) : (nI a - nI b).toInt = (a : Int) - b := pk_sub_toInt ha hb
/-! the settings, and where there is wood -/
def lf (sp bm x o : Nat) : Bool := decide ((x + sp - o) % sp < bm)
def db (S : Nat → Nat) (x o : Nat) : Bool := lf (S 0) (S 1) x o || (decide (S 2 ≤ x) && decide (x < S 2 + S 1))
def wd (S : Nat → Nat) (x o : Nat) : Bool :=
  if S 3 = 1 then lf (S 0) (S 1) (47 - x) o
  else if S 3 = 2 then db S x o
  else if S 3 = 3 then lf (S 0) (S 1) (47 - x) o || (decide (x < S 1) || decide (47 < x + S 1))
  else if S 3 = 4 then db S x o || db S (x + S 0 / 2) o
  else if S 3 = 5 then decide (x < 40) && lf (S 0) (S 1) x o
  else lf (S 0) (S 1) x o
def okS (S : Nat → Nat) : Prop := 6 ≤ S 0 ∧ S 0 ≤ 24 ∧ 1 ≤ S 1 ∧ S 1 ≤ 4 ∧ S 2 ≤ 47 ∧ S 3 ≤ 5
def rS (S : Nat → Nat) (M : Nat → Int32) : Prop := M 0 = nI (S 0) ∧ M 1 = nI (S 1) ∧ M 2 = nI (S 2) ∧ M 3 = nI (S 3)
def rN (n : Nat) (w : Nat → Nat) (M : Nat → Int32) : Prop := ∀ o, o < n → M o = nI (w o)
/-! the reference: small methods -/
theorem sX5_no {post : Int32 → (Nat → Int32) → Prop} {R : Nat → Int32} {k : Int32} (n : Nat) (hn : n < 7) (e : -k = nI n) (h : post k (upd R n (R n + 1))) : wpX5_no post R k := by
  unfold wpX5_no
  rw [e, nI_clamp (by omega)]
  exact ⟨vp_in_nI hn (by omega), vp_in_nI hn (by omega), h⟩
theorem sX5_lowest {post : Int64 → (Nat → Int32) → Prop} {R : Nat → Int32} {k : Int32} (n : Nat) (hn : n < 7) (e : -k = nI n) (h : post (4000000000000000000 - k.toInt64) (upd R n (R n + 1))) : wpX5_lowest post R k := by
  unfold wpX5_lowest
  rw [e, nI_clamp (by omega)]
  exact ⟨vp_in_nI hn (by omega), vp_in_nI hn (by omega), h⟩
theorem sX5_modulo {post : Int32 → Prop} {x o sp : Nat} (hx : x < 1000) (ho : o < sp) (hs : sp < 1000) (h : post (nI ((x + sp - o) % sp))) : wpX5_modulo post (nI x - nI o) (nI sp) := by
  have hi : (nI x - nI o).toInt = (x : Int) - o := sub_toInt (by omega) (by omega)
  have hp : (nI sp).toInt = (sp : Int) := nI_toInt (by omega)
  have hr : ((nI x - nI o) - (nI x - nI o) / nI sp * nI sp).toInt = ((x : Int) - o).tmod sp := by rw [rem_toInt, hi, hp]
  refine ⟨nI_ne0 (by omega) (by omega), ?_⟩
  rcases Nat.lt_or_ge x o with q | q
  · have e1 : ((x : Int) - o).tmod sp = (x : Int) - o := by
      have e2 : ((x : Int) - o) = -((o - x : Nat) : Int) := by omega
      rw [e2, Int.neg_tmod, Int.tmod_eq_emod_of_nonneg (by omega), Int.emod_eq_of_lt (by omega) (by omega)]
    have e3 : (x + sp - o) % sp = x + sp - o := Nat.mod_eq_of_lt (by omega)
    rw [e3] at h
    rw [e1] at hr
    refine br_f ?_ ?_
    · rw [Int32.le_iff_toInt_le, hr, Int32.toInt_zero]
      omega
    · have e4 : ((nI x - nI o) - (nI x - nI o) / nI sp * nI sp) + nI sp = nI (x + sp - o) := by
        apply toI
        rw [fb_addI (by rw [hr, hp]; omega) (by rw [hr, hp]; omega), hr, hp, nI_toInt (by omega)]
        omega
      rw [e4]
      exact h
  · have e1 : ((x : Int) - o).tmod sp = (((x - o) % sp : Nat) : Int) := by
      have e2 : ((x : Int) - o) = ((x - o : Nat) : Int) := by omega
      rw [e2, Int.tmod_eq_emod_of_nonneg (by omega)]
      exact (Int.natCast_emod _ _).symm
    have e3 : (x + sp - o) % sp = (x - o) % sp := by
      rw [show x + sp - o = (x - o) + sp by omega, Nat.add_mod_right]
    have hlt : (x - o) % sp < sp := Nat.mod_lt _ (by omega)
    rw [e3] at h
    have e4 : (nI x - nI o) - (nI x - nI o) / nI sp * nI sp = nI ((x - o) % sp) := by
      apply toI
      rw [hr, e1, nI_toInt (by omega)]
    rw [e4]
    exact br_t (nI_pos' (by omega)) h
theorem sX5_isLeft {S : Nat → Nat} {M : Nat → Int32} (hS : rS S M) (ok : okS S) {x o : Nat} (hx : x < 1000) (ho : o < S 0) {post : Int32 → Prop} (h : post (bi (lf (S 0) (S 1) x o))) : wpX5_isLeft post M (nI x) (nI o) := by
  obtain ⟨o1, o2, o3, o4, o5, o6⟩ := ok
  unfold wpX5_isLeft
  rw [hS.1, hS.2.1]
  refine sX5_modulo hx ho (by omega) ?_
  have hlt : (x + S 0 - o) % S 0 < S 0 := Nat.mod_lt _ (by omega)
  refine pk_le (S 1) ((x + S 0 - o) % S 0) (fun q => ?_) (fun q => ?_)
  · rw [show lf (S 0) (S 1) x o = false from decide_eq_false (by omega)] at h
    exact h
  · rw [show lf (S 0) (S 1) x o = true from decide_eq_true q] at h
    exact h
theorem sX5_isIn {post : Int32 → Prop} {a b c : Nat} (ha : a < 2 ^ 31) (hb : b < 2 ^ 31) (hc : c < 2 ^ 31) (h : post (bi (decide (b ≤ a) && decide (a ≤ c)))) : wpX5_isIn post (nI a) (nI b) (nI c) := by
  unfold wpX5_isIn
  refine pk_lt a b (fun q => ?_) (fun q => pk_lt c a (fun q2 => ?_) (fun q2 => ?_))
  · rw [show decide (b ≤ a) = false from decide_eq_false (by omega)] at h
    exact h
  · rw [show decide (a ≤ c) = false from decide_eq_false (by omega), Bool.and_false] at h
    exact h
  · rw [show decide (a ≤ c) = true from decide_eq_true q2, show decide (b ≤ a) = true from decide_eq_true q] at h
    exact h
theorem sX5_isDoored {S : Nat → Nat} {M : Nat → Int32} (hS : rS S M) (ok : okS S) {x o : Nat} (hx : x < 1000) (ho : o < S 0) {post : Int32 → Prop} (h : post (bi (db S x o))) : wpX5_isDoored post M (nI x) (nI o) := by
  unfold wpX5_isDoored
  refine sX5_isLeft hS ok hx ho ?_
  obtain ⟨o1, o2, o3, o4, o5, o6⟩ := ok
  unfold db at h
  refine bi_0 ?_
  cases hl : lf (S 0) (S 1) x o with
  | true => rw [hl] at h; exact h
  | false =>
    rw [hl, Bool.false_or] at h
    rw [cond_false, hS.2.1, hS.2.2.1, nI_add, show (1 : Int32) = nI 1 from rfl, pk_sub (by omega)]
    refine sX5_isIn (by omega) (by omega) (by omega) ?_
    have e : decide (x ≤ S 2 + S 1 - 1) = decide (x < S 2 + S 1) := by
      by_cases q : x < S 2 + S 1
      · rw [decide_eq_true q]; exact decide_eq_true (by omega)
      · rw [decide_eq_false q]; exact decide_eq_false (by omega)
    rw [e]
    refine bi_0 ?_
    cases hq : (decide (S 2 ≤ x) && decide (x < S 2 + S 1)) with
    | true => rw [hq] at h; exact h
    | false => rw [hq] at h; exact h
theorem sX5_isWood {S : Nat → Nat} {M : Nat → Int32} (hS : rS S M) (ok : okS S) {x o : Nat} (hx : x < 48) (ho : o < S 0) {post : Int32 → Prop} (h : post (bi (wd S x o))) : wpX5_isWood post M (nI x) (nI o) := by
  obtain ⟨o1, o2, o3, o4, o5, o6⟩ := id ok
  have e47 : (47 : Int32) - nI x = nI (47 - x) := pk_sub (a := 47) (b := x) (by omega)
  unfold wpX5_isWood
  rw [hS.2.2.2, e47]
  unfold wd at h
  refine pk_eq (S 3) 1 (fun q => ?_) (fun q1 => pk_eq (S 3) 2 (fun q => ?_) (fun q2 => pk_eq (S 3) 3 (fun q => ?_) (fun q3 => pk_eq (S 3) 4 (fun q => ?_) (fun q4 => pk_eq (S 3) 5 (fun q => ?_) (fun q5 => ?_)))))
  · rw [if_pos q] at h
    exact sX5_isLeft hS ok (by omega) ho ⟨bi_n _, h⟩
  · rw [if_neg q1, if_pos q] at h
    exact sX5_isDoored hS ok (by omega) ho ⟨bi_n _, h⟩
  · rw [if_neg q1, if_neg q2, if_pos q] at h
    refine sX5_isLeft hS ok (by omega) ho (bi_0 ?_)
    cases hl : lf (S 0) (S 1) (47 - x) o with
    | true => rw [hl] at h; exact h
    | false =>
      rw [hl, Bool.false_or] at h
      rw [cond_false, hS.2.1, show (47 : Int32) = nI 47 from rfl, pk_sub (by omega)]
      refine pk_lt x (S 1) (fun q5 => ?_) (fun q5 => pk_le x (47 - S 1) (fun q6 => ?_) (fun q6 => ?_))
      · rw [decide_eq_true q5] at h; exact h
      · rw [show decide (x < S 1) = false from decide_eq_false (by omega), show decide (47 < x + S 1) = false from decide_eq_false (by omega)] at h; exact h
      · rw [show decide (47 < x + S 1) = true from decide_eq_true (by omega), Bool.or_true] at h; exact h
  · rw [if_neg q1, if_neg q2, if_neg q3, if_pos q] at h
    refine sX5_isDoored hS ok (by omega) ho (bi_0 ?_)
    cases hl : db S x o with
    | true => rw [hl] at h; exact h
    | false =>
      rw [hl, Bool.false_or] at h
      rw [cond_false, hS.1, show (2 : Int32) = nI 2 from rfl, pk_div (by omega) (by omega) (by omega), nI_add]
      refine sX5_isDoored hS ok (by omega) ho (bi_0 ?_)
      cases hl2 : db S (x + S 0 / 2) o with
      | true => rw [hl2] at h; exact h
      | false => rw [hl2] at h; exact h
  · rw [if_neg q1, if_neg q2, if_neg q3, if_neg q4, if_pos q] at h
    refine pk_le 40 x (fun q5 => ?_) (fun q5 => ?_)
    · rw [show decide (x < 40) = false from decide_eq_false (by omega)] at h; exact h
    · rw [show decide (x < 40) = true from decide_eq_true q5, Bool.true_and] at h
      refine sX5_isLeft hS ok (by omega) ho (bi_0 ?_)
      cases hl : lf (S 0) (S 1) x o with
      | true => rw [hl] at h; exact h
      | false => rw [hl] at h; exact h
  · rw [if_neg q1, if_neg q2, if_neg q3, if_neg q4, if_neg q5] at h
    exact sX5_isLeft hS ok (by omega) ho ⟨bi_n _, h⟩
