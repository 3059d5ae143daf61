/-! letters of a told wall -/
def tx (n : Nat) (tp : Nat → Nat) (i : Nat) : Nat := if i < n then tp i else 0
def okT (n : Nat) (tp : Nat → Nat) (s : Nat → Int32) : Prop := n ≤ 96 ∧ ∀ i, i < n → tp i < 256 ∧ s i = nI (tp i)
theorem tx_b {n : Nat} {tp : Nat → Nat} {s : Nat → Int32} (h : okT n tp s) (i : Nat) : tx n tp i < 256 := by
  unfold tx
  by_cases q : i < n
  · rw [if_pos q]; exact (h.2 i q).1
  · rw [if_neg q]; decide
theorem tx_in {n : Nat} {tp : Nat → Nat} {i : Nat} (h : ¬ tx n tp i = 0) : i < n := by
  unfold tx at h
  by_cases q : i < n
  · exact q
  · rw [if_neg q] at h; exact absurd rfl h
theorem sX2_signAt {n : Nat} {tp : Nat → Nat} {s : Nat → Int32} (h : okT n tp s) {p : Nat} (hp : p < 2 ^ 30) {post : Int32 → Prop} (hq : post (nI (tx n tp p))) : wpX2_signAt post (nI n) s (nI p) := by
  have h1 := h.1
  refine br_f (nI_pos (by omega)) ?_
  unfold tx at hq
  by_cases q : p < n
  · rw [if_pos q] at hq
    have h2 := h.2 p q
    refine br_f (nI_ge q (by omega)) (br_t (nI_lt (a := p) (b := 96) (by omega) (by omega)) ⟨vp_in_nI (by omega) (by omega), ?_⟩)
    rw [nI_clamp (by omega), h2.2]
    exact ⟨(pk_charN (by omega)).1, hq⟩
  · rw [if_neg q] at hq
    exact br_t (nI_le (by omega) (by omega)) hq
def dg (c : Nat → Nat) (p : Nat) : Bool := decide (48 ≤ c p) && decide (c p ≤ 57)
theorem dg_t {c : Nat → Nat} {p : Nat} (h : dg c p = true) : 48 ≤ c p ∧ c p ≤ 57 := by
  unfold dg at h
  rw [Bool.and_eq_true] at h
  exact ⟨of_decide_eq_true h.1, of_decide_eq_true h.2⟩
theorem dg_y {c : Nat → Nat} {p : Nat} (h1 : 48 ≤ c p) (h2 : c p ≤ 57) : dg c p = true := by
  unfold dg
  rw [decide_eq_true h1, decide_eq_true h2]; rfl
theorem dg_n {c : Nat → Nat} {p : Nat} (h : ¬ (48 ≤ c p ∧ c p ≤ 57)) : dg c p = false := by
  cases q : dg c p with
  | false => rfl
  | true => exact absurd (dg_t q) h
/-! letters of laws -/
def lwN (a : Nat) : Nat := if a = 108 then 0 else if a = 114 then 1 else if a = 100 then 2 else if a = 99 then 3 else if a = 104 then 4 else if a = 115 then 5 else 6
def lwC (i : Nat) : Nat := [108, 114, 100, 99, 104, 115].getD i 0
def isL (a : Nat) : Bool := decide (lwN a < 6)
theorem lwC_N : ∀ i, i < 6 → lwN (lwC i) = i ∧ lwC i < 128 := by decide +kernel
theorem lwN_6 {a : Nat} (h : ∀ j, j < 6 → ¬ lwC j = a) : lwN a = 6 := by
  have e0 := h 0 (by omega)
  have e1 := h 1 (by omega)
  have e2 := h 2 (by omega)
  have e3 := h 3 (by omega)
  have e4 := h 4 (by omega)
  have e5 := h 5 (by omega)
  have d0 : lwC 0 = 108 := rfl
  have d1 : lwC 1 = 114 := rfl
  have d2 : lwC 2 = 100 := rfl
  have d3 : lwC 3 = 99 := rfl
  have d4 : lwC 4 = 104 := rfl
  have d5 : lwC 5 = 115 := rfl
  unfold lwN
  rw [if_neg (by omega), if_neg (by omega), if_neg (by omega), if_neg (by omega), if_neg (by omega), if_neg (by omega)]
theorem lwN_b (a : Nat) : lwN a ≤ 6 := by
  unfold lwN
  split
  · omega
  · split
    · omega
    · split
      · omega
      · split
        · omega
        · split
          · omega
          · split <;> omega
theorem byt7 : ∀ i, i < 6 → (bytJS.getD 7 []).getD (nI i).toNatClampNeg 0 = nI (lwC i) := by decide +kernel
theorem i8_lt {a b : Nat} (ha : a < 256) (hb : b < 128) : nI b = (nI a).toInt8.toInt32 ↔ b = a := by
  by_cases q : a < 128
  · rw [fa_byte_small q]
    exact nI_eq (by omega) (by omega)
  · constructor
    · intro h
      exfalso
      have h2 := congrArg Int32.toInt h
      have h3 : ∀ k : Fin 128, (nI (128 + k.val)).toInt8.toInt32.toInt < 0 := by decide +kernel
      have h4 := h3 ⟨a - 128, by omega⟩
      rw [show 128 + (⟨a - 128, by omega⟩ : Fin 128).val = a by show 128 + (a - 128) = a; omega] at h4
      rw [nI_toInt (by omega)] at h2
      omega
    · intro h
      omega
theorem lJ1_idx {a : Nat} (ha : a < 256) {post : Int32 → Prop} (h : post (if lwN a < 6 then nI (lwN a) else -1)) : ∀ d i, i + d = 6 → (∀ j, j < i → ¬ lwC j = a) → lpJ1_indexOfChar_4cfef_7 post (fun _ => post (-1)) 7 (nI 6) (nI a).toInt8.toInt32 (d + 1) (nI i) := by
  intro d
  induction d with
  | zero =>
    intro i hi hn
    have e : i = 6 := by omega
    subst e
    rw [lpJ1_indexOfChar_4cfef_7]
    rw [lwN_6 hn, if_neg (by omega)] at h
    exact br_t (nI_le (Nat.le_refl _) (by omega)) h
  | succ d ih =>
    intro i hi hn
    have hc := lwC_N i (by omega)
    rw [lpJ1_indexOfChar_4cfef_7]
    refine br_f (nI_ge (by omega) (by omega)) ⟨by omega, vp_in_nI (show i < lenJS.getD 7 0 from by show i < 6; omega) (by decide), ?_⟩
    rw [byt7 i (by omega), nI_1]
    by_cases q : lwC i = a
    · refine br_t ((i8_lt ha hc.2).mpr q) ?_
      rw [q] at hc
      rw [hc.1, if_pos (by omega)] at h
      exact h
    · refine br_f (fun z => q ((i8_lt ha hc.2).mp z)) (ih (i + 1) (by omega) (fun j hj => ?_))
      by_cases e : j = i
      · subst e; exact q
      · exact hn j (by omega)
theorem sJ0_index {a : Nat} (ha : a < 256) {post : Int32 → Prop} (h : post (if lwN a < 6 then nI (lwN a) else -1)) : wpJ0_indexOf_0f7a4 post 7 (nI a) := by
  have e6 : (nI (lenJS.getD 7 0)) >>> ((0 : Int32) &&& 31) = nI 6 := by decide
  refine ⟨by omega, by omega, by omega, br_f (by decide) ⟨by omega, by omega, by omega, by omega, by omega, by omega, ?_⟩⟩
  show wpJ1_indexOf_4cfef post 7 (nI a) 0 ((nI (lenJS.getD 7 0)) >>> ((0 : Int32) &&& 31))
  rw [e6]
  refine br_f (nI_pos (by omega)) (br_f (nI_nlt (a := 255) (b := a) (by omega) (by omega)) (br_f (by decide) (br_f (by decide) ⟨by omega, br_f (by decide) (br_t (by decide) ⟨7, ?_⟩)⟩)))
  exact lJ1_idx ha h 6 0 (by omega) (fun j hj => absurd hj (Nat.not_lt_zero j))
/-! what fits where -/
def ftt (a f : Nat) : Bool := if f = 43 then (decide (a = 43) || decide (a = 45)) else if f = 57 then (decide (48 ≤ a) && decide (a ≤ 57)) else if f = 63 then (decide (48 ≤ a) && decide (a ≤ 57)) else if f = 108 then isL a else decide (a = f)
theorem sX2_digit {a : Nat} (ha : a < 256) {post : Int32 → Prop} (h : post (bi (decide (48 ≤ a) && decide (a ≤ 57)))) : (nI a < (48 : Int32) → post 0) ∧ (¬ nI a < (48 : Int32) → (((57 : Int32) < nI a → post 0) ∧ (¬ (57 : Int32) < nI a → post 1))) := by
  refine pk_lt a 48 (fun e => ?_) (fun e => pk_lt 57 a (fun e2 => ?_) (fun e2 => ?_))
  · rw [decide_eq_false (by omega : ¬ 48 ≤ a)] at h; exact h
  · rw [decide_eq_true e, decide_eq_false (by omega : ¬ a ≤ 57)] at h; exact h
  · rw [decide_eq_true e, decide_eq_true e2] at h; exact h
theorem sX2_fits {a f : Nat} (ha : a < 256) (hf : f < 256) {post : Int32 → Prop} (h : post (bi (ftt a f))) : wpX2_fits post (nI a) (nI f) := by
  unfold ftt at h
  unfold wpX2_fits
  refine pk_eq f 43 (fun q => ?_) (fun q1 => pk_eq f 57 (fun q => ?_) (fun q2 => pk_eq f 63 (fun q => ?_) (fun q3 => pk_eq f 108 (fun q => ?_) (fun q4 => ?_))))
  · rw [if_pos q] at h
    refine pk_eq a 43 (fun e => ?_) (fun e => pk_eq a 45 (fun e2 => ?_) (fun e2 => ?_))
    · rw [decide_eq_true e] at h; exact h
    · rw [decide_eq_false e, decide_eq_true e2] at h; exact h
    · rw [decide_eq_false e, decide_eq_false e2] at h; exact h
  · rw [if_neg q1, if_pos q] at h
    exact sX2_digit ha h
  · rw [if_neg q1, if_neg q2, if_pos q] at h
    exact sX2_digit ha h
  · rw [if_neg q1, if_neg q2, if_neg q3, if_pos q] at h
    refine sJ0_index ha ?_
    unfold isL at h
    by_cases c : lwN a < 6
    · rw [decide_eq_true c] at h
      rw [if_pos c]
      exact br_f (nI_pos (by omega)) h
    · rw [decide_eq_false c] at h
      rw [if_neg c]
      exact br_t (by decide) h
  · rw [if_neg q1, if_neg q2, if_neg q3, if_neg q4] at h
    refine pk_eq a f (fun e => ?_) (fun e => ?_)
    · rw [decide_eq_true e] at h; exact h
    · rw [decide_eq_false e] at h; exact h
/-! forms -/
def fmL (x : Nat) : List Nat := [[57, 63, 44, 57, 59], [108, 59], [57, 57, 59], [57, 57, 57, 43, 59], [57, 57, 43, 59], [57, 57, 57, 59], []].getD x []
theorem fm_len : ∀ x, x < 6 → lenJS.getD x 0 = (fmL x).length ∧ (fmL x).length ≤ 5 ∧ 0 < (fmL x).length := by decide +kernel
theorem fm_byt : ∀ x, x < 6 → ∀ j, j < 5 → ((((bytJS.getD x []).getD (nI j).toNatClampNeg 0) &&& (255 : Int32)).toUInt32 % 65536).toInt32 = nI ((fmL x).getD j 0) := by decide +kernel
theorem fm_b : ∀ x, x < 6 → ∀ j, j < 5 → (fmL x).getD j 0 < 256 := by decide +kernel
theorem fm_cons : ∀ x, x < 6 → ∀ j, j < 5 → j < (fmL x).length → (fmL x).drop j = (fmL x).getD j 0 :: (fmL x).drop (j + 1) := by decide +kernel
theorem fm_end : ∀ x, x < 6 → (fmL x).drop (fmL x).length = [] := by decide +kernel
theorem sJ0_charAt {x j : Nat} (hx : x < 6) (hj : j < (fmL x).length) {post : Int32 → Prop} (h : post (nI ((fmL x).getD j 0))) : wpJ0_charAt_5068e post x (nI j) := by
  have hl := fm_len x hx
  have hb := fm_b x hx j (by omega)
  refine ⟨by omega, by omega, br_f (by decide) ⟨by omega, by omega, br_f (nI_pos (by omega)) ?_⟩⟩
  rw [hl.1]
  refine br_t (nI_lt hj (by omega)) ⟨by omega, vp_in_nI hj (by omega), ?_⟩
  rw [fm_byt x hx j (by omega)]
  exact ⟨(pk_charN (by omega)).1, (pk_charN (by omega)).1, h⟩
theorem sJ0_len {x : Nat} (hx : x < 6) {post : Int32 → Prop} (h : post (nI (fmL x).length)) : wpJ0_length_8abf5 post x := by
  have hl := fm_len x hx
  refine ⟨by omega, by omega, by omega, by omega, ?_⟩
  rw [hl.1]
  have e : ∀ k, k < 6 → (nI k) >>> ((0 : Int32) &&& 31) = nI k := by decide +kernel
  show post (nI (fmL x).length >>> ((0 : Int32) &&& 31))
  rw [e _ (by omega)]
  exact h
def pf (c : Nat → Nat) : List Nat → Nat → Bool × Nat
  | [], p => (true, p)
  | f :: fs, p => if ftt (c p) f = true then pf c fs (p + 1) else if f = 63 then pf c fs p else (false, p)
theorem pf_t {c : Nat → Nat} {f : Nat} {fs : List Nat} {p : Nat} (h : ftt (c p) f = true) : pf c (f :: fs) p = pf c fs (p + 1) := if_pos h
theorem pf_q {c : Nat → Nat} {fs : List Nat} {p : Nat} (h : ftt (c p) 63 = false) : pf c (63 :: fs) p = pf c fs p := by
  rw [pf, if_neg (by rw [h]; decide), if_pos rfl]
theorem pf_f {c : Nat → Nat} {f : Nat} {fs : List Nat} {p : Nat} (h : ftt (c p) f = false) (hf : f ≠ 63) : pf c (f :: fs) p = (false, p) := by
  rw [pf, if_neg (by rw [h]; decide), if_neg hf]
theorem lX2_ps {n : Nat} {tp : Nat → Nat} {s : Nat → Int32} (ok : okT n tp s) {x : Nat} (hx : x < 6) {post K : Int32 → Int32 → Prop} : ∀ d j p, j + d = (fmL x).length → p + d < 1000 → (∀ e, pf (tx n tp) ((fmL x).drop j) p = (true, e) → ∀ a, K a (nI e)) → (∀ e, pf (tx n tp) ((fmL x).drop j) p = (false, e) → post 0 (nI e)) → lpX2_passStatement_33 post K x (nI n) s (d + 1) (nI j) (nI p) := by
  have hl := fm_len x hx
  intro d
  induction d with
  | zero =>
    intro j p hj hp hT hF
    have e : j = (fmL x).length := by omega
    subst e
    rw [lpX2_passStatement_33]
    refine ⟨by omega, sJ0_len hx (br_t (nI_le (Nat.le_refl _) (by omega)) (hT p ?_ _))⟩
    rw [fm_end x hx]
    rfl
  | succ d ih =>
    intro j p hj hp hT hF
    have hc := tx_b ok p
    have hfb := fm_b x hx j (by omega)
    rw [fm_cons x hx j (by omega) (by omega)] at hT hF
    rw [lpX2_passStatement_33]
    refine ⟨by omega, sJ0_len hx (br_f (nI_ge (by omega) (by omega)) (sX2_signAt ok (by omega) ⟨by omega, sJ0_charAt hx (by omega) (sX2_fits hc hfb (bi_0 ?_))⟩))⟩
    rw [nI_1, nI_1]
    cases hq : ftt (tx n tp p) ((fmL x).getD j 0) with
    | true =>
      rw [pf_t hq] at hT hF
      exact ih (j + 1) (p + 1) (by omega) (by omega) hT hF
    | false =>
      refine ⟨by omega, sJ0_charAt hx (by omega) (pk_eq ((fmL x).getD j 0) 63 (fun q => ?_) (fun q => ?_))⟩
      · rw [q] at hq hT hF
        rw [pf_q hq] at hT hF
        exact ih (j + 1) p (by omega) (by omega) hT hF
      · rw [pf_f hq q] at hF
        exact hF p rfl
def fh (h : Nat) : Nat := if h = 100 then 2 else if h = 108 then 1 else if h = 110 then 4 else if h = 112 then 5 else if h = 115 then 0 else if h = 116 then 3 else 6
def pa (c : Nat → Nat) (p : Nat) : Bool × Nat := if fh (c p) < 6 then pf c (fmL (fh (c p))) (p + 1) else (false, p)
theorem sX2_form {a : Nat} (ha : a < 256) {post : Nat → Prop} (h : post (fh a)) : wpX2_formBehind post (nI a) := by
  unfold fh at h
  unfold wpX2_formBehind
  refine pk_eq a 100 (fun q => ?_) (fun q1 => pk_eq a 108 (fun q => ?_) (fun q2 => pk_eq a 110 (fun q => ?_) (fun q3 => pk_eq a 112 (fun q => ?_) (fun q4 => pk_eq a 115 (fun q => ?_) (fun q5 => pk_eq a 116 (fun q => ?_) (fun q6 => ?_))))))
  · rw [if_pos q] at h; exact h
  · rw [if_neg q1, if_pos q] at h; exact h
  · rw [if_neg q1, if_neg q2, if_pos q] at h; exact h
  · rw [if_neg q1, if_neg q2, if_neg q3, if_pos q] at h; exact h
  · rw [if_neg q1, if_neg q2, if_neg q3, if_neg q4, if_pos q] at h; exact h
  · rw [if_neg q1, if_neg q2, if_neg q3, if_neg q4, if_neg q5, if_pos q] at h; exact h
  · rw [if_neg q1, if_neg q2, if_neg q3, if_neg q4, if_neg q5, if_neg q6] at h; exact h
theorem fh_b (a : Nat) : fh a ≤ 6 := by
  unfold fh
  split
  · omega
  · split
    · omega
    · split
      · omega
      · split
        · omega
        · split
          · omega
          · split <;> omega
theorem sX2_pass {n : Nat} {tp : Nat → Nat} {s : Nat → Int32} (ok : okT n tp s) {p : Nat} (hp : p < 900) {post : Int32 → Int32 → Prop} (h : post (bi (pa (tx n tp) p).1) (nI (pa (tx n tp) p).2)) : wpX2_passStatement post (nI n) (nI p) s := by
  have hc := tx_b ok p
  have hb := fh_b (tx n tp p)
  refine sX2_signAt ok (by omega) (sX2_form hc ⟨by omega, by omega, by omega, ?_⟩)
  unfold pa at h
  by_cases q : fh (tx n tp p) < 6
  · rw [if_pos q] at h
    have hl := fm_len _ q
    rw [hl.1, nI_1]
    refine br_f (nI_ne0 (by omega) (by omega)) (br_t rfl ⟨(fmL (fh (tx n tp p))).length + 1, ?_⟩)
    refine lX2_ps ok q (fmL (fh (tx n tp p))).length 0 (p + 1) (by omega) (by omega) (fun e he a => ?_) (fun e he => ?_)
    · rw [List.drop_zero] at he
      rw [he] at h
      exact h
    · rw [List.drop_zero] at he
      rw [he] at h
      exact h
  · rw [if_neg q] at h
    have e : fh (tx n tp p) = 6 := by omega
    rw [e]
    exact br_t (by decide) (br_f (by decide) h)
