/-! what a passing statement looks like -/
def sg (a : Nat) : Bool := decide (a = 43) || decide (a = 45)
theorem pa_1 {c : Nat → Nat} {p : Nat} (x : Nat) (hx : x < 6) (h : fh (c p) = x) : pa c p = pf c (fmL x) (p + 1) := by
  unfold pa
  rw [h, if_pos hx]
theorem pa_x {c : Nat → Nat} {p : Nat} (h : ¬ fh (c p) < 6) : pa c p = (false, p) := if_neg h
theorem pf_i {c : Nat → Nat} {f : Nat} {fs : List Nat} {p e : Nat} (hf : f ≠ 63) (h : pf c (f :: fs) p = (true, e)) : ftt (c p) f = true ∧ pf c fs (p + 1) = (true, e) := by
  cases q : ftt (c p) f with
  | true => exact ⟨rfl, (pf_t q).symm.trans h⟩
  | false => exact absurd (congrArg Prod.fst ((pf_f q hf).symm.trans h)) Bool.false_ne_true
theorem pf_59 (c : Nat → Nat) (e : Nat) : pf c [59] e = if c e = 59 then (true, e + 1) else (false, e) := by
  by_cases q : c e = 59
  · rw [if_pos q]
    exact pf_t (decide_eq_true q)
  · rw [if_neg q]
    exact pf_f (decide_eq_false q) (by decide)
theorem pa_cases {c : Nat → Nat} {p e : Nat} {P : Prop} (h : pa c p = (true, e))
    (h1 : c p = 115 → dg c (p + 1) = true → dg c (p + 2) = true → c (p + 3) = 44 → dg c (p + 4) = true → c (p + 5) = 59 → e = p + 6 → P)
    (h2 : c p = 115 → dg c (p + 1) = true → dg c (p + 2) = false → c (p + 2) = 44 → dg c (p + 3) = true → c (p + 4) = 59 → e = p + 5 → P)
    (h3 : c p = 108 → isL (c (p + 1)) = true → c (p + 2) = 59 → e = p + 3 → P)
    (h4 : c p = 100 → dg c (p + 1) = true → dg c (p + 2) = true → c (p + 3) = 59 → e = p + 4 → P)
    (h5 : c p = 116 → dg c (p + 1) = true → dg c (p + 2) = true → dg c (p + 3) = true → sg (c (p + 4)) = true → c (p + 5) = 59 → e = p + 6 → P)
    (h6 : c p = 110 → dg c (p + 1) = true → dg c (p + 2) = true → sg (c (p + 3)) = true → c (p + 4) = 59 → e = p + 5 → P)
    (h7 : c p = 112 → dg c (p + 1) = true → dg c (p + 2) = true → dg c (p + 3) = true → c (p + 4) = 59 → e = p + 5 → P) : P := by
  by_cases q1 : c p = 115
  · have h := (pa_1 0 (by decide) (by rw [q1]; rfl)).symm.trans h
    obtain ⟨a1, h⟩ := pf_i (f := 57) (fs := [63, 44, 57, 59]) (by decide) h
    cases a2 : dg c (p + 2) with
    | true =>
      have h := (pf_t (f := 63) (fs := [44, 57, 59]) (p := p + 1 + 1) a2).symm.trans h
      obtain ⟨a3, h⟩ := pf_i (f := 44) (fs := [57, 59]) (by decide) h
      obtain ⟨a4, h⟩ := pf_i (f := 57) (fs := [59]) (by decide) h
      obtain ⟨a5, h⟩ := pf_i (f := 59) (fs := []) (by decide) h
      exact h1 q1 a1 a2 (of_decide_eq_true (p := c (p + 3) = 44) a3) a4 (of_decide_eq_true (p := c (p + 5) = 59) a5) (congrArg Prod.snd h).symm
    | false =>
      have h := (pf_q (fs := [44, 57, 59]) (p := p + 1 + 1) a2).symm.trans h
      obtain ⟨a3, h⟩ := pf_i (f := 44) (fs := [57, 59]) (by decide) h
      obtain ⟨a4, h⟩ := pf_i (f := 57) (fs := [59]) (by decide) h
      obtain ⟨a5, h⟩ := pf_i (f := 59) (fs := []) (by decide) h
      exact h2 q1 a1 a2 (of_decide_eq_true (p := c (p + 2) = 44) a3) a4 (of_decide_eq_true (p := c (p + 4) = 59) a5) (congrArg Prod.snd h).symm
  · by_cases q2 : c p = 108
    · have h := (pa_1 1 (by decide) (by rw [q2]; rfl)).symm.trans h
      obtain ⟨a1, h⟩ := pf_i (f := 108) (fs := [59]) (by decide) h
      obtain ⟨a5, h⟩ := pf_i (f := 59) (fs := []) (by decide) h
      exact h3 q2 a1 (of_decide_eq_true (p := c (p + 2) = 59) a5) (congrArg Prod.snd h).symm
    · by_cases q3 : c p = 100
      · have h := (pa_1 2 (by decide) (by rw [q3]; rfl)).symm.trans h
        obtain ⟨a1, h⟩ := pf_i (f := 57) (fs := [57, 59]) (by decide) h
        obtain ⟨a2, h⟩ := pf_i (f := 57) (fs := [59]) (by decide) h
        obtain ⟨a5, h⟩ := pf_i (f := 59) (fs := []) (by decide) h
        exact h4 q3 a1 a2 (of_decide_eq_true (p := c (p + 3) = 59) a5) (congrArg Prod.snd h).symm
      · by_cases q4 : c p = 116
        · have h := (pa_1 3 (by decide) (by rw [q4]; rfl)).symm.trans h
          obtain ⟨a1, h⟩ := pf_i (f := 57) (fs := [57, 57, 43, 59]) (by decide) h
          obtain ⟨a2, h⟩ := pf_i (f := 57) (fs := [57, 43, 59]) (by decide) h
          obtain ⟨a3, h⟩ := pf_i (f := 57) (fs := [43, 59]) (by decide) h
          obtain ⟨a4, h⟩ := pf_i (f := 43) (fs := [59]) (by decide) h
          obtain ⟨a5, h⟩ := pf_i (f := 59) (fs := []) (by decide) h
          exact h5 q4 a1 a2 a3 a4 (of_decide_eq_true (p := c (p + 5) = 59) a5) (congrArg Prod.snd h).symm
        · by_cases q5 : c p = 110
          · have h := (pa_1 4 (by decide) (by rw [q5]; rfl)).symm.trans h
            obtain ⟨a1, h⟩ := pf_i (f := 57) (fs := [57, 43, 59]) (by decide) h
            obtain ⟨a2, h⟩ := pf_i (f := 57) (fs := [43, 59]) (by decide) h
            obtain ⟨a4, h⟩ := pf_i (f := 43) (fs := [59]) (by decide) h
            obtain ⟨a5, h⟩ := pf_i (f := 59) (fs := []) (by decide) h
            exact h6 q5 a1 a2 a4 (of_decide_eq_true (p := c (p + 4) = 59) a5) (congrArg Prod.snd h).symm
          · by_cases q6 : c p = 112
            · have h := (pa_1 5 (by decide) (by rw [q6]; rfl)).symm.trans h
              obtain ⟨a1, h⟩ := pf_i (f := 57) (fs := [57, 57, 59]) (by decide) h
              obtain ⟨a2, h⟩ := pf_i (f := 57) (fs := [57, 59]) (by decide) h
              obtain ⟨a3, h⟩ := pf_i (f := 57) (fs := [59]) (by decide) h
              obtain ⟨a5, h⟩ := pf_i (f := 59) (fs := []) (by decide) h
              exact h7 q6 a1 a2 a3 (of_decide_eq_true (p := c (p + 4) = 59) a5) (congrArg Prod.snd h).symm
            · have e : fh (c p) = 6 := by
                unfold fh
                rw [if_neg q3, if_neg q2, if_neg q5, if_neg q6, if_neg q1, if_neg q4]
              have h := (pa_x (by omega)).symm.trans h
              exact absurd (congrArg Prod.fst h) Bool.false_ne_true
theorem pa_adv {n : Nat} {tp : Nat → Nat} {p e : Nat} (h : pa (tx n tp) p = (true, e)) : p + 3 ≤ e ∧ e ≤ n ∧ e ≤ p + 6 := by
  have key : ∀ j, tx n tp j = 59 → j < n := fun j hj => tx_in (tp := tp) (by omega)
  refine pa_cases h (fun _ _ _ _ _ a b => ?_) (fun _ _ _ _ _ a b => ?_) (fun _ _ a b => ?_) (fun _ _ _ a b => ?_) (fun _ _ _ _ _ a b => ?_) (fun _ _ _ _ a b => ?_) (fun _ _ _ _ a b => ?_) <;> (have := key _ a; omega)
/-! the reference reads -/
def rv (n : Nat) (tp : Nat → Nat) (p : Nat) : Int32 := if p < n then nI (tp p) else -1
theorem sX5_nx {n : Nat} {tp : Nat → Nat} {s : Nat → Int32} (ok : okT n tp s) {p : Nat} (hp : p < 2 ^ 30) {post : Int32 → Prop} (h : post (rv n tp p)) : wpX5_next post (nI n) (nI p) s := by
  have h1 := ok.1
  unfold rv at h
  by_cases q : p < n
  · rw [if_pos q] at h
    refine br_f (nI_ge q (by omega)) ⟨vp_in_nI (by omega) (by omega), ?_⟩
    rw [nI_clamp (by omega), (ok.2 p q).2]
    exact h
  · rw [if_neg q] at h
    exact br_t (nI_le (by omega) (by omega)) h
theorem rv_eq {n : Nat} {tp : Nat → Nat} {s : Nat → Int32} (ok : okT n tp s) {p L : Nat} (h0 : 0 < L) (hL : L < 2 ^ 31) : rv n tp p = nI L ↔ tx n tp p = L := by
  unfold rv tx
  by_cases q : p < n
  · rw [if_pos q, if_pos q]
    exact nI_eq (by have := (ok.2 p q).1; omega) hL
  · rw [if_neg q, if_neg q]
    constructor
    · intro h
      have h2 := congrArg Int32.toInt h
      rw [nI_toInt hL, show (-1 : Int32).toInt = -1 by decide] at h2
      omega
    · intro h
      omega
theorem rv_br {n : Nat} {tp : Nat → Nat} {s : Nat → Int32} (ok : okT n tp s) {p : Nat} {A B : Prop} (L : Nat) (f : tx n tp p = L → A) (g : ¬ tx n tp p = L → B) {y : Int32} (hy : y = nI L := by rfl) (h0 : 0 < L := by omega) (hL : L < 2 ^ 31 := by omega) : (rv n tp p = y → A) ∧ (¬ rv n tp p = y → B) := by
  subst hy
  exact ⟨fun z => f ((rv_eq ok h0 hL).mp z), fun z => g (fun e => z ((rv_eq ok h0 hL).mpr e))⟩
theorem rv_n {n : Nat} {tp : Nat → Nat} {p : Nat} (h : p < n) : rv n tp p = nI (tx n tp p) := by
  unfold rv tx
  rw [if_pos h, if_pos h]
theorem sX5_dgt {n : Nat} {tp : Nat → Nat} {s : Nat → Int32} (ok : okT n tp s) {p : Nat} {post : Int32 → Prop} (h : post (bi (dg (tx n tp) p))) : wpX5_isIn post (rv n tp p) 48 57 := by
  by_cases q : p < n
  · rw [rv_n q]
    exact sX2_digit (tx_b ok p) h
  · have e : tx n tp p = 0 := if_neg q
    rw [dg_n (by omega)] at h
    rw [show rv n tp p = -1 from if_neg q]
    exact br_t (by decide) h
theorem rv_d {n : Nat} {tp : Nat → Nat} {p : Nat} (h : dg (tx n tp) p = true) : rv n tp p = nI (tx n tp p) := rv_n (tx_in (tp := tp) (by have := dg_t h; omega))
theorem lX5_dg {n : Nat} {tp : Nat → Nat} {s : Nat → Int32} (ok : okT n tp s) {m v j p N : Nat} (hj : j < m) (hm : m ≤ 2) (hp : p < 2000) {K : Int32 → Int32 → Int32 → Prop} (h1 : dg (tx n tp) p = true → lpX5_readsNumber_6 K (nI m) (nI n) s N (nI (10 * v + (tx n tp p - 48))) (nI (j + 1)) (nI (p + 1))) (h0 : dg (tx n tp) p = false → K (nI v) (nI j) (nI p)) : lpX5_readsNumber_6 K (nI m) (nI n) s (N + 1) (nI v) (nI j) (nI p) := by
  rw [lpX5_readsNumber_6]
  refine br_f (nI_ge hj (by omega)) (sX5_nx (p := p) ok (by omega) (sX5_dgt ok (bi_0 ?_)))
  cases hd : dg (tx n tp) p with
  | true =>
    rw [cond_true]
    refine sX5_nx (p := p) ok (by omega) ?_
    have hb := dg_t hd
    rw [rv_d hd, show (10 : Int32) = nI 10 from rfl, pk_mul, nI_add, show (48 : Int32) = nI 48 from rfl, pk_sub (by omega), nI_1, nI_1, show 10 * v + tx n tp p - 48 = 10 * v + (tx n tp p - 48) by omega]
    exact h1 hd
  | false => exact h0 hd
def d1 (c : Nat → Nat) (p : Nat) : Nat := c p - 48
def d2 (c : Nat → Nat) (p : Nat) : Nat := 10 * (c p - 48) + (c (p + 1) - 48)
theorem sX5_n1 {n : Nat} {tp : Nat → Nat} {s : Nat → Int32} (ok : okT n tp s) {p q : Nat} {T : Nat → Int32} (hp : p < 1000) (hq : q < 144) {post : Int32 → Int32 → (Nat → Int32) → Prop} (h1 : dg (tx n tp) p = true → post 1 (nI (p + 1)) (upd T q (nI (d1 (tx n tp) p)))) (h0 : dg (tx n tp) p = false → ∀ T', post 0 (nI p) T') : wpX5_readsNumber post (nI n) (nI p) s T (nI q) 1 1 := by
  refine ⟨2, lX5_dg (m := 1) (v := 0) (j := 0) ok (by omega) (by omega) (by omega) (fun d => ?_) (fun d => ⟨vp_in_nI hq (by omega), br_t (by decide) (h0 d _)⟩)⟩
  rw [lpX5_readsNumber_6]
  refine br_t (by decide) ⟨vp_in_nI hq (by omega), br_f (by decide) ?_⟩
  rw [nI_clamp (by omega), Nat.mul_zero, Nat.zero_add]
  exact h1 d
theorem sX5_n2 {n : Nat} {tp : Nat → Nat} {s : Nat → Int32} (ok : okT n tp s) {p q : Nat} {T : Nat → Int32} (hp : p < 1000) (hq : q < 144) {post : Int32 → Int32 → (Nat → Int32) → Prop} (h2 : dg (tx n tp) p = true → dg (tx n tp) (p + 1) = true → post 1 (nI (p + 2)) (upd T q (nI (d2 (tx n tp) p)))) (h1 : dg (tx n tp) p = true → dg (tx n tp) (p + 1) = false → ∀ T', post 0 (nI (p + 1)) T') (h0 : dg (tx n tp) p = false → ∀ T', post 0 (nI p) T') : wpX5_readsNumber post (nI n) (nI p) s T (nI q) 2 2 := by
  refine ⟨3, lX5_dg (m := 2) (v := 0) (j := 0) ok (by omega) (by omega) (by omega) (fun d => ?_) (fun d => ⟨vp_in_nI hq (by omega), br_t (by decide) (h0 d _)⟩)⟩
  refine lX5_dg (m := 2) ok (by omega) (by omega) (by omega) (fun e => ?_) (fun e => ⟨vp_in_nI hq (by omega), br_t (by decide) (h1 d e _)⟩)
  rw [lpX5_readsNumber_6]
  refine br_t (by decide) ⟨vp_in_nI hq (by omega), br_f (by decide) ?_⟩
  rw [nI_clamp (by omega), Nat.mul_zero, Nat.zero_add]
  exact h2 d e
theorem sX5_n12 {n : Nat} {tp : Nat → Nat} {s : Nat → Int32} (ok : okT n tp s) {p q : Nat} {T : Nat → Int32} (hp : p < 1000) (hq : q < 144) {post : Int32 → Int32 → (Nat → Int32) → Prop} (h2 : dg (tx n tp) p = true → dg (tx n tp) (p + 1) = true → post 1 (nI (p + 2)) (upd T q (nI (d2 (tx n tp) p)))) (h1 : dg (tx n tp) p = true → dg (tx n tp) (p + 1) = false → post 1 (nI (p + 1)) (upd T q (nI (d1 (tx n tp) p)))) (h0 : dg (tx n tp) p = false → ∀ T', post 0 (nI p) T') : wpX5_readsNumber post (nI n) (nI p) s T (nI q) 1 2 := by
  refine ⟨3, lX5_dg (m := 2) (v := 0) (j := 0) ok (by omega) (by omega) (by omega) (fun d => ?_) (fun d => ⟨vp_in_nI hq (by omega), br_t (by decide) (h0 d _)⟩)⟩
  refine lX5_dg (m := 2) ok (by omega) (by omega) (by omega) (fun e => ?_) (fun e => ⟨vp_in_nI hq (by omega), br_f (by decide) ?_⟩)
  · rw [lpX5_readsNumber_6]
    refine br_t (by decide) ⟨vp_in_nI hq (by omega), br_f (by decide) ?_⟩
    rw [nI_clamp (by omega), Nat.mul_zero, Nat.zero_add]
    exact h2 d e
  · rw [nI_clamp (by omega), Nat.mul_zero, Nat.zero_add]
    exact h1 d e
theorem sX5_sg {n : Nat} {tp : Nat → Nat} {s : Nat → Int32} (ok : okT n tp s) {p q : Nat} {T : Nat → Int32} (hp : p < 1000) (hq : q < 144) {post : Int32 → Int32 → (Nat → Int32) → Prop} (h1 : sg (tx n tp p) = true → post 1 (nI (p + 1)) (upd T q (nI (if tx n tp p = 43 then 1 else 0)))) (h0 : sg (tx n tp p) = false → ∀ T', post 0 (nI p) T') : wpX5_readsSign post (nI n) (nI p) s T (nI q) := by
  have vin : vp_in (nI q) 144 := vp_in_nI hq (by omega)
  have ec : (nI q).toNatClampNeg = q := nI_clamp (by omega)
  unfold wpX5_readsSign
  rw [ec, nI_1]
  refine sX5_nx (p := p) ok (by omega) (rv_br ok 43 (fun e => sX5_nx (p := p) ok (by omega) (rv_br ok 43 (fun _ => ⟨vin, ?g1⟩) (fun z => absurd e z))) (fun e => sX5_nx (p := p) ok (by omega) (rv_br ok 45 (fun e2 => sX5_nx (p := p) ok (by omega) (rv_br ok 43 (fun z => absurd z e) (fun _ => ⟨vin, ?g2⟩))) (fun e2 => h0 ?g3 _))))
  case g1 =>
    have := h1 (by unfold sg; rw [decide_eq_true e]; rfl)
    rw [if_pos e] at this
    exact this
  case g2 =>
    have := h1 (by unfold sg; rw [decide_eq_true e2, Bool.or_true])
    rw [if_neg e] at this
    exact this
  case g3 =>
    unfold sg
    rw [decide_eq_false e, decide_eq_false e2]; rfl
theorem sX5_lawOf {n : Nat} {tp : Nat → Nat} {s : Nat → Int32} (ok : okT n tp s) {p : Nat} {post : Int32 → Prop} (h : post (if lwN (tx n tp p) < 6 then nI (lwN (tx n tp p)) else -1)) : wpX5_lawOf post (rv n tp p) := by
  unfold wpX5_lawOf
  refine rv_br ok 99 (fun e => ?_) (fun q1 => rv_br ok 100 (fun e => ?_) (fun q2 => rv_br ok 104 (fun e => ?_) (fun q3 => rv_br ok 108 (fun e => ?_) (fun q4 => rv_br ok 114 (fun e => ?_) (fun q5 => rv_br ok 115 (fun e => ?_) (fun q6 => ?_))))))
  · rw [e] at h; exact (show (if lwN 99 < 6 then nI (lwN 99) else (-1 : Int32)) = 3 by decide) ▸ h
  · rw [e] at h; exact (show (if lwN 100 < 6 then nI (lwN 100) else (-1 : Int32)) = 2 by decide) ▸ h
  · rw [e] at h; exact (show (if lwN 104 < 6 then nI (lwN 104) else (-1 : Int32)) = 4 by decide) ▸ h
  · rw [e] at h; exact (show (if lwN 108 < 6 then nI (lwN 108) else (-1 : Int32)) = 0 by decide) ▸ h
  · rw [e] at h; exact (show (if lwN 114 < 6 then nI (lwN 114) else (-1 : Int32)) = 1 by decide) ▸ h
  · rw [e] at h; exact (show (if lwN 115 < 6 then nI (lwN 115) else (-1 : Int32)) = 5 by decide) ▸ h
  · have e : lwN (tx n tp p) = 6 := by
      unfold lwN
      rw [if_neg q4, if_neg q5, if_neg q2, if_neg q1, if_neg q3, if_neg q6]
    rw [e, if_neg (by omega)] at h
    exact h
theorem sX5_lw {n : Nat} {tp : Nat → Nat} {s : Nat → Int32} (ok : okT n tp s) {p q : Nat} {T : Nat → Int32} (hp : p < 1000) (hq : q < 144) {post : Int32 → Int32 → (Nat → Int32) → Prop} (h1 : isL (tx n tp p) = true → post 1 (nI (p + 1)) (upd T q (nI (lwN (tx n tp p))))) (h0 : isL (tx n tp p) = false → ∀ T', post 0 (nI p) T') : wpX5_readsLaw post (nI n) (nI p) s T (nI q) := by
  have vin : vp_in (nI q) 144 := vp_in_nI hq (by omega)
  have ec : (nI q).toNatClampNeg = q := nI_clamp (by omega)
  have hb := lwN_b (tx n tp p)
  refine sX5_nx (p := p) ok (by omega) (sX5_lawOf ok ⟨vin, vin, ?_⟩)
  rw [ec, nI_1, pk_us]
  by_cases c : lwN (tx n tp p) < 6
  · rw [if_pos c]
    exact br_t (nI_pos' (by omega)) (h1 (decide_eq_true c))
  · rw [if_neg c]
    exact br_f (by decide) (h0 (decide_eq_false c) _)
