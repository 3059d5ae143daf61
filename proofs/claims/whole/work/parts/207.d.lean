/-! chances of pipes -/
def ck (S pi pc : Nat → Nat) (x : Nat) : Nat := if fb_sm (fun k => if pi k = x then pc k else 0) (S 5) ≤ 10 then fb_sm (fun k => if pi k = x then pc k else 0) (S 5) else 10
theorem ck_b (S pi pc : Nat → Nat) (x : Nat) : ck S pi pc x ≤ 10 := by
  unfold ck
  split <;> omega
theorem cs_b {S w hl pi pc : Nat → Nat} (g : okA S w hl pi pc) (x : Nat) : ∀ i, i ≤ S 5 → fb_sm (fun k => if pi k = x then pc k else 0) i ≤ 54 := by
  intro i hi
  obtain ⟨a1, a2, a3, a4, a5, a6, a7⟩ := g
  have h : fb_sm (fun k => if pi k = x then pc k else 0) i ≤ i * 9 := fb_sm_bound (fun k hk => by
    have := (a6 k (by omega)).2
    split <;> omega)
  omega
theorem lX3_riskAt {S w hl pi pc : Nat → Nat} (g : okA S w hl pi pc) {P : Int32} {MI MC : Nat → Int32} (eP : P = nI (S 5)) (hI : rN (S 5) pi MI) (hC : rN (S 5) pc MC) {x : Nat} (hx : x < 48) {K : Int32 → Int32 → Prop} (h : K (nI (fb_sm (fun k => if pi k = x then pc k else 0) (S 5))) (nI (S 5))) : ∀ d i, i + d = S 5 → lpX3_riskAt_4 K (nI x) P MI MC (d + 1) (nI (fb_sm (fun k => if pi k = x then pc k else 0) i)) (nI i) := by
  obtain ⟨a1, a2, a3, a4, a5, a6, a7⟩ := id g
  subst eP
  intro d
  induction d with
  | zero =>
    intro i hi
    have e : i = S 5 := by omega
    subst e
    rw [lpX3_riskAt_4]
    exact pk_le 6 (S 5) (fun _ => h) (fun _ => br_t (nI_le (Nat.le_refl _) (by omega)) h)
  | succ d ih =>
    intro i hi
    rw [lpX3_riskAt_4]
    have ih := ih (i + 1) (by omega)
    rw [fb_sm_succ] at ih
    refine br_f (nI_ge (a := i) (b := 6) (by omega) (by omega)) (br_f (nI_ge (by omega) (by omega)) ⟨vp_in_nI (by omega) (by omega), ?_⟩)
    rw [nI_clamp (by omega), hI i (by omega), hC i (by omega)]
    have hp := (a6 i (by omega)).1
    refine pk_eq (pi i) x (fun q => ⟨vp_in_nI (by omega) (by omega), ?_⟩) (fun q => ?_)
    · rw [if_pos q] at ih
      rw [nI_add, nI_1]
      exact ih
    · rw [if_neg q, Nat.add_zero] at ih
      rw [nI_1]
      exact ih
theorem lX5_chancesAt {S w hl pi pc : Nat → Nat} (g : okA S w hl pi pc) {P : Int32} {MI MC : Nat → Int32} (eP : P = nI (S 5)) (hI : rN (S 5) pi MI) (hC : rN (S 5) pc MC) {x : Nat} (hx : x < 48) {K : Int32 → Int32 → Prop} (h : K (nI (fb_sm (fun k => if pi k = x then pc k else 0) (S 5))) (nI (S 5))) : ∀ d i, i + d = S 5 → lpX5_chancesAt_4 K (nI x) P MI MC (d + 1) (nI (fb_sm (fun k => if pi k = x then pc k else 0) i)) (nI i) := by
  obtain ⟨a1, a2, a3, a4, a5, a6, a7⟩ := id g
  subst eP
  intro d
  induction d with
  | zero =>
    intro i hi
    have e : i = S 5 := by omega
    subst e
    rw [lpX5_chancesAt_4]
    exact br_t (nI_le (Nat.le_refl _) (by omega)) h
  | succ d ih =>
    intro i hi
    rw [lpX5_chancesAt_4]
    have ih := ih (i + 1) (by omega)
    rw [fb_sm_succ] at ih
    refine br_f (nI_ge (by omega) (by omega)) ⟨vp_in_nI (by omega) (by omega), ?_⟩
    rw [nI_clamp (by omega), hI i (by omega), hC i (by omega)]
    have hp := (a6 i (by omega)).1
    refine pk_eq (pi i) x (fun q => ⟨vp_in_nI (by omega) (by omega), ?_⟩) (fun q => ?_)
    · rw [if_pos q] at ih
      rw [nI_add, nI_1]
      exact ih
    · rw [if_neg q] at ih
      rw [show (0 : Int32) = nI 0 from rfl, nI_add, nI_1]
      exact ih
theorem sX3_riskAt {S w hl pi pc : Nat → Nat} (g : okA S w hl pi pc) {P : Int32} {MI MC : Nat → Int32} (eP : P = nI (S 5)) (hI : rN (S 5) pi MI) (hC : rN (S 5) pc MC) {x : Nat} (hx : x < 48) {post : Int32 → Prop} (h : post (nI (ck S pi pc x))) : wpX3_riskAt post P MI MC (nI x) := by
  refine ⟨S 5 + 1, lX3_riskAt g eP hI hC hx ?_ (S 5) 0 (by omega)⟩
  have hb := cs_b g x (S 5) (Nat.le_refl _)
  unfold ck at h
  refine pk_lt 10 _ (fun q => ?_) (fun q => ?_)
  · rw [if_neg (by omega)] at h; exact h
  · rw [if_pos q] at h; exact h
theorem sX5_chancesAt {S w hl pi pc : Nat → Nat} (g : okA S w hl pi pc) {P : Int32} {MI MC : Nat → Int32} (eP : P = nI (S 5)) (hI : rN (S 5) pi MI) (hC : rN (S 5) pc MC) {x : Nat} (hx : x < 48) {post : Int32 → Prop} (h : post (nI (ck S pi pc x))) : wpX5_chancesAt post P MI MC (nI x) := by
  refine ⟨S 5 + 1, lX5_chancesAt g eP hI hC hx ?_ (S 5) 0 (by omega)⟩
  have hb := cs_b g x (S 5) (Nat.le_refl _)
  unfold ck at h
  refine pk_le _ 10 (fun q => ?_) (fun q => ?_)
  · rw [if_pos q] at h; exact h
  · rw [if_neg (by omega)] at h; exact h
theorem ph_risk : PH_risk RE := by
  intro v_T v_n v_k v_t v_s v_r v_c v_M p0 hR
  obtain ⟨S, w, hl, pi, pc, g1, g2, g3, g4, g5, g6, g7⟩ := id hR
  obtain ⟨c0, c1, c2, c3, c4, c5, c6, c7, c8, c9, c10, c11, c12, c13⟩ := id g2
  obtain ⟨m0, m1, m2, m3, m4, m5, m6⟩ := id g3
  refine inX (x := p0) 48 (by omega) (fun q => ?_) (fun j hj e => ?_)
  · refine sX4_isNoInchN q (br_f (by decide) (sX4_refuse 1 (by decide) rfl ?_))
    exact sX5_isInchN q (br_t rfl (sX5_no 1 (by decide) rfl ⟨rfl, S, w, hl, pi, pc, g1, g2, g3, g4, g5, rf_upd g6 1, g7⟩))
  · subst e
    refine sX4_isNoInch hj (br_t rfl (sX3_riskAt g1 c5 c9 c10 hj ?_))
    exact sX5_isInch hj (br_f (by decide) (sX5_chancesAt g1 m0 m4 m5 hj ⟨rfl, hR⟩))
/-! the first of the greatest -/
def am (f : Nat → Nat) (a : Nat) : Nat → Nat
  | 0 => a
  | n + 1 => if f (a + 1 + n) ≤ f (am f a n) then am f a n else a + 1 + n
theorem am_b (f : Nat → Nat) (a : Nat) : ∀ n, a ≤ am f a n ∧ am f a n ≤ a + n
  | 0 => ⟨Nat.le_refl _, Nat.le_refl _⟩
  | n + 1 => by
    have h := am_b f a n
    show a ≤ (if f (a + 1 + n) ≤ f (am f a n) then am f a n else a + 1 + n) ∧ (if f (a + 1 + n) ≤ f (am f a n) then am f a n else a + 1 + n) ≤ a + (n + 1)
    split <;> omega
theorem am_s (f : Nat → Nat) (a n : Nat) : am f a (n + 1) = if f (a + 1 + n) ≤ f (am f a n) then am f a n else a + 1 + n := rfl
theorem sm_b {S w hl pi pc : Nat → Nat} (g : okA S w hl pi pc) : fb_sm w (S 0) ≤ 12754584 := by
  have h := fb_sm_bound (okA_w g)
  have := g.1.2.1
  have : S 0 * 531441 ≤ 24 * 531441 := Nat.mul_le_mul_right _ this
  omega
theorem sw_le (S w : Nat → Nat) (x : Nat) : sw S w x ≤ fb_sm w (S 0) := fb_sm_le (fun k hk => by split <;> omega)
theorem sw_b {S w hl pi pc : Nat → Nat} (g : okA S w hl pi pc) (x : Nat) : sw S w x ≤ 12754584 := Nat.le_trans (sw_le S w x) (sm_b g)
theorem lX3_likeliest {f : Nat → Nat} {M : Nat → Int64} (hM : ∀ x, x < 48 → M x = lN (f x)) (hf : ∀ x, f x < 2 ^ 31) {a n : Nat} (hn : a + 1 + n ≤ 48) {K : Int32 → Int32 → Prop} (h : K (nI (am f a n)) (nI (a + 1 + n))) : ∀ d i, i + d = n → lpX3_likeliest_7 K (nI (a + 1 + n)) M (d + 1) (nI (am f a i)) (nI (a + 1 + i)) := by
  intro d
  induction d with
  | zero =>
    intro i hi
    have e : i = n := by omega
    subst e
    rw [lpX3_likeliest_7]
    exact br_t (nI_le (Nat.le_refl _) (by omega)) h
  | succ d ih =>
    intro i hi
    rw [lpX3_likeliest_7]
    have ih := ih (i + 1) (by omega)
    have hb := am_b f a i
    refine br_f (nI_ge (by omega) (by omega)) (br_f (nI_ge (a := a + 1 + i) (b := 48) (by omega) (by omega)) ⟨vp_in_nI (by omega) (by omega), vp_in_nI (by omega) (by omega), ?_⟩)
    rw [nI_clamp (by omega), nI_clamp (by omega), hM _ (by omega), hM _ (by omega), nI_1]
    rw [am_s, show a + 1 + (i + 1) = a + 1 + i + 1 by omega] at ih
    by_cases q : f (a + 1 + i) ≤ f (am f a i)
    · rw [if_pos q] at ih
      exact br_t ((lN_le (hf _) (hf _)).mpr q) ih
    · rw [if_neg q] at ih
      exact br_f (fun z => q ((lN_le (hf _) (hf _)).mp z)) ih
theorem sX3_likeliest {f : Nat → Nat} {M : Nat → Int64} (hM : ∀ x, x < 48 → M x = lN (f x)) (hf : ∀ x, f x < 2 ^ 31) {a n : Nat} {b : Int32} (hn : a + 1 + n ≤ 48) (eb : b = nI (a + 1 + n)) {post : Int32 → Prop} (h : post (nI (am f a n))) : wpX3_likeliest post M (nI a) b := by
  subst eb
  refine ⟨n + 1, ?_⟩
  rw [nI_1]
  exact lX3_likeliest (K := fun v _ => post v) hM hf hn h n 0 (by omega)
theorem lX5_bestNow {S w : Nat → Nat} {M Mw : Nat → Int32} (hS : rS S M) (ok : okS S) (hw : rN (S 0) w Mw) (hb : ∀ o, o < S 0 → w o < 2 ^ 31) (hf : ∀ x, sw S w x < 2 ^ 31) {K : Int32 → Int32 → Prop} (h : K (nI (am (sw S w) 0 47)) (nI 48)) : ∀ d i, i + d = 47 → lpX5_bestNow_4 K M Mw (d + 1) (nI (am (sw S w) 0 i)) (nI (0 + 1 + i)) := by
  intro d
  induction d with
  | zero =>
    intro i hi
    have e : i = 47 := by omega
    subst e
    rw [lpX5_bestNow_4]
    exact br_t (by decide) h
  | succ d ih =>
    intro i hi
    rw [lpX5_bestNow_4]
    have ih := ih (i + 1) (by omega)
    have hab := am_b (sw S w) 0 i
    refine br_f (nI_ge (a := 0 + 1 + i) (b := 48) (by omega) (by omega)) (sX5_woodAt hS ok hw hb (by omega) (sX5_woodAt hS ok hw hb (by omega) ?_))
    rw [nI_1]
    rw [am_s, show 0 + 1 + (i + 1) = 0 + 1 + i + 1 by omega] at ih
    by_cases q : sw S w (0 + 1 + i) ≤ sw S w (am (sw S w) 0 i)
    · rw [if_pos q] at ih
      exact br_t ((lN_le (hf _) (hf _)).mpr q) ih
    · rw [if_neg q] at ih
      exact br_f (fun z => q ((lN_le (hf _) (hf _)).mp z)) ih
theorem sX5_bestNow {S w : Nat → Nat} {M Mw : Nat → Int32} (hS : rS S M) (ok : okS S) (hw : rN (S 0) w Mw) (hb : ∀ o, o < S 0 → w o < 2 ^ 31) (hf : ∀ x, sw S w x < 2 ^ 31) {post : Int32 → Prop} (h : post (nI (am (sw S w) 0 47))) : wpX5_bestNow post M Mw :=
  ⟨48, lX5_bestNow (K := fun v _ => post v) hS ok hw hb hf h 47 0 (by omega)⟩
theorem okA_w2 {S w hl pi pc : Nat → Nat} (h : okA S w hl pi pc) : ∀ o, o < S 0 → w o < 2 ^ 31 := fun o ho => by
  have := okA_w h o ho
  omega
theorem ph_best : PH_best RE := by
  intro v_T v_n v_k v_t v_s v_r v_c v_M hR
  obtain ⟨S, w, hl, pi, pc, g1, g2, g3, g4, g5, g6, g7⟩ := id hR
  obtain ⟨c0, c1, c2, c3, c4, c5, c6, c7, c8, c9, c10, c11, c12, c13⟩ := id g2
  obtain ⟨m0, m1, m2, m3, m4, m5, m6⟩ := id g3
  have hf : ∀ x, sw S w x < 2 ^ 31 := fun x => by have := sw_b g1 x; omega
  refine sX3_likeliest (f := sw S w) (a := 0) (n := 47) c13 hf (by omega) rfl ?_
  exact sX5_bestNow m2 g1.1 m6 (okA_w2 g1) hf ⟨rfl, hR⟩
/-! safest -/
def sf (S w pi pc : Nat → Nat) (x : Nat) : Nat := sw S w x * (10 - ck S pi pc x)
theorem sf_b {S w hl pi pc : Nat → Nat} (g : okA S w hl pi pc) (x : Nat) : sf S w pi pc x < 2 ^ 31 := by
  have h1 := sw_b g x
  have h : sf S w pi pc x ≤ 12754584 * 10 := Nat.mul_le_mul h1 (by omega)
  omega
theorem sX3_safety {S w hl pi pc : Nat → Nat} (g : okA S w hl pi pc) {P : Int32} {MI MC : Nat → Int32} {Ms : Nat → Int64} (eP : P = nI (S 5)) (hI : rN (S 5) pi MI) (hC : rN (S 5) pc MC) (hM : ∀ x, x < 48 → Ms x = lN (sw S w x)) {x : Nat} (hx : x < 48) {post : Int64 → Prop} (h : post (lN (sf S w pi pc x))) : wpX3_safety post P MI MC Ms (nI x) := by
  refine ⟨vp_in_nI hx (by omega), sX3_riskAt g eP hI hC hx ?_⟩
  have := ck_b S pi pc x
  rw [nI_clamp (by omega), hM x hx, show (10 : Int32) = nI 10 from rfl, pk_sub this, i2l (by omega), lN_mul]
  exact h
theorem sX5_safeAt {S w hl pi pc : Nat → Nat} (g : okA S w hl pi pc) {P : Int32} {M Mw MI MC : Nat → Int32} (eP : P = nI (S 5)) (hS : rS S M) (hI : rN (S 5) pi MI) (hC : rN (S 5) pc MC) (hw : rN (S 0) w Mw) {x : Nat} (hx : x < 48) {post : Int64 → Prop} (h : post (lN (sf S w pi pc x))) : wpX5_safeAt post P M MI MC Mw (nI x) := by
  refine sX5_woodAt hS g.1 hw (okA_w2 g) hx (sX5_chancesAt g eP hI hC hx ?_)
  have := ck_b S pi pc x
  rw [show (10 : Int32) = nI 10 from rfl, pk_sub this, i2l (by omega), lN_mul]
  exact h
theorem lX4_safest {S w hl pi pc : Nat → Nat} (g : okA S w hl pi pc) {P : Int32} {MI MC : Nat → Int32} {Ms : Nat → Int64} (eP : P = nI (S 5)) (hI : rN (S 5) pi MI) (hC : rN (S 5) pc MC) (hM : ∀ x, x < 48 → Ms x = lN (sw S w x)) {K : Int32 → Int32 → Prop} (h : K (nI (am (sf S w pi pc) 0 47)) (nI 48)) : ∀ d i, i + d = 47 → lpX4_safest_4 K P MI MC Ms (d + 1) (nI (am (sf S w pi pc) 0 i)) (nI (0 + 1 + i)) := by
  intro d
  induction d with
  | zero =>
    intro i hi
    have e : i = 47 := by omega
    subst e
    rw [lpX4_safest_4]
    exact br_t (by decide) h
  | succ d ih =>
    intro i hi
    rw [lpX4_safest_4]
    have ih := ih (i + 1) (by omega)
    have hab := am_b (sf S w pi pc) 0 i
    refine br_f (nI_ge (a := 0 + 1 + i) (b := 48) (by omega) (by omega)) (sX3_safety g eP hI hC hM (by omega) (sX3_safety g eP hI hC hM (by omega) ?_))
    rw [nI_1]
    rw [am_s, show 0 + 1 + (i + 1) = 0 + 1 + i + 1 by omega] at ih
    by_cases q : sf S w pi pc (0 + 1 + i) ≤ sf S w pi pc (am (sf S w pi pc) 0 i)
    · rw [if_pos q] at ih
      exact br_t ((lN_le (sf_b g _) (sf_b g _)).mpr q) ih
    · rw [if_neg q] at ih
      exact br_f (fun z => q ((lN_le (sf_b g _) (sf_b g _)).mp z)) ih
theorem lX5_safest {S w hl pi pc : Nat → Nat} (g : okA S w hl pi pc) {P : Int32} {M Mw MI MC : Nat → Int32} (eP : P = nI (S 5)) (hS : rS S M) (hI : rN (S 5) pi MI) (hC : rN (S 5) pc MC) (hw : rN (S 0) w Mw) {K : Int32 → Int32 → Prop} (h : K (nI (am (sf S w pi pc) 0 47)) (nI 48)) : ∀ d i, i + d = 47 → lpX5_safest_4 K P M MI MC Mw (d + 1) (nI (am (sf S w pi pc) 0 i)) (nI (0 + 1 + i)) := by
  intro d
  induction d with
  | zero =>
    intro i hi
    have e : i = 47 := by omega
    subst e
    rw [lpX5_safest_4]
    exact br_t (by decide) h
  | succ d ih =>
    intro i hi
    rw [lpX5_safest_4]
    have ih := ih (i + 1) (by omega)
    have hab := am_b (sf S w pi pc) 0 i
    refine br_f (nI_ge (a := 0 + 1 + i) (b := 48) (by omega) (by omega)) (sX5_safeAt g eP hS hI hC hw (by omega) (sX5_safeAt g eP hS hI hC hw (by omega) ?_))
    rw [nI_1]
    rw [am_s, show 0 + 1 + (i + 1) = 0 + 1 + i + 1 by omega] at ih
    by_cases q : sf S w pi pc (0 + 1 + i) ≤ sf S w pi pc (am (sf S w pi pc) 0 i)
    · rw [if_pos q] at ih
      exact br_t ((lN_le (sf_b g _) (sf_b g _)).mpr q) ih
    · rw [if_neg q] at ih
      exact br_f (fun z => q ((lN_le (sf_b g _) (sf_b g _)).mp z)) ih
theorem ph_safest : PH_safest RE := by
  intro v_T v_n v_k v_t v_s v_r v_c v_M hR
  obtain ⟨S, w, hl, pi, pc, g1, g2, g3, g4, g5, g6, g7⟩ := id hR
  obtain ⟨c0, c1, c2, c3, c4, c5, c6, c7, c8, c9, c10, c11, c12, c13⟩ := id g2
  obtain ⟨m0, m1, m2, m3, m4, m5, m6⟩ := id g3
  refine ⟨48, lX4_safest g1 c5 c9 c10 c13 ?_ 47 0 (by omega)⟩
  exact ⟨48, lX5_safest g1 m0 m2 m4 m5 m6 ⟨rfl, hR⟩ 47 0 (by omega)⟩
/-! wire -/
theorem least_sq {q : Nat} : ∀ n, q ≤ n * n → ∃ r, r ≤ n ∧ q ≤ r * r ∧ ∀ i, i < r → i * i < q
  | 0, h => ⟨0, Nat.le_refl _, h, fun i hi => absurd hi (Nat.not_lt_zero i)⟩
  | n + 1, h => by
    by_cases c : q ≤ n * n
    · obtain ⟨r, h1, h2, h3⟩ := least_sq n c
      exact ⟨r, by omega, h2, h3⟩
    · refine ⟨n + 1, Nat.le_refl _, h, fun i hi => ?_⟩
      have : i * i ≤ n * n := Nat.mul_le_mul (by omega) (by omega)
      omega
theorem lX4_wire {q r : Nat} (hq : q < 10000) (h1 : q ≤ r * r) (h2 : ∀ i, i < r → i * i < q) (hr : r ≤ 90) {K : Int32 → Prop} (h : K (nI r)) : ∀ d i, i + d = r → 1 ≤ i → lpX4_wire_48 K (nI q) (d + 1) (nI i) := by
  intro d
  induction d with
  | zero =>
    intro i hi h0
    have e : i = r := by omega
    subst e
    have hb : i * i ≤ 90 * 90 := Nat.mul_le_mul hr hr
    rw [lpX4_wire_48, pk_mul]
    exact pk_le q i (fun _ => h) (fun _ => br_t (nI_le h1 (by omega)) h)
  | succ d ih =>
    intro i hi h0
    have hb := h2 i (by omega)
    have hc : 1 * i ≤ i * i := Nat.mul_le_mul_right i h0
    rw [lpX4_wire_48, pk_mul]
    refine br_f (nI_ge (by omega) (by omega)) (br_f (nI_ge hb (by omega)) ?_)
    rw [nI_1]
    exact ih (i + 1) (by omega) (by omega)
theorem lX5_wire {a b q r : Nat} (hq : q < 10000) (eq : q = a * a + 4 * b * b) (h1 : q ≤ r * r) (h2 : ∀ i, i < r → i * i < q) (hr : r ≤ 90) {K : Int32 → Prop} (h : K (nI r)) : ∀ d i, i + d = r → lpX5_wire_46 K (nI a) (nI b) (d + 1) (nI i) := by
  intro d
  induction d with
  | zero =>
    intro i hi
    have e : i = r := by omega
    subst e
    have hb : i * i ≤ 90 * 90 := Nat.mul_le_mul hr hr
    rw [lpX5_wire_46, pk_mul, pk_mul, show (4 : Int32) = nI 4 from rfl, pk_mul, pk_mul, nI_add, ← eq]
    exact br_t (nI_le h1 (by omega)) h
  | succ d ih =>
    intro i hi
    have hb := h2 i (by omega)
    rw [lpX5_wire_46, pk_mul, pk_mul, show (4 : Int32) = nI 4 from rfl, pk_mul, pk_mul, nI_add, ← eq]
    refine br_f (nI_ge hb (by omega)) ?_
    rw [nI_1]
    exact ih (i + 1) (by omega)
theorem ph_wire : PH_wire RE := by
  intro v_T v_n v_k v_t v_s v_r v_c v_M p0 p1 hR
  obtain ⟨S, w, hl, pi, pc, g1, g2, g3, g4, g5, g6, g7⟩ := id hR
  by_cases q1 : p0 < 1
  · exact br_t q1 (sX4_refuse 4 (by decide) rfl (br_t q1 (sX5_no 4 (by decide) rfl ⟨rfl, S, w, hl, pi, pc, g1, g2, g3, g4, g5, rf_upd g6 4, g7⟩)))
  · by_cases q2 : 0 ≤ p1
    · by_cases q3 : 40 < p0
      · exact br_f q1 (br_t q2 (br_t q3 (sX4_refuse 6 (by decide) rfl (br_f q1 (br_t q2 (br_t q3 (sX5_no 6 (by decide) rfl ⟨rfl, S, w, hl, pi, pc, g1, g2, g3, g4, g5, rf_upd g6 6, g7⟩)))))))
      · by_cases q4 : p1 ≤ 40
        · obtain ⟨a, ha, ea⟩ := nI_of2 (x := p0) (M := 40) (n := 40) (by decide) (fun z => q1 (Int32.lt_trans z (by decide))) (Int32.not_lt.mp q3)
          obtain ⟨b, hb, eb⟩ := nI_of2 (x := p1) (M := 40) (n := 40) (by decide) (Int32.not_lt.mpr q2) q4
          subst ea
          subst eb
          have a0 : 1 ≤ a := by
            rcases Nat.eq_zero_or_pos a with e | e
            · subst e; exact absurd (show nI 0 < 1 by decide) q1
            · exact e
          have x1 : a * a ≤ 40 * 40 := Nat.mul_le_mul ha ha
          have x2 : 4 * b * b ≤ 4 * 40 * 40 := Nat.mul_le_mul (by omega) hb
          have x3 : 1 * 1 ≤ a * a := Nat.mul_le_mul a0 a0
          obtain ⟨r, hr, r1, r2⟩ := least_sq (q := a * a + 4 * b * b) 90 (by omega)
          have r0 : 1 ≤ r := by
            rcases Nat.eq_zero_or_pos r with e | e
            · subst e; omega
            · exact e
          have ar : a ≤ r := by
            rcases Nat.lt_or_ge r a with e | e
            · have : r * r < a * a := Nat.mul_lt_mul_of_lt_of_lt e e
              omega
            · exact e
          refine br_f q1 (br_t q2 (br_f q3 (br_t q4 ⟨r - 1 + 1, ?_⟩)))
          rw [pk_mul, show (4 : Int32) = nI 4 from rfl, pk_mul, pk_mul, nI_add]
          refine lX4_wire (by omega) r1 r2 hr ?_ (r - 1) 1 (by omega) (by omega)
          refine br_f q1 (br_t q2 (br_f q3 (br_t q4 ⟨r - a + 1, ?_⟩)))
          exact lX5_wire (by omega) rfl r1 r2 hr ⟨rfl, hR⟩ (r - a) a (by omega)
        · exact br_f q1 (br_t q2 (br_f q3 (br_f q4 (sX4_refuse 6 (by decide) rfl (br_f q1 (br_t q2 (br_f q3 (br_f q4 (sX5_no 6 (by decide) rfl ⟨rfl, S, w, hl, pi, pc, g1, g2, g3, g4, g5, rf_upd g6 6, g7⟩)))))))))
    · exact br_f q1 (br_f q2 (sX4_refuse 4 (by decide) rfl (br_f q1 (br_f q2 (sX5_no 4 (by decide) rfl ⟨rfl, S, w, hl, pi, pc, g1, g2, g3, g4, g5, rf_upd g6 4, g7⟩)))))
