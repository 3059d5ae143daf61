/-! holes till wood -/
def ft (p : Nat → Bool) : Nat → Nat → Nat
  | 0, k => k
  | d + 1, k => if p k then k else ft p d (k + 1)
theorem ft_b (p : Nat → Bool) : ∀ d k, k ≤ ft p d k ∧ ft p d k ≤ k + d
  | 0, k => ⟨Nat.le_refl _, Nat.le_refl _⟩
  | d + 1, k => by
    have := ft_b p d (k + 1)
    unfold ft
    split <;> omega
def po (S : Nat → Nat) (x k : Nat) : Nat := (x + k * S 1) % 48
def kf (S : Nat → Nat) (x o : Nat) : Nat := ft (fun k => wd S (po S x k) o) 48 0
theorem kf_b (S : Nat → Nat) (x o : Nat) : kf S x o ≤ 48 := (ft_b _ 48 0).2
theorem po_b (S : Nat → Nat) (x k : Nat) : po S x k < 48 := Nat.mod_lt _ (by decide)
theorem po_s (S : Nat → Nat) (x k : Nat) : (po S x k + S 1) % 48 = po S x (k + 1) := by
  unfold po
  rw [Nat.succ_mul, ← Nat.add_assoc, Nat.mod_add_mod]
theorem sX4_modulo {a b : Nat} (ha : a < 2 ^ 31) (hb : 0 < b) (hb2 : b < 2 ^ 31) {post : Int32 → Prop} (h : post (nI (a % b))) : wpX4_modulo post (nI a) (nI b) := by
  refine br_t (nI_le (a := 1) hb hb2) ⟨nI_ne0 hb hb2, br_t ?_ ?_⟩
  · rw [nx_xor]
    exact nI_pos' (Nat.xor_lt_two_pow ha hb2)
  · rw [pk_rem ha hb hb2]
    exact h
theorem lX3_tillWood {S : Nat → Nat} (ok : okS S) {B : Int32} (eB : B = nI (S 1)) {wo : Nat → Int32} (hwo : ∀ x, x < 48 → wo x = nI (bo (wd S x) (S 0))) {x o : Nat} (ho : o < S 0) {K : Int32 → Int32 → Prop} : ∀ d k, k + d = 48 → (∀ a, K a (nI (ft (fun k => wd S (po S x k) o) d k + 1))) → lpX3_tillWood_5 K (nI o) B wo (d + 1) (nI (po S x k)) (nI (k + 1)) := by
  obtain ⟨o1, o2, o3, o4, o5, o6⟩ := id ok
  subst eB
  intro d
  induction d with
  | zero =>
    intro k hk h
    have e : k = 48 := by omega
    subst e
    rw [lpX3_tillWood_5]
    exact br_t (by decide) (h _)
  | succ d ih =>
    intro k hk h
    have hp := po_b S x k
    rw [lpX3_tillWood_5]
    refine br_f (nI_nlt (a := 48) (b := k + 1) (by omega) (by omega)) (sX3_hasWood hwo o2 hp (by omega) (bi_0 ?_))
    unfold ft at h
    rw [decide_eq_true ho, Bool.true_and]
    cases hd : wd S (po S x k) o with
    | true => rw [hd, if_pos rfl] at h; exact h _
    | false =>
      rw [hd, if_neg (by decide)] at h
      rw [cond_false, nI_add, nI_1]
      refine sX4_modulo (b := 48) (by omega) (by decide) (by decide) ?_
      rw [po_s]
      exact ih (k + 1) (by omega) h
theorem po_0 (S : Nat → Nat) {x : Nat} (hx : x < 48) : po S x 0 = x := by
  unfold po
  rw [Nat.zero_mul, Nat.add_zero, Nat.mod_eq_of_lt hx]
theorem sX3_tillWood {S : Nat → Nat} (ok : okS S) {B : Int32} (eB : B = nI (S 1)) {wo : Nat → Int32} (hwo : ∀ x, x < 48 → wo x = nI (bo (wd S x) (S 0))) {x o : Nat} (hx : x < 48) (ho : o < S 0) {post : Int32 → Prop} (h : post (nI (kf S x o + 1))) : wpX3_tillWood post B wo (nI x) (nI o) := by
  have nx := lX3_tillWood (K := fun _ v => post v) (x := x) ok eB hwo ho 48 0 (by omega) (fun _ => h)
  rw [po_0 S hx] at nx
  exact ⟨49, nx⟩
theorem lX5_holesBy {S : Nat → Nat} (ok : okS S) {M : Nat → Int32} (hS : rS S M) {x o : Nat} (hx : x < 48) (ho : o < S 0) {post : Int32 → Prop} : ∀ d k, k + d = 48 → (post (if ft (fun k => wd S (po S x k) o) d k < 48 then nI (ft (fun k => wd S (po S x k) o) d k + 1) else -9)) → lpX5_holesBy_2 post (fun _ => post (-9)) (nI x) (nI o) M (d + 1) (nI k) := by
  obtain ⟨o1, o2, o3, o4, o5, o6⟩ := id ok
  intro d
  induction d with
  | zero =>
    intro k hk h
    have e : k = 48 := by omega
    subst e
    rw [lpX5_holesBy_2]
    exact br_t (by decide) h
  | succ d ih =>
    intro k hk h
    have hkm : k * S 1 ≤ 48 * 4 := Nat.mul_le_mul (by omega) o4
    rw [lpX5_holesBy_2, hS.2.1, pk_mul, nI_add, show (48 : Int32) = nI 48 from rfl, pk_rem (by omega) (by decide) (by decide)]
    refine br_f (nI_ge (by omega) (by omega)) (sX5_isWood hS ok (Nat.mod_lt _ (by decide)) ho (bi_0 ?_))
    unfold ft at h
    rw [nI_1]
    cases hd : wd S ((x + k * S 1) % 48) o with
    | true =>
      rw [show wd S (po S x k) o = true from hd, if_pos (show true = true from rfl), if_pos (by omega)] at h
      exact h
    | false =>
      rw [show wd S (po S x k) o = false from hd, if_neg (show ¬ false = true by decide)] at h
      exact ih (k + 1) (by omega) h
theorem sX5_holesBy {S : Nat → Nat} (ok : okS S) {M : Nat → Int32} (hS : rS S M) {x o : Nat} (hx : x < 48) (ho : o < S 0) {post : Int32 → Prop} (h : post (if kf S x o < 48 then nI (kf S x o + 1) else -9)) : wpX5_holesBy post M (nI x) (nI o) :=
  ⟨49, lX5_holesBy ok hS hx ho 48 0 (by omega) h⟩
/-! the worst -/
def wr (S w : Nat → Nat) (x : Nat) : Nat → Nat
  | 0 => 0
  | i + 1 => if w i = 0 then wr S w x i else if wr S w x i < kf S x i + 1 then kf S x i + 1 else wr S w x i
theorem wr_b (S w : Nat → Nat) (x : Nat) : ∀ i, wr S w x i ≤ 49
  | 0 => by show 0 ≤ 49; omega
  | i + 1 => by
    have := wr_b S w x i
    have := kf_b S x i
    unfold wr
    split
    · omega
    · split <;> omega
theorem wr_m (S w : Nat → Nat) (x i : Nat) : ∀ d, wr S w x i ≤ wr S w x (i + d)
  | 0 => Nat.le_refl _
  | d + 1 => by
    have := wr_m S w x i d
    show _ ≤ (if w (i + d) = 0 then wr S w x (i + d) else if wr S w x (i + d) < kf S x (i + d) + 1 then kf S x (i + d) + 1 else wr S w x (i + d))
    split
    · exact this
    · split <;> omega
theorem lX3_worst {S w : Nat → Nat} (ok : okS S) (hw : ∀ o, o < S 0 → w o < 2 ^ 31) {B : Int32} (eB : B = nI (S 1)) {M : Nat → Int64} {wo : Nat → Int32} (hM : ∀ o, o < 24 → M o = lN (if o < S 0 then w o else 0)) (hwo : ∀ x, x < 48 → wo x = nI (bo (wd S x) (S 0))) {x : Nat} (hx : x < 48) {K : Int32 → Int32 → Prop} (h : ∀ c, K (nI (wr S w x (S 0))) c) : ∀ d i, i + d = 24 → lpX3_worstTillWood_4 K (nI x) B M wo (d + 1) (nI (wr S w x (if i < S 0 then i else S 0))) (nI i) := by
  obtain ⟨o1, o2, o3, o4, o5, o6⟩ := id ok
  intro d
  induction d with
  | zero =>
    intro i hi
    have e : i = 24 := by omega
    subst e
    rw [lpX3_worstTillWood_4, if_neg (by omega)]
    exact br_t (by decide) (h _)
  | succ d ih =>
    intro i hi
    have ih := ih (i + 1) (by omega)
    rw [lpX3_worstTillWood_4]
    refine br_f (nI_ge (a := i) (b := 24) (by omega) (by omega)) ⟨vp_in_nI (by omega) (by omega), ?_⟩
    rw [nI_clamp (by omega), hM i (by omega), nI_1]
    by_cases q : i < S 0
    · rw [if_pos q, if_pos q]
      rw [show (if i + 1 < S 0 then i + 1 else S 0) = i + 1 by split <;> omega] at ih
      have hwi := hw i q
      have e : wr S w x (i + 1) = if w i = 0 then wr S w x i else if wr S w x i < kf S x i + 1 then kf S x i + 1 else wr S w x i := rfl
      rw [e] at ih
      have b1 := wr_b S w x i
      have b2 := kf_b S x i
      by_cases q2 : w i = 0
      · rw [if_pos q2] at ih
        exact br_t ((lN_le0 (by omega)).mpr q2) ih
      · rw [if_neg q2] at ih
        refine br_f (fun z => q2 ((lN_le0 (by omega)).mp z)) (sX3_tillWood ok eB hwo hx q ?_)
        refine pk_lt _ _ (fun q3 => ?_) (fun q3 => ?_)
        · rw [if_pos q3] at ih; exact ih
        · rw [if_neg (by omega)] at ih; exact ih
    · rw [if_neg q, if_neg q]
      rw [if_neg (by omega)] at ih
      exact br_t (by decide) ih
theorem lX5_holes {S w : Nat → Nat} (ok : okS S) {M Mw : Nat → Int32} (hS : rS S M) (hw : rN (S 0) w Mw) (hb : ∀ o, o < S 0 → w o < 2 ^ 31) {x : Nat} (hx : x < 48) {R : Nat → Int32} {post : Int32 → (Nat → Int32) → Prop} (h : post (if wr S w x (S 0) ≤ 48 then nI (wr S w x (S 0)) else -9) R) : ∀ d i, i + d = S 0 → wr S w x i ≤ 48 → lpX5_holes_17 post (fun a _ => post a R) (nI x) R M Mw (d + 1) (nI (wr S w x i)) (nI i) := by
  obtain ⟨o1, o2, o3, o4, o5, o6⟩ := id ok
  intro d
  induction d with
  | zero =>
    intro i hi hl
    have e : i = S 0 := by omega
    subst e
    rw [if_pos hl] at h
    rw [lpX5_holes_17, hS.1]
    exact br_t (nI_le (Nat.le_refl _) (by omega)) h
  | succ d ih =>
    intro i hi hl
    have ih := ih (i + 1) (by omega)
    have hm := wr_m S w x (i + 1) d
    rw [show i + 1 + d = S 0 by omega] at hm
    have e : wr S w x (i + 1) = if w i = 0 then wr S w x i else if wr S w x i < kf S x i + 1 then kf S x i + 1 else wr S w x i := rfl
    rw [e] at ih hm
    have hwi := hb i (by omega)
    have b2 := kf_b S x i
    rw [lpX5_holes_17, hS.1]
    refine br_f (nI_ge (by omega) (by omega)) ⟨vp_in_nI (by omega) (by omega), ?_⟩
    rw [nI_clamp (by omega), hw i (by omega), nI_1]
    refine pk_eq (w i) 0 (fun q => ?_) (fun q => sX5_holesBy ok hS hx (by omega) ?_)
    · rw [if_pos q] at ih
      exact br_t (nI_pos' (by omega)) (ih hl)
    · rw [if_neg q] at ih hm
      by_cases q2 : kf S x i < 48
      · rw [if_pos q2]
        refine br_t (nI_pos' (by omega)) (pk_le _ _ (fun q3 => ?_) (fun q3 => ?_))
        · rw [if_neg (by omega)] at ih; exact ih hl
        · rw [if_pos q3] at ih; exact ih (by omega)
      · rw [if_neg q2]
        rw [if_pos (by omega)] at hm
        rw [if_neg (by omega)] at h
        exact br_f (by decide) h
theorem ph_holes : PH_holes RE := by
  intro v_T v_n v_k v_t v_s v_r v_c v_M p0 hR
  obtain ⟨S, w, hl, pi, pc, g1, g2, g3, g4, g5, g6, g7⟩ := id hR
  obtain ⟨c0, c1, c2, c3, c4, c5, c6, c7, c8, c9, c10, c11, c12, c13⟩ := id g2
  obtain ⟨m0, m1, m2, m3, m4, m5, m6⟩ := id g3
  refine inX (x := p0) 48 (by omega) (fun q => ?_) (fun j hj e => ?_)
  · refine sX4_isNoInchN q (br_f (by decide) (sX4_refuse 1 (by decide) rfl ?_))
    exact sX5_isInchN q (br_t rfl (sX5_no 1 (by decide) rfl ⟨rfl, S, w, hl, pi, pc, g1, g2, g3, g4, g5, rf_upd g6 1, g7⟩))
  · subst e
    have s0 : (0 : Nat) < S 0 := by have := g1.1.1; omega
    have b1 := wr_b S w j (S 0)
    refine sX4_isNoInch hj (br_t rfl ⟨25, ?_⟩)
    have nx := fun K h => lX3_worst (K := K) g1.1 (okA_w2 g1) c1 c11 c12 hj h 24 0 (by omega)
    rw [if_pos s0] at nx
    refine nx _ (fun _ => ?_)
    have ref : ∀ {post : Int32 → (Nat → Int32) → Prop}, post (if wr S w j (S 0) ≤ 48 then nI (wr S w j (S 0)) else -9) v_M.2.2.2.2.2.2.2.2.2.2.2.1 → wpX5_holes post v_M.2.2.2.2.2.2.2.2.2.2.2.1 v_M.2.2.2.2.2.2.2.2.2.2.2.2.1 v_M.2.2.2.2.2.2.2.2.2.2.2.2.2.2.2.2.1 (nI j) := fun {post} h =>
      sX5_isInch hj (br_f (by decide) ⟨S 0 + 1, lX5_holes g1.1 m2 m6 (okA_w2 g1) hj h (S 0) 0 (by omega) (by show 0 ≤ 48; omega)⟩)
    refine pk_le (wr S w j (S 0)) 48 (fun q => ?_) (fun q => ?_)
    · refine ref ⟨?_, hR⟩
      rw [if_pos q]
    · refine ref ⟨?_, hR⟩
      rw [if_neg (by omega)]
/-! all together -/
def kt (S : Nat → Nat) (x o : Nat) : Nat := if kf S x o < 48 then kf S x o + 1 else 48
def tt (S w : Nat → Nat) (x : Nat) : Nat := fb_sm (fun o => w o * kt S x o) (S 0)
theorem kt_b (S : Nat → Nat) (x o : Nat) : kt S x o ≤ 48 := by unfold kt; split <;> omega
theorem tt_b {S w hl pi pc : Nat → Nat} (g : okA S w hl pi pc) (x : Nat) : tt S w x < 2 ^ 31 := by
  have h : tt S w x ≤ S 0 * (531441 * 48) := fb_sm_bound (fun o ho => Nat.mul_le_mul (okA_w g o ho) (kt_b S x o))
  have := g.1.2.1
  have h2 : S 0 * (531441 * 48) ≤ 24 * (531441 * 48) := Nat.mul_le_mul_right _ this
  omega
theorem lX3_allTill {S w : Nat → Nat} (ok : okS S) (hw : ∀ o, o < S 0 → w o < 2 ^ 31) {B : Int32} (eB : B = nI (S 1)) {M : Nat → Int64} {wo : Nat → Int32} (hM : ∀ o, o < 24 → M o = lN (if o < S 0 then w o else 0)) (hwo : ∀ x, x < 48 → wo x = nI (bo (wd S x) (S 0))) {x : Nat} (hx : x < 48) {K : Int64 → Int32 → Prop} (h : ∀ c, K (lN (tt S w x)) c) : ∀ d i, i + d = 24 → lpX3_allTillWood_5 K (nI x) B M wo (d + 1) (lN (fb_sm (fun o => w o * kt S x o) (if i < S 0 then i else S 0))) (nI i) := by
  obtain ⟨o1, o2, o3, o4, o5, o6⟩ := id ok
  intro d
  induction d with
  | zero =>
    intro i hi
    have e : i = 24 := by omega
    subst e
    rw [lpX3_allTillWood_5, if_neg (by omega)]
    exact br_t (by decide) (h _)
  | succ d ih =>
    intro i hi
    have ih := ih (i + 1) (by omega)
    rw [lpX3_allTillWood_5]
    refine br_f (nI_ge (a := i) (b := 24) (by omega) (by omega)) ⟨vp_in_nI (by omega) (by omega), ?_⟩
    rw [nI_clamp (by omega), hM i (by omega), nI_1]
    by_cases q : i < S 0
    · rw [if_pos q, if_pos q]
      rw [show (if i + 1 < S 0 then i + 1 else S 0) = i + 1 by split <;> omega, fb_sm_succ] at ih
      have hwi := hw i q
      have b2 := kf_b S x i
      by_cases q2 : w i = 0
      · rw [q2, Nat.zero_mul, Nat.add_zero] at ih
        exact br_t ((lN_le0 (by omega)).mpr q2) ih
      · refine br_f (fun z => q2 ((lN_le0 (by omega)).mp z)) ⟨vp_in_nI (by omega) (by omega), sX3_tillWood ok eB hwo hx q ?_⟩
        refine pk_lt 48 (kf S x i + 1) (fun q3 => ?_) (fun q3 => ?_)
        · dsimp only
          rw [show (48 : Int32) = nI 48 from rfl, i2l (by omega), lN_mul, lN_add]
          rw [show kt S x i = 48 from if_neg (by omega)] at ih
          exact ih
        · dsimp only
          rw [i2l (by omega), lN_mul, lN_add]
          rw [show kt S x i = kf S x i + 1 from if_pos (by omega)] at ih
          exact ih
    · rw [if_neg q, if_neg q]
      rw [if_neg (by omega)] at ih
      exact br_t (by decide) ih
theorem sX3_allTill {S w : Nat → Nat} (ok : okS S) (hw : ∀ o, o < S 0 → w o < 2 ^ 31) {B : Int32} (eB : B = nI (S 1)) {M : Nat → Int64} {wo : Nat → Int32} (hM : ∀ o, o < 24 → M o = lN (if o < S 0 then w o else 0)) (hwo : ∀ x, x < 48 → wo x = nI (bo (wd S x) (S 0))) {x : Nat} (hx : x < 48) {post : Int64 → Prop} (h : post (lN (tt S w x))) : wpX3_allTillWood post B M wo (nI x) := by
  have nx := lX3_allTill (K := fun v _ => post v) ok hw eB hM hwo hx (fun _ => h) 24 0 (by omega)
  rw [if_pos (by have := ok.1; omega)] at nx
  exact ⟨25, nx⟩
theorem lX5_holesAll {S w : Nat → Nat} (ok : okS S) {M Mw : Nat → Int32} (hS : rS S M) (hw : rN (S 0) w Mw) (hb : ∀ o, o < S 0 → w o < 2 ^ 31) {x : Nat} (hx : x < 48) {K : Int64 → Int32 → Prop} (h : ∀ c, K (lN (tt S w x)) c) : ∀ d i, i + d = S 0 → lpX5_holesAll_5 K (nI x) M Mw (d + 1) (lN (fb_sm (fun o => w o * kt S x o) i)) (nI i) := by
  obtain ⟨o1, o2, o3, o4, o5, o6⟩ := id ok
  intro d
  induction d with
  | zero =>
    intro i hi
    have e : i = S 0 := by omega
    subst e
    rw [lpX5_holesAll_5, hS.1]
    exact br_t (nI_le (Nat.le_refl _) (by omega)) (h _)
  | succ d ih =>
    intro i hi
    have ih := ih (i + 1) (by omega)
    rw [fb_sm_succ] at ih
    have hwi := hb i (by omega)
    have b2 := kf_b S x i
    rw [lpX5_holesAll_5, hS.1]
    refine br_f (nI_ge (by omega) (by omega)) (sX5_holesBy ok hS hx (by omega) ⟨vp_in_nI (by omega) (by omega), ?_⟩)
    rw [nI_clamp (by omega), hw i (by omega), i2l hwi, nI_1]
    by_cases q2 : kf S x i < 48
    · rw [show kt S x i = kf S x i + 1 from if_pos q2] at ih
      rw [if_pos q2]
      refine br_t (nI_pos' (by omega)) ?_
      rw [i2l (by omega), lN_mul, lN_add]
      exact ih
    · rw [show kt S x i = 48 from if_neg q2] at ih
      rw [if_neg q2]
      refine br_f (by decide) ?_
      rw [show (48 : Int32) = nI 48 from rfl, i2l (by omega), lN_mul, lN_add]
      exact ih
theorem sX5_holesAll {S w : Nat → Nat} (ok : okS S) {M Mw : Nat → Int32} (hS : rS S M) (hw : rN (S 0) w Mw) (hb : ∀ o, o < S 0 → w o < 2 ^ 31) {x : Nat} (hx : x < 48) {post : Int64 → Prop} (h : post (lN (tt S w x))) : wpX5_holesAll post M Mw (nI x) :=
  ⟨S 0 + 1, lX5_holesAll (K := fun v _ => post v) ok hS hw hb hx (fun _ => h) (S 0) 0 (by omega)⟩
theorem ph_mean : PH_mean RE := by
  intro v_T v_n v_k v_t v_s v_r v_c v_M p0 p1 hR
  obtain ⟨S, w, hl, pi, pc, g1, g2, g3, g4, g5, g6, g7⟩ := id hR
  obtain ⟨c0, c1, c2, c3, c4, c5, c6, c7, c8, c9, c10, c11, c12, c13⟩ := id g2
  obtain ⟨m0, m1, m2, m3, m4, m5, m6⟩ := id g3
  have h1 := sm_b g1
  refine inX (x := p0) 48 (by omega) (fun q => ?_) (fun j hj e => ?_)
  · refine sX4_isNoInchN q (br_f (by decide) (sX4_refuseLong 1 (by decide) rfl ?_))
    exact sX5_isInchN q (br_t rfl (sX5_lowest 1 (by decide) rfl ⟨rfl, S, w, hl, pi, pc, g1, g2, g3, g4, g5, rf_upd g6 1, g7⟩))
  · subst e
    refine sX4_isNoInch hj (br_t rfl ?_)
    refine inX (x := p1) 2 (by omega) (fun q => ?_) (fun i hi e => ?_)
    · refine sX4_isNoPartN q (br_f (by decide) (sX4_refuseLong 2 (by decide) rfl ?_))
      exact sX5_isInch hj (br_f (by decide) (sX5_isInN 1 (by omega) rfl q (br_t rfl (sX5_lowest 2 (by decide) rfl ⟨rfl, S, w, hl, pi, pc, g1, g2, g3, g4, g5, rf_upd g6 2, g7⟩))))
    · subst e
      have h2 := tt_b g1 j
      have e2 : v_n.2.2.2.2.2.2.2.1 = lN (fb_sm w (S 0)) := c7
      refine sX4_isNoPart hi (br_t rfl (sX3_allTill g1.1 (okA_w2 g1) c1 c11 c12 hj ?_))
      rw [e2]
      refine sX4_partOf (by omega) (by omega) hi ?_
      refine sX5_isInch hj (br_f (by decide) (sX5_isIn0 (n := 1) (by omega) rfl hi (br_f (by decide) ?_)))
      refine sX5_holesAll g1.1 m2 m6 (okA_w2 g1) hj (sX5_all m2 g1.1 m6 (okA_w2 g1) ?_)
      exact sX5_partOf (by omega) (by omega) hi ⟨rfl, hR⟩
/-! the first of the least -/
def an (f : Nat → Nat) : Nat → Nat
  | 0 => 0
  | n + 1 => if f (an f n) ≤ f (n + 1) then an f n else n + 1
theorem an_b (f : Nat → Nat) : ∀ n, an f n ≤ n
  | 0 => Nat.le_refl _
  | n + 1 => by
    have h := an_b f n
    unfold an
    split <;> omega
theorem an_s (f : Nat → Nat) (n : Nat) : an f (n + 1) = if f (an f n) ≤ f (n + 1) then an f n else n + 1 := rfl
theorem lX4_from {S w hl pi pc : Nat → Nat} (g : okA S w hl pi pc) {B : Int32} (eB : B = nI (S 1)) {M : Nat → Int64} {wo : Nat → Int32} (hM : ∀ o, o < 24 → M o = lN (if o < S 0 then w o else 0)) (hwo : ∀ x, x < 48 → wo x = nI (bo (wd S x) (S 0))) {K : Int32 → Int64 → Int32 → Prop} (h : ∀ a b, K (nI (an (tt S w) 47)) a b) : ∀ d i, i + d = 47 → lpX4_from_14 K B M wo (d + 1) (nI (an (tt S w) i)) (lN (tt S w (an (tt S w) i))) (nI (i + 1)) := by
  intro d
  induction d with
  | zero =>
    intro i hi
    have e : i = 47 := by omega
    subst e
    rw [lpX4_from_14]
    exact br_t (by decide) (h _ _)
  | succ d ih =>
    intro i hi
    have ih := ih (i + 1) (by omega)
    rw [lpX4_from_14]
    refine br_f (nI_ge (a := i + 1) (b := 48) (by omega) (by omega)) (sX3_allTill g.1 (okA_w2 g) eB hM hwo (by omega) ?_)
    rw [nI_1]
    rw [an_s] at ih
    by_cases q : tt S w (an (tt S w) i) ≤ tt S w (i + 1)
    · rw [if_pos q] at ih
      exact br_t ((lN_le (tt_b g _) (tt_b g _)).mpr q) ih
    · rw [if_neg q] at ih
      exact br_f (fun z => q ((lN_le (tt_b g _) (tt_b g _)).mp z)) ih
theorem lX5_from {S w hl pi pc : Nat → Nat} (g : okA S w hl pi pc) {M Mw : Nat → Int32} (hS : rS S M) (hw : rN (S 0) w Mw) {K : Int32 → Int32 → Prop} (h : ∀ a, K (nI (an (tt S w) 47)) a) : ∀ d i, i + d = 47 → lpX5_from_4 K M Mw (d + 1) (nI (an (tt S w) i)) (nI (i + 1)) := by
  intro d
  induction d with
  | zero =>
    intro i hi
    have e : i = 47 := by omega
    subst e
    rw [lpX5_from_4]
    exact br_t (by decide) (h _)
  | succ d ih =>
    intro i hi
    have ih := ih (i + 1) (by omega)
    have hab := an_b (tt S w) i
    rw [lpX5_from_4]
    refine br_f (nI_ge (a := i + 1) (b := 48) (by omega) (by omega)) (sX5_holesAll g.1 hS hw (okA_w2 g) (by omega) (sX5_holesAll g.1 hS hw (okA_w2 g) (by omega) ?_))
    rw [nI_1]
    rw [an_s] at ih
    by_cases q : tt S w (an (tt S w) i) ≤ tt S w (i + 1)
    · rw [if_pos q] at ih
      exact br_t ((lN_le (tt_b g _) (tt_b g _)).mpr q) ih
    · rw [if_neg q] at ih
      exact br_f (fun z => q ((lN_le (tt_b g _) (tt_b g _)).mp z)) ih
theorem ph_from : PH_from RE := by
  intro v_T v_n v_k v_t v_s v_r v_c v_M hR
  obtain ⟨S, w, hl, pi, pc, g1, g2, g3, g4, g5, g6, g7⟩ := id hR
  obtain ⟨c0, c1, c2, c3, c4, c5, c6, c7, c8, c9, c10, c11, c12, c13⟩ := id g2
  obtain ⟨m0, m1, m2, m3, m4, m5, m6⟩ := id g3
  refine sX3_allTill (x := 0) g1.1 (okA_w2 g1) c1 c11 c12 (by omega) ⟨48, lX4_from g1 c1 c11 c12 (fun _ _ => ?_) 47 0 (by omega)⟩
  exact ⟨48, lX5_from g1 m2 m6 (fun _ => ⟨rfl, hR⟩) 47 0 (by omega)⟩
