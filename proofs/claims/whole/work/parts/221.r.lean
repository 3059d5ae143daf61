/-! telling -/
theorem sX4_tenths {k : Nat} (hk : k < 5) {is b : Bool} {post : Int32 → Prop} (h : post (nI (tq k is b))) : wpX4_tenths post (nI k) (bi is) (bi b) := by
  have h1 := tw_b hk
  have h2 := tn_b hk
  unfold wpX4_tenths
  rw [tn_c k hk, tw_c k hk, show (10 : Int32) = nI 10 from rfl, pk_sub (by omega), pk_sub (by omega)]
  cases b <;> cases is
  · exact br_t rfl ⟨vp_in_nI hk (by omega), br_t rfl h⟩
  · exact br_t rfl ⟨vp_in_nI hk (by omega), br_f (by decide) h⟩
  · exact br_f (by decide) ⟨vp_in_nI hk (by omega), br_f (by decide) h⟩
  · exact br_f (by decide) ⟨vp_in_nI hk (by omega), br_t rfl h⟩
def w1 (S w : Nat → Nat) (k x : Nat) (is : Bool) (o : Nat) : Nat := w o * tq k is (wd S x o)
theorem lX3_telling {S w : Nat → Nat} (ok : okS S) {wo : Nat → Int32} (hwo : ∀ x, x < 48 → wo x = nI (bo (wd S x) (S 0))) {k x : Nat} {is : Bool} (hk : k < 5) (hx : x < 48) {K : Int32 → (Nat → Int64) → Prop} (h : ∀ c M, (∀ o, o < 24 → M o = lN (if o < S 0 then w1 S w k x is o else 0)) → K c M) : ∀ d i M, i + d = 24 → (∀ o, o < 24 → M o = lN (if o < S 0 then (if o < i then w1 S w k x is o else w o) else 0)) → lpX3_takeTelling_3 K (nI k) (nI x) (bi is) wo (d + 1) (nI i) M := by
  obtain ⟨o1, o2, o3, o4, o5, o6⟩ := id ok
  intro d
  induction d with
  | zero =>
    intro i M hi hM
    have e : i = 24 := by omega
    subst e
    rw [lpX3_takeTelling_3]
    refine br_t (by decide) (h _ _ (fun o ho => ?_))
    rw [hM o ho, if_pos ho]
  | succ d ih =>
    intro i M hi hM
    rw [lpX3_takeTelling_3]
    refine br_f (nI_ge (a := i) (b := 24) (by omega) (by omega)) ⟨vp_in_nI (by omega) (by omega), sX3_hasWood hwo o2 hx (by omega) (sX4_tenths hk ⟨vp_in_nI (by omega) (by omega), ?_⟩)⟩
    have hq := tq_b hk is (decide (i < S 0) && wd S x i)
    rw [nI_clamp (by omega), hM i (by omega), i2l (by omega), lN_mul, nI_1, if_neg (by omega : ¬ i < i)]
    refine ih (i + 1) _ (by omega) (fun o ho => ?_)
    by_cases e : o = i
    · subst e
      rw [ul_s, if_pos (by omega : o < o + 1)]
      by_cases c : o < S 0
      · rw [if_pos c, if_pos c, decide_eq_true c, Bool.true_and]; rfl
      · rw [if_neg c, if_neg c, Nat.zero_mul]
    · rw [ul_n e, hM o ho]
      by_cases c : o < S 0
      · rw [if_pos c, if_pos c]
        by_cases c2 : o < i
        · rw [if_pos c2, if_pos (by omega)]
        · rw [if_neg c2, if_neg (by omega)]
      · rw [if_neg c, if_neg c]
theorem lX5_tells {S w : Nat → Nat} (ok : okS S) {M : Nat → Int32} (hS : rS S M) {k x : Nat} {is : Bool} (hk : k < 5) (hx : x < 48) {K : Int32 → (Nat → Int32) → Prop} (h : ∀ c M', rN (S 0) (w1 S w k x is) M' → K c M') : ∀ d i Mw, i + d = S 0 → rN (S 0) (fun o => if o < i then w1 S w k x is o else w o) Mw → lpX5_tells_3 K (nI k) (nI x) (bi is) M (d + 1) (nI i) Mw := by
  obtain ⟨o1, o2, o3, o4, o5, o6⟩ := id ok
  intro d
  induction d with
  | zero =>
    intro i Mw hi hM
    have e : i = S 0 := by omega
    subst e
    rw [lpX5_tells_3, hS.1]
    refine br_t (nI_le (Nat.le_refl _) (by omega)) (h _ _ (fun o ho => ?_))
    rw [hM o ho]
    dsimp only
    rw [if_pos ho]
  | succ d ih =>
    intro i Mw hi hM
    rw [lpX5_tells_3, hS.1]
    refine br_f (nI_ge (by omega) (by omega)) ⟨vp_in_nI (by omega) (by omega), sX5_tenths hS ok hk hx (by omega) ⟨vp_in_nI (by omega) (by omega), ?_⟩⟩
    have hMi : Mw i = nI (w i) := by
      rw [hM i (by omega)]
      dsimp only
      rw [if_neg (by omega)]
    rw [nI_clamp (by omega), hMi, pk_mul, nI_1]
    refine ih (i + 1) _ (by omega) (fun o ho => ?_)
    dsimp only
    by_cases e : o = i
    · subst e
      rw [pk_us, if_pos (by omega)]
      rfl
    · rw [pk_un e, hM o ho]
      dsimp only
      by_cases c2 : o < i
      · rw [if_pos c2, if_pos (by omega)]
      · rw [if_neg c2, if_neg (by omega)]
/-! a hole more -/
def hx1 (hl : Nat → Nat) (x : Nat) : Nat → Nat := fun y => if y = x then 1 else hl y
theorem sX3_drill {hl : Nat → Nat} {D : Int64} (eD : D = lN (bo (hb hl) 48)) {x : Nat} (hx : x < 48) {post : Int64 → Prop} (h : post (lN (bo (hb (hx1 hl x)) 48))) : wpX3_drill post D (nI x) := by
  unfold wpX3_drill
  have z : (1 : Int64) <<< ((nI x).toInt64 &&& 63) = lN (1 * 2 ^ x) := wb_shl 1 (by omega)
  rw [eD, z, Nat.one_mul, fb_orL]
  have e : bo (hb hl) 48 ||| 2 ^ x = bo (hb (hx1 hl x)) 48 := by
    apply Nat.eq_of_testBit_eq
    intro i
    rw [Nat.testBit_or, bo_test, bo_test, Nat.testBit_two_pow]
    show (decide (i < 48) && decide (hl i = 1) || decide (x = i)) = (decide (i < 48) && decide ((if i = x then 1 else hl i) = 1))
    by_cases q : i = x
    · subst q
      rw [if_pos rfl, decide_eq_true rfl, Bool.or_true, decide_eq_true hx]; rfl
    · rw [if_neg q, decide_eq_false (show ¬ x = i from fun z => q z.symm), Bool.or_false]
  rw [e]
  exact h
theorem rN_hole {hl : Nat → Nat} {M : Nat → Int32} (h : rN 48 hl M) {x : Nat} (hx : x < 48) : rN 48 (hx1 hl x) (upd M x 1) := by
  intro y hy
  by_cases e : y = x
  · subst e
    rw [pk_us]
    show (1 : Int32) = nI (if y = y then 1 else hl y)
    rw [if_pos rfl]; rfl
  · rw [pk_un e]
    show M y = nI (if y = x then 1 else hl y)
    rw [if_neg e]
    exact h y hy
theorem hx1_b {hl : Nat → Nat} (h : ∀ x, hl x ≤ 1) (x : Nat) : ∀ y, hx1 hl x y ≤ 1 := fun y => by
  show (if y = x then 1 else hl y) ≤ 1
  split
  · omega
  · exact h y
/-- holes after a telling by a tool of kind k -/
def hk_ (hl : Nat → Nat) (k x : Nat) : Nat → Nat := if k = 4 then hx1 hl x else hl
theorem w1_b {S w hl pi pc : Nat → Nat} (g : okA S w hl pi pc) (h6 : S 4 < 6) {k x : Nat} {is : Bool} (hk : k < 5) : ∀ o, o < S 0 → w1 S w k x is o ≤ 9 ^ (S 4 + 1) := fun o ho => by
  have h1 := g.2.2.2.1 o ho
  have h2 := (tq_b hk is (wd S x o)).2
  rw [Nat.pow_succ]
  exact Nat.mul_le_mul h1 h2
theorem w1_6 {S w hl pi pc : Nat → Nat} (g : okA S w hl pi pc) (h6 : S 4 < 6) {k x : Nat} {is : Bool} (hk : k < 5) : ∀ o, o < S 0 → w1 S w k x is o ≤ 531441 := fun o ho => by
  have h1 := w1_b g h6 (x := x) (is := is) hk o ho
  have h2 : 9 ^ (S 4 + 1) ≤ 9 ^ 6 := Nat.pow_le_pow_right (by decide) (by omega)
  omega
theorem w1_pos {S w hl pi pc : Nat → Nat} (g : okA S w hl pi pc) {k x : Nat} {is : Bool} (hk : k < 5) : 0 < fb_sm (w1 S w k x is) (S 0) := by
  obtain ⟨o, ho, hp⟩ := sm_pos g.2.2.2.2.1
  have h2 := (tq_b hk is (wd S x o)).1
  refine pos_sm ho ?_
  show 0 < w o * tq k is (wd S x o)
  exact Nat.mul_pos hp (by omega)
/-- the state after a telling -/
theorem okA_tell {S w hl pi pc : Nat → Nat} (g : okA S w hl pi pc) (h6 : S 4 < 6) {k x : Nat} {is : Bool} (hk : k < 5) : okA (u4 S (S 4 + 1)) (nw (w1 S w k x is) (S 0)) (hk_ hl k x) pi pc := by
  obtain ⟨a1, a2, a3, a4, a5, a6, a7⟩ := id g
  refine ⟨a1, by show S 4 + 1 ≤ 6; omega, a3, fun o ho => ?_, nw_sm (w1_pos g hk), a6, ?_⟩
  · exact Nat.le_trans (nw_le _ _ _) (w1_b g h6 hk o ho)
  · unfold hk_
    split
    · exact hx1_b a7 x
    · exact a7
theorem sX3_takeTelling {S w hl pi pc : Nat → Nat} (g : okA S w hl pi pc) (h6 : S 4 < 6) {U : Int32} (eU : U = nI (S 4)) {D : Int64} (eD : D = lN (bo (hb hl) 48)) {M Ms : Nat → Int64} {wo : Nat → Int32} (hM : ∀ o, o < 24 → M o = lN (if o < S 0 then w o else 0)) (hwo : ∀ x, x < 48 → wo x = nI (bo (wd S x) (S 0))) {k x : Nat} {is : Bool} (hk : k < 5) (hx : x < 48) {post : Int32 → Int64 → Int64 → Int32 → (Nat → Int64) → (Nat → Int64) → Prop} (h : ∀ M' Ms', (∀ o, o < 24 → M' o = lN (if o < S 0 then nw (w1 S w k x is) (S 0) o else 0)) → (∀ y, y < 48 → Ms' y = lN (sw S (nw (w1 S w k x is) (S 0)) y)) → post (nI (S 4 + 1)) (lN (bo (hb (hk_ hl k x)) 48)) (lN (fb_sm (nw (w1 S w k x is) (S 0)) (S 0))) (nI (bo (fun o => decide (0 < nw (w1 S w k x is) (S 0) o)) (S 0))) M' Ms') : wpX3_takeTelling post U D M wo Ms (nI k) (nI x) (bi is) := by
  subst eU
  have hb2 : ∀ o, o < S 0 → w1 S w k x is o < 2 ^ 31 := fun o ho => by have := w1_6 g h6 (x := x) (is := is) hk o ho; omega
  have hb3 : ∀ o, o < S 0 → nw (w1 S w k x is) (S 0) o < 2 ^ 31 := fun o ho => by have := nw_le (w1 S w k x is) (S 0) o; have := hb2 o ho; omega
  refine ⟨25, lX3_telling (w := w) g.1 hwo hk hx (fun _ M1 hM1 => ?_) 24 0 M (by omega) (fun o ho => ?_)⟩
  · rw [nI_1]
    refine pk_eq k 4 (fun q => ?_) (fun q => ?_)
    · refine sX3_drill eD hx (sX3_lessen g.1.2.1 hb2 hM1 (fun M' hM' => sX3_addUp g.1 hb3 hM' hwo (fun Ms' hs => ?_)))
      have := h M' Ms' hM' hs
      rw [show hk_ hl k x = hx1 hl x from if_pos q] at this
      exact this
    · refine sX3_lessen g.1.2.1 hb2 hM1 (fun M' hM' => sX3_addUp g.1 hb3 hM' hwo (fun Ms' hs => ?_))
      have := h M' Ms' hM' hs
      rw [show hk_ hl k x = hl from if_neg q, ← eD] at this
      exact this
  · rw [hM o ho, if_neg (Nat.not_lt_zero o)]
theorem sX5_tells {S w hl pi pc : Nat → Nat} (g : okA S w hl pi pc) (h6 : S 4 < 6) {U : Int32} (eU : U = nI (S 4)) {M Mh Mw : Nat → Int32} (hS : rS S M) (hh : rN 48 hl Mh) (hw : rN (S 0) w Mw) {k x : Nat} {is : Bool} (hk : k < 5) (hx : x < 48) {post : Int32 → (Nat → Int32) → (Nat → Int32) → Prop} (h : ∀ Mh' Mw', rN 48 (hk_ hl k x) Mh' → rN (S 0) (nw (w1 S w k x is) (S 0)) Mw' → post (nI (S 4 + 1)) Mh' Mw') : wpX5_tells post U M Mh Mw (nI k) (nI x) (bi is) := by
  subst eU
  refine ⟨S 0 + 1, lX5_tells (w := w) g.1 hS hk hx (fun _ M1 hM1 => sX5_divides hS g.1 hM1 (w1_6 g h6 hk) (fun M' hM' => ?_)) (S 0) 0 Mw (by omega) (fun o ho => ?_)⟩
  · rw [nI_1]
    refine pk_eq k 4 (fun q => ⟨vp_in_nI hx (by omega), ?_⟩) (fun q => ?_)
    · rw [nI_clamp (by omega)]
      refine h _ _ ?_ hM'
      rw [show hk_ hl k x = hx1 hl x from if_pos q]
      exact rN_hole hh hx
    · refine h _ _ ?_ hM'
      rw [show hk_ hl k x = hl from if_neg q]
      exact hh
  · rw [hw o ho]
    dsimp only
    rw [if_neg (Nat.not_lt_zero o)]
theorem ph_telling : PH_telling RE := by
  intro v_T v_n v_k v_t v_s v_r v_c v_M p0 p1 p2 hR
  obtain ⟨S, w, hl, pi, pc, g1, g2, g3, g4, g5, g6, g7⟩ := id hR
  obtain ⟨a1, a2, a3, a4, a5, a6, a7⟩ := id g1
  obtain ⟨c0, c1, c2, c3, c4, c5, c6, c7, c8, c9, c10, c11, c12, c13⟩ := id g2
  obtain ⟨m0, m1, m2, m3, m4, m5, m6⟩ := id g3
  refine inX (x := p0) 5 (by omega) (fun q => ?_) (fun k hk e => ?_)
  · refine sX4_isNoToolN q (br_f (by decide) (sX4_refuse 2 (by decide) rfl ?_))
    exact sX5_isInN 4 (by omega) rfl q (br_t rfl (sX5_no 2 (by decide) rfl ⟨rfl, S, w, hl, pi, pc, g1, g2, g3, g4, g5, rf_upd g6 2, g7⟩))
  · subst e
    refine sX4_isNoTool hk (br_t rfl ?_)
    refine inX (x := p1) 48 (by omega) (fun q => ?_) (fun x hx e => ?_)
    · refine sX4_isNoInchN q (br_f (by decide) (sX4_refuse 1 (by decide) rfl ?_))
      exact sX5_isIn0 (n := 4) (by omega) rfl hk (br_f (by decide) (sX5_isInchN q (br_t rfl (sX5_no 1 (by decide) rfl ⟨rfl, S, w, hl, pi, pc, g1, g2, g3, g4, g5, rf_upd g6 1, g7⟩))))
    · subst e
      refine sX4_isNoInch hx (br_t rfl ?_)
      refine inX (x := p2) 2 (by omega) (fun q => ?_) (fun i hi e => ?_)
      · have h0 : ¬ p2 = 0 := fun e => by subst e; revert q; decide
        have h1 : ¬ p2 = 1 := fun e => by subst e; revert q; decide
        refine br_f h0 (br_f h1 (sX4_refuse 2 (by decide) rfl ?_))
        exact sX5_isIn0 (n := 4) (by omega) rfl hk (br_f (by decide) (sX5_isInch hx (br_f (by decide) (sX5_isInN 1 (by omega) rfl q (br_t rfl (sX5_no 2 (by decide) rfl ⟨rfl, S, w, hl, pi, pc, g1, g2, g3, g4, g5, rf_upd g6 2, g7⟩))))))
      · subst e
        have e4 : v_n.2.2.2.2.1 = nI (S 4) := c4
        have e5 : v_M.2.1 = nI (S 4) := m1
        by_cases h6 : S 4 < 6
        · have qq : v_n.2.2.2.2.1 < (6 : Int32) := by rw [e4]; exact nI_lt (a := S 4) (b := 6) h6 (by omega)
          have q6 : ¬ v_M.2.1 = (6 : Int32) := by
            rw [e5]
            intro z
            have := (nI_eq (a := S 4) (b := 6) (by omega) (by omega)).mp z
            omega
          rcases (show i = 0 ∨ i = 1 by omega) with e | e
          · subst e
            refine br_t rfl (br_t qq (br_f (by decide) (sX3_takeTelling (is := false) g1 h6 c4 c6 c11 c12 hk hx (fun M' Ms' h1 h2 => ?_))))
            refine sX5_isIn0 (n := 4) (by omega) rfl hk (br_f (by decide) (sX5_isInch hx (br_f (by decide) (sX5_isIn0 (n := 1) (by omega) rfl hi (br_f (by decide) (br_f q6 (sX5_tells (is := false) g1 h6 m1 m2 m3 m6 hk hx (fun Mh' Mw' h3 h4 => ?_))))))))
            exact ⟨rfl, u4 S (S 4 + 1), nw (w1 S w k x false) (S 0), hk_ hl k x, pi, pc, okA_tell g1 h6 hk, ⟨c0, c1, c2, c3, rfl, c5, rfl, rfl, rfl, c9, c10, h1, c12, h2⟩, ⟨m0, rfl, m2, h3, m4, m5, h4⟩, g4, g5, g6, g7⟩
          · subst e
            refine br_f (by decide) (br_t rfl (br_t qq (br_t rfl (sX3_takeTelling (is := true) g1 h6 c4 c6 c11 c12 hk hx (fun M' Ms' h1 h2 => ?_)))))
            refine sX5_isIn0 (n := 4) (by omega) rfl hk (br_f (by decide) (sX5_isInch hx (br_f (by decide) (sX5_isIn0 (n := 1) (by omega) rfl hi (br_f (by decide) (br_f q6 (sX5_tells (is := true) g1 h6 m1 m2 m3 m6 hk hx (fun Mh' Mw' h3 h4 => ?_))))))))
            exact ⟨rfl, u4 S (S 4 + 1), nw (w1 S w k x true) (S 0), hk_ hl k x, pi, pc, okA_tell g1 h6 hk, ⟨c0, c1, c2, c3, rfl, c5, rfl, rfl, rfl, c9, c10, h1, c12, h2⟩, ⟨m0, rfl, m2, h3, m4, m5, h4⟩, g4, g5, g6, g7⟩
        · have s6 : S 4 = 6 := by omega
          have qq : ¬ v_n.2.2.2.2.1 < (6 : Int32) := by rw [e4, s6]; decide
          have q6 : v_M.2.1 = (6 : Int32) := by rw [e5, s6]; rfl
          rcases (show i = 0 ∨ i = 1 by omega) with e | e
          · subst e
            refine br_t rfl (br_f qq (sX4_refuse 6 (by decide) rfl ?_))
            exact sX5_isIn0 (n := 4) (by omega) rfl hk (br_f (by decide) (sX5_isInch hx (br_f (by decide) (sX5_isIn0 (n := 1) (by omega) rfl hi (br_f (by decide) (br_t q6 (sX5_no 6 (by decide) rfl ⟨rfl, S, w, hl, pi, pc, g1, g2, g3, g4, g5, rf_upd g6 6, g7⟩)))))))
          · subst e
            refine br_f (by decide) (br_t rfl (br_f qq (sX4_refuse 6 (by decide) rfl ?_)))
            exact sX5_isIn0 (n := 4) (by omega) rfl hk (br_f (by decide) (sX5_isInch hx (br_f (by decide) (sX5_isIn0 (n := 1) (by omega) rfl hi (br_f (by decide) (br_t q6 (sX5_no 6 (by decide) rfl ⟨rfl, S, w, hl, pi, pc, g1, g2, g3, g4, g5, rf_upd g6 6, g7⟩)))))))
