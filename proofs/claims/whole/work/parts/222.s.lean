/-! nail -/
def lm (S w : Nat → Nat) (x : Nat) (is : Bool) : Nat → Bool := fun o => decide (0 < w o) && (wd S x o == is)
def w2 (S w : Nat → Nat) (x : Nat) (is : Bool) (o : Nat) : Nat := if (wd S x o == is) = true then w o else 0
theorem sX3_byNail {S w : Nat → Nat} (ok : okS S) {O : Int32} {wo : Nat → Int32} (eO : O = nI (bo (fun o => decide (0 < w o)) (S 0))) (hwo : ∀ x, x < 48 → wo x = nI (bo (wd S x) (S 0))) {x : Nat} {is : Bool} (hx : x < 48) {post : Int32 → Prop} (h : post (nI (bo (lm S w x is) (S 0)))) : wpX3_offsetsByNail post O wo (nI x) (bi is) := by
  subst eO
  unfold wpX3_offsetsByNail
  rw [nI_clamp (by omega), hwo x hx, fa_and, bo_and, bo_not]
  cases is with
  | false =>
    refine br_t rfl ⟨vp_in_nI hx (by omega), ?_⟩
    rw [bo_cong (q := lm S w x false) (fun o _ => ?_)]
    · exact h
    · unfold lm
      cases wd S x o <;> simp
  | true =>
    refine br_f (by decide) ⟨vp_in_nI hx (by omega), ?_⟩
    rw [bo_cong (q := lm S w x true) (fun o _ => ?_)]
    · exact h
    · unfold lm
      cases wd S x o <;> simp
theorem cl_0 {S w : Nat → Nat} {x : Nat} {is : Bool} {n : Nat} : cl S w x is n = 0 ↔ bo (lm S w x is) n = 0 := by
  constructor
  · intro h
    refine bo_0.mpr (fun o ho => ?_)
    have := fb_sm_zero h o ho
    cases hq : lm S w x is o with
    | false => rfl
    | true =>
      have e : (decide (0 < w o) && (wd S x o == is)) = true := hq
      rw [e] at this
      exact absurd this (by decide)
  · intro h
    refine fb_z (fun o ho => ?_)
    have e : (decide (0 < w o) && (wd S x o == is)) = false := bo_0.mp h o ho
    rw [e]
    rfl
theorem cl_b (S w : Nat → Nat) (x : Nat) (is : Bool) (n : Nat) : cl S w x is n ≤ n := by
  have h : cl S w x is n ≤ n * 1 := fb_sm_bound (fun o _ => by cases (decide (0 < w o) && (wd S x o == is)) <;> decide)
  omega
theorem lX3_nail {S w : Nat → Nat} (ok : okS S) {x : Nat} {is : Bool} {K : Int32 → (Nat → Int64) → Prop} (h : ∀ c M, (∀ o, o < 24 → M o = lN (if o < S 0 then w2 S w x is o else 0)) → K c M) : ∀ d i M, i + d = 24 → (∀ o, o < 24 → M o = lN (if o < S 0 then (if o < i then w2 S w x is o else w o) else 0)) → lpX3_takeNail_10 K (nI (bo (lm S w x is) (S 0))) (d + 1) (nI i) M := by
  obtain ⟨o1, o2, o3, o4, o5, o6⟩ := id ok
  intro d
  induction d with
  | zero =>
    intro i M hi hM
    have e : i = 24 := by omega
    subst e
    rw [lpX3_takeNail_10]
    refine br_t (by decide) (h _ _ (fun o ho => ?_))
    rw [hM o ho, if_pos ho]
  | succ d ih =>
    intro i M hi hM
    have hlt := bo_24 (p := lm S w x is) o2
    rw [lpX3_takeNail_10]
    refine br_f (nI_ge (a := i) (b := 24) (by omega) (by omega)) (sX4_isIn (by omega) (by omega) (bi_0 ?_))
    rw [nI_clamp (by omega), nI_1, bo_test]
    cases hq : (decide (i < S 0) && lm S w x is i) with
    | true =>
      rw [cond_true]
      refine ih (i + 1) _ (by omega) (fun o ho => ?_)
      rw [hM o ho]
      by_cases e : o = i
      · subst e
        rw [Bool.and_eq_true] at hq
        have c := of_decide_eq_true hq.1
        have l : (decide (0 < w o) && (wd S x o == is)) = true := hq.2
        rw [Bool.and_eq_true] at l
        rw [if_pos c, if_pos c, if_neg (by omega), if_pos (by omega), show w2 S w x is o = w o from if_pos l.2]
      · by_cases c : o < S 0
        · rw [if_pos c, if_pos c]
          by_cases c2 : o < i
          · rw [if_pos c2, if_pos (by omega)]
          · rw [if_neg c2, if_neg (by omega)]
        · rw [if_neg c, if_neg c]
    | false =>
      rw [cond_false]
      refine ⟨vp_in_nI (by omega) (by omega), ih (i + 1) _ (by omega) (fun o ho => ?_)⟩
      by_cases e : o = i
      · subst e
        rw [ul_s]
        by_cases c : o < S 0
        · rw [if_pos c, if_pos (by omega)]
          rw [decide_eq_true c, Bool.true_and] at hq
          have l : (decide (0 < w o) && (wd S x o == is)) = false := hq
          have z : w2 S w x is o = 0 := by
            unfold w2
            split
            · rename_i hh
              rw [hh, Bool.and_true] at l
              have := of_decide_eq_false l
              omega
            · rfl
          rw [z]; rfl
        · rw [if_neg c]; rfl
      · rw [ul_n e, hM o ho]
        by_cases c : o < S 0
        · rw [if_pos c, if_pos c]
          by_cases c2 : o < i
          · rw [if_pos c2, if_pos (by omega)]
          · rw [if_neg c2, if_neg (by omega)]
        · rw [if_neg c, if_neg c]
theorem lX5_leaves {S w : Nat → Nat} (ok : okS S) {M : Nat → Int32} (hS : rS S M) {x : Nat} {is : Bool} (hx : x < 48) {K : Int32 → (Nat → Int32) → Prop} (h : ∀ c M', rN (S 0) (w2 S w x is) M' → K c M') : ∀ d i Mw, i + d = S 0 → rN (S 0) (fun o => if o < i then w2 S w x is o else w o) Mw → lpX5_leaves_2 K (nI x) (bi is) M (d + 1) (nI i) Mw := by
  obtain ⟨o1, o2, o3, o4, o5, o6⟩ := id ok
  intro d
  induction d with
  | zero =>
    intro i Mw hi hM
    have e : i = S 0 := by omega
    subst e
    rw [lpX5_leaves_2, hS.1]
    refine br_t (nI_le (Nat.le_refl _) (by omega)) (h _ _ (fun o ho => ?_))
    rw [hM o ho]
    dsimp only
    rw [if_pos ho]
  | succ d ih =>
    intro i Mw hi hM
    have hMi : Mw i = nI (w i) := by
      rw [hM i (by omega)]
      dsimp only
      rw [if_neg (by omega)]
    have step : ∀ v : Nat, v = w2 S w x is i → lpX5_leaves_2 K (nI x) (bi is) M (d + 1) (nI (i + 1)) (upd Mw i (nI v)) := fun v ev => by
      refine ih (i + 1) _ (by omega) (fun o ho => ?_)
      dsimp only
      by_cases e : o = i
      · subst e
        rw [pk_us, if_pos (by omega), ev]
      · rw [pk_un e, hM o ho]
        dsimp only
        by_cases c2 : o < i
        · rw [if_pos c2, if_pos (by omega)]
        · rw [if_neg c2, if_neg (by omega)]
    rw [lpX5_leaves_2, hS.1]
    refine br_f (nI_ge (by omega) (by omega)) (sX5_isWood hS ok hx (by omega) ?_)
    rw [nI_clamp (by omega), hMi, nI_1]
    have vin : vp_in (nI i) 24 := vp_in_nI (by omega) (by omega)
    cases is with
    | true =>
      refine br_t rfl (bi_1 ?_)
      cases hd : wd S x i with
      | true => exact ⟨vin, vin, step (w i) (by unfold w2; rw [hd]; rfl)⟩
      | false => exact ⟨vin, step 0 (by unfold w2; rw [hd]; rfl)⟩
    | false =>
      refine br_f (by decide) (bi_0 ?_)
      cases hd : wd S x i with
      | true => exact ⟨vin, step 0 (by unfold w2; rw [hd]; rfl)⟩
      | false => exact ⟨vin, vin, step (w i) (by unfold w2; rw [hd]; rfl)⟩
theorem w2_le (S w : Nat → Nat) (x : Nat) (is : Bool) (o : Nat) : w2 S w x is o ≤ w o := by unfold w2; split <;> omega
theorem w2_pos {S w : Nat → Nat} {x : Nat} {is : Bool} (h : ¬ bo (lm S w x is) (S 0) = 0) : 0 < fb_sm (w2 S w x is) (S 0) := by
  rcases Nat.eq_zero_or_pos (fb_sm (w2 S w x is) (S 0)) with e | e
  · exfalso
    apply h
    refine bo_0.mpr (fun o ho => ?_)
    have z := fb_sm_zero e o ho
    show (decide (0 < w o) && (wd S x o == is)) = false
    cases hd : (wd S x o == is) with
    | false => rw [Bool.and_false]
    | true =>
      unfold w2 at z
      rw [hd, if_pos rfl] at z
      rw [decide_eq_false (by omega), Bool.false_and]
  · exact e
theorem okA_nail {S w hl pi pc : Nat → Nat} (g : okA S w hl pi pc) {x : Nat} {is : Bool} (h : ¬ bo (lm S w x is) (S 0) = 0) : okA S (nw (w2 S w x is) (S 0)) (hx1 hl x) pi pc := by
  obtain ⟨a1, a2, a3, a4, a5, a6, a7⟩ := id g
  exact ⟨a1, a2, a3, fun o ho => Nat.le_trans (Nat.le_trans (nw_le _ _ _) (w2_le _ _ _ _ _)) (a4 o ho), nw_sm (w2_pos h), a6, hx1_b a7 x⟩
theorem sX3_takeNail {S w hl pi pc : Nat → Nat} (g : okA S w hl pi pc) {O : Int32} {D : Int64} (eO : O = nI (bo (fun o => decide (0 < w o)) (S 0))) (eD : D = lN (bo (hb hl) 48)) {M Ms : Nat → Int64} {wo : Nat → Int32} (hM : ∀ o, o < 24 → M o = lN (if o < S 0 then w o else 0)) (hwo : ∀ x, x < 48 → wo x = nI (bo (wd S x) (S 0))) {x : Nat} {is : Bool} (hx : x < 48) {post : Int64 → Int64 → Int32 → (Nat → Int64) → (Nat → Int64) → Prop} (h : ∀ M' Ms', (∀ o, o < 24 → M' o = lN (if o < S 0 then nw (w2 S w x is) (S 0) o else 0)) → (∀ y, y < 48 → Ms' y = lN (sw S (nw (w2 S w x is) (S 0)) y)) → post (lN (bo (hb (hx1 hl x)) 48)) (lN (fb_sm (nw (w2 S w x is) (S 0)) (S 0))) (nI (bo (fun o => decide (0 < nw (w2 S w x is) (S 0) o)) (S 0))) M' Ms') : wpX3_takeNail post D O M wo Ms (nI x) (bi is) := by
  have hb2 : ∀ o, o < S 0 → w2 S w x is o < 2 ^ 31 := fun o ho => by have := w2_le S w x is o; have := okA_w2 g o ho; omega
  have hb3 : ∀ o, o < S 0 → nw (w2 S w x is) (S 0) o < 2 ^ 31 := fun o ho => by have := nw_le (w2 S w x is) (S 0) o; have := hb2 o ho; omega
  refine sX3_byNail g.1 eO hwo hx ⟨25, lX3_nail g.1 (fun _ M1 hM1 => ?_) 24 0 M (by omega) (fun o ho => ?_)⟩
  · exact sX3_drill eD hx (sX3_lessen g.1.2.1 hb2 hM1 (fun M' hM' => sX3_addUp g.1 hb3 hM' hwo (fun Ms' hs => h M' Ms' hM' hs)))
  · rw [hM o ho, if_neg (Nat.not_lt_zero o)]
theorem sX5_nails {S w hl pi pc : Nat → Nat} (g : okA S w hl pi pc) {M Mh Mw : Nat → Int32} (hS : rS S M) (hh : rN 48 hl Mh) (hw : rN (S 0) w Mw) {x : Nat} {is : Bool} (hx : x < 48) {post : (Nat → Int32) → (Nat → Int32) → Prop} (h : ∀ Mh' Mw', rN 48 (hx1 hl x) Mh' → rN (S 0) (nw (w2 S w x is) (S 0)) Mw' → post Mh' Mw') : wpX5_nails post M Mh Mw (nI x) (bi is) := by
  refine ⟨S 0 + 1, lX5_leaves (w := w) g.1 hS hx (fun _ M1 hM1 => sX5_divides hS g.1 hM1 (fun o ho => Nat.le_trans (w2_le _ _ _ _ _) (okA_w g o ho)) (fun M' hM' => ⟨vp_in_nI hx (by omega), ?_⟩)) (S 0) 0 Mw (by omega) (fun o ho => ?_)⟩
  · rw [hw o ho]
    dsimp only
    rw [if_neg (Nat.not_lt_zero o)]
  · rw [nI_clamp (by omega)]
    exact h _ _ (rN_hole hh hx) hM'
theorem ph_nail : PH_nail RE := by
  intro v_T v_n v_k v_t v_s v_r v_c v_M p0 p1 hR
  obtain ⟨S, w, hl, pi, pc, g1, g2, g3, g4, g5, g6, g7⟩ := id hR
  obtain ⟨a1, a2, a3, a4, a5, a6, a7⟩ := id g1
  obtain ⟨c0, c1, c2, c3, c4, c5, c6, c7, c8, c9, c10, c11, c12, c13⟩ := id g2
  obtain ⟨m0, m1, m2, m3, m4, m5, m6⟩ := id g3
  refine inX (x := p0) 48 (by omega) (fun q => ?_) (fun x hx e => ?_)
  · refine sX4_isNoInchN q (br_f (by decide) (sX4_refuse 1 (by decide) rfl ?_))
    exact sX5_isInchN q (br_t rfl (sX5_no 1 (by decide) rfl ⟨rfl, S, w, hl, pi, pc, g1, g2, g3, g4, g5, rf_upd g6 1, g7⟩))
  · subst e
    refine sX4_isNoInch hx (br_t rfl ?_)
    refine inX (x := p1) 2 (by omega) (fun q => ?_) (fun i hi e => ?_)
    · have h0 : ¬ p1 = 0 := fun e => by subst e; revert q; decide
      have h1 : ¬ p1 = 1 := fun e => by subst e; revert q; decide
      refine br_f h0 (br_f h1 (sX4_refuse 2 (by decide) rfl ?_))
      exact sX5_isInch hx (br_f (by decide) (sX5_isInN 1 (by omega) rfl q (br_t rfl (sX5_no 2 (by decide) rfl ⟨rfl, S, w, hl, pi, pc, g1, g2, g3, g4, g5, rf_upd g6 2, g7⟩))))
    · subst e
      have fin : ∀ is : Bool, bo (lm S w x is) (S 0) < 2 ^ 24 ∧ cl S w x is (S 0) < 2 ^ 31 := fun is => ⟨bo_24 a1.2.1, by have := cl_b S w x is (S 0); have := a1.2.1; omega⟩
      rcases (show i = 0 ∨ i = 1 by omega) with e | e
      · subst e
        have f := fin false
        refine br_t rfl (br_f (by decide) (sX3_byNail (is := false) a1 c8 c12 hx ?_))
        by_cases q : bo (lm S w x false) (S 0) = 0
        · refine br_t ((nI0 (by omega)).mpr q) (br_t rfl (sX4_refuse 3 (by decide) rfl ?_))
          refine sX5_isInch hx (br_f (by decide) (sX5_isIn0 (n := 1) (by omega) rfl hi (br_f (by decide) (sX5_leftBy (is := false) m2 a1 m6 (okA_w2 g1) hx ?_))))
          exact br_t ((nI0 f.2).mpr (cl_0.mpr q)) (sX5_no 3 (by decide) rfl ⟨rfl, S, w, hl, pi, pc, g1, g2, g3, g4, g5, rf_upd g6 3, g7⟩)
        · refine br_f (fun z => q ((nI0 (by omega)).mp z)) (br_f (by decide) (br_f (by decide) (sX3_takeNail (is := false) g1 c8 c6 c11 c12 hx (fun M' Ms' h1 h2 => sX3_openCount a1.2.1 rfl ?_))))
          refine sX5_isInch hx (br_f (by decide) (sX5_isIn0 (n := 1) (by omega) rfl hi (br_f (by decide) (sX5_leftBy (is := false) m2 a1 m6 (okA_w2 g1) hx ?_))))
          have nk := okA_nail g1 (x := x) (is := false) q
          refine br_f (fun z => q (cl_0.mp ((nI0 f.2).mp z))) (sX5_nails (is := false) g1 m2 m3 m6 hx (fun Mh' Mw' h3 h4 => sX5_withWeight m2 a1 h4 (okA_w2 nk) ?_))
          exact ⟨rfl, S, nw (w2 S w x false) (S 0), hx1 hl x, pi, pc, nk, ⟨c0, c1, c2, c3, c4, c5, rfl, rfl, rfl, c9, c10, h1, c12, h2⟩, ⟨m0, m1, m2, h3, m4, m5, h4⟩, g4, g5, g6, g7⟩
      · subst e
        have f := fin true
        refine br_f (by decide) (br_t rfl (br_t rfl (sX3_byNail (is := true) a1 c8 c12 hx ?_)))
        by_cases q : bo (lm S w x true) (S 0) = 0
        · refine br_t ((nI0 (by omega)).mpr q) (br_t rfl (sX4_refuse 3 (by decide) rfl ?_))
          refine sX5_isInch hx (br_f (by decide) (sX5_isIn0 (n := 1) (by omega) rfl hi (br_f (by decide) (sX5_leftBy (is := true) m2 a1 m6 (okA_w2 g1) hx ?_))))
          exact br_t ((nI0 f.2).mpr (cl_0.mpr q)) (sX5_no 3 (by decide) rfl ⟨rfl, S, w, hl, pi, pc, g1, g2, g3, g4, g5, rf_upd g6 3, g7⟩)
        · refine br_f (fun z => q ((nI0 (by omega)).mp z)) (br_f (by decide) (br_t rfl (sX3_takeNail (is := true) g1 c8 c6 c11 c12 hx (fun M' Ms' h1 h2 => sX3_openCount a1.2.1 rfl ?_))))
          refine sX5_isInch hx (br_f (by decide) (sX5_isIn0 (n := 1) (by omega) rfl hi (br_f (by decide) (sX5_leftBy (is := true) m2 a1 m6 (okA_w2 g1) hx ?_))))
          have nk := okA_nail g1 (x := x) (is := true) q
          refine br_f (fun z => q (cl_0.mp ((nI0 f.2).mp z))) (sX5_nails (is := true) g1 m2 m3 m6 hx (fun Mh' Mw' h3 h4 => sX5_withWeight m2 a1 h4 (okA_w2 nk) ?_))
          exact ⟨rfl, S, nw (w2 S w x true) (S 0), hx1 hl x, pi, pc, nk, ⟨c0, c1, c2, c3, c4, c5, rfl, rfl, rfl, c9, c10, h1, c12, h2⟩, ⟨m0, m1, m2, h3, m4, m5, h4⟩, g4, g5, g6, g7⟩
