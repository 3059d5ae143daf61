/-! the class: a statement -/
section
variable {n : Nat} {tp : Nat → Nat} {s : Nat → Int32} {p e : Nat} {S w hl pi pc : Nat → Nat} {f9 f10 f12 : Nat → Int32} {f11 f13 : Nat → Int64} {post : Int32 → Int32 → Int32 → Int32 → Int32 → Int32 → Int32 → Int32 → Int64 → Int64 → Int32 → (Nat → Int32) → (Nat → Int32) → (Nat → Int64) → (Nat → Int32) → (Nat → Int64) → Prop}
theorem rc_l (ok : okT n tp s) (hp : p < 900) (g : okA S w hl pi pc) (c9 : rN (S 5) pi f9) (c10 : rN (S 5) pc f10) (c11 : ∀ o, o < 24 → f11 o = lN (if o < S 0 then w o else 0)) (c12 : ∀ x, x < 48 → f12 x = nI (bo (wd S x) (S 0))) (c13 : ∀ x, x < 48 → f13 x = lN (sw S w x)) (hc : tx n tp p = 108) (a1 : isL (tx n tp (p + 1)) = true) (he : e = p + 3) (h1 : ∀ S' w' hl' pi' pc', ef (tx n tp) p S w hl pi pc = some (S', w', hl', pi', pc') → ∀ v : PX3, rC S' w' hl' pi' pc' v → post 1 (nI e) v.1 v.2.1 v.2.2.1 v.2.2.2.1 v.2.2.2.2.1 v.2.2.2.2.2.1 v.2.2.2.2.2.2.1 v.2.2.2.2.2.2.2.1 v.2.2.2.2.2.2.2.2.1 v.2.2.2.2.2.2.2.2.2.1 v.2.2.2.2.2.2.2.2.2.2.1 v.2.2.2.2.2.2.2.2.2.2.2.1 v.2.2.2.2.2.2.2.2.2.2.2.2.1 v.2.2.2.2.2.2.2.2.2.2.2.2.2) (h0 : ef (tx n tp) p S w hl pi pc = none → ∀ v : PX3, post 0 (nI e) v.1 v.2.1 v.2.2.1 v.2.2.2.1 v.2.2.2.2.1 v.2.2.2.2.2.1 v.2.2.2.2.2.2.1 v.2.2.2.2.2.2.2.1 v.2.2.2.2.2.2.2.2.1 v.2.2.2.2.2.2.2.2.2.1 v.2.2.2.2.2.2.2.2.2.2.1 v.2.2.2.2.2.2.2.2.2.2.2.1 v.2.2.2.2.2.2.2.2.2.2.2.2.1 v.2.2.2.2.2.2.2.2.2.2.2.2.2) : wpX2_readStatement post (nI n) (nI p) s (nI (S 0)) (nI (S 1)) (nI (S 2)) (nI (S 3)) (nI (S 4)) (nI (S 5)) (lN (bo (hb hl) 48)) (lN (fb_sm w (S 0))) (nI (bo (fun o => decide (0 < w o)) (S 0))) f9 f10 f11 f12 f13 := by
  subst he
  have hb1 := tx_b ok (p + 1)
  have hl6 : lwN (tx n tp (p + 1)) < 6 := of_decide_eq_true a1
  have e0 := tl0_l hc
  have nok : okS (us S 3 (tl0 (tx n tp) p)) := us_ok g.1 (by omega) (Nat.zero_le _) (show tl0 (tx n tp) p ≤ 5 by omega)
  refine sX2_signAt (p := p) ok (by omega) (sX2_skip ?_)
  rw [hc]
  refine br_f (by decide) (br_t rfl (sX2_signAt (p := p + 1) ok (by omega) (sJ0_index hb1 ?_)))
  rw [if_pos hl6, ← e0]
  refine sX2_skip (sX2_skip (sX3_beginAnew (S := us S 3 (tl0 (tx n tp) p)) nok (fun M' wo' Ms' q1 q2 q3 => ⟨bi_n true, ?_⟩)))
  exact h1 _ _ _ _ _ (ef_l hc) (_, _, _, _, _, _, _, _, _, f9, f10, M', wo', Ms') ⟨rfl, rfl, rfl, rfl, rfl, rfl, rfl, rfl, rfl, c9, c10, q1, q2, q3⟩
theorem rc_d (ok : okT n tp s) (hp : p < 900) (g : okA S w hl pi pc) (c9 : rN (S 5) pi f9) (c10 : rN (S 5) pc f10) (c11 : ∀ o, o < 24 → f11 o = lN (if o < S 0 then w o else 0)) (c12 : ∀ x, x < 48 → f12 x = nI (bo (wd S x) (S 0))) (c13 : ∀ x, x < 48 → f13 x = lN (sw S w x)) (hc : tx n tp p = 100) (a1 : dg (tx n tp) (p + 1) = true) (a2 : dg (tx n tp) (p + 2) = true) (he : e = p + 4) (h1 : ∀ S' w' hl' pi' pc', ef (tx n tp) p S w hl pi pc = some (S', w', hl', pi', pc') → ∀ v : PX3, rC S' w' hl' pi' pc' v → post 1 (nI e) v.1 v.2.1 v.2.2.1 v.2.2.2.1 v.2.2.2.2.1 v.2.2.2.2.2.1 v.2.2.2.2.2.2.1 v.2.2.2.2.2.2.2.1 v.2.2.2.2.2.2.2.2.1 v.2.2.2.2.2.2.2.2.2.1 v.2.2.2.2.2.2.2.2.2.2.1 v.2.2.2.2.2.2.2.2.2.2.2.1 v.2.2.2.2.2.2.2.2.2.2.2.2.1 v.2.2.2.2.2.2.2.2.2.2.2.2.2) (h0 : ef (tx n tp) p S w hl pi pc = none → ∀ v : PX3, post 0 (nI e) v.1 v.2.1 v.2.2.1 v.2.2.2.1 v.2.2.2.2.1 v.2.2.2.2.2.1 v.2.2.2.2.2.2.1 v.2.2.2.2.2.2.2.1 v.2.2.2.2.2.2.2.2.1 v.2.2.2.2.2.2.2.2.2.1 v.2.2.2.2.2.2.2.2.2.2.1 v.2.2.2.2.2.2.2.2.2.2.2.1 v.2.2.2.2.2.2.2.2.2.2.2.2.1 v.2.2.2.2.2.2.2.2.2.2.2.2.2) : wpX2_readStatement post (nI n) (nI p) s (nI (S 0)) (nI (S 1)) (nI (S 2)) (nI (S 3)) (nI (S 4)) (nI (S 5)) (lN (bo (hb hl) 48)) (lN (fb_sm w (S 0))) (nI (bo (fun o => decide (0 < w o)) (S 0))) f9 f10 f11 f12 f13 := by
  subst he
  have hb2 := d2_b a1 a2
  have e0 : tl0 (tx n tp) p = d2 (tx n tp) (p + 1) := tl0_d (by omega) (by omega) (by omega)
  refine sX2_signAt (p := p) ok (by omega) (sX2_skip ?_)
  rw [hc]
  refine br_t rfl (sX2_n2 (p := p + 1) ok (by omega) a1 a2 (sX2_skip (sX4_isOut (j := 2) (by omega) (by omega) (bi_0 ?_))))
  rw [← e0]
  cases z : inR 2 (tl0 (tx n tp) p) with
  | true =>
    have zz := inR_t z
    rw [Bool.not_true, cond_false]
    refine sX3_beginAnew (S := us S 2 (tl0 (tx n tp) p)) (us_ok g.1 (by omega) zz.1 zz.2) (fun M' wo' Ms' q1 q2 q3 => ⟨bi_n true, ?_⟩)
    exact h1 _ _ _ _ _ ((ef_d hc).trans (if_pos z)) (_, _, _, _, _, _, _, _, _, f9, f10, M', wo', Ms') ⟨rfl, rfl, rfl, rfl, rfl, rfl, rfl, rfl, rfl, c9, c10, q1, q2, q3⟩
  | false =>
    rw [Bool.not_false, cond_true]
    exact ⟨bi_n false, h0 ((ef_d hc).trans (if_neg (by rw [z]; decide))) (_, _, _, _, _, _, _, _, _, f9, f10, f11, f12, f13)⟩
theorem rc_s2 (ok : okT n tp s) (hp : p < 900) (g : okA S w hl pi pc) (c9 : rN (S 5) pi f9) (c10 : rN (S 5) pc f10) (c11 : ∀ o, o < 24 → f11 o = lN (if o < S 0 then w o else 0)) (c12 : ∀ x, x < 48 → f12 x = nI (bo (wd S x) (S 0))) (c13 : ∀ x, x < 48 → f13 x = lN (sw S w x)) (hc : tx n tp p = 115) (a1 : dg (tx n tp) (p + 1) = true) (a2 : dg (tx n tp) (p + 2) = true) (a4 : dg (tx n tp) (p + 4) = true) (he : e = p + 6) (h1 : ∀ S' w' hl' pi' pc', ef (tx n tp) p S w hl pi pc = some (S', w', hl', pi', pc') → ∀ v : PX3, rC S' w' hl' pi' pc' v → post 1 (nI e) v.1 v.2.1 v.2.2.1 v.2.2.2.1 v.2.2.2.2.1 v.2.2.2.2.2.1 v.2.2.2.2.2.2.1 v.2.2.2.2.2.2.2.1 v.2.2.2.2.2.2.2.2.1 v.2.2.2.2.2.2.2.2.2.1 v.2.2.2.2.2.2.2.2.2.2.1 v.2.2.2.2.2.2.2.2.2.2.2.1 v.2.2.2.2.2.2.2.2.2.2.2.2.1 v.2.2.2.2.2.2.2.2.2.2.2.2.2) (h0 : ef (tx n tp) p S w hl pi pc = none → ∀ v : PX3, post 0 (nI e) v.1 v.2.1 v.2.2.1 v.2.2.2.1 v.2.2.2.2.1 v.2.2.2.2.2.1 v.2.2.2.2.2.2.1 v.2.2.2.2.2.2.2.1 v.2.2.2.2.2.2.2.2.1 v.2.2.2.2.2.2.2.2.2.1 v.2.2.2.2.2.2.2.2.2.2.1 v.2.2.2.2.2.2.2.2.2.2.2.1 v.2.2.2.2.2.2.2.2.2.2.2.2.1 v.2.2.2.2.2.2.2.2.2.2.2.2.2) : wpX2_readStatement post (nI n) (nI p) s (nI (S 0)) (nI (S 1)) (nI (S 2)) (nI (S 3)) (nI (S 4)) (nI (S 5)) (lN (bo (hb hl) 48)) (lN (fb_sm w (S 0))) (nI (bo (fun o => decide (0 < w o)) (S 0))) f9 f10 f11 f12 f13 := by
  subst he
  have b2 := d2_b a1 a2
  have b1 := d1_b a4
  have e0 := tl0_s2 hc a2
  have e1 := tl1_s2 hc a2
  have hd := dg_t a2
  have hx := tx_b ok (p + 2)
  have hx2 := tx_b ok (p + 1 + 1)
  refine sX2_signAt (p := p) ok (by omega) (sX2_skip ?_)
  rw [hc]
  refine br_f (by decide) (br_f (by decide) (br_f (by decide) (br_t rfl ?_)))
  unfold wpX2_readSpaces
  rw [nI_1]
  refine sX2_signAt (p := p + 1 + 1) ok (by omega) (pk_eq (tx n tp (p + 1 + 1)) 44 (fun z => absurd (show tx n tp (p + 2) = 44 from z) (by omega)) (fun _ => sX2_n2 (p := p + 1) ok (by omega) a1 a2 (sX2_skip (sX2_n1 (p := p + 1 + 2 + 1) ok (by omega) a4 (sX2_skip (sX4_isOut (j := 0) (by omega) (by omega) (bi_0 ?_)))))))
  rw [← e0, show d1 (tx n tp) (p + 1 + 2 + 1) = tl1 (tx n tp) p from e1.symm]
  cases z : inR 0 (tl0 (tx n tp) p) with
  | true =>
    rw [Bool.not_true, cond_false]
    refine sX4_isOut (j := 1) (by omega) (by omega) (bi_0 ?_)
    cases z2 : inR 1 (tl1 (tx n tp) p) with
    | true =>
      rw [Bool.not_true, cond_false]
      refine sX3_beginAnew (S := us (us S 0 (tl0 (tx n tp) p)) 1 (tl1 (tx n tp) p)) (us2_ok g.1 z z2) (fun M' wo' Ms' q1 q2 q3 => ⟨bi_n true, ?_⟩)
      exact h1 _ _ _ _ _ ((ef_s hc).trans (if_pos (by rw [z, z2]; rfl))) (_, _, _, _, _, _, _, _, _, f9, f10, M', wo', Ms') ⟨rfl, rfl, rfl, rfl, rfl, rfl, rfl, rfl, rfl, c9, c10, q1, q2, q3⟩
    | false =>
      rw [Bool.not_false, cond_true]
      exact ⟨bi_n false, h0 ((ef_s hc).trans (if_neg (by rw [z, z2]; decide))) (_, _, _, _, _, _, _, _, _, f9, f10, f11, f12, f13)⟩
  | false =>
    rw [Bool.not_false, cond_true]
    exact ⟨bi_n false, h0 ((ef_s hc).trans (if_neg (by rw [z, Bool.false_and]; decide))) (_, _, _, _, _, _, _, _, _, f9, f10, f11, f12, f13)⟩
theorem rc_s1 (ok : okT n tp s) (hp : p < 900) (g : okA S w hl pi pc) (c9 : rN (S 5) pi f9) (c10 : rN (S 5) pc f10) (c11 : ∀ o, o < 24 → f11 o = lN (if o < S 0 then w o else 0)) (c12 : ∀ x, x < 48 → f12 x = nI (bo (wd S x) (S 0))) (c13 : ∀ x, x < 48 → f13 x = lN (sw S w x)) (hc : tx n tp p = 115) (a1 : dg (tx n tp) (p + 1) = true) (a2 : dg (tx n tp) (p + 2) = false) (a3 : tx n tp (p + 2) = 44) (a4 : dg (tx n tp) (p + 3) = true) (he : e = p + 5) (h1 : ∀ S' w' hl' pi' pc', ef (tx n tp) p S w hl pi pc = some (S', w', hl', pi', pc') → ∀ v : PX3, rC S' w' hl' pi' pc' v → post 1 (nI e) v.1 v.2.1 v.2.2.1 v.2.2.2.1 v.2.2.2.2.1 v.2.2.2.2.2.1 v.2.2.2.2.2.2.1 v.2.2.2.2.2.2.2.1 v.2.2.2.2.2.2.2.2.1 v.2.2.2.2.2.2.2.2.2.1 v.2.2.2.2.2.2.2.2.2.2.1 v.2.2.2.2.2.2.2.2.2.2.2.1 v.2.2.2.2.2.2.2.2.2.2.2.2.1 v.2.2.2.2.2.2.2.2.2.2.2.2.2) (h0 : ef (tx n tp) p S w hl pi pc = none → ∀ v : PX3, post 0 (nI e) v.1 v.2.1 v.2.2.1 v.2.2.2.1 v.2.2.2.2.1 v.2.2.2.2.2.1 v.2.2.2.2.2.2.1 v.2.2.2.2.2.2.2.1 v.2.2.2.2.2.2.2.2.1 v.2.2.2.2.2.2.2.2.2.1 v.2.2.2.2.2.2.2.2.2.2.1 v.2.2.2.2.2.2.2.2.2.2.2.1 v.2.2.2.2.2.2.2.2.2.2.2.2.1 v.2.2.2.2.2.2.2.2.2.2.2.2.2) : wpX2_readStatement post (nI n) (nI p) s (nI (S 0)) (nI (S 1)) (nI (S 2)) (nI (S 3)) (nI (S 4)) (nI (S 5)) (lN (bo (hb hl) 48)) (lN (fb_sm w (S 0))) (nI (bo (fun o => decide (0 < w o)) (S 0))) f9 f10 f11 f12 f13 := by
  subst he
  have b2 := d1_b a1
  have b1 := d1_b a4
  have e0 := tl0_s1 hc a2
  have e1 := tl1_s1 hc a2
  refine sX2_signAt (p := p) ok (by omega) (sX2_skip ?_)
  rw [hc]
  refine br_f (by decide) (br_f (by decide) (br_f (by decide) (br_t rfl ?_)))
  unfold wpX2_readSpaces
  rw [nI_1]
  have hx := tx_b ok (p + 1 + 1)
  refine sX2_signAt (p := p + 1 + 1) ok (by omega) (pk_eq (tx n tp (p + 1 + 1)) 44 (fun _ => sX2_n1 (p := p + 1) ok (by omega) a1 (sX2_skip (sX2_n1 (p := p + 1 + 1 + 1) ok (by omega) a4 (sX2_skip (sX4_isOut (j := 0) (by omega) (by omega) (bi_0 ?_)))))) (fun z => absurd (show tx n tp (p + 1 + 1) = 44 from a3) z))
  rw [← e0, show d1 (tx n tp) (p + 1 + 1 + 1) = tl1 (tx n tp) p from e1.symm]
  cases z : inR 0 (tl0 (tx n tp) p) with
  | true =>
    rw [Bool.not_true, cond_false]
    refine sX4_isOut (j := 1) (by omega) (by omega) (bi_0 ?_)
    cases z2 : inR 1 (tl1 (tx n tp) p) with
    | true =>
      rw [Bool.not_true, cond_false]
      refine sX3_beginAnew (S := us (us S 0 (tl0 (tx n tp) p)) 1 (tl1 (tx n tp) p)) (us2_ok g.1 z z2) (fun M' wo' Ms' q1 q2 q3 => ⟨bi_n true, ?_⟩)
      exact h1 _ _ _ _ _ ((ef_s hc).trans (if_pos (by rw [z, z2]; rfl))) (_, _, _, _, _, _, _, _, _, f9, f10, M', wo', Ms') ⟨rfl, rfl, rfl, rfl, rfl, rfl, rfl, rfl, rfl, c9, c10, q1, q2, q3⟩
    | false =>
      rw [Bool.not_false, cond_true]
      exact ⟨bi_n false, h0 ((ef_s hc).trans (if_neg (by rw [z, z2]; decide))) (_, _, _, _, _, _, _, _, _, f9, f10, f11, f12, f13)⟩
  | false =>
    rw [Bool.not_false, cond_true]
    exact ⟨bi_n false, h0 ((ef_s hc).trans (if_neg (by rw [z, Bool.false_and]; decide))) (_, _, _, _, _, _, _, _, _, f9, f10, f11, f12, f13)⟩
theorem rc_t (ok : okT n tp s) (hp : p < 900) (g : okA S w hl pi pc) (c9 : rN (S 5) pi f9) (c10 : rN (S 5) pc f10) (c11 : ∀ o, o < 24 → f11 o = lN (if o < S 0 then w o else 0)) (c12 : ∀ x, x < 48 → f12 x = nI (bo (wd S x) (S 0))) (c13 : ∀ x, x < 48 → f13 x = lN (sw S w x)) (hc : tx n tp p = 116) (a1 : dg (tx n tp) (p + 1) = true) (a2 : dg (tx n tp) (p + 2) = true) (a3 : dg (tx n tp) (p + 3) = true) (he : e = p + 6) (h1 : ∀ S' w' hl' pi' pc', ef (tx n tp) p S w hl pi pc = some (S', w', hl', pi', pc') → ∀ v : PX3, rC S' w' hl' pi' pc' v → post 1 (nI e) v.1 v.2.1 v.2.2.1 v.2.2.2.1 v.2.2.2.2.1 v.2.2.2.2.2.1 v.2.2.2.2.2.2.1 v.2.2.2.2.2.2.2.1 v.2.2.2.2.2.2.2.2.1 v.2.2.2.2.2.2.2.2.2.1 v.2.2.2.2.2.2.2.2.2.2.1 v.2.2.2.2.2.2.2.2.2.2.2.1 v.2.2.2.2.2.2.2.2.2.2.2.2.1 v.2.2.2.2.2.2.2.2.2.2.2.2.2) (h0 : ef (tx n tp) p S w hl pi pc = none → ∀ v : PX3, post 0 (nI e) v.1 v.2.1 v.2.2.1 v.2.2.2.1 v.2.2.2.2.1 v.2.2.2.2.2.1 v.2.2.2.2.2.2.1 v.2.2.2.2.2.2.2.1 v.2.2.2.2.2.2.2.2.1 v.2.2.2.2.2.2.2.2.2.1 v.2.2.2.2.2.2.2.2.2.2.1 v.2.2.2.2.2.2.2.2.2.2.2.1 v.2.2.2.2.2.2.2.2.2.2.2.2.1 v.2.2.2.2.2.2.2.2.2.2.2.2.2) : wpX2_readStatement post (nI n) (nI p) s (nI (S 0)) (nI (S 1)) (nI (S 2)) (nI (S 3)) (nI (S 4)) (nI (S 5)) (lN (bo (hb hl) 48)) (lN (fb_sm w (S 0))) (nI (bo (fun o => decide (0 < w o)) (S 0))) f9 f10 f11 f12 f13 := by
  subst he
  have b1 := d1_b a1
  have b2 := d2_b a2 a3
  have e0 := tl0_t hc
  have e1 := tl1_t hc
  have h4 := g.2.1
  refine sX2_signAt (p := p) ok (by omega) (sX2_skip ?_)
  rw [hc]
  refine br_f (by decide) (br_f (by decide) (br_f (by decide) (br_f (by decide) (br_t rfl (sX2_n1 (p := p + 1) ok (by omega) a1 (sX2_n2 (p := p + 2) ok (by omega) a2 a3 (sX2_plus (p := p + 4) ok (by omega) (sX2_skip ?_))))))))
  rw [show d1 (tx n tp) (p + 1) = tl0 (tx n tp) p from e0.symm, show d2 (tx n tp) (p + 2) = tl1 (tx n tp) p from e1.symm]
  have no : ¬ (tl0 (tx n tp) p < 5 ∧ tl1 (tx n tp) p < 48 ∧ S 4 < 6) → ∀ v : PX3, post 0 (nI (p + 6)) v.1 v.2.1 v.2.2.1 v.2.2.2.1 v.2.2.2.2.1 v.2.2.2.2.2.1 v.2.2.2.2.2.2.1 v.2.2.2.2.2.2.2.1 v.2.2.2.2.2.2.2.2.1 v.2.2.2.2.2.2.2.2.2.1 v.2.2.2.2.2.2.2.2.2.2.1 v.2.2.2.2.2.2.2.2.2.2.2.1 v.2.2.2.2.2.2.2.2.2.2.2.2.1 v.2.2.2.2.2.2.2.2.2.2.2.2.2 := fun z => h0 ((ef_t hc).trans (if_neg z))
  by_cases y1 : tl0 (tx n tp) p < 5
  · refine sX4_isNoTool y1 (br_t rfl ?_)
    by_cases y2 : tl1 (tx n tp) p < 48
    · refine sX4_isNoInch y2 (br_t rfl (pk_lt (S 4) 6 (fun y3 => ?_) (fun y3 => ⟨bi_n false, no (by omega) (_, _, _, _, _, _, _, _, _, f9, f10, f11, f12, f13)⟩)))
      refine sX3_takeTelling g y3 rfl rfl c11 c12 y1 y2 (fun M' Ms' q1 q2 => ⟨bi_n true, ?_⟩)
      exact h1 _ _ _ _ _ ((ef_t hc).trans (if_pos ⟨y1, y2, y3⟩)) (_, _, _, _, _, _, _, _, _, f9, f10, M', f12, Ms') ⟨rfl, rfl, rfl, rfl, rfl, rfl, rfl, rfl, rfl, c9, c10, q1, c12, q2⟩
    · exact sX4_isNoInchN (Or.inr (nI_le (by omega) (by omega))) (br_f (by decide) ⟨bi_n false, no (by omega) (_, _, _, _, _, _, _, _, _, f9, f10, f11, f12, f13)⟩)
  · exact sX4_isNoToolN (Or.inr (nI_le (by omega) (by omega))) (br_f (by decide) ⟨bi_n false, no (by omega) (_, _, _, _, _, _, _, _, _, f9, f10, f11, f12, f13)⟩)
theorem rc_n (ok : okT n tp s) (hp : p < 900) (g : okA S w hl pi pc) (c9 : rN (S 5) pi f9) (c10 : rN (S 5) pc f10) (c11 : ∀ o, o < 24 → f11 o = lN (if o < S 0 then w o else 0)) (c12 : ∀ x, x < 48 → f12 x = nI (bo (wd S x) (S 0))) (c13 : ∀ x, x < 48 → f13 x = lN (sw S w x)) (hc : tx n tp p = 110) (a1 : dg (tx n tp) (p + 1) = true) (a2 : dg (tx n tp) (p + 2) = true) (he : e = p + 5) (h1 : ∀ S' w' hl' pi' pc', ef (tx n tp) p S w hl pi pc = some (S', w', hl', pi', pc') → ∀ v : PX3, rC S' w' hl' pi' pc' v → post 1 (nI e) v.1 v.2.1 v.2.2.1 v.2.2.2.1 v.2.2.2.2.1 v.2.2.2.2.2.1 v.2.2.2.2.2.2.1 v.2.2.2.2.2.2.2.1 v.2.2.2.2.2.2.2.2.1 v.2.2.2.2.2.2.2.2.2.1 v.2.2.2.2.2.2.2.2.2.2.1 v.2.2.2.2.2.2.2.2.2.2.2.1 v.2.2.2.2.2.2.2.2.2.2.2.2.1 v.2.2.2.2.2.2.2.2.2.2.2.2.2) (h0 : ef (tx n tp) p S w hl pi pc = none → ∀ v : PX3, post 0 (nI e) v.1 v.2.1 v.2.2.1 v.2.2.2.1 v.2.2.2.2.1 v.2.2.2.2.2.1 v.2.2.2.2.2.2.1 v.2.2.2.2.2.2.2.1 v.2.2.2.2.2.2.2.2.1 v.2.2.2.2.2.2.2.2.2.1 v.2.2.2.2.2.2.2.2.2.2.1 v.2.2.2.2.2.2.2.2.2.2.2.1 v.2.2.2.2.2.2.2.2.2.2.2.2.1 v.2.2.2.2.2.2.2.2.2.2.2.2.2) : wpX2_readStatement post (nI n) (nI p) s (nI (S 0)) (nI (S 1)) (nI (S 2)) (nI (S 3)) (nI (S 4)) (nI (S 5)) (lN (bo (hb hl) 48)) (lN (fb_sm w (S 0))) (nI (bo (fun o => decide (0 < w o)) (S 0))) f9 f10 f11 f12 f13 := by
  subst he
  have b2 := d2_b a1 a2
  have e0 : tl0 (tx n tp) p = d2 (tx n tp) (p + 1) := tl0_d (by omega) (by omega) (by omega)
  refine sX2_signAt (p := p) ok (by omega) (sX2_skip ?_)
  rw [hc]
  refine br_f (by decide) (br_f (by decide) (br_t rfl (sX2_n2 (p := p + 1) ok (by omega) a1 a2 (sX2_plus (p := p + 3) ok (by omega) (sX2_skip ?_)))))
  rw [show d2 (tx n tp) (p + 1) = tl0 (tx n tp) p from e0.symm]
  have no : ¬ (tl0 (tx n tp) p < 48 ∧ ¬ bo (lm S w (tl0 (tx n tp) p) (decide (tx n tp (p + 3) = 43))) (S 0) = 0) → ∀ v : PX3, post 0 (nI (p + 5)) v.1 v.2.1 v.2.2.1 v.2.2.2.1 v.2.2.2.2.1 v.2.2.2.2.2.1 v.2.2.2.2.2.2.1 v.2.2.2.2.2.2.2.1 v.2.2.2.2.2.2.2.2.1 v.2.2.2.2.2.2.2.2.2.1 v.2.2.2.2.2.2.2.2.2.2.1 v.2.2.2.2.2.2.2.2.2.2.2.1 v.2.2.2.2.2.2.2.2.2.2.2.2.1 v.2.2.2.2.2.2.2.2.2.2.2.2.2 := fun z => h0 ((ef_n hc).trans (if_neg z))
  have hlt := bo_24 (p := lm S w (tl0 (tx n tp) p) (decide (tx n tp (p + 3) = 43))) g.1.2.1
  by_cases y1 : tl0 (tx n tp) p < 48
  · refine sX4_isNoInch y1 (br_t rfl (sX3_byNail g.1 rfl c12 y1 ?_))
    by_cases y2 : bo (lm S w (tl0 (tx n tp) p) (decide (tx n tp (p + 3) = 43))) (S 0) = 0
    · exact br_t ((nI0 (by omega)).mpr y2) (br_t rfl ⟨bi_n false, no (by omega) (_, _, _, _, _, _, _, _, _, f9, f10, f11, f12, f13)⟩)
    · refine br_f (fun z => y2 ((nI0 (by omega)).mp z)) (br_f (by decide) (sX3_takeNail g rfl rfl c11 c12 y1 (fun M' Ms' q1 q2 => ⟨bi_n true, ?_⟩)))
      exact h1 _ _ _ _ _ ((ef_n hc).trans (if_pos ⟨y1, y2⟩)) (_, _, _, _, _, _, _, _, _, f9, f10, M', f12, Ms') ⟨rfl, rfl, rfl, rfl, rfl, rfl, rfl, rfl, rfl, c9, c10, q1, c12, q2⟩
  · exact sX4_isNoInchN (Or.inr (nI_le (by omega) (by omega))) (br_f (by decide) ⟨bi_n false, no (by omega) (_, _, _, _, _, _, _, _, _, f9, f10, f11, f12, f13)⟩)
theorem rc_p (ok : okT n tp s) (hp : p < 900) (g : okA S w hl pi pc) (c9 : rN (S 5) pi f9) (c10 : rN (S 5) pc f10) (c11 : ∀ o, o < 24 → f11 o = lN (if o < S 0 then w o else 0)) (c12 : ∀ x, x < 48 → f12 x = nI (bo (wd S x) (S 0))) (c13 : ∀ x, x < 48 → f13 x = lN (sw S w x)) (hc : tx n tp p = 112) (a1 : dg (tx n tp) (p + 1) = true) (a2 : dg (tx n tp) (p + 2) = true) (a3 : dg (tx n tp) (p + 3) = true) (he : e = p + 5) (h1 : ∀ S' w' hl' pi' pc', ef (tx n tp) p S w hl pi pc = some (S', w', hl', pi', pc') → ∀ v : PX3, rC S' w' hl' pi' pc' v → post 1 (nI e) v.1 v.2.1 v.2.2.1 v.2.2.2.1 v.2.2.2.2.1 v.2.2.2.2.2.1 v.2.2.2.2.2.2.1 v.2.2.2.2.2.2.2.1 v.2.2.2.2.2.2.2.2.1 v.2.2.2.2.2.2.2.2.2.1 v.2.2.2.2.2.2.2.2.2.2.1 v.2.2.2.2.2.2.2.2.2.2.2.1 v.2.2.2.2.2.2.2.2.2.2.2.2.1 v.2.2.2.2.2.2.2.2.2.2.2.2.2) (h0 : ef (tx n tp) p S w hl pi pc = none → ∀ v : PX3, post 0 (nI e) v.1 v.2.1 v.2.2.1 v.2.2.2.1 v.2.2.2.2.1 v.2.2.2.2.2.1 v.2.2.2.2.2.2.1 v.2.2.2.2.2.2.2.1 v.2.2.2.2.2.2.2.2.1 v.2.2.2.2.2.2.2.2.2.1 v.2.2.2.2.2.2.2.2.2.2.1 v.2.2.2.2.2.2.2.2.2.2.2.1 v.2.2.2.2.2.2.2.2.2.2.2.2.1 v.2.2.2.2.2.2.2.2.2.2.2.2.2) : wpX2_readStatement post (nI n) (nI p) s (nI (S 0)) (nI (S 1)) (nI (S 2)) (nI (S 3)) (nI (S 4)) (nI (S 5)) (lN (bo (hb hl) 48)) (lN (fb_sm w (S 0))) (nI (bo (fun o => decide (0 < w o)) (S 0))) f9 f10 f11 f12 f13 := by
  subst he
  have b2 := d2_b a1 a2
  have b1 := d1_b a3
  have e0 : tl0 (tx n tp) p = d2 (tx n tp) (p + 1) := tl0_d (by omega) (by omega) (by omega)
  have e1 := tl1_p hc
  have h5 := g.2.2.1
  refine sX2_signAt (p := p) ok (by omega) (sX2_skip ?_)
  rw [hc]
  refine br_f (by decide) (br_f (by decide) (br_f (by decide) (br_f (by decide) (br_f (by decide) (sX2_n2 (p := p + 1) ok (by omega) a1 a2 (sX2_n1 (p := p + 3) ok (by omega) a3 (sX2_skip ?_)))))))
  rw [show d2 (tx n tp) (p + 1) = tl0 (tx n tp) p from e0.symm, show d1 (tx n tp) (p + 3) = tl1 (tx n tp) p from e1.symm]
  have no : ¬ (tl0 (tx n tp) p < 48 ∧ S 5 < 6) → ∀ v : PX3, post 0 (nI (p + 5)) v.1 v.2.1 v.2.2.1 v.2.2.2.1 v.2.2.2.2.1 v.2.2.2.2.2.1 v.2.2.2.2.2.2.1 v.2.2.2.2.2.2.2.1 v.2.2.2.2.2.2.2.2.1 v.2.2.2.2.2.2.2.2.2.1 v.2.2.2.2.2.2.2.2.2.2.1 v.2.2.2.2.2.2.2.2.2.2.2.1 v.2.2.2.2.2.2.2.2.2.2.2.2.1 v.2.2.2.2.2.2.2.2.2.2.2.2.2 := fun z => h0 ((ef_p hc).trans (if_neg z))
  by_cases y1 : tl0 (tx n tp) p < 48
  · refine sX4_isNoInch y1 (br_t rfl (sX3_room (by omega) (fun y3 => br_f (by decide) (sX3_take y3 ?_)) (fun y3 => br_t rfl ⟨bi_n false, no (by omega) (_, _, _, _, _, _, _, _, _, f9, f10, f11, f12, f13)⟩)))
    rw [nI_1]
    refine ⟨bi_n true, ?_⟩
    exact h1 _ _ _ _ _ ((ef_p hc).trans (if_pos ⟨y1, y3⟩)) (_, _, _, _, _, _, _, _, _, _, _, f11, f12, f13) ⟨rfl, rfl, rfl, rfl, rfl, rfl, rfl, rfl, rfl, rN_upd c9 (by omega), rN_upd c10 (by omega), c11, c12, c13⟩
  · exact sX4_isNoInchN (Or.inr (nI_le (by omega) (by omega))) (br_f (by decide) ⟨bi_n false, no (by omega) (_, _, _, _, _, _, _, _, _, f9, f10, f11, f12, f13)⟩)
theorem sX2_read (ok : okT n tp s) (hp : p < 900) (g : okA S w hl pi pc) (c9 : rN (S 5) pi f9) (c10 : rN (S 5) pc f10) (c11 : ∀ o, o < 24 → f11 o = lN (if o < S 0 then w o else 0)) (c12 : ∀ x, x < 48 → f12 x = nI (bo (wd S x) (S 0))) (c13 : ∀ x, x < 48 → f13 x = lN (sw S w x)) (hq : pa (tx n tp) p = (true, e)) (h1 : ∀ S' w' hl' pi' pc', ef (tx n tp) p S w hl pi pc = some (S', w', hl', pi', pc') → ∀ v : PX3, rC S' w' hl' pi' pc' v → post 1 (nI e) v.1 v.2.1 v.2.2.1 v.2.2.2.1 v.2.2.2.2.1 v.2.2.2.2.2.1 v.2.2.2.2.2.2.1 v.2.2.2.2.2.2.2.1 v.2.2.2.2.2.2.2.2.1 v.2.2.2.2.2.2.2.2.2.1 v.2.2.2.2.2.2.2.2.2.2.1 v.2.2.2.2.2.2.2.2.2.2.2.1 v.2.2.2.2.2.2.2.2.2.2.2.2.1 v.2.2.2.2.2.2.2.2.2.2.2.2.2) (h0 : ef (tx n tp) p S w hl pi pc = none → ∀ v : PX3, post 0 (nI e) v.1 v.2.1 v.2.2.1 v.2.2.2.1 v.2.2.2.2.1 v.2.2.2.2.2.1 v.2.2.2.2.2.2.1 v.2.2.2.2.2.2.2.1 v.2.2.2.2.2.2.2.2.1 v.2.2.2.2.2.2.2.2.2.1 v.2.2.2.2.2.2.2.2.2.2.1 v.2.2.2.2.2.2.2.2.2.2.2.1 v.2.2.2.2.2.2.2.2.2.2.2.2.1 v.2.2.2.2.2.2.2.2.2.2.2.2.2) : wpX2_readStatement post (nI n) (nI p) s (nI (S 0)) (nI (S 1)) (nI (S 2)) (nI (S 3)) (nI (S 4)) (nI (S 5)) (lN (bo (hb hl) 48)) (lN (fb_sm w (S 0))) (nI (bo (fun o => decide (0 < w o)) (S 0))) f9 f10 f11 f12 f13 :=
  pa_cases hq (fun a b c _ d _ f => rc_s2 ok hp g c9 c10 c11 c12 c13 a b c d f h1 h0) (fun a b c d k _ f => rc_s1 ok hp g c9 c10 c11 c12 c13 a b c d k f h1 h0) (fun a b _ f => rc_l ok hp g c9 c10 c11 c12 c13 a b f h1 h0) (fun a b c _ f => rc_d ok hp g c9 c10 c11 c12 c13 a b c f h1 h0) (fun a b c d _ _ f => rc_t ok hp g c9 c10 c11 c12 c13 a b c d f h1 h0) (fun a b c _ _ f => rc_n ok hp g c9 c10 c11 c12 c13 a b c f h1 h0) (fun a b c d _ f => rc_p ok hp g c9 c10 c11 c12 c13 a b c d f h1 h0)
end
