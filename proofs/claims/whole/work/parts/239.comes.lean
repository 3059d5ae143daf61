/-! the reference: a statement comes -/
theorem sX5_comesSet {S : Nat → Nat} {M Mw : Nat → Int32} {U : Int32} {j v : Nat} (hj : j < 4) (hv : v < 1000) {post : Int32 → Int32 → (Nat → Int32) → (Nat → Int32) → Prop} (h1 : inR j v = true → ∀ M', rN 24 (fun _ => 1) M' → post 1 0 (upd M j (nI v)) M') (h0 : inR j v = false → post 0 U M Mw) : wpX5_comesSet post U M Mw (nI j) (nI v) := by
  have hb := lo_b j hj
  refine sX5_leastOf hj (sX5_mostOf hj ?_)
  by_cases q : lo j ≤ v
  · by_cases q2 : v ≤ hi_ j
    · refine sX5_bound0 (nI_le q (by omega)) (nI_le q2 (by omega)) (br_t rfl ⟨vp_in_nI hj (by omega), sX5_alike (fun M' hM => ?_)⟩)
      rw [nI_clamp (by omega)]
      exact h1 (by unfold inR; rw [decide_eq_true q, decide_eq_true q2]; rfl) M' hM
    · exact sX5_boundG (nI_le q (by omega)) (nI_ge (by omega) (by omega)) (br_f (by decide) (h0 (by unfold inR; rw [decide_eq_false q2, Bool.and_false])))
  · exact sX5_boundL (nI_ge (by omega) (by omega)) (br_f (by decide) (h0 (by unfold inR; rw [decide_eq_false q, Bool.false_and])))
theorem nb (q : Prop) [Decidable q] : nI (if q then 1 else 0) = bi (decide q) := by
  by_cases z : q
  · rw [if_pos z, decide_eq_true z]; rfl
  · rw [if_neg z, decide_eq_false z]; rfl
section
variable {n : Nat} {tp : Nat → Nat} {p k : Nat} {S w hl pi pc : Nat → Nat} {se ho pp ch wt L T : Nat → Int32} {post : Int32 → Int32 → Int32 → (Nat → Int32) → (Nat → Int32) → (Nat → Int32) → (Nat → Int32) → (Nat → Int32) → Prop}
theorem cm_d (hk : k < 47) (g : okA S w hl pi pc) (m2 : rS S se) (m3 : rN 48 hl ho) (m4 : rN (S 5) pi pp) (m5 : rN (S 5) pc ch) (m6 : rN (S 0) w wt) (hL : L k = nI (tx n tp p)) (hF : TF (tx n tp) p (3 * k) T) (hc : tx n tp p = 100) (hb : tl0 (tx n tp) p < 1000) (h1 : ∀ S' w' hl' pi' pc', ef (tx n tp) p S w hl pi pc = some (S', w', hl', pi', pc') → ∀ P U a1 a2 a3 a4 a5, rM S' w' hl' pi' pc' P U a1 a2 a3 a4 a5 → post 1 P U a1 a2 a3 a4 a5) (h0 : ef (tx n tp) p S w hl pi pc = none → ∀ P U a1 a2 a3 a4 a5, post 0 P U a1 a2 a3 a4 a5) : wpX5_comes post (nI (S 5)) (nI (S 4)) se ho pp ch wt L T (nI k) := by
  have ec : (nI k).toNatClampNeg = k := nI_clamp (by omega)
  have ec0 : (nI (3 * k)).toNatClampNeg = 3 * k := nI_clamp (by omega)
  have ec1 : (nI (3 * k + 1)).toNatClampNeg = 3 * k + 1 := nI_clamp (by omega)
  have ec2 : (nI (3 * k + 2)).toNatClampNeg = 3 * k + 2 := nI_clamp (by omega)
  have v0 : vp_in (nI (3 * k)) 144 := vp_in_nI (by omega) (by omega)
  have v1 : vp_in (nI (3 * k + 1)) 144 := vp_in_nI (by omega) (by omega)
  have v2 : vp_in (nI (3 * k + 2)) 144 := vp_in_nI (by omega) (by omega)
  unfold wpX5_comes
  rw [ec, hL, show (3 : Int32) = nI 3 from rfl, pk_mul, nI_1, show (2 : Int32) = nI 2 from rfl, nI_add, ec0, ec1, ec2, hF.1, hc]
  refine ⟨vp_in_nI (by omega) (by omega), ?_⟩
  refine br_t rfl ⟨v0, sX5_comesSet (S := S) (j := 2) (by omega) hb (fun z M' hM' => ⟨bi_n true, ?_⟩) (fun z => ⟨bi_n false, h0 ((ef_d hc).trans (if_neg (by rw [z]; decide))) _ _ _ _ _ _ _⟩)⟩
  have zz := inR_t z
  have nok := us_ok g.1 (j := 2) (by omega) zz.1 zz.2
  exact h1 _ _ _ _ _ ((ef_d hc).trans (if_pos z)) _ _ _ _ _ _ _ ⟨rfl, rfl, rS_us m2 (by omega), m3, m4, m5, fun o ho => hM' o (Nat.lt_of_lt_of_le ho nok.2.1)⟩
theorem cm_l (hk : k < 47) (g : okA S w hl pi pc) (m2 : rS S se) (m3 : rN 48 hl ho) (m4 : rN (S 5) pi pp) (m5 : rN (S 5) pc ch) (m6 : rN (S 0) w wt) (hL : L k = nI (tx n tp p)) (hF : TF (tx n tp) p (3 * k) T) (hc : tx n tp p = 108) (hb : tl0 (tx n tp) p < 6) (h1 : ∀ S' w' hl' pi' pc', ef (tx n tp) p S w hl pi pc = some (S', w', hl', pi', pc') → ∀ P U a1 a2 a3 a4 a5, rM S' w' hl' pi' pc' P U a1 a2 a3 a4 a5 → post 1 P U a1 a2 a3 a4 a5) (h0 : ef (tx n tp) p S w hl pi pc = none → ∀ P U a1 a2 a3 a4 a5, post 0 P U a1 a2 a3 a4 a5) : wpX5_comes post (nI (S 5)) (nI (S 4)) se ho pp ch wt L T (nI k) := by
  have ec : (nI k).toNatClampNeg = k := nI_clamp (by omega)
  have ec0 : (nI (3 * k)).toNatClampNeg = 3 * k := nI_clamp (by omega)
  have ec1 : (nI (3 * k + 1)).toNatClampNeg = 3 * k + 1 := nI_clamp (by omega)
  have ec2 : (nI (3 * k + 2)).toNatClampNeg = 3 * k + 2 := nI_clamp (by omega)
  have v0 : vp_in (nI (3 * k)) 144 := vp_in_nI (by omega) (by omega)
  have v1 : vp_in (nI (3 * k + 1)) 144 := vp_in_nI (by omega) (by omega)
  have v2 : vp_in (nI (3 * k + 2)) 144 := vp_in_nI (by omega) (by omega)
  unfold wpX5_comes
  rw [ec, hL, show (3 : Int32) = nI 3 from rfl, pk_mul, nI_1, show (2 : Int32) = nI 2 from rfl, nI_add, ec0, ec1, ec2, hF.1, hc]
  refine ⟨vp_in_nI (by omega) (by omega), ?_⟩
  have z : inR 3 (tl0 (tx n tp) p) = true := by
    unfold inR
    rw [decide_eq_true (show lo 3 ≤ tl0 (tx n tp) p from Nat.zero_le _), decide_eq_true (show tl0 (tx n tp) p ≤ hi_ 3 from (by show tl0 (tx n tp) p ≤ 5; omega))]; rfl
  refine br_f (by decide) (br_t rfl ⟨v0, sX5_comesSet (S := S) (j := 3) (by omega) (by omega) (fun _ M' hM' => ⟨bi_n true, ?_⟩) (fun z2 => absurd (z.symm.trans z2) (by decide))⟩)
  have zz := inR_t z
  have nok := us_ok g.1 (j := 3) (by omega) zz.1 zz.2
  exact h1 _ _ _ _ _ (ef_l hc) _ _ _ _ _ _ _ ⟨rfl, rfl, rS_us m2 (by omega), m3, m4, m5, fun o ho => hM' o (Nat.lt_of_lt_of_le ho nok.2.1)⟩
theorem cm_s (hk : k < 47) (g : okA S w hl pi pc) (m2 : rS S se) (m3 : rN 48 hl ho) (m4 : rN (S 5) pi pp) (m5 : rN (S 5) pc ch) (m6 : rN (S 0) w wt) (hL : L k = nI (tx n tp p)) (hF : TF (tx n tp) p (3 * k) T) (hc : tx n tp p = 115) (hb : tl0 (tx n tp) p < 1000) (hb1 : tl1 (tx n tp) p < 1000) (h1 : ∀ S' w' hl' pi' pc', ef (tx n tp) p S w hl pi pc = some (S', w', hl', pi', pc') → ∀ P U a1 a2 a3 a4 a5, rM S' w' hl' pi' pc' P U a1 a2 a3 a4 a5 → post 1 P U a1 a2 a3 a4 a5) (h0 : ef (tx n tp) p S w hl pi pc = none → ∀ P U a1 a2 a3 a4 a5, post 0 P U a1 a2 a3 a4 a5) : wpX5_comes post (nI (S 5)) (nI (S 4)) se ho pp ch wt L T (nI k) := by
  have ec : (nI k).toNatClampNeg = k := nI_clamp (by omega)
  have ec0 : (nI (3 * k)).toNatClampNeg = 3 * k := nI_clamp (by omega)
  have ec1 : (nI (3 * k + 1)).toNatClampNeg = 3 * k + 1 := nI_clamp (by omega)
  have ec2 : (nI (3 * k + 2)).toNatClampNeg = 3 * k + 2 := nI_clamp (by omega)
  have v0 : vp_in (nI (3 * k)) 144 := vp_in_nI (by omega) (by omega)
  have v1 : vp_in (nI (3 * k + 1)) 144 := vp_in_nI (by omega) (by omega)
  have v2 : vp_in (nI (3 * k + 2)) 144 := vp_in_nI (by omega) (by omega)
  unfold wpX5_comes
  rw [ec, hL, show (3 : Int32) = nI 3 from rfl, pk_mul, nI_1, show (2 : Int32) = nI 2 from rfl, nI_add, ec0, ec1, ec2, hF.1, hc]
  refine ⟨vp_in_nI (by omega) (by omega), ?_⟩
  rw [hF.2.1 (by omega) (by omega)]
  refine br_f (by decide) (br_f (by decide) (br_f (by decide) (br_t rfl ⟨v0, sX5_comesSet (S := S) (j := 0) (by omega) hb (fun z M' hM' => br_f (by decide) ⟨v1, sX5_comesSet (S := S) (j := 1) (by omega) hb1 (fun z2 M2 hM2 => br_f (by decide) ?_) (fun z2 => br_t rfl (h0 ((ef_s hc).trans (if_neg (by rw [z, z2]; decide))) _ _ _ _ _ _ _))⟩) (fun z => br_t rfl (h0 ((ef_s hc).trans (if_neg (by rw [z, Bool.false_and]; decide))) _ _ _ _ _ _ _))⟩)))
  have nok := us2_ok g.1 z z2
  exact h1 _ _ _ _ _ ((ef_s hc).trans (if_pos (by rw [z, z2]; rfl))) _ _ _ _ _ _ _ ⟨rfl, rfl, rS_us (rS_us m2 (by omega)) (by omega), m3, m4, m5, fun o ho => hM2 o (Nat.lt_of_lt_of_le ho nok.2.1)⟩
theorem cm_t (hk : k < 47) (g : okA S w hl pi pc) (m2 : rS S se) (m3 : rN 48 hl ho) (m4 : rN (S 5) pi pp) (m5 : rN (S 5) pc ch) (m6 : rN (S 0) w wt) (hL : L k = nI (tx n tp p)) (hF : TF (tx n tp) p (3 * k) T) (hc : tx n tp p = 116) (hb : tl0 (tx n tp) p < 1000) (hb1 : tl1 (tx n tp) p < 1000) (h1 : ∀ S' w' hl' pi' pc', ef (tx n tp) p S w hl pi pc = some (S', w', hl', pi', pc') → ∀ P U a1 a2 a3 a4 a5, rM S' w' hl' pi' pc' P U a1 a2 a3 a4 a5 → post 1 P U a1 a2 a3 a4 a5) (h0 : ef (tx n tp) p S w hl pi pc = none → ∀ P U a1 a2 a3 a4 a5, post 0 P U a1 a2 a3 a4 a5) : wpX5_comes post (nI (S 5)) (nI (S 4)) se ho pp ch wt L T (nI k) := by
  have ec : (nI k).toNatClampNeg = k := nI_clamp (by omega)
  have ec0 : (nI (3 * k)).toNatClampNeg = 3 * k := nI_clamp (by omega)
  have ec1 : (nI (3 * k + 1)).toNatClampNeg = 3 * k + 1 := nI_clamp (by omega)
  have ec2 : (nI (3 * k + 2)).toNatClampNeg = 3 * k + 2 := nI_clamp (by omega)
  have v0 : vp_in (nI (3 * k)) 144 := vp_in_nI (by omega) (by omega)
  have v1 : vp_in (nI (3 * k + 1)) 144 := vp_in_nI (by omega) (by omega)
  have v2 : vp_in (nI (3 * k + 2)) 144 := vp_in_nI (by omega) (by omega)
  unfold wpX5_comes
  rw [ec, hL, show (3 : Int32) = nI 3 from rfl, pk_mul, nI_1, show (2 : Int32) = nI 2 from rfl, nI_add, ec0, ec1, ec2, hF.1, hc]
  refine ⟨vp_in_nI (by omega) (by omega), ?_⟩
  have h4 := g.2.1
  have no : ¬ (tl0 (tx n tp) p < 5 ∧ tl1 (tx n tp) p < 48 ∧ S 4 < 6) → ∀ P U a1 a2 a3 a4 a5, post 0 P U a1 a2 a3 a4 a5 := fun z => h0 ((ef_t hc).trans (if_neg z))
  rw [hF.2.1 (by omega) (by omega), hF.2.2 hc]
  refine br_f (by decide) (br_f (by decide) (br_f (by decide) (br_f (by decide) (br_t rfl ⟨v0, pk_lt 4 (tl0 (tx n tp) p) (fun y1 => no (by omega) _ _ _ _ _ _ _) (fun y1 => ⟨v1, ?_⟩)⟩))))
  by_cases y2 : tl1 (tx n tp) p < 48
  · refine sX5_isInch y2 (br_f (by decide) (pk_eq (S 4) 6 (fun y3 => no (by omega) _ _ _ _ _ _ _) (fun y3 => ⟨v0, v1, v2, ?_⟩)))
    rw [show nI (tl2 (tx n tp) p) = bi (decide (tx n tp (p + 4) = 43)) from nb _]
    refine sX5_tells g (by omega) rfl m2 m3 m6 (by omega) y2 (fun Mh' Mw' q1 q2 => ?_)
    exact h1 _ _ _ _ _ ((ef_t hc).trans (if_pos ⟨by omega, y2, by omega⟩)) _ _ _ _ _ _ _ ⟨rfl, rfl, m2, q1, m4, m5, q2⟩
  · exact sX5_isInchN (Or.inr (nI_le (by omega) (by omega))) (br_t rfl (no (by omega) _ _ _ _ _ _ _))
theorem cm_n (hk : k < 47) (g : okA S w hl pi pc) (m2 : rS S se) (m3 : rN 48 hl ho) (m4 : rN (S 5) pi pp) (m5 : rN (S 5) pc ch) (m6 : rN (S 0) w wt) (hL : L k = nI (tx n tp p)) (hF : TF (tx n tp) p (3 * k) T) (hc : tx n tp p = 110) (hb : tl0 (tx n tp) p < 1000) (h1 : ∀ S' w' hl' pi' pc', ef (tx n tp) p S w hl pi pc = some (S', w', hl', pi', pc') → ∀ P U a1 a2 a3 a4 a5, rM S' w' hl' pi' pc' P U a1 a2 a3 a4 a5 → post 1 P U a1 a2 a3 a4 a5) (h0 : ef (tx n tp) p S w hl pi pc = none → ∀ P U a1 a2 a3 a4 a5, post 0 P U a1 a2 a3 a4 a5) : wpX5_comes post (nI (S 5)) (nI (S 4)) se ho pp ch wt L T (nI k) := by
  have ec : (nI k).toNatClampNeg = k := nI_clamp (by omega)
  have ec0 : (nI (3 * k)).toNatClampNeg = 3 * k := nI_clamp (by omega)
  have ec1 : (nI (3 * k + 1)).toNatClampNeg = 3 * k + 1 := nI_clamp (by omega)
  have ec2 : (nI (3 * k + 2)).toNatClampNeg = 3 * k + 2 := nI_clamp (by omega)
  have v0 : vp_in (nI (3 * k)) 144 := vp_in_nI (by omega) (by omega)
  have v1 : vp_in (nI (3 * k + 1)) 144 := vp_in_nI (by omega) (by omega)
  have v2 : vp_in (nI (3 * k + 2)) 144 := vp_in_nI (by omega) (by omega)
  unfold wpX5_comes
  rw [ec, hL, show (3 : Int32) = nI 3 from rfl, pk_mul, nI_1, show (2 : Int32) = nI 2 from rfl, nI_add, ec0, ec1, ec2, hF.1, hc]
  refine ⟨vp_in_nI (by omega) (by omega), ?_⟩
  have no : ¬ (tl0 (tx n tp) p < 48 ∧ ¬ bo (lm S w (tl0 (tx n tp) p) (decide (tx n tp (p + 3) = 43))) (S 0) = 0) → ∀ P U a1 a2 a3 a4 a5, post 0 P U a1 a2 a3 a4 a5 := fun z => h0 ((ef_n hc).trans (if_neg z))
  have hcb := cl_b S w (tl0 (tx n tp) p) (decide (tx n tp (p + 3) = 43)) (S 0)
  have h24 := g.1.2.1
  rw [hF.2.1 (by omega) (by omega), tl1_n hc, nb]
  refine br_f (by decide) (br_f (by decide) (br_t rfl ⟨v0, ?_⟩))
  by_cases y1 : tl0 (tx n tp) p < 48
  · refine sX5_isInch y1 (br_f (by decide) ⟨v0, v1, sX5_leftBy m2 g.1 m6 (okA_w2 g) y1 ?_⟩)
    by_cases y2 : bo (lm S w (tl0 (tx n tp) p) (decide (tx n tp (p + 3) = 43))) (S 0) = 0
    · exact br_t ((nI0 (by omega)).mpr (cl_0.mpr y2)) (no (by omega) _ _ _ _ _ _ _)
    · refine br_f (fun z => y2 (cl_0.mp ((nI0 (by omega)).mp z))) ⟨v0, v1, sX5_nails g m2 m3 m6 y1 (fun Mh' Mw' q1 q2 => ?_)⟩
      exact h1 _ _ _ _ _ ((ef_n hc).trans (if_pos ⟨y1, y2⟩)) _ _ _ _ _ _ _ ⟨rfl, rfl, m2, q1, m4, m5, q2⟩
  · exact sX5_isInchN (Or.inr (nI_le (by omega) (by omega))) (br_t rfl (no (by omega) _ _ _ _ _ _ _))
theorem cm_p (hk : k < 47) (g : okA S w hl pi pc) (m2 : rS S se) (m3 : rN 48 hl ho) (m4 : rN (S 5) pi pp) (m5 : rN (S 5) pc ch) (m6 : rN (S 0) w wt) (hL : L k = nI (tx n tp p)) (hF : TF (tx n tp) p (3 * k) T) (hc : tx n tp p = 112) (hb : tl0 (tx n tp) p < 1000) (h1 : ∀ S' w' hl' pi' pc', ef (tx n tp) p S w hl pi pc = some (S', w', hl', pi', pc') → ∀ P U a1 a2 a3 a4 a5, rM S' w' hl' pi' pc' P U a1 a2 a3 a4 a5 → post 1 P U a1 a2 a3 a4 a5) (h0 : ef (tx n tp) p S w hl pi pc = none → ∀ P U a1 a2 a3 a4 a5, post 0 P U a1 a2 a3 a4 a5) : wpX5_comes post (nI (S 5)) (nI (S 4)) se ho pp ch wt L T (nI k) := by
  have ec : (nI k).toNatClampNeg = k := nI_clamp (by omega)
  have ec0 : (nI (3 * k)).toNatClampNeg = 3 * k := nI_clamp (by omega)
  have ec1 : (nI (3 * k + 1)).toNatClampNeg = 3 * k + 1 := nI_clamp (by omega)
  have ec2 : (nI (3 * k + 2)).toNatClampNeg = 3 * k + 2 := nI_clamp (by omega)
  have v0 : vp_in (nI (3 * k)) 144 := vp_in_nI (by omega) (by omega)
  have v1 : vp_in (nI (3 * k + 1)) 144 := vp_in_nI (by omega) (by omega)
  have v2 : vp_in (nI (3 * k + 2)) 144 := vp_in_nI (by omega) (by omega)
  unfold wpX5_comes
  rw [ec, hL, show (3 : Int32) = nI 3 from rfl, pk_mul, nI_1, show (2 : Int32) = nI 2 from rfl, nI_add, ec0, ec1, ec2, hF.1, hc]
  refine ⟨vp_in_nI (by omega) (by omega), ?_⟩
  have h5 := g.2.2.1
  have no : ¬ (tl0 (tx n tp) p < 48 ∧ S 5 < 6) → ∀ P U a1 a2 a3 a4 a5, post 0 P U a1 a2 a3 a4 a5 := fun z => h0 ((ef_p hc).trans (if_neg z))
  rw [hF.2.1 (by omega) (by omega)]
  refine br_f (by decide) (br_f (by decide) (br_f (by decide) (br_f (by decide) (br_f (by decide) ⟨v0, ?_⟩))))
  by_cases y1 : tl0 (tx n tp) p < 48
  · refine sX5_isInch y1 (br_f (by decide) (pk_eq (S 5) 6 (fun y3 => no (by omega) _ _ _ _ _ _ _) (fun y3 => ⟨v0, v1, vp_in_nI (by omega) (by omega), vp_in_nI (by omega) (by omega), ?_⟩)))
    rw [nI_1]
    exact h1 _ _ _ _ _ ((ef_p hc).trans (if_pos ⟨y1, by omega⟩)) _ _ _ _ _ _ _ ⟨rfl, rfl, m2, m3, rN_upd m4 (by omega), rN_upd m5 (by omega), m6⟩
  · exact sX5_isInchN (Or.inr (nI_le (by omega) (by omega))) (br_t rfl (no (by omega) _ _ _ _ _ _ _))
theorem sX5_comes (hk : k < 47) (g : okA S w hl pi pc) (m2 : rS S se) (m3 : rN 48 hl ho) (m4 : rN (S 5) pi pp) (m5 : rN (S 5) pc ch) (m6 : rN (S 0) w wt) (hL : L k = nI (tx n tp p)) (hF : TF (tx n tp) p (3 * k) T) {e : Nat} (hq : pa (tx n tp) p = (true, e)) (h1 : ∀ S' w' hl' pi' pc', ef (tx n tp) p S w hl pi pc = some (S', w', hl', pi', pc') → ∀ P U a1 a2 a3 a4 a5, rM S' w' hl' pi' pc' P U a1 a2 a3 a4 a5 → post 1 P U a1 a2 a3 a4 a5) (h0 : ef (tx n tp) p S w hl pi pc = none → ∀ P U a1 a2 a3 a4 a5, post 0 P U a1 a2 a3 a4 a5) : wpX5_comes post (nI (S 5)) (nI (S 4)) se ho pp ch wt L T (nI k) := by
  refine pa_cases hq (fun a b c _ d _ f => ?_) (fun a b c _ d _ f => ?_) (fun a b _ f => ?_) (fun a b c _ f => ?_) (fun a b c d _ _ f => ?_) (fun a b c _ _ f => ?_) (fun a b c d _ f => ?_)
  · have x0 := tl0_s2 a c
    have x1 := tl1_s2 a c
    have y0 := d2_b b c
    have y1 := d1_b d
    exact cm_s hk g m2 m3 m4 m5 m6 hL hF a (by omega) (by omega) h1 h0
  · have x0 := tl0_s1 a c
    have x1 := tl1_s1 a c
    have y0 := d1_b b
    have y1 := d1_b d
    exact cm_s hk g m2 m3 m4 m5 m6 hL hF a (by omega) (by omega) h1 h0
  · have x0 := tl0_l a
    have y0 : lwN (tx n tp (p + 1)) < 6 := of_decide_eq_true b
    exact cm_l hk g m2 m3 m4 m5 m6 hL hF a (by omega) h1 h0
  · have x0 : tl0 (tx n tp) p = d2 (tx n tp) (p + 1) := tl0_d (by omega) (by omega) (by omega)
    have y0 := d2_b b c
    exact cm_d hk g m2 m3 m4 m5 m6 hL hF a (by omega) h1 h0
  · have x0 := tl0_t a
    have x1 := tl1_t a
    have y0 := d1_b b
    have y1 := d2_b c d
    exact cm_t hk g m2 m3 m4 m5 m6 hL hF a (by omega) (by omega) h1 h0
  · have x0 : tl0 (tx n tp) p = d2 (tx n tp) (p + 1) := tl0_d (by omega) (by omega) (by omega)
    have y0 := d2_b b c
    exact cm_n hk g m2 m3 m4 m5 m6 hL hF a (by omega) h1 h0
  · have x0 : tl0 (tx n tp) p = d2 (tx n tp) (p + 1) := tl0_d (by omega) (by omega) (by omega)
    have y0 := d2_b b c
    exact cm_p hk g m2 m3 m4 m5 m6 hL hF a (by omega) h1 h0
end
