/-! count -/
def cw (w : Nat → Nat) (n : Nat) : Nat := fb_sm (fun o => (decide (0 < w o)).toNat) n
theorem sX3_openCount {w : Nat → Nat} {n : Nat} (hn : n ≤ 24) {O : Int32} (eO : O = nI (bo (fun o => decide (0 < w o)) n)) {post : Int32 → Prop} (h : post (nI (cw w n))) : wpJ6_bitCount_0f7a4 post O := by
  subst eO
  have h1 := bo_lt (fun o => decide (0 < w o)) n
  have h2 : 2 ^ n ≤ 2 ^ 24 := Nat.pow_le_pow_right (by decide) hn
  refine sJ6 (by omega) ?_
  rw [pn_bo _ (by omega)]
  exact h
theorem lX5_withWeight {S w : Nat → Nat} {M Mw : Nat → Int32} (hS : rS S M) (ok : okS S) (hw : rN (S 0) w Mw) (hb : ∀ o, o < S 0 → w o < 2 ^ 31) {K : Int32 → Int32 → Prop} (h : K (nI (cw w (S 0))) (nI (S 0))) : ∀ d i, i + d = S 0 → lpX5_withWeight_4 K M Mw (d + 1) (nI (cw w i)) (nI i) := by
  obtain ⟨o1, o2, o3, o4, o5, o6⟩ := id ok
  intro d
  induction d with
  | zero =>
    intro i hi
    have e : i = S 0 := by omega
    subst e
    rw [lpX5_withWeight_4, hS.1]
    exact br_t (nI_le (Nat.le_refl _) (by omega)) h
  | succ d ih =>
    intro i hi
    rw [lpX5_withWeight_4, hS.1]
    have ih := ih (i + 1) (by omega)
    have e : cw w (i + 1) = cw w i + (decide (0 < w i)).toNat := rfl
    rw [e] at ih
    have hwi := hb i (by omega)
    refine br_f (nI_ge (by omega) (by omega)) ⟨vp_in_nI (by omega) (by omega), ?_⟩
    rw [nI_clamp (by omega), hw i (by omega)]
    refine pk_le (w i) 0 (fun q => ?_) (fun q => ?_)
    · rw [decide_eq_false (by omega)] at ih
      rw [show (0 : Int32) = nI 0 from rfl, nI_add, nI_1]
      exact ih
    · rw [decide_eq_true q] at ih
      rw [nI_1, nI_1]
      exact ih
theorem sX5_withWeight {S w : Nat → Nat} {M Mw : Nat → Int32} (hS : rS S M) (ok : okS S) (hw : rN (S 0) w Mw) (hb : ∀ o, o < S 0 → w o < 2 ^ 31) {post : Int32 → Prop} (h : post (nI (cw w (S 0)))) : wpX5_withWeight post M Mw :=
  ⟨S 0 + 1, lX5_withWeight (K := fun v _ => post v) hS ok hw hb h (S 0) 0 (by omega)⟩
theorem no_eq {x : Int32} {n : Nat} (h : x < 0 ∨ nI 17 ≤ x) (hn : n < 17) : ¬ x = nI n := by
  intro e
  subst e
  rcases h with h | h
  · exact nI_pos (by omega) h
  · exact nI_ge hn (by omega) h
theorem ph_count : PH_count RE := by
  intro v_T v_n v_k v_t v_s v_r v_c v_M p0 hR
  obtain ⟨S, w, hl, pi, pc, g1, g2, g3, g4, g5, g6, g7⟩ := id hR
  obtain ⟨a1, a2, a3, a4, a5, a6, a7⟩ := id g1
  obtain ⟨c0, c1, c2, c3, c4, c5, c6, c7, c8, c9, c10, c11, c12, c13⟩ := id g2
  obtain ⟨m0, m1, m2, m3, m4, m5, m6⟩ := id g3
  obtain ⟨s0, s1, s2, s3⟩ := id m2
  obtain ⟨tn, tp, t8, t1, t2, t3⟩ := id g4
  obtain ⟨rn, rw_, r8, r1, r2, r3⟩ := id g5
  have sIn : ∀ (j : Nat) {post : Int32 → Prop}, j < 11 → post 0 → wpX5_isIn post (nI j) 11 16 := fun j post hj h => br_t (nI_lt (a := j) (b := 11) hj (by omega)) h
  refine inX (x := p0) 17 (by omega) (fun q => ?_) (fun j hj e => ?_)
  · have ref : wpX5_count (fun r => (-9 : Int32) = r ∧ RE v_T v_n v_k v_s v_r v_M) v_M.1 v_M.2.1 v_M.2.2.1 v_M.2.2.2.2.2.2.2.2.2.2.1 v_M.2.2.2.2.2.2.2.2.2.2.2.1 v_M.2.2.2.2.2.2.2.2.2.2.2.2.1 v_M.2.2.2.2.2.2.2.2.2.2.2.2.2.1 v_M.2.2.2.2.2.2.2.2.2.2.2.2.2.2.2.2.1 p0 := by
      have t : wpX5_isIn (fun r => r = 0) p0 11 16 := by
        rcases q with q | q
        · exact br_t (Int32.lt_trans q (by decide)) rfl
        · by_cases q1 : p0 < 11
          · exact br_t q1 rfl
          · refine br_f q1 (br_t ?_ rfl)
            have h1 := Int32.le_iff_toInt_le.mp q
            rw [nI_toInt (by omega)] at h1
            rw [Int32.lt_iff_toInt_lt, show (16 : Int32).toInt = 16 by decide]
            omega
      have t2 : ∀ {post : Int32 → Prop}, post 0 → wpX5_isIn post p0 11 16 := fun {post} h => by
        revert t
        unfold wpX5_isIn
        intro t
        refine ⟨fun z => h, fun z => ⟨fun z2 => h, fun z2 => ?_⟩⟩
        exact absurd ((t.2 z).2 z2) (by decide)
      exact t2 (br_t rfl (br_f (no_eq (n := 0) q (by omega)) (br_f (no_eq (n := 1) q (by omega)) (br_f (no_eq (n := 2) q (by omega)) (br_f (no_eq (n := 3) q (by omega)) (br_f (no_eq (n := 4) q (by omega)) (br_f (no_eq (n := 5) q (by omega)) (br_f (no_eq (n := 6) q (by omega)) (br_f (no_eq (n := 7) q (by omega)) (br_f (no_eq (n := 8) q (by omega)) (br_f (no_eq (n := 9) q (by omega)) ⟨rfl, hR⟩)))))))))))
    by_cases q1 : p0 ≤ 10
    · exact br_t q1 (br_f (no_eq (n := 0) q (by omega)) (br_f (no_eq (n := 1) q (by omega)) (br_f (no_eq (n := 2) q (by omega)) (br_f (no_eq (n := 3) q (by omega)) (br_f (no_eq (n := 4) q (by omega)) (br_f (no_eq (n := 5) q (by omega)) (br_f (no_eq (n := 6) q (by omega)) (br_f (no_eq (n := 7) q (by omega)) (br_f (no_eq (n := 8) q (by omega)) (br_f (no_eq (n := 9) q (by omega)) ref))))))))))
    · have q2 : 16 < p0 := by
        rcases q with q | q
        · exact absurd (Int32.le_of_lt (Int32.lt_trans q (by decide))) q1
        · have h1 := Int32.le_iff_toInt_le.mp q
          rw [nI_toInt (by omega)] at h1
          rw [Int32.lt_iff_toInt_lt, show (16 : Int32).toInt = 16 by decide]
          omega
      exact br_f q1 (br_t q2 (br_f (no_eq (n := 0) q (by omega)) (br_f (no_eq (n := 1) q (by omega)) (br_f (no_eq (n := 2) q (by omega)) (br_f (no_eq (n := 3) q (by omega)) (br_f (no_eq (n := 4) q (by omega)) (br_f (no_eq (n := 5) q (by omega)) (br_f (no_eq (n := 6) q (by omega)) (br_f (no_eq (n := 7) q (by omega)) (br_f (no_eq (n := 8) q (by omega)) (br_f (no_eq (n := 9) q (by omega)) ref)))))))))))
  · subst e
    by_cases hj2 : j ≤ 10
    · refine br_t (nI_le (a := j) (b := 10) hj2 (by omega)) ?_
      refine pk_eq j 0 (fun q => ?_) (fun q0 => pk_eq j 1 (fun q => ?_) (fun q1 => pk_eq j 2 (fun q => ?_) (fun q2 => pk_eq j 3 (fun q => ?_) (fun q3 => pk_eq j 4 (fun q => ?_) (fun q4 => pk_eq j 5 (fun q => ?_) (fun q5 => pk_eq j 6 (fun q => ?_) (fun q6 => pk_eq j 7 (fun q => ?_) (fun q7 => pk_eq j 8 (fun q => ?_) (fun q8 => pk_eq j 9 (fun q => ?_) (fun q9 => ?_))))))))))
      · subst q
        refine sX3_openCount a1.2.1 c8 (sIn 0 (by omega) (br_t rfl (br_t rfl (sX5_withWeight m2 a1 m6 (okA_w2 g1) ⟨rfl, hR⟩))))
      · subst q
        exact sIn 1 (by omega) (br_t rfl (br_f (by decide) (br_t rfl ⟨c4.trans m1.symm, hR⟩)))
      · subst q
        exact sX3_allHoles a7 c6 (sIn 2 (by omega) (br_t rfl (br_f (by decide) (br_f (by decide) (br_t rfl (sX5_holesMany m3 ⟨rfl, hR⟩))))))
      · subst q
        exact sIn 3 (by omega) (br_t rfl (br_f (by decide) (br_f (by decide) (br_f (by decide) (br_t rfl ⟨c5.trans m0.symm, hR⟩)))))
      · subst q
        exact sIn 4 (by omega) (br_t rfl (br_f (by decide) (br_f (by decide) (br_f (by decide) (br_f (by decide) (br_t rfl ⟨vp_in_nI (n := 0) (by omega) (by omega), c0.trans s0.symm, hR⟩))))))
      · subst q
        exact sIn 5 (by omega) (br_t rfl (br_f (by decide) (br_f (by decide) (br_f (by decide) (br_f (by decide) (br_f (by decide) (br_t rfl ⟨vp_in_nI (n := 1) (by omega) (by omega), c1.trans s1.symm, hR⟩)))))))
      · subst q
        exact sIn 6 (by omega) (br_t rfl (br_f (by decide) (br_f (by decide) (br_f (by decide) (br_f (by decide) (br_f (by decide) (br_f (by decide) (br_t rfl ⟨vp_in_nI (n := 2) (by omega) (by omega), c2.trans s2.symm, hR⟩))))))))
      · subst q
        exact sIn 7 (by omega) (br_t rfl (br_f (by decide) (br_f (by decide) (br_f (by decide) (br_f (by decide) (br_f (by decide) (br_f (by decide) (br_f (by decide) (br_t rfl ⟨vp_in_nI (n := 3) (by omega) (by omega), c3.trans s3.symm, hR⟩)))))))))
      · subst q
        exact sIn 8 (by omega) (br_t rfl (br_f (by decide) (br_f (by decide) (br_f (by decide) (br_f (by decide) (br_f (by decide) (br_f (by decide) (br_f (by decide) (br_f (by decide) (br_t rfl ⟨r1.trans r2.symm, hR⟩))))))))))
      · subst q
        exact sIn 9 (by omega) (br_t rfl (br_f (by decide) (br_f (by decide) (br_f (by decide) (br_f (by decide) (br_f (by decide) (br_f (by decide) (br_f (by decide) (br_f (by decide) (br_f (by decide) (br_t rfl ⟨t1.trans t2.symm, hR⟩)))))))))))
      · have e : j = 10 := by omega
        subst e
        exact sIn 10 (by omega) (br_t rfl (br_f (by decide) (br_f (by decide) (br_f (by decide) (br_f (by decide) (br_f (by decide) (br_f (by decide) (br_f (by decide) (br_f (by decide) (br_f (by decide) (br_f (by decide) ⟨rfl, hR⟩)))))))))))
    · have e : nI j - 10 = nI (j - 10) := pk_sub (b := 10) (by omega)
      refine br_f (nI_ge (b := j) (a := 10) (by omega) (by omega)) (br_f (nI_nlt (a := 16) (b := j) (by omega) (by omega)) ?_)
      rw [e]
      refine ⟨vp_in_nI (by omega) (by omega), ?_⟩
      refine br_f (nI_nlt (a := j) (b := 11) (by omega) (by omega)) (br_f (nI_nlt (a := 16) (b := j) (by omega) (by omega)) (br_f (by decide) ?_))
      rw [e]
      refine ⟨vp_in_nI (by omega) (by omega), ?_, hR⟩
      rw [nI_clamp (by omega)]
      exact g6 (j - 10) (by omega)
