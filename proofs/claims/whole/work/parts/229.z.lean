theorem ai_out {rw_ : Nat → Nat} : ∀ d i, ai rw_ d i = false → ∃ j, j < i + d ∧ ¬ rw_ j % 50 < 48
  | 0, i, h => absurd (show true = false from h) (by decide)
  | d + 1, i, h => by
    unfold ai at h
    by_cases c : rw_ i % 50 < 48
    · rw [decide_eq_true c, Bool.true_and] at h
      obtain ⟨j, h1, h2⟩ := ai_out d (i + 1) h
      exact ⟨j, by omega, h2⟩
    · exact ⟨i, by omega, c⟩
theorem ph_happened : PH_happened RE := by
  intro v_T v_n v_k v_t v_s v_r v_c v_M p0 p1 hR
  obtain ⟨S, w, hl, pi, pc, g1, g2, g3, g4, ⟨n, rw_, h8, e1, e2, e3⟩, g6, g7⟩ := id hR
  have g5 : rRw v_r v_M := ⟨n, rw_, h8, e1, e2, e3⟩
  obtain ⟨c0, c1, c2, c3, c4, c5, c6, c7, c8, c9, c10, c11, c12, c13⟩ := id g2
  obtain ⟨m0, m1, m2, m3, m4, m5, m6⟩ := id g3
  have hr1 : ∀ i, i < n → rw_ i < 100 ∧ ur_numbers v_r i = nI (rw_ i) := fun i hi => ⟨(e3 i hi).1, (e3 i hi).2.1⟩
  have hr2 : ∀ i, i < n → rw_ i < 100 ∧ uM_row v_M i = nI (rw_ i) := fun i hi => ⟨(e3 i hi).1, (e3 i hi).2.2⟩
  refine inX (x := p0) 5 (by omega) (fun q => ?_) (fun k hk e => ?_)
  · refine sX4_isNoToolN q (br_f (by decide) (sX4_refuseLong 2 (by decide) rfl ?_))
    exact sX5_isInN 4 (by omega) rfl q (br_t rfl (sX5_lowest 2 (by decide) rfl ⟨rfl, S, w, hl, pi, pc, g1, g2, g3, g4, g5, rf_upd g6 2, g7⟩))
  · subst e
    refine sX4_isNoTool hk (br_t rfl ?_)
    refine inX (x := p1) 2 (by omega) (fun q => ?_) (fun i hi e => ?_)
    · refine sX4_isNoPartN q (br_f (by decide) (sX4_refuseLong 2 (by decide) rfl ?_))
      exact sX5_isIn0 (n := 4) (by omega) rfl hk (br_f (by decide) (sX5_isInN 1 (by omega) rfl q (br_t rfl (sX5_lowest 2 (by decide) rfl ⟨rfl, S, w, hl, pi, pc, g1, g2, g3, g4, g5, rf_upd g6 2, g7⟩))))
    · subst e
      have e1' : v_r.1 = nI n := e1
      have e2' : v_M.2.2.2.2.2.2.2.2.2.2.1 = nI n := e2
      have e7 : v_n.2.2.2.2.2.2.2.1 = lN (fb_sm w (S 0)) := c7
      have hs := sm_b g1
      have p1 : 10 ^ n ≤ 10 ^ 8 := Nat.pow_le_pow_right (by decide) h8
      have p2 : 9 ^ n ≤ 9 ^ 8 := Nat.pow_le_pow_right (by decide) h8
      have p3 : 0 < 10 ^ n := Nat.pow_pos (by decide)
      have b1 : fb_sm w (S 0) * 10 ^ n ≤ 12754584 * 10 ^ 8 := Nat.mul_le_mul hs p1
      have b2 : fb_sm (fun o => pw S rw_ k o (w o) n) (S 0) ≤ S 0 * (531441 * 9 ^ 8) := fb_sm_bound (fun o ho => Nat.le_trans (pw_b hk o (w o) n) (Nat.mul_le_mul (okA_w g1 o ho) p2))
      have b3 : S 0 * (531441 * 9 ^ 8) ≤ 24 * (531441 * 9 ^ 8) := Nat.mul_le_mul_right _ g1.1.2.1
      have b4 : 0 < fb_sm w (S 0) * 10 ^ n := Nat.mul_pos g1.2.2.2.2.1 p3
      refine sX4_isNoPart hi (br_t rfl ?_)
      rw [e1', e7]
      refine ⟨25, lX0_ways (W := fun o => if o < S 0 then w o else 0) g1.1 c11 c12 hk h8 hr1 (fun _ => ⟨n + 1, ?_⟩) 24 0 (by omega)⟩
      have nx := fun (K : Int64 → Int32 → Prop) (h : ∀ c, K (lN (fb_sm w (S 0) * 10 ^ n)) c) => lX0_allW h8 h n 0 (by omega)
      rw [Nat.pow_zero, Nat.mul_one] at nx
      refine nx _ (fun _ => ?_)
      rw [pw_sm g1.1.2.1]
      refine sX4_partOf (by omega) (by omega) hi ?_
      refine sX5_isIn0 (n := 4) (by omega) rfl hk (br_f (by decide) (sX5_isIn0 (n := 1) (by omega) rfl hi (br_f (by decide) ?_)))
      rw [e2']
      refine ⟨n + 1, lX5_areInches h8 hr2 n 0 (by omega) ?_⟩
      cases ha : ai rw_ n 0 with
      | false =>
        refine br_t rfl ⟨?_, ⟨S, w, hl, pi, pc, g1, g2, g3, g4, ⟨n, rw_, h8, e1, rfl, e3⟩, g6, g7⟩⟩
        obtain ⟨j, hj, hj2⟩ := ai_out n 0 ha
        rw [fb_z (f := fun o => pw S rw_ k o (w o) n) (fun o _ => pw_out hj2 n (by omega)), i2l (by omega)]
        unfold pt
        rw [if_neg (by omega), Nat.gcd_zero_left, Nat.zero_div, Nat.div_self b4]
        rcases (show i = 0 ∨ i = 1 by omega) with rfl | rfl <;> rfl
      | true =>
        have hin : ∀ i, i < n → rw_ i % 50 < 48 := fun i hi => ai_in n 0 ha i (Nat.zero_le _) (by omega)
        refine br_f (by decide) (sX5_all m2 g1.1 m6 (okA_w2 g1) ⟨S 0 + 1, lX5_hap g1.1 m2 m6 (okA_w2 g1) hk h8 hr2 hin (fun _ => ⟨n + 1, ?_⟩) (S 0) 0 (by omega)⟩)
        have ny := fun (K : Int64 → Int32 → Prop) (h : ∀ c, K (lN (fb_sm w (S 0) * 10 ^ n)) c) => lX5_hapT h8 h n 0 (by omega)
        rw [Nat.pow_zero, Nat.mul_one] at ny
        exact ny _ (fun _ => sX5_partOf (by omega) (by omega) hi ⟨rfl, ⟨S, w, hl, pi, pc, g1, g2, g3, g4, ⟨n, rw_, h8, e1, rfl, e3⟩, g6, g7⟩⟩)
