/-- how far a statement reaches -/
theorem pf_e2 (c : Nat → Nat) : ∀ (fs : List Nat) (p : Nat), (pf c fs p).2 ≤ p + fs.length
  | [], p => Nat.le_refl _
  | f :: fs, p => by
    have h1 := pf_e2 c fs (p + 1)
    have h2 := pf_e2 c fs p
    have e : (f :: fs).length = fs.length + 1 := rfl
    rw [pf, e]
    by_cases q : ftt (c p) f = true
    · rw [if_pos q]; omega
    · rw [if_neg q]
      by_cases q2 : f = 63
      · rw [if_pos q2]; omega
      · rw [if_neg q2]
        show p ≤ _
        omega
theorem pa_e2 (c : Nat → Nat) (p : Nat) : (pa c p).2 ≤ p + 6 := by
  unfold pa
  by_cases q : fh (c p) < 6
  · rw [if_pos q]
    have h1 := pf_e2 c (fmL (fh (c p))) (p + 1)
    have h2 := fm_len _ q
    omega
  · rw [if_neg q]
    show p ≤ _
    omega
/-! wall -/
theorem ph_wall : PH_wall RE := by
  intro v_T v_n v_k v_t v_s v_r v_c v_M hR
  obtain ⟨S, w, hl, pi, pc, g1, g2, g3, ⟨n, tp, h96, e1, e2, e3⟩, g5, g6, g7⟩ := id hR
  have ok1 : okT n tp (us_signs v_s) := ⟨h96, fun i hi => ⟨(e3 i hi).1, (e3 i hi).2.1⟩⟩
  have ok2 : okT n tp (uM_tape v_M) := ⟨h96, fun i hi => ⟨(e3 i hi).1, (e3 i hi).2.2⟩⟩
  have e1' : v_s.1 = nI n := e1
  have e2' : v_M.2.2.1 = nI n := e2
  obtain ⟨m, hm, hg, hD⟩ := pl_ex (tp := tp) h96 33 0 (fun j hj => absurd hj (Nat.not_lt_zero j)) (by omega)
  have hplb := pl_b m hg
  have P0 : ∀ L A T, PF (tx n tp) 0 L A T := fun _ _ _ j hj => absurd hj (Nat.not_lt_zero j)
  unfold wpX4_wall
  rw [e1']
  refine ⟨m + 2, lX2_pa ok1 hm hg hD (fun a1 a2 _ => ⟨bi_n true, br_f (by decide) ⟨m + 2, ?good⟩⟩) (fun a _ => ⟨bi_n false, br_t rfl ⟨1, ?bad⟩⟩) m 0 (by omega)⟩
  case bad =>
    have hpe : (pa (tx n tp) (pl (tx n tp) m)).2 < 200 := by
      have := pa_e2 (tx n tp) (pl (tx n tp) m)
      omega
    rw [lpX4_wall_45]
    refine br_t (neg1 _ hpe).1 (br_t (neg1 _ hpe).2 ?_)
    unfold wpX5_wall
    rw [e2']
    refine ⟨m + 2, lX5_w12 ok2 hm hg hD (fun b1 b2 => absurd a.2 (by omega)) (fun _ _ L A T => br_t rfl ⟨rfl, S, w, hl, pi, pc, g1, g2, g3, ⟨0, tp, by omega, rfl, rfl, fun i hi => absurd hi (Nat.not_lt_zero i)⟩, g5, g6, g7⟩) m 0 _ _ _ (by omega) (P0 _ _ _)⟩
  case good =>
    refine lX4_wall ok1 hm hg a2 m 0 S w hl pi pc (v_n.1, v_n.2.1, v_n.2.2.1, v_n.2.2.2.1, v_n.2.2.2.2.1, v_n.2.2.2.2.2.1, v_n.2.2.2.2.2.2.1, v_n.2.2.2.2.2.2.2.1, v_n.2.2.2.2.2.2.2.2.1, va_cpy (v_n.2.2.2.2.2.2.2.2.2.1) (v_t.2.2.2.2.2.2.2.2.2.1) 0 0 6, va_cpy (v_n.2.2.2.2.2.2.2.2.2.2.1) (v_t.2.2.2.2.2.2.2.2.2.2.1) 0 0 6, va_cpy (v_n.2.2.2.2.2.2.2.2.2.2.2.1) (v_t.2.2.2.2.2.2.2.2.2.2.2.1) 0 0 24, va_cpy (v_n.2.2.2.2.2.2.2.2.2.2.2.2.1) (v_t.2.2.2.2.2.2.2.2.2.2.2.2.1) 0 0 48, va_cpy (v_n.2.2.2.2.2.2.2.2.2.2.2.2.2) (v_t.2.2.2.2.2.2.2.2.2.2.2.2.2) 0 0 48) (by omega) g1 (rC_cpy g1 g2 _ _ _ _ _) (fun S' w' hl' pi' pc' hr g' v' hC' e => ?_) (fun j hj hr v' e => ?_)
    · refine br_f (nI_ge (a := 0) (b := m) (by omega) (by omega)) ?_
      unfold wpX3_becomeAs
      unfold wpX5_wall
      rw [e2']
      refine ⟨m + 2, lX5_w12 ok2 hm hg hD (fun _ _ L A T hP => br_f (by decide) (sX5_keepAll (b := 100) (i := 1) rfl (by omega) ⟨m + 1, ?_⟩)) (fun a => absurd a.2 (by omega)) m 0 _ _ _ (by omega) (P0 _ _ _)⟩
      refine lX5_w86 ok2 hm hg hP m 0 S w hl pi pc _ _ _ _ _ _ _ (by omega) g1 g3 (fun S2 w2 hl2 pi2 pc2 hr2 P2 U2 a1 a2 a3 a4 a5 hM2 => ?_) (fun j hj hr2 => (st_no (hr.symm.trans hr2)).elim)
      obtain ⟨z1, z2, z3, z4, z5⟩ := st_inj (hr.symm.trans hr2)
      subst z1 z2 z3 z4 z5
      exact ⟨rfl, S', w', hl', pi', pc', g', rC_cpy g' hC' _ _ _ _ _, hM2, ⟨0, tp, by omega, rfl, rfl, fun i hi => absurd hi (Nat.not_lt_zero i)⟩, g5, g6, rIm_out g7 rfl (fun j hj => KP_out (Or.inl (by omega)))⟩
    · have hplj := pl_b j (fun i hi => hg i (by omega))
      refine br_t (neg2 _ (by omega)).2 ?_
      unfold wpX5_wall
      rw [e2']
      refine ⟨m + 2, lX5_w12 ok2 hm hg hD (fun _ _ L A T hP => br_f (by decide) (sX5_keepAll (b := 100) (i := 1) rfl (by omega) ⟨m + 1, ?_⟩)) (fun a => absurd a.2 (by omega)) m 0 _ _ _ (by omega) (P0 _ _ _)⟩
      refine lX5_w86 ok2 hm hg hP m 0 S w hl pi pc _ _ _ _ _ _ _ (by omega) g1 g3 (fun S2 w2 hl2 pi2 pc2 hr2 => (st_no (hr2.symm.trans hr)).elim) (fun j2 hj2 hr2 P2 U2 a1 a2 a3 a4 a5 => ?_)
      have ej : j = j2 := congrArg Prod.snd (hr.symm.trans hr2)
      subst ej
      refine sX5_giveAll (b := 100) (i := 1) rfl (by omega) ⟨vp_in_nI (by omega) (by omega), ?_⟩
      refine ⟨?_, S, w, hl, pi, pc, g1, g2, rM_back (b := 100) (k := uM_kept v_M) (a1 := a1) (a2 := a2) (a3 := a3) (a4 := a4) (a5 := a5) g1 g3, ⟨0, tp, by omega, rfl, rfl, fun i hi => absurd hi (Nat.not_lt_zero i)⟩, g5, g6, rIm_out g7 rfl (fun j hj => KP_out (Or.inl (by omega)))⟩
      rw [nI_clamp (by omega), (hP j hj).2.1]
