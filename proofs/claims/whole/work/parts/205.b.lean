/-! bound -/
theorem sX5_boundL {post : Int32 → Prop} {x a b : Int32} (h : ¬ a ≤ x) (hp : post (-4)) : wpX5_bound post x a b := br_f h hp
theorem sX5_boundG {post : Int32 → Prop} {x a b : Int32} (h : a ≤ x) (h2 : ¬ x ≤ b) (hp : post (-6)) : wpX5_bound post x a b := br_t h (br_f h2 hp)
theorem sX5_bound0 {post : Int32 → Prop} {x a b : Int32} (h : a ≤ x) (h2 : x ≤ b) (hp : post 0) : wpX5_bound post x a b := br_t h (br_t h2 hp)
theorem rg {P : Prop} {x : Int32} (n : Nat) (hn : n + 1 < 2 ^ 31) (h1 : ¬ (0 : Int32) ≤ x → P) (h2 : (0 : Int32) ≤ x → nI n < x → P) (h3 : ∀ j, j ≤ n → x = nI j → P) : P := by
  rcases pk_ix x (n := n + 1) hn with h | h | ⟨j, hj, e⟩
  · exact h1 (Int32.not_le.mpr h)
  · have h0 := Int32.le_iff_toInt_le.mp h
    rw [nI_toInt hn] at h0
    refine h2 ?_ ?_
    · rw [Int32.le_iff_toInt_le, Int32.toInt_zero]; omega
    · rw [Int32.lt_iff_toInt_lt, nI_toInt (by omega)]; omega
  · exact h3 j (by omega) e
/-! row -/
theorem ph_row : PH_row RE := by
  intro v_T v_n v_k v_t v_s v_r v_c v_M p0 hR
  obtain ⟨S, w, hl, pi, pc, g1, g2, g3, g4, ⟨n, rw_, h8, e1, e2, e3⟩, g6, g7⟩ := id hR
  have e1' : v_r.1 = nI n := e1
  have e2' : v_M.2.2.2.2.2.2.2.2.2.2.1 = nI n := e2
  rw [e1', e2']
  have g5 : rRw v_r v_M := ⟨n, rw_, h8, e1, e2, e3⟩
  refine rg (x := p0) 99 (by omega) (fun q => ?_) (fun q q2 => ?_) (fun j hj e => ?_)
  · refine br_f q (sX4_refuse 4 (by decide) rfl ?_)
    refine sX5_boundL q (br_f (by decide) (br_f (by decide) (sX5_no 4 (by decide) rfl ⟨rfl, S, w, hl, pi, pc, g1, g2, g3, g4, ⟨n, rw_, h8, rfl, rfl, e3⟩, rf_upd g6 4, g7⟩)))
  · refine br_t q (br_t q2 (sX4_refuse 6 (by decide) rfl ?_))
    refine sX5_boundG q (Int32.not_le.mpr q2) (br_f (by decide) (br_f (by decide) (sX5_no 6 (by decide) rfl ⟨rfl, S, w, hl, pi, pc, g1, g2, g3, g4, ⟨n, rw_, h8, rfl, rfl, e3⟩, rf_upd g6 6, g7⟩)))
  · subst e
    have q : (0 : Int32) ≤ nI j := nI_pos' (by omega)
    have q2 : ¬ nI 99 < nI j := nI_nlt (by omega) (by omega)
    refine br_t q (br_f q2 ?_)
    have q3 : nI j ≤ (99 : Int32) := nI_le (a := j) (b := 99) (by omega) (by omega)
    by_cases hn : n = 8
    · subst hn
      refine br_f (by decide) (sX4_refuse 6 (by decide) rfl ?_)
      refine sX5_bound0 q q3 (br_t rfl (br_t rfl (sX5_no 6 (by decide) rfl ⟨rfl, S, w, hl, pi, pc, g1, g2, g3, g4, ⟨8, rw_, h8, rfl, rfl, e3⟩, rf_upd g6 6, g7⟩)))
    · refine br_t (nI_lt (a := n) (b := 8) (by omega) (by omega)) ⟨vp_in_nI (by omega) (by omega), ?_⟩
      refine sX5_bound0 q q3 (br_t rfl (br_f (fun z => hn ((nI_eq (a := n) (b := 8) (by omega) (by omega)).mp z)) (br_t rfl ⟨vp_in_nI (by omega) (by omega), rfl, ?_⟩)))
      refine ⟨S, w, hl, pi, pc, g1, g2, g3, g4, ⟨n + 1, fun i => if i = n then j else rw_ i, by omega, nI_1 n, nI_1 n, fun i hi => ?_⟩, g6, g7⟩
      show _ ∧ upd v_r.2 (nI n).toNatClampNeg (nI j) i = _ ∧ upd v_M.2.2.2.2.2.2.2.2.2.2.2.2.2.2.2.2.2.2.2.2.2.2.2 (nI n).toNatClampNeg (nI j) i = _
      rw [nI_clamp (by omega)]
      dsimp only
      by_cases hin : i = n
      · subst hin
        rw [pk_us, pk_us, if_pos rfl]
        exact ⟨by omega, rfl, rfl⟩
      · rw [pk_un hin, pk_un hin, if_neg hin]
        exact e3 i (by omega)
/-! letter -/
theorem ch_id {j : Nat} (hj : j < 256) : vp_nar .char ((nI j).toUInt32 % 65536).toInt32 = nI j := by
  have e := pk_char (nI j)
  rw [pk_tn (by omega), Nat.mod_eq_of_lt (by omega)] at e
  rw [pk_vc, e]
theorem ph_letter : PH_letter RE := by
  intro v_T v_n v_k v_t v_s v_r v_c v_M p0 hR
  obtain ⟨S, w, hl, pi, pc, g1, g2, g3, ⟨n, tp, h8, e1, e2, e3⟩, g5, g6, g7⟩ := id hR
  have e1' : v_s.1 = nI n := e1
  have e2' : v_M.2.2.1 = nI n := e2
  rw [e1', e2']
  refine rg (x := p0) 255 (by omega) (fun q => ?_) (fun q q2 => ?_) (fun j hj e => ?_)
  · refine br_f q (sX4_refuse 4 (by decide) rfl ?_)
    refine sX5_boundL q (br_f (by decide) (br_f (by decide) (sX5_no 4 (by decide) rfl ⟨rfl, S, w, hl, pi, pc, g1, g2, g3, ⟨n, tp, h8, rfl, rfl, e3⟩, g5, rf_upd g6 4, g7⟩)))
  · refine br_t q (br_t q2 (sX4_refuse 6 (by decide) rfl ?_))
    refine sX5_boundG q (Int32.not_le.mpr q2) (br_f (by decide) (br_f (by decide) (sX5_no 6 (by decide) rfl ⟨rfl, S, w, hl, pi, pc, g1, g2, g3, ⟨n, tp, h8, rfl, rfl, e3⟩, g5, rf_upd g6 6, g7⟩)))
  · subst e
    have q : (0 : Int32) ≤ nI j := nI_pos' (by omega)
    have q2 : ¬ nI 255 < nI j := nI_nlt (by omega) (by omega)
    refine br_t q (br_f q2 ?_)
    have q3 : nI j ≤ (255 : Int32) := nI_le (a := j) (b := 255) (by omega) (by omega)
    by_cases hn : n = 96
    · subst hn
      refine br_f (by decide) (sX4_refuse 6 (by decide) rfl ?_)
      refine sX5_bound0 q q3 (br_t rfl (br_t rfl (sX5_no 6 (by decide) rfl ⟨rfl, S, w, hl, pi, pc, g1, g2, g3, ⟨96, tp, h8, rfl, rfl, e3⟩, g5, rf_upd g6 6, g7⟩)))
    · refine br_t (nI_lt (a := n) (b := 96) (by omega) (by omega)) ⟨vp_in_nI (by omega) (by omega), ?_⟩
      refine sX5_bound0 q q3 (br_t rfl (br_f (fun z => hn ((nI_eq (a := n) (b := 96) (by omega) (by omega)).mp z)) (br_t rfl ⟨vp_in_nI (by omega) (by omega), rfl, ?_⟩)))
      refine ⟨S, w, hl, pi, pc, g1, g2, g3, ⟨n + 1, fun i => if i = n then j else tp i, by omega, nI_1 n, nI_1 n, fun i hi => ?_⟩, g5, g6, g7⟩
      show _ ∧ upd v_s.2.2 (nI n).toNatClampNeg (vp_nar .char ((nI j).toUInt32 % 65536).toInt32) i = _ ∧ upd v_M.2.2.2.2.2.2.2.2.2.2.2.2.2.2.2.2.2.1 (nI n).toNatClampNeg (nI j) i = _
      rw [nI_clamp (by omega), ch_id (by omega)]
      dsimp only
      by_cases hin : i = n
      · subst hin
        rw [pk_us, pk_us, if_pos rfl]
        exact ⟨by omega, rfl, rfl⟩
      · rw [pk_un hin, pk_un hin, if_neg hin]
        exact e3 i (by omega)
