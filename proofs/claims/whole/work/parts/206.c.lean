/-! tool -/
theorem tw_c : ∀ j, j < 5 → ([7, 4, 6, 8, 9] : List Int32).getD (nI j).toNatClampNeg 0 = nI (tw j) := by decide +kernel
theorem tn_c : ∀ j, j < 5 → ([7, 9, 9, 6, 9] : List Int32).getD (nI j).toNatClampNeg 0 = nI (tn j) := by decide +kernel
def tc (k : Nat) : Nat := [1, 3, 2, 1, 5].getD k 1
theorem tc_c : ∀ j, j < 5 → ([1, 3, 2, 1, 5] : List Int32).getD (nI j).toNatClampNeg 0 = nI (tc j) := by decide +kernel
theorem sX5_costOf {post : Int32 → Prop} {k : Nat} (hk : k < 5) (h : post (nI (tc k))) : wpX5_costOf post (nI k) := by
  unfold wpX5_costOf
  refine pk_eq k 1 (fun q => ?_) (fun q1 => pk_eq k 2 (fun q => ?_) (fun q2 => pk_eq k 4 (fun q => ?_) (fun q3 => ?_)))
  · subst q; exact h
  · subst q; exact h
  · subst q; exact h
  · rcases (show k = 0 ∨ k = 3 by omega) with e | e <;> (subst e; exact h)
theorem ph_tool : PH_tool RE := by
  intro v_T v_n v_k v_t v_s v_r v_c v_M p0 p1 hR
  obtain ⟨S, w, hl, pi, pc, g1, g2, g3, g4, g5, g6, g7⟩ := id hR
  refine inX (x := p0) 5 (by omega) (fun q => ?_) (fun j hj e => ?_)
  · refine sX4_isNoToolN q (br_f (by decide) (sX4_refuse 2 (by decide) rfl ?_))
    exact sX5_isInN 4 (by omega) rfl q (br_t rfl (sX5_no 2 (by decide) rfl ⟨rfl, S, w, hl, pi, pc, g1, g2, g3, g4, g5, rf_upd g6 2, g7⟩))
  · subst e
    refine sX4_isNoTool hj (br_t rfl ?_)
    refine inX (x := p1) 3 (by omega) (fun q => ?_) (fun i hi e => ?_)
    · by_cases q0 : p1 < 0
      · refine br_t q0 (sX4_refuse 2 (by decide) rfl ?_)
        exact sX5_isIn0 (n := 4) (by omega) rfl hj (br_f (by decide) (sX5_isInN 2 (by omega) rfl q (br_t rfl (sX5_no 2 (by decide) rfl ⟨rfl, S, w, hl, pi, pc, g1, g2, g3, g4, g5, rf_upd g6 2, g7⟩))))
      · have q1 : ¬ p1 ≤ 2 := by
          have h1 := Int32.le_iff_toInt_le.mp (q.resolve_left q0)
          rw [nI_toInt (by omega)] at h1
          rw [Int32.le_iff_toInt_le, show (2 : Int32).toInt = 2 by decide]
          omega
        refine br_f q0 (br_f q1 (sX4_refuse 2 (by decide) rfl ?_))
        exact sX5_isIn0 (n := 4) (by omega) rfl hj (br_f (by decide) (sX5_isInN 2 (by omega) rfl q (br_t rfl (sX5_no 2 (by decide) rfl ⟨rfl, S, w, hl, pi, pc, g1, g2, g3, g4, g5, rf_upd g6 2, g7⟩))))
    · subst e
      refine br_f (nI_pos (by omega)) (br_t (nI_le (a := i) (b := 2) (by omega) (by omega)) ?_)
      refine pk_eq i 0 (fun q => ?_) (fun q1 => pk_eq i 1 (fun q => ?_) (fun q2 => ?_))
      · subst q
        refine ⟨vp_in_nI hj (by omega), ?_⟩
        refine sX5_isIn0 (n := 4) (by omega) rfl hj (br_f (by decide) (sX5_isIn0 (n := 2) (by omega) rfl hi (br_f (by decide) (br_t rfl (sX5_inWood hj ⟨tw_c j hj, hR⟩)))))
      · subst q
        refine ⟨vp_in_nI hj (by omega), ?_⟩
        refine sX5_isIn0 (n := 4) (by omega) rfl hj (br_f (by decide) (sX5_isIn0 (n := 2) (by omega) rfl hi (br_f (by decide) (br_f (by decide) (br_t rfl (sX5_inNone hj ⟨tn_c j hj, hR⟩))))))
      · have e : i = 2 := by omega
        subst e
        refine ⟨vp_in_nI hj (by omega), ?_⟩
        refine sX5_isIn0 (n := 4) (by omega) rfl hj (br_f (by decide) (sX5_isIn0 (n := 2) (by omega) rfl hi (br_f (by decide) (br_f (by decide) (br_f (by decide) (sX5_costOf hj ⟨tc_c j hj, hR⟩))))))
/-! pipe -/
def u4 (S : Nat → Nat) (k : Nat) : Nat → Nat := fun i => if i = 4 then k else S i
def u5 (S : Nat → Nat) (k : Nat) : Nat → Nat := fun i => if i = 5 then k else S i
theorem rN_upd {n j : Nat} {f : Nat → Nat} {M : Nat → Int32} (h : rN n f M) (hn : n < 2 ^ 31) : rN (n + 1) (fun i => if i = n then j else f i) (upd M (nI n).toNatClampNeg (nI j)) := by
  intro o ho
  rw [nI_clamp hn]
  dsimp only
  by_cases e : o = n
  · subst e; rw [pk_us, if_pos rfl]
  · rw [pk_un e, if_neg e]; exact h o (by omega)
theorem sX3_room {n : Nat} {post : Int32 → Prop} (hn : n ≤ 6) (a : n < 6 → post 1) (b : ¬ n < 6 → post 0) : wpX3_hasRoomForPipe post (nI n) := by
  unfold wpX3_hasRoomForPipe
  by_cases q : n < 6
  · exact br_f (nI_ge (a := n) (b := 6) q (by omega)) (a q)
  · exact br_t (nI_le (a := 6) (b := n) (by omega) (by omega)) (b q)
theorem sX3_take {n : Nat} {post : Int32 → (Nat → Int32) → (Nat → Int32) → Prop} {A B : Nat → Int32} {x y : Int32} (h : n < 6) (k : post (nI n + 1) (upd A (nI n).toNatClampNeg x) (upd B (nI n).toNatClampNeg y)) : wpX3_takePipe post (nI n) A B x y := by
  unfold wpX3_takePipe
  exact sX3_room (by omega) (fun _ => br_f (by decide) ⟨vp_in_nI h (by omega), vp_in_nI h (by omega), k⟩) (fun z => absurd h z)
theorem ph_pipe : PH_pipe RE := by
  intro v_T v_n v_k v_t v_s v_r v_c v_M p0 p1 hR
  obtain ⟨S, w, hl, pi, pc, g1, g2, g3, g4, g5, g6, g7⟩ := id hR
  obtain ⟨a1, a2, a3, a4, a5, a6, a7⟩ := id g1
  obtain ⟨c0, c1, c2, c3, c4, c5, c6, c7, c8, c9, c10, c11, c12, c13⟩ := id g2
  obtain ⟨m0, m1, m2, m3, m4, m5, m6⟩ := id g3
  have e1 : v_n.2.2.2.2.2.1 = nI (S 5) := c5
  have e2 : v_M.1 = nI (S 5) := m0
  rw [e1, e2]
  have R3 : ∀ k, RE (v_T.1, upd v_T.2 k (v_T.2 k + 1)) (v_n.1, v_n.2.1, v_n.2.2.1, v_n.2.2.2.1, v_n.2.2.2.2.1, nI (S 5), v_n.2.2.2.2.2.2) v_k v_s v_r (nI (S 5), v_M.2.1, v_M.2.2.1, v_M.2.2.2.1, v_M.2.2.2.2.1, v_M.2.2.2.2.2.1, v_M.2.2.2.2.2.2.1, v_M.2.2.2.2.2.2.2.1, v_M.2.2.2.2.2.2.2.2.1, v_M.2.2.2.2.2.2.2.2.2.1, v_M.2.2.2.2.2.2.2.2.2.2.1, upd (uM_refused v_M) k (uM_refused v_M k + 1), v_M.2.2.2.2.2.2.2.2.2.2.2.2) := fun k => ⟨S, w, hl, pi, pc, g1, ⟨c0, c1, c2, c3, c4, rfl, c6, c7, c8, c9, c10, c11, c12, c13⟩, ⟨rfl, m1, m2, m3, m4, m5, m6⟩, g4, g5, rf_upd g6 k, g7⟩
  refine inX (x := p0) 48 (by omega) (fun q => ?_) (fun j hj e => ?_)
  · refine sX4_isNoInchN q (br_f (by decide) (sX4_refuse 1 (by decide) rfl ?_))
    exact sX5_isInchN q (br_t rfl (sX5_no 1 (by decide) rfl ⟨rfl, R3 1⟩))
  · subst e
    refine sX4_isNoInch hj (br_t rfl ?_)
    refine rg (x := p1) 9 (by omega) (fun q => ?_) (fun q q2 => ?_) (fun i hi e => ?_)
    · refine br_f q (sX4_refuse 4 (by decide) rfl ?_)
      exact sX5_isInch hj (br_f (by decide) (sX5_boundL q (br_f (by decide) (br_f (by decide) (sX5_no 4 (by decide) rfl ⟨rfl, R3 4⟩)))))
    · refine br_t q (br_t q2 (sX4_refuse 6 (by decide) rfl ?_))
      exact sX5_isInch hj (br_f (by decide) (sX5_boundG q (Int32.not_le.mpr q2) (br_f (by decide) (br_f (by decide) (sX5_no 6 (by decide) rfl ⟨rfl, R3 6⟩)))))
    · subst e
      have q : (0 : Int32) ≤ nI i := nI_pos' (by omega)
      have q2 : ¬ nI 9 < nI i := nI_nlt (by omega) (by omega)
      have q3 : nI i ≤ (9 : Int32) := nI_le (a := i) (b := 9) (by omega) (by omega)
      refine br_t q (br_f q2 ?_)
      by_cases h6 : S 5 = 6
      · have x2 : nI (S 5) = (6 : Int32) := by rw [h6]; rfl
        refine sX3_room (by omega) (fun z => absurd z (by omega)) (fun _ => br_t rfl (sX4_refuse 6 (by decide) rfl ?_))
        exact sX5_isInch hj (br_f (by decide) (sX5_bound0 q q3 (br_t rfl (br_t x2 (sX5_no 6 (by decide) rfl ⟨rfl, R3 6⟩)))))
      · refine sX3_room (by omega) (fun y3 => br_f (by decide) (sX3_take y3 ?_)) (fun z => absurd (show S 5 < 6 by omega) z)
        refine sX5_isInch hj (br_f (by decide) (sX5_bound0 q q3 (br_t rfl (br_f (fun z => h6 ((nI_eq (a := S 5) (b := 6) (by omega) (by omega)).mp z)) (br_t rfl ⟨vp_in_nI (by omega) (by omega), vp_in_nI (by omega) (by omega), rfl, ?_⟩)))))
        refine ⟨u5 S (S 5 + 1), w, hl, fun k => if k = S 5 then j else pi k, fun k => if k = S 5 then i else pc k, ⟨a1, a2, ?_, a4, a5, ?_, a7⟩, ⟨c0, c1, c2, c3, c4, nI_1 _, c6, c7, c8, rN_upd c9 (by omega), rN_upd c10 (by omega), c11, c12, c13⟩, ⟨nI_1 _, m1, m2, m3, rN_upd m4 (by omega), rN_upd m5 (by omega), m6⟩, g4, g5, g6, g7⟩
        · show S 5 + 1 ≤ 6
          omega
        · intro k hk
          have hk : k < S 5 + 1 := hk
          dsimp only
          by_cases e : k = S 5
          · rw [if_pos e, if_pos e]; exact ⟨hj, hi⟩
          · rw [if_neg e, if_neg e]; exact a6 k (by omega)
