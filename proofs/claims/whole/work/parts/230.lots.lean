/-! lots -/
def wL (L : Nat → Bool) (o : Nat) : Nat := if L o then 1 else 0
theorem sw_L (S : Nat → Nat) (L : Nat → Bool) (x : Nat) : fb_sm (fun o => (wd S x o && L o).toNat) (S 0) = sw S (wL L) x := fb_sm_cong (fun o _ => by
  show (wd S x o && L o).toNat = if wd S x o = true then (if L o = true then 1 else 0) else 0
  cases wd S x o <;> cases L o <;> rfl)
theorem swL_b {S : Nat → Nat} (ok : okS S) (L : Nat → Bool) (x : Nat) : sw S (wL L) x ≤ 24 := by
  have h : sw S (wL L) x ≤ S 0 * 1 := fb_sm_bound (fun o _ => by unfold wL; split <;> (try split) <;> omega)
  have := ok.2.1
  omega
theorem lX3_most {S : Nat → Nat} (ok : okS S) {wo : Nat → Int32} (hwo : ∀ x, x < 48 → wo x = nI (bo (wd S x) (S 0))) {L : Nat → Bool} {K : Int32 → Int32 → Int32 → Prop} (h : ∀ a b, K (nI (am (sw S (wL L)) 0 47)) a b) : ∀ d i, i + d = 47 → lpX3_inchOfMost_7 K (nI (bo L (S 0))) wo (d + 1) (nI (am (sw S (wL L)) 0 i)) (nI (sw S (wL L) (am (sw S (wL L)) 0 i))) (nI (0 + 1 + i)) := by
  have hf : ∀ x, sw S (wL L) x ≤ 24 := swL_b ok L
  intro d
  induction d with
  | zero =>
    intro i hi
    have e : i = 47 := by omega
    subst e
    rw [lpX3_inchOfMost_7]
    exact br_t (by decide) (h _ _)
  | succ d ih =>
    intro i hi
    have ih := ih (i + 1) (by omega)
    rw [am_s, show 0 + 1 + (i + 1) = 0 + 1 + i + 1 by omega] at ih
    have h1 := hf (0 + 1 + i)
    have h2 := hf (am (sw S (wL L)) 0 i)
    rw [lpX3_inchOfMost_7]
    refine br_f (nI_ge (a := 0 + 1 + i) (b := 48) (by omega) (by omega)) ⟨vp_in_nI (by omega) (by omega), ?_⟩
    rw [nI_clamp (by omega), hwo _ (by omega), fa_and, bo_and, nI_1]
    refine sX3_countOf ok.2.1 ?_
    rw [sw_L]
    refine pk_le _ _ (fun q => ?_) (fun q => ?_)
    · rw [if_pos q] at ih; exact ih
    · rw [if_neg (by omega)] at ih; exact ih
theorem sX3_most {S : Nat → Nat} (ok : okS S) {wo : Nat → Int32} (hwo : ∀ x, x < 48 → wo x = nI (bo (wd S x) (S 0))) {L : Nat → Bool} {post : Int32 → Prop} (h : post (nI (am (sw S (wL L)) 0 47))) : wpX3_inchOfMost post wo (nI (bo L (S 0))) := by
  refine ⟨49, ?_⟩
  have h1 := swL_b ok L 0
  rw [lpX3_inchOfMost_7]
  refine br_f (by decide) ⟨vp_in_nI (n := 0) (by omega) (by omega), ?_⟩
  rw [show (0 : Int32) = nI 0 from rfl, nI_clamp (by omega), hwo _ (by omega), fa_and, bo_and, nI_1]
  refine sX3_countOf ok.2.1 ?_
  rw [sw_L]
  refine br_f (fun z => ?_) (lX3_most (K := fun v _ _ => post v) ok hwo (fun _ _ => h) 47 0 (by omega))
  have z1 := Int32.le_iff_toInt_le.mp z
  rw [nI_toInt (by omega), show (-1 : Int32).toInt = -1 by decide] at z1
  omega
/-- nails till wood: d nails more at most, k so far -/
def nt (S : Nat → Nat) (o : Nat) : Nat → (Nat → Bool) → Nat → Nat
  | 0, _, k => k
  | d + 1, L, k => if wd S (am (sw S (wL L)) 0 47) o then k + 1 else nt S o d (fun o' => L o' && !wd S (am (sw S (wL L)) 0 47) o') (k + 1)
theorem lX3_nails {S : Nat → Nat} (ok : okS S) {wo : Nat → Int32} (hwo : ∀ x, x < 48 → wo x = nI (bo (wd S x) (S 0))) {o : Nat} (ho : o < S 0) {K : Int32 → Int32 → Int32 → Prop} : ∀ d k L, k + d = 48 → (∀ a c, K a (nI (nt S o d L k)) c) → lpX3_nailsTillWood_10 K (nI o) wo (d + 2) (nI (bo L (S 0))) (nI k) 0 := by
  have o2 := ok.2.1
  intro d
  induction d with
  | zero =>
    intro k L hk h
    have e : k = 48 := by omega
    subst e
    rw [lpX3_nailsTillWood_10]
    exact br_t (by decide) (h _ _)
  | succ d ih =>
    intro k L hk h
    have ham := am_b (sw S (wL L)) 0 47
    rw [lpX3_nailsTillWood_10]
    refine br_f (nI_ge (a := k) (b := 48) (by omega) (by omega)) (br_t rfl (sX3_most ok hwo (sX3_hasWood hwo o2 (by omega) (by omega) ⟨vp_in_nI (by omega) (by omega), ?_⟩)))
    rw [nI_clamp (by omega), hwo _ (by omega), bo_not, nI_1, decide_eq_true ho, Bool.true_and]
    unfold nt at h
    cases hd : wd S (am (sw S (wL L)) 0 47) o with
    | true =>
      rw [hd, if_pos rfl] at h
      rw [lpX3_nailsTillWood_10]
      by_cases c : (48 : Int32) ≤ nI (k + 1)
      · exact br_t c (h _ _)
      · exact br_f c (br_f (by decide) (h _ _))
    | false =>
      rw [hd, if_neg (by decide)] at h
      exact ih (k + 1) _ (by omega) h
theorem sX3_nails {S : Nat → Nat} (ok : okS S) {wo : Nat → Int32} (hwo : ∀ x, x < 48 → wo x = nI (bo (wd S x) (S 0))) {o : Nat} (ho : o < S 0) {post : Int32 → Prop} (h : post (nI (nt S o 48 (fun _ => true) 0))) : wpX3_nailsTillWood post (nI (S 0)) wo (nI o) := by
  refine sX3_allOffsets ok (p := fun _ => true) (fun _ _ => rfl) ⟨50, ?_⟩
  exact lX3_nails (K := fun _ v _ => post v) ok hwo ho 48 0 (fun _ => true) (by omega) (fun _ _ => h)
theorem wL_s (S : Nat → Nat) (L : Nat → Bool) (x o : Nat) : w2 S (wL L) x false o = wL (fun o' => L o' && !wd S x o') o := by
  show (if (wd S x o == false) = true then (if L o = true then 1 else 0) else 0) = if (L o && !wd S x o) = true then 1 else 0
  cases wd S x o <;> cases L o <;> rfl
theorem wL_b (L : Nat → Bool) (o : Nat) : wL L o ≤ 1 := by unfold wL; split <;> omega
theorem lX5_nailsBy {S : Nat → Nat} (ok : okS S) {M : Nat → Int32} (hS : rS S M) {U : Int32} {o : Nat} (ho : o < S 0) {post : Int32 → Int32 → (Nat → Int32) → Prop} : ∀ d k L Mw, k + d = 48 → rN (S 0) (wL L) Mw → (∀ M', post (nI (nt S o d L k)) U M') → lpX5_nailsBy_6 post (fun a M' => post a U M') (nI o) U M (d + 1) (nI k) Mw := by
  intro d
  induction d with
  | zero =>
    intro k L Mw hk hM h
    have e : k = 48 := by omega
    subst e
    rw [lpX5_nailsBy_6]
    exact br_t (by decide) (h _)
  | succ d ih =>
    intro k L Mw hk hM h
    have ham := am_b (sw S (wL L)) 0 47
    have hb : ∀ o, o < S 0 → wL L o < 2 ^ 31 := fun o _ => by have := wL_b L o; omega
    have hf : ∀ x, sw S (wL L) x < 2 ^ 31 := fun x => by have := swL_b ok L x; omega
    rw [lpX5_nailsBy_6]
    refine br_f (nI_ge (a := k) (b := 48) (by omega) (by omega)) (sX5_bestNow hS ok hM hb hf (sX5_isWood hS ok (by omega) ho (bi_0 ?_)))
    unfold nt at h
    rw [nI_1]
    cases hd : wd S (am (sw S (wL L)) 0 47) o with
    | true =>
      rw [hd, if_pos rfl] at h
      exact h _
    | false =>
      rw [hd, if_neg (by decide)] at h
      refine ⟨S 0 + 1, lX5_leaves (w := wL L) (is := false) ok hS (by omega) (fun _ M' hM' => ?_) (S 0) 0 Mw (by omega) (fun o' ho' => ?_)⟩
      · refine ih (k + 1) _ M' (by omega) (fun o' ho' => ?_) h
        rw [hM' o' ho', wL_s]
      · rw [hM o' ho']
        dsimp only
        rw [if_neg (Nat.not_lt_zero o')]
theorem sX5_nailsBy {S : Nat → Nat} (ok : okS S) {M Mw : Nat → Int32} (hS : rS S M) {o : Nat} (ho : o < S 0) {post : Int32 → Int32 → (Nat → Int32) → Prop} (h : ∀ U M', post (nI (nt S o 48 (fun _ => true) 0)) U M') : wpX5_nailsBy post M Mw (nI o) := by
  refine sX5_alike (fun M1 hM1 => ⟨49, lX5_nailsBy ok hS ho 48 0 (fun _ => true) M1 (by omega) (fun o' ho' => ?_) (fun M' => h _ M')⟩)
  have := ok.2.1
  exact hM1 o' (by omega)
/-! the seeds -/
def sd (z : Int32) : Int32 := z * 1664525 + 1013904223
theorem mask31 (y : Int32) : y &&& 2147483647 = nI (y.toBitVec.toNat % 2 ^ 31) := by
  obtain ⟨n, hn, e⟩ := wb_of32 y
  subst e
  rw [show (2147483647 : Int32) = nI (2 ^ 31 - 1) from rfl, fa_mask, pk_tn hn]
def sm_ (z : Int32) : Nat := (sd z).toBitVec.toNat % 2 ^ 31 / 256
theorem so_e (z : Int32) : (sd z &&& 2147483647) / (256 : Int32) = nI (sm_ z) := by
  unfold sm_
  rw [mask31]
  exact pk_div (d := 256) (Nat.mod_lt _ (by decide)) (by decide) (by decide)
theorem so_b (z : Int32) : sm_ z < 2 ^ 31 := by
  unfold sm_
  exact Nat.lt_of_le_of_lt (Nat.div_le_self _ _) (Nat.mod_lt _ (by decide))
def lt_ (S : Nat → Nat) : Nat → Int32 → Nat → Nat
  | 0, _, a => a
  | d + 1, z, a => lt_ S d (sd z) (a + nt S (sm_ z % S 0) 48 (fun _ => true) 0)
theorem lX4_lots {S : Nat → Nat} (ok : okS S) {wo : Nat → Int32} (hwo : ∀ x, x < 48 → wo x = nI (bo (wd S x) (S 0))) {n : Nat} (hn : n ≤ 30) {K : Int32 → Int32 → Int32 → Prop} : ∀ d i z a, i + d = n → (∀ b c, K (nI (lt_ S d z a)) b c) → lpX4_lots_33 K (nI n) (nI (S 0)) wo (d + 1) (nI a) z (nI i) := by
  have o1 := ok.1
  have o2 := ok.2.1
  intro d
  induction d with
  | zero =>
    intro i z a hi h
    have e : i = n := by omega
    subst e
    rw [lpX4_lots_33]
    exact br_t (nI_le (Nat.le_refl _) (by omega)) (h _ _)
  | succ d ih =>
    intro i z a hi h
    rw [lpX4_lots_33]
    refine br_f (nI_ge (by omega) (by omega)) ?_
    rw [show z * (1664525 : Int32) + (1013904223 : Int32) = sd z from rfl, so_e]
    refine sX4_modulo (so_b z) (by omega) (by omega) (sX3_nails ok hwo (Nat.mod_lt _ (by omega)) ?_)
    rw [nI_add, nI_1]
    exact ih (i + 1) (sd z) _ (by omega) h
theorem lX5_lots {S : Nat → Nat} (ok : okS S) {M : Nat → Int32} (hS : rS S M) {n : Nat} (hn : n ≤ 30) {K : Int32 → Int32 → Int32 → Int32 → (Nat → Int32) → Prop} : ∀ d i z a U Mw, i + d = n → (∀ b c U' M', K b (nI (lt_ S d z a)) c U' M') → lpX5_lots_33 K (nI n) M (d + 1) z (nI a) (nI i) U Mw := by
  have o1 := ok.1
  have o2 := ok.2.1
  intro d
  induction d with
  | zero =>
    intro i z a U Mw hi h
    have e : i = n := by omega
    subst e
    rw [lpX5_lots_33]
    exact br_t (nI_le (Nat.le_refl _) (by omega)) (h _ _ _ _)
  | succ d ih =>
    intro i z a U Mw hi h
    rw [lpX5_lots_33, hS.1]
    refine br_f (nI_ge (by omega) (by omega)) ⟨nI_ne0 (by omega) (by omega), ?_⟩
    rw [show z * (1664525 : Int32) + (1013904223 : Int32) = sd z from rfl, so_e, pk_rem (so_b z) (by omega) (by omega)]
    refine sX5_nailsBy ok hS (Nat.mod_lt _ (by omega)) (fun U' M' => ?_)
    rw [nI_add, nI_1]
    exact ih (i + 1) (sd z) _ U' M' (by omega) h
theorem ph_lots : PH_lots RE := by
  intro v_T v_n v_k v_t v_s v_r v_c v_M p0 p1 hR
  obtain ⟨S, w, hl, pi, pc, g1, g2, g3, g4, g5, g6, g7⟩ := id hR
  obtain ⟨c0, c1, c2, c3, c4, c5, c6, c7, c8, c9, c10, c11, c12, c13⟩ := id g2
  obtain ⟨m0, m1, m2, m3, m4, m5, m6⟩ := id g3
  by_cases q : (1 : Int32) ≤ p0
  · by_cases q2 : p0 ≤ 30
    · obtain ⟨n, hn, en⟩ := nI_of2 (x := p0) (M := 30) (n := 30) (by decide) (fun z => Int32.not_le.mpr (Int32.lt_trans z (by decide : (0 : Int32) < 1)) q) q2
      subst en
      have e0 : v_n.1 = nI (S 0) := c0
      refine br_t q (br_t q2 ⟨n + 1, ?_⟩)
      rw [e0]
      refine lX4_lots g1.1 c12 hn n 0 p1 0 (by omega) (fun _ _ => ?_)
      refine sX5_bound0 q q2 (br_t rfl (sX5_keepAll (b := 100) (i := 1) rfl (by omega) ⟨n + 1, lX5_lots g1.1 m2 hn n 0 p1 0 _ _ (by omega) (fun _ _ U' M' => ?_)⟩))
      refine sX5_giveAll (b := 100) (i := 1) rfl (by omega) ?_
      exact ⟨rfl, S, w, hl, pi, pc, g1, g2, rM_back (b := 100) (k := uM_kept v_M) (a1 := uM_setting v_M) (a2 := uM_hole v_M) (a3 := uM_pipeAt v_M) (a4 := uM_chance v_M) (a5 := M') g1 g3, g4, g5, g6, rIm_out g7 rfl (fun j hj => KP_out (Or.inl (by omega)))⟩
    · exact br_t q (br_f q2 (sX4_refuse 6 (by decide) rfl (sX5_boundG q q2 (br_f (by decide) (sX5_no 6 (by decide) rfl ⟨rfl, S, w, hl, pi, pc, g1, g2, g3, g4, g5, rf_upd g6 6, g7⟩)))))
  · exact br_f q (sX4_refuse 4 (by decide) rfl (sX5_boundL q (br_f (by decide) (sX5_no 4 (by decide) rfl ⟨rfl, S, w, hl, pi, pc, g1, g2, g3, g4, g5, rf_upd g6 4, g7⟩))))
