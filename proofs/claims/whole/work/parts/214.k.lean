/-! hang -/
abbrev gm (S w : Nat → Nat) (m : Nat) : Nat → Nat := fun s => sw S w (am (sw S w) s (m - 1))
theorem lX5_likeliestIn {S w hl pi pc : Nat → Nat} (g : okA S w hl pi pc) {M Mw : Nat → Int32} (hS : rS S M) (hw : rN (S 0) w Mw) {s m : Nat} (hm : 1 ≤ m) (hs : s + m ≤ 48) {K : Int64 → Int32 → Prop} (h : ∀ c, K (lN (gm S w m s)) c) : ∀ d i, i + d = m - 1 → lpX5_likeliestIn_5 K (nI s) (nI m) M Mw (d + 1) (lN (sw S w (am (sw S w) s i))) (nI (s + 1 + i)) := by
  intro d
  induction d with
  | zero =>
    intro i hi
    have e : i = m - 1 := by omega
    subst e
    rw [lpX5_likeliestIn_5, nI_add]
    exact br_t (nI_le (by omega) (by omega)) (h _)
  | succ d ih =>
    intro i hi
    have ih := ih (i + 1) (by omega)
    have hab := am_b (sw S w) s i
    have hf : ∀ x, sw S w x < 2 ^ 31 := fun x => by have := sw_b g x; omega
    rw [lpX5_likeliestIn_5, nI_add, nI_1]
    refine br_f (nI_ge (by omega) (by omega)) (sX5_woodAt hS g.1 hw (okA_w2 g) (by omega) ?_)
    rw [am_s, show s + 1 + (i + 1) = s + 1 + i + 1 by omega] at ih
    by_cases q : sw S w (s + 1 + i) ≤ sw S w (am (sw S w) s i)
    · rw [if_pos q] at ih
      exact br_t ((lN_le (hf _) (hf _)).mpr q) ih
    · rw [if_neg q] at ih
      exact br_f (fun z => q ((lN_le (hf _) (hf _)).mp z)) (sX5_woodAt hS g.1 hw (okA_w2 g) (by omega) ih)
theorem sX5_likeliestIn {S w hl pi pc : Nat → Nat} (g : okA S w hl pi pc) {M Mw : Nat → Int32} (hS : rS S M) (hw : rN (S 0) w Mw) {s m : Nat} (hm : 1 ≤ m) (hs : s + m ≤ 48) {post : Int64 → Prop} (h : post (lN (gm S w m s))) : wpX5_likeliestIn post M Mw (nI s) (nI m) := by
  refine ⟨m - 1 + 1 + 1, ?_⟩
  have hf : ∀ x, sw S w x < 2 ^ 31 := fun x => by have := sw_b g x; omega
  have nx := lX5_likeliestIn (K := fun v _ => post v) g hS hw hm hs (fun _ => h) (m - 1) 0 (by omega)
  rw [lpX5_likeliestIn_5, nI_add, nI_1]
  refine br_f (nI_ge (by omega) (by omega)) (sX5_woodAt hS g.1 hw (okA_w2 g) (by omega) ?_)
  by_cases q : sw S w s ≤ 0
  · refine br_t ((lN_le (b := 0) (hf _) (by omega)).mpr q) ?_
    rw [show sw S w (am (sw S w) s 0) = 0 from (show sw S w s = 0 by omega)] at nx
    exact nx
  · refine br_f (fun z => q ((lN_le (b := 0) (hf _) (by omega)).mp z)) (sX5_woodAt hS g.1 hw (okA_w2 g) (by omega) nx)
/-- the best so far among 0..n -/
def hg (H G : Nat → Nat) : Nat → Nat
  | 0 => 0
  | n + 1 => if H (hg H G n) < H (n + 1) then n + 1 else if H (n + 1) = H (hg H G n) then (if G (n + 1) ≤ G (hg H G n) then hg H G n else n + 1) else hg H G n
theorem hg_b (H G : Nat → Nat) : ∀ n, hg H G n ≤ n
  | 0 => Nat.le_refl _
  | n + 1 => by
    have := hg_b H G n
    unfold hg
    split
    · omega
    · split
      · split <;> omega
      · omega
theorem hw_b {hl : Nat → Nat} (h : ∀ x, hl x ≤ 1) (s m : Nat) : hw hl s m ≤ m := by
  have := fb_sm_bound (f := fun k => hl (s + k)) (c := 1) (n := m) (fun k _ => h _)
  show fb_sm _ m ≤ m
  omega
theorem lX4_hang {S w hl pi pc : Nat → Nat} (g : okA S w hl pi pc) {D : Int64} {Ms : Nat → Int64} (eD : D = lN (bo (hb hl) 48)) (hM : ∀ x, x < 48 → Ms x = lN (sw S w x)) {m : Nat} (hm : 1 ≤ m) (hm2 : m ≤ 40) {K : Int32 → Int32 → Int64 → Int32 → Prop} (h : ∀ a b c, K (nI (hg (fun s => hw hl s m) (gm S w m) (48 - m))) a b c) : ∀ d i, i + d = 48 - m → lpX4_hang_37 K (nI m) D Ms (d + 1) (nI (hg (fun s => hw hl s m) (gm S w m) i)) (nI (hw hl (hg (fun s => hw hl s m) (gm S w m) i) m)) (lN (gm S w m (hg (fun s => hw hl s m) (gm S w m) i))) (nI (i + 1)) := by
  have e48 : (48 : Int32) - nI m = nI (48 - m) := pk_sub (a := 48) (by omega)
  have hf : ∀ x, sw S w x < 2 ^ 31 := fun x => by have := sw_b g x; omega
  intro d
  induction d with
  | zero =>
    intro i hi
    have e : i = 48 - m := by omega
    subst e
    rw [lpX4_hang_37, e48]
    exact br_t (nI_lt (by omega) (by omega)) (h _ _ _)
  | succ d ih =>
    intro i hi
    have ih := ih (i + 1) (by omega)
    have hab := hg_b (fun s => hw hl s m) (gm S w m) i
    have ham := am_b (sw S w) (i + 1) (m - 1)
    have b1 := hw_b g.2.2.2.2.2.2 (hg (fun s => hw hl s m) (gm S w m) i) m
    have b2 := hw_b g.2.2.2.2.2.2 (i + 1) m
    rw [lpX4_hang_37, e48, nI_add, nI_1]
    refine br_f (nI_nlt (by omega) (by omega)) (sX3_holesWithin g.2.2.2.2.2.2 eD (by omega) (sX3_likeliest hM hf (n := m - 1) (by omega) (by congr 1; omega) ⟨vp_in_nI (by omega) (by omega), ?_⟩))
    rw [nI_clamp (by omega), hM _ (by omega)]
    have e : hg (fun s => hw hl s m) (gm S w m) (i + 1) = if hw hl (hg (fun s => hw hl s m) (gm S w m) i) m < hw hl (i + 1) m then i + 1 else if hw hl (i + 1) m = hw hl (hg (fun s => hw hl s m) (gm S w m) i) m then (if gm S w m (i + 1) ≤ gm S w m (hg (fun s => hw hl s m) (gm S w m) i) then hg (fun s => hw hl s m) (gm S w m) i else i + 1) else hg (fun s => hw hl s m) (gm S w m) i := rfl
    rw [e] at ih
    refine pk_lt _ _ (fun q => ?_) (fun q => pk_eq _ _ (fun q2 => ?_) (fun q2 => ?_))
    · rw [if_pos q] at ih; exact ih
    · rw [if_neg (by omega), if_pos q2] at ih
      by_cases q3 : gm S w m (i + 1) ≤ gm S w m (hg (fun s => hw hl s m) (gm S w m) i)
      · rw [if_pos q3] at ih
        exact br_t ((lN_le (hf _) (hf _)).mpr q3) ih
      · rw [if_neg q3] at ih
        exact br_f (fun z => q3 ((lN_le (hf _) (hf _)).mp z)) ih
    · rw [if_neg (by omega), if_neg q2] at ih; exact ih
theorem lX5_hang {S w hl pi pc : Nat → Nat} (g : okA S w hl pi pc) {M Mh Mw : Nat → Int32} (hS : rS S M) (hh : rN 48 hl Mh) (hw_ : rN (S 0) w Mw) {m : Nat} (hm : 1 ≤ m) (hm2 : m ≤ 40) {K : Int32 → Int32 → Prop} (h : ∀ c, K (nI (hg (fun s => hw hl s m) (gm S w m) (48 - m))) c) : ∀ d i, i + d = 48 - m → lpX5_hang_23 K (nI m) M Mh Mw (d + 1) (nI (hg (fun s => hw hl s m) (gm S w m) i)) (nI (i + 1)) := by
  have hf : ∀ x, sw S w x < 2 ^ 31 := fun x => by have := sw_b g x; omega
  intro d
  induction d with
  | zero =>
    intro i hi
    have e : i = 48 - m := by omega
    subst e
    rw [lpX5_hang_23, nI_add]
    exact br_t (nI_lt (a := 48) (by omega) (by omega)) (h _)
  | succ d ih =>
    intro i hi
    have ih := ih (i + 1) (by omega)
    have hab := hg_b (fun s => hw hl s m) (gm S w m) i
    have b1 := hw_b g.2.2.2.2.2.2 (hg (fun s => hw hl s m) (gm S w m) i) m
    have b2 := hw_b g.2.2.2.2.2.2 (i + 1) m
    rw [lpX5_hang_23, nI_add, nI_1]
    refine br_f (nI_nlt (a := 48) (by omega) (by omega)) (sX5_covered hh (by omega) (sX5_covered hh (by omega) ?_))
    have e : hg (fun s => hw hl s m) (gm S w m) (i + 1) = if hw hl (hg (fun s => hw hl s m) (gm S w m) i) m < hw hl (i + 1) m then i + 1 else if hw hl (i + 1) m = hw hl (hg (fun s => hw hl s m) (gm S w m) i) m then (if gm S w m (i + 1) ≤ gm S w m (hg (fun s => hw hl s m) (gm S w m) i) then hg (fun s => hw hl s m) (gm S w m) i else i + 1) else hg (fun s => hw hl s m) (gm S w m) i := rfl
    rw [e] at ih
    have hsub : (nI (hw hl (i + 1) m) - nI (hw hl (hg (fun s => hw hl s m) (gm S w m) i) m)).toInt = (hw hl (i + 1) m : Int) - hw hl (hg (fun s => hw hl s m) (gm S w m) i) m := sub_toInt (by omega) (by omega)
    by_cases q : hw hl (hg (fun s => hw hl s m) (gm S w m) i) m < hw hl (i + 1) m
    · rw [if_pos q] at ih
      refine br_t ?_ ih
      rw [Int32.lt_iff_toInt_lt, hsub, Int32.toInt_zero]
      omega
    · rw [if_neg q] at ih
      refine br_f ?_ ?_
      · rw [Int32.lt_iff_toInt_lt, hsub, Int32.toInt_zero]
        omega
      · by_cases q2 : hw hl (i + 1) m = hw hl (hg (fun s => hw hl s m) (gm S w m) i) m
        · rw [if_pos q2] at ih
          refine br_t ?_ (sX5_likeliestIn g hS hw_ hm (by omega) (sX5_likeliestIn g hS hw_ hm (by omega) ?_))
          · rw [← Int32.toInt_inj, hsub, Int32.toInt_zero]
            omega
          · by_cases q3 : gm S w m (i + 1) ≤ gm S w m (hg (fun s => hw hl s m) (gm S w m) i)
            · rw [if_pos q3] at ih
              exact br_t ((lN_le (hf _) (hf _)).mpr q3) ih
            · rw [if_neg q3] at ih
              exact br_f (fun z => q3 ((lN_le (hf _) (hf _)).mp z)) ih
        · rw [if_neg q2] at ih
          refine br_f ?_ ih
          rw [← Int32.toInt_inj, hsub, Int32.toInt_zero]
          omega
theorem ph_hang : PH_hang RE := by
  intro v_T v_n v_k v_t v_s v_r v_c v_M p0 hR
  obtain ⟨S, w, hl, pi, pc, g1, g2, g3, g4, g5, g6, g7⟩ := id hR
  obtain ⟨c0, c1, c2, c3, c4, c5, c6, c7, c8, c9, c10, c11, c12, c13⟩ := id g2
  obtain ⟨m0, m1, m2, m3, m4, m5, m6⟩ := id g3
  refine wx (x := p0) (fun q => ?_) (fun q q2 => ?_) (fun m h1 h2 e => ?_)
  · exact br_f q (sX4_refuse 4 (by decide) rfl (sX5_boundL q (br_f (by decide) (sX5_no 4 (by decide) rfl ⟨rfl, S, w, hl, pi, pc, g1, g2, g3, g4, g5, rf_upd g6 4, g7⟩))))
  · exact br_t q (br_f q2 (sX4_refuse 6 (by decide) rfl (sX5_boundG q q2 (br_f (by decide) (sX5_no 6 (by decide) rfl ⟨rfl, S, w, hl, pi, pc, g1, g2, g3, g4, g5, rf_upd g6 6, g7⟩)))))
  · subst e
    have q1 : (1 : Int32) ≤ nI m := nI_le (a := 1) h1 (by omega)
    have q2 : nI m ≤ 40 := nI_le (b := 40) h2 (by omega)
    have hf : ∀ x, sw S w x < 2 ^ 31 := fun x => by have := sw_b g1 x; omega
    have e48 : (48 : Int32) - nI m = nI (48 - m) := pk_sub (a := 48) (by omega)
    have ham := am_b (sw S w) 0 (m - 1)
    refine br_t q1 (br_t q2 ⟨48 - m + 1 + 1, ?_⟩)
    rw [lpX4_hang_37, e48]
    refine br_f (nI_nlt (b := 0) (by omega) (by omega)) ?_
    rw [show (0 : Int32) = nI 0 from rfl, nI_add]
    refine sX3_holesWithin g1.2.2.2.2.2.2 c6 (by omega) (sX3_likeliest c13 hf (n := m - 1) (by omega) (by congr 1; omega) ⟨vp_in_nI (by omega) (by omega), ?_⟩)
    have e2 : v_n.2.2.2.2.2.2.2.2.2.2.2.2.2 (am (sw S w) 0 (m - 1)) = lN (sw S w (am (sw S w) 0 (m - 1))) := c13 _ (by omega)
    have b1 := hw_b g1.2.2.2.2.2.2 0 m
    rw [nI_clamp (by omega), e2, nI_1]
    refine br_t ?_ (lX4_hang g1 c6 c13 h1 h2 (fun _ _ _ => ?_) (48 - m) 0 (by omega))
    · rw [Int32.lt_iff_toInt_lt, nI_toInt (by omega), show (-1 : Int32).toInt = -1 by decide]
      omega
    · refine sX5_bound0 q1 q2 (br_t rfl ⟨48 - m + 1, ?_⟩)
      exact lX5_hang g1 m2 m3 m6 h1 h2 (fun _ => ⟨rfl, hR⟩) (48 - m) 0 (by omega)
