/-! dividing all weights -/
def gg (w : Nat → Nat) : Nat → Nat
  | 0 => 0
  | n + 1 => Nat.gcd (w n) (gg w n)
def nw (w : Nat → Nat) (n o : Nat) : Nat := if gg w n ≤ 1 then w o else w o / gg w n
theorem gg_dvd (w : Nat → Nat) : ∀ n o, o < n → gg w n ∣ w o
  | 0, o, h => absurd h (Nat.not_lt_zero o)
  | n + 1, o, h => by
    show Nat.gcd (w n) (gg w n) ∣ w o
    by_cases e : o = n
    · subst e; exact Nat.gcd_dvd_left _ _
    · exact Nat.dvd_trans (Nat.gcd_dvd_right _ _) (gg_dvd w n o (by omega))
theorem gg_b {w : Nat → Nat} {B : Nat} : ∀ n, (∀ o, o < n → w o ≤ B) → gg w n ≤ B
  | 0, _ => Nat.zero_le _
  | n + 1, h => by
    show Nat.gcd (w n) (gg w n) ≤ B
    have ih := gg_b (w := w) n (fun o ho => h o (by omega))
    rcases Nat.eq_zero_or_pos (w n) with e | e
    · rw [e, Nat.gcd_zero_left]; exact ih
    · exact Nat.le_trans (Nat.gcd_le_left _ e) (h n (by omega))
theorem nw_le (w : Nat → Nat) (n o : Nat) : nw w n o ≤ w o := by
  unfold nw
  split
  · exact Nat.le_refl _
  · exact Nat.div_le_self _ _
theorem nw_pos {w : Nat → Nat} {n o : Nat} (ho : o < n) (h : 0 < w o) : 0 < nw w n o := by
  unfold nw
  split
  · exact h
  · exact Nat.div_pos (Nat.le_of_dvd h (gg_dvd w n o ho)) (by omega)
theorem nw_0 {w : Nat → Nat} {n o : Nat} (h : w o = 0) : nw w n o = 0 := by
  have := nw_le w n o
  omega
theorem sm_pos {w : Nat → Nat} {n : Nat} (h : 0 < fb_sm w n) : ∃ o, o < n ∧ 0 < w o := by
  by_cases c : ∃ o, o < n ∧ 0 < w o
  · exact c
  · have : fb_sm w n = 0 := fb_z (fun o ho => by
      rcases Nat.eq_zero_or_pos (w o) with e | e
      · exact e
      · exact absurd ⟨o, ho, e⟩ c)
    omega
theorem pos_sm {w : Nat → Nat} {n o : Nat} (ho : o < n) (h : 0 < w o) : 0 < fb_sm w n := by
  have := fb_sm_part w ho
  omega
theorem nw_sm {w : Nat → Nat} {n : Nat} (h : 0 < fb_sm w n) : 0 < fb_sm (nw w n) n := by
  obtain ⟨o, ho, hp⟩ := sm_pos h
  exact pos_sm ho (nw_pos ho hp)
theorem gg_w (w : Nat → Nat) (n : Nat) : ∀ d, gg (fun o => if o < n then w o else 0) (n + d) = gg w n
  | 0 => by
    have : ∀ k, k ≤ n → gg (fun o => if o < n then w o else 0) k = gg w k := by
      intro k
      induction k with
      | zero => intro _; rfl
      | succ k ih =>
        intro hk
        show Nat.gcd (if k < n then w k else 0) _ = Nat.gcd (w k) _
        rw [if_pos (by omega), ih (by omega)]
    exact this n (Nat.le_refl _)
  | d + 1 => by
    show Nat.gcd (if n + d < n then w (n + d) else 0) (gg _ (n + d)) = _
    rw [if_neg (by omega), Nat.gcd_zero_left]
    exact gg_w w n d
theorem lX3_lessenG {W : Nat → Nat} {M : Nat → Int64} (hM : ∀ o, o < 24 → M o = lN (W o)) (hW : ∀ o, W o < 2 ^ 31) {K : Int64 → Int32 → Prop} (h : ∀ c, K (lN (gg W 24)) c) : ∀ d i, i + d = 24 → lpX3_lessenWeights_4 K M (d + 1) (lN (gg W i)) (nI i) := by
  intro d
  induction d with
  | zero =>
    intro i hi
    have e : i = 24 := by omega
    subst e
    rw [lpX3_lessenWeights_4]
    exact br_t (by decide) (h _)
  | succ d ih =>
    intro i hi
    have ih := ih (i + 1) (by omega)
    have hb : gg W i ≤ 2 ^ 31 := gg_b i (fun o _ => Nat.le_of_lt (hW o))
    have hwi := hW i
    rw [lpX3_lessenWeights_4]
    refine br_f (nI_ge (a := i) (b := 24) (by omega) (by omega)) ⟨vp_in_nI (by omega) (by omega), ?_⟩
    rw [nI_clamp (by omega), hM i (by omega), nI_1]
    exact sX4_commonDivisor (by omega) (by omega) ih
theorem lX3_lessenD {W : Nat → Nat} {g : Nat} (hg : g ≤ 2 ^ 31) (hW : ∀ o, W o < 2 ^ 31) {K : Int32 → (Nat → Int64) → Prop} (h : ∀ c M, (∀ o, o < 24 → M o = lN (if g ≤ 1 then W o else W o / g)) → K c M) : ∀ d i M, i + d = 24 → (∀ o, o < 24 → M o = lN (if g ≤ 1 then W o else if o < i then W o / g else W o)) → lpX3_lessenWeights_29 K (lN g) (d + 1) (nI i) M := by
  intro d
  induction d with
  | zero =>
    intro i M hi hM
    have e : i = 24 := by omega
    subst e
    rw [lpX3_lessenWeights_29]
    refine br_t (by decide) (h _ _ (fun o ho => ?_))
    rw [hM o ho, if_pos ho]
  | succ d ih =>
    intro i M hi hM
    rw [lpX3_lessenWeights_29]
    refine br_f (nI_ge (a := i) (b := 24) (by omega) (by omega)) ?_
    by_cases q : g ≤ 1
    · refine br_t ((lN_le' (b := 1) (by omega) (by omega)).mpr q) (h _ _ (fun o ho => ?_))
      rw [hM o ho, if_pos q, if_pos q]
    · have hwi := hW i
      refine br_f (fun z => q ((lN_le' (b := 1) (by omega) (by omega)).mp z)) ⟨vp_in_nI (by omega) (by omega), fun z => ?_, vp_in_nI (by omega) (by omega), ?_⟩
      · have := (lN_eq0 (by omega)).mp z
        omega
      · rw [nI_clamp (by omega), hM i (by omega), if_neg q, if_neg (by omega), lN_div (by omega) (by omega) (by omega), nI_1]
        refine ih (i + 1) _ (by omega) (fun o ho => ?_)
        rw [if_neg q]
        by_cases e : o = i
        · subst e
          rw [ul_s, if_pos (by omega)]
        · rw [ul_n e, hM o ho, if_neg q]
          by_cases c : o < i
          · rw [if_pos c, if_pos (by omega)]
          · rw [if_neg c, if_neg (by omega)]
theorem sX3_lessen {w : Nat → Nat} {n : Nat} (hn : n ≤ 24) (hw : ∀ o, o < n → w o < 2 ^ 31) {M : Nat → Int64} (hM : ∀ o, o < 24 → M o = lN (if o < n then w o else 0)) {post : (Nat → Int64) → Prop} (h : ∀ M', (∀ o, o < 24 → M' o = lN (if o < n then nw w n o else 0)) → post M') : wpX3_lessenWeights post M := by
  have hW : ∀ o, (fun o => if o < n then w o else 0) o < 2 ^ 31 := fun o => by
    dsimp only
    split
    · exact hw o (by assumption)
    · decide
  have eg : gg (fun o => if o < n then w o else 0) 24 = gg w n := by
    have := gg_w w n (24 - n)
    rw [show n + (24 - n) = 24 by omega] at this
    exact this
  have hb : gg w n ≤ 2 ^ 31 := gg_b n (fun o ho => Nat.le_of_lt (hw o ho))
  refine ⟨25, lX3_lessenG hM hW (fun _ => ?_) 24 0 (by omega)⟩
  rw [eg]
  refine ⟨25, lX3_lessenD hb hW (fun _ M' hM' => h M' (fun o ho => ?_)) 24 0 M (by omega) (fun o ho => ?_)⟩
  · rw [hM' o ho]
    by_cases c : o < n
    · rw [if_pos c, if_pos c]; rfl
    · rw [if_neg c, if_neg c]
      congr 1
      split
      · rfl
      · exact Nat.zero_div _
  · rw [hM o ho, if_neg (Nat.not_lt_zero o)]
    exact congrArg lN (ite_self _).symm
/-! the reference -/
theorem lX5_dividesG {S w : Nat → Nat} {M Mw : Nat → Int32} (hS : rS S M) (ok : okS S) (hw : rN (S 0) w Mw) (hb : ∀ o, o < S 0 → w o < 2 ^ 31) {K : Int64 → Int32 → Prop} (h : ∀ c, K (lN (gg w (S 0))) c) : ∀ d i, i + d = S 0 → lpX5_divides_4 K M Mw (d + 1) (lN (gg w i)) (nI i) := by
  obtain ⟨o1, o2, o3, o4, o5, o6⟩ := id ok
  intro d
  induction d with
  | zero =>
    intro i hi
    have e : i = S 0 := by omega
    subst e
    rw [lpX5_divides_4, hS.1]
    exact br_t (nI_le (Nat.le_refl _) (by omega)) (h _)
  | succ d ih =>
    intro i hi
    have ih := ih (i + 1) (by omega)
    have hgb : gg w i ≤ 2 ^ 31 := gg_b i (fun o ho => Nat.le_of_lt (hb o (by omega)))
    have hwi := hb i (by omega)
    rw [lpX5_divides_4, hS.1]
    refine br_f (nI_ge (by omega) (by omega)) ⟨vp_in_nI (by omega) (by omega), ?_⟩
    rw [nI_clamp (by omega), hw i (by omega), i2l hwi, nI_1]
    have e : gg w (i + 1) = Nat.gcd (gg w i) (w i) := Nat.gcd_comm _ _
    rw [e] at ih
    exact sX5_divisor (K := fun v _ => lpX5_divides_4 K M Mw (d + 1) v (nI (i + 1))) (by omega) (by omega) ih
theorem lX5_dividesD {S w : Nat → Nat} {M : Nat → Int32} (hS : rS S M) (ok : okS S) (hb : ∀ o, o < S 0 → w o < 2 ^ 31) {g : Nat} (hg : g < 2 ^ 31) {K : Int32 → (Nat → Int32) → Prop} (h : ∀ c M', rN (S 0) (fun o => if g ≤ 1 then w o else w o / g) M' → K c M') : ∀ d i Mw, i + d = S 0 → rN (S 0) (fun o => if g ≤ 1 then w o else if o < i then w o / g else w o) Mw → lpX5_divides_34 K (lN g) M (d + 1) (nI i) Mw := by
  obtain ⟨o1, o2, o3, o4, o5, o6⟩ := id ok
  intro d
  induction d with
  | zero =>
    intro i Mw hi hM
    have e : i = S 0 := by omega
    subst e
    rw [lpX5_divides_34, hS.1]
    refine br_t (nI_le (Nat.le_refl _) (by omega)) (h _ _ (fun o ho => ?_))
    rw [hM o ho]
    dsimp only
    rw [if_pos ho]
  | succ d ih =>
    intro i Mw hi hM
    rw [lpX5_divides_34, hS.1]
    refine br_f (nI_ge (by omega) (by omega)) ?_
    by_cases q : g ≤ 1
    · refine br_t ((lN_le' (b := 1) (by omega) (by omega)).mpr q) (h _ _ (fun o ho => ?_))
      rw [hM o ho]
      dsimp only
      rw [if_pos q, if_pos q]
    · have hwi := hb i (by omega)
      have hMi : Mw i = nI (w i) := by
        rw [hM i (by omega)]
        dsimp only
        rw [if_neg q, if_neg (by omega)]
      rw [lN_i]
      refine br_f (fun z => q ((lN_le' (b := 1) (by omega) (by omega)).mp z)) ⟨vp_in_nI (by omega) (by omega), nI_ne0 (by omega) hg, vp_in_nI (by omega) (by omega), ?_⟩
      rw [nI_clamp (by omega), hMi, pk_div hwi (by omega) hg, nI_1]
      refine ih (i + 1) _ (by omega) (fun o ho => ?_)
      dsimp only
      rw [if_neg q]
      by_cases e : o = i
      · subst e
        rw [pk_us, if_pos (by omega)]
      · rw [pk_un e, hM o ho]
        dsimp only
        rw [if_neg q]
        by_cases c : o < i
        · rw [if_pos c, if_pos (by omega)]
        · rw [if_neg c, if_neg (by omega)]
theorem sX5_divides {S w : Nat → Nat} {M Mw : Nat → Int32} (hS : rS S M) (ok : okS S) (hw : rN (S 0) w Mw) (hb : ∀ o, o < S 0 → w o ≤ 531441) {post : (Nat → Int32) → Prop} (h : ∀ M', rN (S 0) (nw w (S 0)) M' → post M') : wpX5_divides post M Mw := by
  have hb2 : ∀ o, o < S 0 → w o < 2 ^ 31 := fun o ho => by have := hb o ho; omega
  have hg : gg w (S 0) ≤ 531441 := gg_b _ hb
  refine ⟨S 0 + 1, lX5_dividesG hS ok hw hb2 (fun _ => ?_) (S 0) 0 (by omega)⟩
  refine ⟨S 0 + 1, lX5_dividesD hS ok hb2 (by omega) (fun _ M' hM' => h M' hM') (S 0) 0 Mw (by omega) (fun o ho => ?_)⟩
  rw [hw o ho]
  dsimp only
  congr 1
  split
  · rfl
  · rw [if_neg (Nat.not_lt_zero o)]
