/-! middle -/
def mby (m w s : Nat) : Nat := if 2 * w ≤ 2 * s + m then 2 * s + m - 2 * w else 2 * w - (2 * s + m)
/-- the nearest so far among the first n -/
def mn (hl : Nat → Nat) (m w B : Nat) : Nat → Int32 × Nat
  | 0 => (-9, B)
  | n + 1 => if hw hl n m = fb_sm hl 48 ∧ mby m w n < (mn hl m w B n).2 then (nI n, mby m w n) else mn hl m w B n
theorem mn_eq (hl : Nat → Nat) (m w : Nat) (h1 : m ≤ 40) (h2 : w < 48) : ∀ n, n ≤ 48 → (mn hl m w 192 n = mn hl m w 999 n ∧ (mn hl m w 192 n).2 < 192) ∨ (mn hl m w 192 n = (-9, 192) ∧ mn hl m w 999 n = (-9, 999))
  | 0, _ => Or.inr ⟨rfl, rfl⟩
  | n + 1, hn => by
    have hb : mby m w n < 192 := by unfold mby; split <;> omega
    rcases mn_eq hl m w h1 h2 n (by omega) with ⟨q, q2⟩ | ⟨q, q2⟩
    · refine Or.inl ?_
      unfold mn
      rw [← q]
      refine ⟨rfl, ?_⟩
      by_cases c : hw hl n m = fb_sm hl 48 ∧ mby m w n < (mn hl m w 192 n).2
      · rw [if_pos c]; exact hb
      · rw [if_neg c]; exact q2
    · unfold mn
      rw [q, q2]
      by_cases c : hw hl n m = fb_sm hl 48
      · rw [if_pos ⟨c, hb⟩, if_pos ⟨c, show mby m w n < 999 by omega⟩]
        exact Or.inl ⟨rfl, hb⟩
      · rw [if_neg (fun z => c z.1), if_neg (fun z => c z.1)]
        exact Or.inr ⟨rfl, rfl⟩
theorem mn_1 (hl : Nat → Nat) (m w : Nat) (h1 : m ≤ 40) (h2 : w < 48) (n : Nat) (hn : n ≤ 48) : (mn hl m w 192 n).1 = (mn hl m w 999 n).1 := by
  rcases mn_eq hl m w h1 h2 n hn with ⟨q, q2⟩ | ⟨q, q2⟩
  · rw [q]
  · rw [q, q2]
theorem mn_b (hl : Nat → Nat) (m w B : Nat) (hB : B < 1000) (h1 : m ≤ 40) (h2 : w < 48) : ∀ n, n ≤ 48 → (mn hl m w B n).2 < 1000
  | 0, _ => hB
  | n + 1, hn => by
    have hb : mby m w n < 192 := by unfold mby; split <;> omega
    have ih := mn_b hl m w B hB h1 h2 n (by omega)
    unfold mn
    by_cases c : hw hl n m = fb_sm hl 48 ∧ mby m w n < (mn hl m w B n).2
    · rw [if_pos c]; show mby m w n < 1000; omega
    · rw [if_neg c]; exact ih
theorem hw_le {hl : Nat → Nat} {s m : Nat} (h : s + m ≤ 48) : hw hl s m ≤ fb_sm hl 48 := by
  have e : fb_sm hl 48 = fb_sm hl s + (fb_sm (fun k => hl (s + k)) m + fb_sm (fun k => hl (s + (m + k))) (48 - s - m)) := by
    rw [show 48 = s + (m + (48 - s - m)) by omega, fb_sm_split, fb_sm_split]
    congr 3
    omega
  show fb_sm (fun k => hl (s + k)) m ≤ _
  omega
theorem mdist {m w s : Nat} (hm : m ≤ 40) (hw : w < 48) (hs : s ≤ 48) : ((2 : Int32) * nI s + nI m - (2 : Int32) * nI w).toInt = ((2 * s + m : Nat) : Int) - (2 * w : Nat) := by
  rw [show (2 : Int32) = nI 2 from rfl, pk_mul, pk_mul, nI_add]
  exact sub_toInt (by omega) (by omega)
theorem mdistP {m w s : Nat} (hm : m ≤ 40) (hw : w < 48) (hs : s ≤ 48) (h : (0 : Int32) ≤ (2 : Int32) * nI s + nI m - (2 : Int32) * nI w) : (2 : Int32) * nI s + nI m - (2 : Int32) * nI w = nI (mby m w s) := by
  have e := mdist hm hw hs
  have h1 := Int32.le_iff_toInt_le.mp h
  rw [e, Int32.toInt_zero] at h1
  have c : 2 * w ≤ 2 * s + m := by omega
  unfold mby
  rw [if_pos c]
  apply toI
  rw [e, nI_toInt (by omega)]
  omega
theorem mdistN {m w s : Nat} (hm : m ≤ 40) (hw : w < 48) (hs : s ≤ 48) (h : ¬ (0 : Int32) ≤ (2 : Int32) * nI s + nI m - (2 : Int32) * nI w) : -((2 : Int32) * nI s + nI m - (2 : Int32) * nI w) = nI (mby m w s) := by
  have e := mdist hm hw hs
  have h1 : ¬ (0 : Int) ≤ ((2 * s + m : Nat) : Int) - (2 * w : Nat) := fun z => h (Int32.le_iff_toInt_le.mpr (by rw [e, Int32.toInt_zero]; exact z))
  have c : ¬ 2 * w ≤ 2 * s + m := by omega
  unfold mby
  rw [if_neg c]
  have e2 : (2 : Int32) * nI s + nI m - (2 : Int32) * nI w = -nI (2 * w - (2 * s + m)) := by
    rw [show (2 : Int32) = nI 2 from rfl, pk_mul, pk_mul, nI_add]
    have : nI (2 * s + m) - nI (2 * w) = -(nI (2 * w) - nI (2 * s + m)) := Int32.neg_sub.symm
    rw [this, pk_sub (by omega)]
  rw [e2, Int32.neg_neg]
theorem lX4_middle {hl : Nat → Nat} (a7 : ∀ x, hl x ≤ 1) {D : Int64} (eD : D = lN (bo (hb hl) 48)) {m w : Nat} (h1 : 1 ≤ m) (hm : m ≤ 40) (hw_ : w < 48) {K : Int32 → Int32 → Int32 → Prop} (h : ∀ a b, K (mn hl m w 192 (49 - m)).1 a b) : ∀ d i, i + d = 49 - m → lpX4_middle_61 K (nI m) (nI w) (nI (fb_sm hl 48)) D (d + 1) (mn hl m w 192 i).1 (nI (mn hl m w 192 i).2) (nI i) := by
  have e48 : (48 : Int32) - nI m = nI (48 - m) := pk_sub (a := 48) (by omega)
  have ha : fb_sm hl 48 ≤ 48 * 1 := fb_sm_bound (fun k _ => a7 k)
  intro d
  induction d with
  | zero =>
    intro i hi
    have e : i = 49 - m := by omega
    subst e
    rw [lpX4_middle_61, e48]
    exact br_t (nI_lt (by omega) (by omega)) (h _ _)
  | succ d ih =>
    intro i hi
    have ih := ih (i + 1) (by omega)
    have b1 := hw_b a7 i m
    have b2 := mn_b hl m w 192 (by omega) hm hw_ i (by omega)
    have hb : mby m w i < 192 := by unfold mby; split <;> omega
    rw [lpX4_middle_61, e48]
    refine br_f (nI_nlt (by omega) (by omega)) ?_
    have fin : ∀ r : Int32, r = nI (mby m w i) → wpX3_holesWithin (fun (r_4 : Int32) => ((r_4 = nI (fb_sm hl 48) → (((nI (mn hl m w 192 i).2 ≤ r → (lpX4_middle_61 K (nI m) (nI w) (nI (fb_sm hl 48)) D (d + 1) (mn hl m w 192 i).1 (nI (mn hl m w 192 i).2) (nI i + (1 : Int32)))) ∧ (¬ (nI (mn hl m w 192 i).2 ≤ r) → (lpX4_middle_61 K (nI m) (nI w) (nI (fb_sm hl 48)) D (d + 1) (nI i) r (nI i + (1 : Int32))))))) ∧ (¬ (r_4 = nI (fb_sm hl 48)) → (lpX4_middle_61 K (nI m) (nI w) (nI (fb_sm hl 48)) D (d + 1) (mn hl m w 192 i).1 (nI (mn hl m w 192 i).2) (nI i + (1 : Int32)))))) D (nI i) (nI m) := by
      intro r er
      subst er
      rw [nI_1]
      have e : mn hl m w 192 (i + 1) = if hw hl i m = fb_sm hl 48 ∧ mby m w i < (mn hl m w 192 i).2 then (nI i, mby m w i) else mn hl m w 192 i := rfl
      rw [e] at ih
      refine sX3_holesWithin a7 eD (by omega) (pk_eq _ _ (fun q => pk_le _ _ (fun q2 => ?_) (fun q2 => ?_)) (fun q => ?_))
      · rw [if_neg (fun z => by omega)] at ih; exact ih
      · rw [if_pos ⟨q, q2⟩] at ih; exact ih
      · rw [if_neg (fun z => q z.1)] at ih; exact ih
    exact ⟨fun z => fin _ (mdistP hm hw_ (by omega) z), fun z => fin _ (mdistN hm hw_ (by omega) z)⟩
theorem lX5_middle {hl : Nat → Nat} (a7 : ∀ x, hl x ≤ 1) {Mh : Nat → Int32} (hh : rN 48 hl Mh) {m w : Nat} (h1 : 1 ≤ m) (hm : m ≤ 40) (hw_ : w < 48) {K : Int32 → Int32 → Int32 → Prop} (h : ∀ a b, K (mn hl m w 999 (49 - m)).1 a b) : ∀ d i, i + d = 49 - m → lpX5_middle_41 K (nI m) (nI w) Mh (d + 1) (mn hl m w 999 i).1 (nI (mn hl m w 999 i).2) (nI i) := by
  have ha : fb_sm hl 48 ≤ 48 * 1 := fb_sm_bound (fun k _ => a7 k)
  intro d
  induction d with
  | zero =>
    intro i hi
    have e : i = 49 - m := by omega
    subst e
    rw [lpX5_middle_41, nI_add]
    exact br_t (nI_lt (a := 48) (by omega) (by omega)) (h _ _)
  | succ d ih =>
    intro i hi
    have ih := ih (i + 1) (by omega)
    have b1 := hw_b a7 i m
    have b3 := hw_le (hl := hl) (s := i) (m := m) (by omega)
    have b2 := mn_b hl m w 999 (by omega) hm hw_ i (by omega)
    have hb : mby m w i < 192 := by unfold mby; split <;> omega
    rw [lpX5_middle_41, nI_add i m]
    refine br_f (nI_nlt (a := 48) (by omega) (by omega)) ?_
    have fin : ∀ r : Int32, r = nI (mby m w i) → wpX5_covered (fun (r_3 : Int32) => wpX5_holesMany (fun (r_4 : Int32) => ((r_3 < r_4 → (lpX5_middle_41 K (nI m) (nI w) Mh (d + 1) (mn hl m w 999 i).1 (nI (mn hl m w 999 i).2) (nI i + (1 : Int32)))) ∧ (¬ (r_3 < r_4) → (((r < nI (mn hl m w 999 i).2 → (lpX5_middle_41 K (nI m) (nI w) Mh (d + 1) (nI i) r (nI i + (1 : Int32)))) ∧ (¬ (r < nI (mn hl m w 999 i).2) → (lpX5_middle_41 K (nI m) (nI w) Mh (d + 1) (mn hl m w 999 i).1 (nI (mn hl m w 999 i).2) (nI i + (1 : Int32))))))))) Mh) Mh (nI i) (nI m) := by
      intro r er
      subst er
      rw [nI_1]
      have e : mn hl m w 999 (i + 1) = if hw hl i m = fb_sm hl 48 ∧ mby m w i < (mn hl m w 999 i).2 then (nI i, mby m w i) else mn hl m w 999 i := rfl
      rw [e] at ih
      refine sX5_covered hh (by omega) (sX5_holesMany hh (pk_lt _ _ (fun q => ?_) (fun q => pk_lt _ _ (fun q2 => ?_) (fun q2 => ?_))))
      · rw [if_neg (fun z => by omega)] at ih; exact ih
      · rw [if_pos ⟨by omega, q2⟩] at ih; exact ih
      · rw [if_neg (fun z => by omega)] at ih; exact ih
    exact ⟨fun z => fin _ (mdistP hm hw_ (by omega) z), fun z => fin _ (mdistN hm hw_ (by omega) z)⟩
theorem ph_middle : PH_middle RE := by
  intro v_T v_n v_k v_t v_s v_r v_c v_M p0 p1 hR
  obtain ⟨S, w, hl, pi, pc, g1, g2, g3, g4, g5, g6, g7⟩ := id hR
  obtain ⟨a1, a2, a3, a4, a5, a6, a7⟩ := id g1
  obtain ⟨c0, c1, c2, c3, c4, c5, c6, c7, c8, c9, c10, c11, c12, c13⟩ := id g2
  obtain ⟨m0, m1, m2, m3, m4, m5, m6⟩ := id g3
  refine inX (x := p1) 48 (by omega) (fun q => ?_) (fun j hj e => ?_)
  · refine sX4_isNoInchN q (br_f (by decide) (sX4_refuse 1 (by decide) rfl ?_))
    exact sX5_isInchN q (br_t rfl (sX5_no 1 (by decide) rfl ⟨rfl, S, w, hl, pi, pc, g1, g2, g3, g4, g5, rf_upd g6 1, g7⟩))
  · subst e
    refine sX4_isNoInch hj (br_t rfl ?_)
    refine wx (x := p0) (fun q => ?_) (fun q q2 => ?_) (fun m h1 h2 e => ?_)
    · exact br_f q (sX4_refuse 4 (by decide) rfl (sX5_isInch hj (br_f (by decide) (sX5_boundL q (br_f (by decide) (sX5_no 4 (by decide) rfl ⟨rfl, S, w, hl, pi, pc, g1, g2, g3, g4, g5, rf_upd g6 4, g7⟩))))))
    · exact br_t q (br_f q2 (sX4_refuse 6 (by decide) rfl (sX5_isInch hj (br_f (by decide) (sX5_boundG q q2 (br_f (by decide) (sX5_no 6 (by decide) rfl ⟨rfl, S, w, hl, pi, pc, g1, g2, g3, g4, g5, rf_upd g6 6, g7⟩)))))))
    · subst e
      have q1 : (1 : Int32) ≤ nI m := nI_le (a := 1) h1 (by omega)
      have q2 : nI m ≤ 40 := nI_le (b := 40) h2 (by omega)
      refine br_t q1 (br_t q2 (sX3_allHoles a7 c6 ⟨49 - m + 1, lX4_middle a7 c6 h1 h2 hj (fun _ _ => ?_) (49 - m) 0 (by omega)⟩))
      refine sX5_isInch hj (br_f (by decide) (sX5_bound0 q1 q2 (br_t rfl ⟨49 - m + 1, lX5_middle a7 m3 h1 h2 hj (fun _ _ => ⟨?_, hR⟩) (49 - m) 0 (by omega)⟩)))
      exact mn_1 hl m j h2 hj (49 - m) (by omega)
