/-! places of statements -/
def pl (c : Nat → Nat) : Nat → Nat
  | 0 => 0
  | k + 1 => (pa c (pl c k)).2
theorem pa_p {c : Nat → Nat} {p : Nat} {b : Bool} (h : (pa c p).1 = b) : pa c p = (b, (pa c p).2) := by
  rw [← h]
theorem pl_b {n : Nat} {tp : Nat → Nat} : ∀ k, (∀ j, j < k → (pa (tx n tp) (pl (tx n tp) j)).1 = true) → 3 * k ≤ pl (tx n tp) k ∧ pl (tx n tp) k ≤ n
  | 0, _ => ⟨Nat.le_refl 0, Nat.zero_le _⟩
  | k + 1, h => by
    have h1 := pl_b k (fun j hj => h j (by omega))
    have h2 := pa_adv (pa_p (h k (by omega)))
    have e : pl (tx n tp) (k + 1) = (pa (tx n tp) (pl (tx n tp) k)).2 := rfl
    omega
theorem pl_ex {n : Nat} {tp : Nat → Nat} (hn : n ≤ 96) : ∀ d k, (∀ j, j < k → (pa (tx n tp) (pl (tx n tp) j)).1 = true) → 33 ≤ k + d → ∃ m, m ≤ 32 ∧ (∀ j, j < m → (pa (tx n tp) (pl (tx n tp) j)).1 = true) ∧ ((1 ≤ m ∧ n ≤ pl (tx n tp) m) ∨ ((pa (tx n tp) (pl (tx n tp) m)).1 = false ∧ (m = 0 ∨ pl (tx n tp) m < n)))
  | 0, k, h, hk => by
    have := pl_b k h
    omega
  | d + 1, k, h, hk => by
    have hb := pl_b k h
    by_cases q : 1 ≤ k ∧ n ≤ pl (tx n tp) k
    · exact ⟨k, by omega, h, Or.inl q⟩
    · cases hp : (pa (tx n tp) (pl (tx n tp) k)).1 with
      | false => exact ⟨k, by omega, h, Or.inr ⟨hp, by omega⟩⟩
      | true =>
        refine pl_ex hn d (k + 1) (fun j hj => ?_) (by omega)
        by_cases e : j = k
        · subst e; exact hp
        · exact h j (by omega)
/-! the class passes all -/
section
variable {n : Nat} {tp : Nat → Nat} {s : Nat → Int32}
theorem lX2_pas (ok : okT n tp s) {k p N : Nat} (hk : k < 96) (hp : p < 900) (hc : p < n ∨ k = 0) {K : Int32 → Int32 → Int32 → Prop} (h : lpX2_passAll_9 K (nI n) s N (bi (pa (tx n tp) p).1) (nI (k + 1)) (nI (pa (tx n tp) p).2)) : lpX2_passAll_9 K (nI n) s (N + 1) 1 (nI k) (nI p) := by
  have hn := ok.1
  rw [lpX2_passAll_9, nI_1]
  refine br_f (by decide) (pk_eq k 0 (fun e => br_f (nI_ge (a := k) (b := 96) hk (by omega)) (sX2_pass ok hp h)) (fun e => br_f (nI_ge (by omega) (by omega)) (br_f (nI_ge (a := k) (b := 96) hk (by omega)) (sX2_pass ok hp h))))
theorem lX2_pa (ok : okT n tp s) {m : Nat} (hm : m ≤ 32) (hg : ∀ j, j < m → (pa (tx n tp) (pl (tx n tp) j)).1 = true) (hD : (1 ≤ m ∧ n ≤ pl (tx n tp) m) ∨ ((pa (tx n tp) (pl (tx n tp) m)).1 = false ∧ (m = 0 ∨ pl (tx n tp) m < n))) {K : Int32 → Int32 → Int32 → Prop} (hA : 1 ≤ m → n ≤ pl (tx n tp) m → ∀ a, K 1 a (nI (pl (tx n tp) m))) (hB : ((pa (tx n tp) (pl (tx n tp) m)).1 = false ∧ (m = 0 ∨ pl (tx n tp) m < n)) → ∀ a, K 0 a (nI (pa (tx n tp) (pl (tx n tp) m)).2)) : ∀ d k, k + d = m → lpX2_passAll_9 K (nI n) s (d + 2) 1 (nI k) (nI (pl (tx n tp) k)) := by
  have hn := ok.1
  intro d
  induction d with
  | zero =>
    intro k hk
    have e : k = m := by omega
    subst e
    have hb := pl_b k hg
    rcases hD with hD | hD
    · rw [lpX2_passAll_9]
      exact br_f (by decide) (br_f (nI_ne0 (by omega) (by omega)) (br_t (nI_le hD.2 (by omega)) (hA hD.1 hD.2 _)))
    · refine lX2_pas ok (by omega) (by omega) (by omega) ?_
      rw [hD.1, lpX2_passAll_9]
      exact br_t rfl (hB hD _)
  | succ d ih =>
    intro k hk
    have hb := pl_b k (fun j hj => hg j (by omega))
    have h2 := pa_adv (pa_p (hg k (by omega)))
    refine lX2_pas ok (by omega) (by omega) (by omega) ?_
    rw [hg k (by omega)]
    exact ih (k + 1) (by omega)
/-! the reference parses all -/
def PF (c : Nat → Nat) (k : Nat) (L A T : Nat → Int32) : Prop := ∀ j, j < k → L j = nI (c (pl c j)) ∧ A j = nI (pl c j) ∧ TF c (pl c j) (3 * j) T
theorem TF_c {c : Nat → Nat} {p q : Nat} {T T' : Nat → Int32} (h : TF c p q T) (e : ∀ j, j < q + 3 → T' j = T j) : TF c p q T' :=
  ⟨(e q (by omega)).trans h.1, fun a b => (e (q + 1) (by omega)).trans (h.2.1 a b), fun a => (e (q + 2) (by omega)).trans (h.2.2 a)⟩
theorem PF_s {c : Nat → Nat} {k : Nat} {L A T T' : Nat → Int32} (h : PF c k L A T) (h2 : TF c (pl c k) (3 * k) T') (h3 : ∀ j, j < 3 * k → T' j = T j) : PF c (k + 1) (upd L k (nI (c (pl c k)))) (upd A k (nI (pl c k))) T' := by
  intro j hj
  by_cases e : j = k
  · subst e
    exact ⟨pk_us, pk_us, h2⟩
  · have := h j (by omega)
    exact ⟨(pk_un e).trans this.1, (pk_un e).trans this.2.1, TF_c this.2.2 (fun i hi => h3 i (by omega))⟩
theorem lX5_w12s (ok : okT n tp s) {k p N : Nat} (hk : k < 96) (hp : p < 900) (hc : p < n ∨ k = 0) {L A T : Nat → Int32} {K : Int32 → Int32 → Int32 → (Nat → Int32) → (Nat → Int32) → (Nat → Int32) → Prop} (h : wpX5_statement (fun r a L' A' T' => ((r = 0 → lpX5_wall_12 K (nI n) s N r a (nI k + 0) L' A' T') ∧ (¬ r = 0 → lpX5_wall_12 K (nI n) s N r a (nI k + 1) L' A' T'))) (nI n) (nI p) (nI k) s L A T) : lpX5_wall_12 K (nI n) s (N + 1) 1 (nI p) (nI k) L A T := by
  have hn := ok.1
  rw [lpX5_wall_12]
  exact br_f (by decide) (pk_lt p n (fun _ => h) (fun z => pk_eq k 0 (fun _ => h) (fun z2 => absurd hc (by omega))))
theorem lX5_w12 (ok : okT n tp s) {m : Nat} (hm : m ≤ 32) (hg : ∀ j, j < m → (pa (tx n tp) (pl (tx n tp) j)).1 = true) (hD : (1 ≤ m ∧ n ≤ pl (tx n tp) m) ∨ ((pa (tx n tp) (pl (tx n tp) m)).1 = false ∧ (m = 0 ∨ pl (tx n tp) m < n))) {K : Int32 → Int32 → Int32 → (Nat → Int32) → (Nat → Int32) → (Nat → Int32) → Prop} (hA : 1 ≤ m → n ≤ pl (tx n tp) m → ∀ L A T, PF (tx n tp) m L A T → K 1 (nI (pl (tx n tp) m)) (nI m) L A T) (hB : ((pa (tx n tp) (pl (tx n tp) m)).1 = false ∧ (m = 0 ∨ pl (tx n tp) m < n)) → ∀ a L A T, K 0 (nI (pa (tx n tp) (pl (tx n tp) m)).2) a L A T) : ∀ d k L A T, k + d = m → PF (tx n tp) k L A T → lpX5_wall_12 K (nI n) s (d + 2) 1 (nI (pl (tx n tp) k)) (nI k) L A T := by
  have hn := ok.1
  intro d
  induction d with
  | zero =>
    intro k L A T hk hP
    have e : k = m := by omega
    subst e
    have hb := pl_b k hg
    rcases hD with hD | hD
    · rw [lpX5_wall_12]
      exact br_f (by decide) (br_f (nI_nlt hD.2 (by omega)) (br_f (nI_ne0 (by omega) (by omega)) (hA hD.1 hD.2 L A T hP)))
    · refine lX5_w12s ok (by omega) (by omega) (by omega) (sX5_st ok (by omega) (by omega) (fun e he L' A' T' => br_t rfl ?_) (fun e T' he _ _ => ?_))
      · have e2 : e = (pa (tx n tp) (pl (tx n tp) k)).2 := by rw [he]
        subst e2
        rw [lpX5_wall_12]
        exact br_t rfl (hB hD _ _ _ _)
      · rw [he] at hD
        exact absurd (show true = false from hD.1) (by decide)
  | succ d ih =>
    intro k L A T hk hP
    have hb := pl_b k (fun j hj => hg j (by omega))
    have hgk := hg k (by omega)
    have h2 := pa_adv (pa_p hgk)
    refine lX5_w12s ok (by omega) (by omega) (by omega) (sX5_st ok (by omega) (by omega) (fun e he L' A' T' => ?_) (fun e T' he h3 h4 => br_f (by decide) ?_))
    · rw [he] at hgk
      exact absurd (show false = true from hgk) (by decide)
    · have e2 : e = pl (tx n tp) (k + 1) := by
        show e = (pa (tx n tp) (pl (tx n tp) k)).2
        rw [he]
      subst e2
      rw [nI_1]
      exact ih (k + 1) _ _ _ (by omega) (PF_s hP h3 h4)
end
