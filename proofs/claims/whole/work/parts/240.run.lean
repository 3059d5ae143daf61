/-! all statements, one behind the other -/
def rn (c : Nat → Nat) : Nat → Nat → ST5 → Option ST5 × Nat
  | 0, k, x => (some x, k)
  | d + 1, k, x => match ef c (pl c k) x.1 x.2.1 x.2.2.1 x.2.2.2.1 x.2.2.2.2 with
    | none => (none, k)
    | some y => rn c d (k + 1) y
theorem rn_n {c : Nat → Nat} {d k : Nat} {S w hl pi pc : Nat → Nat} (h : ef c (pl c k) S w hl pi pc = none) : rn c (d + 1) k (S, w, hl, pi, pc) = (none, k) := by
  show (match ef c (pl c k) S w hl pi pc with | none => (none, k) | some y => rn c d (k + 1) y) = _
  rw [h]
theorem rn_s {c : Nat → Nat} {d k : Nat} {S w hl pi pc : Nat → Nat} {y : ST5} (h : ef c (pl c k) S w hl pi pc = some y) : rn c (d + 1) k (S, w, hl, pi, pc) = rn c d (k + 1) y := by
  show (match ef c (pl c k) S w hl pi pc with | none => (none, k) | some y => rn c d (k + 1) y) = _
  rw [h]
theorem st_inj {a b c d f a' b' c' d' f' : Nat → Nat} {m m' : Nat} (h : ((some (a, b, c, d, f), m) : Option ST5 × Nat) = (some (a', b', c', d', f'), m')) : a = a' ∧ b = b' ∧ c = c' ∧ d = d' ∧ f = f' := by
  have z := Option.some.inj (congrArg Prod.fst h)
  exact ⟨congrArg (fun t : ST5 => t.1) z, congrArg (fun t : ST5 => t.2.1) z, congrArg (fun t : ST5 => t.2.2.1) z, congrArg (fun t : ST5 => t.2.2.2.1) z, congrArg (fun t : ST5 => t.2.2.2.2) z⟩
theorem st_no {x : ST5} {m j : Nat} (h : ((some x, m) : Option ST5 × Nat) = (none, j)) : False := by
  have z := congrArg Prod.fst h
  exact absurd z (by simp)
theorem neg2 : ∀ j, j < 200 → (-2000 : Int32) - nI j < 0 ∧ (-2000 : Int32) - nI j ≤ 0 := by decide +kernel
theorem neg1 : ∀ j, j < 200 → (-1000 : Int32) - nI j < 0 ∧ (-1000 : Int32) - nI j ≤ 0 := by decide +kernel
section
variable {n : Nat} {tp : Nat → Nat} {s : Nat → Int32}
theorem lX4_wall (ok : okT n tp s) {m : Nat} (hm : m ≤ 32) (hg : ∀ j, j < m → (pa (tx n tp) (pl (tx n tp) j)).1 = true) (hn : n ≤ pl (tx n tp) m) {K : Int32 → Int32 → Int32 → Int32 → Int32 → Int32 → Int32 → Int64 → Int64 → Int32 → (Nat → Int32) → (Nat → Int32) → (Nat → Int64) → (Nat → Int32) → (Nat → Int64) → Int32 → Prop} : ∀ d k (S w hl pi pc : Nat → Nat) (v : PX3), k + d = m → okA S w hl pi pc → rC S w hl pi pc v → (∀ S' w' hl' pi' pc', rn (tx n tp) d k (S, w, hl, pi, pc) = (some (S', w', hl', pi', pc'), m) → okA S' w' hl' pi' pc' → ∀ v' : PX3, rC S' w' hl' pi' pc' v' → ∀ e, K (nI m) v'.1 v'.2.1 v'.2.2.1 v'.2.2.2.1 v'.2.2.2.2.1 v'.2.2.2.2.2.1 v'.2.2.2.2.2.2.1 v'.2.2.2.2.2.2.2.1 v'.2.2.2.2.2.2.2.2.1 v'.2.2.2.2.2.2.2.2.2.1 v'.2.2.2.2.2.2.2.2.2.2.1 v'.2.2.2.2.2.2.2.2.2.2.2.1 v'.2.2.2.2.2.2.2.2.2.2.2.2.1 v'.2.2.2.2.2.2.2.2.2.2.2.2.2 e) → (∀ j, j < m → rn (tx n tp) d k (S, w, hl, pi, pc) = (none, j) → ∀ (v' : PX3) e, K (-2000 - nI (pl (tx n tp) j)) v'.1 v'.2.1 v'.2.2.1 v'.2.2.2.1 v'.2.2.2.2.1 v'.2.2.2.2.2.1 v'.2.2.2.2.2.2.1 v'.2.2.2.2.2.2.2.1 v'.2.2.2.2.2.2.2.2.1 v'.2.2.2.2.2.2.2.2.2.1 v'.2.2.2.2.2.2.2.2.2.2.1 v'.2.2.2.2.2.2.2.2.2.2.2.1 v'.2.2.2.2.2.2.2.2.2.2.2.2.1 v'.2.2.2.2.2.2.2.2.2.2.2.2.2 e) → lpX4_wall_45 K (nI n) s (d + 2) (nI k) v.1 v.2.1 v.2.2.1 v.2.2.2.1 v.2.2.2.2.1 v.2.2.2.2.2.1 v.2.2.2.2.2.2.1 v.2.2.2.2.2.2.2.1 v.2.2.2.2.2.2.2.2.1 v.2.2.2.2.2.2.2.2.2.1 v.2.2.2.2.2.2.2.2.2.2.1 v.2.2.2.2.2.2.2.2.2.2.2.1 v.2.2.2.2.2.2.2.2.2.2.2.2.1 v.2.2.2.2.2.2.2.2.2.2.2.2.2 (nI (pl (tx n tp) k)) := by
  have h96 := ok.1
  intro d
  induction d with
  | zero =>
    intro k S w hl pi pc v hk g hC hs hf
    have e : k = m := by omega
    subst e
    have hplb := pl_b k hg
    rw [lpX4_wall_45]
    exact br_f (nI_pos (by omega)) (br_f (nI_ge (a := k) (b := 96) (by omega) (by omega)) (br_t (nI_le hn (by omega)) (hs S w hl pi pc rfl g v hC _)))
  | succ d ih =>
    intro k S w hl pi pc v hk g hC hs hf
    have hplb := pl_b k (fun j hj => hg j (by omega))
    have hq : pa (tx n tp) (pl (tx n tp) k) = (true, pl (tx n tp) (k + 1)) := pa_p (hg k (by omega))
    have h2 := pa_adv hq
    obtain ⟨f0, f1, f2, f3, f4, f5, f6, f7, f8, f9, f10, f11, f12, f13⟩ := v
    obtain ⟨c0, c1, c2, c3, c4, c5, c6, c7, c8, c9, c10, c11, c12, c13⟩ := hC
    have c0 : f0 = nI (S 0) := c0
    have c1 : f1 = nI (S 1) := c1
    have c2 : f2 = nI (S 2) := c2
    have c3 : f3 = nI (S 3) := c3
    have c4 : f4 = nI (S 4) := c4
    have c5 : f5 = nI (S 5) := c5
    have c6 : f6 = lN (bo (hb hl) 48) := c6
    have c7 : f7 = lN (fb_sm w (S 0)) := c7
    have c8 : f8 = nI (bo (fun o => decide (0 < w o)) (S 0)) := c8
    subst c0 c1 c2 c3 c4 c5 c6 c7 c8
    show lpX4_wall_45 K (nI n) s (d + 1 + 2) (nI k) (nI (S 0)) (nI (S 1)) (nI (S 2)) (nI (S 3)) (nI (S 4)) (nI (S 5)) (lN (bo (hb hl) 48)) (lN (fb_sm w (S 0))) (nI (bo (fun o => decide (0 < w o)) (S 0))) f9 f10 f11 f12 f13 (nI (pl (tx n tp) k))
    rw [lpX4_wall_45]
    refine br_f (nI_pos (by omega)) (br_f (nI_ge (a := k) (b := 96) (by omega) (by omega)) (br_f (nI_ge (by omega) (by omega)) (sX2_read ok (by omega) g c9 c10 c11 c12 c13 hq (fun S' w' hl' pi' pc' he v' hC' => br_f (by decide) ?_) (fun he v' => br_t rfl ?_))))
    · rw [nI_1]
      exact ih (k + 1) S' w' hl' pi' pc' v' (by omega) (ef_ok g hq he) hC' (fun a1 a2 a3 a4 a5 hr => hs a1 a2 a3 a4 a5 ((rn_s he).trans hr)) (fun j hj hr => hf j hj ((rn_s he).trans hr))
    · rw [lpX4_wall_45]
      exact br_t (neg2 _ (by omega)).1 (hf k (by omega) (rn_n he) v' _)
theorem lX5_w86 (ok : okT n tp s) {m : Nat} (hm : m ≤ 32) (hg : ∀ j, j < m → (pa (tx n tp) (pl (tx n tp) j)).1 = true) {L A T kept : Nat → Int32} (hP : PF (tx n tp) m L A T) {isK cur taped at_ : Int32} {post : Int32 → Int32 → Int32 → Int32 → Int32 → Int32 → Int32 → Int32 → (Nat → Int32) → (Nat → Int32) → (Nat → Int32) → (Nat → Int32) → (Nat → Int32) → (Nat → Int32) → (Nat → Int32) → (Nat → Int32) → (Nat → Int32) → Prop} {K : Int32 → Int32 → Int32 → Int32 → Int32 → (Nat → Int32) → (Nat → Int32) → (Nat → Int32) → (Nat → Int32) → (Nat → Int32) → (Nat → Int32) → Prop} : ∀ d k (S w hl pi pc : Nat → Nat) P U se ho pp ch wt, k + d = m → okA S w hl pi pc → rM S w hl pi pc P U se ho pp ch wt → (∀ S' w' hl' pi' pc', rn (tx n tp) d k (S, w, hl, pi, pc) = (some (S', w', hl', pi', pc'), m) → ∀ P' U' a1 a2 a3 a4 a5, rM S' w' hl' pi' pc' P' U' a1 a2 a3 a4 a5 → K (nI m) P' U' isK cur a1 a2 a3 a4 a5 kept) → (∀ j, j < m → rn (tx n tp) d k (S, w, hl, pi, pc) = (none, j) → ∀ P' U' a1 a2 a3 a4 a5, wpX5_passesAll (fun P2 U2 k2 c2 b1 b2 b3 b4 b5 kept2 => vp_in (nI j) 48 ∧ post ((-2000 : Int32) - A (nI j).toNatClampNeg) P2 U2 taped at_ (nI m) k2 c2 b1 b2 b3 b4 b5 L A T kept2) P' U' a1 a2 a3 a4 a5 kept 1 0) → lpX5_wall_86 post K taped at_ (nI m) L A T (d + 1) (nI k) P U isK cur se ho pp ch wt kept := by
  intro d
  induction d with
  | zero =>
    intro k S w hl pi pc P U se ho pp ch wt hk g hM hs hf
    have e : k = m := by omega
    subst e
    rw [lpX5_wall_86]
    exact br_t (nI_le (Nat.le_refl _) (by omega)) (hs S w hl pi pc rfl P U se ho pp ch wt hM)
  | succ d ih =>
    intro k S w hl pi pc P U se ho pp ch wt hk g hM hs hf
    have hq : pa (tx n tp) (pl (tx n tp) k) = (true, pl (tx n tp) (k + 1)) := pa_p (hg k (by omega))
    have hPk := hP k (by omega)
    obtain ⟨m0, m1, m2, m3, m4, m5, m6⟩ := hM
    subst m0 m1
    rw [lpX5_wall_86]
    refine br_f (nI_ge (by omega) (by omega)) (sX5_comes (by omega) g m2 m3 m4 m5 m6 hPk.1 hPk.2.2 hq (fun S' w' hl' pi' pc' he P' U' a1 a2 a3 a4 a5 hM' => br_f (by decide) ?_) (fun he P' U' a1 a2 a3 a4 a5 => br_t rfl (hf k (by omega) (rn_n he) P' U' a1 a2 a3 a4 a5)))
    rw [nI_1]
    exact ih (k + 1) S' w' hl' pi' pc' P' U' a1 a2 a3 a4 a5 (by omega) (ef_ok g hq he) hM' (fun b1 b2 b3 b4 b5 hr => hs b1 b2 b3 b4 b5 ((rn_s he).trans hr)) (fun j hj hr => hf j hj ((rn_s he).trans hr))
end
