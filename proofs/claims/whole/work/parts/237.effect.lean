/-! what a statement does -/
abbrev ST5 : Type := (Nat → Nat) × (Nat → Nat) × (Nat → Nat) × (Nat → Nat) × (Nat → Nat)
def inR (j v : Nat) : Bool := decide (lo j ≤ v) && decide (v ≤ hi_ j)
theorem inR_t {j v : Nat} (h : inR j v = true) : lo j ≤ v ∧ v ≤ hi_ j := by
  unfold inR at h
  rw [Bool.and_eq_true] at h
  exact ⟨of_decide_eq_true h.1, of_decide_eq_true h.2⟩
def ef (c : Nat → Nat) (p : Nat) (S w hl pi pc : Nat → Nat) : Option ST5 :=
  if c p = 115 then (if (inR 0 (tl0 c p) && inR 1 (tl1 c p)) = true then some (us (us S 0 (tl0 c p)) 1 (tl1 c p), fun _ => 1, hl, pi, pc) else none)
  else if c p = 108 then some (us S 3 (tl0 c p), fun _ => 1, hl, pi, pc)
  else if c p = 100 then (if inR 2 (tl0 c p) = true then some (us S 2 (tl0 c p), fun _ => 1, hl, pi, pc) else none)
  else if c p = 116 then (if tl0 c p < 5 ∧ tl1 c p < 48 ∧ S 4 < 6 then some (u4 S (S 4 + 1), nw (w1 S w (tl0 c p) (tl1 c p) (decide (c (p + 4) = 43))) (S 0), hk_ hl (tl0 c p) (tl1 c p), pi, pc) else none)
  else if c p = 110 then (if tl0 c p < 48 ∧ ¬ bo (lm S w (tl0 c p) (decide (c (p + 3) = 43))) (S 0) = 0 then some (S, nw (w2 S w (tl0 c p) (decide (c (p + 3) = 43))) (S 0), hx1 hl (tl0 c p), pi, pc) else none)
  else (if tl0 c p < 48 ∧ S 5 < 6 then some (u5 S (S 5 + 1), w, hl, fun i => if i = S 5 then tl0 c p else pi i, fun i => if i = S 5 then tl1 c p else pc i) else none)
section
variable {c : Nat → Nat} {p : Nat} {S w hl pi pc : Nat → Nat}
theorem ef_s (h : c p = 115) : ef c p S w hl pi pc = if (inR 0 (tl0 c p) && inR 1 (tl1 c p)) = true then some (us (us S 0 (tl0 c p)) 1 (tl1 c p), fun _ => 1, hl, pi, pc) else none := if_pos h
theorem ef_l (h : c p = 108) : ef c p S w hl pi pc = some (us S 3 (tl0 c p), fun _ => 1, hl, pi, pc) := by
  unfold ef
  rw [if_neg (by omega), if_pos h]
theorem ef_d (h : c p = 100) : ef c p S w hl pi pc = if inR 2 (tl0 c p) = true then some (us S 2 (tl0 c p), fun _ => 1, hl, pi, pc) else none := by
  unfold ef
  rw [if_neg (by omega), if_neg (by omega), if_pos h]
theorem ef_t (h : c p = 116) : ef c p S w hl pi pc = if tl0 c p < 5 ∧ tl1 c p < 48 ∧ S 4 < 6 then some (u4 S (S 4 + 1), nw (w1 S w (tl0 c p) (tl1 c p) (decide (c (p + 4) = 43))) (S 0), hk_ hl (tl0 c p) (tl1 c p), pi, pc) else none := by
  unfold ef
  rw [if_neg (by omega), if_neg (by omega), if_neg (by omega), if_pos h]
theorem ef_n (h : c p = 110) : ef c p S w hl pi pc = if tl0 c p < 48 ∧ ¬ bo (lm S w (tl0 c p) (decide (c (p + 3) = 43))) (S 0) = 0 then some (S, nw (w2 S w (tl0 c p) (decide (c (p + 3) = 43))) (S 0), hx1 hl (tl0 c p), pi, pc) else none := by
  unfold ef
  rw [if_neg (by omega), if_neg (by omega), if_neg (by omega), if_neg (by omega), if_pos h]
theorem ef_p (h : c p = 112) : ef c p S w hl pi pc = if tl0 c p < 48 ∧ S 5 < 6 then some (u5 S (S 5 + 1), w, hl, fun i => if i = S 5 then tl0 c p else pi i, fun i => if i = S 5 then tl1 c p else pc i) else none := by
  unfold ef
  rw [if_neg (by omega), if_neg (by omega), if_neg (by omega), if_neg (by omega), if_neg (by omega)]
theorem d1_b (h : dg c p = true) : d1 c p ≤ 9 := by
  have := dg_t h
  unfold d1
  omega
theorem d2_b (h : dg c p = true) (h2 : dg c (p + 1) = true) : d2 c p ≤ 99 := by
  have := dg_t h
  have := dg_t h2
  unfold d2
  omega
theorem us2_ok (ok : okS S) {a b : Nat} (ha : inR 0 a = true) (hb : inR 1 b = true) : okS (us (us S 0 a) 1 b) := by
  have h1 := inR_t ha
  have h2 := inR_t hb
  exact us_ok (us_ok ok (by omega) h1.1 h1.2) (by omega) h2.1 h2.2
theorem okA_pipe (g : okA S w hl pi pc) (h6 : S 5 < 6) {x v : Nat} (hx : x < 48) (hv : v ≤ 9) : okA (u5 S (S 5 + 1)) w hl (fun i => if i = S 5 then x else pi i) (fun i => if i = S 5 then v else pc i) := by
  obtain ⟨a1, a2, a3, a4, a5, a6, a7⟩ := id g
  refine ⟨a1, a2, by show S 5 + 1 ≤ 6; omega, a4, a5, fun k hk => ?_, a7⟩
  have hk : k < S 5 + 1 := hk
  dsimp only
  by_cases e : k = S 5
  · rw [if_pos e, if_pos e]
    exact ⟨hx, hv⟩
  · rw [if_neg e, if_neg e]
    exact a6 k (by omega)
theorem okA_us (g : okA S w hl pi pc) {S' : Nat → Nat} (ok : okS S') (h4 : S' 4 = 0) (h5 : S' 5 = S 5) : okA S' (fun _ => 1) hl pi pc := by
  obtain ⟨a1, a2, a3, a4, a5, a6, a7⟩ := id g
  exact okA_new ok h4 (by omega) (by rw [h5]; exact a6) a7
theorem ef_ok (g : okA S w hl pi pc) {e : Nat} (hp : pa c p = (true, e)) {S' w' hl' pi' pc' : Nat → Nat} (h : ef c p S w hl pi pc = some (S', w', hl', pi', pc')) : okA S' w' hl' pi' pc' := by
  have go : ∀ {a b c d f : Nat → Nat}, okA a b c d f → some ((a, b, c, d, f) : ST5) = some (S', w', hl', pi', pc') → okA S' w' hl' pi' pc' := fun {a b c d f} q z => by
    have z := Option.some.inj z
    have z1 : a = S' := congrArg (fun t : ST5 => t.1) z
    have z2 : b = w' := congrArg (fun t : ST5 => t.2.1) z
    have z3 : c = hl' := congrArg (fun t : ST5 => t.2.2.1) z
    have z4 : d = pi' := congrArg (fun t : ST5 => t.2.2.2.1) z
    have z5 : f = pc' := congrArg (fun t : ST5 => t.2.2.2.2) z
    subst z1 z2 z3 z4 z5
    exact q
  have gs : c p = 115 → okA S' w' hl' pi' pc' := fun q => by
    rw [ef_s q] at h
    by_cases z : (inR 0 (tl0 c p) && inR 1 (tl1 c p)) = true
    · rw [if_pos z] at h
      rw [Bool.and_eq_true] at z
      exact go (okA_us g (us2_ok g.1 z.1 z.2) rfl rfl) h
    · rw [if_neg z] at h
      exact absurd h (by simp)
  refine pa_cases hp (fun q _ _ _ _ _ _ => gs q) (fun q _ _ _ _ _ _ => gs q) (fun q a _ _ => ?_) (fun q _ _ _ _ => ?_) (fun q _ _ _ _ _ _ => ?_) (fun q _ _ _ _ _ => ?_) (fun q a1 a2 a3 _ _ => ?_)
  · rw [ef_l q] at h
    have hl6 : lwN (c (p + 1)) < 6 := of_decide_eq_true a
    have e0 := tl0_l q
    exact go (okA_us g (us_ok g.1 (by omega) (Nat.zero_le _) (show tl0 c p ≤ 5 by omega)) rfl rfl) h
  · rw [ef_d q] at h
    by_cases z : inR 2 (tl0 c p) = true
    · rw [if_pos z] at h
      have := inR_t z
      exact go (okA_us g (us_ok g.1 (by omega) this.1 this.2) rfl rfl) h
    · rw [if_neg z] at h
      exact absurd h (by simp)
  · rw [ef_t q] at h
    by_cases z : tl0 c p < 5 ∧ tl1 c p < 48 ∧ S 4 < 6
    · rw [if_pos z] at h
      exact go (okA_tell g z.2.2 z.1) h
    · rw [if_neg z] at h
      exact absurd h (by simp)
  · rw [ef_n q] at h
    by_cases z : tl0 c p < 48 ∧ ¬ bo (lm S w (tl0 c p) (decide (c (p + 3) = 43))) (S 0) = 0
    · rw [if_pos z] at h
      exact go (okA_nail g z.2) h
    · rw [if_neg z] at h
      exact absurd h (by simp)
  · rw [ef_p q] at h
    by_cases z : tl0 c p < 48 ∧ S 5 < 6
    · rw [if_pos z] at h
      refine go (okA_pipe g z.2 z.1 ?_) h
      rw [tl1_p q]
      exact d1_b a3
    · rw [if_neg z] at h
      exact absurd h (by simp)
end
/-! the class reads -/
theorem sX2_skip {p : Nat} {post : Int32 → Prop} (h : post (nI (p + 1))) : wpX2_skipSign post (nI p) := by
  show post (nI p + 1)
  rw [nI_1]
  exact h
section
variable {n : Nat} {tp : Nat → Nat} {s : Nat → Int32}
theorem lX2_rn (ok : okT n tp s) {m v j p N : Nat} (hj : j < m) (hm : m ≤ 2) (hp : p < 2000) {K : Int32 → Int32 → Int32 → Prop} (hd : dg (tx n tp) p = true) (h : lpX2_readNumber_4 K (nI m) (nI n) s N (nI (10 * v + (tx n tp p - 48))) (nI (j + 1)) (nI (p + 1))) : lpX2_readNumber_4 K (nI m) (nI n) s (N + 1) (nI v) (nI j) (nI p) := by
  have hb := dg_t hd
  rw [lpX2_readNumber_4]
  refine br_f (nI_ge hj (by omega)) (sX2_signAt (p := p) ok (by omega) ?_)
  show lpX2_readNumber_4 K (nI m) (nI n) s N (10 * nI v + nI (tx n tp p) - 48) (nI j + 1) (nI p + 1)
  rw [show (10 : Int32) = nI 10 from rfl, pk_mul, nI_add, show (48 : Int32) = nI 48 from rfl, pk_sub (by omega), nI_1, nI_1, show 10 * v + tx n tp p - 48 = 10 * v + (tx n tp p - 48) by omega]
  exact h
theorem sX2_n1 (ok : okT n tp s) {p : Nat} (hp : p < 1000) (hd : dg (tx n tp) p = true) {post : Int32 → Int32 → Prop} (h : post (nI (d1 (tx n tp) p)) (nI (p + 1))) : wpX2_readNumber post (nI n) (nI p) s 1 := by
  refine ⟨2, lX2_rn (m := 1) (v := 0) (j := 0) ok (by omega) (by omega) (by omega) hd ?_⟩
  rw [lpX2_readNumber_4]
  refine br_t (by decide) ?_
  rw [Nat.mul_zero, Nat.zero_add]
  exact h
theorem sX2_n2 (ok : okT n tp s) {p : Nat} (hp : p < 1000) (hd : dg (tx n tp) p = true) (hd2 : dg (tx n tp) (p + 1) = true) {post : Int32 → Int32 → Prop} (h : post (nI (d2 (tx n tp) p)) (nI (p + 2))) : wpX2_readNumber post (nI n) (nI p) s 2 := by
  refine ⟨3, lX2_rn (m := 2) (v := 0) (j := 0) ok (by omega) (by omega) (by omega) hd (lX2_rn (m := 2) ok (by omega) (by omega) (by omega) hd2 ?_)⟩
  rw [lpX2_readNumber_4]
  refine br_t (by decide) ?_
  rw [Nat.mul_zero, Nat.zero_add]
  exact h
theorem sX2_plus (ok : okT n tp s) {p : Nat} (hp : p < 1000) {post : Int32 → Int32 → Prop} (h : post (bi (decide (tx n tp p = 43))) (nI (p + 1))) : wpX2_readPlus post (nI n) (nI p) s := by
  have hc := tx_b ok p
  refine sX2_signAt (p := p) ok (by omega) (pk_eq (tx n tp p) 43 (fun e => sX2_skip ?_) (fun e => sX2_skip ?_))
  · rw [decide_eq_true e] at h; exact h
  · rw [decide_eq_false e] at h; exact h
end
theorem sX4_isOut {j v : Nat} (hj : j < 4) (hv : v < 1000) {post : Int32 → Prop} (h : post (bi (!inR j v))) : wpX4_isOut post (nI j) (nI v) := by
  have hb := lo_b j hj
  have vin : vp_in (nI j) 4 := vp_in_nI hj (by omega)
  unfold wpX4_isOut
  rw [lo_c j hj, hi_c j hj]
  unfold inR at h
  refine ⟨vin, pk_lt v (lo j) (fun e => ?_) (fun e => ⟨vin, pk_le v (hi_ j) (fun e2 => ?_) (fun e2 => ?_)⟩)⟩
  · rw [decide_eq_false (by omega : ¬ lo j ≤ v)] at h; exact h
  · rw [decide_eq_true e, decide_eq_true e2] at h; exact h
  · rw [decide_eq_true e, decide_eq_false (by omega : ¬ v ≤ hi_ j)] at h; exact h
