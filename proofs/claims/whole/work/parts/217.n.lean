/-! keeping and giving back -/
def cp (M k : Nat → Int32) (c n : Nat) : Nat → Int32 := fun j => if c ≤ j ∧ j < c + n then M (j - c) else k j
def rs (M k : Nat → Int32) (c n : Nat) : Nat → Int32 := fun j => if j < n then k (c + j) else M j
theorem cp_s (M k : Nat → Int32) (c i : Nat) : upd (cp M k c i) (c + i) (M i) = cp M k c (i + 1) := by
  funext j
  by_cases e : j = c + i
  · subst e
    rw [pk_us]
    show _ = if c ≤ c + i ∧ c + i < c + (i + 1) then M (c + i - c) else k (c + i)
    rw [if_pos ⟨by omega, by omega⟩, Nat.add_sub_cancel_left]
  · rw [pk_un e]
    show (if c ≤ j ∧ j < c + i then M (j - c) else k j) = if c ≤ j ∧ j < c + (i + 1) then M (j - c) else k j
    by_cases q : c ≤ j ∧ j < c + i
    · rw [if_pos q, if_pos ⟨q.1, by omega⟩]
    · rw [if_neg q, if_neg (by omega)]
theorem cp_0 (M k : Nat → Int32) (c : Nat) : cp M k c 0 = k := by
  funext j
  show (if c ≤ j ∧ j < c + 0 then M (j - c) else k j) = k j
  rw [if_neg (by omega)]
theorem rs_s (M k : Nat → Int32) (c i : Nat) : upd (rs M k c i) i (k (c + i)) = rs M k c (i + 1) := by
  funext j
  by_cases e : j = i
  · subst e
    rw [pk_us]
    show _ = if j < j + 1 then k (c + j) else M j
    rw [if_pos (by omega)]
  · rw [pk_un e]
    show (if j < i then k (c + j) else M j) = if j < i + 1 then k (c + j) else M j
    by_cases q : j < i
    · rw [if_pos q, if_pos (by omega)]
    · rw [if_neg q, if_neg (by omega)]
theorem rs_0 (M k : Nat → Int32) (c : Nat) : rs M k c 0 = M := by
  funext j
  show (if j < 0 then k (c + j) else M j) = M j
  rw [if_neg (by omega)]
theorem cp_in {M k : Nat → Int32} {c n j : Nat} (h : j < n) : cp M k c n (c + j) = M j := by
  show (if c ≤ c + j ∧ c + j < c + n then M (c + j - c) else _) = _
  rw [if_pos ⟨by omega, by omega⟩, Nat.add_sub_cancel_left]
theorem cp_out {M k : Nat → Int32} {c n j : Nat} (h : j < c ∨ c + n ≤ j) : cp M k c n j = k j := if_neg (by omega)
theorem rs_in {M k : Nat → Int32} {c n j : Nat} (h : j < n) : rs M k c n j = k (c + j) := if_pos h
theorem lX5_keep_M2 {M k : Nat → Int32} {c : Nat} (hc : c + 4 ≤ 200) {K : Int32 → Int32 → (Nat → Int32) → (Nat → Int32) → Prop} (h : K (nI 4) (nI (c + 4)) M (cp M k c 4)) : ∀ d i, i + d = 4 → lpX5_passes_M2_2 K 1 (d + 1) (nI i) (nI (c + i)) M (cp M k c i) := by
  intro d
  induction d with
  | zero =>
    intro i hi
    have e : i = 4 := by omega
    subst e
    rw [lpX5_passes_M2_2]
    exact br_t (by decide) h
  | succ d ih =>
    intro i hi
    have ih := ih (i + 1) (by omega)
    rw [lpX5_passes_M2_2]
    refine br_f (nI_ge (a := i) (b := 4) (by omega) (by omega)) (br_f (by decide) ⟨vp_in_nI (by omega) (by omega), vp_in_nI (by omega) (by omega), ?_⟩)
    rw [nI_clamp (by omega), nI_clamp (by omega), nI_1, nI_1, cp_s]
    exact ih
theorem sX5_keep_M2 {M k : Nat → Int32} {c : Nat} (hc : c + 4 ≤ 200) {post : Int32 → (Nat → Int32) → (Nat → Int32) → Prop} (h : post (nI (c + 4)) M (cp M k c 4)) : wpX5_passes_M2 post 1 (nI c) M k := by
  have nx := lX5_keep_M2 (M := M) (k := k) (K := fun _ a b e => post a b e) hc h 4 0 (by omega)
  rw [cp_0] at nx
  exact ⟨4 + 1, nx⟩
theorem lX5_give_M2 {M k : Nat → Int32} {c : Nat} (hc : c + 4 ≤ 200) {K : Int32 → Int32 → (Nat → Int32) → (Nat → Int32) → Prop} (h : K (nI 4) (nI (c + 4)) (rs M k c 4) k) : ∀ d i, i + d = 4 → lpX5_passes_M2_2 K 0 (d + 1) (nI i) (nI (c + i)) (rs M k c i) k := by
  intro d
  induction d with
  | zero =>
    intro i hi
    have e : i = 4 := by omega
    subst e
    rw [lpX5_passes_M2_2]
    exact br_t (by decide) h
  | succ d ih =>
    intro i hi
    have ih := ih (i + 1) (by omega)
    rw [lpX5_passes_M2_2]
    refine br_f (nI_ge (a := i) (b := 4) (by omega) (by omega)) (br_t rfl ⟨vp_in_nI (by omega) (by omega), vp_in_nI (by omega) (by omega), ?_⟩)
    rw [nI_clamp (by omega), nI_clamp (by omega), nI_1, nI_1, rs_s]
    exact ih
theorem sX5_give_M2 {M k : Nat → Int32} {c : Nat} (hc : c + 4 ≤ 200) {post : Int32 → (Nat → Int32) → (Nat → Int32) → Prop} (h : post (nI (c + 4)) (rs M k c 4) k) : wpX5_passes_M2 post 0 (nI c) M k := by
  have nx := lX5_give_M2 (M := M) (k := k) (K := fun _ a b e => post a b e) hc h 4 0 (by omega)
  rw [rs_0] at nx
  exact ⟨4 + 1, nx⟩
theorem lX5_keep_M3 {M k : Nat → Int32} {c : Nat} (hc : c + 48 ≤ 200) {K : Int32 → Int32 → (Nat → Int32) → (Nat → Int32) → Prop} (h : K (nI 48) (nI (c + 48)) M (cp M k c 48)) : ∀ d i, i + d = 48 → lpX5_passes_M3_2 K 1 (d + 1) (nI i) (nI (c + i)) M (cp M k c i) := by
  intro d
  induction d with
  | zero =>
    intro i hi
    have e : i = 48 := by omega
    subst e
    rw [lpX5_passes_M3_2]
    exact br_t (by decide) h
  | succ d ih =>
    intro i hi
    have ih := ih (i + 1) (by omega)
    rw [lpX5_passes_M3_2]
    refine br_f (nI_ge (a := i) (b := 48) (by omega) (by omega)) (br_f (by decide) ⟨vp_in_nI (by omega) (by omega), vp_in_nI (by omega) (by omega), ?_⟩)
    rw [nI_clamp (by omega), nI_clamp (by omega), nI_1, nI_1, cp_s]
    exact ih
theorem sX5_keep_M3 {M k : Nat → Int32} {c : Nat} (hc : c + 48 ≤ 200) {post : Int32 → (Nat → Int32) → (Nat → Int32) → Prop} (h : post (nI (c + 48)) M (cp M k c 48)) : wpX5_passes_M3 post 1 (nI c) M k := by
  have nx := lX5_keep_M3 (M := M) (k := k) (K := fun _ a b e => post a b e) hc h 48 0 (by omega)
  rw [cp_0] at nx
  exact ⟨48 + 1, nx⟩
theorem lX5_give_M3 {M k : Nat → Int32} {c : Nat} (hc : c + 48 ≤ 200) {K : Int32 → Int32 → (Nat → Int32) → (Nat → Int32) → Prop} (h : K (nI 48) (nI (c + 48)) (rs M k c 48) k) : ∀ d i, i + d = 48 → lpX5_passes_M3_2 K 0 (d + 1) (nI i) (nI (c + i)) (rs M k c i) k := by
  intro d
  induction d with
  | zero =>
    intro i hi
    have e : i = 48 := by omega
    subst e
    rw [lpX5_passes_M3_2]
    exact br_t (by decide) h
  | succ d ih =>
    intro i hi
    have ih := ih (i + 1) (by omega)
    rw [lpX5_passes_M3_2]
    refine br_f (nI_ge (a := i) (b := 48) (by omega) (by omega)) (br_t rfl ⟨vp_in_nI (by omega) (by omega), vp_in_nI (by omega) (by omega), ?_⟩)
    rw [nI_clamp (by omega), nI_clamp (by omega), nI_1, nI_1, rs_s]
    exact ih
theorem sX5_give_M3 {M k : Nat → Int32} {c : Nat} (hc : c + 48 ≤ 200) {post : Int32 → (Nat → Int32) → (Nat → Int32) → Prop} (h : post (nI (c + 48)) (rs M k c 48) k) : wpX5_passes_M3 post 0 (nI c) M k := by
  have nx := lX5_give_M3 (M := M) (k := k) (K := fun _ a b e => post a b e) hc h 48 0 (by omega)
  rw [rs_0] at nx
  exact ⟨48 + 1, nx⟩
theorem lX5_keep_M4 {M k : Nat → Int32} {c : Nat} (hc : c + 6 ≤ 200) {K : Int32 → Int32 → (Nat → Int32) → (Nat → Int32) → Prop} (h : K (nI 6) (nI (c + 6)) M (cp M k c 6)) : ∀ d i, i + d = 6 → lpX5_passes_M4_2 K 1 (d + 1) (nI i) (nI (c + i)) M (cp M k c i) := by
  intro d
  induction d with
  | zero =>
    intro i hi
    have e : i = 6 := by omega
    subst e
    rw [lpX5_passes_M4_2]
    exact br_t (by decide) h
  | succ d ih =>
    intro i hi
    have ih := ih (i + 1) (by omega)
    rw [lpX5_passes_M4_2]
    refine br_f (nI_ge (a := i) (b := 6) (by omega) (by omega)) (br_f (by decide) ⟨vp_in_nI (by omega) (by omega), vp_in_nI (by omega) (by omega), ?_⟩)
    rw [nI_clamp (by omega), nI_clamp (by omega), nI_1, nI_1, cp_s]
    exact ih
theorem sX5_keep_M4 {M k : Nat → Int32} {c : Nat} (hc : c + 6 ≤ 200) {post : Int32 → (Nat → Int32) → (Nat → Int32) → Prop} (h : post (nI (c + 6)) M (cp M k c 6)) : wpX5_passes_M4 post 1 (nI c) M k := by
  have nx := lX5_keep_M4 (M := M) (k := k) (K := fun _ a b e => post a b e) hc h 6 0 (by omega)
  rw [cp_0] at nx
  exact ⟨6 + 1, nx⟩
theorem lX5_give_M4 {M k : Nat → Int32} {c : Nat} (hc : c + 6 ≤ 200) {K : Int32 → Int32 → (Nat → Int32) → (Nat → Int32) → Prop} (h : K (nI 6) (nI (c + 6)) (rs M k c 6) k) : ∀ d i, i + d = 6 → lpX5_passes_M4_2 K 0 (d + 1) (nI i) (nI (c + i)) (rs M k c i) k := by
  intro d
  induction d with
  | zero =>
    intro i hi
    have e : i = 6 := by omega
    subst e
    rw [lpX5_passes_M4_2]
    exact br_t (by decide) h
  | succ d ih =>
    intro i hi
    have ih := ih (i + 1) (by omega)
    rw [lpX5_passes_M4_2]
    refine br_f (nI_ge (a := i) (b := 6) (by omega) (by omega)) (br_t rfl ⟨vp_in_nI (by omega) (by omega), vp_in_nI (by omega) (by omega), ?_⟩)
    rw [nI_clamp (by omega), nI_clamp (by omega), nI_1, nI_1, rs_s]
    exact ih
theorem sX5_give_M4 {M k : Nat → Int32} {c : Nat} (hc : c + 6 ≤ 200) {post : Int32 → (Nat → Int32) → (Nat → Int32) → Prop} (h : post (nI (c + 6)) (rs M k c 6) k) : wpX5_passes_M4 post 0 (nI c) M k := by
  have nx := lX5_give_M4 (M := M) (k := k) (K := fun _ a b e => post a b e) hc h 6 0 (by omega)
  rw [rs_0] at nx
  exact ⟨6 + 1, nx⟩
theorem lX5_keep_M5 {M k : Nat → Int32} {c : Nat} (hc : c + 6 ≤ 200) {K : Int32 → Int32 → (Nat → Int32) → (Nat → Int32) → Prop} (h : K (nI 6) (nI (c + 6)) M (cp M k c 6)) : ∀ d i, i + d = 6 → lpX5_passes_M5_2 K 1 (d + 1) (nI i) (nI (c + i)) M (cp M k c i) := by
  intro d
  induction d with
  | zero =>
    intro i hi
    have e : i = 6 := by omega
    subst e
    rw [lpX5_passes_M5_2]
    exact br_t (by decide) h
  | succ d ih =>
    intro i hi
    have ih := ih (i + 1) (by omega)
    rw [lpX5_passes_M5_2]
    refine br_f (nI_ge (a := i) (b := 6) (by omega) (by omega)) (br_f (by decide) ⟨vp_in_nI (by omega) (by omega), vp_in_nI (by omega) (by omega), ?_⟩)
    rw [nI_clamp (by omega), nI_clamp (by omega), nI_1, nI_1, cp_s]
    exact ih
theorem sX5_keep_M5 {M k : Nat → Int32} {c : Nat} (hc : c + 6 ≤ 200) {post : Int32 → (Nat → Int32) → (Nat → Int32) → Prop} (h : post (nI (c + 6)) M (cp M k c 6)) : wpX5_passes_M5 post 1 (nI c) M k := by
  have nx := lX5_keep_M5 (M := M) (k := k) (K := fun _ a b e => post a b e) hc h 6 0 (by omega)
  rw [cp_0] at nx
  exact ⟨6 + 1, nx⟩
theorem lX5_give_M5 {M k : Nat → Int32} {c : Nat} (hc : c + 6 ≤ 200) {K : Int32 → Int32 → (Nat → Int32) → (Nat → Int32) → Prop} (h : K (nI 6) (nI (c + 6)) (rs M k c 6) k) : ∀ d i, i + d = 6 → lpX5_passes_M5_2 K 0 (d + 1) (nI i) (nI (c + i)) (rs M k c i) k := by
  intro d
  induction d with
  | zero =>
    intro i hi
    have e : i = 6 := by omega
    subst e
    rw [lpX5_passes_M5_2]
    exact br_t (by decide) h
  | succ d ih =>
    intro i hi
    have ih := ih (i + 1) (by omega)
    rw [lpX5_passes_M5_2]
    refine br_f (nI_ge (a := i) (b := 6) (by omega) (by omega)) (br_t rfl ⟨vp_in_nI (by omega) (by omega), vp_in_nI (by omega) (by omega), ?_⟩)
    rw [nI_clamp (by omega), nI_clamp (by omega), nI_1, nI_1, rs_s]
    exact ih
theorem sX5_give_M5 {M k : Nat → Int32} {c : Nat} (hc : c + 6 ≤ 200) {post : Int32 → (Nat → Int32) → (Nat → Int32) → Prop} (h : post (nI (c + 6)) (rs M k c 6) k) : wpX5_passes_M5 post 0 (nI c) M k := by
  have nx := lX5_give_M5 (M := M) (k := k) (K := fun _ a b e => post a b e) hc h 6 0 (by omega)
  rw [rs_0] at nx
  exact ⟨6 + 1, nx⟩
theorem lX5_keep_M6 {M k : Nat → Int32} {c : Nat} (hc : c + 24 ≤ 200) {K : Int32 → Int32 → (Nat → Int32) → (Nat → Int32) → Prop} (h : K (nI 24) (nI (c + 24)) M (cp M k c 24)) : ∀ d i, i + d = 24 → lpX5_passes_M6_2 K 1 (d + 1) (nI i) (nI (c + i)) M (cp M k c i) := by
  intro d
  induction d with
  | zero =>
    intro i hi
    have e : i = 24 := by omega
    subst e
    rw [lpX5_passes_M6_2]
    exact br_t (by decide) h
  | succ d ih =>
    intro i hi
    have ih := ih (i + 1) (by omega)
    rw [lpX5_passes_M6_2]
    refine br_f (nI_ge (a := i) (b := 24) (by omega) (by omega)) (br_f (by decide) ⟨vp_in_nI (by omega) (by omega), vp_in_nI (by omega) (by omega), ?_⟩)
    rw [nI_clamp (by omega), nI_clamp (by omega), nI_1, nI_1, cp_s]
    exact ih
theorem sX5_keep_M6 {M k : Nat → Int32} {c : Nat} (hc : c + 24 ≤ 200) {post : Int32 → (Nat → Int32) → (Nat → Int32) → Prop} (h : post (nI (c + 24)) M (cp M k c 24)) : wpX5_passes_M6 post 1 (nI c) M k := by
  have nx := lX5_keep_M6 (M := M) (k := k) (K := fun _ a b e => post a b e) hc h 24 0 (by omega)
  rw [cp_0] at nx
  exact ⟨24 + 1, nx⟩
theorem lX5_give_M6 {M k : Nat → Int32} {c : Nat} (hc : c + 24 ≤ 200) {K : Int32 → Int32 → (Nat → Int32) → (Nat → Int32) → Prop} (h : K (nI 24) (nI (c + 24)) (rs M k c 24) k) : ∀ d i, i + d = 24 → lpX5_passes_M6_2 K 0 (d + 1) (nI i) (nI (c + i)) (rs M k c i) k := by
  intro d
  induction d with
  | zero =>
    intro i hi
    have e : i = 24 := by omega
    subst e
    rw [lpX5_passes_M6_2]
    exact br_t (by decide) h
  | succ d ih =>
    intro i hi
    have ih := ih (i + 1) (by omega)
    rw [lpX5_passes_M6_2]
    refine br_f (nI_ge (a := i) (b := 24) (by omega) (by omega)) (br_t rfl ⟨vp_in_nI (by omega) (by omega), vp_in_nI (by omega) (by omega), ?_⟩)
    rw [nI_clamp (by omega), nI_clamp (by omega), nI_1, nI_1, rs_s]
    exact ih
theorem sX5_give_M6 {M k : Nat → Int32} {c : Nat} (hc : c + 24 ≤ 200) {post : Int32 → (Nat → Int32) → (Nat → Int32) → Prop} (h : post (nI (c + 24)) (rs M k c 24) k) : wpX5_passes_M6 post 0 (nI c) M k := by
  have nx := lX5_give_M6 (M := M) (k := k) (K := fun _ a b e => post a b e) hc h 24 0 (by omega)
  rw [rs_0] at nx
  exact ⟨24 + 1, nx⟩
theorem sX5_keep1 {k : Nat → Int32} {c : Nat} (hc : c < 200) {x : Int32} {post : Int32 → Int32 → (Nat → Int32) → Prop} (h : post x (nI (c + 1)) (upd k c x)) : wpX5_passOne post 1 (nI c) k x := by
  refine br_f (by decide) (br_f (by decide) ⟨vp_in_nI hc (by omega), ?_⟩)
  rw [nI_clamp (by omega), nI_1]
  exact h
theorem sX5_give1 {k : Nat → Int32} {c : Nat} (hc : c < 200) {x : Int32} {post : Int32 → Int32 → (Nat → Int32) → Prop} (h : post (k c) (nI (c + 1)) k) : wpX5_passOne post 0 (nI c) k x := by
  refine br_t rfl ⟨vp_in_nI hc (by omega), br_t rfl ?_⟩
  rw [nI_clamp (by omega), nI_1]
  exact h
/-- all that is kept from place b on -/
def KP (b : Nat) (k se ho pa ch wt : Nat → Int32) (P U : Int32) : Nat → Int32 :=
  upd (upd (cp wt (cp ch (cp pa (cp ho (cp se k b 4) (b + 4) 48) (b + 4 + 48) 6) (b + 4 + 48 + 6) 6) (b + 4 + 48 + 6 + 6) 24) (b + 4 + 48 + 6 + 6 + 24) P) (b + 4 + 48 + 6 + 6 + 24 + 1) U
theorem KP_out {b : Nat} {k se ho pa ch wt : Nat → Int32} {P U : Int32} {j : Nat} (h : j < b ∨ b + 90 ≤ j) : KP b k se ho pa ch wt P U j = k j := by
  unfold KP
  rw [pk_un (by omega), pk_un (by omega), cp_out (by omega), cp_out (by omega), cp_out (by omega), cp_out (by omega), cp_out (by omega)]
theorem KP_se {b : Nat} {k se ho pa ch wt : Nat → Int32} {P U : Int32} {j : Nat} (h : j < 4) : KP b k se ho pa ch wt P U (b + j) = se j := by
  unfold KP
  rw [pk_un (by omega), pk_un (by omega), cp_out (by omega), cp_out (by omega), cp_out (by omega), cp_out (by omega), cp_in h]
theorem KP_ho {b : Nat} {k se ho pa ch wt : Nat → Int32} {P U : Int32} {j : Nat} (h : j < 48) : KP b k se ho pa ch wt P U (b + 4 + j) = ho j := by
  unfold KP
  rw [pk_un (by omega), pk_un (by omega), cp_out (by omega), cp_out (by omega), cp_out (by omega), cp_in h]
theorem KP_pa {b : Nat} {k se ho pa ch wt : Nat → Int32} {P U : Int32} {j : Nat} (h : j < 6) : KP b k se ho pa ch wt P U (b + 4 + 48 + j) = pa j := by
  unfold KP
  rw [pk_un (by omega), pk_un (by omega), cp_out (by omega), cp_out (by omega), cp_in h]
theorem KP_ch {b : Nat} {k se ho pa ch wt : Nat → Int32} {P U : Int32} {j : Nat} (h : j < 6) : KP b k se ho pa ch wt P U (b + 4 + 48 + 6 + j) = ch j := by
  unfold KP
  rw [pk_un (by omega), pk_un (by omega), cp_out (by omega), cp_in h]
theorem KP_wt {b : Nat} {k se ho pa ch wt : Nat → Int32} {P U : Int32} {j : Nat} (h : j < 24) : KP b k se ho pa ch wt P U (b + 4 + 48 + 6 + 6 + j) = wt j := by
  unfold KP
  rw [pk_un (by omega), pk_un (by omega), cp_in h]
theorem KP_P {b : Nat} {k se ho pa ch wt : Nat → Int32} {P U : Int32} : KP b k se ho pa ch wt P U (b + 4 + 48 + 6 + 6 + 24) = P := by
  unfold KP
  rw [pk_un (by omega), pk_us]
theorem KP_U {b : Nat} {k se ho pa ch wt : Nat → Int32} {P U : Int32} : KP b k se ho pa ch wt P U (b + 4 + 48 + 6 + 6 + 24 + 1) = U := by
  unfold KP
  rw [pk_us]
theorem sX5_keepAll {b i : Nat} (eb : b = 100 * i) (hb : b + 90 ≤ 200) {P U : Int32} {se ho pa ch wt k : Nat → Int32} {post : Int32 → Int32 → Int32 → Int32 → (Nat → Int32) → (Nat → Int32) → (Nat → Int32) → (Nat → Int32) → (Nat → Int32) → (Nat → Int32) → Prop} (h : post P U 1 (nI (b + 4 + 48 + 6 + 6 + 24 + 1 + 1)) se ho pa ch wt (KP b k se ho pa ch wt P U)) : wpX5_passesAll post P U se ho pa ch wt k (nI i) 1 := by
  unfold wpX5_passesAll
  rw [show (100 : Int32) = nI 100 from rfl, pk_mul, ← eb]
  refine ⟨⟨rfl, rfl⟩, sX5_keep_M2 (by omega) (sX5_keep_M3 (by omega) (sX5_keep_M4 (by omega) (sX5_keep_M5 (by omega) (sX5_keep_M6 (by omega) (sX5_keep1 (by omega) (sX5_keep1 (by omega) ?_))))))⟩
  exact h
theorem sX5_giveAll {b i : Nat} (eb : b = 100 * i) (hb : b + 90 ≤ 200) {P U : Int32} {se ho pa ch wt k : Nat → Int32} {post : Int32 → Int32 → Int32 → Int32 → (Nat → Int32) → (Nat → Int32) → (Nat → Int32) → (Nat → Int32) → (Nat → Int32) → (Nat → Int32) → Prop} (h : post (k (b + 4 + 48 + 6 + 6 + 24)) (k (b + 4 + 48 + 6 + 6 + 24 + 1)) 0 (nI (b + 4 + 48 + 6 + 6 + 24 + 1 + 1)) (rs se k b 4) (rs ho k (b + 4) 48) (rs pa k (b + 4 + 48) 6) (rs ch k (b + 4 + 48 + 6) 6) (rs wt k (b + 4 + 48 + 6 + 6) 24) k) : wpX5_passesAll post P U se ho pa ch wt k (nI i) 0 := by
  unfold wpX5_passesAll
  rw [show (100 : Int32) = nI 100 from rfl, pk_mul, ← eb]
  refine ⟨⟨rfl, rfl⟩, sX5_give_M2 (by omega) (sX5_give_M3 (by omega) (sX5_give_M4 (by omega) (sX5_give_M5 (by omega) (sX5_give_M6 (by omega) (sX5_give1 (by omega) (sX5_give1 (by omega) ?_))))))⟩
  exact h
theorem vc_in {α : Type} {f g : Nat → α} {n k : Nat} (h : k < n) : va_cpy f g 0 0 n k = f k := by
  show (if 0 ≤ k ∧ k < 0 + n then f (0 + (k - 0)) else g k) = f k
  rw [if_pos ⟨by omega, by omega⟩, Nat.zero_add, Nat.sub_zero]
/-- a copy of a wall is the same wall -/
theorem rC_cpy {S w hl pi pc : Nat → Nat} (g : okA S w hl pi pc) {v : PX3} (h : rC S w hl pi pc v) (a1 a2 : Nat → Int32) (a3 : Nat → Int64) (a4 : Nat → Int32) (a5 : Nat → Int64) : rC S w hl pi pc (v.1, v.2.1, v.2.2.1, v.2.2.2.1, v.2.2.2.2.1, v.2.2.2.2.2.1, v.2.2.2.2.2.2.1, v.2.2.2.2.2.2.2.1, v.2.2.2.2.2.2.2.2.1, va_cpy v.2.2.2.2.2.2.2.2.2.1 a1 0 0 6, va_cpy v.2.2.2.2.2.2.2.2.2.2.1 a2 0 0 6, va_cpy v.2.2.2.2.2.2.2.2.2.2.2.1 a3 0 0 24, va_cpy v.2.2.2.2.2.2.2.2.2.2.2.2.1 a4 0 0 48, va_cpy v.2.2.2.2.2.2.2.2.2.2.2.2.2 a5 0 0 48) := by
  obtain ⟨c0, c1, c2, c3, c4, c5, c6, c7, c8, c9, c10, c11, c12, c13⟩ := id h
  have h5 := g.2.2.1
  exact ⟨c0, c1, c2, c3, c4, c5, c6, c7, c8, fun o ho => (vc_in (by omega)).trans (c9 o ho), fun o ho => (vc_in (by omega)).trans (c10 o ho), fun o ho => (vc_in ho).trans (c11 o ho), fun o ho => (vc_in ho).trans (c12 o ho), fun o ho => (vc_in ho).trans (c13 o ho)⟩
/-- what is kept tells of the same wall -/
theorem rM_keep {S w hl pi pc : Nat → Nat} (g : okA S w hl pi pc) {P U : Int32} {se ho pa ch wt k : Nat → Int32} (h : rM S w hl pi pc P U se ho pa ch wt) : rM S w hl pi pc (KP 0 k se ho pa ch wt P U 88) (KP 0 k se ho pa ch wt P U 89) (KP 0 k se ho pa ch wt P U) (fun x => KP 0 k se ho pa ch wt P U (4 + x)) (fun j => KP 0 k se ho pa ch wt P U (52 + j)) (fun j => KP 0 k se ho pa ch wt P U (58 + j)) (fun o => KP 0 k se ho pa ch wt P U (64 + o)) := by
  obtain ⟨m0, m1, ⟨s0, s1, s2, s3⟩, m3, m4, m5, m6⟩ := h
  have h5 := g.2.2.1
  have h0 := g.1.2.1
  refine ⟨(KP_P (b := 0)).trans m0, (KP_U (b := 0)).trans m1, ⟨?_, ?_, ?_, ?_⟩, fun x hx => ?_, fun x hx => ?_, fun x hx => ?_, fun x hx => ?_⟩
  · exact (KP_se (b := 0) (j := 0) (by omega)).trans s0
  · exact (KP_se (b := 0) (j := 1) (by omega)).trans s1
  · exact (KP_se (b := 0) (j := 2) (by omega)).trans s2
  · exact (KP_se (b := 0) (j := 3) (by omega)).trans s3
  · have e := (KP_ho (b := 0) (k := k) (se := se) (ho := ho) (pa := pa) (ch := ch) (wt := wt) (P := P) (U := U) hx).trans (m3 x hx)
    exact e
  · have e := (KP_pa (b := 0) (k := k) (se := se) (ho := ho) (pa := pa) (ch := ch) (wt := wt) (P := P) (U := U) (j := x) (by omega)).trans (m4 x hx)
    exact e
  · have e := (KP_ch (b := 0) (k := k) (se := se) (ho := ho) (pa := pa) (ch := ch) (wt := wt) (P := P) (U := U) (j := x) (by omega)).trans (m5 x hx)
    exact e
  · have e := (KP_wt (b := 0) (k := k) (se := se) (ho := ho) (pa := pa) (ch := ch) (wt := wt) (P := P) (U := U) (j := x) (by omega)).trans (m6 x hx)
    exact e
theorem ph_image : PH_image RE := by
  intro v_T v_n v_k v_t v_s v_r v_c v_M hR
  obtain ⟨S, w, hl, pi, pc, g1, g2, g3, g4, g5, g6, g7⟩ := id hR
  unfold wpX4_image wpX3_becomeAs wpX5_image
  refine sX5_keepAll (b := 0) (i := 0) rfl (by omega) ?_
  refine ⟨g2.2.2.2.2.1.trans g3.2.1.symm, S, w, hl, pi, pc, g1, g2, g3, g4, g5, g6, true, rfl, rfl, fun _ => ⟨S, w, hl, pi, pc, g1, rC_cpy g1 g2 _ _ _ _ _, rM_keep g1 g3⟩⟩
theorem ph_on : PH_on RE := by
  intro v_T v_n v_k v_t v_s v_r v_c v_M hR
  obtain ⟨S, w, hl, pi, pc, g1, g2, g3, g4, g5, g6, g7⟩ := id hR
  obtain ⟨b, b1, b2, b3⟩ := id g7
  have e1 : v_T.1 = bi b := b1
  have e2 : v_M.2.2.2.2.2.1 = bi b := b2
  cases b with
  | false =>
    refine br_t e1 (sX4_refuse 3 (by decide) rfl ?_)
    exact br_t e2 (sX5_no 3 (by decide) rfl ⟨rfl, S, w, hl, pi, pc, g1, g2, g3, g4, g5, rf_upd g6 3, g7⟩)
  | true =>
    obtain ⟨S', w', hl', pi', pc', k1, k2, k3⟩ := b3 rfl
    obtain ⟨m0, m1, ⟨s0, s1, s2, s3⟩, m3, m4, m5, m6⟩ := id k3
    have h5 := k1.2.2.1
    have h0 := k1.1.2.1
    refine br_f (fun z => absurd (e1.symm.trans z) (by decide)) ?_
    refine br_f (fun z => absurd (e2.symm.trans z) (by decide)) (sX5_giveAll (b := 0) (i := 0) rfl (by omega) ?_)
    refine ⟨k2.2.2.2.2.1.trans m1.symm, S', w', hl', pi', pc', k1, rC_cpy k1 k2 _ _ _ _ _, ⟨m0, m1, ⟨?_, ?_, ?_, ?_⟩, fun x hx => ?_, fun x hx => ?_, fun x hx => ?_, fun x hx => ?_⟩, g4, g5, g6, g7⟩
    · exact (rs_in (M := uM_setting v_M) (k := uM_kept v_M) (c := 0) (n := 4) (j := 0) (by omega)).trans s0
    · exact (rs_in (M := uM_setting v_M) (k := uM_kept v_M) (c := 0) (n := 4) (j := 1) (by omega)).trans s1
    · exact (rs_in (M := uM_setting v_M) (k := uM_kept v_M) (c := 0) (n := 4) (j := 2) (by omega)).trans s2
    · exact (rs_in (M := uM_setting v_M) (k := uM_kept v_M) (c := 0) (n := 4) (j := 3) (by omega)).trans s3
    · exact (rs_in (c := 0 + 4) hx).trans (m3 x hx)
    · exact (rs_in (c := 0 + 4 + 48) (by omega)).trans (m4 x hx)
    · exact (rs_in (c := 0 + 4 + 48 + 6) (by omega)).trans (m5 x hx)
    · exact (rs_in (c := 0 + 4 + 48 + 6 + 6) (by omega)).trans (m6 x hx)
