abbrev uW_space (v : PX3) : Int32 := v.1
abbrev uW_beam (v : PX3) : Int32 := v.2.1
abbrev uW_door (v : PX3) : Int32 := v.2.2.1
abbrev uW_law (v : PX3) : Int32 := v.2.2.2.1
abbrev uW_used (v : PX3) : Int32 := v.2.2.2.2.1
abbrev uW_pipes (v : PX3) : Int32 := v.2.2.2.2.2.1
abbrev uW_drilled (v : PX3) : Int64 := v.2.2.2.2.2.2.1
abbrev uW_total (v : PX3) : Int64 := v.2.2.2.2.2.2.2.1
abbrev uW_open (v : PX3) : Int32 := v.2.2.2.2.2.2.2.2.1
abbrev uW_pipeInches (v : PX3) : Nat → Int32 := v.2.2.2.2.2.2.2.2.2.1
abbrev uW_pipeChances (v : PX3) : Nat → Int32 := v.2.2.2.2.2.2.2.2.2.2.1
abbrev uW_weights (v : PX3) : Nat → Int64 := v.2.2.2.2.2.2.2.2.2.2.2.1
abbrev uW_woods (v : PX3) : Nat → Int32 := v.2.2.2.2.2.2.2.2.2.2.2.2.1
abbrev uW_sums (v : PX3) : Nat → Int64 := v.2.2.2.2.2.2.2.2.2.2.2.2.2
abbrev us_length (v : PX2) : Int32 := v.1
abbrev us_place (v : PX2) : Int32 := v.2.1
abbrev us_signs (v : PX2) : Nat → Int32 := v.2.2
abbrev ur_length (v : PX0) : Int32 := v.1
abbrev ur_numbers (v : PX0) : Nat → Int32 := v.2
abbrev uM_pipes (v : PX5) : Int32 := v.1
abbrev uM_used (v : PX5) : Int32 := v.2.1
abbrev uM_taped (v : PX5) : Int32 := v.2.2.1
abbrev uM_at (v : PX5) : Int32 := v.2.2.2.1
abbrev uM_statements (v : PX5) : Int32 := v.2.2.2.2.1
abbrev uM_hasImage (v : PX5) : Int32 := v.2.2.2.2.2.1
abbrev uM_isKeeping (v : PX5) : Int32 := v.2.2.2.2.2.2.1
abbrev uM_cursor (v : PX5) : Int32 := v.2.2.2.2.2.2.2.1
abbrev uM_nextAt (v : PX5) : Int32 := v.2.2.2.2.2.2.2.2.1
abbrev uM_nextMost (v : PX5) : Int64 := v.2.2.2.2.2.2.2.2.2.1
abbrev uM_rowMany (v : PX5) : Int32 := v.2.2.2.2.2.2.2.2.2.2.1
abbrev uM_refused (v : PX5) : Nat → Int32 := v.2.2.2.2.2.2.2.2.2.2.2.1
abbrev uM_setting (v : PX5) : Nat → Int32 := v.2.2.2.2.2.2.2.2.2.2.2.2.1
abbrev uM_hole (v : PX5) : Nat → Int32 := v.2.2.2.2.2.2.2.2.2.2.2.2.2.1
abbrev uM_pipeAt (v : PX5) : Nat → Int32 := v.2.2.2.2.2.2.2.2.2.2.2.2.2.2.1
abbrev uM_chance (v : PX5) : Nat → Int32 := v.2.2.2.2.2.2.2.2.2.2.2.2.2.2.2.1
abbrev uM_weight (v : PX5) : Nat → Int32 := v.2.2.2.2.2.2.2.2.2.2.2.2.2.2.2.2.1
abbrev uM_tape (v : PX5) : Nat → Int32 := v.2.2.2.2.2.2.2.2.2.2.2.2.2.2.2.2.2.1
abbrev uM_letter (v : PX5) : Nat → Int32 := v.2.2.2.2.2.2.2.2.2.2.2.2.2.2.2.2.2.2.1
abbrev uM_letterAt (v : PX5) : Nat → Int32 := v.2.2.2.2.2.2.2.2.2.2.2.2.2.2.2.2.2.2.2.1
abbrev uM_told (v : PX5) : Nat → Int32 := v.2.2.2.2.2.2.2.2.2.2.2.2.2.2.2.2.2.2.2.2.1
abbrev uM_kept (v : PX5) : Nat → Int32 := v.2.2.2.2.2.2.2.2.2.2.2.2.2.2.2.2.2.2.2.2.2.1
abbrev uM_then (v : PX5) : Nat → Int64 := v.2.2.2.2.2.2.2.2.2.2.2.2.2.2.2.2.2.2.2.2.2.2.1
abbrev uM_row (v : PX5) : Nat → Int32 := v.2.2.2.2.2.2.2.2.2.2.2.2.2.2.2.2.2.2.2.2.2.2.2
abbrev uT_isKept (v : PX4) : Int32 := v.1
abbrev uT_refusals (v : PX4) : Nat → Int32 := v.2
/-- bits -/
def bo (p : Nat → Bool) : Nat → Nat
  | 0 => 0
  | n + 1 => bo p n + (if p n then 2 ^ n else 0)
/-- a state: S the settings, S 4 how many tellings, S 5 how many pipes; w weights, hl holes, pi and pc the pipes -/
def okA (S w hl pi pc : Nat → Nat) : Prop := okS S ∧ S 4 ≤ 6 ∧ S 5 ≤ 6 ∧ (∀ o, o < S 0 → w o ≤ 9 ^ S 4) ∧ 0 < fb_sm w (S 0) ∧ (∀ k, k < S 5 → pi k < 48 ∧ pc k ≤ 9) ∧ ∀ x, hl x ≤ 1
def rC (S w hl pi pc : Nat → Nat) (v : PX3) : Prop :=
  uW_space v = nI (S 0) ∧ uW_beam v = nI (S 1) ∧ uW_door v = nI (S 2) ∧ uW_law v = nI (S 3) ∧ uW_used v = nI (S 4) ∧ uW_pipes v = nI (S 5) ∧
  uW_drilled v = lN (bo (fun x => decide (hl x = 1)) 48) ∧ uW_total v = lN (fb_sm w (S 0)) ∧ uW_open v = nI (bo (fun o => decide (0 < w o)) (S 0)) ∧ rN (S 5) pi (uW_pipeInches v) ∧ rN (S 5) pc (uW_pipeChances v) ∧
  (∀ o, o < 24 → uW_weights v o = lN (if o < S 0 then w o else 0)) ∧ (∀ x, x < 48 → uW_woods v x = nI (bo (wd S x) (S 0))) ∧ (∀ x, x < 48 → uW_sums v x = lN (sw S w x))
def rM (S w hl pi pc : Nat → Nat) (pipes used : Int32) (setting hole pipeAt chance weight : Nat → Int32) : Prop :=
  pipes = nI (S 5) ∧ used = nI (S 4) ∧ rS S setting ∧ rN 48 hl hole ∧ rN (S 5) pi pipeAt ∧ rN (S 5) pc chance ∧ rN (S 0) w weight
def rTx (v_s : PX2) (v_M : PX5) : Prop := ∃ (n : Nat) (tp : Nat → Nat), n ≤ 96 ∧ us_length v_s = nI n ∧ uM_taped v_M = nI n ∧ ∀ i, i < n → tp i < 256 ∧ us_signs v_s i = nI (tp i) ∧ uM_tape v_M i = nI (tp i)
def rRw (v_r : PX0) (v_M : PX5) : Prop := ∃ (n : Nat) (rw : Nat → Nat), n ≤ 8 ∧ ur_length v_r = nI n ∧ uM_rowMany v_M = nI n ∧ ∀ i, i < n → rw i < 100 ∧ ur_numbers v_r i = nI (rw i) ∧ uM_row v_M i = nI (rw i)
def rRf (v_T : PX4) (v_M : PX5) : Prop := ∀ k, k < 7 → uT_refusals v_T k = uM_refused v_M k
def rIm (v_T : PX4) (v_k : PX3) (v_M : PX5) : Prop := ∃ b : Bool, uT_isKept v_T = bi b ∧ uM_hasImage v_M = bi b ∧ (b = true → ∃ S w hl pi pc : Nat → Nat, okA S w hl pi pc ∧ rC S w hl pi pc v_k ∧ rM S w hl pi pc (uM_kept v_M 88) (uM_kept v_M 89) (uM_kept v_M) (fun x => uM_kept v_M (4 + x)) (fun k => uM_kept v_M (52 + k)) (fun k => uM_kept v_M (58 + k)) (fun o => uM_kept v_M (64 + o)))
def RE : RT := fun v_T v_n v_k v_s v_r v_M => ∃ S w hl pi pc : Nat → Nat, okA S w hl pi pc ∧ rC S w hl pi pc v_n ∧ rM S w hl pi pc (uM_pipes v_M) (uM_used v_M) (uM_setting v_M) (uM_hole v_M) (uM_pipeAt v_M) (uM_chance v_M) (uM_weight v_M) ∧ rTx v_s v_M ∧ rRw v_r v_M ∧ rRf v_T v_M ∧ rIm v_T v_k v_M
/-- a refusal counted on both sides -/
theorem rf_upd {T R : Nat → Int32} (h : ∀ k, k < 7 → T k = R k) (n : Nat) : ∀ k, k < 7 → upd T n (T n + 1) k = upd R n (R n + 1) k := by
  intro k hk
  by_cases e : k = n
  · subst e
    rw [pk_us, pk_us, h k hk]
  · rw [pk_un e, pk_un e, h k hk]
theorem sX4_refuse {post : Int32 → (Nat → Int32) → Prop} {R : Nat → Int32} {k : Int32} (n : Nat) (hn : n < 7) (e : -k = nI n) (h : post k (upd R n (R n + 1))) : wpX4_refuse post R k := by
  unfold wpX4_refuse
  rw [e, nI_clamp (by omega)]
  exact ⟨vp_in_nI hn (by omega), vp_in_nI hn (by omega), h⟩
theorem sX4_refuseLong {post : Int64 → (Nat → Int32) → Prop} {R : Nat → Int32} {k : Int32} (n : Nat) (hn : n < 7) (e : -k = nI n) (h : post (4000000000000000000 - k.toInt64) (upd R n (R n + 1))) : wpX4_refuseLong post R k := sX4_refuse n hn e h
theorem okA_w {S w hl pi pc : Nat → Nat} (h : okA S w hl pi pc) : ∀ o, o < S 0 → w o ≤ 531441 := by
  intro o ho
  obtain ⟨-, h4, -, hw, -⟩ := h
  have h1 := hw o ho
  have h2 : 9 ^ S 4 ≤ 9 ^ 6 := Nat.pow_le_pow_right (by decide) h4
  omega
/-! arguments: an inch, a tool, a part, an offset, or not -/
theorem sX5_isInch {post : Int32 → Prop} {j : Nat} (hj : j < 48) (h : post 1) : wpX5_isInch post (nI j) := br_f (nI_pos (by omega)) (br_f (fun z => absurd (nI_ge (a := j) (b := 48) hj (by omega)) (fun q => q z)) h)
theorem sX5_isInchN {post : Int32 → Prop} {x : Int32} (hx : x < 0 ∨ nI 48 ≤ x) (h : post 0) : wpX5_isInch post x := by
  by_cases q : x < 0
  · exact br_t q h
  · exact br_f q (br_t (hx.resolve_left q) h)
theorem sX4_isNoInch {post : Int32 → Prop} {j : Nat} (hj : j < 48) (h : post 0) : wpX4_isNoInch post (nI j) := br_f (nI_pos (by omega)) (br_t (nI_le (a := j) (b := 47) (by omega) (by omega)) h)
theorem sX4_isNoInchN {post : Int32 → Prop} {x : Int32} (hx : x < 0 ∨ nI 48 ≤ x) (h : post 1) : wpX4_isNoInch post x := by
  by_cases q : x < 0
  · exact br_t q h
  · refine br_f q (br_f (fun z => ?_) h)
    have h1 := Int32.le_iff_toInt_le.mp (hx.resolve_left q)
    have h2 := Int32.le_iff_toInt_le.mp z
    rw [nI_toInt (by omega)] at h1
    have e : (47 : Int32).toInt = 47 := by decide
    omega
theorem inX {P : Prop} {x : Int32} (n : Nat) (hn : n < 2 ^ 31) (h1 : x < 0 ∨ nI n ≤ x → P) (h2 : ∀ j, j < n → x = nI j → P) : P := by
  rcases pk_ix x hn with h | h | ⟨j, hj, e⟩
  · exact h1 (Or.inl h)
  · exact h1 (Or.inr h)
  · exact h2 j hj e
theorem sX5_isInN {post : Int32 → Prop} {x : Int32} {m : Int32} (n : Nat) (hn : n + 1 < 2 ^ 31) (em : m = nI n) (hx : x < 0 ∨ nI (n + 1) ≤ x) (h : post 0) : wpX5_isIn post x 0 m := by
  by_cases q : x < 0
  · exact br_t q h
  · refine br_f q (br_t ?_ h)
    have h1 := Int32.le_iff_toInt_le.mp (hx.resolve_left q)
    rw [nI_toInt (by omega)] at h1
    rw [em, Int32.lt_iff_toInt_lt, nI_toInt (by omega)]
    omega
theorem sX5_isIn0 {post : Int32 → Prop} {j n : Nat} {m : Int32} (hn : n + 1 < 2 ^ 31) (em : m = nI n) (hj : j < n + 1) (h : post 1) : wpX5_isIn post (nI j) 0 m := by
  subst em
  exact br_f (nI_pos (by omega)) (br_f (nI_nlt (by omega) (by omega)) h)
theorem sX4_isNoTool {post : Int32 → Prop} {j : Nat} (hj : j < 5) (h : post 0) : wpX4_isNoTool post (nI j) := br_f (nI_pos (by omega)) (br_t (nI_lt (a := j) (b := 5) (by omega) (by omega)) h)
theorem sX4_isNoToolN {post : Int32 → Prop} {x : Int32} (hx : x < 0 ∨ nI 5 ≤ x) (h : post 1) : wpX4_isNoTool post x := by
  by_cases q : x < 0
  · exact br_t q h
  · exact br_f q (br_f (Int32.not_lt.mpr (hx.resolve_left q)) h)
theorem sX4_isNoPart {post : Int32 → Prop} {j : Nat} (hj : j < 2) (h : post 0) : wpX4_isNoPart post (nI j) := by
  rcases (show j = 0 ∨ j = 1 by omega) with rfl | rfl
  · exact br_t rfl h
  · exact br_f (by decide) (br_t rfl h)
theorem sX4_isNoPartN {post : Int32 → Prop} {x : Int32} (hx : x < 0 ∨ nI 2 ≤ x) (h : post 1) : wpX4_isNoPart post x := by
  have h0 : ¬ x = 0 := fun e => by subst e; revert hx; decide
  have h1 : ¬ x = 1 := fun e => by subst e; revert hx; decide
  exact br_f h0 (br_f h1 h)
theorem sX5_isOffset {post : Int32 → Prop} {M : Nat → Int32} {n j : Nat} (hn : n < 2 ^ 31) (e : M 0 = nI n) (hj : j < n) (h : post 1) : wpX5_isOffset post M (nI j) := by
  unfold wpX5_isOffset
  rw [e]
  exact br_f (nI_pos (by omega)) (br_f (nI_ge hj hn) h)
theorem sX5_isOffsetN {post : Int32 → Prop} {M : Nat → Int32} {n : Nat} {x : Int32} (e : M 0 = nI n) (hx : x < 0 ∨ nI n ≤ x) (h : post 0) : wpX5_isOffset post M x := by
  unfold wpX5_isOffset
  rw [e]
  by_cases q : x < 0
  · exact br_t q h
  · exact br_f q (br_t (hx.resolve_left q) h)
theorem sX4_isNoOffset {post : Int32 → Prop} {n j : Nat} (hn : n < 2 ^ 31) (hj : j < n) (h : post 0) : wpX4_isNoOffset post (nI n) (nI j) := br_f (nI_pos (by omega)) (br_t (nI_lt hj hn) h)
theorem sX4_isNoOffsetN {post : Int32 → Prop} {n : Nat} {x : Int32} (hx : x < 0 ∨ nI n ≤ x) (h : post 1) : wpX4_isNoOffset post (nI n) x := by
  by_cases q : x < 0
  · exact br_t q h
  · exact br_f q (br_f (Int32.not_lt.mpr (hx.resolve_left q)) h)
/-! weight -/
theorem ph_weight : PH_weight RE := by
  intro v_T v_n v_k v_t v_s v_r v_c v_M p0 hR
  obtain ⟨S, w, hl, pi, pc, g1, g2, g3, g4, g5, g6, g7⟩ := id hR
  obtain ⟨o1, o2, o3, o4, o5, o6⟩ := g1.1
  have e0 : v_n.1 = nI (S 0) := g2.1
  have m0 : uM_setting v_M 0 = nI (S 0) := g3.2.2.1.1
  unfold wpX4_weight
  rw [e0]
  refine inX (x := p0) (S 0) (by omega) (fun q => ?_) (fun j hj e => ?_)
  · refine sX4_isNoOffsetN q (br_f (by decide) (sX4_refuseLong 1 (by decide) rfl ?_))
    refine sX5_isOffsetN m0 q (br_t rfl (sX5_lowest 1 (by decide) rfl ⟨rfl, S, w, hl, pi, pc, g1, g2, g3, g4, g5, rf_upd g6 1, g7⟩))
  · subst e
    refine sX4_isNoOffset (by omega) hj (br_t rfl ⟨vp_in_nI (by omega) (by omega), ?_⟩)
    refine sX5_isOffset (by omega) m0 hj (br_f (by decide) ⟨vp_in_nI (by omega) (by omega), ?_, hR⟩)
    rw [nI_clamp (by omega)]
    have h1 := g2.2.2.2.2.2.2.2.2.2.2.2.1 j (by omega)
    have h2 : uM_weight v_M j = nI (w j) := g3.2.2.2.2.2.2 j hj
    have h3 := okA_w g1 j hj
    have a : uW_weights v_n j = lN (w j) := by rw [h1, if_pos hj]
    have b : (uM_weight v_M j).toInt64 = lN (w j) := by rw [h2, i2l (by omega)]
    exact a.trans b.symm
