/-! the beginning -/
def S0 (i : Nat) : Nat := if i = 0 then 16 else if i = 1 then 2 else if i = 2 then 20 else 0
theorem S0_ok : okS S0 := ⟨by decide, by decide, by decide, by decide, by decide, by decide⟩
def Pw0 (u : Int32) (t : Int64) (o : Int32) (W : Nat → Int64) (wo : Nat → Int32) (Ms : Nat → Int64) : Prop := u = 0 ∧ t = lN (fb_sm (fun _ => 1) (S0 0)) ∧ o = nI (bo (fun _ => decide (0 < 1)) (S0 0)) ∧ (∀ o, o < 24 → W o = lN (if o < S0 0 then 1 else 0)) ∧ (∀ x, x < 48 → wo x = nI (bo (wd S0 x) (S0 0))) ∧ (∀ x, x < 48 → Ms x = lN (sw S0 (fun _ => 1) x))
theorem bo_none : (0 : Int64) = lN (bo (fun x => decide ((fun _ : Nat => (0 : Nat)) x = 1)) 48) := by
  have e : bo (fun x => decide ((fun _ : Nat => (0 : Nat)) x = 1)) 48 = 0 := bo_0.mpr (fun _ _ => rfl)
  exact (congrArg lN e).symm
theorem ri_init : RInit RE Pw0 := by
  refine ⟨sX3_beginAnew (S := S0) S0_ok (fun M' wo' Ms' h1 h2 h3 => ⟨rfl, rfl, rfl, h1, h2, h3⟩), ?_⟩
  intro n_used n_total n_open n_weights n_woods n_sums k_used k_total k_open k_weights k_woods k_sums hn hk
  obtain ⟨q0, q1, q2, q3, q4, q5⟩ := hn
  subst q0 q1 q2
  refine sX5_alike (fun M' hM' => ?_)
  refine ⟨S0, fun _ => 1, fun _ => 0, fun _ => 0, fun _ => 0, okA_new S0_ok rfl (by decide) (fun k h => absurd h (Nat.not_lt_zero k)) (fun _ => by decide), ⟨rfl, rfl, rfl, rfl, rfl, rfl, bo_none, rfl, rfl, fun o h => absurd h (Nat.not_lt_zero o), fun o h => absurd h (Nat.not_lt_zero o), q3, q4, q5⟩, ⟨rfl, rfl, ⟨rfl, rfl, rfl, rfl⟩, fun _ _ => rfl, fun o h => absurd h (Nat.not_lt_zero o), fun o h => absurd h (Nat.not_lt_zero o), fun o h => hM' o (Nat.lt_of_lt_of_le h S0_ok.2.1)⟩, ⟨0, fun _ => 0, by omega, rfl, rfl, fun i h => absurd h (Nat.not_lt_zero i)⟩, ⟨0, fun _ => 0, by omega, rfl, rfl, fun i h => absurd h (Nat.not_lt_zero i)⟩, fun _ _ => rfl, ⟨false, rfl, rfl, fun z => absurd z (by decide)⟩⟩
theorem ph_all : PHall RE := ⟨ph_letter, ph_wall, ph_set, ph_wood, ph_weight, ph_tool, ph_telling, ph_nail, ph_pipe, ph_risk, ph_hole, ph_fill, ph_likely, ph_sure, ph_best, ph_safest, ph_holes, ph_mean, ph_from, ph_next, ph_worth, ph_kind, ph_covers, ph_hang, ph_middle, ph_two, ph_both, ph_wire, ph_twin, ph_twinLikely, ph_row, ph_old, ph_happened, ph_judge, ph_lots, ph_image, ph_on, ph_count⟩
theorem whole_start {p : Program} {e : Env} {s : State} {m : MethodId} {below : List Frame} {meth : Method} {c : Code} (l : Launch) (hflags : l.flags = flags0) {b L : Nat} {xs : Nat → Int32} (hL : L ≤ 2048) (C0 : lw_At p s m meth c b L xs) : W p l e room_1 s m #[Value.ref b] below meth c s.heap [] 0 0 (lw_Z below #[Value.ref b] s) (entryFrame m ([Value.ref b] : List Value).toArray 4) := law_start ph_all ri_init l hL C0
