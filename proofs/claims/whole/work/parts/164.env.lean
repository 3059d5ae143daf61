theorem nest_in : ∀ t ∈ nestT, Cond.methodLinkNest t.1 t.2.1 t.2.2.1 t.2.2.2 ∈ lw_tbl := by decide +kernel
theorem env_LEAST {b : Nat} {s : State} {A : Nat → Prop} (hts : ∀ w ∈ lw_tbl, w.before #[Value.ref b] s = true) (hgv : (Jvm.Cond.and given_1 narrow_1).before #[Value.ref b] s = true) (hA : ∀ a : Nat, a < s.heap.size → ¬ A a) : ∃ t : Nat, va_Z RX4 "LEAST" "[I" (.ref t) A s s.heap ∧ va_T .int t 4 (fun j => .int (([6, 1, 0, 0] : List Int32).getD j 0)) A s s.heap := by
  have hs := flat_of_before _ hgv
  have harr : (Cond.arrayOf (.static "ANailInTheWall" "LEAST" "[I") .int).before #[Value.ref b] s = true := hs _ (by decide +kernel)
  have hlen : (Cond.eq (.length (.static "ANailInTheWall" "LEAST" "[I")) (.int 4)).before #[Value.ref b] s = true := hs _ (by decide +kernel)
  have h0 : (Cond.eq (.elem (.static "ANailInTheWall" "LEAST" "[I") (.int 0)) (.int 6)).before #[Value.ref b] s = true := hs _ (by decide +kernel)
  have h1 : (Cond.eq (.elem (.static "ANailInTheWall" "LEAST" "[I") (.int 1)) (.int 1)).before #[Value.ref b] s = true := hs _ (by decide +kernel)
  have h2 : (Cond.eq (.elem (.static "ANailInTheWall" "LEAST" "[I") (.int 2)) (.int 0)).before #[Value.ref b] s = true := hs _ (by decide +kernel)
  have h3 : (Cond.eq (.elem (.static "ANailInTheWall" "LEAST" "[I") (.int 3)) (.int 0)).before #[Value.ref b] s = true := hs _ (by decide +kernel)
  have hel : ∀ j : Nat, j < 4 → (Term.elem (.static "ANailInTheWall" "LEAST" "[I") (.int (Int32.ofNat j))).eval #[Value.ref b] s none [] s = some (.int (([6, 1, 0, 0] : List Int32).getD j 0)) := by
    intro j hj
    rcases (show j = 0 ∨ j = 1 ∨ j = 2 ∨ j = 3 by omega) with rfl | rfl | rfl | rfl
    · exact va_eqt h0
    · exact va_eqt h1
    · exact va_eqt h2
    · exact va_eqt h3
  obtain ⟨t, ht, hT⟩ := va_Tof (N := 4) (f := fun j => .int (([6, 1, 0, 0] : List Int32).getD j 0)) (A := A) (by decide) harr (va_eqt hlen) hel hA
  exact ⟨t, va_Zref (hts _ (List.mem_of_getElem? (i := 466) (by decide +kernel))) (hts _ (List.mem_of_getElem? (i := 74) (by decide +kernel))) ht hA, hT⟩
theorem env_GREATEST {b : Nat} {s : State} {A : Nat → Prop} (hts : ∀ w ∈ lw_tbl, w.before #[Value.ref b] s = true) (hgv : (Jvm.Cond.and given_1 narrow_1).before #[Value.ref b] s = true) (hA : ∀ a : Nat, a < s.heap.size → ¬ A a) : ∃ t : Nat, va_Z RX4 "GREATEST" "[I" (.ref t) A s s.heap ∧ va_T .int t 4 (fun j => .int (([24, 4, 47, 5] : List Int32).getD j 0)) A s s.heap := by
  have hs := flat_of_before _ hgv
  have harr : (Cond.arrayOf (.static "ANailInTheWall" "GREATEST" "[I") .int).before #[Value.ref b] s = true := hs _ (by decide +kernel)
  have hlen : (Cond.eq (.length (.static "ANailInTheWall" "GREATEST" "[I")) (.int 4)).before #[Value.ref b] s = true := hs _ (by decide +kernel)
  have h0 : (Cond.eq (.elem (.static "ANailInTheWall" "GREATEST" "[I") (.int 0)) (.int 24)).before #[Value.ref b] s = true := hs _ (by decide +kernel)
  have h1 : (Cond.eq (.elem (.static "ANailInTheWall" "GREATEST" "[I") (.int 1)) (.int 4)).before #[Value.ref b] s = true := hs _ (by decide +kernel)
  have h2 : (Cond.eq (.elem (.static "ANailInTheWall" "GREATEST" "[I") (.int 2)) (.int 47)).before #[Value.ref b] s = true := hs _ (by decide +kernel)
  have h3 : (Cond.eq (.elem (.static "ANailInTheWall" "GREATEST" "[I") (.int 3)) (.int 5)).before #[Value.ref b] s = true := hs _ (by decide +kernel)
  have hel : ∀ j : Nat, j < 4 → (Term.elem (.static "ANailInTheWall" "GREATEST" "[I") (.int (Int32.ofNat j))).eval #[Value.ref b] s none [] s = some (.int (([24, 4, 47, 5] : List Int32).getD j 0)) := by
    intro j hj
    rcases (show j = 0 ∨ j = 1 ∨ j = 2 ∨ j = 3 by omega) with rfl | rfl | rfl | rfl
    · exact va_eqt h0
    · exact va_eqt h1
    · exact va_eqt h2
    · exact va_eqt h3
  obtain ⟨t, ht, hT⟩ := va_Tof (N := 4) (f := fun j => .int (([24, 4, 47, 5] : List Int32).getD j 0)) (A := A) (by decide) harr (va_eqt hlen) hel hA
  exact ⟨t, va_Zref (hts _ (List.mem_of_getElem? (i := 468) (by decide +kernel))) (hts _ (List.mem_of_getElem? (i := 74) (by decide +kernel))) ht hA, hT⟩
theorem env_TELLS_WOOD {b : Nat} {s : State} {A : Nat → Prop} (hts : ∀ w ∈ lw_tbl, w.before #[Value.ref b] s = true) (hgv : (Jvm.Cond.and given_1 narrow_1).before #[Value.ref b] s = true) (hA : ∀ a : Nat, a < s.heap.size → ¬ A a) : ∃ t : Nat, va_Z RX4 "TELLS_WOOD" "[I" (.ref t) A s s.heap ∧ va_T .int t 5 (fun j => .int (([7, 4, 6, 8, 9] : List Int32).getD j 0)) A s s.heap := by
  have hs := flat_of_before _ hgv
  have harr : (Cond.arrayOf (.static "ANailInTheWall" "TELLS_WOOD" "[I") .int).before #[Value.ref b] s = true := hs _ (by decide +kernel)
  have hlen : (Cond.eq (.length (.static "ANailInTheWall" "TELLS_WOOD" "[I")) (.int 5)).before #[Value.ref b] s = true := hs _ (by decide +kernel)
  have h0 : (Cond.eq (.elem (.static "ANailInTheWall" "TELLS_WOOD" "[I") (.int 0)) (.int 7)).before #[Value.ref b] s = true := hs _ (by decide +kernel)
  have h1 : (Cond.eq (.elem (.static "ANailInTheWall" "TELLS_WOOD" "[I") (.int 1)) (.int 4)).before #[Value.ref b] s = true := hs _ (by decide +kernel)
  have h2 : (Cond.eq (.elem (.static "ANailInTheWall" "TELLS_WOOD" "[I") (.int 2)) (.int 6)).before #[Value.ref b] s = true := hs _ (by decide +kernel)
  have h3 : (Cond.eq (.elem (.static "ANailInTheWall" "TELLS_WOOD" "[I") (.int 3)) (.int 8)).before #[Value.ref b] s = true := hs _ (by decide +kernel)
  have h4 : (Cond.eq (.elem (.static "ANailInTheWall" "TELLS_WOOD" "[I") (.int 4)) (.int 9)).before #[Value.ref b] s = true := hs _ (by decide +kernel)
  have hel : ∀ j : Nat, j < 5 → (Term.elem (.static "ANailInTheWall" "TELLS_WOOD" "[I") (.int (Int32.ofNat j))).eval #[Value.ref b] s none [] s = some (.int (([7, 4, 6, 8, 9] : List Int32).getD j 0)) := by
    intro j hj
    rcases (show j = 0 ∨ j = 1 ∨ j = 2 ∨ j = 3 ∨ j = 4 by omega) with rfl | rfl | rfl | rfl | rfl
    · exact va_eqt h0
    · exact va_eqt h1
    · exact va_eqt h2
    · exact va_eqt h3
    · exact va_eqt h4
  obtain ⟨t, ht, hT⟩ := va_Tof (N := 5) (f := fun j => .int (([7, 4, 6, 8, 9] : List Int32).getD j 0)) (A := A) (by decide) harr (va_eqt hlen) hel hA
  exact ⟨t, va_Zref (hts _ (List.mem_of_getElem? (i := 504) (by decide +kernel))) (hts _ (List.mem_of_getElem? (i := 74) (by decide +kernel))) ht hA, hT⟩
theorem env_TELLS_NONE {b : Nat} {s : State} {A : Nat → Prop} (hts : ∀ w ∈ lw_tbl, w.before #[Value.ref b] s = true) (hgv : (Jvm.Cond.and given_1 narrow_1).before #[Value.ref b] s = true) (hA : ∀ a : Nat, a < s.heap.size → ¬ A a) : ∃ t : Nat, va_Z RX4 "TELLS_NONE" "[I" (.ref t) A s s.heap ∧ va_T .int t 5 (fun j => .int (([7, 9, 9, 6, 9] : List Int32).getD j 0)) A s s.heap := by
  have hs := flat_of_before _ hgv
  have harr : (Cond.arrayOf (.static "ANailInTheWall" "TELLS_NONE" "[I") .int).before #[Value.ref b] s = true := hs _ (by decide +kernel)
  have hlen : (Cond.eq (.length (.static "ANailInTheWall" "TELLS_NONE" "[I")) (.int 5)).before #[Value.ref b] s = true := hs _ (by decide +kernel)
  have h0 : (Cond.eq (.elem (.static "ANailInTheWall" "TELLS_NONE" "[I") (.int 0)) (.int 7)).before #[Value.ref b] s = true := hs _ (by decide +kernel)
  have h1 : (Cond.eq (.elem (.static "ANailInTheWall" "TELLS_NONE" "[I") (.int 1)) (.int 9)).before #[Value.ref b] s = true := hs _ (by decide +kernel)
  have h2 : (Cond.eq (.elem (.static "ANailInTheWall" "TELLS_NONE" "[I") (.int 2)) (.int 9)).before #[Value.ref b] s = true := hs _ (by decide +kernel)
  have h3 : (Cond.eq (.elem (.static "ANailInTheWall" "TELLS_NONE" "[I") (.int 3)) (.int 6)).before #[Value.ref b] s = true := hs _ (by decide +kernel)
  have h4 : (Cond.eq (.elem (.static "ANailInTheWall" "TELLS_NONE" "[I") (.int 4)) (.int 9)).before #[Value.ref b] s = true := hs _ (by decide +kernel)
  have hel : ∀ j : Nat, j < 5 → (Term.elem (.static "ANailInTheWall" "TELLS_NONE" "[I") (.int (Int32.ofNat j))).eval #[Value.ref b] s none [] s = some (.int (([7, 9, 9, 6, 9] : List Int32).getD j 0)) := by
    intro j hj
    rcases (show j = 0 ∨ j = 1 ∨ j = 2 ∨ j = 3 ∨ j = 4 by omega) with rfl | rfl | rfl | rfl | rfl
    · exact va_eqt h0
    · exact va_eqt h1
    · exact va_eqt h2
    · exact va_eqt h3
    · exact va_eqt h4
  obtain ⟨t, ht, hT⟩ := va_Tof (N := 5) (f := fun j => .int (([7, 9, 9, 6, 9] : List Int32).getD j 0)) (A := A) (by decide) harr (va_eqt hlen) hel hA
  exact ⟨t, va_Zref (hts _ (List.mem_of_getElem? (i := 506) (by decide +kernel))) (hts _ (List.mem_of_getElem? (i := 74) (by decide +kernel))) ht hA, hT⟩
theorem env_COSTS {b : Nat} {s : State} {A : Nat → Prop} (hts : ∀ w ∈ lw_tbl, w.before #[Value.ref b] s = true) (hgv : (Jvm.Cond.and given_1 narrow_1).before #[Value.ref b] s = true) (hA : ∀ a : Nat, a < s.heap.size → ¬ A a) : ∃ t : Nat, va_Z RX4 "COSTS" "[I" (.ref t) A s s.heap ∧ va_T .int t 5 (fun j => .int (([1, 3, 2, 1, 5] : List Int32).getD j 0)) A s s.heap := by
  have hs := flat_of_before _ hgv
  have harr : (Cond.arrayOf (.static "ANailInTheWall" "COSTS" "[I") .int).before #[Value.ref b] s = true := hs _ (by decide +kernel)
  have hlen : (Cond.eq (.length (.static "ANailInTheWall" "COSTS" "[I")) (.int 5)).before #[Value.ref b] s = true := hs _ (by decide +kernel)
  have h0 : (Cond.eq (.elem (.static "ANailInTheWall" "COSTS" "[I") (.int 0)) (.int 1)).before #[Value.ref b] s = true := hs _ (by decide +kernel)
  have h1 : (Cond.eq (.elem (.static "ANailInTheWall" "COSTS" "[I") (.int 1)) (.int 3)).before #[Value.ref b] s = true := hs _ (by decide +kernel)
  have h2 : (Cond.eq (.elem (.static "ANailInTheWall" "COSTS" "[I") (.int 2)) (.int 2)).before #[Value.ref b] s = true := hs _ (by decide +kernel)
  have h3 : (Cond.eq (.elem (.static "ANailInTheWall" "COSTS" "[I") (.int 3)) (.int 1)).before #[Value.ref b] s = true := hs _ (by decide +kernel)
  have h4 : (Cond.eq (.elem (.static "ANailInTheWall" "COSTS" "[I") (.int 4)) (.int 5)).before #[Value.ref b] s = true := hs _ (by decide +kernel)
  have hel : ∀ j : Nat, j < 5 → (Term.elem (.static "ANailInTheWall" "COSTS" "[I") (.int (Int32.ofNat j))).eval #[Value.ref b] s none [] s = some (.int (([1, 3, 2, 1, 5] : List Int32).getD j 0)) := by
    intro j hj
    rcases (show j = 0 ∨ j = 1 ∨ j = 2 ∨ j = 3 ∨ j = 4 by omega) with rfl | rfl | rfl | rfl | rfl
    · exact va_eqt h0
    · exact va_eqt h1
    · exact va_eqt h2
    · exact va_eqt h3
    · exact va_eqt h4
  obtain ⟨t, ht, hT⟩ := va_Tof (N := 5) (f := fun j => .int (([1, 3, 2, 1, 5] : List Int32).getD j 0)) (A := A) (by decide) harr (va_eqt hlen) hel hA
  exact ⟨t, va_Zref (hts _ (List.mem_of_getElem? (i := 587) (by decide +kernel))) (hts _ (List.mem_of_getElem? (i := 74) (by decide +kernel))) ht hA, hT⟩
def strN (i : Nat) : Nat := [49, 51, 53, 55, 57, 59, 61, 63].getD i 0
theorem env_str {b : Nat} {s : State} {A : Nat → Prop} (hgv : (Jvm.Cond.and given_1 narrow_1).before #[Value.ref b] s = true) (hA : ∀ a : Nat, a < s.heap.size → ¬ A a) : ∃ adK adV : Nat → Nat, vk_S 8 lenJS bytJS adK adV A s s.heap ∧ ∀ i : Nat, i < 8 → (Term.string RX2 (strN i)).eval #[Value.ref b] s none [] s = some (.ref (adK i)) := by
  have hs := flat_of_before _ hgv
  refine vk_Sof (tm := fun i => Term.string RX2 (strN i)) ?_ ?_ ?_ ?_ ?_ ?_ ?_ hA
  · intro i hi
    rcases (show i = 0 ∨ i = 1 ∨ i = 2 ∨ i = 3 ∨ i = 4 ∨ i = 5 ∨ i = 6 ∨ i = 7 by omega) with rfl | rfl | rfl | rfl | rfl | rfl | rfl | rfl <;> decide
  · intro i hi
    rcases (show i = 0 ∨ i = 1 ∨ i = 2 ∨ i = 3 ∨ i = 4 ∨ i = 5 ∨ i = 6 ∨ i = 7 by omega) with rfl | rfl | rfl | rfl | rfl | rfl | rfl | rfl <;> exact hs _ (by decide +kernel)
  · intro i hi
    rcases (show i = 0 ∨ i = 1 ∨ i = 2 ∨ i = 3 ∨ i = 4 ∨ i = 5 ∨ i = 6 ∨ i = 7 by omega) with rfl | rfl | rfl | rfl | rfl | rfl | rfl | rfl <;> exact hs _ (by decide +kernel)
  · intro i hi
    rcases (show i = 0 ∨ i = 1 ∨ i = 2 ∨ i = 3 ∨ i = 4 ∨ i = 5 ∨ i = 6 ∨ i = 7 by omega) with rfl | rfl | rfl | rfl | rfl | rfl | rfl | rfl <;> exact hs _ (by decide +kernel)
  · intro i hi
    rcases (show i = 0 ∨ i = 1 ∨ i = 2 ∨ i = 3 ∨ i = 4 ∨ i = 5 ∨ i = 6 ∨ i = 7 by omega) with rfl | rfl | rfl | rfl | rfl | rfl | rfl | rfl <;> exact hs _ (by decide +kernel)
  · intro i hi j hj
    rcases (show i = 0 ∨ i = 1 ∨ i = 2 ∨ i = 3 ∨ i = 4 ∨ i = 5 ∨ i = 6 ∨ i = 7 by omega) with rfl | rfl | rfl | rfl | rfl | rfl | rfl | rfl
    · have hj : j < 5 := hj
      rcases (show j = 0 ∨ j = 1 ∨ j = 2 ∨ j = 3 ∨ j = 4 by omega) with rfl | rfl | rfl | rfl | rfl <;> exact hs _ (by decide +kernel)
    · have hj : j < 2 := hj
      rcases (show j = 0 ∨ j = 1 by omega) with rfl | rfl <;> exact hs _ (by decide +kernel)
    · have hj : j < 3 := hj
      rcases (show j = 0 ∨ j = 1 ∨ j = 2 by omega) with rfl | rfl | rfl <;> exact hs _ (by decide +kernel)
    · have hj : j < 5 := hj
      rcases (show j = 0 ∨ j = 1 ∨ j = 2 ∨ j = 3 ∨ j = 4 by omega) with rfl | rfl | rfl | rfl | rfl <;> exact hs _ (by decide +kernel)
    · have hj : j < 4 := hj
      rcases (show j = 0 ∨ j = 1 ∨ j = 2 ∨ j = 3 by omega) with rfl | rfl | rfl | rfl <;> exact hs _ (by decide +kernel)
    · have hj : j < 4 := hj
      rcases (show j = 0 ∨ j = 1 ∨ j = 2 ∨ j = 3 by omega) with rfl | rfl | rfl | rfl <;> exact hs _ (by decide +kernel)
    · exact absurd hj (Nat.not_lt_zero j)
    · have hj : j < 6 := hj
      rcases (show j = 0 ∨ j = 1 ∨ j = 2 ∨ j = 3 ∨ j = 4 ∨ j = 5 by omega) with rfl | rfl | rfl | rfl | rfl | rfl <;> exact hs _ (by decide +kernel)
  · intro i j hi hj hne
    rcases (show i = 0 ∨ i = 1 ∨ i = 2 ∨ i = 3 ∨ i = 4 ∨ i = 5 ∨ i = 6 ∨ i = 7 by omega) with rfl | rfl | rfl | rfl | rfl | rfl | rfl | rfl <;> rcases (show j = 0 ∨ j = 1 ∨ j = 2 ∨ j = 3 ∨ j = 4 ∨ j = 5 ∨ j = 6 ∨ j = 7 by omega) with rfl | rfl | rfl | rfl | rfl | rfl | rfl | rfl <;> first | exact absurd rfl hne | exact Or.inl (hs _ (by decide +kernel)) | exact Or.inr (hs _ (by decide +kernel))
theorem str_in : ∀ (k : Nat) (t : Nat × String), strT[k]? = some t → Cond.stringRef RX2 t.1 t.2 ∈ lw_tbl ∧ t.1 = strN k ∧ k < 8 := by
  intro k t h
  have hk : k < 8 := (List.getElem?_eq_some_iff.mp h).1
  rcases (show k = 0 ∨ k = 1 ∨ k = 2 ∨ k = 3 ∨ k = 4 ∨ k = 5 ∨ k = 6 ∨ k = 7 by omega) with rfl | rfl | rfl | rfl | rfl | rfl | rfl | rfl <;> (cases h; exact ⟨by decide +kernel, rfl, by decide⟩)
theorem law_env {b : Nat} {s : State} {A : Nat → Prop} (hts : ∀ w ∈ lw_tbl, w.before #[Value.ref b] s = true) (hgv : (Jvm.Cond.and given_1 narrow_1).before #[Value.ref b] s = true) (hA : ∀ a : Nat, a < s.heap.size → ¬ A a) : ∃ G : Nat → Nat → Nat, EV G A s := by
  obtain ⟨t0, z0, e0⟩ := env_LEAST hts hgv hA
  obtain ⟨t1, z1, e1⟩ := env_GREATEST hts hgv hA
  obtain ⟨t2, z2, e2⟩ := env_TELLS_WOOD hts hgv hA
  obtain ⟨t3, z3, e3⟩ := env_TELLS_NONE hts hgv hA
  obtain ⟨t4, z4, e4⟩ := env_COSTS hts hgv hA
  obtain ⟨adK, adV, hk, hev⟩ := env_str hgv hA
  have hs := flat_of_before _ hgv
  refine ⟨fun a k => if a = 0 then [t0, t1, t2, t3, t4].getD k 0 else if a = 1 then adK k else adV k, fun t ht => va_Nw.of rfl (hts _ (nest_in t ht)), ?_, va_Zof (hts _ (List.mem_of_getElem? (i := 337) (by decide +kernel))) (hts _ (List.mem_of_getElem? (i := 80) (by decide +kernel))) (va_eqi (hs _ (by decide +kernel))) hA, va_Zqof (hts _ (List.mem_of_getElem? (i := 353) (by decide +kernel))) (hts _ (List.mem_of_getElem? (i := 82) (by decide +kernel))) (hs _ (by decide +kernel)) hA, hk, ?_⟩
  · intro k t h
    have hk : k < 5 := (List.getElem?_eq_some_iff.mp h).1
    rcases (show k = 0 ∨ k = 1 ∨ k = 2 ∨ k = 3 ∨ k = 4 by omega) with rfl | rfl | rfl | rfl | rfl
    · cases h; exact ⟨z0, e0⟩
    · cases h; exact ⟨z1, e1⟩
    · cases h; exact ⟨z2, e2⟩
    · cases h; exact ⟨z3, e3⟩
    · cases h; exact ⟨z4, e4⟩
  · intro k t h
    obtain ⟨h1, h2, h3⟩ := str_in k t h
    refine vk_R.of (hts _ h1) ?_
    rw [h2]
    exact hev k h3
