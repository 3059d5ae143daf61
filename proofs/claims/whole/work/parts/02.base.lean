/-! the words: one list for every contract -/
def bg : List Cond := lw_tbl.filter goodWord
theorem bg_in {w : Cond} (i : Nat) (h : lw_tbl[i]? = some w) (g : goodWord w = true) : w ∈ bg := List.mem_filter.mpr ⟨List.mem_of_getElem? h, g⟩
theorem bg_good {w : Cond} (h : w ∈ bg) : goodWord w = true := (List.mem_filter.mp h).2
theorem bg_tbl {args : Array Value} {s : State} (hts : ∀ w ∈ lw_tbl, w.before args s = true) : ∀ w ∈ bg, w.before args s = true := fun w h => hts w (List.mem_filter.mp h).1
abbrev wz (y : MethodName) (b : ByteArray) (n : Nat) (r : Option FieldType) : List Cond := Cond.code y b n r :: bg
theorem wz_in {y : MethodName} {b : ByteArray} {n : Nat} {r : Option FieldType} (h : Cond.code y b n r ∈ bg) : GoodIn bg (wz y b n r) := by
  intro w hw
  rcases List.mem_cons.mp hw with rfl | hw
  · exact ⟨h, good_of_word (bg_good h)⟩
  · exact ⟨hw, good_of_word (bg_good hw)⟩
/-! what stands beside the worlds and never changes: links among nest mates, static tables, the String constants -/
def nestT : List (String × Nat × MethodName × String) := [(RX3, 87, yX4_isIn, RX4), (RX4, 24, yX2_init, RX4), (RX4, 31, yX0_init, RX4), (RX4, 38, yX1_init, RX4), (RX2, 94, yX4_isOut, RX4), (RX2, 118, yX4_isNoTool, RX4), (RX2, 122, yX4_isNoInch, RX4), (RX3, 98, yX4_tenths, RX4), (RX3, 113, yX4_commonDivisor, RX4), (RX3, 142, yX4_modulo, RX4), (RX1, 58, yX4_tenths, RX4), (RX0, 23, yX4_isNoInch, RX4), (RX0, 54, yX4_tenths, RX4)]
def statT : List (String × List Int32) := [("LEAST", [6, 1, 0, 0]), ("GREATEST", [24, 4, 47, 5]), ("TELLS_WOOD", [7, 4, 6, 8, 9]), ("TELLS_NONE", [7, 9, 9, 6, 9]), ("COSTS", [1, 3, 2, 1, 5])]
def strT : List (Nat × String) := [(49, "9?,9;"), (51, "l;"), (53, "99;"), (55, "999+;"), (57, "99+;"), (59, "999;"), (61, ""), (63, "lrdchs")]
def lenJS : List Nat := [5, 2, 3, 5, 4, 4, 0, 6]
def bytJS : List (List Int32) := [[57, 63, 44, 57, 59], [108, 59], [57, 57, 59], [57, 57, 57, 43, 59], [57, 57, 43, 59], [57, 57, 57, 59], [], [108, 114, 100, 99, 104, 115]]
def EV (G : Nat → Nat → Nat) (A : Nat → Prop) (U : State) : Prop :=
  (∀ t ∈ nestT, va_Nw (.methodLinkNest t.1 t.2.1 t.2.2.1 t.2.2.2) U) ∧
  (∀ (k : Nat) (t : String × List Int32), statT[k]? = some t → va_Z RX4 t.1 "[I" (.ref (G 0 k)) A U U.heap ∧ va_T .int (G 0 k) t.2.length (fun j => .int (t.2.getD j 0)) A U U.heap) ∧
  va_Z "java/lang/String" "COMPACT_STRINGS" "Z" (.int 1) A U U.heap ∧
  va_Zq "jdk/internal/util/Preconditions" "SIOOBE_FORMATTER" "Ljava/util/function/BiFunction;" A U U.heap ∧
  vk_S 8 lenJS bytJS (G 1) (G 2) A U U.heap ∧
  (∀ (k : Nat) (t : Nat × String), strT[k]? = some t → vk_R RX2 t.1 t.2 (G 1 k) U)
theorem EV.call {G : Nat → Nat → Nat} {A B : Nat → Prop} {s U : State} {H : Heap} {locs : List Loc} (h : EV G A s) (hS : va_S A s.heap H locs) (hB : ∀ q, B q → A q) (hU : U.heap = H) (hW : s.WarmedH U.vm) : EV G B U := by
  obtain ⟨h1, h2, h3, h4, h5, h6⟩ := h
  unfold EV
  rw [hU]
  exact ⟨fun t ht => va_Nw.warmM hW (h1 t ht), fun k t ht => ⟨((va_Z.moved hW.alike (h2 k t ht).1).kept hS.2.1).narrow hB, ((va_T.moved hW.alike (h2 k t ht).2).kept hS.2.1).narrow hB⟩, ((va_Z.moved hW.alike h3).kept hS.2.1).narrow hB, ((va_Zq.moved hW.alike h4).kept hS.2.1).narrow hB, ((vk_S.moved hW.alike h5).kept hS.2.1).narrow hB, fun k t ht => vk_R.warm hW (h6 k t ht)⟩
theorem EV.blind {G : Nat → Nat → Nat} {A : Nat → Prop} {U : State} (g : JFrame) (mk : MethodId) (a : Array Value) (h : EV G A U) : EV G A (U.calling g mk a) := by
  obtain ⟨h1, h2, h3, h4, h5, h6⟩ := h
  have hv : U.vm = (U.calling g mk a).vm := rfl
  have hal : U.vm.Alike (U.calling g mk a).vm := Vm.Alike.refl U.vm
  exact ⟨fun t ht => va_Nw.same rfl hv (h1 t ht), fun k t ht => ⟨va_Z.moved hal (h2 k t ht).1, va_T.moved hal (h2 k t ht).2⟩, va_Z.moved hal h3, va_Zq.moved hal h4, vk_S.moved hal h5, fun k t ht => vk_R.same hv.symm (h6 k t ht)⟩
/-! a method's start -/
def PW (D : va_G) (tys : List (ClassId × FieldType)) (G : Nat → Nat → Nat) (ws : va_W) (sz : Nat) (U : State) : Prop := U.heap.size = sz ∧ va_P D vwCl ws U.heap ∧ va_K D vwCl tys U ∧ va_D (fun _ => True) ws ∧ EV G (va_A ws sz) U
theorem pw_blind {D : va_G} {tys : List (ClassId × FieldType)} {G : Nat → Nat → Nat} {ws : va_W} {sz : Nat} {av : List Value} : FrameBlind (va_Pc av (PW D tys G ws sz)) := by
  intro a U g mk q
  obtain ⟨q0, q1, qP, qK, qD, qE⟩ := q
  exact ⟨q0, q1, qP, va_K.moved (u := U) (U := U.calling g mk a) (Vm.Alike.refl U.vm) qK, qD, qE.blind g mk a⟩
theorem zF {A : Nat → Prop} {wc : va_W} {s : State} {H : Heap} {locs : List Loc} (hA : ∀ q, s.heap.size ≤ q → A q) (hDw : va_D A wc) (hS : va_S A s.heap H locs) : ∀ q, va_A wc H.size q → A q := by
  intro q h
  rcases h with ⟨k, e, h⟩ | h
  · exact hDw.2 k _ h
  · exact hA q (Nat.le_trans hS.1 h)
theorem pw_pre {D : va_G} {tys : List (ClassId × FieldType)} {G : Nat → Nat → Nat} {A : Nat → Prop} {wc : va_W} {av : List Value} {s : State} {H : Heap} {locs : List Loc} (hK : va_K D vwCl tys s) (hA : ∀ q, s.heap.size ≤ q → A q) (hE : EV G A s) (hPw : va_P D vwCl wc H) (hDw : va_D A wc) (hS : va_S A s.heap H locs) : ∀ U : State, U.heap = H → s.WarmedH U.vm → va_Pc av (PW D tys G wc H.size) av.toArray U :=
  fun U hU hW => ⟨rfl, by rw [hU], by rw [hU]; exact hPw, va_K.moved hW.alike hK, hDw.weaken (fun _ _ _ _ => trivial), hE.call hS (zF hA hDw hS) hU hW⟩
/-! worlds: the addresses alone say that cells are apart; a part is changed, the rest stays -/
theorem zD {A : Nat → Prop} {ws ws' : va_W} (hD : va_D A ws) (h : ws'.map (fun q => q.1) = ws.map (fun q => q.1)) : va_D A ws' := by
  have key : ∀ (k : Nat) (q : Nat × va_E), ws'[k]? = some q → ∃ q0, ws[k]? = some q0 ∧ q0.1 = q.1 := by
    intro k q hk
    have h1 : (ws'.map (fun q => q.1))[k]? = some q.1 := by rw [List.getElem?_map, hk]; rfl
    rw [h, List.getElem?_map] at h1
    cases hw : ws[k]? with
    | none => rw [hw] at h1; cases h1
    | some q0 => rw [hw] at h1; exact ⟨q0, rfl, Option.some.inj h1⟩
  refine ⟨fun i j p q hi hj e => ?_, fun k q hk => ?_⟩
  · obtain ⟨p0, a1, a2⟩ := key i p hi
    obtain ⟨q0, b1, b2⟩ := key j q hj
    exact hD.1 i j p0 q0 a1 b1 (by rw [a2, b2]; exact e)
  · obtain ⟨q0, b1, b2⟩ := key k q hk
    rw [← b2]; exact hD.2 k q0 b1
/-- behind a call with no world of its own -/
theorem zKeep {D : va_G} {ws : va_W} {H H1 : Heap} (hP : va_P D vwCl ws H) (hk : ∀ q : Nat, q < H.size → ¬ va_A [] H.size q → H1[q]? = H[q]?) : va_P D vwCl ws H1 :=
  hP.kept fun k q hq => hk q.1 (hP k q hq).lt (by
    intro h
    rcases h with ⟨k2, e, h⟩ | h
    · simp at h
    · exact absurd (hP k q hq).lt (by omega))
def zset (ws : va_W) : List Nat → va_W → va_W
  | k :: ks, c :: cs => (zset ws ks cs).set k c
  | _, _ => ws
theorem zset_get (ws : va_W) : ∀ (ks : List Nat) (cs : va_W), ks.length = cs.length → ∀ (i : Nat) (x : Nat × va_E), (zset ws ks cs)[i]? = some x → (∃ j : Nat, ks[j]? = some i ∧ cs[j]? = some x) ∨ (i ∉ ks ∧ ws[i]? = some x)
  | [], [], _, i, x, h => Or.inr ⟨List.not_mem_nil, h⟩
  | k :: ks, c :: cs, hl, i, x, h => by
    have hl' : ks.length = cs.length := Nat.succ.inj hl
    have h2 : ((zset ws ks cs).set k c)[i]? = some x := h
    by_cases e : k = i
    · subst e
      have h3 : ∃ hlt : k < ((zset ws ks cs).set k c).length, ((zset ws ks cs).set k c)[k] = x := List.getElem?_eq_some_iff.mp h2
      obtain ⟨hlt, h4⟩ := h3
      rw [List.getElem_set_self] at h4
      subst h4
      exact Or.inl ⟨0, rfl, rfl⟩
    · rw [List.getElem?_set_ne e] at h2
      rcases zset_get ws ks cs hl' i x h2 with ⟨j, a, b⟩ | ⟨a, b⟩
      · exact Or.inl ⟨j + 1, a, b⟩
      · exact Or.inr ⟨fun hm => (List.mem_cons.mp hm).elim (fun z => e z.symm) a, b⟩
theorem zMerge {D : va_G} {A0 : Nat → Prop} {ws wc w1 : va_W} {H H1 : Heap} (hP : va_P D vwCl ws H) (hD : va_D A0 ws) (isC : List Nat) (hC : isC.map (fun i => ws[i]?) = wc.map some) (hl : isC.length = w1.length) (hk : ∀ q : Nat, q < H.size → ¬ va_A wc H.size q → H1[q]? = H[q]?) (hP1 : va_P D vwCl w1 H1) : va_P D vwCl (zset ws isC w1) H1 := by
  intro i x hx
  rcases zset_get ws isC w1 hl i x hx with ⟨j, a, b⟩ | ⟨a, b⟩
  · exact hP1 j x b
  · refine (hP i x b).kept (hk x.1 (hP i x b).lt fun h => ?_)
    rcases h with ⟨k2, e, h⟩ | h
    · have h1 : (isC.map (fun i => ws[i]?))[k2]? = some (some (x.1, e)) := by rw [hC, List.getElem?_map, h]; rfl
      rw [List.getElem?_map] at h1
      cases hi : isC[k2]? with
      | none => rw [hi] at h1; cases h1
      | some i2 =>
        rw [hi] at h1
        have hij := hD.1 i i2 x (x.1, e) b (Option.some.inj h1) rfl
        subst hij
        exact a (List.mem_of_getElem? hi)
    · exact absurd (hP i x b).lt (by omega)
/-! what the tables say of a method -/
def zK (C : String) (y : MethodName) (b : ByteArray) (n : Nat) (r : Option FieldType) (na : Nat) : Prop :=
  Cond.code y b n r ∈ bg ∧ Cond.instanceMethod y ∈ bg ∧ Cond.selects C y y ∈ bg ∧ Cond.initialized y.cls ∈ bg ∧ (y.cls ≠ "java/lang/invoke/MethodHandle" ∧ y.cls ≠ "java/lang/invoke/VarHandle" ∧ (parseMethodDescriptor y.desc).map (fun d => d.parameters.length) = some na)
def zKS (y : MethodName) (b : ByteArray) (n : Nat) (r : Option FieldType) (na : Nat) : Prop :=
  Cond.code y b n r ∈ bg ∧ Cond.static y ∈ bg ∧ Cond.initialized y.cls ∈ bg ∧ (y.cls ≠ "java/lang/invoke/MethodHandle" ∧ y.cls ≠ "java/lang/invoke/VarHandle" ∧ (parseMethodDescriptor y.desc).map (fun d => d.parameters.length) = some na)
abbrev zR (rm R : Room) (maxL : Nat) : Prop := rm.cells = 0 ∧ rm.slots = 0 ∧ rm.frames + 1 ≤ R.frames ∧ 8 + (maxL + 11) + rm.locals ≤ R.locals
section ZC
variable {p : Program} {l : Launch} {e : Env} {R : Room} {s : State} {m : MethodId} {args : Array Value} {below : List Frame} {meth : Method} {c : Code} {H : Heap} {locs : List Loc} {cells slots : Nat} {Q : State → Prop}
variable {cc bytes : ByteArray} {nL maxL na index : Nat} {own C : String} {y : MethodName} {ret : Option FieldType} {rm : Room} {D : va_G} {tys : List (ClassId × FieldType)} {G : Nat → Nat → Nat} {A : Nat → Prop} {wc : va_W} {b : Nat} {As rest st : List Value} {pc : Nat} {ls : Array Slot} {Sg : Type} {gw : Sg → va_W}
/-- an instance method's run, the receiver's class known -/
theorem zrunR {Qc : Array Value → State → Outcome → State → Prop} (S : CallFix p m c cc nL s args bg own) (hK : va_K D vwCl tys s) (hA : ∀ q, s.heap.size ≤ q → A q) (hE : EV G A s) (hPw : va_P D vwCl wc H) (hDw : va_D A wc) (hS : va_S A s.heap H locs)
    (hM : Met l y (wz y bytes maxL ret) rm (va_Pc (.ref b :: As) (PW D tys G wc H.size)) Qc 0 0 (va_A wc H.size)) (k : zK C y bytes maxL ret na) (hlink : Cond.methodLink own index y ∈ bg) (hR : zR rm R maxL) (hrc : ∃ cell : Cell, H[b]? = some cell ∧ cell.vm.isStatics = false ∧ s.vm.findClass C = some cell.cls)
    (hna : As.length = na) (hl : ls.size = nL) (hst : st = As.reverse ++ .ref b :: rest) (hW : (rest.map fun v => v.category).sum ≤ 8) (hdg : decode cc pc = .ok (.invokevirtual index, 3)) (hf : cells ≤ R.cells ∧ slots ≤ R.slots) :
    va_Run p l e R s m args below meth c H locs cells slots 0 0 (F0 m pc ls st) rest (Qc (Value.ref b :: As).toArray) (va_A wc H.size) := by
  obtain ⟨k1, k2, k3, k4, k5⟩ := k
  obtain ⟨r1, r2, r3, r4⟩ := hR
  obtain ⟨hx, hb, hml, ho, ht⟩ := id S
  exact va_runV (C := C) S hM ⟨callB_of na ht (wz_in k1) rfl r1 r2 (ht _ k4) (ht _ hlink) k5 ⟨r3, r4⟩, ht _ k2, ht _ k3⟩ ⟨pw_blind, hrc, pw_pre hK hA hE hPw hDw hS⟩ rfl hna hl hst (lv_room hW) hdg hf
/-- an instance method's run -/
theorem zrunV {Qc : Array Value → State → Outcome → State → Prop} (S : CallFix p m c cc nL s args bg own) (hK : va_K D vwCl tys s) (hA : ∀ q, s.heap.size ≤ q → A q) (hE : EV G A s) (hPw : va_P D vwCl wc H) (hDw : va_D A wc) (hS : va_S A s.heap H locs)
    (hM : Met l y (wz y bytes maxL ret) rm (va_Pc (.ref b :: As) (PW D tys G wc H.size)) Qc 0 0 (va_A wc H.size)) (k : zK C y bytes maxL ret na) (hlink : Cond.methodLink own index y ∈ bg) (hR : zR rm R maxL) {q0 ci : Nat} {fs : List Value} {cw : vw_C} (hc : vwCl[ci]? = some cw) (hC : cw.1 = C) (he : wc[q0]? = some (b, .inr (ci, fs)))
    (hna : As.length = na) (hl : ls.size = nL) (hst : st = As.reverse ++ .ref b :: rest) (hW : (rest.map fun v => v.category).sum ≤ 8) (hdg : decode cc pc = .ok (.invokevirtual index, 3)) (hf : cells ≤ R.cells ∧ slots ≤ R.slots) :
    va_Run p l e R s m args below meth c H locs cells slots 0 0 (F0 m pc ls st) rest (Qc (Value.ref b :: As).toArray) (va_A wc H.size) := by
  have hrc := va_recv hK hPw hc he
  rw [hC] at hrc
  exact zrunR S hK hA hE hPw hDw hS hM k hlink hR hrc hna hl hst hW hdg hf
/-- a static method's run -/
theorem zrunS {Qc : Array Value → State → Outcome → State → Prop} (S : CallFix p m c cc nL s args bg own) (hK : va_K D vwCl tys s) (hA : ∀ q, s.heap.size ≤ q → A q) (hE : EV G A s) (hPw : va_P D vwCl wc H) (hDw : va_D A wc) (hS : va_S A s.heap H locs)
    (hM : Met l y (wz y bytes maxL ret) rm (va_Pc As (PW D tys G wc H.size)) Qc 0 0 (va_A wc H.size)) (k : zKS y bytes maxL ret na) (hlink : Cond.methodLink own index y ∈ bg) (hR : zR rm R maxL)
    (hna : As.length = na) (hl : ls.size = nL) (hst : st = As.reverse ++ rest) (hW : (rest.map fun v => v.category).sum ≤ 8) (hdg : decode cc pc = .ok (.invokestatic index, 3)) (hf : cells ≤ R.cells ∧ slots ≤ R.slots) :
    va_Run p l e R s m args below meth c H locs cells slots 0 0 (F0 m pc ls st) rest (Qc As.toArray) (va_A wc H.size) := by
  obtain ⟨k1, k2, k4, k5⟩ := k
  obtain ⟨r1, r2, r3, r4⟩ := hR
  obtain ⟨hx, hb, hml, ho, ht⟩ := id S
  exact va_runS S hM ⟨callB_of na ht (wz_in k1) rfl r1 r2 (ht _ k4) (ht _ hlink) k5 ⟨r3, r4⟩, ht _ k2⟩ ⟨pw_blind, pw_pre hK hA hE hPw hDw hS⟩ rfl hna hl hst (lv_room hW) hdg hf
/-- a nest mate's private static method's run -/
theorem zrunN {Qc : Array Value → State → Outcome → State → Prop} (S : CallFix p m c cc nL s args bg own) (hK : va_K D vwCl tys s) (hA : ∀ q, s.heap.size ≤ q → A q) (hE : EV G A s) (hPw : va_P D vwCl wc H) (hDw : va_D A wc) (hS : va_S A s.heap H locs)
    (hM : Met l y (wz y bytes maxL ret) rm (va_Pc As (PW D tys G wc H.size)) Qc 0 0 (va_A wc H.size)) (k : zKS y bytes maxL ret na) (i : Nat) (hlink : nestT[i]? = some (own, index, y, RX4)) (hR : zR rm R maxL)
    (hna : As.length = na) (hl : ls.size = nL) (hst : st = As.reverse ++ rest) (hW : (rest.map fun v => v.category).sum ≤ 8) (hdg : decode cc pc = .ok (.invokestatic index, 3)) (hf : cells ≤ R.cells ∧ slots ≤ R.slots) :
    va_Run p l e R s m args below meth c H locs cells slots 0 0 (F0 m pc ls st) rest (Qc As.toArray) (va_A wc H.size) := by
  obtain ⟨k1, k2, k4, k5⟩ := k
  obtain ⟨r1, r2, r3, r4⟩ := hR
  obtain ⟨hx, hb, hml, ho, ht⟩ := id S
  have hn := hE.1 _ (List.mem_of_getElem? hlink)
  exact va_runSN S hM ⟨va_cnB na ht (wz_in k1) rfl r1 r2 hn (ht _ k4) k5 ⟨r3, r4⟩, ht _ k2, trivial⟩ ⟨pw_blind, pw_pre hK hA hE hPw hDw hS⟩ rfl hna hl hst (lv_room hW) hdg hf
/-- what a call gives: an int, a long, nothing -/
theorem zci {post : Int32 → Sg → Prop} {a : Array Value} (hA : ∀ q, s.heap.size ≤ q → A q) (hDw : va_D A wc) (hS : va_S A s.heap H locs) (hr : va_Run p l e R s m args below meth c H locs cells slots 0 0 (F0 m pc ls st) rest (va_Qi post (fun u t => va_P D vwCl (gw u) t.heap) (va_A wc H.size) a) (va_A wc H.size))
    (kk : ∀ (r : Int32) (u : Sg) (H1 : Heap) (locs1 : List Loc), post r u → va_P D vwCl (gw u) H1 → (∀ q : Nat, q < H.size → ¬ va_A wc H.size q → H1[q]? = H[q]?) → va_S A s.heap H1 locs1 → W p l e R s m args below meth c H1 locs1 cells slots Q (F0 m (pc + 3) ls (.int r :: rest))) : W p l e R s m args below meth c H locs cells slots Q (F0 m pc ls st) :=
  va_calli hr hS (fun q _ h => zF hA hDw hS q h) (zF hA hDw hS) (fun r u t H1 locs1 ht _ hw hB _ hk1 hS1 => kk r u H1 locs1 hw (by rw [← ht]; exact hB) hk1 hS1)
theorem zcl {post : Int64 → Sg → Prop} {a : Array Value} (hA : ∀ q, s.heap.size ≤ q → A q) (hDw : va_D A wc) (hS : va_S A s.heap H locs) (hr : va_Run p l e R s m args below meth c H locs cells slots 0 0 (F0 m pc ls st) rest (va_Ql post (fun u t => va_P D vwCl (gw u) t.heap) (va_A wc H.size) a) (va_A wc H.size))
    (kk : ∀ (r : Int64) (u : Sg) (H1 : Heap) (locs1 : List Loc), post r u → va_P D vwCl (gw u) H1 → (∀ q : Nat, q < H.size → ¬ va_A wc H.size q → H1[q]? = H[q]?) → va_S A s.heap H1 locs1 → W p l e R s m args below meth c H1 locs1 cells slots Q (F0 m (pc + 3) ls (.long r :: rest))) : W p l e R s m args below meth c H locs cells slots Q (F0 m pc ls st) :=
  va_calll hr hS (fun q _ h => zF hA hDw hS q h) (zF hA hDw hS) (fun r u t H1 locs1 ht _ hw hB _ hk1 hS1 => kk r u H1 locs1 hw (by rw [← ht]; exact hB) hk1 hS1)
theorem zcv {post : Sg → Prop} {a : Array Value} (hA : ∀ q, s.heap.size ≤ q → A q) (hDw : va_D A wc) (hS : va_S A s.heap H locs) (hr : va_Run p l e R s m args below meth c H locs cells slots 0 0 (F0 m pc ls st) rest (va_Qv post (fun u t => va_P D vwCl (gw u) t.heap) (va_A wc H.size) a) (va_A wc H.size))
    (kk : ∀ (u : Sg) (H1 : Heap) (locs1 : List Loc), post u → va_P D vwCl (gw u) H1 → (∀ q : Nat, q < H.size → ¬ va_A wc H.size q → H1[q]? = H[q]?) → va_S A s.heap H1 locs1 → W p l e R s m args below meth c H1 locs1 cells slots Q (F0 m (pc + 3) ls rest)) : W p l e R s m args below meth c H locs cells slots Q (F0 m pc ls st) :=
  va_callv hr hS (fun q _ h => zF hA hDw hS q h) (zF hA hDw hS) (fun u t H1 locs1 ht _ hw hB _ hk1 hS1 => kk u H1 locs1 hw (by rw [← ht]; exact hB) hk1 hS1)
theorem zcr {post : Nat → Prop} {w0 : va_W} {a : Array Value} (hA : ∀ q, s.heap.size ≤ q → A q) (hDw : va_D A wc) (hS : va_S A s.heap H locs) (hr : va_Run p l e R s m args below meth c H locs cells slots 0 0 (F0 m pc ls st) rest (va_Qr post (fun u a t => a = G 1 u ∧ va_P D vwCl w0 t.heap) (va_A wc H.size) a) (va_A wc H.size))
    (kk : ∀ (u : Nat) (H1 : Heap) (locs1 : List Loc), post u → va_P D vwCl w0 H1 → (∀ q : Nat, q < H.size → ¬ va_A wc H.size q → H1[q]? = H[q]?) → va_S A s.heap H1 locs1 → W p l e R s m args below meth c H1 locs1 cells slots Q (F0 m (pc + 3) ls (.ref (G 1 u) :: rest))) : W p l e R s m args below meth c H locs cells slots Q (F0 m pc ls st) :=
  va_callr hr hS (fun q _ h => zF hA hDw hS q h) (zF hA hDw hS) (fun u ra t H1 locs1 ht _ hw hB _ hk1 hS1 => by
    obtain ⟨e1, e2⟩ := hB
    subst e1
    exact kk u H1 locs1 hw (by rw [← ht]; exact e2) hk1 hS1)
/-! a method's contract out of its walk: A, Q and the way back stay names -/
theorem zofW {y : MethodName} {ws ws' : List Cond} {rm : Room} {Pc : Array Value → State → Prop} {Qc : Array Value → State → Outcome → State → Prop} {mc ms : Nat} {free : Addr → Prop} {cc : ByteArray} {maxL : Nat} {ret : Option FieldType}
    (hy : plainFor y = true) (hw : ws = Cond.code y cc maxL ret :: ws')
    (body : ∀ p e s m args below meth c s₁, BodyLoose p l y (headSpec ws rm) cc maxL ret e s m args below meth c s₁ → c.maxLocals = maxL → Pc args s →
      W p l e (headSpec ws rm).room s m args below meth c s.heap [] 0 0 (MQ below Qc args s mc ms free) (entryFrame m args maxL)) : Met l y ws rm Pc Qc mc ms free := by
  refine MetFree.of_bodySF (code := cc) (maxLocals := maxL) (ret := ret) hy ?_ ?_
  · intro args s m h hn
    obtain ⟨meth, c, h1, h2, h3, h4, h5, h6, -, -⟩ := Cond.code_spec hn (atoms_spec (ws := ws) h _ (by rw [hw]; exact List.mem_cons_self))
    exact ⟨meth, c, h1, h2, h3, h4, h5, h6⟩
  · intro p e s m args below meth c s₁ B hml hP _
    have hh0 : s₁.heap = s.heap := by rw [B.state]; rfl
    obtain ⟨t, a1, o, b1, b2, b3⟩ := body p e s m args below meth c s₁ B hml hP s₁ hh0 (Stand.of_body B)
    exact ⟨t, o, a1, b1, b2, ⟨b3.1, b3.2⟩⟩
theorem zmi {av : List Value} {sz : Nat} {ty : FieldType} {post : Int32 → Sg → Prop} (hy : plainFor y = true) (hfit : (lg_sl av).length ≤ nL)
    (body : ∀ (p : Program) (e : Env) (s : State) (m : MethodId) (below : List Frame) (meth : Method) (c : Code) (A : Nat → Prop) (Q : State → Prop) (ls : Array Slot), CallFix p m c cc nL s av.toArray bg y.cls → va_K D vwCl tys s → va_D A wc → (∀ q, s.heap.size ≤ q → A q) → EV G A s → va_P D vwCl wc s.heap → lv_has ls nL (lv_args 0 av) →
      (∀ (r : Int32) (u : Sg) (H : Heap) (locs : List Loc) (ls : Array Slot) (pc : Nat), narrow ty (.int r) = .int r → post r u → va_P D vwCl (gw u) H → va_S A s.heap H locs → decode cc pc = .ok (.ireturn, 1) → W p l e rm s m av.toArray below meth c H locs 0 0 Q (F0 m pc ls [.int r])) → W p l e rm s m av.toArray below meth c s.heap [] 0 0 Q (F0 m 0 ls [])) :
    Met l y (wz y cc nL (some ty)) rm (va_Pc av (PW D tys G wc sz)) (va_Qi post (fun u t => va_P D vwCl (gw u) t.heap) (va_A wc sz)) 0 0 (va_A wc sz) := by
  refine zofW (cc := cc) (maxL := nL) (ret := some ty) hy rfl ?_
  intro p e s m args below meth c s₁ B hml hv
  obtain ⟨rfl, hsz, hP, hK, hD0, hE⟩ := hv
  have hts := atoms_spec (ws := wz y cc nL (some ty)) B.pre
  have hown : s.vm.findClass y.cls = some m.cls := findClass_of_methodNamed B.named
  have hr := B.returns
  have hlocks := B.notSynchronized
  subst hsz
  have hl := lv_entry av (n := nL) hfit
  rw [lg_entry_eq]
  exact body p e s m below meth c (va_A wc s.heap.size) _ _ ⟨B.exec, B.bytes, hml, hown, fun w h => hts w (List.mem_cons_of_mem _ h)⟩ hK hD0.self (fun q h => Or.inr h) hE hP hl (fun r u H locs ls pc hn hw hPu hS hd => W.zret B.exec B.bytes hr hn (fun t ht hW => ⟨⟨r, u, rfl, hw, by show va_P D vwCl (gw u) t.heap; rw [ht]; exact hPu⟩, hS.F ht⟩) hS.2.2 hd)
theorem zml {av : List Value} {sz : Nat} {post : Int64 → Sg → Prop} (hy : plainFor y = true) (hfit : (lg_sl av).length ≤ nL)
    (body : ∀ (p : Program) (e : Env) (s : State) (m : MethodId) (below : List Frame) (meth : Method) (c : Code) (A : Nat → Prop) (Q : State → Prop) (ls : Array Slot), CallFix p m c cc nL s av.toArray bg y.cls → va_K D vwCl tys s → va_D A wc → (∀ q, s.heap.size ≤ q → A q) → EV G A s → va_P D vwCl wc s.heap → lv_has ls nL (lv_args 0 av) →
      (∀ (r : Int64) (u : Sg) (H : Heap) (locs : List Loc) (ls : Array Slot) (pc : Nat), post r u → va_P D vwCl (gw u) H → va_S A s.heap H locs → decode cc pc = .ok (.lreturn, 1) → W p l e rm s m av.toArray below meth c H locs 0 0 Q (F0 m pc ls [.long r])) → W p l e rm s m av.toArray below meth c s.heap [] 0 0 Q (F0 m 0 ls [])) :
    Met l y (wz y cc nL (some .long)) rm (va_Pc av (PW D tys G wc sz)) (va_Ql post (fun u t => va_P D vwCl (gw u) t.heap) (va_A wc sz)) 0 0 (va_A wc sz) := by
  refine zofW (cc := cc) (maxL := nL) (ret := some .long) hy rfl ?_
  intro p e s m args below meth c s₁ B hml hv
  obtain ⟨rfl, hsz, hP, hK, hD0, hE⟩ := hv
  have hts := atoms_spec (ws := wz y cc nL (some .long)) B.pre
  have hown : s.vm.findClass y.cls = some m.cls := findClass_of_methodNamed B.named
  have hr := B.returns
  have hlocks := B.notSynchronized
  subst hsz
  have hl := lv_entry av (n := nL) hfit
  rw [lg_entry_eq]
  exact body p e s m below meth c (va_A wc s.heap.size) _ _ ⟨B.exec, B.bytes, hml, hown, fun w h => hts w (List.mem_cons_of_mem _ h)⟩ hK hD0.self (fun q h => Or.inr h) hE hP hl (fun r u H locs ls pc hw hPu hS hd => W.lret B.exec B.bytes hr (fun t ht hW => ⟨⟨r, u, rfl, hw, by show va_P D vwCl (gw u) t.heap; rw [ht]; exact hPu⟩, hS.F ht⟩) hS.2.2 hd)
theorem zmv {av : List Value} {sz : Nat} {post : Sg → Prop} (hy : plainFor y = true) (hfit : (lg_sl av).length ≤ nL)
    (body : ∀ (p : Program) (e : Env) (s : State) (m : MethodId) (below : List Frame) (meth : Method) (c : Code) (A : Nat → Prop) (Q : State → Prop) (ls : Array Slot), CallFix p m c cc nL s av.toArray bg y.cls → va_K D vwCl tys s → va_D A wc → (∀ q, s.heap.size ≤ q → A q) → EV G A s → va_P D vwCl wc s.heap → lv_has ls nL (lv_args 0 av) →
      (∀ (u : Sg) (H : Heap) (locs : List Loc) (ls : Array Slot) (pc : Nat), post u → va_P D vwCl (gw u) H → va_S A s.heap H locs → decode cc pc = .ok (.return_, 1) → W p l e rm s m av.toArray below meth c H locs 0 0 Q (F0 m pc ls [])) → W p l e rm s m av.toArray below meth c s.heap [] 0 0 Q (F0 m 0 ls [])) :
    Met l y (wz y cc nL none) rm (va_Pc av (PW D tys G wc sz)) (va_Qv post (fun u t => va_P D vwCl (gw u) t.heap) (va_A wc sz)) 0 0 (va_A wc sz) := by
  refine zofW (cc := cc) (maxL := nL) (ret := none) hy rfl ?_
  intro p e s m args below meth c s₁ B hml hv
  obtain ⟨rfl, hsz, hP, hK, hD0, hE⟩ := hv
  have hts := atoms_spec (ws := wz y cc nL none) B.pre
  have hown : s.vm.findClass y.cls = some m.cls := findClass_of_methodNamed B.named
  have hr := B.returns
  have hlocks := B.notSynchronized
  subst hsz
  have hl := lv_entry av (n := nL) hfit
  rw [lg_entry_eq]
  exact body p e s m below meth c (va_A wc s.heap.size) _ _ ⟨B.exec, B.bytes, hml, hown, fun w h => hts w (List.mem_cons_of_mem _ h)⟩ hK hD0.self (fun q h => Or.inr h) hE hP hl (fun u H locs ls pc hw hPu hS hd => W.vret B.exec B.bytes hr (fun t ht hW => ⟨⟨u, rfl, hw, by show va_P D vwCl (gw u) t.heap; rw [ht]; exact hPu⟩, hS.F ht⟩) hS.2.2 hd)
theorem zmr {av : List Value} {sz : Nat} {rc : String} {w0 : va_W} {post : Nat → Prop} (hy : plainFor y = true) (hfit : (lg_sl av).length ≤ nL)
    (body : ∀ (p : Program) (e : Env) (s : State) (m : MethodId) (below : List Frame) (meth : Method) (c : Code) (A : Nat → Prop) (Q : State → Prop) (ls : Array Slot), CallFix p m c cc nL s av.toArray bg y.cls → va_K D vwCl tys s → va_D A wc → (∀ q, s.heap.size ≤ q → A q) → EV G A s → va_P D vwCl wc s.heap → lv_has ls nL (lv_args 0 av) →
      (∀ (u : Nat) (H : Heap) (locs : List Loc) (ls : Array Slot) (pc : Nat), post u → va_P D vwCl w0 H → va_S A s.heap H locs → decode cc pc = .ok (.areturn, 1) → W p l e rm s m av.toArray below meth c H locs 0 0 Q (F0 m pc ls [.ref (G 1 u)])) → W p l e rm s m av.toArray below meth c s.heap [] 0 0 Q (F0 m 0 ls [])) :
    Met l y (wz y cc nL (some (.object rc))) rm (va_Pc av (PW D tys G wc sz)) (va_Qr post (fun u a t => a = G 1 u ∧ va_P D vwCl w0 t.heap) (va_A wc sz)) 0 0 (va_A wc sz) := by
  refine zofW (cc := cc) (maxL := nL) (ret := some (.object rc)) hy rfl ?_
  intro p e s m args below meth c s₁ B hml hv
  obtain ⟨rfl, hsz, hP, hK, hD0, hE⟩ := hv
  have hts := atoms_spec (ws := wz y cc nL (some (.object rc))) B.pre
  have hown : s.vm.findClass y.cls = some m.cls := findClass_of_methodNamed B.named
  have hr := B.returns
  have hlocks := B.notSynchronized
  subst hsz
  have hl := lv_entry av (n := nL) hfit
  rw [lg_entry_eq]
  exact body p e s m below meth c (va_A wc s.heap.size) _ _ ⟨B.exec, B.bytes, hml, hown, fun w h => hts w (List.mem_cons_of_mem _ h)⟩ hK hD0.self (fun q h => Or.inr h) hE hP hl (fun u H locs ls pc hw hPu hS hd => W.aret B.exec B.bytes hr (Or.inl ⟨_, rfl⟩) (Or.inr ⟨_, rfl⟩) (fun t ht hW => ⟨⟨u, _, rfl, hw, rfl, by rw [ht]; exact hPu⟩, hS.F ht⟩) hS.2.2 hd)
/-! a comparison of longs and the branch behind it -/
theorem zl_lt {x y : Int64} : lg_cmp x y < 0 ↔ x < y := by
  unfold lg_cmp
  simp only [gt_iff_lt, Int64.lt_iff_toInt_lt, ← Int64.toInt_inj]
  repeat' split
  all_goals (constructor <;> intro hh <;> first | omega | decide | exact absurd hh (by decide))
theorem zl_le {x y : Int64} : lg_cmp x y ≤ 0 ↔ x ≤ y := by
  unfold lg_cmp
  simp only [gt_iff_lt, Int64.lt_iff_toInt_lt, Int64.le_iff_toInt_le, ← Int64.toInt_inj]
  repeat' split
  all_goals (constructor <;> intro hh <;> first | omega | decide | exact absurd hh (by decide))
theorem zl_eq {x y : Int64} : lg_cmp x y = 0 ↔ x = y := by
  unfold lg_cmp
  simp only [gt_iff_lt, Int64.lt_iff_toInt_lt, ← Int64.toInt_inj]
  repeat' split
  all_goals (constructor <;> intro hh <;> first | omega | decide | exact absurd hh (by decide))
theorem zl_gt {x y : Int64} : 0 < lg_cmp x y ↔ y < x := by
  unfold lg_cmp
  simp only [gt_iff_lt, Int64.lt_iff_toInt_lt, ← Int64.toInt_inj]
  repeat' split
  all_goals (constructor <;> intro hh <;> first | omega | decide | exact absurd hh (by decide))
theorem zl_ge {x y : Int64} : 0 ≤ lg_cmp x y ↔ y ≤ x := lg_cmp_ge x y
/-- the value on top by another name -/
theorem zti {x y : Int32} (h : x = y) (k : W p l e R s m args below meth c H locs cells slots Q (F0 m pc ls (.int y :: rest))) : W p l e R s m args below meth c H locs cells slots Q (F0 m pc ls (.int x :: rest)) := h ▸ k
end ZC
