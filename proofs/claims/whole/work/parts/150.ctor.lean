/-! constructors: what they make -/
abbrev aL (l : List Nat) (k : Nat) : Nat := l.getD k 0
def zKI (y : MethodName) (b : ByteArray) (n : Nat) (na : Nat) : Prop :=
  Cond.code y b n none ∈ bg ∧ Cond.instanceMethod y ∈ bg ∧ Cond.initialized y.cls ∈ bg ∧ y.name = "<init>" ∧ (y.cls ≠ "java/lang/invoke/MethodHandle" ∧ y.cls ≠ "java/lang/invoke/VarHandle" ∧ (parseMethodDescriptor y.desc).map (fun d => d.parameters.length) = some na)
section ZN
variable {p : Program} {l : Launch} {e : Env} {R : Room} {s : State} {m : MethodId} {args : Array Value} {below : List Frame} {meth : Method} {c : Code} {H : Heap} {locs : List Loc} {cells slots : Nat} {Q : State → Prop}
variable {cc bytes : ByteArray} {nL maxL na index mc ms : Nat} {own C : String} {y : MethodName} {rm : Room} {D : va_G} {tys : List (ClassId × FieldType)} {G : Nat → Nat → Nat} {A : Nat → Prop} {wc : va_W} {b : Nat} {As rest st : List Value} {pc : Nat} {ls : Array Slot} {Sg : Type}
/-- a new array, of the class that the tables name -/
theorem znewa {ws : va_W} (hx : p.tables.exec = Jvm.exec) (hb : c.code = cc) {atype : ArrayType} {ty : FieldType} {cA : ClassId} (t0 : Nat) (harr : (Cond.arrayClass (newarray.typeOf atype)).before args s = true) (hty : newarray.typeOf atype = ty) (hK : va_K D vwCl tys s) (ht0 : tys[t0]? = some (cA, ty)) (hRA : ∀ k : ClassId, va_RA s k ty → s.vm.findClass ("[" ++ ty.toString) = some k) (hP : va_P D vwCl ws H) (hD : va_D A ws) (hS : va_S A s.heap H locs) (hA : ∀ q, s.heap.size ≤ q → A q)
    {n : Int32} {N' : Nat} {a0 : vp_A} (ha : ∀ k : ClassId, vp_cell k a0 = arrV k N' (fun _ => defaultValue ty)) (hn : ¬ n < 0) (hN : n.toNatClampNeg = N') (hbytes : N' * componentBytes ty ≤ 536870912) (hcells : cells + 1 ≤ R.cells) (hslots : slots + N' ≤ R.slots) (hdg : decode cc pc = .ok (.newarray atype, 2))
    (kk : ∀ (q : Nat) (H1 : Heap), va_P D vwCl (ws ++ [(q, .inl (cA, a0))]) H1 → va_D A (ws ++ [(q, .inl (cA, a0))]) → va_S A s.heap H1 locs →
      W p l e R s m args below meth c H1 locs (cells + 1) (slots + N') Q (F0 m (pc + 2) ls (.ref q :: rest))) : W p l e R s m args below meth c H locs cells slots Q (F0 m pc ls (.int n :: rest)) := by
  refine va_newa hx hb harr hty hK hP hD hS hA ha hn hN hbytes hcells hslots hdg (fun q cB H1 hK1 hP1 hD1 hS1 => ?_)
  have e1 := hRA _ (hK.2 t0 _ ht0).2
  have e2 := hRA _ (hK1.2 tys.length (cB, ty) (by rw [List.getElem?_append_right (Nat.le_refl _), Nat.sub_self]; rfl)).2
  have e3 : cB = cA := Option.some.inj (e2.symm.trans e1)
  subst e3
  exact kk q H1 hP1 hD1 hS1
theorem zrunI {Qc : Array Value → State → Outcome → State → Prop} (S : CallFix p m c cc nL s args bg own) (hK : va_K D vwCl tys s) (hA : ∀ q, s.heap.size ≤ q → A q) (hE : EV G A s) (hPw : va_P D vwCl wc H) (hDw : va_D A wc) (hS : va_S A s.heap H locs)
    (hM : Met l y (wz y bytes maxL none) rm (va_Pc (.ref b :: As) (PW D tys G wc H.size)) Qc mc ms (va_A wc H.size)) (k : zKI y bytes maxL na) (hlink : Cond.methodLink own index y ∈ bg) (hR : rm.cells = mc ∧ rm.slots = ms ∧ rm.frames + 1 ≤ R.frames ∧ 8 + (maxL + 11) + rm.locals ≤ R.locals)
    (hna : As.length = na) (hl : ls.size = nL) (hst : st = As.reverse ++ .ref b :: rest) (hW : (rest.map fun v => v.category).sum ≤ 8) (hdg : decode cc pc = .ok (.invokespecial index, 3)) (hf : cells + mc ≤ R.cells ∧ slots + ms ≤ R.slots) :
    va_Run p l e R s m args below meth c H locs cells slots mc ms (F0 m pc ls st) rest (Qc (Value.ref b :: As).toArray) (va_A wc H.size) := by
  obtain ⟨k1, k2, k4, k0, k5⟩ := k
  obtain ⟨r1, r2, r3, r4⟩ := hR
  obtain ⟨hx, hb, hml, ho, ht⟩ := id S
  exact va_runI S hM ⟨callB_of na ht (wz_in k1) rfl r1 r2 (ht _ k4) (ht _ hlink) k5 ⟨r3, r4⟩, k0, ht _ k2⟩ ⟨pw_blind, pw_pre hK hA hE hPw hDw hS⟩ rfl hna hl hst (lv_room hW) hdg hf
theorem zrunIN {Qc : Array Value → State → Outcome → State → Prop} (S : CallFix p m c cc nL s args bg own) (hK : va_K D vwCl tys s) (hA : ∀ q, s.heap.size ≤ q → A q) (hE : EV G A s) (hPw : va_P D vwCl wc H) (hDw : va_D A wc) (hS : va_S A s.heap H locs)
    (hM : Met l y (wz y bytes maxL none) rm (va_Pc (.ref b :: As) (PW D tys G wc H.size)) Qc mc ms (va_A wc H.size)) (k : zKI y bytes maxL na) (i : Nat) (hlink : nestT[i]? = some (own, index, y, RX4)) (hR : rm.cells = mc ∧ rm.slots = ms ∧ rm.frames + 1 ≤ R.frames ∧ 8 + (maxL + 11) + rm.locals ≤ R.locals)
    (hna : As.length = na) (hl : ls.size = nL) (hst : st = As.reverse ++ .ref b :: rest) (hW : (rest.map fun v => v.category).sum ≤ 8) (hdg : decode cc pc = .ok (.invokespecial index, 3)) (hf : cells + mc ≤ R.cells ∧ slots + ms ≤ R.slots) :
    va_Run p l e R s m args below meth c H locs cells slots mc ms (F0 m pc ls st) rest (Qc (Value.ref b :: As).toArray) (va_A wc H.size) := by
  obtain ⟨k1, k2, k4, k0, k5⟩ := k
  obtain ⟨r1, r2, r3, r4⟩ := hR
  obtain ⟨hx, hb, hml, ho, ht⟩ := id S
  have hn := hE.1 _ (List.mem_of_getElem? hlink)
  exact va_runIN S hM ⟨va_cnB na ht (wz_in k1) rfl r1 r2 hn (ht _ k4) k5 ⟨r3, r4⟩, k0, ht _ k2⟩ ⟨pw_blind, pw_pre hK hA hE hPw hDw hS⟩ rfl hna hl hst (lv_room hW) hdg hf
theorem zcN {post : Sg → Prop} {B : Sg → Heap → Prop} {a : Array Value} (hA : ∀ q, s.heap.size ≤ q → A q) (hDw : va_D A wc) (hS : va_S A s.heap H locs) (hr : va_Run p l e R s m args below meth c H locs cells slots mc ms (F0 m pc ls st) rest (va_Qv post (fun u t => B u t.heap) (va_A wc H.size) a) (va_A wc H.size))
    (kk : ∀ (u : Sg) (H1 : Heap) (locs1 : List Loc), post u → B u H1 → (∀ q : Nat, q < H.size → ¬ va_A wc H.size q → H1[q]? = H[q]?) → va_S A s.heap H1 locs1 → W p l e R s m args below meth c H1 locs1 (cells + mc) (slots + ms) Q (F0 m (pc + 3) ls rest)) : W p l e R s m args below meth c H locs cells slots Q (F0 m pc ls st) :=
  va_callv hr hS (fun q _ h => zF hA hDw hS q h) (zF hA hDw hS) (fun u t H1 locs1 ht _ hw hB _ hk1 hS1 => kk u H1 locs1 hw (by rw [← ht]; exact hB) hk1 hS1)
/-- a constructor's contract out of its walk -/
theorem zmN {av : List Value} {sz : Nat} {post : Sg → Prop} {B : (Nat → Prop) → Sg → Heap → Prop} (hy : plainFor y = true) (hyn : y.name = "<init>") (hfit : (lg_sl av).length ≤ nL)
    (body : ∀ (p : Program) (e : Env) (s : State) (m : MethodId) (below : List Frame) (meth : Method) (c : Code) (A : Nat → Prop) (Q : State → Prop) (ls : Array Slot), meth.name = "<init>" → CallFix p m c cc nL s av.toArray bg y.cls → va_K D vwCl tys s → va_D A wc → (∀ q, s.heap.size ≤ q → A q) → EV G A s → va_P D vwCl wc s.heap → lv_has ls nL (lv_args 0 av) →
      (∀ (u : Sg) (H : Heap) (locs : List Loc) (ls : Array Slot) (pc : Nat), post u → B A u H → va_S A s.heap H locs → decode cc pc = .ok (.return_, 1) → W p l e rm s m av.toArray below meth c H locs mc ms Q (F0 m pc ls [])) → W p l e rm s m av.toArray below meth c s.heap [] 0 0 Q (F0 m 0 ls [])) :
    Met l y (wz y cc nL none) rm (va_Pc av (PW D tys G wc sz)) (va_Qv post (fun u t => B (va_A wc sz) u t.heap) (va_A wc sz)) mc ms (va_A wc sz) := by
  refine zofW (cc := cc) (maxL := nL) (ret := none) hy rfl ?_
  intro p e s m args below meth c s₁ B hml hv
  obtain ⟨rfl, hsz, hP, hK, hD0, hE⟩ := hv
  have hts := atoms_spec (ws := wz y cc nL none) B.pre
  have hown : s.vm.findClass y.cls = some m.cls := findClass_of_methodNamed B.named
  have hr := B.returns
  have hlocks := B.notSynchronized
  have hin : meth.name = "<init>" := (name_of_methodNamed B.named B.method).1.trans hyn
  subst hsz
  have hl := lv_entry av (n := nL) hfit
  rw [lg_entry_eq]
  exact body p e s m below meth c (va_A wc s.heap.size) _ _ hin ⟨B.exec, B.bytes, hml, hown, fun w h => hts w (List.mem_cons_of_mem _ h)⟩ hK hD0.self (fun q h => Or.inr h) hE hP hl (fun u H locs ls pc hw hPu hS hd => W.vret B.exec B.bytes hr (fun t ht hW => ⟨⟨u, rfl, hw, by subst ht; exact hPu⟩, hS.F ht⟩) hS.2.2 hd)
end ZN
/-- behind a constructor's call: the last cell has become a world -/
theorem zjoin {D : va_G} {A : Nat → Prop} {R w1 : va_W} {x : Nat × va_E} {H H1 : Heap} (hP : va_P D vwCl (R ++ [x]) H) (hD : va_D A (R ++ [x])) (hF : ∀ q, va_A [x] H.size q → A q) (hk : ∀ q : Nat, q < H.size → ¬ va_A [x] H.size q → H1[q]? = H[q]?) (hP1 : va_P D vwCl w1 H1) (hD1 : va_D (va_A [x] H.size) w1) : va_P D vwCl (R ++ w1) H1 ∧ va_D A (R ++ w1) := by
  have at' : ∀ (k : Nat) (q : Nat × va_E), R[k]? = some q → (R ++ [x])[k]? = some q := by
    intro k q hq
    rw [List.getElem?_append_left (List.getElem?_eq_some_iff.mp hq).1]
    exact hq
  have apart : ∀ (k : Nat) (q : Nat × va_E), R[k]? = some q → q.1 < H.size ∧ ¬ va_A [x] H.size q.1 := by
    intro k q hq
    have hl := (hP k q (at' k q hq)).lt
    refine ⟨hl, fun h => ?_⟩
    rcases h with ⟨k2, e, h⟩ | h
    · have hk2 : k2 = 0 := by
        have := (List.getElem?_eq_some_iff.mp h).1
        simp at this
        exact this
      subst hk2
      have hx : x = (q.1, e) := Option.some.inj h
      have hi := hD.1 k R.length q x (at' k q hq) (by rw [List.getElem?_append_right (Nat.le_refl _), Nat.sub_self]; rfl) (by rw [hx])
      have := (List.getElem?_eq_some_iff.mp hq).1
      omega
    · omega
  refine ⟨va_P.app (fun k q hq => ?_) hP1, va_D.app ⟨fun i j p q hi hj e => hD.1 i j p q (at' i p hi) (at' j q hj) e, fun k q hq => hD.2 k q (at' k q hq)⟩ (hD1.weaken (fun k q _ h => hF q.1 h)) (fun i j x y hx hy hxy => ?_)⟩
  · obtain ⟨g1, g2⟩ := apart k q hq
    exact (hP k q (at' k q hq)).kept (hk q.1 g1 g2)
  · exact (apart i x hx).2 (by rw [hxy]; exact hD1.2 j y hy)
