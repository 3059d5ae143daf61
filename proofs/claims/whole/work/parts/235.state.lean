/-! what is told by a statement -/
def tl0 (c : Nat → Nat) (p : Nat) : Nat := if c p = 115 then (if dg c (p + 2) = true then d2 c (p + 1) else d1 c (p + 1)) else if c p = 108 then lwN (c (p + 1)) else if c p = 116 then d1 c (p + 1) else d2 c (p + 1)
def tl1 (c : Nat → Nat) (p : Nat) : Nat := if c p = 115 then (if dg c (p + 2) = true then d1 c (p + 4) else d1 c (p + 3)) else if c p = 116 then d2 c (p + 2) else if c p = 110 then (if c (p + 3) = 43 then 1 else 0) else d1 c (p + 3)
def tl2 (c : Nat → Nat) (p : Nat) : Nat := if c (p + 4) = 43 then 1 else 0
def TF (c : Nat → Nat) (p q : Nat) (T : Nat → Int32) : Prop := T q = nI (tl0 c p) ∧ (¬ c p = 108 → ¬ c p = 100 → T (q + 1) = nI (tl1 c p)) ∧ (c p = 116 → T (q + 2) = nI (tl2 c p))
theorem tl0_s2 {c : Nat → Nat} {p : Nat} (h : c p = 115) (d : dg c (p + 2) = true) : tl0 c p = d2 c (p + 1) := by
  unfold tl0
  rw [if_pos h, if_pos d]
theorem tl0_s1 {c : Nat → Nat} {p : Nat} (h : c p = 115) (d : dg c (p + 2) = false) : tl0 c p = d1 c (p + 1) := by
  unfold tl0
  rw [if_pos h, if_neg (by rw [d]; decide)]
theorem tl0_l {c : Nat → Nat} {p : Nat} (h : c p = 108) : tl0 c p = lwN (c (p + 1)) := by
  unfold tl0
  rw [if_neg (by omega), if_pos h]
theorem tl0_t {c : Nat → Nat} {p : Nat} (h : c p = 116) : tl0 c p = d1 c (p + 1) := by
  unfold tl0
  rw [if_neg (by omega), if_neg (by omega), if_pos h]
theorem tl0_d {c : Nat → Nat} {p : Nat} (h1 : ¬ c p = 115) (h2 : ¬ c p = 108) (h3 : ¬ c p = 116) : tl0 c p = d2 c (p + 1) := by
  unfold tl0
  rw [if_neg h1, if_neg h2, if_neg h3]
theorem tl1_s2 {c : Nat → Nat} {p : Nat} (h : c p = 115) (d : dg c (p + 2) = true) : tl1 c p = d1 c (p + 4) := by
  unfold tl1
  rw [if_pos h, if_pos d]
theorem tl1_s1 {c : Nat → Nat} {p : Nat} (h : c p = 115) (d : dg c (p + 2) = false) : tl1 c p = d1 c (p + 3) := by
  unfold tl1
  rw [if_pos h, if_neg (by rw [d]; decide)]
theorem tl1_t {c : Nat → Nat} {p : Nat} (h : c p = 116) : tl1 c p = d2 c (p + 2) := by
  unfold tl1
  rw [if_neg (by omega), if_pos h]
theorem tl1_n {c : Nat → Nat} {p : Nat} (h : c p = 110) : tl1 c p = if c (p + 3) = 43 then 1 else 0 := by
  unfold tl1
  rw [if_neg (by omega), if_neg (by omega), if_pos h]
theorem tl1_p {c : Nat → Nat} {p : Nat} (h : c p = 112) : tl1 c p = d1 c (p + 3) := by
  unfold tl1
  rw [if_neg (by omega), if_neg (by omega), if_neg (by omega)]
theorem pf_d {c : Nat → Nat} {fs : List Nat} {p : Nat} (h : dg c p = true) : pf c (57 :: fs) p = pf c fs (p + 1) := pf_t (f := 57) h
theorem pf_dn {c : Nat → Nat} {fs : List Nat} {p : Nat} (h : dg c p = false) : pf c (57 :: fs) p = (false, p) := pf_f (f := 57) h (by decide)
theorem pf_e {c : Nat → Nat} {fs : List Nat} {p : Nat} (h : dg c p = true) : pf c (63 :: fs) p = pf c fs (p + 1) := pf_t (f := 63) h
theorem pf_en {c : Nat → Nat} {fs : List Nat} {p : Nat} (h : dg c p = false) : pf c (63 :: fs) p = pf c fs p := pf_q h
theorem pf_g {c : Nat → Nat} {fs : List Nat} {p : Nat} (h : sg (c p) = true) : pf c (43 :: fs) p = pf c fs (p + 1) := pf_t (f := 43) h
theorem pf_gn {c : Nat → Nat} {fs : List Nat} {p : Nat} (h : sg (c p) = false) : pf c (43 :: fs) p = (false, p) := pf_f (f := 43) h (by decide)
theorem pf_l {c : Nat → Nat} {fs : List Nat} {p : Nat} (h : isL (c p) = true) : pf c (108 :: fs) p = pf c fs (p + 1) := pf_t (f := 108) h
theorem pf_ln {c : Nat → Nat} {fs : List Nat} {p : Nat} (h : isL (c p) = false) : pf c (108 :: fs) p = (false, p) := pf_f (f := 108) h (by decide)
theorem pf_k {c : Nat → Nat} {fs : List Nat} {p : Nat} (h : c p = 44) : pf c (44 :: fs) p = pf c fs (p + 1) := pf_t (f := 44) (decide_eq_true h)
theorem pf_kn {c : Nat → Nat} {fs : List Nat} {p : Nat} (h : ¬ c p = 44) : pf c (44 :: fs) p = (false, p) := pf_f (f := 44) (decide_eq_false h) (by decide)
/-! the reference: a statement -/
section
variable {n : Nat} {tp : Nat → Nat} {s : Nat → Int32} {p q : Nat} {T : Nat → Int32} {Q : Int32 → Int32 → (Nat → Int32) → Prop}
theorem rd_d (ok : okT n tp s) (hp : p < 900) (hq : q + 2 < 144) (hc : tx n tp p = 100) (hF : ∀ e, pa (tx n tp) p = (false, e) → ∀ T', Q 0 (nI e) T') (hT : ∀ e T', e < 1000 → pa (tx n tp) p = (if tx n tp e = 59 then (true, e + 1) else (false, e)) → TF (tx n tp) p q T' → (∀ j, j < q → T' j = T j) → Q 1 (nI e) T') : wpX5_readsAll Q (nI n) (nI (p + 1)) s T (nI (tx n tp p)) (nI q) := by
  have hP : pa (tx n tp) p = pf (tx n tp) [57, 57, 59] (p + 1) := pa_1 2 (by decide) (by rw [hc]; rfl)
  have h0 := tl0_d (c := tx n tp) (p := p) (by omega) (by omega) (by omega)
  unfold wpX5_readsAll
  rw [hc]
  refine br_t rfl (sX5_n2 ok (by omega) (by omega) (fun a b => ⟨bi_n true, hT (p + 3) _ (by omega) ?_ ⟨?_, fun _ z => absurd hc z, fun z => by omega⟩ (fun j hj => pk_un (by omega))⟩) (fun a b _ => ⟨bi_n false, hF (p + 2) ?_ _⟩) (fun a _ => ⟨bi_n false, hF (p + 1) ?_ _⟩))
  · rw [hP, pf_d a, ← pf_59]
    exact pf_d b
  · rw [pk_us, h0]
  · rw [hP, pf_d a]
    exact pf_dn b
  · rw [hP]
    exact pf_dn a
theorem rd_l (ok : okT n tp s) (hp : p < 900) (hq : q + 2 < 144) (hc : tx n tp p = 108) (hF : ∀ e, pa (tx n tp) p = (false, e) → ∀ T', Q 0 (nI e) T') (hT : ∀ e T', e < 1000 → pa (tx n tp) p = (if tx n tp e = 59 then (true, e + 1) else (false, e)) → TF (tx n tp) p q T' → (∀ j, j < q → T' j = T j) → Q 1 (nI e) T') : wpX5_readsAll Q (nI n) (nI (p + 1)) s T (nI (tx n tp p)) (nI q) := by
  have hP : pa (tx n tp) p = pf (tx n tp) [108, 59] (p + 1) := pa_1 1 (by decide) (by rw [hc]; rfl)
  have h0 := tl0_l (c := tx n tp) (p := p) hc
  unfold wpX5_readsAll
  rw [hc]
  refine br_f (by decide) (br_t rfl (sX5_lw ok (by omega) (by omega) (fun a => ⟨bi_n true, hT (p + 2) _ (by omega) ?_ ⟨?_, fun z _ => absurd hc z, fun z => by omega⟩ (fun j hj => pk_un (by omega))⟩) (fun a _ => ⟨bi_n false, hF (p + 1) ?_ _⟩)))
  · rw [hP, ← pf_59]
    exact pf_l a
  · rw [pk_us, h0]
  · rw [hP]
    exact pf_ln a
theorem rd_n (ok : okT n tp s) (hp : p < 900) (hq : q + 2 < 144) (hc : tx n tp p = 110) (hF : ∀ e, pa (tx n tp) p = (false, e) → ∀ T', Q 0 (nI e) T') (hT : ∀ e T', e < 1000 → pa (tx n tp) p = (if tx n tp e = 59 then (true, e + 1) else (false, e)) → TF (tx n tp) p q T' → (∀ j, j < q → T' j = T j) → Q 1 (nI e) T') : wpX5_readsAll Q (nI n) (nI (p + 1)) s T (nI (tx n tp p)) (nI q) := by
  have hP : pa (tx n tp) p = pf (tx n tp) [57, 57, 43, 59] (p + 1) := pa_1 4 (by decide) (by rw [hc]; rfl)
  have h0 := tl0_d (c := tx n tp) (p := p) (by omega) (by omega) (by omega)
  have h1 := tl1_n (c := tx n tp) (p := p) hc
  unfold wpX5_readsAll
  rw [hc, nI_1]
  refine br_f (by decide) (br_f (by decide) (br_t rfl (sX5_n2 ok (by omega) (by omega) (fun a b => br_f (by decide) (sX5_sg (p := p + 3) ok (by omega) (by omega) (fun d => br_f (by decide) (hT (p + 4) _ (by omega) ?_ ⟨?_, fun _ _ => ?_, fun z => by omega⟩ (fun j hj => ?_))) (fun d _ => br_t rfl (hF (p + 3) ?_ _)))) (fun a b _ => br_t rfl (hF (p + 2) ?_ _)) (fun a _ => br_t rfl (hF (p + 1) ?_ _)))))
  · rw [hP, pf_d a, ← pf_59]
    exact (pf_d b).trans (pf_g d)
  · rw [pk_un (by omega), pk_us, h0]
  · rw [pk_us, h1]
  · rw [pk_un (by omega), pk_un (by omega)]
  · rw [hP, pf_d a]
    exact (pf_d b).trans (pf_gn d)
  · rw [hP, pf_d a]
    exact pf_dn b
  · rw [hP]
    exact pf_dn a
theorem rd_t (ok : okT n tp s) (hp : p < 900) (hq : q + 2 < 144) (hc : tx n tp p = 116) (hF : ∀ e, pa (tx n tp) p = (false, e) → ∀ T', Q 0 (nI e) T') (hT : ∀ e T', e < 1000 → pa (tx n tp) p = (if tx n tp e = 59 then (true, e + 1) else (false, e)) → TF (tx n tp) p q T' → (∀ j, j < q → T' j = T j) → Q 1 (nI e) T') : wpX5_readsAll Q (nI n) (nI (p + 1)) s T (nI (tx n tp p)) (nI q) := by
  have hP : pa (tx n tp) p = pf (tx n tp) [57, 57, 57, 43, 59] (p + 1) := pa_1 3 (by decide) (by rw [hc]; rfl)
  have h0 := tl0_t (c := tx n tp) (p := p) hc
  have h1 := tl1_t (c := tx n tp) (p := p) hc
  unfold wpX5_readsAll
  rw [hc, nI_1, show (2 : Int32) = nI 2 from rfl, nI_add]
  refine br_f (by decide) (br_f (by decide) (br_f (by decide) (br_f (by decide) (br_t rfl (sX5_n1 ok (by omega) (by omega) (fun a => br_f (by decide) (sX5_n2 (p := p + 2) ok (by omega) (by omega) (fun b f => br_f (by decide) (sX5_sg (p := p + 4) ok (by omega) (by omega) (fun d => br_f (by decide) (hT (p + 5) _ (by omega) ?_ ⟨?_, fun _ _ => ?_, fun _ => ?_⟩ (fun j hj => ?_))) (fun d _ => br_t rfl (hF (p + 4) ?_ _)))) (fun b f _ => br_t rfl (hF (p + 3) ?_ _)) (fun b _ => br_t rfl (hF (p + 2) ?_ _)))) (fun a _ => br_t rfl (hF (p + 1) ?_ _)))))))
  · rw [hP, pf_d a, ← pf_59]
    exact (pf_d b).trans ((pf_d f).trans (pf_g d))
  · rw [pk_un (by omega), pk_un (by omega), pk_us, h0]
  · rw [pk_un (by omega), pk_us, h1]
  · rw [pk_us]; rfl
  · rw [pk_un (by omega), pk_un (by omega), pk_un (by omega)]
  · rw [hP, pf_d a]
    exact (pf_d b).trans ((pf_d f).trans (pf_gn d))
  · rw [hP, pf_d a]
    exact (pf_d b).trans (pf_dn f)
  · rw [hP, pf_d a]
    exact pf_dn b
  · rw [hP]
    exact pf_dn a
theorem rd_p (ok : okT n tp s) (hp : p < 900) (hq : q + 2 < 144) (hc : tx n tp p = 112) (hF : ∀ e, pa (tx n tp) p = (false, e) → ∀ T', Q 0 (nI e) T') (hT : ∀ e T', e < 1000 → pa (tx n tp) p = (if tx n tp e = 59 then (true, e + 1) else (false, e)) → TF (tx n tp) p q T' → (∀ j, j < q → T' j = T j) → Q 1 (nI e) T') : wpX5_readsAll Q (nI n) (nI (p + 1)) s T (nI (tx n tp p)) (nI q) := by
  have hP : pa (tx n tp) p = pf (tx n tp) [57, 57, 57, 59] (p + 1) := pa_1 5 (by decide) (by rw [hc]; rfl)
  have h0 := tl0_d (c := tx n tp) (p := p) (by omega) (by omega) (by omega)
  have h1 := tl1_p (c := tx n tp) (p := p) hc
  unfold wpX5_readsAll
  rw [hc, nI_1]
  refine br_f (by decide) (br_f (by decide) (br_f (by decide) (br_f (by decide) (br_f (by decide) (sX5_n2 ok (by omega) (by omega) (fun a b => br_f (by decide) (sX5_n1 (p := p + 3) ok (by omega) (by omega) (fun d => br_f (by decide) (hT (p + 4) _ (by omega) ?_ ⟨?_, fun _ _ => ?_, fun z => by omega⟩ (fun j hj => ?_))) (fun d _ => br_t rfl (hF (p + 3) ?_ _)))) (fun a b _ => br_t rfl (hF (p + 2) ?_ _)) (fun a _ => br_t rfl (hF (p + 1) ?_ _)))))))
  · rw [hP, pf_d a, ← pf_59]
    exact (pf_d b).trans (pf_d d)
  · rw [pk_un (by omega), pk_us, h0]
  · rw [pk_us, h1]
  · rw [pk_un (by omega), pk_un (by omega)]
  · rw [hP, pf_d a]
    exact (pf_d b).trans (pf_dn d)
  · rw [hP, pf_d a]
    exact pf_dn b
  · rw [hP]
    exact pf_dn a
theorem rd_s (ok : okT n tp s) (hp : p < 900) (hq : q + 2 < 144) (hc : tx n tp p = 115) (hF : ∀ e, pa (tx n tp) p = (false, e) → ∀ T', Q 0 (nI e) T') (hT : ∀ e T', e < 1000 → pa (tx n tp) p = (if tx n tp e = 59 then (true, e + 1) else (false, e)) → TF (tx n tp) p q T' → (∀ j, j < q → T' j = T j) → Q 1 (nI e) T') : wpX5_readsAll Q (nI n) (nI (p + 1)) s T (nI (tx n tp p)) (nI q) := by
  have hP : pa (tx n tp) p = pf (tx n tp) [57, 63, 44, 57, 59] (p + 1) := pa_1 0 (by decide) (by rw [hc]; rfl)
  unfold wpX5_readsAll wpX5_readsSpace
  rw [hc, nI_1]
  refine br_f (by decide) (br_f (by decide) (br_f (by decide) (br_t rfl (sX5_n12 ok (by omega) (by omega) (fun a b => br_f (by decide) ?g2) (fun a b => br_f (by decide) ?g1) (fun a _ => br_t rfl ⟨bi_n false, hF (p + 1) ?g0 _⟩)))))
  case g0 =>
    rw [hP]
    exact pf_dn a
  case g2 =>
    refine sX5_nx (p := p + 3) ok (by omega) (rv_br ok 44 (fun e => ?_) (fun e => ⟨bi_n false, hF (p + 3) ?_ _⟩))
    · show wpX5_readsNumber _ (nI n) (nI (p + 3) + 1) s _ (nI (q + 1)) 1 1
      rw [nI_1]
      refine sX5_n1 (p := p + 3 + 1) ok (by omega) (by omega) (fun d => ⟨bi_n true, bi_n true, hT (p + 5) _ (by omega) ?_ ⟨?_, fun _ _ => ?_, fun z => by omega⟩ (fun j hj => ?_)⟩) (fun d _ => ⟨bi_n false, bi_n false, hF (p + 4) ?_ _⟩)
      · rw [hP, pf_d a, ← pf_59]
        exact (pf_e b).trans ((pf_k e).trans (pf_d d))
      · rw [pk_un (by omega), pk_us, tl0_s2 hc b]
      · rw [pk_us, tl1_s2 hc b]
      · rw [pk_un (by omega), pk_un (by omega)]
      · rw [hP, pf_d a]
        exact (pf_e b).trans ((pf_k e).trans (pf_dn d))
    · rw [hP, pf_d a]
      exact (pf_e b).trans (pf_kn e)
  case g1 =>
    refine sX5_nx (p := p + 2) ok (by omega) (rv_br ok 44 (fun e => ?_) (fun e => ⟨bi_n false, hF (p + 2) ?_ _⟩))
    · show wpX5_readsNumber _ (nI n) (nI (p + 2) + 1) s _ (nI (q + 1)) 1 1
      rw [nI_1]
      refine sX5_n1 (p := p + 2 + 1) ok (by omega) (by omega) (fun d => ⟨bi_n true, bi_n true, hT (p + 4) _ (by omega) ?_ ⟨?_, fun _ _ => ?_, fun z => by omega⟩ (fun j hj => ?_)⟩) (fun d _ => ⟨bi_n false, bi_n false, hF (p + 3) ?_ _⟩)
      · rw [hP, pf_d a, ← pf_59]
        exact (pf_en b).trans ((pf_k e).trans (pf_d d))
      · rw [pk_un (by omega), pk_us, tl0_s1 hc b]
      · rw [pk_us, tl1_s1 hc b]
      · rw [pk_un (by omega), pk_un (by omega)]
      · rw [hP, pf_d a]
        exact (pf_en b).trans ((pf_k e).trans (pf_dn d))
    · rw [hP, pf_d a]
      exact (pf_en b).trans (pf_kn e)
theorem sX5_st {L A : Nat → Int32} {k : Nat} {post : Int32 → Int32 → (Nat → Int32) → (Nat → Int32) → (Nat → Int32) → Prop} (ok : okT n tp s) (hp : p < 900) (hk : k < 47) (hF : ∀ e, pa (tx n tp) p = (false, e) → ∀ L' A' T', post 0 (nI e) L' A' T') (hT : ∀ e T', pa (tx n tp) p = (true, e) → TF (tx n tp) p (3 * k) T' → (∀ j, j < 3 * k → T' j = T j) → post 1 (nI e) (upd L k (nI (tx n tp p))) (upd A k (nI p)) T') : wpX5_statement post (nI n) (nI p) (nI k) s L A T := by
  have vin : vp_in (nI k) 48 := vp_in_nI (by omega) (by omega)
  have ec : (nI k).toNatClampNeg = k := nI_clamp (by omega)
  have hc := tx_b ok p
  refine sX5_nx (p := p) ok (by omega) ?_
  by_cases hpn : p < n
  · rw [rv_n hpn, ec, nI_1, show (3 : Int32) = nI 3 from rfl, pk_mul]
    have bF : ∀ e, pa (tx n tp) p = (false, e) → ∀ T' : Nat → Int32, (((0 : Int32) = 0 → post 0 (nI e) (upd L k (nI (tx n tp p))) (upd A k (nI p)) T') ∧ (¬ (0 : Int32) = 0 → wpX5_next (fun r => ((r = 59 → post 1 (nI e + 1) (upd L k (nI (tx n tp p))) (upd A k (nI p)) T') ∧ (¬ r = 59 → post 0 (nI e) (upd L k (nI (tx n tp p))) (upd A k (nI p)) T'))) (nI n) (nI e) s)) := fun e h T' => br_t rfl (hF e h _ _ _)
    have bT : ∀ e (T' : Nat → Int32), e < 1000 → pa (tx n tp) p = (if tx n tp e = 59 then (true, e + 1) else (false, e)) → TF (tx n tp) p (3 * k) T' → (∀ j, j < 3 * k → T' j = T j) → (((1 : Int32) = 0 → post 0 (nI e) (upd L k (nI (tx n tp p))) (upd A k (nI p)) T') ∧ (¬ (1 : Int32) = 0 → wpX5_next (fun r => ((r = 59 → post 1 (nI e + 1) (upd L k (nI (tx n tp p))) (upd A k (nI p)) T') ∧ (¬ r = 59 → post 0 (nI e) (upd L k (nI (tx n tp p))) (upd A k (nI p)) T'))) (nI n) (nI e) s)) := fun e T' he h h2 h3 => by
      refine br_f (by decide) (sX5_nx (p := e) ok (by omega) (rv_br ok 59 (fun z => ?_) (fun z => hF e (by rw [h, if_neg z]) _ _ _)))
      rw [nI_1]
      exact hT (e + 1) T' (by rw [h, if_pos z]) h2 h3
    refine pk_eq (tx n tp p) 115 (fun h => ⟨vin, vin, rd_s ok hp (by omega) h bF bT⟩) (fun q1 => pk_eq (tx n tp p) 108 (fun h => ⟨vin, vin, rd_l ok hp (by omega) h bF bT⟩) (fun q2 => pk_eq (tx n tp p) 100 (fun h => ⟨vin, vin, rd_d ok hp (by omega) h bF bT⟩) (fun q3 => pk_eq (tx n tp p) 116 (fun h => ⟨vin, vin, rd_t ok hp (by omega) h bF bT⟩) (fun q4 => pk_eq (tx n tp p) 110 (fun h => ⟨vin, vin, rd_n ok hp (by omega) h bF bT⟩) (fun q5 => pk_eq (tx n tp p) 112 (fun h => ⟨vin, vin, rd_p ok hp (by omega) h bF bT⟩) (fun q6 => hF p (pa_x ?_) _ _ _))))))
    have e : fh (tx n tp p) = 6 := by
      unfold fh
      rw [if_neg q3, if_neg q2, if_neg q5, if_neg q6, if_neg q1, if_neg q4]
    omega
  · rw [show rv n tp p = -1 from if_neg hpn]
    have e0 : tx n tp p = 0 := if_neg hpn
    refine br_f (by decide) (br_f (by decide) (br_f (by decide) (br_f (by decide) (br_f (by decide) (br_f (by decide) (hF p (pa_x ?_) _ _ _))))))
    rw [e0]
    decide
end
