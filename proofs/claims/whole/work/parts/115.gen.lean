def wpX4_row (post : Int32 → (Nat → Int32) → Int32 → (Nat → Int32) → Prop) (T_refusals : Nat → Int32) (r_length : Int32) (r_numbers : Nat → Int32) (p1 : Int32) : Prop := (((0 : Int32) ≤ p1 → ((((99 : Int32) < p1 → (wpX4_refuse (fun (r_1 : Int32) (T_refusals_2 : Nat → Int32) => post r_1 T_refusals_2 r_length r_numbers) T_refusals (-6 : Int32))) ∧ (¬ ((99 : Int32) < p1) → (((r_length < (8 : Int32) → (vp_in r_length 8 ∧ (post (r_length + (1 : Int32)) T_refusals (r_length + (1 : Int32)) (upd r_numbers r_length.toNatClampNeg p1)))) ∧ (¬ (r_length < (8 : Int32)) → (wpX4_refuse (fun (r_3 : Int32) (T_refusals_4 : Nat → Int32) => post r_3 T_refusals_4 r_length r_numbers) T_refusals (-6 : Int32))))))))) ∧ (¬ ((0 : Int32) ≤ p1) → (wpX4_refuse (fun (r_5 : Int32) (T_refusals_6 : Nat → Int32) => post r_5 T_refusals_6 r_length r_numbers) T_refusals (-4 : Int32))))
set_option maxHeartbeats 4000000 in
set_option maxRecDepth 100000 in
theorem mX4_row (l : Launch) (D : va_G) (cI cJ cC : ClassId) (G : Nat → Nat → Nat) (a_T : Nat → Nat) (a_n : Nat → Nat) (a_k : Nat → Nat) (a_t : Nat → Nat) (a_s : Nat → Nat) (a_r : Nat → Nat) (a_c : Nat → Nat) (sz : Nat) (T_isKept : Int32) (T_refusals : Nat → Int32) (r_length : Int32) (r_numbers : Nat → Int32) (p1 : Int32) (post : Int32 → (Nat → Int32) → Int32 → (Nat → Int32) → Prop) (h : wpX4_row post T_refusals r_length r_numbers p1) : Met l yX4_row (wz yX4_row cX4_row 2 (some .int)) ({ frames := 1, cells := 0, slots := 0, locals := 21 }) (va_Pc [.ref (a_T 0), .int p1] (PW D (tz cI cJ cC) G ((bX4 cI cJ cC a_T a_n a_k a_t a_s a_r a_c T_isKept T_refusals) ++ (bX0 cI cJ cC a_r r_length r_numbers)) sz)) (va_Qi (fun (r : Int32) (u : (Nat → Int32) × Int32 × (Nat → Int32)) => post r u.1 u.2.1 u.2.2) (fun (u : (Nat → Int32) × Int32 × (Nat → Int32)) t => va_P D vwCl ((bX4 cI cJ cC a_T a_n a_k a_t a_s a_r a_c T_isKept u.1) ++ (bX0 cI cJ cC a_r u.2.1 u.2.2)) t.heap) (va_A ((bX4 cI cJ cC a_T a_n a_k a_t a_s a_r a_c T_isKept T_refusals) ++ (bX0 cI cJ cC a_r r_length r_numbers)) sz)) 0 0 (va_A ((bX4 cI cJ cC a_T a_n a_k a_t a_s a_r a_c T_isKept T_refusals) ++ (bX0 cI cJ cC a_r r_length r_numbers)) sz) := by
  refine zmi (gw := fun (u : (Nat → Int32) × Int32 × (Nat → Int32)) => (bX4 cI cJ cC a_T a_n a_k a_t a_s a_r a_c T_isKept u.1) ++ (bX0 cI cJ cC a_r u.2.1 u.2.2)) (plainFor_of_name (by decide)) (Nat.le_of_ble_eq_true rfl) ?_
  intro p e s m below meth c A Q ls S hK hD hA hE hP hl hret
  obtain ⟨hx, hb, hml, hown, ht⟩ := id S
  have hS : va_S A s.heap s.heap [] := va_S.rf
  have hDD : ∀ ws : va_W, ws.map (fun q => q.1) = [a_T 0, a_T 1, a_r 0, a_r 1] → va_D A ws := fun ws hw => zD hD (hw.trans rfl)
  have hl : lv_has ls 2 [(0, .ref (a_T 0)), (1, .int p1)] := hl
  unfold wpX4_row at h
  refine lv_iload_n hx hb dX4_row_0 rfl (lv_at hl 1 rfl) ?_
  refine lv_if_ge (tgt := 11) hx hb dX4_row_1 (by decide) (fun z => ?_) (fun z => ?_)
  · replace h := h.1 z
    refine lv_iload_n hx hb dX4_row_11 rfl (lv_at hl 1 rfl) ?_
    refine lv_bipush (v := (99 : Int32)) hx hb dX4_row_12 (by decide) ?_
    refine lv_icmp_gt (tgt := 29) hx hb dX4_row_14 (by decide) (fun z => ?_) (fun z => ?_)
    · replace h := h.1 z
      refine lv_aload_n hx hb dX4_row_29 rfl (lv_at hl 0 rfl) ?_
      refine lv_bipush (v := (-6 : Int32)) hx hb dX4_row_30 (by decide) ?_
      have hPw : va_P D vwCl ((bX4 cI cJ cC a_T a_n a_k a_t a_s a_r a_c T_isKept T_refusals)) _ := hP.sub [0, 1] rfl
      have hDw : va_D A ((bX4 cI cJ cC a_T a_n a_k a_t a_s a_r a_c T_isKept T_refusals)) := (hDD _ rfl).sub (ws := (bX4 cI cJ cC a_T a_n a_k a_t a_s a_r a_c T_isKept T_refusals) ++ (bX0 cI cJ cC a_r r_length r_numbers)) [0, 1] (by decide) rfl
      refine zci hA hDw hS (zrunV (As := [.int (-6 : Int32)]) (rest := []) S hK hA hE hPw hDw hS (mX4_refuse l D cI cJ cC G a_T a_n a_k a_t a_s a_r a_c _ T_isKept T_refusals (-6 : Int32) _ h) kX4_refuse ml_X4_51 ⟨rfl, rfl, by decide, by decide⟩ (q0 := 0) (ci := 4) rfl rfl rfl rfl hl.1 rfl (Nat.le_of_ble_eq_true rfl) dX4_row_32 ⟨Nat.zero_le _, Nat.zero_le _⟩) (fun r_1 T_refusals_2 H locs h hP1 hk1 hS => ?_)
      try dsimp only at h
      have hP : va_P D vwCl ((bX4 cI cJ cC a_T a_n a_k a_t a_s a_r a_c T_isKept T_refusals_2) ++ (bX0 cI cJ cC a_r r_length r_numbers)) H := zMerge hP (hDD _ rfl) [0, 1] rfl rfl hk1 hP1
      exact hret r_1 (T_refusals_2, r_length, r_numbers) _ _ _ _ rfl h hP hS dX4_row_35
    · replace h := h.2 z
      refine lv_aload_n hx hb dX4_row_17 rfl (lv_at hl 0 rfl) ?_
      refine va_get (D := D) (ci := 4) (v := .ref (a_r 0)) (C := RX4) (T := TX4) (N := 8) hx hb ht inX4 hown hK hP 0 rfl rfl 4 (by decide) (ht _ fl_X4_32) (fun _ h9 => h9) rfl dX4_row_18 ?_
      refine va_get (D := D) (ci := 0) (v := .int r_length) (C := RX0) (T := TX0) (N := 2) hx hb ht inX0 hown hK hP 2 rfl rfl 1 (by decide) (ht _ fl_X4_230) (fun _ h9 => h9) rfl dX4_row_21 ?_
      refine lv_bipush (v := (8 : Int32)) hx hb dX4_row_24 (by decide) ?_
      refine lv_icmp_lt (tgt := 36) hx hb dX4_row_26 (by decide) (fun z => ?_) (fun z => ?_)
      · replace h := h.1 z
        refine lv_aload_n hx hb dX4_row_36 rfl (lv_at hl 0 rfl) ?_
        refine va_get (D := D) (ci := 4) (v := .ref (a_r 0)) (C := RX4) (T := TX4) (N := 8) hx hb ht inX4 hown hK hP 0 rfl rfl 4 (by decide) (ht _ fl_X4_32) (fun _ h9 => h9) rfl dX4_row_37 ?_
        refine va_get (D := D) (ci := 0) (v := .ref (a_r 1)) (C := RX0) (T := TX0) (N := 2) hx hb ht inX0 hown hK hP 2 rfl rfl 0 (by decide) (ht _ fl_X4_231) (fun _ h9 => h9) rfl dX4_row_40 ?_
        refine lv_aload_n hx hb dX4_row_43 rfl (lv_at hl 0 rfl) ?_
        refine va_get (D := D) (ci := 4) (v := .ref (a_r 0)) (C := RX4) (T := TX4) (N := 8) hx hb ht inX4 hown hK hP 0 rfl rfl 4 (by decide) (ht _ fl_X4_32) (fun _ h9 => h9) rfl dX4_row_44 ?_
        refine va_get (D := D) (ci := 0) (v := .int r_length) (C := RX0) (T := TX0) (N := 2) hx hb ht inX0 hown hK hP 2 rfl rfl 1 (by decide) (ht _ fl_X4_230) (fun _ h9 => h9) rfl dX4_row_47 ?_
        refine lv_iload_n hx hb dX4_row_50 rfl (lv_at hl 1 rfl) ?_
        obtain ⟨hin, h⟩ := h
        refine va_iast hx hb hK hP (hDD _ rfl) hS 3 0 rfl rfl hin dX4_row_51 (fun H locs hP _ hS => ?_)
        have hP : va_P D vwCl ((bX4 cI cJ cC a_T a_n a_k a_t a_s a_r a_c T_isKept T_refusals) ++ (bX0 cI cJ cC a_r r_length (upd r_numbers r_length.toNatClampNeg p1))) H := hP
        refine lv_aload_n hx hb dX4_row_52 rfl (lv_at hl 0 rfl) ?_
        refine va_get (D := D) (ci := 4) (v := .ref (a_r 0)) (C := RX4) (T := TX4) (N := 8) hx hb ht inX4 hown hK hP 0 rfl rfl 4 (by decide) (ht _ fl_X4_32) (fun _ h9 => h9) rfl dX4_row_53 ?_
        refine lv_dup hx hb dX4_row_56 rfl ?_
        refine va_get (D := D) (ci := 0) (v := .int r_length) (C := RX0) (T := TX0) (N := 2) hx hb ht inX0 hown hK hP 2 rfl rfl 1 (by decide) (ht _ fl_X4_230) (fun _ h9 => h9) rfl dX4_row_57 ?_
        refine lv_iconst (v := (1 : Int32)) hx hb dX4_row_60 (by decide) ?_
        refine lv_iadd hx hb dX4_row_61 ?_
        refine va_put (D := D) (ci := 0) (v := .int (r_length + (1 : Int32))) (ty := .int) (C := RX0) (T := TX0) (N := 2) hx hb ht inX0 tyX0 tyX0_ok nmX0 hown hK hP (hDD _ rfl) hS 2 rfl rfl 1 (by decide) (ht _ fl_X4_230) (fun _ h9 => h9) rfl (by decide +kernel) rfl rfl (Nat.le_of_ble_eq_true rfl) dX4_row_62 (fun H locs hP _ hS => ?_)
        have hP : va_P D vwCl ((bX4 cI cJ cC a_T a_n a_k a_t a_s a_r a_c T_isKept T_refusals) ++ (bX0 cI cJ cC a_r (r_length + (1 : Int32)) (upd r_numbers r_length.toNatClampNeg p1))) H := hP
        refine lv_aload_n hx hb dX4_row_65 rfl (lv_at hl 0 rfl) ?_
        refine va_get (D := D) (ci := 4) (v := .ref (a_r 0)) (C := RX4) (T := TX4) (N := 8) hx hb ht inX4 hown hK hP 0 rfl rfl 4 (by decide) (ht _ fl_X4_32) (fun _ h9 => h9) rfl dX4_row_66 ?_
        refine va_get (D := D) (ci := 0) (v := .int (r_length + (1 : Int32))) (C := RX0) (T := TX0) (N := 2) hx hb ht inX0 hown hK hP 2 rfl rfl 1 (by decide) (ht _ fl_X4_230) (fun _ h9 => h9) rfl dX4_row_69 ?_
        exact hret (r_length + (1 : Int32)) (T_refusals, r_length + (1 : Int32), upd r_numbers r_length.toNatClampNeg p1) _ _ _ _ rfl h hP hS dX4_row_72
      · replace h := h.2 z
        refine lv_aload_n hx hb dX4_row_29 rfl (lv_at hl 0 rfl) ?_
        refine lv_bipush (v := (-6 : Int32)) hx hb dX4_row_30 (by decide) ?_
        have hPw : va_P D vwCl ((bX4 cI cJ cC a_T a_n a_k a_t a_s a_r a_c T_isKept T_refusals)) _ := hP.sub [0, 1] rfl
        have hDw : va_D A ((bX4 cI cJ cC a_T a_n a_k a_t a_s a_r a_c T_isKept T_refusals)) := (hDD _ rfl).sub (ws := (bX4 cI cJ cC a_T a_n a_k a_t a_s a_r a_c T_isKept T_refusals) ++ (bX0 cI cJ cC a_r r_length r_numbers)) [0, 1] (by decide) rfl
        refine zci hA hDw hS (zrunV (As := [.int (-6 : Int32)]) (rest := []) S hK hA hE hPw hDw hS (mX4_refuse l D cI cJ cC G a_T a_n a_k a_t a_s a_r a_c _ T_isKept T_refusals (-6 : Int32) _ h) kX4_refuse ml_X4_51 ⟨rfl, rfl, by decide, by decide⟩ (q0 := 0) (ci := 4) rfl rfl rfl rfl hl.1 rfl (Nat.le_of_ble_eq_true rfl) dX4_row_32 ⟨Nat.zero_le _, Nat.zero_le _⟩) (fun r_3 T_refusals_4 H locs h hP1 hk1 hS => ?_)
        try dsimp only at h
        have hP : va_P D vwCl ((bX4 cI cJ cC a_T a_n a_k a_t a_s a_r a_c T_isKept T_refusals_4) ++ (bX0 cI cJ cC a_r r_length r_numbers)) H := zMerge hP (hDD _ rfl) [0, 1] rfl rfl hk1 hP1
        exact hret r_3 (T_refusals_4, r_length, r_numbers) _ _ _ _ rfl h hP hS dX4_row_35
  · replace h := h.2 z
    refine lv_aload_n hx hb dX4_row_4 rfl (lv_at hl 0 rfl) ?_
    refine lv_bipush (v := (-4 : Int32)) hx hb dX4_row_5 (by decide) ?_
    have hPw : va_P D vwCl ((bX4 cI cJ cC a_T a_n a_k a_t a_s a_r a_c T_isKept T_refusals)) _ := hP.sub [0, 1] rfl
    have hDw : va_D A ((bX4 cI cJ cC a_T a_n a_k a_t a_s a_r a_c T_isKept T_refusals)) := (hDD _ rfl).sub (ws := (bX4 cI cJ cC a_T a_n a_k a_t a_s a_r a_c T_isKept T_refusals) ++ (bX0 cI cJ cC a_r r_length r_numbers)) [0, 1] (by decide) rfl
    refine zci hA hDw hS (zrunV (As := [.int (-4 : Int32)]) (rest := []) S hK hA hE hPw hDw hS (mX4_refuse l D cI cJ cC G a_T a_n a_k a_t a_s a_r a_c _ T_isKept T_refusals (-4 : Int32) _ h) kX4_refuse ml_X4_51 ⟨rfl, rfl, by decide, by decide⟩ (q0 := 0) (ci := 4) rfl rfl rfl rfl hl.1 rfl (Nat.le_of_ble_eq_true rfl) dX4_row_7 ⟨Nat.zero_le _, Nat.zero_le _⟩) (fun r_5 T_refusals_6 H locs h hP1 hk1 hS => ?_)
    try dsimp only at h
    have hP : va_P D vwCl ((bX4 cI cJ cC a_T a_n a_k a_t a_s a_r a_c T_isKept T_refusals_6) ++ (bX0 cI cJ cC a_r r_length r_numbers)) H := zMerge hP (hDD _ rfl) [0, 1] rfl rfl hk1 hP1
    exact hret r_5 (T_refusals_6, r_length, r_numbers) _ _ _ _ rfl h hP hS dX4_row_10
def wpX4_old (post : Int32 → Prop) (n_open : Int32) (n_woods : Nat → Int32) (r_length : Int32) (r_numbers : Nat → Int32) : Prop := wpX0_offsetsThatFit (fun (r_1 : Int32) => post r_1) r_numbers n_open n_woods r_length
set_option maxHeartbeats 4000000 in
set_option maxRecDepth 100000 in
theorem mX4_old (l : Launch) (D : va_G) (cI cJ cC : ClassId) (G : Nat → Nat → Nat) (a_T : Nat → Nat) (a_n : Nat → Nat) (a_k : Nat → Nat) (a_t : Nat → Nat) (a_s : Nat → Nat) (a_r : Nat → Nat) (a_c : Nat → Nat) (sz : Nat) (T_isKept : Int32) (T_refusals : Nat → Int32) (n_space : Int32) (n_beam : Int32) (n_door : Int32) (n_law : Int32) (n_used : Int32) (n_pipes : Int32) (n_drilled : Int64) (n_total : Int64) (n_open : Int32) (n_pipeInches : Nat → Int32) (n_pipeChances : Nat → Int32) (n_weights : Nat → Int64) (n_woods : Nat → Int32) (n_sums : Nat → Int64) (r_length : Int32) (r_numbers : Nat → Int32) (post : Int32 → Prop) (h : wpX4_old post n_open n_woods r_length r_numbers) : Met l yX4_old (wz yX4_old cX4_old 1 (some .int)) ({ frames := 3, cells := 0, slots := 0, locals := 66 }) (va_Pc [.ref (a_T 0)] (PW D (tz cI cJ cC) G ((bX4 cI cJ cC a_T a_n a_k a_t a_s a_r a_c T_isKept T_refusals) ++ (bX3 cI cJ cC a_n n_space n_beam n_door n_law n_used n_pipes n_drilled n_total n_open n_pipeInches n_pipeChances n_weights n_woods n_sums) ++ (bX0 cI cJ cC a_r r_length r_numbers)) sz)) (va_Qi (fun (r : Int32) (u : Unit) => post r ) (fun (u : Unit) t => va_P D vwCl ((bX4 cI cJ cC a_T a_n a_k a_t a_s a_r a_c T_isKept T_refusals) ++ (bX3 cI cJ cC a_n n_space n_beam n_door n_law n_used n_pipes n_drilled n_total n_open n_pipeInches n_pipeChances n_weights n_woods n_sums) ++ (bX0 cI cJ cC a_r r_length r_numbers)) t.heap) (va_A ((bX4 cI cJ cC a_T a_n a_k a_t a_s a_r a_c T_isKept T_refusals) ++ (bX3 cI cJ cC a_n n_space n_beam n_door n_law n_used n_pipes n_drilled n_total n_open n_pipeInches n_pipeChances n_weights n_woods n_sums) ++ (bX0 cI cJ cC a_r r_length r_numbers)) sz)) 0 0 (va_A ((bX4 cI cJ cC a_T a_n a_k a_t a_s a_r a_c T_isKept T_refusals) ++ (bX3 cI cJ cC a_n n_space n_beam n_door n_law n_used n_pipes n_drilled n_total n_open n_pipeInches n_pipeChances n_weights n_woods n_sums) ++ (bX0 cI cJ cC a_r r_length r_numbers)) sz) := by
  refine zmi (gw := fun (u : Unit) => (bX4 cI cJ cC a_T a_n a_k a_t a_s a_r a_c T_isKept T_refusals) ++ (bX3 cI cJ cC a_n n_space n_beam n_door n_law n_used n_pipes n_drilled n_total n_open n_pipeInches n_pipeChances n_weights n_woods n_sums) ++ (bX0 cI cJ cC a_r r_length r_numbers)) (plainFor_of_name (by decide)) (Nat.le_of_ble_eq_true rfl) ?_
  intro p e s m below meth c A Q ls S hK hD hA hE hP hl hret
  obtain ⟨hx, hb, hml, hown, ht⟩ := id S
  have hS : va_S A s.heap s.heap [] := va_S.rf
  have hDD : ∀ ws : va_W, ws.map (fun q => q.1) = [a_T 0, a_T 1, a_n 0, a_n 1, a_n 2, a_n 3, a_n 4, a_n 5, a_r 0, a_r 1] → va_D A ws := fun ws hw => zD hD (hw.trans rfl)
  have hl : lv_has ls 1 [(0, .ref (a_T 0))] := hl
  unfold wpX4_old at h
  refine lv_aload_n hx hb dX4_old_0 rfl (lv_at hl 0 rfl) ?_
  refine va_get (D := D) (ci := 4) (v := .ref (a_r 0)) (C := RX4) (T := TX4) (N := 8) hx hb ht inX4 hown hK hP 0 rfl rfl 4 (by decide) (ht _ fl_X4_32) (fun _ h9 => h9) rfl dX4_old_1 ?_
  refine lv_aload_n hx hb dX4_old_4 rfl (lv_at hl 0 rfl) ?_
  refine va_get (D := D) (ci := 4) (v := .ref (a_n 0)) (C := RX4) (T := TX4) (N := 8) hx hb ht inX4 hown hK hP 0 rfl rfl 0 (by decide) (ht _ fl_X4_10) (fun _ h9 => h9) rfl dX4_old_5 ?_
  refine lv_aload_n hx hb dX4_old_8 rfl (lv_at hl 0 rfl) ?_
  refine va_get (D := D) (ci := 4) (v := .ref (a_r 0)) (C := RX4) (T := TX4) (N := 8) hx hb ht inX4 hown hK hP 0 rfl rfl 4 (by decide) (ht _ fl_X4_32) (fun _ h9 => h9) rfl dX4_old_9 ?_
  refine va_get (D := D) (ci := 0) (v := .int r_length) (C := RX0) (T := TX0) (N := 2) hx hb ht inX0 hown hK hP 8 rfl rfl 1 (by decide) (ht _ fl_X4_230) (fun _ h9 => h9) rfl dX4_old_12 ?_
  have hPw : va_P D vwCl ((bX0 cI cJ cC a_r r_length r_numbers) ++ (bX3 cI cJ cC a_n n_space n_beam n_door n_law n_used n_pipes n_drilled n_total n_open n_pipeInches n_pipeChances n_weights n_woods n_sums)) _ := hP.sub [8, 9, 2, 3, 4, 5, 6, 7] rfl
  have hDw : va_D A ((bX0 cI cJ cC a_r r_length r_numbers) ++ (bX3 cI cJ cC a_n n_space n_beam n_door n_law n_used n_pipes n_drilled n_total n_open n_pipeInches n_pipeChances n_weights n_woods n_sums)) := (hDD _ rfl).sub (ws := (bX4 cI cJ cC a_T a_n a_k a_t a_s a_r a_c T_isKept T_refusals) ++ (bX3 cI cJ cC a_n n_space n_beam n_door n_law n_used n_pipes n_drilled n_total n_open n_pipeInches n_pipeChances n_weights n_woods n_sums) ++ (bX0 cI cJ cC a_r r_length r_numbers)) [8, 9, 2, 3, 4, 5, 6, 7] (by decide) rfl
  refine zci hA hDw hS (zrunV (As := [.ref (a_n 0), .int r_length]) (rest := []) S hK hA hE hPw hDw hS (mX0_offsetsThatFit l D cI cJ cC G a_r a_n _ r_length r_numbers n_space n_beam n_door n_law n_used n_pipes n_drilled n_total n_open n_pipeInches n_pipeChances n_weights n_woods n_sums r_length _ h) kX0_offsetsThatFit ml_X4_234 ⟨rfl, rfl, by decide, by decide⟩ (q0 := 0) (ci := 0) rfl rfl rfl rfl hl.1 rfl (Nat.le_of_ble_eq_true rfl) dX4_old_15 ⟨Nat.zero_le _, Nat.zero_le _⟩) (fun r_1 u H locs h hP1 hk1 hS => ?_)
  try dsimp only at h
  have hP : va_P D vwCl ((bX4 cI cJ cC a_T a_n a_k a_t a_s a_r a_c T_isKept T_refusals) ++ (bX3 cI cJ cC a_n n_space n_beam n_door n_law n_used n_pipes n_drilled n_total n_open n_pipeInches n_pipeChances n_weights n_woods n_sums) ++ (bX0 cI cJ cC a_r r_length r_numbers)) H := zMerge hP (hDD _ rfl) [8, 9, 2, 3, 4, 5, 6, 7] rfl rfl hk1 hP1
  exact hret r_1 () _ _ _ _ rfl h hP hS dX4_old_18
def wpX4_happened (post : Int64 → (Nat → Int32) → Prop) (T_refusals : Nat → Int32) (n_total : Int64) (n_weights : Nat → Int64) (n_woods : Nat → Int32) (r_length : Int32) (r_numbers : Nat → Int32) (p1 : Int32) (p2 : Int32) : Prop := wpX4_isNoTool (fun (r_1 : Int32) => ((r_1 = (0 : Int32) → (wpX4_isNoPart (fun (r_4 : Int32) => ((r_4 = (0 : Int32) → (wpX0_waysToTell (fun (r_5 : Int64) => wpX0_allWays (fun (r_6 : Int64) => wpX4_partOf (fun (r_7 : Int64) => post r_7 T_refusals) r_5 r_6 p2) r_length n_total) r_length r_numbers n_weights n_woods p1)) ∧ (¬ (r_4 = (0 : Int32)) → (wpX4_refuseLong (fun (r_8 : Int64) (T_refusals_9 : Nat → Int32) => post r_8 T_refusals_9) T_refusals (-2 : Int32))))) p2)) ∧ (¬ (r_1 = (0 : Int32)) → (wpX4_refuseLong (fun (r_2 : Int64) (T_refusals_3 : Nat → Int32) => post r_2 T_refusals_3) T_refusals (-2 : Int32))))) p1
set_option maxHeartbeats 4000000 in
set_option maxRecDepth 100000 in
theorem mX4_happened (l : Launch) (D : va_G) (cI cJ cC : ClassId) (G : Nat → Nat → Nat) (a_T : Nat → Nat) (a_n : Nat → Nat) (a_k : Nat → Nat) (a_t : Nat → Nat) (a_s : Nat → Nat) (a_r : Nat → Nat) (a_c : Nat → Nat) (sz : Nat) (T_isKept : Int32) (T_refusals : Nat → Int32) (n_space : Int32) (n_beam : Int32) (n_door : Int32) (n_law : Int32) (n_used : Int32) (n_pipes : Int32) (n_drilled : Int64) (n_total : Int64) (n_open : Int32) (n_pipeInches : Nat → Int32) (n_pipeChances : Nat → Int32) (n_weights : Nat → Int64) (n_woods : Nat → Int32) (n_sums : Nat → Int64) (r_length : Int32) (r_numbers : Nat → Int32) (p1 : Int32) (p2 : Int32) (post : Int64 → (Nat → Int32) → Prop) (h : wpX4_happened post T_refusals n_total n_weights n_woods r_length r_numbers p1 p2) : Met l yX4_happened (wz yX4_happened cX4_happened 3 (some .long)) ({ frames := 4, cells := 0, slots := 0, locals := 95 }) (va_Pc [.ref (a_T 0), .int p1, .int p2] (PW D (tz cI cJ cC) G ((bX4 cI cJ cC a_T a_n a_k a_t a_s a_r a_c T_isKept T_refusals) ++ (bX3 cI cJ cC a_n n_space n_beam n_door n_law n_used n_pipes n_drilled n_total n_open n_pipeInches n_pipeChances n_weights n_woods n_sums) ++ (bX0 cI cJ cC a_r r_length r_numbers)) sz)) (va_Ql (fun (r : Int64) (u : (Nat → Int32)) => post r u) (fun (u : (Nat → Int32)) t => va_P D vwCl ((bX4 cI cJ cC a_T a_n a_k a_t a_s a_r a_c T_isKept u) ++ (bX3 cI cJ cC a_n n_space n_beam n_door n_law n_used n_pipes n_drilled n_total n_open n_pipeInches n_pipeChances n_weights n_woods n_sums) ++ (bX0 cI cJ cC a_r r_length r_numbers)) t.heap) (va_A ((bX4 cI cJ cC a_T a_n a_k a_t a_s a_r a_c T_isKept T_refusals) ++ (bX3 cI cJ cC a_n n_space n_beam n_door n_law n_used n_pipes n_drilled n_total n_open n_pipeInches n_pipeChances n_weights n_woods n_sums) ++ (bX0 cI cJ cC a_r r_length r_numbers)) sz)) 0 0 (va_A ((bX4 cI cJ cC a_T a_n a_k a_t a_s a_r a_c T_isKept T_refusals) ++ (bX3 cI cJ cC a_n n_space n_beam n_door n_law n_used n_pipes n_drilled n_total n_open n_pipeInches n_pipeChances n_weights n_woods n_sums) ++ (bX0 cI cJ cC a_r r_length r_numbers)) sz) := by
  refine zml (gw := fun (u : (Nat → Int32)) => (bX4 cI cJ cC a_T a_n a_k a_t a_s a_r a_c T_isKept u) ++ (bX3 cI cJ cC a_n n_space n_beam n_door n_law n_used n_pipes n_drilled n_total n_open n_pipeInches n_pipeChances n_weights n_woods n_sums) ++ (bX0 cI cJ cC a_r r_length r_numbers)) (plainFor_of_name (by decide)) (Nat.le_of_ble_eq_true rfl) ?_
  intro p e s m below meth c A Q ls S hK hD hA hE hP hl hret
  obtain ⟨hx, hb, hml, hown, ht⟩ := id S
  have hS : va_S A s.heap s.heap [] := va_S.rf
  have hDD : ∀ ws : va_W, ws.map (fun q => q.1) = [a_T 0, a_T 1, a_n 0, a_n 1, a_n 2, a_n 3, a_n 4, a_n 5, a_r 0, a_r 1] → va_D A ws := fun ws hw => zD hD (hw.trans rfl)
  have hl : lv_has ls 3 [(0, .ref (a_T 0)), (1, .int p1), (2, .int p2)] := hl
  unfold wpX4_happened at h
  refine lv_iload_n hx hb dX4_happened_0 rfl (lv_at hl 1 rfl) ?_
  refine zci hA zD0 hS (zrunS (As := [.int p1]) (rest := []) S hK hA hE zP0 zD0 hS (mX4_isNoTool l D cI cJ cC G _ p1 _ h) kX4_isNoTool ml_X4_113 ⟨rfl, rfl, by decide, by decide⟩ rfl hl.1 rfl (Nat.le_of_ble_eq_true rfl) dX4_happened_1 ⟨Nat.zero_le _, Nat.zero_le _⟩) (fun r_1 u H locs h hP1 hk1 hS => ?_)
  try dsimp only at h
  have hP : va_P D vwCl ((bX4 cI cJ cC a_T a_n a_k a_t a_s a_r a_c T_isKept T_refusals) ++ (bX3 cI cJ cC a_n n_space n_beam n_door n_law n_used n_pipes n_drilled n_total n_open n_pipeInches n_pipeChances n_weights n_woods n_sums) ++ (bX0 cI cJ cC a_r r_length r_numbers)) H := zKeep hP hk1
  refine lv_if_ne (tgt := 14) hx hb dX4_happened_4 (by decide) (fun z => ?_) (fun z => ?_)
  · replace h := h.2 z
    refine lv_aload_n hx hb dX4_happened_14 rfl (lv_at hl 0 rfl) ?_
    refine lv_bipush (v := (-2 : Int32)) hx hb dX4_happened_15 (by decide) ?_
    have hPw : va_P D vwCl ((bX4 cI cJ cC a_T a_n a_k a_t a_s a_r a_c T_isKept T_refusals)) _ := hP.sub [0, 1] rfl
    have hDw : va_D A ((bX4 cI cJ cC a_T a_n a_k a_t a_s a_r a_c T_isKept T_refusals)) := (hDD _ rfl).sub (ws := (bX4 cI cJ cC a_T a_n a_k a_t a_s a_r a_c T_isKept T_refusals) ++ (bX3 cI cJ cC a_n n_space n_beam n_door n_law n_used n_pipes n_drilled n_total n_open n_pipeInches n_pipeChances n_weights n_woods n_sums) ++ (bX0 cI cJ cC a_r r_length r_numbers)) [0, 1] (by decide) rfl
    refine zcl hA hDw hS (zrunV (As := [.int (-2 : Int32)]) (rest := []) S hK hA hE hPw hDw hS (mX4_refuseLong l D cI cJ cC G a_T a_n a_k a_t a_s a_r a_c _ T_isKept T_refusals (-2 : Int32) _ h) kX4_refuseLong ml_X4_105 ⟨rfl, rfl, by decide, by decide⟩ (q0 := 0) (ci := 4) rfl rfl rfl rfl hl.1 rfl (Nat.le_of_ble_eq_true rfl) dX4_happened_17 ⟨Nat.zero_le _, Nat.zero_le _⟩) (fun r_2 T_refusals_3 H locs h hP1 hk1 hS => ?_)
    try dsimp only at h
    have hP : va_P D vwCl ((bX4 cI cJ cC a_T a_n a_k a_t a_s a_r a_c T_isKept T_refusals_3) ++ (bX3 cI cJ cC a_n n_space n_beam n_door n_law n_used n_pipes n_drilled n_total n_open n_pipeInches n_pipeChances n_weights n_woods n_sums) ++ (bX0 cI cJ cC a_r r_length r_numbers)) H := zMerge hP (hDD _ rfl) [0, 1] rfl rfl hk1 hP1
    exact hret r_2 T_refusals_3 _ _ _ _ h hP hS dX4_happened_20
  · replace h := h.1 z
    refine lv_iload_n hx hb dX4_happened_7 rfl (lv_at hl 2 rfl) ?_
    refine zci hA zD0 hS (zrunS (As := [.int p2]) (rest := []) S hK hA hE zP0 zD0 hS (mX4_isNoPart l D cI cJ cC G _ p2 _ h) kX4_isNoPart ml_X4_173 ⟨rfl, rfl, by decide, by decide⟩ rfl hl.1 rfl (Nat.le_of_ble_eq_true rfl) dX4_happened_8 ⟨Nat.zero_le _, Nat.zero_le _⟩) (fun r_4 u H locs h hP1 hk1 hS => ?_)
    try dsimp only at h
    have hP : va_P D vwCl ((bX4 cI cJ cC a_T a_n a_k a_t a_s a_r a_c T_isKept T_refusals) ++ (bX3 cI cJ cC a_n n_space n_beam n_door n_law n_used n_pipes n_drilled n_total n_open n_pipeInches n_pipeChances n_weights n_woods n_sums) ++ (bX0 cI cJ cC a_r r_length r_numbers)) H := zKeep hP hk1
    refine lv_if_eq (tgt := 21) hx hb dX4_happened_11 (by decide) (fun z => ?_) (fun z => ?_)
    · replace h := h.1 z
      refine lv_aload_n hx hb dX4_happened_21 rfl (lv_at hl 0 rfl) ?_
      refine va_get (D := D) (ci := 4) (v := .ref (a_r 0)) (C := RX4) (T := TX4) (N := 8) hx hb ht inX4 hown hK hP 0 rfl rfl 4 (by decide) (ht _ fl_X4_32) (fun _ h9 => h9) rfl dX4_happened_22 ?_
      refine lv_aload_n hx hb dX4_happened_25 rfl (lv_at hl 0 rfl) ?_
      refine va_get (D := D) (ci := 4) (v := .ref (a_n 0)) (C := RX4) (T := TX4) (N := 8) hx hb ht inX4 hown hK hP 0 rfl rfl 0 (by decide) (ht _ fl_X4_10) (fun _ h9 => h9) rfl dX4_happened_26 ?_
      refine lv_iload_n hx hb dX4_happened_29 rfl (lv_at hl 1 rfl) ?_
      have hPw : va_P D vwCl ((bX0 cI cJ cC a_r r_length r_numbers) ++ (bX3 cI cJ cC a_n n_space n_beam n_door n_law n_used n_pipes n_drilled n_total n_open n_pipeInches n_pipeChances n_weights n_woods n_sums)) _ := hP.sub [8, 9, 2, 3, 4, 5, 6, 7] rfl
      have hDw : va_D A ((bX0 cI cJ cC a_r r_length r_numbers) ++ (bX3 cI cJ cC a_n n_space n_beam n_door n_law n_used n_pipes n_drilled n_total n_open n_pipeInches n_pipeChances n_weights n_woods n_sums)) := (hDD _ rfl).sub (ws := (bX4 cI cJ cC a_T a_n a_k a_t a_s a_r a_c T_isKept T_refusals) ++ (bX3 cI cJ cC a_n n_space n_beam n_door n_law n_used n_pipes n_drilled n_total n_open n_pipeInches n_pipeChances n_weights n_woods n_sums) ++ (bX0 cI cJ cC a_r r_length r_numbers)) [8, 9, 2, 3, 4, 5, 6, 7] (by decide) rfl
      refine zcl hA hDw hS (zrunV (As := [.ref (a_n 0), .int p1]) (rest := []) S hK hA hE hPw hDw hS (mX0_waysToTell l D cI cJ cC G a_r a_n _ r_length r_numbers n_space n_beam n_door n_law n_used n_pipes n_drilled n_total n_open n_pipeInches n_pipeChances n_weights n_woods n_sums p1 _ h) kX0_waysToTell ml_X4_238 ⟨rfl, rfl, by decide, by decide⟩ (q0 := 0) (ci := 0) rfl rfl rfl rfl hl.1 rfl (Nat.le_of_ble_eq_true rfl) dX4_happened_30 ⟨Nat.zero_le _, Nat.zero_le _⟩) (fun r_5 u H locs h hP1 hk1 hS => ?_)
      try dsimp only at h
      have hP : va_P D vwCl ((bX4 cI cJ cC a_T a_n a_k a_t a_s a_r a_c T_isKept T_refusals) ++ (bX3 cI cJ cC a_n n_space n_beam n_door n_law n_used n_pipes n_drilled n_total n_open n_pipeInches n_pipeChances n_weights n_woods n_sums) ++ (bX0 cI cJ cC a_r r_length r_numbers)) H := zMerge hP (hDD _ rfl) [8, 9, 2, 3, 4, 5, 6, 7] rfl rfl hk1 hP1
      refine lv_aload_n hx hb dX4_happened_33 rfl (lv_at hl 0 rfl) ?_
      refine va_get (D := D) (ci := 4) (v := .ref (a_r 0)) (C := RX4) (T := TX4) (N := 8) hx hb ht inX4 hown hK hP 0 rfl rfl 4 (by decide) (ht _ fl_X4_32) (fun _ h9 => h9) rfl dX4_happened_34 ?_
      refine lv_aload_n hx hb dX4_happened_37 rfl (lv_at hl 0 rfl) ?_
      refine va_get (D := D) (ci := 4) (v := .ref (a_n 0)) (C := RX4) (T := TX4) (N := 8) hx hb ht inX4 hown hK hP 0 rfl rfl 0 (by decide) (ht _ fl_X4_10) (fun _ h9 => h9) rfl dX4_happened_38 ?_
      have hPw : va_P D vwCl ((bX0 cI cJ cC a_r r_length r_numbers) ++ (bX3 cI cJ cC a_n n_space n_beam n_door n_law n_used n_pipes n_drilled n_total n_open n_pipeInches n_pipeChances n_weights n_woods n_sums)) _ := hP.sub [8, 9, 2, 3, 4, 5, 6, 7] rfl
      have hDw : va_D A ((bX0 cI cJ cC a_r r_length r_numbers) ++ (bX3 cI cJ cC a_n n_space n_beam n_door n_law n_used n_pipes n_drilled n_total n_open n_pipeInches n_pipeChances n_weights n_woods n_sums)) := (hDD _ rfl).sub (ws := (bX4 cI cJ cC a_T a_n a_k a_t a_s a_r a_c T_isKept T_refusals) ++ (bX3 cI cJ cC a_n n_space n_beam n_door n_law n_used n_pipes n_drilled n_total n_open n_pipeInches n_pipeChances n_weights n_woods n_sums) ++ (bX0 cI cJ cC a_r r_length r_numbers)) [8, 9, 2, 3, 4, 5, 6, 7] (by decide) rfl
      refine zcl hA hDw hS (zrunV (As := [.ref (a_n 0)]) (rest := [.long r_5]) S hK hA hE hPw hDw hS (mX0_allWays l D cI cJ cC G a_r a_n _ r_length r_numbers n_space n_beam n_door n_law n_used n_pipes n_drilled n_total n_open n_pipeInches n_pipeChances n_weights n_woods n_sums _ h) kX0_allWays ml_X4_242 ⟨rfl, rfl, by decide, by decide⟩ (q0 := 0) (ci := 0) rfl rfl rfl rfl hl.1 rfl (Nat.le_of_ble_eq_true rfl) dX4_happened_41 ⟨Nat.zero_le _, Nat.zero_le _⟩) (fun r_6 u H locs h hP1 hk1 hS => ?_)
      try dsimp only at h
      have hP : va_P D vwCl ((bX4 cI cJ cC a_T a_n a_k a_t a_s a_r a_c T_isKept T_refusals) ++ (bX3 cI cJ cC a_n n_space n_beam n_door n_law n_used n_pipes n_drilled n_total n_open n_pipeInches n_pipeChances n_weights n_woods n_sums) ++ (bX0 cI cJ cC a_r r_length r_numbers)) H := zMerge hP (hDD _ rfl) [8, 9, 2, 3, 4, 5, 6, 7] rfl rfl hk1 hP1
      refine lv_iload_n hx hb dX4_happened_44 rfl (lv_at hl 2 rfl) ?_
      refine zcl hA zD0 hS (zrunS (As := [.long r_5, .long r_6, .int p2]) (rest := []) S hK hA hE zP0 zD0 hS (mX4_partOf l D cI cJ cC G _ r_5 r_6 p2 _ h) kX4_partOf ml_X4_182 ⟨rfl, rfl, by decide, by decide⟩ rfl hl.1 rfl (Nat.le_of_ble_eq_true rfl) dX4_happened_45 ⟨Nat.zero_le _, Nat.zero_le _⟩) (fun r_7 u H locs h hP1 hk1 hS => ?_)
      try dsimp only at h
      have hP : va_P D vwCl ((bX4 cI cJ cC a_T a_n a_k a_t a_s a_r a_c T_isKept T_refusals) ++ (bX3 cI cJ cC a_n n_space n_beam n_door n_law n_used n_pipes n_drilled n_total n_open n_pipeInches n_pipeChances n_weights n_woods n_sums) ++ (bX0 cI cJ cC a_r r_length r_numbers)) H := zKeep hP hk1
      exact hret r_7 T_refusals _ _ _ _ h hP hS dX4_happened_48
    · replace h := h.2 z
      refine lv_aload_n hx hb dX4_happened_14 rfl (lv_at hl 0 rfl) ?_
      refine lv_bipush (v := (-2 : Int32)) hx hb dX4_happened_15 (by decide) ?_
      have hPw : va_P D vwCl ((bX4 cI cJ cC a_T a_n a_k a_t a_s a_r a_c T_isKept T_refusals)) _ := hP.sub [0, 1] rfl
      have hDw : va_D A ((bX4 cI cJ cC a_T a_n a_k a_t a_s a_r a_c T_isKept T_refusals)) := (hDD _ rfl).sub (ws := (bX4 cI cJ cC a_T a_n a_k a_t a_s a_r a_c T_isKept T_refusals) ++ (bX3 cI cJ cC a_n n_space n_beam n_door n_law n_used n_pipes n_drilled n_total n_open n_pipeInches n_pipeChances n_weights n_woods n_sums) ++ (bX0 cI cJ cC a_r r_length r_numbers)) [0, 1] (by decide) rfl
      refine zcl hA hDw hS (zrunV (As := [.int (-2 : Int32)]) (rest := []) S hK hA hE hPw hDw hS (mX4_refuseLong l D cI cJ cC G a_T a_n a_k a_t a_s a_r a_c _ T_isKept T_refusals (-2 : Int32) _ h) kX4_refuseLong ml_X4_105 ⟨rfl, rfl, by decide, by decide⟩ (q0 := 0) (ci := 4) rfl rfl rfl rfl hl.1 rfl (Nat.le_of_ble_eq_true rfl) dX4_happened_17 ⟨Nat.zero_le _, Nat.zero_le _⟩) (fun r_8 T_refusals_9 H locs h hP1 hk1 hS => ?_)
      try dsimp only at h
      have hP : va_P D vwCl ((bX4 cI cJ cC a_T a_n a_k a_t a_s a_r a_c T_isKept T_refusals_9) ++ (bX3 cI cJ cC a_n n_space n_beam n_door n_law n_used n_pipes n_drilled n_total n_open n_pipeInches n_pipeChances n_weights n_woods n_sums) ++ (bX0 cI cJ cC a_r r_length r_numbers)) H := zMerge hP (hDD _ rfl) [0, 1] rfl rfl hk1 hP1
      exact hret r_8 T_refusals_9 _ _ _ _ h hP hS dX4_happened_20
def lpX4_judge_5 (K : Int32 → Int32 → Prop) (n_open : Int32) (n_woods : Nat → Int32) (r_length : Int32) (r_numbers : Nat → Int32) : Nat → Int32 → Int32 → Prop
  | 0, _, _ => False
  | n + 1, x1, x2 => ((r_length ≤ x2 → (K x1 x2)) ∧ (¬ (r_length ≤ x2) → (((x1 = (-9 : Int32) → (wpX0_offsetsThatFit (fun (r_1 : Int32) => ((r_1 = (0 : Int32) → (lpX4_judge_5 K n_open n_woods r_length r_numbers n x2 (x2 + (1 : Int32)))) ∧ (¬ (r_1 = (0 : Int32)) → (lpX4_judge_5 K n_open n_woods r_length r_numbers n x1 (x2 + (1 : Int32)))))) r_numbers n_open n_woods (x2 + (1 : Int32)))) ∧ (¬ (x1 = (-9 : Int32)) → (K x1 x2))))))
set_option maxHeartbeats 4000000 in
set_option maxRecDepth 100000 in
theorem wX4_judge_5 (l : Launch) (D : va_G) (cI cJ cC : ClassId) (G : Nat → Nat → Nat) (a_T : Nat → Nat) (a_n : Nat → Nat) (a_k : Nat → Nat) (a_t : Nat → Nat) (a_s : Nat → Nat) (a_r : Nat → Nat) (a_c : Nat → Nat) {p : Program} {e : Env} {s : State} {m : MethodId} {below : List Frame} {meth : Method} {c : Code} {A : Nat → Prop} {Q : State → Prop} (T_isKept : Int32) (T_refusals : Nat → Int32) (n_space : Int32) (n_beam : Int32) (n_door : Int32) (n_law : Int32) (n_used : Int32) (n_pipes : Int32) (n_drilled : Int64) (n_total : Int64) (n_open : Int32) (n_pipeInches : Nat → Int32) (n_pipeChances : Nat → Int32) (n_weights : Nat → Int64) (n_woods : Nat → Int32) (n_sums : Nat → Int64) (r_length : Int32) (r_numbers : Nat → Int32) (K : Int32 → Int32 → Prop) (S : CallFix p m c cX4_judge 3 s ([.ref (a_T 0)] : List Value).toArray bg RX4) (hK : va_K D vwCl (tz cI cJ cC) s) (hDD : ∀ ws : va_W, ws.map (fun q => q.1) = [a_T 0, a_T 1, a_n 0, a_n 1, a_n 2, a_n 3, a_n 4, a_n 5, a_r 0, a_r 1] → va_D A ws) (hA : ∀ q, s.heap.size ≤ q → A q) (hE : EV G A s) (hKK : ∀ (x1 : Int32) (x2 : Int32) (H : Heap) (locs : List Loc) (ls : Array Slot), K x1 x2 → va_P D vwCl ((bX4 cI cJ cC a_T a_n a_k a_t a_s a_r a_c T_isKept T_refusals) ++ (bX3 cI cJ cC a_n n_space n_beam n_door n_law n_used n_pipes n_drilled n_total n_open n_pipeInches n_pipeChances n_weights n_woods n_sums) ++ (bX0 cI cJ cC a_r r_length r_numbers)) H → va_S A s.heap H locs → lv_has ls 3 [(0, .ref (a_T 0)), (1, .int x1)] → W p l e ({ frames := 3, cells := 0, slots := 0, locals := 66 }) s m ([.ref (a_T 0)] : List Value).toArray below meth c H locs 0 0 Q (F0 m 47 ls [])) :
    ∀ (n : Nat) (x1 : Int32) (x2 : Int32) (H : Heap) (locs : List Loc) (ls : Array Slot), lpX4_judge_5 K n_open n_woods r_length r_numbers n x1 x2 → va_P D vwCl ((bX4 cI cJ cC a_T a_n a_k a_t a_s a_r a_c T_isKept T_refusals) ++ (bX3 cI cJ cC a_n n_space n_beam n_door n_law n_used n_pipes n_drilled n_total n_open n_pipeInches n_pipeChances n_weights n_woods n_sums) ++ (bX0 cI cJ cC a_r r_length r_numbers)) H → va_S A s.heap H locs → lv_has ls 3 [(0, .ref (a_T 0)), (1, .int x1), (2, .int x2)] → W p l e ({ frames := 3, cells := 0, slots := 0, locals := 66 }) s m ([.ref (a_T 0)] : List Value).toArray below meth c H locs 0 0 Q (F0 m 5 ls []) := by
  obtain ⟨hx, hb, hml, hown, ht⟩ := id S
  intro n
  induction n with
  | zero =>
    intro x1 x2 H locs ls h
    exact absurd h (by simp [lpX4_judge_5])
  | succ n ih =>
    intro x1 x2 H locs ls h hP hS hl
    rw [lpX4_judge_5] at h
    refine lv_iload_n hx hb dX4_judge_5 rfl (lv_at hl 2 rfl) ?_
    refine lv_aload_n hx hb dX4_judge_6 rfl (lv_at hl 0 rfl) ?_
    refine va_get (D := D) (ci := 4) (v := .ref (a_r 0)) (C := RX4) (T := TX4) (N := 8) hx hb ht inX4 hown hK hP 0 rfl rfl 4 (by decide) (ht _ fl_X4_32) (fun _ h9 => h9) rfl dX4_judge_7 ?_
    refine va_get (D := D) (ci := 0) (v := .int r_length) (C := RX0) (T := TX0) (N := 2) hx hb ht inX0 hown hK hP 8 rfl rfl 1 (by decide) (ht _ fl_X4_230) (fun _ h9 => h9) rfl dX4_judge_10 ?_
    refine lv_icmp_ge (tgt := 47) hx hb dX4_judge_13 (by decide) (fun z => ?_) (fun z => ?_)
    · replace h := h.1 z
      exact hKK x1 x2 _ _ _ h hP hS (lv_sub hl [0, 1] rfl)
    · replace h := h.2 z
      refine lv_iload_n hx hb dX4_judge_16 rfl (lv_at hl 1 rfl) ?_
      refine lv_bipush (v := (-9 : Int32)) hx hb dX4_judge_17 (by decide) ?_
      refine lv_icmp_ne (tgt := 47) hx hb dX4_judge_19 (by decide) (fun z => ?_) (fun z => ?_)
      · replace h := h.2 z
        exact hKK x1 x2 _ _ _ h hP hS (lv_sub hl [0, 1] rfl)
      · replace h := h.1 z
        refine lv_aload_n hx hb dX4_judge_22 rfl (lv_at hl 0 rfl) ?_
        refine va_get (D := D) (ci := 4) (v := .ref (a_r 0)) (C := RX4) (T := TX4) (N := 8) hx hb ht inX4 hown hK hP 0 rfl rfl 4 (by decide) (ht _ fl_X4_32) (fun _ h9 => h9) rfl dX4_judge_23 ?_
        refine lv_aload_n hx hb dX4_judge_26 rfl (lv_at hl 0 rfl) ?_
        refine va_get (D := D) (ci := 4) (v := .ref (a_n 0)) (C := RX4) (T := TX4) (N := 8) hx hb ht inX4 hown hK hP 0 rfl rfl 0 (by decide) (ht _ fl_X4_10) (fun _ h9 => h9) rfl dX4_judge_27 ?_
        refine lv_iload_n hx hb dX4_judge_30 rfl (lv_at hl 2 rfl) ?_
        refine lv_iconst (v := (1 : Int32)) hx hb dX4_judge_31 (by decide) ?_
        refine lv_iadd hx hb dX4_judge_32 ?_
        have hPw : va_P D vwCl ((bX0 cI cJ cC a_r r_length r_numbers) ++ (bX3 cI cJ cC a_n n_space n_beam n_door n_law n_used n_pipes n_drilled n_total n_open n_pipeInches n_pipeChances n_weights n_woods n_sums)) _ := hP.sub [8, 9, 2, 3, 4, 5, 6, 7] rfl
        have hDw : va_D A ((bX0 cI cJ cC a_r r_length r_numbers) ++ (bX3 cI cJ cC a_n n_space n_beam n_door n_law n_used n_pipes n_drilled n_total n_open n_pipeInches n_pipeChances n_weights n_woods n_sums)) := (hDD _ rfl).sub (ws := (bX4 cI cJ cC a_T a_n a_k a_t a_s a_r a_c T_isKept T_refusals) ++ (bX3 cI cJ cC a_n n_space n_beam n_door n_law n_used n_pipes n_drilled n_total n_open n_pipeInches n_pipeChances n_weights n_woods n_sums) ++ (bX0 cI cJ cC a_r r_length r_numbers)) [8, 9, 2, 3, 4, 5, 6, 7] (by decide) rfl
        refine zci hA hDw hS (zrunV (As := [.ref (a_n 0), .int (x2 + (1 : Int32))]) (rest := []) S hK hA hE hPw hDw hS (mX0_offsetsThatFit l D cI cJ cC G a_r a_n _ r_length r_numbers n_space n_beam n_door n_law n_used n_pipes n_drilled n_total n_open n_pipeInches n_pipeChances n_weights n_woods n_sums (x2 + (1 : Int32)) _ h) kX0_offsetsThatFit ml_X4_234 ⟨rfl, rfl, by decide, by decide⟩ (q0 := 0) (ci := 0) rfl rfl rfl rfl hl.1 rfl (Nat.le_of_ble_eq_true rfl) dX4_judge_33 ⟨Nat.zero_le _, Nat.zero_le _⟩) (fun r_1 u H locs h hP1 hk1 hS => ?_)
        try dsimp only at h
        have hP : va_P D vwCl ((bX4 cI cJ cC a_T a_n a_k a_t a_s a_r a_c T_isKept T_refusals) ++ (bX3 cI cJ cC a_n n_space n_beam n_door n_law n_used n_pipes n_drilled n_total n_open n_pipeInches n_pipeChances n_weights n_woods n_sums) ++ (bX0 cI cJ cC a_r r_length r_numbers)) H := zMerge hP (hDD _ rfl) [8, 9, 2, 3, 4, 5, 6, 7] rfl rfl hk1 hP1
        refine lv_if_ne (tgt := 41) hx hb dX4_judge_36 (by decide) (fun z => ?_) (fun z => ?_)
        · replace h := h.2 z
          refine lv_iinc (v := x2 + (1 : Int32)) (lv' := [(2, .int (x2 + (1 : Int32))), (0, .ref (a_T 0)), (1, .int x1)]) hx hb dX4_judge_41 hl (k := 2) rfl (by rfl) (by decide) rfl (fun ls hl => ?_)
          refine lv_goto (tgt := 5) hx hb dX4_judge_44 (by decide) ?_
          exact ih x1 (x2 + (1 : Int32)) _ _ _ h hP hS (lv_sub hl [1, 2, 0] rfl)
        · replace h := h.1 z
          refine lv_iload_n hx hb dX4_judge_39 rfl (lv_at hl 2 rfl) ?_
          refine lv_istore_n (lv' := [(1, .int x2), (0, .ref (a_T 0)), (2, .int x2)]) hx hb dX4_judge_40 rfl hl (by decide) rfl (fun ls hl => ?_)
          refine lv_iinc (v := x2 + (1 : Int32)) (lv' := [(2, .int (x2 + (1 : Int32))), (1, .int x2), (0, .ref (a_T 0))]) hx hb dX4_judge_41 hl (k := 2) rfl (by rfl) (by decide) rfl (fun ls hl => ?_)
          refine lv_goto (tgt := 5) hx hb dX4_judge_44 (by decide) ?_
          exact ih x2 (x2 + (1 : Int32)) _ _ _ h hP hS (lv_sub hl [2, 1, 0] rfl)
def wpX4_judge (post : Int32 → Int32 → Prop) (n_open : Int32) (n_woods : Nat → Int32) (r_length : Int32) (r_numbers : Nat → Int32) : Prop := ∃ n_2 : Nat, lpX4_judge_5 (fun (x1_3 : Int32) (x2_4 : Int32) => post x1_3 (0 : Int32)) n_open n_woods r_length r_numbers n_2 (-9 : Int32) (0 : Int32)
set_option maxHeartbeats 4000000 in
set_option maxRecDepth 100000 in
theorem mX4_judge (l : Launch) (D : va_G) (cI cJ cC : ClassId) (G : Nat → Nat → Nat) (a_T : Nat → Nat) (a_n : Nat → Nat) (a_k : Nat → Nat) (a_t : Nat → Nat) (a_s : Nat → Nat) (a_r : Nat → Nat) (a_c : Nat → Nat) (sz : Nat) (T_isKept : Int32) (T_refusals : Nat → Int32) (n_space : Int32) (n_beam : Int32) (n_door : Int32) (n_law : Int32) (n_used : Int32) (n_pipes : Int32) (n_drilled : Int64) (n_total : Int64) (n_open : Int32) (n_pipeInches : Nat → Int32) (n_pipeChances : Nat → Int32) (n_weights : Nat → Int64) (n_woods : Nat → Int32) (n_sums : Nat → Int64) (r_length : Int32) (r_numbers : Nat → Int32) (post : Int32 → Int32 → Prop) (h : wpX4_judge post n_open n_woods r_length r_numbers) : Met l yX4_judge (wz yX4_judge cX4_judge 3 (some .int)) ({ frames := 3, cells := 0, slots := 0, locals := 66 }) (va_Pc [.ref (a_T 0)] (PW D (tz cI cJ cC) G ((bX4 cI cJ cC a_T a_n a_k a_t a_s a_r a_c T_isKept T_refusals) ++ (bX3 cI cJ cC a_n n_space n_beam n_door n_law n_used n_pipes n_drilled n_total n_open n_pipeInches n_pipeChances n_weights n_woods n_sums) ++ (bX0 cI cJ cC a_r r_length r_numbers)) sz)) (va_Qi (fun (r : Int32) (u : Int32) => post r u) (fun (u : Int32) t => va_P D vwCl ((bX4 cI cJ cC a_T a_n a_k a_t a_s a_r a_c T_isKept T_refusals) ++ (bX3 cI cJ cC a_n n_space n_beam n_door n_law n_used n_pipes n_drilled n_total n_open n_pipeInches n_pipeChances n_weights n_woods n_sums) ++ (bX0 cI cJ cC a_r u r_numbers)) t.heap) (va_A ((bX4 cI cJ cC a_T a_n a_k a_t a_s a_r a_c T_isKept T_refusals) ++ (bX3 cI cJ cC a_n n_space n_beam n_door n_law n_used n_pipes n_drilled n_total n_open n_pipeInches n_pipeChances n_weights n_woods n_sums) ++ (bX0 cI cJ cC a_r r_length r_numbers)) sz)) 0 0 (va_A ((bX4 cI cJ cC a_T a_n a_k a_t a_s a_r a_c T_isKept T_refusals) ++ (bX3 cI cJ cC a_n n_space n_beam n_door n_law n_used n_pipes n_drilled n_total n_open n_pipeInches n_pipeChances n_weights n_woods n_sums) ++ (bX0 cI cJ cC a_r r_length r_numbers)) sz) := by
  refine zmi (gw := fun (u : Int32) => (bX4 cI cJ cC a_T a_n a_k a_t a_s a_r a_c T_isKept T_refusals) ++ (bX3 cI cJ cC a_n n_space n_beam n_door n_law n_used n_pipes n_drilled n_total n_open n_pipeInches n_pipeChances n_weights n_woods n_sums) ++ (bX0 cI cJ cC a_r u r_numbers)) (plainFor_of_name (by decide)) (Nat.le_of_ble_eq_true rfl) ?_
  intro p e s m below meth c A Q ls S hK hD hA hE hP hl hret
  obtain ⟨hx, hb, hml, hown, ht⟩ := id S
  have hS : va_S A s.heap s.heap [] := va_S.rf
  have hDD : ∀ ws : va_W, ws.map (fun q => q.1) = [a_T 0, a_T 1, a_n 0, a_n 1, a_n 2, a_n 3, a_n 4, a_n 5, a_r 0, a_r 1] → va_D A ws := fun ws hw => zD hD (hw.trans rfl)
  have hl : lv_has ls 3 [(0, .ref (a_T 0))] := hl
  unfold wpX4_judge at h
  refine lv_bipush (v := (-9 : Int32)) hx hb dX4_judge_0 (by decide) ?_
  refine lv_istore_n (lv' := [(1, .int (-9 : Int32)), (0, .ref (a_T 0))]) hx hb dX4_judge_2 rfl hl (by decide) rfl (fun ls hl => ?_)
  refine lv_iconst (v := (0 : Int32)) hx hb dX4_judge_3 (by decide) ?_
  refine lv_istore_n (lv' := [(2, .int (0 : Int32)), (1, .int (-9 : Int32)), (0, .ref (a_T 0))]) hx hb dX4_judge_4 rfl hl (by decide) rfl (fun ls hl => ?_)
  obtain ⟨n_2, h⟩ := h
  refine wX4_judge_5 l D cI cJ cC G a_T a_n a_k a_t a_s a_r a_c T_isKept T_refusals n_space n_beam n_door n_law n_used n_pipes n_drilled n_total n_open n_pipeInches n_pipeChances n_weights n_woods n_sums r_length r_numbers _ S hK hDD hA hE (fun x1_3 x2_4 H locs ls h hP hS hl => ?_) n_2 (-9 : Int32) (0 : Int32) _ _ _ h hP hS (lv_sub hl [2, 1, 0] rfl)
  try dsimp only at h
  refine lv_aload_n hx hb dX4_judge_47 rfl (lv_at hl 0 rfl) ?_
  refine va_get (D := D) (ci := 4) (v := .ref (a_r 0)) (C := RX4) (T := TX4) (N := 8) hx hb ht inX4 hown hK hP 0 rfl rfl 4 (by decide) (ht _ fl_X4_32) (fun _ h9 => h9) rfl dX4_judge_48 ?_
  refine lv_iconst (v := (0 : Int32)) hx hb dX4_judge_51 (by decide) ?_
  refine va_put (D := D) (ci := 0) (v := .int (0 : Int32)) (ty := .int) (C := RX0) (T := TX0) (N := 2) hx hb ht inX0 tyX0 tyX0_ok nmX0 hown hK hP (hDD _ rfl) hS 8 rfl rfl 1 (by decide) (ht _ fl_X4_230) (fun _ h9 => h9) rfl (by decide +kernel) rfl rfl (Nat.le_of_ble_eq_true rfl) dX4_judge_52 (fun H locs hP _ hS => ?_)
  have hP : va_P D vwCl ((bX4 cI cJ cC a_T a_n a_k a_t a_s a_r a_c T_isKept T_refusals) ++ (bX3 cI cJ cC a_n n_space n_beam n_door n_law n_used n_pipes n_drilled n_total n_open n_pipeInches n_pipeChances n_weights n_woods n_sums) ++ (bX0 cI cJ cC a_r (0 : Int32) r_numbers)) H := hP
  refine lv_iload_n hx hb dX4_judge_55 rfl (lv_at hl 1 rfl) ?_
  exact hret x1_3 (0 : Int32) _ _ _ _ rfl h hP hS dX4_judge_56
def lpX4_lots_33 (K : Int32 → Int32 → Int32 → Prop) (x1 : Int32) (n_space : Int32) (n_woods : Nat → Int32) : Nat → Int32 → Int32 → Int32 → Prop
  | 0, _, _, _ => False
  | n + 1, x3, x4, x5 => ((x1 ≤ x5 → (K x3 x4 x5)) ∧ (¬ (x1 ≤ x5) → (wpX4_modulo (fun (r_1 : Int32) => wpX3_nailsTillWood (fun (r_2 : Int32) => lpX4_lots_33 K x1 n_space n_woods n (x3 + r_2) ((x4 * (1664525 : Int32)) + (1013904223 : Int32)) (x5 + (1 : Int32))) n_space n_woods r_1) ((((x4 * (1664525 : Int32)) + (1013904223 : Int32)) &&& (2147483647 : Int32)) / (256 : Int32)) n_space)))
set_option maxHeartbeats 4000000 in
set_option maxRecDepth 100000 in
theorem wX4_lots_33 (l : Launch) (D : va_G) (cI cJ cC : ClassId) (G : Nat → Nat → Nat) (a_T : Nat → Nat) (a_n : Nat → Nat) (a_k : Nat → Nat) (a_t : Nat → Nat) (a_s : Nat → Nat) (a_r : Nat → Nat) (a_c : Nat → Nat) {p : Program} {e : Env} {s : State} {m : MethodId} {below : List Frame} {meth : Method} {c : Code} {A : Nat → Prop} {Q : State → Prop} (p1 : Int32) (p2 : Int32) (x1 : Int32) (T_isKept : Int32) (T_refusals : Nat → Int32) (n_space : Int32) (n_beam : Int32) (n_door : Int32) (n_law : Int32) (n_used : Int32) (n_pipes : Int32) (n_drilled : Int64) (n_total : Int64) (n_open : Int32) (n_pipeInches : Nat → Int32) (n_pipeChances : Nat → Int32) (n_weights : Nat → Int64) (n_woods : Nat → Int32) (n_sums : Nat → Int64) (K : Int32 → Int32 → Int32 → Prop) (S : CallFix p m c cX4_lots 6 s ([.ref (a_T 0), .int p1, .int p2] : List Value).toArray bg RX4) (hK : va_K D vwCl (tz cI cJ cC) s) (hDD : ∀ ws : va_W, ws.map (fun q => q.1) = [a_T 0, a_T 1, a_n 0, a_n 1, a_n 2, a_n 3, a_n 4, a_n 5] → va_D A ws) (hA : ∀ q, s.heap.size ≤ q → A q) (hE : EV G A s) (hKK : ∀ (x3 : Int32) (x4 : Int32) (x5 : Int32) (H : Heap) (locs : List Loc) (ls : Array Slot), K x3 x4 x5 → va_P D vwCl ((bX4 cI cJ cC a_T a_n a_k a_t a_s a_r a_c T_isKept T_refusals) ++ (bX3 cI cJ cC a_n n_space n_beam n_door n_law n_used n_pipes n_drilled n_total n_open n_pipeInches n_pipeChances n_weights n_woods n_sums)) H → va_S A s.heap H locs → lv_has ls 6 [(3, .int x3)] → W p l e ({ frames := 3, cells := 0, slots := 0, locals := 70 }) s m ([.ref (a_T 0), .int p1, .int p2] : List Value).toArray below meth c H locs 0 0 Q (F0 m 84 ls [])) :
    ∀ (n : Nat) (x3 : Int32) (x4 : Int32) (x5 : Int32) (H : Heap) (locs : List Loc) (ls : Array Slot), lpX4_lots_33 K x1 n_space n_woods n x3 x4 x5 → va_P D vwCl ((bX4 cI cJ cC a_T a_n a_k a_t a_s a_r a_c T_isKept T_refusals) ++ (bX3 cI cJ cC a_n n_space n_beam n_door n_law n_used n_pipes n_drilled n_total n_open n_pipeInches n_pipeChances n_weights n_woods n_sums)) H → va_S A s.heap H locs → lv_has ls 6 [(0, .ref (a_T 0)), (1, .int x1), (3, .int x3), (4, .int x4), (5, .int x5)] → W p l e ({ frames := 3, cells := 0, slots := 0, locals := 70 }) s m ([.ref (a_T 0), .int p1, .int p2] : List Value).toArray below meth c H locs 0 0 Q (F0 m 33 ls []) := by
  obtain ⟨hx, hb, hml, hown, ht⟩ := id S
  intro n
  induction n with
  | zero =>
    intro x3 x4 x5 H locs ls h
    exact absurd h (by simp [lpX4_lots_33])
  | succ n ih =>
    intro x3 x4 x5 H locs ls h hP hS hl
    rw [lpX4_lots_33] at h
    refine lv_iload hx hb dX4_lots_33 (lv_at hl 4 rfl) ?_
    refine lv_iload_n hx hb dX4_lots_35 rfl (lv_at hl 1 rfl) ?_
    refine lv_icmp_ge (tgt := 84) hx hb dX4_lots_36 (by decide) (fun z => ?_) (fun z => ?_)
    · replace h := h.1 z
      exact hKK x3 x4 x5 _ _ _ h hP hS (lv_sub hl [2] rfl)
    · replace h := h.2 z
      refine lv_iload hx hb dX4_lots_39 (lv_at hl 3 rfl) ?_
      refine lv_ldc hx hb hown (ht _ kc_X4_246) dX4_lots_41 ?_
      refine lv_imul hx hb dX4_lots_43 ?_
      refine lv_ldc hx hb hown (ht _ kc_X4_247) dX4_lots_44 ?_
      refine lv_iadd hx hb dX4_lots_46 ?_
      refine lv_istore (lv' := [(4, .int ((x4 * (1664525 : Int32)) + (1013904223 : Int32))), (0, .ref (a_T 0)), (1, .int x1), (3, .int x3), (5, .int x5)]) hx hb dX4_lots_47 hl (by decide) rfl (fun ls hl => ?_)
      refine lv_iload_n hx hb dX4_lots_49 rfl (lv_at hl 3 rfl) ?_
      refine lv_aload_n hx hb dX4_lots_50 rfl (lv_at hl 1 rfl) ?_
      refine va_get (D := D) (ci := 4) (v := .ref (a_n 0)) (C := RX4) (T := TX4) (N := 8) hx hb ht inX4 hown hK hP 0 rfl rfl 0 (by decide) (ht _ fl_X4_10) (fun _ h9 => h9) rfl dX4_lots_51 ?_
      refine lv_iload hx hb dX4_lots_54 (lv_at hl 0 rfl) ?_
      refine lv_ldc hx hb hown (ht _ kc_X4_248) dX4_lots_56 ?_
      refine lv_iand hx hb dX4_lots_58 ?_
      refine lv_sipush (v := (256 : Int32)) hx hb dX4_lots_59 (by decide) ?_
      refine lv_idiv hx hb dX4_lots_62 (by decide) ?_
      refine lv_aload_n hx hb dX4_lots_63 rfl (lv_at hl 1 rfl) ?_
      refine va_get (D := D) (ci := 4) (v := .ref (a_n 0)) (C := RX4) (T := TX4) (N := 8) hx hb ht inX4 hown hK hP 0 rfl rfl 0 (by decide) (ht _ fl_X4_10) (fun _ h9 => h9) rfl dX4_lots_64 ?_
      refine va_get (D := D) (ci := 3) (v := .int n_space) (C := RX3) (T := TX3) (N := 14) hx hb ht inX3 hown hK hP 2 rfl rfl 0 (by decide) (ht _ fl_X4_249) (fun _ h9 => h9) rfl dX4_lots_67 ?_
      refine zci hA zD0 hS (zrunS (As := [.int ((((x4 * (1664525 : Int32)) + (1013904223 : Int32)) &&& (2147483647 : Int32)) / (256 : Int32)), .int n_space]) (rest := [.ref (a_n 0), .int x3]) S hK hA hE zP0 zD0 hS (mX4_modulo l D cI cJ cC G _ ((((x4 * (1664525 : Int32)) + (1013904223 : Int32)) &&& (2147483647 : Int32)) / (256 : Int32)) n_space _ h) kX4_modulo ml_X4_252 ⟨rfl, rfl, by decide, by decide⟩ rfl hl.1 rfl (Nat.le_of_ble_eq_true rfl) dX4_lots_70 ⟨Nat.zero_le _, Nat.zero_le _⟩) (fun r_1 u H locs h hP1 hk1 hS => ?_)
      try dsimp only at h
      have hP : va_P D vwCl ((bX4 cI cJ cC a_T a_n a_k a_t a_s a_r a_c T_isKept T_refusals) ++ (bX3 cI cJ cC a_n n_space n_beam n_door n_law n_used n_pipes n_drilled n_total n_open n_pipeInches n_pipeChances n_weights n_woods n_sums)) H := zKeep hP hk1
      have hPw : va_P D vwCl ((bX3 cI cJ cC a_n n_space n_beam n_door n_law n_used n_pipes n_drilled n_total n_open n_pipeInches n_pipeChances n_weights n_woods n_sums)) _ := hP.sub [2, 3, 4, 5, 6, 7] rfl
      have hDw : va_D A ((bX3 cI cJ cC a_n n_space n_beam n_door n_law n_used n_pipes n_drilled n_total n_open n_pipeInches n_pipeChances n_weights n_woods n_sums)) := (hDD _ rfl).sub (ws := (bX4 cI cJ cC a_T a_n a_k a_t a_s a_r a_c T_isKept T_refusals) ++ (bX3 cI cJ cC a_n n_space n_beam n_door n_law n_used n_pipes n_drilled n_total n_open n_pipeInches n_pipeChances n_weights n_woods n_sums)) [2, 3, 4, 5, 6, 7] (by decide) rfl
      refine zci hA hDw hS (zrunV (As := [.int r_1]) (rest := [.int x3]) S hK hA hE hPw hDw hS (mX3_nailsTillWood l D cI cJ cC G a_n _ n_space n_beam n_door n_law n_used n_pipes n_drilled n_total n_open n_pipeInches n_pipeChances n_weights n_woods n_sums r_1 _ h) kX3_nailsTillWood ml_X4_255 ⟨rfl, rfl, by decide, by decide⟩ (q0 := 0) (ci := 3) rfl rfl rfl rfl hl.1 rfl (Nat.le_of_ble_eq_true rfl) dX4_lots_73 ⟨Nat.zero_le _, Nat.zero_le _⟩) (fun r_2 u H locs h hP1 hk1 hS => ?_)
      try dsimp only at h
      have hP : va_P D vwCl ((bX4 cI cJ cC a_T a_n a_k a_t a_s a_r a_c T_isKept T_refusals) ++ (bX3 cI cJ cC a_n n_space n_beam n_door n_law n_used n_pipes n_drilled n_total n_open n_pipeInches n_pipeChances n_weights n_woods n_sums)) H := zMerge hP (hDD _ rfl) [2, 3, 4, 5, 6, 7] rfl rfl hk1 hP1
      refine lv_iadd hx hb dX4_lots_76 ?_
      refine lv_istore_n (lv' := [(3, .int (x3 + r_2)), (4, .int ((x4 * (1664525 : Int32)) + (1013904223 : Int32))), (0, .ref (a_T 0)), (1, .int x1), (5, .int x5)]) hx hb dX4_lots_77 rfl hl (by decide) rfl (fun ls hl => ?_)
      refine lv_iinc (v := x5 + (1 : Int32)) (lv' := [(5, .int (x5 + (1 : Int32))), (3, .int (x3 + r_2)), (4, .int ((x4 * (1664525 : Int32)) + (1013904223 : Int32))), (0, .ref (a_T 0)), (1, .int x1)]) hx hb dX4_lots_78 hl (k := 4) rfl (by rfl) (by decide) rfl (fun ls hl => ?_)
      refine lv_goto (tgt := 33) hx hb dX4_lots_81 (by decide) ?_
      exact ih (x3 + r_2) ((x4 * (1664525 : Int32)) + (1013904223 : Int32)) (x5 + (1 : Int32)) _ _ _ h hP hS (lv_sub hl [3, 4, 1, 2, 0] rfl)
def wpX4_lots (post : Int32 → (Nat → Int32) → Prop) (T_refusals : Nat → Int32) (n_space : Int32) (n_woods : Nat → Int32) (p1 : Int32) (p2 : Int32) : Prop := (((1 : Int32) ≤ p1 → (((p1 ≤ (30 : Int32) → (∃ n_3 : Nat, lpX4_lots_33 (fun (x3_4 : Int32) (x4_5 : Int32) (x5_6 : Int32) => post x3_4 T_refusals) p1 n_space n_woods n_3 (0 : Int32) p2 (0 : Int32))) ∧ (¬ (p1 ≤ (30 : Int32)) → (wpX4_refuse (fun (r_7 : Int32) (T_refusals_8 : Nat → Int32) => post r_7 T_refusals_8) T_refusals (-6 : Int32)))))) ∧ (¬ ((1 : Int32) ≤ p1) → (wpX4_refuse (fun (r_9 : Int32) (T_refusals_10 : Nat → Int32) => post r_9 T_refusals_10) T_refusals (-4 : Int32))))
set_option maxHeartbeats 4000000 in
set_option maxRecDepth 100000 in
theorem mX4_lots (l : Launch) (D : va_G) (cI cJ cC : ClassId) (G : Nat → Nat → Nat) (a_T : Nat → Nat) (a_n : Nat → Nat) (a_k : Nat → Nat) (a_t : Nat → Nat) (a_s : Nat → Nat) (a_r : Nat → Nat) (a_c : Nat → Nat) (sz : Nat) (T_isKept : Int32) (T_refusals : Nat → Int32) (n_space : Int32) (n_beam : Int32) (n_door : Int32) (n_law : Int32) (n_used : Int32) (n_pipes : Int32) (n_drilled : Int64) (n_total : Int64) (n_open : Int32) (n_pipeInches : Nat → Int32) (n_pipeChances : Nat → Int32) (n_weights : Nat → Int64) (n_woods : Nat → Int32) (n_sums : Nat → Int64) (p1 : Int32) (p2 : Int32) (post : Int32 → (Nat → Int32) → Prop) (h : wpX4_lots post T_refusals n_space n_woods p1 p2) : Met l yX4_lots (wz yX4_lots cX4_lots 6 (some .int)) ({ frames := 3, cells := 0, slots := 0, locals := 70 }) (va_Pc [.ref (a_T 0), .int p1, .int p2] (PW D (tz cI cJ cC) G ((bX4 cI cJ cC a_T a_n a_k a_t a_s a_r a_c T_isKept T_refusals) ++ (bX3 cI cJ cC a_n n_space n_beam n_door n_law n_used n_pipes n_drilled n_total n_open n_pipeInches n_pipeChances n_weights n_woods n_sums)) sz)) (va_Qi (fun (r : Int32) (u : (Nat → Int32)) => post r u) (fun (u : (Nat → Int32)) t => va_P D vwCl ((bX4 cI cJ cC a_T a_n a_k a_t a_s a_r a_c T_isKept u) ++ (bX3 cI cJ cC a_n n_space n_beam n_door n_law n_used n_pipes n_drilled n_total n_open n_pipeInches n_pipeChances n_weights n_woods n_sums)) t.heap) (va_A ((bX4 cI cJ cC a_T a_n a_k a_t a_s a_r a_c T_isKept T_refusals) ++ (bX3 cI cJ cC a_n n_space n_beam n_door n_law n_used n_pipes n_drilled n_total n_open n_pipeInches n_pipeChances n_weights n_woods n_sums)) sz)) 0 0 (va_A ((bX4 cI cJ cC a_T a_n a_k a_t a_s a_r a_c T_isKept T_refusals) ++ (bX3 cI cJ cC a_n n_space n_beam n_door n_law n_used n_pipes n_drilled n_total n_open n_pipeInches n_pipeChances n_weights n_woods n_sums)) sz) := by
  refine zmi (gw := fun (u : (Nat → Int32)) => (bX4 cI cJ cC a_T a_n a_k a_t a_s a_r a_c T_isKept u) ++ (bX3 cI cJ cC a_n n_space n_beam n_door n_law n_used n_pipes n_drilled n_total n_open n_pipeInches n_pipeChances n_weights n_woods n_sums)) (plainFor_of_name (by decide)) (Nat.le_of_ble_eq_true rfl) ?_
  intro p e s m below meth c A Q ls S hK hD hA hE hP hl hret
  obtain ⟨hx, hb, hml, hown, ht⟩ := id S
  have hS : va_S A s.heap s.heap [] := va_S.rf
  have hDD : ∀ ws : va_W, ws.map (fun q => q.1) = [a_T 0, a_T 1, a_n 0, a_n 1, a_n 2, a_n 3, a_n 4, a_n 5] → va_D A ws := fun ws hw => zD hD (hw.trans rfl)
  have hl : lv_has ls 6 [(0, .ref (a_T 0)), (1, .int p1), (2, .int p2)] := hl
  unfold wpX4_lots at h
  refine lv_iload_n hx hb dX4_lots_0 rfl (lv_at hl 1 rfl) ?_
  refine lv_iconst (v := (1 : Int32)) hx hb dX4_lots_1 (by decide) ?_
  refine lv_icmp_ge (tgt := 12) hx hb dX4_lots_2 (by decide) (fun z => ?_) (fun z => ?_)
  · replace h := h.1 z
    refine lv_iload_n hx hb dX4_lots_12 rfl (lv_at hl 1 rfl) ?_
    refine lv_bipush (v := (30 : Int32)) hx hb dX4_lots_13 (by decide) ?_
    refine lv_icmp_le (tgt := 25) hx hb dX4_lots_15 (by decide) (fun z => ?_) (fun z => ?_)
    · replace h := h.1 z
      refine lv_iconst (v := (0 : Int32)) hx hb dX4_lots_25 (by decide) ?_
      refine lv_istore_n (lv' := [(3, .int (0 : Int32)), (0, .ref (a_T 0)), (1, .int p1), (2, .int p2)]) hx hb dX4_lots_26 rfl hl (by decide) rfl (fun ls hl => ?_)
      refine lv_iload_n hx hb dX4_lots_27 rfl (lv_at hl 3 rfl) ?_
      refine lv_istore (lv' := [(4, .int p2), (3, .int (0 : Int32)), (0, .ref (a_T 0)), (1, .int p1), (2, .int p2)]) hx hb dX4_lots_28 hl (by decide) rfl (fun ls hl => ?_)
      refine lv_iconst (v := (0 : Int32)) hx hb dX4_lots_30 (by decide) ?_
      refine lv_istore (lv' := [(5, .int (0 : Int32)), (4, .int p2), (3, .int (0 : Int32)), (0, .ref (a_T 0)), (1, .int p1), (2, .int p2)]) hx hb dX4_lots_31 hl (by decide) rfl (fun ls hl => ?_)
      obtain ⟨n_3, h⟩ := h
      refine wX4_lots_33 l D cI cJ cC G a_T a_n a_k a_t a_s a_r a_c p1 p2 p1 T_isKept T_refusals n_space n_beam n_door n_law n_used n_pipes n_drilled n_total n_open n_pipeInches n_pipeChances n_weights n_woods n_sums _ S hK hDD hA hE (fun x3_4 x4_5 x5_6 H locs ls h hP hS hl => ?_) n_3 (0 : Int32) p2 (0 : Int32) _ _ _ h hP hS (lv_sub hl [3, 4, 2, 1, 0] rfl)
      try dsimp only at h
      refine lv_iload_n hx hb dX4_lots_84 rfl (lv_at hl 0 rfl) ?_
      exact hret x3_4 T_refusals _ _ _ _ rfl h hP hS dX4_lots_85
    · replace h := h.2 z
      refine lv_aload_n hx hb dX4_lots_18 rfl (lv_at hl 0 rfl) ?_
      refine lv_bipush (v := (-6 : Int32)) hx hb dX4_lots_19 (by decide) ?_
      have hPw : va_P D vwCl ((bX4 cI cJ cC a_T a_n a_k a_t a_s a_r a_c T_isKept T_refusals)) _ := hP.sub [0, 1] rfl
      have hDw : va_D A ((bX4 cI cJ cC a_T a_n a_k a_t a_s a_r a_c T_isKept T_refusals)) := (hDD _ rfl).sub (ws := (bX4 cI cJ cC a_T a_n a_k a_t a_s a_r a_c T_isKept T_refusals) ++ (bX3 cI cJ cC a_n n_space n_beam n_door n_law n_used n_pipes n_drilled n_total n_open n_pipeInches n_pipeChances n_weights n_woods n_sums)) [0, 1] (by decide) rfl
      refine zci hA hDw hS (zrunV (As := [.int (-6 : Int32)]) (rest := []) S hK hA hE hPw hDw hS (mX4_refuse l D cI cJ cC G a_T a_n a_k a_t a_s a_r a_c _ T_isKept T_refusals (-6 : Int32) _ h) kX4_refuse ml_X4_51 ⟨rfl, rfl, by decide, by decide⟩ (q0 := 0) (ci := 4) rfl rfl rfl rfl hl.1 rfl (Nat.le_of_ble_eq_true rfl) dX4_lots_21 ⟨Nat.zero_le _, Nat.zero_le _⟩) (fun r_7 T_refusals_8 H locs h hP1 hk1 hS => ?_)
      try dsimp only at h
      have hP : va_P D vwCl ((bX4 cI cJ cC a_T a_n a_k a_t a_s a_r a_c T_isKept T_refusals_8) ++ (bX3 cI cJ cC a_n n_space n_beam n_door n_law n_used n_pipes n_drilled n_total n_open n_pipeInches n_pipeChances n_weights n_woods n_sums)) H := zMerge hP (hDD _ rfl) [0, 1] rfl rfl hk1 hP1
      exact hret r_7 T_refusals_8 _ _ _ _ rfl h hP hS dX4_lots_24
  · replace h := h.2 z
    refine lv_aload_n hx hb dX4_lots_5 rfl (lv_at hl 0 rfl) ?_
    refine lv_bipush (v := (-4 : Int32)) hx hb dX4_lots_6 (by decide) ?_
    have hPw : va_P D vwCl ((bX4 cI cJ cC a_T a_n a_k a_t a_s a_r a_c T_isKept T_refusals)) _ := hP.sub [0, 1] rfl
    have hDw : va_D A ((bX4 cI cJ cC a_T a_n a_k a_t a_s a_r a_c T_isKept T_refusals)) := (hDD _ rfl).sub (ws := (bX4 cI cJ cC a_T a_n a_k a_t a_s a_r a_c T_isKept T_refusals) ++ (bX3 cI cJ cC a_n n_space n_beam n_door n_law n_used n_pipes n_drilled n_total n_open n_pipeInches n_pipeChances n_weights n_woods n_sums)) [0, 1] (by decide) rfl
    refine zci hA hDw hS (zrunV (As := [.int (-4 : Int32)]) (rest := []) S hK hA hE hPw hDw hS (mX4_refuse l D cI cJ cC G a_T a_n a_k a_t a_s a_r a_c _ T_isKept T_refusals (-4 : Int32) _ h) kX4_refuse ml_X4_51 ⟨rfl, rfl, by decide, by decide⟩ (q0 := 0) (ci := 4) rfl rfl rfl rfl hl.1 rfl (Nat.le_of_ble_eq_true rfl) dX4_lots_8 ⟨Nat.zero_le _, Nat.zero_le _⟩) (fun r_9 T_refusals_10 H locs h hP1 hk1 hS => ?_)
    try dsimp only at h
    have hP : va_P D vwCl ((bX4 cI cJ cC a_T a_n a_k a_t a_s a_r a_c T_isKept T_refusals_10) ++ (bX3 cI cJ cC a_n n_space n_beam n_door n_law n_used n_pipes n_drilled n_total n_open n_pipeInches n_pipeChances n_weights n_woods n_sums)) H := zMerge hP (hDD _ rfl) [0, 1] rfl rfl hk1 hP1
    exact hret r_9 T_refusals_10 _ _ _ _ rfl h hP hS dX4_lots_11
def wpX4_image (post : Int32 → Int32 → Int32 → Int32 → Int32 → Int32 → Int32 → Int32 → Int64 → Int64 → Int32 → (Nat → Int32) → (Nat → Int32) → (Nat → Int64) → (Nat → Int32) → (Nat → Int64) → Prop) (n_space : Int32) (n_beam : Int32) (n_door : Int32) (n_law : Int32) (n_used : Int32) (n_pipes : Int32) (n_drilled : Int64) (n_total : Int64) (n_open : Int32) (n_pipeInches : Nat → Int32) (n_pipeChances : Nat → Int32) (n_weights : Nat → Int64) (n_woods : Nat → Int32) (n_sums : Nat → Int64) (k_pipeInches : Nat → Int32) (k_pipeChances : Nat → Int32) (k_weights : Nat → Int64) (k_woods : Nat → Int32) (k_sums : Nat → Int64) : Prop := wpX3_becomeAs (fun (k_space_1 : Int32) (k_beam_2 : Int32) (k_door_3 : Int32) (k_law_4 : Int32) (k_used_5 : Int32) (k_pipes_6 : Int32) (k_drilled_7 : Int64) (k_total_8 : Int64) (k_open_9 : Int32) (k_pipeInches_10 : Nat → Int32) (k_pipeChances_11 : Nat → Int32) (k_weights_12 : Nat → Int64) (k_woods_13 : Nat → Int32) (k_sums_14 : Nat → Int64) => post n_used (1 : Int32) k_space_1 k_beam_2 k_door_3 k_law_4 k_used_5 k_pipes_6 k_drilled_7 k_total_8 k_open_9 k_pipeInches_10 k_pipeChances_11 k_weights_12 k_woods_13 k_sums_14) k_pipeInches k_pipeChances k_weights k_woods k_sums n_space n_beam n_door n_law n_used n_pipes n_drilled n_total n_open n_pipeInches n_pipeChances n_weights n_woods n_sums
set_option maxHeartbeats 4000000 in
set_option maxRecDepth 100000 in
theorem mX4_image (l : Launch) (D : va_G) (cI cJ cC : ClassId) (G : Nat → Nat → Nat) (a_T : Nat → Nat) (a_n : Nat → Nat) (a_k : Nat → Nat) (a_t : Nat → Nat) (a_s : Nat → Nat) (a_r : Nat → Nat) (a_c : Nat → Nat) (sz : Nat) (T_isKept : Int32) (T_refusals : Nat → Int32) (n_space : Int32) (n_beam : Int32) (n_door : Int32) (n_law : Int32) (n_used : Int32) (n_pipes : Int32) (n_drilled : Int64) (n_total : Int64) (n_open : Int32) (n_pipeInches : Nat → Int32) (n_pipeChances : Nat → Int32) (n_weights : Nat → Int64) (n_woods : Nat → Int32) (n_sums : Nat → Int64) (k_space : Int32) (k_beam : Int32) (k_door : Int32) (k_law : Int32) (k_used : Int32) (k_pipes : Int32) (k_drilled : Int64) (k_total : Int64) (k_open : Int32) (k_pipeInches : Nat → Int32) (k_pipeChances : Nat → Int32) (k_weights : Nat → Int64) (k_woods : Nat → Int32) (k_sums : Nat → Int64) (post : Int32 → Int32 → Int32 → Int32 → Int32 → Int32 → Int32 → Int32 → Int64 → Int64 → Int32 → (Nat → Int32) → (Nat → Int32) → (Nat → Int64) → (Nat → Int32) → (Nat → Int64) → Prop) (h : wpX4_image post n_space n_beam n_door n_law n_used n_pipes n_drilled n_total n_open n_pipeInches n_pipeChances n_weights n_woods n_sums k_pipeInches k_pipeChances k_weights k_woods k_sums) : Met l yX4_image (wz yX4_image cX4_image 1 (some .int)) ({ frames := 2, cells := 0, slots := 0, locals := 81 }) (va_Pc [.ref (a_T 0)] (PW D (tz cI cJ cC) G ((bX4 cI cJ cC a_T a_n a_k a_t a_s a_r a_c T_isKept T_refusals) ++ (bX3 cI cJ cC a_n n_space n_beam n_door n_law n_used n_pipes n_drilled n_total n_open n_pipeInches n_pipeChances n_weights n_woods n_sums) ++ (bX3 cI cJ cC a_k k_space k_beam k_door k_law k_used k_pipes k_drilled k_total k_open k_pipeInches k_pipeChances k_weights k_woods k_sums)) sz)) (va_Qi (fun (r : Int32) (u : Int32 × Int32 × Int32 × Int32 × Int32 × Int32 × Int32 × Int64 × Int64 × Int32 × (Nat → Int32) × (Nat → Int32) × (Nat → Int64) × (Nat → Int32) × (Nat → Int64)) => post r u.1 u.2.1 u.2.2.1 u.2.2.2.1 u.2.2.2.2.1 u.2.2.2.2.2.1 u.2.2.2.2.2.2.1 u.2.2.2.2.2.2.2.1 u.2.2.2.2.2.2.2.2.1 u.2.2.2.2.2.2.2.2.2.1 u.2.2.2.2.2.2.2.2.2.2.1 u.2.2.2.2.2.2.2.2.2.2.2.1 u.2.2.2.2.2.2.2.2.2.2.2.2.1 u.2.2.2.2.2.2.2.2.2.2.2.2.2.1 u.2.2.2.2.2.2.2.2.2.2.2.2.2.2) (fun (u : Int32 × Int32 × Int32 × Int32 × Int32 × Int32 × Int32 × Int64 × Int64 × Int32 × (Nat → Int32) × (Nat → Int32) × (Nat → Int64) × (Nat → Int32) × (Nat → Int64)) t => va_P D vwCl ((bX4 cI cJ cC a_T a_n a_k a_t a_s a_r a_c u.1 T_refusals) ++ (bX3 cI cJ cC a_n n_space n_beam n_door n_law n_used n_pipes n_drilled n_total n_open n_pipeInches n_pipeChances n_weights n_woods n_sums) ++ (bX3 cI cJ cC a_k u.2.1 u.2.2.1 u.2.2.2.1 u.2.2.2.2.1 u.2.2.2.2.2.1 u.2.2.2.2.2.2.1 u.2.2.2.2.2.2.2.1 u.2.2.2.2.2.2.2.2.1 u.2.2.2.2.2.2.2.2.2.1 u.2.2.2.2.2.2.2.2.2.2.1 u.2.2.2.2.2.2.2.2.2.2.2.1 u.2.2.2.2.2.2.2.2.2.2.2.2.1 u.2.2.2.2.2.2.2.2.2.2.2.2.2.1 u.2.2.2.2.2.2.2.2.2.2.2.2.2.2)) t.heap) (va_A ((bX4 cI cJ cC a_T a_n a_k a_t a_s a_r a_c T_isKept T_refusals) ++ (bX3 cI cJ cC a_n n_space n_beam n_door n_law n_used n_pipes n_drilled n_total n_open n_pipeInches n_pipeChances n_weights n_woods n_sums) ++ (bX3 cI cJ cC a_k k_space k_beam k_door k_law k_used k_pipes k_drilled k_total k_open k_pipeInches k_pipeChances k_weights k_woods k_sums)) sz)) 0 0 (va_A ((bX4 cI cJ cC a_T a_n a_k a_t a_s a_r a_c T_isKept T_refusals) ++ (bX3 cI cJ cC a_n n_space n_beam n_door n_law n_used n_pipes n_drilled n_total n_open n_pipeInches n_pipeChances n_weights n_woods n_sums) ++ (bX3 cI cJ cC a_k k_space k_beam k_door k_law k_used k_pipes k_drilled k_total k_open k_pipeInches k_pipeChances k_weights k_woods k_sums)) sz) := by
  refine zmi (gw := fun (u : Int32 × Int32 × Int32 × Int32 × Int32 × Int32 × Int32 × Int64 × Int64 × Int32 × (Nat → Int32) × (Nat → Int32) × (Nat → Int64) × (Nat → Int32) × (Nat → Int64)) => (bX4 cI cJ cC a_T a_n a_k a_t a_s a_r a_c u.1 T_refusals) ++ (bX3 cI cJ cC a_n n_space n_beam n_door n_law n_used n_pipes n_drilled n_total n_open n_pipeInches n_pipeChances n_weights n_woods n_sums) ++ (bX3 cI cJ cC a_k u.2.1 u.2.2.1 u.2.2.2.1 u.2.2.2.2.1 u.2.2.2.2.2.1 u.2.2.2.2.2.2.1 u.2.2.2.2.2.2.2.1 u.2.2.2.2.2.2.2.2.1 u.2.2.2.2.2.2.2.2.2.1 u.2.2.2.2.2.2.2.2.2.2.1 u.2.2.2.2.2.2.2.2.2.2.2.1 u.2.2.2.2.2.2.2.2.2.2.2.2.1 u.2.2.2.2.2.2.2.2.2.2.2.2.2.1 u.2.2.2.2.2.2.2.2.2.2.2.2.2.2)) (plainFor_of_name (by decide)) (Nat.le_of_ble_eq_true rfl) ?_
  intro p e s m below meth c A Q ls S hK hD hA hE hP hl hret
  obtain ⟨hx, hb, hml, hown, ht⟩ := id S
  have hS : va_S A s.heap s.heap [] := va_S.rf
  have hDD : ∀ ws : va_W, ws.map (fun q => q.1) = [a_T 0, a_T 1, a_n 0, a_n 1, a_n 2, a_n 3, a_n 4, a_n 5, a_k 0, a_k 1, a_k 2, a_k 3, a_k 4, a_k 5] → va_D A ws := fun ws hw => zD hD (hw.trans rfl)
  have hl : lv_has ls 1 [(0, .ref (a_T 0))] := hl
  unfold wpX4_image at h
  refine lv_aload_n hx hb dX4_image_0 rfl (lv_at hl 0 rfl) ?_
  refine va_get (D := D) (ci := 4) (v := .ref (a_k 0)) (C := RX4) (T := TX4) (N := 8) hx hb ht inX4 hown hK hP 0 rfl rfl 1 (by decide) (ht _ fl_X4_16) (fun _ h9 => h9) rfl dX4_image_1 ?_
  refine lv_aload_n hx hb dX4_image_4 rfl (lv_at hl 0 rfl) ?_
  refine va_get (D := D) (ci := 4) (v := .ref (a_n 0)) (C := RX4) (T := TX4) (N := 8) hx hb ht inX4 hown hK hP 0 rfl rfl 0 (by decide) (ht _ fl_X4_10) (fun _ h9 => h9) rfl dX4_image_5 ?_
  have hPw : va_P D vwCl ((bX3 cI cJ cC a_k k_space k_beam k_door k_law k_used k_pipes k_drilled k_total k_open k_pipeInches k_pipeChances k_weights k_woods k_sums) ++ (bX3 cI cJ cC a_n n_space n_beam n_door n_law n_used n_pipes n_drilled n_total n_open n_pipeInches n_pipeChances n_weights n_woods n_sums)) _ := hP.sub [8, 9, 10, 11, 12, 13, 2, 3, 4, 5, 6, 7] rfl
  have hDw : va_D A ((bX3 cI cJ cC a_k k_space k_beam k_door k_law k_used k_pipes k_drilled k_total k_open k_pipeInches k_pipeChances k_weights k_woods k_sums) ++ (bX3 cI cJ cC a_n n_space n_beam n_door n_law n_used n_pipes n_drilled n_total n_open n_pipeInches n_pipeChances n_weights n_woods n_sums)) := (hDD _ rfl).sub (ws := (bX4 cI cJ cC a_T a_n a_k a_t a_s a_r a_c T_isKept T_refusals) ++ (bX3 cI cJ cC a_n n_space n_beam n_door n_law n_used n_pipes n_drilled n_total n_open n_pipeInches n_pipeChances n_weights n_woods n_sums) ++ (bX3 cI cJ cC a_k k_space k_beam k_door k_law k_used k_pipes k_drilled k_total k_open k_pipeInches k_pipeChances k_weights k_woods k_sums)) [8, 9, 10, 11, 12, 13, 2, 3, 4, 5, 6, 7] (by decide) rfl
  refine zcv hA hDw hS (zrunV (As := [.ref (a_n 0)]) (rest := []) S hK hA hE hPw hDw hS (mX3_becomeAs l D cI cJ cC G a_k a_n _ k_space k_beam k_door k_law k_used k_pipes k_drilled k_total k_open k_pipeInches k_pipeChances k_weights k_woods k_sums n_space n_beam n_door n_law n_used n_pipes n_drilled n_total n_open n_pipeInches n_pipeChances n_weights n_woods n_sums _ h) kX3_becomeAs ml_X4_70 ⟨rfl, rfl, by decide, by decide⟩ (q0 := 0) (ci := 3) rfl rfl rfl rfl hl.1 rfl (Nat.le_of_ble_eq_true rfl) dX4_image_8 ⟨Nat.zero_le _, Nat.zero_le _⟩) (fun u H locs h hP1 hk1 hS => ?_)
  obtain ⟨k_space_1, k_beam_2, k_door_3, k_law_4, k_used_5, k_pipes_6, k_drilled_7, k_total_8, k_open_9, k_pipeInches_10, k_pipeChances_11, k_weights_12, k_woods_13, k_sums_14⟩ := u
  dsimp only at h
  have hP : va_P D vwCl ((bX4 cI cJ cC a_T a_n a_k a_t a_s a_r a_c T_isKept T_refusals) ++ (bX3 cI cJ cC a_n n_space n_beam n_door n_law n_used n_pipes n_drilled n_total n_open n_pipeInches n_pipeChances n_weights n_woods n_sums) ++ (bX3 cI cJ cC a_k k_space_1 k_beam_2 k_door_3 k_law_4 k_used_5 k_pipes_6 k_drilled_7 k_total_8 k_open_9 k_pipeInches_10 k_pipeChances_11 k_weights_12 k_woods_13 k_sums_14)) H := zMerge hP (hDD _ rfl) [8, 9, 10, 11, 12, 13, 2, 3, 4, 5, 6, 7] rfl rfl hk1 hP1
  refine lv_aload_n hx hb dX4_image_11 rfl (lv_at hl 0 rfl) ?_
  refine lv_iconst (v := (1 : Int32)) hx hb dX4_image_12 (by decide) ?_
  refine va_put (D := D) (ci := 4) (v := .int (1 : Int32)) (ty := .boolean) (C := RX4) (T := TX4) (N := 8) hx hb ht inX4 tyX4 tyX4_ok nmX4 hown hK hP (hDD _ rfl) hS 0 rfl rfl 7 (by decide) (ht _ fl_X4_47) (fun _ h9 => h9) rfl (by decide +kernel) rfl rfl (Nat.le_of_ble_eq_true rfl) dX4_image_13 (fun H locs hP _ hS => ?_)
  have hP : va_P D vwCl ((bX4 cI cJ cC a_T a_n a_k a_t a_s a_r a_c (1 : Int32) T_refusals) ++ (bX3 cI cJ cC a_n n_space n_beam n_door n_law n_used n_pipes n_drilled n_total n_open n_pipeInches n_pipeChances n_weights n_woods n_sums) ++ (bX3 cI cJ cC a_k k_space_1 k_beam_2 k_door_3 k_law_4 k_used_5 k_pipes_6 k_drilled_7 k_total_8 k_open_9 k_pipeInches_10 k_pipeChances_11 k_weights_12 k_woods_13 k_sums_14)) H := hP
  refine lv_aload_n hx hb dX4_image_16 rfl (lv_at hl 0 rfl) ?_
  refine va_get (D := D) (ci := 4) (v := .ref (a_n 0)) (C := RX4) (T := TX4) (N := 8) hx hb ht inX4 hown hK hP 0 rfl rfl 0 (by decide) (ht _ fl_X4_10) (fun _ h9 => h9) rfl dX4_image_17 ?_
  refine va_get (D := D) (ci := 3) (v := .int n_used) (C := RX3) (T := TX3) (N := 14) hx hb ht inX3 hown hK hP 2 rfl rfl 4 (by decide) (ht _ fl_X4_125) (fun _ h9 => h9) rfl dX4_image_20 ?_
  exact hret n_used ((1 : Int32), k_space_1, k_beam_2, k_door_3, k_law_4, k_used_5, k_pipes_6, k_drilled_7, k_total_8, k_open_9, k_pipeInches_10, k_pipeChances_11, k_weights_12, k_woods_13, k_sums_14) _ _ _ _ rfl h hP hS dX4_image_23
def wpX4_on (post : Int32 → (Nat → Int32) → Int32 → Int32 → Int32 → Int32 → Int32 → Int32 → Int64 → Int64 → Int32 → (Nat → Int32) → (Nat → Int32) → (Nat → Int64) → (Nat → Int32) → (Nat → Int64) → Prop) (T_isKept : Int32) (T_refusals : Nat → Int32) (n_space : Int32) (n_beam : Int32) (n_door : Int32) (n_law : Int32) (n_used : Int32) (n_pipes : Int32) (n_drilled : Int64) (n_total : Int64) (n_open : Int32) (n_pipeInches : Nat → Int32) (n_pipeChances : Nat → Int32) (n_weights : Nat → Int64) (n_woods : Nat → Int32) (n_sums : Nat → Int64) (k_space : Int32) (k_beam : Int32) (k_door : Int32) (k_law : Int32) (k_used : Int32) (k_pipes : Int32) (k_drilled : Int64) (k_total : Int64) (k_open : Int32) (k_pipeInches : Nat → Int32) (k_pipeChances : Nat → Int32) (k_weights : Nat → Int64) (k_woods : Nat → Int32) (k_sums : Nat → Int64) : Prop := ((T_isKept = (0 : Int32) → (wpX4_refuse (fun (r_15 : Int32) (T_refusals_16 : Nat → Int32) => post r_15 T_refusals_16 n_space n_beam n_door n_law n_used n_pipes n_drilled n_total n_open n_pipeInches n_pipeChances n_weights n_woods n_sums) T_refusals (-3 : Int32))) ∧ (¬ (T_isKept = (0 : Int32)) → (wpX3_becomeAs (fun (n_space_1 : Int32) (n_beam_2 : Int32) (n_door_3 : Int32) (n_law_4 : Int32) (n_used_5 : Int32) (n_pipes_6 : Int32) (n_drilled_7 : Int64) (n_total_8 : Int64) (n_open_9 : Int32) (n_pipeInches_10 : Nat → Int32) (n_pipeChances_11 : Nat → Int32) (n_weights_12 : Nat → Int64) (n_woods_13 : Nat → Int32) (n_sums_14 : Nat → Int64) => post n_used_5 T_refusals n_space_1 n_beam_2 n_door_3 n_law_4 n_used_5 n_pipes_6 n_drilled_7 n_total_8 n_open_9 n_pipeInches_10 n_pipeChances_11 n_weights_12 n_woods_13 n_sums_14) n_pipeInches n_pipeChances n_weights n_woods n_sums k_space k_beam k_door k_law k_used k_pipes k_drilled k_total k_open k_pipeInches k_pipeChances k_weights k_woods k_sums)))
set_option maxHeartbeats 4000000 in
set_option maxRecDepth 100000 in
theorem mX4_on (l : Launch) (D : va_G) (cI cJ cC : ClassId) (G : Nat → Nat → Nat) (a_T : Nat → Nat) (a_n : Nat → Nat) (a_k : Nat → Nat) (a_t : Nat → Nat) (a_s : Nat → Nat) (a_r : Nat → Nat) (a_c : Nat → Nat) (sz : Nat) (T_isKept : Int32) (T_refusals : Nat → Int32) (n_space : Int32) (n_beam : Int32) (n_door : Int32) (n_law : Int32) (n_used : Int32) (n_pipes : Int32) (n_drilled : Int64) (n_total : Int64) (n_open : Int32) (n_pipeInches : Nat → Int32) (n_pipeChances : Nat → Int32) (n_weights : Nat → Int64) (n_woods : Nat → Int32) (n_sums : Nat → Int64) (k_space : Int32) (k_beam : Int32) (k_door : Int32) (k_law : Int32) (k_used : Int32) (k_pipes : Int32) (k_drilled : Int64) (k_total : Int64) (k_open : Int32) (k_pipeInches : Nat → Int32) (k_pipeChances : Nat → Int32) (k_weights : Nat → Int64) (k_woods : Nat → Int32) (k_sums : Nat → Int64) (post : Int32 → (Nat → Int32) → Int32 → Int32 → Int32 → Int32 → Int32 → Int32 → Int64 → Int64 → Int32 → (Nat → Int32) → (Nat → Int32) → (Nat → Int64) → (Nat → Int32) → (Nat → Int64) → Prop) (h : wpX4_on post T_isKept T_refusals n_space n_beam n_door n_law n_used n_pipes n_drilled n_total n_open n_pipeInches n_pipeChances n_weights n_woods n_sums k_space k_beam k_door k_law k_used k_pipes k_drilled k_total k_open k_pipeInches k_pipeChances k_weights k_woods k_sums) : Met l yX4_on (wz yX4_on cX4_on 1 (some .int)) ({ frames := 2, cells := 0, slots := 0, locals := 81 }) (va_Pc [.ref (a_T 0)] (PW D (tz cI cJ cC) G ((bX4 cI cJ cC a_T a_n a_k a_t a_s a_r a_c T_isKept T_refusals) ++ (bX3 cI cJ cC a_n n_space n_beam n_door n_law n_used n_pipes n_drilled n_total n_open n_pipeInches n_pipeChances n_weights n_woods n_sums) ++ (bX3 cI cJ cC a_k k_space k_beam k_door k_law k_used k_pipes k_drilled k_total k_open k_pipeInches k_pipeChances k_weights k_woods k_sums)) sz)) (va_Qi (fun (r : Int32) (u : (Nat → Int32) × Int32 × Int32 × Int32 × Int32 × Int32 × Int32 × Int64 × Int64 × Int32 × (Nat → Int32) × (Nat → Int32) × (Nat → Int64) × (Nat → Int32) × (Nat → Int64)) => post r u.1 u.2.1 u.2.2.1 u.2.2.2.1 u.2.2.2.2.1 u.2.2.2.2.2.1 u.2.2.2.2.2.2.1 u.2.2.2.2.2.2.2.1 u.2.2.2.2.2.2.2.2.1 u.2.2.2.2.2.2.2.2.2.1 u.2.2.2.2.2.2.2.2.2.2.1 u.2.2.2.2.2.2.2.2.2.2.2.1 u.2.2.2.2.2.2.2.2.2.2.2.2.1 u.2.2.2.2.2.2.2.2.2.2.2.2.2.1 u.2.2.2.2.2.2.2.2.2.2.2.2.2.2) (fun (u : (Nat → Int32) × Int32 × Int32 × Int32 × Int32 × Int32 × Int32 × Int64 × Int64 × Int32 × (Nat → Int32) × (Nat → Int32) × (Nat → Int64) × (Nat → Int32) × (Nat → Int64)) t => va_P D vwCl ((bX4 cI cJ cC a_T a_n a_k a_t a_s a_r a_c T_isKept u.1) ++ (bX3 cI cJ cC a_n u.2.1 u.2.2.1 u.2.2.2.1 u.2.2.2.2.1 u.2.2.2.2.2.1 u.2.2.2.2.2.2.1 u.2.2.2.2.2.2.2.1 u.2.2.2.2.2.2.2.2.1 u.2.2.2.2.2.2.2.2.2.1 u.2.2.2.2.2.2.2.2.2.2.1 u.2.2.2.2.2.2.2.2.2.2.2.1 u.2.2.2.2.2.2.2.2.2.2.2.2.1 u.2.2.2.2.2.2.2.2.2.2.2.2.2.1 u.2.2.2.2.2.2.2.2.2.2.2.2.2.2) ++ (bX3 cI cJ cC a_k k_space k_beam k_door k_law k_used k_pipes k_drilled k_total k_open k_pipeInches k_pipeChances k_weights k_woods k_sums)) t.heap) (va_A ((bX4 cI cJ cC a_T a_n a_k a_t a_s a_r a_c T_isKept T_refusals) ++ (bX3 cI cJ cC a_n n_space n_beam n_door n_law n_used n_pipes n_drilled n_total n_open n_pipeInches n_pipeChances n_weights n_woods n_sums) ++ (bX3 cI cJ cC a_k k_space k_beam k_door k_law k_used k_pipes k_drilled k_total k_open k_pipeInches k_pipeChances k_weights k_woods k_sums)) sz)) 0 0 (va_A ((bX4 cI cJ cC a_T a_n a_k a_t a_s a_r a_c T_isKept T_refusals) ++ (bX3 cI cJ cC a_n n_space n_beam n_door n_law n_used n_pipes n_drilled n_total n_open n_pipeInches n_pipeChances n_weights n_woods n_sums) ++ (bX3 cI cJ cC a_k k_space k_beam k_door k_law k_used k_pipes k_drilled k_total k_open k_pipeInches k_pipeChances k_weights k_woods k_sums)) sz) := by
  refine zmi (gw := fun (u : (Nat → Int32) × Int32 × Int32 × Int32 × Int32 × Int32 × Int32 × Int64 × Int64 × Int32 × (Nat → Int32) × (Nat → Int32) × (Nat → Int64) × (Nat → Int32) × (Nat → Int64)) => (bX4 cI cJ cC a_T a_n a_k a_t a_s a_r a_c T_isKept u.1) ++ (bX3 cI cJ cC a_n u.2.1 u.2.2.1 u.2.2.2.1 u.2.2.2.2.1 u.2.2.2.2.2.1 u.2.2.2.2.2.2.1 u.2.2.2.2.2.2.2.1 u.2.2.2.2.2.2.2.2.1 u.2.2.2.2.2.2.2.2.2.1 u.2.2.2.2.2.2.2.2.2.2.1 u.2.2.2.2.2.2.2.2.2.2.2.1 u.2.2.2.2.2.2.2.2.2.2.2.2.1 u.2.2.2.2.2.2.2.2.2.2.2.2.2.1 u.2.2.2.2.2.2.2.2.2.2.2.2.2.2) ++ (bX3 cI cJ cC a_k k_space k_beam k_door k_law k_used k_pipes k_drilled k_total k_open k_pipeInches k_pipeChances k_weights k_woods k_sums)) (plainFor_of_name (by decide)) (Nat.le_of_ble_eq_true rfl) ?_
  intro p e s m below meth c A Q ls S hK hD hA hE hP hl hret
  obtain ⟨hx, hb, hml, hown, ht⟩ := id S
  have hS : va_S A s.heap s.heap [] := va_S.rf
  have hDD : ∀ ws : va_W, ws.map (fun q => q.1) = [a_T 0, a_T 1, a_n 0, a_n 1, a_n 2, a_n 3, a_n 4, a_n 5, a_k 0, a_k 1, a_k 2, a_k 3, a_k 4, a_k 5] → va_D A ws := fun ws hw => zD hD (hw.trans rfl)
  have hl : lv_has ls 1 [(0, .ref (a_T 0))] := hl
  unfold wpX4_on at h
  refine lv_aload_n hx hb dX4_on_0 rfl (lv_at hl 0 rfl) ?_
  refine va_get (D := D) (ci := 4) (v := .int T_isKept) (C := RX4) (T := TX4) (N := 8) hx hb ht inX4 hown hK hP 0 rfl rfl 7 (by decide) (ht _ fl_X4_47) (fun _ h9 => h9) rfl dX4_on_1 ?_
  refine lv_if_ne (tgt := 14) hx hb dX4_on_4 (by decide) (fun z => ?_) (fun z => ?_)
  · replace h := h.2 z
    refine lv_aload_n hx hb dX4_on_14 rfl (lv_at hl 0 rfl) ?_
    refine va_get (D := D) (ci := 4) (v := .ref (a_n 0)) (C := RX4) (T := TX4) (N := 8) hx hb ht inX4 hown hK hP 0 rfl rfl 0 (by decide) (ht _ fl_X4_10) (fun _ h9 => h9) rfl dX4_on_15 ?_
    refine lv_aload_n hx hb dX4_on_18 rfl (lv_at hl 0 rfl) ?_
    refine va_get (D := D) (ci := 4) (v := .ref (a_k 0)) (C := RX4) (T := TX4) (N := 8) hx hb ht inX4 hown hK hP 0 rfl rfl 1 (by decide) (ht _ fl_X4_16) (fun _ h9 => h9) rfl dX4_on_19 ?_
    have hPw : va_P D vwCl ((bX3 cI cJ cC a_n n_space n_beam n_door n_law n_used n_pipes n_drilled n_total n_open n_pipeInches n_pipeChances n_weights n_woods n_sums) ++ (bX3 cI cJ cC a_k k_space k_beam k_door k_law k_used k_pipes k_drilled k_total k_open k_pipeInches k_pipeChances k_weights k_woods k_sums)) _ := hP.sub [2, 3, 4, 5, 6, 7, 8, 9, 10, 11, 12, 13] rfl
    have hDw : va_D A ((bX3 cI cJ cC a_n n_space n_beam n_door n_law n_used n_pipes n_drilled n_total n_open n_pipeInches n_pipeChances n_weights n_woods n_sums) ++ (bX3 cI cJ cC a_k k_space k_beam k_door k_law k_used k_pipes k_drilled k_total k_open k_pipeInches k_pipeChances k_weights k_woods k_sums)) := (hDD _ rfl).sub (ws := (bX4 cI cJ cC a_T a_n a_k a_t a_s a_r a_c T_isKept T_refusals) ++ (bX3 cI cJ cC a_n n_space n_beam n_door n_law n_used n_pipes n_drilled n_total n_open n_pipeInches n_pipeChances n_weights n_woods n_sums) ++ (bX3 cI cJ cC a_k k_space k_beam k_door k_law k_used k_pipes k_drilled k_total k_open k_pipeInches k_pipeChances k_weights k_woods k_sums)) [2, 3, 4, 5, 6, 7, 8, 9, 10, 11, 12, 13] (by decide) rfl
    refine zcv hA hDw hS (zrunV (As := [.ref (a_k 0)]) (rest := []) S hK hA hE hPw hDw hS (mX3_becomeAs l D cI cJ cC G a_n a_k _ n_space n_beam n_door n_law n_used n_pipes n_drilled n_total n_open n_pipeInches n_pipeChances n_weights n_woods n_sums k_space k_beam k_door k_law k_used k_pipes k_drilled k_total k_open k_pipeInches k_pipeChances k_weights k_woods k_sums _ h) kX3_becomeAs ml_X4_70 ⟨rfl, rfl, by decide, by decide⟩ (q0 := 0) (ci := 3) rfl rfl rfl rfl hl.1 rfl (Nat.le_of_ble_eq_true rfl) dX4_on_22 ⟨Nat.zero_le _, Nat.zero_le _⟩) (fun u H locs h hP1 hk1 hS => ?_)
    obtain ⟨n_space_1, n_beam_2, n_door_3, n_law_4, n_used_5, n_pipes_6, n_drilled_7, n_total_8, n_open_9, n_pipeInches_10, n_pipeChances_11, n_weights_12, n_woods_13, n_sums_14⟩ := u
    dsimp only at h
    have hP : va_P D vwCl ((bX4 cI cJ cC a_T a_n a_k a_t a_s a_r a_c T_isKept T_refusals) ++ (bX3 cI cJ cC a_n n_space_1 n_beam_2 n_door_3 n_law_4 n_used_5 n_pipes_6 n_drilled_7 n_total_8 n_open_9 n_pipeInches_10 n_pipeChances_11 n_weights_12 n_woods_13 n_sums_14) ++ (bX3 cI cJ cC a_k k_space k_beam k_door k_law k_used k_pipes k_drilled k_total k_open k_pipeInches k_pipeChances k_weights k_woods k_sums)) H := zMerge hP (hDD _ rfl) [2, 3, 4, 5, 6, 7, 8, 9, 10, 11, 12, 13] rfl rfl hk1 hP1
    refine lv_aload_n hx hb dX4_on_25 rfl (lv_at hl 0 rfl) ?_
    refine va_get (D := D) (ci := 4) (v := .ref (a_n 0)) (C := RX4) (T := TX4) (N := 8) hx hb ht inX4 hown hK hP 0 rfl rfl 0 (by decide) (ht _ fl_X4_10) (fun _ h9 => h9) rfl dX4_on_26 ?_
    refine va_get (D := D) (ci := 3) (v := .int n_used_5) (C := RX3) (T := TX3) (N := 14) hx hb ht inX3 hown hK hP 2 rfl rfl 4 (by decide) (ht _ fl_X4_125) (fun _ h9 => h9) rfl dX4_on_29 ?_
    exact hret n_used_5 (T_refusals, n_space_1, n_beam_2, n_door_3, n_law_4, n_used_5, n_pipes_6, n_drilled_7, n_total_8, n_open_9, n_pipeInches_10, n_pipeChances_11, n_weights_12, n_woods_13, n_sums_14) _ _ _ _ rfl h hP hS dX4_on_32
  · replace h := h.1 z
    refine lv_aload_n hx hb dX4_on_7 rfl (lv_at hl 0 rfl) ?_
    refine lv_bipush (v := (-3 : Int32)) hx hb dX4_on_8 (by decide) ?_
    have hPw : va_P D vwCl ((bX4 cI cJ cC a_T a_n a_k a_t a_s a_r a_c T_isKept T_refusals)) _ := hP.sub [0, 1] rfl
    have hDw : va_D A ((bX4 cI cJ cC a_T a_n a_k a_t a_s a_r a_c T_isKept T_refusals)) := (hDD _ rfl).sub (ws := (bX4 cI cJ cC a_T a_n a_k a_t a_s a_r a_c T_isKept T_refusals) ++ (bX3 cI cJ cC a_n n_space n_beam n_door n_law n_used n_pipes n_drilled n_total n_open n_pipeInches n_pipeChances n_weights n_woods n_sums) ++ (bX3 cI cJ cC a_k k_space k_beam k_door k_law k_used k_pipes k_drilled k_total k_open k_pipeInches k_pipeChances k_weights k_woods k_sums)) [0, 1] (by decide) rfl
    refine zci hA hDw hS (zrunV (As := [.int (-3 : Int32)]) (rest := []) S hK hA hE hPw hDw hS (mX4_refuse l D cI cJ cC G a_T a_n a_k a_t a_s a_r a_c _ T_isKept T_refusals (-3 : Int32) _ h) kX4_refuse ml_X4_51 ⟨rfl, rfl, by decide, by decide⟩ (q0 := 0) (ci := 4) rfl rfl rfl rfl hl.1 rfl (Nat.le_of_ble_eq_true rfl) dX4_on_10 ⟨Nat.zero_le _, Nat.zero_le _⟩) (fun r_15 T_refusals_16 H locs h hP1 hk1 hS => ?_)
    try dsimp only at h
    have hP : va_P D vwCl ((bX4 cI cJ cC a_T a_n a_k a_t a_s a_r a_c T_isKept T_refusals_16) ++ (bX3 cI cJ cC a_n n_space n_beam n_door n_law n_used n_pipes n_drilled n_total n_open n_pipeInches n_pipeChances n_weights n_woods n_sums) ++ (bX3 cI cJ cC a_k k_space k_beam k_door k_law k_used k_pipes k_drilled k_total k_open k_pipeInches k_pipeChances k_weights k_woods k_sums)) H := zMerge hP (hDD _ rfl) [0, 1] rfl rfl hk1 hP1
    exact hret r_15 (T_refusals_16, n_space, n_beam, n_door, n_law, n_used, n_pipes, n_drilled, n_total, n_open, n_pipeInches, n_pipeChances, n_weights, n_woods, n_sums) _ _ _ _ rfl h hP hS dX4_on_13
def wpX4_count (post : Int32 → Prop) (T_refusals : Nat → Int32) (n_space : Int32) (n_beam : Int32) (n_door : Int32) (n_law : Int32) (n_used : Int32) (n_pipes : Int32) (n_drilled : Int64) (n_open : Int32) (s_length : Int32) (r_length : Int32) (p1 : Int32) : Prop := ((p1 ≤ (10 : Int32) → (((p1 = (0 : Int32) → (wpJ6_bitCount_0f7a4 (fun (r_1 : Int32) => post r_1) n_open)) ∧ (¬ (p1 = (0 : Int32)) → (((p1 = (1 : Int32) → (post n_used)) ∧ (¬ (p1 = (1 : Int32)) → (((p1 = (2 : Int32) → (wpJ13_bitCount_95d88 (fun (r_2 : Int32) => post r_2) n_drilled)) ∧ (¬ (p1 = (2 : Int32)) → (((p1 = (3 : Int32) → (post n_pipes)) ∧ (¬ (p1 = (3 : Int32)) → (((p1 = (4 : Int32) → (post n_space)) ∧ (¬ (p1 = (4 : Int32)) → (((p1 = (5 : Int32) → (post n_beam)) ∧ (¬ (p1 = (5 : Int32)) → (((p1 = (6 : Int32) → (post n_door)) ∧ (¬ (p1 = (6 : Int32)) → (((p1 = (7 : Int32) → (post n_law)) ∧ (¬ (p1 = (7 : Int32)) → (((p1 = (8 : Int32) → (post r_length)) ∧ (¬ (p1 = (8 : Int32)) → (((p1 = (9 : Int32) → (post s_length)) ∧ (¬ (p1 = (9 : Int32)) → (post (-9 : Int32))))))))))))))))))))))))))))))))) ∧ (¬ (p1 ≤ (10 : Int32)) → ((((16 : Int32) < p1 → (((p1 = (0 : Int32) → (wpJ6_bitCount_0f7a4 (fun (r_3 : Int32) => post r_3) n_open)) ∧ (¬ (p1 = (0 : Int32)) → (((p1 = (1 : Int32) → (post n_used)) ∧ (¬ (p1 = (1 : Int32)) → (((p1 = (2 : Int32) → (wpJ13_bitCount_95d88 (fun (r_4 : Int32) => post r_4) n_drilled)) ∧ (¬ (p1 = (2 : Int32)) → (((p1 = (3 : Int32) → (post n_pipes)) ∧ (¬ (p1 = (3 : Int32)) → (((p1 = (4 : Int32) → (post n_space)) ∧ (¬ (p1 = (4 : Int32)) → (((p1 = (5 : Int32) → (post n_beam)) ∧ (¬ (p1 = (5 : Int32)) → (((p1 = (6 : Int32) → (post n_door)) ∧ (¬ (p1 = (6 : Int32)) → (((p1 = (7 : Int32) → (post n_law)) ∧ (¬ (p1 = (7 : Int32)) → (((p1 = (8 : Int32) → (post r_length)) ∧ (¬ (p1 = (8 : Int32)) → (((p1 = (9 : Int32) → (post s_length)) ∧ (¬ (p1 = (9 : Int32)) → (post (-9 : Int32))))))))))))))))))))))))))))))))) ∧ (¬ ((16 : Int32) < p1) → (vp_in (p1 - (10 : Int32)) 7 ∧ (post (T_refusals (p1 - (10 : Int32)).toNatClampNeg))))))))
set_option maxHeartbeats 4000000 in
set_option maxRecDepth 100000 in
theorem mX4_count (l : Launch) (D : va_G) (cI cJ cC : ClassId) (G : Nat → Nat → Nat) (a_T : Nat → Nat) (a_n : Nat → Nat) (a_k : Nat → Nat) (a_t : Nat → Nat) (a_s : Nat → Nat) (a_r : Nat → Nat) (a_c : Nat → Nat) (sz : Nat) (T_isKept : Int32) (T_refusals : Nat → Int32) (n_space : Int32) (n_beam : Int32) (n_door : Int32) (n_law : Int32) (n_used : Int32) (n_pipes : Int32) (n_drilled : Int64) (n_total : Int64) (n_open : Int32) (n_pipeInches : Nat → Int32) (n_pipeChances : Nat → Int32) (n_weights : Nat → Int64) (n_woods : Nat → Int32) (n_sums : Nat → Int64) (s_length : Int32) (s_place : Int32) (s_signs : Nat → Int32) (r_length : Int32) (r_numbers : Nat → Int32) (p1 : Int32) (post : Int32 → Prop) (h : wpX4_count post T_refusals n_space n_beam n_door n_law n_used n_pipes n_drilled n_open s_length r_length p1) : Met l yX4_count (wz yX4_count cX4_count 2 (some .int)) ({ frames := 1, cells := 0, slots := 0, locals := 21 }) (va_Pc [.ref (a_T 0), .int p1] (PW D (tz cI cJ cC) G ((bX4 cI cJ cC a_T a_n a_k a_t a_s a_r a_c T_isKept T_refusals) ++ (bX3 cI cJ cC a_n n_space n_beam n_door n_law n_used n_pipes n_drilled n_total n_open n_pipeInches n_pipeChances n_weights n_woods n_sums) ++ (bX2 cI cJ cC a_s s_length s_place s_signs) ++ (bX0 cI cJ cC a_r r_length r_numbers)) sz)) (va_Qi (fun (r : Int32) (u : Unit) => post r ) (fun (u : Unit) t => va_P D vwCl ((bX4 cI cJ cC a_T a_n a_k a_t a_s a_r a_c T_isKept T_refusals) ++ (bX3 cI cJ cC a_n n_space n_beam n_door n_law n_used n_pipes n_drilled n_total n_open n_pipeInches n_pipeChances n_weights n_woods n_sums) ++ (bX2 cI cJ cC a_s s_length s_place s_signs) ++ (bX0 cI cJ cC a_r r_length r_numbers)) t.heap) (va_A ((bX4 cI cJ cC a_T a_n a_k a_t a_s a_r a_c T_isKept T_refusals) ++ (bX3 cI cJ cC a_n n_space n_beam n_door n_law n_used n_pipes n_drilled n_total n_open n_pipeInches n_pipeChances n_weights n_woods n_sums) ++ (bX2 cI cJ cC a_s s_length s_place s_signs) ++ (bX0 cI cJ cC a_r r_length r_numbers)) sz)) 0 0 (va_A ((bX4 cI cJ cC a_T a_n a_k a_t a_s a_r a_c T_isKept T_refusals) ++ (bX3 cI cJ cC a_n n_space n_beam n_door n_law n_used n_pipes n_drilled n_total n_open n_pipeInches n_pipeChances n_weights n_woods n_sums) ++ (bX2 cI cJ cC a_s s_length s_place s_signs) ++ (bX0 cI cJ cC a_r r_length r_numbers)) sz) := by
  refine zmi (gw := fun (u : Unit) => (bX4 cI cJ cC a_T a_n a_k a_t a_s a_r a_c T_isKept T_refusals) ++ (bX3 cI cJ cC a_n n_space n_beam n_door n_law n_used n_pipes n_drilled n_total n_open n_pipeInches n_pipeChances n_weights n_woods n_sums) ++ (bX2 cI cJ cC a_s s_length s_place s_signs) ++ (bX0 cI cJ cC a_r r_length r_numbers)) (plainFor_of_name (by decide)) (Nat.le_of_ble_eq_true rfl) ?_
  intro p e s m below meth c A Q ls S hK hD hA hE hP hl hret
  obtain ⟨hx, hb, hml, hown, ht⟩ := id S
  have hS : va_S A s.heap s.heap [] := va_S.rf
  have hDD : ∀ ws : va_W, ws.map (fun q => q.1) = [a_T 0, a_T 1, a_n 0, a_n 1, a_n 2, a_n 3, a_n 4, a_n 5, a_s 0, a_s 1, a_r 0, a_r 1] → va_D A ws := fun ws hw => zD hD (hw.trans rfl)
  have hl : lv_has ls 2 [(0, .ref (a_T 0)), (1, .int p1)] := hl
  unfold wpX4_count at h
  refine lv_iload_n hx hb dX4_count_0 rfl (lv_at hl 1 rfl) ?_
  refine lv_bipush (v := (10 : Int32)) hx hb dX4_count_1 (by decide) ?_
  refine lv_icmp_le (tgt := 22) hx hb dX4_count_3 (by decide) (fun z => ?_) (fun z => ?_)
  · replace h := h.1 z
    refine lv_iload_n hx hb dX4_count_22 rfl (lv_at hl 1 rfl) ?_
    by_cases z0 : p1 = (0 : Int32)
    · replace h := h.1 z0
      refine lv_tableIn (off := 53) (tgt := 76) hx hb dX4_count_23 (by rw [z0]; decide) (by rw [z0]; decide) (by rw [z0]; rfl) (by decide) ?_
      refine lv_aload_n hx hb dX4_count_76 rfl (lv_at hl 0 rfl) ?_
      refine va_get (D := D) (ci := 4) (v := .ref (a_n 0)) (C := RX4) (T := TX4) (N := 8) hx hb ht inX4 hown hK hP 0 rfl rfl 0 (by decide) (ht _ fl_X4_10) (fun _ h9 => h9) rfl dX4_count_77 ?_
      refine va_get (D := D) (ci := 3) (v := .int n_open) (C := RX3) (T := TX3) (N := 14) hx hb ht inX3 hown hK hP 2 rfl rfl 13 (by decide) (ht _ fl_X4_140) (fun _ h9 => h9) rfl dX4_count_80 ?_
      refine zci hA zD0 hS (zrunS (As := [.int n_open]) (rest := []) S hK hA hE zP0 zD0 hS (mJ6_bitCount_0f7a4 l D cI cJ cC G _ n_open _ h) kJ6_bitCount_0f7a4 ml_X4_143 ⟨rfl, rfl, by decide, by decide⟩ rfl hl.1 rfl (Nat.le_of_ble_eq_true rfl) dX4_count_83 ⟨Nat.zero_le _, Nat.zero_le _⟩) (fun r_1 u H locs h hP1 hk1 hS => ?_)
      try dsimp only at h
      have hP : va_P D vwCl ((bX4 cI cJ cC a_T a_n a_k a_t a_s a_r a_c T_isKept T_refusals) ++ (bX3 cI cJ cC a_n n_space n_beam n_door n_law n_used n_pipes n_drilled n_total n_open n_pipeInches n_pipeChances n_weights n_woods n_sums) ++ (bX2 cI cJ cC a_s s_length s_place s_signs) ++ (bX0 cI cJ cC a_r r_length r_numbers)) H := zKeep hP hk1
      exact hret r_1 () _ _ _ _ rfl h hP hS dX4_count_86
    · replace h := h.2 z0
      by_cases z1 : p1 = (1 : Int32)
      · replace h := h.1 z1
        refine lv_tableIn (off := 64) (tgt := 87) hx hb dX4_count_23 (by rw [z1]; decide) (by rw [z1]; decide) (by rw [z1]; rfl) (by decide) ?_
        refine lv_aload_n hx hb dX4_count_87 rfl (lv_at hl 0 rfl) ?_
        refine va_get (D := D) (ci := 4) (v := .ref (a_n 0)) (C := RX4) (T := TX4) (N := 8) hx hb ht inX4 hown hK hP 0 rfl rfl 0 (by decide) (ht _ fl_X4_10) (fun _ h9 => h9) rfl dX4_count_88 ?_
        refine va_get (D := D) (ci := 3) (v := .int n_used) (C := RX3) (T := TX3) (N := 14) hx hb ht inX3 hown hK hP 2 rfl rfl 4 (by decide) (ht _ fl_X4_125) (fun _ h9 => h9) rfl dX4_count_91 ?_
        exact hret n_used () _ _ _ _ rfl h hP hS dX4_count_94
      · replace h := h.2 z1
        by_cases z2 : p1 = (2 : Int32)
        · replace h := h.1 z2
          refine lv_tableIn (off := 72) (tgt := 95) hx hb dX4_count_23 (by rw [z2]; decide) (by rw [z2]; decide) (by rw [z2]; rfl) (by decide) ?_
          refine lv_aload_n hx hb dX4_count_95 rfl (lv_at hl 0 rfl) ?_
          refine va_get (D := D) (ci := 4) (v := .ref (a_n 0)) (C := RX4) (T := TX4) (N := 8) hx hb ht inX4 hown hK hP 0 rfl rfl 0 (by decide) (ht _ fl_X4_10) (fun _ h9 => h9) rfl dX4_count_96 ?_
          refine va_get (D := D) (ci := 3) (v := .long n_drilled) (C := RX3) (T := TX3) (N := 14) hx hb ht inX3 hown hK hP 2 rfl rfl 6 (by decide) (ht _ fl_X4_164) (fun _ h9 => h9) rfl dX4_count_99 ?_
          refine zci hA zD0 hS (zrunS (As := [.long n_drilled]) (rest := []) S hK hA hE zP0 zD0 hS (mJ13_bitCount_95d88 l D cI cJ cC G _ n_drilled _ h) kJ13_bitCount_95d88 ml_X4_168 ⟨rfl, rfl, by decide, by decide⟩ rfl hl.1 rfl (Nat.le_of_ble_eq_true rfl) dX4_count_102 ⟨Nat.zero_le _, Nat.zero_le _⟩) (fun r_2 u H locs h hP1 hk1 hS => ?_)
          try dsimp only at h
          have hP : va_P D vwCl ((bX4 cI cJ cC a_T a_n a_k a_t a_s a_r a_c T_isKept T_refusals) ++ (bX3 cI cJ cC a_n n_space n_beam n_door n_law n_used n_pipes n_drilled n_total n_open n_pipeInches n_pipeChances n_weights n_woods n_sums) ++ (bX2 cI cJ cC a_s s_length s_place s_signs) ++ (bX0 cI cJ cC a_r r_length r_numbers)) H := zKeep hP hk1
          exact hret r_2 () _ _ _ _ rfl h hP hS dX4_count_105
        · replace h := h.2 z2
          by_cases z3 : p1 = (3 : Int32)
          · replace h := h.1 z3
            refine lv_tableIn (off := 83) (tgt := 106) hx hb dX4_count_23 (by rw [z3]; decide) (by rw [z3]; decide) (by rw [z3]; rfl) (by decide) ?_
            refine lv_aload_n hx hb dX4_count_106 rfl (lv_at hl 0 rfl) ?_
            refine va_get (D := D) (ci := 4) (v := .ref (a_n 0)) (C := RX4) (T := TX4) (N := 8) hx hb ht inX4 hown hK hP 0 rfl rfl 0 (by decide) (ht _ fl_X4_10) (fun _ h9 => h9) rfl dX4_count_107 ?_
            refine va_get (D := D) (ci := 3) (v := .int n_pipes) (C := RX3) (T := TX3) (N := 14) hx hb ht inX3 hown hK hP 2 rfl rfl 5 (by decide) (ht _ fl_X4_154) (fun _ h9 => h9) rfl dX4_count_110 ?_
            exact hret n_pipes () _ _ _ _ rfl h hP hS dX4_count_113
          · replace h := h.2 z3
            by_cases z4 : p1 = (4 : Int32)
            · replace h := h.1 z4
              refine lv_tableIn (off := 91) (tgt := 114) hx hb dX4_count_23 (by rw [z4]; decide) (by rw [z4]; decide) (by rw [z4]; rfl) (by decide) ?_
              refine lv_aload_n hx hb dX4_count_114 rfl (lv_at hl 0 rfl) ?_
              refine va_get (D := D) (ci := 4) (v := .ref (a_n 0)) (C := RX4) (T := TX4) (N := 8) hx hb ht inX4 hown hK hP 0 rfl rfl 0 (by decide) (ht _ fl_X4_10) (fun _ h9 => h9) rfl dX4_count_115 ?_
              refine va_get (D := D) (ci := 3) (v := .int n_space) (C := RX3) (T := TX3) (N := 14) hx hb ht inX3 hown hK hP 2 rfl rfl 0 (by decide) (ht _ fl_X4_249) (fun _ h9 => h9) rfl dX4_count_118 ?_
              exact hret n_space () _ _ _ _ rfl h hP hS dX4_count_121
            · replace h := h.2 z4
              by_cases z5 : p1 = (5 : Int32)
              · replace h := h.1 z5
                refine lv_tableIn (off := 99) (tgt := 122) hx hb dX4_count_23 (by rw [z5]; decide) (by rw [z5]; decide) (by rw [z5]; rfl) (by decide) ?_
                refine lv_aload_n hx hb dX4_count_122 rfl (lv_at hl 0 rfl) ?_
                refine va_get (D := D) (ci := 4) (v := .ref (a_n 0)) (C := RX4) (T := TX4) (N := 8) hx hb ht inX4 hown hK hP 0 rfl rfl 0 (by decide) (ht _ fl_X4_10) (fun _ h9 => h9) rfl dX4_count_123 ?_
                refine va_get (D := D) (ci := 3) (v := .int n_beam) (C := RX3) (T := TX3) (N := 14) hx hb ht inX3 hown hK hP 2 rfl rfl 1 (by decide) (ht _ fl_X4_258) (fun _ h9 => h9) rfl dX4_count_126 ?_
                exact hret n_beam () _ _ _ _ rfl h hP hS dX4_count_129
              · replace h := h.2 z5
                by_cases z6 : p1 = (6 : Int32)
                · replace h := h.1 z6
                  refine lv_tableIn (off := 107) (tgt := 130) hx hb dX4_count_23 (by rw [z6]; decide) (by rw [z6]; decide) (by rw [z6]; rfl) (by decide) ?_
                  refine lv_aload_n hx hb dX4_count_130 rfl (lv_at hl 0 rfl) ?_
                  refine va_get (D := D) (ci := 4) (v := .ref (a_n 0)) (C := RX4) (T := TX4) (N := 8) hx hb ht inX4 hown hK hP 0 rfl rfl 0 (by decide) (ht _ fl_X4_10) (fun _ h9 => h9) rfl dX4_count_131 ?_
                  refine va_get (D := D) (ci := 3) (v := .int n_door) (C := RX3) (T := TX3) (N := 14) hx hb ht inX3 hown hK hP 2 rfl rfl 2 (by decide) (ht _ fl_X4_261) (fun _ h9 => h9) rfl dX4_count_134 ?_
                  exact hret n_door () _ _ _ _ rfl h hP hS dX4_count_137
                · replace h := h.2 z6
                  by_cases z7 : p1 = (7 : Int32)
                  · replace h := h.1 z7
                    refine lv_tableIn (off := 115) (tgt := 138) hx hb dX4_count_23 (by rw [z7]; decide) (by rw [z7]; decide) (by rw [z7]; rfl) (by decide) ?_
                    refine lv_aload_n hx hb dX4_count_138 rfl (lv_at hl 0 rfl) ?_
                    refine va_get (D := D) (ci := 4) (v := .ref (a_n 0)) (C := RX4) (T := TX4) (N := 8) hx hb ht inX4 hown hK hP 0 rfl rfl 0 (by decide) (ht _ fl_X4_10) (fun _ h9 => h9) rfl dX4_count_139 ?_
                    refine va_get (D := D) (ci := 3) (v := .int n_law) (C := RX3) (T := TX3) (N := 14) hx hb ht inX3 hown hK hP 2 rfl rfl 3 (by decide) (ht _ fl_X4_264) (fun _ h9 => h9) rfl dX4_count_142 ?_
                    exact hret n_law () _ _ _ _ rfl h hP hS dX4_count_145
                  · replace h := h.2 z7
                    by_cases z8 : p1 = (8 : Int32)
                    · replace h := h.1 z8
                      refine lv_tableIn (off := 123) (tgt := 146) hx hb dX4_count_23 (by rw [z8]; decide) (by rw [z8]; decide) (by rw [z8]; rfl) (by decide) ?_
                      refine lv_aload_n hx hb dX4_count_146 rfl (lv_at hl 0 rfl) ?_
                      refine va_get (D := D) (ci := 4) (v := .ref (a_r 0)) (C := RX4) (T := TX4) (N := 8) hx hb ht inX4 hown hK hP 0 rfl rfl 4 (by decide) (ht _ fl_X4_32) (fun _ h9 => h9) rfl dX4_count_147 ?_
                      refine va_get (D := D) (ci := 0) (v := .int r_length) (C := RX0) (T := TX0) (N := 2) hx hb ht inX0 hown hK hP 10 rfl rfl 1 (by decide) (ht _ fl_X4_230) (fun _ h9 => h9) rfl dX4_count_150 ?_
                      exact hret r_length () _ _ _ _ rfl h hP hS dX4_count_153
                    · replace h := h.2 z8
                      by_cases z9 : p1 = (9 : Int32)
                      · replace h := h.1 z9
                        refine lv_tableIn (off := 131) (tgt := 154) hx hb dX4_count_23 (by rw [z9]; decide) (by rw [z9]; decide) (by rw [z9]; rfl) (by decide) ?_
                        refine lv_aload_n hx hb dX4_count_154 rfl (lv_at hl 0 rfl) ?_
                        refine va_get (D := D) (ci := 4) (v := .ref (a_s 0)) (C := RX4) (T := TX4) (N := 8) hx hb ht inX4 hown hK hP 0 rfl rfl 3 (by decide) (ht _ fl_X4_25) (fun _ h9 => h9) rfl dX4_count_155 ?_
                        refine va_get (D := D) (ci := 2) (v := .int s_length) (C := RX2) (T := TX2) (N := 3) hx hb ht inX2 hown hK hP 8 rfl rfl 1 (by decide) (ht _ fl_X4_55) (fun _ h9 => h9) rfl dX4_count_158 ?_
                        exact hret s_length () _ _ _ _ rfl h hP hS dX4_count_161
                      · replace h := h.2 z9
                        refine lv_tableOut (tgt := 162) hx hb dX4_count_23 (by have n0 := lv_neT z0 (a := 0) (by decide); have n1 := lv_neT z1 (a := 1) (by decide); have n2 := lv_neT z2 (a := 2) (by decide); have n3 := lv_neT z3 (a := 3) (by decide); have n4 := lv_neT z4 (a := 4) (by decide); have n5 := lv_neT z5 (a := 5) (by decide); have n6 := lv_neT z6 (a := 6) (by decide); have n7 := lv_neT z7 (a := 7) (by decide); have n8 := lv_neT z8 (a := 8) (by decide); have n9 := lv_neT z9 (a := 9) (by decide); omega) (by decide) ?_
                        refine lv_bipush (v := (-9 : Int32)) hx hb dX4_count_162 (by decide) ?_
                        exact hret (-9 : Int32) () _ _ _ _ rfl h hP hS dX4_count_164
  · replace h := h.2 z
    refine lv_iload_n hx hb dX4_count_6 rfl (lv_at hl 1 rfl) ?_
    refine lv_bipush (v := (16 : Int32)) hx hb dX4_count_7 (by decide) ?_
    refine lv_icmp_gt (tgt := 22) hx hb dX4_count_9 (by decide) (fun z => ?_) (fun z => ?_)
    · replace h := h.1 z
      refine lv_iload_n hx hb dX4_count_22 rfl (lv_at hl 1 rfl) ?_
      by_cases z0 : p1 = (0 : Int32)
      · replace h := h.1 z0
        refine lv_tableIn (off := 53) (tgt := 76) hx hb dX4_count_23 (by rw [z0]; decide) (by rw [z0]; decide) (by rw [z0]; rfl) (by decide) ?_
        refine lv_aload_n hx hb dX4_count_76 rfl (lv_at hl 0 rfl) ?_
        refine va_get (D := D) (ci := 4) (v := .ref (a_n 0)) (C := RX4) (T := TX4) (N := 8) hx hb ht inX4 hown hK hP 0 rfl rfl 0 (by decide) (ht _ fl_X4_10) (fun _ h9 => h9) rfl dX4_count_77 ?_
        refine va_get (D := D) (ci := 3) (v := .int n_open) (C := RX3) (T := TX3) (N := 14) hx hb ht inX3 hown hK hP 2 rfl rfl 13 (by decide) (ht _ fl_X4_140) (fun _ h9 => h9) rfl dX4_count_80 ?_
        refine zci hA zD0 hS (zrunS (As := [.int n_open]) (rest := []) S hK hA hE zP0 zD0 hS (mJ6_bitCount_0f7a4 l D cI cJ cC G _ n_open _ h) kJ6_bitCount_0f7a4 ml_X4_143 ⟨rfl, rfl, by decide, by decide⟩ rfl hl.1 rfl (Nat.le_of_ble_eq_true rfl) dX4_count_83 ⟨Nat.zero_le _, Nat.zero_le _⟩) (fun r_3 u H locs h hP1 hk1 hS => ?_)
        try dsimp only at h
        have hP : va_P D vwCl ((bX4 cI cJ cC a_T a_n a_k a_t a_s a_r a_c T_isKept T_refusals) ++ (bX3 cI cJ cC a_n n_space n_beam n_door n_law n_used n_pipes n_drilled n_total n_open n_pipeInches n_pipeChances n_weights n_woods n_sums) ++ (bX2 cI cJ cC a_s s_length s_place s_signs) ++ (bX0 cI cJ cC a_r r_length r_numbers)) H := zKeep hP hk1
        exact hret r_3 () _ _ _ _ rfl h hP hS dX4_count_86
      · replace h := h.2 z0
        by_cases z1 : p1 = (1 : Int32)
        · replace h := h.1 z1
          refine lv_tableIn (off := 64) (tgt := 87) hx hb dX4_count_23 (by rw [z1]; decide) (by rw [z1]; decide) (by rw [z1]; rfl) (by decide) ?_
          refine lv_aload_n hx hb dX4_count_87 rfl (lv_at hl 0 rfl) ?_
          refine va_get (D := D) (ci := 4) (v := .ref (a_n 0)) (C := RX4) (T := TX4) (N := 8) hx hb ht inX4 hown hK hP 0 rfl rfl 0 (by decide) (ht _ fl_X4_10) (fun _ h9 => h9) rfl dX4_count_88 ?_
          refine va_get (D := D) (ci := 3) (v := .int n_used) (C := RX3) (T := TX3) (N := 14) hx hb ht inX3 hown hK hP 2 rfl rfl 4 (by decide) (ht _ fl_X4_125) (fun _ h9 => h9) rfl dX4_count_91 ?_
          exact hret n_used () _ _ _ _ rfl h hP hS dX4_count_94
        · replace h := h.2 z1
          by_cases z2 : p1 = (2 : Int32)
          · replace h := h.1 z2
            refine lv_tableIn (off := 72) (tgt := 95) hx hb dX4_count_23 (by rw [z2]; decide) (by rw [z2]; decide) (by rw [z2]; rfl) (by decide) ?_
            refine lv_aload_n hx hb dX4_count_95 rfl (lv_at hl 0 rfl) ?_
            refine va_get (D := D) (ci := 4) (v := .ref (a_n 0)) (C := RX4) (T := TX4) (N := 8) hx hb ht inX4 hown hK hP 0 rfl rfl 0 (by decide) (ht _ fl_X4_10) (fun _ h9 => h9) rfl dX4_count_96 ?_
            refine va_get (D := D) (ci := 3) (v := .long n_drilled) (C := RX3) (T := TX3) (N := 14) hx hb ht inX3 hown hK hP 2 rfl rfl 6 (by decide) (ht _ fl_X4_164) (fun _ h9 => h9) rfl dX4_count_99 ?_
            refine zci hA zD0 hS (zrunS (As := [.long n_drilled]) (rest := []) S hK hA hE zP0 zD0 hS (mJ13_bitCount_95d88 l D cI cJ cC G _ n_drilled _ h) kJ13_bitCount_95d88 ml_X4_168 ⟨rfl, rfl, by decide, by decide⟩ rfl hl.1 rfl (Nat.le_of_ble_eq_true rfl) dX4_count_102 ⟨Nat.zero_le _, Nat.zero_le _⟩) (fun r_4 u H locs h hP1 hk1 hS => ?_)
            try dsimp only at h
            have hP : va_P D vwCl ((bX4 cI cJ cC a_T a_n a_k a_t a_s a_r a_c T_isKept T_refusals) ++ (bX3 cI cJ cC a_n n_space n_beam n_door n_law n_used n_pipes n_drilled n_total n_open n_pipeInches n_pipeChances n_weights n_woods n_sums) ++ (bX2 cI cJ cC a_s s_length s_place s_signs) ++ (bX0 cI cJ cC a_r r_length r_numbers)) H := zKeep hP hk1
            exact hret r_4 () _ _ _ _ rfl h hP hS dX4_count_105
          · replace h := h.2 z2
            by_cases z3 : p1 = (3 : Int32)
            · replace h := h.1 z3
              refine lv_tableIn (off := 83) (tgt := 106) hx hb dX4_count_23 (by rw [z3]; decide) (by rw [z3]; decide) (by rw [z3]; rfl) (by decide) ?_
              refine lv_aload_n hx hb dX4_count_106 rfl (lv_at hl 0 rfl) ?_
              refine va_get (D := D) (ci := 4) (v := .ref (a_n 0)) (C := RX4) (T := TX4) (N := 8) hx hb ht inX4 hown hK hP 0 rfl rfl 0 (by decide) (ht _ fl_X4_10) (fun _ h9 => h9) rfl dX4_count_107 ?_
              refine va_get (D := D) (ci := 3) (v := .int n_pipes) (C := RX3) (T := TX3) (N := 14) hx hb ht inX3 hown hK hP 2 rfl rfl 5 (by decide) (ht _ fl_X4_154) (fun _ h9 => h9) rfl dX4_count_110 ?_
              exact hret n_pipes () _ _ _ _ rfl h hP hS dX4_count_113
            · replace h := h.2 z3
              by_cases z4 : p1 = (4 : Int32)
              · replace h := h.1 z4
                refine lv_tableIn (off := 91) (tgt := 114) hx hb dX4_count_23 (by rw [z4]; decide) (by rw [z4]; decide) (by rw [z4]; rfl) (by decide) ?_
                refine lv_aload_n hx hb dX4_count_114 rfl (lv_at hl 0 rfl) ?_
                refine va_get (D := D) (ci := 4) (v := .ref (a_n 0)) (C := RX4) (T := TX4) (N := 8) hx hb ht inX4 hown hK hP 0 rfl rfl 0 (by decide) (ht _ fl_X4_10) (fun _ h9 => h9) rfl dX4_count_115 ?_
                refine va_get (D := D) (ci := 3) (v := .int n_space) (C := RX3) (T := TX3) (N := 14) hx hb ht inX3 hown hK hP 2 rfl rfl 0 (by decide) (ht _ fl_X4_249) (fun _ h9 => h9) rfl dX4_count_118 ?_
                exact hret n_space () _ _ _ _ rfl h hP hS dX4_count_121
              · replace h := h.2 z4
                by_cases z5 : p1 = (5 : Int32)
                · replace h := h.1 z5
                  refine lv_tableIn (off := 99) (tgt := 122) hx hb dX4_count_23 (by rw [z5]; decide) (by rw [z5]; decide) (by rw [z5]; rfl) (by decide) ?_
                  refine lv_aload_n hx hb dX4_count_122 rfl (lv_at hl 0 rfl) ?_
                  refine va_get (D := D) (ci := 4) (v := .ref (a_n 0)) (C := RX4) (T := TX4) (N := 8) hx hb ht inX4 hown hK hP 0 rfl rfl 0 (by decide) (ht _ fl_X4_10) (fun _ h9 => h9) rfl dX4_count_123 ?_
                  refine va_get (D := D) (ci := 3) (v := .int n_beam) (C := RX3) (T := TX3) (N := 14) hx hb ht inX3 hown hK hP 2 rfl rfl 1 (by decide) (ht _ fl_X4_258) (fun _ h9 => h9) rfl dX4_count_126 ?_
                  exact hret n_beam () _ _ _ _ rfl h hP hS dX4_count_129
                · replace h := h.2 z5
                  by_cases z6 : p1 = (6 : Int32)
                  · replace h := h.1 z6
                    refine lv_tableIn (off := 107) (tgt := 130) hx hb dX4_count_23 (by rw [z6]; decide) (by rw [z6]; decide) (by rw [z6]; rfl) (by decide) ?_
                    refine lv_aload_n hx hb dX4_count_130 rfl (lv_at hl 0 rfl) ?_
                    refine va_get (D := D) (ci := 4) (v := .ref (a_n 0)) (C := RX4) (T := TX4) (N := 8) hx hb ht inX4 hown hK hP 0 rfl rfl 0 (by decide) (ht _ fl_X4_10) (fun _ h9 => h9) rfl dX4_count_131 ?_
                    refine va_get (D := D) (ci := 3) (v := .int n_door) (C := RX3) (T := TX3) (N := 14) hx hb ht inX3 hown hK hP 2 rfl rfl 2 (by decide) (ht _ fl_X4_261) (fun _ h9 => h9) rfl dX4_count_134 ?_
                    exact hret n_door () _ _ _ _ rfl h hP hS dX4_count_137
                  · replace h := h.2 z6
                    by_cases z7 : p1 = (7 : Int32)
                    · replace h := h.1 z7
                      refine lv_tableIn (off := 115) (tgt := 138) hx hb dX4_count_23 (by rw [z7]; decide) (by rw [z7]; decide) (by rw [z7]; rfl) (by decide) ?_
                      refine lv_aload_n hx hb dX4_count_138 rfl (lv_at hl 0 rfl) ?_
                      refine va_get (D := D) (ci := 4) (v := .ref (a_n 0)) (C := RX4) (T := TX4) (N := 8) hx hb ht inX4 hown hK hP 0 rfl rfl 0 (by decide) (ht _ fl_X4_10) (fun _ h9 => h9) rfl dX4_count_139 ?_
                      refine va_get (D := D) (ci := 3) (v := .int n_law) (C := RX3) (T := TX3) (N := 14) hx hb ht inX3 hown hK hP 2 rfl rfl 3 (by decide) (ht _ fl_X4_264) (fun _ h9 => h9) rfl dX4_count_142 ?_
                      exact hret n_law () _ _ _ _ rfl h hP hS dX4_count_145
                    · replace h := h.2 z7
                      by_cases z8 : p1 = (8 : Int32)
                      · replace h := h.1 z8
                        refine lv_tableIn (off := 123) (tgt := 146) hx hb dX4_count_23 (by rw [z8]; decide) (by rw [z8]; decide) (by rw [z8]; rfl) (by decide) ?_
                        refine lv_aload_n hx hb dX4_count_146 rfl (lv_at hl 0 rfl) ?_
                        refine va_get (D := D) (ci := 4) (v := .ref (a_r 0)) (C := RX4) (T := TX4) (N := 8) hx hb ht inX4 hown hK hP 0 rfl rfl 4 (by decide) (ht _ fl_X4_32) (fun _ h9 => h9) rfl dX4_count_147 ?_
                        refine va_get (D := D) (ci := 0) (v := .int r_length) (C := RX0) (T := TX0) (N := 2) hx hb ht inX0 hown hK hP 10 rfl rfl 1 (by decide) (ht _ fl_X4_230) (fun _ h9 => h9) rfl dX4_count_150 ?_
                        exact hret r_length () _ _ _ _ rfl h hP hS dX4_count_153
                      · replace h := h.2 z8
                        by_cases z9 : p1 = (9 : Int32)
                        · replace h := h.1 z9
                          refine lv_tableIn (off := 131) (tgt := 154) hx hb dX4_count_23 (by rw [z9]; decide) (by rw [z9]; decide) (by rw [z9]; rfl) (by decide) ?_
                          refine lv_aload_n hx hb dX4_count_154 rfl (lv_at hl 0 rfl) ?_
                          refine va_get (D := D) (ci := 4) (v := .ref (a_s 0)) (C := RX4) (T := TX4) (N := 8) hx hb ht inX4 hown hK hP 0 rfl rfl 3 (by decide) (ht _ fl_X4_25) (fun _ h9 => h9) rfl dX4_count_155 ?_
                          refine va_get (D := D) (ci := 2) (v := .int s_length) (C := RX2) (T := TX2) (N := 3) hx hb ht inX2 hown hK hP 8 rfl rfl 1 (by decide) (ht _ fl_X4_55) (fun _ h9 => h9) rfl dX4_count_158 ?_
                          exact hret s_length () _ _ _ _ rfl h hP hS dX4_count_161
                        · replace h := h.2 z9
                          refine lv_tableOut (tgt := 162) hx hb dX4_count_23 (by have n0 := lv_neT z0 (a := 0) (by decide); have n1 := lv_neT z1 (a := 1) (by decide); have n2 := lv_neT z2 (a := 2) (by decide); have n3 := lv_neT z3 (a := 3) (by decide); have n4 := lv_neT z4 (a := 4) (by decide); have n5 := lv_neT z5 (a := 5) (by decide); have n6 := lv_neT z6 (a := 6) (by decide); have n7 := lv_neT z7 (a := 7) (by decide); have n8 := lv_neT z8 (a := 8) (by decide); have n9 := lv_neT z9 (a := 9) (by decide); omega) (by decide) ?_
                          refine lv_bipush (v := (-9 : Int32)) hx hb dX4_count_162 (by decide) ?_
                          exact hret (-9 : Int32) () _ _ _ _ rfl h hP hS dX4_count_164
    · replace h := h.2 z
      refine lv_aload_n hx hb dX4_count_12 rfl (lv_at hl 0 rfl) ?_
      refine va_get (D := D) (ci := 4) (v := .ref (a_T 1)) (C := RX4) (T := TX4) (N := 8) hx hb ht inX4 hown hK hP 0 rfl rfl 6 (by decide) (ht _ fl_X4_43) (fun _ h9 => h9) rfl dX4_count_13 ?_
      refine lv_iload_n hx hb dX4_count_16 rfl (lv_at hl 1 rfl) ?_
      refine lv_bipush (v := (10 : Int32)) hx hb dX4_count_17 (by decide) ?_
      refine lv_isub hx hb dX4_count_19 ?_
      obtain ⟨hin, h⟩ := h
      refine va_iald hx hb hK hP 1 0 rfl rfl hin dX4_count_20 ?_
      exact hret (T_refusals (p1 - (10 : Int32)).toNatClampNeg) () _ _ _ _ rfl h hP hS dX4_count_21
