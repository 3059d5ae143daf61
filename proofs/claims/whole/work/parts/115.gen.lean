def wpX4_on (post : Int32 → (Nat → Int32) → Int32 → Int32 → Int32 → Int32 → Int32 → Int32 → Int64 → Int64 → Int32 → (Nat → Int32) → (Nat → Int32) → (Nat → Int64) → (Nat → Int32) → (Nat → Int64) → Prop) (T_isKept : Int32) (T_refusals : Nat → Int32) (n_space : Int32) (n_beam : Int32) (n_door : Int32) (n_law : Int32) (n_used : Int32) (n_pipes : Int32) (n_drilled : Int64) (n_total : Int64) (n_open : Int32) (n_pipeInches : Nat → Int32) (n_pipeChances : Nat → Int32) (n_weights : Nat → Int64) (n_woods : Nat → Int32) (n_sums : Nat → Int64) (k_space : Int32) (k_beam : Int32) (k_door : Int32) (k_law : Int32) (k_used : Int32) (k_pipes : Int32) (k_drilled : Int64) (k_total : Int64) (k_open : Int32) (k_pipeInches : Nat → Int32) (k_pipeChances : Nat → Int32) (k_weights : Nat → Int64) (k_woods : Nat → Int32) (k_sums : Nat → Int64) : Prop := ((T_isKept = (0 : Int32) → (wpX4_refuse (fun (r_15 : Int32) (T_refusals_16 : Nat → Int32) => post r_15 T_refusals_16 n_space n_beam n_door n_law n_used n_pipes n_drilled n_total n_open n_pipeInches n_pipeChances n_weights n_woods n_sums) T_refusals (-3 : Int32))) ∧ (¬ (T_isKept = (0 : Int32)) → (wpX3_becomeAs (fun (n_space_1 : Int32) (n_beam_2 : Int32) (n_door_3 : Int32) (n_law_4 : Int32) (n_used_5 : Int32) (n_pipes_6 : Int32) (n_drilled_7 : Int64) (n_total_8 : Int64) (n_open_9 : Int32) (n_pipeInches_10 : Nat → Int32) (n_pipeChances_11 : Nat → Int32) (n_weights_12 : Nat → Int64) (n_woods_13 : Nat → Int32) (n_sums_14 : Nat → Int64) => post n_used_5 T_refusals n_space_1 n_beam_2 n_door_3 n_law_4 n_used_5 n_pipes_6 n_drilled_7 n_total_8 n_open_9 n_pipeInches_10 n_pipeChances_11 n_weights_12 n_woods_13 n_sums_14) n_pipeInches n_pipeChances n_weights n_woods n_sums k_space k_beam k_door k_law k_used k_pipes k_drilled k_total k_open k_pipeInches k_pipeChances k_weights k_woods k_sums)))
set_option maxHeartbeats 4000000 in
set_option maxRecDepth 100000 in
theorem mX4_on (l : Launch) (D : va_G) (cI cJ cC : ClassId) (G : Nat → Nat → Nat) (a_T : Nat → Nat) (a_n : Nat → Nat) (a_k : Nat → Nat) (a_t : Nat → Nat) (a_s : Nat → Nat) (a_r : Nat → Nat) (a_c : Nat → Nat) (sz : Nat) (T_isKept : Int32) (T_refusals : Nat → Int32) (n_space : Int32) (n_beam : Int32) (n_door : Int32) (n_law : Int32) (n_used : Int32) (n_pipes : Int32) (n_drilled : Int64) (n_total : Int64) (n_open : Int32) (n_pipeInches : Nat → Int32) (n_pipeChances : Nat → Int32) (n_weights : Nat → Int64) (n_woods : Nat → Int32) (n_sums : Nat → Int64) (k_space : Int32) (k_beam : Int32) (k_door : Int32) (k_law : Int32) (k_used : Int32) (k_pipes : Int32) (k_drilled : Int64) (k_total : Int64) (k_open : Int32) (k_pipeInches : Nat → Int32) (k_pipeChances : Nat → Int32) (k_weights : Nat → Int64) (k_woods : Nat → Int32) (k_sums : Nat → Int64) (post : Int32 → (Nat → Int32) → Int32 → Int32 → Int32 → Int32 → Int32 → Int32 → Int64 → Int64 → Int32 → (Nat → Int32) → (Nat → Int32) → (Nat → Int64) → (Nat → Int32) → (Nat → Int64) → Prop) (h : wpX4_on post T_isKept T_refusals n_space n_beam n_door n_law n_used n_pipes n_drilled n_total n_open n_pipeInches n_pipeChances n_weights n_woods n_sums k_space k_beam k_door k_law k_used k_pipes k_drilled k_total k_open k_pipeInches k_pipeChances k_weights k_woods k_sums) : Met l yX4_on (wz yX4_on cX4_on 1 (some .int)) ({ frames := 2, cells := 0, slots := 0, locals := 81 }) (va_Pc [.ref (a_T 0)] (PW D (tz cI cJ cC) G ((bX4 cI cJ cC a_T a_n a_k a_t a_s a_r a_c T_isKept T_refusals) ++ (bX3 cI cJ cC a_n n_space n_beam n_door n_law n_used n_pipes n_drilled n_total n_open n_pipeInches n_pipeChances n_weights n_woods n_sums) ++ (bX3 cI cJ cC a_k k_space k_beam k_door k_law k_used k_pipes k_drilled k_total k_open k_pipeInches k_pipeChances k_weights k_woods k_sums)) sz)) (va_Qi (fun (r : Int32) (u : (Nat → Int32) × Int32 × Int32 × Int32 × Int32 × Int32 × Int32 × Int64 × Int64 × Int32 × (Nat → Int32) × (Nat → Int32) × (Nat → Int64) × (Nat → Int32) × (Nat → Int64)) => post r u.1 u.2.1 u.2.2.1 u.2.2.2.1 u.2.2.2.2.1 u.2.2.2.2.2.1 u.2.2.2.2.2.2.1 u.2.2.2.2.2.2.2.1 u.2.2.2.2.2.2.2.2.1 u.2.2.2.2.2.2.2.2.2.1 u.2.2.2.2.2.2.2.2.2.2.1 u.2.2.2.2.2.2.2.2.2.2.2.1 u.2.2.2.2.2.2.2.2.2.2.2.2.1 u.2.2.2.2.2.2.2.2.2.2.2.2.2.1 u.2.2.2.2.2.2.2.2.2.2.2.2.2.2) (fun (u : (Nat → Int32) × Int32 × Int32 × Int32 × Int32 × Int32 × Int32 × Int64 × Int64 × Int32 × (Nat → Int32) × (Nat → Int32) × (Nat → Int64) × (Nat → Int32) × (Nat → Int64)) t => va_P D vwCl ((bX4 cI cJ cC a_T a_n a_k a_t a_s a_r a_c T_isKept u.1) ++ (bX3 cI cJ cC a_n u.2.1 u.2.2.1 u.2.2.2.1 u.2.2.2.2.1 u.2.2.2.2.2.1 u.2.2.2.2.2.2.1 u.2.2.2.2.2.2.2.1 u.2.2.2.2.2.2.2.2.1 u.2.2.2.2.2.2.2.2.2.1 u.2.2.2.2.2.2.2.2.2.2.1 u.2.2.2.2.2.2.2.2.2.2.2.1 u.2.2.2.2.2.2.2.2.2.2.2.2.1 u.2.2.2.2.2.2.2.2.2.2.2.2.2.1 u.2.2.2.2.2.2.2.2.2.2.2.2.2.2) ++ (bX3 cI cJ cC a_k k_space k_beam k_door k_law k_used k_pipes k_drilled k_total k_open k_pipeInches k_pipeChances k_weights k_woods k_sums)) t.heap) (va_A ((bX4 cI cJ cC a_T a_n a_k a_t a_s a_r a_c T_isKept T_refusals) ++ (bX3 cI cJ cC a_n n_space n_beam n_door n_law n_used n_pipes n_drilled n_total n_open n_pipeInches n_pipeChances n_weights n_woods n_sums) ++ (bX3 cI cJ cC a_k k_space k_beam k_door k_law k_used k_pipes k_drilled k_total k_open k_pipeInches k_pipeChances k_weights k_woods k_sums)) sz)) 0 0 (va_A ((bX4 cI cJ cC a_T a_n a_k a_t a_s a_r a_c T_isKept T_refusals) ++ (bX3 cI cJ cC a_n n_space n_beam n_door n_law n_used n_pipes n_drilled n_total n_open n_pipeInches n_pipeChances n_weights n_woods n_sums) ++ (bX3 cI cJ cC a_k k_space k_beam k_door k_law k_used k_pipes k_drilled k_total k_open k_pipeInches k_pipeChances k_weights k_woods k_sums)) sz) := by
  refine zmi (gw := fun (u : (Nat → Int32) × Int32 × Int32 × Int32 × Int32 × Int32 × Int32 × Int64 × Int64 × Int32 × (Nat → Int32) × (Nat → Int32) × (Nat → Int64) × (Nat → Int32) × (Nat → Int64)) => (bX4 cI cJ cC a_T a_n a_k a_t a_s a_r a_c T_isKept u.1) ++ (bX3 cI cJ cC a_n u.2.1 u.2.2.1 u.2.2.2.1 u.2.2.2.2.1 u.2.2.2.2.2.1 u.2.2.2.2.2.2.1 u.2.2.2.2.2.2.2.1 u.2.2.2.2.2.2.2.2.1 u.2.2.2.2.2.2.2.2.2.1 u.2.2.2.2.2.2.2.2.2.2.1 u.2.2.2.2.2.2.2.2.2.2.2.1 u.2.2.2.2.2.2.2.2.2.2.2.2.1 u.2.2.2.2.2.2.2.2.2.2.2.2.2.1 u.2.2.2.2.2.2.2.2.2.2.2.2.2.2) ++ (bX3 cI cJ cC a_k k_space k_beam k_door k_law k_used k_pipes k_drilled k_total k_open k_pipeInches k_pipeChances k_weights k_woods k_sums)) (plainFor_of_name (by decide)) (Nat.le_of_ble_eq_true rfl) ?_
  intro p e s m below meth c A Q ls S hK hD hA hE hP hl hret
  obtain ⟨hx, hb, hml, hown, ht⟩ := id S
  have hS : va_S A s.heap s.heap [] := va_S.rf
  have hDD : ∀ ws : va_W, ws.map (fun q => q.1) = [a_T 0, a_T 1, a_n 0, a_n 1, a_n 2, a_n 3, a_n 4, a_n 5, a_k 0, a_k 1, a_k 2, a_k 3, a_k 4, a_k 5] → va_D A ws := fun ws hw => zD hD (hw.trans rfl)
  have hl : lv_has ls 1 [(0, .ref (a_T 0))] := hl
  unfold wpX4_on at h
  refine lv_aload_n hx hb dX4_on_0 rfl (lv_at hl 0 rfl) ?_
  refine va_get (D := D) (ci := 4) (v := .int T_isKept) (C := RX4) (T := TX4) (N := 8) hx hb ht inX4 hown hK hP 0 rfl rfl 7 (by decide) (ht _ fl_X4_47) (fun _ h9 => h9) rfl dX4_on_1 ?_
  refine lv_if_ne (tgt := 14) hx hb dX4_on_4 (by decide) (fun z => ?_) (fun z => ?_)
  · replace h := h.2 z
    refine lv_aload_n hx hb dX4_on_14 rfl (lv_at hl 0 rfl) ?_
    refine va_get (D := D) (ci := 4) (v := .ref (a_n 0)) (C := RX4) (T := TX4) (N := 8) hx hb ht inX4 hown hK hP 0 rfl rfl 0 (by decide) (ht _ fl_X4_10) (fun _ h9 => h9) rfl dX4_on_15 ?_
    refine lv_aload_n hx hb dX4_on_18 rfl (lv_at hl 0 rfl) ?_
    refine va_get (D := D) (ci := 4) (v := .ref (a_k 0)) (C := RX4) (T := TX4) (N := 8) hx hb ht inX4 hown hK hP 0 rfl rfl 1 (by decide) (ht _ fl_X4_16) (fun _ h9 => h9) rfl dX4_on_19 ?_
    have hPw : va_P D vwCl ((bX3 cI cJ cC a_n n_space n_beam n_door n_law n_used n_pipes n_drilled n_total n_open n_pipeInches n_pipeChances n_weights n_woods n_sums) ++ (bX3 cI cJ cC a_k k_space k_beam k_door k_law k_used k_pipes k_drilled k_total k_open k_pipeInches k_pipeChances k_weights k_woods k_sums)) _ := hP.sub [2, 3, 4, 5, 6, 7, 8, 9, 10, 11, 12, 13] rfl
    have hDw : va_D A ((bX3 cI cJ cC a_n n_space n_beam n_door n_law n_used n_pipes n_drilled n_total n_open n_pipeInches n_pipeChances n_weights n_woods n_sums) ++ (bX3 cI cJ cC a_k k_space k_beam k_door k_law k_used k_pipes k_drilled k_total k_open k_pipeInches k_pipeChances k_weights k_woods k_sums)) := (hDD _ rfl).sub (ws := (bX4 cI cJ cC a_T a_n a_k a_t a_s a_r a_c T_isKept T_refusals) ++ (bX3 cI cJ cC a_n n_space n_beam n_door n_law n_used n_pipes n_drilled n_total n_open n_pipeInches n_pipeChances n_weights n_woods n_sums) ++ (bX3 cI cJ cC a_k k_space k_beam k_door k_law k_used k_pipes k_drilled k_total k_open k_pipeInches k_pipeChances k_weights k_woods k_sums)) [2, 3, 4, 5, 6, 7, 8, 9, 10, 11, 12, 13] (by decide) rfl
    refine zcv hA hDw hS (zrunV (As := [.ref (a_k 0)]) (rest := []) S hK hA hE hPw hDw hS (mX3_becomeAs l D cI cJ cC G a_n a_k _ n_space n_beam n_door n_law n_used n_pipes n_drilled n_total n_open n_pipeInches n_pipeChances n_weights n_woods n_sums k_space k_beam k_door k_law k_used k_pipes k_drilled k_total k_open k_pipeInches k_pipeChances k_weights k_woods k_sums _ h) kX3_becomeAs ml_X4_70 ⟨rfl, rfl, by decide, by decide⟩ (q0 := 0) (ci := 3) rfl rfl rfl rfl hl.1 rfl (Nat.le_of_ble_eq_true rfl) dX4_on_22 ⟨Nat.zero_le _, Nat.zero_le _⟩) (fun u H locs h hP1 hk1 hS => ?_)
    obtain ⟨n_space_1, n_beam_2, n_door_3, n_law_4, n_used_5, n_pipes_6, n_drilled_7, n_total_8, n_open_9, n_pipeInches_10, n_pipeChances_11, n_weights_12, n_woods_13, n_sums_14⟩ := u
    dsimp only at h
    have hP : va_P D vwCl ((bX4 cI cJ cC a_T a_n a_k a_t a_s a_r a_c T_isKept T_refusals) ++ (bX3 cI cJ cC a_n n_space_1 n_beam_2 n_door_3 n_law_4 n_used_5 n_pipes_6 n_drilled_7 n_total_8 n_open_9 n_pipeInches_10 n_pipeChances_11 n_weights_12 n_woods_13 n_sums_14) ++ (bX3 cI cJ cC a_k k_space k_beam k_door k_law k_used k_pipes k_drilled k_total k_open k_pipeInches k_pipeChances k_weights k_woods k_sums)) H := zMerge hP (hDD _ rfl) [2, 3, 4, 5, 6, 7, 8, 9, 10, 11, 12, 13] rfl rfl hk1 hP1
    refine lv_aload_n hx hb dX4_on_25 rfl (lv_at hl 0 rfl) ?_
    refine va_get (D := D) (ci := 4) (v := .ref (a_n 0)) (C := RX4) (T := TX4) (N := 8) hx hb ht inX4 hown hK hP 0 rfl rfl 0 (by decide) (ht _ fl_X4_10) (fun _ h9 => h9) rfl dX4_on_26 ?_
    refine va_get (D := D) (ci := 3) (v := .int n_used_5) (C := RX3) (T := TX3) (N := 14) hx hb ht inX3 hown hK hP 2 rfl rfl 4 (by decide) (ht _ fl_X4_125) (fun _ h9 => h9) rfl dX4_on_29 ?_
    exact hret n_used_5 (T_refusals, n_space_1, n_beam_2, n_door_3, n_law_4, n_used_5, n_pipes_6, n_drilled_7, n_total_8, n_open_9, n_pipeInches_10, n_pipeChances_11, n_weights_12, n_woods_13, n_sums_14) _ _ _ _ rfl h hP hS dX4_on_32
  · replace h := h.1 z
    refine lv_aload_n hx hb dX4_on_7 rfl (lv_at hl 0 rfl) ?_
    refine lv_bipush (v := (-3 : Int32)) hx hb dX4_on_8 (by decide) ?_
    have hPw : va_P D vwCl ((bX4 cI cJ cC a_T a_n a_k a_t a_s a_r a_c T_isKept T_refusals)) _ := hP.sub [0, 1] rfl
    have hDw : va_D A ((bX4 cI cJ cC a_T a_n a_k a_t a_s a_r a_c T_isKept T_refusals)) := (hDD _ rfl).sub (ws := (bX4 cI cJ cC a_T a_n a_k a_t a_s a_r a_c T_isKept T_refusals) ++ (bX3 cI cJ cC a_n n_space n_beam n_door n_law n_used n_pipes n_drilled n_total n_open n_pipeInches n_pipeChances n_weights n_woods n_sums) ++ (bX3 cI cJ cC a_k k_space k_beam k_door k_law k_used k_pipes k_drilled k_total k_open k_pipeInches k_pipeChances k_weights k_woods k_sums)) [0, 1] (by decide) rfl
    refine zci hA hDw hS (zrunV (As := [.int (-3 : Int32)]) (rest := []) S hK hA hE hPw hDw hS (mX4_refuse l D cI cJ cC G a_T a_n a_k a_t a_s a_r a_c _ T_isKept T_refusals (-3 : Int32) _ h) kX4_refuse ml_X4_51 ⟨rfl, rfl, by decide, by decide⟩ (q0 := 0) (ci := 4) rfl rfl rfl rfl hl.1 rfl (Nat.le_of_ble_eq_true rfl) dX4_on_10 ⟨Nat.zero_le _, Nat.zero_le _⟩) (fun r_15 T_refusals_16 H locs h hP1 hk1 hS => ?_)
    try dsimp only at h
    have hP : va_P D vwCl ((bX4 cI cJ cC a_T a_n a_k a_t a_s a_r a_c T_isKept T_refusals_16) ++ (bX3 cI cJ cC a_n n_space n_beam n_door n_law n_used n_pipes n_drilled n_total n_open n_pipeInches n_pipeChances n_weights n_woods n_sums) ++ (bX3 cI cJ cC a_k k_space k_beam k_door k_law k_used k_pipes k_drilled k_total k_open k_pipeInches k_pipeChances k_weights k_woods k_sums)) H := zMerge hP (hDD _ rfl) [0, 1] rfl rfl hk1 hP1
    exact hret r_15 (T_refusals_16, n_space, n_beam, n_door, n_law, n_used, n_pipes, n_drilled, n_total, n_open, n_pipeInches, n_pipeChances, n_weights, n_woods, n_sums) _ _ _ _ rfl h hP hS dX4_on_13
def wpX4_count (post : Int32 → Prop) (T_refusals : Nat → Int32) (n_space : Int32) (n_beam : Int32) (n_door : Int32) (n_law : Int32) (n_used : Int32) (n_pipes : Int32) (n_drilled : Int64) (n_open : Int32) (s_length : Int32) (r_length : Int32) (p1 : Int32) : Prop := ((p1 ≤ (10 : Int32) → (((p1 = (0 : Int32) → (wpJ6_bitCount_0f7a4 (fun (r_1 : Int32) => post r_1) n_open)) ∧ (¬ (p1 = (0 : Int32)) → (((p1 = (1 : Int32) → (post n_used)) ∧ (¬ (p1 = (1 : Int32)) → (((p1 = (2 : Int32) → (wpJ13_bitCount_95d88 (fun (r_2 : Int32) => post r_2) n_drilled)) ∧ (¬ (p1 = (2 : Int32)) → (((p1 = (3 : Int32) → (post n_pipes)) ∧ (¬ (p1 = (3 : Int32)) → (((p1 = (4 : Int32) → (post n_space)) ∧ (¬ (p1 = (4 : Int32)) → (((p1 = (5 : Int32) → (post n_beam)) ∧ (¬ (p1 = (5 : Int32)) → (((p1 = (6 : Int32) → (post n_door)) ∧ (¬ (p1 = (6 : Int32)) → (((p1 = (7 : Int32) → (post n_law)) ∧ (¬ (p1 = (7 : Int32)) → (((p1 = (8 : Int32) → (post r_length)) ∧ (¬ (p1 = (8 : Int32)) → (((p1 = (9 : Int32) → (post s_length)) ∧ (¬ (p1 = (9 : Int32)) → (post (-9 : Int32))))))))))))))))))))))))))))))))) ∧ (¬ (p1 ≤ (10 : Int32)) → ((((16 : Int32) < p1 → (((p1 = (0 : Int32) → (wpJ6_bitCount_0f7a4 (fun (r_3 : Int32) => post r_3) n_open)) ∧ (¬ (p1 = (0 : Int32)) → (((p1 = (1 : Int32) → (post n_used)) ∧ (¬ (p1 = (1 : Int32)) → (((p1 = (2 : Int32) → (wpJ13_bitCount_95d88 (fun (r_4 : Int32) => post r_4) n_drilled)) ∧ (¬ (p1 = (2 : Int32)) → (((p1 = (3 : Int32) → (post n_pipes)) ∧ (¬ (p1 = (3 : Int32)) → (((p1 = (4 : Int32) → (post n_space)) ∧ (¬ (p1 = (4 : Int32)) → (((p1 = (5 : Int32) → (post n_beam)) ∧ (¬ (p1 = (5 : Int32)) → (((p1 = (6 : Int32) → (post n_door)) ∧ (¬ (p1 = (6 : Int32)) → (((p1 = (7 : Int32) → (post n_law)) ∧ (¬ (p1 = (7 : Int32)) → (((p1 = (8 : Int32) → (post r_length)) ∧ (¬ (p1 = (8 : Int32)) → (((p1 = (9 : Int32) → (post s_length)) ∧ (¬ (p1 = (9 : Int32)) → (post (-9 : Int32))))))))))))))))))))))))))))))))) ∧ (¬ ((16 : Int32) < p1) → (vp_in (p1 - (10 : Int32)) 7 ∧ (post (T_refusals (p1 - (10 : Int32)).toNatClampNeg))))))))
set_option maxHeartbeats 4000000 in
set_option maxRecDepth 100000 in
theorem mX4_count (l : Launch) (D : va_G) (cI cJ cC : ClassId) (G : Nat → Nat → Nat) (a_T : Nat → Nat) (a_n : Nat → Nat) (a_k : Nat → Nat) (a_t : Nat → Nat) (a_s : Nat → Nat) (a_r : Nat → Nat) (a_c : Nat → Nat) (sz : Nat) (T_isKept : Int32) (T_refusals : Nat → Int32) (n_space : Int32) (n_beam : Int32) (n_door : Int32) (n_law : Int32) (n_used : Int32) (n_pipes : Int32) (n_drilled : Int64) (n_total : Int64) (n_open : Int32) (n_pipeInches : Nat → Int32) (n_pipeChances : Nat → Int32) (n_weights : Nat → Int64) (n_woods : Nat → Int32) (n_sums : Nat → Int64) (s_length : Int32) (s_place : Int32) (s_signs : Nat → Int32) (r_length : Int32) (r_numbers : Nat → Int32) (p1 : Int32) (post : Int32 → Prop) (h : wpX4_count post T_refusals n_space n_beam n_door n_law n_used n_pipes n_drilled n_open s_length r_length p1) : Met l yX4_count (wz yX4_count cX4_count 2 (some .int)) ({ frames := 1, cells := 0, slots := 0, locals := 21 }) (va_Pc [.ref (a_T 0), .int p1] (PW D (tz cI cJ cC) G ((bX4 cI cJ cC a_T a_n a_k a_t a_s a_r a_c T_isKept T_refusals) ++ (bX3 cI cJ cC a_n n_space n_beam n_door n_law n_used n_pipes n_drilled n_total n_open n_pipeInches n_pipeChances n_weights n_woods n_sums) ++ (bX2 cI cJ cC a_s s_length s_place s_signs) ++ (bX0 cI cJ cC a_r r_length r_numbers)) sz)) (va_Qi (fun (r : Int32) (u : Unit) => post r ) (fun (u : Unit) t => va_P D vwCl ((bX4 cI cJ cC a_T a_n a_k a_t a_s a_r a_c T_isKept T_refusals) ++ (bX3 cI cJ cC a_n n_space n_beam n_door n_law n_used n_pipes n_drilled n_total n_open n_pipeInches n_pipeChances n_weights n_woods n_sums) ++ (bX2 cI cJ cC a_s s_length s_place s_signs) ++ (bX0 cI cJ cC a_r r_length r_numbers)) t.heap) (va_A ((bX4 cI cJ cC a_T a_n a_k a_t a_s a_r a_c T_isKept T_refusals) ++ (bX3 cI cJ cC a_n n_space n_beam n_door n_law n_used n_pipes n_drilled n_total n_open n_pipeInches n_pipeChances n_weights n_woods n_sums) ++ (bX2 cI cJ cC a_s s_length s_place s_signs) ++ (bX0 cI cJ cC a_r r_length r_numbers)) sz)) 0 0 (va_A ((bX4 cI cJ cC a_T a_n a_k a_t a_s a_r a_c T_isKept T_refusals) ++ (bX3 cI cJ cC a_n n_space n_beam n_door n_law n_used n_pipes n_drilled n_total n_open n_pipeInches n_pipeChances n_weights n_woods n_sums) ++ (bX2 cI cJ cC a_s s_length s_place s_signs) ++ (bX0 cI cJ cC a_r r_length r_numbers)) sz) := by
  refine zmi (gw := fun (u : Unit) => (bX4 cI cJ cC a_T a_n a_k a_t a_s a_r a_c T_isKept T_refusals) ++ (bX3 cI cJ cC a_n n_space n_beam n_door n_law n_used n_pipes n_drilled n_total n_open n_pipeInches n_pipeChances n_weights n_woods n_sums) ++ (bX2 cI cJ cC a_s s_length s_place s_signs) ++ (bX0 cI cJ cC a_r r_length r_numbers)) (plainFor_of_name (by decide)) (Nat.le_of_ble_eq_true rfl) ?_
  intro p e s m below meth c A Q ls S hK hD hA hE hP hl hret
  obtain ⟨hx, hb, hml, hown, ht⟩ := id S
  have hS : va_S A s.heap s.heap [] := va_S.rf
  have hDD : ∀ ws : va_W, ws.map (fun q => q.1) = [a_T 0, a_T 1, a_n 0, a_n 1, a_n 2, a_n 3, a_n 4, a_n 5, a_s 0, a_s 1, a_r 0, a_r 1] → va_D A ws := fun ws hw => zD hD (hw.trans rfl)
  have hl : lv_has ls 2 [(0, .ref (a_T 0)), (1, .int p1)] := hl
  unfold wpX4_count at h
  refine lv_iload_n hx hb dX4_count_0 rfl (lv_at hl 1 rfl) ?_
  refine lv_bipush (v := (10 : Int32)) hx hb dX4_count_1 (by decide) ?_
  refine lv_icmp_le (tgt := 22) hx hb dX4_count_3 (by decide) (fun z => ?_) (fun z => ?_)
  · replace h := h.1 z
    refine lv_iload_n hx hb dX4_count_22 rfl (lv_at hl 1 rfl) ?_
    by_cases z0 : p1 = (0 : Int32)
    · replace h := h.1 z0
      refine lv_tableIn (off := 53) (tgt := 76) hx hb dX4_count_23 (by rw [z0]; decide) (by rw [z0]; decide) (by rw [z0]; rfl) (by decide) ?_
      refine lv_aload_n hx hb dX4_count_76 rfl (lv_at hl 0 rfl) ?_
      refine va_get (D := D) (ci := 4) (v := .ref (a_n 0)) (C := RX4) (T := TX4) (N := 8) hx hb ht inX4 hown hK hP 0 rfl rfl 0 (by decide) (ht _ fl_X4_10) (fun _ h9 => h9) rfl dX4_count_77 ?_
      refine va_get (D := D) (ci := 3) (v := .int n_open) (C := RX3) (T := TX3) (N := 14) hx hb ht inX3 hown hK hP 2 rfl rfl 13 (by decide) (ht _ fl_X4_140) (fun _ h9 => h9) rfl dX4_count_80 ?_
      refine zci hA zD0 hS (zrunS (As := [.int n_open]) (rest := []) S hK hA hE zP0 zD0 hS (mJ6_bitCount_0f7a4 l D cI cJ cC G _ n_open _ h) kJ6_bitCount_0f7a4 ml_X4_143 ⟨rfl, rfl, by decide, by decide⟩ rfl hl.1 rfl (Nat.le_of_ble_eq_true rfl) dX4_count_83 ⟨Nat.zero_le _, Nat.zero_le _⟩) (fun r_1 u H locs h hP1 hk1 hS => ?_)
      try dsimp only at h
      have hP : va_P D vwCl ((bX4 cI cJ cC a_T a_n a_k a_t a_s a_r a_c T_isKept T_refusals) ++ (bX3 cI cJ cC a_n n_space n_beam n_door n_law n_used n_pipes n_drilled n_total n_open n_pipeInches n_pipeChances n_weights n_woods n_sums) ++ (bX2 cI cJ cC a_s s_length s_place s_signs) ++ (bX0 cI cJ cC a_r r_length r_numbers)) H := zKeep hP hk1
      exact hret r_1 () _ _ _ _ rfl h hP hS dX4_count_86
    · replace h := h.2 z0
      by_cases z1 : p1 = (1 : Int32)
      · replace h := h.1 z1
        refine lv_tableIn (off := 64) (tgt := 87) hx hb dX4_count_23 (by rw [z1]; decide) (by rw [z1]; decide) (by rw [z1]; rfl) (by decide) ?_
        refine lv_aload_n hx hb dX4_count_87 rfl (lv_at hl 0 rfl) ?_
        refine va_get (D := D) (ci := 4) (v := .ref (a_n 0)) (C := RX4) (T := TX4) (N := 8) hx hb ht inX4 hown hK hP 0 rfl rfl 0 (by decide) (ht _ fl_X4_10) (fun _ h9 => h9) rfl dX4_count_88 ?_
        refine va_get (D := D) (ci := 3) (v := .int n_used) (C := RX3) (T := TX3) (N := 14) hx hb ht inX3 hown hK hP 2 rfl rfl 4 (by decide) (ht _ fl_X4_125) (fun _ h9 => h9) rfl dX4_count_91 ?_
        exact hret n_used () _ _ _ _ rfl h hP hS dX4_count_94
      · replace h := h.2 z1
        by_cases z2 : p1 = (2 : Int32)
        · replace h := h.1 z2
          refine lv_tableIn (off := 72) (tgt := 95) hx hb dX4_count_23 (by rw [z2]; decide) (by rw [z2]; decide) (by rw [z2]; rfl) (by decide) ?_
          refine lv_aload_n hx hb dX4_count_95 rfl (lv_at hl 0 rfl) ?_
          refine va_get (D := D) (ci := 4) (v := .ref (a_n 0)) (C := RX4) (T := TX4) (N := 8) hx hb ht inX4 hown hK hP 0 rfl rfl 0 (by decide) (ht _ fl_X4_10) (fun _ h9 => h9) rfl dX4_count_96 ?_
          refine va_get (D := D) (ci := 3) (v := .long n_drilled) (C := RX3) (T := TX3) (N := 14) hx hb ht inX3 hown hK hP 2 rfl rfl 6 (by decide) (ht _ fl_X4_161) (fun _ h9 => h9) rfl dX4_count_99 ?_
          refine zci hA zD0 hS (zrunS (As := [.long n_drilled]) (rest := []) S hK hA hE zP0 zD0 hS (mJ13_bitCount_95d88 l D cI cJ cC G _ n_drilled _ h) kJ13_bitCount_95d88 ml_X4_165 ⟨rfl, rfl, by decide, by decide⟩ rfl hl.1 rfl (Nat.le_of_ble_eq_true rfl) dX4_count_102 ⟨Nat.zero_le _, Nat.zero_le _⟩) (fun r_2 u H locs h hP1 hk1 hS => ?_)
          try dsimp only at h
          have hP : va_P D vwCl ((bX4 cI cJ cC a_T a_n a_k a_t a_s a_r a_c T_isKept T_refusals) ++ (bX3 cI cJ cC a_n n_space n_beam n_door n_law n_used n_pipes n_drilled n_total n_open n_pipeInches n_pipeChances n_weights n_woods n_sums) ++ (bX2 cI cJ cC a_s s_length s_place s_signs) ++ (bX0 cI cJ cC a_r r_length r_numbers)) H := zKeep hP hk1
          exact hret r_2 () _ _ _ _ rfl h hP hS dX4_count_105
        · replace h := h.2 z2
          by_cases z3 : p1 = (3 : Int32)
          · replace h := h.1 z3
            refine lv_tableIn (off := 83) (tgt := 106) hx hb dX4_count_23 (by rw [z3]; decide) (by rw [z3]; decide) (by rw [z3]; rfl) (by decide) ?_
            refine lv_aload_n hx hb dX4_count_106 rfl (lv_at hl 0 rfl) ?_
            refine va_get (D := D) (ci := 4) (v := .ref (a_n 0)) (C := RX4) (T := TX4) (N := 8) hx hb ht inX4 hown hK hP 0 rfl rfl 0 (by decide) (ht _ fl_X4_10) (fun _ h9 => h9) rfl dX4_count_107 ?_
            refine va_get (D := D) (ci := 3) (v := .int n_pipes) (C := RX3) (T := TX3) (N := 14) hx hb ht inX3 hown hK hP 2 rfl rfl 5 (by decide) (ht _ fl_X4_148) (fun _ h9 => h9) rfl dX4_count_110 ?_
            exact hret n_pipes () _ _ _ _ rfl h hP hS dX4_count_113
          · replace h := h.2 z3
            by_cases z4 : p1 = (4 : Int32)
            · replace h := h.1 z4
              refine lv_tableIn (off := 91) (tgt := 114) hx hb dX4_count_23 (by rw [z4]; decide) (by rw [z4]; decide) (by rw [z4]; rfl) (by decide) ?_
              refine lv_aload_n hx hb dX4_count_114 rfl (lv_at hl 0 rfl) ?_
              refine va_get (D := D) (ci := 4) (v := .ref (a_n 0)) (C := RX4) (T := TX4) (N := 8) hx hb ht inX4 hown hK hP 0 rfl rfl 0 (by decide) (ht _ fl_X4_10) (fun _ h9 => h9) rfl dX4_count_115 ?_
              refine va_get (D := D) (ci := 3) (v := .int n_space) (C := RX3) (T := TX3) (N := 14) hx hb ht inX3 hown hK hP 2 rfl rfl 0 (by decide) (ht _ fl_X4_246) (fun _ h9 => h9) rfl dX4_count_118 ?_
              exact hret n_space () _ _ _ _ rfl h hP hS dX4_count_121
            · replace h := h.2 z4
              by_cases z5 : p1 = (5 : Int32)
              · replace h := h.1 z5
                refine lv_tableIn (off := 99) (tgt := 122) hx hb dX4_count_23 (by rw [z5]; decide) (by rw [z5]; decide) (by rw [z5]; rfl) (by decide) ?_
                refine lv_aload_n hx hb dX4_count_122 rfl (lv_at hl 0 rfl) ?_
                refine va_get (D := D) (ci := 4) (v := .ref (a_n 0)) (C := RX4) (T := TX4) (N := 8) hx hb ht inX4 hown hK hP 0 rfl rfl 0 (by decide) (ht _ fl_X4_10) (fun _ h9 => h9) rfl dX4_count_123 ?_
                refine va_get (D := D) (ci := 3) (v := .int n_beam) (C := RX3) (T := TX3) (N := 14) hx hb ht inX3 hown hK hP 2 rfl rfl 1 (by decide) (ht _ fl_X4_255) (fun _ h9 => h9) rfl dX4_count_126 ?_
                exact hret n_beam () _ _ _ _ rfl h hP hS dX4_count_129
              · replace h := h.2 z5
                by_cases z6 : p1 = (6 : Int32)
                · replace h := h.1 z6
                  refine lv_tableIn (off := 107) (tgt := 130) hx hb dX4_count_23 (by rw [z6]; decide) (by rw [z6]; decide) (by rw [z6]; rfl) (by decide) ?_
                  refine lv_aload_n hx hb dX4_count_130 rfl (lv_at hl 0 rfl) ?_
                  refine va_get (D := D) (ci := 4) (v := .ref (a_n 0)) (C := RX4) (T := TX4) (N := 8) hx hb ht inX4 hown hK hP 0 rfl rfl 0 (by decide) (ht _ fl_X4_10) (fun _ h9 => h9) rfl dX4_count_131 ?_
                  refine va_get (D := D) (ci := 3) (v := .int n_door) (C := RX3) (T := TX3) (N := 14) hx hb ht inX3 hown hK hP 2 rfl rfl 2 (by decide) (ht _ fl_X4_258) (fun _ h9 => h9) rfl dX4_count_134 ?_
                  exact hret n_door () _ _ _ _ rfl h hP hS dX4_count_137
                · replace h := h.2 z6
                  by_cases z7 : p1 = (7 : Int32)
                  · replace h := h.1 z7
                    refine lv_tableIn (off := 115) (tgt := 138) hx hb dX4_count_23 (by rw [z7]; decide) (by rw [z7]; decide) (by rw [z7]; rfl) (by decide) ?_
                    refine lv_aload_n hx hb dX4_count_138 rfl (lv_at hl 0 rfl) ?_
                    refine va_get (D := D) (ci := 4) (v := .ref (a_n 0)) (C := RX4) (T := TX4) (N := 8) hx hb ht inX4 hown hK hP 0 rfl rfl 0 (by decide) (ht _ fl_X4_10) (fun _ h9 => h9) rfl dX4_count_139 ?_
                    refine va_get (D := D) (ci := 3) (v := .int n_law) (C := RX3) (T := TX3) (N := 14) hx hb ht inX3 hown hK hP 2 rfl rfl 3 (by decide) (ht _ fl_X4_261) (fun _ h9 => h9) rfl dX4_count_142 ?_
                    exact hret n_law () _ _ _ _ rfl h hP hS dX4_count_145
                  · replace h := h.2 z7
                    by_cases z8 : p1 = (8 : Int32)
                    · replace h := h.1 z8
                      refine lv_tableIn (off := 123) (tgt := 146) hx hb dX4_count_23 (by rw [z8]; decide) (by rw [z8]; decide) (by rw [z8]; rfl) (by decide) ?_
                      refine lv_aload_n hx hb dX4_count_146 rfl (lv_at hl 0 rfl) ?_
                      refine va_get (D := D) (ci := 4) (v := .ref (a_r 0)) (C := RX4) (T := TX4) (N := 8) hx hb ht inX4 hown hK hP 0 rfl rfl 4 (by decide) (ht _ fl_X4_32) (fun _ h9 => h9) rfl dX4_count_147 ?_
                      refine va_get (D := D) (ci := 0) (v := .int r_length) (C := RX0) (T := TX0) (N := 2) hx hb ht inX0 hown hK hP 10 rfl rfl 1 (by decide) (ht _ fl_X4_227) (fun _ h9 => h9) rfl dX4_count_150 ?_
                      exact hret r_length () _ _ _ _ rfl h hP hS dX4_count_153
                    · replace h := h.2 z8
                      by_cases z9 : p1 = (9 : Int32)
                      · replace h := h.1 z9
                        refine lv_tableIn (off := 131) (tgt := 154) hx hb dX4_count_23 (by rw [z9]; decide) (by rw [z9]; decide) (by rw [z9]; rfl) (by decide) ?_
                        refine lv_aload_n hx hb dX4_count_154 rfl (lv_at hl 0 rfl) ?_
                        refine va_get (D := D) (ci := 4) (v := .ref (a_s 0)) (C := RX4) (T := TX4) (N := 8) hx hb ht inX4 hown hK hP 0 rfl rfl 3 (by decide) (ht _ fl_X4_25) (fun _ h9 => h9) rfl dX4_count_155 ?_
                        refine va_get (D := D) (ci := 2) (v := .int s_length) (C := RX2) (T := TX2) (N := 3) hx hb ht inX2 hown hK hP 8 rfl rfl 1 (by decide) (ht _ fl_X4_55) (fun _ h9 => h9) rfl dX4_count_158 ?_
                        exact hret s_length () _ _ _ _ rfl h hP hS dX4_count_161
                      · replace h := h.2 z9
                        refine lv_tableOut (tgt := 162) hx hb dX4_count_23 (by have n0 := lv_neT z0 (a := 0) (by decide); have n1 := lv_neT z1 (a := 1) (by decide); have n2 := lv_neT z2 (a := 2) (by decide); have n3 := lv_neT z3 (a := 3) (by decide); have n4 := lv_neT z4 (a := 4) (by decide); have n5 := lv_neT z5 (a := 5) (by decide); have n6 := lv_neT z6 (a := 6) (by decide); have n7 := lv_neT z7 (a := 7) (by decide); have n8 := lv_neT z8 (a := 8) (by decide); have n9 := lv_neT z9 (a := 9) (by decide); omega) (by decide) ?_
                        refine lv_bipush (v := (-9 : Int32)) hx hb dX4_count_162 (by decide) ?_
                        exact hret (-9 : Int32) () _ _ _ _ rfl h hP hS dX4_count_164
  · replace h := h.2 z
    refine lv_iload_n hx hb dX4_count_6 rfl (lv_at hl 1 rfl) ?_
    refine lv_bipush (v := (16 : Int32)) hx hb dX4_count_7 (by decide) ?_
    refine lv_icmp_gt (tgt := 22) hx hb dX4_count_9 (by decide) (fun z => ?_) (fun z => ?_)
    · replace h := h.1 z
      refine lv_iload_n hx hb dX4_count_22 rfl (lv_at hl 1 rfl) ?_
      by_cases z0 : p1 = (0 : Int32)
      · replace h := h.1 z0
        refine lv_tableIn (off := 53) (tgt := 76) hx hb dX4_count_23 (by rw [z0]; decide) (by rw [z0]; decide) (by rw [z0]; rfl) (by decide) ?_
        refine lv_aload_n hx hb dX4_count_76 rfl (lv_at hl 0 rfl) ?_
        refine va_get (D := D) (ci := 4) (v := .ref (a_n 0)) (C := RX4) (T := TX4) (N := 8) hx hb ht inX4 hown hK hP 0 rfl rfl 0 (by decide) (ht _ fl_X4_10) (fun _ h9 => h9) rfl dX4_count_77 ?_
        refine va_get (D := D) (ci := 3) (v := .int n_open) (C := RX3) (T := TX3) (N := 14) hx hb ht inX3 hown hK hP 2 rfl rfl 13 (by decide) (ht _ fl_X4_140) (fun _ h9 => h9) rfl dX4_count_80 ?_
        refine zci hA zD0 hS (zrunS (As := [.int n_open]) (rest := []) S hK hA hE zP0 zD0 hS (mJ6_bitCount_0f7a4 l D cI cJ cC G _ n_open _ h) kJ6_bitCount_0f7a4 ml_X4_143 ⟨rfl, rfl, by decide, by decide⟩ rfl hl.1 rfl (Nat.le_of_ble_eq_true rfl) dX4_count_83 ⟨Nat.zero_le _, Nat.zero_le _⟩) (fun r_3 u H locs h hP1 hk1 hS => ?_)
        try dsimp only at h
        have hP : va_P D vwCl ((bX4 cI cJ cC a_T a_n a_k a_t a_s a_r a_c T_isKept T_refusals) ++ (bX3 cI cJ cC a_n n_space n_beam n_door n_law n_used n_pipes n_drilled n_total n_open n_pipeInches n_pipeChances n_weights n_woods n_sums) ++ (bX2 cI cJ cC a_s s_length s_place s_signs) ++ (bX0 cI cJ cC a_r r_length r_numbers)) H := zKeep hP hk1
        exact hret r_3 () _ _ _ _ rfl h hP hS dX4_count_86
      · replace h := h.2 z0
        by_cases z1 : p1 = (1 : Int32)
        · replace h := h.1 z1
          refine lv_tableIn (off := 64) (tgt := 87) hx hb dX4_count_23 (by rw [z1]; decide) (by rw [z1]; decide) (by rw [z1]; rfl) (by decide) ?_
          refine lv_aload_n hx hb dX4_count_87 rfl (lv_at hl 0 rfl) ?_
          refine va_get (D := D) (ci := 4) (v := .ref (a_n 0)) (C := RX4) (T := TX4) (N := 8) hx hb ht inX4 hown hK hP 0 rfl rfl 0 (by decide) (ht _ fl_X4_10) (fun _ h9 => h9) rfl dX4_count_88 ?_
          refine va_get (D := D) (ci := 3) (v := .int n_used) (C := RX3) (T := TX3) (N := 14) hx hb ht inX3 hown hK hP 2 rfl rfl 4 (by decide) (ht _ fl_X4_125) (fun _ h9 => h9) rfl dX4_count_91 ?_
          exact hret n_used () _ _ _ _ rfl h hP hS dX4_count_94
        · replace h := h.2 z1
          by_cases z2 : p1 = (2 : Int32)
          · replace h := h.1 z2
            refine lv_tableIn (off := 72) (tgt := 95) hx hb dX4_count_23 (by rw [z2]; decide) (by rw [z2]; decide) (by rw [z2]; rfl) (by decide) ?_
            refine lv_aload_n hx hb dX4_count_95 rfl (lv_at hl 0 rfl) ?_
            refine va_get (D := D) (ci := 4) (v := .ref (a_n 0)) (C := RX4) (T := TX4) (N := 8) hx hb ht inX4 hown hK hP 0 rfl rfl 0 (by decide) (ht _ fl_X4_10) (fun _ h9 => h9) rfl dX4_count_96 ?_
            refine va_get (D := D) (ci := 3) (v := .long n_drilled) (C := RX3) (T := TX3) (N := 14) hx hb ht inX3 hown hK hP 2 rfl rfl 6 (by decide) (ht _ fl_X4_161) (fun _ h9 => h9) rfl dX4_count_99 ?_
            refine zci hA zD0 hS (zrunS (As := [.long n_drilled]) (rest := []) S hK hA hE zP0 zD0 hS (mJ13_bitCount_95d88 l D cI cJ cC G _ n_drilled _ h) kJ13_bitCount_95d88 ml_X4_165 ⟨rfl, rfl, by decide, by decide⟩ rfl hl.1 rfl (Nat.le_of_ble_eq_true rfl) dX4_count_102 ⟨Nat.zero_le _, Nat.zero_le _⟩) (fun r_4 u H locs h hP1 hk1 hS => ?_)
            try dsimp only at h
            have hP : va_P D vwCl ((bX4 cI cJ cC a_T a_n a_k a_t a_s a_r a_c T_isKept T_refusals) ++ (bX3 cI cJ cC a_n n_space n_beam n_door n_law n_used n_pipes n_drilled n_total n_open n_pipeInches n_pipeChances n_weights n_woods n_sums) ++ (bX2 cI cJ cC a_s s_length s_place s_signs) ++ (bX0 cI cJ cC a_r r_length r_numbers)) H := zKeep hP hk1
            exact hret r_4 () _ _ _ _ rfl h hP hS dX4_count_105
          · replace h := h.2 z2
            by_cases z3 : p1 = (3 : Int32)
            · replace h := h.1 z3
              refine lv_tableIn (off := 83) (tgt := 106) hx hb dX4_count_23 (by rw [z3]; decide) (by rw [z3]; decide) (by rw [z3]; rfl) (by decide) ?_
              refine lv_aload_n hx hb dX4_count_106 rfl (lv_at hl 0 rfl) ?_
              refine va_get (D := D) (ci := 4) (v := .ref (a_n 0)) (C := RX4) (T := TX4) (N := 8) hx hb ht inX4 hown hK hP 0 rfl rfl 0 (by decide) (ht _ fl_X4_10) (fun _ h9 => h9) rfl dX4_count_107 ?_
              refine va_get (D := D) (ci := 3) (v := .int n_pipes) (C := RX3) (T := TX3) (N := 14) hx hb ht inX3 hown hK hP 2 rfl rfl 5 (by decide) (ht _ fl_X4_148) (fun _ h9 => h9) rfl dX4_count_110 ?_
              exact hret n_pipes () _ _ _ _ rfl h hP hS dX4_count_113
            · replace h := h.2 z3
              by_cases z4 : p1 = (4 : Int32)
              · replace h := h.1 z4
                refine lv_tableIn (off := 91) (tgt := 114) hx hb dX4_count_23 (by rw [z4]; decide) (by rw [z4]; decide) (by rw [z4]; rfl) (by decide) ?_
                refine lv_aload_n hx hb dX4_count_114 rfl (lv_at hl 0 rfl) ?_
                refine va_get (D := D) (ci := 4) (v := .ref (a_n 0)) (C := RX4) (T := TX4) (N := 8) hx hb ht inX4 hown hK hP 0 rfl rfl 0 (by decide) (ht _ fl_X4_10) (fun _ h9 => h9) rfl dX4_count_115 ?_
                refine va_get (D := D) (ci := 3) (v := .int n_space) (C := RX3) (T := TX3) (N := 14) hx hb ht inX3 hown hK hP 2 rfl rfl 0 (by decide) (ht _ fl_X4_246) (fun _ h9 => h9) rfl dX4_count_118 ?_
                exact hret n_space () _ _ _ _ rfl h hP hS dX4_count_121
              · replace h := h.2 z4
                by_cases z5 : p1 = (5 : Int32)
                · replace h := h.1 z5
                  refine lv_tableIn (off := 99) (tgt := 122) hx hb dX4_count_23 (by rw [z5]; decide) (by rw [z5]; decide) (by rw [z5]; rfl) (by decide) ?_
                  refine lv_aload_n hx hb dX4_count_122 rfl (lv_at hl 0 rfl) ?_
                  refine va_get (D := D) (ci := 4) (v := .ref (a_n 0)) (C := RX4) (T := TX4) (N := 8) hx hb ht inX4 hown hK hP 0 rfl rfl 0 (by decide) (ht _ fl_X4_10) (fun _ h9 => h9) rfl dX4_count_123 ?_
                  refine va_get (D := D) (ci := 3) (v := .int n_beam) (C := RX3) (T := TX3) (N := 14) hx hb ht inX3 hown hK hP 2 rfl rfl 1 (by decide) (ht _ fl_X4_255) (fun _ h9 => h9) rfl dX4_count_126 ?_
                  exact hret n_beam () _ _ _ _ rfl h hP hS dX4_count_129
                · replace h := h.2 z5
                  by_cases z6 : p1 = (6 : Int32)
                  · replace h := h.1 z6
                    refine lv_tableIn (off := 107) (tgt := 130) hx hb dX4_count_23 (by rw [z6]; decide) (by rw [z6]; decide) (by rw [z6]; rfl) (by decide) ?_
                    refine lv_aload_n hx hb dX4_count_130 rfl (lv_at hl 0 rfl) ?_
                    refine va_get (D := D) (ci := 4) (v := .ref (a_n 0)) (C := RX4) (T := TX4) (N := 8) hx hb ht inX4 hown hK hP 0 rfl rfl 0 (by decide) (ht _ fl_X4_10) (fun _ h9 => h9) rfl dX4_count_131 ?_
                    refine va_get (D := D) (ci := 3) (v := .int n_door) (C := RX3) (T := TX3) (N := 14) hx hb ht inX3 hown hK hP 2 rfl rfl 2 (by decide) (ht _ fl_X4_258) (fun _ h9 => h9) rfl dX4_count_134 ?_
                    exact hret n_door () _ _ _ _ rfl h hP hS dX4_count_137
                  · replace h := h.2 z6
                    by_cases z7 : p1 = (7 : Int32)
                    · replace h := h.1 z7
                      refine lv_tableIn (off := 115) (tgt := 138) hx hb dX4_count_23 (by rw [z7]; decide) (by rw [z7]; decide) (by rw [z7]; rfl) (by decide) ?_
                      refine lv_aload_n hx hb dX4_count_138 rfl (lv_at hl 0 rfl) ?_
                      refine va_get (D := D) (ci := 4) (v := .ref (a_n 0)) (C := RX4) (T := TX4) (N := 8) hx hb ht inX4 hown hK hP 0 rfl rfl 0 (by decide) (ht _ fl_X4_10) (fun _ h9 => h9) rfl dX4_count_139 ?_
                      refine va_get (D := D) (ci := 3) (v := .int n_law) (C := RX3) (T := TX3) (N := 14) hx hb ht inX3 hown hK hP 2 rfl rfl 3 (by decide) (ht _ fl_X4_261) (fun _ h9 => h9) rfl dX4_count_142 ?_
                      exact hret n_law () _ _ _ _ rfl h hP hS dX4_count_145
                    · replace h := h.2 z7
                      by_cases z8 : p1 = (8 : Int32)
                      · replace h := h.1 z8
                        refine lv_tableIn (off := 123) (tgt := 146) hx hb dX4_count_23 (by rw [z8]; decide) (by rw [z8]; decide) (by rw [z8]; rfl) (by decide) ?_
                        refine lv_aload_n hx hb dX4_count_146 rfl (lv_at hl 0 rfl) ?_
                        refine va_get (D := D) (ci := 4) (v := .ref (a_r 0)) (C := RX4) (T := TX4) (N := 8) hx hb ht inX4 hown hK hP 0 rfl rfl 4 (by decide) (ht _ fl_X4_32) (fun _ h9 => h9) rfl dX4_count_147 ?_
                        refine va_get (D := D) (ci := 0) (v := .int r_length) (C := RX0) (T := TX0) (N := 2) hx hb ht inX0 hown hK hP 10 rfl rfl 1 (by decide) (ht _ fl_X4_227) (fun _ h9 => h9) rfl dX4_count_150 ?_
                        exact hret r_length () _ _ _ _ rfl h hP hS dX4_count_153
                      · replace h := h.2 z8
                        by_cases z9 : p1 = (9 : Int32)
                        · replace h := h.1 z9
                          refine lv_tableIn (off := 131) (tgt := 154) hx hb dX4_count_23 (by rw [z9]; decide) (by rw [z9]; decide) (by rw [z9]; rfl) (by decide) ?_
                          refine lv_aload_n hx hb dX4_count_154 rfl (lv_at hl 0 rfl) ?_
                          refine va_get (D := D) (ci := 4) (v := .ref (a_s 0)) (C := RX4) (T := TX4) (N := 8) hx hb ht inX4 hown hK hP 0 rfl rfl 3 (by decide) (ht _ fl_X4_25) (fun _ h9 => h9) rfl dX4_count_155 ?_
                          refine va_get (D := D) (ci := 2) (v := .int s_length) (C := RX2) (T := TX2) (N := 3) hx hb ht inX2 hown hK hP 8 rfl rfl 1 (by decide) (ht _ fl_X4_55) (fun _ h9 => h9) rfl dX4_count_158 ?_
                          exact hret s_length () _ _ _ _ rfl h hP hS dX4_count_161
                        · replace h := h.2 z9
                          refine lv_tableOut (tgt := 162) hx hb dX4_count_23 (by have n0 := lv_neT z0 (a := 0) (by decide); have n1 := lv_neT z1 (a := 1) (by decide); have n2 := lv_neT z2 (a := 2) (by decide); have n3 := lv_neT z3 (a := 3) (by decide); have n4 := lv_neT z4 (a := 4) (by decide); have n5 := lv_neT z5 (a := 5) (by decide); have n6 := lv_neT z6 (a := 6) (by decide); have n7 := lv_neT z7 (a := 7) (by decide); have n8 := lv_neT z8 (a := 8) (by decide); have n9 := lv_neT z9 (a := 9) (by decide); omega) (by decide) ?_
                          refine lv_bipush (v := (-9 : Int32)) hx hb dX4_count_162 (by decide) ?_
                          exact hret (-9 : Int32) () _ _ _ _ rfl h hP hS dX4_count_164
    · replace h := h.2 z
      refine lv_aload_n hx hb dX4_count_12 rfl (lv_at hl 0 rfl) ?_
      refine va_get (D := D) (ci := 4) (v := .ref (a_T 1)) (C := RX4) (T := TX4) (N := 8) hx hb ht inX4 hown hK hP 0 rfl rfl 6 (by decide) (ht _ fl_X4_43) (fun _ h9 => h9) rfl dX4_count_13 ?_
      refine lv_iload_n hx hb dX4_count_16 rfl (lv_at hl 1 rfl) ?_
      refine lv_bipush (v := (10 : Int32)) hx hb dX4_count_17 (by decide) ?_
      refine lv_isub hx hb dX4_count_19 ?_
      obtain ⟨hin, h⟩ := h
      refine va_iald hx hb hK hP 1 0 rfl rfl hin dX4_count_20 ?_
      exact hret (T_refusals (p1 - (10 : Int32)).toNatClampNeg) () _ _ _ _ rfl h hP hS dX4_count_21
