def wpX4_nail (post : Int32 → (Nat → Int32) → Int64 → Int64 → Int32 → (Nat → Int64) → (Nat → Int64) → Prop) (T_refusals : Nat → Int32) (n_drilled : Int64) (n_total : Int64) (n_open : Int32) (n_weights : Nat → Int64) (n_woods : Nat → Int32) (n_sums : Nat → Int64) (p1 : Int32) (p2 : Int32) : Prop := wpX4_isNoInch (fun (r_1 : Int32) => ((r_1 = (0 : Int32) → (((p2 = (0 : Int32) → (((p2 = (1 : Int32) → (wpX3_couldNail (fun (r_17 : Int32) => ((r_17 = (0 : Int32) → (wpX4_refuse (fun (r_30 : Int32) (T_refusals_31 : Nat → Int32) => post r_30 T_refusals_31 n_drilled n_total n_open n_weights n_sums) T_refusals (-3 : Int32))) ∧ (¬ (r_17 = (0 : Int32)) → (((p2 = (1 : Int32) → (wpX3_takeNail (fun (n_drilled_24 : Int64) (n_total_25 : Int64) (n_open_26 : Int32) (n_weights_27 : Nat → Int64) (n_sums_28 : Nat → Int64) => wpJ6_bitCount_0f7a4 (fun (r_29 : Int32) => post r_29 T_refusals n_drilled_24 n_total_25 n_open_26 n_weights_27 n_sums_28) n_open_26) n_drilled n_open n_weights n_woods n_sums p1 (1 : Int32))) ∧ (¬ (p2 = (1 : Int32)) → (wpX3_takeNail (fun (n_drilled_18 : Int64) (n_total_19 : Int64) (n_open_20 : Int32) (n_weights_21 : Nat → Int64) (n_sums_22 : Nat → Int64) => wpJ6_bitCount_0f7a4 (fun (r_23 : Int32) => post r_23 T_refusals n_drilled_18 n_total_19 n_open_20 n_weights_21 n_sums_22) n_open_20) n_drilled n_open n_weights n_woods n_sums p1 (0 : Int32)))))))) n_open n_woods p1 (1 : Int32))) ∧ (¬ (p2 = (1 : Int32)) → (wpX3_couldNail (fun (r_2 : Int32) => ((r_2 = (0 : Int32) → (wpX4_refuse (fun (r_15 : Int32) (T_refusals_16 : Nat → Int32) => post r_15 T_refusals_16 n_drilled n_total n_open n_weights n_sums) T_refusals (-3 : Int32))) ∧ (¬ (r_2 = (0 : Int32)) → (((p2 = (1 : Int32) → (wpX3_takeNail (fun (n_drilled_9 : Int64) (n_total_10 : Int64) (n_open_11 : Int32) (n_weights_12 : Nat → Int64) (n_sums_13 : Nat → Int64) => wpJ6_bitCount_0f7a4 (fun (r_14 : Int32) => post r_14 T_refusals n_drilled_9 n_total_10 n_open_11 n_weights_12 n_sums_13) n_open_11) n_drilled n_open n_weights n_woods n_sums p1 (1 : Int32))) ∧ (¬ (p2 = (1 : Int32)) → (wpX3_takeNail (fun (n_drilled_3 : Int64) (n_total_4 : Int64) (n_open_5 : Int32) (n_weights_6 : Nat → Int64) (n_sums_7 : Nat → Int64) => wpJ6_bitCount_0f7a4 (fun (r_8 : Int32) => post r_8 T_refusals n_drilled_3 n_total_4 n_open_5 n_weights_6 n_sums_7) n_open_5) n_drilled n_open n_weights n_woods n_sums p1 (0 : Int32)))))))) n_open n_woods p1 (0 : Int32)))))) ∧ (¬ (p2 = (0 : Int32)) → (((p2 = (1 : Int32) → (((p2 = (1 : Int32) → (wpX3_couldNail (fun (r_47 : Int32) => ((r_47 = (0 : Int32) → (wpX4_refuse (fun (r_60 : Int32) (T_refusals_61 : Nat → Int32) => post r_60 T_refusals_61 n_drilled n_total n_open n_weights n_sums) T_refusals (-3 : Int32))) ∧ (¬ (r_47 = (0 : Int32)) → (((p2 = (1 : Int32) → (wpX3_takeNail (fun (n_drilled_54 : Int64) (n_total_55 : Int64) (n_open_56 : Int32) (n_weights_57 : Nat → Int64) (n_sums_58 : Nat → Int64) => wpJ6_bitCount_0f7a4 (fun (r_59 : Int32) => post r_59 T_refusals n_drilled_54 n_total_55 n_open_56 n_weights_57 n_sums_58) n_open_56) n_drilled n_open n_weights n_woods n_sums p1 (1 : Int32))) ∧ (¬ (p2 = (1 : Int32)) → (wpX3_takeNail (fun (n_drilled_48 : Int64) (n_total_49 : Int64) (n_open_50 : Int32) (n_weights_51 : Nat → Int64) (n_sums_52 : Nat → Int64) => wpJ6_bitCount_0f7a4 (fun (r_53 : Int32) => post r_53 T_refusals n_drilled_48 n_total_49 n_open_50 n_weights_51 n_sums_52) n_open_50) n_drilled n_open n_weights n_woods n_sums p1 (0 : Int32)))))))) n_open n_woods p1 (1 : Int32))) ∧ (¬ (p2 = (1 : Int32)) → (wpX3_couldNail (fun (r_32 : Int32) => ((r_32 = (0 : Int32) → (wpX4_refuse (fun (r_45 : Int32) (T_refusals_46 : Nat → Int32) => post r_45 T_refusals_46 n_drilled n_total n_open n_weights n_sums) T_refusals (-3 : Int32))) ∧ (¬ (r_32 = (0 : Int32)) → (((p2 = (1 : Int32) → (wpX3_takeNail (fun (n_drilled_39 : Int64) (n_total_40 : Int64) (n_open_41 : Int32) (n_weights_42 : Nat → Int64) (n_sums_43 : Nat → Int64) => wpJ6_bitCount_0f7a4 (fun (r_44 : Int32) => post r_44 T_refusals n_drilled_39 n_total_40 n_open_41 n_weights_42 n_sums_43) n_open_41) n_drilled n_open n_weights n_woods n_sums p1 (1 : Int32))) ∧ (¬ (p2 = (1 : Int32)) → (wpX3_takeNail (fun (n_drilled_33 : Int64) (n_total_34 : Int64) (n_open_35 : Int32) (n_weights_36 : Nat → Int64) (n_sums_37 : Nat → Int64) => wpJ6_bitCount_0f7a4 (fun (r_38 : Int32) => post r_38 T_refusals n_drilled_33 n_total_34 n_open_35 n_weights_36 n_sums_37) n_open_35) n_drilled n_open n_weights n_woods n_sums p1 (0 : Int32)))))))) n_open n_woods p1 (0 : Int32)))))) ∧ (¬ (p2 = (1 : Int32)) → (wpX4_refuse (fun (r_62 : Int32) (T_refusals_63 : Nat → Int32) => post r_62 T_refusals_63 n_drilled n_total n_open n_weights n_sums) T_refusals (-2 : Int32))))))))) ∧ (¬ (r_1 = (0 : Int32)) → (wpX4_refuse (fun (r_64 : Int32) (T_refusals_65 : Nat → Int32) => post r_64 T_refusals_65 n_drilled n_total n_open n_weights n_sums) T_refusals (-1 : Int32))))) p1
set_option maxHeartbeats 4000000 in
set_option maxRecDepth 100000 in
theorem mX4_nail (l : Launch) (D : va_G) (cI cJ cC : ClassId) (G : Nat → Nat → Nat) (a_T : Nat → Nat) (a_n : Nat → Nat) (a_k : Nat → Nat) (a_t : Nat → Nat) (a_s : Nat → Nat) (a_r : Nat → Nat) (a_c : Nat → Nat) (sz : Nat) (T_isKept : Int32) (T_refusals : Nat → Int32) (n_space : Int32) (n_beam : Int32) (n_door : Int32) (n_law : Int32) (n_used : Int32) (n_pipes : Int32) (n_drilled : Int64) (n_total : Int64) (n_open : Int32) (n_pipeInches : Nat → Int32) (n_pipeChances : Nat → Int32) (n_weights : Nat → Int64) (n_woods : Nat → Int32) (n_sums : Nat → Int64) (p1 : Int32) (p2 : Int32) (post : Int32 → (Nat → Int32) → Int64 → Int64 → Int32 → (Nat → Int64) → (Nat → Int64) → Prop) (h : wpX4_nail post T_refusals n_drilled n_total n_open n_weights n_woods n_sums p1 p2) : Met l yX4_nail (wz yX4_nail cX4_nail 3 (some .int)) ({ frames := 4, cells := 0, slots := 0, locals := 90 }) (va_Pc [.ref (a_T 0), .int p1, .int p2] (PW D (tz cI cJ cC) G ((bX4 cI cJ cC a_T a_n a_k a_t a_s a_r a_c T_isKept T_refusals) ++ (bX3 cI cJ cC a_n n_space n_beam n_door n_law n_used n_pipes n_drilled n_total n_open n_pipeInches n_pipeChances n_weights n_woods n_sums)) sz)) (va_Qi (fun (r : Int32) (u : (Nat → Int32) × Int64 × Int64 × Int32 × (Nat → Int64) × (Nat → Int64)) => post r u.1 u.2.1 u.2.2.1 u.2.2.2.1 u.2.2.2.2.1 u.2.2.2.2.2) (fun (u : (Nat → Int32) × Int64 × Int64 × Int32 × (Nat → Int64) × (Nat → Int64)) t => va_P D vwCl ((bX4 cI cJ cC a_T a_n a_k a_t a_s a_r a_c T_isKept u.1) ++ (bX3 cI cJ cC a_n n_space n_beam n_door n_law n_used n_pipes u.2.1 u.2.2.1 u.2.2.2.1 n_pipeInches n_pipeChances u.2.2.2.2.1 n_woods u.2.2.2.2.2)) t.heap) (va_A ((bX4 cI cJ cC a_T a_n a_k a_t a_s a_r a_c T_isKept T_refusals) ++ (bX3 cI cJ cC a_n n_space n_beam n_door n_law n_used n_pipes n_drilled n_total n_open n_pipeInches n_pipeChances n_weights n_woods n_sums)) sz)) 0 0 (va_A ((bX4 cI cJ cC a_T a_n a_k a_t a_s a_r a_c T_isKept T_refusals) ++ (bX3 cI cJ cC a_n n_space n_beam n_door n_law n_used n_pipes n_drilled n_total n_open n_pipeInches n_pipeChances n_weights n_woods n_sums)) sz) := by
  refine zmi (gw := fun (u : (Nat → Int32) × Int64 × Int64 × Int32 × (Nat → Int64) × (Nat → Int64)) => (bX4 cI cJ cC a_T a_n a_k a_t a_s a_r a_c T_isKept u.1) ++ (bX3 cI cJ cC a_n n_space n_beam n_door n_law n_used n_pipes u.2.1 u.2.2.1 u.2.2.2.1 n_pipeInches n_pipeChances u.2.2.2.2.1 n_woods u.2.2.2.2.2)) (plainFor_of_name (by decide)) (Nat.le_of_ble_eq_true rfl) ?_
  intro p e s m below meth c A Q ls S hK hD hA hE hP hl hret
  obtain ⟨hx, hb, hml, hown, ht⟩ := id S
  have hS : va_S A s.heap s.heap [] := va_S.rf
  have hDD : ∀ ws : va_W, ws.map (fun q => q.1) = [a_T 0, a_T 1, a_n 0, a_n 1, a_n 2, a_n 3, a_n 4, a_n 5] → va_D A ws := fun ws hw => zD hD (hw.trans rfl)
  have hl : lv_has ls 3 [(0, .ref (a_T 0)), (1, .int p1), (2, .int p2)] := hl
  unfold wpX4_nail at h
  refine lv_iload_n hx hb dX4_nail_0 rfl (lv_at hl 1 rfl) ?_
  refine zci hA zD0 hS (zrunS (As := [.int p1]) (rest := []) S hK hA hE zP0 zD0 hS (mX4_isNoInch l D cI cJ cC G _ p1 _ h) kX4_isNoInch ml_X4_95 ⟨rfl, rfl, by decide, by decide⟩ rfl hl.1 rfl (Nat.le_of_ble_eq_true rfl) dX4_nail_1 ⟨Nat.zero_le _, Nat.zero_le _⟩) (fun r_1 u H locs h hP1 hk1 hS => ?_)
  try dsimp only at h
  have hP : va_P D vwCl ((bX4 cI cJ cC a_T a_n a_k a_t a_s a_r a_c T_isKept T_refusals) ++ (bX3 cI cJ cC a_n n_space n_beam n_door n_law n_used n_pipes n_drilled n_total n_open n_pipeInches n_pipeChances n_weights n_woods n_sums)) H := zKeep hP hk1
  refine lv_if_eq (tgt := 13) hx hb dX4_nail_4 (by decide) (fun z => ?_) (fun z => ?_)
  · replace h := h.1 z
    refine lv_iload_n hx hb dX4_nail_13 rfl (lv_at hl 2 rfl) ?_
    refine lv_if_eq (tgt := 29) hx hb dX4_nail_14 (by decide) (fun z => ?_) (fun z => ?_)
    · replace h := h.1 z
      refine lv_aload_n hx hb dX4_nail_29 rfl (lv_at hl 0 rfl) ?_
      refine va_get (D := D) (ci := 4) (v := .ref (a_n 0)) (C := RX4) (T := TX4) (N := 8) hx hb ht inX4 hown hK hP 0 rfl rfl 0 (by decide) (ht _ fl_X4_10) (fun _ h9 => h9) rfl dX4_nail_30 ?_
      refine lv_iload_n hx hb dX4_nail_33 rfl (lv_at hl 1 rfl) ?_
      refine lv_iload_n hx hb dX4_nail_34 rfl (lv_at hl 2 rfl) ?_
      refine lv_iconst (v := (1 : Int32)) hx hb dX4_nail_35 (by decide) ?_
      refine lv_icmp_ne (tgt := 43) hx hb dX4_nail_36 (by decide) (fun z => ?_) (fun z => ?_)
      · replace h := h.2 z
        refine lv_iconst (v := (0 : Int32)) hx hb dX4_nail_43 (by decide) ?_
        have hPw : va_P D vwCl ((bX3 cI cJ cC a_n n_space n_beam n_door n_law n_used n_pipes n_drilled n_total n_open n_pipeInches n_pipeChances n_weights n_woods n_sums)) _ := hP.sub [2, 3, 4, 5, 6, 7] rfl
        have hDw : va_D A ((bX3 cI cJ cC a_n n_space n_beam n_door n_law n_used n_pipes n_drilled n_total n_open n_pipeInches n_pipeChances n_weights n_woods n_sums)) := (hDD _ rfl).sub (ws := (bX4 cI cJ cC a_T a_n a_k a_t a_s a_r a_c T_isKept T_refusals) ++ (bX3 cI cJ cC a_n n_space n_beam n_door n_law n_used n_pipes n_drilled n_total n_open n_pipeInches n_pipeChances n_weights n_woods n_sums)) [2, 3, 4, 5, 6, 7] (by decide) rfl
        refine zci hA hDw hS (zrunV (As := [.int p1, .int (0 : Int32)]) (rest := []) S hK hA hE hPw hDw hS (mX3_couldNail l D cI cJ cC G a_n _ n_space n_beam n_door n_law n_used n_pipes n_drilled n_total n_open n_pipeInches n_pipeChances n_weights n_woods n_sums p1 (0 : Int32) _ h) kX3_couldNail ml_X4_132 ⟨rfl, rfl, by decide, by decide⟩ (q0 := 0) (ci := 3) rfl rfl rfl rfl hl.1 rfl (Nat.le_of_ble_eq_true rfl) dX4_nail_44 ⟨Nat.zero_le _, Nat.zero_le _⟩) (fun r_2 u H locs h hP1 hk1 hS => ?_)
        try dsimp only at h
        have hP : va_P D vwCl ((bX4 cI cJ cC a_T a_n a_k a_t a_s a_r a_c T_isKept T_refusals) ++ (bX3 cI cJ cC a_n n_space n_beam n_door n_law n_used n_pipes n_drilled n_total n_open n_pipeInches n_pipeChances n_weights n_woods n_sums)) H := zMerge hP (hDD _ rfl) [2, 3, 4, 5, 6, 7] rfl rfl hk1 hP1
        refine lv_if_ne (tgt := 57) hx hb dX4_nail_47 (by decide) (fun z => ?_) (fun z => ?_)
        · replace h := h.2 z
          refine lv_aload_n hx hb dX4_nail_57 rfl (lv_at hl 0 rfl) ?_
          refine va_get (D := D) (ci := 4) (v := .ref (a_n 0)) (C := RX4) (T := TX4) (N := 8) hx hb ht inX4 hown hK hP 0 rfl rfl 0 (by decide) (ht _ fl_X4_10) (fun _ h9 => h9) rfl dX4_nail_58 ?_
          refine lv_iload_n hx hb dX4_nail_61 rfl (lv_at hl 1 rfl) ?_
          refine lv_iload_n hx hb dX4_nail_62 rfl (lv_at hl 2 rfl) ?_
          refine lv_iconst (v := (1 : Int32)) hx hb dX4_nail_63 (by decide) ?_
          refine lv_icmp_ne (tgt := 71) hx hb dX4_nail_64 (by decide) (fun z => ?_) (fun z => ?_)
          · replace h := h.2 z
            refine lv_iconst (v := (0 : Int32)) hx hb dX4_nail_71 (by decide) ?_
            have hPw : va_P D vwCl ((bX3 cI cJ cC a_n n_space n_beam n_door n_law n_used n_pipes n_drilled n_total n_open n_pipeInches n_pipeChances n_weights n_woods n_sums)) _ := hP.sub [2, 3, 4, 5, 6, 7] rfl
            have hDw : va_D A ((bX3 cI cJ cC a_n n_space n_beam n_door n_law n_used n_pipes n_drilled n_total n_open n_pipeInches n_pipeChances n_weights n_woods n_sums)) := (hDD _ rfl).sub (ws := (bX4 cI cJ cC a_T a_n a_k a_t a_s a_r a_c T_isKept T_refusals) ++ (bX3 cI cJ cC a_n n_space n_beam n_door n_law n_used n_pipes n_drilled n_total n_open n_pipeInches n_pipeChances n_weights n_woods n_sums)) [2, 3, 4, 5, 6, 7] (by decide) rfl
            refine zcv hA hDw hS (zrunV (As := [.int p1, .int (0 : Int32)]) (rest := []) S hK hA hE hPw hDw hS (mX3_takeNail l D cI cJ cC G a_n _ n_space n_beam n_door n_law n_used n_pipes n_drilled n_total n_open n_pipeInches n_pipeChances n_weights n_woods n_sums p1 (0 : Int32) _ h) kX3_takeNail ml_X4_136 ⟨rfl, rfl, by decide, by decide⟩ (q0 := 0) (ci := 3) rfl rfl rfl rfl hl.1 rfl (Nat.le_of_ble_eq_true rfl) dX4_nail_72 ⟨Nat.zero_le _, Nat.zero_le _⟩) (fun u H locs h hP1 hk1 hS => ?_)
            obtain ⟨n_drilled_3, n_total_4, n_open_5, n_weights_6, n_sums_7⟩ := u
            dsimp only at h
            have hP : va_P D vwCl ((bX4 cI cJ cC a_T a_n a_k a_t a_s a_r a_c T_isKept T_refusals) ++ (bX3 cI cJ cC a_n n_space n_beam n_door n_law n_used n_pipes n_drilled_3 n_total_4 n_open_5 n_pipeInches n_pipeChances n_weights_6 n_woods n_sums_7)) H := zMerge hP (hDD _ rfl) [2, 3, 4, 5, 6, 7] rfl rfl hk1 hP1
            refine lv_aload_n hx hb dX4_nail_75 rfl (lv_at hl 0 rfl) ?_
            refine va_get (D := D) (ci := 4) (v := .ref (a_n 0)) (C := RX4) (T := TX4) (N := 8) hx hb ht inX4 hown hK hP 0 rfl rfl 0 (by decide) (ht _ fl_X4_10) (fun _ h9 => h9) rfl dX4_nail_76 ?_
            refine va_get (D := D) (ci := 3) (v := .int n_open_5) (C := RX3) (T := TX3) (N := 14) hx hb ht inX3 hown hK hP 2 rfl rfl 13 (by decide) (ht _ fl_X4_140) (fun _ h9 => h9) rfl dX4_nail_79 ?_
            refine zci hA zD0 hS (zrunS (As := [.int n_open_5]) (rest := []) S hK hA hE zP0 zD0 hS (mJ6_bitCount_0f7a4 l D cI cJ cC G _ n_open_5 _ h) kJ6_bitCount_0f7a4 ml_X4_143 ⟨rfl, rfl, by decide, by decide⟩ rfl hl.1 rfl (Nat.le_of_ble_eq_true rfl) dX4_nail_82 ⟨Nat.zero_le _, Nat.zero_le _⟩) (fun r_8 u H locs h hP1 hk1 hS => ?_)
            try dsimp only at h
            have hP : va_P D vwCl ((bX4 cI cJ cC a_T a_n a_k a_t a_s a_r a_c T_isKept T_refusals) ++ (bX3 cI cJ cC a_n n_space n_beam n_door n_law n_used n_pipes n_drilled_3 n_total_4 n_open_5 n_pipeInches n_pipeChances n_weights_6 n_woods n_sums_7)) H := zKeep hP hk1
            exact hret r_8 (T_refusals, n_drilled_3, n_total_4, n_open_5, n_weights_6, n_sums_7) _ _ _ _ rfl h hP hS dX4_nail_85
          · replace h := h.1 z
            refine lv_iconst (v := (1 : Int32)) hx hb dX4_nail_67 (by decide) ?_
            refine lv_goto (tgt := 72) hx hb dX4_nail_68 (by decide) ?_
            have hPw : va_P D vwCl ((bX3 cI cJ cC a_n n_space n_beam n_door n_law n_used n_pipes n_drilled n_total n_open n_pipeInches n_pipeChances n_weights n_woods n_sums)) _ := hP.sub [2, 3, 4, 5, 6, 7] rfl
            have hDw : va_D A ((bX3 cI cJ cC a_n n_space n_beam n_door n_law n_used n_pipes n_drilled n_total n_open n_pipeInches n_pipeChances n_weights n_woods n_sums)) := (hDD _ rfl).sub (ws := (bX4 cI cJ cC a_T a_n a_k a_t a_s a_r a_c T_isKept T_refusals) ++ (bX3 cI cJ cC a_n n_space n_beam n_door n_law n_used n_pipes n_drilled n_total n_open n_pipeInches n_pipeChances n_weights n_woods n_sums)) [2, 3, 4, 5, 6, 7] (by decide) rfl
            refine zcv hA hDw hS (zrunV (As := [.int p1, .int (1 : Int32)]) (rest := []) S hK hA hE hPw hDw hS (mX3_takeNail l D cI cJ cC G a_n _ n_space n_beam n_door n_law n_used n_pipes n_drilled n_total n_open n_pipeInches n_pipeChances n_weights n_woods n_sums p1 (1 : Int32) _ h) kX3_takeNail ml_X4_136 ⟨rfl, rfl, by decide, by decide⟩ (q0 := 0) (ci := 3) rfl rfl rfl rfl hl.1 rfl (Nat.le_of_ble_eq_true rfl) dX4_nail_72 ⟨Nat.zero_le _, Nat.zero_le _⟩) (fun u H locs h hP1 hk1 hS => ?_)
            obtain ⟨n_drilled_9, n_total_10, n_open_11, n_weights_12, n_sums_13⟩ := u
            dsimp only at h
            have hP : va_P D vwCl ((bX4 cI cJ cC a_T a_n a_k a_t a_s a_r a_c T_isKept T_refusals) ++ (bX3 cI cJ cC a_n n_space n_beam n_door n_law n_used n_pipes n_drilled_9 n_total_10 n_open_11 n_pipeInches n_pipeChances n_weights_12 n_woods n_sums_13)) H := zMerge hP (hDD _ rfl) [2, 3, 4, 5, 6, 7] rfl rfl hk1 hP1
            refine lv_aload_n hx hb dX4_nail_75 rfl (lv_at hl 0 rfl) ?_
            refine va_get (D := D) (ci := 4) (v := .ref (a_n 0)) (C := RX4) (T := TX4) (N := 8) hx hb ht inX4 hown hK hP 0 rfl rfl 0 (by decide) (ht _ fl_X4_10) (fun _ h9 => h9) rfl dX4_nail_76 ?_
            refine va_get (D := D) (ci := 3) (v := .int n_open_11) (C := RX3) (T := TX3) (N := 14) hx hb ht inX3 hown hK hP 2 rfl rfl 13 (by decide) (ht _ fl_X4_140) (fun _ h9 => h9) rfl dX4_nail_79 ?_
            refine zci hA zD0 hS (zrunS (As := [.int n_open_11]) (rest := []) S hK hA hE zP0 zD0 hS (mJ6_bitCount_0f7a4 l D cI cJ cC G _ n_open_11 _ h) kJ6_bitCount_0f7a4 ml_X4_143 ⟨rfl, rfl, by decide, by decide⟩ rfl hl.1 rfl (Nat.le_of_ble_eq_true rfl) dX4_nail_82 ⟨Nat.zero_le _, Nat.zero_le _⟩) (fun r_14 u H locs h hP1 hk1 hS => ?_)
            try dsimp only at h
            have hP : va_P D vwCl ((bX4 cI cJ cC a_T a_n a_k a_t a_s a_r a_c T_isKept T_refusals) ++ (bX3 cI cJ cC a_n n_space n_beam n_door n_law n_used n_pipes n_drilled_9 n_total_10 n_open_11 n_pipeInches n_pipeChances n_weights_12 n_woods n_sums_13)) H := zKeep hP hk1
            exact hret r_14 (T_refusals, n_drilled_9, n_total_10, n_open_11, n_weights_12, n_sums_13) _ _ _ _ rfl h hP hS dX4_nail_85
        · replace h := h.1 z
          refine lv_aload_n hx hb dX4_nail_50 rfl (lv_at hl 0 rfl) ?_
          refine lv_bipush (v := (-3 : Int32)) hx hb dX4_nail_51 (by decide) ?_
          have hPw : va_P D vwCl ((bX4 cI cJ cC a_T a_n a_k a_t a_s a_r a_c T_isKept T_refusals)) _ := hP.sub [0, 1] rfl
          have hDw : va_D A ((bX4 cI cJ cC a_T a_n a_k a_t a_s a_r a_c T_isKept T_refusals)) := (hDD _ rfl).sub (ws := (bX4 cI cJ cC a_T a_n a_k a_t a_s a_r a_c T_isKept T_refusals) ++ (bX3 cI cJ cC a_n n_space n_beam n_door n_law n_used n_pipes n_drilled n_total n_open n_pipeInches n_pipeChances n_weights n_woods n_sums)) [0, 1] (by decide) rfl
          refine zci hA hDw hS (zrunV (As := [.int (-3 : Int32)]) (rest := []) S hK hA hE hPw hDw hS (mX4_refuse l D cI cJ cC G a_T a_n a_k a_t a_s a_r a_c _ T_isKept T_refusals (-3 : Int32) _ h) kX4_refuse ml_X4_51 ⟨rfl, rfl, by decide, by decide⟩ (q0 := 0) (ci := 4) rfl rfl rfl rfl hl.1 rfl (Nat.le_of_ble_eq_true rfl) dX4_nail_53 ⟨Nat.zero_le _, Nat.zero_le _⟩) (fun r_15 T_refusals_16 H locs h hP1 hk1 hS => ?_)
          try dsimp only at h
          have hP : va_P D vwCl ((bX4 cI cJ cC a_T a_n a_k a_t a_s a_r a_c T_isKept T_refusals_16) ++ (bX3 cI cJ cC a_n n_space n_beam n_door n_law n_used n_pipes n_drilled n_total n_open n_pipeInches n_pipeChances n_weights n_woods n_sums)) H := zMerge hP (hDD _ rfl) [0, 1] rfl rfl hk1 hP1
          exact hret r_15 (T_refusals_16, n_drilled, n_total, n_open, n_weights, n_sums) _ _ _ _ rfl h hP hS dX4_nail_56
      · replace h := h.1 z
        refine lv_iconst (v := (1 : Int32)) hx hb dX4_nail_39 (by decide) ?_
        refine lv_goto (tgt := 44) hx hb dX4_nail_40 (by decide) ?_
        have hPw : va_P D vwCl ((bX3 cI cJ cC a_n n_space n_beam n_door n_law n_used n_pipes n_drilled n_total n_open n_pipeInches n_pipeChances n_weights n_woods n_sums)) _ := hP.sub [2, 3, 4, 5, 6, 7] rfl
        have hDw : va_D A ((bX3 cI cJ cC a_n n_space n_beam n_door n_law n_used n_pipes n_drilled n_total n_open n_pipeInches n_pipeChances n_weights n_woods n_sums)) := (hDD _ rfl).sub (ws := (bX4 cI cJ cC a_T a_n a_k a_t a_s a_r a_c T_isKept T_refusals) ++ (bX3 cI cJ cC a_n n_space n_beam n_door n_law n_used n_pipes n_drilled n_total n_open n_pipeInches n_pipeChances n_weights n_woods n_sums)) [2, 3, 4, 5, 6, 7] (by decide) rfl
        refine zci hA hDw hS (zrunV (As := [.int p1, .int (1 : Int32)]) (rest := []) S hK hA hE hPw hDw hS (mX3_couldNail l D cI cJ cC G a_n _ n_space n_beam n_door n_law n_used n_pipes n_drilled n_total n_open n_pipeInches n_pipeChances n_weights n_woods n_sums p1 (1 : Int32) _ h) kX3_couldNail ml_X4_132 ⟨rfl, rfl, by decide, by decide⟩ (q0 := 0) (ci := 3) rfl rfl rfl rfl hl.1 rfl (Nat.le_of_ble_eq_true rfl) dX4_nail_44 ⟨Nat.zero_le _, Nat.zero_le _⟩) (fun r_17 u H locs h hP1 hk1 hS => ?_)
        try dsimp only at h
        have hP : va_P D vwCl ((bX4 cI cJ cC a_T a_n a_k a_t a_s a_r a_c T_isKept T_refusals) ++ (bX3 cI cJ cC a_n n_space n_beam n_door n_law n_used n_pipes n_drilled n_total n_open n_pipeInches n_pipeChances n_weights n_woods n_sums)) H := zMerge hP (hDD _ rfl) [2, 3, 4, 5, 6, 7] rfl rfl hk1 hP1
        refine lv_if_ne (tgt := 57) hx hb dX4_nail_47 (by decide) (fun z => ?_) (fun z => ?_)
        · replace h := h.2 z
          refine lv_aload_n hx hb dX4_nail_57 rfl (lv_at hl 0 rfl) ?_
          refine va_get (D := D) (ci := 4) (v := .ref (a_n 0)) (C := RX4) (T := TX4) (N := 8) hx hb ht inX4 hown hK hP 0 rfl rfl 0 (by decide) (ht _ fl_X4_10) (fun _ h9 => h9) rfl dX4_nail_58 ?_
          refine lv_iload_n hx hb dX4_nail_61 rfl (lv_at hl 1 rfl) ?_
          refine lv_iload_n hx hb dX4_nail_62 rfl (lv_at hl 2 rfl) ?_
          refine lv_iconst (v := (1 : Int32)) hx hb dX4_nail_63 (by decide) ?_
          refine lv_icmp_ne (tgt := 71) hx hb dX4_nail_64 (by decide) (fun z => ?_) (fun z => ?_)
          · replace h := h.2 z
            refine lv_iconst (v := (0 : Int32)) hx hb dX4_nail_71 (by decide) ?_
            have hPw : va_P D vwCl ((bX3 cI cJ cC a_n n_space n_beam n_door n_law n_used n_pipes n_drilled n_total n_open n_pipeInches n_pipeChances n_weights n_woods n_sums)) _ := hP.sub [2, 3, 4, 5, 6, 7] rfl
            have hDw : va_D A ((bX3 cI cJ cC a_n n_space n_beam n_door n_law n_used n_pipes n_drilled n_total n_open n_pipeInches n_pipeChances n_weights n_woods n_sums)) := (hDD _ rfl).sub (ws := (bX4 cI cJ cC a_T a_n a_k a_t a_s a_r a_c T_isKept T_refusals) ++ (bX3 cI cJ cC a_n n_space n_beam n_door n_law n_used n_pipes n_drilled n_total n_open n_pipeInches n_pipeChances n_weights n_woods n_sums)) [2, 3, 4, 5, 6, 7] (by decide) rfl
            refine zcv hA hDw hS (zrunV (As := [.int p1, .int (0 : Int32)]) (rest := []) S hK hA hE hPw hDw hS (mX3_takeNail l D cI cJ cC G a_n _ n_space n_beam n_door n_law n_used n_pipes n_drilled n_total n_open n_pipeInches n_pipeChances n_weights n_woods n_sums p1 (0 : Int32) _ h) kX3_takeNail ml_X4_136 ⟨rfl, rfl, by decide, by decide⟩ (q0 := 0) (ci := 3) rfl rfl rfl rfl hl.1 rfl (Nat.le_of_ble_eq_true rfl) dX4_nail_72 ⟨Nat.zero_le _, Nat.zero_le _⟩) (fun u H locs h hP1 hk1 hS => ?_)
            obtain ⟨n_drilled_18, n_total_19, n_open_20, n_weights_21, n_sums_22⟩ := u
            dsimp only at h
            have hP : va_P D vwCl ((bX4 cI cJ cC a_T a_n a_k a_t a_s a_r a_c T_isKept T_refusals) ++ (bX3 cI cJ cC a_n n_space n_beam n_door n_law n_used n_pipes n_drilled_18 n_total_19 n_open_20 n_pipeInches n_pipeChances n_weights_21 n_woods n_sums_22)) H := zMerge hP (hDD _ rfl) [2, 3, 4, 5, 6, 7] rfl rfl hk1 hP1
            refine lv_aload_n hx hb dX4_nail_75 rfl (lv_at hl 0 rfl) ?_
            refine va_get (D := D) (ci := 4) (v := .ref (a_n 0)) (C := RX4) (T := TX4) (N := 8) hx hb ht inX4 hown hK hP 0 rfl rfl 0 (by decide) (ht _ fl_X4_10) (fun _ h9 => h9) rfl dX4_nail_76 ?_
            refine va_get (D := D) (ci := 3) (v := .int n_open_20) (C := RX3) (T := TX3) (N := 14) hx hb ht inX3 hown hK hP 2 rfl rfl 13 (by decide) (ht _ fl_X4_140) (fun _ h9 => h9) rfl dX4_nail_79 ?_
            refine zci hA zD0 hS (zrunS (As := [.int n_open_20]) (rest := []) S hK hA hE zP0 zD0 hS (mJ6_bitCount_0f7a4 l D cI cJ cC G _ n_open_20 _ h) kJ6_bitCount_0f7a4 ml_X4_143 ⟨rfl, rfl, by decide, by decide⟩ rfl hl.1 rfl (Nat.le_of_ble_eq_true rfl) dX4_nail_82 ⟨Nat.zero_le _, Nat.zero_le _⟩) (fun r_23 u H locs h hP1 hk1 hS => ?_)
            try dsimp only at h
            have hP : va_P D vwCl ((bX4 cI cJ cC a_T a_n a_k a_t a_s a_r a_c T_isKept T_refusals) ++ (bX3 cI cJ cC a_n n_space n_beam n_door n_law n_used n_pipes n_drilled_18 n_total_19 n_open_20 n_pipeInches n_pipeChances n_weights_21 n_woods n_sums_22)) H := zKeep hP hk1
            exact hret r_23 (T_refusals, n_drilled_18, n_total_19, n_open_20, n_weights_21, n_sums_22) _ _ _ _ rfl h hP hS dX4_nail_85
          · replace h := h.1 z
            refine lv_iconst (v := (1 : Int32)) hx hb dX4_nail_67 (by decide) ?_
            refine lv_goto (tgt := 72) hx hb dX4_nail_68 (by decide) ?_
            have hPw : va_P D vwCl ((bX3 cI cJ cC a_n n_space n_beam n_door n_law n_used n_pipes n_drilled n_total n_open n_pipeInches n_pipeChances n_weights n_woods n_sums)) _ := hP.sub [2, 3, 4, 5, 6, 7] rfl
            have hDw : va_D A ((bX3 cI cJ cC a_n n_space n_beam n_door n_law n_used n_pipes n_drilled n_total n_open n_pipeInches n_pipeChances n_weights n_woods n_sums)) := (hDD _ rfl).sub (ws := (bX4 cI cJ cC a_T a_n a_k a_t a_s a_r a_c T_isKept T_refusals) ++ (bX3 cI cJ cC a_n n_space n_beam n_door n_law n_used n_pipes n_drilled n_total n_open n_pipeInches n_pipeChances n_weights n_woods n_sums)) [2, 3, 4, 5, 6, 7] (by decide) rfl
            refine zcv hA hDw hS (zrunV (As := [.int p1, .int (1 : Int32)]) (rest := []) S hK hA hE hPw hDw hS (mX3_takeNail l D cI cJ cC G a_n _ n_space n_beam n_door n_law n_used n_pipes n_drilled n_total n_open n_pipeInches n_pipeChances n_weights n_woods n_sums p1 (1 : Int32) _ h) kX3_takeNail ml_X4_136 ⟨rfl, rfl, by decide, by decide⟩ (q0 := 0) (ci := 3) rfl rfl rfl rfl hl.1 rfl (Nat.le_of_ble_eq_true rfl) dX4_nail_72 ⟨Nat.zero_le _, Nat.zero_le _⟩) (fun u H locs h hP1 hk1 hS => ?_)
            obtain ⟨n_drilled_24, n_total_25, n_open_26, n_weights_27, n_sums_28⟩ := u
            dsimp only at h
            have hP : va_P D vwCl ((bX4 cI cJ cC a_T a_n a_k a_t a_s a_r a_c T_isKept T_refusals) ++ (bX3 cI cJ cC a_n n_space n_beam n_door n_law n_used n_pipes n_drilled_24 n_total_25 n_open_26 n_pipeInches n_pipeChances n_weights_27 n_woods n_sums_28)) H := zMerge hP (hDD _ rfl) [2, 3, 4, 5, 6, 7] rfl rfl hk1 hP1
            refine lv_aload_n hx hb dX4_nail_75 rfl (lv_at hl 0 rfl) ?_
            refine va_get (D := D) (ci := 4) (v := .ref (a_n 0)) (C := RX4) (T := TX4) (N := 8) hx hb ht inX4 hown hK hP 0 rfl rfl 0 (by decide) (ht _ fl_X4_10) (fun _ h9 => h9) rfl dX4_nail_76 ?_
            refine va_get (D := D) (ci := 3) (v := .int n_open_26) (C := RX3) (T := TX3) (N := 14) hx hb ht inX3 hown hK hP 2 rfl rfl 13 (by decide) (ht _ fl_X4_140) (fun _ h9 => h9) rfl dX4_nail_79 ?_
            refine zci hA zD0 hS (zrunS (As := [.int n_open_26]) (rest := []) S hK hA hE zP0 zD0 hS (mJ6_bitCount_0f7a4 l D cI cJ cC G _ n_open_26 _ h) kJ6_bitCount_0f7a4 ml_X4_143 ⟨rfl, rfl, by decide, by decide⟩ rfl hl.1 rfl (Nat.le_of_ble_eq_true rfl) dX4_nail_82 ⟨Nat.zero_le _, Nat.zero_le _⟩) (fun r_29 u H locs h hP1 hk1 hS => ?_)
            try dsimp only at h
            have hP : va_P D vwCl ((bX4 cI cJ cC a_T a_n a_k a_t a_s a_r a_c T_isKept T_refusals) ++ (bX3 cI cJ cC a_n n_space n_beam n_door n_law n_used n_pipes n_drilled_24 n_total_25 n_open_26 n_pipeInches n_pipeChances n_weights_27 n_woods n_sums_28)) H := zKeep hP hk1
            exact hret r_29 (T_refusals, n_drilled_24, n_total_25, n_open_26, n_weights_27, n_sums_28) _ _ _ _ rfl h hP hS dX4_nail_85
        · replace h := h.1 z
          refine lv_aload_n hx hb dX4_nail_50 rfl (lv_at hl 0 rfl) ?_
          refine lv_bipush (v := (-3 : Int32)) hx hb dX4_nail_51 (by decide) ?_
          have hPw : va_P D vwCl ((bX4 cI cJ cC a_T a_n a_k a_t a_s a_r a_c T_isKept T_refusals)) _ := hP.sub [0, 1] rfl
          have hDw : va_D A ((bX4 cI cJ cC a_T a_n a_k a_t a_s a_r a_c T_isKept T_refusals)) := (hDD _ rfl).sub (ws := (bX4 cI cJ cC a_T a_n a_k a_t a_s a_r a_c T_isKept T_refusals) ++ (bX3 cI cJ cC a_n n_space n_beam n_door n_law n_used n_pipes n_drilled n_total n_open n_pipeInches n_pipeChances n_weights n_woods n_sums)) [0, 1] (by decide) rfl
          refine zci hA hDw hS (zrunV (As := [.int (-3 : Int32)]) (rest := []) S hK hA hE hPw hDw hS (mX4_refuse l D cI cJ cC G a_T a_n a_k a_t a_s a_r a_c _ T_isKept T_refusals (-3 : Int32) _ h) kX4_refuse ml_X4_51 ⟨rfl, rfl, by decide, by decide⟩ (q0 := 0) (ci := 4) rfl rfl rfl rfl hl.1 rfl (Nat.le_of_ble_eq_true rfl) dX4_nail_53 ⟨Nat.zero_le _, Nat.zero_le _⟩) (fun r_30 T_refusals_31 H locs h hP1 hk1 hS => ?_)
          try dsimp only at h
          have hP : va_P D vwCl ((bX4 cI cJ cC a_T a_n a_k a_t a_s a_r a_c T_isKept T_refusals_31) ++ (bX3 cI cJ cC a_n n_space n_beam n_door n_law n_used n_pipes n_drilled n_total n_open n_pipeInches n_pipeChances n_weights n_woods n_sums)) H := zMerge hP (hDD _ rfl) [0, 1] rfl rfl hk1 hP1
          exact hret r_30 (T_refusals_31, n_drilled, n_total, n_open, n_weights, n_sums) _ _ _ _ rfl h hP hS dX4_nail_56
    · replace h := h.2 z
      refine lv_iload_n hx hb dX4_nail_17 rfl (lv_at hl 2 rfl) ?_
      refine lv_iconst (v := (1 : Int32)) hx hb dX4_nail_18 (by decide) ?_
      refine lv_icmp_eq (tgt := 29) hx hb dX4_nail_19 (by decide) (fun z => ?_) (fun z => ?_)
      · replace h := h.1 z
        refine lv_aload_n hx hb dX4_nail_29 rfl (lv_at hl 0 rfl) ?_
        refine va_get (D := D) (ci := 4) (v := .ref (a_n 0)) (C := RX4) (T := TX4) (N := 8) hx hb ht inX4 hown hK hP 0 rfl rfl 0 (by decide) (ht _ fl_X4_10) (fun _ h9 => h9) rfl dX4_nail_30 ?_
        refine lv_iload_n hx hb dX4_nail_33 rfl (lv_at hl 1 rfl) ?_
        refine lv_iload_n hx hb dX4_nail_34 rfl (lv_at hl 2 rfl) ?_
        refine lv_iconst (v := (1 : Int32)) hx hb dX4_nail_35 (by decide) ?_
        refine lv_icmp_ne (tgt := 43) hx hb dX4_nail_36 (by decide) (fun z => ?_) (fun z => ?_)
        · replace h := h.2 z
          refine lv_iconst (v := (0 : Int32)) hx hb dX4_nail_43 (by decide) ?_
          have hPw : va_P D vwCl ((bX3 cI cJ cC a_n n_space n_beam n_door n_law n_used n_pipes n_drilled n_total n_open n_pipeInches n_pipeChances n_weights n_woods n_sums)) _ := hP.sub [2, 3, 4, 5, 6, 7] rfl
          have hDw : va_D A ((bX3 cI cJ cC a_n n_space n_beam n_door n_law n_used n_pipes n_drilled n_total n_open n_pipeInches n_pipeChances n_weights n_woods n_sums)) := (hDD _ rfl).sub (ws := (bX4 cI cJ cC a_T a_n a_k a_t a_s a_r a_c T_isKept T_refusals) ++ (bX3 cI cJ cC a_n n_space n_beam n_door n_law n_used n_pipes n_drilled n_total n_open n_pipeInches n_pipeChances n_weights n_woods n_sums)) [2, 3, 4, 5, 6, 7] (by decide) rfl
          refine zci hA hDw hS (zrunV (As := [.int p1, .int (0 : Int32)]) (rest := []) S hK hA hE hPw hDw hS (mX3_couldNail l D cI cJ cC G a_n _ n_space n_beam n_door n_law n_used n_pipes n_drilled n_total n_open n_pipeInches n_pipeChances n_weights n_woods n_sums p1 (0 : Int32) _ h) kX3_couldNail ml_X4_132 ⟨rfl, rfl, by decide, by decide⟩ (q0 := 0) (ci := 3) rfl rfl rfl rfl hl.1 rfl (Nat.le_of_ble_eq_true rfl) dX4_nail_44 ⟨Nat.zero_le _, Nat.zero_le _⟩) (fun r_32 u H locs h hP1 hk1 hS => ?_)
          try dsimp only at h
          have hP : va_P D vwCl ((bX4 cI cJ cC a_T a_n a_k a_t a_s a_r a_c T_isKept T_refusals) ++ (bX3 cI cJ cC a_n n_space n_beam n_door n_law n_used n_pipes n_drilled n_total n_open n_pipeInches n_pipeChances n_weights n_woods n_sums)) H := zMerge hP (hDD _ rfl) [2, 3, 4, 5, 6, 7] rfl rfl hk1 hP1
          refine lv_if_ne (tgt := 57) hx hb dX4_nail_47 (by decide) (fun z => ?_) (fun z => ?_)
          · replace h := h.2 z
            refine lv_aload_n hx hb dX4_nail_57 rfl (lv_at hl 0 rfl) ?_
            refine va_get (D := D) (ci := 4) (v := .ref (a_n 0)) (C := RX4) (T := TX4) (N := 8) hx hb ht inX4 hown hK hP 0 rfl rfl 0 (by decide) (ht _ fl_X4_10) (fun _ h9 => h9) rfl dX4_nail_58 ?_
            refine lv_iload_n hx hb dX4_nail_61 rfl (lv_at hl 1 rfl) ?_
            refine lv_iload_n hx hb dX4_nail_62 rfl (lv_at hl 2 rfl) ?_
            refine lv_iconst (v := (1 : Int32)) hx hb dX4_nail_63 (by decide) ?_
            refine lv_icmp_ne (tgt := 71) hx hb dX4_nail_64 (by decide) (fun z => ?_) (fun z => ?_)
            · replace h := h.2 z
              refine lv_iconst (v := (0 : Int32)) hx hb dX4_nail_71 (by decide) ?_
              have hPw : va_P D vwCl ((bX3 cI cJ cC a_n n_space n_beam n_door n_law n_used n_pipes n_drilled n_total n_open n_pipeInches n_pipeChances n_weights n_woods n_sums)) _ := hP.sub [2, 3, 4, 5, 6, 7] rfl
              have hDw : va_D A ((bX3 cI cJ cC a_n n_space n_beam n_door n_law n_used n_pipes n_drilled n_total n_open n_pipeInches n_pipeChances n_weights n_woods n_sums)) := (hDD _ rfl).sub (ws := (bX4 cI cJ cC a_T a_n a_k a_t a_s a_r a_c T_isKept T_refusals) ++ (bX3 cI cJ cC a_n n_space n_beam n_door n_law n_used n_pipes n_drilled n_total n_open n_pipeInches n_pipeChances n_weights n_woods n_sums)) [2, 3, 4, 5, 6, 7] (by decide) rfl
              refine zcv hA hDw hS (zrunV (As := [.int p1, .int (0 : Int32)]) (rest := []) S hK hA hE hPw hDw hS (mX3_takeNail l D cI cJ cC G a_n _ n_space n_beam n_door n_law n_used n_pipes n_drilled n_total n_open n_pipeInches n_pipeChances n_weights n_woods n_sums p1 (0 : Int32) _ h) kX3_takeNail ml_X4_136 ⟨rfl, rfl, by decide, by decide⟩ (q0 := 0) (ci := 3) rfl rfl rfl rfl hl.1 rfl (Nat.le_of_ble_eq_true rfl) dX4_nail_72 ⟨Nat.zero_le _, Nat.zero_le _⟩) (fun u H locs h hP1 hk1 hS => ?_)
              obtain ⟨n_drilled_33, n_total_34, n_open_35, n_weights_36, n_sums_37⟩ := u
              dsimp only at h
              have hP : va_P D vwCl ((bX4 cI cJ cC a_T a_n a_k a_t a_s a_r a_c T_isKept T_refusals) ++ (bX3 cI cJ cC a_n n_space n_beam n_door n_law n_used n_pipes n_drilled_33 n_total_34 n_open_35 n_pipeInches n_pipeChances n_weights_36 n_woods n_sums_37)) H := zMerge hP (hDD _ rfl) [2, 3, 4, 5, 6, 7] rfl rfl hk1 hP1
              refine lv_aload_n hx hb dX4_nail_75 rfl (lv_at hl 0 rfl) ?_
              refine va_get (D := D) (ci := 4) (v := .ref (a_n 0)) (C := RX4) (T := TX4) (N := 8) hx hb ht inX4 hown hK hP 0 rfl rfl 0 (by decide) (ht _ fl_X4_10) (fun _ h9 => h9) rfl dX4_nail_76 ?_
              refine va_get (D := D) (ci := 3) (v := .int n_open_35) (C := RX3) (T := TX3) (N := 14) hx hb ht inX3 hown hK hP 2 rfl rfl 13 (by decide) (ht _ fl_X4_140) (fun _ h9 => h9) rfl dX4_nail_79 ?_
              refine zci hA zD0 hS (zrunS (As := [.int n_open_35]) (rest := []) S hK hA hE zP0 zD0 hS (mJ6_bitCount_0f7a4 l D cI cJ cC G _ n_open_35 _ h) kJ6_bitCount_0f7a4 ml_X4_143 ⟨rfl, rfl, by decide, by decide⟩ rfl hl.1 rfl (Nat.le_of_ble_eq_true rfl) dX4_nail_82 ⟨Nat.zero_le _, Nat.zero_le _⟩) (fun r_38 u H locs h hP1 hk1 hS => ?_)
              try dsimp only at h
              have hP : va_P D vwCl ((bX4 cI cJ cC a_T a_n a_k a_t a_s a_r a_c T_isKept T_refusals) ++ (bX3 cI cJ cC a_n n_space n_beam n_door n_law n_used n_pipes n_drilled_33 n_total_34 n_open_35 n_pipeInches n_pipeChances n_weights_36 n_woods n_sums_37)) H := zKeep hP hk1
              exact hret r_38 (T_refusals, n_drilled_33, n_total_34, n_open_35, n_weights_36, n_sums_37) _ _ _ _ rfl h hP hS dX4_nail_85
            · replace h := h.1 z
              refine lv_iconst (v := (1 : Int32)) hx hb dX4_nail_67 (by decide) ?_
              refine lv_goto (tgt := 72) hx hb dX4_nail_68 (by decide) ?_
              have hPw : va_P D vwCl ((bX3 cI cJ cC a_n n_space n_beam n_door n_law n_used n_pipes n_drilled n_total n_open n_pipeInches n_pipeChances n_weights n_woods n_sums)) _ := hP.sub [2, 3, 4, 5, 6, 7] rfl
              have hDw : va_D A ((bX3 cI cJ cC a_n n_space n_beam n_door n_law n_used n_pipes n_drilled n_total n_open n_pipeInches n_pipeChances n_weights n_woods n_sums)) := (hDD _ rfl).sub (ws := (bX4 cI cJ cC a_T a_n a_k a_t a_s a_r a_c T_isKept T_refusals) ++ (bX3 cI cJ cC a_n n_space n_beam n_door n_law n_used n_pipes n_drilled n_total n_open n_pipeInches n_pipeChances n_weights n_woods n_sums)) [2, 3, 4, 5, 6, 7] (by decide) rfl
              refine zcv hA hDw hS (zrunV (As := [.int p1, .int (1 : Int32)]) (rest := []) S hK hA hE hPw hDw hS (mX3_takeNail l D cI cJ cC G a_n _ n_space n_beam n_door n_law n_used n_pipes n_drilled n_total n_open n_pipeInches n_pipeChances n_weights n_woods n_sums p1 (1 : Int32) _ h) kX3_takeNail ml_X4_136 ⟨rfl, rfl, by decide, by decide⟩ (q0 := 0) (ci := 3) rfl rfl rfl rfl hl.1 rfl (Nat.le_of_ble_eq_true rfl) dX4_nail_72 ⟨Nat.zero_le _, Nat.zero_le _⟩) (fun u H locs h hP1 hk1 hS => ?_)
              obtain ⟨n_drilled_39, n_total_40, n_open_41, n_weights_42, n_sums_43⟩ := u
              dsimp only at h
              have hP : va_P D vwCl ((bX4 cI cJ cC a_T a_n a_k a_t a_s a_r a_c T_isKept T_refusals) ++ (bX3 cI cJ cC a_n n_space n_beam n_door n_law n_used n_pipes n_drilled_39 n_total_40 n_open_41 n_pipeInches n_pipeChances n_weights_42 n_woods n_sums_43)) H := zMerge hP (hDD _ rfl) [2, 3, 4, 5, 6, 7] rfl rfl hk1 hP1
              refine lv_aload_n hx hb dX4_nail_75 rfl (lv_at hl 0 rfl) ?_
              refine va_get (D := D) (ci := 4) (v := .ref (a_n 0)) (C := RX4) (T := TX4) (N := 8) hx hb ht inX4 hown hK hP 0 rfl rfl 0 (by decide) (ht _ fl_X4_10) (fun _ h9 => h9) rfl dX4_nail_76 ?_
              refine va_get (D := D) (ci := 3) (v := .int n_open_41) (C := RX3) (T := TX3) (N := 14) hx hb ht inX3 hown hK hP 2 rfl rfl 13 (by decide) (ht _ fl_X4_140) (fun _ h9 => h9) rfl dX4_nail_79 ?_
              refine zci hA zD0 hS (zrunS (As := [.int n_open_41]) (rest := []) S hK hA hE zP0 zD0 hS (mJ6_bitCount_0f7a4 l D cI cJ cC G _ n_open_41 _ h) kJ6_bitCount_0f7a4 ml_X4_143 ⟨rfl, rfl, by decide, by decide⟩ rfl hl.1 rfl (Nat.le_of_ble_eq_true rfl) dX4_nail_82 ⟨Nat.zero_le _, Nat.zero_le _⟩) (fun r_44 u H locs h hP1 hk1 hS => ?_)
              try dsimp only at h
              have hP : va_P D vwCl ((bX4 cI cJ cC a_T a_n a_k a_t a_s a_r a_c T_isKept T_refusals) ++ (bX3 cI cJ cC a_n n_space n_beam n_door n_law n_used n_pipes n_drilled_39 n_total_40 n_open_41 n_pipeInches n_pipeChances n_weights_42 n_woods n_sums_43)) H := zKeep hP hk1
              exact hret r_44 (T_refusals, n_drilled_39, n_total_40, n_open_41, n_weights_42, n_sums_43) _ _ _ _ rfl h hP hS dX4_nail_85
          · replace h := h.1 z
            refine lv_aload_n hx hb dX4_nail_50 rfl (lv_at hl 0 rfl) ?_
            refine lv_bipush (v := (-3 : Int32)) hx hb dX4_nail_51 (by decide) ?_
            have hPw : va_P D vwCl ((bX4 cI cJ cC a_T a_n a_k a_t a_s a_r a_c T_isKept T_refusals)) _ := hP.sub [0, 1] rfl
            have hDw : va_D A ((bX4 cI cJ cC a_T a_n a_k a_t a_s a_r a_c T_isKept T_refusals)) := (hDD _ rfl).sub (ws := (bX4 cI cJ cC a_T a_n a_k a_t a_s a_r a_c T_isKept T_refusals) ++ (bX3 cI cJ cC a_n n_space n_beam n_door n_law n_used n_pipes n_drilled n_total n_open n_pipeInches n_pipeChances n_weights n_woods n_sums)) [0, 1] (by decide) rfl
            refine zci hA hDw hS (zrunV (As := [.int (-3 : Int32)]) (rest := []) S hK hA hE hPw hDw hS (mX4_refuse l D cI cJ cC G a_T a_n a_k a_t a_s a_r a_c _ T_isKept T_refusals (-3 : Int32) _ h) kX4_refuse ml_X4_51 ⟨rfl, rfl, by decide, by decide⟩ (q0 := 0) (ci := 4) rfl rfl rfl rfl hl.1 rfl (Nat.le_of_ble_eq_true rfl) dX4_nail_53 ⟨Nat.zero_le _, Nat.zero_le _⟩) (fun r_45 T_refusals_46 H locs h hP1 hk1 hS => ?_)
            try dsimp only at h
            have hP : va_P D vwCl ((bX4 cI cJ cC a_T a_n a_k a_t a_s a_r a_c T_isKept T_refusals_46) ++ (bX3 cI cJ cC a_n n_space n_beam n_door n_law n_used n_pipes n_drilled n_total n_open n_pipeInches n_pipeChances n_weights n_woods n_sums)) H := zMerge hP (hDD _ rfl) [0, 1] rfl rfl hk1 hP1
            exact hret r_45 (T_refusals_46, n_drilled, n_total, n_open, n_weights, n_sums) _ _ _ _ rfl h hP hS dX4_nail_56
        · replace h := h.1 z
          refine lv_iconst (v := (1 : Int32)) hx hb dX4_nail_39 (by decide) ?_
          refine lv_goto (tgt := 44) hx hb dX4_nail_40 (by decide) ?_
          have hPw : va_P D vwCl ((bX3 cI cJ cC a_n n_space n_beam n_door n_law n_used n_pipes n_drilled n_total n_open n_pipeInches n_pipeChances n_weights n_woods n_sums)) _ := hP.sub [2, 3, 4, 5, 6, 7] rfl
          have hDw : va_D A ((bX3 cI cJ cC a_n n_space n_beam n_door n_law n_used n_pipes n_drilled n_total n_open n_pipeInches n_pipeChances n_weights n_woods n_sums)) := (hDD _ rfl).sub (ws := (bX4 cI cJ cC a_T a_n a_k a_t a_s a_r a_c T_isKept T_refusals) ++ (bX3 cI cJ cC a_n n_space n_beam n_door n_law n_used n_pipes n_drilled n_total n_open n_pipeInches n_pipeChances n_weights n_woods n_sums)) [2, 3, 4, 5, 6, 7] (by decide) rfl
          refine zci hA hDw hS (zrunV (As := [.int p1, .int (1 : Int32)]) (rest := []) S hK hA hE hPw hDw hS (mX3_couldNail l D cI cJ cC G a_n _ n_space n_beam n_door n_law n_used n_pipes n_drilled n_total n_open n_pipeInches n_pipeChances n_weights n_woods n_sums p1 (1 : Int32) _ h) kX3_couldNail ml_X4_132 ⟨rfl, rfl, by decide, by decide⟩ (q0 := 0) (ci := 3) rfl rfl rfl rfl hl.1 rfl (Nat.le_of_ble_eq_true rfl) dX4_nail_44 ⟨Nat.zero_le _, Nat.zero_le _⟩) (fun r_47 u H locs h hP1 hk1 hS => ?_)
          try dsimp only at h
          have hP : va_P D vwCl ((bX4 cI cJ cC a_T a_n a_k a_t a_s a_r a_c T_isKept T_refusals) ++ (bX3 cI cJ cC a_n n_space n_beam n_door n_law n_used n_pipes n_drilled n_total n_open n_pipeInches n_pipeChances n_weights n_woods n_sums)) H := zMerge hP (hDD _ rfl) [2, 3, 4, 5, 6, 7] rfl rfl hk1 hP1
          refine lv_if_ne (tgt := 57) hx hb dX4_nail_47 (by decide) (fun z => ?_) (fun z => ?_)
          · replace h := h.2 z
            refine lv_aload_n hx hb dX4_nail_57 rfl (lv_at hl 0 rfl) ?_
            refine va_get (D := D) (ci := 4) (v := .ref (a_n 0)) (C := RX4) (T := TX4) (N := 8) hx hb ht inX4 hown hK hP 0 rfl rfl 0 (by decide) (ht _ fl_X4_10) (fun _ h9 => h9) rfl dX4_nail_58 ?_
            refine lv_iload_n hx hb dX4_nail_61 rfl (lv_at hl 1 rfl) ?_
            refine lv_iload_n hx hb dX4_nail_62 rfl (lv_at hl 2 rfl) ?_
            refine lv_iconst (v := (1 : Int32)) hx hb dX4_nail_63 (by decide) ?_
            refine lv_icmp_ne (tgt := 71) hx hb dX4_nail_64 (by decide) (fun z => ?_) (fun z => ?_)
            · replace h := h.2 z
              refine lv_iconst (v := (0 : Int32)) hx hb dX4_nail_71 (by decide) ?_
              have hPw : va_P D vwCl ((bX3 cI cJ cC a_n n_space n_beam n_door n_law n_used n_pipes n_drilled n_total n_open n_pipeInches n_pipeChances n_weights n_woods n_sums)) _ := hP.sub [2, 3, 4, 5, 6, 7] rfl
              have hDw : va_D A ((bX3 cI cJ cC a_n n_space n_beam n_door n_law n_used n_pipes n_drilled n_total n_open n_pipeInches n_pipeChances n_weights n_woods n_sums)) := (hDD _ rfl).sub (ws := (bX4 cI cJ cC a_T a_n a_k a_t a_s a_r a_c T_isKept T_refusals) ++ (bX3 cI cJ cC a_n n_space n_beam n_door n_law n_used n_pipes n_drilled n_total n_open n_pipeInches n_pipeChances n_weights n_woods n_sums)) [2, 3, 4, 5, 6, 7] (by decide) rfl
              refine zcv hA hDw hS (zrunV (As := [.int p1, .int (0 : Int32)]) (rest := []) S hK hA hE hPw hDw hS (mX3_takeNail l D cI cJ cC G a_n _ n_space n_beam n_door n_law n_used n_pipes n_drilled n_total n_open n_pipeInches n_pipeChances n_weights n_woods n_sums p1 (0 : Int32) _ h) kX3_takeNail ml_X4_136 ⟨rfl, rfl, by decide, by decide⟩ (q0 := 0) (ci := 3) rfl rfl rfl rfl hl.1 rfl (Nat.le_of_ble_eq_true rfl) dX4_nail_72 ⟨Nat.zero_le _, Nat.zero_le _⟩) (fun u H locs h hP1 hk1 hS => ?_)
              obtain ⟨n_drilled_48, n_total_49, n_open_50, n_weights_51, n_sums_52⟩ := u
              dsimp only at h
              have hP : va_P D vwCl ((bX4 cI cJ cC a_T a_n a_k a_t a_s a_r a_c T_isKept T_refusals) ++ (bX3 cI cJ cC a_n n_space n_beam n_door n_law n_used n_pipes n_drilled_48 n_total_49 n_open_50 n_pipeInches n_pipeChances n_weights_51 n_woods n_sums_52)) H := zMerge hP (hDD _ rfl) [2, 3, 4, 5, 6, 7] rfl rfl hk1 hP1
              refine lv_aload_n hx hb dX4_nail_75 rfl (lv_at hl 0 rfl) ?_
              refine va_get (D := D) (ci := 4) (v := .ref (a_n 0)) (C := RX4) (T := TX4) (N := 8) hx hb ht inX4 hown hK hP 0 rfl rfl 0 (by decide) (ht _ fl_X4_10) (fun _ h9 => h9) rfl dX4_nail_76 ?_
              refine va_get (D := D) (ci := 3) (v := .int n_open_50) (C := RX3) (T := TX3) (N := 14) hx hb ht inX3 hown hK hP 2 rfl rfl 13 (by decide) (ht _ fl_X4_140) (fun _ h9 => h9) rfl dX4_nail_79 ?_
              refine zci hA zD0 hS (zrunS (As := [.int n_open_50]) (rest := []) S hK hA hE zP0 zD0 hS (mJ6_bitCount_0f7a4 l D cI cJ cC G _ n_open_50 _ h) kJ6_bitCount_0f7a4 ml_X4_143 ⟨rfl, rfl, by decide, by decide⟩ rfl hl.1 rfl (Nat.le_of_ble_eq_true rfl) dX4_nail_82 ⟨Nat.zero_le _, Nat.zero_le _⟩) (fun r_53 u H locs h hP1 hk1 hS => ?_)
              try dsimp only at h
              have hP : va_P D vwCl ((bX4 cI cJ cC a_T a_n a_k a_t a_s a_r a_c T_isKept T_refusals) ++ (bX3 cI cJ cC a_n n_space n_beam n_door n_law n_used n_pipes n_drilled_48 n_total_49 n_open_50 n_pipeInches n_pipeChances n_weights_51 n_woods n_sums_52)) H := zKeep hP hk1
              exact hret r_53 (T_refusals, n_drilled_48, n_total_49, n_open_50, n_weights_51, n_sums_52) _ _ _ _ rfl h hP hS dX4_nail_85
            · replace h := h.1 z
              refine lv_iconst (v := (1 : Int32)) hx hb dX4_nail_67 (by decide) ?_
              refine lv_goto (tgt := 72) hx hb dX4_nail_68 (by decide) ?_
              have hPw : va_P D vwCl ((bX3 cI cJ cC a_n n_space n_beam n_door n_law n_used n_pipes n_drilled n_total n_open n_pipeInches n_pipeChances n_weights n_woods n_sums)) _ := hP.sub [2, 3, 4, 5, 6, 7] rfl
              have hDw : va_D A ((bX3 cI cJ cC a_n n_space n_beam n_door n_law n_used n_pipes n_drilled n_total n_open n_pipeInches n_pipeChances n_weights n_woods n_sums)) := (hDD _ rfl).sub (ws := (bX4 cI cJ cC a_T a_n a_k a_t a_s a_r a_c T_isKept T_refusals) ++ (bX3 cI cJ cC a_n n_space n_beam n_door n_law n_used n_pipes n_drilled n_total n_open n_pipeInches n_pipeChances n_weights n_woods n_sums)) [2, 3, 4, 5, 6, 7] (by decide) rfl
              refine zcv hA hDw hS (zrunV (As := [.int p1, .int (1 : Int32)]) (rest := []) S hK hA hE hPw hDw hS (mX3_takeNail l D cI cJ cC G a_n _ n_space n_beam n_door n_law n_used n_pipes n_drilled n_total n_open n_pipeInches n_pipeChances n_weights n_woods n_sums p1 (1 : Int32) _ h) kX3_takeNail ml_X4_136 ⟨rfl, rfl, by decide, by decide⟩ (q0 := 0) (ci := 3) rfl rfl rfl rfl hl.1 rfl (Nat.le_of_ble_eq_true rfl) dX4_nail_72 ⟨Nat.zero_le _, Nat.zero_le _⟩) (fun u H locs h hP1 hk1 hS => ?_)
              obtain ⟨n_drilled_54, n_total_55, n_open_56, n_weights_57, n_sums_58⟩ := u
              dsimp only at h
              have hP : va_P D vwCl ((bX4 cI cJ cC a_T a_n a_k a_t a_s a_r a_c T_isKept T_refusals) ++ (bX3 cI cJ cC a_n n_space n_beam n_door n_law n_used n_pipes n_drilled_54 n_total_55 n_open_56 n_pipeInches n_pipeChances n_weights_57 n_woods n_sums_58)) H := zMerge hP (hDD _ rfl) [2, 3, 4, 5, 6, 7] rfl rfl hk1 hP1
              refine lv_aload_n hx hb dX4_nail_75 rfl (lv_at hl 0 rfl) ?_
              refine va_get (D := D) (ci := 4) (v := .ref (a_n 0)) (C := RX4) (T := TX4) (N := 8) hx hb ht inX4 hown hK hP 0 rfl rfl 0 (by decide) (ht _ fl_X4_10) (fun _ h9 => h9) rfl dX4_nail_76 ?_
              refine va_get (D := D) (ci := 3) (v := .int n_open_56) (C := RX3) (T := TX3) (N := 14) hx hb ht inX3 hown hK hP 2 rfl rfl 13 (by decide) (ht _ fl_X4_140) (fun _ h9 => h9) rfl dX4_nail_79 ?_
              refine zci hA zD0 hS (zrunS (As := [.int n_open_56]) (rest := []) S hK hA hE zP0 zD0 hS (mJ6_bitCount_0f7a4 l D cI cJ cC G _ n_open_56 _ h) kJ6_bitCount_0f7a4 ml_X4_143 ⟨rfl, rfl, by decide, by decide⟩ rfl hl.1 rfl (Nat.le_of_ble_eq_true rfl) dX4_nail_82 ⟨Nat.zero_le _, Nat.zero_le _⟩) (fun r_59 u H locs h hP1 hk1 hS => ?_)
              try dsimp only at h
              have hP : va_P D vwCl ((bX4 cI cJ cC a_T a_n a_k a_t a_s a_r a_c T_isKept T_refusals) ++ (bX3 cI cJ cC a_n n_space n_beam n_door n_law n_used n_pipes n_drilled_54 n_total_55 n_open_56 n_pipeInches n_pipeChances n_weights_57 n_woods n_sums_58)) H := zKeep hP hk1
              exact hret r_59 (T_refusals, n_drilled_54, n_total_55, n_open_56, n_weights_57, n_sums_58) _ _ _ _ rfl h hP hS dX4_nail_85
          · replace h := h.1 z
            refine lv_aload_n hx hb dX4_nail_50 rfl (lv_at hl 0 rfl) ?_
            refine lv_bipush (v := (-3 : Int32)) hx hb dX4_nail_51 (by decide) ?_
            have hPw : va_P D vwCl ((bX4 cI cJ cC a_T a_n a_k a_t a_s a_r a_c T_isKept T_refusals)) _ := hP.sub [0, 1] rfl
            have hDw : va_D A ((bX4 cI cJ cC a_T a_n a_k a_t a_s a_r a_c T_isKept T_refusals)) := (hDD _ rfl).sub (ws := (bX4 cI cJ cC a_T a_n a_k a_t a_s a_r a_c T_isKept T_refusals) ++ (bX3 cI cJ cC a_n n_space n_beam n_door n_law n_used n_pipes n_drilled n_total n_open n_pipeInches n_pipeChances n_weights n_woods n_sums)) [0, 1] (by decide) rfl
            refine zci hA hDw hS (zrunV (As := [.int (-3 : Int32)]) (rest := []) S hK hA hE hPw hDw hS (mX4_refuse l D cI cJ cC G a_T a_n a_k a_t a_s a_r a_c _ T_isKept T_refusals (-3 : Int32) _ h) kX4_refuse ml_X4_51 ⟨rfl, rfl, by decide, by decide⟩ (q0 := 0) (ci := 4) rfl rfl rfl rfl hl.1 rfl (Nat.le_of_ble_eq_true rfl) dX4_nail_53 ⟨Nat.zero_le _, Nat.zero_le _⟩) (fun r_60 T_refusals_61 H locs h hP1 hk1 hS => ?_)
            try dsimp only at h
            have hP : va_P D vwCl ((bX4 cI cJ cC a_T a_n a_k a_t a_s a_r a_c T_isKept T_refusals_61) ++ (bX3 cI cJ cC a_n n_space n_beam n_door n_law n_used n_pipes n_drilled n_total n_open n_pipeInches n_pipeChances n_weights n_woods n_sums)) H := zMerge hP (hDD _ rfl) [0, 1] rfl rfl hk1 hP1
            exact hret r_60 (T_refusals_61, n_drilled, n_total, n_open, n_weights, n_sums) _ _ _ _ rfl h hP hS dX4_nail_56
      · replace h := h.2 z
        refine lv_aload_n hx hb dX4_nail_22 rfl (lv_at hl 0 rfl) ?_
        refine lv_bipush (v := (-2 : Int32)) hx hb dX4_nail_23 (by decide) ?_
        have hPw : va_P D vwCl ((bX4 cI cJ cC a_T a_n a_k a_t a_s a_r a_c T_isKept T_refusals)) _ := hP.sub [0, 1] rfl
        have hDw : va_D A ((bX4 cI cJ cC a_T a_n a_k a_t a_s a_r a_c T_isKept T_refusals)) := (hDD _ rfl).sub (ws := (bX4 cI cJ cC a_T a_n a_k a_t a_s a_r a_c T_isKept T_refusals) ++ (bX3 cI cJ cC a_n n_space n_beam n_door n_law n_used n_pipes n_drilled n_total n_open n_pipeInches n_pipeChances n_weights n_woods n_sums)) [0, 1] (by decide) rfl
        refine zci hA hDw hS (zrunV (As := [.int (-2 : Int32)]) (rest := []) S hK hA hE hPw hDw hS (mX4_refuse l D cI cJ cC G a_T a_n a_k a_t a_s a_r a_c _ T_isKept T_refusals (-2 : Int32) _ h) kX4_refuse ml_X4_51 ⟨rfl, rfl, by decide, by decide⟩ (q0 := 0) (ci := 4) rfl rfl rfl rfl hl.1 rfl (Nat.le_of_ble_eq_true rfl) dX4_nail_25 ⟨Nat.zero_le _, Nat.zero_le _⟩) (fun r_62 T_refusals_63 H locs h hP1 hk1 hS => ?_)
        try dsimp only at h
        have hP : va_P D vwCl ((bX4 cI cJ cC a_T a_n a_k a_t a_s a_r a_c T_isKept T_refusals_63) ++ (bX3 cI cJ cC a_n n_space n_beam n_door n_law n_used n_pipes n_drilled n_total n_open n_pipeInches n_pipeChances n_weights n_woods n_sums)) H := zMerge hP (hDD _ rfl) [0, 1] rfl rfl hk1 hP1
        exact hret r_62 (T_refusals_63, n_drilled, n_total, n_open, n_weights, n_sums) _ _ _ _ rfl h hP hS dX4_nail_28
  · replace h := h.2 z
    refine lv_aload_n hx hb dX4_nail_7 rfl (lv_at hl 0 rfl) ?_
    refine lv_iconst (v := (-1 : Int32)) hx hb dX4_nail_8 (by decide) ?_
    have hPw : va_P D vwCl ((bX4 cI cJ cC a_T a_n a_k a_t a_s a_r a_c T_isKept T_refusals)) _ := hP.sub [0, 1] rfl
    have hDw : va_D A ((bX4 cI cJ cC a_T a_n a_k a_t a_s a_r a_c T_isKept T_refusals)) := (hDD _ rfl).sub (ws := (bX4 cI cJ cC a_T a_n a_k a_t a_s a_r a_c T_isKept T_refusals) ++ (bX3 cI cJ cC a_n n_space n_beam n_door n_law n_used n_pipes n_drilled n_total n_open n_pipeInches n_pipeChances n_weights n_woods n_sums)) [0, 1] (by decide) rfl
    refine zci hA hDw hS (zrunV (As := [.int (-1 : Int32)]) (rest := []) S hK hA hE hPw hDw hS (mX4_refuse l D cI cJ cC G a_T a_n a_k a_t a_s a_r a_c _ T_isKept T_refusals (-1 : Int32) _ h) kX4_refuse ml_X4_51 ⟨rfl, rfl, by decide, by decide⟩ (q0 := 0) (ci := 4) rfl rfl rfl rfl hl.1 rfl (Nat.le_of_ble_eq_true rfl) dX4_nail_9 ⟨Nat.zero_le _, Nat.zero_le _⟩) (fun r_64 T_refusals_65 H locs h hP1 hk1 hS => ?_)
    try dsimp only at h
    have hP : va_P D vwCl ((bX4 cI cJ cC a_T a_n a_k a_t a_s a_r a_c T_isKept T_refusals_65) ++ (bX3 cI cJ cC a_n n_space n_beam n_door n_law n_used n_pipes n_drilled n_total n_open n_pipeInches n_pipeChances n_weights n_woods n_sums)) H := zMerge hP (hDD _ rfl) [0, 1] rfl rfl hk1 hP1
    exact hret r_64 (T_refusals_65, n_drilled, n_total, n_open, n_weights, n_sums) _ _ _ _ rfl h hP hS dX4_nail_12
def wpX4_pipe (post : Int32 → (Nat → Int32) → Int32 → (Nat → Int32) → (Nat → Int32) → Prop) (T_refusals : Nat → Int32) (n_pipes : Int32) (n_pipeInches : Nat → Int32) (n_pipeChances : Nat → Int32) (p1 : Int32) (p2 : Int32) : Prop := wpX4_isNoInch (fun (r_1 : Int32) => ((r_1 = (0 : Int32) → ((((0 : Int32) ≤ p2 → ((((9 : Int32) < p2 → (wpX4_refuse (fun (r_2 : Int32) (T_refusals_3 : Nat → Int32) => post r_2 T_refusals_3 n_pipes n_pipeInches n_pipeChances) T_refusals (-6 : Int32))) ∧ (¬ ((9 : Int32) < p2) → (wpX3_hasRoomForPipe (fun (r_4 : Int32) => ((r_4 = (0 : Int32) → (wpX4_refuse (fun (r_8 : Int32) (T_refusals_9 : Nat → Int32) => post r_8 T_refusals_9 n_pipes n_pipeInches n_pipeChances) T_refusals (-6 : Int32))) ∧ (¬ (r_4 = (0 : Int32)) → (wpX3_takePipe (fun (n_pipes_5 : Int32) (n_pipeInches_6 : Nat → Int32) (n_pipeChances_7 : Nat → Int32) => post (n_pipes_5 - (1 : Int32)) T_refusals n_pipes_5 n_pipeInches_6 n_pipeChances_7) n_pipes n_pipeInches n_pipeChances p1 p2)))) n_pipes))))) ∧ (¬ ((0 : Int32) ≤ p2) → (wpX4_refuse (fun (r_10 : Int32) (T_refusals_11 : Nat → Int32) => post r_10 T_refusals_11 n_pipes n_pipeInches n_pipeChances) T_refusals (-4 : Int32)))))) ∧ (¬ (r_1 = (0 : Int32)) → (wpX4_refuse (fun (r_12 : Int32) (T_refusals_13 : Nat → Int32) => post r_12 T_refusals_13 n_pipes n_pipeInches n_pipeChances) T_refusals (-1 : Int32))))) p1
set_option maxHeartbeats 4000000 in
set_option maxRecDepth 100000 in
theorem mX4_pipe (l : Launch) (D : va_G) (cI cJ cC : ClassId) (G : Nat → Nat → Nat) (a_T : Nat → Nat) (a_n : Nat → Nat) (a_k : Nat → Nat) (a_t : Nat → Nat) (a_s : Nat → Nat) (a_r : Nat → Nat) (a_c : Nat → Nat) (sz : Nat) (T_isKept : Int32) (T_refusals : Nat → Int32) (n_space : Int32) (n_beam : Int32) (n_door : Int32) (n_law : Int32) (n_used : Int32) (n_pipes : Int32) (n_drilled : Int64) (n_total : Int64) (n_open : Int32) (n_pipeInches : Nat → Int32) (n_pipeChances : Nat → Int32) (n_weights : Nat → Int64) (n_woods : Nat → Int32) (n_sums : Nat → Int64) (p1 : Int32) (p2 : Int32) (post : Int32 → (Nat → Int32) → Int32 → (Nat → Int32) → (Nat → Int32) → Prop) (h : wpX4_pipe post T_refusals n_pipes n_pipeInches n_pipeChances p1 p2) : Met l yX4_pipe (wz yX4_pipe cX4_pipe 3 (some .int)) ({ frames := 2, cells := 0, slots := 0, locals := 42 }) (va_Pc [.ref (a_T 0), .int p1, .int p2] (PW D (tz cI cJ cC) G ((bX4 cI cJ cC a_T a_n a_k a_t a_s a_r a_c T_isKept T_refusals) ++ (bX3 cI cJ cC a_n n_space n_beam n_door n_law n_used n_pipes n_drilled n_total n_open n_pipeInches n_pipeChances n_weights n_woods n_sums)) sz)) (va_Qi (fun (r : Int32) (u : (Nat → Int32) × Int32 × (Nat → Int32) × (Nat → Int32)) => post r u.1 u.2.1 u.2.2.1 u.2.2.2) (fun (u : (Nat → Int32) × Int32 × (Nat → Int32) × (Nat → Int32)) t => va_P D vwCl ((bX4 cI cJ cC a_T a_n a_k a_t a_s a_r a_c T_isKept u.1) ++ (bX3 cI cJ cC a_n n_space n_beam n_door n_law n_used u.2.1 n_drilled n_total n_open u.2.2.1 u.2.2.2 n_weights n_woods n_sums)) t.heap) (va_A ((bX4 cI cJ cC a_T a_n a_k a_t a_s a_r a_c T_isKept T_refusals) ++ (bX3 cI cJ cC a_n n_space n_beam n_door n_law n_used n_pipes n_drilled n_total n_open n_pipeInches n_pipeChances n_weights n_woods n_sums)) sz)) 0 0 (va_A ((bX4 cI cJ cC a_T a_n a_k a_t a_s a_r a_c T_isKept T_refusals) ++ (bX3 cI cJ cC a_n n_space n_beam n_door n_law n_used n_pipes n_drilled n_total n_open n_pipeInches n_pipeChances n_weights n_woods n_sums)) sz) := by
  refine zmi (gw := fun (u : (Nat → Int32) × Int32 × (Nat → Int32) × (Nat → Int32)) => (bX4 cI cJ cC a_T a_n a_k a_t a_s a_r a_c T_isKept u.1) ++ (bX3 cI cJ cC a_n n_space n_beam n_door n_law n_used u.2.1 n_drilled n_total n_open u.2.2.1 u.2.2.2 n_weights n_woods n_sums)) (plainFor_of_name (by decide)) (Nat.le_of_ble_eq_true rfl) ?_
  intro p e s m below meth c A Q ls S hK hD hA hE hP hl hret
  obtain ⟨hx, hb, hml, hown, ht⟩ := id S
  have hS : va_S A s.heap s.heap [] := va_S.rf
  have hDD : ∀ ws : va_W, ws.map (fun q => q.1) = [a_T 0, a_T 1, a_n 0, a_n 1, a_n 2, a_n 3, a_n 4, a_n 5] → va_D A ws := fun ws hw => zD hD (hw.trans rfl)
  have hl : lv_has ls 3 [(0, .ref (a_T 0)), (1, .int p1), (2, .int p2)] := hl
  unfold wpX4_pipe at h
  refine lv_iload_n hx hb dX4_pipe_0 rfl (lv_at hl 1 rfl) ?_
  refine zci hA zD0 hS (zrunS (As := [.int p1]) (rest := []) S hK hA hE zP0 zD0 hS (mX4_isNoInch l D cI cJ cC G _ p1 _ h) kX4_isNoInch ml_X4_95 ⟨rfl, rfl, by decide, by decide⟩ rfl hl.1 rfl (Nat.le_of_ble_eq_true rfl) dX4_pipe_1 ⟨Nat.zero_le _, Nat.zero_le _⟩) (fun r_1 u H locs h hP1 hk1 hS => ?_)
  try dsimp only at h
  have hP : va_P D vwCl ((bX4 cI cJ cC a_T a_n a_k a_t a_s a_r a_c T_isKept T_refusals) ++ (bX3 cI cJ cC a_n n_space n_beam n_door n_law n_used n_pipes n_drilled n_total n_open n_pipeInches n_pipeChances n_weights n_woods n_sums)) H := zKeep hP hk1
  refine lv_if_eq (tgt := 13) hx hb dX4_pipe_4 (by decide) (fun z => ?_) (fun z => ?_)
  · replace h := h.1 z
    refine lv_iload_n hx hb dX4_pipe_13 rfl (lv_at hl 2 rfl) ?_
    refine lv_if_ge (tgt := 24) hx hb dX4_pipe_14 (by decide) (fun z => ?_) (fun z => ?_)
    · replace h := h.1 z
      refine lv_iload_n hx hb dX4_pipe_24 rfl (lv_at hl 2 rfl) ?_
      refine lv_bipush (v := (9 : Int32)) hx hb dX4_pipe_25 (by decide) ?_
      refine lv_icmp_gt (tgt := 40) hx hb dX4_pipe_27 (by decide) (fun z => ?_) (fun z => ?_)
      · replace h := h.1 z
        refine lv_aload_n hx hb dX4_pipe_40 rfl (lv_at hl 0 rfl) ?_
        refine lv_bipush (v := (-6 : Int32)) hx hb dX4_pipe_41 (by decide) ?_
        have hPw : va_P D vwCl ((bX4 cI cJ cC a_T a_n a_k a_t a_s a_r a_c T_isKept T_refusals)) _ := hP.sub [0, 1] rfl
        have hDw : va_D A ((bX4 cI cJ cC a_T a_n a_k a_t a_s a_r a_c T_isKept T_refusals)) := (hDD _ rfl).sub (ws := (bX4 cI cJ cC a_T a_n a_k a_t a_s a_r a_c T_isKept T_refusals) ++ (bX3 cI cJ cC a_n n_space n_beam n_door n_law n_used n_pipes n_drilled n_total n_open n_pipeInches n_pipeChances n_weights n_woods n_sums)) [0, 1] (by decide) rfl
        refine zci hA hDw hS (zrunV (As := [.int (-6 : Int32)]) (rest := []) S hK hA hE hPw hDw hS (mX4_refuse l D cI cJ cC G a_T a_n a_k a_t a_s a_r a_c _ T_isKept T_refusals (-6 : Int32) _ h) kX4_refuse ml_X4_51 ⟨rfl, rfl, by decide, by decide⟩ (q0 := 0) (ci := 4) rfl rfl rfl rfl hl.1 rfl (Nat.le_of_ble_eq_true rfl) dX4_pipe_43 ⟨Nat.zero_le _, Nat.zero_le _⟩) (fun r_2 T_refusals_3 H locs h hP1 hk1 hS => ?_)
        try dsimp only at h
        have hP : va_P D vwCl ((bX4 cI cJ cC a_T a_n a_k a_t a_s a_r a_c T_isKept T_refusals_3) ++ (bX3 cI cJ cC a_n n_space n_beam n_door n_law n_used n_pipes n_drilled n_total n_open n_pipeInches n_pipeChances n_weights n_woods n_sums)) H := zMerge hP (hDD _ rfl) [0, 1] rfl rfl hk1 hP1
        exact hret r_2 (T_refusals_3, n_pipes, n_pipeInches, n_pipeChances) _ _ _ _ rfl h hP hS dX4_pipe_46
      · replace h := h.2 z
        refine lv_aload_n hx hb dX4_pipe_30 rfl (lv_at hl 0 rfl) ?_
        refine va_get (D := D) (ci := 4) (v := .ref (a_n 0)) (C := RX4) (T := TX4) (N := 8) hx hb ht inX4 hown hK hP 0 rfl rfl 0 (by decide) (ht _ fl_X4_10) (fun _ h9 => h9) rfl dX4_pipe_31 ?_
        have hPw : va_P D vwCl ((bX3 cI cJ cC a_n n_space n_beam n_door n_law n_used n_pipes n_drilled n_total n_open n_pipeInches n_pipeChances n_weights n_woods n_sums)) _ := hP.sub [2, 3, 4, 5, 6, 7] rfl
        have hDw : va_D A ((bX3 cI cJ cC a_n n_space n_beam n_door n_law n_used n_pipes n_drilled n_total n_open n_pipeInches n_pipeChances n_weights n_woods n_sums)) := (hDD _ rfl).sub (ws := (bX4 cI cJ cC a_T a_n a_k a_t a_s a_r a_c T_isKept T_refusals) ++ (bX3 cI cJ cC a_n n_space n_beam n_door n_law n_used n_pipes n_drilled n_total n_open n_pipeInches n_pipeChances n_weights n_woods n_sums)) [2, 3, 4, 5, 6, 7] (by decide) rfl
        refine zci hA hDw hS (zrunV (As := []) (rest := []) S hK hA hE hPw hDw hS (mX3_hasRoomForPipe l D cI cJ cC G a_n _ n_space n_beam n_door n_law n_used n_pipes n_drilled n_total n_open n_pipeInches n_pipeChances n_weights n_woods n_sums _ h) kX3_hasRoomForPipe ml_X4_148 ⟨rfl, rfl, by decide, by decide⟩ (q0 := 0) (ci := 3) rfl rfl rfl rfl hl.1 rfl (Nat.le_of_ble_eq_true rfl) dX4_pipe_34 ⟨Nat.zero_le _, Nat.zero_le _⟩) (fun r_4 u H locs h hP1 hk1 hS => ?_)
        try dsimp only at h
        have hP : va_P D vwCl ((bX4 cI cJ cC a_T a_n a_k a_t a_s a_r a_c T_isKept T_refusals) ++ (bX3 cI cJ cC a_n n_space n_beam n_door n_law n_used n_pipes n_drilled n_total n_open n_pipeInches n_pipeChances n_weights n_woods n_sums)) H := zMerge hP (hDD _ rfl) [2, 3, 4, 5, 6, 7] rfl rfl hk1 hP1
        refine lv_if_ne (tgt := 47) hx hb dX4_pipe_37 (by decide) (fun z => ?_) (fun z => ?_)
        · replace h := h.2 z
          refine lv_aload_n hx hb dX4_pipe_47 rfl (lv_at hl 0 rfl) ?_
          refine va_get (D := D) (ci := 4) (v := .ref (a_n 0)) (C := RX4) (T := TX4) (N := 8) hx hb ht inX4 hown hK hP 0 rfl rfl 0 (by decide) (ht _ fl_X4_10) (fun _ h9 => h9) rfl dX4_pipe_48 ?_
          refine lv_iload_n hx hb dX4_pipe_51 rfl (lv_at hl 1 rfl) ?_
          refine lv_iload_n hx hb dX4_pipe_52 rfl (lv_at hl 2 rfl) ?_
          have hPw : va_P D vwCl ((bX3 cI cJ cC a_n n_space n_beam n_door n_law n_used n_pipes n_drilled n_total n_open n_pipeInches n_pipeChances n_weights n_woods n_sums)) _ := hP.sub [2, 3, 4, 5, 6, 7] rfl
          have hDw : va_D A ((bX3 cI cJ cC a_n n_space n_beam n_door n_law n_used n_pipes n_drilled n_total n_open n_pipeInches n_pipeChances n_weights n_woods n_sums)) := (hDD _ rfl).sub (ws := (bX4 cI cJ cC a_T a_n a_k a_t a_s a_r a_c T_isKept T_refusals) ++ (bX3 cI cJ cC a_n n_space n_beam n_door n_law n_used n_pipes n_drilled n_total n_open n_pipeInches n_pipeChances n_weights n_woods n_sums)) [2, 3, 4, 5, 6, 7] (by decide) rfl
          refine zcv hA hDw hS (zrunV (As := [.int p1, .int p2]) (rest := []) S hK hA hE hPw hDw hS (mX3_takePipe l D cI cJ cC G a_n _ n_space n_beam n_door n_law n_used n_pipes n_drilled n_total n_open n_pipeInches n_pipeChances n_weights n_woods n_sums p1 p2 _ h) kX3_takePipe ml_X4_151 ⟨rfl, rfl, by decide, by decide⟩ (q0 := 0) (ci := 3) rfl rfl rfl rfl hl.1 rfl (Nat.le_of_ble_eq_true rfl) dX4_pipe_53 ⟨Nat.zero_le _, Nat.zero_le _⟩) (fun u H locs h hP1 hk1 hS => ?_)
          obtain ⟨n_pipes_5, n_pipeInches_6, n_pipeChances_7⟩ := u
          dsimp only at h
          have hP : va_P D vwCl ((bX4 cI cJ cC a_T a_n a_k a_t a_s a_r a_c T_isKept T_refusals) ++ (bX3 cI cJ cC a_n n_space n_beam n_door n_law n_used n_pipes_5 n_drilled n_total n_open n_pipeInches_6 n_pipeChances_7 n_weights n_woods n_sums)) H := zMerge hP (hDD _ rfl) [2, 3, 4, 5, 6, 7] rfl rfl hk1 hP1
          refine lv_aload_n hx hb dX4_pipe_56 rfl (lv_at hl 0 rfl) ?_
          refine va_get (D := D) (ci := 4) (v := .ref (a_n 0)) (C := RX4) (T := TX4) (N := 8) hx hb ht inX4 hown hK hP 0 rfl rfl 0 (by decide) (ht _ fl_X4_10) (fun _ h9 => h9) rfl dX4_pipe_57 ?_
          refine va_get (D := D) (ci := 3) (v := .int n_pipes_5) (C := RX3) (T := TX3) (N := 14) hx hb ht inX3 hown hK hP 2 rfl rfl 5 (by decide) (ht _ fl_X4_154) (fun _ h9 => h9) rfl dX4_pipe_60 ?_
          refine lv_iconst (v := (1 : Int32)) hx hb dX4_pipe_63 (by decide) ?_
          refine lv_isub hx hb dX4_pipe_64 ?_
          exact hret (n_pipes_5 - (1 : Int32)) (T_refusals, n_pipes_5, n_pipeInches_6, n_pipeChances_7) _ _ _ _ rfl h hP hS dX4_pipe_65
        · replace h := h.1 z
          refine lv_aload_n hx hb dX4_pipe_40 rfl (lv_at hl 0 rfl) ?_
          refine lv_bipush (v := (-6 : Int32)) hx hb dX4_pipe_41 (by decide) ?_
          have hPw : va_P D vwCl ((bX4 cI cJ cC a_T a_n a_k a_t a_s a_r a_c T_isKept T_refusals)) _ := hP.sub [0, 1] rfl
          have hDw : va_D A ((bX4 cI cJ cC a_T a_n a_k a_t a_s a_r a_c T_isKept T_refusals)) := (hDD _ rfl).sub (ws := (bX4 cI cJ cC a_T a_n a_k a_t a_s a_r a_c T_isKept T_refusals) ++ (bX3 cI cJ cC a_n n_space n_beam n_door n_law n_used n_pipes n_drilled n_total n_open n_pipeInches n_pipeChances n_weights n_woods n_sums)) [0, 1] (by decide) rfl
          refine zci hA hDw hS (zrunV (As := [.int (-6 : Int32)]) (rest := []) S hK hA hE hPw hDw hS (mX4_refuse l D cI cJ cC G a_T a_n a_k a_t a_s a_r a_c _ T_isKept T_refusals (-6 : Int32) _ h) kX4_refuse ml_X4_51 ⟨rfl, rfl, by decide, by decide⟩ (q0 := 0) (ci := 4) rfl rfl rfl rfl hl.1 rfl (Nat.le_of_ble_eq_true rfl) dX4_pipe_43 ⟨Nat.zero_le _, Nat.zero_le _⟩) (fun r_8 T_refusals_9 H locs h hP1 hk1 hS => ?_)
          try dsimp only at h
          have hP : va_P D vwCl ((bX4 cI cJ cC a_T a_n a_k a_t a_s a_r a_c T_isKept T_refusals_9) ++ (bX3 cI cJ cC a_n n_space n_beam n_door n_law n_used n_pipes n_drilled n_total n_open n_pipeInches n_pipeChances n_weights n_woods n_sums)) H := zMerge hP (hDD _ rfl) [0, 1] rfl rfl hk1 hP1
          exact hret r_8 (T_refusals_9, n_pipes, n_pipeInches, n_pipeChances) _ _ _ _ rfl h hP hS dX4_pipe_46
    · replace h := h.2 z
      refine lv_aload_n hx hb dX4_pipe_17 rfl (lv_at hl 0 rfl) ?_
      refine lv_bipush (v := (-4 : Int32)) hx hb dX4_pipe_18 (by decide) ?_
      have hPw : va_P D vwCl ((bX4 cI cJ cC a_T a_n a_k a_t a_s a_r a_c T_isKept T_refusals)) _ := hP.sub [0, 1] rfl
      have hDw : va_D A ((bX4 cI cJ cC a_T a_n a_k a_t a_s a_r a_c T_isKept T_refusals)) := (hDD _ rfl).sub (ws := (bX4 cI cJ cC a_T a_n a_k a_t a_s a_r a_c T_isKept T_refusals) ++ (bX3 cI cJ cC a_n n_space n_beam n_door n_law n_used n_pipes n_drilled n_total n_open n_pipeInches n_pipeChances n_weights n_woods n_sums)) [0, 1] (by decide) rfl
      refine zci hA hDw hS (zrunV (As := [.int (-4 : Int32)]) (rest := []) S hK hA hE hPw hDw hS (mX4_refuse l D cI cJ cC G a_T a_n a_k a_t a_s a_r a_c _ T_isKept T_refusals (-4 : Int32) _ h) kX4_refuse ml_X4_51 ⟨rfl, rfl, by decide, by decide⟩ (q0 := 0) (ci := 4) rfl rfl rfl rfl hl.1 rfl (Nat.le_of_ble_eq_true rfl) dX4_pipe_20 ⟨Nat.zero_le _, Nat.zero_le _⟩) (fun r_10 T_refusals_11 H locs h hP1 hk1 hS => ?_)
      try dsimp only at h
      have hP : va_P D vwCl ((bX4 cI cJ cC a_T a_n a_k a_t a_s a_r a_c T_isKept T_refusals_11) ++ (bX3 cI cJ cC a_n n_space n_beam n_door n_law n_used n_pipes n_drilled n_total n_open n_pipeInches n_pipeChances n_weights n_woods n_sums)) H := zMerge hP (hDD _ rfl) [0, 1] rfl rfl hk1 hP1
      exact hret r_10 (T_refusals_11, n_pipes, n_pipeInches, n_pipeChances) _ _ _ _ rfl h hP hS dX4_pipe_23
  · replace h := h.2 z
    refine lv_aload_n hx hb dX4_pipe_7 rfl (lv_at hl 0 rfl) ?_
    refine lv_iconst (v := (-1 : Int32)) hx hb dX4_pipe_8 (by decide) ?_
    have hPw : va_P D vwCl ((bX4 cI cJ cC a_T a_n a_k a_t a_s a_r a_c T_isKept T_refusals)) _ := hP.sub [0, 1] rfl
    have hDw : va_D A ((bX4 cI cJ cC a_T a_n a_k a_t a_s a_r a_c T_isKept T_refusals)) := (hDD _ rfl).sub (ws := (bX4 cI cJ cC a_T a_n a_k a_t a_s a_r a_c T_isKept T_refusals) ++ (bX3 cI cJ cC a_n n_space n_beam n_door n_law n_used n_pipes n_drilled n_total n_open n_pipeInches n_pipeChances n_weights n_woods n_sums)) [0, 1] (by decide) rfl
    refine zci hA hDw hS (zrunV (As := [.int (-1 : Int32)]) (rest := []) S hK hA hE hPw hDw hS (mX4_refuse l D cI cJ cC G a_T a_n a_k a_t a_s a_r a_c _ T_isKept T_refusals (-1 : Int32) _ h) kX4_refuse ml_X4_51 ⟨rfl, rfl, by decide, by decide⟩ (q0 := 0) (ci := 4) rfl rfl rfl rfl hl.1 rfl (Nat.le_of_ble_eq_true rfl) dX4_pipe_9 ⟨Nat.zero_le _, Nat.zero_le _⟩) (fun r_12 T_refusals_13 H locs h hP1 hk1 hS => ?_)
    try dsimp only at h
    have hP : va_P D vwCl ((bX4 cI cJ cC a_T a_n a_k a_t a_s a_r a_c T_isKept T_refusals_13) ++ (bX3 cI cJ cC a_n n_space n_beam n_door n_law n_used n_pipes n_drilled n_total n_open n_pipeInches n_pipeChances n_weights n_woods n_sums)) H := zMerge hP (hDD _ rfl) [0, 1] rfl rfl hk1 hP1
    exact hret r_12 (T_refusals_13, n_pipes, n_pipeInches, n_pipeChances) _ _ _ _ rfl h hP hS dX4_pipe_12
def wpX4_risk (post : Int32 → (Nat → Int32) → Prop) (T_refusals : Nat → Int32) (n_pipes : Int32) (n_pipeInches : Nat → Int32) (n_pipeChances : Nat → Int32) (p1 : Int32) : Prop := wpX4_isNoInch (fun (r_1 : Int32) => ((r_1 = (0 : Int32) → (wpX3_riskAt (fun (r_2 : Int32) => post r_2 T_refusals) n_pipes n_pipeInches n_pipeChances p1)) ∧ (¬ (r_1 = (0 : Int32)) → (wpX4_refuse (fun (r_3 : Int32) (T_refusals_4 : Nat → Int32) => post r_3 T_refusals_4) T_refusals (-1 : Int32))))) p1
set_option maxHeartbeats 4000000 in
set_option maxRecDepth 100000 in
theorem mX4_risk (l : Launch) (D : va_G) (cI cJ cC : ClassId) (G : Nat → Nat → Nat) (a_T : Nat → Nat) (a_n : Nat → Nat) (a_k : Nat → Nat) (a_t : Nat → Nat) (a_s : Nat → Nat) (a_r : Nat → Nat) (a_c : Nat → Nat) (sz : Nat) (T_isKept : Int32) (T_refusals : Nat → Int32) (n_space : Int32) (n_beam : Int32) (n_door : Int32) (n_law : Int32) (n_used : Int32) (n_pipes : Int32) (n_drilled : Int64) (n_total : Int64) (n_open : Int32) (n_pipeInches : Nat → Int32) (n_pipeChances : Nat → Int32) (n_weights : Nat → Int64) (n_woods : Nat → Int32) (n_sums : Nat → Int64) (p1 : Int32) (post : Int32 → (Nat → Int32) → Prop) (h : wpX4_risk post T_refusals n_pipes n_pipeInches n_pipeChances p1) : Met l yX4_risk (wz yX4_risk cX4_risk 2 (some .int)) ({ frames := 2, cells := 0, slots := 0, locals := 44 }) (va_Pc [.ref (a_T 0), .int p1] (PW D (tz cI cJ cC) G ((bX4 cI cJ cC a_T a_n a_k a_t a_s a_r a_c T_isKept T_refusals) ++ (bX3 cI cJ cC a_n n_space n_beam n_door n_law n_used n_pipes n_drilled n_total n_open n_pipeInches n_pipeChances n_weights n_woods n_sums)) sz)) (va_Qi (fun (r : Int32) (u : (Nat → Int32)) => post r u) (fun (u : (Nat → Int32)) t => va_P D vwCl ((bX4 cI cJ cC a_T a_n a_k a_t a_s a_r a_c T_isKept u) ++ (bX3 cI cJ cC a_n n_space n_beam n_door n_law n_used n_pipes n_drilled n_total n_open n_pipeInches n_pipeChances n_weights n_woods n_sums)) t.heap) (va_A ((bX4 cI cJ cC a_T a_n a_k a_t a_s a_r a_c T_isKept T_refusals) ++ (bX3 cI cJ cC a_n n_space n_beam n_door n_law n_used n_pipes n_drilled n_total n_open n_pipeInches n_pipeChances n_weights n_woods n_sums)) sz)) 0 0 (va_A ((bX4 cI cJ cC a_T a_n a_k a_t a_s a_r a_c T_isKept T_refusals) ++ (bX3 cI cJ cC a_n n_space n_beam n_door n_law n_used n_pipes n_drilled n_total n_open n_pipeInches n_pipeChances n_weights n_woods n_sums)) sz) := by
  refine zmi (gw := fun (u : (Nat → Int32)) => (bX4 cI cJ cC a_T a_n a_k a_t a_s a_r a_c T_isKept u) ++ (bX3 cI cJ cC a_n n_space n_beam n_door n_law n_used n_pipes n_drilled n_total n_open n_pipeInches n_pipeChances n_weights n_woods n_sums)) (plainFor_of_name (by decide)) (Nat.le_of_ble_eq_true rfl) ?_
  intro p e s m below meth c A Q ls S hK hD hA hE hP hl hret
  obtain ⟨hx, hb, hml, hown, ht⟩ := id S
  have hS : va_S A s.heap s.heap [] := va_S.rf
  have hDD : ∀ ws : va_W, ws.map (fun q => q.1) = [a_T 0, a_T 1, a_n 0, a_n 1, a_n 2, a_n 3, a_n 4, a_n 5] → va_D A ws := fun ws hw => zD hD (hw.trans rfl)
  have hl : lv_has ls 2 [(0, .ref (a_T 0)), (1, .int p1)] := hl
  unfold wpX4_risk at h
  refine lv_iload_n hx hb dX4_risk_0 rfl (lv_at hl 1 rfl) ?_
  refine zci hA zD0 hS (zrunS (As := [.int p1]) (rest := []) S hK hA hE zP0 zD0 hS (mX4_isNoInch l D cI cJ cC G _ p1 _ h) kX4_isNoInch ml_X4_95 ⟨rfl, rfl, by decide, by decide⟩ rfl hl.1 rfl (Nat.le_of_ble_eq_true rfl) dX4_risk_1 ⟨Nat.zero_le _, Nat.zero_le _⟩) (fun r_1 u H locs h hP1 hk1 hS => ?_)
  try dsimp only at h
  have hP : va_P D vwCl ((bX4 cI cJ cC a_T a_n a_k a_t a_s a_r a_c T_isKept T_refusals) ++ (bX3 cI cJ cC a_n n_space n_beam n_door n_law n_used n_pipes n_drilled n_total n_open n_pipeInches n_pipeChances n_weights n_woods n_sums)) H := zKeep hP hk1
  refine lv_if_eq (tgt := 13) hx hb dX4_risk_4 (by decide) (fun z => ?_) (fun z => ?_)
  · replace h := h.1 z
    refine lv_aload_n hx hb dX4_risk_13 rfl (lv_at hl 0 rfl) ?_
    refine va_get (D := D) (ci := 4) (v := .ref (a_n 0)) (C := RX4) (T := TX4) (N := 8) hx hb ht inX4 hown hK hP 0 rfl rfl 0 (by decide) (ht _ fl_X4_10) (fun _ h9 => h9) rfl dX4_risk_14 ?_
    refine lv_iload_n hx hb dX4_risk_17 rfl (lv_at hl 1 rfl) ?_
    have hPw : va_P D vwCl ((bX3 cI cJ cC a_n n_space n_beam n_door n_law n_used n_pipes n_drilled n_total n_open n_pipeInches n_pipeChances n_weights n_woods n_sums)) _ := hP.sub [2, 3, 4, 5, 6, 7] rfl
    have hDw : va_D A ((bX3 cI cJ cC a_n n_space n_beam n_door n_law n_used n_pipes n_drilled n_total n_open n_pipeInches n_pipeChances n_weights n_woods n_sums)) := (hDD _ rfl).sub (ws := (bX4 cI cJ cC a_T a_n a_k a_t a_s a_r a_c T_isKept T_refusals) ++ (bX3 cI cJ cC a_n n_space n_beam n_door n_law n_used n_pipes n_drilled n_total n_open n_pipeInches n_pipeChances n_weights n_woods n_sums)) [2, 3, 4, 5, 6, 7] (by decide) rfl
    refine zci hA hDw hS (zrunV (As := [.int p1]) (rest := []) S hK hA hE hPw hDw hS (mX3_riskAt l D cI cJ cC G a_n _ n_space n_beam n_door n_law n_used n_pipes n_drilled n_total n_open n_pipeInches n_pipeChances n_weights n_woods n_sums p1 _ h) kX3_riskAt ml_X4_157 ⟨rfl, rfl, by decide, by decide⟩ (q0 := 0) (ci := 3) rfl rfl rfl rfl hl.1 rfl (Nat.le_of_ble_eq_true rfl) dX4_risk_18 ⟨Nat.zero_le _, Nat.zero_le _⟩) (fun r_2 u H locs h hP1 hk1 hS => ?_)
    try dsimp only at h
    have hP : va_P D vwCl ((bX4 cI cJ cC a_T a_n a_k a_t a_s a_r a_c T_isKept T_refusals) ++ (bX3 cI cJ cC a_n n_space n_beam n_door n_law n_used n_pipes n_drilled n_total n_open n_pipeInches n_pipeChances n_weights n_woods n_sums)) H := zMerge hP (hDD _ rfl) [2, 3, 4, 5, 6, 7] rfl rfl hk1 hP1
    exact hret r_2 T_refusals _ _ _ _ rfl h hP hS dX4_risk_21
  · replace h := h.2 z
    refine lv_aload_n hx hb dX4_risk_7 rfl (lv_at hl 0 rfl) ?_
    refine lv_iconst (v := (-1 : Int32)) hx hb dX4_risk_8 (by decide) ?_
    have hPw : va_P D vwCl ((bX4 cI cJ cC a_T a_n a_k a_t a_s a_r a_c T_isKept T_refusals)) _ := hP.sub [0, 1] rfl
    have hDw : va_D A ((bX4 cI cJ cC a_T a_n a_k a_t a_s a_r a_c T_isKept T_refusals)) := (hDD _ rfl).sub (ws := (bX4 cI cJ cC a_T a_n a_k a_t a_s a_r a_c T_isKept T_refusals) ++ (bX3 cI cJ cC a_n n_space n_beam n_door n_law n_used n_pipes n_drilled n_total n_open n_pipeInches n_pipeChances n_weights n_woods n_sums)) [0, 1] (by decide) rfl
    refine zci hA hDw hS (zrunV (As := [.int (-1 : Int32)]) (rest := []) S hK hA hE hPw hDw hS (mX4_refuse l D cI cJ cC G a_T a_n a_k a_t a_s a_r a_c _ T_isKept T_refusals (-1 : Int32) _ h) kX4_refuse ml_X4_51 ⟨rfl, rfl, by decide, by decide⟩ (q0 := 0) (ci := 4) rfl rfl rfl rfl hl.1 rfl (Nat.le_of_ble_eq_true rfl) dX4_risk_9 ⟨Nat.zero_le _, Nat.zero_le _⟩) (fun r_3 T_refusals_4 H locs h hP1 hk1 hS => ?_)
    try dsimp only at h
    have hP : va_P D vwCl ((bX4 cI cJ cC a_T a_n a_k a_t a_s a_r a_c T_isKept T_refusals_4) ++ (bX3 cI cJ cC a_n n_space n_beam n_door n_law n_used n_pipes n_drilled n_total n_open n_pipeInches n_pipeChances n_weights n_woods n_sums)) H := zMerge hP (hDD _ rfl) [0, 1] rfl rfl hk1 hP1
    exact hret r_3 T_refusals_4 _ _ _ _ rfl h hP hS dX4_risk_12
def wpX4_hole (post : Int32 → (Nat → Int32) → Prop) (T_refusals : Nat → Int32) (n_drilled : Int64) (p1 : Int32) : Prop := wpX4_isNoInch (fun (r_1 : Int32) => ((r_1 = (0 : Int32) → (wpX3_holesWithin (fun (r_2 : Int32) => post r_2 T_refusals) n_drilled p1 (1 : Int32))) ∧ (¬ (r_1 = (0 : Int32)) → (wpX4_refuse (fun (r_3 : Int32) (T_refusals_4 : Nat → Int32) => post r_3 T_refusals_4) T_refusals (-1 : Int32))))) p1
set_option maxHeartbeats 4000000 in
set_option maxRecDepth 100000 in
theorem mX4_hole (l : Launch) (D : va_G) (cI cJ cC : ClassId) (G : Nat → Nat → Nat) (a_T : Nat → Nat) (a_n : Nat → Nat) (a_k : Nat → Nat) (a_t : Nat → Nat) (a_s : Nat → Nat) (a_r : Nat → Nat) (a_c : Nat → Nat) (sz : Nat) (T_isKept : Int32) (T_refusals : Nat → Int32) (n_space : Int32) (n_beam : Int32) (n_door : Int32) (n_law : Int32) (n_used : Int32) (n_pipes : Int32) (n_drilled : Int64) (n_total : Int64) (n_open : Int32) (n_pipeInches : Nat → Int32) (n_pipeChances : Nat → Int32) (n_weights : Nat → Int64) (n_woods : Nat → Int32) (n_sums : Nat → Int64) (p1 : Int32) (post : Int32 → (Nat → Int32) → Prop) (h : wpX4_hole post T_refusals n_drilled p1) : Met l yX4_hole (wz yX4_hole cX4_hole 2 (some .int)) ({ frames := 2, cells := 0, slots := 0, locals := 45 }) (va_Pc [.ref (a_T 0), .int p1] (PW D (tz cI cJ cC) G ((bX4 cI cJ cC a_T a_n a_k a_t a_s a_r a_c T_isKept T_refusals) ++ (bX3 cI cJ cC a_n n_space n_beam n_door n_law n_used n_pipes n_drilled n_total n_open n_pipeInches n_pipeChances n_weights n_woods n_sums)) sz)) (va_Qi (fun (r : Int32) (u : (Nat → Int32)) => post r u) (fun (u : (Nat → Int32)) t => va_P D vwCl ((bX4 cI cJ cC a_T a_n a_k a_t a_s a_r a_c T_isKept u) ++ (bX3 cI cJ cC a_n n_space n_beam n_door n_law n_used n_pipes n_drilled n_total n_open n_pipeInches n_pipeChances n_weights n_woods n_sums)) t.heap) (va_A ((bX4 cI cJ cC a_T a_n a_k a_t a_s a_r a_c T_isKept T_refusals) ++ (bX3 cI cJ cC a_n n_space n_beam n_door n_law n_used n_pipes n_drilled n_total n_open n_pipeInches n_pipeChances n_weights n_woods n_sums)) sz)) 0 0 (va_A ((bX4 cI cJ cC a_T a_n a_k a_t a_s a_r a_c T_isKept T_refusals) ++ (bX3 cI cJ cC a_n n_space n_beam n_door n_law n_used n_pipes n_drilled n_total n_open n_pipeInches n_pipeChances n_weights n_woods n_sums)) sz) := by
  refine zmi (gw := fun (u : (Nat → Int32)) => (bX4 cI cJ cC a_T a_n a_k a_t a_s a_r a_c T_isKept u) ++ (bX3 cI cJ cC a_n n_space n_beam n_door n_law n_used n_pipes n_drilled n_total n_open n_pipeInches n_pipeChances n_weights n_woods n_sums)) (plainFor_of_name (by decide)) (Nat.le_of_ble_eq_true rfl) ?_
  intro p e s m below meth c A Q ls S hK hD hA hE hP hl hret
  obtain ⟨hx, hb, hml, hown, ht⟩ := id S
  have hS : va_S A s.heap s.heap [] := va_S.rf
  have hDD : ∀ ws : va_W, ws.map (fun q => q.1) = [a_T 0, a_T 1, a_n 0, a_n 1, a_n 2, a_n 3, a_n 4, a_n 5] → va_D A ws := fun ws hw => zD hD (hw.trans rfl)
  have hl : lv_has ls 2 [(0, .ref (a_T 0)), (1, .int p1)] := hl
  unfold wpX4_hole at h
  refine lv_iload_n hx hb dX4_hole_0 rfl (lv_at hl 1 rfl) ?_
  refine zci hA zD0 hS (zrunS (As := [.int p1]) (rest := []) S hK hA hE zP0 zD0 hS (mX4_isNoInch l D cI cJ cC G _ p1 _ h) kX4_isNoInch ml_X4_95 ⟨rfl, rfl, by decide, by decide⟩ rfl hl.1 rfl (Nat.le_of_ble_eq_true rfl) dX4_hole_1 ⟨Nat.zero_le _, Nat.zero_le _⟩) (fun r_1 u H locs h hP1 hk1 hS => ?_)
  try dsimp only at h
  have hP : va_P D vwCl ((bX4 cI cJ cC a_T a_n a_k a_t a_s a_r a_c T_isKept T_refusals) ++ (bX3 cI cJ cC a_n n_space n_beam n_door n_law n_used n_pipes n_drilled n_total n_open n_pipeInches n_pipeChances n_weights n_woods n_sums)) H := zKeep hP hk1
  refine lv_if_eq (tgt := 13) hx hb dX4_hole_4 (by decide) (fun z => ?_) (fun z => ?_)
  · replace h := h.1 z
    refine lv_aload_n hx hb dX4_hole_13 rfl (lv_at hl 0 rfl) ?_
    refine va_get (D := D) (ci := 4) (v := .ref (a_n 0)) (C := RX4) (T := TX4) (N := 8) hx hb ht inX4 hown hK hP 0 rfl rfl 0 (by decide) (ht _ fl_X4_10) (fun _ h9 => h9) rfl dX4_hole_14 ?_
    refine lv_iload_n hx hb dX4_hole_17 rfl (lv_at hl 1 rfl) ?_
    refine lv_iconst (v := (1 : Int32)) hx hb dX4_hole_18 (by decide) ?_
    have hPw : va_P D vwCl ((bX3 cI cJ cC a_n n_space n_beam n_door n_law n_used n_pipes n_drilled n_total n_open n_pipeInches n_pipeChances n_weights n_woods n_sums)) _ := hP.sub [2, 3, 4, 5, 6, 7] rfl
    have hDw : va_D A ((bX3 cI cJ cC a_n n_space n_beam n_door n_law n_used n_pipes n_drilled n_total n_open n_pipeInches n_pipeChances n_weights n_woods n_sums)) := (hDD _ rfl).sub (ws := (bX4 cI cJ cC a_T a_n a_k a_t a_s a_r a_c T_isKept T_refusals) ++ (bX3 cI cJ cC a_n n_space n_beam n_door n_law n_used n_pipes n_drilled n_total n_open n_pipeInches n_pipeChances n_weights n_woods n_sums)) [2, 3, 4, 5, 6, 7] (by decide) rfl
    refine zci hA hDw hS (zrunV (As := [.int p1, .int (1 : Int32)]) (rest := []) S hK hA hE hPw hDw hS (mX3_holesWithin l D cI cJ cC G a_n _ n_space n_beam n_door n_law n_used n_pipes n_drilled n_total n_open n_pipeInches n_pipeChances n_weights n_woods n_sums p1 (1 : Int32) _ h) kX3_holesWithin ml_X4_160 ⟨rfl, rfl, by decide, by decide⟩ (q0 := 0) (ci := 3) rfl rfl rfl rfl hl.1 rfl (Nat.le_of_ble_eq_true rfl) dX4_hole_19 ⟨Nat.zero_le _, Nat.zero_le _⟩) (fun r_2 u H locs h hP1 hk1 hS => ?_)
    try dsimp only at h
    have hP : va_P D vwCl ((bX4 cI cJ cC a_T a_n a_k a_t a_s a_r a_c T_isKept T_refusals) ++ (bX3 cI cJ cC a_n n_space n_beam n_door n_law n_used n_pipes n_drilled n_total n_open n_pipeInches n_pipeChances n_weights n_woods n_sums)) H := zMerge hP (hDD _ rfl) [2, 3, 4, 5, 6, 7] rfl rfl hk1 hP1
    exact hret r_2 T_refusals _ _ _ _ rfl h hP hS dX4_hole_22
  · replace h := h.2 z
    refine lv_aload_n hx hb dX4_hole_7 rfl (lv_at hl 0 rfl) ?_
    refine lv_iconst (v := (-1 : Int32)) hx hb dX4_hole_8 (by decide) ?_
    have hPw : va_P D vwCl ((bX4 cI cJ cC a_T a_n a_k a_t a_s a_r a_c T_isKept T_refusals)) _ := hP.sub [0, 1] rfl
    have hDw : va_D A ((bX4 cI cJ cC a_T a_n a_k a_t a_s a_r a_c T_isKept T_refusals)) := (hDD _ rfl).sub (ws := (bX4 cI cJ cC a_T a_n a_k a_t a_s a_r a_c T_isKept T_refusals) ++ (bX3 cI cJ cC a_n n_space n_beam n_door n_law n_used n_pipes n_drilled n_total n_open n_pipeInches n_pipeChances n_weights n_woods n_sums)) [0, 1] (by decide) rfl
    refine zci hA hDw hS (zrunV (As := [.int (-1 : Int32)]) (rest := []) S hK hA hE hPw hDw hS (mX4_refuse l D cI cJ cC G a_T a_n a_k a_t a_s a_r a_c _ T_isKept T_refusals (-1 : Int32) _ h) kX4_refuse ml_X4_51 ⟨rfl, rfl, by decide, by decide⟩ (q0 := 0) (ci := 4) rfl rfl rfl rfl hl.1 rfl (Nat.le_of_ble_eq_true rfl) dX4_hole_9 ⟨Nat.zero_le _, Nat.zero_le _⟩) (fun r_3 T_refusals_4 H locs h hP1 hk1 hS => ?_)
    try dsimp only at h
    have hP : va_P D vwCl ((bX4 cI cJ cC a_T a_n a_k a_t a_s a_r a_c T_isKept T_refusals_4) ++ (bX3 cI cJ cC a_n n_space n_beam n_door n_law n_used n_pipes n_drilled n_total n_open n_pipeInches n_pipeChances n_weights n_woods n_sums)) H := zMerge hP (hDD _ rfl) [0, 1] rfl rfl hk1 hP1
    exact hret r_3 T_refusals_4 _ _ _ _ rfl h hP hS dX4_hole_12
def wpX4_fill (post : Int32 → Int64 → Prop) (n_drilled : Int64) : Prop := wpJ13_bitCount_95d88 (fun (r_1 : Int32) => post r_1 (0 : Int64)) n_drilled
set_option maxHeartbeats 4000000 in
set_option maxRecDepth 100000 in
theorem mX4_fill (l : Launch) (D : va_G) (cI cJ cC : ClassId) (G : Nat → Nat → Nat) (a_T : Nat → Nat) (a_n : Nat → Nat) (a_k : Nat → Nat) (a_t : Nat → Nat) (a_s : Nat → Nat) (a_r : Nat → Nat) (a_c : Nat → Nat) (sz : Nat) (T_isKept : Int32) (T_refusals : Nat → Int32) (n_space : Int32) (n_beam : Int32) (n_door : Int32) (n_law : Int32) (n_used : Int32) (n_pipes : Int32) (n_drilled : Int64) (n_total : Int64) (n_open : Int32) (n_pipeInches : Nat → Int32) (n_pipeChances : Nat → Int32) (n_weights : Nat → Int64) (n_woods : Nat → Int32) (n_sums : Nat → Int64) (post : Int32 → Int64 → Prop) (h : wpX4_fill post n_drilled) : Met l yX4_fill (wz yX4_fill cX4_fill 2 (some .int)) ({ frames := 1, cells := 0, slots := 0, locals := 21 }) (va_Pc [.ref (a_T 0)] (PW D (tz cI cJ cC) G ((bX4 cI cJ cC a_T a_n a_k a_t a_s a_r a_c T_isKept T_refusals) ++ (bX3 cI cJ cC a_n n_space n_beam n_door n_law n_used n_pipes n_drilled n_total n_open n_pipeInches n_pipeChances n_weights n_woods n_sums)) sz)) (va_Qi (fun (r : Int32) (u : Int64) => post r u) (fun (u : Int64) t => va_P D vwCl ((bX4 cI cJ cC a_T a_n a_k a_t a_s a_r a_c T_isKept T_refusals) ++ (bX3 cI cJ cC a_n n_space n_beam n_door n_law n_used n_pipes u n_total n_open n_pipeInches n_pipeChances n_weights n_woods n_sums)) t.heap) (va_A ((bX4 cI cJ cC a_T a_n a_k a_t a_s a_r a_c T_isKept T_refusals) ++ (bX3 cI cJ cC a_n n_space n_beam n_door n_law n_used n_pipes n_drilled n_total n_open n_pipeInches n_pipeChances n_weights n_woods n_sums)) sz)) 0 0 (va_A ((bX4 cI cJ cC a_T a_n a_k a_t a_s a_r a_c T_isKept T_refusals) ++ (bX3 cI cJ cC a_n n_space n_beam n_door n_law n_used n_pipes n_drilled n_total n_open n_pipeInches n_pipeChances n_weights n_woods n_sums)) sz) := by
  refine zmi (gw := fun (u : Int64) => (bX4 cI cJ cC a_T a_n a_k a_t a_s a_r a_c T_isKept T_refusals) ++ (bX3 cI cJ cC a_n n_space n_beam n_door n_law n_used n_pipes u n_total n_open n_pipeInches n_pipeChances n_weights n_woods n_sums)) (plainFor_of_name (by decide)) (Nat.le_of_ble_eq_true rfl) ?_
  intro p e s m below meth c A Q ls S hK hD hA hE hP hl hret
  obtain ⟨hx, hb, hml, hown, ht⟩ := id S
  have hS : va_S A s.heap s.heap [] := va_S.rf
  have hDD : ∀ ws : va_W, ws.map (fun q => q.1) = [a_T 0, a_T 1, a_n 0, a_n 1, a_n 2, a_n 3, a_n 4, a_n 5] → va_D A ws := fun ws hw => zD hD (hw.trans rfl)
  have hl : lv_has ls 2 [(0, .ref (a_T 0))] := hl
  unfold wpX4_fill at h
  refine lv_aload_n hx hb dX4_fill_0 rfl (lv_at hl 0 rfl) ?_
  refine va_get (D := D) (ci := 4) (v := .ref (a_n 0)) (C := RX4) (T := TX4) (N := 8) hx hb ht inX4 hown hK hP 0 rfl rfl 0 (by decide) (ht _ fl_X4_10) (fun _ h9 => h9) rfl dX4_fill_1 ?_
  refine va_get (D := D) (ci := 3) (v := .long n_drilled) (C := RX3) (T := TX3) (N := 14) hx hb ht inX3 hown hK hP 2 rfl rfl 6 (by decide) (ht _ fl_X4_164) (fun _ h9 => h9) rfl dX4_fill_4 ?_
  refine zci hA zD0 hS (zrunS (As := [.long n_drilled]) (rest := []) S hK hA hE zP0 zD0 hS (mJ13_bitCount_95d88 l D cI cJ cC G _ n_drilled _ h) kJ13_bitCount_95d88 ml_X4_168 ⟨rfl, rfl, by decide, by decide⟩ rfl hl.1 rfl (Nat.le_of_ble_eq_true rfl) dX4_fill_7 ⟨Nat.zero_le _, Nat.zero_le _⟩) (fun r_1 u H locs h hP1 hk1 hS => ?_)
  try dsimp only at h
  have hP : va_P D vwCl ((bX4 cI cJ cC a_T a_n a_k a_t a_s a_r a_c T_isKept T_refusals) ++ (bX3 cI cJ cC a_n n_space n_beam n_door n_law n_used n_pipes n_drilled n_total n_open n_pipeInches n_pipeChances n_weights n_woods n_sums)) H := zKeep hP hk1
  refine lv_istore_n (lv' := [(1, .int r_1), (0, .ref (a_T 0))]) hx hb dX4_fill_10 rfl hl (by decide) rfl (fun ls hl => ?_)
  refine lv_aload_n hx hb dX4_fill_11 rfl (lv_at hl 1 rfl) ?_
  refine va_get (D := D) (ci := 4) (v := .ref (a_n 0)) (C := RX4) (T := TX4) (N := 8) hx hb ht inX4 hown hK hP 0 rfl rfl 0 (by decide) (ht _ fl_X4_10) (fun _ h9 => h9) rfl dX4_fill_12 ?_
  refine lv_lconst (v := (0 : Int64)) hx hb dX4_fill_15 (by decide) ?_
  refine va_put (D := D) (ci := 3) (v := .long (0 : Int64)) (ty := .long) (C := RX3) (T := TX3) (N := 14) hx hb ht inX3 tyX3 tyX3_ok nmX3 hown hK hP (hDD _ rfl) hS 2 rfl rfl 6 (by decide) (ht _ fl_X4_164) (fun _ h9 => h9) rfl (by decide +kernel) rfl rfl (Nat.le_of_ble_eq_true rfl) dX4_fill_16 (fun H locs hP _ hS => ?_)
  have hP : va_P D vwCl ((bX4 cI cJ cC a_T a_n a_k a_t a_s a_r a_c T_isKept T_refusals) ++ (bX3 cI cJ cC a_n n_space n_beam n_door n_law n_used n_pipes (0 : Int64) n_total n_open n_pipeInches n_pipeChances n_weights n_woods n_sums)) H := hP
  refine lv_iload_n hx hb dX4_fill_19 rfl (lv_at hl 0 rfl) ?_
  exact hret r_1 (0 : Int64) _ _ _ _ rfl h hP hS dX4_fill_20
def wpX4_isNoPart (post : Int32 → Prop) (p0 : Int32) : Prop := ((p0 = (0 : Int32) → (post (0 : Int32))) ∧ (¬ (p0 = (0 : Int32)) → (((p0 = (1 : Int32) → (post (0 : Int32))) ∧ (¬ (p0 = (1 : Int32)) → (post (1 : Int32)))))))
set_option maxHeartbeats 4000000 in
set_option maxRecDepth 100000 in
theorem mX4_isNoPart (l : Launch) (D : va_G) (cI cJ cC : ClassId) (G : Nat → Nat → Nat) (sz : Nat) (p0 : Int32) (post : Int32 → Prop) (h : wpX4_isNoPart post p0) : Met l yX4_isNoPart (wz yX4_isNoPart cX4_isNoPart 1 (some .boolean)) ({ frames := 0, cells := 0, slots := 0, locals := 0 }) (va_Pc [.int p0] (PW D (tz cI cJ cC) G ([]) sz)) (va_Qi (fun (r : Int32) (u : Unit) => post r ) (fun (u : Unit) t => va_P D vwCl ([]) t.heap) (va_A ([]) sz)) 0 0 (va_A ([]) sz) := by
  refine zmi (gw := fun (u : Unit) => []) (plainFor_of_name (by decide)) (Nat.le_of_ble_eq_true rfl) ?_
  intro p e s m below meth c A Q ls S hK hD hA hE hP hl hret
  obtain ⟨hx, hb, hml, hown, ht⟩ := id S
  have hS : va_S A s.heap s.heap [] := va_S.rf
  have hDD : ∀ ws : va_W, ws.map (fun q => q.1) = [] → va_D A ws := fun ws hw => zD hD (hw.trans rfl)
  have hl : lv_has ls 1 [(0, .int p0)] := hl
  unfold wpX4_isNoPart at h
  refine lv_iload_n hx hb dX4_isNoPart_0 rfl (lv_at hl 0 rfl) ?_
  refine lv_if_eq (tgt := 13) hx hb dX4_isNoPart_1 (by decide) (fun z => ?_) (fun z => ?_)
  · replace h := h.1 z
    refine lv_iconst (v := (0 : Int32)) hx hb dX4_isNoPart_13 (by decide) ?_
    exact hret (0 : Int32) () _ _ _ _ rfl h hP hS dX4_isNoPart_14
  · replace h := h.2 z
    refine lv_iload_n hx hb dX4_isNoPart_4 rfl (lv_at hl 0 rfl) ?_
    refine lv_iconst (v := (1 : Int32)) hx hb dX4_isNoPart_5 (by decide) ?_
    refine lv_icmp_eq (tgt := 13) hx hb dX4_isNoPart_6 (by decide) (fun z => ?_) (fun z => ?_)
    · replace h := h.1 z
      refine lv_iconst (v := (0 : Int32)) hx hb dX4_isNoPart_13 (by decide) ?_
      exact hret (0 : Int32) () _ _ _ _ rfl h hP hS dX4_isNoPart_14
    · replace h := h.2 z
      refine lv_iconst (v := (1 : Int32)) hx hb dX4_isNoPart_9 (by decide) ?_
      refine lv_goto (tgt := 14) hx hb dX4_isNoPart_10 (by decide) ?_
      exact hret (1 : Int32) () _ _ _ _ rfl h hP hS dX4_isNoPart_14
def wpX4_partOf (post : Int64 → Prop) (p0 : Int64) (p1 : Int64) (p2 : Int32) : Prop := ((p0 ≤ (0 : Int64) → (((p2 = (0 : Int32) → (post (0 : Int64))) ∧ (¬ (p2 = (0 : Int32)) → (post (1 : Int64)))))) ∧ (¬ (p0 ≤ (0 : Int64)) → ((((0 : Int64) < p1 → (wpX4_commonDivisor (fun (r_1 : Int64) => wpJ9_max_f86c9 (fun (r_2 : Int64) => ((p2 = (0 : Int32) → (¬ r_2 = 0 ∧ (post (p0 / r_2)))) ∧ (¬ (p2 = (0 : Int32)) → (¬ r_2 = 0 ∧ (post (p1 / r_2)))))) r_1 (1 : Int64)) p0 p1)) ∧ (¬ ((0 : Int64) < p1) → (((p2 = (0 : Int32) → (post (0 : Int64))) ∧ (¬ (p2 = (0 : Int32)) → (post (1 : Int64))))))))))
set_option maxHeartbeats 4000000 in
set_option maxRecDepth 100000 in
theorem mX4_partOf (l : Launch) (D : va_G) (cI cJ cC : ClassId) (G : Nat → Nat → Nat) (sz : Nat) (p0 : Int64) (p1 : Int64) (p2 : Int32) (post : Int64 → Prop) (h : wpX4_partOf post p0 p1 p2) : Met l yX4_partOf (wz yX4_partOf cX4_partOf 7 (some .long)) ({ frames := 1, cells := 0, slots := 0, locals := 30 }) (va_Pc [.long p0, .long p1, .int p2] (PW D (tz cI cJ cC) G ([]) sz)) (va_Ql (fun (r : Int64) (u : Unit) => post r ) (fun (u : Unit) t => va_P D vwCl ([]) t.heap) (va_A ([]) sz)) 0 0 (va_A ([]) sz) := by
  refine zml (gw := fun (u : Unit) => []) (plainFor_of_name (by decide)) (Nat.le_of_ble_eq_true rfl) ?_
  intro p e s m below meth c A Q ls S hK hD hA hE hP hl hret
  obtain ⟨hx, hb, hml, hown, ht⟩ := id S
  have hS : va_S A s.heap s.heap [] := va_S.rf
  have hDD : ∀ ws : va_W, ws.map (fun q => q.1) = [] → va_D A ws := fun ws hw => zD hD (hw.trans rfl)
  have hl : lv_has ls 7 [(0, .long p0), (2, .long p1), (4, .int p2)] := hl
  unfold wpX4_partOf at h
  refine lv_lload_n hx hb dX4_partOf_0 rfl (lv_at hl 0 rfl) ?_
  refine lv_lconst (v := (0 : Int64)) hx hb dX4_partOf_1 (by decide) ?_
  refine W.lcmp hx hb dX4_partOf_2 ?_
  refine lv_if_le (tgt := 12) hx hb dX4_partOf_3 (by decide) (fun z => ?_) (fun z => ?_)
  · replace h := h.1 (zl_le.mp z)
    refine lv_iload hx hb dX4_partOf_12 (lv_at hl 2 rfl) ?_
    refine lv_if_ne (tgt := 21) hx hb dX4_partOf_14 (by decide) (fun z => ?_) (fun z => ?_)
    · replace h := h.2 z
      refine lv_lconst (v := (1 : Int64)) hx hb dX4_partOf_21 (by decide) ?_
      exact hret (1 : Int64) () _ _ _ _ h hP hS dX4_partOf_22
    · replace h := h.1 z
      refine lv_lconst (v := (0 : Int64)) hx hb dX4_partOf_17 (by decide) ?_
      refine lv_goto (tgt := 22) hx hb dX4_partOf_18 (by decide) ?_
      exact hret (0 : Int64) () _ _ _ _ h hP hS dX4_partOf_22
  · replace h := h.2 (fun q => z (zl_le.mpr q))
    refine lv_lload_n hx hb dX4_partOf_6 rfl (lv_at hl 1 rfl) ?_
    refine lv_lconst (v := (0 : Int64)) hx hb dX4_partOf_7 (by decide) ?_
    refine W.lcmp hx hb dX4_partOf_8 ?_
    refine lv_if_gt (tgt := 23) hx hb dX4_partOf_9 (by decide) (fun z => ?_) (fun z => ?_)
    · replace h := h.1 (zl_gt.mp z)
      refine lv_lload_n hx hb dX4_partOf_23 rfl (lv_at hl 0 rfl) ?_
      refine lv_lload_n hx hb dX4_partOf_24 rfl (lv_at hl 1 rfl) ?_
      refine zcl hA (hDD _ rfl) hS (zrunS (As := [.long p0, .long p1]) (rest := []) S hK hA hE hP (hDD _ rfl) hS (mX4_commonDivisor l D cI cJ cC G _ p0 p1 _ h) kX4_commonDivisor ml_X4_275 ⟨rfl, rfl, by decide, by decide⟩ rfl hl.1 rfl (Nat.le_of_ble_eq_true rfl) dX4_partOf_25 ⟨Nat.zero_le _, Nat.zero_le _⟩) (fun r_1 u H locs h hP1 hk1 hS => ?_)
      try dsimp only at h
      have hP : va_P D vwCl ([]) H := hP1
      refine lv_lconst (v := (1 : Int64)) hx hb dX4_partOf_28 (by decide) ?_
      refine zcl hA (hDD _ rfl) hS (zrunS (As := [.long r_1, .long (1 : Int64)]) (rest := []) S hK hA hE hP (hDD _ rfl) hS (mJ9_max_f86c9 l D cI cJ cC G _ r_1 (1 : Int64) _ h) kJ9_max_f86c9 ml_X4_279 ⟨rfl, rfl, by decide, by decide⟩ rfl hl.1 rfl (Nat.le_of_ble_eq_true rfl) dX4_partOf_29 ⟨Nat.zero_le _, Nat.zero_le _⟩) (fun r_2 u H locs h hP1 hk1 hS => ?_)
      try dsimp only at h
      have hP : va_P D vwCl ([]) H := hP1
      refine lv_lstore (lv' := [(5, .long r_2), (0, .long p0), (2, .long p1), (4, .int p2)]) hx hb dX4_partOf_32 hl (by decide) rfl (fun ls hl => ?_)
      refine lv_iload hx hb dX4_partOf_34 (lv_at hl 3 rfl) ?_
      refine lv_if_ne (tgt := 43) hx hb dX4_partOf_36 (by decide) (fun z => ?_) (fun z => ?_)
      · replace h := h.2 z
        refine lv_lload_n hx hb dX4_partOf_43 rfl (lv_at hl 2 rfl) ?_
        refine lv_lload hx hb dX4_partOf_44 (lv_at hl 0 rfl) ?_
        obtain ⟨hne, h⟩ := h
        refine lv_ldiv hx hb dX4_partOf_46 hne ?_
        exact hret (p1 / r_2) () _ _ _ _ h hP hS dX4_partOf_47
      · replace h := h.1 z
        refine lv_lload_n hx hb dX4_partOf_39 rfl (lv_at hl 1 rfl) ?_
        refine lv_goto (tgt := 44) hx hb dX4_partOf_40 (by decide) ?_
        refine lv_lload hx hb dX4_partOf_44 (lv_at hl 0 rfl) ?_
        obtain ⟨hne, h⟩ := h
        refine lv_ldiv hx hb dX4_partOf_46 hne ?_
        exact hret (p0 / r_2) () _ _ _ _ h hP hS dX4_partOf_47
    · replace h := h.2 (fun q => z (zl_gt.mpr q))
      refine lv_iload hx hb dX4_partOf_12 (lv_at hl 2 rfl) ?_
      refine lv_if_ne (tgt := 21) hx hb dX4_partOf_14 (by decide) (fun z => ?_) (fun z => ?_)
      · replace h := h.2 z
        refine lv_lconst (v := (1 : Int64)) hx hb dX4_partOf_21 (by decide) ?_
        exact hret (1 : Int64) () _ _ _ _ h hP hS dX4_partOf_22
      · replace h := h.1 z
        refine lv_lconst (v := (0 : Int64)) hx hb dX4_partOf_17 (by decide) ?_
        refine lv_goto (tgt := 22) hx hb dX4_partOf_18 (by decide) ?_
        exact hret (0 : Int64) () _ _ _ _ h hP hS dX4_partOf_22
def wpX4_likely (post : Int64 → (Nat → Int32) → Prop) (T_refusals : Nat → Int32) (n_total : Int64) (n_sums : Nat → Int64) (p1 : Int32) (p2 : Int32) : Prop := wpX4_isNoInch (fun (r_1 : Int32) => ((r_1 = (0 : Int32) → (wpX4_isNoPart (fun (r_2 : Int32) => ((r_2 = (0 : Int32) → (vp_in p1 48 ∧ (wpX4_partOf (fun (r_3 : Int64) => post r_3 T_refusals) (n_sums p1.toNatClampNeg) n_total p2))) ∧ (¬ (r_2 = (0 : Int32)) → (wpX4_refuseLong (fun (r_4 : Int64) (T_refusals_5 : Nat → Int32) => post r_4 T_refusals_5) T_refusals (-2 : Int32))))) p2)) ∧ (¬ (r_1 = (0 : Int32)) → (wpX4_refuseLong (fun (r_6 : Int64) (T_refusals_7 : Nat → Int32) => post r_6 T_refusals_7) T_refusals (-1 : Int32))))) p1
set_option maxHeartbeats 4000000 in
set_option maxRecDepth 100000 in
theorem mX4_likely (l : Launch) (D : va_G) (cI cJ cC : ClassId) (G : Nat → Nat → Nat) (a_T : Nat → Nat) (a_n : Nat → Nat) (a_k : Nat → Nat) (a_t : Nat → Nat) (a_s : Nat → Nat) (a_r : Nat → Nat) (a_c : Nat → Nat) (sz : Nat) (T_isKept : Int32) (T_refusals : Nat → Int32) (n_space : Int32) (n_beam : Int32) (n_door : Int32) (n_law : Int32) (n_used : Int32) (n_pipes : Int32) (n_drilled : Int64) (n_total : Int64) (n_open : Int32) (n_pipeInches : Nat → Int32) (n_pipeChances : Nat → Int32) (n_weights : Nat → Int64) (n_woods : Nat → Int32) (n_sums : Nat → Int64) (p1 : Int32) (p2 : Int32) (post : Int64 → (Nat → Int32) → Prop) (h : wpX4_likely post T_refusals n_total n_sums p1 p2) : Met l yX4_likely (wz yX4_likely cX4_likely 3 (some .long)) ({ frames := 2, cells := 0, slots := 0, locals := 56 }) (va_Pc [.ref (a_T 0), .int p1, .int p2] (PW D (tz cI cJ cC) G ((bX4 cI cJ cC a_T a_n a_k a_t a_s a_r a_c T_isKept T_refusals) ++ (bX3 cI cJ cC a_n n_space n_beam n_door n_law n_used n_pipes n_drilled n_total n_open n_pipeInches n_pipeChances n_weights n_woods n_sums)) sz)) (va_Ql (fun (r : Int64) (u : (Nat → Int32)) => post r u) (fun (u : (Nat → Int32)) t => va_P D vwCl ((bX4 cI cJ cC a_T a_n a_k a_t a_s a_r a_c T_isKept u) ++ (bX3 cI cJ cC a_n n_space n_beam n_door n_law n_used n_pipes n_drilled n_total n_open n_pipeInches n_pipeChances n_weights n_woods n_sums)) t.heap) (va_A ((bX4 cI cJ cC a_T a_n a_k a_t a_s a_r a_c T_isKept T_refusals) ++ (bX3 cI cJ cC a_n n_space n_beam n_door n_law n_used n_pipes n_drilled n_total n_open n_pipeInches n_pipeChances n_weights n_woods n_sums)) sz)) 0 0 (va_A ((bX4 cI cJ cC a_T a_n a_k a_t a_s a_r a_c T_isKept T_refusals) ++ (bX3 cI cJ cC a_n n_space n_beam n_door n_law n_used n_pipes n_drilled n_total n_open n_pipeInches n_pipeChances n_weights n_woods n_sums)) sz) := by
  refine zml (gw := fun (u : (Nat → Int32)) => (bX4 cI cJ cC a_T a_n a_k a_t a_s a_r a_c T_isKept u) ++ (bX3 cI cJ cC a_n n_space n_beam n_door n_law n_used n_pipes n_drilled n_total n_open n_pipeInches n_pipeChances n_weights n_woods n_sums)) (plainFor_of_name (by decide)) (Nat.le_of_ble_eq_true rfl) ?_
  intro p e s m below meth c A Q ls S hK hD hA hE hP hl hret
  obtain ⟨hx, hb, hml, hown, ht⟩ := id S
  have hS : va_S A s.heap s.heap [] := va_S.rf
  have hDD : ∀ ws : va_W, ws.map (fun q => q.1) = [a_T 0, a_T 1, a_n 0, a_n 1, a_n 2, a_n 3, a_n 4, a_n 5] → va_D A ws := fun ws hw => zD hD (hw.trans rfl)
  have hl : lv_has ls 3 [(0, .ref (a_T 0)), (1, .int p1), (2, .int p2)] := hl
  unfold wpX4_likely at h
  refine lv_iload_n hx hb dX4_likely_0 rfl (lv_at hl 1 rfl) ?_
  refine zci hA zD0 hS (zrunS (As := [.int p1]) (rest := []) S hK hA hE zP0 zD0 hS (mX4_isNoInch l D cI cJ cC G _ p1 _ h) kX4_isNoInch ml_X4_95 ⟨rfl, rfl, by decide, by decide⟩ rfl hl.1 rfl (Nat.le_of_ble_eq_true rfl) dX4_likely_1 ⟨Nat.zero_le _, Nat.zero_le _⟩) (fun r_1 u H locs h hP1 hk1 hS => ?_)
  try dsimp only at h
  have hP : va_P D vwCl ((bX4 cI cJ cC a_T a_n a_k a_t a_s a_r a_c T_isKept T_refusals) ++ (bX3 cI cJ cC a_n n_space n_beam n_door n_law n_used n_pipes n_drilled n_total n_open n_pipeInches n_pipeChances n_weights n_woods n_sums)) H := zKeep hP hk1
  refine lv_if_eq (tgt := 13) hx hb dX4_likely_4 (by decide) (fun z => ?_) (fun z => ?_)
  · replace h := h.1 z
    refine lv_iload_n hx hb dX4_likely_13 rfl (lv_at hl 2 rfl) ?_
    refine zci hA zD0 hS (zrunS (As := [.int p2]) (rest := []) S hK hA hE zP0 zD0 hS (mX4_isNoPart l D cI cJ cC G _ p2 _ h) kX4_isNoPart ml_X4_173 ⟨rfl, rfl, by decide, by decide⟩ rfl hl.1 rfl (Nat.le_of_ble_eq_true rfl) dX4_likely_14 ⟨Nat.zero_le _, Nat.zero_le _⟩) (fun r_2 u H locs h hP1 hk1 hS => ?_)
    try dsimp only at h
    have hP : va_P D vwCl ((bX4 cI cJ cC a_T a_n a_k a_t a_s a_r a_c T_isKept T_refusals) ++ (bX3 cI cJ cC a_n n_space n_beam n_door n_law n_used n_pipes n_drilled n_total n_open n_pipeInches n_pipeChances n_weights n_woods n_sums)) H := zKeep hP hk1
    refine lv_if_eq (tgt := 27) hx hb dX4_likely_17 (by decide) (fun z => ?_) (fun z => ?_)
    · replace h := h.1 z
      refine lv_aload_n hx hb dX4_likely_27 rfl (lv_at hl 0 rfl) ?_
      refine va_get (D := D) (ci := 4) (v := .ref (a_n 0)) (C := RX4) (T := TX4) (N := 8) hx hb ht inX4 hown hK hP 0 rfl rfl 0 (by decide) (ht _ fl_X4_10) (fun _ h9 => h9) rfl dX4_likely_28 ?_
      refine va_get (D := D) (ci := 3) (v := .ref (a_n 5)) (C := RX3) (T := TX3) (N := 14) hx hb ht inX3 hown hK hP 2 rfl rfl 11 (by decide) (ht _ fl_X4_176) (fun _ h9 => h9) rfl dX4_likely_31 ?_
      refine lv_iload_n hx hb dX4_likely_34 rfl (lv_at hl 1 rfl) ?_
      obtain ⟨hin, h⟩ := h
      refine va_lald hx hb hK hP 7 1 rfl rfl hin dX4_likely_35 ?_
      refine lv_aload_n hx hb dX4_likely_36 rfl (lv_at hl 0 rfl) ?_
      refine va_get (D := D) (ci := 4) (v := .ref (a_n 0)) (C := RX4) (T := TX4) (N := 8) hx hb ht inX4 hown hK hP 0 rfl rfl 0 (by decide) (ht _ fl_X4_10) (fun _ h9 => h9) rfl dX4_likely_37 ?_
      refine va_get (D := D) (ci := 3) (v := .long n_total) (C := RX3) (T := TX3) (N := 14) hx hb ht inX3 hown hK hP 2 rfl rfl 12 (by decide) (ht _ fl_X4_179) (fun _ h9 => h9) rfl dX4_likely_40 ?_
      refine lv_iload_n hx hb dX4_likely_43 rfl (lv_at hl 2 rfl) ?_
      refine zcl hA zD0 hS (zrunS (As := [.long (n_sums p1.toNatClampNeg), .long n_total, .int p2]) (rest := []) S hK hA hE zP0 zD0 hS (mX4_partOf l D cI cJ cC G _ (n_sums p1.toNatClampNeg) n_total p2 _ h) kX4_partOf ml_X4_182 ⟨rfl, rfl, by decide, by decide⟩ rfl hl.1 rfl (Nat.le_of_ble_eq_true rfl) dX4_likely_44 ⟨Nat.zero_le _, Nat.zero_le _⟩) (fun r_3 u H locs h hP1 hk1 hS => ?_)
      try dsimp only at h
      have hP : va_P D vwCl ((bX4 cI cJ cC a_T a_n a_k a_t a_s a_r a_c T_isKept T_refusals) ++ (bX3 cI cJ cC a_n n_space n_beam n_door n_law n_used n_pipes n_drilled n_total n_open n_pipeInches n_pipeChances n_weights n_woods n_sums)) H := zKeep hP hk1
      exact hret r_3 T_refusals _ _ _ _ h hP hS dX4_likely_47
    · replace h := h.2 z
      refine lv_aload_n hx hb dX4_likely_20 rfl (lv_at hl 0 rfl) ?_
      refine lv_bipush (v := (-2 : Int32)) hx hb dX4_likely_21 (by decide) ?_
      have hPw : va_P D vwCl ((bX4 cI cJ cC a_T a_n a_k a_t a_s a_r a_c T_isKept T_refusals)) _ := hP.sub [0, 1] rfl
      have hDw : va_D A ((bX4 cI cJ cC a_T a_n a_k a_t a_s a_r a_c T_isKept T_refusals)) := (hDD _ rfl).sub (ws := (bX4 cI cJ cC a_T a_n a_k a_t a_s a_r a_c T_isKept T_refusals) ++ (bX3 cI cJ cC a_n n_space n_beam n_door n_law n_used n_pipes n_drilled n_total n_open n_pipeInches n_pipeChances n_weights n_woods n_sums)) [0, 1] (by decide) rfl
      refine zcl hA hDw hS (zrunV (As := [.int (-2 : Int32)]) (rest := []) S hK hA hE hPw hDw hS (mX4_refuseLong l D cI cJ cC G a_T a_n a_k a_t a_s a_r a_c _ T_isKept T_refusals (-2 : Int32) _ h) kX4_refuseLong ml_X4_105 ⟨rfl, rfl, by decide, by decide⟩ (q0 := 0) (ci := 4) rfl rfl rfl rfl hl.1 rfl (Nat.le_of_ble_eq_true rfl) dX4_likely_23 ⟨Nat.zero_le _, Nat.zero_le _⟩) (fun r_4 T_refusals_5 H locs h hP1 hk1 hS => ?_)
      try dsimp only at h
      have hP : va_P D vwCl ((bX4 cI cJ cC a_T a_n a_k a_t a_s a_r a_c T_isKept T_refusals_5) ++ (bX3 cI cJ cC a_n n_space n_beam n_door n_law n_used n_pipes n_drilled n_total n_open n_pipeInches n_pipeChances n_weights n_woods n_sums)) H := zMerge hP (hDD _ rfl) [0, 1] rfl rfl hk1 hP1
      exact hret r_4 T_refusals_5 _ _ _ _ h hP hS dX4_likely_26
  · replace h := h.2 z
    refine lv_aload_n hx hb dX4_likely_7 rfl (lv_at hl 0 rfl) ?_
    refine lv_iconst (v := (-1 : Int32)) hx hb dX4_likely_8 (by decide) ?_
    have hPw : va_P D vwCl ((bX4 cI cJ cC a_T a_n a_k a_t a_s a_r a_c T_isKept T_refusals)) _ := hP.sub [0, 1] rfl
    have hDw : va_D A ((bX4 cI cJ cC a_T a_n a_k a_t a_s a_r a_c T_isKept T_refusals)) := (hDD _ rfl).sub (ws := (bX4 cI cJ cC a_T a_n a_k a_t a_s a_r a_c T_isKept T_refusals) ++ (bX3 cI cJ cC a_n n_space n_beam n_door n_law n_used n_pipes n_drilled n_total n_open n_pipeInches n_pipeChances n_weights n_woods n_sums)) [0, 1] (by decide) rfl
    refine zcl hA hDw hS (zrunV (As := [.int (-1 : Int32)]) (rest := []) S hK hA hE hPw hDw hS (mX4_refuseLong l D cI cJ cC G a_T a_n a_k a_t a_s a_r a_c _ T_isKept T_refusals (-1 : Int32) _ h) kX4_refuseLong ml_X4_105 ⟨rfl, rfl, by decide, by decide⟩ (q0 := 0) (ci := 4) rfl rfl rfl rfl hl.1 rfl (Nat.le_of_ble_eq_true rfl) dX4_likely_9 ⟨Nat.zero_le _, Nat.zero_le _⟩) (fun r_6 T_refusals_7 H locs h hP1 hk1 hS => ?_)
    try dsimp only at h
    have hP : va_P D vwCl ((bX4 cI cJ cC a_T a_n a_k a_t a_s a_r a_c T_isKept T_refusals_7) ++ (bX3 cI cJ cC a_n n_space n_beam n_door n_law n_used n_pipes n_drilled n_total n_open n_pipeInches n_pipeChances n_weights n_woods n_sums)) H := zMerge hP (hDD _ rfl) [0, 1] rfl rfl hk1 hP1
    exact hret r_6 T_refusals_7 _ _ _ _ h hP hS dX4_likely_12
def lpX4_sure_33 (post : Int32 → (Nat → Int32) → Prop) (K : Int32 → Int32 → Prop) (x1 : Int32) (x2 : Int32) (T_refusals : Nat → Int32) (n_open : Int32) (n_woods : Nat → Int32) : Nat → Int32 → Int32 → Prop
  | 0, _, _ => False
  | n + 1, x3, x4 => (((48 : Int32) ≤ x4 → (K x3 x4)) ∧ (¬ ((48 : Int32) ≤ x4) → (((x1 = (0 : Int32) → (wpX3_isSure (fun (r_2 : Int32) => ((r_2 = (0 : Int32) → (lpX4_sure_33 post K x1 x2 T_refusals n_open n_woods n x3 (x4 + (1 : Int32)))) ∧ (¬ (r_2 = (0 : Int32)) → (((x3 = x2 → (post x4 T_refusals)) ∧ (¬ (x3 = x2) → (lpX4_sure_33 post K x1 x2 T_refusals n_open n_woods n (x3 + (1 : Int32)) (x4 + (1 : Int32))))))))) n_open n_woods x4 (1 : Int32))) ∧ (¬ (x1 = (0 : Int32)) → (wpX3_isSure (fun (r_1 : Int32) => ((r_1 = (0 : Int32) → (lpX4_sure_33 post K x1 x2 T_refusals n_open n_woods n x3 (x4 + (1 : Int32)))) ∧ (¬ (r_1 = (0 : Int32)) → (((x3 = x2 → (post x4 T_refusals)) ∧ (¬ (x3 = x2) → (lpX4_sure_33 post K x1 x2 T_refusals n_open n_woods n (x3 + (1 : Int32)) (x4 + (1 : Int32))))))))) n_open n_woods x4 (0 : Int32)))))))
set_option maxHeartbeats 4000000 in
set_option maxRecDepth 100000 in
theorem wX4_sure_33 (l : Launch) (D : va_G) (cI cJ cC : ClassId) (G : Nat → Nat → Nat) (a_T : Nat → Nat) (a_n : Nat → Nat) (a_k : Nat → Nat) (a_t : Nat → Nat) (a_s : Nat → Nat) (a_r : Nat → Nat) (a_c : Nat → Nat) {p : Program} {e : Env} {s : State} {m : MethodId} {below : List Frame} {meth : Method} {c : Code} {A : Nat → Prop} {Q : State → Prop} (p1 : Int32) (p2 : Int32) (x1 : Int32) (x2 : Int32) (T_isKept : Int32) (T_refusals : Nat → Int32) (n_space : Int32) (n_beam : Int32) (n_door : Int32) (n_law : Int32) (n_used : Int32) (n_pipes : Int32) (n_drilled : Int64) (n_total : Int64) (n_open : Int32) (n_pipeInches : Nat → Int32) (n_pipeChances : Nat → Int32) (n_weights : Nat → Int64) (n_woods : Nat → Int32) (n_sums : Nat → Int64) (post : Int32 → (Nat → Int32) → Prop) (K : Int32 → Int32 → Prop) (S : CallFix p m c cX4_sure 5 s ([.ref (a_T 0), .int p1, .int p2] : List Value).toArray bg RX4) (hK : va_K D vwCl (tz cI cJ cC) s) (hDD : ∀ ws : va_W, ws.map (fun q => q.1) = [a_T 0, a_T 1, a_n 0, a_n 1, a_n 2, a_n 3, a_n 4, a_n 5] → va_D A ws) (hA : ∀ q, s.heap.size ≤ q → A q) (hE : EV G A s) (hret : ∀ (r : Int32) (u : (Nat → Int32)) (H : Heap) (locs : List Loc) (ls : Array Slot) (pc : Nat), narrow .int (.int r) = .int r → post r u → va_P D vwCl ((bX4 cI cJ cC a_T a_n a_k a_t a_s a_r a_c T_isKept u) ++ (bX3 cI cJ cC a_n n_space n_beam n_door n_law n_used n_pipes n_drilled n_total n_open n_pipeInches n_pipeChances n_weights n_woods n_sums)) H → va_S A s.heap H locs → decode cX4_sure pc = .ok (.ireturn, 1) → W p l e ({ frames := 1, cells := 0, slots := 0, locals := 22 }) s m ([.ref (a_T 0), .int p1, .int p2] : List Value).toArray below meth c H locs 0 0 Q (F0 m pc ls [.int r])) (hKK : ∀ (x3 : Int32) (x4 : Int32) (H : Heap) (locs : List Loc) (ls : Array Slot), K x3 x4 → va_P D vwCl ((bX4 cI cJ cC a_T a_n a_k a_t a_s a_r a_c T_isKept T_refusals) ++ (bX3 cI cJ cC a_n n_space n_beam n_door n_law n_used n_pipes n_drilled n_total n_open n_pipeInches n_pipeChances n_weights n_woods n_sums)) H → va_S A s.heap H locs → lv_has ls 5 [(2, .int x2), (3, .int x3)] → W p l e ({ frames := 1, cells := 0, slots := 0, locals := 22 }) s m ([.ref (a_T 0), .int p1, .int p2] : List Value).toArray below meth c H locs 0 0 Q (F0 m 78 ls [])) :
    ∀ (n : Nat) (x3 : Int32) (x4 : Int32) (H : Heap) (locs : List Loc) (ls : Array Slot), lpX4_sure_33 post K x1 x2 T_refusals n_open n_woods n x3 x4 → va_P D vwCl ((bX4 cI cJ cC a_T a_n a_k a_t a_s a_r a_c T_isKept T_refusals) ++ (bX3 cI cJ cC a_n n_space n_beam n_door n_law n_used n_pipes n_drilled n_total n_open n_pipeInches n_pipeChances n_weights n_woods n_sums)) H → va_S A s.heap H locs → lv_has ls 5 [(0, .ref (a_T 0)), (1, .int x1), (2, .int x2), (3, .int x3), (4, .int x4)] → W p l e ({ frames := 1, cells := 0, slots := 0, locals := 22 }) s m ([.ref (a_T 0), .int p1, .int p2] : List Value).toArray below meth c H locs 0 0 Q (F0 m 33 ls []) := by
  obtain ⟨hx, hb, hml, hown, ht⟩ := id S
  intro n
  induction n with
  | zero =>
    intro x3 x4 H locs ls h
    exact absurd h (by simp [lpX4_sure_33])
  | succ n ih =>
    intro x3 x4 H locs ls h hP hS hl
    rw [lpX4_sure_33] at h
    refine lv_iload hx hb dX4_sure_33 (lv_at hl 4 rfl) ?_
    refine lv_bipush (v := (48 : Int32)) hx hb dX4_sure_35 (by decide) ?_
    refine lv_icmp_ge (tgt := 78) hx hb dX4_sure_37 (by decide) (fun z => ?_) (fun z => ?_)
    · replace h := h.1 z
      exact hKK x3 x4 _ _ _ h hP hS (lv_sub hl [2, 3] rfl)
    · replace h := h.2 z
      refine lv_aload_n hx hb dX4_sure_40 rfl (lv_at hl 0 rfl) ?_
      refine va_get (D := D) (ci := 4) (v := .ref (a_n 0)) (C := RX4) (T := TX4) (N := 8) hx hb ht inX4 hown hK hP 0 rfl rfl 0 (by decide) (ht _ fl_X4_10) (fun _ h9 => h9) rfl dX4_sure_41 ?_
      refine lv_iload hx hb dX4_sure_44 (lv_at hl 4 rfl) ?_
      refine lv_iload_n hx hb dX4_sure_46 rfl (lv_at hl 1 rfl) ?_
      refine lv_if_ne (tgt := 54) hx hb dX4_sure_47 (by decide) (fun z => ?_) (fun z => ?_)
      · replace h := h.2 z
        refine lv_iconst (v := (0 : Int32)) hx hb dX4_sure_54 (by decide) ?_
        have hPw : va_P D vwCl ((bX3 cI cJ cC a_n n_space n_beam n_door n_law n_used n_pipes n_drilled n_total n_open n_pipeInches n_pipeChances n_weights n_woods n_sums)) _ := hP.sub [2, 3, 4, 5, 6, 7] rfl
        have hDw : va_D A ((bX3 cI cJ cC a_n n_space n_beam n_door n_law n_used n_pipes n_drilled n_total n_open n_pipeInches n_pipeChances n_weights n_woods n_sums)) := (hDD _ rfl).sub (ws := (bX4 cI cJ cC a_T a_n a_k a_t a_s a_r a_c T_isKept T_refusals) ++ (bX3 cI cJ cC a_n n_space n_beam n_door n_law n_used n_pipes n_drilled n_total n_open n_pipeInches n_pipeChances n_weights n_woods n_sums)) [2, 3, 4, 5, 6, 7] (by decide) rfl
        refine zci hA hDw hS (zrunV (As := [.int x4, .int (0 : Int32)]) (rest := []) S hK hA hE hPw hDw hS (mX3_isSure l D cI cJ cC G a_n _ n_space n_beam n_door n_law n_used n_pipes n_drilled n_total n_open n_pipeInches n_pipeChances n_weights n_woods n_sums x4 (0 : Int32) _ h) kX3_isSure ml_X4_186 ⟨rfl, rfl, by decide, by decide⟩ (q0 := 0) (ci := 3) rfl rfl rfl rfl hl.1 rfl (Nat.le_of_ble_eq_true rfl) dX4_sure_55 ⟨Nat.zero_le _, Nat.zero_le _⟩) (fun r_1 u H locs h hP1 hk1 hS => ?_)
        try dsimp only at h
        have hP : va_P D vwCl ((bX4 cI cJ cC a_T a_n a_k a_t a_s a_r a_c T_isKept T_refusals) ++ (bX3 cI cJ cC a_n n_space n_beam n_door n_law n_used n_pipes n_drilled n_total n_open n_pipeInches n_pipeChances n_weights n_woods n_sums)) H := zMerge hP (hDD _ rfl) [2, 3, 4, 5, 6, 7] rfl rfl hk1 hP1
        refine lv_if_eq (tgt := 72) hx hb dX4_sure_58 (by decide) (fun z => ?_) (fun z => ?_)
        · replace h := h.1 z
          refine lv_iinc (v := x4 + (1 : Int32)) (lv' := [(4, .int (x4 + (1 : Int32))), (0, .ref (a_T 0)), (1, .int x1), (2, .int x2), (3, .int x3)]) hx hb dX4_sure_72 hl (k := 4) rfl (by rfl) (by decide) rfl (fun ls hl => ?_)
          refine lv_goto (tgt := 33) hx hb dX4_sure_75 (by decide) ?_
          exact ih x3 (x4 + (1 : Int32)) _ _ _ h hP hS (lv_sub hl [1, 2, 3, 4, 0] rfl)
        · replace h := h.2 z
          refine lv_iload_n hx hb dX4_sure_61 rfl (lv_at hl 3 rfl) ?_
          refine lv_iload_n hx hb dX4_sure_62 rfl (lv_at hl 2 rfl) ?_
          refine lv_icmp_ne (tgt := 69) hx hb dX4_sure_63 (by decide) (fun z => ?_) (fun z => ?_)
          · replace h := h.2 z
            refine lv_iinc (v := x3 + (1 : Int32)) (lv' := [(3, .int (x3 + (1 : Int32))), (0, .ref (a_T 0)), (1, .int x1), (2, .int x2), (4, .int x4)]) hx hb dX4_sure_69 hl (k := 3) rfl (by rfl) (by decide) rfl (fun ls hl => ?_)
            refine lv_iinc (v := x4 + (1 : Int32)) (lv' := [(4, .int (x4 + (1 : Int32))), (3, .int (x3 + (1 : Int32))), (0, .ref (a_T 0)), (1, .int x1), (2, .int x2)]) hx hb dX4_sure_72 hl (k := 4) rfl (by rfl) (by decide) rfl (fun ls hl => ?_)
            refine lv_goto (tgt := 33) hx hb dX4_sure_75 (by decide) ?_
            exact ih (x3 + (1 : Int32)) (x4 + (1 : Int32)) _ _ _ h hP hS (lv_sub hl [2, 3, 4, 1, 0] rfl)
          · replace h := h.1 z
            refine lv_iload hx hb dX4_sure_66 (lv_at hl 4 rfl) ?_
            exact hret x4 T_refusals _ _ _ _ rfl h hP hS dX4_sure_68
      · replace h := h.1 z
        refine lv_iconst (v := (1 : Int32)) hx hb dX4_sure_50 (by decide) ?_
        refine lv_goto (tgt := 55) hx hb dX4_sure_51 (by decide) ?_
        have hPw : va_P D vwCl ((bX3 cI cJ cC a_n n_space n_beam n_door n_law n_used n_pipes n_drilled n_total n_open n_pipeInches n_pipeChances n_weights n_woods n_sums)) _ := hP.sub [2, 3, 4, 5, 6, 7] rfl
        have hDw : va_D A ((bX3 cI cJ cC a_n n_space n_beam n_door n_law n_used n_pipes n_drilled n_total n_open n_pipeInches n_pipeChances n_weights n_woods n_sums)) := (hDD _ rfl).sub (ws := (bX4 cI cJ cC a_T a_n a_k a_t a_s a_r a_c T_isKept T_refusals) ++ (bX3 cI cJ cC a_n n_space n_beam n_door n_law n_used n_pipes n_drilled n_total n_open n_pipeInches n_pipeChances n_weights n_woods n_sums)) [2, 3, 4, 5, 6, 7] (by decide) rfl
        refine zci hA hDw hS (zrunV (As := [.int x4, .int (1 : Int32)]) (rest := []) S hK hA hE hPw hDw hS (mX3_isSure l D cI cJ cC G a_n _ n_space n_beam n_door n_law n_used n_pipes n_drilled n_total n_open n_pipeInches n_pipeChances n_weights n_woods n_sums x4 (1 : Int32) _ h) kX3_isSure ml_X4_186 ⟨rfl, rfl, by decide, by decide⟩ (q0 := 0) (ci := 3) rfl rfl rfl rfl hl.1 rfl (Nat.le_of_ble_eq_true rfl) dX4_sure_55 ⟨Nat.zero_le _, Nat.zero_le _⟩) (fun r_2 u H locs h hP1 hk1 hS => ?_)
        try dsimp only at h
        have hP : va_P D vwCl ((bX4 cI cJ cC a_T a_n a_k a_t a_s a_r a_c T_isKept T_refusals) ++ (bX3 cI cJ cC a_n n_space n_beam n_door n_law n_used n_pipes n_drilled n_total n_open n_pipeInches n_pipeChances n_weights n_woods n_sums)) H := zMerge hP (hDD _ rfl) [2, 3, 4, 5, 6, 7] rfl rfl hk1 hP1
        refine lv_if_eq (tgt := 72) hx hb dX4_sure_58 (by decide) (fun z => ?_) (fun z => ?_)
        · replace h := h.1 z
          refine lv_iinc (v := x4 + (1 : Int32)) (lv' := [(4, .int (x4 + (1 : Int32))), (0, .ref (a_T 0)), (1, .int x1), (2, .int x2), (3, .int x3)]) hx hb dX4_sure_72 hl (k := 4) rfl (by rfl) (by decide) rfl (fun ls hl => ?_)
          refine lv_goto (tgt := 33) hx hb dX4_sure_75 (by decide) ?_
          exact ih x3 (x4 + (1 : Int32)) _ _ _ h hP hS (lv_sub hl [1, 2, 3, 4, 0] rfl)
        · replace h := h.2 z
          refine lv_iload_n hx hb dX4_sure_61 rfl (lv_at hl 3 rfl) ?_
          refine lv_iload_n hx hb dX4_sure_62 rfl (lv_at hl 2 rfl) ?_
          refine lv_icmp_ne (tgt := 69) hx hb dX4_sure_63 (by decide) (fun z => ?_) (fun z => ?_)
          · replace h := h.2 z
            refine lv_iinc (v := x3 + (1 : Int32)) (lv' := [(3, .int (x3 + (1 : Int32))), (0, .ref (a_T 0)), (1, .int x1), (2, .int x2), (4, .int x4)]) hx hb dX4_sure_69 hl (k := 3) rfl (by rfl) (by decide) rfl (fun ls hl => ?_)
            refine lv_iinc (v := x4 + (1 : Int32)) (lv' := [(4, .int (x4 + (1 : Int32))), (3, .int (x3 + (1 : Int32))), (0, .ref (a_T 0)), (1, .int x1), (2, .int x2)]) hx hb dX4_sure_72 hl (k := 4) rfl (by rfl) (by decide) rfl (fun ls hl => ?_)
            refine lv_goto (tgt := 33) hx hb dX4_sure_75 (by decide) ?_
            exact ih (x3 + (1 : Int32)) (x4 + (1 : Int32)) _ _ _ h hP hS (lv_sub hl [2, 3, 4, 1, 0] rfl)
          · replace h := h.1 z
            refine lv_iload hx hb dX4_sure_66 (lv_at hl 4 rfl) ?_
            exact hret x4 T_refusals _ _ _ _ rfl h hP hS dX4_sure_68
def wpX4_sure (post : Int32 → (Nat → Int32) → Prop) (T_refusals : Nat → Int32) (n_open : Int32) (n_woods : Nat → Int32) (p1 : Int32) (p2 : Int32) : Prop := ((p1 = (0 : Int32) → ((((-1 : Int32) ≤ p2 → (∃ n_3 : Nat, lpX4_sure_33 post (fun (x3_4 : Int32) (x4_5 : Int32) => ((p2 = (-1 : Int32) → (post x3_4 T_refusals)) ∧ (¬ (p2 = (-1 : Int32)) → (post (-9 : Int32) T_refusals)))) p1 p2 T_refusals n_open n_woods n_3 (0 : Int32) (0 : Int32))) ∧ (¬ ((-1 : Int32) ≤ p2) → (wpX4_refuse (fun (r_6 : Int32) (T_refusals_7 : Nat → Int32) => post r_6 T_refusals_7) T_refusals (-4 : Int32)))))) ∧ (¬ (p1 = (0 : Int32)) → (((p1 = (1 : Int32) → ((((-1 : Int32) ≤ p2 → (∃ n_10 : Nat, lpX4_sure_33 post (fun (x3_11 : Int32) (x4_12 : Int32) => ((p2 = (-1 : Int32) → (post x3_11 T_refusals)) ∧ (¬ (p2 = (-1 : Int32)) → (post (-9 : Int32) T_refusals)))) p1 p2 T_refusals n_open n_woods n_10 (0 : Int32) (0 : Int32))) ∧ (¬ ((-1 : Int32) ≤ p2) → (wpX4_refuse (fun (r_13 : Int32) (T_refusals_14 : Nat → Int32) => post r_13 T_refusals_14) T_refusals (-4 : Int32)))))) ∧ (¬ (p1 = (1 : Int32)) → (wpX4_refuse (fun (r_15 : Int32) (T_refusals_16 : Nat → Int32) => post r_15 T_refusals_16) T_refusals (-2 : Int32)))))))
set_option maxHeartbeats 4000000 in
set_option maxRecDepth 100000 in
theorem mX4_sure (l : Launch) (D : va_G) (cI cJ cC : ClassId) (G : Nat → Nat → Nat) (a_T : Nat → Nat) (a_n : Nat → Nat) (a_k : Nat → Nat) (a_t : Nat → Nat) (a_s : Nat → Nat) (a_r : Nat → Nat) (a_c : Nat → Nat) (sz : Nat) (T_isKept : Int32) (T_refusals : Nat → Int32) (n_space : Int32) (n_beam : Int32) (n_door : Int32) (n_law : Int32) (n_used : Int32) (n_pipes : Int32) (n_drilled : Int64) (n_total : Int64) (n_open : Int32) (n_pipeInches : Nat → Int32) (n_pipeChances : Nat → Int32) (n_weights : Nat → Int64) (n_woods : Nat → Int32) (n_sums : Nat → Int64) (p1 : Int32) (p2 : Int32) (post : Int32 → (Nat → Int32) → Prop) (h : wpX4_sure post T_refusals n_open n_woods p1 p2) : Met l yX4_sure (wz yX4_sure cX4_sure 5 (some .int)) ({ frames := 1, cells := 0, slots := 0, locals := 22 }) (va_Pc [.ref (a_T 0), .int p1, .int p2] (PW D (tz cI cJ cC) G ((bX4 cI cJ cC a_T a_n a_k a_t a_s a_r a_c T_isKept T_refusals) ++ (bX3 cI cJ cC a_n n_space n_beam n_door n_law n_used n_pipes n_drilled n_total n_open n_pipeInches n_pipeChances n_weights n_woods n_sums)) sz)) (va_Qi (fun (r : Int32) (u : (Nat → Int32)) => post r u) (fun (u : (Nat → Int32)) t => va_P D vwCl ((bX4 cI cJ cC a_T a_n a_k a_t a_s a_r a_c T_isKept u) ++ (bX3 cI cJ cC a_n n_space n_beam n_door n_law n_used n_pipes n_drilled n_total n_open n_pipeInches n_pipeChances n_weights n_woods n_sums)) t.heap) (va_A ((bX4 cI cJ cC a_T a_n a_k a_t a_s a_r a_c T_isKept T_refusals) ++ (bX3 cI cJ cC a_n n_space n_beam n_door n_law n_used n_pipes n_drilled n_total n_open n_pipeInches n_pipeChances n_weights n_woods n_sums)) sz)) 0 0 (va_A ((bX4 cI cJ cC a_T a_n a_k a_t a_s a_r a_c T_isKept T_refusals) ++ (bX3 cI cJ cC a_n n_space n_beam n_door n_law n_used n_pipes n_drilled n_total n_open n_pipeInches n_pipeChances n_weights n_woods n_sums)) sz) := by
  refine zmi (gw := fun (u : (Nat → Int32)) => (bX4 cI cJ cC a_T a_n a_k a_t a_s a_r a_c T_isKept u) ++ (bX3 cI cJ cC a_n n_space n_beam n_door n_law n_used n_pipes n_drilled n_total n_open n_pipeInches n_pipeChances n_weights n_woods n_sums)) (plainFor_of_name (by decide)) (Nat.le_of_ble_eq_true rfl) ?_
  intro p e s m below meth c A Q ls S hK hD hA hE hP hl hret
  obtain ⟨hx, hb, hml, hown, ht⟩ := id S
  have hS : va_S A s.heap s.heap [] := va_S.rf
  have hDD : ∀ ws : va_W, ws.map (fun q => q.1) = [a_T 0, a_T 1, a_n 0, a_n 1, a_n 2, a_n 3, a_n 4, a_n 5] → va_D A ws := fun ws hw => zD hD (hw.trans rfl)
  have hl : lv_has ls 5 [(0, .ref (a_T 0)), (1, .int p1), (2, .int p2)] := hl
  unfold wpX4_sure at h
  refine lv_iload_n hx hb dX4_sure_0 rfl (lv_at hl 1 rfl) ?_
  refine lv_if_eq (tgt := 16) hx hb dX4_sure_1 (by decide) (fun z => ?_) (fun z => ?_)
  · replace h := h.1 z
    refine lv_iload_n hx hb dX4_sure_16 rfl (lv_at hl 2 rfl) ?_
    refine lv_iconst (v := (-1 : Int32)) hx hb dX4_sure_17 (by decide) ?_
    refine lv_icmp_ge (tgt := 28) hx hb dX4_sure_18 (by decide) (fun z => ?_) (fun z => ?_)
    · replace h := h.1 z
      refine lv_iconst (v := (0 : Int32)) hx hb dX4_sure_28 (by decide) ?_
      refine lv_istore_n (lv' := [(3, .int (0 : Int32)), (0, .ref (a_T 0)), (1, .int p1), (2, .int p2)]) hx hb dX4_sure_29 rfl hl (by decide) rfl (fun ls hl => ?_)
      refine lv_iconst (v := (0 : Int32)) hx hb dX4_sure_30 (by decide) ?_
      refine lv_istore (lv' := [(4, .int (0 : Int32)), (3, .int (0 : Int32)), (0, .ref (a_T 0)), (1, .int p1), (2, .int p2)]) hx hb dX4_sure_31 hl (by decide) rfl (fun ls hl => ?_)
      obtain ⟨n_3, h⟩ := h
      refine wX4_sure_33 l D cI cJ cC G a_T a_n a_k a_t a_s a_r a_c p1 p2 p1 p2 T_isKept T_refusals n_space n_beam n_door n_law n_used n_pipes n_drilled n_total n_open n_pipeInches n_pipeChances n_weights n_woods n_sums post _ S hK hDD hA hE hret (fun x3_4 x4_5 H locs ls h hP hS hl => ?_) n_3 (0 : Int32) (0 : Int32) _ _ _ h hP hS (lv_sub hl [2, 3, 4, 1, 0] rfl)
      try dsimp only at h
      refine lv_iload_n hx hb dX4_sure_78 rfl (lv_at hl 0 rfl) ?_
      refine lv_iconst (v := (-1 : Int32)) hx hb dX4_sure_79 (by decide) ?_
      refine lv_icmp_ne (tgt := 87) hx hb dX4_sure_80 (by decide) (fun z => ?_) (fun z => ?_)
      · replace h := h.2 z
        refine lv_bipush (v := (-9 : Int32)) hx hb dX4_sure_87 (by decide) ?_
        exact hret (-9 : Int32) T_refusals _ _ _ _ rfl h hP hS dX4_sure_89
      · replace h := h.1 z
        refine lv_iload_n hx hb dX4_sure_83 rfl (lv_at hl 1 rfl) ?_
        refine lv_goto (tgt := 89) hx hb dX4_sure_84 (by decide) ?_
        exact hret x3_4 T_refusals _ _ _ _ rfl h hP hS dX4_sure_89
    · replace h := h.2 z
      refine lv_aload_n hx hb dX4_sure_21 rfl (lv_at hl 0 rfl) ?_
      refine lv_bipush (v := (-4 : Int32)) hx hb dX4_sure_22 (by decide) ?_
      have hPw : va_P D vwCl ((bX4 cI cJ cC a_T a_n a_k a_t a_s a_r a_c T_isKept T_refusals)) _ := hP.sub [0, 1] rfl
      have hDw : va_D A ((bX4 cI cJ cC a_T a_n a_k a_t a_s a_r a_c T_isKept T_refusals)) := (hDD _ rfl).sub (ws := (bX4 cI cJ cC a_T a_n a_k a_t a_s a_r a_c T_isKept T_refusals) ++ (bX3 cI cJ cC a_n n_space n_beam n_door n_law n_used n_pipes n_drilled n_total n_open n_pipeInches n_pipeChances n_weights n_woods n_sums)) [0, 1] (by decide) rfl
      refine zci hA hDw hS (zrunV (As := [.int (-4 : Int32)]) (rest := []) S hK hA hE hPw hDw hS (mX4_refuse l D cI cJ cC G a_T a_n a_k a_t a_s a_r a_c _ T_isKept T_refusals (-4 : Int32) _ h) kX4_refuse ml_X4_51 ⟨rfl, rfl, by decide, by decide⟩ (q0 := 0) (ci := 4) rfl rfl rfl rfl hl.1 rfl (Nat.le_of_ble_eq_true rfl) dX4_sure_24 ⟨Nat.zero_le _, Nat.zero_le _⟩) (fun r_6 T_refusals_7 H locs h hP1 hk1 hS => ?_)
      try dsimp only at h
      have hP : va_P D vwCl ((bX4 cI cJ cC a_T a_n a_k a_t a_s a_r a_c T_isKept T_refusals_7) ++ (bX3 cI cJ cC a_n n_space n_beam n_door n_law n_used n_pipes n_drilled n_total n_open n_pipeInches n_pipeChances n_weights n_woods n_sums)) H := zMerge hP (hDD _ rfl) [0, 1] rfl rfl hk1 hP1
      exact hret r_6 T_refusals_7 _ _ _ _ rfl h hP hS dX4_sure_27
  · replace h := h.2 z
    refine lv_iload_n hx hb dX4_sure_4 rfl (lv_at hl 1 rfl) ?_
    refine lv_iconst (v := (1 : Int32)) hx hb dX4_sure_5 (by decide) ?_
    refine lv_icmp_eq (tgt := 16) hx hb dX4_sure_6 (by decide) (fun z => ?_) (fun z => ?_)
    · replace h := h.1 z
      refine lv_iload_n hx hb dX4_sure_16 rfl (lv_at hl 2 rfl) ?_
      refine lv_iconst (v := (-1 : Int32)) hx hb dX4_sure_17 (by decide) ?_
      refine lv_icmp_ge (tgt := 28) hx hb dX4_sure_18 (by decide) (fun z => ?_) (fun z => ?_)
      · replace h := h.1 z
        refine lv_iconst (v := (0 : Int32)) hx hb dX4_sure_28 (by decide) ?_
        refine lv_istore_n (lv' := [(3, .int (0 : Int32)), (0, .ref (a_T 0)), (1, .int p1), (2, .int p2)]) hx hb dX4_sure_29 rfl hl (by decide) rfl (fun ls hl => ?_)
        refine lv_iconst (v := (0 : Int32)) hx hb dX4_sure_30 (by decide) ?_
        refine lv_istore (lv' := [(4, .int (0 : Int32)), (3, .int (0 : Int32)), (0, .ref (a_T 0)), (1, .int p1), (2, .int p2)]) hx hb dX4_sure_31 hl (by decide) rfl (fun ls hl => ?_)
        obtain ⟨n_10, h⟩ := h
        refine wX4_sure_33 l D cI cJ cC G a_T a_n a_k a_t a_s a_r a_c p1 p2 p1 p2 T_isKept T_refusals n_space n_beam n_door n_law n_used n_pipes n_drilled n_total n_open n_pipeInches n_pipeChances n_weights n_woods n_sums post _ S hK hDD hA hE hret (fun x3_11 x4_12 H locs ls h hP hS hl => ?_) n_10 (0 : Int32) (0 : Int32) _ _ _ h hP hS (lv_sub hl [2, 3, 4, 1, 0] rfl)
        try dsimp only at h
        refine lv_iload_n hx hb dX4_sure_78 rfl (lv_at hl 0 rfl) ?_
        refine lv_iconst (v := (-1 : Int32)) hx hb dX4_sure_79 (by decide) ?_
        refine lv_icmp_ne (tgt := 87) hx hb dX4_sure_80 (by decide) (fun z => ?_) (fun z => ?_)
        · replace h := h.2 z
          refine lv_bipush (v := (-9 : Int32)) hx hb dX4_sure_87 (by decide) ?_
          exact hret (-9 : Int32) T_refusals _ _ _ _ rfl h hP hS dX4_sure_89
        · replace h := h.1 z
          refine lv_iload_n hx hb dX4_sure_83 rfl (lv_at hl 1 rfl) ?_
          refine lv_goto (tgt := 89) hx hb dX4_sure_84 (by decide) ?_
          exact hret x3_11 T_refusals _ _ _ _ rfl h hP hS dX4_sure_89
      · replace h := h.2 z
        refine lv_aload_n hx hb dX4_sure_21 rfl (lv_at hl 0 rfl) ?_
        refine lv_bipush (v := (-4 : Int32)) hx hb dX4_sure_22 (by decide) ?_
        have hPw : va_P D vwCl ((bX4 cI cJ cC a_T a_n a_k a_t a_s a_r a_c T_isKept T_refusals)) _ := hP.sub [0, 1] rfl
        have hDw : va_D A ((bX4 cI cJ cC a_T a_n a_k a_t a_s a_r a_c T_isKept T_refusals)) := (hDD _ rfl).sub (ws := (bX4 cI cJ cC a_T a_n a_k a_t a_s a_r a_c T_isKept T_refusals) ++ (bX3 cI cJ cC a_n n_space n_beam n_door n_law n_used n_pipes n_drilled n_total n_open n_pipeInches n_pipeChances n_weights n_woods n_sums)) [0, 1] (by decide) rfl
        refine zci hA hDw hS (zrunV (As := [.int (-4 : Int32)]) (rest := []) S hK hA hE hPw hDw hS (mX4_refuse l D cI cJ cC G a_T a_n a_k a_t a_s a_r a_c _ T_isKept T_refusals (-4 : Int32) _ h) kX4_refuse ml_X4_51 ⟨rfl, rfl, by decide, by decide⟩ (q0 := 0) (ci := 4) rfl rfl rfl rfl hl.1 rfl (Nat.le_of_ble_eq_true rfl) dX4_sure_24 ⟨Nat.zero_le _, Nat.zero_le _⟩) (fun r_13 T_refusals_14 H locs h hP1 hk1 hS => ?_)
        try dsimp only at h
        have hP : va_P D vwCl ((bX4 cI cJ cC a_T a_n a_k a_t a_s a_r a_c T_isKept T_refusals_14) ++ (bX3 cI cJ cC a_n n_space n_beam n_door n_law n_used n_pipes n_drilled n_total n_open n_pipeInches n_pipeChances n_weights n_woods n_sums)) H := zMerge hP (hDD _ rfl) [0, 1] rfl rfl hk1 hP1
        exact hret r_13 T_refusals_14 _ _ _ _ rfl h hP hS dX4_sure_27
    · replace h := h.2 z
      refine lv_aload_n hx hb dX4_sure_9 rfl (lv_at hl 0 rfl) ?_
      refine lv_bipush (v := (-2 : Int32)) hx hb dX4_sure_10 (by decide) ?_
      have hPw : va_P D vwCl ((bX4 cI cJ cC a_T a_n a_k a_t a_s a_r a_c T_isKept T_refusals)) _ := hP.sub [0, 1] rfl
      have hDw : va_D A ((bX4 cI cJ cC a_T a_n a_k a_t a_s a_r a_c T_isKept T_refusals)) := (hDD _ rfl).sub (ws := (bX4 cI cJ cC a_T a_n a_k a_t a_s a_r a_c T_isKept T_refusals) ++ (bX3 cI cJ cC a_n n_space n_beam n_door n_law n_used n_pipes n_drilled n_total n_open n_pipeInches n_pipeChances n_weights n_woods n_sums)) [0, 1] (by decide) rfl
      refine zci hA hDw hS (zrunV (As := [.int (-2 : Int32)]) (rest := []) S hK hA hE hPw hDw hS (mX4_refuse l D cI cJ cC G a_T a_n a_k a_t a_s a_r a_c _ T_isKept T_refusals (-2 : Int32) _ h) kX4_refuse ml_X4_51 ⟨rfl, rfl, by decide, by decide⟩ (q0 := 0) (ci := 4) rfl rfl rfl rfl hl.1 rfl (Nat.le_of_ble_eq_true rfl) dX4_sure_12 ⟨Nat.zero_le _, Nat.zero_le _⟩) (fun r_15 T_refusals_16 H locs h hP1 hk1 hS => ?_)
      try dsimp only at h
      have hP : va_P D vwCl ((bX4 cI cJ cC a_T a_n a_k a_t a_s a_r a_c T_isKept T_refusals_16) ++ (bX3 cI cJ cC a_n n_space n_beam n_door n_law n_used n_pipes n_drilled n_total n_open n_pipeInches n_pipeChances n_weights n_woods n_sums)) H := zMerge hP (hDD _ rfl) [0, 1] rfl rfl hk1 hP1
      exact hret r_15 T_refusals_16 _ _ _ _ rfl h hP hS dX4_sure_15
def wpX4_best (post : Int32 → Prop) (n_sums : Nat → Int64) : Prop := wpX3_likeliest (fun (r_1 : Int32) => post r_1) n_sums (0 : Int32) (48 : Int32)
set_option maxHeartbeats 4000000 in
set_option maxRecDepth 100000 in
theorem mX4_best (l : Launch) (D : va_G) (cI cJ cC : ClassId) (G : Nat → Nat → Nat) (a_T : Nat → Nat) (a_n : Nat → Nat) (a_k : Nat → Nat) (a_t : Nat → Nat) (a_s : Nat → Nat) (a_r : Nat → Nat) (a_c : Nat → Nat) (sz : Nat) (T_isKept : Int32) (T_refusals : Nat → Int32) (n_space : Int32) (n_beam : Int32) (n_door : Int32) (n_law : Int32) (n_used : Int32) (n_pipes : Int32) (n_drilled : Int64) (n_total : Int64) (n_open : Int32) (n_pipeInches : Nat → Int32) (n_pipeChances : Nat → Int32) (n_weights : Nat → Int64) (n_woods : Nat → Int32) (n_sums : Nat → Int64) (post : Int32 → Prop) (h : wpX4_best post n_sums) : Met l yX4_best (wz yX4_best cX4_best 1 (some .int)) ({ frames := 1, cells := 0, slots := 0, locals := 24 }) (va_Pc [.ref (a_T 0)] (PW D (tz cI cJ cC) G ((bX4 cI cJ cC a_T a_n a_k a_t a_s a_r a_c T_isKept T_refusals) ++ (bX3 cI cJ cC a_n n_space n_beam n_door n_law n_used n_pipes n_drilled n_total n_open n_pipeInches n_pipeChances n_weights n_woods n_sums)) sz)) (va_Qi (fun (r : Int32) (u : Unit) => post r ) (fun (u : Unit) t => va_P D vwCl ((bX4 cI cJ cC a_T a_n a_k a_t a_s a_r a_c T_isKept T_refusals) ++ (bX3 cI cJ cC a_n n_space n_beam n_door n_law n_used n_pipes n_drilled n_total n_open n_pipeInches n_pipeChances n_weights n_woods n_sums)) t.heap) (va_A ((bX4 cI cJ cC a_T a_n a_k a_t a_s a_r a_c T_isKept T_refusals) ++ (bX3 cI cJ cC a_n n_space n_beam n_door n_law n_used n_pipes n_drilled n_total n_open n_pipeInches n_pipeChances n_weights n_woods n_sums)) sz)) 0 0 (va_A ((bX4 cI cJ cC a_T a_n a_k a_t a_s a_r a_c T_isKept T_refusals) ++ (bX3 cI cJ cC a_n n_space n_beam n_door n_law n_used n_pipes n_drilled n_total n_open n_pipeInches n_pipeChances n_weights n_woods n_sums)) sz) := by
  refine zmi (gw := fun (u : Unit) => (bX4 cI cJ cC a_T a_n a_k a_t a_s a_r a_c T_isKept T_refusals) ++ (bX3 cI cJ cC a_n n_space n_beam n_door n_law n_used n_pipes n_drilled n_total n_open n_pipeInches n_pipeChances n_weights n_woods n_sums)) (plainFor_of_name (by decide)) (Nat.le_of_ble_eq_true rfl) ?_
  intro p e s m below meth c A Q ls S hK hD hA hE hP hl hret
  obtain ⟨hx, hb, hml, hown, ht⟩ := id S
  have hS : va_S A s.heap s.heap [] := va_S.rf
  have hDD : ∀ ws : va_W, ws.map (fun q => q.1) = [a_T 0, a_T 1, a_n 0, a_n 1, a_n 2, a_n 3, a_n 4, a_n 5] → va_D A ws := fun ws hw => zD hD (hw.trans rfl)
  have hl : lv_has ls 1 [(0, .ref (a_T 0))] := hl
  unfold wpX4_best at h
  refine lv_aload_n hx hb dX4_best_0 rfl (lv_at hl 0 rfl) ?_
  refine va_get (D := D) (ci := 4) (v := .ref (a_n 0)) (C := RX4) (T := TX4) (N := 8) hx hb ht inX4 hown hK hP 0 rfl rfl 0 (by decide) (ht _ fl_X4_10) (fun _ h9 => h9) rfl dX4_best_1 ?_
  refine lv_iconst (v := (0 : Int32)) hx hb dX4_best_4 (by decide) ?_
  refine lv_bipush (v := (48 : Int32)) hx hb dX4_best_5 (by decide) ?_
  have hPw : va_P D vwCl ((bX3 cI cJ cC a_n n_space n_beam n_door n_law n_used n_pipes n_drilled n_total n_open n_pipeInches n_pipeChances n_weights n_woods n_sums)) _ := hP.sub [2, 3, 4, 5, 6, 7] rfl
  have hDw : va_D A ((bX3 cI cJ cC a_n n_space n_beam n_door n_law n_used n_pipes n_drilled n_total n_open n_pipeInches n_pipeChances n_weights n_woods n_sums)) := (hDD _ rfl).sub (ws := (bX4 cI cJ cC a_T a_n a_k a_t a_s a_r a_c T_isKept T_refusals) ++ (bX3 cI cJ cC a_n n_space n_beam n_door n_law n_used n_pipes n_drilled n_total n_open n_pipeInches n_pipeChances n_weights n_woods n_sums)) [2, 3, 4, 5, 6, 7] (by decide) rfl
  refine zci hA hDw hS (zrunV (As := [.int (0 : Int32), .int (48 : Int32)]) (rest := []) S hK hA hE hPw hDw hS (mX3_likeliest l D cI cJ cC G a_n _ n_space n_beam n_door n_law n_used n_pipes n_drilled n_total n_open n_pipeInches n_pipeChances n_weights n_woods n_sums (0 : Int32) (48 : Int32) _ h) kX3_likeliest ml_X4_189 ⟨rfl, rfl, by decide, by decide⟩ (q0 := 0) (ci := 3) rfl rfl rfl rfl hl.1 rfl (Nat.le_of_ble_eq_true rfl) dX4_best_7 ⟨Nat.zero_le _, Nat.zero_le _⟩) (fun r_1 u H locs h hP1 hk1 hS => ?_)
  try dsimp only at h
  have hP : va_P D vwCl ((bX4 cI cJ cC a_T a_n a_k a_t a_s a_r a_c T_isKept T_refusals) ++ (bX3 cI cJ cC a_n n_space n_beam n_door n_law n_used n_pipes n_drilled n_total n_open n_pipeInches n_pipeChances n_weights n_woods n_sums)) H := zMerge hP (hDD _ rfl) [2, 3, 4, 5, 6, 7] rfl rfl hk1 hP1
  exact hret r_1 () _ _ _ _ rfl h hP hS dX4_best_10
def lpX4_safest_4 (K : Int32 → Int32 → Prop) (n_pipes : Int32) (n_pipeInches : Nat → Int32) (n_pipeChances : Nat → Int32) (n_sums : Nat → Int64) : Nat → Int32 → Int32 → Prop
  | 0, _, _ => False
  | n + 1, x1, x2 => (((48 : Int32) ≤ x2 → (K x1 x2)) ∧ (¬ ((48 : Int32) ≤ x2) → (wpX3_safety (fun (r_1 : Int64) => wpX3_safety (fun (r_2 : Int64) => ((r_1 ≤ r_2 → (lpX4_safest_4 K n_pipes n_pipeInches n_pipeChances n_sums n x1 (x2 + (1 : Int32)))) ∧ (¬ (r_1 ≤ r_2) → (lpX4_safest_4 K n_pipes n_pipeInches n_pipeChances n_sums n x2 (x2 + (1 : Int32)))))) n_pipes n_pipeInches n_pipeChances n_sums x1) n_pipes n_pipeInches n_pipeChances n_sums x2)))
set_option maxHeartbeats 4000000 in
set_option maxRecDepth 100000 in
theorem wX4_safest_4 (l : Launch) (D : va_G) (cI cJ cC : ClassId) (G : Nat → Nat → Nat) (a_T : Nat → Nat) (a_n : Nat → Nat) (a_k : Nat → Nat) (a_t : Nat → Nat) (a_s : Nat → Nat) (a_r : Nat → Nat) (a_c : Nat → Nat) {p : Program} {e : Env} {s : State} {m : MethodId} {below : List Frame} {meth : Method} {c : Code} {A : Nat → Prop} {Q : State → Prop} (T_isKept : Int32) (T_refusals : Nat → Int32) (n_space : Int32) (n_beam : Int32) (n_door : Int32) (n_law : Int32) (n_used : Int32) (n_pipes : Int32) (n_drilled : Int64) (n_total : Int64) (n_open : Int32) (n_pipeInches : Nat → Int32) (n_pipeChances : Nat → Int32) (n_weights : Nat → Int64) (n_woods : Nat → Int32) (n_sums : Nat → Int64) (K : Int32 → Int32 → Prop) (S : CallFix p m c cX4_safest 3 s ([.ref (a_T 0)] : List Value).toArray bg RX4) (hK : va_K D vwCl (tz cI cJ cC) s) (hDD : ∀ ws : va_W, ws.map (fun q => q.1) = [a_T 0, a_T 1, a_n 0, a_n 1, a_n 2, a_n 3, a_n 4, a_n 5] → va_D A ws) (hA : ∀ q, s.heap.size ≤ q → A q) (hE : EV G A s) (hKK : ∀ (x1 : Int32) (x2 : Int32) (H : Heap) (locs : List Loc) (ls : Array Slot), K x1 x2 → va_P D vwCl ((bX4 cI cJ cC a_T a_n a_k a_t a_s a_r a_c T_isKept T_refusals) ++ (bX3 cI cJ cC a_n n_space n_beam n_door n_law n_used n_pipes n_drilled n_total n_open n_pipeInches n_pipeChances n_weights n_woods n_sums)) H → va_S A s.heap H locs → lv_has ls 3 [(1, .int x1)] → W p l e ({ frames := 3, cells := 0, slots := 0, locals := 65 }) s m ([.ref (a_T 0)] : List Value).toArray below meth c H locs 0 0 Q (F0 m 38 ls [])) :
    ∀ (n : Nat) (x1 : Int32) (x2 : Int32) (H : Heap) (locs : List Loc) (ls : Array Slot), lpX4_safest_4 K n_pipes n_pipeInches n_pipeChances n_sums n x1 x2 → va_P D vwCl ((bX4 cI cJ cC a_T a_n a_k a_t a_s a_r a_c T_isKept T_refusals) ++ (bX3 cI cJ cC a_n n_space n_beam n_door n_law n_used n_pipes n_drilled n_total n_open n_pipeInches n_pipeChances n_weights n_woods n_sums)) H → va_S A s.heap H locs → lv_has ls 3 [(0, .ref (a_T 0)), (1, .int x1), (2, .int x2)] → W p l e ({ frames := 3, cells := 0, slots := 0, locals := 65 }) s m ([.ref (a_T 0)] : List Value).toArray below meth c H locs 0 0 Q (F0 m 4 ls []) := by
  obtain ⟨hx, hb, hml, hown, ht⟩ := id S
  intro n
  induction n with
  | zero =>
    intro x1 x2 H locs ls h
    exact absurd h (by simp [lpX4_safest_4])
  | succ n ih =>
    intro x1 x2 H locs ls h hP hS hl
    rw [lpX4_safest_4] at h
    refine lv_iload_n hx hb dX4_safest_4 rfl (lv_at hl 2 rfl) ?_
    refine lv_bipush (v := (48 : Int32)) hx hb dX4_safest_5 (by decide) ?_
    refine lv_icmp_ge (tgt := 38) hx hb dX4_safest_7 (by decide) (fun z => ?_) (fun z => ?_)
    · replace h := h.1 z
      exact hKK x1 x2 _ _ _ h hP hS (lv_sub hl [1] rfl)
    · replace h := h.2 z
      refine lv_aload_n hx hb dX4_safest_10 rfl (lv_at hl 0 rfl) ?_
      refine va_get (D := D) (ci := 4) (v := .ref (a_n 0)) (C := RX4) (T := TX4) (N := 8) hx hb ht inX4 hown hK hP 0 rfl rfl 0 (by decide) (ht _ fl_X4_10) (fun _ h9 => h9) rfl dX4_safest_11 ?_
      refine lv_iload_n hx hb dX4_safest_14 rfl (lv_at hl 2 rfl) ?_
      have hPw : va_P D vwCl ((bX3 cI cJ cC a_n n_space n_beam n_door n_law n_used n_pipes n_drilled n_total n_open n_pipeInches n_pipeChances n_weights n_woods n_sums)) _ := hP.sub [2, 3, 4, 5, 6, 7] rfl
      have hDw : va_D A ((bX3 cI cJ cC a_n n_space n_beam n_door n_law n_used n_pipes n_drilled n_total n_open n_pipeInches n_pipeChances n_weights n_woods n_sums)) := (hDD _ rfl).sub (ws := (bX4 cI cJ cC a_T a_n a_k a_t a_s a_r a_c T_isKept T_refusals) ++ (bX3 cI cJ cC a_n n_space n_beam n_door n_law n_used n_pipes n_drilled n_total n_open n_pipeInches n_pipeChances n_weights n_woods n_sums)) [2, 3, 4, 5, 6, 7] (by decide) rfl
      refine zcl hA hDw hS (zrunV (As := [.int x2]) (rest := []) S hK hA hE hPw hDw hS (mX3_safety l D cI cJ cC G a_n _ n_space n_beam n_door n_law n_used n_pipes n_drilled n_total n_open n_pipeInches n_pipeChances n_weights n_woods n_sums x2 _ h) kX3_safety ml_X4_192 ⟨rfl, rfl, by decide, by decide⟩ (q0 := 0) (ci := 3) rfl rfl rfl rfl hl.1 rfl (Nat.le_of_ble_eq_true rfl) dX4_safest_15 ⟨Nat.zero_le _, Nat.zero_le _⟩) (fun r_1 u H locs h hP1 hk1 hS => ?_)
      try dsimp only at h
      have hP : va_P D vwCl ((bX4 cI cJ cC a_T a_n a_k a_t a_s a_r a_c T_isKept T_refusals) ++ (bX3 cI cJ cC a_n n_space n_beam n_door n_law n_used n_pipes n_drilled n_total n_open n_pipeInches n_pipeChances n_weights n_woods n_sums)) H := zMerge hP (hDD _ rfl) [2, 3, 4, 5, 6, 7] rfl rfl hk1 hP1
      refine lv_aload_n hx hb dX4_safest_18 rfl (lv_at hl 0 rfl) ?_
      refine va_get (D := D) (ci := 4) (v := .ref (a_n 0)) (C := RX4) (T := TX4) (N := 8) hx hb ht inX4 hown hK hP 0 rfl rfl 0 (by decide) (ht _ fl_X4_10) (fun _ h9 => h9) rfl dX4_safest_19 ?_
      refine lv_iload_n hx hb dX4_safest_22 rfl (lv_at hl 1 rfl) ?_
      have hPw : va_P D vwCl ((bX3 cI cJ cC a_n n_space n_beam n_door n_law n_used n_pipes n_drilled n_total n_open n_pipeInches n_pipeChances n_weights n_woods n_sums)) _ := hP.sub [2, 3, 4, 5, 6, 7] rfl
      have hDw : va_D A ((bX3 cI cJ cC a_n n_space n_beam n_door n_law n_used n_pipes n_drilled n_total n_open n_pipeInches n_pipeChances n_weights n_woods n_sums)) := (hDD _ rfl).sub (ws := (bX4 cI cJ cC a_T a_n a_k a_t a_s a_r a_c T_isKept T_refusals) ++ (bX3 cI cJ cC a_n n_space n_beam n_door n_law n_used n_pipes n_drilled n_total n_open n_pipeInches n_pipeChances n_weights n_woods n_sums)) [2, 3, 4, 5, 6, 7] (by decide) rfl
      refine zcl hA hDw hS (zrunV (As := [.int x1]) (rest := [.long r_1]) S hK hA hE hPw hDw hS (mX3_safety l D cI cJ cC G a_n _ n_space n_beam n_door n_law n_used n_pipes n_drilled n_total n_open n_pipeInches n_pipeChances n_weights n_woods n_sums x1 _ h) kX3_safety ml_X4_192 ⟨rfl, rfl, by decide, by decide⟩ (q0 := 0) (ci := 3) rfl rfl rfl rfl hl.1 rfl (Nat.le_of_ble_eq_true rfl) dX4_safest_23 ⟨Nat.zero_le _, Nat.zero_le _⟩) (fun r_2 u H locs h hP1 hk1 hS => ?_)
      try dsimp only at h
      have hP : va_P D vwCl ((bX4 cI cJ cC a_T a_n a_k a_t a_s a_r a_c T_isKept T_refusals) ++ (bX3 cI cJ cC a_n n_space n_beam n_door n_law n_used n_pipes n_drilled n_total n_open n_pipeInches n_pipeChances n_weights n_woods n_sums)) H := zMerge hP (hDD _ rfl) [2, 3, 4, 5, 6, 7] rfl rfl hk1 hP1
      refine W.lcmp hx hb dX4_safest_26 ?_
      refine lv_if_le (tgt := 32) hx hb dX4_safest_27 (by decide) (fun z => ?_) (fun z => ?_)
      · replace h := h.1 (zl_le.mp z)
        refine lv_iinc (v := x2 + (1 : Int32)) (lv' := [(2, .int (x2 + (1 : Int32))), (0, .ref (a_T 0)), (1, .int x1)]) hx hb dX4_safest_32 hl (k := 2) rfl (by rfl) (by decide) rfl (fun ls hl => ?_)
        refine lv_goto (tgt := 4) hx hb dX4_safest_35 (by decide) ?_
        exact ih x1 (x2 + (1 : Int32)) _ _ _ h hP hS (lv_sub hl [1, 2, 0] rfl)
      · replace h := h.2 (fun q => z (zl_le.mpr q))
        refine lv_iload_n hx hb dX4_safest_30 rfl (lv_at hl 2 rfl) ?_
        refine lv_istore_n (lv' := [(1, .int x2), (0, .ref (a_T 0)), (2, .int x2)]) hx hb dX4_safest_31 rfl hl (by decide) rfl (fun ls hl => ?_)
        refine lv_iinc (v := x2 + (1 : Int32)) (lv' := [(2, .int (x2 + (1 : Int32))), (1, .int x2), (0, .ref (a_T 0))]) hx hb dX4_safest_32 hl (k := 2) rfl (by rfl) (by decide) rfl (fun ls hl => ?_)
        refine lv_goto (tgt := 4) hx hb dX4_safest_35 (by decide) ?_
        exact ih x2 (x2 + (1 : Int32)) _ _ _ h hP hS (lv_sub hl [2, 1, 0] rfl)
def wpX4_safest (post : Int32 → Prop) (n_pipes : Int32) (n_pipeInches : Nat → Int32) (n_pipeChances : Nat → Int32) (n_sums : Nat → Int64) : Prop := ∃ n_3 : Nat, lpX4_safest_4 (fun (x1_4 : Int32) (x2_5 : Int32) => post x1_4) n_pipes n_pipeInches n_pipeChances n_sums n_3 (0 : Int32) (1 : Int32)
set_option maxHeartbeats 4000000 in
set_option maxRecDepth 100000 in
theorem mX4_safest (l : Launch) (D : va_G) (cI cJ cC : ClassId) (G : Nat → Nat → Nat) (a_T : Nat → Nat) (a_n : Nat → Nat) (a_k : Nat → Nat) (a_t : Nat → Nat) (a_s : Nat → Nat) (a_r : Nat → Nat) (a_c : Nat → Nat) (sz : Nat) (T_isKept : Int32) (T_refusals : Nat → Int32) (n_space : Int32) (n_beam : Int32) (n_door : Int32) (n_law : Int32) (n_used : Int32) (n_pipes : Int32) (n_drilled : Int64) (n_total : Int64) (n_open : Int32) (n_pipeInches : Nat → Int32) (n_pipeChances : Nat → Int32) (n_weights : Nat → Int64) (n_woods : Nat → Int32) (n_sums : Nat → Int64) (post : Int32 → Prop) (h : wpX4_safest post n_pipes n_pipeInches n_pipeChances n_sums) : Met l yX4_safest (wz yX4_safest cX4_safest 3 (some .int)) ({ frames := 3, cells := 0, slots := 0, locals := 65 }) (va_Pc [.ref (a_T 0)] (PW D (tz cI cJ cC) G ((bX4 cI cJ cC a_T a_n a_k a_t a_s a_r a_c T_isKept T_refusals) ++ (bX3 cI cJ cC a_n n_space n_beam n_door n_law n_used n_pipes n_drilled n_total n_open n_pipeInches n_pipeChances n_weights n_woods n_sums)) sz)) (va_Qi (fun (r : Int32) (u : Unit) => post r ) (fun (u : Unit) t => va_P D vwCl ((bX4 cI cJ cC a_T a_n a_k a_t a_s a_r a_c T_isKept T_refusals) ++ (bX3 cI cJ cC a_n n_space n_beam n_door n_law n_used n_pipes n_drilled n_total n_open n_pipeInches n_pipeChances n_weights n_woods n_sums)) t.heap) (va_A ((bX4 cI cJ cC a_T a_n a_k a_t a_s a_r a_c T_isKept T_refusals) ++ (bX3 cI cJ cC a_n n_space n_beam n_door n_law n_used n_pipes n_drilled n_total n_open n_pipeInches n_pipeChances n_weights n_woods n_sums)) sz)) 0 0 (va_A ((bX4 cI cJ cC a_T a_n a_k a_t a_s a_r a_c T_isKept T_refusals) ++ (bX3 cI cJ cC a_n n_space n_beam n_door n_law n_used n_pipes n_drilled n_total n_open n_pipeInches n_pipeChances n_weights n_woods n_sums)) sz) := by
  refine zmi (gw := fun (u : Unit) => (bX4 cI cJ cC a_T a_n a_k a_t a_s a_r a_c T_isKept T_refusals) ++ (bX3 cI cJ cC a_n n_space n_beam n_door n_law n_used n_pipes n_drilled n_total n_open n_pipeInches n_pipeChances n_weights n_woods n_sums)) (plainFor_of_name (by decide)) (Nat.le_of_ble_eq_true rfl) ?_
  intro p e s m below meth c A Q ls S hK hD hA hE hP hl hret
  obtain ⟨hx, hb, hml, hown, ht⟩ := id S
  have hS : va_S A s.heap s.heap [] := va_S.rf
  have hDD : ∀ ws : va_W, ws.map (fun q => q.1) = [a_T 0, a_T 1, a_n 0, a_n 1, a_n 2, a_n 3, a_n 4, a_n 5] → va_D A ws := fun ws hw => zD hD (hw.trans rfl)
  have hl : lv_has ls 3 [(0, .ref (a_T 0))] := hl
  unfold wpX4_safest at h
  refine lv_iconst (v := (0 : Int32)) hx hb dX4_safest_0 (by decide) ?_
  refine lv_istore_n (lv' := [(1, .int (0 : Int32)), (0, .ref (a_T 0))]) hx hb dX4_safest_1 rfl hl (by decide) rfl (fun ls hl => ?_)
  refine lv_iconst (v := (1 : Int32)) hx hb dX4_safest_2 (by decide) ?_
  refine lv_istore_n (lv' := [(2, .int (1 : Int32)), (1, .int (0 : Int32)), (0, .ref (a_T 0))]) hx hb dX4_safest_3 rfl hl (by decide) rfl (fun ls hl => ?_)
  obtain ⟨n_3, h⟩ := h
  refine wX4_safest_4 l D cI cJ cC G a_T a_n a_k a_t a_s a_r a_c T_isKept T_refusals n_space n_beam n_door n_law n_used n_pipes n_drilled n_total n_open n_pipeInches n_pipeChances n_weights n_woods n_sums _ S hK hDD hA hE (fun x1_4 x2_5 H locs ls h hP hS hl => ?_) n_3 (0 : Int32) (1 : Int32) _ _ _ h hP hS (lv_sub hl [2, 1, 0] rfl)
  try dsimp only at h
  refine lv_iload_n hx hb dX4_safest_38 rfl (lv_at hl 0 rfl) ?_
  exact hret x1_4 () _ _ _ _ rfl h hP hS dX4_safest_39
def wpX4_holes (post : Int32 → (Nat → Int32) → Prop) (T_refusals : Nat → Int32) (n_beam : Int32) (n_weights : Nat → Int64) (n_woods : Nat → Int32) (p1 : Int32) : Prop := wpX4_isNoInch (fun (r_1 : Int32) => ((r_1 = (0 : Int32) → (wpX3_worstTillWood (fun (r_2 : Int32) => post r_2 T_refusals) n_beam n_weights n_woods p1)) ∧ (¬ (r_1 = (0 : Int32)) → (wpX4_refuse (fun (r_3 : Int32) (T_refusals_4 : Nat → Int32) => post r_3 T_refusals_4) T_refusals (-1 : Int32))))) p1
set_option maxHeartbeats 4000000 in
set_option maxRecDepth 100000 in
theorem mX4_holes (l : Launch) (D : va_G) (cI cJ cC : ClassId) (G : Nat → Nat → Nat) (a_T : Nat → Nat) (a_n : Nat → Nat) (a_k : Nat → Nat) (a_t : Nat → Nat) (a_s : Nat → Nat) (a_r : Nat → Nat) (a_c : Nat → Nat) (sz : Nat) (T_isKept : Int32) (T_refusals : Nat → Int32) (n_space : Int32) (n_beam : Int32) (n_door : Int32) (n_law : Int32) (n_used : Int32) (n_pipes : Int32) (n_drilled : Int64) (n_total : Int64) (n_open : Int32) (n_pipeInches : Nat → Int32) (n_pipeChances : Nat → Int32) (n_weights : Nat → Int64) (n_woods : Nat → Int32) (n_sums : Nat → Int64) (p1 : Int32) (post : Int32 → (Nat → Int32) → Prop) (h : wpX4_holes post T_refusals n_beam n_weights n_woods p1) : Met l yX4_holes (wz yX4_holes cX4_holes 2 (some .int)) ({ frames := 4, cells := 0, slots := 0, locals := 90 }) (va_Pc [.ref (a_T 0), .int p1] (PW D (tz cI cJ cC) G ((bX4 cI cJ cC a_T a_n a_k a_t a_s a_r a_c T_isKept T_refusals) ++ (bX3 cI cJ cC a_n n_space n_beam n_door n_law n_used n_pipes n_drilled n_total n_open n_pipeInches n_pipeChances n_weights n_woods n_sums)) sz)) (va_Qi (fun (r : Int32) (u : (Nat → Int32)) => post r u) (fun (u : (Nat → Int32)) t => va_P D vwCl ((bX4 cI cJ cC a_T a_n a_k a_t a_s a_r a_c T_isKept u) ++ (bX3 cI cJ cC a_n n_space n_beam n_door n_law n_used n_pipes n_drilled n_total n_open n_pipeInches n_pipeChances n_weights n_woods n_sums)) t.heap) (va_A ((bX4 cI cJ cC a_T a_n a_k a_t a_s a_r a_c T_isKept T_refusals) ++ (bX3 cI cJ cC a_n n_space n_beam n_door n_law n_used n_pipes n_drilled n_total n_open n_pipeInches n_pipeChances n_weights n_woods n_sums)) sz)) 0 0 (va_A ((bX4 cI cJ cC a_T a_n a_k a_t a_s a_r a_c T_isKept T_refusals) ++ (bX3 cI cJ cC a_n n_space n_beam n_door n_law n_used n_pipes n_drilled n_total n_open n_pipeInches n_pipeChances n_weights n_woods n_sums)) sz) := by
  refine zmi (gw := fun (u : (Nat → Int32)) => (bX4 cI cJ cC a_T a_n a_k a_t a_s a_r a_c T_isKept u) ++ (bX3 cI cJ cC a_n n_space n_beam n_door n_law n_used n_pipes n_drilled n_total n_open n_pipeInches n_pipeChances n_weights n_woods n_sums)) (plainFor_of_name (by decide)) (Nat.le_of_ble_eq_true rfl) ?_
  intro p e s m below meth c A Q ls S hK hD hA hE hP hl hret
  obtain ⟨hx, hb, hml, hown, ht⟩ := id S
  have hS : va_S A s.heap s.heap [] := va_S.rf
  have hDD : ∀ ws : va_W, ws.map (fun q => q.1) = [a_T 0, a_T 1, a_n 0, a_n 1, a_n 2, a_n 3, a_n 4, a_n 5] → va_D A ws := fun ws hw => zD hD (hw.trans rfl)
  have hl : lv_has ls 2 [(0, .ref (a_T 0)), (1, .int p1)] := hl
  unfold wpX4_holes at h
  refine lv_iload_n hx hb dX4_holes_0 rfl (lv_at hl 1 rfl) ?_
  refine zci hA zD0 hS (zrunS (As := [.int p1]) (rest := []) S hK hA hE zP0 zD0 hS (mX4_isNoInch l D cI cJ cC G _ p1 _ h) kX4_isNoInch ml_X4_95 ⟨rfl, rfl, by decide, by decide⟩ rfl hl.1 rfl (Nat.le_of_ble_eq_true rfl) dX4_holes_1 ⟨Nat.zero_le _, Nat.zero_le _⟩) (fun r_1 u H locs h hP1 hk1 hS => ?_)
  try dsimp only at h
  have hP : va_P D vwCl ((bX4 cI cJ cC a_T a_n a_k a_t a_s a_r a_c T_isKept T_refusals) ++ (bX3 cI cJ cC a_n n_space n_beam n_door n_law n_used n_pipes n_drilled n_total n_open n_pipeInches n_pipeChances n_weights n_woods n_sums)) H := zKeep hP hk1
  refine lv_if_eq (tgt := 13) hx hb dX4_holes_4 (by decide) (fun z => ?_) (fun z => ?_)
  · replace h := h.1 z
    refine lv_aload_n hx hb dX4_holes_13 rfl (lv_at hl 0 rfl) ?_
    refine va_get (D := D) (ci := 4) (v := .ref (a_n 0)) (C := RX4) (T := TX4) (N := 8) hx hb ht inX4 hown hK hP 0 rfl rfl 0 (by decide) (ht _ fl_X4_10) (fun _ h9 => h9) rfl dX4_holes_14 ?_
    refine lv_iload_n hx hb dX4_holes_17 rfl (lv_at hl 1 rfl) ?_
    have hPw : va_P D vwCl ((bX3 cI cJ cC a_n n_space n_beam n_door n_law n_used n_pipes n_drilled n_total n_open n_pipeInches n_pipeChances n_weights n_woods n_sums)) _ := hP.sub [2, 3, 4, 5, 6, 7] rfl
    have hDw : va_D A ((bX3 cI cJ cC a_n n_space n_beam n_door n_law n_used n_pipes n_drilled n_total n_open n_pipeInches n_pipeChances n_weights n_woods n_sums)) := (hDD _ rfl).sub (ws := (bX4 cI cJ cC a_T a_n a_k a_t a_s a_r a_c T_isKept T_refusals) ++ (bX3 cI cJ cC a_n n_space n_beam n_door n_law n_used n_pipes n_drilled n_total n_open n_pipeInches n_pipeChances n_weights n_woods n_sums)) [2, 3, 4, 5, 6, 7] (by decide) rfl
    refine zci hA hDw hS (zrunV (As := [.int p1]) (rest := []) S hK hA hE hPw hDw hS (mX3_worstTillWood l D cI cJ cC G a_n _ n_space n_beam n_door n_law n_used n_pipes n_drilled n_total n_open n_pipeInches n_pipeChances n_weights n_woods n_sums p1 _ h) kX3_worstTillWood ml_X4_195 ⟨rfl, rfl, by decide, by decide⟩ (q0 := 0) (ci := 3) rfl rfl rfl rfl hl.1 rfl (Nat.le_of_ble_eq_true rfl) dX4_holes_18 ⟨Nat.zero_le _, Nat.zero_le _⟩) (fun r_2 u H locs h hP1 hk1 hS => ?_)
    try dsimp only at h
    have hP : va_P D vwCl ((bX4 cI cJ cC a_T a_n a_k a_t a_s a_r a_c T_isKept T_refusals) ++ (bX3 cI cJ cC a_n n_space n_beam n_door n_law n_used n_pipes n_drilled n_total n_open n_pipeInches n_pipeChances n_weights n_woods n_sums)) H := zMerge hP (hDD _ rfl) [2, 3, 4, 5, 6, 7] rfl rfl hk1 hP1
    exact hret r_2 T_refusals _ _ _ _ rfl h hP hS dX4_holes_21
  · replace h := h.2 z
    refine lv_aload_n hx hb dX4_holes_7 rfl (lv_at hl 0 rfl) ?_
    refine lv_iconst (v := (-1 : Int32)) hx hb dX4_holes_8 (by decide) ?_
    have hPw : va_P D vwCl ((bX4 cI cJ cC a_T a_n a_k a_t a_s a_r a_c T_isKept T_refusals)) _ := hP.sub [0, 1] rfl
    have hDw : va_D A ((bX4 cI cJ cC a_T a_n a_k a_t a_s a_r a_c T_isKept T_refusals)) := (hDD _ rfl).sub (ws := (bX4 cI cJ cC a_T a_n a_k a_t a_s a_r a_c T_isKept T_refusals) ++ (bX3 cI cJ cC a_n n_space n_beam n_door n_law n_used n_pipes n_drilled n_total n_open n_pipeInches n_pipeChances n_weights n_woods n_sums)) [0, 1] (by decide) rfl
    refine zci hA hDw hS (zrunV (As := [.int (-1 : Int32)]) (rest := []) S hK hA hE hPw hDw hS (mX4_refuse l D cI cJ cC G a_T a_n a_k a_t a_s a_r a_c _ T_isKept T_refusals (-1 : Int32) _ h) kX4_refuse ml_X4_51 ⟨rfl, rfl, by decide, by decide⟩ (q0 := 0) (ci := 4) rfl rfl rfl rfl hl.1 rfl (Nat.le_of_ble_eq_true rfl) dX4_holes_9 ⟨Nat.zero_le _, Nat.zero_le _⟩) (fun r_3 T_refusals_4 H locs h hP1 hk1 hS => ?_)
    try dsimp only at h
    have hP : va_P D vwCl ((bX4 cI cJ cC a_T a_n a_k a_t a_s a_r a_c T_isKept T_refusals_4) ++ (bX3 cI cJ cC a_n n_space n_beam n_door n_law n_used n_pipes n_drilled n_total n_open n_pipeInches n_pipeChances n_weights n_woods n_sums)) H := zMerge hP (hDD _ rfl) [0, 1] rfl rfl hk1 hP1
    exact hret r_3 T_refusals_4 _ _ _ _ rfl h hP hS dX4_holes_12
def wpX4_mean (post : Int64 → (Nat → Int32) → Prop) (T_refusals : Nat → Int32) (n_beam : Int32) (n_total : Int64) (n_weights : Nat → Int64) (n_woods : Nat → Int32) (p1 : Int32) (p2 : Int32) : Prop := wpX4_isNoInch (fun (r_1 : Int32) => ((r_1 = (0 : Int32) → (wpX4_isNoPart (fun (r_2 : Int32) => ((r_2 = (0 : Int32) → (wpX3_allTillWood (fun (r_3 : Int64) => wpX4_partOf (fun (r_4 : Int64) => post r_4 T_refusals) r_3 n_total p2) n_beam n_weights n_woods p1)) ∧ (¬ (r_2 = (0 : Int32)) → (wpX4_refuseLong (fun (r_5 : Int64) (T_refusals_6 : Nat → Int32) => post r_5 T_refusals_6) T_refusals (-2 : Int32))))) p2)) ∧ (¬ (r_1 = (0 : Int32)) → (wpX4_refuseLong (fun (r_7 : Int64) (T_refusals_8 : Nat → Int32) => post r_7 T_refusals_8) T_refusals (-1 : Int32))))) p1
set_option maxHeartbeats 4000000 in
set_option maxRecDepth 100000 in
theorem mX4_mean (l : Launch) (D : va_G) (cI cJ cC : ClassId) (G : Nat → Nat → Nat) (a_T : Nat → Nat) (a_n : Nat → Nat) (a_k : Nat → Nat) (a_t : Nat → Nat) (a_s : Nat → Nat) (a_r : Nat → Nat) (a_c : Nat → Nat) (sz : Nat) (T_isKept : Int32) (T_refusals : Nat → Int32) (n_space : Int32) (n_beam : Int32) (n_door : Int32) (n_law : Int32) (n_used : Int32) (n_pipes : Int32) (n_drilled : Int64) (n_total : Int64) (n_open : Int32) (n_pipeInches : Nat → Int32) (n_pipeChances : Nat → Int32) (n_weights : Nat → Int64) (n_woods : Nat → Int32) (n_sums : Nat → Int64) (p1 : Int32) (p2 : Int32) (post : Int64 → (Nat → Int32) → Prop) (h : wpX4_mean post T_refusals n_beam n_total n_weights n_woods p1 p2) : Met l yX4_mean (wz yX4_mean cX4_mean 3 (some .long)) ({ frames := 4, cells := 0, slots := 0, locals := 91 }) (va_Pc [.ref (a_T 0), .int p1, .int p2] (PW D (tz cI cJ cC) G ((bX4 cI cJ cC a_T a_n a_k a_t a_s a_r a_c T_isKept T_refusals) ++ (bX3 cI cJ cC a_n n_space n_beam n_door n_law n_used n_pipes n_drilled n_total n_open n_pipeInches n_pipeChances n_weights n_woods n_sums)) sz)) (va_Ql (fun (r : Int64) (u : (Nat → Int32)) => post r u) (fun (u : (Nat → Int32)) t => va_P D vwCl ((bX4 cI cJ cC a_T a_n a_k a_t a_s a_r a_c T_isKept u) ++ (bX3 cI cJ cC a_n n_space n_beam n_door n_law n_used n_pipes n_drilled n_total n_open n_pipeInches n_pipeChances n_weights n_woods n_sums)) t.heap) (va_A ((bX4 cI cJ cC a_T a_n a_k a_t a_s a_r a_c T_isKept T_refusals) ++ (bX3 cI cJ cC a_n n_space n_beam n_door n_law n_used n_pipes n_drilled n_total n_open n_pipeInches n_pipeChances n_weights n_woods n_sums)) sz)) 0 0 (va_A ((bX4 cI cJ cC a_T a_n a_k a_t a_s a_r a_c T_isKept T_refusals) ++ (bX3 cI cJ cC a_n n_space n_beam n_door n_law n_used n_pipes n_drilled n_total n_open n_pipeInches n_pipeChances n_weights n_woods n_sums)) sz) := by
  refine zml (gw := fun (u : (Nat → Int32)) => (bX4 cI cJ cC a_T a_n a_k a_t a_s a_r a_c T_isKept u) ++ (bX3 cI cJ cC a_n n_space n_beam n_door n_law n_used n_pipes n_drilled n_total n_open n_pipeInches n_pipeChances n_weights n_woods n_sums)) (plainFor_of_name (by decide)) (Nat.le_of_ble_eq_true rfl) ?_
  intro p e s m below meth c A Q ls S hK hD hA hE hP hl hret
  obtain ⟨hx, hb, hml, hown, ht⟩ := id S
  have hS : va_S A s.heap s.heap [] := va_S.rf
  have hDD : ∀ ws : va_W, ws.map (fun q => q.1) = [a_T 0, a_T 1, a_n 0, a_n 1, a_n 2, a_n 3, a_n 4, a_n 5] → va_D A ws := fun ws hw => zD hD (hw.trans rfl)
  have hl : lv_has ls 3 [(0, .ref (a_T 0)), (1, .int p1), (2, .int p2)] := hl
  unfold wpX4_mean at h
  refine lv_iload_n hx hb dX4_mean_0 rfl (lv_at hl 1 rfl) ?_
  refine zci hA zD0 hS (zrunS (As := [.int p1]) (rest := []) S hK hA hE zP0 zD0 hS (mX4_isNoInch l D cI cJ cC G _ p1 _ h) kX4_isNoInch ml_X4_95 ⟨rfl, rfl, by decide, by decide⟩ rfl hl.1 rfl (Nat.le_of_ble_eq_true rfl) dX4_mean_1 ⟨Nat.zero_le _, Nat.zero_le _⟩) (fun r_1 u H locs h hP1 hk1 hS => ?_)
  try dsimp only at h
  have hP : va_P D vwCl ((bX4 cI cJ cC a_T a_n a_k a_t a_s a_r a_c T_isKept T_refusals) ++ (bX3 cI cJ cC a_n n_space n_beam n_door n_law n_used n_pipes n_drilled n_total n_open n_pipeInches n_pipeChances n_weights n_woods n_sums)) H := zKeep hP hk1
  refine lv_if_eq (tgt := 13) hx hb dX4_mean_4 (by decide) (fun z => ?_) (fun z => ?_)
  · replace h := h.1 z
    refine lv_iload_n hx hb dX4_mean_13 rfl (lv_at hl 2 rfl) ?_
    refine zci hA zD0 hS (zrunS (As := [.int p2]) (rest := []) S hK hA hE zP0 zD0 hS (mX4_isNoPart l D cI cJ cC G _ p2 _ h) kX4_isNoPart ml_X4_173 ⟨rfl, rfl, by decide, by decide⟩ rfl hl.1 rfl (Nat.le_of_ble_eq_true rfl) dX4_mean_14 ⟨Nat.zero_le _, Nat.zero_le _⟩) (fun r_2 u H locs h hP1 hk1 hS => ?_)
    try dsimp only at h
    have hP : va_P D vwCl ((bX4 cI cJ cC a_T a_n a_k a_t a_s a_r a_c T_isKept T_refusals) ++ (bX3 cI cJ cC a_n n_space n_beam n_door n_law n_used n_pipes n_drilled n_total n_open n_pipeInches n_pipeChances n_weights n_woods n_sums)) H := zKeep hP hk1
    refine lv_if_eq (tgt := 27) hx hb dX4_mean_17 (by decide) (fun z => ?_) (fun z => ?_)
    · replace h := h.1 z
      refine lv_aload_n hx hb dX4_mean_27 rfl (lv_at hl 0 rfl) ?_
      refine va_get (D := D) (ci := 4) (v := .ref (a_n 0)) (C := RX4) (T := TX4) (N := 8) hx hb ht inX4 hown hK hP 0 rfl rfl 0 (by decide) (ht _ fl_X4_10) (fun _ h9 => h9) rfl dX4_mean_28 ?_
      refine lv_iload_n hx hb dX4_mean_31 rfl (lv_at hl 1 rfl) ?_
      have hPw : va_P D vwCl ((bX3 cI cJ cC a_n n_space n_beam n_door n_law n_used n_pipes n_drilled n_total n_open n_pipeInches n_pipeChances n_weights n_woods n_sums)) _ := hP.sub [2, 3, 4, 5, 6, 7] rfl
      have hDw : va_D A ((bX3 cI cJ cC a_n n_space n_beam n_door n_law n_used n_pipes n_drilled n_total n_open n_pipeInches n_pipeChances n_weights n_woods n_sums)) := (hDD _ rfl).sub (ws := (bX4 cI cJ cC a_T a_n a_k a_t a_s a_r a_c T_isKept T_refusals) ++ (bX3 cI cJ cC a_n n_space n_beam n_door n_law n_used n_pipes n_drilled n_total n_open n_pipeInches n_pipeChances n_weights n_woods n_sums)) [2, 3, 4, 5, 6, 7] (by decide) rfl
      refine zcl hA hDw hS (zrunV (As := [.int p1]) (rest := []) S hK hA hE hPw hDw hS (mX3_allTillWood l D cI cJ cC G a_n _ n_space n_beam n_door n_law n_used n_pipes n_drilled n_total n_open n_pipeInches n_pipeChances n_weights n_woods n_sums p1 _ h) kX3_allTillWood ml_X4_198 ⟨rfl, rfl, by decide, by decide⟩ (q0 := 0) (ci := 3) rfl rfl rfl rfl hl.1 rfl (Nat.le_of_ble_eq_true rfl) dX4_mean_32 ⟨Nat.zero_le _, Nat.zero_le _⟩) (fun r_3 u H locs h hP1 hk1 hS => ?_)
      try dsimp only at h
      have hP : va_P D vwCl ((bX4 cI cJ cC a_T a_n a_k a_t a_s a_r a_c T_isKept T_refusals) ++ (bX3 cI cJ cC a_n n_space n_beam n_door n_law n_used n_pipes n_drilled n_total n_open n_pipeInches n_pipeChances n_weights n_woods n_sums)) H := zMerge hP (hDD _ rfl) [2, 3, 4, 5, 6, 7] rfl rfl hk1 hP1
      refine lv_aload_n hx hb dX4_mean_35 rfl (lv_at hl 0 rfl) ?_
      refine va_get (D := D) (ci := 4) (v := .ref (a_n 0)) (C := RX4) (T := TX4) (N := 8) hx hb ht inX4 hown hK hP 0 rfl rfl 0 (by decide) (ht _ fl_X4_10) (fun _ h9 => h9) rfl dX4_mean_36 ?_
      refine va_get (D := D) (ci := 3) (v := .long n_total) (C := RX3) (T := TX3) (N := 14) hx hb ht inX3 hown hK hP 2 rfl rfl 12 (by decide) (ht _ fl_X4_179) (fun _ h9 => h9) rfl dX4_mean_39 ?_
      refine lv_iload_n hx hb dX4_mean_42 rfl (lv_at hl 2 rfl) ?_
      refine zcl hA zD0 hS (zrunS (As := [.long r_3, .long n_total, .int p2]) (rest := []) S hK hA hE zP0 zD0 hS (mX4_partOf l D cI cJ cC G _ r_3 n_total p2 _ h) kX4_partOf ml_X4_182 ⟨rfl, rfl, by decide, by decide⟩ rfl hl.1 rfl (Nat.le_of_ble_eq_true rfl) dX4_mean_43 ⟨Nat.zero_le _, Nat.zero_le _⟩) (fun r_4 u H locs h hP1 hk1 hS => ?_)
      try dsimp only at h
      have hP : va_P D vwCl ((bX4 cI cJ cC a_T a_n a_k a_t a_s a_r a_c T_isKept T_refusals) ++ (bX3 cI cJ cC a_n n_space n_beam n_door n_law n_used n_pipes n_drilled n_total n_open n_pipeInches n_pipeChances n_weights n_woods n_sums)) H := zKeep hP hk1
      exact hret r_4 T_refusals _ _ _ _ h hP hS dX4_mean_46
    · replace h := h.2 z
      refine lv_aload_n hx hb dX4_mean_20 rfl (lv_at hl 0 rfl) ?_
      refine lv_bipush (v := (-2 : Int32)) hx hb dX4_mean_21 (by decide) ?_
      have hPw : va_P D vwCl ((bX4 cI cJ cC a_T a_n a_k a_t a_s a_r a_c T_isKept T_refusals)) _ := hP.sub [0, 1] rfl
      have hDw : va_D A ((bX4 cI cJ cC a_T a_n a_k a_t a_s a_r a_c T_isKept T_refusals)) := (hDD _ rfl).sub (ws := (bX4 cI cJ cC a_T a_n a_k a_t a_s a_r a_c T_isKept T_refusals) ++ (bX3 cI cJ cC a_n n_space n_beam n_door n_law n_used n_pipes n_drilled n_total n_open n_pipeInches n_pipeChances n_weights n_woods n_sums)) [0, 1] (by decide) rfl
      refine zcl hA hDw hS (zrunV (As := [.int (-2 : Int32)]) (rest := []) S hK hA hE hPw hDw hS (mX4_refuseLong l D cI cJ cC G a_T a_n a_k a_t a_s a_r a_c _ T_isKept T_refusals (-2 : Int32) _ h) kX4_refuseLong ml_X4_105 ⟨rfl, rfl, by decide, by decide⟩ (q0 := 0) (ci := 4) rfl rfl rfl rfl hl.1 rfl (Nat.le_of_ble_eq_true rfl) dX4_mean_23 ⟨Nat.zero_le _, Nat.zero_le _⟩) (fun r_5 T_refusals_6 H locs h hP1 hk1 hS => ?_)
      try dsimp only at h
      have hP : va_P D vwCl ((bX4 cI cJ cC a_T a_n a_k a_t a_s a_r a_c T_isKept T_refusals_6) ++ (bX3 cI cJ cC a_n n_space n_beam n_door n_law n_used n_pipes n_drilled n_total n_open n_pipeInches n_pipeChances n_weights n_woods n_sums)) H := zMerge hP (hDD _ rfl) [0, 1] rfl rfl hk1 hP1
      exact hret r_5 T_refusals_6 _ _ _ _ h hP hS dX4_mean_26
  · replace h := h.2 z
    refine lv_aload_n hx hb dX4_mean_7 rfl (lv_at hl 0 rfl) ?_
    refine lv_iconst (v := (-1 : Int32)) hx hb dX4_mean_8 (by decide) ?_
    have hPw : va_P D vwCl ((bX4 cI cJ cC a_T a_n a_k a_t a_s a_r a_c T_isKept T_refusals)) _ := hP.sub [0, 1] rfl
    have hDw : va_D A ((bX4 cI cJ cC a_T a_n a_k a_t a_s a_r a_c T_isKept T_refusals)) := (hDD _ rfl).sub (ws := (bX4 cI cJ cC a_T a_n a_k a_t a_s a_r a_c T_isKept T_refusals) ++ (bX3 cI cJ cC a_n n_space n_beam n_door n_law n_used n_pipes n_drilled n_total n_open n_pipeInches n_pipeChances n_weights n_woods n_sums)) [0, 1] (by decide) rfl
    refine zcl hA hDw hS (zrunV (As := [.int (-1 : Int32)]) (rest := []) S hK hA hE hPw hDw hS (mX4_refuseLong l D cI cJ cC G a_T a_n a_k a_t a_s a_r a_c _ T_isKept T_refusals (-1 : Int32) _ h) kX4_refuseLong ml_X4_105 ⟨rfl, rfl, by decide, by decide⟩ (q0 := 0) (ci := 4) rfl rfl rfl rfl hl.1 rfl (Nat.le_of_ble_eq_true rfl) dX4_mean_9 ⟨Nat.zero_le _, Nat.zero_le _⟩) (fun r_7 T_refusals_8 H locs h hP1 hk1 hS => ?_)
    try dsimp only at h
    have hP : va_P D vwCl ((bX4 cI cJ cC a_T a_n a_k a_t a_s a_r a_c T_isKept T_refusals_8) ++ (bX3 cI cJ cC a_n n_space n_beam n_door n_law n_used n_pipes n_drilled n_total n_open n_pipeInches n_pipeChances n_weights n_woods n_sums)) H := zMerge hP (hDD _ rfl) [0, 1] rfl rfl hk1 hP1
    exact hret r_7 T_refusals_8 _ _ _ _ h hP hS dX4_mean_12
