set_option maxRecDepth 100000 in
set_option maxHeartbeats 4000000 in
theorem s7_state (t : Option Nat) (a1 : Int32) (σ : AH) (Q : Int32 → AH → Prop) (h : Hr (f7_state t a1) σ Q) : Runs m7_state σ [va_rf t, .int (a1)] (fun v σ1 => ∃ a, v = some (.int a) ∧ Q a σ1) := by
  obtain ⟨a0, σ1, e, hQ⟩ := h
  have hm := n7_state t a1 σ a0 σ1 e
  have h : Hr (f7_state t a1) σ (fun a σ2 => a = a0 ∧ σ2 = σ1) := ⟨a0, σ1, e, rfl, rfl⟩
  refine ⟨_, σ1, hm, ⟨a0, rfl, hQ⟩, runs_of (by decide +kernel) (by simp [cat_rf, cat_i, cat_l]) (Nat.le_of_ble_eq_true rfl) hm fun X ok fn => ?_⟩
  clear e hQ hm
  unfold f7_state at h
  show AT X m7_state 0 [some (va_rf (t)), some (.int (a1))] [] σ
  refine at_iloadn ok dX7_state_0 rfl ?_
  refine at_ite h (fun hc0 h => ?_) (fun hc0 h => ?_)
  · refine at_tsw (tgt := 44) ok dX7_state_1 (tsw_in hc0 (by decide) rfl (by decide)) ?_
    refine at_aloadn ok dX7_state_44 rfl ?_
    refine at_getI ok gf_7_7 dX7_state_45 h fun v45 h => ?_
    exact at_iret ok fn ⟨_, rfl, rfl⟩ dX7_state_48 h
  · refine at_ite h (fun hc1 h => ?_) (fun hc1 h => ?_)
    · refine at_tsw (tgt := 49) ok dX7_state_1 (tsw_in hc1 (by decide) rfl (by decide)) ?_
      refine at_aloadn ok dX7_state_49 rfl ?_
      refine at_getI ok gf_7_49 dX7_state_50 h fun v50 h => ?_
      exact at_iret ok fn ⟨_, rfl, rfl⟩ dX7_state_53 h
    · refine at_ite h (fun hc2 h => ?_) (fun hc2 h => ?_)
      · refine at_tsw (tgt := 54) ok dX7_state_1 (tsw_in hc2 (by decide) rfl (by decide)) ?_
        refine at_aloadn ok dX7_state_54 rfl ?_
        refine at_getR ok gf_7_39 dX7_state_55 h fun v55 h => ?_
        refine at_getI ok gf_7_124 dX7_state_58 h fun v58 h => ?_
        exact at_iret ok fn ⟨_, rfl, rfl⟩ dX7_state_61 h
      · refine at_ite h (fun hc3 h => ?_) (fun hc3 h => ?_)
        · refine at_tsw (tgt := 62) ok dX7_state_1 (tsw_in hc3 (by decide) rfl (by decide)) ?_
          refine at_aloadn ok dX7_state_62 rfl ?_
          refine at_getI ok gf_7_17 dX7_state_63 h fun v63 h => ?_
          exact at_iret ok fn ⟨_, rfl, rfl⟩ dX7_state_66 h
        · refine at_ite h (fun hc4 h => ?_) (fun hc4 h => ?_)
          · refine at_tsw (tgt := 67) ok dX7_state_1 (tsw_in hc4 (by decide) rfl (by decide)) ?_
            refine at_aloadn ok dX7_state_67 rfl ?_
            refine at_iconst (v := 1) ok dX7_state_68 (by decide) ?_
            refine at_cVi (As := [.int (1)]) ok ct_7_state_240 dX7_state_69 (by simp [cat_rf, cat_i, cat_l]) (s7_lettersOfFate t 1 _) h fun v69 σ h => ?_
            exact at_iret ok fn ⟨_, rfl, rfl⟩ dX7_state_72 h
          · refine at_ite h (fun hc5 h => ?_) (fun hc5 h => ?_)
            · refine at_tsw (tgt := 73) ok dX7_state_1 (tsw_in hc5 (by decide) rfl (by decide)) ?_
              refine at_aloadn ok dX7_state_73 rfl ?_
              refine at_cVi (As := []) ok ct_7_state_243 dX7_state_74 (by simp [cat_rf, cat_i, cat_l]) (s7_lettersThatWereTold t  _) h fun v74 σ h => ?_
              exact at_iret ok fn ⟨_, rfl, rfl⟩ dX7_state_77 h
            · refine at_ite h (fun hc6 h => ?_) (fun hc6 h => ?_)
              · refine at_tsw (tgt := 78) ok dX7_state_1 (tsw_in hc6 (by decide) rfl (by decide)) ?_
                refine at_aloadn ok dX7_state_78 rfl ?_
                refine at_iconst (v := 2) ok dX7_state_79 (by decide) ?_
                refine at_cVi (As := [.int (2)]) ok ct_7_state_240 dX7_state_80 (by simp [cat_rf, cat_i, cat_l]) (s7_lettersOfFate t 2 _) h fun v80 σ h => ?_
                exact at_iret ok fn ⟨_, rfl, rfl⟩ dX7_state_83 h
              · refine at_tsw (tgt := 84) ok dX7_state_1 (tsw_out (by have i0 := i32_ne (k := 0) (by decide) hc0; have i1 := i32_ne (k := 1) (by decide) hc1; have i2 := i32_ne (k := 2) (by decide) hc2; have i3 := i32_ne (k := 3) (by decide) hc3; have i4 := i32_ne (k := 4) (by decide) hc4; have i5 := i32_ne (k := 5) (by decide) hc5; have i6 := i32_ne (k := 6) (by decide) hc6; omega) (by decide)) ?_
                refine at_iconst (v := (-1)) ok dX7_state_84 (by decide) ?_
                exact at_iret ok fn ⟨_, rfl, rfl⟩ dX7_state_85 h
set_option maxRecDepth 100000 in
set_option maxHeartbeats 4000000 in
theorem s7_told (t : Option Nat) (a1 : Int32) (a2 : Int32) (σ : AH) (Q : Int32 → AH → Prop) (h : Hr (f7_told t a1 a2) σ Q) : Runs m7_told σ [va_rf t, .int (a1), .int (a2)] (fun v σ1 => ∃ a, v = some (.int a) ∧ Q a σ1) := by
  obtain ⟨a0, σ1, e, hQ⟩ := h
  have hm := n7_told t a1 a2 σ a0 σ1 e
  have h : Hr (f7_told t a1 a2) σ (fun a σ2 => a = a0 ∧ σ2 = σ1) := ⟨a0, σ1, e, rfl, rfl⟩
  refine ⟨_, σ1, hm, ⟨a0, rfl, hQ⟩, runs_of (by decide +kernel) (by simp [cat_rf, cat_i, cat_l]) (Nat.le_of_ble_eq_true rfl) hm fun X ok fn => ?_⟩
  clear e hQ hm
  unfold f7_told at h
  show AT X m7_told 0 [some (va_rf (t)), some (.int (a1)), some (.int (a2)), none] [] σ
  refine at_aloadn ok dX7_told_0 rfl ?_
  refine at_iloadn ok dX7_told_1 rfl ?_
  refine at_cVr (As := [.int (a1)]) ok ct_7_told_181 dX7_told_2 (by simp [cat_rf, cat_i, cat_l]) (s7_letterAt t a1 _) h fun v2 σ h => ?_
  refine at_astoren ok dX7_told_5 rfl (lc_int rfl) (by decide) ?_
  refine at_aloadn ok dX7_told_6 rfl ?_
  refine bt_ifnonnull (tgt := 12) ok dX7_told_7 (by decide) h (fun hc h => ?_) (fun hc h => ?_)
  · refine at_iconst (v := (-1)) ok dX7_told_10 (by decide) ?_
    exact at_iret ok fn ⟨_, rfl, rfl⟩ dX7_told_11 h
  · refine at_iloadn ok dX7_told_12 rfl ?_
    refine at_ite h (fun hc0 h => ?_) (fun hc0 h => ?_)
    · refine at_tsw (tgt := 64) ok dX7_told_13 (tsw_in hc0 (by decide) rfl (by decide)) ?_
      refine at_aloadn ok dX7_told_64 rfl ?_
      refine at_getI ok gf_7_188 dX7_told_65 h fun v65 h => ?_
      exact at_iret ok fn ⟨_, rfl, rfl⟩ dX7_told_68 h
    · refine at_ite h (fun hc1 h => ?_) (fun hc1 h => ?_)
      · refine at_tsw (tgt := 69) ok dX7_told_13 (tsw_in hc1 (by decide) rfl (by decide)) ?_
        refine at_aloadn ok dX7_told_69 rfl ?_
        refine at_getI ok gf_7_189 dX7_told_70 h fun v70 h => ?_
        exact at_iret ok fn ⟨_, rfl, rfl⟩ dX7_told_73 h
      · refine at_ite h (fun hc2 h => ?_) (fun hc2 h => ?_)
        · refine at_tsw (tgt := 74) ok dX7_told_13 (tsw_in hc2 (by decide) rfl (by decide)) ?_
          refine at_aloadn ok dX7_told_74 rfl ?_
          refine at_getI ok gf_7_192 dX7_told_75 h fun v75 h => ?_
          exact at_iret ok fn ⟨_, rfl, rfl⟩ dX7_told_78 h
        · refine at_ite h (fun hc3 h => ?_) (fun hc3 h => ?_)
          · refine at_tsw (tgt := 79) ok dX7_told_13 (tsw_in hc3 (by decide) rfl (by decide)) ?_
            refine at_aloadn ok dX7_told_79 rfl ?_
            refine at_getI ok gf_7_193 dX7_told_80 h fun v80 h => ?_
            exact at_iret ok fn ⟨_, rfl, rfl⟩ dX7_told_83 h
          · refine at_ite h (fun hc4 h => ?_) (fun hc4 h => ?_)
            · refine at_tsw (tgt := 84) ok dX7_told_13 (tsw_in hc4 (by decide) rfl (by decide)) ?_
              refine at_aloadn ok dX7_told_84 rfl ?_
              refine at_getI ok gf_7_194 dX7_told_85 h fun v85 h => ?_
              exact at_iret ok fn ⟨_, rfl, rfl⟩ dX7_told_88 h
            · refine at_ite h (fun hc5 h => ?_) (fun hc5 h => ?_)
              · refine at_tsw (tgt := 89) ok dX7_told_13 (tsw_in hc5 (by decide) rfl (by decide)) ?_
                refine at_aloadn ok dX7_told_89 rfl ?_
                refine at_getI ok gf_7_195 dX7_told_90 h fun v90 h => ?_
                exact at_iret ok fn ⟨_, rfl, rfl⟩ dX7_told_93 h
              · refine at_ite h (fun hc6 h => ?_) (fun hc6 h => ?_)
                · refine at_tsw (tgt := 94) ok dX7_told_13 (tsw_in hc6 (by decide) rfl (by decide)) ?_
                  refine at_aloadn ok dX7_told_94 rfl ?_
                  refine at_getI ok gf_7_185 dX7_told_95 h fun v95 h => ?_
                  exact at_iret ok fn ⟨_, rfl, rfl⟩ dX7_told_98 h
                · refine at_ite h (fun hc7 h => ?_) (fun hc7 h => ?_)
                  · refine at_tsw (tgt := 99) ok dX7_told_13 (tsw_in hc7 (by decide) rfl (by decide)) ?_
                    refine at_aloadn ok dX7_told_99 rfl ?_
                    refine at_getR ok gf_7_196 dX7_told_100 h fun v100 h => ?_
                    refine at_alen (t := 0) (by decide) ok dX7_told_103 h fun v103 h => ?_
                    exact at_iret ok fn ⟨_, rfl, rfl⟩ dX7_told_104 h
                  · refine at_ite h (fun hc8 h => ?_) (fun hc8 h => ?_)
                    · refine at_tsw (tgt := 105) ok dX7_told_13 (tsw_in hc8 (by decide) rfl (by decide)) ?_
                      refine at_aloadn ok dX7_told_105 rfl ?_
                      refine at_getR ok gf_7_199 dX7_told_106 h fun v106 h => ?_
                      refine bt_ifnonnull (tgt := 116) ok dX7_told_109 (by decide) h (fun hc h => ?_) (fun hc h => ?_)
                      · refine at_iconst (v := 0) ok dX7_told_112 (by decide) ?_
                        refine at_goto (tgt := 123) ok dX7_told_113 (by decide) ?_
                        exact at_iret ok fn ⟨_, rfl, rfl⟩ dX7_told_123 h
                      · refine at_aloadn ok dX7_told_116 rfl ?_
                        refine at_getR ok gf_7_199 dX7_told_117 h fun v117 h => ?_
                        refine at_getI ok gf_7_202 dX7_told_120 h fun v120 h => ?_
                        exact at_iret ok fn ⟨_, rfl, rfl⟩ dX7_told_123 h
                    · refine at_tsw (tgt := 124) ok dX7_told_13 (tsw_out (by have i0 := i32_ne (k := 0) (by decide) hc0; have i1 := i32_ne (k := 1) (by decide) hc1; have i2 := i32_ne (k := 2) (by decide) hc2; have i3 := i32_ne (k := 3) (by decide) hc3; have i4 := i32_ne (k := 4) (by decide) hc4; have i5 := i32_ne (k := 5) (by decide) hc5; have i6 := i32_ne (k := 6) (by decide) hc6; have i7 := i32_ne (k := 7) (by decide) hc7; have i8 := i32_ne (k := 8) (by decide) hc8; omega) (by decide)) ?_
                      refine at_iconst (v := (-1)) ok dX7_told_124 (by decide) ?_
                      exact at_iret ok fn ⟨_, rfl, rfl⟩ dX7_told_125 h
set_option maxRecDepth 100000 in
set_option maxHeartbeats 4000000 in
theorem s7_trial (t : Option Nat) (a1 : Int32) (a2 : Int32) (a3 : Int32) (a4 : Int32) (a5 : Int32) (σ : AH) (Q : Int32 → AH → Prop) (h : Hr (f7_trial t a1 a2 a3 a4 a5) σ Q) : Runs m7_trial σ [va_rf t, .int (a1), .int (a2), .int (a3), .int (a4), .int (a5)] (fun v σ1 => ∃ a, v = some (.int a) ∧ Q a σ1) := by
  obtain ⟨a0, σ1, e, hQ⟩ := h
  have hm := n7_trial t a1 a2 a3 a4 a5 σ a0 σ1 e
  have h : Hr (f7_trial t a1 a2 a3 a4 a5) σ (fun a σ2 => a = a0 ∧ σ2 = σ1) := ⟨a0, σ1, e, rfl, rfl⟩
  refine ⟨_, σ1, hm, ⟨a0, rfl, hQ⟩, runs_of (by decide +kernel) (by simp [cat_rf, cat_i, cat_l]) (Nat.le_of_ble_eq_true rfl) hm fun X ok fn => ?_⟩
  clear e hQ hm
  unfold f7_trial at h
  show AT X m7_trial 0 [some (va_rf (t)), some (.int (a1)), some (.int (a2)), some (.int (a3)), some (.int (a4)), some (.int (a5)), none, none] [] σ
  refine at_aloadn ok dX7_trial_0 rfl ?_
  refine at_iloadn ok dX7_trial_1 rfl ?_
  refine at_iloadn ok dX7_trial_2 rfl ?_
  refine at_iloadn ok dX7_trial_3 rfl ?_
  refine at_iload ok dX7_trial_4 rfl ?_
  refine at_iload ok dX7_trial_6 rfl ?_
  refine at_cVi (As := [.int (a1), .int (a2), .int (a3), .int (a4), .int (a5)]) ok ct_7_trial_234 dX7_trial_8 (by simp [cat_rf, cat_i, cat_l]) (s7_setTrial t a1 a2 a3 a4 a5 _) h fun v8 σ h => ?_
  refine bt_if_ne (tgt := 16) ok dX7_trial_11 (by decide) h (fun hc h => ?_) (fun hc h => ?_)
  · refine at_iconst (v := (-1)) ok dX7_trial_14 (by decide) ?_
    exact at_iret ok fn ⟨_, rfl, rfl⟩ dX7_trial_15 h
  · refine at_iconst (v := 0) ok dX7_trial_16 (by decide) ?_
    refine at_istore ok dX7_trial_17 (lc_int rfl) (by decide) ?_
    refine at_iconst (v := 0) ok dX7_trial_19 (by decide) ?_
    refine at_istore ok dX7_trial_20 (lc_int rfl) (by decide) ?_
    refine at_weak (L' := [some (va_rf (t)), none, none, none, none, none, some (.int (0)), some (.int (0))]) (lw_s (lw_n (lw_n (lw_n (lw_n (lw_n (lw_s (lw_s lw_0)))))))) ?_
    refine at_loop (fun x22 σ => AT X m7_trial 22 [some (va_rf (t)), none, none, none, none, none, some (.int (x22.1)), some (.int (x22.2))] [] σ) (fun y49 σ => AT X m7_trial 49 [none, none, none, none, none, none, some (.int (y49)), none] [] σ) h (fun y49 σ h => ?_) (fun kx rec ih x22 σ h => ?_)
    · refine at_iload ok dX7_trial_49 rfl ?_
      exact at_iret ok fn ⟨_, rfl, rfl⟩ dX7_trial_51 h
    · unfold l7_trial_22 at h
      obtain ⟨x22_1, x22_2⟩ := x22
      dsimp only at h ⊢
      refine at_iload ok dX7_trial_22 rfl ?_
      refine at_aloadn ok dX7_trial_24 rfl ?_
      refine at_getI ok gf_7_49 dX7_trial_25 h fun v25 h => ?_
      refine bt_icmp_ge (tgt := 49) ok dX7_trial_28 (by decide) h (fun hc h => ?_) (fun hc h => ?_)
      · exact at_weak (lw_n (lw_n (lw_n (lw_n (lw_n (lw_n (lw_s (lw_n lw_0)))))))) (kx x22_1 _ (hr_rt.mp h))
      · refine at_aloadn ok dX7_trial_31 rfl ?_
        refine at_iload ok dX7_trial_32 rfl ?_
        refine at_cVi (As := [.int (x22_2)]) ok ct_7_trial_237 dX7_trial_34 (by simp [cat_rf, cat_i, cat_l]) (s7_isOtherByTrial t x22_2 _) h fun v34 σ h => ?_
        refine bt_if_eq (tgt := 43) ok dX7_trial_37 (by decide) h (fun hc h => ?_) (fun hc h => ?_)
        · refine at_iinc (v := x22_2 + 1) ok dX7_trial_43 rfl rfl (lc_int rfl) (by decide) ?_
          refine at_goto (tgt := 22) ok dX7_trial_46 (by decide) ?_
          exact at_weak (lw_s (lw_n (lw_n (lw_n (lw_n (lw_n (lw_s (lw_s lw_0)))))))) (by have q := ih (x22_1, (x22_2 + 1)) _ h; dsimp only at q; exact q)
        · refine at_iinc (v := x22_1 + 1) ok dX7_trial_40 rfl rfl (lc_non rfl) (by decide) ?_
          refine at_iinc (v := x22_2 + 1) ok dX7_trial_43 rfl rfl (lc_int rfl) (by decide) ?_
          refine at_goto (tgt := 22) ok dX7_trial_46 (by decide) ?_
          exact at_weak (lw_s (lw_n (lw_n (lw_n (lw_n (lw_n (lw_s (lw_s lw_0)))))))) (by have q := ih ((x22_1 + 1), (x22_2 + 1)) _ h; dsimp only at q; exact q)
set_option maxRecDepth 100000 in
set_option maxHeartbeats 4000000 in
theorem s7_tried (t : Option Nat) (a1 : Int32) (a2 : Int32) (a3 : Int32) (a4 : Int32) (a5 : Int32) (a6 : Int32) (σ : AH) (Q : Int32 → AH → Prop) (h : Hr (f7_tried t a1 a2 a3 a4 a5 a6) σ Q) : Runs m7_tried σ [va_rf t, .int (a1), .int (a2), .int (a3), .int (a4), .int (a5), .int (a6)] (fun v σ1 => ∃ a, v = some (.int a) ∧ Q a σ1) := by
  obtain ⟨a0, σ1, e, hQ⟩ := h
  have hm := n7_tried t a1 a2 a3 a4 a5 a6 σ a0 σ1 e
  have h : Hr (f7_tried t a1 a2 a3 a4 a5 a6) σ (fun a σ2 => a = a0 ∧ σ2 = σ1) := ⟨a0, σ1, e, rfl, rfl⟩
  refine ⟨_, σ1, hm, ⟨a0, rfl, hQ⟩, runs_of (by decide +kernel) (by simp [cat_rf, cat_i, cat_l]) (Nat.le_of_ble_eq_true rfl) hm fun X ok fn => ?_⟩
  clear e hQ hm
  unfold f7_tried at h
  show AT X m7_tried 0 [some (va_rf (t)), some (.int (a1)), some (.int (a2)), some (.int (a3)), some (.int (a4)), some (.int (a5)), some (.int (a6)), none, none] [] σ
  refine at_aloadn ok dX7_tried_0 rfl ?_
  refine at_iloadn ok dX7_tried_1 rfl ?_
  refine at_iloadn ok dX7_tried_2 rfl ?_
  refine at_iloadn ok dX7_tried_3 rfl ?_
  refine at_iload ok dX7_tried_4 rfl ?_
  refine at_iload ok dX7_tried_6 rfl ?_
  refine at_cVi (As := [.int (a1), .int (a2), .int (a3), .int (a4), .int (a5)]) ok ct_7_tried_234 dX7_tried_8 (by simp [cat_rf, cat_i, cat_l]) (s7_setTrial t a1 a2 a3 a4 a5 _) h fun v8 σ h => ?_
  refine bt_if_ne (tgt := 16) ok dX7_tried_11 (by decide) h (fun hc h => ?_) (fun hc h => ?_)
  · refine at_iconst (v := (-1)) ok dX7_tried_14 (by decide) ?_
    exact at_iret ok fn ⟨_, rfl, rfl⟩ dX7_tried_15 h
  · refine at_iconst (v := 0) ok dX7_tried_16 (by decide) ?_
    refine at_istore ok dX7_tried_17 (lc_int rfl) (by decide) ?_
    refine at_iconst (v := 0) ok dX7_tried_19 (by decide) ?_
    refine at_istore ok dX7_tried_20 (lc_int rfl) (by decide) ?_
    refine at_weak (L' := [some (va_rf (t)), none, none, none, none, none, some (.int (a6)), some (.int (0)), some (.int (0))]) (lw_s (lw_n (lw_n (lw_n (lw_n (lw_n (lw_s (lw_s (lw_s lw_0))))))))) ?_
    refine at_loopS (fun x22 σ => AT X m7_tried 22 [some (va_rf (t)), none, none, none, none, none, some (.int (a6)), some (.int (x22.1)), some (.int (x22.2))] [] σ) (fun y59 σ => AT X m7_tried 59 [none, none, none, none, none, none, none, none, none] [] σ) h (fun y59 σ h => ?_) (fun kx rec ih x22 σ h => ?_)
    · refine at_iconst (v := (-1)) ok dX7_tried_59 (by decide) ?_
      exact at_iret ok fn ⟨_, rfl, rfl⟩ dX7_tried_60 h
    · unfold l7_tried_22 at h
      obtain ⟨x22_1, x22_2⟩ := x22
      dsimp only at h ⊢
      refine at_iload ok dX7_tried_22 rfl ?_
      refine at_aloadn ok dX7_tried_24 rfl ?_
      refine at_getI ok gf_7_49 dX7_tried_25 h fun v25 h => ?_
      refine bt_icmp_ge (tgt := 59) ok dX7_tried_28 (by decide) h (fun hc h => ?_) (fun hc h => ?_)
      · exact at_weak (lw_n (lw_n (lw_n (lw_n (lw_n (lw_n (lw_n (lw_n (lw_n lw_0))))))))) (by have z := hr_inr h; exact kx () _ z)
      · refine at_aloadn ok dX7_tried_31 rfl ?_
        refine at_iload ok dX7_tried_32 rfl ?_
        refine at_cVi (As := [.int (x22_2)]) ok ct_7_tried_237 dX7_tried_34 (by simp [cat_rf, cat_i, cat_l]) (s7_isOtherByTrial t x22_2 _) h fun v34 σ h => ?_
        refine bt_if_eq (tgt := 53) ok dX7_tried_37 (by decide) h (fun hc h => ?_) (fun hc h => ?_)
        · refine at_iinc (v := x22_2 + 1) ok dX7_tried_53 rfl rfl (lc_int rfl) (by decide) ?_
          refine at_goto (tgt := 22) ok dX7_tried_56 (by decide) ?_
          exact at_weak (lw_s (lw_n (lw_n (lw_n (lw_n (lw_n (lw_s (lw_s (lw_s lw_0))))))))) (by have q := ih (x22_1, (x22_2 + 1)) _ h; dsimp only at q; exact q)
        · refine at_iload ok dX7_tried_40 rfl ?_
          refine at_iload ok dX7_tried_42 rfl ?_
          refine bt_icmp_ne (tgt := 50) ok dX7_tried_44 (by decide) h (fun hc h => ?_) (fun hc h => ?_)
          · refine at_iload ok dX7_tried_47 rfl ?_
            exact at_iret ok fn ⟨_, rfl, rfl⟩ dX7_tried_49 (hr_inl h)
          · refine at_iinc (v := x22_1 + 1) ok dX7_tried_50 rfl rfl (lc_int rfl) (by decide) ?_
            refine at_iinc (v := x22_2 + 1) ok dX7_tried_53 rfl rfl (lc_int rfl) (by decide) ?_
            refine at_goto (tgt := 22) ok dX7_tried_56 (by decide) ?_
            exact at_weak (lw_s (lw_n (lw_n (lw_n (lw_n (lw_n (lw_s (lw_s (lw_s lw_0))))))))) (by have q := ih ((x22_1 + 1), (x22_2 + 1)) _ h; dsimp only at q; exact q)
set_option maxRecDepth 100000 in
set_option maxHeartbeats 4000000 in
theorem s7_words (t : Option Nat) (σ : AH) (Q : Int32 → AH → Prop) (h : Hr (f7_words t) σ Q) : Runs m7_words σ [va_rf t] (fun v σ1 => ∃ a, v = some (.int a) ∧ Q a σ1) := by
  obtain ⟨a0, σ1, e, hQ⟩ := h
  have hm := n7_words t σ a0 σ1 e
  have h : Hr (f7_words t) σ (fun a σ2 => a = a0 ∧ σ2 = σ1) := ⟨a0, σ1, e, rfl, rfl⟩
  refine ⟨_, σ1, hm, ⟨a0, rfl, hQ⟩, runs_of (by decide +kernel) (by simp [cat_rf, cat_i, cat_l]) (Nat.le_of_ble_eq_true rfl) hm fun X ok fn => ?_⟩
  clear e hQ hm
  unfold f7_words at h
  show AT X m7_words 0 [some (va_rf (t))] [] σ
  refine at_aloadn ok dX7_words_0 rfl ?_
  refine at_cVr (As := []) ok ct_7_words_107 dX7_words_1 (by simp [cat_rf, cat_i, cat_l]) (s7_readTape t  _) h fun v1 σ h => ?_
  refine at_getI ok gf_7_101 dX7_words_4 h fun v4 h => ?_
  exact at_iret ok fn ⟨_, rfl, rfl⟩ dX7_words_7 h
set_option maxRecDepth 100000 in
set_option maxHeartbeats 4000000 in
theorem s8_init (t : Option Nat) (σ : AH) (Q : Unit → AH → Prop) (h : Hr (f8_init t) σ Q) : Runs m8_init σ [va_rf t] (fun v σ1 => ∃ a, v = none ∧ Q a σ1) := by
  obtain ⟨a0, σ1, e, hQ⟩ := h
  have hm := n8_init t σ a0 σ1 e
  have h : Hr (f8_init t) σ (fun a σ2 => a = a0 ∧ σ2 = σ1) := ⟨a0, σ1, e, rfl, rfl⟩
  refine ⟨_, σ1, hm, ⟨a0, rfl, hQ⟩, runs_of (by decide +kernel) (by simp [cat_rf, cat_i, cat_l]) (Nat.le_of_ble_eq_true rfl) hm fun X ok fn => ?_⟩
  clear e hQ hm
  unfold f8_init at h
  show AT X m8_init 0 [some (va_rf (t))] [] σ
  refine at_aloadn ok dX8_init_0 rfl ?_
  refine at_oI wd_647 wd_19 wd_20 (by decide) (by simp [cat_rf, cat_i, cat_l]) ok dX8_init_1 h fun h => ?_
  refine at_aloadn ok dX8_init_4 rfl ?_
  refine at_sipush (v := 300) ok dX8_init_5 (by decide) ?_
  refine at_newA (atype := .int) (t := 0) rfl (Or.inl rfl) wd_41 ok dX8_init_8 h fun v8 σ h => ?_
  refine at_putR ok pf_8_9 (Or.inr ⟨_, rfl⟩) dX8_init_10 h fun σ h => ?_
  refine at_aloadn ok dX8_init_13 rfl ?_
  refine at_sipush (v := 300) ok dX8_init_14 (by decide) ?_
  refine at_newA (atype := .int) (t := 0) rfl (Or.inl rfl) wd_41 ok dX8_init_17 h fun v17 σ h => ?_
  refine at_putR ok pf_8_13 (Or.inr ⟨_, rfl⟩) dX8_init_19 h fun σ h => ?_
  refine at_aloadn ok dX8_init_22 rfl ?_
  refine at_sipush (v := 300) ok dX8_init_23 (by decide) ?_
  refine at_newA (atype := .int) (t := 0) rfl (Or.inl rfl) wd_41 ok dX8_init_26 h fun v26 σ h => ?_
  refine at_putR ok pf_8_16 (Or.inr ⟨_, rfl⟩) dX8_init_28 h fun σ h => ?_
  refine at_aloadn ok dX8_init_31 rfl ?_
  refine at_sipush (v := 300) ok dX8_init_32 (by decide) ?_
  refine at_newA (atype := .int) (t := 0) rfl (Or.inl rfl) wd_41 ok dX8_init_35 h fun v35 σ h => ?_
  refine at_putR ok pf_8_19 (Or.inr ⟨_, rfl⟩) dX8_init_37 h fun σ h => ?_
  refine at_aloadn ok dX8_init_40 rfl ?_
  refine at_sipush (v := 300) ok dX8_init_41 (by decide) ?_
  refine at_newA (atype := .int) (t := 0) rfl (Or.inl rfl) wd_41 ok dX8_init_44 h fun v44 σ h => ?_
  refine at_putR ok pf_8_22 (Or.inr ⟨_, rfl⟩) dX8_init_46 h fun σ h => ?_
  refine at_aloadn ok dX8_init_49 rfl ?_
  refine at_sipush (v := 300) ok dX8_init_50 (by decide) ?_
  refine at_newA (atype := .int) (t := 0) rfl (Or.inl rfl) wd_41 ok dX8_init_53 h fun v53 σ h => ?_
  refine at_putR ok pf_8_25 (Or.inr ⟨_, rfl⟩) dX8_init_55 h fun σ h => ?_
  refine at_aloadn ok dX8_init_58 rfl ?_
  refine at_sipush (v := 300) ok dX8_init_59 (by decide) ?_
  refine at_newA (atype := .int) (t := 0) rfl (Or.inl rfl) wd_41 ok dX8_init_62 h fun v62 σ h => ?_
  refine at_putR ok pf_8_28 (Or.inr ⟨_, rfl⟩) dX8_init_64 h fun σ h => ?_
  refine at_aloadn ok dX8_init_67 rfl ?_
  refine at_sipush (v := 300) ok dX8_init_68 (by decide) ?_
  refine at_newA (atype := .int) (t := 0) rfl (Or.inl rfl) wd_41 ok dX8_init_71 h fun v71 σ h => ?_
  refine at_putR ok pf_8_31 (Or.inr ⟨_, rfl⟩) dX8_init_73 h fun σ h => ?_
  refine at_aloadn ok dX8_init_76 rfl ?_
  refine at_sipush (v := 2400) ok dX8_init_77 (by decide) ?_
  refine at_newA (atype := .int) (t := 0) rfl (Or.inl rfl) wd_41 ok dX8_init_80 h fun v80 σ h => ?_
  refine at_putR ok pf_8_34 (Or.inr ⟨_, rfl⟩) dX8_init_82 h fun σ h => ?_
  refine at_aloadn ok dX8_init_85 rfl ?_
  refine at_sipush (v := 2400) ok dX8_init_86 (by decide) ?_
  refine at_newA (atype := .int) (t := 0) rfl (Or.inl rfl) wd_41 ok dX8_init_89 h fun v89 σ h => ?_
  refine at_putR ok pf_8_37 (Or.inr ⟨_, rfl⟩) dX8_init_91 h fun σ h => ?_
  refine at_aloadn ok dX8_init_94 rfl ?_
  refine at_sipush (v := 2400) ok dX8_init_95 (by decide) ?_
  refine at_newA (atype := .int) (t := 0) rfl (Or.inl rfl) wd_41 ok dX8_init_98 h fun v98 σ h => ?_
  refine at_putR ok pf_8_40 (Or.inr ⟨_, rfl⟩) dX8_init_100 h fun σ h => ?_
  refine at_aloadn ok dX8_init_103 rfl ?_
  refine at_bipush (v := 8) ok dX8_init_104 (by decide) ?_
  refine at_newA (atype := .int) (t := 0) rfl (Or.inl rfl) wd_41 ok dX8_init_106 h fun v106 σ h => ?_
  refine at_putR ok pf_8_43 (Or.inr ⟨_, rfl⟩) dX8_init_108 h fun σ h => ?_
  refine at_aloadn ok dX8_init_111 rfl ?_
  refine at_sipush (v := 300) ok dX8_init_112 (by decide) ?_
  refine at_newA (atype := .boolean) (t := 1) rfl (Or.inr rfl) wd_42 ok dX8_init_115 h fun v115 σ h => ?_
  refine at_putR ok pf_8_46 (Or.inr ⟨_, rfl⟩) dX8_init_117 h fun σ h => ?_
  refine at_aloadn ok dX8_init_120 rfl ?_
  refine at_bipush (v := 8) ok dX8_init_121 (by decide) ?_
  refine at_newA (atype := .int) (t := 0) rfl (Or.inl rfl) wd_41 ok dX8_init_123 h fun v123 σ h => ?_
  refine at_putR ok pf_8_50 (Or.inr ⟨_, rfl⟩) dX8_init_125 h fun σ h => ?_
  refine at_aloadn ok dX8_init_128 rfl ?_
  refine at_sipush (v := 2400) ok dX8_init_129 (by decide) ?_
  refine at_newA (atype := .int) (t := 0) rfl (Or.inl rfl) wd_41 ok dX8_init_132 h fun v132 σ h => ?_
  refine at_putR ok pf_8_53 (Or.inr ⟨_, rfl⟩) dX8_init_134 h fun σ h => ?_
  refine at_aloadn ok dX8_init_137 rfl ?_
  refine at_bipush (v := 8) ok dX8_init_138 (by decide) ?_
  refine at_newA (atype := .int) (t := 0) rfl (Or.inl rfl) wd_41 ok dX8_init_140 h fun v140 σ h => ?_
  refine at_putR ok pf_8_56 (Or.inr ⟨_, rfl⟩) dX8_init_142 h fun σ h => ?_
  refine at_aloadn ok dX8_init_145 rfl ?_
  refine at_bipush (v := 8) ok dX8_init_146 (by decide) ?_
  refine at_newA (atype := .int) (t := 0) rfl (Or.inl rfl) wd_41 ok dX8_init_148 h fun v148 σ h => ?_
  refine at_putR ok pf_8_59 (Or.inr ⟨_, rfl⟩) dX8_init_150 h fun σ h => ?_
  refine at_aloadn ok dX8_init_153 rfl ?_
  refine at_bipush (v := 8) ok dX8_init_154 (by decide) ?_
  refine at_newA (atype := .int) (t := 0) rfl (Or.inl rfl) wd_41 ok dX8_init_156 h fun v156 σ h => ?_
  refine at_putR ok pf_8_62 (Or.inr ⟨_, rfl⟩) dX8_init_158 h fun σ h => ?_
  refine at_aloadn ok dX8_init_161 rfl ?_
  refine at_bipush (v := 8) ok dX8_init_162 (by decide) ?_
  refine at_newA (atype := .int) (t := 0) rfl (Or.inl rfl) wd_41 ok dX8_init_164 h fun v164 σ h => ?_
  refine at_putR ok pf_8_65 (Or.inr ⟨_, rfl⟩) dX8_init_166 h fun σ h => ?_
  refine at_aloadn ok dX8_init_169 rfl ?_
  refine at_bipush (v := 8) ok dX8_init_170 (by decide) ?_
  refine at_newA (atype := .int) (t := 0) rfl (Or.inl rfl) wd_41 ok dX8_init_172 h fun v172 σ h => ?_
  refine at_putR ok pf_8_68 (Or.inr ⟨_, rfl⟩) dX8_init_174 h fun σ h => ?_
  refine at_aloadn ok dX8_init_177 rfl ?_
  refine at_sipush (v := 800) ok dX8_init_178 (by decide) ?_
  refine at_newA (atype := .boolean) (t := 1) rfl (Or.inr rfl) wd_42 ok dX8_init_181 h fun v181 σ h => ?_
  refine at_putR ok pf_8_71 (Or.inr ⟨_, rfl⟩) dX8_init_183 h fun σ h => ?_
  refine at_aloadn ok dX8_init_186 rfl ?_
  refine at_sipush (v := 18000) ok dX8_init_187 (by decide) ?_
  refine at_newA (atype := .int) (t := 0) rfl (Or.inl rfl) wd_41 ok dX8_init_190 h fun v190 σ h => ?_
  refine at_putR ok pf_8_74 (Or.inr ⟨_, rfl⟩) dX8_init_192 h fun σ h => ?_
  refine at_aloadn ok dX8_init_195 rfl ?_
  refine at_bipush (v := 60) ok dX8_init_196 (by decide) ?_
  refine at_newA (atype := .int) (t := 0) rfl (Or.inl rfl) wd_41 ok dX8_init_198 h fun v198 σ h => ?_
  refine at_putR ok pf_8_77 (Or.inr ⟨_, rfl⟩) dX8_init_200 h fun σ h => ?_
  refine at_aloadn ok dX8_init_203 rfl ?_
  refine at_bipush (v := 60) ok dX8_init_204 (by decide) ?_
  refine at_newA (atype := .int) (t := 0) rfl (Or.inl rfl) wd_41 ok dX8_init_206 h fun v206 σ h => ?_
  refine at_putR ok pf_8_80 (Or.inr ⟨_, rfl⟩) dX8_init_208 h fun σ h => ?_
  refine at_aloadn ok dX8_init_211 rfl ?_
  refine at_bipush (v := 60) ok dX8_init_212 (by decide) ?_
  refine at_newA (atype := .int) (t := 0) rfl (Or.inl rfl) wd_41 ok dX8_init_214 h fun v214 σ h => ?_
  refine at_putR ok pf_8_83 (Or.inr ⟨_, rfl⟩) dX8_init_216 h fun σ h => ?_
  refine at_aloadn ok dX8_init_219 rfl ?_
  refine at_bipush (v := 60) ok dX8_init_220 (by decide) ?_
  refine at_newA (atype := .int) (t := 0) rfl (Or.inl rfl) wd_41 ok dX8_init_222 h fun v222 σ h => ?_
  refine at_putR ok pf_8_86 (Or.inr ⟨_, rfl⟩) dX8_init_224 h fun σ h => ?_
  refine at_aloadn ok dX8_init_227 rfl ?_
  refine at_bipush (v := 60) ok dX8_init_228 (by decide) ?_
  refine at_newA (atype := .int) (t := 0) rfl (Or.inl rfl) wd_41 ok dX8_init_230 h fun v230 σ h => ?_
  refine at_putR ok pf_8_89 (Or.inr ⟨_, rfl⟩) dX8_init_232 h fun σ h => ?_
  refine at_aloadn ok dX8_init_235 rfl ?_
  refine at_bipush (v := 60) ok dX8_init_236 (by decide) ?_
  refine at_newA (atype := .int) (t := 0) rfl (Or.inl rfl) wd_41 ok dX8_init_238 h fun v238 σ h => ?_
  refine at_putR ok pf_8_92 (Or.inr ⟨_, rfl⟩) dX8_init_240 h fun σ h => ?_
  refine at_aloadn ok dX8_init_243 rfl ?_
  refine at_bipush (v := 60) ok dX8_init_244 (by decide) ?_
  refine at_newA (atype := .int) (t := 0) rfl (Or.inl rfl) wd_41 ok dX8_init_246 h fun v246 σ h => ?_
  refine at_putR ok pf_8_95 (Or.inr ⟨_, rfl⟩) dX8_init_248 h fun σ h => ?_
  refine at_aloadn ok dX8_init_251 rfl ?_
  refine at_bipush (v := 60) ok dX8_init_252 (by decide) ?_
  refine at_newA (atype := .int) (t := 0) rfl (Or.inl rfl) wd_41 ok dX8_init_254 h fun v254 σ h => ?_
  refine at_putR ok pf_8_98 (Or.inr ⟨_, rfl⟩) dX8_init_256 h fun σ h => ?_
  refine at_aloadn ok dX8_init_259 rfl ?_
  refine at_bipush (v := 60) ok dX8_init_260 (by decide) ?_
  refine at_newA (atype := .int) (t := 0) rfl (Or.inl rfl) wd_41 ok dX8_init_262 h fun v262 σ h => ?_
  refine at_putR ok pf_8_101 (Or.inr ⟨_, rfl⟩) dX8_init_264 h fun σ h => ?_
  refine at_aloadn ok dX8_init_267 rfl ?_
  refine at_bipush (v := 60) ok dX8_init_268 (by decide) ?_
  refine at_newA (atype := .int) (t := 0) rfl (Or.inl rfl) wd_41 ok dX8_init_270 h fun v270 σ h => ?_
  refine at_putR ok pf_8_104 (Or.inr ⟨_, rfl⟩) dX8_init_272 h fun σ h => ?_
  refine at_aloadn ok dX8_init_275 rfl ?_
  refine at_sipush (v := 1024) ok dX8_init_276 (by decide) ?_
  refine at_newA (atype := .int) (t := 0) rfl (Or.inl rfl) wd_41 ok dX8_init_279 h fun v279 σ h => ?_
  refine at_putR ok (pf_8_107 _) (Or.inr ⟨_, rfl⟩) dX8_init_281 h fun σ h => ?_
  refine at_aloadn ok dX8_init_284 rfl ?_
  refine at_sipush (v := 1024) ok dX8_init_285 (by decide) ?_
  refine at_newA (atype := .int) (t := 0) rfl (Or.inl rfl) wd_41 ok dX8_init_288 h fun v288 σ h => ?_
  refine at_putR ok (pf_8_110 _) (Or.inr ⟨_, rfl⟩) dX8_init_290 h fun σ h => ?_
  refine at_aloadn ok dX8_init_293 rfl ?_
  refine at_sipush (v := 1024) ok dX8_init_294 (by decide) ?_
  refine at_newA (atype := .int) (t := 0) rfl (Or.inl rfl) wd_41 ok dX8_init_297 h fun v297 σ h => ?_
  refine at_putR ok (pf_8_113 _) (Or.inr ⟨_, rfl⟩) dX8_init_299 h fun σ h => ?_
  refine at_aloadn ok dX8_init_302 rfl ?_
  refine at_bipush (v := 21) ok dX8_init_303 (by decide) ?_
  refine at_newA (atype := .int) (t := 0) rfl (Or.inl rfl) wd_41 ok dX8_init_305 h fun v305 σ h => ?_
  refine at_putR ok pf_8_116 (Or.inr ⟨_, rfl⟩) dX8_init_307 h fun σ h => ?_
  refine at_aloadn ok dX8_init_310 rfl ?_
  refine at_bipush (v := 21) ok dX8_init_311 (by decide) ?_
  refine at_newA (atype := .int) (t := 0) rfl (Or.inl rfl) wd_41 ok dX8_init_313 h fun v313 σ h => ?_
  refine at_putR ok pf_8_119 (Or.inr ⟨_, rfl⟩) dX8_init_315 h fun σ h => ?_
  refine at_aloadn ok dX8_init_318 rfl ?_
  refine at_bipush (v := 21) ok dX8_init_319 (by decide) ?_
  refine at_newA (atype := .int) (t := 0) rfl (Or.inl rfl) wd_41 ok dX8_init_321 h fun v321 σ h => ?_
  refine at_putR ok pf_8_122 (Or.inr ⟨_, rfl⟩) dX8_init_323 h fun σ h => ?_
  refine at_aloadn ok dX8_init_326 rfl ?_
  refine at_bipush (v := 21) ok dX8_init_327 (by decide) ?_
  refine at_newA (atype := .int) (t := 0) rfl (Or.inl rfl) wd_41 ok dX8_init_329 h fun v329 σ h => ?_
  refine at_putR ok pf_8_125 (Or.inr ⟨_, rfl⟩) dX8_init_331 h fun σ h => ?_
  exact at_vret ok fn rfl dX8_init_334 h
set_option maxRecDepth 100000 in
set_option maxHeartbeats 4000000 in
theorem s8_in (a1 : Int32) (a2 : Int32) (a3 : Int32) (σ : AH) (Q : Int32 → AH → Prop) (h : Hr (f8_in a1 a2 a3) σ Q) : Runs m8_in σ [.int (a1), .int (a2), .int (a3)] (fun v σ1 => ∃ a, v = some (.int a) ∧ Q a σ1) := by
  obtain ⟨a0, σ1, e, hQ⟩ := h
  have hm := n8_in a1 a2 a3 σ a0 σ1 e
  have h : Hr (f8_in a1 a2 a3) σ (fun a σ2 => a = a0 ∧ σ2 = σ1) := ⟨a0, σ1, e, rfl, rfl⟩
  refine ⟨_, σ1, hm, ⟨a0, rfl, hQ⟩, runs_of (by decide +kernel) (by simp [cat_rf, cat_i, cat_l]) (Nat.le_of_ble_eq_true rfl) hm fun X ok fn => ?_⟩
  clear e hQ hm
  unfold f8_in at h
  show AT X m8_in 0 [some (.int (a1)), some (.int (a2)), some (.int (a3))] [] σ
  refine at_iloadn ok dX8_in_0 rfl ?_
  refine at_iloadn ok dX8_in_1 rfl ?_
  refine bt_icmp_lt (tgt := 14) ok dX8_in_2 (by decide) h (fun hc h => ?_) (fun hc h => ?_)
  · refine at_iconst (v := 0) ok dX8_in_14 (by decide) ?_
    exact at_iret ok fn ⟨_, rfl, rfl⟩ dX8_in_15 h
  · refine at_iloadn ok dX8_in_5 rfl ?_
    refine at_iloadn ok dX8_in_6 rfl ?_
    refine bt_icmp_gt (tgt := 14) ok dX8_in_7 (by decide) h (fun hc h => ?_) (fun hc h => ?_)
    · refine at_iconst (v := 0) ok dX8_in_14 (by decide) ?_
      exact at_iret ok fn ⟨_, rfl, rfl⟩ dX8_in_15 h
    · refine at_iconst (v := 1) ok dX8_in_10 (by decide) ?_
      refine at_goto (tgt := 15) ok dX8_in_11 (by decide) ?_
      exact at_iret ok fn ⟨_, rfl, rfl⟩ dX8_in_15 h
set_option maxRecDepth 100000 in
set_option maxHeartbeats 4000000 in
theorem s8_allow (t : Option Nat) (a1 : Int32) (a2 : Int32) (a3 : Int32) (a4 : Int32) (σ : AH) (Q : Int32 → AH → Prop) (h : Hr (f8_allow t a1 a2 a3 a4) σ Q) : Runs m8_allow σ [va_rf t, .int (a1), .int (a2), .int (a3), .int (a4)] (fun v σ1 => ∃ a, v = some (.int a) ∧ Q a σ1) := by
  obtain ⟨a0, σ1, e, hQ⟩ := h
  have hm := n8_allow t a1 a2 a3 a4 σ a0 σ1 e
  have h : Hr (f8_allow t a1 a2 a3 a4) σ (fun a σ2 => a = a0 ∧ σ2 = σ1) := ⟨a0, σ1, e, rfl, rfl⟩
  refine ⟨_, σ1, hm, ⟨a0, rfl, hQ⟩, runs_of (by decide +kernel) (by simp [cat_rf, cat_i, cat_l]) (Nat.le_of_ble_eq_true rfl) hm fun X ok fn => ?_⟩
  clear e hQ hm
  unfold f8_allow at h
  show AT X m8_allow 0 [some (va_rf (t)), some (.int (a1)), some (.int (a2)), some (.int (a3)), some (.int (a4)), none] [] σ
  refine at_iloadn ok dX8_allow_0 rfl ?_
  refine at_iconst (v := 0) ok dX8_allow_1 (by decide) ?_
  refine at_bipush (v := 7) ok dX8_allow_2 (by decide) ?_
  refine at_cSi (As := [.int (a1), .int (0), .int (7)]) ok ct_8_allow_128 dX8_allow_4 (by simp [cat_rf, cat_i, cat_l]) (s8_in a1 0 7 _) h fun v4 σ h => ?_
  refine bt_if_eq (tgt := 30) ok dX8_allow_7 (by decide) h (fun hc h => ?_) (fun hc h => ?_)
  · refine at_iconst (v := 0) ok dX8_allow_30 (by decide) ?_
    exact at_iret ok fn ⟨_, rfl, rfl⟩ dX8_allow_31 h
  · refine at_iloadn ok dX8_allow_10 rfl ?_
    refine at_iconst (v := 0) ok dX8_allow_11 (by decide) ?_
    refine at_bipush (v := 9) ok dX8_allow_12 (by decide) ?_
    refine at_cSi (As := [.int (a2), .int (0), .int (9)]) ok ct_8_allow_128 dX8_allow_14 (by simp [cat_rf, cat_i, cat_l]) (s8_in a2 0 9 _) h fun v14 σ h => ?_
    refine bt_if_eq (tgt := 30) ok dX8_allow_17 (by decide) h (fun hc h => ?_) (fun hc h => ?_)
    · refine at_iconst (v := 0) ok dX8_allow_30 (by decide) ?_
      exact at_iret ok fn ⟨_, rfl, rfl⟩ dX8_allow_31 h
    · refine at_iloadn ok dX8_allow_20 rfl ?_
      refine at_iconst (v := 0) ok dX8_allow_21 (by decide) ?_
      refine at_bipush (v := 9) ok dX8_allow_22 (by decide) ?_
      refine at_cSi (As := [.int (a3), .int (0), .int (9)]) ok ct_8_allow_128 dX8_allow_24 (by simp [cat_rf, cat_i, cat_l]) (s8_in a3 0 9 _) h fun v24 σ h => ?_
      refine bt_if_ne (tgt := 32) ok dX8_allow_27 (by decide) h (fun hc h => ?_) (fun hc h => ?_)
      · refine at_iconst (v := 0) ok dX8_allow_30 (by decide) ?_
        exact at_iret ok fn ⟨_, rfl, rfl⟩ dX8_allow_31 h
      · refine at_bipush (v := 10) ok dX8_allow_32 (by decide) ?_
        refine at_iloadn ok dX8_allow_34 rfl ?_
        refine at_imul ok dX8_allow_35 ?_
        refine at_iloadn ok dX8_allow_36 rfl ?_
        refine at_iadd ok dX8_allow_37 ?_
        refine at_bipush (v := 10) ok dX8_allow_38 (by decide) ?_
        refine at_imul ok dX8_allow_40 ?_
        refine at_iloadn ok dX8_allow_41 rfl ?_
        refine at_iadd ok dX8_allow_42 ?_
        refine at_istore ok dX8_allow_43 (lc_int rfl) (by decide) ?_
        refine at_aloadn ok dX8_allow_45 rfl ?_
        refine at_getR ok gf_8_71 dX8_allow_46 h fun v46 h => ?_
        refine at_iload ok dX8_allow_49 rfl ?_
        refine at_zald ok dX8_allow_51 h fun v51 h => ?_
        refine at_iload ok dX8_allow_52 rfl ?_
        refine bt_icmp_ne (tgt := 59) ok dX8_allow_54 (by decide) h (fun hc h => ?_) (fun hc h => ?_)
        · refine at_iconst (v := 0) ok dX8_allow_57 (by decide) ?_
          exact at_iret ok fn ⟨_, rfl, rfl⟩ dX8_allow_58 h
        · refine at_aloadn ok dX8_allow_59 rfl ?_
          refine at_getR ok gf_8_71 dX8_allow_60 h fun v60 h => ?_
          refine at_iload ok dX8_allow_63 rfl ?_
          refine at_iload ok dX8_allow_65 rfl ?_
          refine at_zast ok dX8_allow_67 h fun σ h => ?_
          refine at_iconst (v := 1) ok dX8_allow_68 (by decide) ?_
          exact at_iret ok fn ⟨_, rfl, rfl⟩ dX8_allow_69 h
set_option maxRecDepth 100000 in
set_option maxHeartbeats 4000000 in
theorem s8_isLetter (t : Option Nat) (a1 : Int32) (σ : AH) (Q : Int32 → AH → Prop) (h : Hr (f8_isLetter t a1) σ Q) : Runs m8_isLetter σ [va_rf t, .int (a1)] (fun v σ1 => ∃ a, v = some (.int a) ∧ Q a σ1) := by
  obtain ⟨a0, σ1, e, hQ⟩ := h
  have hm := n8_isLetter t a1 σ a0 σ1 e
  have h : Hr (f8_isLetter t a1) σ (fun a σ2 => a = a0 ∧ σ2 = σ1) := ⟨a0, σ1, e, rfl, rfl⟩
  refine ⟨_, σ1, hm, ⟨a0, rfl, hQ⟩, runs_of (by decide +kernel) (by simp [cat_rf, cat_i, cat_l]) (Nat.le_of_ble_eq_true rfl) hm fun X ok fn => ?_⟩
  clear e hQ hm
  unfold f8_isLetter at h
  show AT X m8_isLetter 0 [some (va_rf (t)), some (.int (a1))] [] σ
  refine at_iloadn ok dX8_isLetter_0 rfl ?_
  refine at_iconst (v := 0) ok dX8_isLetter_1 (by decide) ?_
  refine at_aloadn ok dX8_isLetter_2 rfl ?_
  refine at_getI ok gf_8_249 dX8_isLetter_3 h fun v3 h => ?_
  refine at_iconst (v := 1) ok dX8_isLetter_6 (by decide) ?_
  refine at_isub ok dX8_isLetter_7 ?_
  refine at_cSi (As := [.int (a1), .int (0), .int ((v3 - 1))]) ok ct_8_isLetter_128 dX8_isLetter_8 (by simp [cat_rf, cat_i, cat_l]) (s8_in a1 0 (v3 - 1) _) h fun v8 σ h => ?_
  refine at_z h fun hz h => ?_
  exact at_iret ok fn ⟨_, rfl, nar_z hz⟩ dX8_isLetter_11 h
set_option maxRecDepth 100000 in
set_option maxHeartbeats 4000000 in
theorem s8_answer (t : Option Nat) (a1 : Int32) (a2 : Int32) (σ : AH) (Q : Int32 → AH → Prop) (h : Hr (f8_answer t a1 a2) σ Q) : Runs m8_answer σ [va_rf t, .int (a1), .int (a2)] (fun v σ1 => ∃ a, v = some (.int a) ∧ Q a σ1) := by
  obtain ⟨a0, σ1, e, hQ⟩ := h
  have hm := n8_answer t a1 a2 σ a0 σ1 e
  have h : Hr (f8_answer t a1 a2) σ (fun a σ2 => a = a0 ∧ σ2 = σ1) := ⟨a0, σ1, e, rfl, rfl⟩
  refine ⟨_, σ1, hm, ⟨a0, rfl, hQ⟩, runs_of (by decide +kernel) (by simp [cat_rf, cat_i, cat_l]) (Nat.le_of_ble_eq_true rfl) hm fun X ok fn => ?_⟩
  clear e hQ hm
  unfold f8_answer at h
  show AT X m8_answer 0 [some (va_rf (t)), some (.int (a1)), some (.int (a2))] [] σ
  refine at_aloadn ok dX8_answer_0 rfl ?_
  refine at_iloadn ok dX8_answer_1 rfl ?_
  refine at_cVi (As := [.int (a1)]) ok ct_8_answer_255 dX8_answer_2 (by simp [cat_rf, cat_i, cat_l]) (s8_isLetter t a1 _) h fun v2 σ h => ?_
  refine bt_if_eq (tgt := 18) ok dX8_answer_5 (by decide) h (fun hc h => ?_) (fun hc h => ?_)
  · refine at_iconst (v := 0) ok dX8_answer_18 (by decide) ?_
    exact at_iret ok fn ⟨_, rfl, rfl⟩ dX8_answer_19 h
  · refine at_aloadn ok dX8_answer_8 rfl ?_
    refine at_getR ok gf_8_98 dX8_answer_9 h fun v9 h => ?_
    refine at_iloadn ok dX8_answer_12 rfl ?_
    refine at_iald ok dX8_answer_13 h fun v13 h => ?_
    refine at_iconst (v := 1) ok dX8_answer_14 (by decide) ?_
    refine bt_icmp_eq (tgt := 20) ok dX8_answer_15 (by decide) h (fun hc h => ?_) (fun hc h => ?_)
    · refine at_aloadn ok dX8_answer_20 rfl ?_
      refine at_getR ok gf_8_98 dX8_answer_21 h fun v21 h => ?_
      refine at_iloadn ok dX8_answer_24 rfl ?_
      refine at_iloadn ok dX8_answer_25 rfl ?_
      refine bt_if_eq (tgt := 33) ok dX8_answer_26 (by decide) h (fun hc h => ?_) (fun hc h => ?_)
      · refine at_iconst (v := 2) ok dX8_answer_33 (by decide) ?_
        refine at_iast ok dX8_answer_34 h fun σ h => ?_
        refine at_iconst (v := 1) ok dX8_answer_35 (by decide) ?_
        exact at_iret ok fn ⟨_, rfl, rfl⟩ dX8_answer_36 h
      · refine at_iconst (v := 0) ok dX8_answer_29 (by decide) ?_
        refine at_goto (tgt := 34) ok dX8_answer_30 (by decide) ?_
        refine at_iast ok dX8_answer_34 h fun σ h => ?_
        refine at_iconst (v := 1) ok dX8_answer_35 (by decide) ?_
        exact at_iret ok fn ⟨_, rfl, rfl⟩ dX8_answer_36 h
    · refine at_iconst (v := 0) ok dX8_answer_18 (by decide) ?_
      exact at_iret ok fn ⟨_, rfl, rfl⟩ dX8_answer_19 h
set_option maxRecDepth 100000 in
set_option maxHeartbeats 4000000 in
theorem s8_at (t : Option Nat) (a1 : Int32) (a2 : Int32) (a3 : Int32) (σ : AH) (Q : Int32 → AH → Prop) (h : Hr (f8_at t a1 a2 a3) σ Q) : Runs m8_at σ [va_rf t, .int (a1), .int (a2), .int (a3)] (fun v σ1 => ∃ a, v = some (.int a) ∧ Q a σ1) := by
  obtain ⟨a0, σ1, e, hQ⟩ := h
  have hm := n8_at t a1 a2 a3 σ a0 σ1 e
  have h : Hr (f8_at t a1 a2 a3) σ (fun a σ2 => a = a0 ∧ σ2 = σ1) := ⟨a0, σ1, e, rfl, rfl⟩
  refine ⟨_, σ1, hm, ⟨a0, rfl, hQ⟩, runs_of (by decide +kernel) (by simp [cat_rf, cat_i, cat_l]) (Nat.le_of_ble_eq_true rfl) hm fun X ok fn => ?_⟩
  clear e hQ hm
  unfold f8_at at h
  show AT X m8_at 0 [some (va_rf (t)), some (.int (a1)), some (.int (a2)), some (.int (a3)), none, none] [] σ
  refine at_aloadn ok dX8_at_0 rfl ?_
  refine at_iloadn ok dX8_at_1 rfl ?_
  refine at_cVi (As := [.int (a1)]) ok ct_8_at_255 dX8_at_2 (by simp [cat_rf, cat_i, cat_l]) (s8_isLetter t a1 _) h fun v2 σ h => ?_
  refine bt_if_eq (tgt := 24) ok dX8_at_5 (by decide) h (fun hc h => ?_) (fun hc h => ?_)
  · refine at_iconst (v := (-1)) ok dX8_at_24 (by decide) ?_
    exact at_iret ok fn ⟨_, rfl, rfl⟩ dX8_at_25 h
  · refine at_iloadn ok dX8_at_8 rfl ?_
    refine at_iconst (v := 0) ok dX8_at_9 (by decide) ?_
    refine at_aloadn ok dX8_at_10 rfl ?_
    refine at_getR ok gf_8_77 dX8_at_11 h fun v11 h => ?_
    refine at_iloadn ok dX8_at_14 rfl ?_
    refine at_iald ok dX8_at_15 h fun v15 h => ?_
    refine at_iconst (v := 1) ok dX8_at_16 (by decide) ?_
    refine at_isub ok dX8_at_17 ?_
    refine at_cSi (As := [.int (a2), .int (0), .int ((v15 - 1))]) ok ct_8_at_128 dX8_at_18 (by simp [cat_rf, cat_i, cat_l]) (s8_in a2 0 (v15 - 1) _) h fun v18 σ h => ?_
    refine bt_if_ne (tgt := 26) ok dX8_at_21 (by decide) h (fun hc h => ?_) (fun hc h => ?_)
    · refine at_iconst (v := (-1)) ok dX8_at_24 (by decide) ?_
      exact at_iret ok fn ⟨_, rfl, rfl⟩ dX8_at_25 h
    · refine at_iconst (v := 0) ok dX8_at_26 (by decide) ?_
      refine at_istore ok dX8_at_27 (lc_int rfl) (by decide) ?_
      refine at_aloadn ok dX8_at_29 rfl ?_
      refine at_getR ok gf_8_101 dX8_at_30 h fun v30 h => ?_
      refine at_iloadn ok dX8_at_33 rfl ?_
      refine at_iald ok dX8_at_34 h fun v34 h => ?_
      refine at_istore ok dX8_at_35 (lc_int rfl) (by decide) ?_
      refine at_weak (L' := [some (va_rf (t)), some (.int (a1)), some (.int (a2)), some (.int (a3)), some (.int (0)), some (.int (v34))]) (lw_s (lw_s (lw_s (lw_s (lw_s (lw_s lw_0)))))) ?_
      refine at_loop (fun x37 σ => AT X m8_at 37 [some (va_rf (t)), some (.int (a1)), some (.int (a2)), some (.int (a3)), some (.int (x37.1)), some (.int (x37.2))] [] σ) (fun y109 σ => AT X m8_at 109 [some (va_rf (t)), some (.int (a1)), some (.int (a2)), none, some (.int (y109)), none] [] σ) h (fun y109 σ h => ?_) (fun kx rec ih x37 σ h => ?_)
      · refine at_iload ok dX8_at_109 rfl ?_
        refine bt_if_eq (tgt := 119) ok dX8_at_111 (by decide) h (fun hc h => ?_) (fun hc h => ?_)
        · refine at_aloadn ok dX8_at_119 rfl ?_
          refine at_getR ok gf_8_74 dX8_at_120 h fun v120 h => ?_
          refine at_sipush (v := 300) ok dX8_at_123 (by decide) ?_
          refine at_iloadn ok dX8_at_126 rfl ?_
          refine at_imul ok dX8_at_127 ?_
          refine at_iloadn ok dX8_at_128 rfl ?_
          refine at_iadd ok dX8_at_129 ?_
          refine at_iald ok dX8_at_130 h fun v130 h => ?_
          exact at_iret ok fn ⟨_, rfl, rfl⟩ dX8_at_131 h
        · refine at_bipush (v := 42) ok dX8_at_114 (by decide) ?_
          refine at_goto (tgt := 131) ok dX8_at_116 (by decide) ?_
          exact at_iret ok fn ⟨_, rfl, rfl⟩ dX8_at_131 h
      · unfold l8_at_37 at h
        obtain ⟨x37_1, x37_2⟩ := x37
        dsimp only at h ⊢
        refine at_iloadn ok dX8_at_37 rfl ?_
        refine bt_if_eq (tgt := 109) ok dX8_at_38 (by decide) h (fun hc h => ?_) (fun hc h => ?_)
        · exact at_weak (lw_s (lw_s (lw_s (lw_n (lw_s (lw_n lw_0)))))) (kx x37_1 _ (hr_rt.mp h))
        · refine at_aloadn ok dX8_at_41 rfl ?_
          refine at_getR ok gf_8_92 dX8_at_42 h fun v42 h => ?_
          refine at_iloadn ok dX8_at_45 rfl ?_
          refine at_iald ok dX8_at_46 h fun v46 h => ?_
          refine at_iconst (v := 2) ok dX8_at_47 (by decide) ?_
          refine bt_icmp_ne (tgt := 109) ok dX8_at_48 (by decide) h (fun hc h => ?_) (fun hc h => ?_)
          · refine at_iload ok dX8_at_51 rfl ?_
            refine at_aloadn ok dX8_at_53 rfl ?_
            refine at_getR ok gf_8_101 dX8_at_54 h fun v54 h => ?_
            refine at_iloadn ok dX8_at_57 rfl ?_
            refine at_iald ok dX8_at_58 h fun v58 h => ?_
            refine at_aloadn ok dX8_at_59 rfl ?_
            refine at_getR ok gf_8_104 dX8_at_60 h fun v60 h => ?_
            refine at_iloadn ok dX8_at_63 rfl ?_
            refine at_iald ok dX8_at_64 h fun v64 h => ?_
            refine at_iadd ok dX8_at_65 ?_
            refine bt_icmp_ge (tgt := 109) ok dX8_at_66 (by decide) h (fun hc h => ?_) (fun hc h => ?_)
            · exact at_weak (lw_s (lw_s (lw_s (lw_n (lw_s (lw_n lw_0)))))) (kx x37_1 _ (hr_rt.mp h))
            · refine at_iload ok dX8_at_69 rfl ?_
              refine bt_if_ne (tgt := 96) ok dX8_at_71 (by decide) h (fun hc h => ?_) (fun hc h => ?_)
              · refine at_iloadn ok dX8_at_74 rfl ?_
                refine at_aloadn ok dX8_at_75 rfl ?_
                refine at_getR ok gf_8_107 dX8_at_76 h fun v76 h => ?_
                refine at_iload ok dX8_at_79 rfl ?_
                refine at_iald ok dX8_at_81 h fun v81 h => ?_
                refine bt_icmp_lt (tgt := 100) ok dX8_at_82 (by decide) h (fun hc h => ?_) (fun hc h => ?_)
                · refine at_iconst (v := 0) ok dX8_at_100 (by decide) ?_
                  refine at_istore ok dX8_at_101 (lc_int rfl) (by decide) ?_
                  refine at_iinc (v := x37_2 + 1) ok dX8_at_103 rfl rfl (lc_int rfl) (by decide) ?_
                  refine at_goto (tgt := 37) ok dX8_at_106 (by decide) ?_
                  exact at_weak (lw_s (lw_s (lw_s (lw_s (lw_s (lw_s lw_0)))))) (by have q := ih (0, (x37_2 + 1)) _ h; dsimp only at q; exact q)
                · refine at_iloadn ok dX8_at_85 rfl ?_
                  refine at_aloadn ok dX8_at_86 rfl ?_
                  refine at_getR ok gf_8_110 dX8_at_87 h fun v87 h => ?_
                  refine at_iload ok dX8_at_90 rfl ?_
                  refine at_iald ok dX8_at_92 h fun v92 h => ?_
                  refine bt_icmp_gt (tgt := 100) ok dX8_at_93 (by decide) h (fun hc h => ?_) (fun hc h => ?_)
                  · refine at_iconst (v := 0) ok dX8_at_100 (by decide) ?_
                    refine at_istore ok dX8_at_101 (lc_int rfl) (by decide) ?_
                    refine at_iinc (v := x37_2 + 1) ok dX8_at_103 rfl rfl (lc_int rfl) (by decide) ?_
                    refine at_goto (tgt := 37) ok dX8_at_106 (by decide) ?_
                    exact at_weak (lw_s (lw_s (lw_s (lw_s (lw_s (lw_s lw_0)))))) (by have q := ih (0, (x37_2 + 1)) _ h; dsimp only at q; exact q)
                  · refine at_iconst (v := 1) ok dX8_at_96 (by decide) ?_
                    refine at_goto (tgt := 101) ok dX8_at_97 (by decide) ?_
                    refine at_istore ok dX8_at_101 (lc_int rfl) (by decide) ?_
                    refine at_iinc (v := x37_2 + 1) ok dX8_at_103 rfl rfl (lc_int rfl) (by decide) ?_
                    refine at_goto (tgt := 37) ok dX8_at_106 (by decide) ?_
                    exact at_weak (lw_s (lw_s (lw_s (lw_s (lw_s (lw_s lw_0)))))) (by have q := ih (1, (x37_2 + 1)) _ h; dsimp only at q; exact q)
              · refine at_iconst (v := 1) ok dX8_at_96 (by decide) ?_
                refine at_goto (tgt := 101) ok dX8_at_97 (by decide) ?_
                refine at_istore ok dX8_at_101 (lc_int rfl) (by decide) ?_
                refine at_iinc (v := x37_2 + 1) ok dX8_at_103 rfl rfl (lc_int rfl) (by decide) ?_
                refine at_goto (tgt := 37) ok dX8_at_106 (by decide) ?_
                exact at_weak (lw_s (lw_s (lw_s (lw_s (lw_s (lw_s lw_0)))))) (by have q := ih (1, (x37_2 + 1)) _ h; dsimp only at q; exact q)
          · exact at_weak (lw_s (lw_s (lw_s (lw_n (lw_s (lw_n lw_0)))))) (kx x37_1 _ (hr_rt.mp h))
set_option maxRecDepth 100000 in
set_option maxHeartbeats 4000000 in
theorem s8_count (t : Option Nat) (a1 : Int32) (a2 : Int32) (σ : AH) (Q : Int32 → AH → Prop) (h : Hr (f8_count t a1 a2) σ Q) : Runs m8_count σ [va_rf t, .int (a1), .int (a2)] (fun v σ1 => ∃ a, v = some (.int a) ∧ Q a σ1) := by
  obtain ⟨a0, σ1, e, hQ⟩ := h
  have hm := n8_count t a1 a2 σ a0 σ1 e
  have h : Hr (f8_count t a1 a2) σ (fun a σ2 => a = a0 ∧ σ2 = σ1) := ⟨a0, σ1, e, rfl, rfl⟩
  refine ⟨_, σ1, hm, ⟨a0, rfl, hQ⟩, runs_of (by decide +kernel) (by simp [cat_rf, cat_i, cat_l]) (Nat.le_of_ble_eq_true rfl) hm fun X ok fn => ?_⟩
  clear e hQ hm
  unfold f8_count at h
  show AT X m8_count 0 [some (va_rf (t)), some (.int (a1)), some (.int (a2))] [] σ
  refine at_iloadn ok dX8_count_0 rfl ?_
  refine at_iconst (v := 0) ok dX8_count_1 (by decide) ?_
  refine at_bipush (v := 7) ok dX8_count_2 (by decide) ?_
  refine at_cSi (As := [.int (a1), .int (0), .int (7)]) ok ct_8_count_128 dX8_count_4 (by simp [cat_rf, cat_i, cat_l]) (s8_in a1 0 7 _) h fun v4 σ h => ?_
  refine bt_if_eq (tgt := 20) ok dX8_count_7 (by decide) h (fun hc h => ?_) (fun hc h => ?_)
  · refine at_iconst (v := 0) ok dX8_count_20 (by decide) ?_
    exact at_iret ok fn ⟨_, rfl, rfl⟩ dX8_count_21 h
  · refine at_iloadn ok dX8_count_10 rfl ?_
    refine at_iconst (v := 1) ok dX8_count_11 (by decide) ?_
    refine at_bipush (v := 20) ok dX8_count_12 (by decide) ?_
    refine at_cSi (As := [.int (a2), .int (1), .int (20)]) ok ct_8_count_128 dX8_count_14 (by simp [cat_rf, cat_i, cat_l]) (s8_in a2 1 20 _) h fun v14 σ h => ?_
    refine bt_if_ne (tgt := 22) ok dX8_count_17 (by decide) h (fun hc h => ?_) (fun hc h => ?_)
    · refine at_iconst (v := 0) ok dX8_count_20 (by decide) ?_
      exact at_iret ok fn ⟨_, rfl, rfl⟩ dX8_count_21 h
    · refine at_aloadn ok dX8_count_22 rfl ?_
      refine at_getR ok gf_8_50 dX8_count_23 h fun v23 h => ?_
      refine at_iloadn ok dX8_count_26 rfl ?_
      refine at_iconst (v := 3) ok dX8_count_27 (by decide) ?_
      refine at_iast ok dX8_count_28 h fun σ h => ?_
      refine at_aloadn ok dX8_count_29 rfl ?_
      refine at_getR ok gf_8_65 dX8_count_30 h fun v30 h => ?_
      refine at_iloadn ok dX8_count_33 rfl ?_
      refine at_iloadn ok dX8_count_34 rfl ?_
      refine at_iast ok dX8_count_35 h fun σ h => ?_
      refine at_iconst (v := 1) ok dX8_count_36 (by decide) ?_
      exact at_iret ok fn ⟨_, rfl, rfl⟩ dX8_count_37 h
set_option maxRecDepth 100000 in
set_option maxHeartbeats 4000000 in
theorem s8_days (t : Option Nat) (a1 : Int32) (σ : AH) (Q : Int32 → AH → Prop) (h : Hr (f8_days t a1) σ Q) : Runs m8_days σ [va_rf t, .int (a1)] (fun v σ1 => ∃ a, v = some (.int a) ∧ Q a σ1) := by
  obtain ⟨a0, σ1, e, hQ⟩ := h
  have hm := n8_days t a1 σ a0 σ1 e
  have h : Hr (f8_days t a1) σ (fun a σ2 => a = a0 ∧ σ2 = σ1) := ⟨a0, σ1, e, rfl, rfl⟩
  refine ⟨_, σ1, hm, ⟨a0, rfl, hQ⟩, runs_of (by decide +kernel) (by simp [cat_rf, cat_i, cat_l]) (Nat.le_of_ble_eq_true rfl) hm fun X ok fn => ?_⟩
  clear e hQ hm
  unfold f8_days at h
  show AT X m8_days 0 [some (va_rf (t)), some (.int (a1))] [] σ
  refine at_iloadn ok dX8_days_0 rfl ?_
  refine at_iconst (v := 0) ok dX8_days_1 (by decide) ?_
  refine at_bipush (v := 100) ok dX8_days_2 (by decide) ?_
  refine at_cSi (As := [.int (a1), .int (0), .int (100)]) ok ct_8_days_128 dX8_days_4 (by simp [cat_rf, cat_i, cat_l]) (s8_in a1 0 100 _) h fun v4 σ h => ?_
  refine bt_if_eq (tgt := 22) ok dX8_days_7 (by decide) h (fun hc h => ?_) (fun hc h => ?_)
  · refine at_iconst (v := (-1)) ok dX8_days_22 (by decide) ?_
    exact at_iret ok fn ⟨_, rfl, rfl⟩ dX8_days_23 h
  · refine at_aloadn ok dX8_days_10 rfl ?_
    refine at_getI ok gf_8_132 dX8_days_11 h fun v11 h => ?_
    refine at_iloadn ok dX8_days_14 rfl ?_
    refine at_iadd ok dX8_days_15 ?_
    refine at_sipush (v := 1000) ok dX8_days_16 (by decide) ?_
    refine bt_icmp_le (tgt := 24) ok dX8_days_19 (by decide) h (fun hc h => ?_) (fun hc h => ?_)
    · refine at_aloadn ok dX8_days_24 rfl ?_
      refine at_dup ok dX8_days_25 (cat_rf _) ?_
      refine at_getI ok gf_8_132 dX8_days_26 h fun v26 h => ?_
      refine at_iloadn ok dX8_days_29 rfl ?_
      refine at_iadd ok dX8_days_30 ?_
      refine at_putI ok (pf_8_132 _) dX8_days_31 h fun σ h => ?_
      refine at_aloadn ok dX8_days_34 rfl ?_
      refine at_getI ok gf_8_132 dX8_days_35 h fun v35 h => ?_
      exact at_iret ok fn ⟨_, rfl, rfl⟩ dX8_days_38 h
    · refine at_iconst (v := (-1)) ok dX8_days_22 (by decide) ?_
      exact at_iret ok fn ⟨_, rfl, rfl⟩ dX8_days_23 h
set_option maxRecDepth 100000 in
set_option maxHeartbeats 4000000 in
theorem s8_remove (t : Option Nat) (a1 : Int32) (σ : AH) (Q : Unit → AH → Prop) (h : Hr (f8_remove t a1) σ Q) : Runs m8_remove σ [va_rf t, .int (a1)] (fun v σ1 => ∃ a, v = none ∧ Q a σ1) := by
  obtain ⟨a0, σ1, e, hQ⟩ := h
  have hm := n8_remove t a1 σ a0 σ1 e
  have h : Hr (f8_remove t a1) σ (fun a σ2 => a = a0 ∧ σ2 = σ1) := ⟨a0, σ1, e, rfl, rfl⟩
  refine ⟨_, σ1, hm, ⟨a0, rfl, hQ⟩, runs_of (by decide +kernel) (by simp [cat_rf, cat_i, cat_l]) (Nat.le_of_ble_eq_true rfl) hm fun X ok fn => ?_⟩
  clear e hQ hm
  unfold f8_remove at h
  show AT X m8_remove 0 [some (va_rf (t)), some (.int (a1)), none] [] σ
  refine at_aloadn ok dX8_remove_0 rfl ?_
  refine at_dup ok dX8_remove_1 (cat_rf _) ?_
  refine at_getI ok gf_8_232 dX8_remove_2 h fun v2 h => ?_
  refine at_iconst (v := 1) ok dX8_remove_5 (by decide) ?_
  refine at_isub ok dX8_remove_6 ?_
  refine at_putI ok (pf_8_232 _) dX8_remove_7 h fun σ h => ?_
  refine at_iloadn ok dX8_remove_10 rfl ?_
  refine at_istoren ok dX8_remove_11 rfl (lc_int rfl) (by decide) ?_
  refine at_weak (L' := [some (va_rf (t)), none, some (.int (a1))]) (lw_s (lw_n (lw_s lw_0))) ?_
  refine at_loop (fun x12 σ => AT X m8_remove 12 [some (va_rf (t)), none, some (.int (x12))] [] σ) (fun y82 σ => AT X m8_remove 82 [none, none, none] [] σ) h (fun y82 σ h => ?_) (fun kx rec ih x12 σ h => ?_)
  · exact at_vret ok fn rfl dX8_remove_82 h
  · unfold l8_remove_12 at h
    refine at_iloadn ok dX8_remove_12 rfl ?_
    refine at_aloadn ok dX8_remove_13 rfl ?_
    refine at_getI ok gf_8_232 dX8_remove_14 h fun v14 h => ?_
    refine bt_icmp_ge (tgt := 82) ok dX8_remove_17 (by decide) h (fun hc h => ?_) (fun hc h => ?_)
    · exact at_weak (lw_n (lw_n (lw_n lw_0))) (kx () _ (hr_rt.mp h))
    · refine at_aloadn ok dX8_remove_20 rfl ?_
      refine at_getR ok gf_8_116 dX8_remove_21 h fun v21 h => ?_
      refine at_iloadn ok dX8_remove_24 rfl ?_
      refine at_aloadn ok dX8_remove_25 rfl ?_
      refine at_getR ok gf_8_116 dX8_remove_26 h fun v26 h => ?_
      refine at_iloadn ok dX8_remove_29 rfl ?_
      refine at_iconst (v := 1) ok dX8_remove_30 (by decide) ?_
      refine at_iadd ok dX8_remove_31 ?_
      refine at_iald ok dX8_remove_32 h fun v32 h => ?_
      refine at_iast ok dX8_remove_33 h fun σ h => ?_
      refine at_aloadn ok dX8_remove_34 rfl ?_
      refine at_getR ok gf_8_119 dX8_remove_35 h fun v35 h => ?_
      refine at_iloadn ok dX8_remove_38 rfl ?_
      refine at_aloadn ok dX8_remove_39 rfl ?_
      refine at_getR ok gf_8_119 dX8_remove_40 h fun v40 h => ?_
      refine at_iloadn ok dX8_remove_43 rfl ?_
      refine at_iconst (v := 1) ok dX8_remove_44 (by decide) ?_
      refine at_iadd ok dX8_remove_45 ?_
      refine at_iald ok dX8_remove_46 h fun v46 h => ?_
      refine at_iast ok dX8_remove_47 h fun σ h => ?_
      refine at_aloadn ok dX8_remove_48 rfl ?_
      refine at_getR ok gf_8_122 dX8_remove_49 h fun v49 h => ?_
      refine at_iloadn ok dX8_remove_52 rfl ?_
      refine at_aloadn ok dX8_remove_53 rfl ?_
      refine at_getR ok gf_8_122 dX8_remove_54 h fun v54 h => ?_
      refine at_iloadn ok dX8_remove_57 rfl ?_
      refine at_iconst (v := 1) ok dX8_remove_58 (by decide) ?_
      refine at_iadd ok dX8_remove_59 ?_
      refine at_iald ok dX8_remove_60 h fun v60 h => ?_
      refine at_iast ok dX8_remove_61 h fun σ h => ?_
      refine at_aloadn ok dX8_remove_62 rfl ?_
      refine at_getR ok gf_8_125 dX8_remove_63 h fun v63 h => ?_
      refine at_iloadn ok dX8_remove_66 rfl ?_
      refine at_aloadn ok dX8_remove_67 rfl ?_
      refine at_getR ok gf_8_125 dX8_remove_68 h fun v68 h => ?_
      refine at_iloadn ok dX8_remove_71 rfl ?_
      refine at_iconst (v := 1) ok dX8_remove_72 (by decide) ?_
      refine at_iadd ok dX8_remove_73 ?_
      refine at_iald ok dX8_remove_74 h fun v74 h => ?_
      refine at_iast ok dX8_remove_75 h fun σ h => ?_
      refine at_iinc (v := x12 + 1) ok dX8_remove_76 rfl rfl (lc_non rfl) (by decide) ?_
      refine at_goto (tgt := 12) ok dX8_remove_79 (by decide) ?_
      exact at_weak (lw_s (lw_n (lw_s lw_0))) (ih (x12 + 1) _ h)
set_option maxRecDepth 100000 in
set_option maxHeartbeats 4000000 in
theorem s8_drop (t : Option Nat) (a1 : Int32) (σ : AH) (Q : Int32 → AH → Prop) (h : Hr (f8_drop t a1) σ Q) : Runs m8_drop σ [va_rf t, .int (a1)] (fun v σ1 => ∃ a, v = some (.int a) ∧ Q a σ1) := by
  obtain ⟨a0, σ1, e, hQ⟩ := h
  have hm := n8_drop t a1 σ a0 σ1 e
  have h : Hr (f8_drop t a1) σ (fun a σ2 => a = a0 ∧ σ2 = σ1) := ⟨a0, σ1, e, rfl, rfl⟩
  refine ⟨_, σ1, hm, ⟨a0, rfl, hQ⟩, runs_of (by decide +kernel) (by simp [cat_rf, cat_i, cat_l]) (Nat.le_of_ble_eq_true rfl) hm fun X ok fn => ?_⟩
  clear e hQ hm
  unfold f8_drop at h
  show AT X m8_drop 0 [some (va_rf (t)), some (.int (a1))] [] σ
  refine at_iloadn ok dX8_drop_0 rfl ?_
  refine at_iconst (v := 0) ok dX8_drop_1 (by decide) ?_
  refine at_aloadn ok dX8_drop_2 rfl ?_
  refine at_getI ok gf_8_232 dX8_drop_3 h fun v3 h => ?_
  refine at_iconst (v := 1) ok dX8_drop_6 (by decide) ?_
  refine at_isub ok dX8_drop_7 ?_
  refine at_cSi (As := [.int (a1), .int (0), .int ((v3 - 1))]) ok ct_8_drop_128 dX8_drop_8 (by simp [cat_rf, cat_i, cat_l]) (s8_in a1 0 (v3 - 1) _) h fun v8 σ h => ?_
  refine bt_if_ne (tgt := 16) ok dX8_drop_11 (by decide) h (fun hc h => ?_) (fun hc h => ?_)
  · refine at_iconst (v := 0) ok dX8_drop_14 (by decide) ?_
    exact at_iret ok fn ⟨_, rfl, rfl⟩ dX8_drop_15 h
  · refine at_aloadn ok dX8_drop_16 rfl ?_
    refine at_iloadn ok dX8_drop_17 rfl ?_
    refine at_cVv (As := [.int (a1)]) ok ct_8_drop_243 dX8_drop_18 (by simp [cat_rf, cat_i, cat_l]) (s8_remove t a1 _) h fun v18 σ h => ?_
    refine at_iconst (v := 1) ok dX8_drop_21 (by decide) ?_
    exact at_iret ok fn ⟨_, rfl, rfl⟩ dX8_drop_22 h
set_option maxRecDepth 100000 in
set_option maxHeartbeats 4000000 in
theorem s8_end (t : Option Nat) (a1 : Int32) (σ : AH) (Q : Int32 → AH → Prop) (h : Hr (f8_end t a1) σ Q) : Runs m8_end σ [va_rf t, .int (a1)] (fun v σ1 => ∃ a, v = some (.int a) ∧ Q a σ1) := by
  obtain ⟨a0, σ1, e, hQ⟩ := h
  have hm := n8_end t a1 σ a0 σ1 e
  have h : Hr (f8_end t a1) σ (fun a σ2 => a = a0 ∧ σ2 = σ1) := ⟨a0, σ1, e, rfl, rfl⟩
  refine ⟨_, σ1, hm, ⟨a0, rfl, hQ⟩, runs_of (by decide +kernel) (by simp [cat_rf, cat_i, cat_l]) (Nat.le_of_ble_eq_true rfl) hm fun X ok fn => ?_⟩
  clear e hQ hm
  unfold f8_end at h
  show AT X m8_end 0 [some (va_rf (t)), some (.int (a1))] [] σ
  refine at_iloadn ok dX8_end_0 rfl ?_
  refine bt_if_lt (tgt := 12) ok dX8_end_1 (by decide) h (fun hc h => ?_) (fun hc h => ?_)
  · refine at_iconst (v := 0) ok dX8_end_12 (by decide) ?_
    exact at_iret ok fn ⟨_, rfl, rfl⟩ dX8_end_13 h
  · refine at_iloadn ok dX8_end_4 rfl ?_
    refine at_aloadn ok dX8_end_5 rfl ?_
    refine at_getI ok gf_8_140 dX8_end_6 h fun v6 h => ?_
    refine bt_icmp_le (tgt := 14) ok dX8_end_9 (by decide) h (fun hc h => ?_) (fun hc h => ?_)
    · refine at_aloadn ok dX8_end_14 rfl ?_
      refine at_iloadn ok dX8_end_15 rfl ?_
      refine at_putI ok (pf_8_140 _) dX8_end_16 h fun σ h => ?_
      refine at_iconst (v := 1) ok dX8_end_19 (by decide) ?_
      exact at_iret ok fn ⟨_, rfl, rfl⟩ dX8_end_20 h
    · refine at_iconst (v := 0) ok dX8_end_12 (by decide) ?_
      exact at_iret ok fn ⟨_, rfl, rfl⟩ dX8_end_13 h
set_option maxRecDepth 100000 in
set_option maxHeartbeats 4000000 in
theorem s8_byteOf (a1 : Int32) (a2 : Int32) (a3 : Int32) (a4 : Int32) (a5 : Int32) (a6 : Int32) (σ : AH) (Q : Int32 → AH → Prop) (h : Hr (f8_byteOf a1 a2 a3 a4 a5 a6) σ Q) : Runs m8_byteOf σ [.int (a1), .int (a2), .int (a3), .int (a4), .int (a5), .int (a6)] (fun v σ1 => ∃ a, v = some (.int a) ∧ Q a σ1) := by
  obtain ⟨a0, σ1, e, hQ⟩ := h
  have hm := n8_byteOf a1 a2 a3 a4 a5 a6 σ a0 σ1 e
  have h : Hr (f8_byteOf a1 a2 a3 a4 a5 a6) σ (fun a σ2 => a = a0 ∧ σ2 = σ1) := ⟨a0, σ1, e, rfl, rfl⟩
  refine ⟨_, σ1, hm, ⟨a0, rfl, hQ⟩, runs_of (by decide +kernel) (by simp [cat_rf, cat_i, cat_l]) (Nat.le_of_ble_eq_true rfl) hm fun X ok fn => ?_⟩
  clear e hQ hm
  unfold f8_byteOf at h
  show AT X m8_byteOf 0 [some (.int (a1)), some (.int (a2)), some (.int (a3)), some (.int (a4)), some (.int (a5)), some (.int (a6)), none] [] σ
  refine at_iload ok dX8_byteOf_0 rfl ?_
  refine at_iconst (v := 4) ok dX8_byteOf_2 (by decide) ?_
  refine at_join (fun y45 σ => AT X m8_byteOf 45 [none, none, none, none, none, some (.int (a6)), none] [.int (y45)] σ) h (fun y45 σ h => ?_) (fun h j45 => ?_)
  · refine at_istore ok dX8_byteOf_45 (lc_int rfl) (by decide) ?_
    refine at_iload ok dX8_byteOf_47 rfl ?_
    refine at_bipush (v := 24) ok dX8_byteOf_49 (by decide) ?_
    refine at_bipush (v := 8) ok dX8_byteOf_51 (by decide) ?_
    refine at_iload ok dX8_byteOf_53 rfl ?_
    refine at_iconst (v := 4) ok dX8_byteOf_55 (by decide) ?_
    refine at_irem ok dX8_byteOf_56 (by decide) ?_
    refine at_imul ok dX8_byteOf_57 ?_
    refine at_isub ok dX8_byteOf_58 ?_
    refine at_ishr ok dX8_byteOf_59 ?_
    refine at_sipush (v := 255) ok dX8_byteOf_60 (by decide) ?_
    refine at_iand ok dX8_byteOf_63 ?_
    exact at_iret ok fn ⟨_, rfl, rfl⟩ dX8_byteOf_64 h
  · refine bt_icmp_ge (tgt := 10) ok dX8_byteOf_3 (by decide) h (fun hc h => ?_) (fun hc h => ?_)
    · refine at_iload ok dX8_byteOf_10 rfl ?_
      refine at_bipush (v := 8) ok dX8_byteOf_12 (by decide) ?_
      refine bt_icmp_ge (tgt := 21) ok dX8_byteOf_14 (by decide) h (fun hc h => ?_) (fun hc h => ?_)
      · refine at_iload ok dX8_byteOf_21 rfl ?_
        refine at_bipush (v := 12) ok dX8_byteOf_23 (by decide) ?_
        refine bt_icmp_ge (tgt := 32) ok dX8_byteOf_25 (by decide) h (fun hc h => ?_) (fun hc h => ?_)
        · refine at_iload ok dX8_byteOf_32 rfl ?_
          refine at_bipush (v := 16) ok dX8_byteOf_34 (by decide) ?_
          refine bt_icmp_ge (tgt := 43) ok dX8_byteOf_36 (by decide) h (fun hc h => ?_) (fun hc h => ?_)
          · refine at_iload ok dX8_byteOf_43 rfl ?_
            exact at_weak (lw_n (lw_n (lw_n (lw_n (lw_n (lw_s (lw_n lw_0))))))) (j45 a5 _ (hr_rt.mp h))
          · refine at_iloadn ok dX8_byteOf_39 rfl ?_
            refine at_goto (tgt := 45) ok dX8_byteOf_40 (by decide) ?_
            exact at_weak (lw_n (lw_n (lw_n (lw_n (lw_n (lw_s (lw_n lw_0))))))) (j45 a4 _ (hr_rt.mp h))
        · refine at_iloadn ok dX8_byteOf_28 rfl ?_
          refine at_goto (tgt := 45) ok dX8_byteOf_29 (by decide) ?_
          exact at_weak (lw_n (lw_n (lw_n (lw_n (lw_n (lw_s (lw_n lw_0))))))) (j45 a3 _ (hr_rt.mp h))
      · refine at_iloadn ok dX8_byteOf_17 rfl ?_
        refine at_goto (tgt := 45) ok dX8_byteOf_18 (by decide) ?_
        exact at_weak (lw_n (lw_n (lw_n (lw_n (lw_n (lw_s (lw_n lw_0))))))) (j45 a2 _ (hr_rt.mp h))
    · refine at_iloadn ok dX8_byteOf_6 rfl ?_
      refine at_goto (tgt := 45) ok dX8_byteOf_7 (by decide) ?_
      exact at_weak (lw_n (lw_n (lw_n (lw_n (lw_n (lw_s (lw_n lw_0))))))) (j45 a1 _ (hr_rt.mp h))
set_option maxRecDepth 100000 in
set_option maxHeartbeats 4000000 in
theorem s8_feed (t : Option Nat) (a1 : Int32) (a2 : Int32) (a3 : Int32) (a4 : Int32) (a5 : Int32) (σ : AH) (Q : Int32 → AH → Prop) (h : Hr (f8_feed t a1 a2 a3 a4 a5) σ Q) : Runs m8_feed σ [va_rf t, .int (a1), .int (a2), .int (a3), .int (a4), .int (a5)] (fun v σ1 => ∃ a, v = some (.int a) ∧ Q a σ1) := by
  obtain ⟨a0, σ1, e, hQ⟩ := h
  have hm := n8_feed t a1 a2 a3 a4 a5 σ a0 σ1 e
  have h : Hr (f8_feed t a1 a2 a3 a4 a5) σ (fun a σ2 => a = a0 ∧ σ2 = σ1) := ⟨a0, σ1, e, rfl, rfl⟩
  refine ⟨_, σ1, hm, ⟨a0, rfl, hQ⟩, runs_of (by decide +kernel) (by simp [cat_rf, cat_i, cat_l]) (Nat.le_of_ble_eq_true rfl) hm fun X ok fn => ?_⟩
  clear e hQ hm
  unfold f8_feed at h
  show AT X m8_feed 0 [some (va_rf (t)), some (.int (a1)), some (.int (a2)), some (.int (a3)), some (.int (a4)), some (.int (a5)), none, none, none] [] σ
  refine at_iconst (v := 0) ok dX8_feed_0 (by decide) ?_
  refine at_istore ok dX8_feed_1 (lc_int rfl) (by decide) ?_
  refine at_iconst (v := 0) ok dX8_feed_3 (by decide) ?_
  refine at_istore ok dX8_feed_4 (lc_int rfl) (by decide) ?_
  refine at_weak (L' := [some (va_rf (t)), some (.int (a1)), some (.int (a2)), some (.int (a3)), some (.int (a4)), some (.int (a5)), some (.int (0)), some (.int (0)), none]) (lw_s (lw_s (lw_s (lw_s (lw_s (lw_s (lw_s (lw_s (lw_n lw_0))))))))) ?_
  refine at_loop (fun x6 σ => AT X m8_feed 6 [some (va_rf (t)), some (.int (a1)), some (.int (a2)), some (.int (a3)), some (.int (a4)), some (.int (a5)), some (.int (x6.1)), some (.int (x6.2)), none] [] σ) (fun y44 σ => AT X m8_feed 44 [some (va_rf (t)), some (.int (a1)), some (.int (a2)), some (.int (a3)), some (.int (a4)), some (.int (a5)), some (.int (y44)), none, none] [] σ) h (fun y44 σ h => ?_) (fun kx rec ih x6 σ h => ?_)
  · refine at_aloadn ok dX8_feed_44 rfl ?_
    refine at_getI ok gf_8_140 dX8_feed_45 h fun v45 h => ?_
    refine at_iload ok dX8_feed_48 rfl ?_
    refine at_iadd ok dX8_feed_50 ?_
    refine at_sipush (v := 300) ok dX8_feed_51 (by decide) ?_
    refine bt_icmp_le (tgt := 59) ok dX8_feed_54 (by decide) h (fun hc h => ?_) (fun hc h => ?_)
    · refine at_iconst (v := 0) ok dX8_feed_59 (by decide) ?_
      refine at_istore ok dX8_feed_60 (lc_int rfl) (by decide) ?_
      refine at_weak (L' := [some (va_rf (t)), some (.int (a1)), some (.int (a2)), some (.int (a3)), some (.int (a4)), some (.int (a5)), none, some (.int (0)), none]) (lw_s (lw_s (lw_s (lw_s (lw_s (lw_s (lw_n (lw_s (lw_n lw_0))))))))) ?_
      refine at_loop (fun x62 σ => AT X m8_feed 62 [some (va_rf (t)), some (.int (a1)), some (.int (a2)), some (.int (a3)), some (.int (a4)), some (.int (a5)), none, some (.int (x62)), none] [] σ) (fun y115 σ => AT X m8_feed 115 [some (va_rf (t)), none, none, none, none, none, none, none, none] [] σ) h (fun y115 σ h => ?_) (fun kx rec ih x62 σ h => ?_)
      · refine at_aloadn ok dX8_feed_115 rfl ?_
        refine at_getI ok gf_8_140 dX8_feed_116 h fun v116 h => ?_
        exact at_iret ok fn ⟨_, rfl, rfl⟩ dX8_feed_119 h
      · unfold l8_feed_62 at h
        refine at_iload ok dX8_feed_62 rfl ?_
        refine at_bipush (v := 20) ok dX8_feed_64 (by decide) ?_
        refine bt_icmp_ge (tgt := 115) ok dX8_feed_66 (by decide) h (fun hc h => ?_) (fun hc h => ?_)
        · exact at_weak (lw_s (lw_n (lw_n (lw_n (lw_n (lw_n (lw_n (lw_n (lw_n lw_0))))))))) (kx () _ (hr_rt.mp h))
        · refine at_iloadn ok dX8_feed_69 rfl ?_
          refine at_iloadn ok dX8_feed_70 rfl ?_
          refine at_iloadn ok dX8_feed_71 rfl ?_
          refine at_iload ok dX8_feed_72 rfl ?_
          refine at_iload ok dX8_feed_74 rfl ?_
          refine at_iload ok dX8_feed_76 rfl ?_
          refine at_cSi (As := [.int (a1), .int (a2), .int (a3), .int (a4), .int (a5), .int (x62)]) ok ct_8_feed_136 dX8_feed_78 (by simp [cat_rf, cat_i, cat_l]) (s8_byteOf a1 a2 a3 a4 a5 x62 _) h fun v78 σ h => ?_
          refine at_istore ok dX8_feed_81 (lc_int rfl) (by decide) ?_
          refine at_iload ok dX8_feed_83 rfl ?_
          refine bt_if_eq (tgt := 109) ok dX8_feed_85 (by decide) h (fun hc h => ?_) (fun hc h => ?_)
          · refine at_iinc (v := x62 + 1) ok dX8_feed_109 rfl rfl (lc_non rfl) (by decide) ?_
            refine at_goto (tgt := 62) ok dX8_feed_112 (by decide) ?_
            exact at_weak (lw_s (lw_s (lw_s (lw_s (lw_s (lw_s (lw_n (lw_s (lw_n lw_0))))))))) (ih (x62 + 1) _ h)
          · refine at_aloadn ok dX8_feed_88 rfl ?_
            refine at_getR ok gf_8_9 dX8_feed_89 h fun v89 h => ?_
            refine at_aloadn ok dX8_feed_92 rfl ?_
            refine at_getI ok gf_8_140 dX8_feed_93 h fun v93 h => ?_
            refine at_iload ok dX8_feed_96 rfl ?_
            refine at_iast ok dX8_feed_98 h fun σ h => ?_
            refine at_aloadn ok dX8_feed_99 rfl ?_
            refine at_dup ok dX8_feed_100 (cat_rf _) ?_
            refine at_getI ok gf_8_140 dX8_feed_101 h fun v101 h => ?_
            refine at_iconst (v := 1) ok dX8_feed_104 (by decide) ?_
            refine at_iadd ok dX8_feed_105 ?_
            refine at_putI ok (pf_8_140 _) dX8_feed_106 h fun σ h => ?_
            refine at_iinc (v := x62 + 1) ok dX8_feed_109 rfl rfl (lc_non rfl) (by decide) ?_
            refine at_goto (tgt := 62) ok dX8_feed_112 (by decide) ?_
            exact at_weak (lw_s (lw_s (lw_s (lw_s (lw_s (lw_s (lw_n (lw_s (lw_n lw_0))))))))) (ih (x62 + 1) _ h)
    · refine at_iconst (v := (-1)) ok dX8_feed_57 (by decide) ?_
      exact at_iret ok fn ⟨_, rfl, rfl⟩ dX8_feed_58 h
  · unfold l8_feed_6 at h
    obtain ⟨x6_1, x6_2⟩ := x6
    dsimp only at h ⊢
    refine at_iload ok dX8_feed_6 rfl ?_
    refine at_bipush (v := 20) ok dX8_feed_8 (by decide) ?_
    refine bt_icmp_ge (tgt := 44) ok dX8_feed_10 (by decide) h (fun hc h => ?_) (fun hc h => ?_)
    · exact at_weak (lw_s (lw_s (lw_s (lw_s (lw_s (lw_s (lw_s (lw_n (lw_n lw_0))))))))) (kx x6_1 _ (hr_rt.mp h))
    · refine at_iload ok dX8_feed_13 rfl ?_
      refine at_iloadn ok dX8_feed_15 rfl ?_
      refine at_iloadn ok dX8_feed_16 rfl ?_
      refine at_iloadn ok dX8_feed_17 rfl ?_
      refine at_iload ok dX8_feed_18 rfl ?_
      refine at_iload ok dX8_feed_20 rfl ?_
      refine at_iload ok dX8_feed_22 rfl ?_
      refine at_cSi (As := [.int (a1), .int (a2), .int (a3), .int (a4), .int (a5), .int (x6_2)]) ok ct_8_feed_136 dX8_feed_24 (by simp [cat_rf, cat_i, cat_l]) (s8_byteOf a1 a2 a3 a4 a5 x6_2 _) h fun v24 σ h => ?_
      refine bt_if_eq (tgt := 34) ok dX8_feed_27 (by decide) h (fun hc h => ?_) (fun hc h => ?_)
      · refine at_iconst (v := 0) ok dX8_feed_34 (by decide) ?_
        refine at_iadd ok dX8_feed_35 ?_
        refine at_istore ok dX8_feed_36 (lc_int rfl) (by decide) ?_
        refine at_iinc (v := x6_2 + 1) ok dX8_feed_38 rfl rfl (lc_int rfl) (by decide) ?_
        refine at_goto (tgt := 6) ok dX8_feed_41 (by decide) ?_
        exact at_weak (lw_s (lw_s (lw_s (lw_s (lw_s (lw_s (lw_s (lw_s (lw_n lw_0))))))))) (by have q := ih ((x6_1 + 0), (x6_2 + 1)) _ h; dsimp only at q; exact q)
      · refine at_iconst (v := 1) ok dX8_feed_30 (by decide) ?_
        refine at_goto (tgt := 35) ok dX8_feed_31 (by decide) ?_
        refine at_iadd ok dX8_feed_35 ?_
        refine at_istore ok dX8_feed_36 (lc_int rfl) (by decide) ?_
        refine at_iinc (v := x6_2 + 1) ok dX8_feed_38 rfl rfl (lc_int rfl) (by decide) ?_
        refine at_goto (tgt := 6) ok dX8_feed_41 (by decide) ?_
        exact at_weak (lw_s (lw_s (lw_s (lw_s (lw_s (lw_s (lw_s (lw_s (lw_n lw_0))))))))) (by have q := ih ((x6_1 + 1), (x6_2 + 1)) _ h; dsimp only at q; exact q)
