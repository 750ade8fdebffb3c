set_option maxRecDepth 100000 in
set_option maxHeartbeats 4000000 in
theorem s8_isOther (t : Option Nat) (a1 : Int32) (σ : AH) (Q : Int32 → AH → Prop) (h : Hr (f8_isOther t a1) σ Q) : Runs m8_isOther σ [va_rf t, .int (a1)] (fun v σ1 => ∃ a, v = some (.int a) ∧ Q a σ1) := by
  obtain ⟨a0, σ1, e, hQ⟩ := h
  have hm := n8_isOther t a1 σ a0 σ1 e
  have h : Hr (f8_isOther t a1) σ (fun a σ2 => a = a0 ∧ σ2 = σ1) := ⟨a0, σ1, e, rfl, rfl⟩
  refine ⟨_, σ1, hm, ⟨a0, rfl, hQ⟩, runs_of (by decide +kernel) (by simp [cat_rf, cat_i, cat_l]) (Nat.le_of_ble_eq_true rfl) hm fun X ok fn => ?_⟩
  clear e hQ hm
  unfold f8_isOther at h
  show AT X m8_isOther 0 [some (va_rf (t)), some (.int (a1)), none] [] σ
  refine at_aloadn ok dX8_isOther_0 rfl ?_
  refine at_iloadn ok dX8_isOther_1 rfl ?_
  refine at_cVv (As := [.int (a1)]) ok ct_8_isOther_217 dX8_isOther_2 (by simp [cat_rf, cat_i, cat_l]) (s8_readLetter t a1 _) h fun v2 σ h => ?_
  refine at_aloadn ok dX8_isOther_5 rfl ?_
  refine at_iloadn ok dX8_isOther_6 rfl ?_
  refine at_cVi (As := [.int (a1)]) ok ct_8_isOther_252 dX8_isOther_7 (by simp [cat_rf, cat_i, cat_l]) (s8_ruleFor t a1 _) h fun v7 σ h => ?_
  refine at_istoren ok dX8_isOther_10 rfl (lc_int rfl) (by decide) ?_
  refine at_iloadn ok dX8_isOther_11 rfl ?_
  refine at_iconst (v := (-1)) ok dX8_isOther_12 (by decide) ?_
  refine at_join (fun y26 σ => AT X m8_isOther 26 [some (va_rf (t)), some (.int (a1)), none] [.int (y26)] σ) h (fun y26 σ h => ?_) (fun h j26 => ?_)
  · refine at_aloadn ok dX8_isOther_26 rfl ?_
    refine at_getR ok gf_8_92 dX8_isOther_27 h fun v27 h => ?_
    refine at_iloadn ok dX8_isOther_30 rfl ?_
    refine at_iald ok dX8_isOther_31 h fun v31 h => ?_
    refine bt_icmp_eq (tgt := 39) ok dX8_isOther_32 (by decide) h (fun hc h => ?_) (fun hc h => ?_)
    · refine at_iconst (v := 0) ok dX8_isOther_39 (by decide) ?_
      exact at_iret ok fn ⟨_, rfl, rfl⟩ dX8_isOther_40 h
    · refine at_iconst (v := 1) ok dX8_isOther_35 (by decide) ?_
      refine at_goto (tgt := 40) ok dX8_isOther_36 (by decide) ?_
      exact at_iret ok fn ⟨_, rfl, rfl⟩ dX8_isOther_40 h
  · refine bt_icmp_ne (tgt := 20) ok dX8_isOther_13 (by decide) h (fun hc h => ?_) (fun hc h => ?_)
    · refine at_iconst (v := 0) ok dX8_isOther_16 (by decide) ?_
      refine at_goto (tgt := 26) ok dX8_isOther_17 (by decide) ?_
      exact at_weak (lw_s (lw_s (lw_n lw_0))) (j26 0 _ (hr_rt.mp h))
    · refine at_aloadn ok dX8_isOther_20 rfl ?_
      refine at_getR ok gf_8_125 dX8_isOther_21 h fun v21 h => ?_
      refine at_iloadn ok dX8_isOther_24 rfl ?_
      refine at_iald ok dX8_isOther_25 h fun v25 h => ?_
      exact at_weak (lw_s (lw_s (lw_n lw_0))) (j26 v25 _ (hr_rt.mp h))
set_option maxRecDepth 100000 in
set_option maxHeartbeats 4000000 in
theorem s8_isRule (t : Option Nat) (a1 : Int32) (a2 : Int32) (a3 : Int32) (a4 : Int32) (a5 : Int32) (σ : AH) (Q : Int32 → AH → Prop) (h : Hr (f8_isRule t a1 a2 a3 a4 a5) σ Q) : Runs m8_isRule σ [va_rf t, .int (a1), .int (a2), .int (a3), .int (a4), .int (a5)] (fun v σ1 => ∃ a, v = some (.int a) ∧ Q a σ1) := by
  obtain ⟨a0, σ1, e, hQ⟩ := h
  have hm := n8_isRule t a1 a2 a3 a4 a5 σ a0 σ1 e
  have h : Hr (f8_isRule t a1 a2 a3 a4 a5) σ (fun a σ2 => a = a0 ∧ σ2 = σ1) := ⟨a0, σ1, e, rfl, rfl⟩
  refine ⟨_, σ1, hm, ⟨a0, rfl, hQ⟩, runs_of (by decide +kernel) (by simp [cat_rf, cat_i, cat_l]) (Nat.le_of_ble_eq_true rfl) hm fun X ok fn => ?_⟩
  clear e hQ hm
  unfold f8_isRule at h
  show AT X m8_isRule 0 [some (va_rf (t)), some (.int (a1)), some (.int (a2)), some (.int (a3)), some (.int (a4)), some (.int (a5))] [] σ
  refine at_iloadn ok dX8_isRule_0 rfl ?_
  refine at_iconst (v := 0) ok dX8_isRule_1 (by decide) ?_
  refine at_aloadn ok dX8_isRule_2 rfl ?_
  refine at_getI ok gf_8_232 dX8_isRule_3 h fun v3 h => ?_
  refine at_cSi (As := [.int (a1), .int (0), .int (v3)]) ok ct_8_isRule_128 dX8_isRule_6 (by simp [cat_rf, cat_i, cat_l]) (s8_in a1 0 v3 _) h fun v6 σ h => ?_
  refine bt_if_eq (tgt := 56) ok dX8_isRule_9 (by decide) h (fun hc h => ?_) (fun hc h => ?_)
  · refine at_iconst (v := 0) ok dX8_isRule_56 (by decide) ?_
    exact at_iret ok fn ⟨_, rfl, rfl⟩ dX8_isRule_57 h
  · refine at_iloadn ok dX8_isRule_12 rfl ?_
    refine at_iconst (v := (-1)) ok dX8_isRule_13 (by decide) ?_
    refine at_bipush (v := 9) ok dX8_isRule_14 (by decide) ?_
    refine at_cSi (As := [.int (a2), .int ((-1)), .int (9)]) ok ct_8_isRule_128 dX8_isRule_16 (by simp [cat_rf, cat_i, cat_l]) (s8_in a2 (-1) 9 _) h fun v16 σ h => ?_
    refine bt_if_eq (tgt := 56) ok dX8_isRule_19 (by decide) h (fun hc h => ?_) (fun hc h => ?_)
    · refine at_iconst (v := 0) ok dX8_isRule_56 (by decide) ?_
      exact at_iret ok fn ⟨_, rfl, rfl⟩ dX8_isRule_57 h
    · refine at_iloadn ok dX8_isRule_22 rfl ?_
      refine at_iconst (v := (-1)) ok dX8_isRule_23 (by decide) ?_
      refine at_iconst (v := 2) ok dX8_isRule_24 (by decide) ?_
      refine at_cSi (As := [.int (a3), .int ((-1)), .int (2)]) ok ct_8_isRule_128 dX8_isRule_25 (by simp [cat_rf, cat_i, cat_l]) (s8_in a3 (-1) 2 _) h fun v25 σ h => ?_
      refine bt_if_eq (tgt := 56) ok dX8_isRule_28 (by decide) h (fun hc h => ?_) (fun hc h => ?_)
      · refine at_iconst (v := 0) ok dX8_isRule_56 (by decide) ?_
        exact at_iret ok fn ⟨_, rfl, rfl⟩ dX8_isRule_57 h
      · refine at_iload ok dX8_isRule_31 rfl ?_
        refine at_iconst (v := 0) ok dX8_isRule_33 (by decide) ?_
        refine at_bipush (v := 7) ok dX8_isRule_34 (by decide) ?_
        refine at_cSi (As := [.int (a4), .int (0), .int (7)]) ok ct_8_isRule_128 dX8_isRule_36 (by simp [cat_rf, cat_i, cat_l]) (s8_in a4 0 7 _) h fun v36 σ h => ?_
        refine bt_if_eq (tgt := 56) ok dX8_isRule_39 (by decide) h (fun hc h => ?_) (fun hc h => ?_)
        · refine at_iconst (v := 0) ok dX8_isRule_56 (by decide) ?_
          exact at_iret ok fn ⟨_, rfl, rfl⟩ dX8_isRule_57 h
        · refine at_iload ok dX8_isRule_42 rfl ?_
          refine at_iconst (v := 0) ok dX8_isRule_44 (by decide) ?_
          refine at_iconst (v := 4) ok dX8_isRule_45 (by decide) ?_
          refine at_cSi (As := [.int (a5), .int (0), .int (4)]) ok ct_8_isRule_128 dX8_isRule_46 (by simp [cat_rf, cat_i, cat_l]) (s8_in a5 0 4 _) h fun v46 σ h => ?_
          refine bt_if_eq (tgt := 56) ok dX8_isRule_49 (by decide) h (fun hc h => ?_) (fun hc h => ?_)
          · refine at_iconst (v := 0) ok dX8_isRule_56 (by decide) ?_
            exact at_iret ok fn ⟨_, rfl, rfl⟩ dX8_isRule_57 h
          · refine at_iconst (v := 1) ok dX8_isRule_52 (by decide) ?_
            refine at_goto (tgt := 57) ok dX8_isRule_53 (by decide) ?_
            exact at_iret ok fn ⟨_, rfl, rfl⟩ dX8_isRule_57 h
set_option maxRecDepth 100000 in
set_option maxHeartbeats 4000000 in
theorem s8_keep (t : Option Nat) (a1 : Int32) (σ : AH) (Q : Int32 → AH → Prop) (h : Hr (f8_keep t a1) σ Q) : Runs m8_keep σ [va_rf t, .int (a1)] (fun v σ1 => ∃ a, v = some (.int a) ∧ Q a σ1) := by
  obtain ⟨a0, σ1, e, hQ⟩ := h
  have hm := n8_keep t a1 σ a0 σ1 e
  have h : Hr (f8_keep t a1) σ (fun a σ2 => a = a0 ∧ σ2 = σ1) := ⟨a0, σ1, e, rfl, rfl⟩
  refine ⟨_, σ1, hm, ⟨a0, rfl, hQ⟩, runs_of (by decide +kernel) (by simp [cat_rf, cat_i, cat_l]) (Nat.le_of_ble_eq_true rfl) hm fun X ok fn => ?_⟩
  clear e hQ hm
  unfold f8_keep at h
  show AT X m8_keep 0 [some (va_rf (t)), some (.int (a1)), none] [] σ
  refine at_iloadn ok dX8_keep_0 rfl ?_
  refine at_iconst (v := 0) ok dX8_keep_1 (by decide) ?_
  refine at_bipush (v := 7) ok dX8_keep_2 (by decide) ?_
  refine at_cSi (As := [.int (a1), .int (0), .int (7)]) ok ct_8_keep_128 dX8_keep_4 (by simp [cat_rf, cat_i, cat_l]) (s8_in a1 0 7 _) h fun v4 σ h => ?_
  refine bt_if_ne (tgt := 12) ok dX8_keep_7 (by decide) h (fun hc h => ?_) (fun hc h => ?_)
  · refine at_iconst (v := (-1)) ok dX8_keep_10 (by decide) ?_
    exact at_iret ok fn ⟨_, rfl, rfl⟩ dX8_keep_11 h
  · refine at_aloadn ok dX8_keep_12 rfl ?_
    refine at_aloadn ok dX8_keep_13 rfl ?_
    refine at_getR ok gf_8_9 dX8_keep_14 h fun v14 h => ?_
    refine at_iconst (v := 0) ok dX8_keep_17 (by decide) ?_
    refine at_aloadn ok dX8_keep_18 rfl ?_
    refine at_getI ok gf_8_140 dX8_keep_19 h fun v19 h => ?_
    refine at_cVv (As := [va_rf (v14), .int (0), .int (v19)]) ok ct_8_keep_179 dX8_keep_22 (by simp [cat_rf, cat_i, cat_l]) (s8_read t v14 0 v19 _) h fun v22 σ h => ?_
    refine at_aloadn ok dX8_keep_25 rfl ?_
    refine at_iconst (v := 0) ok dX8_keep_26 (by decide) ?_
    refine at_putI ok (pf_8_140 _) dX8_keep_27 h fun σ h => ?_
    refine at_iconst (v := 0) ok dX8_keep_30 (by decide) ?_
    refine at_istoren ok dX8_keep_31 rfl (lc_int rfl) (by decide) ?_
    refine at_weak (L' := [some (va_rf (t)), some (.int (a1)), some (.int (0))]) (lw_s (lw_s (lw_s lw_0))) ?_
    refine at_loop (fun x32 σ => AT X m8_keep 32 [some (va_rf (t)), some (.int (a1)), some (.int (x32))] [] σ) (fun y67 σ => AT X m8_keep 67 [some (va_rf (t)), some (.int (a1)), none] [] σ) h (fun y67 σ h => ?_) (fun kx rec ih x32 σ h => ?_)
    · refine at_iconst (v := 0) ok dX8_keep_67 (by decide) ?_
      refine at_istoren ok dX8_keep_68 rfl (lc_int rfl) (by decide) ?_
      refine at_weak (L' := [some (va_rf (t)), some (.int (a1)), some (.int (0))]) (lw_s (lw_s (lw_s lw_0))) ?_
      refine at_loop (fun x69 σ => AT X m8_keep 69 [some (va_rf (t)), some (.int (a1)), some (.int (x69))] [] σ) (fun y119 σ => AT X m8_keep 119 [some (va_rf (t)), some (.int (a1)), none] [] σ) h (fun y119 σ h => ?_) (fun kx rec ih x69 σ h => ?_)
      · refine at_aloadn ok dX8_keep_119 rfl ?_
        refine at_getR ok gf_8_43 dX8_keep_120 h fun v120 h => ?_
        refine at_iloadn ok dX8_keep_123 rfl ?_
        refine at_aloadn ok dX8_keep_124 rfl ?_
        refine at_getI ok gf_8_160 dX8_keep_125 h fun v125 h => ?_
        refine at_iast ok dX8_keep_128 h fun σ h => ?_
        refine at_aloadn ok dX8_keep_129 rfl ?_
        refine at_getI ok gf_8_160 dX8_keep_130 h fun v130 h => ?_
        exact at_iret ok fn ⟨_, rfl, rfl⟩ dX8_keep_133 h
      · unfold l8_keep_69 at h
        refine at_iloadn ok dX8_keep_69 rfl ?_
        refine at_aloadn ok dX8_keep_70 rfl ?_
        refine at_getI ok gf_8_160 dX8_keep_71 h fun v71 h => ?_
        refine bt_icmp_ge (tgt := 119) ok dX8_keep_74 (by decide) h (fun hc h => ?_) (fun hc h => ?_)
        · exact at_weak (lw_s (lw_s (lw_n lw_0))) (kx () _ (hr_rt.mp h))
        · refine at_aloadn ok dX8_keep_77 rfl ?_
          refine at_getR ok gf_8_37 dX8_keep_78 h fun v78 h => ?_
          refine at_sipush (v := 300) ok dX8_keep_81 (by decide) ?_
          refine at_iloadn ok dX8_keep_84 rfl ?_
          refine at_imul ok dX8_keep_85 ?_
          refine at_iloadn ok dX8_keep_86 rfl ?_
          refine at_iadd ok dX8_keep_87 ?_
          refine at_aloadn ok dX8_keep_88 rfl ?_
          refine at_getR ok gf_8_22 dX8_keep_89 h fun v89 h => ?_
          refine at_iloadn ok dX8_keep_92 rfl ?_
          refine at_iald ok dX8_keep_93 h fun v93 h => ?_
          refine at_iast ok dX8_keep_94 h fun σ h => ?_
          refine at_aloadn ok dX8_keep_95 rfl ?_
          refine at_getR ok gf_8_40 dX8_keep_96 h fun v96 h => ?_
          refine at_sipush (v := 300) ok dX8_keep_99 (by decide) ?_
          refine at_iloadn ok dX8_keep_102 rfl ?_
          refine at_imul ok dX8_keep_103 ?_
          refine at_iloadn ok dX8_keep_104 rfl ?_
          refine at_iadd ok dX8_keep_105 ?_
          refine at_aloadn ok dX8_keep_106 rfl ?_
          refine at_getR ok gf_8_25 dX8_keep_107 h fun v107 h => ?_
          refine at_iloadn ok dX8_keep_110 rfl ?_
          refine at_iald ok dX8_keep_111 h fun v111 h => ?_
          refine at_iast ok dX8_keep_112 h fun σ h => ?_
          refine at_iinc (v := x69 + 1) ok dX8_keep_113 rfl rfl (lc_int rfl) (by decide) ?_
          refine at_goto (tgt := 69) ok dX8_keep_116 (by decide) ?_
          exact at_weak (lw_s (lw_s (lw_s lw_0))) (ih (x69 + 1) _ h)
    · unfold l8_keep_32 at h
      refine at_iloadn ok dX8_keep_32 rfl ?_
      refine at_aloadn ok dX8_keep_33 rfl ?_
      refine at_getI ok gf_8_143 dX8_keep_34 h fun v34 h => ?_
      refine bt_icmp_ge (tgt := 67) ok dX8_keep_37 (by decide) h (fun hc h => ?_) (fun hc h => ?_)
      · exact at_weak (lw_s (lw_s (lw_n lw_0))) (kx () _ (hr_rt.mp h))
      · refine at_aloadn ok dX8_keep_40 rfl ?_
        refine at_getR ok gf_8_34 dX8_keep_41 h fun v41 h => ?_
        refine at_sipush (v := 300) ok dX8_keep_44 (by decide) ?_
        refine at_iloadn ok dX8_keep_47 rfl ?_
        refine at_imul ok dX8_keep_48 ?_
        refine at_iloadn ok dX8_keep_49 rfl ?_
        refine at_iadd ok dX8_keep_50 ?_
        refine at_aloadn ok dX8_keep_51 rfl ?_
        refine at_getR ok gf_8_13 dX8_keep_52 h fun v52 h => ?_
        refine at_iloadn ok dX8_keep_55 rfl ?_
        refine at_iald ok dX8_keep_56 h fun v56 h => ?_
        refine at_cSi (As := [.int (v56)]) ok ct_8_keep_150 dX8_keep_57 (by simp [cat_rf, cat_i, cat_l]) (s8_small v56 _) h fun v57 σ h => ?_
        refine at_iast ok dX8_keep_60 h fun σ h => ?_
        refine at_iinc (v := x32 + 1) ok dX8_keep_61 rfl rfl (lc_int rfl) (by decide) ?_
        refine at_goto (tgt := 32) ok dX8_keep_64 (by decide) ?_
        exact at_weak (lw_s (lw_s (lw_s lw_0))) (ih (x32 + 1) _ h)
set_option maxRecDepth 100000 in
set_option maxHeartbeats 4000000 in
theorem s8_mark (t : Option Nat) (a1 : Int32) (σ : AH) (Q : Int32 → AH → Prop) (h : Hr (f8_mark t a1) σ Q) : Runs m8_mark σ [va_rf t, .int (a1)] (fun v σ1 => ∃ a, v = some (.int a) ∧ Q a σ1) := by
  obtain ⟨a0, σ1, e, hQ⟩ := h
  have hm := n8_mark t a1 σ a0 σ1 e
  have h : Hr (f8_mark t a1) σ (fun a σ2 => a = a0 ∧ σ2 = σ1) := ⟨a0, σ1, e, rfl, rfl⟩
  refine ⟨_, σ1, hm, ⟨a0, rfl, hQ⟩, runs_of (by decide +kernel) (by simp [cat_rf, cat_i, cat_l]) (Nat.le_of_ble_eq_true rfl) hm fun X ok fn => ?_⟩
  clear e hQ hm
  unfold f8_mark at h
  show AT X m8_mark 0 [some (va_rf (t)), some (.int (a1)), none] [] σ
  refine at_iloadn ok dX8_mark_0 rfl ?_
  refine at_iconst (v := 0) ok dX8_mark_1 (by decide) ?_
  refine at_bipush (v := 7) ok dX8_mark_2 (by decide) ?_
  refine at_cSi (As := [.int (a1), .int (0), .int (7)]) ok ct_8_mark_128 dX8_mark_4 (by simp [cat_rf, cat_i, cat_l]) (s8_in a1 0 7 _) h fun v4 σ h => ?_
  refine bt_if_ne (tgt := 12) ok dX8_mark_7 (by decide) h (fun hc h => ?_) (fun hc h => ?_)
  · refine at_iconst (v := 0) ok dX8_mark_10 (by decide) ?_
    exact at_iret ok fn ⟨_, rfl, rfl⟩ dX8_mark_11 h
  · refine at_aloadn ok dX8_mark_12 rfl ?_
    refine at_aloadn ok dX8_mark_13 rfl ?_
    refine at_getR ok gf_8_9 dX8_mark_14 h fun v14 h => ?_
    refine at_iconst (v := 0) ok dX8_mark_17 (by decide) ?_
    refine at_aloadn ok dX8_mark_18 rfl ?_
    refine at_getI ok gf_8_140 dX8_mark_19 h fun v19 h => ?_
    refine at_cVv (As := [va_rf (v14), .int (0), .int (v19)]) ok ct_8_mark_179 dX8_mark_22 (by simp [cat_rf, cat_i, cat_l]) (s8_read t v14 0 v19 _) h fun v22 σ h => ?_
    refine at_aloadn ok dX8_mark_25 rfl ?_
    refine at_getI ok gf_8_160 dX8_mark_26 h fun v26 h => ?_
    refine bt_if_ne (tgt := 34) ok dX8_mark_29 (by decide) h (fun hc h => ?_) (fun hc h => ?_)
    · refine at_iconst (v := 0) ok dX8_mark_32 (by decide) ?_
      exact at_iret ok fn ⟨_, rfl, rfl⟩ dX8_mark_33 h
    · refine at_aloadn ok dX8_mark_34 rfl ?_
      refine at_getR ok gf_8_50 dX8_mark_35 h fun v35 h => ?_
      refine at_iloadn ok dX8_mark_38 rfl ?_
      refine at_iconst (v := 1) ok dX8_mark_39 (by decide) ?_
      refine at_iast ok dX8_mark_40 h fun σ h => ?_
      refine at_aloadn ok dX8_mark_41 rfl ?_
      refine at_getR ok gf_8_56 dX8_mark_42 h fun v42 h => ?_
      refine at_iloadn ok dX8_mark_45 rfl ?_
      refine at_aloadn ok dX8_mark_46 rfl ?_
      refine at_getR ok gf_8_25 dX8_mark_47 h fun v47 h => ?_
      refine at_iconst (v := 0) ok dX8_mark_50 (by decide) ?_
      refine at_iald ok dX8_mark_51 h fun v51 h => ?_
      refine at_aloadn ok dX8_mark_52 rfl ?_
      refine at_getR ok gf_8_22 dX8_mark_53 h fun v53 h => ?_
      refine at_iconst (v := 0) ok dX8_mark_56 (by decide) ?_
      refine at_iald ok dX8_mark_57 h fun v57 h => ?_
      refine at_isub ok dX8_mark_58 ?_
      refine at_iconst (v := 1) ok dX8_mark_59 (by decide) ?_
      refine at_iadd ok dX8_mark_60 ?_
      refine at_iast ok dX8_mark_61 h fun σ h => ?_
      refine at_iconst (v := 0) ok dX8_mark_62 (by decide) ?_
      refine at_istoren ok dX8_mark_63 rfl (lc_int rfl) (by decide) ?_
      refine at_weak (L' := [some (va_rf (t)), some (.int (a1)), some (.int (0))]) (lw_s (lw_s (lw_s lw_0))) ?_
      refine at_loop (fun x64 σ => AT X m8_mark 64 [some (va_rf (t)), some (.int (a1)), some (.int (x64))] [] σ) (fun y108 σ => AT X m8_mark 108 [some (va_rf (t)), none, none] [] σ) h (fun y108 σ h => ?_) (fun kx rec ih x64 σ h => ?_)
      · refine at_aloadn ok dX8_mark_108 rfl ?_
        refine at_iconst (v := 0) ok dX8_mark_109 (by decide) ?_
        refine at_putI ok (pf_8_140 _) dX8_mark_110 h fun σ h => ?_
        refine at_iconst (v := 1) ok dX8_mark_113 (by decide) ?_
        exact at_iret ok fn ⟨_, rfl, rfl⟩ dX8_mark_114 h
      · unfold l8_mark_64 at h
        refine at_iloadn ok dX8_mark_64 rfl ?_
        refine at_aloadn ok dX8_mark_65 rfl ?_
        refine at_getR ok gf_8_56 dX8_mark_66 h fun v66 h => ?_
        refine at_iloadn ok dX8_mark_69 rfl ?_
        refine at_iald ok dX8_mark_70 h fun v70 h => ?_
        refine bt_icmp_ge (tgt := 108) ok dX8_mark_71 (by decide) h (fun hc h => ?_) (fun hc h => ?_)
        · exact at_weak (lw_s (lw_n (lw_n lw_0))) (kx () _ (hr_rt.mp h))
        · refine at_aloadn ok dX8_mark_74 rfl ?_
          refine at_getR ok gf_8_53 dX8_mark_75 h fun v75 h => ?_
          refine at_sipush (v := 300) ok dX8_mark_78 (by decide) ?_
          refine at_iloadn ok dX8_mark_81 rfl ?_
          refine at_imul ok dX8_mark_82 ?_
          refine at_iloadn ok dX8_mark_83 rfl ?_
          refine at_iadd ok dX8_mark_84 ?_
          refine at_aloadn ok dX8_mark_85 rfl ?_
          refine at_getR ok gf_8_13 dX8_mark_86 h fun v86 h => ?_
          refine at_aloadn ok dX8_mark_89 rfl ?_
          refine at_getR ok gf_8_22 dX8_mark_90 h fun v90 h => ?_
          refine at_iconst (v := 0) ok dX8_mark_93 (by decide) ?_
          refine at_iald ok dX8_mark_94 h fun v94 h => ?_
          refine at_iloadn ok dX8_mark_95 rfl ?_
          refine at_iadd ok dX8_mark_96 ?_
          refine at_iald ok dX8_mark_97 h fun v97 h => ?_
          refine at_cSi (As := [.int (v97)]) ok ct_8_mark_150 dX8_mark_98 (by simp [cat_rf, cat_i, cat_l]) (s8_small v97 _) h fun v98 σ h => ?_
          refine at_iast ok dX8_mark_101 h fun σ h => ?_
          refine at_iinc (v := x64 + 1) ok dX8_mark_102 rfl rfl (lc_int rfl) (by decide) ?_
          refine at_goto (tgt := 64) ok dX8_mark_105 (by decide) ?_
          exact at_weak (lw_s (lw_s (lw_s lw_0))) (ih (x64 + 1) _ h)
set_option maxRecDepth 100000 in
set_option maxHeartbeats 4000000 in
theorem s8_near (t : Option Nat) (a1 : Int32) (a2 : Int32) (a3 : Int32) (σ : AH) (Q : Int32 → AH → Prop) (h : Hr (f8_near t a1 a2 a3) σ Q) : Runs m8_near σ [va_rf t, .int (a1), .int (a2), .int (a3)] (fun v σ1 => ∃ a, v = some (.int a) ∧ Q a σ1) := by
  obtain ⟨a0, σ1, e, hQ⟩ := h
  have hm := n8_near t a1 a2 a3 σ a0 σ1 e
  have h : Hr (f8_near t a1 a2 a3) σ (fun a σ2 => a = a0 ∧ σ2 = σ1) := ⟨a0, σ1, e, rfl, rfl⟩
  refine ⟨_, σ1, hm, ⟨a0, rfl, hQ⟩, runs_of (by decide +kernel) (by simp [cat_rf, cat_i, cat_l]) (Nat.le_of_ble_eq_true rfl) hm fun X ok fn => ?_⟩
  clear e hQ hm
  unfold f8_near at h
  show AT X m8_near 0 [some (va_rf (t)), some (.int (a1)), some (.int (a2)), some (.int (a3))] [] σ
  refine at_iloadn ok dX8_near_0 rfl ?_
  refine at_iconst (v := 0) ok dX8_near_1 (by decide) ?_
  refine at_bipush (v := 7) ok dX8_near_2 (by decide) ?_
  refine at_cSi (As := [.int (a1), .int (0), .int (7)]) ok ct_8_near_128 dX8_near_4 (by simp [cat_rf, cat_i, cat_l]) (s8_in a1 0 7 _) h fun v4 σ h => ?_
  refine bt_if_eq (tgt := 30) ok dX8_near_7 (by decide) h (fun hc h => ?_) (fun hc h => ?_)
  · refine at_iconst (v := 0) ok dX8_near_30 (by decide) ?_
    exact at_iret ok fn ⟨_, rfl, rfl⟩ dX8_near_31 h
  · refine at_iloadn ok dX8_near_10 rfl ?_
    refine at_iconst (v := 0) ok dX8_near_11 (by decide) ?_
    refine at_bipush (v := 7) ok dX8_near_12 (by decide) ?_
    refine at_cSi (As := [.int (a2), .int (0), .int (7)]) ok ct_8_near_128 dX8_near_14 (by simp [cat_rf, cat_i, cat_l]) (s8_in a2 0 7 _) h fun v14 σ h => ?_
    refine bt_if_eq (tgt := 30) ok dX8_near_17 (by decide) h (fun hc h => ?_) (fun hc h => ?_)
    · refine at_iconst (v := 0) ok dX8_near_30 (by decide) ?_
      exact at_iret ok fn ⟨_, rfl, rfl⟩ dX8_near_31 h
    · refine at_iloadn ok dX8_near_20 rfl ?_
      refine at_iconst (v := 2) ok dX8_near_21 (by decide) ?_
      refine at_bipush (v := 8) ok dX8_near_22 (by decide) ?_
      refine at_cSi (As := [.int (a3), .int (2), .int (8)]) ok ct_8_near_128 dX8_near_24 (by simp [cat_rf, cat_i, cat_l]) (s8_in a3 2 8 _) h fun v24 σ h => ?_
      refine bt_if_ne (tgt := 32) ok dX8_near_27 (by decide) h (fun hc h => ?_) (fun hc h => ?_)
      · refine at_iconst (v := 0) ok dX8_near_30 (by decide) ?_
        exact at_iret ok fn ⟨_, rfl, rfl⟩ dX8_near_31 h
      · refine at_aloadn ok dX8_near_32 rfl ?_
        refine at_getR ok gf_8_50 dX8_near_33 h fun v33 h => ?_
        refine at_iloadn ok dX8_near_36 rfl ?_
        refine at_iconst (v := 2) ok dX8_near_37 (by decide) ?_
        refine at_iast ok dX8_near_38 h fun σ h => ?_
        refine at_aloadn ok dX8_near_39 rfl ?_
        refine at_getR ok gf_8_59 dX8_near_40 h fun v40 h => ?_
        refine at_iloadn ok dX8_near_43 rfl ?_
        refine at_iloadn ok dX8_near_44 rfl ?_
        refine at_iast ok dX8_near_45 h fun σ h => ?_
        refine at_aloadn ok dX8_near_46 rfl ?_
        refine at_getR ok gf_8_62 dX8_near_47 h fun v47 h => ?_
        refine at_iloadn ok dX8_near_50 rfl ?_
        refine at_iloadn ok dX8_near_51 rfl ?_
        refine at_iast ok dX8_near_52 h fun σ h => ?_
        refine at_iconst (v := 1) ok dX8_near_53 (by decide) ?_
        exact at_iret ok fn ⟨_, rfl, rfl⟩ dX8_near_54 h
set_option maxRecDepth 100000 in
set_option maxHeartbeats 4000000 in
theorem s8_numbers (t : Option Nat) (σ : AH) (Q : Int32 → AH → Prop) (h : Hr (f8_numbers t) σ Q) : Runs m8_numbers σ [va_rf t] (fun v σ1 => ∃ a, v = some (.int a) ∧ Q a σ1) := by
  obtain ⟨a0, σ1, e, hQ⟩ := h
  have hm := n8_numbers t σ a0 σ1 e
  have h : Hr (f8_numbers t) σ (fun a σ2 => a = a0 ∧ σ2 = σ1) := ⟨a0, σ1, e, rfl, rfl⟩
  refine ⟨_, σ1, hm, ⟨a0, rfl, hQ⟩, runs_of (by decide +kernel) (by simp [cat_rf, cat_i, cat_l]) (Nat.le_of_ble_eq_true rfl) hm fun X ok fn => ?_⟩
  clear e hQ hm
  unfold f8_numbers at h
  show AT X m8_numbers 0 [some (va_rf (t))] [] σ
  refine at_aloadn ok dX8_numbers_0 rfl ?_
  refine at_aloadn ok dX8_numbers_1 rfl ?_
  refine at_getR ok gf_8_9 dX8_numbers_2 h fun v2 h => ?_
  refine at_iconst (v := 0) ok dX8_numbers_5 (by decide) ?_
  refine at_aloadn ok dX8_numbers_6 rfl ?_
  refine at_getI ok gf_8_140 dX8_numbers_7 h fun v7 h => ?_
  refine at_cVv (As := [va_rf (v2), .int (0), .int (v7)]) ok ct_8_numbers_179 dX8_numbers_10 (by simp [cat_rf, cat_i, cat_l]) (s8_read t v2 0 v7 _) h fun v10 σ h => ?_
  refine at_aloadn ok dX8_numbers_13 rfl ?_
  refine at_getI ok gf_8_169 dX8_numbers_14 h fun v14 h => ?_
  exact at_iret ok fn ⟨_, rfl, rfl⟩ dX8_numbers_17 h
set_option maxRecDepth 100000 in
set_option maxHeartbeats 4000000 in
theorem s8_parts (t : Option Nat) (a1 : Int32) (a2 : Int32) (σ : AH) (Q : Int32 → AH → Prop) (h : Hr (f8_parts t a1 a2) σ Q) : Runs m8_parts σ [va_rf t, .int (a1), .int (a2)] (fun v σ1 => ∃ a, v = some (.int a) ∧ Q a σ1) := by
  obtain ⟨a0, σ1, e, hQ⟩ := h
  have hm := n8_parts t a1 a2 σ a0 σ1 e
  have h : Hr (f8_parts t a1 a2) σ (fun a σ2 => a = a0 ∧ σ2 = σ1) := ⟨a0, σ1, e, rfl, rfl⟩
  refine ⟨_, σ1, hm, ⟨a0, rfl, hQ⟩, runs_of (by decide +kernel) (by simp [cat_rf, cat_i, cat_l]) (Nat.le_of_ble_eq_true rfl) hm fun X ok fn => ?_⟩
  clear e hQ hm
  unfold f8_parts at h
  show AT X m8_parts 0 [some (va_rf (t)), some (.int (a1)), some (.int (a2))] [] σ
  refine at_iloadn ok dX8_parts_0 rfl ?_
  refine at_iconst (v := 0) ok dX8_parts_1 (by decide) ?_
  refine at_bipush (v := 7) ok dX8_parts_2 (by decide) ?_
  refine at_cSi (As := [.int (a1), .int (0), .int (7)]) ok ct_8_parts_128 dX8_parts_4 (by simp [cat_rf, cat_i, cat_l]) (s8_in a1 0 7 _) h fun v4 σ h => ?_
  refine bt_if_eq (tgt := 20) ok dX8_parts_7 (by decide) h (fun hc h => ?_) (fun hc h => ?_)
  · refine at_iconst (v := (-1)) ok dX8_parts_20 (by decide) ?_
    exact at_iret ok fn ⟨_, rfl, rfl⟩ dX8_parts_21 h
  · refine at_iloadn ok dX8_parts_10 rfl ?_
    refine at_iconst (v := 2) ok dX8_parts_11 (by decide) ?_
    refine at_bipush (v := 8) ok dX8_parts_12 (by decide) ?_
    refine at_cSi (As := [.int (a2), .int (2), .int (8)]) ok ct_8_parts_128 dX8_parts_14 (by simp [cat_rf, cat_i, cat_l]) (s8_in a2 2 8 _) h fun v14 σ h => ?_
    refine bt_if_ne (tgt := 22) ok dX8_parts_17 (by decide) h (fun hc h => ?_) (fun hc h => ?_)
    · refine at_iconst (v := (-1)) ok dX8_parts_20 (by decide) ?_
      exact at_iret ok fn ⟨_, rfl, rfl⟩ dX8_parts_21 h
    · refine at_aloadn ok dX8_parts_22 rfl ?_
      refine at_aloadn ok dX8_parts_23 rfl ?_
      refine at_getR ok gf_8_9 dX8_parts_24 h fun v24 h => ?_
      refine at_iconst (v := 0) ok dX8_parts_27 (by decide) ?_
      refine at_aloadn ok dX8_parts_28 rfl ?_
      refine at_getI ok gf_8_140 dX8_parts_29 h fun v29 h => ?_
      refine at_cVv (As := [va_rf (v24), .int (0), .int (v29)]) ok ct_8_parts_179 dX8_parts_32 (by simp [cat_rf, cat_i, cat_l]) (s8_read t v24 0 v29 _) h fun v32 σ h => ?_
      refine at_aloadn ok dX8_parts_35 rfl ?_
      refine at_cVv (As := []) ok ct_8_parts_214 dX8_parts_36 (by simp [cat_rf, cat_i, cat_l]) (s8_noParts t  _) h fun v36 σ h => ?_
      refine at_aloadn ok dX8_parts_39 rfl ?_
      refine at_iloadn ok dX8_parts_40 rfl ?_
      refine at_iloadn ok dX8_parts_41 rfl ?_
      refine at_cVv (As := [.int (a1), .int (a2)]) ok ct_8_parts_221 dX8_parts_42 (by simp [cat_rf, cat_i, cat_l]) (s8_addParts t a1 a2 _) h fun v42 σ h => ?_
      refine at_aloadn ok dX8_parts_45 rfl ?_
      refine at_iloadn ok dX8_parts_46 rfl ?_
      refine at_cVi (As := [.int (a1)]) ok ct_8_parts_225 dX8_parts_47 (by simp [cat_rf, cat_i, cat_l]) (s8_partsHad t a1 _) h fun v47 σ h => ?_
      exact at_iret ok fn ⟨_, rfl, rfl⟩ dX8_parts_50 h
set_option maxRecDepth 100000 in
set_option maxHeartbeats 4000000 in
theorem s8_pieces (t : Option Nat) (a1 : Int32) (a2 : Int32) (a3 : Int32) (a4 : Int32) (a5 : Int32) (σ : AH) (Q : Int32 → AH → Prop) (h : Hr (f8_pieces t a1 a2 a3 a4 a5) σ Q) : Runs m8_pieces σ [va_rf t, .int (a1), .int (a2), .int (a3), .int (a4), .int (a5)] (fun v σ1 => ∃ a, v = some (.int a) ∧ Q a σ1) := by
  obtain ⟨a0, σ1, e, hQ⟩ := h
  have hm := n8_pieces t a1 a2 a3 a4 a5 σ a0 σ1 e
  have h : Hr (f8_pieces t a1 a2 a3 a4 a5) σ (fun a σ2 => a = a0 ∧ σ2 = σ1) := ⟨a0, σ1, e, rfl, rfl⟩
  refine ⟨_, σ1, hm, ⟨a0, rfl, hQ⟩, runs_of (by decide +kernel) (by simp [cat_rf, cat_i, cat_l]) (Nat.le_of_ble_eq_true rfl) hm fun X ok fn => ?_⟩
  clear e hQ hm
  unfold f8_pieces at h
  show AT X m8_pieces 0 [some (va_rf (t)), some (.int (a1)), some (.int (a2)), some (.int (a3)), some (.int (a4)), some (.int (a5))] [] σ
  refine at_iloadn ok dX8_pieces_0 rfl ?_
  refine at_iconst (v := 0) ok dX8_pieces_1 (by decide) ?_
  refine at_bipush (v := 7) ok dX8_pieces_2 (by decide) ?_
  refine at_cSi (As := [.int (a1), .int (0), .int (7)]) ok ct_8_pieces_128 dX8_pieces_4 (by simp [cat_rf, cat_i, cat_l]) (s8_in a1 0 7 _) h fun v4 σ h => ?_
  refine bt_if_eq (tgt := 52) ok dX8_pieces_7 (by decide) h (fun hc h => ?_) (fun hc h => ?_)
  · refine at_iconst (v := 0) ok dX8_pieces_52 (by decide) ?_
    exact at_iret ok fn ⟨_, rfl, rfl⟩ dX8_pieces_53 h
  · refine at_iloadn ok dX8_pieces_10 rfl ?_
    refine at_iconst (v := 0) ok dX8_pieces_11 (by decide) ?_
    refine at_bipush (v := 7) ok dX8_pieces_12 (by decide) ?_
    refine at_cSi (As := [.int (a2), .int (0), .int (7)]) ok ct_8_pieces_128 dX8_pieces_14 (by simp [cat_rf, cat_i, cat_l]) (s8_in a2 0 7 _) h fun v14 σ h => ?_
    refine bt_if_eq (tgt := 52) ok dX8_pieces_17 (by decide) h (fun hc h => ?_) (fun hc h => ?_)
    · refine at_iconst (v := 0) ok dX8_pieces_52 (by decide) ?_
      exact at_iret ok fn ⟨_, rfl, rfl⟩ dX8_pieces_53 h
    · refine at_iloadn ok dX8_pieces_20 rfl ?_
      refine at_iconst (v := 2) ok dX8_pieces_21 (by decide) ?_
      refine at_bipush (v := 8) ok dX8_pieces_22 (by decide) ?_
      refine at_cSi (As := [.int (a3), .int (2), .int (8)]) ok ct_8_pieces_128 dX8_pieces_24 (by simp [cat_rf, cat_i, cat_l]) (s8_in a3 2 8 _) h fun v24 σ h => ?_
      refine bt_if_eq (tgt := 52) ok dX8_pieces_27 (by decide) h (fun hc h => ?_) (fun hc h => ?_)
      · refine at_iconst (v := 0) ok dX8_pieces_52 (by decide) ?_
        exact at_iret ok fn ⟨_, rfl, rfl⟩ dX8_pieces_53 h
      · refine at_iload ok dX8_pieces_30 rfl ?_
        refine at_iconst (v := 1) ok dX8_pieces_32 (by decide) ?_
        refine at_bipush (v := 50) ok dX8_pieces_33 (by decide) ?_
        refine at_cSi (As := [.int (a4), .int (1), .int (50)]) ok ct_8_pieces_128 dX8_pieces_35 (by simp [cat_rf, cat_i, cat_l]) (s8_in a4 1 50 _) h fun v35 σ h => ?_
        refine bt_if_eq (tgt := 52) ok dX8_pieces_38 (by decide) h (fun hc h => ?_) (fun hc h => ?_)
        · refine at_iconst (v := 0) ok dX8_pieces_52 (by decide) ?_
          exact at_iret ok fn ⟨_, rfl, rfl⟩ dX8_pieces_53 h
        · refine at_iload ok dX8_pieces_41 rfl ?_
          refine at_iconst (v := 0) ok dX8_pieces_43 (by decide) ?_
          refine at_bipush (v := 30) ok dX8_pieces_44 (by decide) ?_
          refine at_cSi (As := [.int (a5), .int (0), .int (30)]) ok ct_8_pieces_128 dX8_pieces_46 (by simp [cat_rf, cat_i, cat_l]) (s8_in a5 0 30 _) h fun v46 σ h => ?_
          refine bt_if_ne (tgt := 54) ok dX8_pieces_49 (by decide) h (fun hc h => ?_) (fun hc h => ?_)
          · refine at_iconst (v := 0) ok dX8_pieces_52 (by decide) ?_
            exact at_iret ok fn ⟨_, rfl, rfl⟩ dX8_pieces_53 h
          · refine at_aloadn ok dX8_pieces_54 rfl ?_
            refine at_getR ok gf_8_50 dX8_pieces_55 h fun v55 h => ?_
            refine at_iloadn ok dX8_pieces_58 rfl ?_
            refine at_iconst (v := 4) ok dX8_pieces_59 (by decide) ?_
            refine at_iast ok dX8_pieces_60 h fun σ h => ?_
            refine at_aloadn ok dX8_pieces_61 rfl ?_
            refine at_getR ok gf_8_59 dX8_pieces_62 h fun v62 h => ?_
            refine at_iloadn ok dX8_pieces_65 rfl ?_
            refine at_iloadn ok dX8_pieces_66 rfl ?_
            refine at_iast ok dX8_pieces_67 h fun σ h => ?_
            refine at_aloadn ok dX8_pieces_68 rfl ?_
            refine at_getR ok gf_8_62 dX8_pieces_69 h fun v69 h => ?_
            refine at_iloadn ok dX8_pieces_72 rfl ?_
            refine at_iloadn ok dX8_pieces_73 rfl ?_
            refine at_iast ok dX8_pieces_74 h fun σ h => ?_
            refine at_aloadn ok dX8_pieces_75 rfl ?_
            refine at_getR ok gf_8_65 dX8_pieces_76 h fun v76 h => ?_
            refine at_iloadn ok dX8_pieces_79 rfl ?_
            refine at_iload ok dX8_pieces_80 rfl ?_
            refine at_iast ok dX8_pieces_82 h fun σ h => ?_
            refine at_aloadn ok dX8_pieces_83 rfl ?_
            refine at_getR ok gf_8_68 dX8_pieces_84 h fun v84 h => ?_
            refine at_iloadn ok dX8_pieces_87 rfl ?_
            refine at_iload ok dX8_pieces_88 rfl ?_
            refine at_iast ok dX8_pieces_90 h fun σ h => ?_
            refine at_iconst (v := 1) ok dX8_pieces_91 (by decide) ?_
            exact at_iret ok fn ⟨_, rfl, rfl⟩ dX8_pieces_92 h
set_option maxRecDepth 100000 in
set_option maxHeartbeats 4000000 in
theorem s8_quarrel (t : Option Nat) (a1 : Int32) (a2 : Int32) (σ : AH) (Q : Int32 → AH → Prop) (h : Hr (f8_quarrel t a1 a2) σ Q) : Runs m8_quarrel σ [va_rf t, .int (a1), .int (a2)] (fun v σ1 => ∃ a, v = some (.int a) ∧ Q a σ1) := by
  obtain ⟨a0, σ1, e, hQ⟩ := h
  have hm := n8_quarrel t a1 a2 σ a0 σ1 e
  have h : Hr (f8_quarrel t a1 a2) σ (fun a σ2 => a = a0 ∧ σ2 = σ1) := ⟨a0, σ1, e, rfl, rfl⟩
  refine ⟨_, σ1, hm, ⟨a0, rfl, hQ⟩, runs_of (by decide +kernel) (by simp [cat_rf, cat_i, cat_l]) (Nat.le_of_ble_eq_true rfl) hm fun X ok fn => ?_⟩
  clear e hQ hm
  unfold f8_quarrel at h
  show AT X m8_quarrel 0 [some (va_rf (t)), some (.int (a1)), some (.int (a2)), none, none] [] σ
  refine at_iloadn ok dX8_quarrel_0 rfl ?_
  refine at_iconst (v := 0) ok dX8_quarrel_1 (by decide) ?_
  refine at_aloadn ok dX8_quarrel_2 rfl ?_
  refine at_getI ok gf_8_232 dX8_quarrel_3 h fun v3 h => ?_
  refine at_iconst (v := 1) ok dX8_quarrel_6 (by decide) ?_
  refine at_isub ok dX8_quarrel_7 ?_
  refine at_cSi (As := [.int (a1), .int (0), .int ((v3 - 1))]) ok ct_8_quarrel_128 dX8_quarrel_8 (by simp [cat_rf, cat_i, cat_l]) (s8_in a1 0 (v3 - 1) _) h fun v8 σ h => ?_
  refine bt_if_eq (tgt := 33) ok dX8_quarrel_11 (by decide) h (fun hc h => ?_) (fun hc h => ?_)
  · refine at_iconst (v := (-1)) ok dX8_quarrel_33 (by decide) ?_
    exact at_iret ok fn ⟨_, rfl, rfl⟩ dX8_quarrel_34 h
  · refine at_iloadn ok dX8_quarrel_14 rfl ?_
    refine at_iconst (v := 0) ok dX8_quarrel_15 (by decide) ?_
    refine at_aloadn ok dX8_quarrel_16 rfl ?_
    refine at_getI ok gf_8_232 dX8_quarrel_17 h fun v17 h => ?_
    refine at_iconst (v := 1) ok dX8_quarrel_20 (by decide) ?_
    refine at_isub ok dX8_quarrel_21 ?_
    refine at_cSi (As := [.int (a2), .int (0), .int ((v17 - 1))]) ok ct_8_quarrel_128 dX8_quarrel_22 (by simp [cat_rf, cat_i, cat_l]) (s8_in a2 0 (v17 - 1) _) h fun v22 σ h => ?_
    refine bt_if_eq (tgt := 33) ok dX8_quarrel_25 (by decide) h (fun hc h => ?_) (fun hc h => ?_)
    · refine at_iconst (v := (-1)) ok dX8_quarrel_33 (by decide) ?_
      exact at_iret ok fn ⟨_, rfl, rfl⟩ dX8_quarrel_34 h
    · refine at_iloadn ok dX8_quarrel_28 rfl ?_
      refine at_iloadn ok dX8_quarrel_29 rfl ?_
      refine bt_icmp_ne (tgt := 35) ok dX8_quarrel_30 (by decide) h (fun hc h => ?_) (fun hc h => ?_)
      · refine at_iconst (v := (-1)) ok dX8_quarrel_33 (by decide) ?_
        exact at_iret ok fn ⟨_, rfl, rfl⟩ dX8_quarrel_34 h
      · refine at_aloadn ok dX8_quarrel_35 rfl ?_
        refine at_getR ok gf_8_122 dX8_quarrel_36 h fun v36 h => ?_
        refine at_iloadn ok dX8_quarrel_39 rfl ?_
        refine at_iald ok dX8_quarrel_40 h fun v40 h => ?_
        refine at_aloadn ok dX8_quarrel_41 rfl ?_
        refine at_getR ok gf_8_122 dX8_quarrel_42 h fun v42 h => ?_
        refine at_iloadn ok dX8_quarrel_45 rfl ?_
        refine at_iald ok dX8_quarrel_46 h fun v46 h => ?_
        refine bt_icmp_ne (tgt := 65) ok dX8_quarrel_47 (by decide) h (fun hc h => ?_) (fun hc h => ?_)
        · refine at_aloadn ok dX8_quarrel_50 rfl ?_
          refine at_getR ok gf_8_125 dX8_quarrel_51 h fun v51 h => ?_
          refine at_iloadn ok dX8_quarrel_54 rfl ?_
          refine at_iald ok dX8_quarrel_55 h fun v55 h => ?_
          refine at_aloadn ok dX8_quarrel_56 rfl ?_
          refine at_getR ok gf_8_125 dX8_quarrel_57 h fun v57 h => ?_
          refine at_iloadn ok dX8_quarrel_60 rfl ?_
          refine at_iald ok dX8_quarrel_61 h fun v61 h => ?_
          refine bt_icmp_ne (tgt := 67) ok dX8_quarrel_62 (by decide) h (fun hc h => ?_) (fun hc h => ?_)
          · refine at_iconst (v := (-1)) ok dX8_quarrel_65 (by decide) ?_
            exact at_iret ok fn ⟨_, rfl, rfl⟩ dX8_quarrel_66 h
          · refine at_iconst (v := 0) ok dX8_quarrel_67 (by decide) ?_
            refine at_istoren ok dX8_quarrel_68 rfl (lc_int rfl) (by decide) ?_
            refine at_weak (L' := [some (va_rf (t)), some (.int (a1)), some (.int (a2)), some (.int (0)), none]) (lw_s (lw_s (lw_s (lw_s (lw_n lw_0))))) ?_
            refine at_loopS (fun x69 σ => AT X m8_quarrel 69 [some (va_rf (t)), some (.int (a1)), some (.int (a2)), some (.int (x69)), none] [] σ) (fun y126 σ => AT X m8_quarrel 126 [none, none, none, none, none] [] σ) h (fun y126 σ h => ?_) (fun kx rec ih x69 σ h => ?_)
            · refine at_iconst (v := (-1)) ok dX8_quarrel_126 (by decide) ?_
              exact at_iret ok fn ⟨_, rfl, rfl⟩ dX8_quarrel_127 h
            · unfold l8_quarrel_69 at h
              refine at_iloadn ok dX8_quarrel_69 rfl ?_
              refine at_bipush (v := 10) ok dX8_quarrel_70 (by decide) ?_
              refine bt_icmp_ge (tgt := 126) ok dX8_quarrel_72 (by decide) h (fun hc h => ?_) (fun hc h => ?_)
              · exact at_weak (lw_n (lw_n (lw_n (lw_n (lw_n lw_0))))) (by have z := hr_inr h; exact kx () _ z)
              · refine at_iconst (v := 0) ok dX8_quarrel_75 (by decide) ?_
                refine at_istore ok dX8_quarrel_76 (lc_int rfl) (by decide) ?_
                refine at_weak (L' := [some (va_rf (t)), some (.int (a1)), some (.int (a2)), some (.int (x69)), some (.int (0))]) (lw_s (lw_s (lw_s (lw_s (lw_s lw_0))))) ?_
                refine at_loopS (fun x78 σ => AT X m8_quarrel 78 [some (va_rf (t)), some (.int (a1)), some (.int (a2)), some (.int (x69)), some (.int (x78))] [] σ) (fun y120 σ => AT X m8_quarrel 120 [some (va_rf (t)), some (.int (a1)), some (.int (a2)), some (.int (x69)), none] [] σ) h (fun y120 σ h => ?_) (fun kx rec ih x78 σ h => ?_)
                · refine at_iinc (v := x69 + 1) ok dX8_quarrel_120 rfl rfl (lc_int rfl) (by decide) ?_
                  refine at_goto (tgt := 69) ok dX8_quarrel_123 (by decide) ?_
                  exact at_weak (lw_s (lw_s (lw_s (lw_s (lw_n lw_0))))) (ih (x69 + 1) _ h)
                · unfold l8_quarrel_78 at h
                  refine at_iload ok dX8_quarrel_78 rfl ?_
                  refine at_iconst (v := 3) ok dX8_quarrel_80 (by decide) ?_
                  refine bt_icmp_ge (tgt := 120) ok dX8_quarrel_81 (by decide) h (fun hc h => ?_) (fun hc h => ?_)
                  · exact at_weak (lw_s (lw_s (lw_s (lw_s (lw_n lw_0))))) (by have z := hr_inr h; exact kx () _ z)
                  · refine at_aloadn ok dX8_quarrel_84 rfl ?_
                    refine at_iloadn ok dX8_quarrel_85 rfl ?_
                    refine at_iloadn ok dX8_quarrel_86 rfl ?_
                    refine at_iload ok dX8_quarrel_87 rfl ?_
                    refine at_cVi (As := [.int (a1), .int (x69), .int (x78)]) ok ct_8_quarrel_270 dX8_quarrel_89 (by simp [cat_rf, cat_i, cat_l]) (s8_isFor t a1 x69 x78 _) h fun v89 σ h => ?_
                    refine bt_if_eq (tgt := 114) ok dX8_quarrel_92 (by decide) h (fun hc h => ?_) (fun hc h => ?_)
                    · refine at_iinc (v := x78 + 1) ok dX8_quarrel_114 rfl rfl (lc_int rfl) (by decide) ?_
                      refine at_goto (tgt := 78) ok dX8_quarrel_117 (by decide) ?_
                      exact at_weak (lw_s (lw_s (lw_s (lw_s (lw_s lw_0))))) (ih (x78 + 1) _ h)
                    · refine at_aloadn ok dX8_quarrel_95 rfl ?_
                      refine at_iloadn ok dX8_quarrel_96 rfl ?_
                      refine at_iloadn ok dX8_quarrel_97 rfl ?_
                      refine at_iload ok dX8_quarrel_98 rfl ?_
                      refine at_cVi (As := [.int (a2), .int (x69), .int (x78)]) ok ct_8_quarrel_270 dX8_quarrel_100 (by simp [cat_rf, cat_i, cat_l]) (s8_isFor t a2 x69 x78 _) h fun v100 σ h => ?_
                      refine bt_if_eq (tgt := 114) ok dX8_quarrel_103 (by decide) h (fun hc h => ?_) (fun hc h => ?_)
                      · refine at_iinc (v := x78 + 1) ok dX8_quarrel_114 rfl rfl (lc_int rfl) (by decide) ?_
                        refine at_goto (tgt := 78) ok dX8_quarrel_117 (by decide) ?_
                        exact at_weak (lw_s (lw_s (lw_s (lw_s (lw_s lw_0))))) (ih (x78 + 1) _ h)
                      · refine at_bipush (v := 10) ok dX8_quarrel_106 (by decide) ?_
                        refine at_iloadn ok dX8_quarrel_108 rfl ?_
                        refine at_imul ok dX8_quarrel_109 ?_
                        refine at_iload ok dX8_quarrel_110 rfl ?_
                        refine at_iadd ok dX8_quarrel_112 ?_
                        exact at_iret ok fn ⟨_, rfl, rfl⟩ dX8_quarrel_113 (hr_inl (hr_inl h))
        · refine at_iconst (v := (-1)) ok dX8_quarrel_65 (by decide) ?_
          exact at_iret ok fn ⟨_, rfl, rfl⟩ dX8_quarrel_66 h
set_option maxRecDepth 100000 in
set_option maxHeartbeats 4000000 in
theorem s8_rule (t : Option Nat) (a1 : Int32) (a2 : Int32) (a3 : Int32) (a4 : Int32) (a5 : Int32) (σ : AH) (Q : Int32 → AH → Prop) (h : Hr (f8_rule t a1 a2 a3 a4 a5) σ Q) : Runs m8_rule σ [va_rf t, .int (a1), .int (a2), .int (a3), .int (a4), .int (a5)] (fun v σ1 => ∃ a, v = some (.int a) ∧ Q a σ1) := by
  obtain ⟨a0, σ1, e, hQ⟩ := h
  have hm := n8_rule t a1 a2 a3 a4 a5 σ a0 σ1 e
  have h : Hr (f8_rule t a1 a2 a3 a4 a5) σ (fun a σ2 => a = a0 ∧ σ2 = σ1) := ⟨a0, σ1, e, rfl, rfl⟩
  refine ⟨_, σ1, hm, ⟨a0, rfl, hQ⟩, runs_of (by decide +kernel) (by simp [cat_rf, cat_i, cat_l]) (Nat.le_of_ble_eq_true rfl) hm fun X ok fn => ?_⟩
  clear e hQ hm
  unfold f8_rule at h
  show AT X m8_rule 0 [some (va_rf (t)), some (.int (a1)), some (.int (a2)), some (.int (a3)), some (.int (a4)), some (.int (a5))] [] σ
  refine at_aloadn ok dX8_rule_0 rfl ?_
  refine at_iloadn ok dX8_rule_1 rfl ?_
  refine at_iloadn ok dX8_rule_2 rfl ?_
  refine at_iloadn ok dX8_rule_3 rfl ?_
  refine at_iload ok dX8_rule_4 rfl ?_
  refine at_iload ok dX8_rule_6 rfl ?_
  refine at_cVi (As := [.int (a1), .int (a2), .int (a3), .int (a4), .int (a5)]) ok ct_8_rule_235 dX8_rule_8 (by simp [cat_rf, cat_i, cat_l]) (s8_isRule t a1 a2 a3 a4 a5 _) h fun v8 σ h => ?_
  refine bt_if_eq (tgt := 23) ok dX8_rule_11 (by decide) h (fun hc h => ?_) (fun hc h => ?_)
  · refine at_iconst (v := (-1)) ok dX8_rule_23 (by decide) ?_
    exact at_iret ok fn ⟨_, rfl, rfl⟩ dX8_rule_24 h
  · refine at_aloadn ok dX8_rule_14 rfl ?_
    refine at_getI ok gf_8_232 dX8_rule_15 h fun v15 h => ?_
    refine at_bipush (v := 20) ok dX8_rule_18 (by decide) ?_
    refine bt_icmp_ne (tgt := 25) ok dX8_rule_20 (by decide) h (fun hc h => ?_) (fun hc h => ?_)
    · refine at_iconst (v := (-1)) ok dX8_rule_23 (by decide) ?_
      exact at_iret ok fn ⟨_, rfl, rfl⟩ dX8_rule_24 h
    · refine at_aloadn ok dX8_rule_25 rfl ?_
      refine at_iloadn ok dX8_rule_26 rfl ?_
      refine at_iloadn ok dX8_rule_27 rfl ?_
      refine at_iloadn ok dX8_rule_28 rfl ?_
      refine at_iload ok dX8_rule_29 rfl ?_
      refine at_iload ok dX8_rule_31 rfl ?_
      refine at_cVv (As := [.int (a1), .int (a2), .int (a3), .int (a4), .int (a5)]) ok ct_8_rule_239 dX8_rule_33 (by simp [cat_rf, cat_i, cat_l]) (s8_insert t a1 a2 a3 a4 a5 _) h fun v33 σ h => ?_
      refine at_aloadn ok dX8_rule_36 rfl ?_
      refine at_getI ok gf_8_232 dX8_rule_37 h fun v37 h => ?_
      exact at_iret ok fn ⟨_, rfl, rfl⟩ dX8_rule_40 h
set_option maxRecDepth 100000 in
set_option maxHeartbeats 4000000 in
theorem s8_send (t : Option Nat) (a1 : Int32) (a2 : Int32) (a3 : Int32) (σ : AH) (Q : Int32 → AH → Prop) (h : Hr (f8_send t a1 a2 a3) σ Q) : Runs m8_send σ [va_rf t, .int (a1), .int (a2), .int (a3)] (fun v σ1 => ∃ a, v = some (.int a) ∧ Q a σ1) := by
  obtain ⟨a0, σ1, e, hQ⟩ := h
  have hm := n8_send t a1 a2 a3 σ a0 σ1 e
  have h : Hr (f8_send t a1 a2 a3) σ (fun a σ2 => a = a0 ∧ σ2 = σ1) := ⟨a0, σ1, e, rfl, rfl⟩
  refine ⟨_, σ1, hm, ⟨a0, rfl, hQ⟩, runs_of (by decide +kernel) (by simp [cat_rf, cat_i, cat_l]) (Nat.le_of_ble_eq_true rfl) hm fun X ok fn => ?_⟩
  clear e hQ hm
  unfold f8_send at h
  show AT X m8_send 0 [some (va_rf (t)), some (.int (a1)), some (.int (a2)), some (.int (a3)), none, none] [] σ
  refine at_iloadn ok dX8_send_0 rfl ?_
  refine at_iconst (v := 0) ok dX8_send_1 (by decide) ?_
  refine at_bipush (v := 9) ok dX8_send_2 (by decide) ?_
  refine at_cSi (As := [.int (a1), .int (0), .int (9)]) ok ct_8_send_128 dX8_send_4 (by simp [cat_rf, cat_i, cat_l]) (s8_in a1 0 9 _) h fun v4 σ h => ?_
  refine bt_if_eq (tgt := 38) ok dX8_send_7 (by decide) h (fun hc h => ?_) (fun hc h => ?_)
  · refine at_iconst (v := (-1)) ok dX8_send_38 (by decide) ?_
    exact at_iret ok fn ⟨_, rfl, rfl⟩ dX8_send_39 h
  · refine at_iloadn ok dX8_send_10 rfl ?_
    refine at_iconst (v := 0) ok dX8_send_11 (by decide) ?_
    refine at_bipush (v := 9) ok dX8_send_12 (by decide) ?_
    refine at_cSi (As := [.int (a2), .int (0), .int (9)]) ok ct_8_send_128 dX8_send_14 (by simp [cat_rf, cat_i, cat_l]) (s8_in a2 0 9 _) h fun v14 σ h => ?_
    refine bt_if_eq (tgt := 38) ok dX8_send_17 (by decide) h (fun hc h => ?_) (fun hc h => ?_)
    · refine at_iconst (v := (-1)) ok dX8_send_38 (by decide) ?_
      exact at_iret ok fn ⟨_, rfl, rfl⟩ dX8_send_39 h
    · refine at_iloadn ok dX8_send_20 rfl ?_
      refine at_iconst (v := 0) ok dX8_send_21 (by decide) ?_
      refine at_iconst (v := 2) ok dX8_send_22 (by decide) ?_
      refine at_cSi (As := [.int (a3), .int (0), .int (2)]) ok ct_8_send_128 dX8_send_23 (by simp [cat_rf, cat_i, cat_l]) (s8_in a3 0 2 _) h fun v23 σ h => ?_
      refine bt_if_eq (tgt := 38) ok dX8_send_26 (by decide) h (fun hc h => ?_) (fun hc h => ?_)
      · refine at_iconst (v := (-1)) ok dX8_send_38 (by decide) ?_
        exact at_iret ok fn ⟨_, rfl, rfl⟩ dX8_send_39 h
      · refine at_aloadn ok dX8_send_29 rfl ?_
        refine at_getI ok gf_8_249 dX8_send_30 h fun v30 h => ?_
        refine at_bipush (v := 60) ok dX8_send_33 (by decide) ?_
        refine bt_icmp_ne (tgt := 40) ok dX8_send_35 (by decide) h (fun hc h => ?_) (fun hc h => ?_)
        · refine at_iconst (v := (-1)) ok dX8_send_38 (by decide) ?_
          exact at_iret ok fn ⟨_, rfl, rfl⟩ dX8_send_39 h
        · refine at_aloadn ok dX8_send_40 rfl ?_
          refine at_getI ok gf_8_249 dX8_send_41 h fun v41 h => ?_
          refine at_istore ok dX8_send_44 (lc_int rfl) (by decide) ?_
          refine at_aloadn ok dX8_send_46 rfl ?_
          refine at_dup ok dX8_send_47 (cat_rf _) ?_
          refine at_getI ok gf_8_249 dX8_send_48 h fun v48 h => ?_
          refine at_iconst (v := 1) ok dX8_send_51 (by decide) ?_
          refine at_iadd ok dX8_send_52 ?_
          refine at_putI ok (pf_8_249 _) dX8_send_53 h fun σ h => ?_
          refine at_iconst (v := 0) ok dX8_send_56 (by decide) ?_
          refine at_istore ok dX8_send_57 (lc_int rfl) (by decide) ?_
          refine at_weak (L' := [some (va_rf (t)), some (.int (a1)), some (.int (a2)), some (.int (a3)), some (.int (v41)), some (.int (0))]) (lw_s (lw_s (lw_s (lw_s (lw_s (lw_s lw_0)))))) ?_
          refine at_loop (fun x59 σ => AT X m8_send 59 [some (va_rf (t)), some (.int (a1)), some (.int (a2)), some (.int (a3)), some (.int (v41)), some (.int (x59))] [] σ) (fun y95 σ => AT X m8_send 95 [some (va_rf (t)), some (.int (a1)), some (.int (a2)), some (.int (a3)), some (.int (v41)), none] [] σ) h (fun y95 σ h => ?_) (fun kx rec ih x59 σ h => ?_)
          · refine at_aloadn ok dX8_send_95 rfl ?_
            refine at_getR ok gf_8_77 dX8_send_96 h fun v96 h => ?_
            refine at_iload ok dX8_send_99 rfl ?_
            refine at_aloadn ok dX8_send_101 rfl ?_
            refine at_getI ok gf_8_140 dX8_send_102 h fun v102 h => ?_
            refine at_iast ok dX8_send_105 h fun σ h => ?_
            refine at_aloadn ok dX8_send_106 rfl ?_
            refine at_iconst (v := 0) ok dX8_send_107 (by decide) ?_
            refine at_putI ok (pf_8_140 _) dX8_send_108 h fun σ h => ?_
            refine at_aloadn ok dX8_send_111 rfl ?_
            refine at_getR ok gf_8_80 dX8_send_112 h fun v112 h => ?_
            refine at_iload ok dX8_send_115 rfl ?_
            refine at_iloadn ok dX8_send_117 rfl ?_
            refine at_iast ok dX8_send_118 h fun σ h => ?_
            refine at_aloadn ok dX8_send_119 rfl ?_
            refine at_getR ok gf_8_83 dX8_send_120 h fun v120 h => ?_
            refine at_iload ok dX8_send_123 rfl ?_
            refine at_iloadn ok dX8_send_125 rfl ?_
            refine at_iast ok dX8_send_126 h fun σ h => ?_
            refine at_aloadn ok dX8_send_127 rfl ?_
            refine at_getR ok gf_8_86 dX8_send_128 h fun v128 h => ?_
            refine at_iload ok dX8_send_131 rfl ?_
            refine at_iloadn ok dX8_send_133 rfl ?_
            refine at_iast ok dX8_send_134 h fun σ h => ?_
            refine at_aloadn ok dX8_send_135 rfl ?_
            refine at_getR ok gf_8_89 dX8_send_136 h fun v136 h => ?_
            refine at_iload ok dX8_send_139 rfl ?_
            refine at_aloadn ok dX8_send_141 rfl ?_
            refine at_getI ok gf_8_132 dX8_send_142 h fun v142 h => ?_
            refine at_iast ok dX8_send_145 h fun σ h => ?_
            refine at_aloadn ok dX8_send_146 rfl ?_
            refine at_iload ok dX8_send_147 rfl ?_
            refine at_cVv (As := [.int (v41)]) ok ct_8_send_217 dX8_send_149 (by simp [cat_rf, cat_i, cat_l]) (s8_readLetter t v41 _) h fun v149 σ h => ?_
            refine at_aloadn ok dX8_send_152 rfl ?_
            refine at_iload ok dX8_send_153 rfl ?_
            refine at_cVi (As := [.int (v41)]) ok ct_8_send_252 dX8_send_155 (by simp [cat_rf, cat_i, cat_l]) (s8_ruleFor t v41 _) h fun v155 σ h => ?_
            refine at_istore ok dX8_send_158 (lc_int rfl) (by decide) ?_
            refine at_aloadn ok dX8_send_160 rfl ?_
            refine at_getR ok gf_8_92 dX8_send_161 h fun v161 h => ?_
            refine at_iload ok dX8_send_164 rfl ?_
            refine at_iload ok dX8_send_166 rfl ?_
            refine at_iconst (v := (-1)) ok dX8_send_168 (by decide) ?_
            refine at_join (fun y183 σ => AT X m8_send 183 [some (va_rf (t)), none, none, none, some (.int (v41)), some (.int (v155))] [.int (y183), .int (v41), va_rf (v161)] σ) h (fun y183 σ h => ?_) (fun h j183 => ?_)
            · refine at_iast ok dX8_send_183 h fun σ h => ?_
              refine at_aloadn ok dX8_send_184 rfl ?_
              refine at_getR ok gf_8_95 dX8_send_185 h fun v185 h => ?_
              refine at_iload ok dX8_send_188 rfl ?_
              refine at_iload ok dX8_send_190 rfl ?_
              refine at_iconst (v := (-1)) ok dX8_send_192 (by decide) ?_
              refine at_join (fun y207 σ => AT X m8_send 207 [some (va_rf (t)), none, none, none, some (.int (v41)), some (.int (v155))] [.int (y207), .int (v41), va_rf (v185)] σ) h (fun y207 σ h => ?_) (fun h j207 => ?_)
              · refine at_iast ok dX8_send_207 h fun σ h => ?_
                refine at_aloadn ok dX8_send_208 rfl ?_
                refine at_getR ok gf_8_98 dX8_send_209 h fun v209 h => ?_
                refine at_iload ok dX8_send_212 rfl ?_
                refine at_aloadn ok dX8_send_214 rfl ?_
                refine at_getR ok gf_8_92 dX8_send_215 h fun v215 h => ?_
                refine at_iload ok dX8_send_218 rfl ?_
                refine at_iald ok dX8_send_220 h fun v220 h => ?_
                refine at_iconst (v := 2) ok dX8_send_221 (by decide) ?_
                refine at_join (fun y230 σ => AT X m8_send 230 [some (va_rf (t)), none, none, none, some (.int (v41)), some (.int (v155))] [.int (y230), .int (v41), va_rf (v209)] σ) h (fun y230 σ h => ?_) (fun h j230 => ?_)
                · refine at_iast ok dX8_send_230 h fun σ h => ?_
                  refine at_aloadn ok dX8_send_231 rfl ?_
                  refine at_getR ok gf_8_101 dX8_send_232 h fun v232 h => ?_
                  refine at_iload ok dX8_send_235 rfl ?_
                  refine at_aloadn ok dX8_send_237 rfl ?_
                  refine at_getI ok gf_8_193 dX8_send_238 h fun v238 h => ?_
                  refine at_iast ok dX8_send_241 h fun σ h => ?_
                  refine at_aloadn ok dX8_send_242 rfl ?_
                  refine at_getR ok gf_8_104 dX8_send_243 h fun v243 h => ?_
                  refine at_iload ok dX8_send_246 rfl ?_
                  refine at_iload ok dX8_send_248 rfl ?_
                  refine at_iconst (v := (-1)) ok dX8_send_250 (by decide) ?_
                  refine bt_icmp_ne (tgt := 258) ok dX8_send_251 (by decide) h (fun hc h => ?_) (fun hc h => ?_)
                  · refine at_iconst (v := 0) ok dX8_send_254 (by decide) ?_
                    refine at_goto (tgt := 272) ok dX8_send_255 (by decide) ?_
                    refine at_iast ok dX8_send_272 h fun σ h => ?_
                    refine at_iload ok dX8_send_273 rfl ?_
                    exact at_iret ok fn ⟨_, rfl, rfl⟩ dX8_send_275 h
                  · refine at_aloadn ok dX8_send_258 rfl ?_
                    refine at_aloadn ok dX8_send_259 rfl ?_
                    refine at_getR ok gf_8_122 dX8_send_260 h fun v260 h => ?_
                    refine at_iload ok dX8_send_263 rfl ?_
                    refine at_iald ok dX8_send_265 h fun v265 h => ?_
                    refine at_iload ok dX8_send_266 rfl ?_
                    refine at_iconst (v := 1) ok dX8_send_268 (by decide) ?_
                    refine at_cVi (As := [.int (v265), .int (v41), .int (1)]) ok ct_8_send_228 dX8_send_269 (by simp [cat_rf, cat_i, cat_l]) (s8_find t v265 v41 1 _) h fun v269 σ h => ?_
                    refine at_iast ok dX8_send_272 h fun σ h => ?_
                    refine at_iload ok dX8_send_273 rfl ?_
                    exact at_iret ok fn ⟨_, rfl, rfl⟩ dX8_send_275 h
                · refine bt_icmp_le (tgt := 229) ok dX8_send_222 (by decide) h (fun hc h => ?_) (fun hc h => ?_)
                  · refine at_iconst (v := 0) ok dX8_send_229 (by decide) ?_
                    exact at_weak (lw_s (lw_n (lw_n (lw_n (lw_s (lw_s lw_0)))))) (j230 0 _ (hr_rt.mp h))
                  · refine at_iconst (v := 1) ok dX8_send_225 (by decide) ?_
                    refine at_goto (tgt := 230) ok dX8_send_226 (by decide) ?_
                    exact at_weak (lw_s (lw_n (lw_n (lw_n (lw_s (lw_s lw_0)))))) (j230 1 _ (hr_rt.mp h))
              · refine bt_icmp_ne (tgt := 200) ok dX8_send_193 (by decide) h (fun hc h => ?_) (fun hc h => ?_)
                · refine at_iconst (v := (-1)) ok dX8_send_196 (by decide) ?_
                  refine at_goto (tgt := 207) ok dX8_send_197 (by decide) ?_
                  exact at_weak (lw_s (lw_n (lw_n (lw_n (lw_s (lw_s lw_0)))))) (j207 (-1) _ (hr_rt.mp h))
                · refine at_aloadn ok dX8_send_200 rfl ?_
                  refine at_getR ok gf_8_122 dX8_send_201 h fun v201 h => ?_
                  refine at_iload ok dX8_send_204 rfl ?_
                  refine at_iald ok dX8_send_206 h fun v206 h => ?_
                  exact at_weak (lw_s (lw_n (lw_n (lw_n (lw_s (lw_s lw_0)))))) (j207 v206 _ (hr_rt.mp h))
            · refine bt_icmp_ne (tgt := 176) ok dX8_send_169 (by decide) h (fun hc h => ?_) (fun hc h => ?_)
              · refine at_iconst (v := 0) ok dX8_send_172 (by decide) ?_
                refine at_goto (tgt := 183) ok dX8_send_173 (by decide) ?_
                exact at_weak (lw_s (lw_n (lw_n (lw_n (lw_s (lw_s lw_0)))))) (j183 0 _ (hr_rt.mp h))
              · refine at_aloadn ok dX8_send_176 rfl ?_
                refine at_getR ok gf_8_125 dX8_send_177 h fun v177 h => ?_
                refine at_iload ok dX8_send_180 rfl ?_
                refine at_iald ok dX8_send_182 h fun v182 h => ?_
                exact at_weak (lw_s (lw_n (lw_n (lw_n (lw_s (lw_s lw_0)))))) (j183 v182 _ (hr_rt.mp h))
          · unfold l8_send_59 at h
            refine at_iload ok dX8_send_59 rfl ?_
            refine at_aloadn ok dX8_send_61 rfl ?_
            refine at_getI ok gf_8_140 dX8_send_62 h fun v62 h => ?_
            refine bt_icmp_ge (tgt := 95) ok dX8_send_65 (by decide) h (fun hc h => ?_) (fun hc h => ?_)
            · exact at_weak (lw_s (lw_s (lw_s (lw_s (lw_s (lw_n lw_0)))))) (kx () _ (hr_rt.mp h))
            · refine at_aloadn ok dX8_send_68 rfl ?_
              refine at_getR ok gf_8_74 dX8_send_69 h fun v69 h => ?_
              refine at_sipush (v := 300) ok dX8_send_72 (by decide) ?_
              refine at_iload ok dX8_send_75 rfl ?_
              refine at_imul ok dX8_send_77 ?_
              refine at_iload ok dX8_send_78 rfl ?_
              refine at_iadd ok dX8_send_80 ?_
              refine at_aloadn ok dX8_send_81 rfl ?_
              refine at_getR ok gf_8_9 dX8_send_82 h fun v82 h => ?_
              refine at_iload ok dX8_send_85 rfl ?_
              refine at_iald ok dX8_send_87 h fun v87 h => ?_
              refine at_iast ok dX8_send_88 h fun σ h => ?_
              refine at_iinc (v := x59 + 1) ok dX8_send_89 rfl rfl (lc_int rfl) (by decide) ?_
              refine at_goto (tgt := 59) ok dX8_send_92 (by decide) ?_
              exact at_weak (lw_s (lw_s (lw_s (lw_s (lw_s (lw_s lw_0)))))) (ih (x59 + 1) _ h)
set_option maxRecDepth 100000 in
set_option maxHeartbeats 4000000 in
theorem s8_state (t : Option Nat) (a1 : Int32) (σ : AH) (Q : Int32 → AH → Prop) (h : Hr (f8_state t a1) σ Q) : Runs m8_state σ [va_rf t, .int (a1)] (fun v σ1 => ∃ a, v = some (.int a) ∧ Q a σ1) := by
  obtain ⟨a0, σ1, e, hQ⟩ := h
  have hm := n8_state t a1 σ a0 σ1 e
  have h : Hr (f8_state t a1) σ (fun a σ2 => a = a0 ∧ σ2 = σ1) := ⟨a0, σ1, e, rfl, rfl⟩
  refine ⟨_, σ1, hm, ⟨a0, rfl, hQ⟩, runs_of (by decide +kernel) (by simp [cat_rf, cat_i, cat_l]) (Nat.le_of_ble_eq_true rfl) hm fun X ok fn => ?_⟩
  clear e hQ hm
  unfold f8_state at h
  show AT X m8_state 0 [some (va_rf (t)), some (.int (a1)), none, none, none, none] [] σ
  refine at_iconst (v := 0) ok dX8_state_0 (by decide) ?_
  refine at_istoren ok dX8_state_1 rfl (lc_int rfl) (by decide) ?_
  refine at_iconst (v := 0) ok dX8_state_2 (by decide) ?_
  refine at_istoren ok dX8_state_3 rfl (lc_int rfl) (by decide) ?_
  refine at_iconst (v := 0) ok dX8_state_4 (by decide) ?_
  refine at_istore ok dX8_state_5 (lc_int rfl) (by decide) ?_
  refine at_iconst (v := 0) ok dX8_state_7 (by decide) ?_
  refine at_istore ok dX8_state_8 (lc_int rfl) (by decide) ?_
  refine at_weak (L' := [some (va_rf (t)), some (.int (a1)), some (.int (0)), some (.int (0)), some (.int (0)), some (.int (0))]) (lw_s (lw_s (lw_s (lw_s (lw_s (lw_s lw_0)))))) ?_
  refine at_loop (fun x10 σ => AT X m8_state 10 [some (va_rf (t)), some (.int (a1)), some (.int (x10.1)), some (.int (x10.2.1)), some (.int (x10.2.2.1)), some (.int (x10.2.2.2))] [] σ) (fun y84 σ => AT X m8_state 84 [some (va_rf (t)), some (.int (a1)), some (.int (y84.1)), some (.int (y84.2.1)), some (.int (y84.2.2)), none] [] σ) h (fun y84 σ h => ?_) (fun kx rec ih x10 σ h => ?_)
  · obtain ⟨y84_1, y84_2, y84_3⟩ := y84
    dsimp only at h ⊢
    refine at_iloadn ok dX8_state_84 rfl ?_
    refine at_ite h (fun hc0 h => ?_) (fun hc0 h => ?_)
    · refine at_tsw (tgt := 128) ok dX8_state_85 (tsw_in hc0 (by decide) rfl (by decide)) ?_
      refine at_aloadn ok dX8_state_128 rfl ?_
      refine at_getI ok gf_8_132 dX8_state_129 h fun v129 h => ?_
      exact at_iret ok fn ⟨_, rfl, rfl⟩ dX8_state_132 h
    · refine at_ite h (fun hc1 h => ?_) (fun hc1 h => ?_)
      · refine at_tsw (tgt := 133) ok dX8_state_85 (tsw_in hc1 (by decide) rfl (by decide)) ?_
        refine at_aloadn ok dX8_state_133 rfl ?_
        refine at_getI ok gf_8_249 dX8_state_134 h fun v134 h => ?_
        exact at_iret ok fn ⟨_, rfl, rfl⟩ dX8_state_137 h
      · refine at_ite h (fun hc2 h => ?_) (fun hc2 h => ?_)
        · refine at_tsw (tgt := 138) ok dX8_state_85 (tsw_in hc2 (by decide) rfl (by decide)) ?_
          refine at_aloadn ok dX8_state_138 rfl ?_
          refine at_getI ok gf_8_232 dX8_state_139 h fun v139 h => ?_
          exact at_iret ok fn ⟨_, rfl, rfl⟩ dX8_state_142 h
        · refine at_ite h (fun hc3 h => ?_) (fun hc3 h => ?_)
          · refine at_tsw (tgt := 143) ok dX8_state_85 (tsw_in hc3 (by decide) rfl (by decide)) ?_
            refine at_aloadn ok dX8_state_143 rfl ?_
            refine at_getI ok gf_8_140 dX8_state_144 h fun v144 h => ?_
            exact at_iret ok fn ⟨_, rfl, rfl⟩ dX8_state_147 h
          · refine at_ite h (fun hc4 h => ?_) (fun hc4 h => ?_)
            · refine at_tsw (tgt := 148) ok dX8_state_85 (tsw_in hc4 (by decide) rfl (by decide)) ?_
              refine at_iloadn ok dX8_state_148 rfl ?_
              exact at_iret ok fn ⟨_, rfl, rfl⟩ dX8_state_149 h
            · refine at_ite h (fun hc5 h => ?_) (fun hc5 h => ?_)
              · refine at_tsw (tgt := 150) ok dX8_state_85 (tsw_in hc5 (by decide) rfl (by decide)) ?_
                refine at_iloadn ok dX8_state_150 rfl ?_
                exact at_iret ok fn ⟨_, rfl, rfl⟩ dX8_state_151 h
              · refine at_ite h (fun hc6 h => ?_) (fun hc6 h => ?_)
                · refine at_tsw (tgt := 152) ok dX8_state_85 (tsw_in hc6 (by decide) rfl (by decide)) ?_
                  refine at_iload ok dX8_state_152 rfl ?_
                  exact at_iret ok fn ⟨_, rfl, rfl⟩ dX8_state_154 h
                · refine at_tsw (tgt := 155) ok dX8_state_85 (tsw_out (by have i0 := i32_ne (k := 0) (by decide) hc0; have i1 := i32_ne (k := 1) (by decide) hc1; have i2 := i32_ne (k := 2) (by decide) hc2; have i3 := i32_ne (k := 3) (by decide) hc3; have i4 := i32_ne (k := 4) (by decide) hc4; have i5 := i32_ne (k := 5) (by decide) hc5; have i6 := i32_ne (k := 6) (by decide) hc6; omega) (by decide)) ?_
                  refine at_iconst (v := (-1)) ok dX8_state_155 (by decide) ?_
                  exact at_iret ok fn ⟨_, rfl, rfl⟩ dX8_state_156 h
  · unfold l8_state_10 at h
    obtain ⟨x10_1, x10_2, x10_3, x10_4⟩ := x10
    dsimp only at h ⊢
    refine at_iload ok dX8_state_10 rfl ?_
    refine at_aloadn ok dX8_state_12 rfl ?_
    refine at_getI ok gf_8_249 dX8_state_13 h fun v13 h => ?_
    refine bt_icmp_ge (tgt := 84) ok dX8_state_16 (by decide) h (fun hc h => ?_) (fun hc h => ?_)
    · exact at_weak (lw_s (lw_s (lw_s (lw_s (lw_s (lw_n lw_0)))))) (by have q := kx (x10_1, x10_2, x10_3) _ (hr_rt.mp h); dsimp only at q; exact q)
    · refine at_iloadn ok dX8_state_19 rfl ?_
      refine at_aloadn ok dX8_state_20 rfl ?_
      refine at_getR ok gf_8_98 dX8_state_21 h fun v21 h => ?_
      refine at_iload ok dX8_state_24 rfl ?_
      refine at_iald ok dX8_state_26 h fun v26 h => ?_
      refine at_iconst (v := 1) ok dX8_state_27 (by decide) ?_
      refine at_join (fun y36 σ => AT X m8_state 36 [some (va_rf (t)), some (.int (a1)), none, some (.int (x10_2)), some (.int (x10_3)), some (.int (x10_4))] [.int (y36), .int (x10_1)] σ) h (fun y36 σ h => ?_) (fun h j36 => ?_)
      · refine at_iadd ok dX8_state_36 ?_
        refine at_istoren ok dX8_state_37 rfl (lc_int rfl) (by decide) ?_
        refine at_iloadn ok dX8_state_38 rfl ?_
        refine at_aloadn ok dX8_state_39 rfl ?_
        refine at_getR ok gf_8_92 dX8_state_40 h fun v40 h => ?_
        refine at_iload ok dX8_state_43 rfl ?_
        refine at_iald ok dX8_state_45 h fun v45 h => ?_
        refine at_iconst (v := 1) ok dX8_state_46 (by decide) ?_
        refine at_join (fun y55 σ => AT X m8_state 55 [some (va_rf (t)), some (.int (a1)), some (.int ((x10_1 + y36))), none, some (.int (x10_3)), some (.int (x10_4))] [.int (y55), .int (x10_2)] σ) h (fun y55 σ h => ?_) (fun h j55 => ?_)
        · refine at_iadd ok dX8_state_55 ?_
          refine at_istoren ok dX8_state_56 rfl (lc_int rfl) (by decide) ?_
          refine at_iload ok dX8_state_57 rfl ?_
          refine at_aloadn ok dX8_state_59 rfl ?_
          refine at_getR ok gf_8_98 dX8_state_60 h fun v60 h => ?_
          refine at_iload ok dX8_state_63 rfl ?_
          refine at_iald ok dX8_state_65 h fun v65 h => ?_
          refine at_iconst (v := 2) ok dX8_state_66 (by decide) ?_
          refine bt_icmp_ne (tgt := 74) ok dX8_state_67 (by decide) h (fun hc h => ?_) (fun hc h => ?_)
          · refine at_iconst (v := 1) ok dX8_state_70 (by decide) ?_
            refine at_goto (tgt := 75) ok dX8_state_71 (by decide) ?_
            refine at_iadd ok dX8_state_75 ?_
            refine at_istore ok dX8_state_76 (lc_int rfl) (by decide) ?_
            refine at_iinc (v := x10_4 + 1) ok dX8_state_78 rfl rfl (lc_int rfl) (by decide) ?_
            refine at_goto (tgt := 10) ok dX8_state_81 (by decide) ?_
            exact at_weak (lw_s (lw_s (lw_s (lw_s (lw_s (lw_s lw_0)))))) (by have q := ih ((x10_1 + y36), (x10_2 + y55), (x10_3 + 1), (x10_4 + 1)) _ h; dsimp only at q; exact q)
          · refine at_iconst (v := 0) ok dX8_state_74 (by decide) ?_
            refine at_iadd ok dX8_state_75 ?_
            refine at_istore ok dX8_state_76 (lc_int rfl) (by decide) ?_
            refine at_iinc (v := x10_4 + 1) ok dX8_state_78 rfl rfl (lc_int rfl) (by decide) ?_
            refine at_goto (tgt := 10) ok dX8_state_81 (by decide) ?_
            exact at_weak (lw_s (lw_s (lw_s (lw_s (lw_s (lw_s lw_0)))))) (by have q := ih ((x10_1 + y36), (x10_2 + y55), (x10_3 + 0), (x10_4 + 1)) _ h; dsimp only at q; exact q)
        · refine bt_icmp_ne (tgt := 54) ok dX8_state_47 (by decide) h (fun hc h => ?_) (fun hc h => ?_)
          · refine at_iconst (v := 1) ok dX8_state_50 (by decide) ?_
            refine at_goto (tgt := 55) ok dX8_state_51 (by decide) ?_
            exact at_weak (lw_s (lw_s (lw_s (lw_n (lw_s (lw_s lw_0)))))) (j55 1 _ (hr_rt.mp h))
          · refine at_iconst (v := 0) ok dX8_state_54 (by decide) ?_
            exact at_weak (lw_s (lw_s (lw_s (lw_n (lw_s (lw_s lw_0)))))) (j55 0 _ (hr_rt.mp h))
      · refine bt_icmp_ne (tgt := 35) ok dX8_state_28 (by decide) h (fun hc h => ?_) (fun hc h => ?_)
        · refine at_iconst (v := 1) ok dX8_state_31 (by decide) ?_
          refine at_goto (tgt := 36) ok dX8_state_32 (by decide) ?_
          exact at_weak (lw_s (lw_s (lw_n (lw_s (lw_s (lw_s lw_0)))))) (j36 1 _ (hr_rt.mp h))
        · refine at_iconst (v := 0) ok dX8_state_35 (by decide) ?_
          exact at_weak (lw_s (lw_s (lw_n (lw_s (lw_s (lw_s lw_0)))))) (j36 0 _ (hr_rt.mp h))
set_option maxRecDepth 100000 in
set_option maxHeartbeats 4000000 in
theorem s8_told (t : Option Nat) (a1 : Int32) (a2 : Int32) (σ : AH) (Q : Int32 → AH → Prop) (h : Hr (f8_told t a1 a2) σ Q) : Runs m8_told σ [va_rf t, .int (a1), .int (a2)] (fun v σ1 => ∃ a, v = some (.int a) ∧ Q a σ1) := by
  obtain ⟨a0, σ1, e, hQ⟩ := h
  have hm := n8_told t a1 a2 σ a0 σ1 e
  have h : Hr (f8_told t a1 a2) σ (fun a σ2 => a = a0 ∧ σ2 = σ1) := ⟨a0, σ1, e, rfl, rfl⟩
  refine ⟨_, σ1, hm, ⟨a0, rfl, hQ⟩, runs_of (by decide +kernel) (by simp [cat_rf, cat_i, cat_l]) (Nat.le_of_ble_eq_true rfl) hm fun X ok fn => ?_⟩
  clear e hQ hm
  unfold f8_told at h
  show AT X m8_told 0 [some (va_rf (t)), some (.int (a1)), some (.int (a2))] [] σ
  refine at_aloadn ok dX8_told_0 rfl ?_
  refine at_iloadn ok dX8_told_1 rfl ?_
  refine at_cVi (As := [.int (a1)]) ok ct_8_told_255 dX8_told_2 (by simp [cat_rf, cat_i, cat_l]) (s8_isLetter t a1 _) h fun v2 σ h => ?_
  refine bt_if_ne (tgt := 10) ok dX8_told_5 (by decide) h (fun hc h => ?_) (fun hc h => ?_)
  · refine at_iconst (v := (-1)) ok dX8_told_8 (by decide) ?_
    exact at_iret ok fn ⟨_, rfl, rfl⟩ dX8_told_9 h
  · refine at_iloadn ok dX8_told_10 rfl ?_
    refine at_ite h (fun hc0 h => ?_) (fun hc0 h => ?_)
    · refine at_tsw (tgt := 60) ok dX8_told_11 (tsw_in hc0 (by decide) rfl (by decide)) ?_
      refine at_aloadn ok dX8_told_60 rfl ?_
      refine at_getR ok gf_8_80 dX8_told_61 h fun v61 h => ?_
      refine at_iloadn ok dX8_told_64 rfl ?_
      refine at_iald ok dX8_told_65 h fun v65 h => ?_
      exact at_iret ok fn ⟨_, rfl, rfl⟩ dX8_told_66 h
    · refine at_ite h (fun hc1 h => ?_) (fun hc1 h => ?_)
      · refine at_tsw (tgt := 67) ok dX8_told_11 (tsw_in hc1 (by decide) rfl (by decide)) ?_
        refine at_aloadn ok dX8_told_67 rfl ?_
        refine at_getR ok gf_8_83 dX8_told_68 h fun v68 h => ?_
        refine at_iloadn ok dX8_told_71 rfl ?_
        refine at_iald ok dX8_told_72 h fun v72 h => ?_
        exact at_iret ok fn ⟨_, rfl, rfl⟩ dX8_told_73 h
      · refine at_ite h (fun hc2 h => ?_) (fun hc2 h => ?_)
        · refine at_tsw (tgt := 74) ok dX8_told_11 (tsw_in hc2 (by decide) rfl (by decide)) ?_
          refine at_aloadn ok dX8_told_74 rfl ?_
          refine at_getR ok gf_8_86 dX8_told_75 h fun v75 h => ?_
          refine at_iloadn ok dX8_told_78 rfl ?_
          refine at_iald ok dX8_told_79 h fun v79 h => ?_
          exact at_iret ok fn ⟨_, rfl, rfl⟩ dX8_told_80 h
        · refine at_ite h (fun hc3 h => ?_) (fun hc3 h => ?_)
          · refine at_tsw (tgt := 81) ok dX8_told_11 (tsw_in hc3 (by decide) rfl (by decide)) ?_
            refine at_aloadn ok dX8_told_81 rfl ?_
            refine at_getR ok gf_8_89 dX8_told_82 h fun v82 h => ?_
            refine at_iloadn ok dX8_told_85 rfl ?_
            refine at_iald ok dX8_told_86 h fun v86 h => ?_
            exact at_iret ok fn ⟨_, rfl, rfl⟩ dX8_told_87 h
          · refine at_ite h (fun hc4 h => ?_) (fun hc4 h => ?_)
            · refine at_tsw (tgt := 88) ok dX8_told_11 (tsw_in hc4 (by decide) rfl (by decide)) ?_
              refine at_aloadn ok dX8_told_88 rfl ?_
              refine at_getR ok gf_8_92 dX8_told_89 h fun v89 h => ?_
              refine at_iloadn ok dX8_told_92 rfl ?_
              refine at_iald ok dX8_told_93 h fun v93 h => ?_
              exact at_iret ok fn ⟨_, rfl, rfl⟩ dX8_told_94 h
            · refine at_ite h (fun hc5 h => ?_) (fun hc5 h => ?_)
              · refine at_tsw (tgt := 95) ok dX8_told_11 (tsw_in hc5 (by decide) rfl (by decide)) ?_
                refine at_aloadn ok dX8_told_95 rfl ?_
                refine at_getR ok gf_8_95 dX8_told_96 h fun v96 h => ?_
                refine at_iloadn ok dX8_told_99 rfl ?_
                refine at_iald ok dX8_told_100 h fun v100 h => ?_
                exact at_iret ok fn ⟨_, rfl, rfl⟩ dX8_told_101 h
              · refine at_ite h (fun hc6 h => ?_) (fun hc6 h => ?_)
                · refine at_tsw (tgt := 102) ok dX8_told_11 (tsw_in hc6 (by decide) rfl (by decide)) ?_
                  refine at_aloadn ok dX8_told_102 rfl ?_
                  refine at_getR ok gf_8_98 dX8_told_103 h fun v103 h => ?_
                  refine at_iloadn ok dX8_told_106 rfl ?_
                  refine at_iald ok dX8_told_107 h fun v107 h => ?_
                  exact at_iret ok fn ⟨_, rfl, rfl⟩ dX8_told_108 h
                · refine at_ite h (fun hc7 h => ?_) (fun hc7 h => ?_)
                  · refine at_tsw (tgt := 109) ok dX8_told_11 (tsw_in hc7 (by decide) rfl (by decide)) ?_
                    refine at_aloadn ok dX8_told_109 rfl ?_
                    refine at_getR ok gf_8_77 dX8_told_110 h fun v110 h => ?_
                    refine at_iloadn ok dX8_told_113 rfl ?_
                    refine at_iald ok dX8_told_114 h fun v114 h => ?_
                    exact at_iret ok fn ⟨_, rfl, rfl⟩ dX8_told_115 h
                  · refine at_ite h (fun hc8 h => ?_) (fun hc8 h => ?_)
                    · refine at_tsw (tgt := 116) ok dX8_told_11 (tsw_in hc8 (by decide) rfl (by decide)) ?_
                      refine at_aloadn ok dX8_told_116 rfl ?_
                      refine at_getR ok gf_8_104 dX8_told_117 h fun v117 h => ?_
                      refine at_iloadn ok dX8_told_120 rfl ?_
                      refine at_iald ok dX8_told_121 h fun v121 h => ?_
                      exact at_iret ok fn ⟨_, rfl, rfl⟩ dX8_told_122 h
                    · refine at_tsw (tgt := 123) ok dX8_told_11 (tsw_out (by have i0 := i32_ne (k := 0) (by decide) hc0; have i1 := i32_ne (k := 1) (by decide) hc1; have i2 := i32_ne (k := 2) (by decide) hc2; have i3 := i32_ne (k := 3) (by decide) hc3; have i4 := i32_ne (k := 4) (by decide) hc4; have i5 := i32_ne (k := 5) (by decide) hc5; have i6 := i32_ne (k := 6) (by decide) hc6; have i7 := i32_ne (k := 7) (by decide) hc7; have i8 := i32_ne (k := 8) (by decide) hc8; omega) (by decide)) ?_
                      refine at_iconst (v := (-1)) ok dX8_told_123 (by decide) ?_
                      exact at_iret ok fn ⟨_, rfl, rfl⟩ dX8_told_124 h
