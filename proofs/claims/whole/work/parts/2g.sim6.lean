set_option maxRecDepth 100000 in
set_option maxHeartbeats 4000000 in
theorem s8_near (t : Option Nat) (a1 : Int32) (a2 : Int32) (a3 : Int32) (σ : AH) (Q : Int32 → AH → Prop) (h : Hr (f8_near t a1 a2 a3) σ Q) : Runs m8_near σ [va_rf t, .int (a1), .int (a2), .int (a3)] (fun v σ1 => ∃ a, v = some (.int a) ∧ Q a σ1) := by
  obtain ⟨a0, σ1, e, hQ⟩ := h
  have hm := n8_near t a1 a2 a3 σ a0 σ1 e
  have h : Hr (f8_near t a1 a2 a3) σ (fun a σ2 => a = a0 ∧ σ2 = σ1) := ⟨a0, σ1, e, rfl, rfl⟩
  refine ⟨_, σ1, hm, ⟨a0, rfl, hQ⟩, runs_of (by decide +kernel) (by simp [cat_rf, cat_i, cat_l]) (Nat.le_of_ble_eq_true rfl) hm fun X ok fn => ?_⟩
  clear e hQ hm
  unfold f8_near at h
  show AT X m8_near 0 [some (va_rf (t)), some (.int (a1)), some (.int (a2)), some (.int (a3))] [] σ
  refine at_iloadn ok dX8_near_0 rfl ?_
  refine at_iconst (v := 0) ok dX8_near_1 (by decide) ?_
  refine at_bipush (v := 7) ok dX8_near_2 (by decide) ?_
  refine at_cSi (As := [.int (a1), .int (0), .int (7)]) ok ct_8_near_128 dX8_near_4 (by simp [cat_rf, cat_i, cat_l]) (s8_in a1 0 7 _) h fun v4 σ h => ?_
  refine bt_if_eq (tgt := 30) ok dX8_near_7 (by decide) h (fun hc h => ?_) (fun hc h => ?_)
  · refine at_iconst (v := 0) ok dX8_near_30 (by decide) ?_
    exact at_iret ok fn ⟨_, rfl, rfl⟩ dX8_near_31 h
  · refine at_iloadn ok dX8_near_10 rfl ?_
    refine at_iconst (v := 0) ok dX8_near_11 (by decide) ?_
    refine at_bipush (v := 7) ok dX8_near_12 (by decide) ?_
    refine at_cSi (As := [.int (a2), .int (0), .int (7)]) ok ct_8_near_128 dX8_near_14 (by simp [cat_rf, cat_i, cat_l]) (s8_in a2 0 7 _) h fun v14 σ h => ?_
    refine bt_if_eq (tgt := 30) ok dX8_near_17 (by decide) h (fun hc h => ?_) (fun hc h => ?_)
    · refine at_iconst (v := 0) ok dX8_near_30 (by decide) ?_
      exact at_iret ok fn ⟨_, rfl, rfl⟩ dX8_near_31 h
    · refine at_iloadn ok dX8_near_20 rfl ?_
      refine at_iconst (v := 2) ok dX8_near_21 (by decide) ?_
      refine at_bipush (v := 8) ok dX8_near_22 (by decide) ?_
      refine at_cSi (As := [.int (a3), .int (2), .int (8)]) ok ct_8_near_128 dX8_near_24 (by simp [cat_rf, cat_i, cat_l]) (s8_in a3 2 8 _) h fun v24 σ h => ?_
      refine bt_if_ne (tgt := 32) ok dX8_near_27 (by decide) h (fun hc h => ?_) (fun hc h => ?_)
      · refine at_iconst (v := 0) ok dX8_near_30 (by decide) ?_
        exact at_iret ok fn ⟨_, rfl, rfl⟩ dX8_near_31 h
      · refine at_aloadn ok dX8_near_32 rfl ?_
        refine at_getR ok gf_8_50 dX8_near_33 h fun v33 h => ?_
        refine at_iloadn ok dX8_near_36 rfl ?_
        refine at_iconst (v := 2) ok dX8_near_37 (by decide) ?_
        refine at_iast ok dX8_near_38 h fun σ h => ?_
        refine at_aloadn ok dX8_near_39 rfl ?_
        refine at_getR ok gf_8_59 dX8_near_40 h fun v40 h => ?_
        refine at_iloadn ok dX8_near_43 rfl ?_
        refine at_iloadn ok dX8_near_44 rfl ?_
        refine at_iast ok dX8_near_45 h fun σ h => ?_
        refine at_aloadn ok dX8_near_46 rfl ?_
        refine at_getR ok gf_8_62 dX8_near_47 h fun v47 h => ?_
        refine at_iloadn ok dX8_near_50 rfl ?_
        refine at_iloadn ok dX8_near_51 rfl ?_
        refine at_iast ok dX8_near_52 h fun σ h => ?_
        refine at_iconst (v := 1) ok dX8_near_53 (by decide) ?_
        exact at_iret ok fn ⟨_, rfl, rfl⟩ dX8_near_54 h
set_option maxRecDepth 100000 in
set_option maxHeartbeats 4000000 in
theorem s8_numbers (t : Option Nat) (σ : AH) (Q : Int32 → AH → Prop) (h : Hr (f8_numbers t) σ Q) : Runs m8_numbers σ [va_rf t] (fun v σ1 => ∃ a, v = some (.int a) ∧ Q a σ1) := by
  obtain ⟨a0, σ1, e, hQ⟩ := h
  have hm := n8_numbers t σ a0 σ1 e
  have h : Hr (f8_numbers t) σ (fun a σ2 => a = a0 ∧ σ2 = σ1) := ⟨a0, σ1, e, rfl, rfl⟩
  refine ⟨_, σ1, hm, ⟨a0, rfl, hQ⟩, runs_of (by decide +kernel) (by simp [cat_rf, cat_i, cat_l]) (Nat.le_of_ble_eq_true rfl) hm fun X ok fn => ?_⟩
  clear e hQ hm
  unfold f8_numbers at h
  show AT X m8_numbers 0 [some (va_rf (t))] [] σ
  refine at_aloadn ok dX8_numbers_0 rfl ?_
  refine at_aloadn ok dX8_numbers_1 rfl ?_
  refine at_getR ok gf_8_9 dX8_numbers_2 h fun v2 h => ?_
  refine at_iconst (v := 0) ok dX8_numbers_5 (by decide) ?_
  refine at_aloadn ok dX8_numbers_6 rfl ?_
  refine at_getI ok gf_8_140 dX8_numbers_7 h fun v7 h => ?_
  refine at_cVv (As := [va_rf (v2), .int (0), .int (v7)]) ok ct_8_numbers_179 dX8_numbers_10 (by simp [cat_rf, cat_i, cat_l]) (s8_read t v2 0 v7 _) h fun v10 σ h => ?_
  refine at_aloadn ok dX8_numbers_13 rfl ?_
  refine at_getI ok gf_8_169 dX8_numbers_14 h fun v14 h => ?_
  exact at_iret ok fn ⟨_, rfl, rfl⟩ dX8_numbers_17 h
set_option maxRecDepth 100000 in
set_option maxHeartbeats 4000000 in
theorem s8_isPart (t : Option Nat) (a1 : Int32) (a2 : Int32) (a3 : Int32) (σ : AH) (Q : Int32 → AH → Prop) (h : Hr (f8_isPart t a1 a2 a3) σ Q) : Runs m8_isPart σ [va_rf t, .int (a1), .int (a2), .int (a3)] (fun v σ1 => ∃ a, v = some (.int a) ∧ Q a σ1) := by
  obtain ⟨a0, σ1, e, hQ⟩ := h
  have hm := n8_isPart t a1 a2 a3 σ a0 σ1 e
  have h : Hr (f8_isPart t a1 a2 a3) σ (fun a σ2 => a = a0 ∧ σ2 = σ1) := ⟨a0, σ1, e, rfl, rfl⟩
  refine ⟨_, σ1, hm, ⟨a0, rfl, hQ⟩, runs_of (by decide +kernel) (by simp [cat_rf, cat_i, cat_l]) (Nat.le_of_ble_eq_true rfl) hm fun X ok fn => ?_⟩
  clear e hQ hm
  unfold f8_isPart at h
  show AT X m8_isPart 0 [some (va_rf (t)), some (.int (a1)), some (.int (a2)), some (.int (a3)), none] [] σ
  refine at_iloadn ok dX8_isPart_0 rfl ?_
  refine at_iloadn ok dX8_isPart_1 rfl ?_
  refine at_iadd ok dX8_isPart_2 ?_
  refine at_aloadn ok dX8_isPart_3 rfl ?_
  refine at_getR ok gf_8_43 dX8_isPart_4 h fun v4 h => ?_
  refine at_iloadn ok dX8_isPart_7 rfl ?_
  refine at_iald ok dX8_isPart_8 h fun v8 h => ?_
  refine bt_icmp_le (tgt := 14) ok dX8_isPart_9 (by decide) h (fun hc h => ?_) (fun hc h => ?_)
  · refine at_iloadn ok dX8_isPart_14 rfl ?_
    refine at_istore ok dX8_isPart_15 (lc_int rfl) (by decide) ?_
    refine at_weak (L' := [some (va_rf (t)), some (.int (a1)), some (.int (a2)), some (.int (a3)), some (.int (a2))]) (lw_s (lw_s (lw_s (lw_s (lw_s lw_0))))) ?_
    refine at_loopS (fun x17 σ => AT X m8_isPart 17 [some (va_rf (t)), some (.int (a1)), some (.int (a2)), some (.int (a3)), some (.int (x17))] [] σ) (fun y64 σ => AT X m8_isPart 64 [none, none, none, none, none] [] σ) h (fun y64 σ h => ?_) (fun kx rec ih x17 σ h => ?_)
    · refine at_iconst (v := 0) ok dX8_isPart_64 (by decide) ?_
      exact at_iret ok fn ⟨_, rfl, rfl⟩ dX8_isPart_65 h
    · unfold l8_isPart_17 at h
      refine at_iload ok dX8_isPart_17 rfl ?_
      refine at_iloadn ok dX8_isPart_19 rfl ?_
      refine at_iloadn ok dX8_isPart_20 rfl ?_
      refine at_iadd ok dX8_isPart_21 ?_
      refine bt_icmp_ge (tgt := 64) ok dX8_isPart_22 (by decide) h (fun hc h => ?_) (fun hc h => ?_)
      · exact at_weak (lw_n (lw_n (lw_n (lw_n (lw_n lw_0))))) (by have z := hr_inr h; exact kx () _ z)
      · refine at_aloadn ok dX8_isPart_25 rfl ?_
        refine at_getR ok gf_8_40 dX8_isPart_26 h fun v26 h => ?_
        refine at_sipush (v := 300) ok dX8_isPart_29 (by decide) ?_
        refine at_iloadn ok dX8_isPart_32 rfl ?_
        refine at_imul ok dX8_isPart_33 ?_
        refine at_iload ok dX8_isPart_34 rfl ?_
        refine at_iadd ok dX8_isPart_36 ?_
        refine at_iald ok dX8_isPart_37 h fun v37 h => ?_
        refine at_aloadn ok dX8_isPart_38 rfl ?_
        refine at_getR ok gf_8_37 dX8_isPart_39 h fun v39 h => ?_
        refine at_sipush (v := 300) ok dX8_isPart_42 (by decide) ?_
        refine at_iloadn ok dX8_isPart_45 rfl ?_
        refine at_imul ok dX8_isPart_46 ?_
        refine at_iload ok dX8_isPart_47 rfl ?_
        refine at_iadd ok dX8_isPart_49 ?_
        refine at_iald ok dX8_isPart_50 h fun v50 h => ?_
        refine at_isub ok dX8_isPart_51 ?_
        refine at_iconst (v := 3) ok dX8_isPart_52 (by decide) ?_
        refine bt_icmp_lt (tgt := 58) ok dX8_isPart_53 (by decide) h (fun hc h => ?_) (fun hc h => ?_)
        · refine at_iinc (v := x17 + 1) ok dX8_isPart_58 rfl rfl (lc_int rfl) (by decide) ?_
          refine at_goto (tgt := 17) ok dX8_isPart_61 (by decide) ?_
          exact at_weak (lw_s (lw_s (lw_s (lw_s (lw_s lw_0))))) (ih (x17 + 1) _ h)
        · refine at_iconst (v := 1) ok dX8_isPart_56 (by decide) ?_
          exact at_iret ok fn ⟨_, rfl, rfl⟩ dX8_isPart_57 (hr_inl h)
  · refine at_iconst (v := 0) ok dX8_isPart_12 (by decide) ?_
    exact at_iret ok fn ⟨_, rfl, rfl⟩ dX8_isPart_13 h
set_option maxRecDepth 100000 in
set_option maxHeartbeats 4000000 in
theorem s8_isWord (t : Option Nat) (a1 : Int32) (a2 : Int32) (a3 : Int32) (σ : AH) (Q : Int32 → AH → Prop) (h : Hr (f8_isWord t a1 a2 a3) σ Q) : Runs m8_isWord σ [va_rf t, .int (a1), .int (a2), .int (a3)] (fun v σ1 => ∃ a, v = some (.int a) ∧ Q a σ1) := by
  obtain ⟨a0, σ1, e, hQ⟩ := h
  have hm := n8_isWord t a1 a2 a3 σ a0 σ1 e
  have h : Hr (f8_isWord t a1 a2 a3) σ (fun a σ2 => a = a0 ∧ σ2 = σ1) := ⟨a0, σ1, e, rfl, rfl⟩
  refine ⟨_, σ1, hm, ⟨a0, rfl, hQ⟩, runs_of (by decide +kernel) (by simp [cat_rf, cat_i, cat_l]) (Nat.le_of_ble_eq_true rfl) hm fun X ok fn => ?_⟩
  clear e hQ hm
  unfold f8_isWord at h
  show AT X m8_isWord 0 [some (va_rf (t)), some (.int (a1)), some (.int (a2)), some (.int (a3)), none, none, none] [] σ
  refine at_aloadn ok dX8_isWord_0 rfl ?_
  refine at_getR ok gf_8_37 dX8_isWord_1 h fun v1 h => ?_
  refine at_sipush (v := 300) ok dX8_isWord_4 (by decide) ?_
  refine at_iloadn ok dX8_isWord_7 rfl ?_
  refine at_imul ok dX8_isWord_8 ?_
  refine at_iloadn ok dX8_isWord_9 rfl ?_
  refine at_iadd ok dX8_isWord_10 ?_
  refine at_iald ok dX8_isWord_11 h fun v11 h => ?_
  refine at_istore ok dX8_isWord_12 (lc_int rfl) (by decide) ?_
  refine at_aloadn ok dX8_isWord_14 rfl ?_
  refine at_getR ok gf_8_40 dX8_isWord_15 h fun v15 h => ?_
  refine at_sipush (v := 300) ok dX8_isWord_18 (by decide) ?_
  refine at_iloadn ok dX8_isWord_21 rfl ?_
  refine at_imul ok dX8_isWord_22 ?_
  refine at_iloadn ok dX8_isWord_23 rfl ?_
  refine at_iadd ok dX8_isWord_24 ?_
  refine at_iald ok dX8_isWord_25 h fun v25 h => ?_
  refine at_iload ok dX8_isWord_26 rfl ?_
  refine at_isub ok dX8_isWord_28 ?_
  refine at_istore ok dX8_isWord_29 (lc_int rfl) (by decide) ?_
  refine at_aloadn ok dX8_isWord_31 rfl ?_
  refine at_getR ok gf_8_25 dX8_isWord_32 h fun v32 h => ?_
  refine at_iloadn ok dX8_isWord_35 rfl ?_
  refine at_iald ok dX8_isWord_36 h fun v36 h => ?_
  refine at_aloadn ok dX8_isWord_37 rfl ?_
  refine at_getR ok gf_8_22 dX8_isWord_38 h fun v38 h => ?_
  refine at_iloadn ok dX8_isWord_41 rfl ?_
  refine at_iald ok dX8_isWord_42 h fun v42 h => ?_
  refine at_isub ok dX8_isWord_43 ?_
  refine at_iload ok dX8_isWord_44 rfl ?_
  refine bt_icmp_eq (tgt := 51) ok dX8_isWord_46 (by decide) h (fun hc h => ?_) (fun hc h => ?_)
  · refine at_iconst (v := 0) ok dX8_isWord_51 (by decide) ?_
    refine at_istore ok dX8_isWord_52 (lc_int rfl) (by decide) ?_
    refine at_weak (L' := [some (va_rf (t)), some (.int (a1)), none, some (.int (a3)), some (.int (v11)), some (.int ((v25 - v11))), some (.int (0))]) (lw_s (lw_s (lw_n (lw_s (lw_s (lw_s (lw_s lw_0))))))) ?_
    refine at_loopS (fun x54 σ => AT X m8_isWord 54 [some (va_rf (t)), some (.int (a1)), none, some (.int (a3)), some (.int (v11)), some (.int ((v25 - v11))), some (.int (x54))] [] σ) (fun y105 σ => AT X m8_isWord 105 [none, none, none, none, none, none, none] [] σ) h (fun y105 σ h => ?_) (fun kx rec ih x54 σ h => ?_)
    · refine at_iconst (v := 1) ok dX8_isWord_105 (by decide) ?_
      exact at_iret ok fn ⟨_, rfl, rfl⟩ dX8_isWord_106 h
    · unfold l8_isWord_54 at h
      refine at_iload ok dX8_isWord_54 rfl ?_
      refine at_iload ok dX8_isWord_56 rfl ?_
      refine bt_icmp_gt (tgt := 105) ok dX8_isWord_58 (by decide) h (fun hc h => ?_) (fun hc h => ?_)
      · exact at_weak (lw_n (lw_n (lw_n (lw_n (lw_n (lw_n (lw_n lw_0))))))) (by have z := hr_inr h; exact kx () _ z)
      · refine at_aloadn ok dX8_isWord_61 rfl ?_
        refine at_getR ok gf_8_34 dX8_isWord_62 h fun v62 h => ?_
        refine at_sipush (v := 300) ok dX8_isWord_65 (by decide) ?_
        refine at_iloadn ok dX8_isWord_68 rfl ?_
        refine at_imul ok dX8_isWord_69 ?_
        refine at_iload ok dX8_isWord_70 rfl ?_
        refine at_iadd ok dX8_isWord_72 ?_
        refine at_iload ok dX8_isWord_73 rfl ?_
        refine at_iadd ok dX8_isWord_75 ?_
        refine at_iald ok dX8_isWord_76 h fun v76 h => ?_
        refine at_aloadn ok dX8_isWord_77 rfl ?_
        refine at_getR ok gf_8_13 dX8_isWord_78 h fun v78 h => ?_
        refine at_aloadn ok dX8_isWord_81 rfl ?_
        refine at_getR ok gf_8_22 dX8_isWord_82 h fun v82 h => ?_
        refine at_iloadn ok dX8_isWord_85 rfl ?_
        refine at_iald ok dX8_isWord_86 h fun v86 h => ?_
        refine at_iload ok dX8_isWord_87 rfl ?_
        refine at_iadd ok dX8_isWord_89 ?_
        refine at_iald ok dX8_isWord_90 h fun v90 h => ?_
        refine at_cSi (As := [.int (v90)]) ok ct_8_isWord_150 dX8_isWord_91 (by simp [cat_rf, cat_i, cat_l]) (s8_small v90 _) h fun v91 σ h => ?_
        refine bt_icmp_eq (tgt := 99) ok dX8_isWord_94 (by decide) h (fun hc h => ?_) (fun hc h => ?_)
        · refine at_iinc (v := x54 + 1) ok dX8_isWord_99 rfl rfl (lc_int rfl) (by decide) ?_
          refine at_goto (tgt := 54) ok dX8_isWord_102 (by decide) ?_
          exact at_weak (lw_s (lw_s (lw_n (lw_s (lw_s (lw_s (lw_s lw_0))))))) (ih (x54 + 1) _ h)
        · refine at_iconst (v := 0) ok dX8_isWord_97 (by decide) ?_
          exact at_iret ok fn ⟨_, rfl, rfl⟩ dX8_isWord_98 (hr_inl h)
  · refine at_iconst (v := 0) ok dX8_isWord_49 (by decide) ?_
    exact at_iret ok fn ⟨_, rfl, rfl⟩ dX8_isWord_50 h
set_option maxRecDepth 100000 in
set_option maxHeartbeats 4000000 in
theorem s8_stands (t : Option Nat) (a1 : Int32) (a2 : Int32) (a3 : Int32) (a4 : Int32) (σ : AH) (Q : Int32 → AH → Prop) (h : Hr (f8_stands t a1 a2 a3 a4) σ Q) : Runs m8_stands σ [va_rf t, .int (a1), .int (a2), .int (a3), .int (a4)] (fun v σ1 => ∃ a, v = some (.int a) ∧ Q a σ1) := by
  obtain ⟨a0, σ1, e, hQ⟩ := h
  have hm := n8_stands t a1 a2 a3 a4 σ a0 σ1 e
  have h : Hr (f8_stands t a1 a2 a3 a4) σ (fun a σ2 => a = a0 ∧ σ2 = σ1) := ⟨a0, σ1, e, rfl, rfl⟩
  refine ⟨_, σ1, hm, ⟨a0, rfl, hQ⟩, runs_of (by decide +kernel) (by simp [cat_rf, cat_i, cat_l]) (Nat.le_of_ble_eq_true rfl) hm fun X ok fn => ?_⟩
  clear e hQ hm
  unfold f8_stands at h
  show AT X m8_stands 0 [some (va_rf (t)), some (.int (a1)), some (.int (a2)), some (.int (a3)), some (.int (a4)), none] [] σ
  refine at_iload ok dX8_stands_0 rfl ?_
  refine at_iloadn ok dX8_stands_2 rfl ?_
  refine at_iadd ok dX8_stands_3 ?_
  refine at_aloadn ok dX8_stands_4 rfl ?_
  refine at_getI ok gf_8_160 dX8_stands_5 h fun v5 h => ?_
  refine bt_icmp_gt (tgt := 21) ok dX8_stands_8 (by decide) h (fun hc h => ?_) (fun hc h => ?_)
  · refine at_iconst (v := 0) ok dX8_stands_21 (by decide) ?_
    exact at_iret ok fn ⟨_, rfl, rfl⟩ dX8_stands_22 h
  · refine at_aloadn ok dX8_stands_11 rfl ?_
    refine at_iloadn ok dX8_stands_12 rfl ?_
    refine at_iloadn ok dX8_stands_13 rfl ?_
    refine at_iloadn ok dX8_stands_14 rfl ?_
    refine at_cVi (As := [.int (a1), .int (a2), .int (a3)]) ok ct_8_stands_183 dX8_stands_15 (by simp [cat_rf, cat_i, cat_l]) (s8_isPart t a1 a2 a3 _) h fun v15 σ h => ?_
    refine bt_if_ne (tgt := 23) ok dX8_stands_18 (by decide) h (fun hc h => ?_) (fun hc h => ?_)
    · refine at_iconst (v := 0) ok dX8_stands_21 (by decide) ?_
      exact at_iret ok fn ⟨_, rfl, rfl⟩ dX8_stands_22 h
    · refine at_iconst (v := 0) ok dX8_stands_23 (by decide) ?_
      refine at_istore ok dX8_stands_24 (lc_int rfl) (by decide) ?_
      refine at_weak (L' := [some (va_rf (t)), some (.int (a1)), some (.int (a2)), some (.int (a3)), some (.int (a4)), some (.int (0))]) (lw_s (lw_s (lw_s (lw_s (lw_s (lw_s lw_0)))))) ?_
      refine at_loopS (fun x26 σ => AT X m8_stands 26 [some (va_rf (t)), some (.int (a1)), some (.int (a2)), some (.int (a3)), some (.int (a4)), some (.int (x26))] [] σ) (fun y57 σ => AT X m8_stands 57 [none, none, none, none, none, none] [] σ) h (fun y57 σ h => ?_) (fun kx rec ih x26 σ h => ?_)
      · refine at_iconst (v := 1) ok dX8_stands_57 (by decide) ?_
        exact at_iret ok fn ⟨_, rfl, rfl⟩ dX8_stands_58 h
      · unfold l8_stands_26 at h
        refine at_iload ok dX8_stands_26 rfl ?_
        refine at_iloadn ok dX8_stands_28 rfl ?_
        refine bt_icmp_ge (tgt := 57) ok dX8_stands_29 (by decide) h (fun hc h => ?_) (fun hc h => ?_)
        · exact at_weak (lw_n (lw_n (lw_n (lw_n (lw_n (lw_n lw_0)))))) (by have z := hr_inr h; exact kx () _ z)
        · refine at_aloadn ok dX8_stands_32 rfl ?_
          refine at_iloadn ok dX8_stands_33 rfl ?_
          refine at_iloadn ok dX8_stands_34 rfl ?_
          refine at_iload ok dX8_stands_35 rfl ?_
          refine at_iadd ok dX8_stands_37 ?_
          refine at_iload ok dX8_stands_38 rfl ?_
          refine at_iload ok dX8_stands_40 rfl ?_
          refine at_iadd ok dX8_stands_42 ?_
          refine at_cVi (As := [.int (a1), .int ((a2 + x26)), .int ((a4 + x26))]) ok ct_8_stands_186 dX8_stands_43 (by simp [cat_rf, cat_i, cat_l]) (s8_isWord t a1 (a2 + x26) (a4 + x26) _) h fun v43 σ h => ?_
          refine bt_if_ne (tgt := 51) ok dX8_stands_46 (by decide) h (fun hc h => ?_) (fun hc h => ?_)
          · refine at_iconst (v := 0) ok dX8_stands_49 (by decide) ?_
            exact at_iret ok fn ⟨_, rfl, rfl⟩ dX8_stands_50 (hr_inl h)
          · refine at_iinc (v := x26 + 1) ok dX8_stands_51 rfl rfl (lc_int rfl) (by decide) ?_
            refine at_goto (tgt := 26) ok dX8_stands_54 (by decide) ?_
            exact at_weak (lw_s (lw_s (lw_s (lw_s (lw_s (lw_s lw_0)))))) (ih (x26 + 1) _ h)
set_option maxRecDepth 100000 in
set_option maxHeartbeats 4000000 in
theorem s8_addParts (t : Option Nat) (a1 : Int32) (a2 : Int32) (σ : AH) (Q : Unit → AH → Prop) (h : Hr (f8_addParts t a1 a2) σ Q) : Runs m8_addParts σ [va_rf t, .int (a1), .int (a2)] (fun v σ1 => ∃ a, v = none ∧ Q a σ1) := by
  obtain ⟨a0, σ1, e, hQ⟩ := h
  have hm := n8_addParts t a1 a2 σ a0 σ1 e
  have h : Hr (f8_addParts t a1 a2) σ (fun a σ2 => a = a0 ∧ σ2 = σ1) := ⟨a0, σ1, e, rfl, rfl⟩
  refine ⟨_, σ1, hm, ⟨a0, rfl, hQ⟩, runs_of (by decide +kernel) (by simp [cat_rf, cat_i, cat_l]) (Nat.le_of_ble_eq_true rfl) hm fun X ok fn => ?_⟩
  clear e hQ hm
  unfold f8_addParts at h
  show AT X m8_addParts 0 [some (va_rf (t)), some (.int (a1)), some (.int (a2)), none, none] [] σ
  refine at_iconst (v := 0) ok dX8_addParts_0 (by decide) ?_
  refine at_istoren ok dX8_addParts_1 rfl (lc_int rfl) (by decide) ?_
  refine at_weak (L' := [some (va_rf (t)), some (.int (a1)), some (.int (a2)), some (.int (0)), none]) (lw_s (lw_s (lw_s (lw_s (lw_n lw_0))))) ?_
  refine at_loop (fun x2 σ => AT X m8_addParts 2 [some (va_rf (t)), some (.int (a1)), some (.int (a2)), some (.int (x2)), none] [] σ) (fun y64 σ => AT X m8_addParts 64 [none, none, none, none, none] [] σ) h (fun y64 σ h => ?_) (fun kx rec ih x2 σ h => ?_)
  · exact at_vret ok fn rfl dX8_addParts_64 h
  · unfold l8_addParts_2 at h
    refine at_iloadn ok dX8_addParts_2 rfl ?_
    refine at_iloadn ok dX8_addParts_3 rfl ?_
    refine at_iadd ok dX8_addParts_4 ?_
    refine at_aloadn ok dX8_addParts_5 rfl ?_
    refine at_getR ok gf_8_43 dX8_addParts_6 h fun v6 h => ?_
    refine at_iloadn ok dX8_addParts_9 rfl ?_
    refine at_iald ok dX8_addParts_10 h fun v10 h => ?_
    refine bt_icmp_gt (tgt := 64) ok dX8_addParts_11 (by decide) h (fun hc h => ?_) (fun hc h => ?_)
    · exact at_weak (lw_n (lw_n (lw_n (lw_n (lw_n lw_0))))) (kx () _ (hr_rt.mp h))
    · refine at_iconst (v := 0) ok dX8_addParts_14 (by decide) ?_
      refine at_istore ok dX8_addParts_15 (lc_int rfl) (by decide) ?_
      refine at_weak (L' := [some (va_rf (t)), some (.int (a1)), some (.int (a2)), some (.int (x2)), some (.int (0))]) (lw_s (lw_s (lw_s (lw_s (lw_s lw_0))))) ?_
      refine at_loop (fun x17 σ => AT X m8_addParts 17 [some (va_rf (t)), some (.int (a1)), some (.int (a2)), some (.int (x2)), some (.int (x17))] [] σ) (fun y58 σ => AT X m8_addParts 58 [some (va_rf (t)), some (.int (a1)), some (.int (a2)), some (.int (x2)), none] [] σ) h (fun y58 σ h => ?_) (fun kx rec ih x17 σ h => ?_)
      · refine at_iinc (v := x2 + 1) ok dX8_addParts_58 rfl rfl (lc_int rfl) (by decide) ?_
        refine at_goto (tgt := 2) ok dX8_addParts_61 (by decide) ?_
        exact at_weak (lw_s (lw_s (lw_s (lw_s (lw_n lw_0))))) (ih (x2 + 1) _ h)
      · unfold l8_addParts_17 at h
        refine at_iload ok dX8_addParts_17 rfl ?_
        refine at_iloadn ok dX8_addParts_19 rfl ?_
        refine at_iadd ok dX8_addParts_20 ?_
        refine at_aloadn ok dX8_addParts_21 rfl ?_
        refine at_getI ok gf_8_160 dX8_addParts_22 h fun v22 h => ?_
        refine bt_icmp_gt (tgt := 58) ok dX8_addParts_25 (by decide) h (fun hc h => ?_) (fun hc h => ?_)
        · exact at_weak (lw_s (lw_s (lw_s (lw_s (lw_n lw_0))))) (kx () _ (hr_rt.mp h))
        · refine at_aloadn ok dX8_addParts_28 rfl ?_
          refine at_getR ok gf_8_46 dX8_addParts_29 h fun v29 h => ?_
          refine at_iloadn ok dX8_addParts_32 rfl ?_
          refine at_zald ok dX8_addParts_33 h fun v33 h => ?_
          refine bt_if_ne (tgt := 58) ok dX8_addParts_34 (by decide) h (fun hc h => ?_) (fun hc h => ?_)
          · refine at_aloadn ok dX8_addParts_37 rfl ?_
            refine at_getR ok gf_8_46 dX8_addParts_38 h fun v38 h => ?_
            refine at_iloadn ok dX8_addParts_41 rfl ?_
            refine at_aloadn ok dX8_addParts_42 rfl ?_
            refine at_iloadn ok dX8_addParts_43 rfl ?_
            refine at_iloadn ok dX8_addParts_44 rfl ?_
            refine at_iloadn ok dX8_addParts_45 rfl ?_
            refine at_iload ok dX8_addParts_46 rfl ?_
            refine at_cVi (As := [.int (a1), .int (x2), .int (a2), .int (x17)]) ok ct_8_addParts_189 dX8_addParts_48 (by simp [cat_rf, cat_i, cat_l]) (s8_stands t a1 x2 a2 x17 _) h fun v48 σ h => ?_
            refine at_zast ok dX8_addParts_51 h fun σ h => ?_
            refine at_iinc (v := x17 + 1) ok dX8_addParts_52 rfl rfl (lc_int rfl) (by decide) ?_
            refine at_goto (tgt := 17) ok dX8_addParts_55 (by decide) ?_
            exact at_weak (lw_s (lw_s (lw_s (lw_s (lw_s lw_0))))) (ih (x17 + 1) _ h)
          · exact at_weak (lw_s (lw_s (lw_s (lw_s (lw_n lw_0))))) (kx () _ (hr_rt.mp h))
set_option maxRecDepth 100000 in
set_option maxHeartbeats 4000000 in
theorem s8_noParts (t : Option Nat) (σ : AH) (Q : Unit → AH → Prop) (h : Hr (f8_noParts t) σ Q) : Runs m8_noParts σ [va_rf t] (fun v σ1 => ∃ a, v = none ∧ Q a σ1) := by
  obtain ⟨a0, σ1, e, hQ⟩ := h
  have hm := n8_noParts t σ a0 σ1 e
  have h : Hr (f8_noParts t) σ (fun a σ2 => a = a0 ∧ σ2 = σ1) := ⟨a0, σ1, e, rfl, rfl⟩
  refine ⟨_, σ1, hm, ⟨a0, rfl, hQ⟩, runs_of (by decide +kernel) (by simp [cat_rf, cat_i, cat_l]) (Nat.le_of_ble_eq_true rfl) hm fun X ok fn => ?_⟩
  clear e hQ hm
  unfold f8_noParts at h
  show AT X m8_noParts 0 [some (va_rf (t)), none] [] σ
  refine at_iconst (v := 0) ok dX8_noParts_0 (by decide) ?_
  refine at_istoren ok dX8_noParts_1 rfl (lc_ref rfl) (by decide) ?_
  refine at_weak (L' := [some (va_rf (t)), some (.int (0))]) (lw_s (lw_s lw_0)) ?_
  refine at_loop (fun x2 σ => AT X m8_noParts 2 [some (va_rf (t)), some (.int (x2))] [] σ) (fun y22 σ => AT X m8_noParts 22 [none, none] [] σ) h (fun y22 σ h => ?_) (fun kx rec ih x2 σ h => ?_)
  · exact at_vret ok fn rfl dX8_noParts_22 h
  · unfold l8_noParts_2 at h
    refine at_iloadn ok dX8_noParts_2 rfl ?_
    refine at_sipush (v := 300) ok dX8_noParts_3 (by decide) ?_
    refine bt_icmp_ge (tgt := 22) ok dX8_noParts_6 (by decide) h (fun hc h => ?_) (fun hc h => ?_)
    · exact at_weak (lw_n (lw_n lw_0)) (kx () _ (hr_rt.mp h))
    · refine at_aloadn ok dX8_noParts_9 rfl ?_
      refine at_getR ok gf_8_46 dX8_noParts_10 h fun v10 h => ?_
      refine at_iloadn ok dX8_noParts_13 rfl ?_
      refine at_iconst (v := 0) ok dX8_noParts_14 (by decide) ?_
      refine at_zast ok dX8_noParts_15 h fun σ h => ?_
      refine at_iinc (v := x2 + 1) ok dX8_noParts_16 rfl rfl (lc_ref rfl) (by decide) ?_
      refine at_goto (tgt := 2) ok dX8_noParts_19 (by decide) ?_
      exact at_weak (lw_s (lw_s lw_0)) (ih (x2 + 1) _ h)
set_option maxRecDepth 100000 in
set_option maxHeartbeats 4000000 in
theorem s8_partsHad (t : Option Nat) (a1 : Int32) (σ : AH) (Q : Int32 → AH → Prop) (h : Hr (f8_partsHad t a1) σ Q) : Runs m8_partsHad σ [va_rf t, .int (a1)] (fun v σ1 => ∃ a, v = some (.int a) ∧ Q a σ1) := by
  obtain ⟨a0, σ1, e, hQ⟩ := h
  have hm := n8_partsHad t a1 σ a0 σ1 e
  have h : Hr (f8_partsHad t a1) σ (fun a σ2 => a = a0 ∧ σ2 = σ1) := ⟨a0, σ1, e, rfl, rfl⟩
  refine ⟨_, σ1, hm, ⟨a0, rfl, hQ⟩, runs_of (by decide +kernel) (by simp [cat_rf, cat_i, cat_l]) (Nat.le_of_ble_eq_true rfl) hm fun X ok fn => ?_⟩
  clear e hQ hm
  unfold f8_partsHad at h
  show AT X m8_partsHad 0 [some (va_rf (t)), some (.int (a1)), none, none] [] σ
  refine at_iconst (v := 0) ok dX8_partsHad_0 (by decide) ?_
  refine at_istoren ok dX8_partsHad_1 rfl (lc_int rfl) (by decide) ?_
  refine at_iconst (v := 0) ok dX8_partsHad_2 (by decide) ?_
  refine at_istoren ok dX8_partsHad_3 rfl (lc_int rfl) (by decide) ?_
  refine at_weak (L' := [some (va_rf (t)), some (.int (a1)), some (.int (0)), some (.int (0))]) (lw_s (lw_s (lw_s (lw_s lw_0)))) ?_
  refine at_loop (fun x4 σ => AT X m8_partsHad 4 [some (va_rf (t)), some (.int (a1)), some (.int (x4.1)), some (.int (x4.2))] [] σ) (fun y37 σ => AT X m8_partsHad 37 [none, none, some (.int (y37)), none] [] σ) h (fun y37 σ h => ?_) (fun kx rec ih x4 σ h => ?_)
  · refine at_iloadn ok dX8_partsHad_37 rfl ?_
    exact at_iret ok fn ⟨_, rfl, rfl⟩ dX8_partsHad_38 h
  · unfold l8_partsHad_4 at h
    obtain ⟨x4_1, x4_2⟩ := x4
    dsimp only at h ⊢
    refine at_iloadn ok dX8_partsHad_4 rfl ?_
    refine at_aloadn ok dX8_partsHad_5 rfl ?_
    refine at_getR ok gf_8_43 dX8_partsHad_6 h fun v6 h => ?_
    refine at_iloadn ok dX8_partsHad_9 rfl ?_
    refine at_iald ok dX8_partsHad_10 h fun v10 h => ?_
    refine bt_icmp_ge (tgt := 37) ok dX8_partsHad_11 (by decide) h (fun hc h => ?_) (fun hc h => ?_)
    · exact at_weak (lw_n (lw_n (lw_s (lw_n lw_0)))) (kx x4_1 _ (hr_rt.mp h))
    · refine at_iloadn ok dX8_partsHad_14 rfl ?_
      refine at_aloadn ok dX8_partsHad_15 rfl ?_
      refine at_getR ok gf_8_46 dX8_partsHad_16 h fun v16 h => ?_
      refine at_iloadn ok dX8_partsHad_19 rfl ?_
      refine at_zald ok dX8_partsHad_20 h fun v20 h => ?_
      refine bt_if_eq (tgt := 28) ok dX8_partsHad_21 (by decide) h (fun hc h => ?_) (fun hc h => ?_)
      · refine at_iconst (v := 0) ok dX8_partsHad_28 (by decide) ?_
        refine at_iadd ok dX8_partsHad_29 ?_
        refine at_istoren ok dX8_partsHad_30 rfl (lc_int rfl) (by decide) ?_
        refine at_iinc (v := x4_2 + 1) ok dX8_partsHad_31 rfl rfl (lc_int rfl) (by decide) ?_
        refine at_goto (tgt := 4) ok dX8_partsHad_34 (by decide) ?_
        exact at_weak (lw_s (lw_s (lw_s (lw_s lw_0)))) (by have q := ih ((x4_1 + 0), (x4_2 + 1)) _ h; dsimp only at q; exact q)
      · refine at_iconst (v := 1) ok dX8_partsHad_24 (by decide) ?_
        refine at_goto (tgt := 29) ok dX8_partsHad_25 (by decide) ?_
        refine at_iadd ok dX8_partsHad_29 ?_
        refine at_istoren ok dX8_partsHad_30 rfl (lc_int rfl) (by decide) ?_
        refine at_iinc (v := x4_2 + 1) ok dX8_partsHad_31 rfl rfl (lc_int rfl) (by decide) ?_
        refine at_goto (tgt := 4) ok dX8_partsHad_34 (by decide) ?_
        exact at_weak (lw_s (lw_s (lw_s (lw_s lw_0)))) (by have q := ih ((x4_1 + 1), (x4_2 + 1)) _ h; dsimp only at q; exact q)
set_option maxRecDepth 100000 in
set_option maxHeartbeats 4000000 in
theorem s8_parts (t : Option Nat) (a1 : Int32) (a2 : Int32) (σ : AH) (Q : Int32 → AH → Prop) (h : Hr (f8_parts t a1 a2) σ Q) : Runs m8_parts σ [va_rf t, .int (a1), .int (a2)] (fun v σ1 => ∃ a, v = some (.int a) ∧ Q a σ1) := by
  obtain ⟨a0, σ1, e, hQ⟩ := h
  have hm := n8_parts t a1 a2 σ a0 σ1 e
  have h : Hr (f8_parts t a1 a2) σ (fun a σ2 => a = a0 ∧ σ2 = σ1) := ⟨a0, σ1, e, rfl, rfl⟩
  refine ⟨_, σ1, hm, ⟨a0, rfl, hQ⟩, runs_of (by decide +kernel) (by simp [cat_rf, cat_i, cat_l]) (Nat.le_of_ble_eq_true rfl) hm fun X ok fn => ?_⟩
  clear e hQ hm
  unfold f8_parts at h
  show AT X m8_parts 0 [some (va_rf (t)), some (.int (a1)), some (.int (a2))] [] σ
  refine at_iloadn ok dX8_parts_0 rfl ?_
  refine at_iconst (v := 0) ok dX8_parts_1 (by decide) ?_
  refine at_bipush (v := 7) ok dX8_parts_2 (by decide) ?_
  refine at_cSi (As := [.int (a1), .int (0), .int (7)]) ok ct_8_parts_128 dX8_parts_4 (by simp [cat_rf, cat_i, cat_l]) (s8_in a1 0 7 _) h fun v4 σ h => ?_
  refine bt_if_eq (tgt := 20) ok dX8_parts_7 (by decide) h (fun hc h => ?_) (fun hc h => ?_)
  · refine at_iconst (v := (-1)) ok dX8_parts_20 (by decide) ?_
    exact at_iret ok fn ⟨_, rfl, rfl⟩ dX8_parts_21 h
  · refine at_iloadn ok dX8_parts_10 rfl ?_
    refine at_iconst (v := 2) ok dX8_parts_11 (by decide) ?_
    refine at_bipush (v := 8) ok dX8_parts_12 (by decide) ?_
    refine at_cSi (As := [.int (a2), .int (2), .int (8)]) ok ct_8_parts_128 dX8_parts_14 (by simp [cat_rf, cat_i, cat_l]) (s8_in a2 2 8 _) h fun v14 σ h => ?_
    refine bt_if_ne (tgt := 22) ok dX8_parts_17 (by decide) h (fun hc h => ?_) (fun hc h => ?_)
    · refine at_iconst (v := (-1)) ok dX8_parts_20 (by decide) ?_
      exact at_iret ok fn ⟨_, rfl, rfl⟩ dX8_parts_21 h
    · refine at_aloadn ok dX8_parts_22 rfl ?_
      refine at_aloadn ok dX8_parts_23 rfl ?_
      refine at_getR ok gf_8_9 dX8_parts_24 h fun v24 h => ?_
      refine at_iconst (v := 0) ok dX8_parts_27 (by decide) ?_
      refine at_aloadn ok dX8_parts_28 rfl ?_
      refine at_getI ok gf_8_140 dX8_parts_29 h fun v29 h => ?_
      refine at_cVv (As := [va_rf (v24), .int (0), .int (v29)]) ok ct_8_parts_179 dX8_parts_32 (by simp [cat_rf, cat_i, cat_l]) (s8_read t v24 0 v29 _) h fun v32 σ h => ?_
      refine at_aloadn ok dX8_parts_35 rfl ?_
      refine at_cVv (As := []) ok ct_8_parts_214 dX8_parts_36 (by simp [cat_rf, cat_i, cat_l]) (s8_noParts t  _) h fun v36 σ h => ?_
      refine at_aloadn ok dX8_parts_39 rfl ?_
      refine at_iloadn ok dX8_parts_40 rfl ?_
      refine at_iloadn ok dX8_parts_41 rfl ?_
      refine at_cVv (As := [.int (a1), .int (a2)]) ok ct_8_parts_221 dX8_parts_42 (by simp [cat_rf, cat_i, cat_l]) (s8_addParts t a1 a2 _) h fun v42 σ h => ?_
      refine at_aloadn ok dX8_parts_45 rfl ?_
      refine at_iloadn ok dX8_parts_46 rfl ?_
      refine at_cVi (As := [.int (a1)]) ok ct_8_parts_225 dX8_parts_47 (by simp [cat_rf, cat_i, cat_l]) (s8_partsHad t a1 _) h fun v47 σ h => ?_
      exact at_iret ok fn ⟨_, rfl, rfl⟩ dX8_parts_50 h
set_option maxRecDepth 100000 in
set_option maxHeartbeats 4000000 in
theorem s8_pieces (t : Option Nat) (a1 : Int32) (a2 : Int32) (a3 : Int32) (a4 : Int32) (a5 : Int32) (σ : AH) (Q : Int32 → AH → Prop) (h : Hr (f8_pieces t a1 a2 a3 a4 a5) σ Q) : Runs m8_pieces σ [va_rf t, .int (a1), .int (a2), .int (a3), .int (a4), .int (a5)] (fun v σ1 => ∃ a, v = some (.int a) ∧ Q a σ1) := by
  obtain ⟨a0, σ1, e, hQ⟩ := h
  have hm := n8_pieces t a1 a2 a3 a4 a5 σ a0 σ1 e
  have h : Hr (f8_pieces t a1 a2 a3 a4 a5) σ (fun a σ2 => a = a0 ∧ σ2 = σ1) := ⟨a0, σ1, e, rfl, rfl⟩
  refine ⟨_, σ1, hm, ⟨a0, rfl, hQ⟩, runs_of (by decide +kernel) (by simp [cat_rf, cat_i, cat_l]) (Nat.le_of_ble_eq_true rfl) hm fun X ok fn => ?_⟩
  clear e hQ hm
  unfold f8_pieces at h
  show AT X m8_pieces 0 [some (va_rf (t)), some (.int (a1)), some (.int (a2)), some (.int (a3)), some (.int (a4)), some (.int (a5))] [] σ
  refine at_iloadn ok dX8_pieces_0 rfl ?_
  refine at_iconst (v := 0) ok dX8_pieces_1 (by decide) ?_
  refine at_bipush (v := 7) ok dX8_pieces_2 (by decide) ?_
  refine at_cSi (As := [.int (a1), .int (0), .int (7)]) ok ct_8_pieces_128 dX8_pieces_4 (by simp [cat_rf, cat_i, cat_l]) (s8_in a1 0 7 _) h fun v4 σ h => ?_
  refine bt_if_eq (tgt := 52) ok dX8_pieces_7 (by decide) h (fun hc h => ?_) (fun hc h => ?_)
  · refine at_iconst (v := 0) ok dX8_pieces_52 (by decide) ?_
    exact at_iret ok fn ⟨_, rfl, rfl⟩ dX8_pieces_53 h
  · refine at_iloadn ok dX8_pieces_10 rfl ?_
    refine at_iconst (v := 0) ok dX8_pieces_11 (by decide) ?_
    refine at_bipush (v := 7) ok dX8_pieces_12 (by decide) ?_
    refine at_cSi (As := [.int (a2), .int (0), .int (7)]) ok ct_8_pieces_128 dX8_pieces_14 (by simp [cat_rf, cat_i, cat_l]) (s8_in a2 0 7 _) h fun v14 σ h => ?_
    refine bt_if_eq (tgt := 52) ok dX8_pieces_17 (by decide) h (fun hc h => ?_) (fun hc h => ?_)
    · refine at_iconst (v := 0) ok dX8_pieces_52 (by decide) ?_
      exact at_iret ok fn ⟨_, rfl, rfl⟩ dX8_pieces_53 h
    · refine at_iloadn ok dX8_pieces_20 rfl ?_
      refine at_iconst (v := 2) ok dX8_pieces_21 (by decide) ?_
      refine at_bipush (v := 8) ok dX8_pieces_22 (by decide) ?_
      refine at_cSi (As := [.int (a3), .int (2), .int (8)]) ok ct_8_pieces_128 dX8_pieces_24 (by simp [cat_rf, cat_i, cat_l]) (s8_in a3 2 8 _) h fun v24 σ h => ?_
      refine bt_if_eq (tgt := 52) ok dX8_pieces_27 (by decide) h (fun hc h => ?_) (fun hc h => ?_)
      · refine at_iconst (v := 0) ok dX8_pieces_52 (by decide) ?_
        exact at_iret ok fn ⟨_, rfl, rfl⟩ dX8_pieces_53 h
      · refine at_iload ok dX8_pieces_30 rfl ?_
        refine at_iconst (v := 1) ok dX8_pieces_32 (by decide) ?_
        refine at_bipush (v := 50) ok dX8_pieces_33 (by decide) ?_
        refine at_cSi (As := [.int (a4), .int (1), .int (50)]) ok ct_8_pieces_128 dX8_pieces_35 (by simp [cat_rf, cat_i, cat_l]) (s8_in a4 1 50 _) h fun v35 σ h => ?_
        refine bt_if_eq (tgt := 52) ok dX8_pieces_38 (by decide) h (fun hc h => ?_) (fun hc h => ?_)
        · refine at_iconst (v := 0) ok dX8_pieces_52 (by decide) ?_
          exact at_iret ok fn ⟨_, rfl, rfl⟩ dX8_pieces_53 h
        · refine at_iload ok dX8_pieces_41 rfl ?_
          refine at_iconst (v := 0) ok dX8_pieces_43 (by decide) ?_
          refine at_bipush (v := 30) ok dX8_pieces_44 (by decide) ?_
          refine at_cSi (As := [.int (a5), .int (0), .int (30)]) ok ct_8_pieces_128 dX8_pieces_46 (by simp [cat_rf, cat_i, cat_l]) (s8_in a5 0 30 _) h fun v46 σ h => ?_
          refine bt_if_ne (tgt := 54) ok dX8_pieces_49 (by decide) h (fun hc h => ?_) (fun hc h => ?_)
          · refine at_iconst (v := 0) ok dX8_pieces_52 (by decide) ?_
            exact at_iret ok fn ⟨_, rfl, rfl⟩ dX8_pieces_53 h
          · refine at_aloadn ok dX8_pieces_54 rfl ?_
            refine at_getR ok gf_8_50 dX8_pieces_55 h fun v55 h => ?_
            refine at_iloadn ok dX8_pieces_58 rfl ?_
            refine at_iconst (v := 4) ok dX8_pieces_59 (by decide) ?_
            refine at_iast ok dX8_pieces_60 h fun σ h => ?_
            refine at_aloadn ok dX8_pieces_61 rfl ?_
            refine at_getR ok gf_8_59 dX8_pieces_62 h fun v62 h => ?_
            refine at_iloadn ok dX8_pieces_65 rfl ?_
            refine at_iloadn ok dX8_pieces_66 rfl ?_
            refine at_iast ok dX8_pieces_67 h fun σ h => ?_
            refine at_aloadn ok dX8_pieces_68 rfl ?_
            refine at_getR ok gf_8_62 dX8_pieces_69 h fun v69 h => ?_
            refine at_iloadn ok dX8_pieces_72 rfl ?_
            refine at_iloadn ok dX8_pieces_73 rfl ?_
            refine at_iast ok dX8_pieces_74 h fun σ h => ?_
            refine at_aloadn ok dX8_pieces_75 rfl ?_
            refine at_getR ok gf_8_65 dX8_pieces_76 h fun v76 h => ?_
            refine at_iloadn ok dX8_pieces_79 rfl ?_
            refine at_iload ok dX8_pieces_80 rfl ?_
            refine at_iast ok dX8_pieces_82 h fun σ h => ?_
            refine at_aloadn ok dX8_pieces_83 rfl ?_
            refine at_getR ok gf_8_68 dX8_pieces_84 h fun v84 h => ?_
            refine at_iloadn ok dX8_pieces_87 rfl ?_
            refine at_iload ok dX8_pieces_88 rfl ?_
            refine at_iast ok dX8_pieces_90 h fun σ h => ?_
            refine at_iconst (v := 1) ok dX8_pieces_91 (by decide) ?_
            exact at_iret ok fn ⟨_, rfl, rfl⟩ dX8_pieces_92 h
set_option maxRecDepth 100000 in
set_option maxHeartbeats 4000000 in
theorem s8_isFor (t : Option Nat) (a1 : Int32) (a2 : Int32) (a3 : Int32) (σ : AH) (Q : Int32 → AH → Prop) (h : Hr (f8_isFor t a1 a2 a3) σ Q) : Runs m8_isFor σ [va_rf t, .int (a1), .int (a2), .int (a3)] (fun v σ1 => ∃ a, v = some (.int a) ∧ Q a σ1) := by
  obtain ⟨a0, σ1, e, hQ⟩ := h
  have hm := n8_isFor t a1 a2 a3 σ a0 σ1 e
  have h : Hr (f8_isFor t a1 a2 a3) σ (fun a σ2 => a = a0 ∧ σ2 = σ1) := ⟨a0, σ1, e, rfl, rfl⟩
  refine ⟨_, σ1, hm, ⟨a0, rfl, hQ⟩, runs_of (by decide +kernel) (by simp [cat_rf, cat_i, cat_l]) (Nat.le_of_ble_eq_true rfl) hm fun X ok fn => ?_⟩
  clear e hQ hm
  unfold f8_isFor at h
  show AT X m8_isFor 0 [some (va_rf (t)), some (.int (a1)), some (.int (a2)), some (.int (a3))] [] σ
  refine at_aloadn ok dX8_isFor_0 rfl ?_
  refine at_getR ok gf_8_116 dX8_isFor_1 h fun v1 h => ?_
  refine at_iloadn ok dX8_isFor_4 rfl ?_
  refine at_iald ok dX8_isFor_5 h fun v5 h => ?_
  refine at_iconst (v := (-1)) ok dX8_isFor_6 (by decide) ?_
  refine at_joinS (fun y20 σ => AT X m8_isFor 20 [some (va_rf (t)), some (.int (a1)), none, some (.int (a3))] [] σ) h (fun y20 σ h => ?_) (fun h j20 => ?_)
  · refine at_aloadn ok dX8_isFor_20 rfl ?_
    refine at_getR ok gf_8_119 dX8_isFor_21 h fun v21 h => ?_
    refine at_iloadn ok dX8_isFor_24 rfl ?_
    refine at_iald ok dX8_isFor_25 h fun v25 h => ?_
    refine at_iconst (v := (-1)) ok dX8_isFor_26 (by decide) ?_
    refine bt_icmp_eq (tgt := 40) ok dX8_isFor_27 (by decide) h (fun hc h => ?_) (fun hc h => ?_)
    · refine at_iconst (v := 1) ok dX8_isFor_40 (by decide) ?_
      refine at_goto (tgt := 45) ok dX8_isFor_41 (by decide) ?_
      exact at_iret ok fn ⟨_, rfl, rfl⟩ dX8_isFor_45 h
    · refine at_aloadn ok dX8_isFor_30 rfl ?_
      refine at_getR ok gf_8_119 dX8_isFor_31 h fun v31 h => ?_
      refine at_iloadn ok dX8_isFor_34 rfl ?_
      refine at_iald ok dX8_isFor_35 h fun v35 h => ?_
      refine at_iloadn ok dX8_isFor_36 rfl ?_
      refine bt_icmp_ne (tgt := 44) ok dX8_isFor_37 (by decide) h (fun hc h => ?_) (fun hc h => ?_)
      · refine at_iconst (v := 1) ok dX8_isFor_40 (by decide) ?_
        refine at_goto (tgt := 45) ok dX8_isFor_41 (by decide) ?_
        exact at_iret ok fn ⟨_, rfl, rfl⟩ dX8_isFor_45 h
      · refine at_iconst (v := 0) ok dX8_isFor_44 (by decide) ?_
        exact at_iret ok fn ⟨_, rfl, rfl⟩ dX8_isFor_45 h
  · refine bt_icmp_eq (tgt := 20) ok dX8_isFor_7 (by decide) h (fun hc h => ?_) (fun hc h => ?_)
    · exact at_weak (lw_s (lw_s (lw_n (lw_s lw_0)))) (by have z := hr_inr h; exact j20 () _ z)
    · refine at_aloadn ok dX8_isFor_10 rfl ?_
      refine at_getR ok gf_8_116 dX8_isFor_11 h fun v11 h => ?_
      refine at_iloadn ok dX8_isFor_14 rfl ?_
      refine at_iald ok dX8_isFor_15 h fun v15 h => ?_
      refine at_iloadn ok dX8_isFor_16 rfl ?_
      refine bt_icmp_ne (tgt := 44) ok dX8_isFor_17 (by decide) h (fun hc h => ?_) (fun hc h => ?_)
      · exact at_weak (lw_s (lw_s (lw_n (lw_s lw_0)))) (by have z := hr_inr h; exact j20 () _ z)
      · refine at_iconst (v := 0) ok dX8_isFor_44 (by decide) ?_
        exact at_iret ok fn ⟨_, rfl, rfl⟩ dX8_isFor_45 (hr_inl h)
set_option maxRecDepth 100000 in
set_option maxHeartbeats 4000000 in
theorem s8_quarrel (t : Option Nat) (a1 : Int32) (a2 : Int32) (σ : AH) (Q : Int32 → AH → Prop) (h : Hr (f8_quarrel t a1 a2) σ Q) : Runs m8_quarrel σ [va_rf t, .int (a1), .int (a2)] (fun v σ1 => ∃ a, v = some (.int a) ∧ Q a σ1) := by
  obtain ⟨a0, σ1, e, hQ⟩ := h
  have hm := n8_quarrel t a1 a2 σ a0 σ1 e
  have h : Hr (f8_quarrel t a1 a2) σ (fun a σ2 => a = a0 ∧ σ2 = σ1) := ⟨a0, σ1, e, rfl, rfl⟩
  refine ⟨_, σ1, hm, ⟨a0, rfl, hQ⟩, runs_of (by decide +kernel) (by simp [cat_rf, cat_i, cat_l]) (Nat.le_of_ble_eq_true rfl) hm fun X ok fn => ?_⟩
  clear e hQ hm
  unfold f8_quarrel at h
  show AT X m8_quarrel 0 [some (va_rf (t)), some (.int (a1)), some (.int (a2)), none, none] [] σ
  refine at_iloadn ok dX8_quarrel_0 rfl ?_
  refine at_iconst (v := 0) ok dX8_quarrel_1 (by decide) ?_
  refine at_aloadn ok dX8_quarrel_2 rfl ?_
  refine at_getI ok gf_8_232 dX8_quarrel_3 h fun v3 h => ?_
  refine at_iconst (v := 1) ok dX8_quarrel_6 (by decide) ?_
  refine at_isub ok dX8_quarrel_7 ?_
  refine at_cSi (As := [.int (a1), .int (0), .int ((v3 - 1))]) ok ct_8_quarrel_128 dX8_quarrel_8 (by simp [cat_rf, cat_i, cat_l]) (s8_in a1 0 (v3 - 1) _) h fun v8 σ h => ?_
  refine bt_if_eq (tgt := 33) ok dX8_quarrel_11 (by decide) h (fun hc h => ?_) (fun hc h => ?_)
  · refine at_iconst (v := (-1)) ok dX8_quarrel_33 (by decide) ?_
    exact at_iret ok fn ⟨_, rfl, rfl⟩ dX8_quarrel_34 h
  · refine at_iloadn ok dX8_quarrel_14 rfl ?_
    refine at_iconst (v := 0) ok dX8_quarrel_15 (by decide) ?_
    refine at_aloadn ok dX8_quarrel_16 rfl ?_
    refine at_getI ok gf_8_232 dX8_quarrel_17 h fun v17 h => ?_
    refine at_iconst (v := 1) ok dX8_quarrel_20 (by decide) ?_
    refine at_isub ok dX8_quarrel_21 ?_
    refine at_cSi (As := [.int (a2), .int (0), .int ((v17 - 1))]) ok ct_8_quarrel_128 dX8_quarrel_22 (by simp [cat_rf, cat_i, cat_l]) (s8_in a2 0 (v17 - 1) _) h fun v22 σ h => ?_
    refine bt_if_eq (tgt := 33) ok dX8_quarrel_25 (by decide) h (fun hc h => ?_) (fun hc h => ?_)
    · refine at_iconst (v := (-1)) ok dX8_quarrel_33 (by decide) ?_
      exact at_iret ok fn ⟨_, rfl, rfl⟩ dX8_quarrel_34 h
    · refine at_iloadn ok dX8_quarrel_28 rfl ?_
      refine at_iloadn ok dX8_quarrel_29 rfl ?_
      refine bt_icmp_ne (tgt := 35) ok dX8_quarrel_30 (by decide) h (fun hc h => ?_) (fun hc h => ?_)
      · refine at_iconst (v := (-1)) ok dX8_quarrel_33 (by decide) ?_
        exact at_iret ok fn ⟨_, rfl, rfl⟩ dX8_quarrel_34 h
      · refine at_aloadn ok dX8_quarrel_35 rfl ?_
        refine at_getR ok gf_8_122 dX8_quarrel_36 h fun v36 h => ?_
        refine at_iloadn ok dX8_quarrel_39 rfl ?_
        refine at_iald ok dX8_quarrel_40 h fun v40 h => ?_
        refine at_aloadn ok dX8_quarrel_41 rfl ?_
        refine at_getR ok gf_8_122 dX8_quarrel_42 h fun v42 h => ?_
        refine at_iloadn ok dX8_quarrel_45 rfl ?_
        refine at_iald ok dX8_quarrel_46 h fun v46 h => ?_
        refine bt_icmp_ne (tgt := 65) ok dX8_quarrel_47 (by decide) h (fun hc h => ?_) (fun hc h => ?_)
        · refine at_aloadn ok dX8_quarrel_50 rfl ?_
          refine at_getR ok gf_8_125 dX8_quarrel_51 h fun v51 h => ?_
          refine at_iloadn ok dX8_quarrel_54 rfl ?_
          refine at_iald ok dX8_quarrel_55 h fun v55 h => ?_
          refine at_aloadn ok dX8_quarrel_56 rfl ?_
          refine at_getR ok gf_8_125 dX8_quarrel_57 h fun v57 h => ?_
          refine at_iloadn ok dX8_quarrel_60 rfl ?_
          refine at_iald ok dX8_quarrel_61 h fun v61 h => ?_
          refine bt_icmp_ne (tgt := 67) ok dX8_quarrel_62 (by decide) h (fun hc h => ?_) (fun hc h => ?_)
          · refine at_iconst (v := (-1)) ok dX8_quarrel_65 (by decide) ?_
            exact at_iret ok fn ⟨_, rfl, rfl⟩ dX8_quarrel_66 h
          · refine at_iconst (v := 0) ok dX8_quarrel_67 (by decide) ?_
            refine at_istoren ok dX8_quarrel_68 rfl (lc_int rfl) (by decide) ?_
            refine at_weak (L' := [some (va_rf (t)), some (.int (a1)), some (.int (a2)), some (.int (0)), none]) (lw_s (lw_s (lw_s (lw_s (lw_n lw_0))))) ?_
            refine at_loopS (fun x69 σ => AT X m8_quarrel 69 [some (va_rf (t)), some (.int (a1)), some (.int (a2)), some (.int (x69)), none] [] σ) (fun y126 σ => AT X m8_quarrel 126 [none, none, none, none, none] [] σ) h (fun y126 σ h => ?_) (fun kx rec ih x69 σ h => ?_)
            · refine at_iconst (v := (-1)) ok dX8_quarrel_126 (by decide) ?_
              exact at_iret ok fn ⟨_, rfl, rfl⟩ dX8_quarrel_127 h
            · unfold l8_quarrel_69 at h
              refine at_iloadn ok dX8_quarrel_69 rfl ?_
              refine at_bipush (v := 10) ok dX8_quarrel_70 (by decide) ?_
              refine bt_icmp_ge (tgt := 126) ok dX8_quarrel_72 (by decide) h (fun hc h => ?_) (fun hc h => ?_)
              · exact at_weak (lw_n (lw_n (lw_n (lw_n (lw_n lw_0))))) (by have z := hr_inr h; exact kx () _ z)
              · refine at_iconst (v := 0) ok dX8_quarrel_75 (by decide) ?_
                refine at_istore ok dX8_quarrel_76 (lc_int rfl) (by decide) ?_
                refine at_weak (L' := [some (va_rf (t)), some (.int (a1)), some (.int (a2)), some (.int (x69)), some (.int (0))]) (lw_s (lw_s (lw_s (lw_s (lw_s lw_0))))) ?_
                refine at_loopS (fun x78 σ => AT X m8_quarrel 78 [some (va_rf (t)), some (.int (a1)), some (.int (a2)), some (.int (x69)), some (.int (x78))] [] σ) (fun y120 σ => AT X m8_quarrel 120 [some (va_rf (t)), some (.int (a1)), some (.int (a2)), some (.int (x69)), none] [] σ) h (fun y120 σ h => ?_) (fun kx rec ih x78 σ h => ?_)
                · refine at_iinc (v := x69 + 1) ok dX8_quarrel_120 rfl rfl (lc_int rfl) (by decide) ?_
                  refine at_goto (tgt := 69) ok dX8_quarrel_123 (by decide) ?_
                  exact at_weak (lw_s (lw_s (lw_s (lw_s (lw_n lw_0))))) (ih (x69 + 1) _ h)
                · unfold l8_quarrel_78 at h
                  refine at_iload ok dX8_quarrel_78 rfl ?_
                  refine at_iconst (v := 3) ok dX8_quarrel_80 (by decide) ?_
                  refine bt_icmp_ge (tgt := 120) ok dX8_quarrel_81 (by decide) h (fun hc h => ?_) (fun hc h => ?_)
                  · exact at_weak (lw_s (lw_s (lw_s (lw_s (lw_n lw_0))))) (by have z := hr_inr h; exact kx () _ z)
                  · refine at_aloadn ok dX8_quarrel_84 rfl ?_
                    refine at_iloadn ok dX8_quarrel_85 rfl ?_
                    refine at_iloadn ok dX8_quarrel_86 rfl ?_
                    refine at_iload ok dX8_quarrel_87 rfl ?_
                    refine at_cVi (As := [.int (a1), .int (x69), .int (x78)]) ok ct_8_quarrel_270 dX8_quarrel_89 (by simp [cat_rf, cat_i, cat_l]) (s8_isFor t a1 x69 x78 _) h fun v89 σ h => ?_
                    refine bt_if_eq (tgt := 114) ok dX8_quarrel_92 (by decide) h (fun hc h => ?_) (fun hc h => ?_)
                    · refine at_iinc (v := x78 + 1) ok dX8_quarrel_114 rfl rfl (lc_int rfl) (by decide) ?_
                      refine at_goto (tgt := 78) ok dX8_quarrel_117 (by decide) ?_
                      exact at_weak (lw_s (lw_s (lw_s (lw_s (lw_s lw_0))))) (ih (x78 + 1) _ h)
                    · refine at_aloadn ok dX8_quarrel_95 rfl ?_
                      refine at_iloadn ok dX8_quarrel_96 rfl ?_
                      refine at_iloadn ok dX8_quarrel_97 rfl ?_
                      refine at_iload ok dX8_quarrel_98 rfl ?_
                      refine at_cVi (As := [.int (a2), .int (x69), .int (x78)]) ok ct_8_quarrel_270 dX8_quarrel_100 (by simp [cat_rf, cat_i, cat_l]) (s8_isFor t a2 x69 x78 _) h fun v100 σ h => ?_
                      refine bt_if_eq (tgt := 114) ok dX8_quarrel_103 (by decide) h (fun hc h => ?_) (fun hc h => ?_)
                      · refine at_iinc (v := x78 + 1) ok dX8_quarrel_114 rfl rfl (lc_int rfl) (by decide) ?_
                        refine at_goto (tgt := 78) ok dX8_quarrel_117 (by decide) ?_
                        exact at_weak (lw_s (lw_s (lw_s (lw_s (lw_s lw_0))))) (ih (x78 + 1) _ h)
                      · refine at_bipush (v := 10) ok dX8_quarrel_106 (by decide) ?_
                        refine at_iloadn ok dX8_quarrel_108 rfl ?_
                        refine at_imul ok dX8_quarrel_109 ?_
                        refine at_iload ok dX8_quarrel_110 rfl ?_
                        refine at_iadd ok dX8_quarrel_112 ?_
                        exact at_iret ok fn ⟨_, rfl, rfl⟩ dX8_quarrel_113 (hr_inl (hr_inl h))
        · refine at_iconst (v := (-1)) ok dX8_quarrel_65 (by decide) ?_
          exact at_iret ok fn ⟨_, rfl, rfl⟩ dX8_quarrel_66 h
set_option maxRecDepth 100000 in
set_option maxHeartbeats 4000000 in
theorem s8_insert (t : Option Nat) (a1 : Int32) (a2 : Int32) (a3 : Int32) (a4 : Int32) (a5 : Int32) (σ : AH) (Q : Unit → AH → Prop) (h : Hr (f8_insert t a1 a2 a3 a4 a5) σ Q) : Runs m8_insert σ [va_rf t, .int (a1), .int (a2), .int (a3), .int (a4), .int (a5)] (fun v σ1 => ∃ a, v = none ∧ Q a σ1) := by
  obtain ⟨a0, σ1, e, hQ⟩ := h
  have hm := n8_insert t a1 a2 a3 a4 a5 σ a0 σ1 e
  have h : Hr (f8_insert t a1 a2 a3 a4 a5) σ (fun a σ2 => a = a0 ∧ σ2 = σ1) := ⟨a0, σ1, e, rfl, rfl⟩
  refine ⟨_, σ1, hm, ⟨a0, rfl, hQ⟩, runs_of (by decide +kernel) (by simp [cat_rf, cat_i, cat_l]) (Nat.le_of_ble_eq_true rfl) hm fun X ok fn => ?_⟩
  clear e hQ hm
  unfold f8_insert at h
  show AT X m8_insert 0 [some (va_rf (t)), some (.int (a1)), some (.int (a2)), some (.int (a3)), some (.int (a4)), some (.int (a5)), none] [] σ
  refine at_aloadn ok dX8_insert_0 rfl ?_
  refine at_getI ok gf_8_232 dX8_insert_1 h fun v1 h => ?_
  refine at_istore ok dX8_insert_4 (lc_int rfl) (by decide) ?_
  refine at_weak (L' := [some (va_rf (t)), some (.int (a1)), some (.int (a2)), some (.int (a3)), some (.int (a4)), some (.int (a5)), some (.int (v1))]) (lw_s (lw_s (lw_s (lw_s (lw_s (lw_s (lw_s lw_0))))))) ?_
  refine at_loop (fun x6 σ => AT X m8_insert 6 [some (va_rf (t)), some (.int (a1)), some (.int (a2)), some (.int (a3)), some (.int (a4)), some (.int (a5)), some (.int (x6))] [] σ) (fun y82 σ => AT X m8_insert 82 [some (va_rf (t)), some (.int (a1)), some (.int (a2)), some (.int (a3)), some (.int (a4)), some (.int (a5)), none] [] σ) h (fun y82 σ h => ?_) (fun kx rec ih x6 σ h => ?_)
  · refine at_aloadn ok dX8_insert_82 rfl ?_
    refine at_getR ok gf_8_116 dX8_insert_83 h fun v83 h => ?_
    refine at_iloadn ok dX8_insert_86 rfl ?_
    refine at_iloadn ok dX8_insert_87 rfl ?_
    refine at_iast ok dX8_insert_88 h fun σ h => ?_
    refine at_aloadn ok dX8_insert_89 rfl ?_
    refine at_getR ok gf_8_119 dX8_insert_90 h fun v90 h => ?_
    refine at_iloadn ok dX8_insert_93 rfl ?_
    refine at_iloadn ok dX8_insert_94 rfl ?_
    refine at_iast ok dX8_insert_95 h fun σ h => ?_
    refine at_aloadn ok dX8_insert_96 rfl ?_
    refine at_getR ok gf_8_122 dX8_insert_97 h fun v97 h => ?_
    refine at_iloadn ok dX8_insert_100 rfl ?_
    refine at_iload ok dX8_insert_101 rfl ?_
    refine at_iast ok dX8_insert_103 h fun σ h => ?_
    refine at_aloadn ok dX8_insert_104 rfl ?_
    refine at_getR ok gf_8_125 dX8_insert_105 h fun v105 h => ?_
    refine at_iloadn ok dX8_insert_108 rfl ?_
    refine at_iload ok dX8_insert_109 rfl ?_
    refine at_iast ok dX8_insert_111 h fun σ h => ?_
    refine at_aloadn ok dX8_insert_112 rfl ?_
    refine at_dup ok dX8_insert_113 (cat_rf _) ?_
    refine at_getI ok gf_8_232 dX8_insert_114 h fun v114 h => ?_
    refine at_iconst (v := 1) ok dX8_insert_117 (by decide) ?_
    refine at_iadd ok dX8_insert_118 ?_
    refine at_putI ok (pf_8_232 _) dX8_insert_119 h fun σ h => ?_
    exact at_vret ok fn rfl dX8_insert_122 h
  · unfold l8_insert_6 at h
    refine at_iload ok dX8_insert_6 rfl ?_
    refine at_iloadn ok dX8_insert_8 rfl ?_
    refine bt_icmp_le (tgt := 82) ok dX8_insert_9 (by decide) h (fun hc h => ?_) (fun hc h => ?_)
    · exact at_weak (lw_s (lw_s (lw_s (lw_s (lw_s (lw_s (lw_n lw_0))))))) (kx () _ (hr_rt.mp h))
    · refine at_aloadn ok dX8_insert_12 rfl ?_
      refine at_getR ok gf_8_116 dX8_insert_13 h fun v13 h => ?_
      refine at_iload ok dX8_insert_16 rfl ?_
      refine at_aloadn ok dX8_insert_18 rfl ?_
      refine at_getR ok gf_8_116 dX8_insert_19 h fun v19 h => ?_
      refine at_iload ok dX8_insert_22 rfl ?_
      refine at_iconst (v := 1) ok dX8_insert_24 (by decide) ?_
      refine at_isub ok dX8_insert_25 ?_
      refine at_iald ok dX8_insert_26 h fun v26 h => ?_
      refine at_iast ok dX8_insert_27 h fun σ h => ?_
      refine at_aloadn ok dX8_insert_28 rfl ?_
      refine at_getR ok gf_8_119 dX8_insert_29 h fun v29 h => ?_
      refine at_iload ok dX8_insert_32 rfl ?_
      refine at_aloadn ok dX8_insert_34 rfl ?_
      refine at_getR ok gf_8_119 dX8_insert_35 h fun v35 h => ?_
      refine at_iload ok dX8_insert_38 rfl ?_
      refine at_iconst (v := 1) ok dX8_insert_40 (by decide) ?_
      refine at_isub ok dX8_insert_41 ?_
      refine at_iald ok dX8_insert_42 h fun v42 h => ?_
      refine at_iast ok dX8_insert_43 h fun σ h => ?_
      refine at_aloadn ok dX8_insert_44 rfl ?_
      refine at_getR ok gf_8_122 dX8_insert_45 h fun v45 h => ?_
      refine at_iload ok dX8_insert_48 rfl ?_
      refine at_aloadn ok dX8_insert_50 rfl ?_
      refine at_getR ok gf_8_122 dX8_insert_51 h fun v51 h => ?_
      refine at_iload ok dX8_insert_54 rfl ?_
      refine at_iconst (v := 1) ok dX8_insert_56 (by decide) ?_
      refine at_isub ok dX8_insert_57 ?_
      refine at_iald ok dX8_insert_58 h fun v58 h => ?_
      refine at_iast ok dX8_insert_59 h fun σ h => ?_
      refine at_aloadn ok dX8_insert_60 rfl ?_
      refine at_getR ok gf_8_125 dX8_insert_61 h fun v61 h => ?_
      refine at_iload ok dX8_insert_64 rfl ?_
      refine at_aloadn ok dX8_insert_66 rfl ?_
      refine at_getR ok gf_8_125 dX8_insert_67 h fun v67 h => ?_
      refine at_iload ok dX8_insert_70 rfl ?_
      refine at_iconst (v := 1) ok dX8_insert_72 (by decide) ?_
      refine at_isub ok dX8_insert_73 ?_
      refine at_iald ok dX8_insert_74 h fun v74 h => ?_
      refine at_iast ok dX8_insert_75 h fun σ h => ?_
      refine at_iinc (v := x6 + (-1)) ok dX8_insert_76 rfl rfl (lc_int rfl) (by decide) ?_
      refine at_goto (tgt := 6) ok dX8_insert_79 (by decide) ?_
      exact at_weak (lw_s (lw_s (lw_s (lw_s (lw_s (lw_s (lw_s lw_0))))))) (ih (x6 + (-1)) _ h)
set_option maxRecDepth 100000 in
set_option maxHeartbeats 4000000 in
theorem s8_isRule (t : Option Nat) (a1 : Int32) (a2 : Int32) (a3 : Int32) (a4 : Int32) (a5 : Int32) (σ : AH) (Q : Int32 → AH → Prop) (h : Hr (f8_isRule t a1 a2 a3 a4 a5) σ Q) : Runs m8_isRule σ [va_rf t, .int (a1), .int (a2), .int (a3), .int (a4), .int (a5)] (fun v σ1 => ∃ a, v = some (.int a) ∧ Q a σ1) := by
  obtain ⟨a0, σ1, e, hQ⟩ := h
  have hm := n8_isRule t a1 a2 a3 a4 a5 σ a0 σ1 e
  have h : Hr (f8_isRule t a1 a2 a3 a4 a5) σ (fun a σ2 => a = a0 ∧ σ2 = σ1) := ⟨a0, σ1, e, rfl, rfl⟩
  refine ⟨_, σ1, hm, ⟨a0, rfl, hQ⟩, runs_of (by decide +kernel) (by simp [cat_rf, cat_i, cat_l]) (Nat.le_of_ble_eq_true rfl) hm fun X ok fn => ?_⟩
  clear e hQ hm
  unfold f8_isRule at h
  show AT X m8_isRule 0 [some (va_rf (t)), some (.int (a1)), some (.int (a2)), some (.int (a3)), some (.int (a4)), some (.int (a5))] [] σ
  refine at_iloadn ok dX8_isRule_0 rfl ?_
  refine at_iconst (v := 0) ok dX8_isRule_1 (by decide) ?_
  refine at_aloadn ok dX8_isRule_2 rfl ?_
  refine at_getI ok gf_8_232 dX8_isRule_3 h fun v3 h => ?_
  refine at_cSi (As := [.int (a1), .int (0), .int (v3)]) ok ct_8_isRule_128 dX8_isRule_6 (by simp [cat_rf, cat_i, cat_l]) (s8_in a1 0 v3 _) h fun v6 σ h => ?_
  refine bt_if_eq (tgt := 56) ok dX8_isRule_9 (by decide) h (fun hc h => ?_) (fun hc h => ?_)
  · refine at_iconst (v := 0) ok dX8_isRule_56 (by decide) ?_
    exact at_iret ok fn ⟨_, rfl, rfl⟩ dX8_isRule_57 h
  · refine at_iloadn ok dX8_isRule_12 rfl ?_
    refine at_iconst (v := (-1)) ok dX8_isRule_13 (by decide) ?_
    refine at_bipush (v := 9) ok dX8_isRule_14 (by decide) ?_
    refine at_cSi (As := [.int (a2), .int ((-1)), .int (9)]) ok ct_8_isRule_128 dX8_isRule_16 (by simp [cat_rf, cat_i, cat_l]) (s8_in a2 (-1) 9 _) h fun v16 σ h => ?_
    refine bt_if_eq (tgt := 56) ok dX8_isRule_19 (by decide) h (fun hc h => ?_) (fun hc h => ?_)
    · refine at_iconst (v := 0) ok dX8_isRule_56 (by decide) ?_
      exact at_iret ok fn ⟨_, rfl, rfl⟩ dX8_isRule_57 h
    · refine at_iloadn ok dX8_isRule_22 rfl ?_
      refine at_iconst (v := (-1)) ok dX8_isRule_23 (by decide) ?_
      refine at_iconst (v := 2) ok dX8_isRule_24 (by decide) ?_
      refine at_cSi (As := [.int (a3), .int ((-1)), .int (2)]) ok ct_8_isRule_128 dX8_isRule_25 (by simp [cat_rf, cat_i, cat_l]) (s8_in a3 (-1) 2 _) h fun v25 σ h => ?_
      refine bt_if_eq (tgt := 56) ok dX8_isRule_28 (by decide) h (fun hc h => ?_) (fun hc h => ?_)
      · refine at_iconst (v := 0) ok dX8_isRule_56 (by decide) ?_
        exact at_iret ok fn ⟨_, rfl, rfl⟩ dX8_isRule_57 h
      · refine at_iload ok dX8_isRule_31 rfl ?_
        refine at_iconst (v := 0) ok dX8_isRule_33 (by decide) ?_
        refine at_bipush (v := 7) ok dX8_isRule_34 (by decide) ?_
        refine at_cSi (As := [.int (a4), .int (0), .int (7)]) ok ct_8_isRule_128 dX8_isRule_36 (by simp [cat_rf, cat_i, cat_l]) (s8_in a4 0 7 _) h fun v36 σ h => ?_
        refine bt_if_eq (tgt := 56) ok dX8_isRule_39 (by decide) h (fun hc h => ?_) (fun hc h => ?_)
        · refine at_iconst (v := 0) ok dX8_isRule_56 (by decide) ?_
          exact at_iret ok fn ⟨_, rfl, rfl⟩ dX8_isRule_57 h
        · refine at_iload ok dX8_isRule_42 rfl ?_
          refine at_iconst (v := 0) ok dX8_isRule_44 (by decide) ?_
          refine at_iconst (v := 4) ok dX8_isRule_45 (by decide) ?_
          refine at_cSi (As := [.int (a5), .int (0), .int (4)]) ok ct_8_isRule_128 dX8_isRule_46 (by simp [cat_rf, cat_i, cat_l]) (s8_in a5 0 4 _) h fun v46 σ h => ?_
          refine bt_if_eq (tgt := 56) ok dX8_isRule_49 (by decide) h (fun hc h => ?_) (fun hc h => ?_)
          · refine at_iconst (v := 0) ok dX8_isRule_56 (by decide) ?_
            exact at_iret ok fn ⟨_, rfl, rfl⟩ dX8_isRule_57 h
          · refine at_iconst (v := 1) ok dX8_isRule_52 (by decide) ?_
            refine at_goto (tgt := 57) ok dX8_isRule_53 (by decide) ?_
            exact at_iret ok fn ⟨_, rfl, rfl⟩ dX8_isRule_57 h
set_option maxRecDepth 100000 in
set_option maxHeartbeats 4000000 in
theorem s8_rule (t : Option Nat) (a1 : Int32) (a2 : Int32) (a3 : Int32) (a4 : Int32) (a5 : Int32) (σ : AH) (Q : Int32 → AH → Prop) (h : Hr (f8_rule t a1 a2 a3 a4 a5) σ Q) : Runs m8_rule σ [va_rf t, .int (a1), .int (a2), .int (a3), .int (a4), .int (a5)] (fun v σ1 => ∃ a, v = some (.int a) ∧ Q a σ1) := by
  obtain ⟨a0, σ1, e, hQ⟩ := h
  have hm := n8_rule t a1 a2 a3 a4 a5 σ a0 σ1 e
  have h : Hr (f8_rule t a1 a2 a3 a4 a5) σ (fun a σ2 => a = a0 ∧ σ2 = σ1) := ⟨a0, σ1, e, rfl, rfl⟩
  refine ⟨_, σ1, hm, ⟨a0, rfl, hQ⟩, runs_of (by decide +kernel) (by simp [cat_rf, cat_i, cat_l]) (Nat.le_of_ble_eq_true rfl) hm fun X ok fn => ?_⟩
  clear e hQ hm
  unfold f8_rule at h
  show AT X m8_rule 0 [some (va_rf (t)), some (.int (a1)), some (.int (a2)), some (.int (a3)), some (.int (a4)), some (.int (a5))] [] σ
  refine at_aloadn ok dX8_rule_0 rfl ?_
  refine at_iloadn ok dX8_rule_1 rfl ?_
  refine at_iloadn ok dX8_rule_2 rfl ?_
  refine at_iloadn ok dX8_rule_3 rfl ?_
  refine at_iload ok dX8_rule_4 rfl ?_
  refine at_iload ok dX8_rule_6 rfl ?_
  refine at_cVi (As := [.int (a1), .int (a2), .int (a3), .int (a4), .int (a5)]) ok ct_8_rule_235 dX8_rule_8 (by simp [cat_rf, cat_i, cat_l]) (s8_isRule t a1 a2 a3 a4 a5 _) h fun v8 σ h => ?_
  refine bt_if_eq (tgt := 23) ok dX8_rule_11 (by decide) h (fun hc h => ?_) (fun hc h => ?_)
  · refine at_iconst (v := (-1)) ok dX8_rule_23 (by decide) ?_
    exact at_iret ok fn ⟨_, rfl, rfl⟩ dX8_rule_24 h
  · refine at_aloadn ok dX8_rule_14 rfl ?_
    refine at_getI ok gf_8_232 dX8_rule_15 h fun v15 h => ?_
    refine at_bipush (v := 20) ok dX8_rule_18 (by decide) ?_
    refine bt_icmp_ne (tgt := 25) ok dX8_rule_20 (by decide) h (fun hc h => ?_) (fun hc h => ?_)
    · refine at_iconst (v := (-1)) ok dX8_rule_23 (by decide) ?_
      exact at_iret ok fn ⟨_, rfl, rfl⟩ dX8_rule_24 h
    · refine at_aloadn ok dX8_rule_25 rfl ?_
      refine at_iloadn ok dX8_rule_26 rfl ?_
      refine at_iloadn ok dX8_rule_27 rfl ?_
      refine at_iloadn ok dX8_rule_28 rfl ?_
      refine at_iload ok dX8_rule_29 rfl ?_
      refine at_iload ok dX8_rule_31 rfl ?_
      refine at_cVv (As := [.int (a1), .int (a2), .int (a3), .int (a4), .int (a5)]) ok ct_8_rule_239 dX8_rule_33 (by simp [cat_rf, cat_i, cat_l]) (s8_insert t a1 a2 a3 a4 a5 _) h fun v33 σ h => ?_
      refine at_aloadn ok dX8_rule_36 rfl ?_
      refine at_getI ok gf_8_232 dX8_rule_37 h fun v37 h => ?_
      exact at_iret ok fn ⟨_, rfl, rfl⟩ dX8_rule_40 h
set_option maxRecDepth 100000 in
set_option maxHeartbeats 4000000 in
theorem s8_longer (a1 : Option Nat) (σ : AH) (Q : Option Nat → AH → Prop) (h : Hr (f8_longer a1) σ Q) : Runs m8_longer σ [va_rf (a1)] (fun v σ1 => ∃ a, v = some (va_rf a) ∧ Q a σ1) := by
  obtain ⟨a0, σ1, e, hQ⟩ := h
  have hm := n8_longer a1 σ a0 σ1 e
  have h : Hr (f8_longer a1) σ (fun a σ2 => a = a0 ∧ σ2 = σ1) := ⟨a0, σ1, e, rfl, rfl⟩
  refine ⟨_, σ1, hm, ⟨a0, rfl, hQ⟩, runs_of (by decide +kernel) (by simp [cat_rf, cat_i, cat_l]) (Nat.le_of_ble_eq_true rfl) hm fun X ok fn => ?_⟩
  clear e hQ hm
  unfold f8_longer at h
  show AT X m8_longer 0 [some (va_rf (a1)), none, none] [] σ
  refine at_iconst (v := 2) ok dX8_longer_0 (by decide) ?_
  refine at_aloadn ok dX8_longer_1 rfl ?_
  refine at_alen (t := 0) (by decide) ok dX8_longer_2 h fun v2 h => ?_
  refine at_imul ok dX8_longer_3 ?_
  refine at_newA (atype := .int) (t := 0) rfl (Or.inl rfl) wd_41 ok dX8_longer_4 h fun v4 σ h => ?_
  refine at_astoren ok dX8_longer_6 rfl (lc_ref rfl) (by decide) ?_
  refine at_iconst (v := 0) ok dX8_longer_7 (by decide) ?_
  refine at_istoren ok dX8_longer_8 rfl (lc_ref rfl) (by decide) ?_
  refine at_weak (L' := [some (va_rf (a1)), some (va_rf (v4)), some (.int (0))]) (lw_s (lw_s (lw_s lw_0))) ?_
  refine at_loop (fun x9 σ => AT X m8_longer 9 [some (va_rf (a1)), some (va_rf (v4)), some (.int (x9))] [] σ) (fun y27 σ => AT X m8_longer 27 [none, some (va_rf (v4)), none] [] σ) h (fun y27 σ h => ?_) (fun kx rec ih x9 σ h => ?_)
  · refine at_aloadn ok dX8_longer_27 rfl ?_
    exact at_aret ok fn ⟨_, rfl, Or.inr ⟨_, rfl⟩⟩ dX8_longer_28 h
  · unfold l8_longer_9 at h
    refine at_iloadn ok dX8_longer_9 rfl ?_
    refine at_aloadn ok dX8_longer_10 rfl ?_
    refine at_alen (t := 0) (by decide) ok dX8_longer_11 h fun v11 h => ?_
    refine bt_icmp_ge (tgt := 27) ok dX8_longer_12 (by decide) h (fun hc h => ?_) (fun hc h => ?_)
    · exact at_weak (lw_n (lw_s (lw_n lw_0))) (kx () _ (hr_rt.mp h))
    · refine at_aloadn ok dX8_longer_15 rfl ?_
      refine at_iloadn ok dX8_longer_16 rfl ?_
      refine at_aloadn ok dX8_longer_17 rfl ?_
      refine at_iloadn ok dX8_longer_18 rfl ?_
      refine at_iald ok dX8_longer_19 h fun v19 h => ?_
      refine at_iast ok dX8_longer_20 h fun σ h => ?_
      refine at_iinc (v := x9 + 1) ok dX8_longer_21 rfl rfl (lc_ref rfl) (by decide) ?_
      refine at_goto (tgt := 9) ok dX8_longer_24 (by decide) ?_
      exact at_weak (lw_s (lw_s (lw_s lw_0))) (ih (x9 + 1) _ h)
set_option maxRecDepth 100000 in
set_option maxHeartbeats 4000000 in
theorem s8_found (t : Option Nat) (a1 : Int32) (a2 : Int32) (a3 : Int32) (a4 : Int32) (σ : AH) (Q : Unit → AH → Prop) (h : Hr (f8_found t a1 a2 a3 a4) σ Q) : Runs m8_found σ [va_rf t, .int (a1), .int (a2), .int (a3), .int (a4)] (fun v σ1 => ∃ a, v = none ∧ Q a σ1) := by
  obtain ⟨a0, σ1, e, hQ⟩ := h
  have hm := n8_found t a1 a2 a3 a4 σ a0 σ1 e
  have h : Hr (f8_found t a1 a2 a3 a4) σ (fun a σ2 => a = a0 ∧ σ2 = σ1) := ⟨a0, σ1, e, rfl, rfl⟩
  refine ⟨_, σ1, hm, ⟨a0, rfl, hQ⟩, runs_of (by decide +kernel) (by simp [cat_rf, cat_i, cat_l]) (Nat.le_of_ble_eq_true rfl) hm fun X ok fn => ?_⟩
  clear e hQ hm
  unfold f8_found at h
  show AT X m8_found 0 [some (va_rf (t)), some (.int (a1)), some (.int (a2)), some (.int (a3)), some (.int (a4))] [] σ
  refine at_iload ok dX8_found_0 rfl ?_
  refine bt_if_eq (tgt := 100) ok dX8_found_2 (by decide) h (fun hc h => ?_) (fun hc h => ?_)
  · exact at_vret ok fn rfl dX8_found_100 h
  · refine at_aloadn ok dX8_found_5 rfl ?_
    refine at_getI ok gf_8_193 dX8_found_6 h fun v6 h => ?_
    refine at_aloadn ok dX8_found_9 rfl ?_
    refine at_getR ok gf_8_107 dX8_found_10 h fun v10 h => ?_
    refine at_alen (t := 0) (by decide) ok dX8_found_13 h fun v13 h => ?_
    refine at_join (fun y50 σ => AT X m8_found 50 [some (va_rf (t)), some (.int (a1)), some (.int (a2)), some (.int (a3)), none] [] σ) h (fun y50 σ h => ?_) (fun h j50 => ?_)
    · refine at_aloadn ok dX8_found_50 rfl ?_
      refine at_getR ok gf_8_107 dX8_found_51 h fun v51 h => ?_
      refine at_aloadn ok dX8_found_54 rfl ?_
      refine at_getI ok gf_8_193 dX8_found_55 h fun v55 h => ?_
      refine at_aloadn ok dX8_found_58 rfl ?_
      refine at_getR ok gf_8_16 dX8_found_59 h fun v59 h => ?_
      refine at_iloadn ok dX8_found_62 rfl ?_
      refine at_iald ok dX8_found_63 h fun v63 h => ?_
      refine at_iast ok dX8_found_64 h fun σ h => ?_
      refine at_aloadn ok dX8_found_65 rfl ?_
      refine at_getR ok gf_8_110 dX8_found_66 h fun v66 h => ?_
      refine at_aloadn ok dX8_found_69 rfl ?_
      refine at_getI ok gf_8_193 dX8_found_70 h fun v70 h => ?_
      refine at_aloadn ok dX8_found_73 rfl ?_
      refine at_getR ok gf_8_19 dX8_found_74 h fun v74 h => ?_
      refine at_iloadn ok dX8_found_77 rfl ?_
      refine at_iald ok dX8_found_78 h fun v78 h => ?_
      refine at_iast ok dX8_found_79 h fun σ h => ?_
      refine at_aloadn ok dX8_found_80 rfl ?_
      refine at_getR ok gf_8_113 dX8_found_81 h fun v81 h => ?_
      refine at_aloadn ok dX8_found_84 rfl ?_
      refine at_getI ok gf_8_193 dX8_found_85 h fun v85 h => ?_
      refine at_iloadn ok dX8_found_88 rfl ?_
      refine at_iast ok dX8_found_89 h fun σ h => ?_
      refine at_aloadn ok dX8_found_90 rfl ?_
      refine at_dup ok dX8_found_91 (cat_rf _) ?_
      refine at_getI ok gf_8_193 dX8_found_92 h fun v92 h => ?_
      refine at_iconst (v := 1) ok dX8_found_95 (by decide) ?_
      refine at_iadd ok dX8_found_96 ?_
      refine at_putI ok (pf_8_193 _) dX8_found_97 h fun σ h => ?_
      exact at_vret ok fn rfl dX8_found_100 h
    · refine bt_icmp_ne (tgt := 50) ok dX8_found_14 (by decide) h (fun hc h => ?_) (fun hc h => ?_)
      · refine at_aloadn ok dX8_found_17 rfl ?_
        refine at_aloadn ok dX8_found_18 rfl ?_
        refine at_getR ok gf_8_107 dX8_found_19 h fun v19 h => ?_
        refine at_cSr (As := [va_rf (v19)]) ok ct_8_found_196 dX8_found_22 (by simp [cat_rf, cat_i, cat_l]) (s8_longer v19 _) h fun v22 σ h => ?_
        refine at_putR ok (pf_8_107 _) (Or.inr ⟨_, rfl⟩) dX8_found_25 h fun σ h => ?_
        refine at_aloadn ok dX8_found_28 rfl ?_
        refine at_aloadn ok dX8_found_29 rfl ?_
        refine at_getR ok gf_8_110 dX8_found_30 h fun v30 h => ?_
        refine at_cSr (As := [va_rf (v30)]) ok ct_8_found_196 dX8_found_33 (by simp [cat_rf, cat_i, cat_l]) (s8_longer v30 _) h fun v33 σ h => ?_
        refine at_putR ok (pf_8_110 _) (Or.inr ⟨_, rfl⟩) dX8_found_36 h fun σ h => ?_
        refine at_aloadn ok dX8_found_39 rfl ?_
        refine at_aloadn ok dX8_found_40 rfl ?_
        refine at_getR ok gf_8_113 dX8_found_41 h fun v41 h => ?_
        refine at_cSr (As := [va_rf (v41)]) ok ct_8_found_196 dX8_found_44 (by simp [cat_rf, cat_i, cat_l]) (s8_longer v41 _) h fun v44 σ h => ?_
        refine at_putR ok (pf_8_113 _) (Or.inr ⟨_, rfl⟩) dX8_found_47 h fun σ h => ?_
        exact at_weak (lw_s (lw_s (lw_s (lw_s (lw_n lw_0))))) (j50 () _ (hr_rt.mp h))
      · exact at_weak (lw_s (lw_s (lw_s (lw_s (lw_n lw_0))))) (j50 () _ (hr_rt.mp h))
