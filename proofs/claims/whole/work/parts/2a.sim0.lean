set_option maxRecDepth 100000 in
set_option maxHeartbeats 4000000 in
theorem s3_init (t : Option Nat) (σ : AH) (Q : Unit → AH → Prop) (h : Hr (f3_init t) σ Q) : Runs m3_init σ [va_rf t] (fun v σ1 => ∃ a, v = none ∧ Q a σ1) := by
  obtain ⟨a0, σ1, e, hQ⟩ := h
  have hm := n3_init t σ a0 σ1 e
  have h : Hr (f3_init t) σ (fun a σ2 => a = a0 ∧ σ2 = σ1) := ⟨a0, σ1, e, rfl, rfl⟩
  refine ⟨_, σ1, hm, ⟨a0, rfl, hQ⟩, runs_of (by decide +kernel) (by simp [cat_rf, cat_i, cat_l]) (Nat.le_of_ble_eq_true rfl) hm fun X ok fn => ?_⟩
  clear e hQ hm
  unfold f3_init at h
  show AT X m3_init 0 [some (va_rf (t))] [] σ
  refine at_aloadn ok dX3_init_0 rfl ?_
  refine at_oI wd_90 wd_19 wd_20 (by decide) (by simp [cat_rf, cat_i, cat_l]) ok dX3_init_1 h fun h => ?_
  refine at_aloadn ok dX3_init_4 rfl ?_
  refine at_lconst (v := 0) ok dX3_init_5 (by decide) ?_
  refine at_putL ok (pf_3_7 _) dX3_init_6 h fun σ h => ?_
  refine at_aloadn ok dX3_init_9 rfl ?_
  refine at_lconst (v := 0) ok dX3_init_10 (by decide) ?_
  refine at_putL ok (pf_3_13 _) dX3_init_11 h fun σ h => ?_
  refine at_aloadn ok dX3_init_14 rfl ?_
  refine at_lconst (v := 0) ok dX3_init_15 (by decide) ?_
  refine at_putL ok (pf_3_16 _) dX3_init_16 h fun σ h => ?_
  exact at_vret ok fn rfl dX3_init_19 h
set_option maxRecDepth 100000 in
set_option maxHeartbeats 4000000 in
theorem s0_init (t : Option Nat) (a1 : Int32) (σ : AH) (Q : Unit → AH → Prop) (h : Hr (f0_init t a1) σ Q) : Runs m0_init σ [va_rf t, .int (a1)] (fun v σ1 => ∃ a, v = none ∧ Q a σ1) := by
  obtain ⟨a0, σ1, e, hQ⟩ := h
  have hm := n0_init t a1 σ a0 σ1 e
  have h : Hr (f0_init t a1) σ (fun a σ2 => a = a0 ∧ σ2 = σ1) := ⟨a0, σ1, e, rfl, rfl⟩
  refine ⟨_, σ1, hm, ⟨a0, rfl, hQ⟩, runs_of (by decide +kernel) (by simp [cat_rf, cat_i, cat_l]) (Nat.le_of_ble_eq_true rfl) hm fun X ok fn => ?_⟩
  clear e hQ hm
  unfold f0_init at h
  show AT X m0_init 0 [some (va_rf (t)), some (.int (a1)), none] [] σ
  refine at_aloadn ok dX0_init_0 rfl ?_
  refine at_oI wd_84 wd_19 wd_20 (by decide) (by simp [cat_rf, cat_i, cat_l]) ok dX0_init_1 h fun h => ?_
  refine at_aloadn ok dX0_init_4 rfl ?_
  refine at_newO ok nw_0_9 dX0_init_5 h fun v5 σ h => ?_
  refine at_dup ok dX0_init_8 (cat_rf _) ?_
  refine at_cI (As := []) ok ct_0_init_11 dX0_init_9 (by simp [cat_rf, cat_i, cat_l]) (s3_init v5  _) h fun v9 σ h => ?_
  refine at_putR ok pf_0_12 (Or.inl ⟨_, rfl⟩) dX0_init_12 h fun σ h => ?_
  refine at_aloadn ok dX0_init_15 rfl ?_
  refine at_iconst (v := 0) ok dX0_init_16 (by decide) ?_
  refine at_putI ok (pf_0_18 _) dX0_init_17 h fun σ h => ?_
  refine at_iloadn ok dX0_init_20 rfl ?_
  refine at_iconst (v := 0) ok dX0_init_21 (by decide) ?_
  refine at_mmax wd_101 wd_51 wd_4 wd_52 (by decide) (by simp [cat_rf, cat_i, cat_l]) ok dX0_init_22 ?_
  refine at_istoren ok dX0_init_25 rfl (lc_int rfl) (by decide) ?_
  refine at_aloadn ok dX0_init_26 rfl ?_
  refine at_iloadn ok dX0_init_27 rfl ?_
  refine at_newA (atype := .int) (t := 0) rfl (Or.inl rfl) wd_41 ok dX0_init_28 h fun v28 σ h => ?_
  refine at_putR ok pf_0_28 (Or.inr ⟨_, rfl⟩) dX0_init_30 h fun σ h => ?_
  refine at_aloadn ok dX0_init_33 rfl ?_
  refine at_iloadn ok dX0_init_34 rfl ?_
  refine at_newA (atype := .int) (t := 0) rfl (Or.inl rfl) wd_41 ok dX0_init_35 h fun v35 σ h => ?_
  refine at_putR ok pf_0_32 (Or.inr ⟨_, rfl⟩) dX0_init_37 h fun σ h => ?_
  refine at_aloadn ok dX0_init_40 rfl ?_
  refine at_iloadn ok dX0_init_41 rfl ?_
  refine at_newA (atype := .int) (t := 0) rfl (Or.inl rfl) wd_41 ok dX0_init_42 h fun v42 σ h => ?_
  refine at_putR ok pf_0_35 (Or.inr ⟨_, rfl⟩) dX0_init_44 h fun σ h => ?_
  exact at_vret ok fn rfl dX0_init_47 h
set_option maxRecDepth 100000 in
set_option maxHeartbeats 4000000 in
theorem s1_init (t : Option Nat) (a1 : Int32) (a2 : Option Nat) (a3 : Int32) (a4 : Int32) (a5 : Int32) (a6 : Int32) (σ : AH) (Q : Unit → AH → Prop) (h : Hr (f1_init t a1 a2 a3 a4 a5 a6) σ Q) : Runs m1_init σ [va_rf t, .int (a1), va_rf (a2), .int (a3), .int (a4), .int (a5), .int (a6)] (fun v σ1 => ∃ a, v = none ∧ Q a σ1) := by
  obtain ⟨a0, σ1, e, hQ⟩ := h
  have hm := n1_init t a1 a2 a3 a4 a5 a6 σ a0 σ1 e
  have h : Hr (f1_init t a1 a2 a3 a4 a5 a6) σ (fun a σ2 => a = a0 ∧ σ2 = σ1) := ⟨a0, σ1, e, rfl, rfl⟩
  refine ⟨_, σ1, hm, ⟨a0, rfl, hQ⟩, runs_of (by decide +kernel) (by simp [cat_rf, cat_i, cat_l]) (Nat.le_of_ble_eq_true rfl) hm fun X ok fn => ?_⟩
  clear e hQ hm
  unfold f1_init at h
  show AT X m1_init 0 [some (va_rf (t)), some (.int (a1)), some (va_rf (a2)), some (.int (a3)), some (.int (a4)), some (.int (a5)), some (.int (a6))] [] σ
  refine at_aloadn ok dX1_init_0 rfl ?_
  refine at_oI wd_126 wd_19 wd_20 (by decide) (by simp [cat_rf, cat_i, cat_l]) ok dX1_init_1 h fun h => ?_
  refine at_aloadn ok dX1_init_4 rfl ?_
  refine at_iloadn ok dX1_init_5 rfl ?_
  refine at_putI ok pf_1_9 dX1_init_6 h fun σ h => ?_
  refine at_aloadn ok dX1_init_9 rfl ?_
  refine at_aloadn ok dX1_init_10 rfl ?_
  refine at_putR ok pf_1_15 (Or.inl ⟨_, rfl⟩) dX1_init_11 h fun σ h => ?_
  refine at_aloadn ok dX1_init_14 rfl ?_
  refine at_iloadn ok dX1_init_15 rfl ?_
  refine at_putI ok pf_1_19 dX1_init_16 h fun σ h => ?_
  refine at_aloadn ok dX1_init_19 rfl ?_
  refine at_iload ok dX1_init_20 rfl ?_
  refine at_putI ok pf_1_22 dX1_init_22 h fun σ h => ?_
  refine at_aloadn ok dX1_init_25 rfl ?_
  refine at_iload ok dX1_init_26 rfl ?_
  refine at_putI ok pf_1_25 dX1_init_28 h fun σ h => ?_
  refine at_aloadn ok dX1_init_31 rfl ?_
  refine at_iload ok dX1_init_32 rfl ?_
  refine at_putI ok pf_1_28 dX1_init_34 h fun σ h => ?_
  exact at_vret ok fn rfl dX1_init_37 h
set_option maxRecDepth 100000 in
set_option maxHeartbeats 4000000 in
theorem s5_init (t : Option Nat) (σ : AH) (Q : Unit → AH → Prop) (h : Hr (f5_init t) σ Q) : Runs m5_init σ [va_rf t] (fun v σ1 => ∃ a, v = none ∧ Q a σ1) := by
  obtain ⟨a0, σ1, e, hQ⟩ := h
  have hm := n5_init t σ a0 σ1 e
  have h : Hr (f5_init t) σ (fun a σ2 => a = a0 ∧ σ2 = σ1) := ⟨a0, σ1, e, rfl, rfl⟩
  refine ⟨_, σ1, hm, ⟨a0, rfl, hQ⟩, runs_of (by decide +kernel) (by simp [cat_rf, cat_i, cat_l]) (Nat.le_of_ble_eq_true rfl) hm fun X ok fn => ?_⟩
  clear e hQ hm
  unfold f5_init at h
  show AT X m5_init 0 [some (va_rf (t))] [] σ
  refine at_aloadn ok dX5_init_0 rfl ?_
  refine at_oI wd_30 wd_19 wd_20 (by decide) (by simp [cat_rf, cat_i, cat_l]) ok dX5_init_1 h fun h => ?_
  refine at_aloadn ok dX5_init_4 rfl ?_
  refine at_bipush (v := 21) ok dX5_init_5 (by decide) ?_
  refine at_newR (t := 5) rfl (by decide) wd_31 wd_32 ok dX5_init_7 h fun v7 σ h => ?_
  refine at_putR ok pf_5_11 (Or.inr ⟨_, rfl⟩) dX5_init_10 h fun σ h => ?_
  refine at_aloadn ok dX5_init_13 rfl ?_
  refine at_iconst (v := 0) ok dX5_init_14 (by decide) ?_
  refine at_putI ok (pf_5_17 _) dX5_init_15 h fun σ h => ?_
  exact at_vret ok fn rfl dX5_init_18 h
set_option maxRecDepth 100000 in
set_option maxHeartbeats 4000000 in
theorem s6_init (t : Option Nat) (a1 : Int32) (σ : AH) (Q : Unit → AH → Prop) (h : Hr (f6_init t a1) σ Q) : Runs m6_init σ [va_rf t, .int (a1)] (fun v σ1 => ∃ a, v = none ∧ Q a σ1) := by
  obtain ⟨a0, σ1, e, hQ⟩ := h
  have hm := n6_init t a1 σ a0 σ1 e
  have h : Hr (f6_init t a1) σ (fun a σ2 => a = a0 ∧ σ2 = σ1) := ⟨a0, σ1, e, rfl, rfl⟩
  refine ⟨_, σ1, hm, ⟨a0, rfl, hQ⟩, runs_of (by decide +kernel) (by simp [cat_rf, cat_i, cat_l]) (Nat.le_of_ble_eq_true rfl) hm fun X ok fn => ?_⟩
  clear e hQ hm
  unfold f6_init at h
  show AT X m6_init 0 [some (va_rf (t)), some (.int (a1)), none, none] [] σ
  refine at_aloadn ok dX6_init_0 rfl ?_
  refine at_oI wd_49 wd_19 wd_20 (by decide) (by simp [cat_rf, cat_i, cat_l]) ok dX6_init_1 h fun h => ?_
  refine at_aloadn ok dX6_init_4 rfl ?_
  refine at_iconst (v := 0) ok dX6_init_5 (by decide) ?_
  refine at_putI ok (pf_6_9 _) dX6_init_6 h fun σ h => ?_
  refine at_aloadn ok dX6_init_9 rfl ?_
  refine at_iconst (v := 0) ok dX6_init_10 (by decide) ?_
  refine at_putI ok (pf_6_15 _) dX6_init_11 h fun σ h => ?_
  refine at_iloadn ok dX6_init_14 rfl ?_
  refine at_iconst (v := 0) ok dX6_init_15 (by decide) ?_
  refine at_mmax wd_50 wd_51 wd_4 wd_52 (by decide) (by simp [cat_rf, cat_i, cat_l]) ok dX6_init_16 ?_
  refine at_istoren ok dX6_init_19 rfl (lc_int rfl) (by decide) ?_
  refine at_aloadn ok dX6_init_20 rfl ?_
  refine at_iloadn ok dX6_init_21 rfl ?_
  refine at_newA (atype := .int) (t := 0) rfl (Or.inl rfl) wd_41 ok dX6_init_22 h fun v22 σ h => ?_
  refine at_putR ok pf_6_24 (Or.inr ⟨_, rfl⟩) dX6_init_24 h fun σ h => ?_
  refine at_aloadn ok dX6_init_27 rfl ?_
  refine at_iloadn ok dX6_init_28 rfl ?_
  refine at_newA (atype := .int) (t := 0) rfl (Or.inl rfl) wd_41 ok dX6_init_29 h fun v29 σ h => ?_
  refine at_putR ok pf_6_28 (Or.inr ⟨_, rfl⟩) dX6_init_31 h fun σ h => ?_
  refine at_aloadn ok dX6_init_34 rfl ?_
  refine at_iloadn ok dX6_init_35 rfl ?_
  refine at_newA (atype := .int) (t := 0) rfl (Or.inl rfl) wd_41 ok dX6_init_36 h fun v36 σ h => ?_
  refine at_putR ok pf_6_31 (Or.inr ⟨_, rfl⟩) dX6_init_38 h fun σ h => ?_
  refine at_iloadn ok dX6_init_41 rfl ?_
  refine at_iconst (v := 1) ok dX6_init_42 (by decide) ?_
  refine at_iadd ok dX6_init_43 ?_
  refine at_iconst (v := 2) ok dX6_init_44 (by decide) ?_
  refine at_idiv ok dX6_init_45 (by decide) ?_
  refine at_istoren ok dX6_init_46 rfl (lc_int rfl) (by decide) ?_
  refine at_aloadn ok dX6_init_47 rfl ?_
  refine at_iloadn ok dX6_init_48 rfl ?_
  refine at_newA (atype := .int) (t := 0) rfl (Or.inl rfl) wd_41 ok dX6_init_49 h fun v49 σ h => ?_
  refine at_putR ok pf_6_34 (Or.inr ⟨_, rfl⟩) dX6_init_51 h fun σ h => ?_
  refine at_aloadn ok dX6_init_54 rfl ?_
  refine at_iloadn ok dX6_init_55 rfl ?_
  refine at_newA (atype := .int) (t := 0) rfl (Or.inl rfl) wd_41 ok dX6_init_56 h fun v56 σ h => ?_
  refine at_putR ok pf_6_37 (Or.inr ⟨_, rfl⟩) dX6_init_58 h fun σ h => ?_
  refine at_aloadn ok dX6_init_61 rfl ?_
  refine at_iloadn ok dX6_init_62 rfl ?_
  refine at_newA (atype := .int) (t := 0) rfl (Or.inl rfl) wd_41 ok dX6_init_63 h fun v63 σ h => ?_
  refine at_putR ok pf_6_40 (Or.inr ⟨_, rfl⟩) dX6_init_65 h fun σ h => ?_
  exact at_vret ok fn rfl dX6_init_68 h
set_option maxRecDepth 100000 in
set_option maxHeartbeats 4000000 in
theorem s7_init (t : Option Nat) (σ : AH) (Q : Unit → AH → Prop) (h : Hr (f7_init t) σ Q) : Runs m7_init σ [va_rf t] (fun v σ1 => ∃ a, v = none ∧ Q a σ1) := by
  obtain ⟨a0, σ1, e, hQ⟩ := h
  have hm := n7_init t σ a0 σ1 e
  have h : Hr (f7_init t) σ (fun a σ2 => a = a0 ∧ σ2 = σ1) := ⟨a0, σ1, e, rfl, rfl⟩
  refine ⟨_, σ1, hm, ⟨a0, rfl, hQ⟩, runs_of (by decide +kernel) (by simp [cat_rf, cat_i, cat_l]) (Nat.le_of_ble_eq_true rfl) hm fun X ok fn => ?_⟩
  clear e hQ hm
  unfold f7_init at h
  show AT X m7_init 0 [some (va_rf (t)), none, none, none] [] σ
  refine at_aloadn ok dX7_init_0 rfl ?_
  refine at_oI wd_18 wd_19 wd_20 (by decide) (by simp [cat_rf, cat_i, cat_l]) ok dX7_init_1 h fun h => ?_
  refine at_aloadn ok dX7_init_4 rfl ?_
  refine at_iconst (v := 0) ok dX7_init_5 (by decide) ?_
  refine at_putI ok (pf_7_7 _) dX7_init_6 h fun σ h => ?_
  refine at_aloadn ok dX7_init_9 rfl ?_
  refine at_sipush (v := 300) ok dX7_init_10 (by decide) ?_
  refine at_newA (atype := .int) (t := 0) rfl (Or.inl rfl) wd_41 ok dX7_init_13 h fun v13 σ h => ?_
  refine at_putR ok pf_7_13 (Or.inr ⟨_, rfl⟩) dX7_init_15 h fun σ h => ?_
  refine at_aloadn ok dX7_init_18 rfl ?_
  refine at_iconst (v := 0) ok dX7_init_19 (by decide) ?_
  refine at_putI ok (pf_7_17 _) dX7_init_20 h fun σ h => ?_
  refine at_aloadn ok dX7_init_23 rfl ?_
  refine at_bipush (v := 8) ok dX7_init_24 (by decide) ?_
  refine at_newR (t := 2) rfl (by decide) wd_21 wd_22 ok dX7_init_26 h fun v26 σ h => ?_
  refine at_putR ok pf_7_22 (Or.inr ⟨_, rfl⟩) dX7_init_29 h fun σ h => ?_
  refine at_aloadn ok dX7_init_32 rfl ?_
  refine at_bipush (v := 8) ok dX7_init_33 (by decide) ?_
  refine at_newR (t := 3) rfl (by decide) wd_23 wd_24 ok dX7_init_35 h fun v35 σ h => ?_
  refine at_putR ok pf_7_28 (Or.inr ⟨_, rfl⟩) dX7_init_38 h fun σ h => ?_
  refine at_aloadn ok dX7_init_41 rfl ?_
  refine at_sipush (v := 800) ok dX7_init_42 (by decide) ?_
  refine at_newA (atype := .boolean) (t := 1) rfl (Or.inr rfl) wd_42 ok dX7_init_45 h fun v45 σ h => ?_
  refine at_putR ok pf_7_32 (Or.inr ⟨_, rfl⟩) dX7_init_47 h fun σ h => ?_
  refine at_aloadn ok dX7_init_50 rfl ?_
  refine at_newO ok nw_7_36 dX7_init_51 h fun v51 σ h => ?_
  refine at_dup ok dX7_init_54 (cat_rf _) ?_
  refine at_cI (As := []) ok ct_7_init_38 dX7_init_55 (by simp [cat_rf, cat_i, cat_l]) (s5_init v51  _) h fun v55 σ h => ?_
  refine at_putR ok pf_7_39 (Or.inl ⟨_, rfl⟩) dX7_init_58 h fun σ h => ?_
  refine at_aloadn ok dX7_init_61 rfl ?_
  refine at_bipush (v := 60) ok dX7_init_62 (by decide) ?_
  refine at_newR (t := 4) rfl (by decide) wd_43 wd_44 ok dX7_init_64 h fun v64 σ h => ?_
  refine at_putR ok pf_7_45 (Or.inr ⟨_, rfl⟩) dX7_init_67 h fun σ h => ?_
  refine at_aloadn ok dX7_init_70 rfl ?_
  refine at_iconst (v := 0) ok dX7_init_71 (by decide) ?_
  refine at_putI ok (pf_7_49 _) dX7_init_72 h fun σ h => ?_
  refine at_aloadn ok dX7_init_75 rfl ?_
  refine at_newO ok nw_7_20 dX7_init_76 h fun v76 σ h => ?_
  refine at_dup ok dX7_init_79 (cat_rf _) ?_
  refine at_sipush (v := 300) ok dX7_init_80 (by decide) ?_
  refine at_cI (As := [.int (300)]) ok ct_7_init_52 dX7_init_83 (by simp [cat_rf, cat_i, cat_l]) (s6_init v76 300 _) h fun v83 σ h => ?_
  refine at_putR ok pf_7_55 (Or.inl ⟨_, rfl⟩) dX7_init_86 h fun σ h => ?_
  refine at_aloadn ok dX7_init_89 rfl ?_
  refine at_newO ok nw_7_59 dX7_init_90 h fun v90 σ h => ?_
  refine at_dup ok dX7_init_93 (cat_rf _) ?_
  refine at_iconst (v := 0) ok dX7_init_94 (by decide) ?_
  refine at_cI (As := [.int (0)]) ok ct_7_init_61 dX7_init_95 (by simp [cat_rf, cat_i, cat_l]) (s0_init v90 0 _) h fun v95 σ h => ?_
  refine at_putR ok pf_7_62 (Or.inl ⟨_, rfl⟩) dX7_init_98 h fun σ h => ?_
  refine at_aloadn ok dX7_init_101 rfl ?_
  refine at_newO ok nw_7_66 dX7_init_102 h fun v102 σ h => ?_
  refine at_dup ok dX7_init_105 (cat_rf _) ?_
  refine at_cI (As := []) ok ct_7_init_68 dX7_init_106 (by simp [cat_rf, cat_i, cat_l]) (s3_init v102  _) h fun v106 σ h => ?_
  refine at_putR ok pf_7_69 (Or.inl ⟨_, rfl⟩) dX7_init_109 h fun σ h => ?_
  refine at_aloadn ok dX7_init_112 rfl ?_
  refine at_newO ok nw_7_36 dX7_init_113 h fun v113 σ h => ?_
  refine at_dup ok dX7_init_116 (cat_rf _) ?_
  refine at_cI (As := []) ok ct_7_init_38 dX7_init_117 (by simp [cat_rf, cat_i, cat_l]) (s5_init v113  _) h fun v117 σ h => ?_
  refine at_putR ok pf_7_73 (Or.inl ⟨_, rfl⟩) dX7_init_120 h fun σ h => ?_
  refine at_newO ok nw_7_20 dX7_init_123 h fun v123 σ h => ?_
  refine at_dup ok dX7_init_126 (cat_rf _) ?_
  refine at_iconst (v := 0) ok dX7_init_127 (by decide) ?_
  refine at_cI (As := [.int (0)]) ok ct_7_init_52 dX7_init_128 (by simp [cat_rf, cat_i, cat_l]) (s6_init v123 0 _) h fun v128 σ h => ?_
  refine at_astoren ok dX7_init_131 rfl (lc_ref rfl) (by decide) ?_
  refine at_iconst (v := 0) ok dX7_init_132 (by decide) ?_
  refine at_istoren ok dX7_init_133 rfl (lc_ref rfl) (by decide) ?_
  refine at_weak (L' := [some (va_rf (t)), some (va_rf (v123)), some (.int (0)), none]) (lw_s (lw_s (lw_s (lw_n lw_0)))) ?_
  refine at_loop (fun x134 σ => AT X m7_init 134 [some (va_rf (t)), some (va_rf (v123)), some (.int (x134)), none] [] σ) (fun y153 σ => AT X m7_init 153 [some (va_rf (t)), none, none, none] [] σ) h (fun y153 σ h => ?_) (fun kx rec ih x134 σ h => ?_)
  · refine at_newO ok nw_7_26 dX7_init_153 h fun v153 σ h => ?_
    refine at_dup ok dX7_init_156 (cat_rf _) ?_
    refine at_iconst (v := 0) ok dX7_init_157 (by decide) ?_
    refine at_null ok dX7_init_158 ?_
    refine at_iconst (v := 0) ok dX7_init_159 (by decide) ?_
    refine at_iconst (v := 2) ok dX7_init_160 (by decide) ?_
    refine at_iconst (v := 1) ok dX7_init_161 (by decide) ?_
    refine at_iconst (v := 0) ok dX7_init_162 (by decide) ?_
    refine at_cI (As := [.int (0), va_rf (none), .int (0), .int (2), .int (1), .int (0)]) ok ct_7_init_76 dX7_init_163 (by simp [cat_rf, cat_i, cat_l]) (s1_init v153 0 none 0 2 1 0 _) h fun v163 σ h => ?_
    refine at_astoren ok dX7_init_166 rfl (lc_non rfl) (by decide) ?_
    refine at_iconst (v := 0) ok dX7_init_167 (by decide) ?_
    refine at_istoren ok dX7_init_168 rfl (lc_ref rfl) (by decide) ?_
    refine at_weak (L' := [some (va_rf (t)), none, some (va_rf (v153)), some (.int (0))]) (lw_s (lw_n (lw_s (lw_s lw_0)))) ?_
    refine at_loop (fun x169 σ => AT X m7_init 169 [some (va_rf (t)), none, some (va_rf (v153)), some (.int (x169))] [] σ) (fun y188 σ => AT X m7_init 188 [none, none, none, none] [] σ) h (fun y188 σ h => ?_) (fun kx rec ih x169 σ h => ?_)
    · exact at_vret ok fn rfl dX7_init_188 h
    · unfold l7_init_169 at h
      refine at_iloadn ok dX7_init_169 rfl ?_
      refine at_bipush (v := 8) ok dX7_init_170 (by decide) ?_
      refine bt_icmp_ge (tgt := 188) ok dX7_init_172 (by decide) h (fun hc h => ?_) (fun hc h => ?_)
      · exact at_weak (lw_n (lw_n (lw_n (lw_n lw_0)))) (kx () _ (hr_rt.mp h))
      · refine at_aloadn ok dX7_init_175 rfl ?_
        refine at_getR ok gf_7_28 dX7_init_176 h fun v176 h => ?_
        refine at_iloadn ok dX7_init_179 rfl ?_
        refine at_aloadn ok dX7_init_180 rfl ?_
        refine at_aast (t := 3) (cc' := 1) rfl rfl (by decide) ok dX7_init_181 h fun σ h => ?_
        refine at_iinc (v := x169 + 1) ok dX7_init_182 rfl rfl (lc_ref rfl) (by decide) ?_
        refine at_goto (tgt := 169) ok dX7_init_185 (by decide) ?_
        exact at_weak (lw_s (lw_n (lw_s (lw_s lw_0)))) (ih (x169 + 1) _ h)
  · unfold l7_init_134 at h
    refine at_iloadn ok dX7_init_134 rfl ?_
    refine at_bipush (v := 8) ok dX7_init_135 (by decide) ?_
    refine bt_icmp_ge (tgt := 153) ok dX7_init_137 (by decide) h (fun hc h => ?_) (fun hc h => ?_)
    · exact at_weak (lw_s (lw_n (lw_n (lw_n lw_0)))) (kx () _ (hr_rt.mp h))
    · refine at_aloadn ok dX7_init_140 rfl ?_
      refine at_getR ok gf_7_22 dX7_init_141 h fun v141 h => ?_
      refine at_iloadn ok dX7_init_144 rfl ?_
      refine at_aloadn ok dX7_init_145 rfl ?_
      refine at_aast (t := 2) (cc' := 6) rfl rfl (by decide) ok dX7_init_146 h fun σ h => ?_
      refine at_iinc (v := x134 + 1) ok dX7_init_147 rfl rfl (lc_ref rfl) (by decide) ?_
      refine at_goto (tgt := 134) ok dX7_init_150 (by decide) ?_
      exact at_weak (lw_s (lw_s (lw_s (lw_n lw_0)))) (ih (x134 + 1) _ h)
set_option maxRecDepth 100000 in
set_option maxHeartbeats 4000000 in
theorem s7_within (a1 : Int32) (a2 : Int32) (a3 : Int32) (σ : AH) (Q : Int32 → AH → Prop) (h : Hr (f7_within a1 a2 a3) σ Q) : Runs m7_within σ [.int (a1), .int (a2), .int (a3)] (fun v σ1 => ∃ a, v = some (.int a) ∧ Q a σ1) := by
  obtain ⟨a0, σ1, e, hQ⟩ := h
  have hm := n7_within a1 a2 a3 σ a0 σ1 e
  have h : Hr (f7_within a1 a2 a3) σ (fun a σ2 => a = a0 ∧ σ2 = σ1) := ⟨a0, σ1, e, rfl, rfl⟩
  refine ⟨_, σ1, hm, ⟨a0, rfl, hQ⟩, runs_of (by decide +kernel) (by simp [cat_rf, cat_i, cat_l]) (Nat.le_of_ble_eq_true rfl) hm fun X ok fn => ?_⟩
  clear e hQ hm
  unfold f7_within at h
  show AT X m7_within 0 [some (.int (a1)), some (.int (a2)), some (.int (a3))] [] σ
  refine at_iloadn ok dX7_within_0 rfl ?_
  refine at_iloadn ok dX7_within_1 rfl ?_
  refine bt_icmp_lt (tgt := 14) ok dX7_within_2 (by decide) h (fun hc h => ?_) (fun hc h => ?_)
  · refine at_iconst (v := 0) ok dX7_within_14 (by decide) ?_
    exact at_iret ok fn ⟨_, rfl, rfl⟩ dX7_within_15 h
  · refine at_iloadn ok dX7_within_5 rfl ?_
    refine at_iloadn ok dX7_within_6 rfl ?_
    refine bt_icmp_gt (tgt := 14) ok dX7_within_7 (by decide) h (fun hc h => ?_) (fun hc h => ?_)
    · refine at_iconst (v := 0) ok dX7_within_14 (by decide) ?_
      exact at_iret ok fn ⟨_, rfl, rfl⟩ dX7_within_15 h
    · refine at_iconst (v := 1) ok dX7_within_10 (by decide) ?_
      refine at_goto (tgt := 15) ok dX7_within_11 (by decide) ?_
      exact at_iret ok fn ⟨_, rfl, rfl⟩ dX7_within_15 h
set_option maxRecDepth 100000 in
set_option maxHeartbeats 4000000 in
theorem s7_isKind (a1 : Int32) (σ : AH) (Q : Int32 → AH → Prop) (h : Hr (f7_isKind a1) σ Q) : Runs m7_isKind σ [.int (a1)] (fun v σ1 => ∃ a, v = some (.int a) ∧ Q a σ1) := by
  obtain ⟨a0, σ1, e, hQ⟩ := h
  have hm := n7_isKind a1 σ a0 σ1 e
  have h : Hr (f7_isKind a1) σ (fun a σ2 => a = a0 ∧ σ2 = σ1) := ⟨a0, σ1, e, rfl, rfl⟩
  refine ⟨_, σ1, hm, ⟨a0, rfl, hQ⟩, runs_of (by decide +kernel) (by simp [cat_rf, cat_i, cat_l]) (Nat.le_of_ble_eq_true rfl) hm fun X ok fn => ?_⟩
  clear e hQ hm
  unfold f7_isKind at h
  show AT X m7_isKind 0 [some (.int (a1))] [] σ
  refine at_iloadn ok dX7_isKind_0 rfl ?_
  refine at_iconst (v := 0) ok dX7_isKind_1 (by decide) ?_
  refine at_bipush (v := 7) ok dX7_isKind_2 (by decide) ?_
  refine at_cSi (As := [.int (a1), .int (0), .int (7)]) ok ct_7_isKind_79 dX7_isKind_4 (by simp [cat_rf, cat_i, cat_l]) (s7_within a1 0 7 _) h fun v4 σ h => ?_
  refine at_z h fun hz h => ?_
  exact at_iret ok fn ⟨_, rfl, nar_z hz⟩ dX7_isKind_7 h
set_option maxRecDepth 100000 in
set_option maxHeartbeats 4000000 in
theorem s7_isPerson (a1 : Int32) (σ : AH) (Q : Int32 → AH → Prop) (h : Hr (f7_isPerson a1) σ Q) : Runs m7_isPerson σ [.int (a1)] (fun v σ1 => ∃ a, v = some (.int a) ∧ Q a σ1) := by
  obtain ⟨a0, σ1, e, hQ⟩ := h
  have hm := n7_isPerson a1 σ a0 σ1 e
  have h : Hr (f7_isPerson a1) σ (fun a σ2 => a = a0 ∧ σ2 = σ1) := ⟨a0, σ1, e, rfl, rfl⟩
  refine ⟨_, σ1, hm, ⟨a0, rfl, hQ⟩, runs_of (by decide +kernel) (by simp [cat_rf, cat_i, cat_l]) (Nat.le_of_ble_eq_true rfl) hm fun X ok fn => ?_⟩
  clear e hQ hm
  unfold f7_isPerson at h
  show AT X m7_isPerson 0 [some (.int (a1))] [] σ
  refine at_iloadn ok dX7_isPerson_0 rfl ?_
  refine at_iconst (v := 0) ok dX7_isPerson_1 (by decide) ?_
  refine at_bipush (v := 9) ok dX7_isPerson_2 (by decide) ?_
  refine at_cSi (As := [.int (a1), .int (0), .int (9)]) ok ct_7_isPerson_79 dX7_isPerson_4 (by simp [cat_rf, cat_i, cat_l]) (s7_within a1 0 9 _) h fun v4 σ h => ?_
  refine at_z h fun hz h => ?_
  exact at_iret ok fn ⟨_, rfl, nar_z hz⟩ dX7_isPerson_7 h
set_option maxRecDepth 100000 in
set_option maxHeartbeats 4000000 in
theorem s7_pairOf (a1 : Int32) (a2 : Int32) (a3 : Int32) (σ : AH) (Q : Int32 → AH → Prop) (h : Hr (f7_pairOf a1 a2 a3) σ Q) : Runs m7_pairOf σ [.int (a1), .int (a2), .int (a3)] (fun v σ1 => ∃ a, v = some (.int a) ∧ Q a σ1) := by
  obtain ⟨a0, σ1, e, hQ⟩ := h
  have hm := n7_pairOf a1 a2 a3 σ a0 σ1 e
  have h : Hr (f7_pairOf a1 a2 a3) σ (fun a σ2 => a = a0 ∧ σ2 = σ1) := ⟨a0, σ1, e, rfl, rfl⟩
  refine ⟨_, σ1, hm, ⟨a0, rfl, hQ⟩, runs_of (by decide +kernel) (by simp [cat_rf, cat_i, cat_l]) (Nat.le_of_ble_eq_true rfl) hm fun X ok fn => ?_⟩
  clear e hQ hm
  unfold f7_pairOf at h
  show AT X m7_pairOf 0 [some (.int (a1)), some (.int (a2)), some (.int (a3))] [] σ
  refine at_iloadn ok dX7_pairOf_0 rfl ?_
  refine at_bipush (v := 10) ok dX7_pairOf_1 (by decide) ?_
  refine at_imul ok dX7_pairOf_3 ?_
  refine at_iloadn ok dX7_pairOf_4 rfl ?_
  refine at_iadd ok dX7_pairOf_5 ?_
  refine at_bipush (v := 10) ok dX7_pairOf_6 (by decide) ?_
  refine at_imul ok dX7_pairOf_8 ?_
  refine at_iloadn ok dX7_pairOf_9 rfl ?_
  refine at_iadd ok dX7_pairOf_10 ?_
  exact at_iret ok fn ⟨_, rfl, rfl⟩ dX7_pairOf_11 h
set_option maxRecDepth 100000 in
set_option maxHeartbeats 4000000 in
theorem s7_allow (t : Option Nat) (a1 : Int32) (a2 : Int32) (a3 : Int32) (a4 : Int32) (σ : AH) (Q : Int32 → AH → Prop) (h : Hr (f7_allow t a1 a2 a3 a4) σ Q) : Runs m7_allow σ [va_rf t, .int (a1), .int (a2), .int (a3), .int (a4)] (fun v σ1 => ∃ a, v = some (.int a) ∧ Q a σ1) := by
  obtain ⟨a0, σ1, e, hQ⟩ := h
  have hm := n7_allow t a1 a2 a3 a4 σ a0 σ1 e
  have h : Hr (f7_allow t a1 a2 a3 a4) σ (fun a σ2 => a = a0 ∧ σ2 = σ1) := ⟨a0, σ1, e, rfl, rfl⟩
  refine ⟨_, σ1, hm, ⟨a0, rfl, hQ⟩, runs_of (by decide +kernel) (by simp [cat_rf, cat_i, cat_l]) (Nat.le_of_ble_eq_true rfl) hm fun X ok fn => ?_⟩
  clear e hQ hm
  unfold f7_allow at h
  show AT X m7_allow 0 [some (va_rf (t)), some (.int (a1)), some (.int (a2)), some (.int (a3)), some (.int (a4)), none] [] σ
  refine at_iloadn ok dX7_allow_0 rfl ?_
  refine at_cSi (As := [.int (a1)]) ok ct_7_allow_104 dX7_allow_1 (by simp [cat_rf, cat_i, cat_l]) (s7_isKind a1 _) h fun v1 σ h => ?_
  refine bt_if_eq (tgt := 21) ok dX7_allow_4 (by decide) h (fun hc h => ?_) (fun hc h => ?_)
  · refine at_iconst (v := 0) ok dX7_allow_21 (by decide) ?_
    exact at_iret ok fn ⟨_, rfl, rfl⟩ dX7_allow_22 h
  · refine at_iloadn ok dX7_allow_7 rfl ?_
    refine at_cSi (As := [.int (a2)]) ok ct_7_allow_117 dX7_allow_8 (by simp [cat_rf, cat_i, cat_l]) (s7_isPerson a2 _) h fun v8 σ h => ?_
    refine bt_if_eq (tgt := 21) ok dX7_allow_11 (by decide) h (fun hc h => ?_) (fun hc h => ?_)
    · refine at_iconst (v := 0) ok dX7_allow_21 (by decide) ?_
      exact at_iret ok fn ⟨_, rfl, rfl⟩ dX7_allow_22 h
    · refine at_iloadn ok dX7_allow_14 rfl ?_
      refine at_cSi (As := [.int (a3)]) ok ct_7_allow_117 dX7_allow_15 (by simp [cat_rf, cat_i, cat_l]) (s7_isPerson a3 _) h fun v15 σ h => ?_
      refine bt_if_ne (tgt := 23) ok dX7_allow_18 (by decide) h (fun hc h => ?_) (fun hc h => ?_)
      · refine at_iconst (v := 0) ok dX7_allow_21 (by decide) ?_
        exact at_iret ok fn ⟨_, rfl, rfl⟩ dX7_allow_22 h
      · refine at_iloadn ok dX7_allow_23 rfl ?_
        refine at_iloadn ok dX7_allow_24 rfl ?_
        refine at_iloadn ok dX7_allow_25 rfl ?_
        refine at_cSi (As := [.int (a1), .int (a2), .int (a3)]) ok ct_7_allow_120 dX7_allow_26 (by simp [cat_rf, cat_i, cat_l]) (s7_pairOf a1 a2 a3 _) h fun v26 σ h => ?_
        refine at_istore ok dX7_allow_29 (lc_int rfl) (by decide) ?_
        refine at_aloadn ok dX7_allow_31 rfl ?_
        refine at_getR ok gf_7_32 dX7_allow_32 h fun v32 h => ?_
        refine at_iload ok dX7_allow_35 rfl ?_
        refine at_zald ok dX7_allow_37 h fun v37 h => ?_
        refine at_iload ok dX7_allow_38 rfl ?_
        refine bt_icmp_ne (tgt := 45) ok dX7_allow_40 (by decide) h (fun hc h => ?_) (fun hc h => ?_)
        · refine at_iconst (v := 0) ok dX7_allow_43 (by decide) ?_
          exact at_iret ok fn ⟨_, rfl, rfl⟩ dX7_allow_44 h
        · refine at_aloadn ok dX7_allow_45 rfl ?_
          refine at_getR ok gf_7_32 dX7_allow_46 h fun v46 h => ?_
          refine at_iload ok dX7_allow_49 rfl ?_
          refine at_iload ok dX7_allow_51 rfl ?_
          refine at_zast ok dX7_allow_53 h fun σ h => ?_
          refine at_iconst (v := 1) ok dX7_allow_54 (by decide) ?_
          exact at_iret ok fn ⟨_, rfl, rfl⟩ dX7_allow_55 h
set_option maxRecDepth 100000 in
set_option maxHeartbeats 4000000 in
theorem s7_letterAt (t : Option Nat) (a1 : Int32) (σ : AH) (Q : Option Nat → AH → Prop) (h : Hr (f7_letterAt t a1) σ Q) : Runs m7_letterAt σ [va_rf t, .int (a1)] (fun v σ1 => ∃ a, v = some (va_rf a) ∧ Q a σ1) := by
  obtain ⟨a0, σ1, e, hQ⟩ := h
  have hm := n7_letterAt t a1 σ a0 σ1 e
  have h : Hr (f7_letterAt t a1) σ (fun a σ2 => a = a0 ∧ σ2 = σ1) := ⟨a0, σ1, e, rfl, rfl⟩
  refine ⟨_, σ1, hm, ⟨a0, rfl, hQ⟩, runs_of (by decide +kernel) (by simp [cat_rf, cat_i, cat_l]) (Nat.le_of_ble_eq_true rfl) hm fun X ok fn => ?_⟩
  clear e hQ hm
  unfold f7_letterAt at h
  show AT X m7_letterAt 0 [some (va_rf (t)), some (.int (a1))] [] σ
  refine at_iloadn ok dX7_letterAt_0 rfl ?_
  refine at_iconst (v := 0) ok dX7_letterAt_1 (by decide) ?_
  refine at_aloadn ok dX7_letterAt_2 rfl ?_
  refine at_getI ok gf_7_49 dX7_letterAt_3 h fun v3 h => ?_
  refine at_iconst (v := 1) ok dX7_letterAt_6 (by decide) ?_
  refine at_isub ok dX7_letterAt_7 ?_
  refine at_cSi (As := [.int (a1), .int (0), .int ((v3 - 1))]) ok ct_7_letterAt_79 dX7_letterAt_8 (by simp [cat_rf, cat_i, cat_l]) (s7_within a1 0 (v3 - 1) _) h fun v8 σ h => ?_
  refine bt_if_eq (tgt := 23) ok dX7_letterAt_11 (by decide) h (fun hc h => ?_) (fun hc h => ?_)
  · refine at_null ok dX7_letterAt_23 ?_
    exact at_aret ok fn ⟨_, rfl, Or.inl ⟨_, rfl⟩⟩ dX7_letterAt_24 h
  · refine at_aloadn ok dX7_letterAt_14 rfl ?_
    refine at_getR ok gf_7_45 dX7_letterAt_15 h fun v15 h => ?_
    refine at_iloadn ok dX7_letterAt_18 rfl ?_
    refine at_aald (t := 4) ⟨_, rfl⟩ (by decide) ok dX7_letterAt_19 h fun v19 h => ?_
    refine at_goto (tgt := 24) ok dX7_letterAt_20 (by decide) ?_
    exact at_aret ok fn ⟨_, rfl, Or.inl ⟨_, rfl⟩⟩ dX7_letterAt_24 h
set_option maxRecDepth 100000 in
set_option maxHeartbeats 4000000 in
theorem s7_answer (t : Option Nat) (a1 : Int32) (a2 : Int32) (σ : AH) (Q : Int32 → AH → Prop) (h : Hr (f7_answer t a1 a2) σ Q) : Runs m7_answer σ [va_rf t, .int (a1), .int (a2)] (fun v σ1 => ∃ a, v = some (.int a) ∧ Q a σ1) := by
  obtain ⟨a0, σ1, e, hQ⟩ := h
  have hm := n7_answer t a1 a2 σ a0 σ1 e
  have h : Hr (f7_answer t a1 a2) σ (fun a σ2 => a = a0 ∧ σ2 = σ1) := ⟨a0, σ1, e, rfl, rfl⟩
  refine ⟨_, σ1, hm, ⟨a0, rfl, hQ⟩, runs_of (by decide +kernel) (by simp [cat_rf, cat_i, cat_l]) (Nat.le_of_ble_eq_true rfl) hm fun X ok fn => ?_⟩
  clear e hQ hm
  unfold f7_answer at h
  show AT X m7_answer 0 [some (va_rf (t)), some (.int (a1)), some (.int (a2)), none] [] σ
  refine at_aloadn ok dX7_answer_0 rfl ?_
  refine at_iloadn ok dX7_answer_1 rfl ?_
  refine at_cVr (As := [.int (a1)]) ok ct_7_answer_181 dX7_answer_2 (by simp [cat_rf, cat_i, cat_l]) (s7_letterAt t a1 _) h fun v2 σ h => ?_
  refine at_astoren ok dX7_answer_5 rfl (lc_int rfl) (by decide) ?_
  refine at_aloadn ok dX7_answer_6 rfl ?_
  refine bt_ifnull (tgt := 18) ok dX7_answer_7 (by decide) h (fun hc h => ?_) (fun hc h => ?_)
  · refine at_iconst (v := 0) ok dX7_answer_18 (by decide) ?_
    exact at_iret ok fn ⟨_, rfl, rfl⟩ dX7_answer_19 h
  · refine at_aloadn ok dX7_answer_10 rfl ?_
    refine at_getI ok gf_7_185 dX7_answer_11 h fun v11 h => ?_
    refine at_iconst (v := 1) ok dX7_answer_14 (by decide) ?_
    refine bt_icmp_eq (tgt := 20) ok dX7_answer_15 (by decide) h (fun hc h => ?_) (fun hc h => ?_)
    · refine at_aloadn ok dX7_answer_20 rfl ?_
      refine at_iloadn ok dX7_answer_21 rfl ?_
      refine bt_if_eq (tgt := 29) ok dX7_answer_22 (by decide) h (fun hc h => ?_) (fun hc h => ?_)
      · refine at_iconst (v := 2) ok dX7_answer_29 (by decide) ?_
        refine at_putI ok (pf_7_185 _) dX7_answer_30 h fun σ h => ?_
        refine at_iconst (v := 1) ok dX7_answer_33 (by decide) ?_
        exact at_iret ok fn ⟨_, rfl, rfl⟩ dX7_answer_34 h
      · refine at_iconst (v := 0) ok dX7_answer_25 (by decide) ?_
        refine at_goto (tgt := 30) ok dX7_answer_26 (by decide) ?_
        refine at_putI ok (pf_7_185 _) dX7_answer_30 h fun σ h => ?_
        refine at_iconst (v := 1) ok dX7_answer_33 (by decide) ?_
        exact at_iret ok fn ⟨_, rfl, rfl⟩ dX7_answer_34 h
    · refine at_iconst (v := 0) ok dX7_answer_18 (by decide) ?_
      exact at_iret ok fn ⟨_, rfl, rfl⟩ dX7_answer_19 h
set_option maxRecDepth 100000 in
set_option maxHeartbeats 4000000 in
theorem s7_append (t : Option Nat) (a1 : Int32) (σ : AH) (Q : Unit → AH → Prop) (h : Hr (f7_append t a1) σ Q) : Runs m7_append σ [va_rf t, .int (a1)] (fun v σ1 => ∃ a, v = none ∧ Q a σ1) := by
  obtain ⟨a0, σ1, e, hQ⟩ := h
  have hm := n7_append t a1 σ a0 σ1 e
  have h : Hr (f7_append t a1) σ (fun a σ2 => a = a0 ∧ σ2 = σ1) := ⟨a0, σ1, e, rfl, rfl⟩
  refine ⟨_, σ1, hm, ⟨a0, rfl, hQ⟩, runs_of (by decide +kernel) (by simp [cat_rf, cat_i, cat_l]) (Nat.le_of_ble_eq_true rfl) hm fun X ok fn => ?_⟩
  clear e hQ hm
  unfold f7_append at h
  show AT X m7_append 0 [some (va_rf (t)), some (.int (a1)), none, none] [] σ
  refine at_bipush (v := 24) ok dX7_append_0 (by decide) ?_
  refine at_istoren ok dX7_append_2 rfl (lc_int rfl) (by decide) ?_
  refine at_weak (L' := [some (va_rf (t)), some (.int (a1)), some (.int (24)), none]) (lw_s (lw_s (lw_s (lw_n lw_0)))) ?_
  refine at_loop (fun x3 σ => AT X m7_append 3 [some (va_rf (t)), some (.int (a1)), some (.int (x3)), none] [] σ) (fun y57 σ => AT X m7_append 57 [none, none, none, none] [] σ) h (fun y57 σ h => ?_) (fun kx rec ih x3 σ h => ?_)
  · exact at_vret ok fn rfl dX7_append_57 h
  · unfold l7_append_3 at h
    refine at_iloadn ok dX7_append_3 rfl ?_
    refine bt_if_lt (tgt := 57) ok dX7_append_4 (by decide) h (fun hc h => ?_) (fun hc h => ?_)
    · exact at_weak (lw_n (lw_n (lw_n (lw_n lw_0)))) (kx () _ (hr_rt.mp h))
    · refine at_iloadn ok dX7_append_7 rfl ?_
      refine at_iloadn ok dX7_append_8 rfl ?_
      refine at_iushr ok dX7_append_9 ?_
      refine at_sipush (v := 255) ok dX7_append_10 (by decide) ?_
      refine at_iand ok dX7_append_13 ?_
      refine at_istoren ok dX7_append_14 rfl (lc_int rfl) (by decide) ?_
      refine at_iloadn ok dX7_append_15 rfl ?_
      refine bt_if_eq (tgt := 51) ok dX7_append_16 (by decide) h (fun hc h => ?_) (fun hc h => ?_)
      · refine at_iinc (v := x3 + (-8)) ok dX7_append_51 rfl rfl (lc_int rfl) (by decide) ?_
        refine at_goto (tgt := 3) ok dX7_append_54 (by decide) ?_
        exact at_weak (lw_s (lw_s (lw_s (lw_n lw_0)))) (ih (x3 + (-8)) _ h)
      · refine at_aloadn ok dX7_append_19 rfl ?_
        refine at_getI ok gf_7_17 dX7_append_20 h fun v20 h => ?_
        refine at_aloadn ok dX7_append_23 rfl ?_
        refine at_getR ok gf_7_13 dX7_append_24 h fun v24 h => ?_
        refine at_alen (t := 0) (by decide) ok dX7_append_27 h fun v27 h => ?_
        refine bt_icmp_ge (tgt := 51) ok dX7_append_28 (by decide) h (fun hc h => ?_) (fun hc h => ?_)
        · refine at_iinc (v := x3 + (-8)) ok dX7_append_51 rfl rfl (lc_int rfl) (by decide) ?_
          refine at_goto (tgt := 3) ok dX7_append_54 (by decide) ?_
          exact at_weak (lw_s (lw_s (lw_s (lw_n lw_0)))) (ih (x3 + (-8)) _ h)
        · refine at_aloadn ok dX7_append_31 rfl ?_
          refine at_getR ok gf_7_13 dX7_append_32 h fun v32 h => ?_
          refine at_aloadn ok dX7_append_35 rfl ?_
          refine at_getI ok gf_7_17 dX7_append_36 h fun v36 h => ?_
          refine at_iloadn ok dX7_append_39 rfl ?_
          refine at_iast ok dX7_append_40 h fun σ h => ?_
          refine at_aloadn ok dX7_append_41 rfl ?_
          refine at_dup ok dX7_append_42 (cat_rf _) ?_
          refine at_getI ok gf_7_17 dX7_append_43 h fun v43 h => ?_
          refine at_iconst (v := 1) ok dX7_append_46 (by decide) ?_
          refine at_iadd ok dX7_append_47 ?_
          refine at_putI ok (pf_7_17 _) dX7_append_48 h fun σ h => ?_
          refine at_iinc (v := x3 + (-8)) ok dX7_append_51 rfl rfl (lc_int rfl) (by decide) ?_
          refine at_goto (tgt := 3) ok dX7_append_54 (by decide) ?_
          exact at_weak (lw_s (lw_s (lw_s (lw_n lw_0)))) (ih (x3 + (-8)) _ h)
set_option maxRecDepth 100000 in
set_option maxHeartbeats 4000000 in
theorem s7_at (t : Option Nat) (a1 : Int32) (a2 : Int32) (a3 : Int32) (σ : AH) (Q : Int32 → AH → Prop) (h : Hr (f7_at t a1 a2 a3) σ Q) : Runs m7_at σ [va_rf t, .int (a1), .int (a2), .int (a3)] (fun v σ1 => ∃ a, v = some (.int a) ∧ Q a σ1) := by
  obtain ⟨a0, σ1, e, hQ⟩ := h
  have hm := n7_at t a1 a2 a3 σ a0 σ1 e
  have h : Hr (f7_at t a1 a2 a3) σ (fun a σ2 => a = a0 ∧ σ2 = σ1) := ⟨a0, σ1, e, rfl, rfl⟩
  refine ⟨_, σ1, hm, ⟨a0, rfl, hQ⟩, runs_of (by decide +kernel) (by simp [cat_rf, cat_i, cat_l]) (Nat.le_of_ble_eq_true rfl) hm fun X ok fn => ?_⟩
  clear e hQ hm
  unfold f7_at at h
  show AT X m7_at 0 [some (va_rf (t)), some (.int (a1)), some (.int (a2)), some (.int (a3)), none, none] [] σ
  refine at_aloadn ok dX7_at_0 rfl ?_
  refine at_iloadn ok dX7_at_1 rfl ?_
  refine at_cVr (As := [.int (a1)]) ok ct_7_at_181 dX7_at_2 (by simp [cat_rf, cat_i, cat_l]) (s7_letterAt t a1 _) h fun v2 σ h => ?_
  refine at_astore ok dX7_at_5 (lc_int rfl) (by decide) ?_
  refine at_aload ok dX7_at_7 rfl ?_
  refine bt_ifnonnull (tgt := 14) ok dX7_at_9 (by decide) h (fun hc h => ?_) (fun hc h => ?_)
  · refine at_iconst (v := (-1)) ok dX7_at_12 (by decide) ?_
    exact at_iret ok fn ⟨_, rfl, rfl⟩ dX7_at_13 h
  · refine at_iloadn ok dX7_at_14 rfl ?_
    refine at_join (fun y31 σ => AT X m7_at 31 [none, none, some (.int (a2)), none, none, none] [va_rf (y31)] σ) h (fun y31 σ h => ?_) (fun h j31 => ?_)
    · refine at_astore ok dX7_at_31 (lc_non rfl) (by decide) ?_
      refine at_iloadn ok dX7_at_33 rfl ?_
      refine at_iconst (v := 0) ok dX7_at_34 (by decide) ?_
      refine at_aload ok dX7_at_35 rfl ?_
      refine at_alen (t := 0) (by decide) ok dX7_at_37 h fun v37 h => ?_
      refine at_iconst (v := 1) ok dX7_at_38 (by decide) ?_
      refine at_isub ok dX7_at_39 ?_
      refine at_cSi (As := [.int (a2), .int (0), .int ((v37 - 1))]) ok ct_7_at_79 dX7_at_40 (by simp [cat_rf, cat_i, cat_l]) (s7_within a2 0 (v37 - 1) _) h fun v40 σ h => ?_
      refine bt_if_eq (tgt := 53) ok dX7_at_43 (by decide) h (fun hc h => ?_) (fun hc h => ?_)
      · refine at_iconst (v := (-1)) ok dX7_at_53 (by decide) ?_
        exact at_iret ok fn ⟨_, rfl, rfl⟩ dX7_at_54 h
      · refine at_aload ok dX7_at_46 rfl ?_
        refine at_iloadn ok dX7_at_48 rfl ?_
        refine at_iald ok dX7_at_49 h fun v49 h => ?_
        refine at_goto (tgt := 54) ok dX7_at_50 (by decide) ?_
        exact at_iret ok fn ⟨_, rfl, rfl⟩ dX7_at_54 h
    · refine bt_if_eq (tgt := 26) ok dX7_at_15 (by decide) h (fun hc h => ?_) (fun hc h => ?_)
      · refine at_aload ok dX7_at_26 rfl ?_
        refine at_getR ok gf_7_196 dX7_at_28 h fun v28 h => ?_
        exact at_weak (lw_n (lw_n (lw_s (lw_n (lw_n (lw_n lw_0)))))) (j31 v28 _ (hr_rt.mp h))
      · refine at_aload ok dX7_at_18 rfl ?_
        refine at_getR ok gf_7_205 dX7_at_20 h fun v20 h => ?_
        refine at_goto (tgt := 31) ok dX7_at_23 (by decide) ?_
        exact at_weak (lw_n (lw_n (lw_s (lw_n (lw_n (lw_n lw_0)))))) (j31 v20 _ (hr_rt.mp h))
set_option maxRecDepth 100000 in
set_option maxHeartbeats 4000000 in
theorem s7_bytesOf (a1 : Int32) (σ : AH) (Q : Int32 → AH → Prop) (h : Hr (f7_bytesOf a1) σ Q) : Runs m7_bytesOf σ [.int (a1)] (fun v σ1 => ∃ a, v = some (.int a) ∧ Q a σ1) := by
  obtain ⟨a0, σ1, e, hQ⟩ := h
  have hm := n7_bytesOf a1 σ a0 σ1 e
  have h : Hr (f7_bytesOf a1) σ (fun a σ2 => a = a0 ∧ σ2 = σ1) := ⟨a0, σ1, e, rfl, rfl⟩
  refine ⟨_, σ1, hm, ⟨a0, rfl, hQ⟩, runs_of (by decide +kernel) (by simp [cat_rf, cat_i, cat_l]) (Nat.le_of_ble_eq_true rfl) hm fun X ok fn => ?_⟩
  clear e hQ hm
  unfold f7_bytesOf at h
  show AT X m7_bytesOf 0 [some (.int (a1)), none, none] [] σ
  refine at_iconst (v := 0) ok dX7_bytesOf_0 (by decide) ?_
  refine at_istoren ok dX7_bytesOf_1 rfl (lc_int rfl) (by decide) ?_
  refine at_bipush (v := 24) ok dX7_bytesOf_2 (by decide) ?_
  refine at_istoren ok dX7_bytesOf_4 rfl (lc_int rfl) (by decide) ?_
  refine at_weak (L' := [some (.int (a1)), some (.int (0)), some (.int (24))]) (lw_s (lw_s (lw_s lw_0))) ?_
  refine at_loop (fun x5 σ => AT X m7_bytesOf 5 [some (.int (a1)), some (.int (x5.1)), some (.int (x5.2))] [] σ) (fun y28 σ => AT X m7_bytesOf 28 [none, some (.int (y28)), none] [] σ) h (fun y28 σ h => ?_) (fun kx rec ih x5 σ h => ?_)
  · refine at_iloadn ok dX7_bytesOf_28 rfl ?_
    exact at_iret ok fn ⟨_, rfl, rfl⟩ dX7_bytesOf_29 h
  · unfold l7_bytesOf_5 at h
    obtain ⟨x5_1, x5_2⟩ := x5
    dsimp only at h ⊢
    refine at_iloadn ok dX7_bytesOf_5 rfl ?_
    refine bt_if_lt (tgt := 28) ok dX7_bytesOf_6 (by decide) h (fun hc h => ?_) (fun hc h => ?_)
    · exact at_weak (lw_n (lw_s (lw_n lw_0))) (kx x5_1 _ (hr_rt.mp h))
    · refine at_iloadn ok dX7_bytesOf_9 rfl ?_
      refine at_iloadn ok dX7_bytesOf_10 rfl ?_
      refine at_iushr ok dX7_bytesOf_11 ?_
      refine at_sipush (v := 255) ok dX7_bytesOf_12 (by decide) ?_
      refine at_iand ok dX7_bytesOf_15 ?_
      refine bt_if_eq (tgt := 22) ok dX7_bytesOf_16 (by decide) h (fun hc h => ?_) (fun hc h => ?_)
      · refine at_iinc (v := x5_2 + (-8)) ok dX7_bytesOf_22 rfl rfl (lc_int rfl) (by decide) ?_
        refine at_goto (tgt := 5) ok dX7_bytesOf_25 (by decide) ?_
        exact at_weak (lw_s (lw_s (lw_s lw_0))) (by have q := ih (x5_1, (x5_2 + (-8))) _ h; dsimp only at q; exact q)
      · refine at_iinc (v := x5_1 + 1) ok dX7_bytesOf_19 rfl rfl (lc_int rfl) (by decide) ?_
        refine at_iinc (v := x5_2 + (-8)) ok dX7_bytesOf_22 rfl rfl (lc_int rfl) (by decide) ?_
        refine at_goto (tgt := 5) ok dX7_bytesOf_25 (by decide) ?_
        exact at_weak (lw_s (lw_s (lw_s lw_0))) (by have q := ih ((x5_1 + 1), (x5_2 + (-8))) _ h; dsimp only at q; exact q)
set_option maxRecDepth 100000 in
set_option maxHeartbeats 4000000 in
theorem s3_put (t : Option Nat) (a1 : Int32) (σ : AH) (Q : Unit → AH → Prop) (h : Hr (f3_put t a1) σ Q) : Runs m3_put σ [va_rf t, .int (a1)] (fun v σ1 => ∃ a, v = none ∧ Q a σ1) := by
  obtain ⟨a0, σ1, e, hQ⟩ := h
  have hm := n3_put t a1 σ a0 σ1 e
  have h : Hr (f3_put t a1) σ (fun a σ2 => a = a0 ∧ σ2 = σ1) := ⟨a0, σ1, e, rfl, rfl⟩
  refine ⟨_, σ1, hm, ⟨a0, rfl, hQ⟩, runs_of (by decide +kernel) (by simp [cat_rf, cat_i, cat_l]) (Nat.le_of_ble_eq_true rfl) hm fun X ok fn => ?_⟩
  clear e hQ hm
  unfold f3_put at h
  show AT X m3_put 0 [some (va_rf (t)), some (.int (a1)), none, none] [] σ
  refine at_iloadn ok dX3_put_0 rfl ?_
  refine bt_if_ge (tgt := 5) ok dX3_put_1 (by decide) h (fun hc h => ?_) (fun hc h => ?_)
  · refine at_lconst (v := 1) ok dX3_put_5 (by decide) ?_
    refine at_iloadn ok dX3_put_6 rfl ?_
    refine at_bipush (v := 63) ok dX3_put_7 (by decide) ?_
    refine at_iand ok dX3_put_9 ?_
    refine at_lshl ok dX3_put_10 ?_
    refine at_lstoren ok dX3_put_11 rfl (lc_int rfl) (by decide) ?_
    refine at_iloadn ok dX3_put_12 rfl ?_
    refine at_bipush (v := 6) ok dX3_put_13 (by decide) ?_
    refine at_ishr ok dX3_put_15 ?_
    refine at_ite h (fun hc0 h => ?_) (fun hc0 h => ?_)
    · refine at_tsw (tgt := 44) ok dX3_put_16 (tsw_in hc0 (by decide) rfl (by decide)) ?_
      refine at_aloadn ok dX3_put_44 rfl ?_
      refine at_dup ok dX3_put_45 (cat_rf _) ?_
      refine at_getL ok gf_3_7 dX3_put_46 h fun v46 h => ?_
      refine at_lloadn ok dX3_put_49 rfl ?_
      refine at_lor ok dX3_put_50 ?_
      refine at_putL ok (pf_3_7 _) dX3_put_51 h fun σ h => ?_
      refine at_goto (tgt := 83) ok dX3_put_54 (by decide) ?_
      exact at_vret ok fn rfl dX3_put_83 h
    · refine at_ite h (fun hc1 h => ?_) (fun hc1 h => ?_)
      · refine at_tsw (tgt := 57) ok dX3_put_16 (tsw_in hc1 (by decide) rfl (by decide)) ?_
        refine at_aloadn ok dX3_put_57 rfl ?_
        refine at_dup ok dX3_put_58 (cat_rf _) ?_
        refine at_getL ok gf_3_13 dX3_put_59 h fun v59 h => ?_
        refine at_lloadn ok dX3_put_62 rfl ?_
        refine at_lor ok dX3_put_63 ?_
        refine at_putL ok (pf_3_13 _) dX3_put_64 h fun σ h => ?_
        refine at_goto (tgt := 83) ok dX3_put_67 (by decide) ?_
        exact at_vret ok fn rfl dX3_put_83 h
      · refine at_ite h (fun hc2 h => ?_) (fun hc2 h => ?_)
        · refine at_tsw (tgt := 70) ok dX3_put_16 (tsw_in hc2 (by decide) rfl (by decide)) ?_
          refine at_aloadn ok dX3_put_70 rfl ?_
          refine at_dup ok dX3_put_71 (cat_rf _) ?_
          refine at_getL ok gf_3_16 dX3_put_72 h fun v72 h => ?_
          refine at_lloadn ok dX3_put_75 rfl ?_
          refine at_lor ok dX3_put_76 ?_
          refine at_putL ok (pf_3_16 _) dX3_put_77 h fun σ h => ?_
          refine at_goto (tgt := 83) ok dX3_put_80 (by decide) ?_
          exact at_vret ok fn rfl dX3_put_83 h
        · refine at_tsw (tgt := 83) ok dX3_put_16 (tsw_out (by have i0 := i32_ne (k := 0) (by decide) hc0; have i1 := i32_ne (k := 1) (by decide) hc1; have i2 := i32_ne (k := 2) (by decide) hc2; omega) (by decide)) ?_
          exact at_vret ok fn rfl dX3_put_83 h
  · exact at_vret ok fn rfl dX3_put_4 h
set_option maxRecDepth 100000 in
set_option maxHeartbeats 4000000 in
theorem s0_put (t : Option Nat) (a1 : Int32) (a2 : Int32) (a3 : Int32) (σ : AH) (Q : Unit → AH → Prop) (h : Hr (f0_put t a1 a2 a3) σ Q) : Runs m0_put σ [va_rf t, .int (a1), .int (a2), .int (a3)] (fun v σ1 => ∃ a, v = none ∧ Q a σ1) := by
  obtain ⟨a0, σ1, e, hQ⟩ := h
  have hm := n0_put t a1 a2 a3 σ a0 σ1 e
  have h : Hr (f0_put t a1 a2 a3) σ (fun a σ2 => a = a0 ∧ σ2 = σ1) := ⟨a0, σ1, e, rfl, rfl⟩
  refine ⟨_, σ1, hm, ⟨a0, rfl, hQ⟩, runs_of (by decide +kernel) (by simp [cat_rf, cat_i, cat_l]) (Nat.le_of_ble_eq_true rfl) hm fun X ok fn => ?_⟩
  clear e hQ hm
  unfold f0_put at h
  show AT X m0_put 0 [some (va_rf (t)), some (.int (a1)), some (.int (a2)), some (.int (a3))] [] σ
  refine at_aloadn ok dX0_put_0 rfl ?_
  refine at_getI ok gf_0_18 dX0_put_1 h fun v1 h => ?_
  refine at_aloadn ok dX0_put_4 rfl ?_
  refine at_getR ok gf_0_28 dX0_put_5 h fun v5 h => ?_
  refine at_alen (t := 0) (by decide) ok dX0_put_8 h fun v8 h => ?_
  refine at_join (fun y42 σ => AT X m0_put 42 [some (va_rf (t)), none, none, some (.int (a3))] [] σ) h (fun y42 σ h => ?_) (fun h j42 => ?_)
  · refine at_aloadn ok dX0_put_42 rfl ?_
    refine at_dup ok dX0_put_43 (cat_rf _) ?_
    refine at_getI ok gf_0_18 dX0_put_44 h fun v44 h => ?_
    refine at_iconst (v := 1) ok dX0_put_47 (by decide) ?_
    refine at_iadd ok dX0_put_48 ?_
    refine at_putI ok (pf_0_18 _) dX0_put_49 h fun σ h => ?_
    refine at_aloadn ok dX0_put_52 rfl ?_
    refine at_getR ok gf_0_12 dX0_put_53 h fun v53 h => ?_
    refine at_iloadn ok dX0_put_56 rfl ?_
    refine at_cVv (As := [.int (a3)]) ok ct_0_put_41 dX0_put_57 (by simp [cat_rf, cat_i, cat_l]) (s3_put v53 a3 _) h fun v57 σ h => ?_
    exact at_vret ok fn rfl dX0_put_60 h
  · refine bt_icmp_ge (tgt := 42) ok dX0_put_9 (by decide) h (fun hc h => ?_) (fun hc h => ?_)
    · exact at_weak (lw_s (lw_n (lw_n (lw_s lw_0)))) (j42 () _ (hr_rt.mp h))
    · refine at_aloadn ok dX0_put_12 rfl ?_
      refine at_getR ok gf_0_28 dX0_put_13 h fun v13 h => ?_
      refine at_aloadn ok dX0_put_16 rfl ?_
      refine at_getI ok gf_0_18 dX0_put_17 h fun v17 h => ?_
      refine at_iloadn ok dX0_put_20 rfl ?_
      refine at_iast ok dX0_put_21 h fun σ h => ?_
      refine at_aloadn ok dX0_put_22 rfl ?_
      refine at_getR ok gf_0_32 dX0_put_23 h fun v23 h => ?_
      refine at_aloadn ok dX0_put_26 rfl ?_
      refine at_getI ok gf_0_18 dX0_put_27 h fun v27 h => ?_
      refine at_iloadn ok dX0_put_30 rfl ?_
      refine at_iast ok dX0_put_31 h fun σ h => ?_
      refine at_aloadn ok dX0_put_32 rfl ?_
      refine at_getR ok gf_0_35 dX0_put_33 h fun v33 h => ?_
      refine at_aloadn ok dX0_put_36 rfl ?_
      refine at_getI ok gf_0_18 dX0_put_37 h fun v37 h => ?_
      refine at_iloadn ok dX0_put_40 rfl ?_
      refine at_iast ok dX0_put_41 h fun σ h => ?_
      exact at_weak (lw_s (lw_n (lw_n (lw_s lw_0)))) (j42 () _ (hr_rt.mp h))
set_option maxRecDepth 100000 in
set_option maxHeartbeats 4000000 in
theorem s6_isAlike (t : Option Nat) (a1 : Int32) (a2 : Option Nat) (a3 : Int32) (σ : AH) (Q : Int32 → AH → Prop) (h : Hr (f6_isAlike t a1 a2 a3) σ Q) : Runs m6_isAlike σ [va_rf t, .int (a1), va_rf (a2), .int (a3)] (fun v σ1 => ∃ a, v = some (.int a) ∧ Q a σ1) := by
  obtain ⟨a0, σ1, e, hQ⟩ := h
  have hm := n6_isAlike t a1 a2 a3 σ a0 σ1 e
  have h : Hr (f6_isAlike t a1 a2 a3) σ (fun a σ2 => a = a0 ∧ σ2 = σ1) := ⟨a0, σ1, e, rfl, rfl⟩
  refine ⟨_, σ1, hm, ⟨a0, rfl, hQ⟩, runs_of (by decide +kernel) (by simp [cat_rf, cat_i, cat_l]) (Nat.le_of_ble_eq_true rfl) hm fun X ok fn => ?_⟩
  clear e hQ hm
  unfold f6_isAlike at h
  show AT X m6_isAlike 0 [some (va_rf (t)), some (.int (a1)), some (va_rf (a2)), some (.int (a3)), none, none, none, none] [] σ
  refine at_aloadn ok dX6_isAlike_0 rfl ?_
  refine at_getR ok gf_6_40 dX6_isAlike_1 h fun v1 h => ?_
  refine at_iloadn ok dX6_isAlike_4 rfl ?_
  refine at_iald ok dX6_isAlike_5 h fun v5 h => ?_
  refine at_aloadn ok dX6_isAlike_6 rfl ?_
  refine at_getR ok gf_6_40 dX6_isAlike_7 h fun v7 h => ?_
  refine at_iloadn ok dX6_isAlike_10 rfl ?_
  refine at_iald ok dX6_isAlike_11 h fun v11 h => ?_
  refine bt_icmp_eq (tgt := 17) ok dX6_isAlike_12 (by decide) h (fun hc h => ?_) (fun hc h => ?_)
  · refine at_aloadn ok dX6_isAlike_17 rfl ?_
    refine at_getR ok gf_6_37 dX6_isAlike_18 h fun v18 h => ?_
    refine at_iloadn ok dX6_isAlike_21 rfl ?_
    refine at_iald ok dX6_isAlike_22 h fun v22 h => ?_
    refine at_istore ok dX6_isAlike_23 (lc_int rfl) (by decide) ?_
    refine at_iload ok dX6_isAlike_25 rfl ?_
    refine at_aloadn ok dX6_isAlike_27 rfl ?_
    refine at_getR ok gf_6_37 dX6_isAlike_28 h fun v28 h => ?_
    refine at_iloadn ok dX6_isAlike_31 rfl ?_
    refine at_iald ok dX6_isAlike_32 h fun v32 h => ?_
    refine bt_icmp_eq (tgt := 38) ok dX6_isAlike_33 (by decide) h (fun hc h => ?_) (fun hc h => ?_)
    · refine at_aloadn ok dX6_isAlike_38 rfl ?_
      refine at_getR ok gf_6_34 dX6_isAlike_39 h fun v39 h => ?_
      refine at_iloadn ok dX6_isAlike_42 rfl ?_
      refine at_iald ok dX6_isAlike_43 h fun v43 h => ?_
      refine at_istore ok dX6_isAlike_44 (lc_int rfl) (by decide) ?_
      refine at_aloadn ok dX6_isAlike_46 rfl ?_
      refine at_getR ok gf_6_34 dX6_isAlike_47 h fun v47 h => ?_
      refine at_iloadn ok dX6_isAlike_50 rfl ?_
      refine at_iald ok dX6_isAlike_51 h fun v51 h => ?_
      refine at_istore ok dX6_isAlike_52 (lc_int rfl) (by decide) ?_
      refine at_iconst (v := 0) ok dX6_isAlike_54 (by decide) ?_
      refine at_istore ok dX6_isAlike_55 (lc_int rfl) (by decide) ?_
      refine at_weak (L' := [some (va_rf (t)), none, some (va_rf (a2)), none, some (.int (v22)), some (.int (v43)), some (.int (v51)), some (.int (0))]) (lw_s (lw_n (lw_s (lw_n (lw_s (lw_s (lw_s (lw_s lw_0)))))))) ?_
      refine at_loopS (fun x57 σ => AT X m6_isAlike 57 [some (va_rf (t)), none, some (va_rf (a2)), none, some (.int (v22)), some (.int (v43)), some (.int (v51)), some (.int (x57))] [] σ) (fun y95 σ => AT X m6_isAlike 95 [none, none, none, none, none, none, none, none] [] σ) h (fun y95 σ h => ?_) (fun kx rec ih x57 σ h => ?_)
      · refine at_iconst (v := 1) ok dX6_isAlike_95 (by decide) ?_
        exact at_iret ok fn ⟨_, rfl, rfl⟩ dX6_isAlike_96 h
      · unfold l6_isAlike_57 at h
        refine at_iload ok dX6_isAlike_57 rfl ?_
        refine at_iload ok dX6_isAlike_59 rfl ?_
        refine bt_icmp_ge (tgt := 95) ok dX6_isAlike_61 (by decide) h (fun hc h => ?_) (fun hc h => ?_)
        · exact at_weak (lw_n (lw_n (lw_n (lw_n (lw_n (lw_n (lw_n (lw_n lw_0)))))))) (by have z := hr_inr h; exact kx () _ z)
        · refine at_aloadn ok dX6_isAlike_64 rfl ?_
          refine at_getR ok gf_6_24 dX6_isAlike_65 h fun v65 h => ?_
          refine at_iload ok dX6_isAlike_68 rfl ?_
          refine at_iload ok dX6_isAlike_70 rfl ?_
          refine at_iadd ok dX6_isAlike_72 ?_
          refine at_iald ok dX6_isAlike_73 h fun v73 h => ?_
          refine at_aloadn ok dX6_isAlike_74 rfl ?_
          refine at_getR ok gf_6_24 dX6_isAlike_75 h fun v75 h => ?_
          refine at_iload ok dX6_isAlike_78 rfl ?_
          refine at_iload ok dX6_isAlike_80 rfl ?_
          refine at_iadd ok dX6_isAlike_82 ?_
          refine at_iald ok dX6_isAlike_83 h fun v83 h => ?_
          refine bt_icmp_eq (tgt := 89) ok dX6_isAlike_84 (by decide) h (fun hc h => ?_) (fun hc h => ?_)
          · refine at_iinc (v := x57 + 1) ok dX6_isAlike_89 rfl rfl (lc_int rfl) (by decide) ?_
            refine at_goto (tgt := 57) ok dX6_isAlike_92 (by decide) ?_
            exact at_weak (lw_s (lw_n (lw_s (lw_n (lw_s (lw_s (lw_s (lw_s lw_0)))))))) (ih (x57 + 1) _ h)
          · refine at_iconst (v := 0) ok dX6_isAlike_87 (by decide) ?_
            exact at_iret ok fn ⟨_, rfl, rfl⟩ dX6_isAlike_88 (hr_inl h)
    · refine at_iconst (v := 0) ok dX6_isAlike_36 (by decide) ?_
      exact at_iret ok fn ⟨_, rfl, rfl⟩ dX6_isAlike_37 h
  · refine at_iconst (v := 0) ok dX6_isAlike_15 (by decide) ?_
    exact at_iret ok fn ⟨_, rfl, rfl⟩ dX6_isAlike_16 h
set_option maxRecDepth 100000 in
set_option maxHeartbeats 4000000 in
theorem s6_placeEnd (t : Option Nat) (a1 : Int32) (σ : AH) (Q : Int32 → AH → Prop) (h : Hr (f6_placeEnd t a1) σ Q) : Runs m6_placeEnd σ [va_rf t, .int (a1)] (fun v σ1 => ∃ a, v = some (.int a) ∧ Q a σ1) := by
  obtain ⟨a0, σ1, e, hQ⟩ := h
  have hm := n6_placeEnd t a1 σ a0 σ1 e
  have h : Hr (f6_placeEnd t a1) σ (fun a σ2 => a = a0 ∧ σ2 = σ1) := ⟨a0, σ1, e, rfl, rfl⟩
  refine ⟨_, σ1, hm, ⟨a0, rfl, hQ⟩, runs_of (by decide +kernel) (by simp [cat_rf, cat_i, cat_l]) (Nat.le_of_ble_eq_true rfl) hm fun X ok fn => ?_⟩
  clear e hQ hm
  unfold f6_placeEnd at h
  show AT X m6_placeEnd 0 [some (va_rf (t)), some (.int (a1))] [] σ
  refine at_aloadn ok dX6_placeEnd_0 rfl ?_
  refine at_getR ok gf_6_31 dX6_placeEnd_1 h fun v1 h => ?_
  refine at_aloadn ok dX6_placeEnd_4 rfl ?_
  refine at_getR ok gf_6_34 dX6_placeEnd_5 h fun v5 h => ?_
  refine at_iloadn ok dX6_placeEnd_8 rfl ?_
  refine at_iald ok dX6_placeEnd_9 h fun v9 h => ?_
  refine at_aloadn ok dX6_placeEnd_10 rfl ?_
  refine at_getR ok gf_6_37 dX6_placeEnd_11 h fun v11 h => ?_
  refine at_iloadn ok dX6_placeEnd_14 rfl ?_
  refine at_iald ok dX6_placeEnd_15 h fun v15 h => ?_
  refine at_iadd ok dX6_placeEnd_16 ?_
  refine at_iconst (v := 1) ok dX6_placeEnd_17 (by decide) ?_
  refine at_isub ok dX6_placeEnd_18 ?_
  refine at_iald ok dX6_placeEnd_19 h fun v19 h => ?_
  exact at_iret ok fn ⟨_, rfl, rfl⟩ dX6_placeEnd_20 h
set_option maxRecDepth 100000 in
set_option maxHeartbeats 4000000 in
theorem s6_placeStart (t : Option Nat) (a1 : Int32) (σ : AH) (Q : Int32 → AH → Prop) (h : Hr (f6_placeStart t a1) σ Q) : Runs m6_placeStart σ [va_rf t, .int (a1)] (fun v σ1 => ∃ a, v = some (.int a) ∧ Q a σ1) := by
  obtain ⟨a0, σ1, e, hQ⟩ := h
  have hm := n6_placeStart t a1 σ a0 σ1 e
  have h : Hr (f6_placeStart t a1) σ (fun a σ2 => a = a0 ∧ σ2 = σ1) := ⟨a0, σ1, e, rfl, rfl⟩
  refine ⟨_, σ1, hm, ⟨a0, rfl, hQ⟩, runs_of (by decide +kernel) (by simp [cat_rf, cat_i, cat_l]) (Nat.le_of_ble_eq_true rfl) hm fun X ok fn => ?_⟩
  clear e hQ hm
  unfold f6_placeStart at h
  show AT X m6_placeStart 0 [some (va_rf (t)), some (.int (a1))] [] σ
  refine at_aloadn ok dX6_placeStart_0 rfl ?_
  refine at_getR ok gf_6_28 dX6_placeStart_1 h fun v1 h => ?_
  refine at_aloadn ok dX6_placeStart_4 rfl ?_
  refine at_getR ok gf_6_34 dX6_placeStart_5 h fun v5 h => ?_
  refine at_iloadn ok dX6_placeStart_8 rfl ?_
  refine at_iald ok dX6_placeStart_9 h fun v9 h => ?_
  refine at_iald ok dX6_placeStart_10 h fun v10 h => ?_
  exact at_iret ok fn ⟨_, rfl, rfl⟩ dX6_placeStart_11 h
set_option maxRecDepth 100000 in
set_option maxHeartbeats 4000000 in
theorem s6_collectAlike (t : Option Nat) (a1 : Option Nat) (a2 : Option Nat) (σ : AH) (Q : Unit → AH → Prop) (h : Hr (f6_collectAlike t a1 a2) σ Q) : Runs m6_collectAlike σ [va_rf t, va_rf (a1), va_rf (a2)] (fun v σ1 => ∃ a, v = none ∧ Q a σ1) := by
  obtain ⟨a0, σ1, e, hQ⟩ := h
  have hm := n6_collectAlike t a1 a2 σ a0 σ1 e
  have h : Hr (f6_collectAlike t a1 a2) σ (fun a σ2 => a = a0 ∧ σ2 = σ1) := ⟨a0, σ1, e, rfl, rfl⟩
  refine ⟨_, σ1, hm, ⟨a0, rfl, hQ⟩, runs_of (by decide +kernel) (by simp [cat_rf, cat_i, cat_l]) (Nat.le_of_ble_eq_true rfl) hm fun X ok fn => ?_⟩
  clear e hQ hm
  unfold f6_collectAlike at h
  show AT X m6_collectAlike 0 [some (va_rf (t)), some (va_rf (a1)), some (va_rf (a2)), none] [] σ
  refine at_aloadn ok dX6_collectAlike_0 rfl ?_
  refine bt_ifnull (tgt := 11) ok dX6_collectAlike_1 (by decide) h (fun hc h => ?_) (fun hc h => ?_)
  · exact at_vret ok fn rfl dX6_collectAlike_11 h
  · refine at_aloadn ok dX6_collectAlike_4 rfl ?_
    refine at_getI ok gf_6_15 dX6_collectAlike_5 h fun v5 h => ?_
    refine bt_if_ne (tgt := 12) ok dX6_collectAlike_8 (by decide) h (fun hc h => ?_) (fun hc h => ?_)
    · exact at_vret ok fn rfl dX6_collectAlike_11 h
    · refine at_iconst (v := 0) ok dX6_collectAlike_12 (by decide) ?_
      refine at_istoren ok dX6_collectAlike_13 rfl (lc_ref rfl) (by decide) ?_
      refine at_weak (L' := [some (va_rf (t)), some (va_rf (a1)), some (va_rf (a2)), some (.int (0))]) (lw_s (lw_s (lw_s (lw_s lw_0)))) ?_
      refine at_loop (fun x14 σ => AT X m6_collectAlike 14 [some (va_rf (t)), some (va_rf (a1)), some (va_rf (a2)), some (.int (x14))] [] σ) (fun y53 σ => AT X m6_collectAlike 53 [none, none, none, none] [] σ) h (fun y53 σ h => ?_) (fun kx rec ih x14 σ h => ?_)
      · exact at_vret ok fn rfl dX6_collectAlike_53 h
      · unfold l6_collectAlike_14 at h
        refine at_iloadn ok dX6_collectAlike_14 rfl ?_
        refine at_aloadn ok dX6_collectAlike_15 rfl ?_
        refine at_getI ok gf_6_15 dX6_collectAlike_16 h fun v16 h => ?_
        refine bt_icmp_ge (tgt := 53) ok dX6_collectAlike_19 (by decide) h (fun hc h => ?_) (fun hc h => ?_)
        · exact at_weak (lw_n (lw_n (lw_n (lw_n lw_0)))) (kx () _ (hr_rt.mp h))
        · refine at_aloadn ok dX6_collectAlike_22 rfl ?_
          refine at_iloadn ok dX6_collectAlike_23 rfl ?_
          refine at_aloadn ok dX6_collectAlike_24 rfl ?_
          refine at_iconst (v := 0) ok dX6_collectAlike_25 (by decide) ?_
          refine at_cVi (As := [.int (x14), va_rf (a1), .int (0)]) ok ct_6_collectAlike_73 dX6_collectAlike_26 (by simp [cat_rf, cat_i, cat_l]) (s6_isAlike t x14 a1 0 _) h fun v26 σ h => ?_
          refine bt_if_eq (tgt := 47) ok dX6_collectAlike_29 (by decide) h (fun hc h => ?_) (fun hc h => ?_)
          · refine at_iinc (v := x14 + 1) ok dX6_collectAlike_47 rfl rfl (lc_ref rfl) (by decide) ?_
            refine at_goto (tgt := 14) ok dX6_collectAlike_50 (by decide) ?_
            exact at_weak (lw_s (lw_s (lw_s (lw_s lw_0)))) (ih (x14 + 1) _ h)
          · refine at_aloadn ok dX6_collectAlike_32 rfl ?_
            refine at_aloadn ok dX6_collectAlike_33 rfl ?_
            refine at_iloadn ok dX6_collectAlike_34 rfl ?_
            refine at_cVi (As := [.int (x14)]) ok ct_6_collectAlike_77 dX6_collectAlike_35 (by simp [cat_rf, cat_i, cat_l]) (s6_placeStart t x14 _) h fun v35 σ h => ?_
            refine at_aloadn ok dX6_collectAlike_38 rfl ?_
            refine at_iloadn ok dX6_collectAlike_39 rfl ?_
            refine at_cVi (As := [.int (x14)]) ok ct_6_collectAlike_80 dX6_collectAlike_40 (by simp [cat_rf, cat_i, cat_l]) (s6_placeEnd t x14 _) h fun v40 σ h => ?_
            refine at_iconst (v := (-1)) ok dX6_collectAlike_43 (by decide) ?_
            refine at_cVv (As := [.int (v35), .int (v40), .int ((-1))]) ok ct_6_collectAlike_83 dX6_collectAlike_44 (by simp [cat_rf, cat_i, cat_l]) (s0_put a2 v35 v40 (-1) _) h fun v44 σ h => ?_
            refine at_iinc (v := x14 + 1) ok dX6_collectAlike_47 rfl rfl (lc_ref rfl) (by decide) ?_
            refine at_goto (tgt := 14) ok dX6_collectAlike_50 (by decide) ?_
            exact at_weak (lw_s (lw_s (lw_s (lw_s lw_0)))) (ih (x14 + 1) _ h)
set_option maxRecDepth 100000 in
set_option maxHeartbeats 4000000 in
theorem s6_isDigit (a1 : Int32) (σ : AH) (Q : Int32 → AH → Prop) (h : Hr (f6_isDigit a1) σ Q) : Runs m6_isDigit σ [.int (a1)] (fun v σ1 => ∃ a, v = some (.int a) ∧ Q a σ1) := by
  obtain ⟨a0, σ1, e, hQ⟩ := h
  have hm := n6_isDigit a1 σ a0 σ1 e
  have h : Hr (f6_isDigit a1) σ (fun a σ2 => a = a0 ∧ σ2 = σ1) := ⟨a0, σ1, e, rfl, rfl⟩
  refine ⟨_, σ1, hm, ⟨a0, rfl, hQ⟩, runs_of (by decide +kernel) (by simp [cat_rf, cat_i, cat_l]) (Nat.le_of_ble_eq_true rfl) hm fun X ok fn => ?_⟩
  clear e hQ hm
  unfold f6_isDigit at h
  show AT X m6_isDigit 0 [some (.int (a1))] [] σ
  refine at_iloadn ok dX6_isDigit_0 rfl ?_
  refine at_bipush (v := 48) ok dX6_isDigit_1 (by decide) ?_
  refine bt_icmp_lt (tgt := 16) ok dX6_isDigit_3 (by decide) h (fun hc h => ?_) (fun hc h => ?_)
  · refine at_iconst (v := 0) ok dX6_isDigit_16 (by decide) ?_
    exact at_iret ok fn ⟨_, rfl, rfl⟩ dX6_isDigit_17 h
  · refine at_iloadn ok dX6_isDigit_6 rfl ?_
    refine at_bipush (v := 57) ok dX6_isDigit_7 (by decide) ?_
    refine bt_icmp_gt (tgt := 16) ok dX6_isDigit_9 (by decide) h (fun hc h => ?_) (fun hc h => ?_)
    · refine at_iconst (v := 0) ok dX6_isDigit_16 (by decide) ?_
      exact at_iret ok fn ⟨_, rfl, rfl⟩ dX6_isDigit_17 h
    · refine at_iconst (v := 1) ok dX6_isDigit_12 (by decide) ?_
      refine at_goto (tgt := 17) ok dX6_isDigit_13 (by decide) ?_
      exact at_iret ok fn ⟨_, rfl, rfl⟩ dX6_isDigit_17 h
set_option maxRecDepth 100000 in
set_option maxHeartbeats 4000000 in
theorem s6_endOfDigits (t : Option Nat) (a1 : Int32) (σ : AH) (Q : Int32 → AH → Prop) (h : Hr (f6_endOfDigits t a1) σ Q) : Runs m6_endOfDigits σ [va_rf t, .int (a1)] (fun v σ1 => ∃ a, v = some (.int a) ∧ Q a σ1) := by
  obtain ⟨a0, σ1, e, hQ⟩ := h
  have hm := n6_endOfDigits t a1 σ a0 σ1 e
  have h : Hr (f6_endOfDigits t a1) σ (fun a σ2 => a = a0 ∧ σ2 = σ1) := ⟨a0, σ1, e, rfl, rfl⟩
  refine ⟨_, σ1, hm, ⟨a0, rfl, hQ⟩, runs_of (by decide +kernel) (by simp [cat_rf, cat_i, cat_l]) (Nat.le_of_ble_eq_true rfl) hm fun X ok fn => ?_⟩
  clear e hQ hm
  unfold f6_endOfDigits at h
  show AT X m6_endOfDigits 0 [some (va_rf (t)), some (.int (a1)), none, none] [] σ
  refine at_iloadn ok dX6_endOfDigits_0 rfl ?_
  refine at_istoren ok dX6_endOfDigits_1 rfl (lc_int rfl) (by decide) ?_
  refine at_iloadn ok dX6_endOfDigits_2 rfl ?_
  refine at_iconst (v := 1) ok dX6_endOfDigits_3 (by decide) ?_
  refine at_iadd ok dX6_endOfDigits_4 ?_
  refine at_istoren ok dX6_endOfDigits_5 rfl (lc_int rfl) (by decide) ?_
  refine at_weak (L' := [some (va_rf (t)), none, some (.int (a1)), some (.int ((a1 + 1)))]) (lw_s (lw_n (lw_s (lw_s lw_0)))) ?_
  refine at_loop (fun x6 σ => AT X m6_endOfDigits 6 [some (va_rf (t)), none, some (.int (x6.1)), some (.int (x6.2))] [] σ) (fun y69 σ => AT X m6_endOfDigits 69 [none, none, some (.int (y69)), none] [] σ) h (fun y69 σ h => ?_) (fun kx rec ih x6 σ h => ?_)
  · refine at_iloadn ok dX6_endOfDigits_69 rfl ?_
    exact at_iret ok fn ⟨_, rfl, rfl⟩ dX6_endOfDigits_70 h
  · unfold l6_endOfDigits_6 at h
    obtain ⟨x6_1, x6_2⟩ := x6
    dsimp only at h ⊢
    refine at_iloadn ok dX6_endOfDigits_6 rfl ?_
    refine at_aloadn ok dX6_endOfDigits_7 rfl ?_
    refine at_getI ok gf_6_9 dX6_endOfDigits_8 h fun v8 h => ?_
    refine bt_icmp_ge (tgt := 69) ok dX6_endOfDigits_11 (by decide) h (fun hc h => ?_) (fun hc h => ?_)
    · exact at_weak (lw_n (lw_n (lw_s (lw_n lw_0)))) (kx x6_1 _ (hr_rt.mp h))
    · refine at_iloadn ok dX6_endOfDigits_14 rfl ?_
      refine at_iloadn ok dX6_endOfDigits_15 rfl ?_
      refine at_iconst (v := 2) ok dX6_endOfDigits_16 (by decide) ?_
      refine at_iadd ok dX6_endOfDigits_17 ?_
      refine bt_icmp_gt (tgt := 69) ok dX6_endOfDigits_18 (by decide) h (fun hc h => ?_) (fun hc h => ?_)
      · exact at_weak (lw_n (lw_n (lw_s (lw_n lw_0)))) (kx x6_1 _ (hr_rt.mp h))
      · refine at_aloadn ok dX6_endOfDigits_21 rfl ?_
        refine at_getR ok gf_6_24 dX6_endOfDigits_22 h fun v22 h => ?_
        refine at_iloadn ok dX6_endOfDigits_25 rfl ?_
        refine at_iald ok dX6_endOfDigits_26 h fun v26 h => ?_
        refine at_cSi (As := [.int (v26)]) ok ct_6_endOfDigits_62 dX6_endOfDigits_27 (by simp [cat_rf, cat_i, cat_l]) (s6_isDigit v26 _) h fun v27 σ h => ?_
        refine bt_if_eq (tgt := 38) ok dX6_endOfDigits_30 (by decide) h (fun hc h => ?_) (fun hc h => ?_)
        · refine at_aloadn ok dX6_endOfDigits_38 rfl ?_
          refine at_getR ok gf_6_24 dX6_endOfDigits_39 h fun v39 h => ?_
          refine at_iloadn ok dX6_endOfDigits_42 rfl ?_
          refine at_iald ok dX6_endOfDigits_43 h fun v43 h => ?_
          refine at_bipush (v := 32) ok dX6_endOfDigits_44 (by decide) ?_
          refine bt_icmp_eq (tgt := 63) ok dX6_endOfDigits_46 (by decide) h (fun hc h => ?_) (fun hc h => ?_)
          · refine at_iinc (v := x6_2 + 1) ok dX6_endOfDigits_63 rfl rfl (lc_int rfl) (by decide) ?_
            refine at_goto (tgt := 6) ok dX6_endOfDigits_66 (by decide) ?_
            exact at_weak (lw_s (lw_n (lw_s (lw_s lw_0)))) (by have q := ih (x6_1, (x6_2 + 1)) _ h; dsimp only at q; exact q)
          · refine at_aloadn ok dX6_endOfDigits_49 rfl ?_
            refine at_getR ok gf_6_24 dX6_endOfDigits_50 h fun v50 h => ?_
            refine at_iloadn ok dX6_endOfDigits_53 rfl ?_
            refine at_iald ok dX6_endOfDigits_54 h fun v54 h => ?_
            refine at_bipush (v := 45) ok dX6_endOfDigits_55 (by decide) ?_
            refine bt_icmp_eq (tgt := 63) ok dX6_endOfDigits_57 (by decide) h (fun hc h => ?_) (fun hc h => ?_)
            · refine at_iinc (v := x6_2 + 1) ok dX6_endOfDigits_63 rfl rfl (lc_int rfl) (by decide) ?_
              refine at_goto (tgt := 6) ok dX6_endOfDigits_66 (by decide) ?_
              exact at_weak (lw_s (lw_n (lw_s (lw_s lw_0)))) (by have q := ih (x6_1, (x6_2 + 1)) _ h; dsimp only at q; exact q)
            · refine at_goto (tgt := 69) ok dX6_endOfDigits_60 (by decide) ?_
              exact at_weak (lw_n (lw_n (lw_s (lw_n lw_0)))) (kx x6_1 _ (hr_rt.mp h))
        · refine at_iloadn ok dX6_endOfDigits_33 rfl ?_
          refine at_istoren ok dX6_endOfDigits_34 rfl (lc_non rfl) (by decide) ?_
          refine at_goto (tgt := 63) ok dX6_endOfDigits_35 (by decide) ?_
          refine at_iinc (v := x6_2 + 1) ok dX6_endOfDigits_63 rfl rfl (lc_int rfl) (by decide) ?_
          refine at_goto (tgt := 6) ok dX6_endOfDigits_66 (by decide) ?_
          exact at_weak (lw_s (lw_n (lw_s (lw_s lw_0)))) (by have q := ih (x6_2, (x6_2 + 1)) _ h; dsimp only at q; exact q)
