set_option maxRecDepth 100000 in
set_option maxHeartbeats 4000000 in
theorem s7_piecesLetOut (t : Option Nat) (a1 : Int32) (a2 : Int32) (σ : AH) (Q : Int32 → AH → Prop) (h : Hr (f7_piecesLetOut t a1 a2) σ Q) : Runs m7_piecesLetOut σ [va_rf t, .int (a1), .int (a2)] (fun v σ1 => ∃ a, v = some (.int a) ∧ Q a σ1) := by
  obtain ⟨a0, σ1, e, hQ⟩ := h
  have hm := n7_piecesLetOut t a1 a2 σ a0 σ1 e
  have h : Hr (f7_piecesLetOut t a1 a2) σ (fun a σ2 => a = a0 ∧ σ2 = σ1) := ⟨a0, σ1, e, rfl, rfl⟩
  refine ⟨_, σ1, hm, ⟨a0, rfl, hQ⟩, runs_of (by decide +kernel) (by simp [cat_rf, cat_i, cat_l]) (Nat.le_of_ble_eq_true rfl) hm fun X ok fn => ?_⟩
  clear e hQ hm
  unfold f7_piecesLetOut at h
  show AT X m7_piecesLetOut 0 [some (va_rf (t)), some (.int (a1)), some (.int (a2)), none, none, none] [] σ
  refine at_aloadn ok dX7_piecesLetOut_0 rfl ?_
  refine at_getR ok gf_7_45 dX7_piecesLetOut_1 h fun v1 h => ?_
  refine at_iloadn ok dX7_piecesLetOut_4 rfl ?_
  refine at_aald (t := 4) ⟨_, rfl⟩ (by decide) ok dX7_piecesLetOut_5 h fun v5 h => ?_
  refine at_astoren ok dX7_piecesLetOut_6 rfl (lc_int rfl) (by decide) ?_
  refine at_aloadn ok dX7_piecesLetOut_7 rfl ?_
  refine at_getR ok gf_7_69 dX7_piecesLetOut_8 h fun v8 h => ?_
  refine at_cVv (As := []) ok ct_7_piecesLetOut_297 dX7_piecesLetOut_11 (by simp [cat_rf, cat_i, cat_l]) (s3_clear v8  _) h fun v11 σ h => ?_
  refine at_iconst (v := 0) ok dX7_piecesLetOut_14 (by decide) ?_
  refine at_istore ok dX7_piecesLetOut_15 (lc_ref rfl) (by decide) ?_
  refine at_weak (L' := [some (va_rf (t)), some (.int (a1)), some (.int (a2)), some (va_rf (v5)), some (.int (0)), none]) (lw_s (lw_s (lw_s (lw_s (lw_s (lw_n lw_0)))))) ?_
  refine at_loop (fun x17 σ => AT X m7_piecesLetOut 17 [some (va_rf (t)), some (.int (a1)), some (.int (a2)), some (va_rf (v5)), some (.int (x17)), none] [] σ) (fun y89 σ => AT X m7_piecesLetOut 89 [some (va_rf (t)), none, none, none, none, none] [] σ) h (fun y89 σ h => ?_) (fun kx rec ih x17 σ h => ?_)
  · refine at_aloadn ok dX7_piecesLetOut_89 rfl ?_
    refine at_getR ok gf_7_69 dX7_piecesLetOut_90 h fun v90 h => ?_
    refine at_cVi (As := []) ok ct_7_piecesLetOut_231 dX7_piecesLetOut_93 (by simp [cat_rf, cat_i, cat_l]) (s3_size v90  _) h fun v93 σ h => ?_
    exact at_iret ok fn ⟨_, rfl, rfl⟩ dX7_piecesLetOut_96 h
  · unfold l7_piecesLetOut_17 at h
    refine at_iload ok dX7_piecesLetOut_17 rfl ?_
    refine at_iloadn ok dX7_piecesLetOut_19 rfl ?_
    refine bt_icmp_gt (tgt := 89) ok dX7_piecesLetOut_20 (by decide) h (fun hc h => ?_) (fun hc h => ?_)
    · exact at_weak (lw_s (lw_n (lw_n (lw_n (lw_n (lw_n lw_0)))))) (kx () _ (hr_rt.mp h))
    · refine at_aloadn ok dX7_piecesLetOut_23 rfl ?_
      refine at_getR ok gf_7_45 dX7_piecesLetOut_24 h fun v24 h => ?_
      refine at_iload ok dX7_piecesLetOut_27 rfl ?_
      refine at_aald (t := 4) ⟨_, rfl⟩ (by decide) ok dX7_piecesLetOut_29 h fun v29 h => ?_
      refine at_astore ok dX7_piecesLetOut_30 (lc_int rfl) (by decide) ?_
      refine at_aload ok dX7_piecesLetOut_32 rfl ?_
      refine at_getI ok gf_7_188 dX7_piecesLetOut_34 h fun v34 h => ?_
      refine at_aloadn ok dX7_piecesLetOut_37 rfl ?_
      refine at_getI ok gf_7_188 dX7_piecesLetOut_38 h fun v38 h => ?_
      refine bt_icmp_ne (tgt := 83) ok dX7_piecesLetOut_41 (by decide) h (fun hc h => ?_) (fun hc h => ?_)
      · refine at_aloadn ok dX7_piecesLetOut_44 rfl ?_
        refine at_getI ok gf_7_193 dX7_piecesLetOut_45 h fun v45 h => ?_
        refine at_aload ok dX7_piecesLetOut_48 rfl ?_
        refine at_getI ok gf_7_193 dX7_piecesLetOut_50 h fun v50 h => ?_
        refine at_isub ok dX7_piecesLetOut_53 ?_
        refine at_aloadn ok dX7_piecesLetOut_54 rfl ?_
        refine at_getR ok gf_7_28 dX7_piecesLetOut_55 h fun v55 h => ?_
        refine at_iloadn ok dX7_piecesLetOut_58 rfl ?_
        refine at_aald (t := 3) ⟨_, rfl⟩ (by decide) ok dX7_piecesLetOut_59 h fun v59 h => ?_
        refine at_getI ok gf_7_298 dX7_piecesLetOut_60 h fun v60 h => ?_
        refine bt_icmp_gt (tgt := 83) ok dX7_piecesLetOut_63 (by decide) h (fun hc h => ?_) (fun hc h => ?_)
        · refine at_iinc (v := x17 + 1) ok dX7_piecesLetOut_83 rfl rfl (lc_ref rfl) (by decide) ?_
          refine at_goto (tgt := 17) ok dX7_piecesLetOut_86 (by decide) ?_
          exact at_weak (lw_s (lw_s (lw_s (lw_s (lw_s (lw_n lw_0)))))) (ih (x17 + 1) _ h)
        · refine at_aloadn ok dX7_piecesLetOut_66 rfl ?_
          refine at_getR ok gf_7_69 dX7_piecesLetOut_67 h fun v67 h => ?_
          refine at_aload ok dX7_piecesLetOut_70 rfl ?_
          refine at_getR ok gf_7_265 dX7_piecesLetOut_72 h fun v72 h => ?_
          refine at_iloadn ok dX7_piecesLetOut_75 rfl ?_
          refine at_aald (t := 6) ⟨_, rfl⟩ (by decide) ok dX7_piecesLetOut_76 h fun v76 h => ?_
          refine at_getR ok gf_7_228 dX7_piecesLetOut_77 h fun v77 h => ?_
          refine at_cVv (As := [va_rf (v77)]) ok ct_7_piecesLetOut_301 dX7_piecesLetOut_80 (by simp [cat_rf, cat_i, cat_l]) (s3_putAll v67 v77 _) h fun v80 σ h => ?_
          refine at_iinc (v := x17 + 1) ok dX7_piecesLetOut_83 rfl rfl (lc_ref rfl) (by decide) ?_
          refine at_goto (tgt := 17) ok dX7_piecesLetOut_86 (by decide) ?_
          exact at_weak (lw_s (lw_s (lw_s (lw_s (lw_s (lw_n lw_0)))))) (ih (x17 + 1) _ h)
      · refine at_iinc (v := x17 + 1) ok dX7_piecesLetOut_83 rfl rfl (lc_ref rfl) (by decide) ?_
        refine at_goto (tgt := 17) ok dX7_piecesLetOut_86 (by decide) ?_
        exact at_weak (lw_s (lw_s (lw_s (lw_s (lw_s (lw_n lw_0)))))) (ih (x17 + 1) _ h)
set_option maxRecDepth 100000 in
set_option maxHeartbeats 4000000 in
theorem s7_has (t : Option Nat) (a1 : Int32) (a2 : Int32) (σ : AH) (Q : Int32 → AH → Prop) (h : Hr (f7_has t a1 a2) σ Q) : Runs m7_has σ [va_rf t, .int (a1), .int (a2)] (fun v σ1 => ∃ a, v = some (.int a) ∧ Q a σ1) := by
  obtain ⟨a0, σ1, e, hQ⟩ := h
  have hm := n7_has t a1 a2 σ a0 σ1 e
  have h : Hr (f7_has t a1 a2) σ (fun a σ2 => a = a0 ∧ σ2 = σ1) := ⟨a0, σ1, e, rfl, rfl⟩
  refine ⟨_, σ1, hm, ⟨a0, rfl, hQ⟩, runs_of (by decide +kernel) (by simp [cat_rf, cat_i, cat_l]) (Nat.le_of_ble_eq_true rfl) hm fun X ok fn => ?_⟩
  clear e hQ hm
  unfold f7_has at h
  show AT X m7_has 0 [some (va_rf (t)), some (.int (a1)), some (.int (a2)), none, none] [] σ
  refine at_aloadn ok dX7_has_0 rfl ?_
  refine at_getR ok gf_7_45 dX7_has_1 h fun v1 h => ?_
  refine at_iloadn ok dX7_has_4 rfl ?_
  refine at_aald (t := 4) ⟨_, rfl⟩ (by decide) ok dX7_has_5 h fun v5 h => ?_
  refine at_astoren ok dX7_has_6 rfl (lc_int rfl) (by decide) ?_
  refine at_aloadn ok dX7_has_7 rfl ?_
  refine at_getR ok gf_7_32 dX7_has_8 h fun v8 h => ?_
  refine at_iloadn ok dX7_has_11 rfl ?_
  refine at_aloadn ok dX7_has_12 rfl ?_
  refine at_getI ok gf_7_188 dX7_has_13 h fun v13 h => ?_
  refine at_aloadn ok dX7_has_16 rfl ?_
  refine at_getI ok gf_7_189 dX7_has_17 h fun v17 h => ?_
  refine at_cSi (As := [.int (a2), .int (v13), .int (v17)]) ok ct_7_has_120 dX7_has_20 (by simp [cat_rf, cat_i, cat_l]) (s7_pairOf a2 v13 v17 _) h fun v20 σ h => ?_
  refine at_zald ok dX7_has_23 h fun v23 h => ?_
  refine bt_if_eq (tgt := 29) ok dX7_has_24 (by decide) h (fun hc h => ?_) (fun hc h => ?_)
  · refine at_aloadn ok dX7_has_29 rfl ?_
    refine at_getR ok gf_7_265 dX7_has_30 h fun v30 h => ?_
    refine at_iloadn ok dX7_has_33 rfl ?_
    refine at_aald (t := 6) ⟨_, rfl⟩ (by decide) ok dX7_has_34 h fun v34 h => ?_
    refine at_getI ok gf_7_202 dX7_has_35 h fun v35 h => ?_
    refine at_istore ok dX7_has_38 (lc_ref rfl) (by decide) ?_
    refine at_iload ok dX7_has_40 rfl ?_
    refine bt_if_ne (tgt := 47) ok dX7_has_42 (by decide) h (fun hc h => ?_) (fun hc h => ?_)
    · refine at_iconst (v := 0) ok dX7_has_45 (by decide) ?_
      exact at_iret ok fn ⟨_, rfl, rfl⟩ dX7_has_46 h
    · refine at_aloadn ok dX7_has_47 rfl ?_
      refine at_getR ok gf_7_28 dX7_has_48 h fun v48 h => ?_
      refine at_iloadn ok dX7_has_51 rfl ?_
      refine at_aald (t := 3) ⟨_, rfl⟩ (by decide) ok dX7_has_52 h fun v52 h => ?_
      refine at_getI ok gf_7_276 dX7_has_53 h fun v53 h => ?_
      refine at_ite h (fun hc3 h => ?_) (fun hc3 h => ?_)
      · refine at_lsw (tgt := 84) (off := 28) ok dX7_has_56 (by decide) (by rw [hc3]; rfl) (by decide) ?_
        refine at_iload ok dX7_has_84 rfl ?_
        refine at_aloadn ok dX7_has_86 rfl ?_
        refine at_getR ok gf_7_28 dX7_has_87 h fun v87 h => ?_
        refine at_iloadn ok dX7_has_90 rfl ?_
        refine at_aald (t := 3) ⟨_, rfl⟩ (by decide) ok dX7_has_91 h fun v91 h => ?_
        refine at_getI ok gf_7_291 dX7_has_92 h fun v92 h => ?_
        refine bt_icmp_lt (tgt := 102) ok dX7_has_95 (by decide) h (fun hc h => ?_) (fun hc h => ?_)
        · refine at_iconst (v := 0) ok dX7_has_102 (by decide) ?_
          exact at_iret ok fn ⟨_, rfl, rfl⟩ dX7_has_103 h
        · refine at_iconst (v := 1) ok dX7_has_98 (by decide) ?_
          refine at_goto (tgt := 103) ok dX7_has_99 (by decide) ?_
          exact at_iret ok fn ⟨_, rfl, rfl⟩ dX7_has_103 h
      · refine at_ite h (fun hc4 h => ?_) (fun hc4 h => ?_)
        · refine at_lsw (tgt := 104) (off := 48) ok dX7_has_56 (by decide) (by rw [hc4]; rfl) (by decide) ?_
          refine at_aloadn ok dX7_has_104 rfl ?_
          refine at_iloadn ok dX7_has_105 rfl ?_
          refine at_iloadn ok dX7_has_106 rfl ?_
          refine at_cVi (As := [.int (a1), .int (a2)]) ok ct_7_has_294 dX7_has_107 (by simp [cat_rf, cat_i, cat_l]) (s7_piecesLetOut t a1 a2 _) h fun v107 σ h => ?_
          refine at_aloadn ok dX7_has_110 rfl ?_
          refine at_getR ok gf_7_28 dX7_has_111 h fun v111 h => ?_
          refine at_iloadn ok dX7_has_114 rfl ?_
          refine at_aald (t := 3) ⟨_, rfl⟩ (by decide) ok dX7_has_115 h fun v115 h => ?_
          refine at_getI ok gf_7_291 dX7_has_116 h fun v116 h => ?_
          refine bt_icmp_lt (tgt := 126) ok dX7_has_119 (by decide) h (fun hc h => ?_) (fun hc h => ?_)
          · refine at_iconst (v := 0) ok dX7_has_126 (by decide) ?_
            exact at_iret ok fn ⟨_, rfl, rfl⟩ dX7_has_127 h
          · refine at_iconst (v := 1) ok dX7_has_122 (by decide) ?_
            refine at_goto (tgt := 127) ok dX7_has_123 (by decide) ?_
            exact at_iret ok fn ⟨_, rfl, rfl⟩ dX7_has_127 h
        · refine at_lsw (tgt := 128) (off := 72) ok dX7_has_56 (by decide) (by have i3 := i32_ne (k := 3) (by decide) hc3; have i4 := i32_ne (k := 4) (by decide) hc4; simp [Op.lookupswitch.offset]; repeat' split; all_goals omega) (by decide) ?_
          refine at_iconst (v := 1) ok dX7_has_128 (by decide) ?_
          exact at_iret ok fn ⟨_, rfl, rfl⟩ dX7_has_129 h
  · refine at_iconst (v := 0) ok dX7_has_27 (by decide) ?_
    exact at_iret ok fn ⟨_, rfl, rfl⟩ dX7_has_28 h
set_option maxRecDepth 100000 in
set_option maxHeartbeats 4000000 in
theorem s4_isFor (t : Option Nat) (a1 : Option Nat) (σ : AH) (Q : Int32 → AH → Prop) (h : Hr (f4_isFor t a1) σ Q) : Runs m4_isFor σ [va_rf t, va_rf (a1)] (fun v σ1 => ∃ a, v = some (.int a) ∧ Q a σ1) := by
  obtain ⟨a0, σ1, e, hQ⟩ := h
  have hm := n4_isFor t a1 σ a0 σ1 e
  have h : Hr (f4_isFor t a1) σ (fun a σ2 => a = a0 ∧ σ2 = σ1) := ⟨a0, σ1, e, rfl, rfl⟩
  refine ⟨_, σ1, hm, ⟨a0, rfl, hQ⟩, runs_of (by decide +kernel) (by simp [cat_rf, cat_i, cat_l]) (Nat.le_of_ble_eq_true rfl) hm fun X ok fn => ?_⟩
  clear e hQ hm
  unfold f4_isFor at h
  show AT X m4_isFor 0 [some (va_rf (t)), some (va_rf (a1))] [] σ
  refine at_aloadn ok dX4_isFor_0 rfl ?_
  refine at_getI ok gf_4_9 dX4_isFor_1 h fun v1 h => ?_
  refine at_iconst (v := (-1)) ok dX4_isFor_4 (by decide) ?_
  refine at_joinS (fun y19 σ => AT X m4_isFor 19 [some (va_rf (t)), some (va_rf (a1))] [] σ) h (fun y19 σ h => ?_) (fun h j19 => ?_)
  · refine at_aloadn ok dX4_isFor_19 rfl ?_
    refine at_getI ok gf_4_15 dX4_isFor_20 h fun v20 h => ?_
    refine at_iconst (v := (-1)) ok dX4_isFor_23 (by decide) ?_
    refine bt_icmp_eq (tgt := 38) ok dX4_isFor_24 (by decide) h (fun hc h => ?_) (fun hc h => ?_)
    · refine at_iconst (v := 1) ok dX4_isFor_38 (by decide) ?_
      refine at_goto (tgt := 43) ok dX4_isFor_39 (by decide) ?_
      exact at_iret ok fn ⟨_, rfl, rfl⟩ dX4_isFor_43 h
    · refine at_aloadn ok dX4_isFor_27 rfl ?_
      refine at_getI ok gf_4_15 dX4_isFor_28 h fun v28 h => ?_
      refine at_aloadn ok dX4_isFor_31 rfl ?_
      refine at_getI ok gf_4_27 dX4_isFor_32 h fun v32 h => ?_
      refine bt_icmp_ne (tgt := 42) ok dX4_isFor_35 (by decide) h (fun hc h => ?_) (fun hc h => ?_)
      · refine at_iconst (v := 1) ok dX4_isFor_38 (by decide) ?_
        refine at_goto (tgt := 43) ok dX4_isFor_39 (by decide) ?_
        exact at_iret ok fn ⟨_, rfl, rfl⟩ dX4_isFor_43 h
      · refine at_iconst (v := 0) ok dX4_isFor_42 (by decide) ?_
        exact at_iret ok fn ⟨_, rfl, rfl⟩ dX4_isFor_43 h
  · refine bt_icmp_eq (tgt := 19) ok dX4_isFor_5 (by decide) h (fun hc h => ?_) (fun hc h => ?_)
    · exact at_weak (lw_s (lw_s lw_0)) (by have z := hr_inr h; exact j19 () _ z)
    · refine at_aloadn ok dX4_isFor_8 rfl ?_
      refine at_getI ok gf_4_9 dX4_isFor_9 h fun v9 h => ?_
      refine at_aloadn ok dX4_isFor_12 rfl ?_
      refine at_getI ok gf_4_24 dX4_isFor_13 h fun v13 h => ?_
      refine bt_icmp_ne (tgt := 42) ok dX4_isFor_16 (by decide) h (fun hc h => ?_) (fun hc h => ?_)
      · exact at_weak (lw_s (lw_s lw_0)) (by have z := hr_inr h; exact j19 () _ z)
      · refine at_iconst (v := 0) ok dX4_isFor_42 (by decide) ?_
        exact at_iret ok fn ⟨_, rfl, rfl⟩ dX4_isFor_43 (hr_inl h)
set_option maxRecDepth 100000 in
set_option maxHeartbeats 4000000 in
theorem s5_get (t : Option Nat) (a1 : Int32) (σ : AH) (Q : Option Nat → AH → Prop) (h : Hr (f5_get t a1) σ Q) : Runs m5_get σ [va_rf t, .int (a1)] (fun v σ1 => ∃ a, v = some (va_rf a) ∧ Q a σ1) := by
  obtain ⟨a0, σ1, e, hQ⟩ := h
  have hm := n5_get t a1 σ a0 σ1 e
  have h : Hr (f5_get t a1) σ (fun a σ2 => a = a0 ∧ σ2 = σ1) := ⟨a0, σ1, e, rfl, rfl⟩
  refine ⟨_, σ1, hm, ⟨a0, rfl, hQ⟩, runs_of (by decide +kernel) (by simp [cat_rf, cat_i, cat_l]) (Nat.le_of_ble_eq_true rfl) hm fun X ok fn => ?_⟩
  clear e hQ hm
  unfold f5_get at h
  show AT X m5_get 0 [some (va_rf (t)), some (.int (a1))] [] σ
  refine at_iloadn ok dX5_get_0 rfl ?_
  refine at_iconst (v := 0) ok dX5_get_1 (by decide) ?_
  refine at_aloadn ok dX5_get_2 rfl ?_
  refine at_getI ok gf_5_17 dX5_get_3 h fun v3 h => ?_
  refine at_iconst (v := 1) ok dX5_get_6 (by decide) ?_
  refine at_isub ok dX5_get_7 ?_
  refine at_cSi (As := [.int (a1), .int (0), .int ((v3 - 1))]) ok ct_5_get_21 dX5_get_8 (by simp [cat_rf, cat_i, cat_l]) (s7_within a1 0 (v3 - 1) _) h fun v8 σ h => ?_
  refine bt_if_eq (tgt := 23) ok dX5_get_11 (by decide) h (fun hc h => ?_) (fun hc h => ?_)
  · refine at_null ok dX5_get_23 ?_
    exact at_aret ok fn ⟨_, rfl, Or.inl ⟨_, rfl⟩⟩ dX5_get_24 h
  · refine at_aloadn ok dX5_get_14 rfl ?_
    refine at_getR ok gf_5_11 dX5_get_15 h fun v15 h => ?_
    refine at_iloadn ok dX5_get_18 rfl ?_
    refine at_aald (t := 5) ⟨_, rfl⟩ (by decide) ok dX5_get_19 h fun v19 h => ?_
    refine at_goto (tgt := 24) ok dX5_get_20 (by decide) ?_
    exact at_aret ok fn ⟨_, rfl, Or.inl ⟨_, rfl⟩⟩ dX5_get_24 h
set_option maxRecDepth 100000 in
set_option maxHeartbeats 4000000 in
theorem s7_firstRule (t : Option Nat) (a1 : Option Nat) (a2 : Int32) (σ : AH) (Q : Option Nat → AH → Prop) (h : Hr (f7_firstRule t a1 a2) σ Q) : Runs m7_firstRule σ [va_rf t, va_rf (a1), .int (a2)] (fun v σ1 => ∃ a, v = some (va_rf a) ∧ Q a σ1) := by
  obtain ⟨a0, σ1, e, hQ⟩ := h
  have hm := n7_firstRule t a1 a2 σ a0 σ1 e
  have h : Hr (f7_firstRule t a1 a2) σ (fun a σ2 => a = a0 ∧ σ2 = σ1) := ⟨a0, σ1, e, rfl, rfl⟩
  refine ⟨_, σ1, hm, ⟨a0, rfl, hQ⟩, runs_of (by decide +kernel) (by simp [cat_rf, cat_i, cat_l]) (Nat.le_of_ble_eq_true rfl) hm fun X ok fn => ?_⟩
  clear e hQ hm
  unfold f7_firstRule at h
  show AT X m7_firstRule 0 [some (va_rf (t)), some (va_rf (a1)), some (.int (a2)), none, none, none] [] σ
  refine at_aloadn ok dX7_firstRule_0 rfl ?_
  refine at_getR ok gf_7_45 dX7_firstRule_1 h fun v1 h => ?_
  refine at_iloadn ok dX7_firstRule_4 rfl ?_
  refine at_aald (t := 4) ⟨_, rfl⟩ (by decide) ok dX7_firstRule_5 h fun v5 h => ?_
  refine at_astoren ok dX7_firstRule_6 rfl (lc_int rfl) (by decide) ?_
  refine at_iconst (v := 0) ok dX7_firstRule_7 (by decide) ?_
  refine at_istore ok dX7_firstRule_8 (lc_ref rfl) (by decide) ?_
  refine at_weak (L' := [some (va_rf (t)), some (va_rf (a1)), some (.int (a2)), some (va_rf (v5)), some (.int (0)), none]) (lw_s (lw_s (lw_s (lw_s (lw_s (lw_n lw_0)))))) ?_
  refine at_loopS (fun x10 σ => AT X m7_firstRule 10 [some (va_rf (t)), some (va_rf (a1)), some (.int (a2)), some (va_rf (v5)), some (.int (x10)), none] [] σ) (fun y63 σ => AT X m7_firstRule 63 [none, none, none, none, none, none] [] σ) h (fun y63 σ h => ?_) (fun kx rec ih x10 σ h => ?_)
  · refine at_null ok dX7_firstRule_63 ?_
    exact at_aret ok fn ⟨_, rfl, Or.inl ⟨_, rfl⟩⟩ dX7_firstRule_64 h
  · unfold l7_firstRule_10 at h
    refine at_iload ok dX7_firstRule_10 rfl ?_
    refine at_aloadn ok dX7_firstRule_12 rfl ?_
    refine at_getI ok gf_7_124 dX7_firstRule_13 h fun v13 h => ?_
    refine bt_icmp_ge (tgt := 63) ok dX7_firstRule_16 (by decide) h (fun hc h => ?_) (fun hc h => ?_)
    · exact at_weak (lw_n (lw_n (lw_n (lw_n (lw_n (lw_n lw_0)))))) (by have z := hr_inr h; exact kx () _ z)
    · refine at_aloadn ok dX7_firstRule_19 rfl ?_
      refine at_iload ok dX7_firstRule_20 rfl ?_
      refine at_cVr (As := [.int (x10)]) ok ct_7_firstRule_143 dX7_firstRule_22 (by simp [cat_rf, cat_i, cat_l]) (s5_get a1 x10 _) h fun v22 σ h => ?_
      refine at_astore ok dX7_firstRule_25 (lc_int rfl) (by decide) ?_
      refine at_aload ok dX7_firstRule_27 rfl ?_
      refine bt_ifnull (tgt := 57) ok dX7_firstRule_29 (by decide) h (fun hc h => ?_) (fun hc h => ?_)
      · refine at_iinc (v := x10 + 1) ok dX7_firstRule_57 rfl rfl (lc_ref rfl) (by decide) ?_
        refine at_goto (tgt := 10) ok dX7_firstRule_60 (by decide) ?_
        exact at_weak (lw_s (lw_s (lw_s (lw_s (lw_s (lw_n lw_0)))))) (ih (x10 + 1) _ h)
      · refine at_aload ok dX7_firstRule_32 rfl ?_
        refine at_aloadn ok dX7_firstRule_34 rfl ?_
        refine at_cVi (As := [va_rf (v5)]) ok ct_7_firstRule_305 dX7_firstRule_35 (by simp [cat_rf, cat_i, cat_l]) (s4_isFor v22 v5 _) h fun v35 σ h => ?_
        refine bt_if_eq (tgt := 57) ok dX7_firstRule_38 (by decide) h (fun hc h => ?_) (fun hc h => ?_)
        · refine at_iinc (v := x10 + 1) ok dX7_firstRule_57 rfl rfl (lc_ref rfl) (by decide) ?_
          refine at_goto (tgt := 10) ok dX7_firstRule_60 (by decide) ?_
          exact at_weak (lw_s (lw_s (lw_s (lw_s (lw_s (lw_n lw_0)))))) (ih (x10 + 1) _ h)
        · refine at_aloadn ok dX7_firstRule_41 rfl ?_
          refine at_iloadn ok dX7_firstRule_42 rfl ?_
          refine at_aload ok dX7_firstRule_43 rfl ?_
          refine at_getI ok gf_7_150 dX7_firstRule_45 h fun v45 h => ?_
          refine at_cVi (As := [.int (a2), .int (v45)]) ok ct_7_firstRule_309 dX7_firstRule_48 (by simp [cat_rf, cat_i, cat_l]) (s7_has t a2 v45 _) h fun v48 σ h => ?_
          refine bt_if_eq (tgt := 57) ok dX7_firstRule_51 (by decide) h (fun hc h => ?_) (fun hc h => ?_)
          · refine at_iinc (v := x10 + 1) ok dX7_firstRule_57 rfl rfl (lc_ref rfl) (by decide) ?_
            refine at_goto (tgt := 10) ok dX7_firstRule_60 (by decide) ?_
            exact at_weak (lw_s (lw_s (lw_s (lw_s (lw_s (lw_n lw_0)))))) (ih (x10 + 1) _ h)
          · refine at_aload ok dX7_firstRule_54 rfl ?_
            exact at_aret ok fn ⟨_, rfl, Or.inl ⟨_, rfl⟩⟩ dX7_firstRule_56 (hr_inl h)
set_option maxRecDepth 100000 in
set_option maxHeartbeats 4000000 in
theorem s1_isOver (t : Option Nat) (a1 : Int32) (σ : AH) (Q : Int32 → AH → Prop) (h : Hr (f1_isOver t a1) σ Q) : Runs m1_isOver σ [va_rf t, .int (a1)] (fun v σ1 => ∃ a, v = some (.int a) ∧ Q a σ1) := by
  obtain ⟨a0, σ1, e, hQ⟩ := h
  have hm := n1_isOver t a1 σ a0 σ1 e
  have h : Hr (f1_isOver t a1) σ (fun a σ2 => a = a0 ∧ σ2 = σ1) := ⟨a0, σ1, e, rfl, rfl⟩
  refine ⟨_, σ1, hm, ⟨a0, rfl, hQ⟩, runs_of (by decide +kernel) (by simp [cat_rf, cat_i, cat_l]) (Nat.le_of_ble_eq_true rfl) hm fun X ok fn => ?_⟩
  clear e hQ hm
  unfold f1_isOver at h
  show AT X m1_isOver 0 [some (va_rf (t)), some (.int (a1))] [] σ
  refine at_aloadn ok dX1_isOver_0 rfl ?_
  refine at_getI ok gf_1_9 dX1_isOver_1 h fun v1 h => ?_
  refine at_iconst (v := 2) ok dX1_isOver_4 (by decide) ?_
  refine at_joinS (fun y16 σ => AT X m1_isOver 16 [some (va_rf (t)), some (.int (a1))] [] σ) h (fun y16 σ h => ?_) (fun h j16 => ?_)
  · refine at_aloadn ok dX1_isOver_16 rfl ?_
    refine at_getI ok gf_1_19 dX1_isOver_17 h fun v17 h => ?_
    refine at_iloadn ok dX1_isOver_20 rfl ?_
    refine bt_icmp_ne (tgt := 28) ok dX1_isOver_21 (by decide) h (fun hc h => ?_) (fun hc h => ?_)
    · refine at_iconst (v := 1) ok dX1_isOver_24 (by decide) ?_
      refine at_goto (tgt := 29) ok dX1_isOver_25 (by decide) ?_
      exact at_iret ok fn ⟨_, rfl, rfl⟩ dX1_isOver_29 h
    · refine at_iconst (v := 0) ok dX1_isOver_28 (by decide) ?_
      exact at_iret ok fn ⟨_, rfl, rfl⟩ dX1_isOver_29 h
  · refine bt_icmp_eq (tgt := 16) ok dX1_isOver_5 (by decide) h (fun hc h => ?_) (fun hc h => ?_)
    · exact at_weak (lw_s (lw_s lw_0)) (by have z := hr_inr h; exact j16 () _ z)
    · refine at_aloadn ok dX1_isOver_8 rfl ?_
      refine at_getI ok gf_1_9 dX1_isOver_9 h fun v9 h => ?_
      refine at_iconst (v := 4) ok dX1_isOver_12 (by decide) ?_
      refine bt_icmp_ne (tgt := 28) ok dX1_isOver_13 (by decide) h (fun hc h => ?_) (fun hc h => ?_)
      · exact at_weak (lw_s (lw_s lw_0)) (by have z := hr_inr h; exact j16 () _ z)
      · refine at_iconst (v := 0) ok dX1_isOver_28 (by decide) ?_
        exact at_iret ok fn ⟨_, rfl, rfl⟩ dX1_isOver_29 (hr_inl h)
set_option maxRecDepth 100000 in
set_option maxHeartbeats 4000000 in
theorem s7_forgetKindsOver (t : Option Nat) (a1 : Int32) (σ : AH) (Q : Unit → AH → Prop) (h : Hr (f7_forgetKindsOver t a1) σ Q) : Runs m7_forgetKindsOver σ [va_rf t, .int (a1)] (fun v σ1 => ∃ a, v = none ∧ Q a σ1) := by
  obtain ⟨a0, σ1, e, hQ⟩ := h
  have hm := n7_forgetKindsOver t a1 σ a0 σ1 e
  have h : Hr (f7_forgetKindsOver t a1) σ (fun a σ2 => a = a0 ∧ σ2 = σ1) := ⟨a0, σ1, e, rfl, rfl⟩
  refine ⟨_, σ1, hm, ⟨a0, rfl, hQ⟩, runs_of (by decide +kernel) (by simp [cat_rf, cat_i, cat_l]) (Nat.le_of_ble_eq_true rfl) hm fun X ok fn => ?_⟩
  clear e hQ hm
  unfold f7_forgetKindsOver at h
  show AT X m7_forgetKindsOver 0 [some (va_rf (t)), some (.int (a1)), none] [] σ
  refine at_iconst (v := 0) ok dX7_forgetKindsOver_0 (by decide) ?_
  refine at_istoren ok dX7_forgetKindsOver_1 rfl (lc_int rfl) (by decide) ?_
  refine at_weak (L' := [some (va_rf (t)), some (.int (a1)), some (.int (0))]) (lw_s (lw_s (lw_s lw_0))) ?_
  refine at_loop (fun x2 σ => AT X m7_forgetKindsOver 2 [some (va_rf (t)), some (.int (a1)), some (.int (x2))] [] σ) (fun y32 σ => AT X m7_forgetKindsOver 32 [none, none, none] [] σ) h (fun y32 σ h => ?_) (fun kx rec ih x2 σ h => ?_)
  · exact at_vret ok fn rfl dX7_forgetKindsOver_32 h
  · unfold l7_forgetKindsOver_2 at h
    refine at_iloadn ok dX7_forgetKindsOver_2 rfl ?_
    refine at_bipush (v := 8) ok dX7_forgetKindsOver_3 (by decide) ?_
    refine bt_icmp_ge (tgt := 32) ok dX7_forgetKindsOver_5 (by decide) h (fun hc h => ?_) (fun hc h => ?_)
    · exact at_weak (lw_n (lw_n (lw_n lw_0))) (kx () _ (hr_rt.mp h))
    · refine at_aloadn ok dX7_forgetKindsOver_8 rfl ?_
      refine at_getR ok gf_7_28 dX7_forgetKindsOver_9 h fun v9 h => ?_
      refine at_iloadn ok dX7_forgetKindsOver_12 rfl ?_
      refine at_aald (t := 3) ⟨_, rfl⟩ (by decide) ok dX7_forgetKindsOver_13 h fun v13 h => ?_
      refine at_iloadn ok dX7_forgetKindsOver_14 rfl ?_
      refine at_cVi (As := [.int (a1)]) ok ct_7_forgetKindsOver_259 dX7_forgetKindsOver_15 (by simp [cat_rf, cat_i, cat_l]) (s1_isOver v13 a1 _) h fun v15 σ h => ?_
      refine bt_if_eq (tgt := 26) ok dX7_forgetKindsOver_18 (by decide) h (fun hc h => ?_) (fun hc h => ?_)
      · refine at_iinc (v := x2 + 1) ok dX7_forgetKindsOver_26 rfl rfl (lc_int rfl) (by decide) ?_
        refine at_goto (tgt := 2) ok dX7_forgetKindsOver_29 (by decide) ?_
        exact at_weak (lw_s (lw_s (lw_s lw_0))) (ih (x2 + 1) _ h)
      · refine at_aloadn ok dX7_forgetKindsOver_21 rfl ?_
        refine at_iloadn ok dX7_forgetKindsOver_22 rfl ?_
        refine at_cVv (As := [.int (x2)]) ok ct_7_forgetKindsOver_256 dX7_forgetKindsOver_23 (by simp [cat_rf, cat_i, cat_l]) (s7_forgetSights t x2 _) h fun v23 σ h => ?_
        refine at_iinc (v := x2 + 1) ok dX7_forgetKindsOver_26 rfl rfl (lc_int rfl) (by decide) ?_
        refine at_goto (tgt := 2) ok dX7_forgetKindsOver_29 (by decide) ?_
        exact at_weak (lw_s (lw_s (lw_s lw_0))) (ih (x2 + 1) _ h)
set_option maxRecDepth 100000 in
set_option maxHeartbeats 4000000 in
theorem s0_isKept (t : Option Nat) (a1 : Int32) (σ : AH) (Q : Int32 → AH → Prop) (h : Hr (f0_isKept t a1) σ Q) : Runs m0_isKept σ [va_rf t, .int (a1)] (fun v σ1 => ∃ a, v = some (.int a) ∧ Q a σ1) := by
  obtain ⟨a0, σ1, e, hQ⟩ := h
  have hm := n0_isKept t a1 σ a0 σ1 e
  have h : Hr (f0_isKept t a1) σ (fun a σ2 => a = a0 ∧ σ2 = σ1) := ⟨a0, σ1, e, rfl, rfl⟩
  refine ⟨_, σ1, hm, ⟨a0, rfl, hQ⟩, runs_of (by decide +kernel) (by simp [cat_rf, cat_i, cat_l]) (Nat.le_of_ble_eq_true rfl) hm fun X ok fn => ?_⟩
  clear e hQ hm
  unfold f0_isKept at h
  show AT X m0_isKept 0 [some (va_rf (t)), some (.int (a1))] [] σ
  refine at_iloadn ok dX0_isKept_0 rfl ?_
  refine at_iconst (v := 0) ok dX0_isKept_1 (by decide) ?_
  refine at_aloadn ok dX0_isKept_2 rfl ?_
  refine at_cVi (As := []) ok ct_0_isKept_48 dX0_isKept_3 (by simp [cat_rf, cat_i, cat_l]) (s0_keptCount t  _) h fun v3 σ h => ?_
  refine at_iconst (v := 1) ok dX0_isKept_6 (by decide) ?_
  refine at_isub ok dX0_isKept_7 ?_
  refine at_cSi (As := [.int (a1), .int (0), .int ((v3 - 1))]) ok ct_0_isKept_52 dX0_isKept_8 (by simp [cat_rf, cat_i, cat_l]) (s7_within a1 0 (v3 - 1) _) h fun v8 σ h => ?_
  refine at_z h fun hz h => ?_
  exact at_iret ok fn ⟨_, rfl, nar_z hz⟩ dX0_isKept_11 h
set_option maxRecDepth 100000 in
set_option maxHeartbeats 4000000 in
theorem s0_firstOf (t : Option Nat) (a1 : Int32) (σ : AH) (Q : Int32 → AH → Prop) (h : Hr (f0_firstOf t a1) σ Q) : Runs m0_firstOf σ [va_rf t, .int (a1)] (fun v σ1 => ∃ a, v = some (.int a) ∧ Q a σ1) := by
  obtain ⟨a0, σ1, e, hQ⟩ := h
  have hm := n0_firstOf t a1 σ a0 σ1 e
  have h : Hr (f0_firstOf t a1) σ (fun a σ2 => a = a0 ∧ σ2 = σ1) := ⟨a0, σ1, e, rfl, rfl⟩
  refine ⟨_, σ1, hm, ⟨a0, rfl, hQ⟩, runs_of (by decide +kernel) (by simp [cat_rf, cat_i, cat_l]) (Nat.le_of_ble_eq_true rfl) hm fun X ok fn => ?_⟩
  clear e hQ hm
  unfold f0_firstOf at h
  show AT X m0_firstOf 0 [some (va_rf (t)), some (.int (a1))] [] σ
  refine at_aloadn ok dX0_firstOf_0 rfl ?_
  refine at_iloadn ok dX0_firstOf_1 rfl ?_
  refine at_cVi (As := [.int (a1)]) ok ct_0_firstOf_56 dX0_firstOf_2 (by simp [cat_rf, cat_i, cat_l]) (s0_isKept t a1 _) h fun v2 σ h => ?_
  refine bt_if_eq (tgt := 17) ok dX0_firstOf_5 (by decide) h (fun hc h => ?_) (fun hc h => ?_)
  · refine at_iconst (v := (-1)) ok dX0_firstOf_17 (by decide) ?_
    exact at_iret ok fn ⟨_, rfl, rfl⟩ dX0_firstOf_18 h
  · refine at_aloadn ok dX0_firstOf_8 rfl ?_
    refine at_getR ok gf_0_28 dX0_firstOf_9 h fun v9 h => ?_
    refine at_iloadn ok dX0_firstOf_12 rfl ?_
    refine at_iald ok dX0_firstOf_13 h fun v13 h => ?_
    refine at_goto (tgt := 18) ok dX0_firstOf_14 (by decide) ?_
    exact at_iret ok fn ⟨_, rfl, rfl⟩ dX0_firstOf_18 h
set_option maxRecDepth 100000 in
set_option maxHeartbeats 4000000 in
theorem s0_lastOf (t : Option Nat) (a1 : Int32) (σ : AH) (Q : Int32 → AH → Prop) (h : Hr (f0_lastOf t a1) σ Q) : Runs m0_lastOf σ [va_rf t, .int (a1)] (fun v σ1 => ∃ a, v = some (.int a) ∧ Q a σ1) := by
  obtain ⟨a0, σ1, e, hQ⟩ := h
  have hm := n0_lastOf t a1 σ a0 σ1 e
  have h : Hr (f0_lastOf t a1) σ (fun a σ2 => a = a0 ∧ σ2 = σ1) := ⟨a0, σ1, e, rfl, rfl⟩
  refine ⟨_, σ1, hm, ⟨a0, rfl, hQ⟩, runs_of (by decide +kernel) (by simp [cat_rf, cat_i, cat_l]) (Nat.le_of_ble_eq_true rfl) hm fun X ok fn => ?_⟩
  clear e hQ hm
  unfold f0_lastOf at h
  show AT X m0_lastOf 0 [some (va_rf (t)), some (.int (a1))] [] σ
  refine at_aloadn ok dX0_lastOf_0 rfl ?_
  refine at_iloadn ok dX0_lastOf_1 rfl ?_
  refine at_cVi (As := [.int (a1)]) ok ct_0_lastOf_56 dX0_lastOf_2 (by simp [cat_rf, cat_i, cat_l]) (s0_isKept t a1 _) h fun v2 σ h => ?_
  refine bt_if_eq (tgt := 17) ok dX0_lastOf_5 (by decide) h (fun hc h => ?_) (fun hc h => ?_)
  · refine at_iconst (v := (-1)) ok dX0_lastOf_17 (by decide) ?_
    exact at_iret ok fn ⟨_, rfl, rfl⟩ dX0_lastOf_18 h
  · refine at_aloadn ok dX0_lastOf_8 rfl ?_
    refine at_getR ok gf_0_32 dX0_lastOf_9 h fun v9 h => ?_
    refine at_iloadn ok dX0_lastOf_12 rfl ?_
    refine at_iald ok dX0_lastOf_13 h fun v13 h => ?_
    refine at_goto (tgt := 18) ok dX0_lastOf_14 (by decide) ?_
    exact at_iret ok fn ⟨_, rfl, rfl⟩ dX0_lastOf_18 h
set_option maxRecDepth 100000 in
set_option maxHeartbeats 4000000 in
theorem s0_partOf (t : Option Nat) (a1 : Int32) (σ : AH) (Q : Int32 → AH → Prop) (h : Hr (f0_partOf t a1) σ Q) : Runs m0_partOf σ [va_rf t, .int (a1)] (fun v σ1 => ∃ a, v = some (.int a) ∧ Q a σ1) := by
  obtain ⟨a0, σ1, e, hQ⟩ := h
  have hm := n0_partOf t a1 σ a0 σ1 e
  have h : Hr (f0_partOf t a1) σ (fun a σ2 => a = a0 ∧ σ2 = σ1) := ⟨a0, σ1, e, rfl, rfl⟩
  refine ⟨_, σ1, hm, ⟨a0, rfl, hQ⟩, runs_of (by decide +kernel) (by simp [cat_rf, cat_i, cat_l]) (Nat.le_of_ble_eq_true rfl) hm fun X ok fn => ?_⟩
  clear e hQ hm
  unfold f0_partOf at h
  show AT X m0_partOf 0 [some (va_rf (t)), some (.int (a1))] [] σ
  refine at_aloadn ok dX0_partOf_0 rfl ?_
  refine at_iloadn ok dX0_partOf_1 rfl ?_
  refine at_cVi (As := [.int (a1)]) ok ct_0_partOf_56 dX0_partOf_2 (by simp [cat_rf, cat_i, cat_l]) (s0_isKept t a1 _) h fun v2 σ h => ?_
  refine bt_if_eq (tgt := 17) ok dX0_partOf_5 (by decide) h (fun hc h => ?_) (fun hc h => ?_)
  · refine at_iconst (v := (-1)) ok dX0_partOf_17 (by decide) ?_
    exact at_iret ok fn ⟨_, rfl, rfl⟩ dX0_partOf_18 h
  · refine at_aloadn ok dX0_partOf_8 rfl ?_
    refine at_getR ok gf_0_35 dX0_partOf_9 h fun v9 h => ?_
    refine at_iloadn ok dX0_partOf_12 rfl ?_
    refine at_iald ok dX0_partOf_13 h fun v13 h => ?_
    refine at_goto (tgt := 18) ok dX0_partOf_14 (by decide) ?_
    exact at_iret ok fn ⟨_, rfl, rfl⟩ dX0_partOf_18 h
set_option maxRecDepth 100000 in
set_option maxHeartbeats 4000000 in
theorem s7_found (t : Option Nat) (a1 : Int32) (a2 : Int32) (a3 : Int32) (σ : AH) (Q : Int32 → AH → Prop) (h : Hr (f7_found t a1 a2 a3) σ Q) : Runs m7_found σ [va_rf t, .int (a1), .int (a2), .int (a3)] (fun v σ1 => ∃ a, v = some (.int a) ∧ Q a σ1) := by
  obtain ⟨a0, σ1, e, hQ⟩ := h
  have hm := n7_found t a1 a2 a3 σ a0 σ1 e
  have h : Hr (f7_found t a1 a2 a3) σ (fun a σ2 => a = a0 ∧ σ2 = σ1) := ⟨a0, σ1, e, rfl, rfl⟩
  refine ⟨_, σ1, hm, ⟨a0, rfl, hQ⟩, runs_of (by decide +kernel) (by simp [cat_rf, cat_i, cat_l]) (Nat.le_of_ble_eq_true rfl) hm fun X ok fn => ?_⟩
  clear e hQ hm
  unfold f7_found at h
  show AT X m7_found 0 [some (va_rf (t)), some (.int (a1)), some (.int (a2)), some (.int (a3)), none] [] σ
  refine at_aloadn ok dX7_found_0 rfl ?_
  refine at_iloadn ok dX7_found_1 rfl ?_
  refine at_cVr (As := [.int (a1)]) ok ct_7_found_181 dX7_found_2 (by simp [cat_rf, cat_i, cat_l]) (s7_letterAt t a1 _) h fun v2 σ h => ?_
  refine at_astore ok dX7_found_5 (lc_int rfl) (by decide) ?_
  refine at_aload ok dX7_found_7 rfl ?_
  refine bt_ifnull (tgt := 20) ok dX7_found_9 (by decide) h (fun hc h => ?_) (fun hc h => ?_)
  · refine at_iconst (v := (-1)) ok dX7_found_20 (by decide) ?_
    exact at_iret ok fn ⟨_, rfl, rfl⟩ dX7_found_21 h
  · refine at_aload ok dX7_found_12 rfl ?_
    refine at_getR ok gf_7_199 dX7_found_14 h fun v14 h => ?_
    refine bt_ifnonnull (tgt := 22) ok dX7_found_17 (by decide) h (fun hc h => ?_) (fun hc h => ?_)
    · refine at_iconst (v := (-1)) ok dX7_found_20 (by decide) ?_
      exact at_iret ok fn ⟨_, rfl, rfl⟩ dX7_found_21 h
    · refine at_iloadn ok dX7_found_22 rfl ?_
      refine at_ite h (fun hc0 h => ?_) (fun hc0 h => ?_)
      · refine at_tsw (tgt := 48) ok dX7_found_23 (tsw_in hc0 (by decide) rfl (by decide)) ?_
        refine at_aload ok dX7_found_48 rfl ?_
        refine at_getR ok gf_7_199 dX7_found_50 h fun v50 h => ?_
        refine at_iloadn ok dX7_found_53 rfl ?_
        refine at_cVi (As := [.int (a2)]) ok ct_7_found_208 dX7_found_54 (by simp [cat_rf, cat_i, cat_l]) (s0_firstOf v50 a2 _) h fun v54 σ h => ?_
        exact at_iret ok fn ⟨_, rfl, rfl⟩ dX7_found_57 h
      · refine at_ite h (fun hc1 h => ?_) (fun hc1 h => ?_)
        · refine at_tsw (tgt := 58) ok dX7_found_23 (tsw_in hc1 (by decide) rfl (by decide)) ?_
          refine at_aload ok dX7_found_58 rfl ?_
          refine at_getR ok gf_7_199 dX7_found_60 h fun v60 h => ?_
          refine at_iloadn ok dX7_found_63 rfl ?_
          refine at_cVi (As := [.int (a2)]) ok ct_7_found_211 dX7_found_64 (by simp [cat_rf, cat_i, cat_l]) (s0_lastOf v60 a2 _) h fun v64 σ h => ?_
          exact at_iret ok fn ⟨_, rfl, rfl⟩ dX7_found_67 h
        · refine at_ite h (fun hc2 h => ?_) (fun hc2 h => ?_)
          · refine at_tsw (tgt := 68) ok dX7_found_23 (tsw_in hc2 (by decide) rfl (by decide)) ?_
            refine at_aload ok dX7_found_68 rfl ?_
            refine at_getR ok gf_7_199 dX7_found_70 h fun v70 h => ?_
            refine at_iloadn ok dX7_found_73 rfl ?_
            refine at_cVi (As := [.int (a2)]) ok ct_7_found_214 dX7_found_74 (by simp [cat_rf, cat_i, cat_l]) (s0_partOf v70 a2 _) h fun v74 σ h => ?_
            exact at_iret ok fn ⟨_, rfl, rfl⟩ dX7_found_77 h
          · refine at_tsw (tgt := 78) ok dX7_found_23 (tsw_out (by have i0 := i32_ne (k := 0) (by decide) hc0; have i1 := i32_ne (k := 1) (by decide) hc1; have i2 := i32_ne (k := 2) (by decide) hc2; omega) (by decide)) ?_
            refine at_iconst (v := (-1)) ok dX7_found_78 (by decide) ?_
            exact at_iret ok fn ⟨_, rfl, rfl⟩ dX7_found_79 h
set_option maxRecDepth 100000 in
set_option maxHeartbeats 4000000 in
theorem s7_isOtherByTrial (t : Option Nat) (a1 : Int32) (σ : AH) (Q : Int32 → AH → Prop) (h : Hr (f7_isOtherByTrial t a1) σ Q) : Runs m7_isOtherByTrial σ [va_rf t, .int (a1)] (fun v σ1 => ∃ a, v = some (.int a) ∧ Q a σ1) := by
  obtain ⟨a0, σ1, e, hQ⟩ := h
  have hm := n7_isOtherByTrial t a1 σ a0 σ1 e
  have h : Hr (f7_isOtherByTrial t a1) σ (fun a σ2 => a = a0 ∧ σ2 = σ1) := ⟨a0, σ1, e, rfl, rfl⟩
  refine ⟨_, σ1, hm, ⟨a0, rfl, hQ⟩, runs_of (by decide +kernel) (by simp [cat_rf, cat_i, cat_l]) (Nat.le_of_ble_eq_true rfl) hm fun X ok fn => ?_⟩
  clear e hQ hm
  unfold f7_isOtherByTrial at h
  show AT X m7_isOtherByTrial 0 [some (va_rf (t)), some (.int (a1)), none, none] [] σ
  refine at_aloadn ok dX7_isOtherByTrial_0 rfl ?_
  refine at_aloadn ok dX7_isOtherByTrial_1 rfl ?_
  refine at_getR ok gf_7_73 dX7_isOtherByTrial_2 h fun v2 h => ?_
  refine at_iloadn ok dX7_isOtherByTrial_5 rfl ?_
  refine at_cVr (As := [va_rf (v2), .int (a1)]) ok ct_7_isOtherByTrial_173 dX7_isOtherByTrial_6 (by simp [cat_rf, cat_i, cat_l]) (s7_firstRule t v2 a1 _) h fun v6 σ h => ?_
  refine at_astoren ok dX7_isOtherByTrial_9 rfl (lc_int rfl) (by decide) ?_
  refine at_aloadn ok dX7_isOtherByTrial_10 rfl ?_
  refine at_join (fun y22 σ => AT X m7_isOtherByTrial 22 [some (va_rf (t)), some (.int (a1)), none, none] [.int (y22)] σ) h (fun y22 σ h => ?_) (fun h j22 => ?_)
  · refine at_istoren ok dX7_isOtherByTrial_22 rfl (lc_non rfl) (by decide) ?_
    refine at_iloadn ok dX7_isOtherByTrial_23 rfl ?_
    refine at_aloadn ok dX7_isOtherByTrial_24 rfl ?_
    refine at_getR ok gf_7_45 dX7_isOtherByTrial_25 h fun v25 h => ?_
    refine at_iloadn ok dX7_isOtherByTrial_28 rfl ?_
    refine at_aald (t := 4) ⟨_, rfl⟩ (by decide) ok dX7_isOtherByTrial_29 h fun v29 h => ?_
    refine at_getI ok gf_7_194 dX7_isOtherByTrial_30 h fun v30 h => ?_
    refine bt_icmp_eq (tgt := 40) ok dX7_isOtherByTrial_33 (by decide) h (fun hc h => ?_) (fun hc h => ?_)
    · refine at_iconst (v := 0) ok dX7_isOtherByTrial_40 (by decide) ?_
      exact at_iret ok fn ⟨_, rfl, rfl⟩ dX7_isOtherByTrial_41 h
    · refine at_iconst (v := 1) ok dX7_isOtherByTrial_36 (by decide) ?_
      refine at_goto (tgt := 41) ok dX7_isOtherByTrial_37 (by decide) ?_
      exact at_iret ok fn ⟨_, rfl, rfl⟩ dX7_isOtherByTrial_41 h
  · refine bt_ifnonnull (tgt := 18) ok dX7_isOtherByTrial_11 (by decide) h (fun hc h => ?_) (fun hc h => ?_)
    · refine at_iconst (v := 0) ok dX7_isOtherByTrial_14 (by decide) ?_
      refine at_goto (tgt := 22) ok dX7_isOtherByTrial_15 (by decide) ?_
      exact at_weak (lw_s (lw_s (lw_n (lw_n lw_0)))) (j22 0 _ (hr_rt.mp h))
    · refine at_aloadn ok dX7_isOtherByTrial_18 rfl ?_
      refine at_getI ok gf_7_147 dX7_isOtherByTrial_19 h fun v19 h => ?_
      exact at_weak (lw_s (lw_s (lw_n (lw_n lw_0)))) (j22 v19 _ (hr_rt.mp h))
set_option maxRecDepth 100000 in
set_option maxHeartbeats 4000000 in
theorem s7_isRow (a1 : Int32) (σ : AH) (Q : Int32 → AH → Prop) (h : Hr (f7_isRow a1) σ Q) : Runs m7_isRow σ [.int (a1)] (fun v σ1 => ∃ a, v = some (.int a) ∧ Q a σ1) := by
  obtain ⟨a0, σ1, e, hQ⟩ := h
  have hm := n7_isRow a1 σ a0 σ1 e
  have h : Hr (f7_isRow a1) σ (fun a σ2 => a = a0 ∧ σ2 = σ1) := ⟨a0, σ1, e, rfl, rfl⟩
  refine ⟨_, σ1, hm, ⟨a0, rfl, hQ⟩, runs_of (by decide +kernel) (by simp [cat_rf, cat_i, cat_l]) (Nat.le_of_ble_eq_true rfl) hm fun X ok fn => ?_⟩
  clear e hQ hm
  unfold f7_isRow at h
  show AT X m7_isRow 0 [some (.int (a1))] [] σ
  refine at_iloadn ok dX7_isRow_0 rfl ?_
  refine at_iconst (v := 2) ok dX7_isRow_1 (by decide) ?_
  refine at_bipush (v := 8) ok dX7_isRow_2 (by decide) ?_
  refine at_cSi (As := [.int (a1), .int (2), .int (8)]) ok ct_7_isRow_79 dX7_isRow_4 (by simp [cat_rf, cat_i, cat_l]) (s7_within a1 2 8 _) h fun v4 σ h => ?_
  refine at_z h fun hz h => ?_
  exact at_iret ok fn ⟨_, rfl, nar_z hz⟩ dX7_isRow_7 h
set_option maxRecDepth 100000 in
set_option maxHeartbeats 4000000 in
theorem s7_isRule (t : Option Nat) (a1 : Int32) (a2 : Int32) (a3 : Int32) (a4 : Int32) (a5 : Int32) (σ : AH) (Q : Int32 → AH → Prop) (h : Hr (f7_isRule t a1 a2 a3 a4 a5) σ Q) : Runs m7_isRule σ [va_rf t, .int (a1), .int (a2), .int (a3), .int (a4), .int (a5)] (fun v σ1 => ∃ a, v = some (.int a) ∧ Q a σ1) := by
  obtain ⟨a0, σ1, e, hQ⟩ := h
  have hm := n7_isRule t a1 a2 a3 a4 a5 σ a0 σ1 e
  have h : Hr (f7_isRule t a1 a2 a3 a4 a5) σ (fun a σ2 => a = a0 ∧ σ2 = σ1) := ⟨a0, σ1, e, rfl, rfl⟩
  refine ⟨_, σ1, hm, ⟨a0, rfl, hQ⟩, runs_of (by decide +kernel) (by simp [cat_rf, cat_i, cat_l]) (Nat.le_of_ble_eq_true rfl) hm fun X ok fn => ?_⟩
  clear e hQ hm
  unfold f7_isRule at h
  show AT X m7_isRule 0 [some (va_rf (t)), some (.int (a1)), some (.int (a2)), some (.int (a3)), some (.int (a4)), some (.int (a5))] [] σ
  refine at_iloadn ok dX7_isRule_0 rfl ?_
  refine at_iconst (v := 0) ok dX7_isRule_1 (by decide) ?_
  refine at_aloadn ok dX7_isRule_2 rfl ?_
  refine at_getR ok gf_7_39 dX7_isRule_3 h fun v3 h => ?_
  refine at_getI ok gf_7_124 dX7_isRule_6 h fun v6 h => ?_
  refine at_cSi (As := [.int (a1), .int (0), .int (v6)]) ok ct_7_isRule_79 dX7_isRule_9 (by simp [cat_rf, cat_i, cat_l]) (s7_within a1 0 v6 _) h fun v9 σ h => ?_
  refine bt_if_eq (tgt := 56) ok dX7_isRule_12 (by decide) h (fun hc h => ?_) (fun hc h => ?_)
  · refine at_iconst (v := 0) ok dX7_isRule_56 (by decide) ?_
    exact at_iret ok fn ⟨_, rfl, rfl⟩ dX7_isRule_57 h
  · refine at_iloadn ok dX7_isRule_15 rfl ?_
    refine at_iconst (v := (-1)) ok dX7_isRule_16 (by decide) ?_
    refine at_bipush (v := 9) ok dX7_isRule_17 (by decide) ?_
    refine at_cSi (As := [.int (a2), .int ((-1)), .int (9)]) ok ct_7_isRule_79 dX7_isRule_19 (by simp [cat_rf, cat_i, cat_l]) (s7_within a2 (-1) 9 _) h fun v19 σ h => ?_
    refine bt_if_eq (tgt := 56) ok dX7_isRule_22 (by decide) h (fun hc h => ?_) (fun hc h => ?_)
    · refine at_iconst (v := 0) ok dX7_isRule_56 (by decide) ?_
      exact at_iret ok fn ⟨_, rfl, rfl⟩ dX7_isRule_57 h
    · refine at_iloadn ok dX7_isRule_25 rfl ?_
      refine at_iconst (v := (-1)) ok dX7_isRule_26 (by decide) ?_
      refine at_iconst (v := 2) ok dX7_isRule_27 (by decide) ?_
      refine at_cSi (As := [.int (a3), .int ((-1)), .int (2)]) ok ct_7_isRule_79 dX7_isRule_28 (by simp [cat_rf, cat_i, cat_l]) (s7_within a3 (-1) 2 _) h fun v28 σ h => ?_
      refine bt_if_eq (tgt := 56) ok dX7_isRule_31 (by decide) h (fun hc h => ?_) (fun hc h => ?_)
      · refine at_iconst (v := 0) ok dX7_isRule_56 (by decide) ?_
        exact at_iret ok fn ⟨_, rfl, rfl⟩ dX7_isRule_57 h
      · refine at_iload ok dX7_isRule_34 rfl ?_
        refine at_cSi (As := [.int (a4)]) ok ct_7_isRule_104 dX7_isRule_36 (by simp [cat_rf, cat_i, cat_l]) (s7_isKind a4 _) h fun v36 σ h => ?_
        refine bt_if_eq (tgt := 56) ok dX7_isRule_39 (by decide) h (fun hc h => ?_) (fun hc h => ?_)
        · refine at_iconst (v := 0) ok dX7_isRule_56 (by decide) ?_
          exact at_iret ok fn ⟨_, rfl, rfl⟩ dX7_isRule_57 h
        · refine at_iload ok dX7_isRule_42 rfl ?_
          refine at_iconst (v := 0) ok dX7_isRule_44 (by decide) ?_
          refine at_iconst (v := 4) ok dX7_isRule_45 (by decide) ?_
          refine at_cSi (As := [.int (a5), .int (0), .int (4)]) ok ct_7_isRule_79 dX7_isRule_46 (by simp [cat_rf, cat_i, cat_l]) (s7_within a5 0 4 _) h fun v46 σ h => ?_
          refine bt_if_eq (tgt := 56) ok dX7_isRule_49 (by decide) h (fun hc h => ?_) (fun hc h => ?_)
          · refine at_iconst (v := 0) ok dX7_isRule_56 (by decide) ?_
            exact at_iret ok fn ⟨_, rfl, rfl⟩ dX7_isRule_57 h
          · refine at_iconst (v := 1) ok dX7_isRule_52 (by decide) ?_
            refine at_goto (tgt := 57) ok dX7_isRule_53 (by decide) ?_
            exact at_iret ok fn ⟨_, rfl, rfl⟩ dX7_isRule_57 h
set_option maxRecDepth 100000 in
set_option maxHeartbeats 4000000 in
theorem s7_isText (a1 : Int32) (σ : AH) (Q : Int32 → AH → Prop) (h : Hr (f7_isText a1) σ Q) : Runs m7_isText σ [.int (a1)] (fun v σ1 => ∃ a, v = some (.int a) ∧ Q a σ1) := by
  obtain ⟨a0, σ1, e, hQ⟩ := h
  have hm := n7_isText a1 σ a0 σ1 e
  have h : Hr (f7_isText a1) σ (fun a σ2 => a = a0 ∧ σ2 = σ1) := ⟨a0, σ1, e, rfl, rfl⟩
  refine ⟨_, σ1, hm, ⟨a0, rfl, hQ⟩, runs_of (by decide +kernel) (by simp [cat_rf, cat_i, cat_l]) (Nat.le_of_ble_eq_true rfl) hm fun X ok fn => ?_⟩
  clear e hQ hm
  unfold f7_isText at h
  show AT X m7_isText 0 [some (.int (a1))] [] σ
  refine at_iloadn ok dX7_isText_0 rfl ?_
  refine at_iconst (v := 0) ok dX7_isText_1 (by decide) ?_
  refine at_bipush (v := 7) ok dX7_isText_2 (by decide) ?_
  refine at_cSi (As := [.int (a1), .int (0), .int (7)]) ok ct_7_isText_79 dX7_isText_4 (by simp [cat_rf, cat_i, cat_l]) (s7_within a1 0 7 _) h fun v4 σ h => ?_
  refine at_z h fun hz h => ?_
  exact at_iret ok fn ⟨_, rfl, nar_z hz⟩ dX7_isText_7 h
set_option maxRecDepth 100000 in
set_option maxHeartbeats 4000000 in
theorem s6_makeSmall (t : Option Nat) (σ : AH) (Q : Unit → AH → Prop) (h : Hr (f6_makeSmall t) σ Q) : Runs m6_makeSmall σ [va_rf t] (fun v σ1 => ∃ a, v = none ∧ Q a σ1) := by
  obtain ⟨a0, σ1, e, hQ⟩ := h
  have hm := n6_makeSmall t σ a0 σ1 e
  have h : Hr (f6_makeSmall t) σ (fun a σ2 => a = a0 ∧ σ2 = σ1) := ⟨a0, σ1, e, rfl, rfl⟩
  refine ⟨_, σ1, hm, ⟨a0, rfl, hQ⟩, runs_of (by decide +kernel) (by simp [cat_rf, cat_i, cat_l]) (Nat.le_of_ble_eq_true rfl) hm fun X ok fn => ?_⟩
  clear e hQ hm
  unfold f6_makeSmall at h
  show AT X m6_makeSmall 0 [some (va_rf (t)), none] [] σ
  refine at_iconst (v := 0) ok dX6_makeSmall_0 (by decide) ?_
  refine at_istoren ok dX6_makeSmall_1 rfl (lc_ref rfl) (by decide) ?_
  refine at_weak (L' := [some (va_rf (t)), some (.int (0))]) (lw_s (lw_s lw_0)) ?_
  refine at_loop (fun x2 σ => AT X m6_makeSmall 2 [some (va_rf (t)), some (.int (x2))] [] σ) (fun y49 σ => AT X m6_makeSmall 49 [none, none] [] σ) h (fun y49 σ h => ?_) (fun kx rec ih x2 σ h => ?_)
  · exact at_vret ok fn rfl dX6_makeSmall_49 h
  · unfold l6_makeSmall_2 at h
    refine at_iloadn ok dX6_makeSmall_2 rfl ?_
    refine at_aloadn ok dX6_makeSmall_3 rfl ?_
    refine at_getI ok gf_6_9 dX6_makeSmall_4 h fun v4 h => ?_
    refine bt_icmp_ge (tgt := 49) ok dX6_makeSmall_7 (by decide) h (fun hc h => ?_) (fun hc h => ?_)
    · exact at_weak (lw_n (lw_n lw_0)) (kx () _ (hr_rt.mp h))
    · refine at_aloadn ok dX6_makeSmall_10 rfl ?_
      refine at_getR ok gf_6_24 dX6_makeSmall_11 h fun v11 h => ?_
      refine at_iloadn ok dX6_makeSmall_14 rfl ?_
      refine at_iald ok dX6_makeSmall_15 h fun v15 h => ?_
      refine at_bipush (v := 65) ok dX6_makeSmall_16 (by decide) ?_
      refine bt_icmp_lt (tgt := 43) ok dX6_makeSmall_18 (by decide) h (fun hc h => ?_) (fun hc h => ?_)
      · refine at_iinc (v := x2 + 1) ok dX6_makeSmall_43 rfl rfl (lc_ref rfl) (by decide) ?_
        refine at_goto (tgt := 2) ok dX6_makeSmall_46 (by decide) ?_
        exact at_weak (lw_s (lw_s lw_0)) (ih (x2 + 1) _ h)
      · refine at_aloadn ok dX6_makeSmall_21 rfl ?_
        refine at_getR ok gf_6_24 dX6_makeSmall_22 h fun v22 h => ?_
        refine at_iloadn ok dX6_makeSmall_25 rfl ?_
        refine at_iald ok dX6_makeSmall_26 h fun v26 h => ?_
        refine at_bipush (v := 90) ok dX6_makeSmall_27 (by decide) ?_
        refine bt_icmp_gt (tgt := 43) ok dX6_makeSmall_29 (by decide) h (fun hc h => ?_) (fun hc h => ?_)
        · refine at_iinc (v := x2 + 1) ok dX6_makeSmall_43 rfl rfl (lc_ref rfl) (by decide) ?_
          refine at_goto (tgt := 2) ok dX6_makeSmall_46 (by decide) ?_
          exact at_weak (lw_s (lw_s lw_0)) (ih (x2 + 1) _ h)
        · refine at_aloadn ok dX6_makeSmall_32 rfl ?_
          refine at_getR ok gf_6_24 dX6_makeSmall_33 h fun v33 h => ?_
          refine at_iloadn ok dX6_makeSmall_36 rfl ?_
          refine at_dup2 ok dX6_makeSmall_37 (rfl) (cat_rf _) ?_
          refine at_iald ok dX6_makeSmall_38 h fun v38 h => ?_
          refine at_bipush (v := 32) ok dX6_makeSmall_39 (by decide) ?_
          refine at_iadd ok dX6_makeSmall_41 ?_
          refine at_iast ok dX6_makeSmall_42 h fun σ h => ?_
          refine at_iinc (v := x2 + 1) ok dX6_makeSmall_43 rfl rfl (lc_ref rfl) (by decide) ?_
          refine at_goto (tgt := 2) ok dX6_makeSmall_46 (by decide) ?_
          exact at_weak (lw_s (lw_s lw_0)) (ih (x2 + 1) _ h)
set_option maxRecDepth 100000 in
set_option maxHeartbeats 4000000 in
theorem s6_addWord (t : Option Nat) (a1 : Int32) (a2 : Int32) (σ : AH) (Q : Unit → AH → Prop) (h : Hr (f6_addWord t a1 a2) σ Q) : Runs m6_addWord σ [va_rf t, .int (a1), .int (a2)] (fun v σ1 => ∃ a, v = none ∧ Q a σ1) := by
  obtain ⟨a0, σ1, e, hQ⟩ := h
  have hm := n6_addWord t a1 a2 σ a0 σ1 e
  have h : Hr (f6_addWord t a1 a2) σ (fun a σ2 => a = a0 ∧ σ2 = σ1) := ⟨a0, σ1, e, rfl, rfl⟩
  refine ⟨_, σ1, hm, ⟨a0, rfl, hQ⟩, runs_of (by decide +kernel) (by simp [cat_rf, cat_i, cat_l]) (Nat.le_of_ble_eq_true rfl) hm fun X ok fn => ?_⟩
  clear e hQ hm
  unfold f6_addWord at h
  show AT X m6_addWord 0 [some (va_rf (t)), some (.int (a1)), some (.int (a2)), none, none] [] σ
  refine at_iloadn ok dX6_addWord_0 rfl ?_
  refine at_iconst (v := 1) ok dX6_addWord_1 (by decide) ?_
  refine bt_icmp_lt (tgt := 17) ok dX6_addWord_2 (by decide) h (fun hc h => ?_) (fun hc h => ?_)
  · exact at_vret ok fn rfl dX6_addWord_17 h
  · refine at_aloadn ok dX6_addWord_5 rfl ?_
    refine at_getI ok gf_6_15 dX6_addWord_6 h fun v6 h => ?_
    refine at_aloadn ok dX6_addWord_9 rfl ?_
    refine at_getR ok gf_6_34 dX6_addWord_10 h fun v10 h => ?_
    refine at_alen (t := 0) (by decide) ok dX6_addWord_13 h fun v13 h => ?_
    refine bt_icmp_lt (tgt := 18) ok dX6_addWord_14 (by decide) h (fun hc h => ?_) (fun hc h => ?_)
    · refine at_iconst (v := 0) ok dX6_addWord_18 (by decide) ?_
      refine at_istoren ok dX6_addWord_19 rfl (lc_int rfl) (by decide) ?_
      refine at_iconst (v := 0) ok dX6_addWord_20 (by decide) ?_
      refine at_istore ok dX6_addWord_21 (lc_int rfl) (by decide) ?_
      refine at_weak (L' := [some (va_rf (t)), some (.int (a1)), some (.int (a2)), some (.int (0)), some (.int (0))]) (lw_s (lw_s (lw_s (lw_s (lw_s lw_0))))) ?_
      refine at_loop (fun x23 σ => AT X m6_addWord 23 [some (va_rf (t)), some (.int (a1)), some (.int (a2)), some (.int (x23.1)), some (.int (x23.2))] [] σ) (fun y50 σ => AT X m6_addWord 50 [some (va_rf (t)), some (.int (a1)), some (.int (a2)), some (.int (y50)), none] [] σ) h (fun y50 σ h => ?_) (fun kx rec ih x23 σ h => ?_)
      · refine at_aloadn ok dX6_addWord_50 rfl ?_
        refine at_getR ok gf_6_34 dX6_addWord_51 h fun v51 h => ?_
        refine at_aloadn ok dX6_addWord_54 rfl ?_
        refine at_getI ok gf_6_15 dX6_addWord_55 h fun v55 h => ?_
        refine at_iloadn ok dX6_addWord_58 rfl ?_
        refine at_iast ok dX6_addWord_59 h fun σ h => ?_
        refine at_aloadn ok dX6_addWord_60 rfl ?_
        refine at_getR ok gf_6_37 dX6_addWord_61 h fun v61 h => ?_
        refine at_aloadn ok dX6_addWord_64 rfl ?_
        refine at_getI ok gf_6_15 dX6_addWord_65 h fun v65 h => ?_
        refine at_iloadn ok dX6_addWord_68 rfl ?_
        refine at_iast ok dX6_addWord_69 h fun σ h => ?_
        refine at_aloadn ok dX6_addWord_70 rfl ?_
        refine at_getR ok gf_6_40 dX6_addWord_71 h fun v71 h => ?_
        refine at_aloadn ok dX6_addWord_74 rfl ?_
        refine at_getI ok gf_6_15 dX6_addWord_75 h fun v75 h => ?_
        refine at_iloadn ok dX6_addWord_78 rfl ?_
        refine at_iast ok dX6_addWord_79 h fun σ h => ?_
        refine at_aloadn ok dX6_addWord_80 rfl ?_
        refine at_dup ok dX6_addWord_81 (cat_rf _) ?_
        refine at_getI ok gf_6_15 dX6_addWord_82 h fun v82 h => ?_
        refine at_iconst (v := 1) ok dX6_addWord_85 (by decide) ?_
        refine at_iadd ok dX6_addWord_86 ?_
        refine at_putI ok (pf_6_15 _) dX6_addWord_87 h fun σ h => ?_
        exact at_vret ok fn rfl dX6_addWord_90 h
      · unfold l6_addWord_23 at h
        obtain ⟨x23_1, x23_2⟩ := x23
        dsimp only at h ⊢
        refine at_iload ok dX6_addWord_23 rfl ?_
        refine at_iloadn ok dX6_addWord_25 rfl ?_
        refine bt_icmp_ge (tgt := 50) ok dX6_addWord_26 (by decide) h (fun hc h => ?_) (fun hc h => ?_)
        · exact at_weak (lw_s (lw_s (lw_s (lw_s (lw_n lw_0))))) (kx x23_1 _ (hr_rt.mp h))
        · refine at_bipush (v := 31) ok dX6_addWord_29 (by decide) ?_
          refine at_iloadn ok dX6_addWord_31 rfl ?_
          refine at_imul ok dX6_addWord_32 ?_
          refine at_aloadn ok dX6_addWord_33 rfl ?_
          refine at_getR ok gf_6_24 dX6_addWord_34 h fun v34 h => ?_
          refine at_iloadn ok dX6_addWord_37 rfl ?_
          refine at_iload ok dX6_addWord_38 rfl ?_
          refine at_iadd ok dX6_addWord_40 ?_
          refine at_iald ok dX6_addWord_41 h fun v41 h => ?_
          refine at_iadd ok dX6_addWord_42 ?_
          refine at_istoren ok dX6_addWord_43 rfl (lc_int rfl) (by decide) ?_
          refine at_iinc (v := x23_2 + 1) ok dX6_addWord_44 rfl rfl (lc_int rfl) (by decide) ?_
          refine at_goto (tgt := 23) ok dX6_addWord_47 (by decide) ?_
          exact at_weak (lw_s (lw_s (lw_s (lw_s (lw_s lw_0))))) (by have q := ih (((31 * x23_1) + v41), (x23_2 + 1)) _ h; dsimp only at q; exact q)
    · exact at_vret ok fn rfl dX6_addWord_17 h
set_option maxRecDepth 100000 in
set_option maxHeartbeats 4000000 in
theorem s6_isOfWord (t : Option Nat) (a1 : Int32) (σ : AH) (Q : Int32 → AH → Prop) (h : Hr (f6_isOfWord t a1) σ Q) : Runs m6_isOfWord σ [va_rf t, .int (a1)] (fun v σ1 => ∃ a, v = some (.int a) ∧ Q a σ1) := by
  obtain ⟨a0, σ1, e, hQ⟩ := h
  have hm := n6_isOfWord t a1 σ a0 σ1 e
  have h : Hr (f6_isOfWord t a1) σ (fun a σ2 => a = a0 ∧ σ2 = σ1) := ⟨a0, σ1, e, rfl, rfl⟩
  refine ⟨_, σ1, hm, ⟨a0, rfl, hQ⟩, runs_of (by decide +kernel) (by simp [cat_rf, cat_i, cat_l]) (Nat.le_of_ble_eq_true rfl) hm fun X ok fn => ?_⟩
  clear e hQ hm
  unfold f6_isOfWord at h
  show AT X m6_isOfWord 0 [some (va_rf (t)), some (.int (a1))] [] σ
  refine at_aloadn ok dX6_isOfWord_0 rfl ?_
  refine at_getR ok gf_6_24 dX6_isOfWord_1 h fun v1 h => ?_
  refine at_iloadn ok dX6_isOfWord_4 rfl ?_
  refine at_iald ok dX6_isOfWord_5 h fun v5 h => ?_
  refine at_cSi (As := [.int (v5)]) ok ct_6_isOfWord_62 dX6_isOfWord_6 (by simp [cat_rf, cat_i, cat_l]) (s6_isDigit v5 _) h fun v6 σ h => ?_
  refine bt_if_ne (tgt := 34) ok dX6_isOfWord_9 (by decide) h (fun hc h => ?_) (fun hc h => ?_)
  · refine at_aloadn ok dX6_isOfWord_12 rfl ?_
    refine at_getR ok gf_6_24 dX6_isOfWord_13 h fun v13 h => ?_
    refine at_iloadn ok dX6_isOfWord_16 rfl ?_
    refine at_iald ok dX6_isOfWord_17 h fun v17 h => ?_
    refine at_bipush (v := 97) ok dX6_isOfWord_18 (by decide) ?_
    refine bt_icmp_lt (tgt := 38) ok dX6_isOfWord_20 (by decide) h (fun hc h => ?_) (fun hc h => ?_)
    · refine at_iconst (v := 0) ok dX6_isOfWord_38 (by decide) ?_
      exact at_iret ok fn ⟨_, rfl, rfl⟩ dX6_isOfWord_39 h
    · refine at_aloadn ok dX6_isOfWord_23 rfl ?_
      refine at_getR ok gf_6_24 dX6_isOfWord_24 h fun v24 h => ?_
      refine at_iloadn ok dX6_isOfWord_27 rfl ?_
      refine at_iald ok dX6_isOfWord_28 h fun v28 h => ?_
      refine at_bipush (v := 122) ok dX6_isOfWord_29 (by decide) ?_
      refine bt_icmp_gt (tgt := 38) ok dX6_isOfWord_31 (by decide) h (fun hc h => ?_) (fun hc h => ?_)
      · refine at_iconst (v := 0) ok dX6_isOfWord_38 (by decide) ?_
        exact at_iret ok fn ⟨_, rfl, rfl⟩ dX6_isOfWord_39 h
      · refine at_iconst (v := 1) ok dX6_isOfWord_34 (by decide) ?_
        refine at_goto (tgt := 39) ok dX6_isOfWord_35 (by decide) ?_
        exact at_iret ok fn ⟨_, rfl, rfl⟩ dX6_isOfWord_39 h
  · refine at_iconst (v := 1) ok dX6_isOfWord_34 (by decide) ?_
    refine at_goto (tgt := 39) ok dX6_isOfWord_35 (by decide) ?_
    exact at_iret ok fn ⟨_, rfl, rfl⟩ dX6_isOfWord_39 h
set_option maxRecDepth 100000 in
set_option maxHeartbeats 4000000 in
theorem s6_splitWords (t : Option Nat) (σ : AH) (Q : Unit → AH → Prop) (h : Hr (f6_splitWords t) σ Q) : Runs m6_splitWords σ [va_rf t] (fun v σ1 => ∃ a, v = none ∧ Q a σ1) := by
  obtain ⟨a0, σ1, e, hQ⟩ := h
  have hm := n6_splitWords t σ a0 σ1 e
  have h : Hr (f6_splitWords t) σ (fun a σ2 => a = a0 ∧ σ2 = σ1) := ⟨a0, σ1, e, rfl, rfl⟩
  refine ⟨_, σ1, hm, ⟨a0, rfl, hQ⟩, runs_of (by decide +kernel) (by simp [cat_rf, cat_i, cat_l]) (Nat.le_of_ble_eq_true rfl) hm fun X ok fn => ?_⟩
  clear e hQ hm
  unfold f6_splitWords at h
  show AT X m6_splitWords 0 [some (va_rf (t)), none, none] [] σ
  refine at_aloadn ok dX6_splitWords_0 rfl ?_
  refine at_iconst (v := 0) ok dX6_splitWords_1 (by decide) ?_
  refine at_putI ok (pf_6_15 _) dX6_splitWords_2 h fun σ h => ?_
  refine at_iconst (v := 0) ok dX6_splitWords_5 (by decide) ?_
  refine at_istoren ok dX6_splitWords_6 rfl (lc_ref rfl) (by decide) ?_
  refine at_iconst (v := 0) ok dX6_splitWords_7 (by decide) ?_
  refine at_istoren ok dX6_splitWords_8 rfl (lc_int rfl) (by decide) ?_
  refine at_weak (L' := [some (va_rf (t)), some (.int (0)), some (.int (0))]) (lw_s (lw_s (lw_s lw_0))) ?_
  refine at_loop (fun x9 σ => AT X m6_splitWords 9 [some (va_rf (t)), some (.int (x9.1)), some (.int (x9.2))] [] σ) (fun y51 σ => AT X m6_splitWords 51 [none, none, none] [] σ) h (fun y51 σ h => ?_) (fun kx rec ih x9 σ h => ?_)
  · exact at_vret ok fn rfl dX6_splitWords_51 h
  · unfold l6_splitWords_9 at h
    obtain ⟨x9_1, x9_2⟩ := x9
    dsimp only at h ⊢
    refine at_iloadn ok dX6_splitWords_9 rfl ?_
    refine at_aloadn ok dX6_splitWords_10 rfl ?_
    refine at_getI ok gf_6_9 dX6_splitWords_11 h fun v11 h => ?_
    refine bt_icmp_gt (tgt := 51) ok dX6_splitWords_14 (by decide) h (fun hc h => ?_) (fun hc h => ?_)
    · exact at_weak (lw_n (lw_n (lw_n lw_0))) (kx () _ (hr_rt.mp h))
    · refine at_iloadn ok dX6_splitWords_17 rfl ?_
      refine at_aloadn ok dX6_splitWords_18 rfl ?_
      refine at_getI ok gf_6_9 dX6_splitWords_19 h fun v19 h => ?_
      refine bt_icmp_eq (tgt := 33) ok dX6_splitWords_22 (by decide) h (fun hc h => ?_) (fun hc h => ?_)
      · refine at_aloadn ok dX6_splitWords_33 rfl ?_
        refine at_iloadn ok dX6_splitWords_34 rfl ?_
        refine at_iloadn ok dX6_splitWords_35 rfl ?_
        refine at_iloadn ok dX6_splitWords_36 rfl ?_
        refine at_isub ok dX6_splitWords_37 ?_
        refine at_cVv (As := [.int (x9_1), .int ((x9_2 - x9_1))]) ok ct_6_splitWords_69 dX6_splitWords_38 (by simp [cat_rf, cat_i, cat_l]) (s6_addWord t x9_1 (x9_2 - x9_1) _) h fun v38 σ h => ?_
        refine at_iloadn ok dX6_splitWords_41 rfl ?_
        refine at_iconst (v := 1) ok dX6_splitWords_42 (by decide) ?_
        refine at_iadd ok dX6_splitWords_43 ?_
        refine at_istoren ok dX6_splitWords_44 rfl (lc_ref rfl) (by decide) ?_
        refine at_iinc (v := x9_2 + 1) ok dX6_splitWords_45 rfl rfl (lc_int rfl) (by decide) ?_
        refine at_goto (tgt := 9) ok dX6_splitWords_48 (by decide) ?_
        exact at_weak (lw_s (lw_s (lw_s lw_0))) (by have q := ih ((x9_2 + 1), (x9_2 + 1)) _ h; dsimp only at q; exact q)
      · refine at_aloadn ok dX6_splitWords_25 rfl ?_
        refine at_iloadn ok dX6_splitWords_26 rfl ?_
        refine at_cVi (As := [.int (x9_2)]) ok ct_6_splitWords_66 dX6_splitWords_27 (by simp [cat_rf, cat_i, cat_l]) (s6_isOfWord t x9_2 _) h fun v27 σ h => ?_
        refine bt_if_ne (tgt := 45) ok dX6_splitWords_30 (by decide) h (fun hc h => ?_) (fun hc h => ?_)
        · refine at_aloadn ok dX6_splitWords_33 rfl ?_
          refine at_iloadn ok dX6_splitWords_34 rfl ?_
          refine at_iloadn ok dX6_splitWords_35 rfl ?_
          refine at_iloadn ok dX6_splitWords_36 rfl ?_
          refine at_isub ok dX6_splitWords_37 ?_
          refine at_cVv (As := [.int (x9_1), .int ((x9_2 - x9_1))]) ok ct_6_splitWords_69 dX6_splitWords_38 (by simp [cat_rf, cat_i, cat_l]) (s6_addWord t x9_1 (x9_2 - x9_1) _) h fun v38 σ h => ?_
          refine at_iloadn ok dX6_splitWords_41 rfl ?_
          refine at_iconst (v := 1) ok dX6_splitWords_42 (by decide) ?_
          refine at_iadd ok dX6_splitWords_43 ?_
          refine at_istoren ok dX6_splitWords_44 rfl (lc_ref rfl) (by decide) ?_
          refine at_iinc (v := x9_2 + 1) ok dX6_splitWords_45 rfl rfl (lc_int rfl) (by decide) ?_
          refine at_goto (tgt := 9) ok dX6_splitWords_48 (by decide) ?_
          exact at_weak (lw_s (lw_s (lw_s lw_0))) (by have q := ih ((x9_2 + 1), (x9_2 + 1)) _ h; dsimp only at q; exact q)
        · refine at_iinc (v := x9_2 + 1) ok dX6_splitWords_45 rfl rfl (lc_int rfl) (by decide) ?_
          refine at_goto (tgt := 9) ok dX6_splitWords_48 (by decide) ?_
          exact at_weak (lw_s (lw_s (lw_s lw_0))) (by have q := ih (x9_1, (x9_2 + 1)) _ h; dsimp only at q; exact q)
set_option maxRecDepth 100000 in
set_option maxHeartbeats 4000000 in
theorem s6_hexOf (a1 : Int32) (σ : AH) (Q : Int32 → AH → Prop) (h : Hr (f6_hexOf a1) σ Q) : Runs m6_hexOf σ [.int (a1)] (fun v σ1 => ∃ a, v = some (.int a) ∧ Q a σ1) := by
  obtain ⟨a0, σ1, e, hQ⟩ := h
  have hm := n6_hexOf a1 σ a0 σ1 e
  have h : Hr (f6_hexOf a1) σ (fun a σ2 => a = a0 ∧ σ2 = σ1) := ⟨a0, σ1, e, rfl, rfl⟩
  refine ⟨_, σ1, hm, ⟨a0, rfl, hQ⟩, runs_of (by decide +kernel) (by simp [cat_rf, cat_i, cat_l]) (Nat.le_of_ble_eq_true rfl) hm fun X ok fn => ?_⟩
  clear e hQ hm
  unfold f6_hexOf at h
  show AT X m6_hexOf 0 [some (.int (a1))] [] σ
  refine at_iloadn ok dX6_hexOf_0 rfl ?_
  refine at_cSi (As := [.int (a1)]) ok ct_6_hexOf_62 dX6_hexOf_1 (by simp [cat_rf, cat_i, cat_l]) (s6_isDigit a1 _) h fun v1 σ h => ?_
  refine bt_if_eq (tgt := 12) ok dX6_hexOf_4 (by decide) h (fun hc h => ?_) (fun hc h => ?_)
  · refine at_iloadn ok dX6_hexOf_12 rfl ?_
    refine at_bipush (v := 97) ok dX6_hexOf_13 (by decide) ?_
    refine at_joinS (fun y32 σ => AT X m6_hexOf 32 [some (.int (a1))] [] σ) h (fun y32 σ h => ?_) (fun h j32 => ?_)
    · refine at_iloadn ok dX6_hexOf_32 rfl ?_
      refine at_bipush (v := 65) ok dX6_hexOf_33 (by decide) ?_
      refine bt_icmp_lt (tgt := 54) ok dX6_hexOf_35 (by decide) h (fun hc h => ?_) (fun hc h => ?_)
      · refine at_iconst (v := (-1)) ok dX6_hexOf_54 (by decide) ?_
        exact at_iret ok fn ⟨_, rfl, rfl⟩ dX6_hexOf_55 h
      · refine at_iloadn ok dX6_hexOf_38 rfl ?_
        refine at_bipush (v := 70) ok dX6_hexOf_39 (by decide) ?_
        refine bt_icmp_gt (tgt := 54) ok dX6_hexOf_41 (by decide) h (fun hc h => ?_) (fun hc h => ?_)
        · refine at_iconst (v := (-1)) ok dX6_hexOf_54 (by decide) ?_
          exact at_iret ok fn ⟨_, rfl, rfl⟩ dX6_hexOf_55 h
        · refine at_iloadn ok dX6_hexOf_44 rfl ?_
          refine at_bipush (v := 65) ok dX6_hexOf_45 (by decide) ?_
          refine at_isub ok dX6_hexOf_47 ?_
          refine at_bipush (v := 10) ok dX6_hexOf_48 (by decide) ?_
          refine at_iadd ok dX6_hexOf_50 ?_
          refine at_goto (tgt := 55) ok dX6_hexOf_51 (by decide) ?_
          exact at_iret ok fn ⟨_, rfl, rfl⟩ dX6_hexOf_55 h
    · refine bt_icmp_lt (tgt := 32) ok dX6_hexOf_15 (by decide) h (fun hc h => ?_) (fun hc h => ?_)
      · exact at_weak (lw_s lw_0) (by have z := hr_inr h; exact j32 () _ z)
      · refine at_iloadn ok dX6_hexOf_18 rfl ?_
        refine at_bipush (v := 102) ok dX6_hexOf_19 (by decide) ?_
        refine bt_icmp_gt (tgt := 32) ok dX6_hexOf_21 (by decide) h (fun hc h => ?_) (fun hc h => ?_)
        · exact at_weak (lw_s lw_0) (by have z := hr_inr h; exact j32 () _ z)
        · refine at_iloadn ok dX6_hexOf_24 rfl ?_
          refine at_bipush (v := 97) ok dX6_hexOf_25 (by decide) ?_
          refine at_isub ok dX6_hexOf_27 ?_
          refine at_bipush (v := 10) ok dX6_hexOf_28 (by decide) ?_
          refine at_iadd ok dX6_hexOf_30 ?_
          exact at_iret ok fn ⟨_, rfl, rfl⟩ dX6_hexOf_31 (hr_inl h)
  · refine at_iloadn ok dX6_hexOf_7 rfl ?_
    refine at_bipush (v := 48) ok dX6_hexOf_8 (by decide) ?_
    refine at_isub ok dX6_hexOf_10 ?_
    exact at_iret ok fn ⟨_, rfl, rfl⟩ dX6_hexOf_11 h
set_option maxRecDepth 100000 in
set_option maxHeartbeats 4000000 in
theorem s6_wrappedAt (t : Option Nat) (a1 : Int32) (σ : AH) (Q : Int32 → AH → Prop) (h : Hr (f6_wrappedAt t a1) σ Q) : Runs m6_wrappedAt σ [va_rf t, .int (a1)] (fun v σ1 => ∃ a, v = some (.int a) ∧ Q a σ1) := by
  obtain ⟨a0, σ1, e, hQ⟩ := h
  have hm := n6_wrappedAt t a1 σ a0 σ1 e
  have h : Hr (f6_wrappedAt t a1) σ (fun a σ2 => a = a0 ∧ σ2 = σ1) := ⟨a0, σ1, e, rfl, rfl⟩
  refine ⟨_, σ1, hm, ⟨a0, rfl, hQ⟩, runs_of (by decide +kernel) (by simp [cat_rf, cat_i, cat_l]) (Nat.le_of_ble_eq_true rfl) hm fun X ok fn => ?_⟩
  clear e hQ hm
  unfold f6_wrappedAt at h
  show AT X m6_wrappedAt 0 [some (va_rf (t)), some (.int (a1)), none, none] [] σ
  refine at_aloadn ok dX6_wrappedAt_0 rfl ?_
  refine at_getR ok gf_6_24 dX6_wrappedAt_1 h fun v1 h => ?_
  refine at_iloadn ok dX6_wrappedAt_4 rfl ?_
  refine at_iald ok dX6_wrappedAt_5 h fun v5 h => ?_
  refine at_bipush (v := 37) ok dX6_wrappedAt_6 (by decide) ?_
  refine bt_icmp_ne (tgt := 21) ok dX6_wrappedAt_8 (by decide) h (fun hc h => ?_) (fun hc h => ?_)
  · refine at_iloadn ok dX6_wrappedAt_11 rfl ?_
    refine at_iconst (v := 2) ok dX6_wrappedAt_12 (by decide) ?_
    refine at_iadd ok dX6_wrappedAt_13 ?_
    refine at_aloadn ok dX6_wrappedAt_14 rfl ?_
    refine at_getI ok gf_6_9 dX6_wrappedAt_15 h fun v15 h => ?_
    refine bt_icmp_lt (tgt := 23) ok dX6_wrappedAt_18 (by decide) h (fun hc h => ?_) (fun hc h => ?_)
    · refine at_aloadn ok dX6_wrappedAt_23 rfl ?_
      refine at_getR ok gf_6_24 dX6_wrappedAt_24 h fun v24 h => ?_
      refine at_iloadn ok dX6_wrappedAt_27 rfl ?_
      refine at_iconst (v := 1) ok dX6_wrappedAt_28 (by decide) ?_
      refine at_iadd ok dX6_wrappedAt_29 ?_
      refine at_iald ok dX6_wrappedAt_30 h fun v30 h => ?_
      refine at_cSi (As := [.int (v30)]) ok ct_6_wrappedAt_59 dX6_wrappedAt_31 (by simp [cat_rf, cat_i, cat_l]) (s6_hexOf v30 _) h fun v31 σ h => ?_
      refine at_istoren ok dX6_wrappedAt_34 rfl (lc_int rfl) (by decide) ?_
      refine at_aloadn ok dX6_wrappedAt_35 rfl ?_
      refine at_getR ok gf_6_24 dX6_wrappedAt_36 h fun v36 h => ?_
      refine at_iloadn ok dX6_wrappedAt_39 rfl ?_
      refine at_iconst (v := 2) ok dX6_wrappedAt_40 (by decide) ?_
      refine at_iadd ok dX6_wrappedAt_41 ?_
      refine at_iald ok dX6_wrappedAt_42 h fun v42 h => ?_
      refine at_cSi (As := [.int (v42)]) ok ct_6_wrappedAt_59 dX6_wrappedAt_43 (by simp [cat_rf, cat_i, cat_l]) (s6_hexOf v42 _) h fun v43 σ h => ?_
      refine at_istoren ok dX6_wrappedAt_46 rfl (lc_int rfl) (by decide) ?_
      refine at_iloadn ok dX6_wrappedAt_47 rfl ?_
      refine at_iconst (v := (-1)) ok dX6_wrappedAt_48 (by decide) ?_
      refine bt_icmp_eq (tgt := 57) ok dX6_wrappedAt_49 (by decide) h (fun hc h => ?_) (fun hc h => ?_)
      · refine at_iconst (v := (-1)) ok dX6_wrappedAt_57 (by decide) ?_
        refine at_goto (tgt := 67) ok dX6_wrappedAt_58 (by decide) ?_
        exact at_iret ok fn ⟨_, rfl, rfl⟩ dX6_wrappedAt_67 h
      · refine at_iloadn ok dX6_wrappedAt_52 rfl ?_
        refine at_iconst (v := (-1)) ok dX6_wrappedAt_53 (by decide) ?_
        refine bt_icmp_ne (tgt := 61) ok dX6_wrappedAt_54 (by decide) h (fun hc h => ?_) (fun hc h => ?_)
        · refine at_iconst (v := (-1)) ok dX6_wrappedAt_57 (by decide) ?_
          refine at_goto (tgt := 67) ok dX6_wrappedAt_58 (by decide) ?_
          exact at_iret ok fn ⟨_, rfl, rfl⟩ dX6_wrappedAt_67 h
        · refine at_bipush (v := 16) ok dX6_wrappedAt_61 (by decide) ?_
          refine at_iloadn ok dX6_wrappedAt_63 rfl ?_
          refine at_imul ok dX6_wrappedAt_64 ?_
          refine at_iloadn ok dX6_wrappedAt_65 rfl ?_
          refine at_iadd ok dX6_wrappedAt_66 ?_
          exact at_iret ok fn ⟨_, rfl, rfl⟩ dX6_wrappedAt_67 h
    · refine at_iconst (v := (-1)) ok dX6_wrappedAt_21 (by decide) ?_
      exact at_iret ok fn ⟨_, rfl, rfl⟩ dX6_wrappedAt_22 h
  · refine at_iconst (v := (-1)) ok dX6_wrappedAt_21 (by decide) ?_
    exact at_iret ok fn ⟨_, rfl, rfl⟩ dX6_wrappedAt_22 h
set_option maxRecDepth 100000 in
set_option maxHeartbeats 4000000 in
theorem s6_unwrapOnce (t : Option Nat) (σ : AH) (Q : Unit → AH → Prop) (h : Hr (f6_unwrapOnce t) σ Q) : Runs m6_unwrapOnce σ [va_rf t] (fun v σ1 => ∃ a, v = none ∧ Q a σ1) := by
  obtain ⟨a0, σ1, e, hQ⟩ := h
  have hm := n6_unwrapOnce t σ a0 σ1 e
  have h : Hr (f6_unwrapOnce t) σ (fun a σ2 => a = a0 ∧ σ2 = σ1) := ⟨a0, σ1, e, rfl, rfl⟩
  refine ⟨_, σ1, hm, ⟨a0, rfl, hQ⟩, runs_of (by decide +kernel) (by simp [cat_rf, cat_i, cat_l]) (Nat.le_of_ble_eq_true rfl) hm fun X ok fn => ?_⟩
  clear e hQ hm
  unfold f6_unwrapOnce at h
  show AT X m6_unwrapOnce 0 [some (va_rf (t)), none, none, none, none] [] σ
  refine at_iconst (v := 0) ok dX6_unwrapOnce_0 (by decide) ?_
  refine at_istoren ok dX6_unwrapOnce_1 rfl (lc_ref rfl) (by decide) ?_
  refine at_iconst (v := 0) ok dX6_unwrapOnce_2 (by decide) ?_
  refine at_istoren ok dX6_unwrapOnce_3 rfl (lc_int rfl) (by decide) ?_
  refine at_weak (L' := [some (va_rf (t)), some (.int (0)), some (.int (0)), none, none]) (lw_s (lw_s (lw_s (lw_n (lw_n lw_0))))) ?_
  refine at_loop (fun x4 σ => AT X m6_unwrapOnce 4 [some (va_rf (t)), some (.int (x4.1)), some (.int (x4.2)), none, none] [] σ) (fun y91 σ => AT X m6_unwrapOnce 91 [some (va_rf (t)), none, some (.int (y91)), none, none] [] σ) h (fun y91 σ h => ?_) (fun kx rec ih x4 σ h => ?_)
  · refine at_aloadn ok dX6_unwrapOnce_91 rfl ?_
    refine at_iloadn ok dX6_unwrapOnce_92 rfl ?_
    refine at_putI ok (pf_6_9 _) dX6_unwrapOnce_93 h fun σ h => ?_
    exact at_vret ok fn rfl dX6_unwrapOnce_96 h
  · unfold l6_unwrapOnce_4 at h
    obtain ⟨x4_1, x4_2⟩ := x4
    dsimp only at h ⊢
    refine at_iloadn ok dX6_unwrapOnce_4 rfl ?_
    refine at_aloadn ok dX6_unwrapOnce_5 rfl ?_
    refine at_getI ok gf_6_9 dX6_unwrapOnce_6 h fun v6 h => ?_
    refine bt_icmp_ge (tgt := 91) ok dX6_unwrapOnce_9 (by decide) h (fun hc h => ?_) (fun hc h => ?_)
    · exact at_weak (lw_s (lw_n (lw_s (lw_n (lw_n lw_0))))) (kx x4_2 _ (hr_rt.mp h))
    · refine at_aloadn ok dX6_unwrapOnce_12 rfl ?_
      refine at_iloadn ok dX6_unwrapOnce_13 rfl ?_
      refine at_cVi (As := [.int (x4_1)]) ok ct_6_unwrapOnce_55 dX6_unwrapOnce_14 (by simp [cat_rf, cat_i, cat_l]) (s6_wrappedAt t x4_1 _) h fun v14 σ h => ?_
      refine at_istoren ok dX6_unwrapOnce_17 rfl (lc_int rfl) (by decide) ?_
      refine at_iloadn ok dX6_unwrapOnce_18 rfl ?_
      refine at_iconst (v := (-1)) ok dX6_unwrapOnce_19 (by decide) ?_
      refine at_join (fun y28 σ => AT X m6_unwrapOnce 28 [some (va_rf (t)), some (.int (x4_1)), some (.int (x4_2)), some (.int (v14)), none] [.int (y28)] σ) h (fun y28 σ h => ?_) (fun h j28 => ?_)
      · refine at_istore ok dX6_unwrapOnce_28 (lc_int rfl) (by decide) ?_
        refine at_aloadn ok dX6_unwrapOnce_30 rfl ?_
        refine at_getR ok gf_6_24 dX6_unwrapOnce_31 h fun v31 h => ?_
        refine at_iloadn ok dX6_unwrapOnce_34 rfl ?_
        refine at_iloadn ok dX6_unwrapOnce_35 rfl ?_
        refine at_iconst (v := (-1)) ok dX6_unwrapOnce_36 (by decide) ?_
        refine at_join (fun y50 σ => AT X m6_unwrapOnce 50 [some (va_rf (t)), some (.int (x4_1)), some (.int (x4_2)), none, some (.int (y28))] [.int (y50), .int (x4_2), va_rf (v31)] σ) h (fun y50 σ h => ?_) (fun h j50 => ?_)
        · refine at_iast ok dX6_unwrapOnce_50 h fun σ h => ?_
          refine at_aloadn ok dX6_unwrapOnce_51 rfl ?_
          refine at_getR ok gf_6_28 dX6_unwrapOnce_52 h fun v52 h => ?_
          refine at_iloadn ok dX6_unwrapOnce_55 rfl ?_
          refine at_aloadn ok dX6_unwrapOnce_56 rfl ?_
          refine at_getR ok gf_6_28 dX6_unwrapOnce_57 h fun v57 h => ?_
          refine at_iloadn ok dX6_unwrapOnce_60 rfl ?_
          refine at_iald ok dX6_unwrapOnce_61 h fun v61 h => ?_
          refine at_iast ok dX6_unwrapOnce_62 h fun σ h => ?_
          refine at_aloadn ok dX6_unwrapOnce_63 rfl ?_
          refine at_getR ok gf_6_31 dX6_unwrapOnce_64 h fun v64 h => ?_
          refine at_iloadn ok dX6_unwrapOnce_67 rfl ?_
          refine at_aloadn ok dX6_unwrapOnce_68 rfl ?_
          refine at_getR ok gf_6_31 dX6_unwrapOnce_69 h fun v69 h => ?_
          refine at_iloadn ok dX6_unwrapOnce_72 rfl ?_
          refine at_iload ok dX6_unwrapOnce_73 rfl ?_
          refine at_iadd ok dX6_unwrapOnce_75 ?_
          refine at_iconst (v := 1) ok dX6_unwrapOnce_76 (by decide) ?_
          refine at_isub ok dX6_unwrapOnce_77 ?_
          refine at_iald ok dX6_unwrapOnce_78 h fun v78 h => ?_
          refine at_iast ok dX6_unwrapOnce_79 h fun σ h => ?_
          refine at_iloadn ok dX6_unwrapOnce_80 rfl ?_
          refine at_iload ok dX6_unwrapOnce_81 rfl ?_
          refine at_iadd ok dX6_unwrapOnce_83 ?_
          refine at_istoren ok dX6_unwrapOnce_84 rfl (lc_ref rfl) (by decide) ?_
          refine at_iinc (v := x4_2 + 1) ok dX6_unwrapOnce_85 rfl rfl (lc_int rfl) (by decide) ?_
          refine at_goto (tgt := 4) ok dX6_unwrapOnce_88 (by decide) ?_
          exact at_weak (lw_s (lw_s (lw_s (lw_n (lw_n lw_0))))) (by have q := ih ((x4_1 + y28), (x4_2 + 1)) _ h; dsimp only at q; exact q)
        · refine bt_icmp_ne (tgt := 49) ok dX6_unwrapOnce_37 (by decide) h (fun hc h => ?_) (fun hc h => ?_)
          · refine at_aloadn ok dX6_unwrapOnce_40 rfl ?_
            refine at_getR ok gf_6_24 dX6_unwrapOnce_41 h fun v41 h => ?_
            refine at_iloadn ok dX6_unwrapOnce_44 rfl ?_
            refine at_iald ok dX6_unwrapOnce_45 h fun v45 h => ?_
            refine at_goto (tgt := 50) ok dX6_unwrapOnce_46 (by decide) ?_
            exact at_weak (lw_s (lw_s (lw_s (lw_n (lw_s lw_0))))) (j50 v45 _ (hr_rt.mp h))
          · refine at_iloadn ok dX6_unwrapOnce_49 rfl ?_
            exact at_weak (lw_s (lw_s (lw_s (lw_n (lw_s lw_0))))) (j50 v14 _ (hr_rt.mp h))
      · refine bt_icmp_ne (tgt := 27) ok dX6_unwrapOnce_20 (by decide) h (fun hc h => ?_) (fun hc h => ?_)
        · refine at_iconst (v := 1) ok dX6_unwrapOnce_23 (by decide) ?_
          refine at_goto (tgt := 28) ok dX6_unwrapOnce_24 (by decide) ?_
          exact at_weak (lw_s (lw_s (lw_s (lw_s (lw_n lw_0))))) (j28 1 _ (hr_rt.mp h))
        · refine at_iconst (v := 3) ok dX6_unwrapOnce_27 (by decide) ?_
          exact at_weak (lw_s (lw_s (lw_s (lw_s (lw_n lw_0))))) (j28 3 _ (hr_rt.mp h))
