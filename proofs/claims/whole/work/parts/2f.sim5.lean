set_option maxRecDepth 100000 in
set_option maxHeartbeats 4000000 in
theorem s8_byteOf (a1 : Int32) (a2 : Int32) (a3 : Int32) (a4 : Int32) (a5 : Int32) (a6 : Int32) (σ : AH) (Q : Int32 → AH → Prop) (h : Hr (f8_byteOf a1 a2 a3 a4 a5 a6) σ Q) : Runs m8_byteOf σ [.int (a1), .int (a2), .int (a3), .int (a4), .int (a5), .int (a6)] (fun v σ1 => ∃ a, v = some (.int a) ∧ Q a σ1) := by
  obtain ⟨a0, σ1, e, hQ⟩ := h
  have hm := n8_byteOf a1 a2 a3 a4 a5 a6 σ a0 σ1 e
  have h : Hr (f8_byteOf a1 a2 a3 a4 a5 a6) σ (fun a σ2 => a = a0 ∧ σ2 = σ1) := ⟨a0, σ1, e, rfl, rfl⟩
  refine ⟨_, σ1, hm, ⟨a0, rfl, hQ⟩, runs_of (by decide +kernel) (by simp [cat_rf, cat_i, cat_l]) (Nat.le_of_ble_eq_true rfl) hm fun X ok fn => ?_⟩
  clear e hQ hm
  unfold f8_byteOf at h
  show AT X m8_byteOf 0 [some (.int (a1)), some (.int (a2)), some (.int (a3)), some (.int (a4)), some (.int (a5)), some (.int (a6)), none] [] σ
  refine at_iload ok dX8_byteOf_0 rfl ?_
  refine at_iconst (v := 4) ok dX8_byteOf_2 (by decide) ?_
  refine at_join (fun y45 σ => AT X m8_byteOf 45 [none, none, none, none, none, some (.int (a6)), none] [.int (y45)] σ) h (fun y45 σ h => ?_) (fun h j45 => ?_)
  · refine at_istore ok dX8_byteOf_45 (lc_int rfl) (by decide) ?_
    refine at_iload ok dX8_byteOf_47 rfl ?_
    refine at_bipush (v := 24) ok dX8_byteOf_49 (by decide) ?_
    refine at_bipush (v := 8) ok dX8_byteOf_51 (by decide) ?_
    refine at_iload ok dX8_byteOf_53 rfl ?_
    refine at_iconst (v := 4) ok dX8_byteOf_55 (by decide) ?_
    refine at_irem ok dX8_byteOf_56 (by decide) ?_
    refine at_imul ok dX8_byteOf_57 ?_
    refine at_isub ok dX8_byteOf_58 ?_
    refine at_ishr ok dX8_byteOf_59 ?_
    refine at_sipush (v := 255) ok dX8_byteOf_60 (by decide) ?_
    refine at_iand ok dX8_byteOf_63 ?_
    exact at_iret ok fn ⟨_, rfl, rfl⟩ dX8_byteOf_64 h
  · refine bt_icmp_ge (tgt := 10) ok dX8_byteOf_3 (by decide) h (fun hc h => ?_) (fun hc h => ?_)
    · refine at_iload ok dX8_byteOf_10 rfl ?_
      refine at_bipush (v := 8) ok dX8_byteOf_12 (by decide) ?_
      refine bt_icmp_ge (tgt := 21) ok dX8_byteOf_14 (by decide) h (fun hc h => ?_) (fun hc h => ?_)
      · refine at_iload ok dX8_byteOf_21 rfl ?_
        refine at_bipush (v := 12) ok dX8_byteOf_23 (by decide) ?_
        refine bt_icmp_ge (tgt := 32) ok dX8_byteOf_25 (by decide) h (fun hc h => ?_) (fun hc h => ?_)
        · refine at_iload ok dX8_byteOf_32 rfl ?_
          refine at_bipush (v := 16) ok dX8_byteOf_34 (by decide) ?_
          refine bt_icmp_ge (tgt := 43) ok dX8_byteOf_36 (by decide) h (fun hc h => ?_) (fun hc h => ?_)
          · refine at_iload ok dX8_byteOf_43 rfl ?_
            exact at_weak (lw_n (lw_n (lw_n (lw_n (lw_n (lw_s (lw_n lw_0))))))) (j45 a5 _ (hr_rt.mp h))
          · refine at_iloadn ok dX8_byteOf_39 rfl ?_
            refine at_goto (tgt := 45) ok dX8_byteOf_40 (by decide) ?_
            exact at_weak (lw_n (lw_n (lw_n (lw_n (lw_n (lw_s (lw_n lw_0))))))) (j45 a4 _ (hr_rt.mp h))
        · refine at_iloadn ok dX8_byteOf_28 rfl ?_
          refine at_goto (tgt := 45) ok dX8_byteOf_29 (by decide) ?_
          exact at_weak (lw_n (lw_n (lw_n (lw_n (lw_n (lw_s (lw_n lw_0))))))) (j45 a3 _ (hr_rt.mp h))
      · refine at_iloadn ok dX8_byteOf_17 rfl ?_
        refine at_goto (tgt := 45) ok dX8_byteOf_18 (by decide) ?_
        exact at_weak (lw_n (lw_n (lw_n (lw_n (lw_n (lw_s (lw_n lw_0))))))) (j45 a2 _ (hr_rt.mp h))
    · refine at_iloadn ok dX8_byteOf_6 rfl ?_
      refine at_goto (tgt := 45) ok dX8_byteOf_7 (by decide) ?_
      exact at_weak (lw_n (lw_n (lw_n (lw_n (lw_n (lw_s (lw_n lw_0))))))) (j45 a1 _ (hr_rt.mp h))
set_option maxRecDepth 100000 in
set_option maxHeartbeats 4000000 in
theorem s8_count (t : Option Nat) (a1 : Int32) (a2 : Int32) (σ : AH) (Q : Int32 → AH → Prop) (h : Hr (f8_count t a1 a2) σ Q) : Runs m8_count σ [va_rf t, .int (a1), .int (a2)] (fun v σ1 => ∃ a, v = some (.int a) ∧ Q a σ1) := by
  obtain ⟨a0, σ1, e, hQ⟩ := h
  have hm := n8_count t a1 a2 σ a0 σ1 e
  have h : Hr (f8_count t a1 a2) σ (fun a σ2 => a = a0 ∧ σ2 = σ1) := ⟨a0, σ1, e, rfl, rfl⟩
  refine ⟨_, σ1, hm, ⟨a0, rfl, hQ⟩, runs_of (by decide +kernel) (by simp [cat_rf, cat_i, cat_l]) (Nat.le_of_ble_eq_true rfl) hm fun X ok fn => ?_⟩
  clear e hQ hm
  unfold f8_count at h
  show AT X m8_count 0 [some (va_rf (t)), some (.int (a1)), some (.int (a2))] [] σ
  refine at_iloadn ok dX8_count_0 rfl ?_
  refine at_iconst (v := 0) ok dX8_count_1 (by decide) ?_
  refine at_bipush (v := 7) ok dX8_count_2 (by decide) ?_
  refine at_cSi (As := [.int (a1), .int (0), .int (7)]) ok ct_8_count_128 dX8_count_4 (by simp [cat_rf, cat_i, cat_l]) (s8_in a1 0 7 _) h fun v4 σ h => ?_
  refine bt_if_eq (tgt := 20) ok dX8_count_7 (by decide) h (fun hc h => ?_) (fun hc h => ?_)
  · refine at_iconst (v := 0) ok dX8_count_20 (by decide) ?_
    exact at_iret ok fn ⟨_, rfl, rfl⟩ dX8_count_21 h
  · refine at_iloadn ok dX8_count_10 rfl ?_
    refine at_iconst (v := 1) ok dX8_count_11 (by decide) ?_
    refine at_bipush (v := 20) ok dX8_count_12 (by decide) ?_
    refine at_cSi (As := [.int (a2), .int (1), .int (20)]) ok ct_8_count_128 dX8_count_14 (by simp [cat_rf, cat_i, cat_l]) (s8_in a2 1 20 _) h fun v14 σ h => ?_
    refine bt_if_ne (tgt := 22) ok dX8_count_17 (by decide) h (fun hc h => ?_) (fun hc h => ?_)
    · refine at_iconst (v := 0) ok dX8_count_20 (by decide) ?_
      exact at_iret ok fn ⟨_, rfl, rfl⟩ dX8_count_21 h
    · refine at_aloadn ok dX8_count_22 rfl ?_
      refine at_getR ok gf_8_50 dX8_count_23 h fun v23 h => ?_
      refine at_iloadn ok dX8_count_26 rfl ?_
      refine at_iconst (v := 3) ok dX8_count_27 (by decide) ?_
      refine at_iast ok dX8_count_28 h fun σ h => ?_
      refine at_aloadn ok dX8_count_29 rfl ?_
      refine at_getR ok gf_8_65 dX8_count_30 h fun v30 h => ?_
      refine at_iloadn ok dX8_count_33 rfl ?_
      refine at_iloadn ok dX8_count_34 rfl ?_
      refine at_iast ok dX8_count_35 h fun σ h => ?_
      refine at_iconst (v := 1) ok dX8_count_36 (by decide) ?_
      exact at_iret ok fn ⟨_, rfl, rfl⟩ dX8_count_37 h
set_option maxRecDepth 100000 in
set_option maxHeartbeats 4000000 in
theorem s8_days (t : Option Nat) (a1 : Int32) (σ : AH) (Q : Int32 → AH → Prop) (h : Hr (f8_days t a1) σ Q) : Runs m8_days σ [va_rf t, .int (a1)] (fun v σ1 => ∃ a, v = some (.int a) ∧ Q a σ1) := by
  obtain ⟨a0, σ1, e, hQ⟩ := h
  have hm := n8_days t a1 σ a0 σ1 e
  have h : Hr (f8_days t a1) σ (fun a σ2 => a = a0 ∧ σ2 = σ1) := ⟨a0, σ1, e, rfl, rfl⟩
  refine ⟨_, σ1, hm, ⟨a0, rfl, hQ⟩, runs_of (by decide +kernel) (by simp [cat_rf, cat_i, cat_l]) (Nat.le_of_ble_eq_true rfl) hm fun X ok fn => ?_⟩
  clear e hQ hm
  unfold f8_days at h
  show AT X m8_days 0 [some (va_rf (t)), some (.int (a1))] [] σ
  refine at_iloadn ok dX8_days_0 rfl ?_
  refine at_iconst (v := 0) ok dX8_days_1 (by decide) ?_
  refine at_bipush (v := 100) ok dX8_days_2 (by decide) ?_
  refine at_cSi (As := [.int (a1), .int (0), .int (100)]) ok ct_8_days_128 dX8_days_4 (by simp [cat_rf, cat_i, cat_l]) (s8_in a1 0 100 _) h fun v4 σ h => ?_
  refine bt_if_eq (tgt := 22) ok dX8_days_7 (by decide) h (fun hc h => ?_) (fun hc h => ?_)
  · refine at_iconst (v := (-1)) ok dX8_days_22 (by decide) ?_
    exact at_iret ok fn ⟨_, rfl, rfl⟩ dX8_days_23 h
  · refine at_aloadn ok dX8_days_10 rfl ?_
    refine at_getI ok gf_8_132 dX8_days_11 h fun v11 h => ?_
    refine at_iloadn ok dX8_days_14 rfl ?_
    refine at_iadd ok dX8_days_15 ?_
    refine at_sipush (v := 1000) ok dX8_days_16 (by decide) ?_
    refine bt_icmp_le (tgt := 24) ok dX8_days_19 (by decide) h (fun hc h => ?_) (fun hc h => ?_)
    · refine at_aloadn ok dX8_days_24 rfl ?_
      refine at_dup ok dX8_days_25 (cat_rf _) ?_
      refine at_getI ok gf_8_132 dX8_days_26 h fun v26 h => ?_
      refine at_iloadn ok dX8_days_29 rfl ?_
      refine at_iadd ok dX8_days_30 ?_
      refine at_putI ok (pf_8_132 _) dX8_days_31 h fun σ h => ?_
      refine at_aloadn ok dX8_days_34 rfl ?_
      refine at_getI ok gf_8_132 dX8_days_35 h fun v35 h => ?_
      exact at_iret ok fn ⟨_, rfl, rfl⟩ dX8_days_38 h
    · refine at_iconst (v := (-1)) ok dX8_days_22 (by decide) ?_
      exact at_iret ok fn ⟨_, rfl, rfl⟩ dX8_days_23 h
set_option maxRecDepth 100000 in
set_option maxHeartbeats 4000000 in
theorem s8_remove (t : Option Nat) (a1 : Int32) (σ : AH) (Q : Unit → AH → Prop) (h : Hr (f8_remove t a1) σ Q) : Runs m8_remove σ [va_rf t, .int (a1)] (fun v σ1 => ∃ a, v = none ∧ Q a σ1) := by
  obtain ⟨a0, σ1, e, hQ⟩ := h
  have hm := n8_remove t a1 σ a0 σ1 e
  have h : Hr (f8_remove t a1) σ (fun a σ2 => a = a0 ∧ σ2 = σ1) := ⟨a0, σ1, e, rfl, rfl⟩
  refine ⟨_, σ1, hm, ⟨a0, rfl, hQ⟩, runs_of (by decide +kernel) (by simp [cat_rf, cat_i, cat_l]) (Nat.le_of_ble_eq_true rfl) hm fun X ok fn => ?_⟩
  clear e hQ hm
  unfold f8_remove at h
  show AT X m8_remove 0 [some (va_rf (t)), some (.int (a1)), none] [] σ
  refine at_aloadn ok dX8_remove_0 rfl ?_
  refine at_dup ok dX8_remove_1 (cat_rf _) ?_
  refine at_getI ok gf_8_232 dX8_remove_2 h fun v2 h => ?_
  refine at_iconst (v := 1) ok dX8_remove_5 (by decide) ?_
  refine at_isub ok dX8_remove_6 ?_
  refine at_putI ok (pf_8_232 _) dX8_remove_7 h fun σ h => ?_
  refine at_iloadn ok dX8_remove_10 rfl ?_
  refine at_istoren ok dX8_remove_11 rfl (lc_int rfl) (by decide) ?_
  refine at_weak (L' := [some (va_rf (t)), none, some (.int (a1))]) (lw_s (lw_n (lw_s lw_0))) ?_
  refine at_loop (fun x12 σ => AT X m8_remove 12 [some (va_rf (t)), none, some (.int (x12))] [] σ) (fun y82 σ => AT X m8_remove 82 [none, none, none] [] σ) h (fun y82 σ h => ?_) (fun kx rec ih x12 σ h => ?_)
  · exact at_vret ok fn rfl dX8_remove_82 h
  · unfold l8_remove_12 at h
    refine at_iloadn ok dX8_remove_12 rfl ?_
    refine at_aloadn ok dX8_remove_13 rfl ?_
    refine at_getI ok gf_8_232 dX8_remove_14 h fun v14 h => ?_
    refine bt_icmp_ge (tgt := 82) ok dX8_remove_17 (by decide) h (fun hc h => ?_) (fun hc h => ?_)
    · exact at_weak (lw_n (lw_n (lw_n lw_0))) (kx () _ (hr_rt.mp h))
    · refine at_aloadn ok dX8_remove_20 rfl ?_
      refine at_getR ok gf_8_116 dX8_remove_21 h fun v21 h => ?_
      refine at_iloadn ok dX8_remove_24 rfl ?_
      refine at_aloadn ok dX8_remove_25 rfl ?_
      refine at_getR ok gf_8_116 dX8_remove_26 h fun v26 h => ?_
      refine at_iloadn ok dX8_remove_29 rfl ?_
      refine at_iconst (v := 1) ok dX8_remove_30 (by decide) ?_
      refine at_iadd ok dX8_remove_31 ?_
      refine at_iald ok dX8_remove_32 h fun v32 h => ?_
      refine at_iast ok dX8_remove_33 h fun σ h => ?_
      refine at_aloadn ok dX8_remove_34 rfl ?_
      refine at_getR ok gf_8_119 dX8_remove_35 h fun v35 h => ?_
      refine at_iloadn ok dX8_remove_38 rfl ?_
      refine at_aloadn ok dX8_remove_39 rfl ?_
      refine at_getR ok gf_8_119 dX8_remove_40 h fun v40 h => ?_
      refine at_iloadn ok dX8_remove_43 rfl ?_
      refine at_iconst (v := 1) ok dX8_remove_44 (by decide) ?_
      refine at_iadd ok dX8_remove_45 ?_
      refine at_iald ok dX8_remove_46 h fun v46 h => ?_
      refine at_iast ok dX8_remove_47 h fun σ h => ?_
      refine at_aloadn ok dX8_remove_48 rfl ?_
      refine at_getR ok gf_8_122 dX8_remove_49 h fun v49 h => ?_
      refine at_iloadn ok dX8_remove_52 rfl ?_
      refine at_aloadn ok dX8_remove_53 rfl ?_
      refine at_getR ok gf_8_122 dX8_remove_54 h fun v54 h => ?_
      refine at_iloadn ok dX8_remove_57 rfl ?_
      refine at_iconst (v := 1) ok dX8_remove_58 (by decide) ?_
      refine at_iadd ok dX8_remove_59 ?_
      refine at_iald ok dX8_remove_60 h fun v60 h => ?_
      refine at_iast ok dX8_remove_61 h fun σ h => ?_
      refine at_aloadn ok dX8_remove_62 rfl ?_
      refine at_getR ok gf_8_125 dX8_remove_63 h fun v63 h => ?_
      refine at_iloadn ok dX8_remove_66 rfl ?_
      refine at_aloadn ok dX8_remove_67 rfl ?_
      refine at_getR ok gf_8_125 dX8_remove_68 h fun v68 h => ?_
      refine at_iloadn ok dX8_remove_71 rfl ?_
      refine at_iconst (v := 1) ok dX8_remove_72 (by decide) ?_
      refine at_iadd ok dX8_remove_73 ?_
      refine at_iald ok dX8_remove_74 h fun v74 h => ?_
      refine at_iast ok dX8_remove_75 h fun σ h => ?_
      refine at_iinc (v := x12 + 1) ok dX8_remove_76 rfl rfl (lc_non rfl) (by decide) ?_
      refine at_goto (tgt := 12) ok dX8_remove_79 (by decide) ?_
      exact at_weak (lw_s (lw_n (lw_s lw_0))) (ih (x12 + 1) _ h)
set_option maxRecDepth 100000 in
set_option maxHeartbeats 4000000 in
theorem s8_drop (t : Option Nat) (a1 : Int32) (σ : AH) (Q : Int32 → AH → Prop) (h : Hr (f8_drop t a1) σ Q) : Runs m8_drop σ [va_rf t, .int (a1)] (fun v σ1 => ∃ a, v = some (.int a) ∧ Q a σ1) := by
  obtain ⟨a0, σ1, e, hQ⟩ := h
  have hm := n8_drop t a1 σ a0 σ1 e
  have h : Hr (f8_drop t a1) σ (fun a σ2 => a = a0 ∧ σ2 = σ1) := ⟨a0, σ1, e, rfl, rfl⟩
  refine ⟨_, σ1, hm, ⟨a0, rfl, hQ⟩, runs_of (by decide +kernel) (by simp [cat_rf, cat_i, cat_l]) (Nat.le_of_ble_eq_true rfl) hm fun X ok fn => ?_⟩
  clear e hQ hm
  unfold f8_drop at h
  show AT X m8_drop 0 [some (va_rf (t)), some (.int (a1))] [] σ
  refine at_iloadn ok dX8_drop_0 rfl ?_
  refine at_iconst (v := 0) ok dX8_drop_1 (by decide) ?_
  refine at_aloadn ok dX8_drop_2 rfl ?_
  refine at_getI ok gf_8_232 dX8_drop_3 h fun v3 h => ?_
  refine at_iconst (v := 1) ok dX8_drop_6 (by decide) ?_
  refine at_isub ok dX8_drop_7 ?_
  refine at_cSi (As := [.int (a1), .int (0), .int ((v3 - 1))]) ok ct_8_drop_128 dX8_drop_8 (by simp [cat_rf, cat_i, cat_l]) (s8_in a1 0 (v3 - 1) _) h fun v8 σ h => ?_
  refine bt_if_ne (tgt := 16) ok dX8_drop_11 (by decide) h (fun hc h => ?_) (fun hc h => ?_)
  · refine at_iconst (v := 0) ok dX8_drop_14 (by decide) ?_
    exact at_iret ok fn ⟨_, rfl, rfl⟩ dX8_drop_15 h
  · refine at_aloadn ok dX8_drop_16 rfl ?_
    refine at_iloadn ok dX8_drop_17 rfl ?_
    refine at_cVv (As := [.int (a1)]) ok ct_8_drop_243 dX8_drop_18 (by simp [cat_rf, cat_i, cat_l]) (s8_remove t a1 _) h fun v18 σ h => ?_
    refine at_iconst (v := 1) ok dX8_drop_21 (by decide) ?_
    exact at_iret ok fn ⟨_, rfl, rfl⟩ dX8_drop_22 h
set_option maxRecDepth 100000 in
set_option maxHeartbeats 4000000 in
theorem s8_end (t : Option Nat) (a1 : Int32) (σ : AH) (Q : Int32 → AH → Prop) (h : Hr (f8_end t a1) σ Q) : Runs m8_end σ [va_rf t, .int (a1)] (fun v σ1 => ∃ a, v = some (.int a) ∧ Q a σ1) := by
  obtain ⟨a0, σ1, e, hQ⟩ := h
  have hm := n8_end t a1 σ a0 σ1 e
  have h : Hr (f8_end t a1) σ (fun a σ2 => a = a0 ∧ σ2 = σ1) := ⟨a0, σ1, e, rfl, rfl⟩
  refine ⟨_, σ1, hm, ⟨a0, rfl, hQ⟩, runs_of (by decide +kernel) (by simp [cat_rf, cat_i, cat_l]) (Nat.le_of_ble_eq_true rfl) hm fun X ok fn => ?_⟩
  clear e hQ hm
  unfold f8_end at h
  show AT X m8_end 0 [some (va_rf (t)), some (.int (a1))] [] σ
  refine at_iloadn ok dX8_end_0 rfl ?_
  refine bt_if_lt (tgt := 12) ok dX8_end_1 (by decide) h (fun hc h => ?_) (fun hc h => ?_)
  · refine at_iconst (v := 0) ok dX8_end_12 (by decide) ?_
    exact at_iret ok fn ⟨_, rfl, rfl⟩ dX8_end_13 h
  · refine at_iloadn ok dX8_end_4 rfl ?_
    refine at_aloadn ok dX8_end_5 rfl ?_
    refine at_getI ok gf_8_140 dX8_end_6 h fun v6 h => ?_
    refine bt_icmp_le (tgt := 14) ok dX8_end_9 (by decide) h (fun hc h => ?_) (fun hc h => ?_)
    · refine at_aloadn ok dX8_end_14 rfl ?_
      refine at_iloadn ok dX8_end_15 rfl ?_
      refine at_putI ok (pf_8_140 _) dX8_end_16 h fun σ h => ?_
      refine at_iconst (v := 1) ok dX8_end_19 (by decide) ?_
      exact at_iret ok fn ⟨_, rfl, rfl⟩ dX8_end_20 h
    · refine at_iconst (v := 0) ok dX8_end_12 (by decide) ?_
      exact at_iret ok fn ⟨_, rfl, rfl⟩ dX8_end_13 h
set_option maxRecDepth 100000 in
set_option maxHeartbeats 4000000 in
theorem s8_feed (t : Option Nat) (a1 : Int32) (a2 : Int32) (a3 : Int32) (a4 : Int32) (a5 : Int32) (σ : AH) (Q : Int32 → AH → Prop) (h : Hr (f8_feed t a1 a2 a3 a4 a5) σ Q) : Runs m8_feed σ [va_rf t, .int (a1), .int (a2), .int (a3), .int (a4), .int (a5)] (fun v σ1 => ∃ a, v = some (.int a) ∧ Q a σ1) := by
  obtain ⟨a0, σ1, e, hQ⟩ := h
  have hm := n8_feed t a1 a2 a3 a4 a5 σ a0 σ1 e
  have h : Hr (f8_feed t a1 a2 a3 a4 a5) σ (fun a σ2 => a = a0 ∧ σ2 = σ1) := ⟨a0, σ1, e, rfl, rfl⟩
  refine ⟨_, σ1, hm, ⟨a0, rfl, hQ⟩, runs_of (by decide +kernel) (by simp [cat_rf, cat_i, cat_l]) (Nat.le_of_ble_eq_true rfl) hm fun X ok fn => ?_⟩
  clear e hQ hm
  unfold f8_feed at h
  show AT X m8_feed 0 [some (va_rf (t)), some (.int (a1)), some (.int (a2)), some (.int (a3)), some (.int (a4)), some (.int (a5)), none, none, none] [] σ
  refine at_iconst (v := 0) ok dX8_feed_0 (by decide) ?_
  refine at_istore ok dX8_feed_1 (lc_int rfl) (by decide) ?_
  refine at_iconst (v := 0) ok dX8_feed_3 (by decide) ?_
  refine at_istore ok dX8_feed_4 (lc_int rfl) (by decide) ?_
  refine at_weak (L' := [some (va_rf (t)), some (.int (a1)), some (.int (a2)), some (.int (a3)), some (.int (a4)), some (.int (a5)), some (.int (0)), some (.int (0)), none]) (lw_s (lw_s (lw_s (lw_s (lw_s (lw_s (lw_s (lw_s (lw_n lw_0))))))))) ?_
  refine at_loop (fun x6 σ => AT X m8_feed 6 [some (va_rf (t)), some (.int (a1)), some (.int (a2)), some (.int (a3)), some (.int (a4)), some (.int (a5)), some (.int (x6.1)), some (.int (x6.2)), none] [] σ) (fun y44 σ => AT X m8_feed 44 [some (va_rf (t)), some (.int (a1)), some (.int (a2)), some (.int (a3)), some (.int (a4)), some (.int (a5)), some (.int (y44)), none, none] [] σ) h (fun y44 σ h => ?_) (fun kx rec ih x6 σ h => ?_)
  · refine at_aloadn ok dX8_feed_44 rfl ?_
    refine at_getI ok gf_8_140 dX8_feed_45 h fun v45 h => ?_
    refine at_iload ok dX8_feed_48 rfl ?_
    refine at_iadd ok dX8_feed_50 ?_
    refine at_sipush (v := 300) ok dX8_feed_51 (by decide) ?_
    refine bt_icmp_le (tgt := 59) ok dX8_feed_54 (by decide) h (fun hc h => ?_) (fun hc h => ?_)
    · refine at_iconst (v := 0) ok dX8_feed_59 (by decide) ?_
      refine at_istore ok dX8_feed_60 (lc_int rfl) (by decide) ?_
      refine at_weak (L' := [some (va_rf (t)), some (.int (a1)), some (.int (a2)), some (.int (a3)), some (.int (a4)), some (.int (a5)), none, some (.int (0)), none]) (lw_s (lw_s (lw_s (lw_s (lw_s (lw_s (lw_n (lw_s (lw_n lw_0))))))))) ?_
      refine at_loop (fun x62 σ => AT X m8_feed 62 [some (va_rf (t)), some (.int (a1)), some (.int (a2)), some (.int (a3)), some (.int (a4)), some (.int (a5)), none, some (.int (x62)), none] [] σ) (fun y115 σ => AT X m8_feed 115 [some (va_rf (t)), none, none, none, none, none, none, none, none] [] σ) h (fun y115 σ h => ?_) (fun kx rec ih x62 σ h => ?_)
      · refine at_aloadn ok dX8_feed_115 rfl ?_
        refine at_getI ok gf_8_140 dX8_feed_116 h fun v116 h => ?_
        exact at_iret ok fn ⟨_, rfl, rfl⟩ dX8_feed_119 h
      · unfold l8_feed_62 at h
        refine at_iload ok dX8_feed_62 rfl ?_
        refine at_bipush (v := 20) ok dX8_feed_64 (by decide) ?_
        refine bt_icmp_ge (tgt := 115) ok dX8_feed_66 (by decide) h (fun hc h => ?_) (fun hc h => ?_)
        · exact at_weak (lw_s (lw_n (lw_n (lw_n (lw_n (lw_n (lw_n (lw_n (lw_n lw_0))))))))) (kx () _ (hr_rt.mp h))
        · refine at_iloadn ok dX8_feed_69 rfl ?_
          refine at_iloadn ok dX8_feed_70 rfl ?_
          refine at_iloadn ok dX8_feed_71 rfl ?_
          refine at_iload ok dX8_feed_72 rfl ?_
          refine at_iload ok dX8_feed_74 rfl ?_
          refine at_iload ok dX8_feed_76 rfl ?_
          refine at_cSi (As := [.int (a1), .int (a2), .int (a3), .int (a4), .int (a5), .int (x62)]) ok ct_8_feed_136 dX8_feed_78 (by simp [cat_rf, cat_i, cat_l]) (s8_byteOf a1 a2 a3 a4 a5 x62 _) h fun v78 σ h => ?_
          refine at_istore ok dX8_feed_81 (lc_int rfl) (by decide) ?_
          refine at_iload ok dX8_feed_83 rfl ?_
          refine bt_if_eq (tgt := 109) ok dX8_feed_85 (by decide) h (fun hc h => ?_) (fun hc h => ?_)
          · refine at_iinc (v := x62 + 1) ok dX8_feed_109 rfl rfl (lc_non rfl) (by decide) ?_
            refine at_goto (tgt := 62) ok dX8_feed_112 (by decide) ?_
            exact at_weak (lw_s (lw_s (lw_s (lw_s (lw_s (lw_s (lw_n (lw_s (lw_n lw_0))))))))) (ih (x62 + 1) _ h)
          · refine at_aloadn ok dX8_feed_88 rfl ?_
            refine at_getR ok gf_8_9 dX8_feed_89 h fun v89 h => ?_
            refine at_aloadn ok dX8_feed_92 rfl ?_
            refine at_getI ok gf_8_140 dX8_feed_93 h fun v93 h => ?_
            refine at_iload ok dX8_feed_96 rfl ?_
            refine at_iast ok dX8_feed_98 h fun σ h => ?_
            refine at_aloadn ok dX8_feed_99 rfl ?_
            refine at_dup ok dX8_feed_100 (cat_rf _) ?_
            refine at_getI ok gf_8_140 dX8_feed_101 h fun v101 h => ?_
            refine at_iconst (v := 1) ok dX8_feed_104 (by decide) ?_
            refine at_iadd ok dX8_feed_105 ?_
            refine at_putI ok (pf_8_140 _) dX8_feed_106 h fun σ h => ?_
            refine at_iinc (v := x62 + 1) ok dX8_feed_109 rfl rfl (lc_non rfl) (by decide) ?_
            refine at_goto (tgt := 62) ok dX8_feed_112 (by decide) ?_
            exact at_weak (lw_s (lw_s (lw_s (lw_s (lw_s (lw_s (lw_n (lw_s (lw_n lw_0))))))))) (ih (x62 + 1) _ h)
    · refine at_iconst (v := (-1)) ok dX8_feed_57 (by decide) ?_
      exact at_iret ok fn ⟨_, rfl, rfl⟩ dX8_feed_58 h
  · unfold l8_feed_6 at h
    obtain ⟨x6_1, x6_2⟩ := x6
    dsimp only at h ⊢
    refine at_iload ok dX8_feed_6 rfl ?_
    refine at_bipush (v := 20) ok dX8_feed_8 (by decide) ?_
    refine bt_icmp_ge (tgt := 44) ok dX8_feed_10 (by decide) h (fun hc h => ?_) (fun hc h => ?_)
    · exact at_weak (lw_s (lw_s (lw_s (lw_s (lw_s (lw_s (lw_s (lw_n (lw_n lw_0))))))))) (kx x6_1 _ (hr_rt.mp h))
    · refine at_iload ok dX8_feed_13 rfl ?_
      refine at_iloadn ok dX8_feed_15 rfl ?_
      refine at_iloadn ok dX8_feed_16 rfl ?_
      refine at_iloadn ok dX8_feed_17 rfl ?_
      refine at_iload ok dX8_feed_18 rfl ?_
      refine at_iload ok dX8_feed_20 rfl ?_
      refine at_iload ok dX8_feed_22 rfl ?_
      refine at_cSi (As := [.int (a1), .int (a2), .int (a3), .int (a4), .int (a5), .int (x6_2)]) ok ct_8_feed_136 dX8_feed_24 (by simp [cat_rf, cat_i, cat_l]) (s8_byteOf a1 a2 a3 a4 a5 x6_2 _) h fun v24 σ h => ?_
      refine bt_if_eq (tgt := 34) ok dX8_feed_27 (by decide) h (fun hc h => ?_) (fun hc h => ?_)
      · refine at_iconst (v := 0) ok dX8_feed_34 (by decide) ?_
        refine at_iadd ok dX8_feed_35 ?_
        refine at_istore ok dX8_feed_36 (lc_int rfl) (by decide) ?_
        refine at_iinc (v := x6_2 + 1) ok dX8_feed_38 rfl rfl (lc_int rfl) (by decide) ?_
        refine at_goto (tgt := 6) ok dX8_feed_41 (by decide) ?_
        exact at_weak (lw_s (lw_s (lw_s (lw_s (lw_s (lw_s (lw_s (lw_s (lw_n lw_0))))))))) (by have q := ih ((x6_1 + 0), (x6_2 + 1)) _ h; dsimp only at q; exact q)
      · refine at_iconst (v := 1) ok dX8_feed_30 (by decide) ?_
        refine at_goto (tgt := 35) ok dX8_feed_31 (by decide) ?_
        refine at_iadd ok dX8_feed_35 ?_
        refine at_istore ok dX8_feed_36 (lc_int rfl) (by decide) ?_
        refine at_iinc (v := x6_2 + 1) ok dX8_feed_38 rfl rfl (lc_int rfl) (by decide) ?_
        refine at_goto (tgt := 6) ok dX8_feed_41 (by decide) ?_
        exact at_weak (lw_s (lw_s (lw_s (lw_s (lw_s (lw_s (lw_s (lw_s (lw_n lw_0))))))))) (by have q := ih ((x6_1 + 1), (x6_2 + 1)) _ h; dsimp only at q; exact q)
set_option maxRecDepth 100000 in
set_option maxHeartbeats 4000000 in
theorem s8_longer (a1 : Option Nat) (σ : AH) (Q : Option Nat → AH → Prop) (h : Hr (f8_longer a1) σ Q) : Runs m8_longer σ [va_rf (a1)] (fun v σ1 => ∃ a, v = some (va_rf a) ∧ Q a σ1) := by
  obtain ⟨a0, σ1, e, hQ⟩ := h
  have hm := n8_longer a1 σ a0 σ1 e
  have h : Hr (f8_longer a1) σ (fun a σ2 => a = a0 ∧ σ2 = σ1) := ⟨a0, σ1, e, rfl, rfl⟩
  refine ⟨_, σ1, hm, ⟨a0, rfl, hQ⟩, runs_of (by decide +kernel) (by simp [cat_rf, cat_i, cat_l]) (Nat.le_of_ble_eq_true rfl) hm fun X ok fn => ?_⟩
  clear e hQ hm
  unfold f8_longer at h
  show AT X m8_longer 0 [some (va_rf (a1)), none, none] [] σ
  refine at_iconst (v := 2) ok dX8_longer_0 (by decide) ?_
  refine at_aloadn ok dX8_longer_1 rfl ?_
  refine at_alen (t := 0) (by decide) ok dX8_longer_2 h fun v2 h => ?_
  refine at_imul ok dX8_longer_3 ?_
  refine at_newA (atype := .int) (t := 0) rfl (Or.inl rfl) wd_41 ok dX8_longer_4 h fun v4 σ h => ?_
  refine at_astoren ok dX8_longer_6 rfl (lc_ref rfl) (by decide) ?_
  refine at_iconst (v := 0) ok dX8_longer_7 (by decide) ?_
  refine at_istoren ok dX8_longer_8 rfl (lc_ref rfl) (by decide) ?_
  refine at_weak (L' := [some (va_rf (a1)), some (va_rf (v4)), some (.int (0))]) (lw_s (lw_s (lw_s lw_0))) ?_
  refine at_loop (fun x9 σ => AT X m8_longer 9 [some (va_rf (a1)), some (va_rf (v4)), some (.int (x9))] [] σ) (fun y27 σ => AT X m8_longer 27 [none, some (va_rf (v4)), none] [] σ) h (fun y27 σ h => ?_) (fun kx rec ih x9 σ h => ?_)
  · refine at_aloadn ok dX8_longer_27 rfl ?_
    exact at_aret ok fn ⟨_, rfl, Or.inr ⟨_, rfl⟩⟩ dX8_longer_28 h
  · unfold l8_longer_9 at h
    refine at_iloadn ok dX8_longer_9 rfl ?_
    refine at_aloadn ok dX8_longer_10 rfl ?_
    refine at_alen (t := 0) (by decide) ok dX8_longer_11 h fun v11 h => ?_
    refine bt_icmp_ge (tgt := 27) ok dX8_longer_12 (by decide) h (fun hc h => ?_) (fun hc h => ?_)
    · exact at_weak (lw_n (lw_s (lw_n lw_0))) (kx () _ (hr_rt.mp h))
    · refine at_aloadn ok dX8_longer_15 rfl ?_
      refine at_iloadn ok dX8_longer_16 rfl ?_
      refine at_aloadn ok dX8_longer_17 rfl ?_
      refine at_iloadn ok dX8_longer_18 rfl ?_
      refine at_iald ok dX8_longer_19 h fun v19 h => ?_
      refine at_iast ok dX8_longer_20 h fun σ h => ?_
      refine at_iinc (v := x9 + 1) ok dX8_longer_21 rfl rfl (lc_ref rfl) (by decide) ?_
      refine at_goto (tgt := 9) ok dX8_longer_24 (by decide) ?_
      exact at_weak (lw_s (lw_s (lw_s lw_0))) (ih (x9 + 1) _ h)
set_option maxRecDepth 100000 in
set_option maxHeartbeats 4000000 in
theorem s8_found (t : Option Nat) (a1 : Int32) (a2 : Int32) (a3 : Int32) (a4 : Int32) (σ : AH) (Q : Unit → AH → Prop) (h : Hr (f8_found t a1 a2 a3 a4) σ Q) : Runs m8_found σ [va_rf t, .int (a1), .int (a2), .int (a3), .int (a4)] (fun v σ1 => ∃ a, v = none ∧ Q a σ1) := by
  obtain ⟨a0, σ1, e, hQ⟩ := h
  have hm := n8_found t a1 a2 a3 a4 σ a0 σ1 e
  have h : Hr (f8_found t a1 a2 a3 a4) σ (fun a σ2 => a = a0 ∧ σ2 = σ1) := ⟨a0, σ1, e, rfl, rfl⟩
  refine ⟨_, σ1, hm, ⟨a0, rfl, hQ⟩, runs_of (by decide +kernel) (by simp [cat_rf, cat_i, cat_l]) (Nat.le_of_ble_eq_true rfl) hm fun X ok fn => ?_⟩
  clear e hQ hm
  unfold f8_found at h
  show AT X m8_found 0 [some (va_rf (t)), some (.int (a1)), some (.int (a2)), some (.int (a3)), some (.int (a4))] [] σ
  refine at_iload ok dX8_found_0 rfl ?_
  refine bt_if_eq (tgt := 100) ok dX8_found_2 (by decide) h (fun hc h => ?_) (fun hc h => ?_)
  · exact at_vret ok fn rfl dX8_found_100 h
  · refine at_aloadn ok dX8_found_5 rfl ?_
    refine at_getI ok gf_8_193 dX8_found_6 h fun v6 h => ?_
    refine at_aloadn ok dX8_found_9 rfl ?_
    refine at_getR ok gf_8_107 dX8_found_10 h fun v10 h => ?_
    refine at_alen (t := 0) (by decide) ok dX8_found_13 h fun v13 h => ?_
    refine at_join (fun y50 σ => AT X m8_found 50 [some (va_rf (t)), some (.int (a1)), some (.int (a2)), some (.int (a3)), none] [] σ) h (fun y50 σ h => ?_) (fun h j50 => ?_)
    · refine at_aloadn ok dX8_found_50 rfl ?_
      refine at_getR ok gf_8_107 dX8_found_51 h fun v51 h => ?_
      refine at_aloadn ok dX8_found_54 rfl ?_
      refine at_getI ok gf_8_193 dX8_found_55 h fun v55 h => ?_
      refine at_aloadn ok dX8_found_58 rfl ?_
      refine at_getR ok gf_8_16 dX8_found_59 h fun v59 h => ?_
      refine at_iloadn ok dX8_found_62 rfl ?_
      refine at_iald ok dX8_found_63 h fun v63 h => ?_
      refine at_iast ok dX8_found_64 h fun σ h => ?_
      refine at_aloadn ok dX8_found_65 rfl ?_
      refine at_getR ok gf_8_110 dX8_found_66 h fun v66 h => ?_
      refine at_aloadn ok dX8_found_69 rfl ?_
      refine at_getI ok gf_8_193 dX8_found_70 h fun v70 h => ?_
      refine at_aloadn ok dX8_found_73 rfl ?_
      refine at_getR ok gf_8_19 dX8_found_74 h fun v74 h => ?_
      refine at_iloadn ok dX8_found_77 rfl ?_
      refine at_iald ok dX8_found_78 h fun v78 h => ?_
      refine at_iast ok dX8_found_79 h fun σ h => ?_
      refine at_aloadn ok dX8_found_80 rfl ?_
      refine at_getR ok gf_8_113 dX8_found_81 h fun v81 h => ?_
      refine at_aloadn ok dX8_found_84 rfl ?_
      refine at_getI ok gf_8_193 dX8_found_85 h fun v85 h => ?_
      refine at_iloadn ok dX8_found_88 rfl ?_
      refine at_iast ok dX8_found_89 h fun σ h => ?_
      refine at_aloadn ok dX8_found_90 rfl ?_
      refine at_dup ok dX8_found_91 (cat_rf _) ?_
      refine at_getI ok gf_8_193 dX8_found_92 h fun v92 h => ?_
      refine at_iconst (v := 1) ok dX8_found_95 (by decide) ?_
      refine at_iadd ok dX8_found_96 ?_
      refine at_putI ok (pf_8_193 _) dX8_found_97 h fun σ h => ?_
      exact at_vret ok fn rfl dX8_found_100 h
    · refine bt_icmp_ne (tgt := 50) ok dX8_found_14 (by decide) h (fun hc h => ?_) (fun hc h => ?_)
      · refine at_aloadn ok dX8_found_17 rfl ?_
        refine at_aloadn ok dX8_found_18 rfl ?_
        refine at_getR ok gf_8_107 dX8_found_19 h fun v19 h => ?_
        refine at_cSr (As := [va_rf (v19)]) ok ct_8_found_196 dX8_found_22 (by simp [cat_rf, cat_i, cat_l]) (s8_longer v19 _) h fun v22 σ h => ?_
        refine at_putR ok (pf_8_107 _) (Or.inr ⟨_, rfl⟩) dX8_found_25 h fun σ h => ?_
        refine at_aloadn ok dX8_found_28 rfl ?_
        refine at_aloadn ok dX8_found_29 rfl ?_
        refine at_getR ok gf_8_110 dX8_found_30 h fun v30 h => ?_
        refine at_cSr (As := [va_rf (v30)]) ok ct_8_found_196 dX8_found_33 (by simp [cat_rf, cat_i, cat_l]) (s8_longer v30 _) h fun v33 σ h => ?_
        refine at_putR ok (pf_8_110 _) (Or.inr ⟨_, rfl⟩) dX8_found_36 h fun σ h => ?_
        refine at_aloadn ok dX8_found_39 rfl ?_
        refine at_aloadn ok dX8_found_40 rfl ?_
        refine at_getR ok gf_8_113 dX8_found_41 h fun v41 h => ?_
        refine at_cSr (As := [va_rf (v41)]) ok ct_8_found_196 dX8_found_44 (by simp [cat_rf, cat_i, cat_l]) (s8_longer v41 _) h fun v44 σ h => ?_
        refine at_putR ok (pf_8_113 _) (Or.inr ⟨_, rfl⟩) dX8_found_47 h fun σ h => ?_
        exact at_weak (lw_s (lw_s (lw_s (lw_s (lw_n lw_0))))) (j50 () _ (hr_rt.mp h))
      · exact at_weak (lw_s (lw_s (lw_s (lw_s (lw_n lw_0))))) (j50 () _ (hr_rt.mp h))
set_option maxRecDepth 100000 in
set_option maxHeartbeats 4000000 in
theorem s8_findParts (t : Option Nat) (a1 : Int32) (a2 : Int32) (σ : AH) (Q : Int32 → AH → Prop) (h : Hr (f8_findParts t a1 a2) σ Q) : Runs m8_findParts σ [va_rf t, .int (a1), .int (a2)] (fun v σ1 => ∃ a, v = some (.int a) ∧ Q a σ1) := by
  obtain ⟨a0, σ1, e, hQ⟩ := h
  have hm := n8_findParts t a1 a2 σ a0 σ1 e
  have h : Hr (f8_findParts t a1 a2) σ (fun a σ2 => a = a0 ∧ σ2 = σ1) := ⟨a0, σ1, e, rfl, rfl⟩
  refine ⟨_, σ1, hm, ⟨a0, rfl, hQ⟩, runs_of (by decide +kernel) (by simp [cat_rf, cat_i, cat_l]) (Nat.le_of_ble_eq_true rfl) hm fun X ok fn => ?_⟩
  clear e hQ hm
  unfold f8_findParts at h
  show AT X m8_findParts 0 [some (va_rf (t)), some (.int (a1)), some (.int (a2)), none, none, none, none, none] [] σ
  refine at_aloadn ok dX8_findParts_0 rfl ?_
  refine at_getR ok gf_8_59 dX8_findParts_1 h fun v1 h => ?_
  refine at_iloadn ok dX8_findParts_4 rfl ?_
  refine at_iald ok dX8_findParts_5 h fun v5 h => ?_
  refine at_istoren ok dX8_findParts_6 rfl (lc_int rfl) (by decide) ?_
  refine at_aloadn ok dX8_findParts_7 rfl ?_
  refine at_getR ok gf_8_62 dX8_findParts_8 h fun v8 h => ?_
  refine at_iloadn ok dX8_findParts_11 rfl ?_
  refine at_iald ok dX8_findParts_12 h fun v12 h => ?_
  refine at_istore ok dX8_findParts_13 (lc_int rfl) (by decide) ?_
  refine at_iconst (v := 0) ok dX8_findParts_15 (by decide) ?_
  refine at_istore ok dX8_findParts_16 (lc_int rfl) (by decide) ?_
  refine at_iconst (v := 0) ok dX8_findParts_18 (by decide) ?_
  refine at_istore ok dX8_findParts_19 (lc_int rfl) (by decide) ?_
  refine at_weak (L' := [some (va_rf (t)), none, some (.int (a2)), some (.int (v5)), some (.int (v12)), some (.int (0)), some (.int (0)), none]) (lw_s (lw_n (lw_s (lw_s (lw_s (lw_s (lw_s (lw_n lw_0)))))))) ?_
  refine at_loop (fun x21 σ => AT X m8_findParts 21 [some (va_rf (t)), none, some (.int (a2)), some (.int (v5)), some (.int (v12)), some (.int (x21.1)), some (.int (x21.2)), none] [] σ) (fun y105 σ => AT X m8_findParts 105 [none, none, none, none, none, some (.int (y105)), none, none] [] σ) h (fun y105 σ h => ?_) (fun kx rec ih x21 σ h => ?_)
  · refine at_iload ok dX8_findParts_105 rfl ?_
    exact at_iret ok fn ⟨_, rfl, rfl⟩ dX8_findParts_107 h
  · unfold l8_findParts_21 at h
    obtain ⟨x21_1, x21_2⟩ := x21
    dsimp only at h ⊢
    refine at_iload ok dX8_findParts_21 rfl ?_
    refine at_iload ok dX8_findParts_23 rfl ?_
    refine at_iadd ok dX8_findParts_25 ?_
    refine at_aloadn ok dX8_findParts_26 rfl ?_
    refine at_getI ok gf_8_160 dX8_findParts_27 h fun v27 h => ?_
    refine bt_icmp_gt (tgt := 105) ok dX8_findParts_30 (by decide) h (fun hc h => ?_) (fun hc h => ?_)
    · exact at_weak (lw_n (lw_n (lw_n (lw_n (lw_n (lw_s (lw_n (lw_n lw_0)))))))) (kx x21_1 _ (hr_rt.mp h))
    · refine at_iconst (v := 0) ok dX8_findParts_33 (by decide) ?_
      refine at_istore ok dX8_findParts_34 (lc_int rfl) (by decide) ?_
      refine at_weak (L' := [some (va_rf (t)), none, some (.int (a2)), some (.int (v5)), some (.int (v12)), some (.int (x21_1)), some (.int (x21_2)), some (.int (0))]) (lw_s (lw_n (lw_s (lw_s (lw_s (lw_s (lw_s (lw_s lw_0)))))))) ?_
      refine at_loop (fun x36 σ => AT X m8_findParts 36 [some (va_rf (t)), none, some (.int (a2)), some (.int (v5)), some (.int (v12)), some (.int (x36.1)), some (.int (x21_2)), some (.int (x36.2))] [] σ) (fun y99 σ => AT X m8_findParts 99 [some (va_rf (t)), none, some (.int (a2)), some (.int (v5)), some (.int (v12)), some (.int (y99)), some (.int (x21_2)), none] [] σ) h (fun y99 σ h => ?_) (fun kx rec ih x36 σ h => ?_)
      · refine at_iinc (v := x21_2 + 1) ok dX8_findParts_99 rfl rfl (lc_int rfl) (by decide) ?_
        refine at_goto (tgt := 21) ok dX8_findParts_102 (by decide) ?_
        exact at_weak (lw_s (lw_n (lw_s (lw_s (lw_s (lw_s (lw_s (lw_n lw_0)))))))) (by have q := ih (y99, (x21_2 + 1)) _ h; dsimp only at q; exact q)
      · unfold l8_findParts_36 at h
        obtain ⟨x36_1, x36_2⟩ := x36
        dsimp only at h ⊢
        refine at_iload ok dX8_findParts_36 rfl ?_
        refine at_iload ok dX8_findParts_38 rfl ?_
        refine at_iadd ok dX8_findParts_40 ?_
        refine at_aloadn ok dX8_findParts_41 rfl ?_
        refine at_getR ok gf_8_43 dX8_findParts_42 h fun v42 h => ?_
        refine at_iloadn ok dX8_findParts_45 rfl ?_
        refine at_iald ok dX8_findParts_46 h fun v46 h => ?_
        refine bt_icmp_gt (tgt := 99) ok dX8_findParts_47 (by decide) h (fun hc h => ?_) (fun hc h => ?_)
        · exact at_weak (lw_s (lw_n (lw_s (lw_s (lw_s (lw_s (lw_s (lw_n lw_0)))))))) (kx x36_1 _ (hr_rt.mp h))
        · refine at_aloadn ok dX8_findParts_50 rfl ?_
          refine at_iloadn ok dX8_findParts_51 rfl ?_
          refine at_iload ok dX8_findParts_52 rfl ?_
          refine at_iload ok dX8_findParts_54 rfl ?_
          refine at_iload ok dX8_findParts_56 rfl ?_
          refine at_cVi (As := [.int (v5), .int (x36_2), .int (v12), .int (x21_2)]) ok ct_8_findParts_189 dX8_findParts_58 (by simp [cat_rf, cat_i, cat_l]) (s8_stands t v5 x36_2 v12 x21_2 _) h fun v58 σ h => ?_
          refine bt_if_eq (tgt := 93) ok dX8_findParts_61 (by decide) h (fun hc h => ?_) (fun hc h => ?_)
          · refine at_iinc (v := x36_2 + 1) ok dX8_findParts_93 rfl rfl (lc_int rfl) (by decide) ?_
            refine at_goto (tgt := 36) ok dX8_findParts_96 (by decide) ?_
            exact at_weak (lw_s (lw_n (lw_s (lw_s (lw_s (lw_s (lw_s (lw_s lw_0)))))))) (by have q := ih (x36_1, (x36_2 + 1)) _ h; dsimp only at q; exact q)
          · refine at_aloadn ok dX8_findParts_64 rfl ?_
            refine at_aloadn ok dX8_findParts_65 rfl ?_
            refine at_getR ok gf_8_22 dX8_findParts_66 h fun v66 h => ?_
            refine at_iload ok dX8_findParts_69 rfl ?_
            refine at_iald ok dX8_findParts_71 h fun v71 h => ?_
            refine at_aloadn ok dX8_findParts_72 rfl ?_
            refine at_getR ok gf_8_25 dX8_findParts_73 h fun v73 h => ?_
            refine at_iload ok dX8_findParts_76 rfl ?_
            refine at_iload ok dX8_findParts_78 rfl ?_
            refine at_iadd ok dX8_findParts_80 ?_
            refine at_iconst (v := 1) ok dX8_findParts_81 (by decide) ?_
            refine at_isub ok dX8_findParts_82 ?_
            refine at_iald ok dX8_findParts_83 h fun v83 h => ?_
            refine at_iload ok dX8_findParts_84 rfl ?_
            refine at_iloadn ok dX8_findParts_86 rfl ?_
            refine at_cVv (As := [.int (v71), .int (v83), .int (x36_2), .int (a2)]) ok ct_8_findParts_203 dX8_findParts_87 (by simp [cat_rf, cat_i, cat_l]) (s8_found t v71 v83 x36_2 a2 _) h fun v87 σ h => ?_
            refine at_iinc (v := x36_1 + 1) ok dX8_findParts_90 rfl rfl (lc_int rfl) (by decide) ?_
            refine at_iinc (v := x36_2 + 1) ok dX8_findParts_93 rfl rfl (lc_int rfl) (by decide) ?_
            refine at_goto (tgt := 36) ok dX8_findParts_96 (by decide) ?_
            exact at_weak (lw_s (lw_n (lw_s (lw_s (lw_s (lw_s (lw_s (lw_s lw_0)))))))) (by have q := ih ((x36_1 + 1), (x36_2 + 1)) _ h; dsimp only at q; exact q)
set_option maxRecDepth 100000 in
set_option maxHeartbeats 4000000 in
theorem s8_noParts (t : Option Nat) (σ : AH) (Q : Unit → AH → Prop) (h : Hr (f8_noParts t) σ Q) : Runs m8_noParts σ [va_rf t] (fun v σ1 => ∃ a, v = none ∧ Q a σ1) := by
  obtain ⟨a0, σ1, e, hQ⟩ := h
  have hm := n8_noParts t σ a0 σ1 e
  have h : Hr (f8_noParts t) σ (fun a σ2 => a = a0 ∧ σ2 = σ1) := ⟨a0, σ1, e, rfl, rfl⟩
  refine ⟨_, σ1, hm, ⟨a0, rfl, hQ⟩, runs_of (by decide +kernel) (by simp [cat_rf, cat_i, cat_l]) (Nat.le_of_ble_eq_true rfl) hm fun X ok fn => ?_⟩
  clear e hQ hm
  unfold f8_noParts at h
  show AT X m8_noParts 0 [some (va_rf (t)), none] [] σ
  refine at_iconst (v := 0) ok dX8_noParts_0 (by decide) ?_
  refine at_istoren ok dX8_noParts_1 rfl (lc_ref rfl) (by decide) ?_
  refine at_weak (L' := [some (va_rf (t)), some (.int (0))]) (lw_s (lw_s lw_0)) ?_
  refine at_loop (fun x2 σ => AT X m8_noParts 2 [some (va_rf (t)), some (.int (x2))] [] σ) (fun y22 σ => AT X m8_noParts 22 [none, none] [] σ) h (fun y22 σ h => ?_) (fun kx rec ih x2 σ h => ?_)
  · exact at_vret ok fn rfl dX8_noParts_22 h
  · unfold l8_noParts_2 at h
    refine at_iloadn ok dX8_noParts_2 rfl ?_
    refine at_sipush (v := 300) ok dX8_noParts_3 (by decide) ?_
    refine bt_icmp_ge (tgt := 22) ok dX8_noParts_6 (by decide) h (fun hc h => ?_) (fun hc h => ?_)
    · exact at_weak (lw_n (lw_n lw_0)) (kx () _ (hr_rt.mp h))
    · refine at_aloadn ok dX8_noParts_9 rfl ?_
      refine at_getR ok gf_8_46 dX8_noParts_10 h fun v10 h => ?_
      refine at_iloadn ok dX8_noParts_13 rfl ?_
      refine at_iconst (v := 0) ok dX8_noParts_14 (by decide) ?_
      refine at_zast ok dX8_noParts_15 h fun σ h => ?_
      refine at_iinc (v := x2 + 1) ok dX8_noParts_16 rfl rfl (lc_ref rfl) (by decide) ?_
      refine at_goto (tgt := 2) ok dX8_noParts_19 (by decide) ?_
      exact at_weak (lw_s (lw_s lw_0)) (ih (x2 + 1) _ h)
set_option maxRecDepth 100000 in
set_option maxHeartbeats 4000000 in
theorem s8_partsHad (t : Option Nat) (a1 : Int32) (σ : AH) (Q : Int32 → AH → Prop) (h : Hr (f8_partsHad t a1) σ Q) : Runs m8_partsHad σ [va_rf t, .int (a1)] (fun v σ1 => ∃ a, v = some (.int a) ∧ Q a σ1) := by
  obtain ⟨a0, σ1, e, hQ⟩ := h
  have hm := n8_partsHad t a1 σ a0 σ1 e
  have h : Hr (f8_partsHad t a1) σ (fun a σ2 => a = a0 ∧ σ2 = σ1) := ⟨a0, σ1, e, rfl, rfl⟩
  refine ⟨_, σ1, hm, ⟨a0, rfl, hQ⟩, runs_of (by decide +kernel) (by simp [cat_rf, cat_i, cat_l]) (Nat.le_of_ble_eq_true rfl) hm fun X ok fn => ?_⟩
  clear e hQ hm
  unfold f8_partsHad at h
  show AT X m8_partsHad 0 [some (va_rf (t)), some (.int (a1)), none, none] [] σ
  refine at_iconst (v := 0) ok dX8_partsHad_0 (by decide) ?_
  refine at_istoren ok dX8_partsHad_1 rfl (lc_int rfl) (by decide) ?_
  refine at_iconst (v := 0) ok dX8_partsHad_2 (by decide) ?_
  refine at_istoren ok dX8_partsHad_3 rfl (lc_int rfl) (by decide) ?_
  refine at_weak (L' := [some (va_rf (t)), some (.int (a1)), some (.int (0)), some (.int (0))]) (lw_s (lw_s (lw_s (lw_s lw_0)))) ?_
  refine at_loop (fun x4 σ => AT X m8_partsHad 4 [some (va_rf (t)), some (.int (a1)), some (.int (x4.1)), some (.int (x4.2))] [] σ) (fun y37 σ => AT X m8_partsHad 37 [none, none, some (.int (y37)), none] [] σ) h (fun y37 σ h => ?_) (fun kx rec ih x4 σ h => ?_)
  · refine at_iloadn ok dX8_partsHad_37 rfl ?_
    exact at_iret ok fn ⟨_, rfl, rfl⟩ dX8_partsHad_38 h
  · unfold l8_partsHad_4 at h
    obtain ⟨x4_1, x4_2⟩ := x4
    dsimp only at h ⊢
    refine at_iloadn ok dX8_partsHad_4 rfl ?_
    refine at_aloadn ok dX8_partsHad_5 rfl ?_
    refine at_getR ok gf_8_43 dX8_partsHad_6 h fun v6 h => ?_
    refine at_iloadn ok dX8_partsHad_9 rfl ?_
    refine at_iald ok dX8_partsHad_10 h fun v10 h => ?_
    refine bt_icmp_ge (tgt := 37) ok dX8_partsHad_11 (by decide) h (fun hc h => ?_) (fun hc h => ?_)
    · exact at_weak (lw_n (lw_n (lw_s (lw_n lw_0)))) (kx x4_1 _ (hr_rt.mp h))
    · refine at_iloadn ok dX8_partsHad_14 rfl ?_
      refine at_aloadn ok dX8_partsHad_15 rfl ?_
      refine at_getR ok gf_8_46 dX8_partsHad_16 h fun v16 h => ?_
      refine at_iloadn ok dX8_partsHad_19 rfl ?_
      refine at_zald ok dX8_partsHad_20 h fun v20 h => ?_
      refine bt_if_eq (tgt := 28) ok dX8_partsHad_21 (by decide) h (fun hc h => ?_) (fun hc h => ?_)
      · refine at_iconst (v := 0) ok dX8_partsHad_28 (by decide) ?_
        refine at_iadd ok dX8_partsHad_29 ?_
        refine at_istoren ok dX8_partsHad_30 rfl (lc_int rfl) (by decide) ?_
        refine at_iinc (v := x4_2 + 1) ok dX8_partsHad_31 rfl rfl (lc_int rfl) (by decide) ?_
        refine at_goto (tgt := 4) ok dX8_partsHad_34 (by decide) ?_
        exact at_weak (lw_s (lw_s (lw_s (lw_s lw_0)))) (by have q := ih ((x4_1 + 0), (x4_2 + 1)) _ h; dsimp only at q; exact q)
      · refine at_iconst (v := 1) ok dX8_partsHad_24 (by decide) ?_
        refine at_goto (tgt := 29) ok dX8_partsHad_25 (by decide) ?_
        refine at_iadd ok dX8_partsHad_29 ?_
        refine at_istoren ok dX8_partsHad_30 rfl (lc_int rfl) (by decide) ?_
        refine at_iinc (v := x4_2 + 1) ok dX8_partsHad_31 rfl rfl (lc_int rfl) (by decide) ?_
        refine at_goto (tgt := 4) ok dX8_partsHad_34 (by decide) ?_
        exact at_weak (lw_s (lw_s (lw_s (lw_s lw_0)))) (by have q := ih ((x4_1 + 1), (x4_2 + 1)) _ h; dsimp only at q; exact q)
set_option maxRecDepth 100000 in
set_option maxHeartbeats 4000000 in
theorem s8_isDigit (a1 : Int32) (σ : AH) (Q : Int32 → AH → Prop) (h : Hr (f8_isDigit a1) σ Q) : Runs m8_isDigit σ [.int (a1)] (fun v σ1 => ∃ a, v = some (.int a) ∧ Q a σ1) := by
  obtain ⟨a0, σ1, e, hQ⟩ := h
  have hm := n8_isDigit a1 σ a0 σ1 e
  have h : Hr (f8_isDigit a1) σ (fun a σ2 => a = a0 ∧ σ2 = σ1) := ⟨a0, σ1, e, rfl, rfl⟩
  refine ⟨_, σ1, hm, ⟨a0, rfl, hQ⟩, runs_of (by decide +kernel) (by simp [cat_rf, cat_i, cat_l]) (Nat.le_of_ble_eq_true rfl) hm fun X ok fn => ?_⟩
  clear e hQ hm
  unfold f8_isDigit at h
  show AT X m8_isDigit 0 [some (.int (a1))] [] σ
  refine at_iloadn ok dX8_isDigit_0 rfl ?_
  refine at_bipush (v := 48) ok dX8_isDigit_1 (by decide) ?_
  refine bt_icmp_lt (tgt := 16) ok dX8_isDigit_3 (by decide) h (fun hc h => ?_) (fun hc h => ?_)
  · refine at_iconst (v := 0) ok dX8_isDigit_16 (by decide) ?_
    exact at_iret ok fn ⟨_, rfl, rfl⟩ dX8_isDigit_17 h
  · refine at_iloadn ok dX8_isDigit_6 rfl ?_
    refine at_bipush (v := 57) ok dX8_isDigit_7 (by decide) ?_
    refine bt_icmp_gt (tgt := 16) ok dX8_isDigit_9 (by decide) h (fun hc h => ?_) (fun hc h => ?_)
    · refine at_iconst (v := 0) ok dX8_isDigit_16 (by decide) ?_
      exact at_iret ok fn ⟨_, rfl, rfl⟩ dX8_isDigit_17 h
    · refine at_iconst (v := 1) ok dX8_isDigit_12 (by decide) ?_
      refine at_goto (tgt := 17) ok dX8_isDigit_13 (by decide) ?_
      exact at_iret ok fn ⟨_, rfl, rfl⟩ dX8_isDigit_17 h
set_option maxRecDepth 100000 in
set_option maxHeartbeats 4000000 in
theorem s8_isSign (a1 : Int32) (σ : AH) (Q : Int32 → AH → Prop) (h : Hr (f8_isSign a1) σ Q) : Runs m8_isSign σ [.int (a1)] (fun v σ1 => ∃ a, v = some (.int a) ∧ Q a σ1) := by
  obtain ⟨a0, σ1, e, hQ⟩ := h
  have hm := n8_isSign a1 σ a0 σ1 e
  have h : Hr (f8_isSign a1) σ (fun a σ2 => a = a0 ∧ σ2 = σ1) := ⟨a0, σ1, e, rfl, rfl⟩
  refine ⟨_, σ1, hm, ⟨a0, rfl, hQ⟩, runs_of (by decide +kernel) (by simp [cat_rf, cat_i, cat_l]) (Nat.le_of_ble_eq_true rfl) hm fun X ok fn => ?_⟩
  clear e hQ hm
  unfold f8_isSign at h
  show AT X m8_isSign 0 [some (.int (a1)), none] [] σ
  refine at_iloadn ok dX8_isSign_0 rfl ?_
  refine at_cSi (As := [.int (a1)]) ok ct_8_isSign_150 dX8_isSign_1 (by simp [cat_rf, cat_i, cat_l]) (s8_small a1 _) h fun v1 σ h => ?_
  refine at_istoren ok dX8_isSign_4 rfl (lc_int rfl) (by decide) ?_
  refine at_iloadn ok dX8_isSign_5 rfl ?_
  refine at_bipush (v := 97) ok dX8_isSign_6 (by decide) ?_
  refine at_joinS (fun y17 σ => AT X m8_isSign 17 [some (.int (a1)), none] [] σ) h (fun y17 σ h => ?_) (fun h j17 => ?_)
  · refine at_iloadn ok dX8_isSign_17 rfl ?_
    refine at_cSi (As := [.int (a1)]) ok ct_8_isSign_153 dX8_isSign_18 (by simp [cat_rf, cat_i, cat_l]) (s8_isDigit a1 _) h fun v18 σ h => ?_
    refine bt_if_eq (tgt := 28) ok dX8_isSign_21 (by decide) h (fun hc h => ?_) (fun hc h => ?_)
    · refine at_iconst (v := 0) ok dX8_isSign_28 (by decide) ?_
      exact at_iret ok fn ⟨_, rfl, rfl⟩ dX8_isSign_29 h
    · refine at_iconst (v := 1) ok dX8_isSign_24 (by decide) ?_
      refine at_goto (tgt := 29) ok dX8_isSign_25 (by decide) ?_
      exact at_iret ok fn ⟨_, rfl, rfl⟩ dX8_isSign_29 h
  · refine bt_icmp_lt (tgt := 17) ok dX8_isSign_8 (by decide) h (fun hc h => ?_) (fun hc h => ?_)
    · exact at_weak (lw_s (lw_n lw_0)) (by have z := hr_inr h; exact j17 () _ z)
    · refine at_iloadn ok dX8_isSign_11 rfl ?_
      refine at_bipush (v := 122) ok dX8_isSign_12 (by decide) ?_
      refine bt_icmp_le (tgt := 24) ok dX8_isSign_14 (by decide) h (fun hc h => ?_) (fun hc h => ?_)
      · refine at_iconst (v := 1) ok dX8_isSign_24 (by decide) ?_
        refine at_goto (tgt := 29) ok dX8_isSign_25 (by decide) ?_
        exact at_iret ok fn ⟨_, rfl, rfl⟩ dX8_isSign_29 (hr_inl h)
      · exact at_weak (lw_s (lw_n lw_0)) (by have z := hr_inr h; exact j17 () _ z)
set_option maxRecDepth 100000 in
set_option maxHeartbeats 4000000 in
theorem s8_hex (a1 : Int32) (σ : AH) (Q : Int32 → AH → Prop) (h : Hr (f8_hex a1) σ Q) : Runs m8_hex σ [.int (a1)] (fun v σ1 => ∃ a, v = some (.int a) ∧ Q a σ1) := by
  obtain ⟨a0, σ1, e, hQ⟩ := h
  have hm := n8_hex a1 σ a0 σ1 e
  have h : Hr (f8_hex a1) σ (fun a σ2 => a = a0 ∧ σ2 = σ1) := ⟨a0, σ1, e, rfl, rfl⟩
  refine ⟨_, σ1, hm, ⟨a0, rfl, hQ⟩, runs_of (by decide +kernel) (by simp [cat_rf, cat_i, cat_l]) (Nat.le_of_ble_eq_true rfl) hm fun X ok fn => ?_⟩
  clear e hQ hm
  unfold f8_hex at h
  show AT X m8_hex 0 [some (.int (a1))] [] σ
  refine at_iloadn ok dX8_hex_0 rfl ?_
  refine at_bipush (v := 48) ok dX8_hex_1 (by decide) ?_
  refine at_joinS (fun y17 σ => AT X m8_hex 17 [some (.int (a1))] [] σ) h (fun y17 σ h => ?_) (fun h j17 => ?_)
  · refine at_iloadn ok dX8_hex_17 rfl ?_
    refine at_bipush (v := 97) ok dX8_hex_18 (by decide) ?_
    refine at_joinS (fun y37 σ => AT X m8_hex 37 [some (.int (a1))] [] σ) h (fun y37 σ h => ?_) (fun h j37 => ?_)
    · refine at_iloadn ok dX8_hex_37 rfl ?_
      refine at_bipush (v := 65) ok dX8_hex_38 (by decide) ?_
      refine bt_icmp_lt (tgt := 59) ok dX8_hex_40 (by decide) h (fun hc h => ?_) (fun hc h => ?_)
      · refine at_iconst (v := (-1)) ok dX8_hex_59 (by decide) ?_
        exact at_iret ok fn ⟨_, rfl, rfl⟩ dX8_hex_60 h
      · refine at_iloadn ok dX8_hex_43 rfl ?_
        refine at_bipush (v := 70) ok dX8_hex_44 (by decide) ?_
        refine bt_icmp_gt (tgt := 59) ok dX8_hex_46 (by decide) h (fun hc h => ?_) (fun hc h => ?_)
        · refine at_iconst (v := (-1)) ok dX8_hex_59 (by decide) ?_
          exact at_iret ok fn ⟨_, rfl, rfl⟩ dX8_hex_60 h
        · refine at_iloadn ok dX8_hex_49 rfl ?_
          refine at_bipush (v := 65) ok dX8_hex_50 (by decide) ?_
          refine at_isub ok dX8_hex_52 ?_
          refine at_bipush (v := 10) ok dX8_hex_53 (by decide) ?_
          refine at_iadd ok dX8_hex_55 ?_
          refine at_goto (tgt := 60) ok dX8_hex_56 (by decide) ?_
          exact at_iret ok fn ⟨_, rfl, rfl⟩ dX8_hex_60 h
    · refine bt_icmp_lt (tgt := 37) ok dX8_hex_20 (by decide) h (fun hc h => ?_) (fun hc h => ?_)
      · exact at_weak (lw_s lw_0) (by have z := hr_inr h; exact j37 () _ z)
      · refine at_iloadn ok dX8_hex_23 rfl ?_
        refine at_bipush (v := 102) ok dX8_hex_24 (by decide) ?_
        refine bt_icmp_gt (tgt := 37) ok dX8_hex_26 (by decide) h (fun hc h => ?_) (fun hc h => ?_)
        · exact at_weak (lw_s lw_0) (by have z := hr_inr h; exact j37 () _ z)
        · refine at_iloadn ok dX8_hex_29 rfl ?_
          refine at_bipush (v := 97) ok dX8_hex_30 (by decide) ?_
          refine at_isub ok dX8_hex_32 ?_
          refine at_bipush (v := 10) ok dX8_hex_33 (by decide) ?_
          refine at_iadd ok dX8_hex_35 ?_
          exact at_iret ok fn ⟨_, rfl, rfl⟩ dX8_hex_36 (hr_inl h)
  · refine bt_icmp_lt (tgt := 17) ok dX8_hex_3 (by decide) h (fun hc h => ?_) (fun hc h => ?_)
    · exact at_weak (lw_s lw_0) (by have z := hr_inr h; exact j17 () _ z)
    · refine at_iloadn ok dX8_hex_6 rfl ?_
      refine at_bipush (v := 57) ok dX8_hex_7 (by decide) ?_
      refine bt_icmp_gt (tgt := 17) ok dX8_hex_9 (by decide) h (fun hc h => ?_) (fun hc h => ?_)
      · exact at_weak (lw_s lw_0) (by have z := hr_inr h; exact j17 () _ z)
      · refine at_iloadn ok dX8_hex_12 rfl ?_
        refine at_bipush (v := 48) ok dX8_hex_13 (by decide) ?_
        refine at_isub ok dX8_hex_15 ?_
        exact at_iret ok fn ⟨_, rfl, rfl⟩ dX8_hex_16 (hr_inl h)
set_option maxRecDepth 100000 in
set_option maxHeartbeats 4000000 in
theorem s8_pass (t : Option Nat) (σ : AH) (Q : Unit → AH → Prop) (h : Hr (f8_pass t) σ Q) : Runs m8_pass σ [va_rf t] (fun v σ1 => ∃ a, v = none ∧ Q a σ1) := by
  obtain ⟨a0, σ1, e, hQ⟩ := h
  have hm := n8_pass t σ a0 σ1 e
  have h : Hr (f8_pass t) σ (fun a σ2 => a = a0 ∧ σ2 = σ1) := ⟨a0, σ1, e, rfl, rfl⟩
  refine ⟨_, σ1, hm, ⟨a0, rfl, hQ⟩, runs_of (by decide +kernel) (by simp [cat_rf, cat_i, cat_l]) (Nat.le_of_ble_eq_true rfl) hm fun X ok fn => ?_⟩
  clear e hQ hm
  unfold f8_pass at h
  show AT X m8_pass 0 [some (va_rf (t)), none, none, none, none, none, none] [] σ
  refine at_iconst (v := 0) ok dX8_pass_0 (by decide) ?_
  refine at_istoren ok dX8_pass_1 rfl (lc_ref rfl) (by decide) ?_
  refine at_iconst (v := 0) ok dX8_pass_2 (by decide) ?_
  refine at_istoren ok dX8_pass_3 rfl (lc_int rfl) (by decide) ?_
  refine at_weak (L' := [some (va_rf (t)), some (.int (0)), some (.int (0)), none, none, none, none]) (lw_s (lw_s (lw_s (lw_n (lw_n (lw_n (lw_n lw_0))))))) ?_
  refine at_loop (fun x4 σ => AT X m8_pass 4 [some (va_rf (t)), some (.int (x4.1)), some (.int (x4.2)), none, none, none, none] [] σ) (fun y183 σ => AT X m8_pass 183 [some (va_rf (t)), some (.int (y183)), none, none, none, none, none] [] σ) h (fun y183 σ h => ?_) (fun kx rec ih x4 σ h => ?_)
  · refine at_aloadn ok dX8_pass_183 rfl ?_
    refine at_iloadn ok dX8_pass_184 rfl ?_
    refine at_putI ok (pf_8_143 _) dX8_pass_185 h fun σ h => ?_
    exact at_vret ok fn rfl dX8_pass_188 h
  · unfold l8_pass_4 at h
    obtain ⟨x4_1, x4_2⟩ := x4
    dsimp only at h ⊢
    refine at_iloadn ok dX8_pass_4 rfl ?_
    refine at_aloadn ok dX8_pass_5 rfl ?_
    refine at_getI ok gf_8_143 dX8_pass_6 h fun v6 h => ?_
    refine bt_icmp_ge (tgt := 183) ok dX8_pass_9 (by decide) h (fun hc h => ?_) (fun hc h => ?_)
    · exact at_weak (lw_s (lw_s (lw_n (lw_n (lw_n (lw_n (lw_n lw_0))))))) (kx x4_1 _ (hr_rt.mp h))
    · refine at_aloadn ok dX8_pass_12 rfl ?_
      refine at_getR ok gf_8_13 dX8_pass_13 h fun v13 h => ?_
      refine at_iloadn ok dX8_pass_16 rfl ?_
      refine at_iald ok dX8_pass_17 h fun v17 h => ?_
      refine at_bipush (v := 37) ok dX8_pass_18 (by decide) ?_
      refine at_join (fun y68 σ => AT X m8_pass 68 [some (va_rf (t)), some (.int (x4_1)), some (.int (x4_2)), none, none, none, none] [.int (y68)] σ) h (fun y68 σ h => ?_) (fun h j68 => ?_)
      · refine at_istoren ok dX8_pass_68 rfl (lc_int rfl) (by decide) ?_
        refine at_iloadn ok dX8_pass_69 rfl ?_
        refine at_join (fun y108 σ => AT X m8_pass 108 [some (va_rf (t)), some (.int (x4_1)), some (.int (x4_2)), some (.int (y68)), none, none, none] [.int (y108)] σ) h (fun y108 σ h => ?_) (fun h j108 => ?_)
        · refine at_istore ok dX8_pass_108 (lc_int rfl) (by decide) ?_
          refine at_aloadn ok dX8_pass_110 rfl ?_
          refine at_getR ok gf_8_16 dX8_pass_111 h fun v111 h => ?_
          refine at_iloadn ok dX8_pass_114 rfl ?_
          refine at_iald ok dX8_pass_115 h fun v115 h => ?_
          refine at_istore ok dX8_pass_116 (lc_int rfl) (by decide) ?_
          refine at_iloadn ok dX8_pass_118 rfl ?_
          refine at_join (fun y139 σ => AT X m8_pass 139 [some (va_rf (t)), some (.int (x4_1)), some (.int (x4_2)), some (.int (y68)), some (.int (y108)), some (.int (v115)), none] [.int (y139)] σ) h (fun y139 σ h => ?_) (fun h j139 => ?_)
          · refine at_istore ok dX8_pass_139 (lc_int rfl) (by decide) ?_
            refine at_aloadn ok dX8_pass_141 rfl ?_
            refine at_getR ok gf_8_13 dX8_pass_142 h fun v142 h => ?_
            refine at_iloadn ok dX8_pass_145 rfl ?_
            refine at_iload ok dX8_pass_146 rfl ?_
            refine at_iast ok dX8_pass_148 h fun σ h => ?_
            refine at_aloadn ok dX8_pass_149 rfl ?_
            refine at_getR ok gf_8_16 dX8_pass_150 h fun v150 h => ?_
            refine at_iloadn ok dX8_pass_153 rfl ?_
            refine at_iload ok dX8_pass_154 rfl ?_
            refine at_iast ok dX8_pass_156 h fun σ h => ?_
            refine at_aloadn ok dX8_pass_157 rfl ?_
            refine at_getR ok gf_8_19 dX8_pass_158 h fun v158 h => ?_
            refine at_iloadn ok dX8_pass_161 rfl ?_
            refine at_iload ok dX8_pass_162 rfl ?_
            refine at_iast ok dX8_pass_164 h fun σ h => ?_
            refine at_iinc (v := x4_1 + 1) ok dX8_pass_165 rfl rfl (lc_ref rfl) (by decide) ?_
            refine at_iloadn ok dX8_pass_168 rfl ?_
            refine at_iloadn ok dX8_pass_169 rfl ?_
            refine bt_if_eq (tgt := 177) ok dX8_pass_170 (by decide) h (fun hc h => ?_) (fun hc h => ?_)
            · refine at_iconst (v := 1) ok dX8_pass_177 (by decide) ?_
              refine at_iadd ok dX8_pass_178 ?_
              refine at_istoren ok dX8_pass_179 rfl (lc_int rfl) (by decide) ?_
              refine at_goto (tgt := 4) ok dX8_pass_180 (by decide) ?_
              exact at_weak (lw_s (lw_s (lw_s (lw_n (lw_n (lw_n (lw_n lw_0))))))) (by have q := ih ((x4_1 + 1), (x4_2 + 1)) _ h; dsimp only at q; exact q)
            · refine at_iconst (v := 3) ok dX8_pass_173 (by decide) ?_
              refine at_goto (tgt := 178) ok dX8_pass_174 (by decide) ?_
              refine at_iadd ok dX8_pass_178 ?_
              refine at_istoren ok dX8_pass_179 rfl (lc_int rfl) (by decide) ?_
              refine at_goto (tgt := 4) ok dX8_pass_180 (by decide) ?_
              exact at_weak (lw_s (lw_s (lw_s (lw_n (lw_n (lw_n (lw_n lw_0))))))) (by have q := ih ((x4_1 + 1), (x4_2 + 3)) _ h; dsimp only at q; exact q)
          · refine bt_if_eq (tgt := 133) ok dX8_pass_119 (by decide) h (fun hc h => ?_) (fun hc h => ?_)
            · refine at_aloadn ok dX8_pass_133 rfl ?_
              refine at_getR ok gf_8_19 dX8_pass_134 h fun v134 h => ?_
              refine at_iloadn ok dX8_pass_137 rfl ?_
              refine at_iald ok dX8_pass_138 h fun v138 h => ?_
              exact at_weak (lw_s (lw_s (lw_s (lw_s (lw_s (lw_s (lw_n lw_0))))))) (j139 v138 _ (hr_rt.mp h))
            · refine at_aloadn ok dX8_pass_122 rfl ?_
              refine at_getR ok gf_8_19 dX8_pass_123 h fun v123 h => ?_
              refine at_iloadn ok dX8_pass_126 rfl ?_
              refine at_iconst (v := 2) ok dX8_pass_127 (by decide) ?_
              refine at_iadd ok dX8_pass_128 ?_
              refine at_iald ok dX8_pass_129 h fun v129 h => ?_
              refine at_goto (tgt := 139) ok dX8_pass_130 (by decide) ?_
              exact at_weak (lw_s (lw_s (lw_s (lw_s (lw_s (lw_s (lw_n lw_0))))))) (j139 v129 _ (hr_rt.mp h))
        · refine bt_if_eq (tgt := 102) ok dX8_pass_70 (by decide) h (fun hc h => ?_) (fun hc h => ?_)
          · refine at_aloadn ok dX8_pass_102 rfl ?_
            refine at_getR ok gf_8_13 dX8_pass_103 h fun v103 h => ?_
            refine at_iloadn ok dX8_pass_106 rfl ?_
            refine at_iald ok dX8_pass_107 h fun v107 h => ?_
            exact at_weak (lw_s (lw_s (lw_s (lw_s (lw_n (lw_n (lw_n lw_0))))))) (j108 v107 _ (hr_rt.mp h))
          · refine at_bipush (v := 16) ok dX8_pass_73 (by decide) ?_
            refine at_aloadn ok dX8_pass_75 rfl ?_
            refine at_getR ok gf_8_13 dX8_pass_76 h fun v76 h => ?_
            refine at_iloadn ok dX8_pass_79 rfl ?_
            refine at_iconst (v := 1) ok dX8_pass_80 (by decide) ?_
            refine at_iadd ok dX8_pass_81 ?_
            refine at_iald ok dX8_pass_82 h fun v82 h => ?_
            refine at_cSi (As := [.int (v82)]) ok ct_8_pass_146 dX8_pass_83 (by simp [cat_rf, cat_i, cat_l]) (s8_hex v82 _) h fun v83 σ h => ?_
            refine at_imul ok dX8_pass_86 ?_
            refine at_aloadn ok dX8_pass_87 rfl ?_
            refine at_getR ok gf_8_13 dX8_pass_88 h fun v88 h => ?_
            refine at_iloadn ok dX8_pass_91 rfl ?_
            refine at_iconst (v := 2) ok dX8_pass_92 (by decide) ?_
            refine at_iadd ok dX8_pass_93 ?_
            refine at_iald ok dX8_pass_94 h fun v94 h => ?_
            refine at_cSi (As := [.int (v94)]) ok ct_8_pass_146 dX8_pass_95 (by simp [cat_rf, cat_i, cat_l]) (s8_hex v94 _) h fun v95 σ h => ?_
            refine at_iadd ok dX8_pass_98 ?_
            refine at_goto (tgt := 108) ok dX8_pass_99 (by decide) ?_
            exact at_weak (lw_s (lw_s (lw_s (lw_s (lw_n (lw_n (lw_n lw_0))))))) (j108 ((16 * v83) + v95) _ (hr_rt.mp h))
      · refine bt_icmp_ne (tgt := 67) ok dX8_pass_20 (by decide) h (fun hc h => ?_) (fun hc h => ?_)
        · refine at_iloadn ok dX8_pass_23 rfl ?_
          refine at_iconst (v := 2) ok dX8_pass_24 (by decide) ?_
          refine at_iadd ok dX8_pass_25 ?_
          refine at_aloadn ok dX8_pass_26 rfl ?_
          refine at_getI ok gf_8_143 dX8_pass_27 h fun v27 h => ?_
          refine bt_icmp_ge (tgt := 67) ok dX8_pass_30 (by decide) h (fun hc h => ?_) (fun hc h => ?_)
          · refine at_iconst (v := 0) ok dX8_pass_67 (by decide) ?_
            exact at_weak (lw_s (lw_s (lw_s (lw_n (lw_n (lw_n (lw_n lw_0))))))) (j68 0 _ (hr_rt.mp h))
          · refine at_aloadn ok dX8_pass_33 rfl ?_
            refine at_getR ok gf_8_13 dX8_pass_34 h fun v34 h => ?_
            refine at_iloadn ok dX8_pass_37 rfl ?_
            refine at_iconst (v := 1) ok dX8_pass_38 (by decide) ?_
            refine at_iadd ok dX8_pass_39 ?_
            refine at_iald ok dX8_pass_40 h fun v40 h => ?_
            refine at_cSi (As := [.int (v40)]) ok ct_8_pass_146 dX8_pass_41 (by simp [cat_rf, cat_i, cat_l]) (s8_hex v40 _) h fun v41 σ h => ?_
            refine at_iconst (v := (-1)) ok dX8_pass_44 (by decide) ?_
            refine bt_icmp_eq (tgt := 67) ok dX8_pass_45 (by decide) h (fun hc h => ?_) (fun hc h => ?_)
            · refine at_iconst (v := 0) ok dX8_pass_67 (by decide) ?_
              exact at_weak (lw_s (lw_s (lw_s (lw_n (lw_n (lw_n (lw_n lw_0))))))) (j68 0 _ (hr_rt.mp h))
            · refine at_aloadn ok dX8_pass_48 rfl ?_
              refine at_getR ok gf_8_13 dX8_pass_49 h fun v49 h => ?_
              refine at_iloadn ok dX8_pass_52 rfl ?_
              refine at_iconst (v := 2) ok dX8_pass_53 (by decide) ?_
              refine at_iadd ok dX8_pass_54 ?_
              refine at_iald ok dX8_pass_55 h fun v55 h => ?_
              refine at_cSi (As := [.int (v55)]) ok ct_8_pass_146 dX8_pass_56 (by simp [cat_rf, cat_i, cat_l]) (s8_hex v55 _) h fun v56 σ h => ?_
              refine at_iconst (v := (-1)) ok dX8_pass_59 (by decide) ?_
              refine bt_icmp_eq (tgt := 67) ok dX8_pass_60 (by decide) h (fun hc h => ?_) (fun hc h => ?_)
              · refine at_iconst (v := 0) ok dX8_pass_67 (by decide) ?_
                exact at_weak (lw_s (lw_s (lw_s (lw_n (lw_n (lw_n (lw_n lw_0))))))) (j68 0 _ (hr_rt.mp h))
              · refine at_iconst (v := 1) ok dX8_pass_63 (by decide) ?_
                refine at_goto (tgt := 68) ok dX8_pass_64 (by decide) ?_
                exact at_weak (lw_s (lw_s (lw_s (lw_n (lw_n (lw_n (lw_n lw_0))))))) (j68 1 _ (hr_rt.mp h))
        · refine at_iconst (v := 0) ok dX8_pass_67 (by decide) ?_
          exact at_weak (lw_s (lw_s (lw_s (lw_n (lw_n (lw_n (lw_n lw_0))))))) (j68 0 _ (hr_rt.mp h))
set_option maxRecDepth 100000 in
set_option maxHeartbeats 4000000 in
theorem s8_isDigitAt (t : Option Nat) (a1 : Int32) (σ : AH) (Q : Int32 → AH → Prop) (h : Hr (f8_isDigitAt t a1) σ Q) : Runs m8_isDigitAt σ [va_rf t, .int (a1)] (fun v σ1 => ∃ a, v = some (.int a) ∧ Q a σ1) := by
  obtain ⟨a0, σ1, e, hQ⟩ := h
  have hm := n8_isDigitAt t a1 σ a0 σ1 e
  have h : Hr (f8_isDigitAt t a1) σ (fun a σ2 => a = a0 ∧ σ2 = σ1) := ⟨a0, σ1, e, rfl, rfl⟩
  refine ⟨_, σ1, hm, ⟨a0, rfl, hQ⟩, runs_of (by decide +kernel) (by simp [cat_rf, cat_i, cat_l]) (Nat.le_of_ble_eq_true rfl) hm fun X ok fn => ?_⟩
  clear e hQ hm
  unfold f8_isDigitAt at h
  show AT X m8_isDigitAt 0 [some (va_rf (t)), some (.int (a1))] [] σ
  refine at_iloadn ok dX8_isDigitAt_0 rfl ?_
  refine at_aloadn ok dX8_isDigitAt_1 rfl ?_
  refine at_getI ok gf_8_143 dX8_isDigitAt_2 h fun v2 h => ?_
  refine bt_icmp_ge (tgt := 24) ok dX8_isDigitAt_5 (by decide) h (fun hc h => ?_) (fun hc h => ?_)
  · refine at_iconst (v := 0) ok dX8_isDigitAt_24 (by decide) ?_
    exact at_iret ok fn ⟨_, rfl, rfl⟩ dX8_isDigitAt_25 h
  · refine at_aloadn ok dX8_isDigitAt_8 rfl ?_
    refine at_getR ok gf_8_13 dX8_isDigitAt_9 h fun v9 h => ?_
    refine at_iloadn ok dX8_isDigitAt_12 rfl ?_
    refine at_iald ok dX8_isDigitAt_13 h fun v13 h => ?_
    refine at_cSi (As := [.int (v13)]) ok ct_8_isDigitAt_153 dX8_isDigitAt_14 (by simp [cat_rf, cat_i, cat_l]) (s8_isDigit v13 _) h fun v14 σ h => ?_
    refine bt_if_eq (tgt := 24) ok dX8_isDigitAt_17 (by decide) h (fun hc h => ?_) (fun hc h => ?_)
    · refine at_iconst (v := 0) ok dX8_isDigitAt_24 (by decide) ?_
      exact at_iret ok fn ⟨_, rfl, rfl⟩ dX8_isDigitAt_25 h
    · refine at_iconst (v := 1) ok dX8_isDigitAt_20 (by decide) ?_
      refine at_goto (tgt := 25) ok dX8_isDigitAt_21 (by decide) ?_
      exact at_iret ok fn ⟨_, rfl, rfl⟩ dX8_isDigitAt_25 h
set_option maxRecDepth 100000 in
set_option maxHeartbeats 4000000 in
theorem s8_isNumber (t : Option Nat) (a1 : Int32) (a2 : Int32) (σ : AH) (Q : Int32 → AH → Prop) (h : Hr (f8_isNumber t a1 a2) σ Q) : Runs m8_isNumber σ [va_rf t, .int (a1), .int (a2)] (fun v σ1 => ∃ a, v = some (.int a) ∧ Q a σ1) := by
  obtain ⟨a0, σ1, e, hQ⟩ := h
  have hm := n8_isNumber t a1 a2 σ a0 σ1 e
  have h : Hr (f8_isNumber t a1 a2) σ (fun a σ2 => a = a0 ∧ σ2 = σ1) := ⟨a0, σ1, e, rfl, rfl⟩
  refine ⟨_, σ1, hm, ⟨a0, rfl, hQ⟩, runs_of (by decide +kernel) (by simp [cat_rf, cat_i, cat_l]) (Nat.le_of_ble_eq_true rfl) hm fun X ok fn => ?_⟩
  clear e hQ hm
  unfold f8_isNumber at h
  show AT X m8_isNumber 0 [some (va_rf (t)), some (.int (a1)), some (.int (a2)), none, none, none, none] [] σ
  refine at_iconst (v := 0) ok dX8_isNumber_0 (by decide) ?_
  refine at_istoren ok dX8_isNumber_1 rfl (lc_int rfl) (by decide) ?_
  refine at_iconst (v := 0) ok dX8_isNumber_2 (by decide) ?_
  refine at_istore ok dX8_isNumber_3 (lc_int rfl) (by decide) ?_
  refine at_iloadn ok dX8_isNumber_5 rfl ?_
  refine at_istore ok dX8_isNumber_6 (lc_int rfl) (by decide) ?_
  refine at_weak (L' := [some (va_rf (t)), some (.int (a1)), none, some (.int (0)), some (.int (0)), some (.int (a2)), none]) (lw_s (lw_s (lw_n (lw_s (lw_s (lw_s (lw_n lw_0))))))) ?_
  refine at_loop (fun x8 σ => AT X m8_isNumber 8 [some (va_rf (t)), some (.int (a1)), none, some (.int (x8.1)), some (.int (x8.2.1)), some (.int (x8.2.2)), none] [] σ) (fun y87 σ => AT X m8_isNumber 87 [none, none, none, some (.int (y87.1)), some (.int (y87.2)), none, none] [] σ) h (fun y87 σ h => ?_) (fun kx rec ih x8 σ h => ?_)
  · obtain ⟨y87_1, y87_2⟩ := y87
    dsimp only at h ⊢
    refine at_iloadn ok dX8_isNumber_87 rfl ?_
    refine at_bipush (v := 8) ok dX8_isNumber_88 (by decide) ?_
    refine bt_icmp_lt (tgt := 111) ok dX8_isNumber_90 (by decide) h (fun hc h => ?_) (fun hc h => ?_)
    · refine at_iconst (v := 0) ok dX8_isNumber_111 (by decide) ?_
      exact at_iret ok fn ⟨_, rfl, rfl⟩ dX8_isNumber_112 h
    · refine at_iloadn ok dX8_isNumber_93 rfl ?_
      refine at_bipush (v := 16) ok dX8_isNumber_94 (by decide) ?_
      refine bt_icmp_gt (tgt := 111) ok dX8_isNumber_96 (by decide) h (fun hc h => ?_) (fun hc h => ?_)
      · refine at_iconst (v := 0) ok dX8_isNumber_111 (by decide) ?_
        exact at_iret ok fn ⟨_, rfl, rfl⟩ dX8_isNumber_112 h
      · refine at_iload ok dX8_isNumber_99 rfl ?_
        refine at_bipush (v := 10) ok dX8_isNumber_101 (by decide) ?_
        refine at_irem ok dX8_isNumber_103 (by decide) ?_
        refine bt_if_ne (tgt := 111) ok dX8_isNumber_104 (by decide) h (fun hc h => ?_) (fun hc h => ?_)
        · refine at_iconst (v := 1) ok dX8_isNumber_107 (by decide) ?_
          refine at_goto (tgt := 112) ok dX8_isNumber_108 (by decide) ?_
          exact at_iret ok fn ⟨_, rfl, rfl⟩ dX8_isNumber_112 h
        · refine at_iconst (v := 0) ok dX8_isNumber_111 (by decide) ?_
          exact at_iret ok fn ⟨_, rfl, rfl⟩ dX8_isNumber_112 h
  · unfold l8_isNumber_8 at h
    obtain ⟨x8_1, x8_2, x8_3⟩ := x8
    dsimp only at h ⊢
    refine at_iload ok dX8_isNumber_8 rfl ?_
    refine at_iloadn ok dX8_isNumber_10 rfl ?_
    refine bt_icmp_lt (tgt := 87) ok dX8_isNumber_11 (by decide) h (fun hc h => ?_) (fun hc h => ?_)
    · exact at_weak (lw_n (lw_n (lw_n (lw_s (lw_s (lw_n (lw_n lw_0))))))) (by have q := kx (x8_1, x8_2) _ (hr_rt.mp h); dsimp only at q; exact q)
    · refine at_aloadn ok dX8_isNumber_14 rfl ?_
      refine at_getR ok gf_8_13 dX8_isNumber_15 h fun v15 h => ?_
      refine at_iload ok dX8_isNumber_18 rfl ?_
      refine at_iald ok dX8_isNumber_20 h fun v20 h => ?_
      refine at_cSi (As := [.int (v20)]) ok ct_8_isNumber_153 dX8_isNumber_21 (by simp [cat_rf, cat_i, cat_l]) (s8_isDigit v20 _) h fun v21 σ h => ?_
      refine bt_if_eq (tgt := 81) ok dX8_isNumber_24 (by decide) h (fun hc h => ?_) (fun hc h => ?_)
      · refine at_iinc (v := x8_3 + (-1)) ok dX8_isNumber_81 rfl rfl (lc_int rfl) (by decide) ?_
        refine at_goto (tgt := 8) ok dX8_isNumber_84 (by decide) ?_
        exact at_weak (lw_s (lw_s (lw_n (lw_s (lw_s (lw_s (lw_n lw_0))))))) (by have q := ih (x8_1, x8_2, (x8_3 + (-1))) _ h; dsimp only at q; exact q)
      · refine at_aloadn ok dX8_isNumber_27 rfl ?_
        refine at_getR ok gf_8_13 dX8_isNumber_28 h fun v28 h => ?_
        refine at_iload ok dX8_isNumber_31 rfl ?_
        refine at_iald ok dX8_isNumber_33 h fun v33 h => ?_
        refine at_bipush (v := 48) ok dX8_isNumber_34 (by decide) ?_
        refine at_isub ok dX8_isNumber_36 ?_
        refine at_istore ok dX8_isNumber_37 (lc_int rfl) (by decide) ?_
        refine at_iloadn ok dX8_isNumber_39 rfl ?_
        refine at_iconst (v := 2) ok dX8_isNumber_40 (by decide) ?_
        refine at_irem ok dX8_isNumber_41 (by decide) ?_
        refine at_iconst (v := 1) ok dX8_isNumber_42 (by decide) ?_
        refine bt_icmp_ne (tgt := 71) ok dX8_isNumber_43 (by decide) h (fun hc h => ?_) (fun hc h => ?_)
        · refine at_iconst (v := 2) ok dX8_isNumber_46 (by decide) ?_
          refine at_iload ok dX8_isNumber_47 rfl ?_
          refine at_imul ok dX8_isNumber_49 ?_
          refine at_bipush (v := 9) ok dX8_isNumber_50 (by decide) ?_
          refine bt_icmp_le (tgt := 65) ok dX8_isNumber_52 (by decide) h (fun hc h => ?_) (fun hc h => ?_)
          · refine at_iconst (v := 2) ok dX8_isNumber_65 (by decide) ?_
            refine at_iload ok dX8_isNumber_66 rfl ?_
            refine at_imul ok dX8_isNumber_68 ?_
            refine at_istore ok dX8_isNumber_69 (lc_int rfl) (by decide) ?_
            refine at_iload ok dX8_isNumber_71 rfl ?_
            refine at_iload ok dX8_isNumber_73 rfl ?_
            refine at_iadd ok dX8_isNumber_75 ?_
            refine at_istore ok dX8_isNumber_76 (lc_int rfl) (by decide) ?_
            refine at_iinc (v := x8_1 + 1) ok dX8_isNumber_78 rfl rfl (lc_non rfl) (by decide) ?_
            refine at_iinc (v := x8_3 + (-1)) ok dX8_isNumber_81 rfl rfl (lc_int rfl) (by decide) ?_
            refine at_goto (tgt := 8) ok dX8_isNumber_84 (by decide) ?_
            exact at_weak (lw_s (lw_s (lw_n (lw_s (lw_s (lw_s (lw_n lw_0))))))) (by have q := ih ((x8_1 + 1), (x8_2 + (2 * (v33 - 48))), (x8_3 + (-1))) _ h; dsimp only at q; exact q)
          · refine at_iconst (v := 2) ok dX8_isNumber_55 (by decide) ?_
            refine at_iload ok dX8_isNumber_56 rfl ?_
            refine at_imul ok dX8_isNumber_58 ?_
            refine at_bipush (v := 9) ok dX8_isNumber_59 (by decide) ?_
            refine at_isub ok dX8_isNumber_61 ?_
            refine at_goto (tgt := 69) ok dX8_isNumber_62 (by decide) ?_
            refine at_istore ok dX8_isNumber_69 (lc_int rfl) (by decide) ?_
            refine at_iload ok dX8_isNumber_71 rfl ?_
            refine at_iload ok dX8_isNumber_73 rfl ?_
            refine at_iadd ok dX8_isNumber_75 ?_
            refine at_istore ok dX8_isNumber_76 (lc_int rfl) (by decide) ?_
            refine at_iinc (v := x8_1 + 1) ok dX8_isNumber_78 rfl rfl (lc_non rfl) (by decide) ?_
            refine at_iinc (v := x8_3 + (-1)) ok dX8_isNumber_81 rfl rfl (lc_int rfl) (by decide) ?_
            refine at_goto (tgt := 8) ok dX8_isNumber_84 (by decide) ?_
            exact at_weak (lw_s (lw_s (lw_n (lw_s (lw_s (lw_s (lw_n lw_0))))))) (by have q := ih ((x8_1 + 1), (x8_2 + ((2 * (v33 - 48)) - 9)), (x8_3 + (-1))) _ h; dsimp only at q; exact q)
        · refine at_iload ok dX8_isNumber_71 rfl ?_
          refine at_iload ok dX8_isNumber_73 rfl ?_
          refine at_iadd ok dX8_isNumber_75 ?_
          refine at_istore ok dX8_isNumber_76 (lc_int rfl) (by decide) ?_
          refine at_iinc (v := x8_1 + 1) ok dX8_isNumber_78 rfl rfl (lc_non rfl) (by decide) ?_
          refine at_iinc (v := x8_3 + (-1)) ok dX8_isNumber_81 rfl rfl (lc_int rfl) (by decide) ?_
          refine at_goto (tgt := 8) ok dX8_isNumber_84 (by decide) ?_
          exact at_weak (lw_s (lw_s (lw_n (lw_s (lw_s (lw_s (lw_n lw_0))))))) (by have q := ih ((x8_1 + 1), (x8_2 + (v33 - 48)), (x8_3 + (-1))) _ h; dsimp only at q; exact q)
