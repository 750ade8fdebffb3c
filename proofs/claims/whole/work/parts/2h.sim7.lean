set_option maxRecDepth 100000 in
set_option maxHeartbeats 4000000 in
theorem s8_findParts (t : Option Nat) (a1 : Int32) (a2 : Int32) (σ : AH) (Q : Int32 → AH → Prop) (h : Hr (f8_findParts t a1 a2) σ Q) : Runs m8_findParts σ [va_rf t, .int (a1), .int (a2)] (fun v σ1 => ∃ a, v = some (.int a) ∧ Q a σ1) := by
  obtain ⟨a0, σ1, e, hQ⟩ := h
  have hm := n8_findParts t a1 a2 σ a0 σ1 e
  have h : Hr (f8_findParts t a1 a2) σ (fun a σ2 => a = a0 ∧ σ2 = σ1) := ⟨a0, σ1, e, rfl, rfl⟩
  refine ⟨_, σ1, hm, ⟨a0, rfl, hQ⟩, runs_of (by decide +kernel) (by simp [cat_rf, cat_i, cat_l]) (Nat.le_of_ble_eq_true rfl) hm fun X ok fn => ?_⟩
  clear e hQ hm
  unfold f8_findParts at h
  show AT X m8_findParts 0 [some (va_rf (t)), some (.int (a1)), some (.int (a2)), none, none, none, none, none] [] σ
  refine at_aloadn ok dX8_findParts_0 rfl ?_
  refine at_getR ok gf_8_59 dX8_findParts_1 h fun v1 h => ?_
  refine at_iloadn ok dX8_findParts_4 rfl ?_
  refine at_iald ok dX8_findParts_5 h fun v5 h => ?_
  refine at_istoren ok dX8_findParts_6 rfl (lc_int rfl) (by decide) ?_
  refine at_aloadn ok dX8_findParts_7 rfl ?_
  refine at_getR ok gf_8_62 dX8_findParts_8 h fun v8 h => ?_
  refine at_iloadn ok dX8_findParts_11 rfl ?_
  refine at_iald ok dX8_findParts_12 h fun v12 h => ?_
  refine at_istore ok dX8_findParts_13 (lc_int rfl) (by decide) ?_
  refine at_iconst (v := 0) ok dX8_findParts_15 (by decide) ?_
  refine at_istore ok dX8_findParts_16 (lc_int rfl) (by decide) ?_
  refine at_iconst (v := 0) ok dX8_findParts_18 (by decide) ?_
  refine at_istore ok dX8_findParts_19 (lc_int rfl) (by decide) ?_
  refine at_weak (L' := [some (va_rf (t)), none, some (.int (a2)), some (.int (v5)), some (.int (v12)), some (.int (0)), some (.int (0)), none]) (lw_s (lw_n (lw_s (lw_s (lw_s (lw_s (lw_s (lw_n lw_0)))))))) ?_
  refine at_loop (fun x21 σ => AT X m8_findParts 21 [some (va_rf (t)), none, some (.int (a2)), some (.int (v5)), some (.int (v12)), some (.int (x21.1)), some (.int (x21.2)), none] [] σ) (fun y105 σ => AT X m8_findParts 105 [none, none, none, none, none, some (.int (y105)), none, none] [] σ) h (fun y105 σ h => ?_) (fun kx rec ih x21 σ h => ?_)
  · refine at_iload ok dX8_findParts_105 rfl ?_
    exact at_iret ok fn ⟨_, rfl, rfl⟩ dX8_findParts_107 h
  · unfold l8_findParts_21 at h
    obtain ⟨x21_1, x21_2⟩ := x21
    dsimp only at h ⊢
    refine at_iload ok dX8_findParts_21 rfl ?_
    refine at_iload ok dX8_findParts_23 rfl ?_
    refine at_iadd ok dX8_findParts_25 ?_
    refine at_aloadn ok dX8_findParts_26 rfl ?_
    refine at_getI ok gf_8_160 dX8_findParts_27 h fun v27 h => ?_
    refine bt_icmp_gt (tgt := 105) ok dX8_findParts_30 (by decide) h (fun hc h => ?_) (fun hc h => ?_)
    · exact at_weak (lw_n (lw_n (lw_n (lw_n (lw_n (lw_s (lw_n (lw_n lw_0)))))))) (kx x21_1 _ (hr_rt.mp h))
    · refine at_iconst (v := 0) ok dX8_findParts_33 (by decide) ?_
      refine at_istore ok dX8_findParts_34 (lc_int rfl) (by decide) ?_
      refine at_weak (L' := [some (va_rf (t)), none, some (.int (a2)), some (.int (v5)), some (.int (v12)), some (.int (x21_1)), some (.int (x21_2)), some (.int (0))]) (lw_s (lw_n (lw_s (lw_s (lw_s (lw_s (lw_s (lw_s lw_0)))))))) ?_
      refine at_loop (fun x36 σ => AT X m8_findParts 36 [some (va_rf (t)), none, some (.int (a2)), some (.int (v5)), some (.int (v12)), some (.int (x36.1)), some (.int (x21_2)), some (.int (x36.2))] [] σ) (fun y99 σ => AT X m8_findParts 99 [some (va_rf (t)), none, some (.int (a2)), some (.int (v5)), some (.int (v12)), some (.int (y99)), some (.int (x21_2)), none] [] σ) h (fun y99 σ h => ?_) (fun kx rec ih x36 σ h => ?_)
      · refine at_iinc (v := x21_2 + 1) ok dX8_findParts_99 rfl rfl (lc_int rfl) (by decide) ?_
        refine at_goto (tgt := 21) ok dX8_findParts_102 (by decide) ?_
        exact at_weak (lw_s (lw_n (lw_s (lw_s (lw_s (lw_s (lw_s (lw_n lw_0)))))))) (by have q := ih (y99, (x21_2 + 1)) _ h; dsimp only at q; exact q)
      · unfold l8_findParts_36 at h
        obtain ⟨x36_1, x36_2⟩ := x36
        dsimp only at h ⊢
        refine at_iload ok dX8_findParts_36 rfl ?_
        refine at_iload ok dX8_findParts_38 rfl ?_
        refine at_iadd ok dX8_findParts_40 ?_
        refine at_aloadn ok dX8_findParts_41 rfl ?_
        refine at_getR ok gf_8_43 dX8_findParts_42 h fun v42 h => ?_
        refine at_iloadn ok dX8_findParts_45 rfl ?_
        refine at_iald ok dX8_findParts_46 h fun v46 h => ?_
        refine bt_icmp_gt (tgt := 99) ok dX8_findParts_47 (by decide) h (fun hc h => ?_) (fun hc h => ?_)
        · exact at_weak (lw_s (lw_n (lw_s (lw_s (lw_s (lw_s (lw_s (lw_n lw_0)))))))) (kx x36_1 _ (hr_rt.mp h))
        · refine at_aloadn ok dX8_findParts_50 rfl ?_
          refine at_iloadn ok dX8_findParts_51 rfl ?_
          refine at_iload ok dX8_findParts_52 rfl ?_
          refine at_iload ok dX8_findParts_54 rfl ?_
          refine at_iload ok dX8_findParts_56 rfl ?_
          refine at_cVi (As := [.int (v5), .int (x36_2), .int (v12), .int (x21_2)]) ok ct_8_findParts_189 dX8_findParts_58 (by simp [cat_rf, cat_i, cat_l]) (s8_stands t v5 x36_2 v12 x21_2 _) h fun v58 σ h => ?_
          refine bt_if_eq (tgt := 93) ok dX8_findParts_61 (by decide) h (fun hc h => ?_) (fun hc h => ?_)
          · refine at_iinc (v := x36_2 + 1) ok dX8_findParts_93 rfl rfl (lc_int rfl) (by decide) ?_
            refine at_goto (tgt := 36) ok dX8_findParts_96 (by decide) ?_
            exact at_weak (lw_s (lw_n (lw_s (lw_s (lw_s (lw_s (lw_s (lw_s lw_0)))))))) (by have q := ih (x36_1, (x36_2 + 1)) _ h; dsimp only at q; exact q)
          · refine at_aloadn ok dX8_findParts_64 rfl ?_
            refine at_aloadn ok dX8_findParts_65 rfl ?_
            refine at_getR ok gf_8_22 dX8_findParts_66 h fun v66 h => ?_
            refine at_iload ok dX8_findParts_69 rfl ?_
            refine at_iald ok dX8_findParts_71 h fun v71 h => ?_
            refine at_aloadn ok dX8_findParts_72 rfl ?_
            refine at_getR ok gf_8_25 dX8_findParts_73 h fun v73 h => ?_
            refine at_iload ok dX8_findParts_76 rfl ?_
            refine at_iload ok dX8_findParts_78 rfl ?_
            refine at_iadd ok dX8_findParts_80 ?_
            refine at_iconst (v := 1) ok dX8_findParts_81 (by decide) ?_
            refine at_isub ok dX8_findParts_82 ?_
            refine at_iald ok dX8_findParts_83 h fun v83 h => ?_
            refine at_iload ok dX8_findParts_84 rfl ?_
            refine at_iloadn ok dX8_findParts_86 rfl ?_
            refine at_cVv (As := [.int (v71), .int (v83), .int (x36_2), .int (a2)]) ok ct_8_findParts_203 dX8_findParts_87 (by simp [cat_rf, cat_i, cat_l]) (s8_found t v71 v83 x36_2 a2 _) h fun v87 σ h => ?_
            refine at_iinc (v := x36_1 + 1) ok dX8_findParts_90 rfl rfl (lc_int rfl) (by decide) ?_
            refine at_iinc (v := x36_2 + 1) ok dX8_findParts_93 rfl rfl (lc_int rfl) (by decide) ?_
            refine at_goto (tgt := 36) ok dX8_findParts_96 (by decide) ?_
            exact at_weak (lw_s (lw_n (lw_s (lw_s (lw_s (lw_s (lw_s (lw_s lw_0)))))))) (by have q := ih ((x36_1 + 1), (x36_2 + 1)) _ h; dsimp only at q; exact q)
set_option maxRecDepth 100000 in
set_option maxHeartbeats 4000000 in
theorem s8_readLetter (t : Option Nat) (a1 : Int32) (σ : AH) (Q : Unit → AH → Prop) (h : Hr (f8_readLetter t a1) σ Q) : Runs m8_readLetter σ [va_rf t, .int (a1)] (fun v σ1 => ∃ a, v = none ∧ Q a σ1) := by
  obtain ⟨a0, σ1, e, hQ⟩ := h
  have hm := n8_readLetter t a1 σ a0 σ1 e
  have h : Hr (f8_readLetter t a1) σ (fun a σ2 => a = a0 ∧ σ2 = σ1) := ⟨a0, σ1, e, rfl, rfl⟩
  refine ⟨_, σ1, hm, ⟨a0, rfl, hQ⟩, runs_of (by decide +kernel) (by simp [cat_rf, cat_i, cat_l]) (Nat.le_of_ble_eq_true rfl) hm fun X ok fn => ?_⟩
  clear e hQ hm
  unfold f8_readLetter at h
  show AT X m8_readLetter 0 [some (va_rf (t)), some (.int (a1))] [] σ
  refine at_aloadn ok dX8_readLetter_0 rfl ?_
  refine at_aloadn ok dX8_readLetter_1 rfl ?_
  refine at_getR ok gf_8_74 dX8_readLetter_2 h fun v2 h => ?_
  refine at_sipush (v := 300) ok dX8_readLetter_5 (by decide) ?_
  refine at_iloadn ok dX8_readLetter_8 rfl ?_
  refine at_imul ok dX8_readLetter_9 ?_
  refine at_aloadn ok dX8_readLetter_10 rfl ?_
  refine at_getR ok gf_8_77 dX8_readLetter_11 h fun v11 h => ?_
  refine at_iloadn ok dX8_readLetter_14 rfl ?_
  refine at_iald ok dX8_readLetter_15 h fun v15 h => ?_
  refine at_cVv (As := [va_rf (v2), .int ((300 * a1)), .int (v15)]) ok ct_8_readLetter_179 dX8_readLetter_16 (by simp [cat_rf, cat_i, cat_l]) (s8_read t v2 (300 * a1) v15 _) h fun v16 σ h => ?_
  exact at_vret ok fn rfl dX8_readLetter_19 h
set_option maxRecDepth 100000 in
set_option maxHeartbeats 4000000 in
theorem s8_isEnough (t : Option Nat) (a1 : Int32) (a2 : Int32) (σ : AH) (Q : Int32 → AH → Prop) (h : Hr (f8_isEnough t a1 a2) σ Q) : Runs m8_isEnough σ [va_rf t, .int (a1), .int (a2)] (fun v σ1 => ∃ a, v = some (.int a) ∧ Q a σ1) := by
  obtain ⟨a0, σ1, e, hQ⟩ := h
  have hm := n8_isEnough t a1 a2 σ a0 σ1 e
  have h : Hr (f8_isEnough t a1 a2) σ (fun a σ2 => a = a0 ∧ σ2 = σ1) := ⟨a0, σ1, e, rfl, rfl⟩
  refine ⟨_, σ1, hm, ⟨a0, rfl, hQ⟩, runs_of (by decide +kernel) (by simp [cat_rf, cat_i, cat_l]) (Nat.le_of_ble_eq_true rfl) hm fun X ok fn => ?_⟩
  clear e hQ hm
  unfold f8_isEnough at h
  show AT X m8_isEnough 0 [some (va_rf (t)), some (.int (a1)), some (.int (a2)), none] [] σ
  refine at_aloadn ok dX8_isEnough_0 rfl ?_
  refine at_cVv (As := []) ok ct_8_isEnough_214 dX8_isEnough_1 (by simp [cat_rf, cat_i, cat_l]) (s8_noParts t  _) h fun v1 σ h => ?_
  refine at_iconst (v := 0) ok dX8_isEnough_4 (by decide) ?_
  refine at_istoren ok dX8_isEnough_5 rfl (lc_int rfl) (by decide) ?_
  refine at_weak (L' := [some (va_rf (t)), some (.int (a1)), some (.int (a2)), some (.int (0))]) (lw_s (lw_s (lw_s (lw_s lw_0)))) ?_
  refine at_loop (fun x6 σ => AT X m8_isEnough 6 [some (va_rf (t)), some (.int (a1)), some (.int (a2)), some (.int (x6))] [] σ) (fun y75 σ => AT X m8_isEnough 75 [some (va_rf (t)), some (.int (a1)), some (.int (a2)), none] [] σ) h (fun y75 σ h => ?_) (fun kx rec ih x6 σ h => ?_)
  · refine at_aloadn ok dX8_isEnough_75 rfl ?_
    refine at_iloadn ok dX8_isEnough_76 rfl ?_
    refine at_cVv (As := [.int (a2)]) ok ct_8_isEnough_217 dX8_isEnough_77 (by simp [cat_rf, cat_i, cat_l]) (s8_readLetter t a2 _) h fun v77 σ h => ?_
    refine at_aloadn ok dX8_isEnough_80 rfl ?_
    refine at_aloadn ok dX8_isEnough_81 rfl ?_
    refine at_getR ok gf_8_59 dX8_isEnough_82 h fun v82 h => ?_
    refine at_iloadn ok dX8_isEnough_85 rfl ?_
    refine at_iald ok dX8_isEnough_86 h fun v86 h => ?_
    refine at_cVi (As := [.int (v86)]) ok ct_8_isEnough_225 dX8_isEnough_87 (by simp [cat_rf, cat_i, cat_l]) (s8_partsHad t v86 _) h fun v87 σ h => ?_
    refine at_aloadn ok dX8_isEnough_90 rfl ?_
    refine at_getR ok gf_8_65 dX8_isEnough_91 h fun v91 h => ?_
    refine at_iloadn ok dX8_isEnough_94 rfl ?_
    refine at_iald ok dX8_isEnough_95 h fun v95 h => ?_
    refine bt_icmp_lt (tgt := 103) ok dX8_isEnough_96 (by decide) h (fun hc h => ?_) (fun hc h => ?_)
    · refine at_iconst (v := 0) ok dX8_isEnough_103 (by decide) ?_
      exact at_iret ok fn ⟨_, rfl, rfl⟩ dX8_isEnough_104 h
    · refine at_iconst (v := 1) ok dX8_isEnough_99 (by decide) ?_
      refine at_goto (tgt := 104) ok dX8_isEnough_100 (by decide) ?_
      exact at_iret ok fn ⟨_, rfl, rfl⟩ dX8_isEnough_104 h
  · unfold l8_isEnough_6 at h
    refine at_iloadn ok dX8_isEnough_6 rfl ?_
    refine at_iloadn ok dX8_isEnough_7 rfl ?_
    refine bt_icmp_gt (tgt := 75) ok dX8_isEnough_8 (by decide) h (fun hc h => ?_) (fun hc h => ?_)
    · exact at_weak (lw_s (lw_s (lw_s (lw_n lw_0)))) (kx () _ (hr_rt.mp h))
    · refine at_aloadn ok dX8_isEnough_11 rfl ?_
      refine at_getR ok gf_8_80 dX8_isEnough_12 h fun v12 h => ?_
      refine at_iloadn ok dX8_isEnough_15 rfl ?_
      refine at_iald ok dX8_isEnough_16 h fun v16 h => ?_
      refine at_aloadn ok dX8_isEnough_17 rfl ?_
      refine at_getR ok gf_8_80 dX8_isEnough_18 h fun v18 h => ?_
      refine at_iloadn ok dX8_isEnough_21 rfl ?_
      refine at_iald ok dX8_isEnough_22 h fun v22 h => ?_
      refine bt_icmp_ne (tgt := 69) ok dX8_isEnough_23 (by decide) h (fun hc h => ?_) (fun hc h => ?_)
      · refine at_aloadn ok dX8_isEnough_26 rfl ?_
        refine at_getR ok gf_8_89 dX8_isEnough_27 h fun v27 h => ?_
        refine at_iloadn ok dX8_isEnough_30 rfl ?_
        refine at_iald ok dX8_isEnough_31 h fun v31 h => ?_
        refine at_aloadn ok dX8_isEnough_32 rfl ?_
        refine at_getR ok gf_8_89 dX8_isEnough_33 h fun v33 h => ?_
        refine at_iloadn ok dX8_isEnough_36 rfl ?_
        refine at_iald ok dX8_isEnough_37 h fun v37 h => ?_
        refine at_isub ok dX8_isEnough_38 ?_
        refine at_aloadn ok dX8_isEnough_39 rfl ?_
        refine at_getR ok gf_8_68 dX8_isEnough_40 h fun v40 h => ?_
        refine at_iloadn ok dX8_isEnough_43 rfl ?_
        refine at_iald ok dX8_isEnough_44 h fun v44 h => ?_
        refine bt_icmp_gt (tgt := 69) ok dX8_isEnough_45 (by decide) h (fun hc h => ?_) (fun hc h => ?_)
        · refine at_iinc (v := x6 + 1) ok dX8_isEnough_69 rfl rfl (lc_int rfl) (by decide) ?_
          refine at_goto (tgt := 6) ok dX8_isEnough_72 (by decide) ?_
          exact at_weak (lw_s (lw_s (lw_s (lw_s lw_0)))) (ih (x6 + 1) _ h)
        · refine at_aloadn ok dX8_isEnough_48 rfl ?_
          refine at_iloadn ok dX8_isEnough_49 rfl ?_
          refine at_cVv (As := [.int (x6)]) ok ct_8_isEnough_217 dX8_isEnough_50 (by simp [cat_rf, cat_i, cat_l]) (s8_readLetter t x6 _) h fun v50 σ h => ?_
          refine at_aloadn ok dX8_isEnough_53 rfl ?_
          refine at_aloadn ok dX8_isEnough_54 rfl ?_
          refine at_getR ok gf_8_59 dX8_isEnough_55 h fun v55 h => ?_
          refine at_iloadn ok dX8_isEnough_58 rfl ?_
          refine at_iald ok dX8_isEnough_59 h fun v59 h => ?_
          refine at_aloadn ok dX8_isEnough_60 rfl ?_
          refine at_getR ok gf_8_62 dX8_isEnough_61 h fun v61 h => ?_
          refine at_iloadn ok dX8_isEnough_64 rfl ?_
          refine at_iald ok dX8_isEnough_65 h fun v65 h => ?_
          refine at_cVv (As := [.int (v59), .int (v65)]) ok ct_8_isEnough_221 dX8_isEnough_66 (by simp [cat_rf, cat_i, cat_l]) (s8_addParts t v59 v65 _) h fun v66 σ h => ?_
          refine at_iinc (v := x6 + 1) ok dX8_isEnough_69 rfl rfl (lc_int rfl) (by decide) ?_
          refine at_goto (tgt := 6) ok dX8_isEnough_72 (by decide) ?_
          exact at_weak (lw_s (lw_s (lw_s (lw_s lw_0)))) (ih (x6 + 1) _ h)
      · refine at_iinc (v := x6 + 1) ok dX8_isEnough_69 rfl rfl (lc_int rfl) (by decide) ?_
        refine at_goto (tgt := 6) ok dX8_isEnough_72 (by decide) ?_
        exact at_weak (lw_s (lw_s (lw_s (lw_s lw_0)))) (ih (x6 + 1) _ h)
set_option maxRecDepth 100000 in
set_option maxHeartbeats 4000000 in
theorem s8_isMark (t : Option Nat) (a1 : Int32) (a2 : Int32) (σ : AH) (Q : Int32 → AH → Prop) (h : Hr (f8_isMark t a1 a2) σ Q) : Runs m8_isMark σ [va_rf t, .int (a1), .int (a2)] (fun v σ1 => ∃ a, v = some (.int a) ∧ Q a σ1) := by
  obtain ⟨a0, σ1, e, hQ⟩ := h
  have hm := n8_isMark t a1 a2 σ a0 σ1 e
  have h : Hr (f8_isMark t a1 a2) σ (fun a σ2 => a = a0 ∧ σ2 = σ1) := ⟨a0, σ1, e, rfl, rfl⟩
  refine ⟨_, σ1, hm, ⟨a0, rfl, hQ⟩, runs_of (by decide +kernel) (by simp [cat_rf, cat_i, cat_l]) (Nat.le_of_ble_eq_true rfl) hm fun X ok fn => ?_⟩
  clear e hQ hm
  unfold f8_isMark at h
  show AT X m8_isMark 0 [some (va_rf (t)), some (.int (a1)), some (.int (a2)), none] [] σ
  refine at_aloadn ok dX8_isMark_0 rfl ?_
  refine at_getR ok gf_8_25 dX8_isMark_1 h fun v1 h => ?_
  refine at_iloadn ok dX8_isMark_4 rfl ?_
  refine at_iald ok dX8_isMark_5 h fun v5 h => ?_
  refine at_aloadn ok dX8_isMark_6 rfl ?_
  refine at_getR ok gf_8_22 dX8_isMark_7 h fun v7 h => ?_
  refine at_iloadn ok dX8_isMark_10 rfl ?_
  refine at_iald ok dX8_isMark_11 h fun v11 h => ?_
  refine at_isub ok dX8_isMark_12 ?_
  refine at_iconst (v := 1) ok dX8_isMark_13 (by decide) ?_
  refine at_iadd ok dX8_isMark_14 ?_
  refine at_aloadn ok dX8_isMark_15 rfl ?_
  refine at_getR ok gf_8_56 dX8_isMark_16 h fun v16 h => ?_
  refine at_iloadn ok dX8_isMark_19 rfl ?_
  refine at_iald ok dX8_isMark_20 h fun v20 h => ?_
  refine bt_icmp_eq (tgt := 26) ok dX8_isMark_21 (by decide) h (fun hc h => ?_) (fun hc h => ?_)
  · refine at_iconst (v := 0) ok dX8_isMark_26 (by decide) ?_
    refine at_istoren ok dX8_isMark_27 rfl (lc_int rfl) (by decide) ?_
    refine at_weak (L' := [some (va_rf (t)), some (.int (a1)), some (.int (a2)), some (.int (0))]) (lw_s (lw_s (lw_s (lw_s lw_0)))) ?_
    refine at_loopS (fun x28 σ => AT X m8_isMark 28 [some (va_rf (t)), some (.int (a1)), some (.int (a2)), some (.int (x28))] [] σ) (fun y77 σ => AT X m8_isMark 77 [none, none, none, none] [] σ) h (fun y77 σ h => ?_) (fun kx rec ih x28 σ h => ?_)
    · refine at_iconst (v := 1) ok dX8_isMark_77 (by decide) ?_
      exact at_iret ok fn ⟨_, rfl, rfl⟩ dX8_isMark_78 h
    · unfold l8_isMark_28 at h
      refine at_iloadn ok dX8_isMark_28 rfl ?_
      refine at_aloadn ok dX8_isMark_29 rfl ?_
      refine at_getR ok gf_8_56 dX8_isMark_30 h fun v30 h => ?_
      refine at_iloadn ok dX8_isMark_33 rfl ?_
      refine at_iald ok dX8_isMark_34 h fun v34 h => ?_
      refine bt_icmp_ge (tgt := 77) ok dX8_isMark_35 (by decide) h (fun hc h => ?_) (fun hc h => ?_)
      · exact at_weak (lw_n (lw_n (lw_n (lw_n lw_0)))) (by have z := hr_inr h; exact kx () _ z)
      · refine at_aloadn ok dX8_isMark_38 rfl ?_
        refine at_getR ok gf_8_53 dX8_isMark_39 h fun v39 h => ?_
        refine at_sipush (v := 300) ok dX8_isMark_42 (by decide) ?_
        refine at_iloadn ok dX8_isMark_45 rfl ?_
        refine at_imul ok dX8_isMark_46 ?_
        refine at_iloadn ok dX8_isMark_47 rfl ?_
        refine at_iadd ok dX8_isMark_48 ?_
        refine at_iald ok dX8_isMark_49 h fun v49 h => ?_
        refine at_aloadn ok dX8_isMark_50 rfl ?_
        refine at_getR ok gf_8_13 dX8_isMark_51 h fun v51 h => ?_
        refine at_aloadn ok dX8_isMark_54 rfl ?_
        refine at_getR ok gf_8_22 dX8_isMark_55 h fun v55 h => ?_
        refine at_iloadn ok dX8_isMark_58 rfl ?_
        refine at_iald ok dX8_isMark_59 h fun v59 h => ?_
        refine at_iloadn ok dX8_isMark_60 rfl ?_
        refine at_iadd ok dX8_isMark_61 ?_
        refine at_iald ok dX8_isMark_62 h fun v62 h => ?_
        refine at_cSi (As := [.int (v62)]) ok ct_8_isMark_150 dX8_isMark_63 (by simp [cat_rf, cat_i, cat_l]) (s8_small v62 _) h fun v63 σ h => ?_
        refine bt_icmp_eq (tgt := 71) ok dX8_isMark_66 (by decide) h (fun hc h => ?_) (fun hc h => ?_)
        · refine at_iinc (v := x28 + 1) ok dX8_isMark_71 rfl rfl (lc_int rfl) (by decide) ?_
          refine at_goto (tgt := 28) ok dX8_isMark_74 (by decide) ?_
          exact at_weak (lw_s (lw_s (lw_s (lw_s lw_0)))) (ih (x28 + 1) _ h)
        · refine at_iconst (v := 0) ok dX8_isMark_69 (by decide) ?_
          exact at_iret ok fn ⟨_, rfl, rfl⟩ dX8_isMark_70 (hr_inl h)
  · refine at_iconst (v := 0) ok dX8_isMark_24 (by decide) ?_
    exact at_iret ok fn ⟨_, rfl, rfl⟩ dX8_isMark_25 h
set_option maxRecDepth 100000 in
set_option maxHeartbeats 4000000 in
theorem s8_find (t : Option Nat) (a1 : Int32) (a2 : Int32) (a3 : Int32) (σ : AH) (Q : Int32 → AH → Prop) (h : Hr (f8_find t a1 a2 a3) σ Q) : Runs m8_find σ [va_rf t, .int (a1), .int (a2), .int (a3)] (fun v σ1 => ∃ a, v = some (.int a) ∧ Q a σ1) := by
  obtain ⟨a0, σ1, e, hQ⟩ := h
  have hm := n8_find t a1 a2 a3 σ a0 σ1 e
  have h : Hr (f8_find t a1 a2 a3) σ (fun a σ2 => a = a0 ∧ σ2 = σ1) := ⟨a0, σ1, e, rfl, rfl⟩
  refine ⟨_, σ1, hm, ⟨a0, rfl, hQ⟩, runs_of (by decide +kernel) (by simp [cat_rf, cat_i, cat_l]) (Nat.le_of_ble_eq_true rfl) hm fun X ok fn => ?_⟩
  clear e hQ hm
  unfold f8_find at h
  show AT X m8_find 0 [some (va_rf (t)), some (.int (a1)), some (.int (a2)), some (.int (a3)), none, none] [] σ
  refine at_aloadn ok dX8_find_0 rfl ?_
  refine at_getR ok gf_8_50 dX8_find_1 h fun v1 h => ?_
  refine at_iloadn ok dX8_find_4 rfl ?_
  refine at_iald ok dX8_find_5 h fun v5 h => ?_
  refine at_iconst (v := 1) ok dX8_find_6 (by decide) ?_
  refine bt_icmp_ne (tgt := 67) ok dX8_find_7 (by decide) h (fun hc h => ?_) (fun hc h => ?_)
  · refine at_iconst (v := 0) ok dX8_find_10 (by decide) ?_
    refine at_istore ok dX8_find_11 (lc_int rfl) (by decide) ?_
    refine at_iconst (v := 0) ok dX8_find_13 (by decide) ?_
    refine at_istore ok dX8_find_14 (lc_int rfl) (by decide) ?_
    refine at_weak (L' := [some (va_rf (t)), some (.int (a1)), none, some (.int (a3)), some (.int (0)), some (.int (0))]) (lw_s (lw_s (lw_n (lw_s (lw_s (lw_s lw_0)))))) ?_
    refine at_loop (fun x16 σ => AT X m8_find 16 [some (va_rf (t)), some (.int (a1)), none, some (.int (a3)), some (.int (x16.1)), some (.int (x16.2))] [] σ) (fun y64 σ => AT X m8_find 64 [none, none, none, none, some (.int (y64)), none] [] σ) h (fun y64 σ h => ?_) (fun kx rec ih x16 σ h => ?_)
    · refine at_iload ok dX8_find_64 rfl ?_
      exact at_iret ok fn ⟨_, rfl, rfl⟩ dX8_find_66 h
    · unfold l8_find_16 at h
      obtain ⟨x16_1, x16_2⟩ := x16
      dsimp only at h ⊢
      refine at_iload ok dX8_find_16 rfl ?_
      refine at_aloadn ok dX8_find_18 rfl ?_
      refine at_getI ok gf_8_160 dX8_find_19 h fun v19 h => ?_
      refine bt_icmp_ge (tgt := 64) ok dX8_find_22 (by decide) h (fun hc h => ?_) (fun hc h => ?_)
      · exact at_weak (lw_n (lw_n (lw_n (lw_n (lw_s (lw_n lw_0)))))) (kx x16_1 _ (hr_rt.mp h))
      · refine at_aloadn ok dX8_find_25 rfl ?_
        refine at_iloadn ok dX8_find_26 rfl ?_
        refine at_iload ok dX8_find_27 rfl ?_
        refine at_cVi (As := [.int (a1), .int (x16_2)]) ok ct_8_find_200 dX8_find_29 (by simp [cat_rf, cat_i, cat_l]) (s8_isMark t a1 x16_2 _) h fun v29 σ h => ?_
        refine bt_if_eq (tgt := 58) ok dX8_find_32 (by decide) h (fun hc h => ?_) (fun hc h => ?_)
        · refine at_iinc (v := x16_2 + 1) ok dX8_find_58 rfl rfl (lc_int rfl) (by decide) ?_
          refine at_goto (tgt := 16) ok dX8_find_61 (by decide) ?_
          exact at_weak (lw_s (lw_s (lw_n (lw_s (lw_s (lw_s lw_0)))))) (by have q := ih (x16_1, (x16_2 + 1)) _ h; dsimp only at q; exact q)
        · refine at_aloadn ok dX8_find_35 rfl ?_
          refine at_aloadn ok dX8_find_36 rfl ?_
          refine at_getR ok gf_8_22 dX8_find_37 h fun v37 h => ?_
          refine at_iload ok dX8_find_40 rfl ?_
          refine at_iald ok dX8_find_42 h fun v42 h => ?_
          refine at_aloadn ok dX8_find_43 rfl ?_
          refine at_getR ok gf_8_25 dX8_find_44 h fun v44 h => ?_
          refine at_iload ok dX8_find_47 rfl ?_
          refine at_iald ok dX8_find_49 h fun v49 h => ?_
          refine at_iconst (v := (-1)) ok dX8_find_50 (by decide) ?_
          refine at_iloadn ok dX8_find_51 rfl ?_
          refine at_cVv (As := [.int (v42), .int (v49), .int ((-1)), .int (a3)]) ok ct_8_find_203 dX8_find_52 (by simp [cat_rf, cat_i, cat_l]) (s8_found t v42 v49 (-1) a3 _) h fun v52 σ h => ?_
          refine at_iinc (v := x16_1 + 1) ok dX8_find_55 rfl rfl (lc_int rfl) (by decide) ?_
          refine at_iinc (v := x16_2 + 1) ok dX8_find_58 rfl rfl (lc_int rfl) (by decide) ?_
          refine at_goto (tgt := 16) ok dX8_find_61 (by decide) ?_
          exact at_weak (lw_s (lw_s (lw_n (lw_s (lw_s (lw_s lw_0)))))) (by have q := ih ((x16_1 + 1), (x16_2 + 1)) _ h; dsimp only at q; exact q)
  · refine at_aloadn ok dX8_find_67 rfl ?_
    refine at_getR ok gf_8_50 dX8_find_68 h fun v68 h => ?_
    refine at_iloadn ok dX8_find_71 rfl ?_
    refine at_iald ok dX8_find_72 h fun v72 h => ?_
    refine at_iconst (v := 3) ok dX8_find_73 (by decide) ?_
    refine bt_icmp_ne (tgt := 150) ok dX8_find_74 (by decide) h (fun hc h => ?_) (fun hc h => ?_)
    · refine at_iconst (v := 0) ok dX8_find_77 (by decide) ?_
      refine at_istore ok dX8_find_78 (lc_int rfl) (by decide) ?_
      refine at_weak (L' := [some (va_rf (t)), some (.int (a1)), none, some (.int (a3)), some (.int (0)), none]) (lw_s (lw_s (lw_n (lw_s (lw_s (lw_n lw_0)))))) ?_
      refine at_loop (fun x80 σ => AT X m8_find 80 [some (va_rf (t)), some (.int (a1)), none, some (.int (a3)), some (.int (x80)), none] [] σ) (fun y128 σ => AT X m8_find 128 [some (va_rf (t)), some (.int (a1)), none, none, none, none] [] σ) h (fun y128 σ h => ?_) (fun kx rec ih x80 σ h => ?_)
      · refine at_aloadn ok dX8_find_128 rfl ?_
        refine at_getI ok gf_8_169 dX8_find_129 h fun v129 h => ?_
        refine at_aloadn ok dX8_find_132 rfl ?_
        refine at_getR ok gf_8_65 dX8_find_133 h fun v133 h => ?_
        refine at_iloadn ok dX8_find_136 rfl ?_
        refine at_iald ok dX8_find_137 h fun v137 h => ?_
        refine bt_icmp_lt (tgt := 148) ok dX8_find_138 (by decide) h (fun hc h => ?_) (fun hc h => ?_)
        · refine at_iconst (v := 0) ok dX8_find_148 (by decide) ?_
          exact at_iret ok fn ⟨_, rfl, rfl⟩ dX8_find_149 h
        · refine at_aloadn ok dX8_find_141 rfl ?_
          refine at_getI ok gf_8_169 dX8_find_142 h fun v142 h => ?_
          refine at_goto (tgt := 149) ok dX8_find_145 (by decide) ?_
          exact at_iret ok fn ⟨_, rfl, rfl⟩ dX8_find_149 h
      · unfold l8_find_80 at h
        refine at_iload ok dX8_find_80 rfl ?_
        refine at_aloadn ok dX8_find_82 rfl ?_
        refine at_getI ok gf_8_169 dX8_find_83 h fun v83 h => ?_
        refine bt_icmp_ge (tgt := 128) ok dX8_find_86 (by decide) h (fun hc h => ?_) (fun hc h => ?_)
        · exact at_weak (lw_s (lw_s (lw_n (lw_n (lw_n (lw_n lw_0)))))) (kx () _ (hr_rt.mp h))
        · refine at_aloadn ok dX8_find_89 rfl ?_
          refine at_getI ok gf_8_169 dX8_find_90 h fun v90 h => ?_
          refine at_aloadn ok dX8_find_93 rfl ?_
          refine at_getR ok gf_8_65 dX8_find_94 h fun v94 h => ?_
          refine at_iloadn ok dX8_find_97 rfl ?_
          refine at_iald ok dX8_find_98 h fun v98 h => ?_
          refine bt_icmp_lt (tgt := 128) ok dX8_find_99 (by decide) h (fun hc h => ?_) (fun hc h => ?_)
          · exact at_weak (lw_s (lw_s (lw_n (lw_n (lw_n (lw_n lw_0)))))) (kx () _ (hr_rt.mp h))
          · refine at_aloadn ok dX8_find_102 rfl ?_
            refine at_aloadn ok dX8_find_103 rfl ?_
            refine at_getR ok gf_8_28 dX8_find_104 h fun v104 h => ?_
            refine at_iload ok dX8_find_107 rfl ?_
            refine at_iald ok dX8_find_109 h fun v109 h => ?_
            refine at_aloadn ok dX8_find_110 rfl ?_
            refine at_getR ok gf_8_31 dX8_find_111 h fun v111 h => ?_
            refine at_iload ok dX8_find_114 rfl ?_
            refine at_iald ok dX8_find_116 h fun v116 h => ?_
            refine at_iconst (v := (-1)) ok dX8_find_117 (by decide) ?_
            refine at_iloadn ok dX8_find_118 rfl ?_
            refine at_cVv (As := [.int (v109), .int (v116), .int ((-1)), .int (a3)]) ok ct_8_find_203 dX8_find_119 (by simp [cat_rf, cat_i, cat_l]) (s8_found t v109 v116 (-1) a3 _) h fun v119 σ h => ?_
            refine at_iinc (v := x80 + 1) ok dX8_find_122 rfl rfl (lc_int rfl) (by decide) ?_
            refine at_goto (tgt := 80) ok dX8_find_125 (by decide) ?_
            exact at_weak (lw_s (lw_s (lw_n (lw_s (lw_s (lw_n lw_0)))))) (ih (x80 + 1) _ h)
    · refine at_aloadn ok dX8_find_150 rfl ?_
      refine at_getR ok gf_8_50 dX8_find_151 h fun v151 h => ?_
      refine at_iloadn ok dX8_find_154 rfl ?_
      refine at_iald ok dX8_find_155 h fun v155 h => ?_
      refine at_iconst (v := 4) ok dX8_find_156 (by decide) ?_
      refine at_joinS (fun y171 σ => AT X m8_find 171 [some (va_rf (t)), some (.int (a1)), none, some (.int (a3)), none, none] [] σ) h (fun y171 σ h => ?_) (fun h j171 => ?_)
      · refine at_aloadn ok dX8_find_171 rfl ?_
        refine at_getR ok gf_8_50 dX8_find_172 h fun v172 h => ?_
        refine at_iloadn ok dX8_find_175 rfl ?_
        refine at_iald ok dX8_find_176 h fun v176 h => ?_
        refine at_iconst (v := 2) ok dX8_find_177 (by decide) ?_
        refine at_joinS (fun y191 σ => AT X m8_find 191 [some (va_rf (t)), some (.int (a1)), none, some (.int (a3)), none, none] [] σ) h (fun y191 σ h => ?_) (fun h j191 => ?_)
        · refine at_aloadn ok dX8_find_191 rfl ?_
          refine at_iloadn ok dX8_find_192 rfl ?_
          refine at_iloadn ok dX8_find_193 rfl ?_
          refine at_cVi (As := [.int (a1), .int (a3)]) ok ct_8_find_210 dX8_find_194 (by simp [cat_rf, cat_i, cat_l]) (s8_findParts t a1 a3 _) h fun v194 σ h => ?_
          refine at_goto (tgt := 201) ok dX8_find_197 (by decide) ?_
          exact at_iret ok fn ⟨_, rfl, rfl⟩ dX8_find_201 h
        · refine bt_icmp_eq (tgt := 191) ok dX8_find_178 (by decide) h (fun hc h => ?_) (fun hc h => ?_)
          · exact at_weak (lw_s (lw_s (lw_n (lw_s (lw_n (lw_n lw_0)))))) (by have z := hr_inr h; exact j191 () _ z)
          · refine at_aloadn ok dX8_find_181 rfl ?_
            refine at_getR ok gf_8_50 dX8_find_182 h fun v182 h => ?_
            refine at_iloadn ok dX8_find_185 rfl ?_
            refine at_iald ok dX8_find_186 h fun v186 h => ?_
            refine at_iconst (v := 4) ok dX8_find_187 (by decide) ?_
            refine bt_icmp_ne (tgt := 200) ok dX8_find_188 (by decide) h (fun hc h => ?_) (fun hc h => ?_)
            · exact at_weak (lw_s (lw_s (lw_n (lw_s (lw_n (lw_n lw_0)))))) (by have z := hr_inr h; exact j191 () _ z)
            · refine at_iconst (v := 0) ok dX8_find_200 (by decide) ?_
              exact at_iret ok fn ⟨_, rfl, rfl⟩ dX8_find_201 (hr_inl h)
      · refine bt_icmp_ne (tgt := 171) ok dX8_find_157 (by decide) h (fun hc h => ?_) (fun hc h => ?_)
        · refine at_aloadn ok dX8_find_160 rfl ?_
          refine at_iloadn ok dX8_find_161 rfl ?_
          refine at_iloadn ok dX8_find_162 rfl ?_
          refine at_cVi (As := [.int (a1), .int (a2)]) ok ct_8_find_207 dX8_find_163 (by simp [cat_rf, cat_i, cat_l]) (s8_isEnough t a1 a2 _) h fun v163 σ h => ?_
          refine bt_if_ne (tgt := 171) ok dX8_find_166 (by decide) h (fun hc h => ?_) (fun hc h => ?_)
          · refine at_iconst (v := 0) ok dX8_find_169 (by decide) ?_
            exact at_iret ok fn ⟨_, rfl, rfl⟩ dX8_find_170 (hr_inl h)
          · exact at_weak (lw_s (lw_s (lw_n (lw_s (lw_n (lw_n lw_0)))))) (by have z := hr_inr h; exact j171 () _ z)
        · exact at_weak (lw_s (lw_s (lw_n (lw_s (lw_n (lw_n lw_0)))))) (by have z := hr_inr h; exact j171 () _ z)
set_option maxRecDepth 100000 in
set_option maxHeartbeats 4000000 in
theorem s8_isHad (t : Option Nat) (a1 : Int32) (a2 : Int32) (σ : AH) (Q : Int32 → AH → Prop) (h : Hr (f8_isHad t a1 a2) σ Q) : Runs m8_isHad σ [va_rf t, .int (a1), .int (a2)] (fun v σ1 => ∃ a, v = some (.int a) ∧ Q a σ1) := by
  obtain ⟨a0, σ1, e, hQ⟩ := h
  have hm := n8_isHad t a1 a2 σ a0 σ1 e
  have h : Hr (f8_isHad t a1 a2) σ (fun a σ2 => a = a0 ∧ σ2 = σ1) := ⟨a0, σ1, e, rfl, rfl⟩
  refine ⟨_, σ1, hm, ⟨a0, rfl, hQ⟩, runs_of (by decide +kernel) (by simp [cat_rf, cat_i, cat_l]) (Nat.le_of_ble_eq_true rfl) hm fun X ok fn => ?_⟩
  clear e hQ hm
  unfold f8_isHad at h
  show AT X m8_isHad 0 [some (va_rf (t)), some (.int (a1)), some (.int (a2))] [] σ
  refine at_aloadn ok dX8_isHad_0 rfl ?_
  refine at_getR ok gf_8_71 dX8_isHad_1 h fun v1 h => ?_
  refine at_bipush (v := 10) ok dX8_isHad_4 (by decide) ?_
  refine at_iloadn ok dX8_isHad_6 rfl ?_
  refine at_imul ok dX8_isHad_7 ?_
  refine at_aloadn ok dX8_isHad_8 rfl ?_
  refine at_getR ok gf_8_80 dX8_isHad_9 h fun v9 h => ?_
  refine at_iloadn ok dX8_isHad_12 rfl ?_
  refine at_iald ok dX8_isHad_13 h fun v13 h => ?_
  refine at_iadd ok dX8_isHad_14 ?_
  refine at_bipush (v := 10) ok dX8_isHad_15 (by decide) ?_
  refine at_imul ok dX8_isHad_17 ?_
  refine at_aloadn ok dX8_isHad_18 rfl ?_
  refine at_getR ok gf_8_83 dX8_isHad_19 h fun v19 h => ?_
  refine at_iloadn ok dX8_isHad_22 rfl ?_
  refine at_iald ok dX8_isHad_23 h fun v23 h => ?_
  refine at_iadd ok dX8_isHad_24 ?_
  refine at_zald ok dX8_isHad_25 h fun v25 h => ?_
  refine bt_if_ne (tgt := 43) ok dX8_isHad_26 (by decide) h (fun hc h => ?_) (fun hc h => ?_)
  · refine at_aloadn ok dX8_isHad_29 rfl ?_
    refine at_iloadn ok dX8_isHad_30 rfl ?_
    refine at_iloadn ok dX8_isHad_31 rfl ?_
    refine at_iconst (v := 0) ok dX8_isHad_32 (by decide) ?_
    refine at_cVi (As := [.int (a1), .int (a2), .int (0)]) ok ct_8_isHad_228 dX8_isHad_33 (by simp [cat_rf, cat_i, cat_l]) (s8_find t a1 a2 0 _) h fun v33 σ h => ?_
    refine bt_if_le (tgt := 43) ok dX8_isHad_36 (by decide) h (fun hc h => ?_) (fun hc h => ?_)
    · refine at_iconst (v := 0) ok dX8_isHad_43 (by decide) ?_
      exact at_iret ok fn ⟨_, rfl, rfl⟩ dX8_isHad_44 h
    · refine at_iconst (v := 1) ok dX8_isHad_39 (by decide) ?_
      refine at_goto (tgt := 44) ok dX8_isHad_40 (by decide) ?_
      exact at_iret ok fn ⟨_, rfl, rfl⟩ dX8_isHad_44 h
  · refine at_iconst (v := 0) ok dX8_isHad_43 (by decide) ?_
    exact at_iret ok fn ⟨_, rfl, rfl⟩ dX8_isHad_44 h
set_option maxRecDepth 100000 in
set_option maxHeartbeats 4000000 in
theorem s8_ruleFor (t : Option Nat) (a1 : Int32) (σ : AH) (Q : Int32 → AH → Prop) (h : Hr (f8_ruleFor t a1) σ Q) : Runs m8_ruleFor σ [va_rf t, .int (a1)] (fun v σ1 => ∃ a, v = some (.int a) ∧ Q a σ1) := by
  obtain ⟨a0, σ1, e, hQ⟩ := h
  have hm := n8_ruleFor t a1 σ a0 σ1 e
  have h : Hr (f8_ruleFor t a1) σ (fun a σ2 => a = a0 ∧ σ2 = σ1) := ⟨a0, σ1, e, rfl, rfl⟩
  refine ⟨_, σ1, hm, ⟨a0, rfl, hQ⟩, runs_of (by decide +kernel) (by simp [cat_rf, cat_i, cat_l]) (Nat.le_of_ble_eq_true rfl) hm fun X ok fn => ?_⟩
  clear e hQ hm
  unfold f8_ruleFor at h
  show AT X m8_ruleFor 0 [some (va_rf (t)), some (.int (a1)), none, none, none] [] σ
  refine at_iconst (v := 0) ok dX8_ruleFor_0 (by decide) ?_
  refine at_istoren ok dX8_ruleFor_1 rfl (lc_int rfl) (by decide) ?_
  refine at_weak (L' := [some (va_rf (t)), some (.int (a1)), some (.int (0)), none, none]) (lw_s (lw_s (lw_s (lw_n (lw_n lw_0))))) ?_
  refine at_loopS (fun x2 σ => AT X m8_ruleFor 2 [some (va_rf (t)), some (.int (a1)), some (.int (x2)), none, none] [] σ) (fun y104 σ => AT X m8_ruleFor 104 [none, none, none, none, none] [] σ) h (fun y104 σ h => ?_) (fun kx rec ih x2 σ h => ?_)
  · refine at_iconst (v := (-1)) ok dX8_ruleFor_104 (by decide) ?_
    exact at_iret ok fn ⟨_, rfl, rfl⟩ dX8_ruleFor_105 h
  · unfold l8_ruleFor_2 at h
    refine at_iloadn ok dX8_ruleFor_2 rfl ?_
    refine at_aloadn ok dX8_ruleFor_3 rfl ?_
    refine at_getI ok gf_8_232 dX8_ruleFor_4 h fun v4 h => ?_
    refine bt_icmp_ge (tgt := 104) ok dX8_ruleFor_7 (by decide) h (fun hc h => ?_) (fun hc h => ?_)
    · exact at_weak (lw_n (lw_n (lw_n (lw_n (lw_n lw_0))))) (by have z := hr_inr h; exact kx () _ z)
    · refine at_aloadn ok dX8_ruleFor_10 rfl ?_
      refine at_getR ok gf_8_116 dX8_ruleFor_11 h fun v11 h => ?_
      refine at_iloadn ok dX8_ruleFor_14 rfl ?_
      refine at_iald ok dX8_ruleFor_15 h fun v15 h => ?_
      refine at_iconst (v := (-1)) ok dX8_ruleFor_16 (by decide) ?_
      refine at_join (fun y40 σ => AT X m8_ruleFor 40 [some (va_rf (t)), some (.int (a1)), some (.int (x2)), none, none] [.int (y40)] σ) h (fun y40 σ h => ?_) (fun h j40 => ?_)
      · refine at_istoren ok dX8_ruleFor_40 rfl (lc_int rfl) (by decide) ?_
        refine at_aloadn ok dX8_ruleFor_41 rfl ?_
        refine at_getR ok gf_8_119 dX8_ruleFor_42 h fun v42 h => ?_
        refine at_iloadn ok dX8_ruleFor_45 rfl ?_
        refine at_iald ok dX8_ruleFor_46 h fun v46 h => ?_
        refine at_iconst (v := (-1)) ok dX8_ruleFor_47 (by decide) ?_
        refine at_join (fun y71 σ => AT X m8_ruleFor 71 [some (va_rf (t)), some (.int (a1)), some (.int (x2)), some (.int (y40)), none] [.int (y71)] σ) h (fun y71 σ h => ?_) (fun h j71 => ?_)
        · refine at_istore ok dX8_ruleFor_71 (lc_int rfl) (by decide) ?_
          refine at_iloadn ok dX8_ruleFor_73 rfl ?_
          refine bt_if_eq (tgt := 98) ok dX8_ruleFor_74 (by decide) h (fun hc h => ?_) (fun hc h => ?_)
          · refine at_iinc (v := x2 + 1) ok dX8_ruleFor_98 rfl rfl (lc_int rfl) (by decide) ?_
            refine at_goto (tgt := 2) ok dX8_ruleFor_101 (by decide) ?_
            exact at_weak (lw_s (lw_s (lw_s (lw_n (lw_n lw_0))))) (ih (x2 + 1) _ h)
          · refine at_iload ok dX8_ruleFor_77 rfl ?_
            refine bt_if_eq (tgt := 98) ok dX8_ruleFor_79 (by decide) h (fun hc h => ?_) (fun hc h => ?_)
            · refine at_iinc (v := x2 + 1) ok dX8_ruleFor_98 rfl rfl (lc_int rfl) (by decide) ?_
              refine at_goto (tgt := 2) ok dX8_ruleFor_101 (by decide) ?_
              exact at_weak (lw_s (lw_s (lw_s (lw_n (lw_n lw_0))))) (ih (x2 + 1) _ h)
            · refine at_aloadn ok dX8_ruleFor_82 rfl ?_
              refine at_aloadn ok dX8_ruleFor_83 rfl ?_
              refine at_getR ok gf_8_122 dX8_ruleFor_84 h fun v84 h => ?_
              refine at_iloadn ok dX8_ruleFor_87 rfl ?_
              refine at_iald ok dX8_ruleFor_88 h fun v88 h => ?_
              refine at_iloadn ok dX8_ruleFor_89 rfl ?_
              refine at_cVi (As := [.int (v88), .int (a1)]) ok ct_8_ruleFor_246 dX8_ruleFor_90 (by simp [cat_rf, cat_i, cat_l]) (s8_isHad t v88 a1 _) h fun v90 σ h => ?_
              refine bt_if_eq (tgt := 98) ok dX8_ruleFor_93 (by decide) h (fun hc h => ?_) (fun hc h => ?_)
              · refine at_iinc (v := x2 + 1) ok dX8_ruleFor_98 rfl rfl (lc_int rfl) (by decide) ?_
                refine at_goto (tgt := 2) ok dX8_ruleFor_101 (by decide) ?_
                exact at_weak (lw_s (lw_s (lw_s (lw_n (lw_n lw_0))))) (ih (x2 + 1) _ h)
              · refine at_iloadn ok dX8_ruleFor_96 rfl ?_
                exact at_iret ok fn ⟨_, rfl, rfl⟩ dX8_ruleFor_97 (hr_inl h)
        · refine bt_icmp_eq (tgt := 66) ok dX8_ruleFor_48 (by decide) h (fun hc h => ?_) (fun hc h => ?_)
          · refine at_iconst (v := 1) ok dX8_ruleFor_66 (by decide) ?_
            refine at_goto (tgt := 71) ok dX8_ruleFor_67 (by decide) ?_
            exact at_weak (lw_s (lw_s (lw_s (lw_s (lw_n lw_0))))) (j71 1 _ (hr_rt.mp h))
          · refine at_aloadn ok dX8_ruleFor_51 rfl ?_
            refine at_getR ok gf_8_119 dX8_ruleFor_52 h fun v52 h => ?_
            refine at_iloadn ok dX8_ruleFor_55 rfl ?_
            refine at_iald ok dX8_ruleFor_56 h fun v56 h => ?_
            refine at_aloadn ok dX8_ruleFor_57 rfl ?_
            refine at_getR ok gf_8_86 dX8_ruleFor_58 h fun v58 h => ?_
            refine at_iloadn ok dX8_ruleFor_61 rfl ?_
            refine at_iald ok dX8_ruleFor_62 h fun v62 h => ?_
            refine bt_icmp_ne (tgt := 70) ok dX8_ruleFor_63 (by decide) h (fun hc h => ?_) (fun hc h => ?_)
            · refine at_iconst (v := 1) ok dX8_ruleFor_66 (by decide) ?_
              refine at_goto (tgt := 71) ok dX8_ruleFor_67 (by decide) ?_
              exact at_weak (lw_s (lw_s (lw_s (lw_s (lw_n lw_0))))) (j71 1 _ (hr_rt.mp h))
            · refine at_iconst (v := 0) ok dX8_ruleFor_70 (by decide) ?_
              exact at_weak (lw_s (lw_s (lw_s (lw_s (lw_n lw_0))))) (j71 0 _ (hr_rt.mp h))
      · refine bt_icmp_eq (tgt := 35) ok dX8_ruleFor_17 (by decide) h (fun hc h => ?_) (fun hc h => ?_)
        · refine at_iconst (v := 1) ok dX8_ruleFor_35 (by decide) ?_
          refine at_goto (tgt := 40) ok dX8_ruleFor_36 (by decide) ?_
          exact at_weak (lw_s (lw_s (lw_s (lw_n (lw_n lw_0))))) (j40 1 _ (hr_rt.mp h))
        · refine at_aloadn ok dX8_ruleFor_20 rfl ?_
          refine at_getR ok gf_8_116 dX8_ruleFor_21 h fun v21 h => ?_
          refine at_iloadn ok dX8_ruleFor_24 rfl ?_
          refine at_iald ok dX8_ruleFor_25 h fun v25 h => ?_
          refine at_aloadn ok dX8_ruleFor_26 rfl ?_
          refine at_getR ok gf_8_80 dX8_ruleFor_27 h fun v27 h => ?_
          refine at_iloadn ok dX8_ruleFor_30 rfl ?_
          refine at_iald ok dX8_ruleFor_31 h fun v31 h => ?_
          refine bt_icmp_ne (tgt := 39) ok dX8_ruleFor_32 (by decide) h (fun hc h => ?_) (fun hc h => ?_)
          · refine at_iconst (v := 1) ok dX8_ruleFor_35 (by decide) ?_
            refine at_goto (tgt := 40) ok dX8_ruleFor_36 (by decide) ?_
            exact at_weak (lw_s (lw_s (lw_s (lw_n (lw_n lw_0))))) (j40 1 _ (hr_rt.mp h))
          · refine at_iconst (v := 0) ok dX8_ruleFor_39 (by decide) ?_
            exact at_weak (lw_s (lw_s (lw_s (lw_n (lw_n lw_0))))) (j40 0 _ (hr_rt.mp h))
set_option maxRecDepth 100000 in
set_option maxHeartbeats 4000000 in
theorem s8_send (t : Option Nat) (a1 : Int32) (a2 : Int32) (a3 : Int32) (σ : AH) (Q : Int32 → AH → Prop) (h : Hr (f8_send t a1 a2 a3) σ Q) : Runs m8_send σ [va_rf t, .int (a1), .int (a2), .int (a3)] (fun v σ1 => ∃ a, v = some (.int a) ∧ Q a σ1) := by
  obtain ⟨a0, σ1, e, hQ⟩ := h
  have hm := n8_send t a1 a2 a3 σ a0 σ1 e
  have h : Hr (f8_send t a1 a2 a3) σ (fun a σ2 => a = a0 ∧ σ2 = σ1) := ⟨a0, σ1, e, rfl, rfl⟩
  refine ⟨_, σ1, hm, ⟨a0, rfl, hQ⟩, runs_of (by decide +kernel) (by simp [cat_rf, cat_i, cat_l]) (Nat.le_of_ble_eq_true rfl) hm fun X ok fn => ?_⟩
  clear e hQ hm
  unfold f8_send at h
  show AT X m8_send 0 [some (va_rf (t)), some (.int (a1)), some (.int (a2)), some (.int (a3)), none, none] [] σ
  refine at_iloadn ok dX8_send_0 rfl ?_
  refine at_iconst (v := 0) ok dX8_send_1 (by decide) ?_
  refine at_bipush (v := 9) ok dX8_send_2 (by decide) ?_
  refine at_cSi (As := [.int (a1), .int (0), .int (9)]) ok ct_8_send_128 dX8_send_4 (by simp [cat_rf, cat_i, cat_l]) (s8_in a1 0 9 _) h fun v4 σ h => ?_
  refine bt_if_eq (tgt := 38) ok dX8_send_7 (by decide) h (fun hc h => ?_) (fun hc h => ?_)
  · refine at_iconst (v := (-1)) ok dX8_send_38 (by decide) ?_
    exact at_iret ok fn ⟨_, rfl, rfl⟩ dX8_send_39 h
  · refine at_iloadn ok dX8_send_10 rfl ?_
    refine at_iconst (v := 0) ok dX8_send_11 (by decide) ?_
    refine at_bipush (v := 9) ok dX8_send_12 (by decide) ?_
    refine at_cSi (As := [.int (a2), .int (0), .int (9)]) ok ct_8_send_128 dX8_send_14 (by simp [cat_rf, cat_i, cat_l]) (s8_in a2 0 9 _) h fun v14 σ h => ?_
    refine bt_if_eq (tgt := 38) ok dX8_send_17 (by decide) h (fun hc h => ?_) (fun hc h => ?_)
    · refine at_iconst (v := (-1)) ok dX8_send_38 (by decide) ?_
      exact at_iret ok fn ⟨_, rfl, rfl⟩ dX8_send_39 h
    · refine at_iloadn ok dX8_send_20 rfl ?_
      refine at_iconst (v := 0) ok dX8_send_21 (by decide) ?_
      refine at_iconst (v := 2) ok dX8_send_22 (by decide) ?_
      refine at_cSi (As := [.int (a3), .int (0), .int (2)]) ok ct_8_send_128 dX8_send_23 (by simp [cat_rf, cat_i, cat_l]) (s8_in a3 0 2 _) h fun v23 σ h => ?_
      refine bt_if_eq (tgt := 38) ok dX8_send_26 (by decide) h (fun hc h => ?_) (fun hc h => ?_)
      · refine at_iconst (v := (-1)) ok dX8_send_38 (by decide) ?_
        exact at_iret ok fn ⟨_, rfl, rfl⟩ dX8_send_39 h
      · refine at_aloadn ok dX8_send_29 rfl ?_
        refine at_getI ok gf_8_249 dX8_send_30 h fun v30 h => ?_
        refine at_bipush (v := 60) ok dX8_send_33 (by decide) ?_
        refine bt_icmp_ne (tgt := 40) ok dX8_send_35 (by decide) h (fun hc h => ?_) (fun hc h => ?_)
        · refine at_iconst (v := (-1)) ok dX8_send_38 (by decide) ?_
          exact at_iret ok fn ⟨_, rfl, rfl⟩ dX8_send_39 h
        · refine at_aloadn ok dX8_send_40 rfl ?_
          refine at_getI ok gf_8_249 dX8_send_41 h fun v41 h => ?_
          refine at_istore ok dX8_send_44 (lc_int rfl) (by decide) ?_
          refine at_aloadn ok dX8_send_46 rfl ?_
          refine at_dup ok dX8_send_47 (cat_rf _) ?_
          refine at_getI ok gf_8_249 dX8_send_48 h fun v48 h => ?_
          refine at_iconst (v := 1) ok dX8_send_51 (by decide) ?_
          refine at_iadd ok dX8_send_52 ?_
          refine at_putI ok (pf_8_249 _) dX8_send_53 h fun σ h => ?_
          refine at_iconst (v := 0) ok dX8_send_56 (by decide) ?_
          refine at_istore ok dX8_send_57 (lc_int rfl) (by decide) ?_
          refine at_weak (L' := [some (va_rf (t)), some (.int (a1)), some (.int (a2)), some (.int (a3)), some (.int (v41)), some (.int (0))]) (lw_s (lw_s (lw_s (lw_s (lw_s (lw_s lw_0)))))) ?_
          refine at_loop (fun x59 σ => AT X m8_send 59 [some (va_rf (t)), some (.int (a1)), some (.int (a2)), some (.int (a3)), some (.int (v41)), some (.int (x59))] [] σ) (fun y95 σ => AT X m8_send 95 [some (va_rf (t)), some (.int (a1)), some (.int (a2)), some (.int (a3)), some (.int (v41)), none] [] σ) h (fun y95 σ h => ?_) (fun kx rec ih x59 σ h => ?_)
          · refine at_aloadn ok dX8_send_95 rfl ?_
            refine at_getR ok gf_8_77 dX8_send_96 h fun v96 h => ?_
            refine at_iload ok dX8_send_99 rfl ?_
            refine at_aloadn ok dX8_send_101 rfl ?_
            refine at_getI ok gf_8_140 dX8_send_102 h fun v102 h => ?_
            refine at_iast ok dX8_send_105 h fun σ h => ?_
            refine at_aloadn ok dX8_send_106 rfl ?_
            refine at_iconst (v := 0) ok dX8_send_107 (by decide) ?_
            refine at_putI ok (pf_8_140 _) dX8_send_108 h fun σ h => ?_
            refine at_aloadn ok dX8_send_111 rfl ?_
            refine at_getR ok gf_8_80 dX8_send_112 h fun v112 h => ?_
            refine at_iload ok dX8_send_115 rfl ?_
            refine at_iloadn ok dX8_send_117 rfl ?_
            refine at_iast ok dX8_send_118 h fun σ h => ?_
            refine at_aloadn ok dX8_send_119 rfl ?_
            refine at_getR ok gf_8_83 dX8_send_120 h fun v120 h => ?_
            refine at_iload ok dX8_send_123 rfl ?_
            refine at_iloadn ok dX8_send_125 rfl ?_
            refine at_iast ok dX8_send_126 h fun σ h => ?_
            refine at_aloadn ok dX8_send_127 rfl ?_
            refine at_getR ok gf_8_86 dX8_send_128 h fun v128 h => ?_
            refine at_iload ok dX8_send_131 rfl ?_
            refine at_iloadn ok dX8_send_133 rfl ?_
            refine at_iast ok dX8_send_134 h fun σ h => ?_
            refine at_aloadn ok dX8_send_135 rfl ?_
            refine at_getR ok gf_8_89 dX8_send_136 h fun v136 h => ?_
            refine at_iload ok dX8_send_139 rfl ?_
            refine at_aloadn ok dX8_send_141 rfl ?_
            refine at_getI ok gf_8_132 dX8_send_142 h fun v142 h => ?_
            refine at_iast ok dX8_send_145 h fun σ h => ?_
            refine at_aloadn ok dX8_send_146 rfl ?_
            refine at_iload ok dX8_send_147 rfl ?_
            refine at_cVv (As := [.int (v41)]) ok ct_8_send_217 dX8_send_149 (by simp [cat_rf, cat_i, cat_l]) (s8_readLetter t v41 _) h fun v149 σ h => ?_
            refine at_aloadn ok dX8_send_152 rfl ?_
            refine at_iload ok dX8_send_153 rfl ?_
            refine at_cVi (As := [.int (v41)]) ok ct_8_send_252 dX8_send_155 (by simp [cat_rf, cat_i, cat_l]) (s8_ruleFor t v41 _) h fun v155 σ h => ?_
            refine at_istore ok dX8_send_158 (lc_int rfl) (by decide) ?_
            refine at_aloadn ok dX8_send_160 rfl ?_
            refine at_getR ok gf_8_92 dX8_send_161 h fun v161 h => ?_
            refine at_iload ok dX8_send_164 rfl ?_
            refine at_iload ok dX8_send_166 rfl ?_
            refine at_iconst (v := (-1)) ok dX8_send_168 (by decide) ?_
            refine at_join (fun y183 σ => AT X m8_send 183 [some (va_rf (t)), none, none, none, some (.int (v41)), some (.int (v155))] [.int (y183), .int (v41), va_rf (v161)] σ) h (fun y183 σ h => ?_) (fun h j183 => ?_)
            · refine at_iast ok dX8_send_183 h fun σ h => ?_
              refine at_aloadn ok dX8_send_184 rfl ?_
              refine at_getR ok gf_8_95 dX8_send_185 h fun v185 h => ?_
              refine at_iload ok dX8_send_188 rfl ?_
              refine at_iload ok dX8_send_190 rfl ?_
              refine at_iconst (v := (-1)) ok dX8_send_192 (by decide) ?_
              refine at_join (fun y207 σ => AT X m8_send 207 [some (va_rf (t)), none, none, none, some (.int (v41)), some (.int (v155))] [.int (y207), .int (v41), va_rf (v185)] σ) h (fun y207 σ h => ?_) (fun h j207 => ?_)
              · refine at_iast ok dX8_send_207 h fun σ h => ?_
                refine at_aloadn ok dX8_send_208 rfl ?_
                refine at_getR ok gf_8_98 dX8_send_209 h fun v209 h => ?_
                refine at_iload ok dX8_send_212 rfl ?_
                refine at_aloadn ok dX8_send_214 rfl ?_
                refine at_getR ok gf_8_92 dX8_send_215 h fun v215 h => ?_
                refine at_iload ok dX8_send_218 rfl ?_
                refine at_iald ok dX8_send_220 h fun v220 h => ?_
                refine at_iconst (v := 2) ok dX8_send_221 (by decide) ?_
                refine at_join (fun y230 σ => AT X m8_send 230 [some (va_rf (t)), none, none, none, some (.int (v41)), some (.int (v155))] [.int (y230), .int (v41), va_rf (v209)] σ) h (fun y230 σ h => ?_) (fun h j230 => ?_)
                · refine at_iast ok dX8_send_230 h fun σ h => ?_
                  refine at_aloadn ok dX8_send_231 rfl ?_
                  refine at_getR ok gf_8_101 dX8_send_232 h fun v232 h => ?_
                  refine at_iload ok dX8_send_235 rfl ?_
                  refine at_aloadn ok dX8_send_237 rfl ?_
                  refine at_getI ok gf_8_193 dX8_send_238 h fun v238 h => ?_
                  refine at_iast ok dX8_send_241 h fun σ h => ?_
                  refine at_aloadn ok dX8_send_242 rfl ?_
                  refine at_getR ok gf_8_104 dX8_send_243 h fun v243 h => ?_
                  refine at_iload ok dX8_send_246 rfl ?_
                  refine at_iload ok dX8_send_248 rfl ?_
                  refine at_iconst (v := (-1)) ok dX8_send_250 (by decide) ?_
                  refine bt_icmp_ne (tgt := 258) ok dX8_send_251 (by decide) h (fun hc h => ?_) (fun hc h => ?_)
                  · refine at_iconst (v := 0) ok dX8_send_254 (by decide) ?_
                    refine at_goto (tgt := 272) ok dX8_send_255 (by decide) ?_
                    refine at_iast ok dX8_send_272 h fun σ h => ?_
                    refine at_iload ok dX8_send_273 rfl ?_
                    exact at_iret ok fn ⟨_, rfl, rfl⟩ dX8_send_275 h
                  · refine at_aloadn ok dX8_send_258 rfl ?_
                    refine at_aloadn ok dX8_send_259 rfl ?_
                    refine at_getR ok gf_8_122 dX8_send_260 h fun v260 h => ?_
                    refine at_iload ok dX8_send_263 rfl ?_
                    refine at_iald ok dX8_send_265 h fun v265 h => ?_
                    refine at_iload ok dX8_send_266 rfl ?_
                    refine at_iconst (v := 1) ok dX8_send_268 (by decide) ?_
                    refine at_cVi (As := [.int (v265), .int (v41), .int (1)]) ok ct_8_send_228 dX8_send_269 (by simp [cat_rf, cat_i, cat_l]) (s8_find t v265 v41 1 _) h fun v269 σ h => ?_
                    refine at_iast ok dX8_send_272 h fun σ h => ?_
                    refine at_iload ok dX8_send_273 rfl ?_
                    exact at_iret ok fn ⟨_, rfl, rfl⟩ dX8_send_275 h
                · refine bt_icmp_le (tgt := 229) ok dX8_send_222 (by decide) h (fun hc h => ?_) (fun hc h => ?_)
                  · refine at_iconst (v := 0) ok dX8_send_229 (by decide) ?_
                    exact at_weak (lw_s (lw_n (lw_n (lw_n (lw_s (lw_s lw_0)))))) (j230 0 _ (hr_rt.mp h))
                  · refine at_iconst (v := 1) ok dX8_send_225 (by decide) ?_
                    refine at_goto (tgt := 230) ok dX8_send_226 (by decide) ?_
                    exact at_weak (lw_s (lw_n (lw_n (lw_n (lw_s (lw_s lw_0)))))) (j230 1 _ (hr_rt.mp h))
              · refine bt_icmp_ne (tgt := 200) ok dX8_send_193 (by decide) h (fun hc h => ?_) (fun hc h => ?_)
                · refine at_iconst (v := (-1)) ok dX8_send_196 (by decide) ?_
                  refine at_goto (tgt := 207) ok dX8_send_197 (by decide) ?_
                  exact at_weak (lw_s (lw_n (lw_n (lw_n (lw_s (lw_s lw_0)))))) (j207 (-1) _ (hr_rt.mp h))
                · refine at_aloadn ok dX8_send_200 rfl ?_
                  refine at_getR ok gf_8_122 dX8_send_201 h fun v201 h => ?_
                  refine at_iload ok dX8_send_204 rfl ?_
                  refine at_iald ok dX8_send_206 h fun v206 h => ?_
                  exact at_weak (lw_s (lw_n (lw_n (lw_n (lw_s (lw_s lw_0)))))) (j207 v206 _ (hr_rt.mp h))
            · refine bt_icmp_ne (tgt := 176) ok dX8_send_169 (by decide) h (fun hc h => ?_) (fun hc h => ?_)
              · refine at_iconst (v := 0) ok dX8_send_172 (by decide) ?_
                refine at_goto (tgt := 183) ok dX8_send_173 (by decide) ?_
                exact at_weak (lw_s (lw_n (lw_n (lw_n (lw_s (lw_s lw_0)))))) (j183 0 _ (hr_rt.mp h))
              · refine at_aloadn ok dX8_send_176 rfl ?_
                refine at_getR ok gf_8_125 dX8_send_177 h fun v177 h => ?_
                refine at_iload ok dX8_send_180 rfl ?_
                refine at_iald ok dX8_send_182 h fun v182 h => ?_
                exact at_weak (lw_s (lw_n (lw_n (lw_n (lw_s (lw_s lw_0)))))) (j183 v182 _ (hr_rt.mp h))
          · unfold l8_send_59 at h
            refine at_iload ok dX8_send_59 rfl ?_
            refine at_aloadn ok dX8_send_61 rfl ?_
            refine at_getI ok gf_8_140 dX8_send_62 h fun v62 h => ?_
            refine bt_icmp_ge (tgt := 95) ok dX8_send_65 (by decide) h (fun hc h => ?_) (fun hc h => ?_)
            · exact at_weak (lw_s (lw_s (lw_s (lw_s (lw_s (lw_n lw_0)))))) (kx () _ (hr_rt.mp h))
            · refine at_aloadn ok dX8_send_68 rfl ?_
              refine at_getR ok gf_8_74 dX8_send_69 h fun v69 h => ?_
              refine at_sipush (v := 300) ok dX8_send_72 (by decide) ?_
              refine at_iload ok dX8_send_75 rfl ?_
              refine at_imul ok dX8_send_77 ?_
              refine at_iload ok dX8_send_78 rfl ?_
              refine at_iadd ok dX8_send_80 ?_
              refine at_aloadn ok dX8_send_81 rfl ?_
              refine at_getR ok gf_8_9 dX8_send_82 h fun v82 h => ?_
              refine at_iload ok dX8_send_85 rfl ?_
              refine at_iald ok dX8_send_87 h fun v87 h => ?_
              refine at_iast ok dX8_send_88 h fun σ h => ?_
              refine at_iinc (v := x59 + 1) ok dX8_send_89 rfl rfl (lc_int rfl) (by decide) ?_
              refine at_goto (tgt := 59) ok dX8_send_92 (by decide) ?_
              exact at_weak (lw_s (lw_s (lw_s (lw_s (lw_s (lw_s lw_0)))))) (ih (x59 + 1) _ h)
set_option maxRecDepth 100000 in
set_option maxHeartbeats 4000000 in
theorem s8_state (t : Option Nat) (a1 : Int32) (σ : AH) (Q : Int32 → AH → Prop) (h : Hr (f8_state t a1) σ Q) : Runs m8_state σ [va_rf t, .int (a1)] (fun v σ1 => ∃ a, v = some (.int a) ∧ Q a σ1) := by
  obtain ⟨a0, σ1, e, hQ⟩ := h
  have hm := n8_state t a1 σ a0 σ1 e
  have h : Hr (f8_state t a1) σ (fun a σ2 => a = a0 ∧ σ2 = σ1) := ⟨a0, σ1, e, rfl, rfl⟩
  refine ⟨_, σ1, hm, ⟨a0, rfl, hQ⟩, runs_of (by decide +kernel) (by simp [cat_rf, cat_i, cat_l]) (Nat.le_of_ble_eq_true rfl) hm fun X ok fn => ?_⟩
  clear e hQ hm
  unfold f8_state at h
  show AT X m8_state 0 [some (va_rf (t)), some (.int (a1)), none, none, none, none] [] σ
  refine at_iconst (v := 0) ok dX8_state_0 (by decide) ?_
  refine at_istoren ok dX8_state_1 rfl (lc_int rfl) (by decide) ?_
  refine at_iconst (v := 0) ok dX8_state_2 (by decide) ?_
  refine at_istoren ok dX8_state_3 rfl (lc_int rfl) (by decide) ?_
  refine at_iconst (v := 0) ok dX8_state_4 (by decide) ?_
  refine at_istore ok dX8_state_5 (lc_int rfl) (by decide) ?_
  refine at_iconst (v := 0) ok dX8_state_7 (by decide) ?_
  refine at_istore ok dX8_state_8 (lc_int rfl) (by decide) ?_
  refine at_weak (L' := [some (va_rf (t)), some (.int (a1)), some (.int (0)), some (.int (0)), some (.int (0)), some (.int (0))]) (lw_s (lw_s (lw_s (lw_s (lw_s (lw_s lw_0)))))) ?_
  refine at_loop (fun x10 σ => AT X m8_state 10 [some (va_rf (t)), some (.int (a1)), some (.int (x10.1)), some (.int (x10.2.1)), some (.int (x10.2.2.1)), some (.int (x10.2.2.2))] [] σ) (fun y84 σ => AT X m8_state 84 [some (va_rf (t)), some (.int (a1)), some (.int (y84.1)), some (.int (y84.2.1)), some (.int (y84.2.2)), none] [] σ) h (fun y84 σ h => ?_) (fun kx rec ih x10 σ h => ?_)
  · obtain ⟨y84_1, y84_2, y84_3⟩ := y84
    dsimp only at h ⊢
    refine at_iloadn ok dX8_state_84 rfl ?_
    refine at_ite h (fun hc0 h => ?_) (fun hc0 h => ?_)
    · refine at_tsw (tgt := 128) ok dX8_state_85 (tsw_in hc0 (by decide) rfl (by decide)) ?_
      refine at_aloadn ok dX8_state_128 rfl ?_
      refine at_getI ok gf_8_132 dX8_state_129 h fun v129 h => ?_
      exact at_iret ok fn ⟨_, rfl, rfl⟩ dX8_state_132 h
    · refine at_ite h (fun hc1 h => ?_) (fun hc1 h => ?_)
      · refine at_tsw (tgt := 133) ok dX8_state_85 (tsw_in hc1 (by decide) rfl (by decide)) ?_
        refine at_aloadn ok dX8_state_133 rfl ?_
        refine at_getI ok gf_8_249 dX8_state_134 h fun v134 h => ?_
        exact at_iret ok fn ⟨_, rfl, rfl⟩ dX8_state_137 h
      · refine at_ite h (fun hc2 h => ?_) (fun hc2 h => ?_)
        · refine at_tsw (tgt := 138) ok dX8_state_85 (tsw_in hc2 (by decide) rfl (by decide)) ?_
          refine at_aloadn ok dX8_state_138 rfl ?_
          refine at_getI ok gf_8_232 dX8_state_139 h fun v139 h => ?_
          exact at_iret ok fn ⟨_, rfl, rfl⟩ dX8_state_142 h
        · refine at_ite h (fun hc3 h => ?_) (fun hc3 h => ?_)
          · refine at_tsw (tgt := 143) ok dX8_state_85 (tsw_in hc3 (by decide) rfl (by decide)) ?_
            refine at_aloadn ok dX8_state_143 rfl ?_
            refine at_getI ok gf_8_140 dX8_state_144 h fun v144 h => ?_
            exact at_iret ok fn ⟨_, rfl, rfl⟩ dX8_state_147 h
          · refine at_ite h (fun hc4 h => ?_) (fun hc4 h => ?_)
            · refine at_tsw (tgt := 148) ok dX8_state_85 (tsw_in hc4 (by decide) rfl (by decide)) ?_
              refine at_iloadn ok dX8_state_148 rfl ?_
              exact at_iret ok fn ⟨_, rfl, rfl⟩ dX8_state_149 h
            · refine at_ite h (fun hc5 h => ?_) (fun hc5 h => ?_)
              · refine at_tsw (tgt := 150) ok dX8_state_85 (tsw_in hc5 (by decide) rfl (by decide)) ?_
                refine at_iloadn ok dX8_state_150 rfl ?_
                exact at_iret ok fn ⟨_, rfl, rfl⟩ dX8_state_151 h
              · refine at_ite h (fun hc6 h => ?_) (fun hc6 h => ?_)
                · refine at_tsw (tgt := 152) ok dX8_state_85 (tsw_in hc6 (by decide) rfl (by decide)) ?_
                  refine at_iload ok dX8_state_152 rfl ?_
                  exact at_iret ok fn ⟨_, rfl, rfl⟩ dX8_state_154 h
                · refine at_tsw (tgt := 155) ok dX8_state_85 (tsw_out (by have i0 := i32_ne (k := 0) (by decide) hc0; have i1 := i32_ne (k := 1) (by decide) hc1; have i2 := i32_ne (k := 2) (by decide) hc2; have i3 := i32_ne (k := 3) (by decide) hc3; have i4 := i32_ne (k := 4) (by decide) hc4; have i5 := i32_ne (k := 5) (by decide) hc5; have i6 := i32_ne (k := 6) (by decide) hc6; omega) (by decide)) ?_
                  refine at_iconst (v := (-1)) ok dX8_state_155 (by decide) ?_
                  exact at_iret ok fn ⟨_, rfl, rfl⟩ dX8_state_156 h
  · unfold l8_state_10 at h
    obtain ⟨x10_1, x10_2, x10_3, x10_4⟩ := x10
    dsimp only at h ⊢
    refine at_iload ok dX8_state_10 rfl ?_
    refine at_aloadn ok dX8_state_12 rfl ?_
    refine at_getI ok gf_8_249 dX8_state_13 h fun v13 h => ?_
    refine bt_icmp_ge (tgt := 84) ok dX8_state_16 (by decide) h (fun hc h => ?_) (fun hc h => ?_)
    · exact at_weak (lw_s (lw_s (lw_s (lw_s (lw_s (lw_n lw_0)))))) (by have q := kx (x10_1, x10_2, x10_3) _ (hr_rt.mp h); dsimp only at q; exact q)
    · refine at_iloadn ok dX8_state_19 rfl ?_
      refine at_aloadn ok dX8_state_20 rfl ?_
      refine at_getR ok gf_8_98 dX8_state_21 h fun v21 h => ?_
      refine at_iload ok dX8_state_24 rfl ?_
      refine at_iald ok dX8_state_26 h fun v26 h => ?_
      refine at_iconst (v := 1) ok dX8_state_27 (by decide) ?_
      refine at_join (fun y36 σ => AT X m8_state 36 [some (va_rf (t)), some (.int (a1)), none, some (.int (x10_2)), some (.int (x10_3)), some (.int (x10_4))] [.int (y36), .int (x10_1)] σ) h (fun y36 σ h => ?_) (fun h j36 => ?_)
      · refine at_iadd ok dX8_state_36 ?_
        refine at_istoren ok dX8_state_37 rfl (lc_int rfl) (by decide) ?_
        refine at_iloadn ok dX8_state_38 rfl ?_
        refine at_aloadn ok dX8_state_39 rfl ?_
        refine at_getR ok gf_8_92 dX8_state_40 h fun v40 h => ?_
        refine at_iload ok dX8_state_43 rfl ?_
        refine at_iald ok dX8_state_45 h fun v45 h => ?_
        refine at_iconst (v := 1) ok dX8_state_46 (by decide) ?_
        refine at_join (fun y55 σ => AT X m8_state 55 [some (va_rf (t)), some (.int (a1)), some (.int ((x10_1 + y36))), none, some (.int (x10_3)), some (.int (x10_4))] [.int (y55), .int (x10_2)] σ) h (fun y55 σ h => ?_) (fun h j55 => ?_)
        · refine at_iadd ok dX8_state_55 ?_
          refine at_istoren ok dX8_state_56 rfl (lc_int rfl) (by decide) ?_
          refine at_iload ok dX8_state_57 rfl ?_
          refine at_aloadn ok dX8_state_59 rfl ?_
          refine at_getR ok gf_8_98 dX8_state_60 h fun v60 h => ?_
          refine at_iload ok dX8_state_63 rfl ?_
          refine at_iald ok dX8_state_65 h fun v65 h => ?_
          refine at_iconst (v := 2) ok dX8_state_66 (by decide) ?_
          refine bt_icmp_ne (tgt := 74) ok dX8_state_67 (by decide) h (fun hc h => ?_) (fun hc h => ?_)
          · refine at_iconst (v := 1) ok dX8_state_70 (by decide) ?_
            refine at_goto (tgt := 75) ok dX8_state_71 (by decide) ?_
            refine at_iadd ok dX8_state_75 ?_
            refine at_istore ok dX8_state_76 (lc_int rfl) (by decide) ?_
            refine at_iinc (v := x10_4 + 1) ok dX8_state_78 rfl rfl (lc_int rfl) (by decide) ?_
            refine at_goto (tgt := 10) ok dX8_state_81 (by decide) ?_
            exact at_weak (lw_s (lw_s (lw_s (lw_s (lw_s (lw_s lw_0)))))) (by have q := ih ((x10_1 + y36), (x10_2 + y55), (x10_3 + 1), (x10_4 + 1)) _ h; dsimp only at q; exact q)
          · refine at_iconst (v := 0) ok dX8_state_74 (by decide) ?_
            refine at_iadd ok dX8_state_75 ?_
            refine at_istore ok dX8_state_76 (lc_int rfl) (by decide) ?_
            refine at_iinc (v := x10_4 + 1) ok dX8_state_78 rfl rfl (lc_int rfl) (by decide) ?_
            refine at_goto (tgt := 10) ok dX8_state_81 (by decide) ?_
            exact at_weak (lw_s (lw_s (lw_s (lw_s (lw_s (lw_s lw_0)))))) (by have q := ih ((x10_1 + y36), (x10_2 + y55), (x10_3 + 0), (x10_4 + 1)) _ h; dsimp only at q; exact q)
        · refine bt_icmp_ne (tgt := 54) ok dX8_state_47 (by decide) h (fun hc h => ?_) (fun hc h => ?_)
          · refine at_iconst (v := 1) ok dX8_state_50 (by decide) ?_
            refine at_goto (tgt := 55) ok dX8_state_51 (by decide) ?_
            exact at_weak (lw_s (lw_s (lw_s (lw_n (lw_s (lw_s lw_0)))))) (j55 1 _ (hr_rt.mp h))
          · refine at_iconst (v := 0) ok dX8_state_54 (by decide) ?_
            exact at_weak (lw_s (lw_s (lw_s (lw_n (lw_s (lw_s lw_0)))))) (j55 0 _ (hr_rt.mp h))
      · refine bt_icmp_ne (tgt := 35) ok dX8_state_28 (by decide) h (fun hc h => ?_) (fun hc h => ?_)
        · refine at_iconst (v := 1) ok dX8_state_31 (by decide) ?_
          refine at_goto (tgt := 36) ok dX8_state_32 (by decide) ?_
          exact at_weak (lw_s (lw_s (lw_n (lw_s (lw_s (lw_s lw_0)))))) (j36 1 _ (hr_rt.mp h))
        · refine at_iconst (v := 0) ok dX8_state_35 (by decide) ?_
          exact at_weak (lw_s (lw_s (lw_n (lw_s (lw_s (lw_s lw_0)))))) (j36 0 _ (hr_rt.mp h))
set_option maxRecDepth 100000 in
set_option maxHeartbeats 4000000 in
theorem s8_told (t : Option Nat) (a1 : Int32) (a2 : Int32) (σ : AH) (Q : Int32 → AH → Prop) (h : Hr (f8_told t a1 a2) σ Q) : Runs m8_told σ [va_rf t, .int (a1), .int (a2)] (fun v σ1 => ∃ a, v = some (.int a) ∧ Q a σ1) := by
  obtain ⟨a0, σ1, e, hQ⟩ := h
  have hm := n8_told t a1 a2 σ a0 σ1 e
  have h : Hr (f8_told t a1 a2) σ (fun a σ2 => a = a0 ∧ σ2 = σ1) := ⟨a0, σ1, e, rfl, rfl⟩
  refine ⟨_, σ1, hm, ⟨a0, rfl, hQ⟩, runs_of (by decide +kernel) (by simp [cat_rf, cat_i, cat_l]) (Nat.le_of_ble_eq_true rfl) hm fun X ok fn => ?_⟩
  clear e hQ hm
  unfold f8_told at h
  show AT X m8_told 0 [some (va_rf (t)), some (.int (a1)), some (.int (a2))] [] σ
  refine at_aloadn ok dX8_told_0 rfl ?_
  refine at_iloadn ok dX8_told_1 rfl ?_
  refine at_cVi (As := [.int (a1)]) ok ct_8_told_255 dX8_told_2 (by simp [cat_rf, cat_i, cat_l]) (s8_isLetter t a1 _) h fun v2 σ h => ?_
  refine bt_if_ne (tgt := 10) ok dX8_told_5 (by decide) h (fun hc h => ?_) (fun hc h => ?_)
  · refine at_iconst (v := (-1)) ok dX8_told_8 (by decide) ?_
    exact at_iret ok fn ⟨_, rfl, rfl⟩ dX8_told_9 h
  · refine at_iloadn ok dX8_told_10 rfl ?_
    refine at_ite h (fun hc0 h => ?_) (fun hc0 h => ?_)
    · refine at_tsw (tgt := 60) ok dX8_told_11 (tsw_in hc0 (by decide) rfl (by decide)) ?_
      refine at_aloadn ok dX8_told_60 rfl ?_
      refine at_getR ok gf_8_80 dX8_told_61 h fun v61 h => ?_
      refine at_iloadn ok dX8_told_64 rfl ?_
      refine at_iald ok dX8_told_65 h fun v65 h => ?_
      exact at_iret ok fn ⟨_, rfl, rfl⟩ dX8_told_66 h
    · refine at_ite h (fun hc1 h => ?_) (fun hc1 h => ?_)
      · refine at_tsw (tgt := 67) ok dX8_told_11 (tsw_in hc1 (by decide) rfl (by decide)) ?_
        refine at_aloadn ok dX8_told_67 rfl ?_
        refine at_getR ok gf_8_83 dX8_told_68 h fun v68 h => ?_
        refine at_iloadn ok dX8_told_71 rfl ?_
        refine at_iald ok dX8_told_72 h fun v72 h => ?_
        exact at_iret ok fn ⟨_, rfl, rfl⟩ dX8_told_73 h
      · refine at_ite h (fun hc2 h => ?_) (fun hc2 h => ?_)
        · refine at_tsw (tgt := 74) ok dX8_told_11 (tsw_in hc2 (by decide) rfl (by decide)) ?_
          refine at_aloadn ok dX8_told_74 rfl ?_
          refine at_getR ok gf_8_86 dX8_told_75 h fun v75 h => ?_
          refine at_iloadn ok dX8_told_78 rfl ?_
          refine at_iald ok dX8_told_79 h fun v79 h => ?_
          exact at_iret ok fn ⟨_, rfl, rfl⟩ dX8_told_80 h
        · refine at_ite h (fun hc3 h => ?_) (fun hc3 h => ?_)
          · refine at_tsw (tgt := 81) ok dX8_told_11 (tsw_in hc3 (by decide) rfl (by decide)) ?_
            refine at_aloadn ok dX8_told_81 rfl ?_
            refine at_getR ok gf_8_89 dX8_told_82 h fun v82 h => ?_
            refine at_iloadn ok dX8_told_85 rfl ?_
            refine at_iald ok dX8_told_86 h fun v86 h => ?_
            exact at_iret ok fn ⟨_, rfl, rfl⟩ dX8_told_87 h
          · refine at_ite h (fun hc4 h => ?_) (fun hc4 h => ?_)
            · refine at_tsw (tgt := 88) ok dX8_told_11 (tsw_in hc4 (by decide) rfl (by decide)) ?_
              refine at_aloadn ok dX8_told_88 rfl ?_
              refine at_getR ok gf_8_92 dX8_told_89 h fun v89 h => ?_
              refine at_iloadn ok dX8_told_92 rfl ?_
              refine at_iald ok dX8_told_93 h fun v93 h => ?_
              exact at_iret ok fn ⟨_, rfl, rfl⟩ dX8_told_94 h
            · refine at_ite h (fun hc5 h => ?_) (fun hc5 h => ?_)
              · refine at_tsw (tgt := 95) ok dX8_told_11 (tsw_in hc5 (by decide) rfl (by decide)) ?_
                refine at_aloadn ok dX8_told_95 rfl ?_
                refine at_getR ok gf_8_95 dX8_told_96 h fun v96 h => ?_
                refine at_iloadn ok dX8_told_99 rfl ?_
                refine at_iald ok dX8_told_100 h fun v100 h => ?_
                exact at_iret ok fn ⟨_, rfl, rfl⟩ dX8_told_101 h
              · refine at_ite h (fun hc6 h => ?_) (fun hc6 h => ?_)
                · refine at_tsw (tgt := 102) ok dX8_told_11 (tsw_in hc6 (by decide) rfl (by decide)) ?_
                  refine at_aloadn ok dX8_told_102 rfl ?_
                  refine at_getR ok gf_8_98 dX8_told_103 h fun v103 h => ?_
                  refine at_iloadn ok dX8_told_106 rfl ?_
                  refine at_iald ok dX8_told_107 h fun v107 h => ?_
                  exact at_iret ok fn ⟨_, rfl, rfl⟩ dX8_told_108 h
                · refine at_ite h (fun hc7 h => ?_) (fun hc7 h => ?_)
                  · refine at_tsw (tgt := 109) ok dX8_told_11 (tsw_in hc7 (by decide) rfl (by decide)) ?_
                    refine at_aloadn ok dX8_told_109 rfl ?_
                    refine at_getR ok gf_8_77 dX8_told_110 h fun v110 h => ?_
                    refine at_iloadn ok dX8_told_113 rfl ?_
                    refine at_iald ok dX8_told_114 h fun v114 h => ?_
                    exact at_iret ok fn ⟨_, rfl, rfl⟩ dX8_told_115 h
                  · refine at_ite h (fun hc8 h => ?_) (fun hc8 h => ?_)
                    · refine at_tsw (tgt := 116) ok dX8_told_11 (tsw_in hc8 (by decide) rfl (by decide)) ?_
                      refine at_aloadn ok dX8_told_116 rfl ?_
                      refine at_getR ok gf_8_104 dX8_told_117 h fun v117 h => ?_
                      refine at_iloadn ok dX8_told_120 rfl ?_
                      refine at_iald ok dX8_told_121 h fun v121 h => ?_
                      exact at_iret ok fn ⟨_, rfl, rfl⟩ dX8_told_122 h
                    · refine at_tsw (tgt := 123) ok dX8_told_11 (tsw_out (by have i0 := i32_ne (k := 0) (by decide) hc0; have i1 := i32_ne (k := 1) (by decide) hc1; have i2 := i32_ne (k := 2) (by decide) hc2; have i3 := i32_ne (k := 3) (by decide) hc3; have i4 := i32_ne (k := 4) (by decide) hc4; have i5 := i32_ne (k := 5) (by decide) hc5; have i6 := i32_ne (k := 6) (by decide) hc6; have i7 := i32_ne (k := 7) (by decide) hc7; have i8 := i32_ne (k := 8) (by decide) hc8; omega) (by decide)) ?_
                      refine at_iconst (v := (-1)) ok dX8_told_123 (by decide) ?_
                      exact at_iret ok fn ⟨_, rfl, rfl⟩ dX8_told_124 h
