set_option maxRecDepth 100000 in
set_option maxHeartbeats 4000000 in
theorem s8_isOther (t : Option Nat) (a1 : Int32) (σ : AH) (Q : Int32 → AH → Prop) (h : Hr (f8_isOther t a1) σ Q) : Runs m8_isOther σ [va_rf t, .int (a1)] (fun v σ1 => ∃ a, v = some (.int a) ∧ Q a σ1) := by
  obtain ⟨a0, σ1, e, hQ⟩ := h
  have hm := n8_isOther t a1 σ a0 σ1 e
  have h : Hr (f8_isOther t a1) σ (fun a σ2 => a = a0 ∧ σ2 = σ1) := ⟨a0, σ1, e, rfl, rfl⟩
  refine ⟨_, σ1, hm, ⟨a0, rfl, hQ⟩, runs_of (by decide +kernel) (by simp [cat_rf, cat_i, cat_l]) (Nat.le_of_ble_eq_true rfl) hm fun X ok fn => ?_⟩
  clear e hQ hm
  unfold f8_isOther at h
  show AT X m8_isOther 0 [some (va_rf (t)), some (.int (a1)), none] [] σ
  refine at_aloadn ok dX8_isOther_0 rfl ?_
  refine at_iloadn ok dX8_isOther_1 rfl ?_
  refine at_cVv (As := [.int (a1)]) ok ct_8_isOther_217 dX8_isOther_2 (by simp [cat_rf, cat_i, cat_l]) (s8_readLetter t a1 _) h fun v2 σ h => ?_
  refine at_aloadn ok dX8_isOther_5 rfl ?_
  refine at_iloadn ok dX8_isOther_6 rfl ?_
  refine at_cVi (As := [.int (a1)]) ok ct_8_isOther_252 dX8_isOther_7 (by simp [cat_rf, cat_i, cat_l]) (s8_ruleFor t a1 _) h fun v7 σ h => ?_
  refine at_istoren ok dX8_isOther_10 rfl (lc_int rfl) (by decide) ?_
  refine at_iloadn ok dX8_isOther_11 rfl ?_
  refine at_iconst (v := (-1)) ok dX8_isOther_12 (by decide) ?_
  refine at_join (fun y26 σ => AT X m8_isOther 26 [some (va_rf (t)), some (.int (a1)), none] [.int (y26)] σ) h (fun y26 σ h => ?_) (fun h j26 => ?_)
  · refine at_aloadn ok dX8_isOther_26 rfl ?_
    refine at_getR ok gf_8_92 dX8_isOther_27 h fun v27 h => ?_
    refine at_iloadn ok dX8_isOther_30 rfl ?_
    refine at_iald ok dX8_isOther_31 h fun v31 h => ?_
    refine bt_icmp_eq (tgt := 39) ok dX8_isOther_32 (by decide) h (fun hc h => ?_) (fun hc h => ?_)
    · refine at_iconst (v := 0) ok dX8_isOther_39 (by decide) ?_
      exact at_iret ok fn ⟨_, rfl, rfl⟩ dX8_isOther_40 h
    · refine at_iconst (v := 1) ok dX8_isOther_35 (by decide) ?_
      refine at_goto (tgt := 40) ok dX8_isOther_36 (by decide) ?_
      exact at_iret ok fn ⟨_, rfl, rfl⟩ dX8_isOther_40 h
  · refine bt_icmp_ne (tgt := 20) ok dX8_isOther_13 (by decide) h (fun hc h => ?_) (fun hc h => ?_)
    · refine at_iconst (v := 0) ok dX8_isOther_16 (by decide) ?_
      refine at_goto (tgt := 26) ok dX8_isOther_17 (by decide) ?_
      exact at_weak (lw_s (lw_s (lw_n lw_0))) (j26 0 _ (hr_rt.mp h))
    · refine at_aloadn ok dX8_isOther_20 rfl ?_
      refine at_getR ok gf_8_125 dX8_isOther_21 h fun v21 h => ?_
      refine at_iloadn ok dX8_isOther_24 rfl ?_
      refine at_iald ok dX8_isOther_25 h fun v25 h => ?_
      exact at_weak (lw_s (lw_s (lw_n lw_0))) (j26 v25 _ (hr_rt.mp h))
set_option maxRecDepth 100000 in
set_option maxHeartbeats 4000000 in
theorem s8_triedAt (t : Option Nat) (a1 : Int32) (σ : AH) (Q : Int32 → AH → Prop) (h : Hr (f8_triedAt t a1) σ Q) : Runs m8_triedAt σ [va_rf t, .int (a1)] (fun v σ1 => ∃ a, v = some (.int a) ∧ Q a σ1) := by
  obtain ⟨a0, σ1, e, hQ⟩ := h
  have hm := n8_triedAt t a1 σ a0 σ1 e
  have h : Hr (f8_triedAt t a1) σ (fun a σ2 => a = a0 ∧ σ2 = σ1) := ⟨a0, σ1, e, rfl, rfl⟩
  refine ⟨_, σ1, hm, ⟨a0, rfl, hQ⟩, runs_of (by decide +kernel) (by simp [cat_rf, cat_i, cat_l]) (Nat.le_of_ble_eq_true rfl) hm fun X ok fn => ?_⟩
  clear e hQ hm
  unfold f8_triedAt at h
  show AT X m8_triedAt 0 [some (va_rf (t)), some (.int (a1)), none, none] [] σ
  refine at_iconst (v := 0) ok dX8_triedAt_0 (by decide) ?_
  refine at_istoren ok dX8_triedAt_1 rfl (lc_int rfl) (by decide) ?_
  refine at_iconst (v := 0) ok dX8_triedAt_2 (by decide) ?_
  refine at_istoren ok dX8_triedAt_3 rfl (lc_int rfl) (by decide) ?_
  refine at_weak (L' := [some (va_rf (t)), some (.int (a1)), some (.int (0)), some (.int (0))]) (lw_s (lw_s (lw_s (lw_s lw_0)))) ?_
  refine at_loopS (fun x4 σ => AT X m8_triedAt 4 [some (va_rf (t)), some (.int (a1)), some (.int (x4.1)), some (.int (x4.2))] [] σ) (fun y36 σ => AT X m8_triedAt 36 [none, none, some (.int (y36)), none] [] σ) h (fun y36 σ h => ?_) (fun kx rec ih x4 σ h => ?_)
  · refine at_iconst (v := (-1)) ok dX8_triedAt_36 (by decide) ?_
    refine at_iloadn ok dX8_triedAt_37 rfl ?_
    refine at_isub ok dX8_triedAt_38 ?_
    exact at_iret ok fn ⟨_, rfl, rfl⟩ dX8_triedAt_39 h
  · unfold l8_triedAt_4 at h
    obtain ⟨x4_1, x4_2⟩ := x4
    dsimp only at h ⊢
    refine at_iloadn ok dX8_triedAt_4 rfl ?_
    refine at_aloadn ok dX8_triedAt_5 rfl ?_
    refine at_getI ok gf_8_249 dX8_triedAt_6 h fun v6 h => ?_
    refine bt_icmp_ge (tgt := 36) ok dX8_triedAt_9 (by decide) h (fun hc h => ?_) (fun hc h => ?_)
    · exact at_weak (lw_n (lw_n (lw_s (lw_n lw_0)))) (by have z := hr_inr h; exact kx x4_1 _ z)
    · refine at_aloadn ok dX8_triedAt_12 rfl ?_
      refine at_iloadn ok dX8_triedAt_13 rfl ?_
      refine at_cVi (As := [.int (x4_2)]) ok ct_8_triedAt_258 dX8_triedAt_14 (by simp [cat_rf, cat_i, cat_l]) (s8_isOther t x4_2 _) h fun v14 σ h => ?_
      refine bt_if_eq (tgt := 30) ok dX8_triedAt_17 (by decide) h (fun hc h => ?_) (fun hc h => ?_)
      · refine at_iinc (v := x4_2 + 1) ok dX8_triedAt_30 rfl rfl (lc_int rfl) (by decide) ?_
        refine at_goto (tgt := 4) ok dX8_triedAt_33 (by decide) ?_
        exact at_weak (lw_s (lw_s (lw_s (lw_s lw_0)))) (by have q := ih (x4_1, (x4_2 + 1)) _ h; dsimp only at q; exact q)
      · refine at_iloadn ok dX8_triedAt_20 rfl ?_
        refine at_iloadn ok dX8_triedAt_21 rfl ?_
        refine bt_icmp_ne (tgt := 27) ok dX8_triedAt_22 (by decide) h (fun hc h => ?_) (fun hc h => ?_)
        · refine at_iloadn ok dX8_triedAt_25 rfl ?_
          exact at_iret ok fn ⟨_, rfl, rfl⟩ dX8_triedAt_26 (hr_inl h)
        · refine at_iinc (v := x4_1 + 1) ok dX8_triedAt_27 rfl rfl (lc_int rfl) (by decide) ?_
          refine at_iinc (v := x4_2 + 1) ok dX8_triedAt_30 rfl rfl (lc_int rfl) (by decide) ?_
          refine at_goto (tgt := 4) ok dX8_triedAt_33 (by decide) ?_
          exact at_weak (lw_s (lw_s (lw_s (lw_s lw_0)))) (by have q := ih ((x4_1 + 1), (x4_2 + 1)) _ h; dsimp only at q; exact q)
set_option maxRecDepth 100000 in
set_option maxHeartbeats 4000000 in
theorem s8_trial (t : Option Nat) (a1 : Int32) (a2 : Int32) (a3 : Int32) (a4 : Int32) (a5 : Int32) (σ : AH) (Q : Int32 → AH → Prop) (h : Hr (f8_trial t a1 a2 a3 a4 a5) σ Q) : Runs m8_trial σ [va_rf t, .int (a1), .int (a2), .int (a3), .int (a4), .int (a5)] (fun v σ1 => ∃ a, v = some (.int a) ∧ Q a σ1) := by
  obtain ⟨a0, σ1, e, hQ⟩ := h
  have hm := n8_trial t a1 a2 a3 a4 a5 σ a0 σ1 e
  have h : Hr (f8_trial t a1 a2 a3 a4 a5) σ (fun a σ2 => a = a0 ∧ σ2 = σ1) := ⟨a0, σ1, e, rfl, rfl⟩
  refine ⟨_, σ1, hm, ⟨a0, rfl, hQ⟩, runs_of (by decide +kernel) (by simp [cat_rf, cat_i, cat_l]) (Nat.le_of_ble_eq_true rfl) hm fun X ok fn => ?_⟩
  clear e hQ hm
  unfold f8_trial at h
  show AT X m8_trial 0 [some (va_rf (t)), some (.int (a1)), some (.int (a2)), some (.int (a3)), some (.int (a4)), some (.int (a5)), none] [] σ
  refine at_aloadn ok dX8_trial_0 rfl ?_
  refine at_iloadn ok dX8_trial_1 rfl ?_
  refine at_iloadn ok dX8_trial_2 rfl ?_
  refine at_iloadn ok dX8_trial_3 rfl ?_
  refine at_iload ok dX8_trial_4 rfl ?_
  refine at_iload ok dX8_trial_6 rfl ?_
  refine at_cVi (As := [.int (a1), .int (a2), .int (a3), .int (a4), .int (a5)]) ok ct_8_trial_235 dX8_trial_8 (by simp [cat_rf, cat_i, cat_l]) (s8_isRule t a1 a2 a3 a4 a5 _) h fun v8 σ h => ?_
  refine bt_if_ne (tgt := 16) ok dX8_trial_11 (by decide) h (fun hc h => ?_) (fun hc h => ?_)
  · refine at_iconst (v := (-1)) ok dX8_trial_14 (by decide) ?_
    exact at_iret ok fn ⟨_, rfl, rfl⟩ dX8_trial_15 h
  · refine at_aloadn ok dX8_trial_16 rfl ?_
    refine at_iloadn ok dX8_trial_17 rfl ?_
    refine at_iloadn ok dX8_trial_18 rfl ?_
    refine at_iloadn ok dX8_trial_19 rfl ?_
    refine at_iload ok dX8_trial_20 rfl ?_
    refine at_iload ok dX8_trial_22 rfl ?_
    refine at_cVv (As := [.int (a1), .int (a2), .int (a3), .int (a4), .int (a5)]) ok ct_8_trial_239 dX8_trial_24 (by simp [cat_rf, cat_i, cat_l]) (s8_insert t a1 a2 a3 a4 a5 _) h fun v24 σ h => ?_
    refine at_iconst (v := (-1)) ok dX8_trial_27 (by decide) ?_
    refine at_aloadn ok dX8_trial_28 rfl ?_
    refine at_bipush (v := 60) ok dX8_trial_29 (by decide) ?_
    refine at_cVi (As := [.int (60)]) ok ct_8_trial_261 dX8_trial_31 (by simp [cat_rf, cat_i, cat_l]) (s8_triedAt t 60 _) h fun v31 σ h => ?_
    refine at_isub ok dX8_trial_34 ?_
    refine at_istore ok dX8_trial_35 (lc_int rfl) (by decide) ?_
    refine at_aloadn ok dX8_trial_37 rfl ?_
    refine at_iloadn ok dX8_trial_38 rfl ?_
    refine at_cVv (As := [.int (a1)]) ok ct_8_trial_243 dX8_trial_39 (by simp [cat_rf, cat_i, cat_l]) (s8_remove t a1 _) h fun v39 σ h => ?_
    refine at_iload ok dX8_trial_42 rfl ?_
    exact at_iret ok fn ⟨_, rfl, rfl⟩ dX8_trial_44 h
set_option maxRecDepth 100000 in
set_option maxHeartbeats 4000000 in
theorem s8_tried (t : Option Nat) (a1 : Int32) (a2 : Int32) (a3 : Int32) (a4 : Int32) (a5 : Int32) (a6 : Int32) (σ : AH) (Q : Int32 → AH → Prop) (h : Hr (f8_tried t a1 a2 a3 a4 a5 a6) σ Q) : Runs m8_tried σ [va_rf t, .int (a1), .int (a2), .int (a3), .int (a4), .int (a5), .int (a6)] (fun v σ1 => ∃ a, v = some (.int a) ∧ Q a σ1) := by
  obtain ⟨a0, σ1, e, hQ⟩ := h
  have hm := n8_tried t a1 a2 a3 a4 a5 a6 σ a0 σ1 e
  have h : Hr (f8_tried t a1 a2 a3 a4 a5 a6) σ (fun a σ2 => a = a0 ∧ σ2 = σ1) := ⟨a0, σ1, e, rfl, rfl⟩
  refine ⟨_, σ1, hm, ⟨a0, rfl, hQ⟩, runs_of (by decide +kernel) (by simp [cat_rf, cat_i, cat_l]) (Nat.le_of_ble_eq_true rfl) hm fun X ok fn => ?_⟩
  clear e hQ hm
  unfold f8_tried at h
  show AT X m8_tried 0 [some (va_rf (t)), some (.int (a1)), some (.int (a2)), some (.int (a3)), some (.int (a4)), some (.int (a5)), some (.int (a6)), none] [] σ
  refine at_aloadn ok dX8_tried_0 rfl ?_
  refine at_iloadn ok dX8_tried_1 rfl ?_
  refine at_iloadn ok dX8_tried_2 rfl ?_
  refine at_iloadn ok dX8_tried_3 rfl ?_
  refine at_iload ok dX8_tried_4 rfl ?_
  refine at_iload ok dX8_tried_6 rfl ?_
  refine at_cVi (As := [.int (a1), .int (a2), .int (a3), .int (a4), .int (a5)]) ok ct_8_tried_235 dX8_tried_8 (by simp [cat_rf, cat_i, cat_l]) (s8_isRule t a1 a2 a3 a4 a5 _) h fun v8 σ h => ?_
  refine bt_if_eq (tgt := 19) ok dX8_tried_11 (by decide) h (fun hc h => ?_) (fun hc h => ?_)
  · refine at_iconst (v := (-1)) ok dX8_tried_19 (by decide) ?_
    exact at_iret ok fn ⟨_, rfl, rfl⟩ dX8_tried_20 h
  · refine at_iload ok dX8_tried_14 rfl ?_
    refine bt_if_ge (tgt := 21) ok dX8_tried_16 (by decide) h (fun hc h => ?_) (fun hc h => ?_)
    · refine at_aloadn ok dX8_tried_21 rfl ?_
      refine at_iloadn ok dX8_tried_22 rfl ?_
      refine at_iloadn ok dX8_tried_23 rfl ?_
      refine at_iloadn ok dX8_tried_24 rfl ?_
      refine at_iload ok dX8_tried_25 rfl ?_
      refine at_iload ok dX8_tried_27 rfl ?_
      refine at_cVv (As := [.int (a1), .int (a2), .int (a3), .int (a4), .int (a5)]) ok ct_8_tried_239 dX8_tried_29 (by simp [cat_rf, cat_i, cat_l]) (s8_insert t a1 a2 a3 a4 a5 _) h fun v29 σ h => ?_
      refine at_aloadn ok dX8_tried_32 rfl ?_
      refine at_iload ok dX8_tried_33 rfl ?_
      refine at_cVi (As := [.int (a6)]) ok ct_8_tried_261 dX8_tried_35 (by simp [cat_rf, cat_i, cat_l]) (s8_triedAt t a6 _) h fun v35 σ h => ?_
      refine at_istore ok dX8_tried_38 (lc_int rfl) (by decide) ?_
      refine at_aloadn ok dX8_tried_40 rfl ?_
      refine at_iloadn ok dX8_tried_41 rfl ?_
      refine at_cVv (As := [.int (a1)]) ok ct_8_tried_243 dX8_tried_42 (by simp [cat_rf, cat_i, cat_l]) (s8_remove t a1 _) h fun v42 σ h => ?_
      refine at_iconst (v := (-1)) ok dX8_tried_45 (by decide) ?_
      refine at_iload ok dX8_tried_46 rfl ?_
      refine at_mmax wd_995 wd_51 wd_4 wd_52 (by decide) (by simp [cat_rf, cat_i, cat_l]) ok dX8_tried_48 ?_
      exact at_iret ok fn ⟨_, rfl, rfl⟩ dX8_tried_51 h
    · refine at_iconst (v := (-1)) ok dX8_tried_19 (by decide) ?_
      exact at_iret ok fn ⟨_, rfl, rfl⟩ dX8_tried_20 h
set_option maxRecDepth 100000 in
set_option maxHeartbeats 4000000 in
theorem s8_words (t : Option Nat) (σ : AH) (Q : Int32 → AH → Prop) (h : Hr (f8_words t) σ Q) : Runs m8_words σ [va_rf t] (fun v σ1 => ∃ a, v = some (.int a) ∧ Q a σ1) := by
  obtain ⟨a0, σ1, e, hQ⟩ := h
  have hm := n8_words t σ a0 σ1 e
  have h : Hr (f8_words t) σ (fun a σ2 => a = a0 ∧ σ2 = σ1) := ⟨a0, σ1, e, rfl, rfl⟩
  refine ⟨_, σ1, hm, ⟨a0, rfl, hQ⟩, runs_of (by decide +kernel) (by simp [cat_rf, cat_i, cat_l]) (Nat.le_of_ble_eq_true rfl) hm fun X ok fn => ?_⟩
  clear e hQ hm
  unfold f8_words at h
  show AT X m8_words 0 [some (va_rf (t))] [] σ
  refine at_aloadn ok dX8_words_0 rfl ?_
  refine at_aloadn ok dX8_words_1 rfl ?_
  refine at_getR ok gf_8_9 dX8_words_2 h fun v2 h => ?_
  refine at_iconst (v := 0) ok dX8_words_5 (by decide) ?_
  refine at_aloadn ok dX8_words_6 rfl ?_
  refine at_getI ok gf_8_140 dX8_words_7 h fun v7 h => ?_
  refine at_cVv (As := [va_rf (v2), .int (0), .int (v7)]) ok ct_8_words_179 dX8_words_10 (by simp [cat_rf, cat_i, cat_l]) (s8_read t v2 0 v7 _) h fun v10 σ h => ?_
  refine at_aloadn ok dX8_words_13 rfl ?_
  refine at_getI ok gf_8_160 dX8_words_14 h fun v14 h => ?_
  exact at_iret ok fn ⟨_, rfl, rfl⟩ dX8_words_17 h
