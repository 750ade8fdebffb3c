set_option maxRecDepth 100000 in
set_option maxHeartbeats 4000000 in
theorem s8_found_ (t : Option Nat) (a1 : Int32) (a2 : Int32) (a3 : Int32) (σ : AH) (Q : Int32 → AH → Prop) (h : Hr (f8_found_ t a1 a2 a3) σ Q) : Runs m8_found_ σ [va_rf t, .int (a1), .int (a2), .int (a3)] (fun v σ1 => ∃ a, v = some (.int a) ∧ Q a σ1) := by
  obtain ⟨a0, σ1, e, hQ⟩ := h
  have hm := n8_found_ t a1 a2 a3 σ a0 σ1 e
  have h : Hr (f8_found_ t a1 a2 a3) σ (fun a σ2 => a = a0 ∧ σ2 = σ1) := ⟨a0, σ1, e, rfl, rfl⟩
  refine ⟨_, σ1, hm, ⟨a0, rfl, hQ⟩, runs_of (by decide +kernel) (by simp [cat_rf, cat_i, cat_l]) (Nat.le_of_ble_eq_true rfl) hm fun X ok fn => ?_⟩
  clear e hQ hm
  unfold f8_found_ at h
  show AT X m8_found_ 0 [some (va_rf (t)), some (.int (a1)), some (.int (a2)), some (.int (a3)), none] [] σ
  refine at_aloadn ok dX8_found__0 rfl ?_
  refine at_iloadn ok dX8_found__1 rfl ?_
  refine at_cVi (As := [.int (a1)]) ok ct_8_found__255 dX8_found__2 (by simp [cat_rf, cat_i, cat_l]) (s8_isLetter t a1 _) h fun v2 σ h => ?_
  refine bt_if_eq (tgt := 24) ok dX8_found__5 (by decide) h (fun hc h => ?_) (fun hc h => ?_)
  · refine at_iconst (v := (-1)) ok dX8_found__24 (by decide) ?_
    exact at_iret ok fn ⟨_, rfl, rfl⟩ dX8_found__25 h
  · refine at_iloadn ok dX8_found__8 rfl ?_
    refine at_iconst (v := 0) ok dX8_found__9 (by decide) ?_
    refine at_aloadn ok dX8_found__10 rfl ?_
    refine at_getR ok gf_8_104 dX8_found__11 h fun v11 h => ?_
    refine at_iloadn ok dX8_found__14 rfl ?_
    refine at_iald ok dX8_found__15 h fun v15 h => ?_
    refine at_iconst (v := 1) ok dX8_found__16 (by decide) ?_
    refine at_isub ok dX8_found__17 ?_
    refine at_cSi (As := [.int (a2), .int (0), .int ((v15 - 1))]) ok ct_8_found__128 dX8_found__18 (by simp [cat_rf, cat_i, cat_l]) (s8_in a2 0 (v15 - 1) _) h fun v18 σ h => ?_
    refine bt_if_ne (tgt := 26) ok dX8_found__21 (by decide) h (fun hc h => ?_) (fun hc h => ?_)
    · refine at_iconst (v := (-1)) ok dX8_found__24 (by decide) ?_
      exact at_iret ok fn ⟨_, rfl, rfl⟩ dX8_found__25 h
    · refine at_aloadn ok dX8_found__26 rfl ?_
      refine at_getR ok gf_8_101 dX8_found__27 h fun v27 h => ?_
      refine at_iloadn ok dX8_found__30 rfl ?_
      refine at_iald ok dX8_found__31 h fun v31 h => ?_
      refine at_iloadn ok dX8_found__32 rfl ?_
      refine at_iadd ok dX8_found__33 ?_
      refine at_istore ok dX8_found__34 (lc_int rfl) (by decide) ?_
      refine at_iloadn ok dX8_found__36 rfl ?_
      refine bt_if_ne (tgt := 50) ok dX8_found__37 (by decide) h (fun hc h => ?_) (fun hc h => ?_)
      · refine at_aloadn ok dX8_found__40 rfl ?_
        refine at_getR ok gf_8_107 dX8_found__41 h fun v41 h => ?_
        refine at_iload ok dX8_found__44 rfl ?_
        refine at_iald ok dX8_found__46 h fun v46 h => ?_
        refine at_goto (tgt := 81) ok dX8_found__47 (by decide) ?_
        exact at_iret ok fn ⟨_, rfl, rfl⟩ dX8_found__81 h
      · refine at_iloadn ok dX8_found__50 rfl ?_
        refine at_iconst (v := 1) ok dX8_found__51 (by decide) ?_
        refine bt_icmp_ne (tgt := 65) ok dX8_found__52 (by decide) h (fun hc h => ?_) (fun hc h => ?_)
        · refine at_aloadn ok dX8_found__55 rfl ?_
          refine at_getR ok gf_8_110 dX8_found__56 h fun v56 h => ?_
          refine at_iload ok dX8_found__59 rfl ?_
          refine at_iald ok dX8_found__61 h fun v61 h => ?_
          refine at_goto (tgt := 81) ok dX8_found__62 (by decide) ?_
          exact at_iret ok fn ⟨_, rfl, rfl⟩ dX8_found__81 h
        · refine at_iloadn ok dX8_found__65 rfl ?_
          refine at_iconst (v := 2) ok dX8_found__66 (by decide) ?_
          refine bt_icmp_ne (tgt := 80) ok dX8_found__67 (by decide) h (fun hc h => ?_) (fun hc h => ?_)
          · refine at_aloadn ok dX8_found__70 rfl ?_
            refine at_getR ok gf_8_113 dX8_found__71 h fun v71 h => ?_
            refine at_iload ok dX8_found__74 rfl ?_
            refine at_iald ok dX8_found__76 h fun v76 h => ?_
            refine at_goto (tgt := 81) ok dX8_found__77 (by decide) ?_
            exact at_iret ok fn ⟨_, rfl, rfl⟩ dX8_found__81 h
          · refine at_iconst (v := (-1)) ok dX8_found__80 (by decide) ?_
            exact at_iret ok fn ⟨_, rfl, rfl⟩ dX8_found__81 h
set_option maxRecDepth 100000 in
set_option maxHeartbeats 4000000 in
theorem s8_isDigit (a1 : Int32) (σ : AH) (Q : Int32 → AH → Prop) (h : Hr (f8_isDigit a1) σ Q) : Runs m8_isDigit σ [.int (a1)] (fun v σ1 => ∃ a, v = some (.int a) ∧ Q a σ1) := by
  obtain ⟨a0, σ1, e, hQ⟩ := h
  have hm := n8_isDigit a1 σ a0 σ1 e
  have h : Hr (f8_isDigit a1) σ (fun a σ2 => a = a0 ∧ σ2 = σ1) := ⟨a0, σ1, e, rfl, rfl⟩
  refine ⟨_, σ1, hm, ⟨a0, rfl, hQ⟩, runs_of (by decide +kernel) (by simp [cat_rf, cat_i, cat_l]) (Nat.le_of_ble_eq_true rfl) hm fun X ok fn => ?_⟩
  clear e hQ hm
  unfold f8_isDigit at h
  show AT X m8_isDigit 0 [some (.int (a1))] [] σ
  refine at_iloadn ok dX8_isDigit_0 rfl ?_
  refine at_bipush (v := 48) ok dX8_isDigit_1 (by decide) ?_
  refine bt_icmp_lt (tgt := 16) ok dX8_isDigit_3 (by decide) h (fun hc h => ?_) (fun hc h => ?_)
  · refine at_iconst (v := 0) ok dX8_isDigit_16 (by decide) ?_
    exact at_iret ok fn ⟨_, rfl, rfl⟩ dX8_isDigit_17 h
  · refine at_iloadn ok dX8_isDigit_6 rfl ?_
    refine at_bipush (v := 57) ok dX8_isDigit_7 (by decide) ?_
    refine bt_icmp_gt (tgt := 16) ok dX8_isDigit_9 (by decide) h (fun hc h => ?_) (fun hc h => ?_)
    · refine at_iconst (v := 0) ok dX8_isDigit_16 (by decide) ?_
      exact at_iret ok fn ⟨_, rfl, rfl⟩ dX8_isDigit_17 h
    · refine at_iconst (v := 1) ok dX8_isDigit_12 (by decide) ?_
      refine at_goto (tgt := 17) ok dX8_isDigit_13 (by decide) ?_
      exact at_iret ok fn ⟨_, rfl, rfl⟩ dX8_isDigit_17 h
set_option maxRecDepth 100000 in
set_option maxHeartbeats 4000000 in
theorem s8_small (a1 : Int32) (σ : AH) (Q : Int32 → AH → Prop) (h : Hr (f8_small a1) σ Q) : Runs m8_small σ [.int (a1)] (fun v σ1 => ∃ a, v = some (.int a) ∧ Q a σ1) := by
  obtain ⟨a0, σ1, e, hQ⟩ := h
  have hm := n8_small a1 σ a0 σ1 e
  have h : Hr (f8_small a1) σ (fun a σ2 => a = a0 ∧ σ2 = σ1) := ⟨a0, σ1, e, rfl, rfl⟩
  refine ⟨_, σ1, hm, ⟨a0, rfl, hQ⟩, runs_of (by decide +kernel) (by simp [cat_rf, cat_i, cat_l]) (Nat.le_of_ble_eq_true rfl) hm fun X ok fn => ?_⟩
  clear e hQ hm
  unfold f8_small at h
  show AT X m8_small 0 [some (.int (a1))] [] σ
  refine at_iloadn ok dX8_small_0 rfl ?_
  refine at_bipush (v := 65) ok dX8_small_1 (by decide) ?_
  refine bt_icmp_lt (tgt := 22) ok dX8_small_3 (by decide) h (fun hc h => ?_) (fun hc h => ?_)
  · refine at_iloadn ok dX8_small_22 rfl ?_
    exact at_iret ok fn ⟨_, rfl, rfl⟩ dX8_small_23 h
  · refine at_iloadn ok dX8_small_6 rfl ?_
    refine at_bipush (v := 90) ok dX8_small_7 (by decide) ?_
    refine bt_icmp_gt (tgt := 22) ok dX8_small_9 (by decide) h (fun hc h => ?_) (fun hc h => ?_)
    · refine at_iloadn ok dX8_small_22 rfl ?_
      exact at_iret ok fn ⟨_, rfl, rfl⟩ dX8_small_23 h
    · refine at_iloadn ok dX8_small_12 rfl ?_
      refine at_bipush (v := 65) ok dX8_small_13 (by decide) ?_
      refine at_isub ok dX8_small_15 ?_
      refine at_bipush (v := 97) ok dX8_small_16 (by decide) ?_
      refine at_iadd ok dX8_small_18 ?_
      refine at_goto (tgt := 23) ok dX8_small_19 (by decide) ?_
      exact at_iret ok fn ⟨_, rfl, rfl⟩ dX8_small_23 h
set_option maxRecDepth 100000 in
set_option maxHeartbeats 4000000 in
theorem s8_isSign (a1 : Int32) (σ : AH) (Q : Int32 → AH → Prop) (h : Hr (f8_isSign a1) σ Q) : Runs m8_isSign σ [.int (a1)] (fun v σ1 => ∃ a, v = some (.int a) ∧ Q a σ1) := by
  obtain ⟨a0, σ1, e, hQ⟩ := h
  have hm := n8_isSign a1 σ a0 σ1 e
  have h : Hr (f8_isSign a1) σ (fun a σ2 => a = a0 ∧ σ2 = σ1) := ⟨a0, σ1, e, rfl, rfl⟩
  refine ⟨_, σ1, hm, ⟨a0, rfl, hQ⟩, runs_of (by decide +kernel) (by simp [cat_rf, cat_i, cat_l]) (Nat.le_of_ble_eq_true rfl) hm fun X ok fn => ?_⟩
  clear e hQ hm
  unfold f8_isSign at h
  show AT X m8_isSign 0 [some (.int (a1)), none] [] σ
  refine at_iloadn ok dX8_isSign_0 rfl ?_
  refine at_cSi (As := [.int (a1)]) ok ct_8_isSign_150 dX8_isSign_1 (by simp [cat_rf, cat_i, cat_l]) (s8_small a1 _) h fun v1 σ h => ?_
  refine at_istoren ok dX8_isSign_4 rfl (lc_int rfl) (by decide) ?_
  refine at_iloadn ok dX8_isSign_5 rfl ?_
  refine at_bipush (v := 97) ok dX8_isSign_6 (by decide) ?_
  refine at_joinS (fun y17 σ => AT X m8_isSign 17 [some (.int (a1)), none] [] σ) h (fun y17 σ h => ?_) (fun h j17 => ?_)
  · refine at_iloadn ok dX8_isSign_17 rfl ?_
    refine at_cSi (As := [.int (a1)]) ok ct_8_isSign_153 dX8_isSign_18 (by simp [cat_rf, cat_i, cat_l]) (s8_isDigit a1 _) h fun v18 σ h => ?_
    refine bt_if_eq (tgt := 28) ok dX8_isSign_21 (by decide) h (fun hc h => ?_) (fun hc h => ?_)
    · refine at_iconst (v := 0) ok dX8_isSign_28 (by decide) ?_
      exact at_iret ok fn ⟨_, rfl, rfl⟩ dX8_isSign_29 h
    · refine at_iconst (v := 1) ok dX8_isSign_24 (by decide) ?_
      refine at_goto (tgt := 29) ok dX8_isSign_25 (by decide) ?_
      exact at_iret ok fn ⟨_, rfl, rfl⟩ dX8_isSign_29 h
  · refine bt_icmp_lt (tgt := 17) ok dX8_isSign_8 (by decide) h (fun hc h => ?_) (fun hc h => ?_)
    · exact at_weak (lw_s (lw_n lw_0)) (by have z := hr_inr h; exact j17 () _ z)
    · refine at_iloadn ok dX8_isSign_11 rfl ?_
      refine at_bipush (v := 122) ok dX8_isSign_12 (by decide) ?_
      refine bt_icmp_le (tgt := 24) ok dX8_isSign_14 (by decide) h (fun hc h => ?_) (fun hc h => ?_)
      · refine at_iconst (v := 1) ok dX8_isSign_24 (by decide) ?_
        refine at_goto (tgt := 29) ok dX8_isSign_25 (by decide) ?_
        exact at_iret ok fn ⟨_, rfl, rfl⟩ dX8_isSign_29 (hr_inl h)
      · exact at_weak (lw_s (lw_n lw_0)) (by have z := hr_inr h; exact j17 () _ z)
set_option maxRecDepth 100000 in
set_option maxHeartbeats 4000000 in
theorem s8_hex (a1 : Int32) (σ : AH) (Q : Int32 → AH → Prop) (h : Hr (f8_hex a1) σ Q) : Runs m8_hex σ [.int (a1)] (fun v σ1 => ∃ a, v = some (.int a) ∧ Q a σ1) := by
  obtain ⟨a0, σ1, e, hQ⟩ := h
  have hm := n8_hex a1 σ a0 σ1 e
  have h : Hr (f8_hex a1) σ (fun a σ2 => a = a0 ∧ σ2 = σ1) := ⟨a0, σ1, e, rfl, rfl⟩
  refine ⟨_, σ1, hm, ⟨a0, rfl, hQ⟩, runs_of (by decide +kernel) (by simp [cat_rf, cat_i, cat_l]) (Nat.le_of_ble_eq_true rfl) hm fun X ok fn => ?_⟩
  clear e hQ hm
  unfold f8_hex at h
  show AT X m8_hex 0 [some (.int (a1))] [] σ
  refine at_iloadn ok dX8_hex_0 rfl ?_
  refine at_bipush (v := 48) ok dX8_hex_1 (by decide) ?_
  refine at_joinS (fun y17 σ => AT X m8_hex 17 [some (.int (a1))] [] σ) h (fun y17 σ h => ?_) (fun h j17 => ?_)
  · refine at_iloadn ok dX8_hex_17 rfl ?_
    refine at_bipush (v := 97) ok dX8_hex_18 (by decide) ?_
    refine at_joinS (fun y37 σ => AT X m8_hex 37 [some (.int (a1))] [] σ) h (fun y37 σ h => ?_) (fun h j37 => ?_)
    · refine at_iloadn ok dX8_hex_37 rfl ?_
      refine at_bipush (v := 65) ok dX8_hex_38 (by decide) ?_
      refine bt_icmp_lt (tgt := 59) ok dX8_hex_40 (by decide) h (fun hc h => ?_) (fun hc h => ?_)
      · refine at_iconst (v := (-1)) ok dX8_hex_59 (by decide) ?_
        exact at_iret ok fn ⟨_, rfl, rfl⟩ dX8_hex_60 h
      · refine at_iloadn ok dX8_hex_43 rfl ?_
        refine at_bipush (v := 70) ok dX8_hex_44 (by decide) ?_
        refine bt_icmp_gt (tgt := 59) ok dX8_hex_46 (by decide) h (fun hc h => ?_) (fun hc h => ?_)
        · refine at_iconst (v := (-1)) ok dX8_hex_59 (by decide) ?_
          exact at_iret ok fn ⟨_, rfl, rfl⟩ dX8_hex_60 h
        · refine at_iloadn ok dX8_hex_49 rfl ?_
          refine at_bipush (v := 65) ok dX8_hex_50 (by decide) ?_
          refine at_isub ok dX8_hex_52 ?_
          refine at_bipush (v := 10) ok dX8_hex_53 (by decide) ?_
          refine at_iadd ok dX8_hex_55 ?_
          refine at_goto (tgt := 60) ok dX8_hex_56 (by decide) ?_
          exact at_iret ok fn ⟨_, rfl, rfl⟩ dX8_hex_60 h
    · refine bt_icmp_lt (tgt := 37) ok dX8_hex_20 (by decide) h (fun hc h => ?_) (fun hc h => ?_)
      · exact at_weak (lw_s lw_0) (by have z := hr_inr h; exact j37 () _ z)
      · refine at_iloadn ok dX8_hex_23 rfl ?_
        refine at_bipush (v := 102) ok dX8_hex_24 (by decide) ?_
        refine bt_icmp_gt (tgt := 37) ok dX8_hex_26 (by decide) h (fun hc h => ?_) (fun hc h => ?_)
        · exact at_weak (lw_s lw_0) (by have z := hr_inr h; exact j37 () _ z)
        · refine at_iloadn ok dX8_hex_29 rfl ?_
          refine at_bipush (v := 97) ok dX8_hex_30 (by decide) ?_
          refine at_isub ok dX8_hex_32 ?_
          refine at_bipush (v := 10) ok dX8_hex_33 (by decide) ?_
          refine at_iadd ok dX8_hex_35 ?_
          exact at_iret ok fn ⟨_, rfl, rfl⟩ dX8_hex_36 (hr_inl h)
  · refine bt_icmp_lt (tgt := 17) ok dX8_hex_3 (by decide) h (fun hc h => ?_) (fun hc h => ?_)
    · exact at_weak (lw_s lw_0) (by have z := hr_inr h; exact j17 () _ z)
    · refine at_iloadn ok dX8_hex_6 rfl ?_
      refine at_bipush (v := 57) ok dX8_hex_7 (by decide) ?_
      refine bt_icmp_gt (tgt := 17) ok dX8_hex_9 (by decide) h (fun hc h => ?_) (fun hc h => ?_)
      · exact at_weak (lw_s lw_0) (by have z := hr_inr h; exact j17 () _ z)
      · refine at_iloadn ok dX8_hex_12 rfl ?_
        refine at_bipush (v := 48) ok dX8_hex_13 (by decide) ?_
        refine at_isub ok dX8_hex_15 ?_
        exact at_iret ok fn ⟨_, rfl, rfl⟩ dX8_hex_16 (hr_inl h)
set_option maxRecDepth 100000 in
set_option maxHeartbeats 4000000 in
theorem s8_pass (t : Option Nat) (σ : AH) (Q : Unit → AH → Prop) (h : Hr (f8_pass t) σ Q) : Runs m8_pass σ [va_rf t] (fun v σ1 => ∃ a, v = none ∧ Q a σ1) := by
  obtain ⟨a0, σ1, e, hQ⟩ := h
  have hm := n8_pass t σ a0 σ1 e
  have h : Hr (f8_pass t) σ (fun a σ2 => a = a0 ∧ σ2 = σ1) := ⟨a0, σ1, e, rfl, rfl⟩
  refine ⟨_, σ1, hm, ⟨a0, rfl, hQ⟩, runs_of (by decide +kernel) (by simp [cat_rf, cat_i, cat_l]) (Nat.le_of_ble_eq_true rfl) hm fun X ok fn => ?_⟩
  clear e hQ hm
  unfold f8_pass at h
  show AT X m8_pass 0 [some (va_rf (t)), none, none, none, none, none, none] [] σ
  refine at_iconst (v := 0) ok dX8_pass_0 (by decide) ?_
  refine at_istoren ok dX8_pass_1 rfl (lc_ref rfl) (by decide) ?_
  refine at_iconst (v := 0) ok dX8_pass_2 (by decide) ?_
  refine at_istoren ok dX8_pass_3 rfl (lc_int rfl) (by decide) ?_
  refine at_weak (L' := [some (va_rf (t)), some (.int (0)), some (.int (0)), none, none, none, none]) (lw_s (lw_s (lw_s (lw_n (lw_n (lw_n (lw_n lw_0))))))) ?_
  refine at_loop (fun x4 σ => AT X m8_pass 4 [some (va_rf (t)), some (.int (x4.1)), some (.int (x4.2)), none, none, none, none] [] σ) (fun y183 σ => AT X m8_pass 183 [some (va_rf (t)), some (.int (y183)), none, none, none, none, none] [] σ) h (fun y183 σ h => ?_) (fun kx rec ih x4 σ h => ?_)
  · refine at_aloadn ok dX8_pass_183 rfl ?_
    refine at_iloadn ok dX8_pass_184 rfl ?_
    refine at_putI ok (pf_8_143 _) dX8_pass_185 h fun σ h => ?_
    exact at_vret ok fn rfl dX8_pass_188 h
  · unfold l8_pass_4 at h
    obtain ⟨x4_1, x4_2⟩ := x4
    dsimp only at h ⊢
    refine at_iloadn ok dX8_pass_4 rfl ?_
    refine at_aloadn ok dX8_pass_5 rfl ?_
    refine at_getI ok gf_8_143 dX8_pass_6 h fun v6 h => ?_
    refine bt_icmp_ge (tgt := 183) ok dX8_pass_9 (by decide) h (fun hc h => ?_) (fun hc h => ?_)
    · exact at_weak (lw_s (lw_s (lw_n (lw_n (lw_n (lw_n (lw_n lw_0))))))) (kx x4_1 _ (hr_rt.mp h))
    · refine at_aloadn ok dX8_pass_12 rfl ?_
      refine at_getR ok gf_8_13 dX8_pass_13 h fun v13 h => ?_
      refine at_iloadn ok dX8_pass_16 rfl ?_
      refine at_iald ok dX8_pass_17 h fun v17 h => ?_
      refine at_bipush (v := 37) ok dX8_pass_18 (by decide) ?_
      refine at_join (fun y68 σ => AT X m8_pass 68 [some (va_rf (t)), some (.int (x4_1)), some (.int (x4_2)), none, none, none, none] [.int (y68)] σ) h (fun y68 σ h => ?_) (fun h j68 => ?_)
      · refine at_istoren ok dX8_pass_68 rfl (lc_int rfl) (by decide) ?_
        refine at_iloadn ok dX8_pass_69 rfl ?_
        refine at_join (fun y108 σ => AT X m8_pass 108 [some (va_rf (t)), some (.int (x4_1)), some (.int (x4_2)), some (.int (y68)), none, none, none] [.int (y108)] σ) h (fun y108 σ h => ?_) (fun h j108 => ?_)
        · refine at_istore ok dX8_pass_108 (lc_int rfl) (by decide) ?_
          refine at_aloadn ok dX8_pass_110 rfl ?_
          refine at_getR ok gf_8_16 dX8_pass_111 h fun v111 h => ?_
          refine at_iloadn ok dX8_pass_114 rfl ?_
          refine at_iald ok dX8_pass_115 h fun v115 h => ?_
          refine at_istore ok dX8_pass_116 (lc_int rfl) (by decide) ?_
          refine at_iloadn ok dX8_pass_118 rfl ?_
          refine at_join (fun y139 σ => AT X m8_pass 139 [some (va_rf (t)), some (.int (x4_1)), some (.int (x4_2)), some (.int (y68)), some (.int (y108)), some (.int (v115)), none] [.int (y139)] σ) h (fun y139 σ h => ?_) (fun h j139 => ?_)
          · refine at_istore ok dX8_pass_139 (lc_int rfl) (by decide) ?_
            refine at_aloadn ok dX8_pass_141 rfl ?_
            refine at_getR ok gf_8_13 dX8_pass_142 h fun v142 h => ?_
            refine at_iloadn ok dX8_pass_145 rfl ?_
            refine at_iload ok dX8_pass_146 rfl ?_
            refine at_iast ok dX8_pass_148 h fun σ h => ?_
            refine at_aloadn ok dX8_pass_149 rfl ?_
            refine at_getR ok gf_8_16 dX8_pass_150 h fun v150 h => ?_
            refine at_iloadn ok dX8_pass_153 rfl ?_
            refine at_iload ok dX8_pass_154 rfl ?_
            refine at_iast ok dX8_pass_156 h fun σ h => ?_
            refine at_aloadn ok dX8_pass_157 rfl ?_
            refine at_getR ok gf_8_19 dX8_pass_158 h fun v158 h => ?_
            refine at_iloadn ok dX8_pass_161 rfl ?_
            refine at_iload ok dX8_pass_162 rfl ?_
            refine at_iast ok dX8_pass_164 h fun σ h => ?_
            refine at_iinc (v := x4_1 + 1) ok dX8_pass_165 rfl rfl (lc_ref rfl) (by decide) ?_
            refine at_iloadn ok dX8_pass_168 rfl ?_
            refine at_iloadn ok dX8_pass_169 rfl ?_
            refine bt_if_eq (tgt := 177) ok dX8_pass_170 (by decide) h (fun hc h => ?_) (fun hc h => ?_)
            · refine at_iconst (v := 1) ok dX8_pass_177 (by decide) ?_
              refine at_iadd ok dX8_pass_178 ?_
              refine at_istoren ok dX8_pass_179 rfl (lc_int rfl) (by decide) ?_
              refine at_goto (tgt := 4) ok dX8_pass_180 (by decide) ?_
              exact at_weak (lw_s (lw_s (lw_s (lw_n (lw_n (lw_n (lw_n lw_0))))))) (by have q := ih ((x4_1 + 1), (x4_2 + 1)) _ h; dsimp only at q; exact q)
            · refine at_iconst (v := 3) ok dX8_pass_173 (by decide) ?_
              refine at_goto (tgt := 178) ok dX8_pass_174 (by decide) ?_
              refine at_iadd ok dX8_pass_178 ?_
              refine at_istoren ok dX8_pass_179 rfl (lc_int rfl) (by decide) ?_
              refine at_goto (tgt := 4) ok dX8_pass_180 (by decide) ?_
              exact at_weak (lw_s (lw_s (lw_s (lw_n (lw_n (lw_n (lw_n lw_0))))))) (by have q := ih ((x4_1 + 1), (x4_2 + 3)) _ h; dsimp only at q; exact q)
          · refine bt_if_eq (tgt := 133) ok dX8_pass_119 (by decide) h (fun hc h => ?_) (fun hc h => ?_)
            · refine at_aloadn ok dX8_pass_133 rfl ?_
              refine at_getR ok gf_8_19 dX8_pass_134 h fun v134 h => ?_
              refine at_iloadn ok dX8_pass_137 rfl ?_
              refine at_iald ok dX8_pass_138 h fun v138 h => ?_
              exact at_weak (lw_s (lw_s (lw_s (lw_s (lw_s (lw_s (lw_n lw_0))))))) (j139 v138 _ (hr_rt.mp h))
            · refine at_aloadn ok dX8_pass_122 rfl ?_
              refine at_getR ok gf_8_19 dX8_pass_123 h fun v123 h => ?_
              refine at_iloadn ok dX8_pass_126 rfl ?_
              refine at_iconst (v := 2) ok dX8_pass_127 (by decide) ?_
              refine at_iadd ok dX8_pass_128 ?_
              refine at_iald ok dX8_pass_129 h fun v129 h => ?_
              refine at_goto (tgt := 139) ok dX8_pass_130 (by decide) ?_
              exact at_weak (lw_s (lw_s (lw_s (lw_s (lw_s (lw_s (lw_n lw_0))))))) (j139 v129 _ (hr_rt.mp h))
        · refine bt_if_eq (tgt := 102) ok dX8_pass_70 (by decide) h (fun hc h => ?_) (fun hc h => ?_)
          · refine at_aloadn ok dX8_pass_102 rfl ?_
            refine at_getR ok gf_8_13 dX8_pass_103 h fun v103 h => ?_
            refine at_iloadn ok dX8_pass_106 rfl ?_
            refine at_iald ok dX8_pass_107 h fun v107 h => ?_
            exact at_weak (lw_s (lw_s (lw_s (lw_s (lw_n (lw_n (lw_n lw_0))))))) (j108 v107 _ (hr_rt.mp h))
          · refine at_bipush (v := 16) ok dX8_pass_73 (by decide) ?_
            refine at_aloadn ok dX8_pass_75 rfl ?_
            refine at_getR ok gf_8_13 dX8_pass_76 h fun v76 h => ?_
            refine at_iloadn ok dX8_pass_79 rfl ?_
            refine at_iconst (v := 1) ok dX8_pass_80 (by decide) ?_
            refine at_iadd ok dX8_pass_81 ?_
            refine at_iald ok dX8_pass_82 h fun v82 h => ?_
            refine at_cSi (As := [.int (v82)]) ok ct_8_pass_146 dX8_pass_83 (by simp [cat_rf, cat_i, cat_l]) (s8_hex v82 _) h fun v83 σ h => ?_
            refine at_imul ok dX8_pass_86 ?_
            refine at_aloadn ok dX8_pass_87 rfl ?_
            refine at_getR ok gf_8_13 dX8_pass_88 h fun v88 h => ?_
            refine at_iloadn ok dX8_pass_91 rfl ?_
            refine at_iconst (v := 2) ok dX8_pass_92 (by decide) ?_
            refine at_iadd ok dX8_pass_93 ?_
            refine at_iald ok dX8_pass_94 h fun v94 h => ?_
            refine at_cSi (As := [.int (v94)]) ok ct_8_pass_146 dX8_pass_95 (by simp [cat_rf, cat_i, cat_l]) (s8_hex v94 _) h fun v95 σ h => ?_
            refine at_iadd ok dX8_pass_98 ?_
            refine at_goto (tgt := 108) ok dX8_pass_99 (by decide) ?_
            exact at_weak (lw_s (lw_s (lw_s (lw_s (lw_n (lw_n (lw_n lw_0))))))) (j108 ((16 * v83) + v95) _ (hr_rt.mp h))
      · refine bt_icmp_ne (tgt := 67) ok dX8_pass_20 (by decide) h (fun hc h => ?_) (fun hc h => ?_)
        · refine at_iloadn ok dX8_pass_23 rfl ?_
          refine at_iconst (v := 2) ok dX8_pass_24 (by decide) ?_
          refine at_iadd ok dX8_pass_25 ?_
          refine at_aloadn ok dX8_pass_26 rfl ?_
          refine at_getI ok gf_8_143 dX8_pass_27 h fun v27 h => ?_
          refine bt_icmp_ge (tgt := 67) ok dX8_pass_30 (by decide) h (fun hc h => ?_) (fun hc h => ?_)
          · refine at_iconst (v := 0) ok dX8_pass_67 (by decide) ?_
            exact at_weak (lw_s (lw_s (lw_s (lw_n (lw_n (lw_n (lw_n lw_0))))))) (j68 0 _ (hr_rt.mp h))
          · refine at_aloadn ok dX8_pass_33 rfl ?_
            refine at_getR ok gf_8_13 dX8_pass_34 h fun v34 h => ?_
            refine at_iloadn ok dX8_pass_37 rfl ?_
            refine at_iconst (v := 1) ok dX8_pass_38 (by decide) ?_
            refine at_iadd ok dX8_pass_39 ?_
            refine at_iald ok dX8_pass_40 h fun v40 h => ?_
            refine at_cSi (As := [.int (v40)]) ok ct_8_pass_146 dX8_pass_41 (by simp [cat_rf, cat_i, cat_l]) (s8_hex v40 _) h fun v41 σ h => ?_
            refine at_iconst (v := (-1)) ok dX8_pass_44 (by decide) ?_
            refine bt_icmp_eq (tgt := 67) ok dX8_pass_45 (by decide) h (fun hc h => ?_) (fun hc h => ?_)
            · refine at_iconst (v := 0) ok dX8_pass_67 (by decide) ?_
              exact at_weak (lw_s (lw_s (lw_s (lw_n (lw_n (lw_n (lw_n lw_0))))))) (j68 0 _ (hr_rt.mp h))
            · refine at_aloadn ok dX8_pass_48 rfl ?_
              refine at_getR ok gf_8_13 dX8_pass_49 h fun v49 h => ?_
              refine at_iloadn ok dX8_pass_52 rfl ?_
              refine at_iconst (v := 2) ok dX8_pass_53 (by decide) ?_
              refine at_iadd ok dX8_pass_54 ?_
              refine at_iald ok dX8_pass_55 h fun v55 h => ?_
              refine at_cSi (As := [.int (v55)]) ok ct_8_pass_146 dX8_pass_56 (by simp [cat_rf, cat_i, cat_l]) (s8_hex v55 _) h fun v56 σ h => ?_
              refine at_iconst (v := (-1)) ok dX8_pass_59 (by decide) ?_
              refine bt_icmp_eq (tgt := 67) ok dX8_pass_60 (by decide) h (fun hc h => ?_) (fun hc h => ?_)
              · refine at_iconst (v := 0) ok dX8_pass_67 (by decide) ?_
                exact at_weak (lw_s (lw_s (lw_s (lw_n (lw_n (lw_n (lw_n lw_0))))))) (j68 0 _ (hr_rt.mp h))
              · refine at_iconst (v := 1) ok dX8_pass_63 (by decide) ?_
                refine at_goto (tgt := 68) ok dX8_pass_64 (by decide) ?_
                exact at_weak (lw_s (lw_s (lw_s (lw_n (lw_n (lw_n (lw_n lw_0))))))) (j68 1 _ (hr_rt.mp h))
        · refine at_iconst (v := 0) ok dX8_pass_67 (by decide) ?_
          exact at_weak (lw_s (lw_s (lw_s (lw_n (lw_n (lw_n (lw_n lw_0))))))) (j68 0 _ (hr_rt.mp h))
set_option maxRecDepth 100000 in
set_option maxHeartbeats 4000000 in
theorem s8_isDigitAt (t : Option Nat) (a1 : Int32) (σ : AH) (Q : Int32 → AH → Prop) (h : Hr (f8_isDigitAt t a1) σ Q) : Runs m8_isDigitAt σ [va_rf t, .int (a1)] (fun v σ1 => ∃ a, v = some (.int a) ∧ Q a σ1) := by
  obtain ⟨a0, σ1, e, hQ⟩ := h
  have hm := n8_isDigitAt t a1 σ a0 σ1 e
  have h : Hr (f8_isDigitAt t a1) σ (fun a σ2 => a = a0 ∧ σ2 = σ1) := ⟨a0, σ1, e, rfl, rfl⟩
  refine ⟨_, σ1, hm, ⟨a0, rfl, hQ⟩, runs_of (by decide +kernel) (by simp [cat_rf, cat_i, cat_l]) (Nat.le_of_ble_eq_true rfl) hm fun X ok fn => ?_⟩
  clear e hQ hm
  unfold f8_isDigitAt at h
  show AT X m8_isDigitAt 0 [some (va_rf (t)), some (.int (a1))] [] σ
  refine at_iloadn ok dX8_isDigitAt_0 rfl ?_
  refine at_aloadn ok dX8_isDigitAt_1 rfl ?_
  refine at_getI ok gf_8_143 dX8_isDigitAt_2 h fun v2 h => ?_
  refine bt_icmp_ge (tgt := 24) ok dX8_isDigitAt_5 (by decide) h (fun hc h => ?_) (fun hc h => ?_)
  · refine at_iconst (v := 0) ok dX8_isDigitAt_24 (by decide) ?_
    exact at_iret ok fn ⟨_, rfl, rfl⟩ dX8_isDigitAt_25 h
  · refine at_aloadn ok dX8_isDigitAt_8 rfl ?_
    refine at_getR ok gf_8_13 dX8_isDigitAt_9 h fun v9 h => ?_
    refine at_iloadn ok dX8_isDigitAt_12 rfl ?_
    refine at_iald ok dX8_isDigitAt_13 h fun v13 h => ?_
    refine at_cSi (As := [.int (v13)]) ok ct_8_isDigitAt_153 dX8_isDigitAt_14 (by simp [cat_rf, cat_i, cat_l]) (s8_isDigit v13 _) h fun v14 σ h => ?_
    refine bt_if_eq (tgt := 24) ok dX8_isDigitAt_17 (by decide) h (fun hc h => ?_) (fun hc h => ?_)
    · refine at_iconst (v := 0) ok dX8_isDigitAt_24 (by decide) ?_
      exact at_iret ok fn ⟨_, rfl, rfl⟩ dX8_isDigitAt_25 h
    · refine at_iconst (v := 1) ok dX8_isDigitAt_20 (by decide) ?_
      refine at_goto (tgt := 25) ok dX8_isDigitAt_21 (by decide) ?_
      exact at_iret ok fn ⟨_, rfl, rfl⟩ dX8_isDigitAt_25 h
set_option maxRecDepth 100000 in
set_option maxHeartbeats 4000000 in
theorem s8_isNumber (t : Option Nat) (a1 : Int32) (a2 : Int32) (σ : AH) (Q : Int32 → AH → Prop) (h : Hr (f8_isNumber t a1 a2) σ Q) : Runs m8_isNumber σ [va_rf t, .int (a1), .int (a2)] (fun v σ1 => ∃ a, v = some (.int a) ∧ Q a σ1) := by
  obtain ⟨a0, σ1, e, hQ⟩ := h
  have hm := n8_isNumber t a1 a2 σ a0 σ1 e
  have h : Hr (f8_isNumber t a1 a2) σ (fun a σ2 => a = a0 ∧ σ2 = σ1) := ⟨a0, σ1, e, rfl, rfl⟩
  refine ⟨_, σ1, hm, ⟨a0, rfl, hQ⟩, runs_of (by decide +kernel) (by simp [cat_rf, cat_i, cat_l]) (Nat.le_of_ble_eq_true rfl) hm fun X ok fn => ?_⟩
  clear e hQ hm
  unfold f8_isNumber at h
  show AT X m8_isNumber 0 [some (va_rf (t)), some (.int (a1)), some (.int (a2)), none, none, none, none] [] σ
  refine at_iconst (v := 0) ok dX8_isNumber_0 (by decide) ?_
  refine at_istoren ok dX8_isNumber_1 rfl (lc_int rfl) (by decide) ?_
  refine at_iconst (v := 0) ok dX8_isNumber_2 (by decide) ?_
  refine at_istore ok dX8_isNumber_3 (lc_int rfl) (by decide) ?_
  refine at_iloadn ok dX8_isNumber_5 rfl ?_
  refine at_istore ok dX8_isNumber_6 (lc_int rfl) (by decide) ?_
  refine at_weak (L' := [some (va_rf (t)), some (.int (a1)), none, some (.int (0)), some (.int (0)), some (.int (a2)), none]) (lw_s (lw_s (lw_n (lw_s (lw_s (lw_s (lw_n lw_0))))))) ?_
  refine at_loop (fun x8 σ => AT X m8_isNumber 8 [some (va_rf (t)), some (.int (a1)), none, some (.int (x8.1)), some (.int (x8.2.1)), some (.int (x8.2.2)), none] [] σ) (fun y87 σ => AT X m8_isNumber 87 [none, none, none, some (.int (y87.1)), some (.int (y87.2)), none, none] [] σ) h (fun y87 σ h => ?_) (fun kx rec ih x8 σ h => ?_)
  · obtain ⟨y87_1, y87_2⟩ := y87
    dsimp only at h ⊢
    refine at_iloadn ok dX8_isNumber_87 rfl ?_
    refine at_bipush (v := 8) ok dX8_isNumber_88 (by decide) ?_
    refine bt_icmp_lt (tgt := 111) ok dX8_isNumber_90 (by decide) h (fun hc h => ?_) (fun hc h => ?_)
    · refine at_iconst (v := 0) ok dX8_isNumber_111 (by decide) ?_
      exact at_iret ok fn ⟨_, rfl, rfl⟩ dX8_isNumber_112 h
    · refine at_iloadn ok dX8_isNumber_93 rfl ?_
      refine at_bipush (v := 16) ok dX8_isNumber_94 (by decide) ?_
      refine bt_icmp_gt (tgt := 111) ok dX8_isNumber_96 (by decide) h (fun hc h => ?_) (fun hc h => ?_)
      · refine at_iconst (v := 0) ok dX8_isNumber_111 (by decide) ?_
        exact at_iret ok fn ⟨_, rfl, rfl⟩ dX8_isNumber_112 h
      · refine at_iload ok dX8_isNumber_99 rfl ?_
        refine at_bipush (v := 10) ok dX8_isNumber_101 (by decide) ?_
        refine at_irem ok dX8_isNumber_103 (by decide) ?_
        refine bt_if_ne (tgt := 111) ok dX8_isNumber_104 (by decide) h (fun hc h => ?_) (fun hc h => ?_)
        · refine at_iconst (v := 1) ok dX8_isNumber_107 (by decide) ?_
          refine at_goto (tgt := 112) ok dX8_isNumber_108 (by decide) ?_
          exact at_iret ok fn ⟨_, rfl, rfl⟩ dX8_isNumber_112 h
        · refine at_iconst (v := 0) ok dX8_isNumber_111 (by decide) ?_
          exact at_iret ok fn ⟨_, rfl, rfl⟩ dX8_isNumber_112 h
  · unfold l8_isNumber_8 at h
    obtain ⟨x8_1, x8_2, x8_3⟩ := x8
    dsimp only at h ⊢
    refine at_iload ok dX8_isNumber_8 rfl ?_
    refine at_iloadn ok dX8_isNumber_10 rfl ?_
    refine bt_icmp_lt (tgt := 87) ok dX8_isNumber_11 (by decide) h (fun hc h => ?_) (fun hc h => ?_)
    · exact at_weak (lw_n (lw_n (lw_n (lw_s (lw_s (lw_n (lw_n lw_0))))))) (by have q := kx (x8_1, x8_2) _ (hr_rt.mp h); dsimp only at q; exact q)
    · refine at_aloadn ok dX8_isNumber_14 rfl ?_
      refine at_getR ok gf_8_13 dX8_isNumber_15 h fun v15 h => ?_
      refine at_iload ok dX8_isNumber_18 rfl ?_
      refine at_iald ok dX8_isNumber_20 h fun v20 h => ?_
      refine at_cSi (As := [.int (v20)]) ok ct_8_isNumber_153 dX8_isNumber_21 (by simp [cat_rf, cat_i, cat_l]) (s8_isDigit v20 _) h fun v21 σ h => ?_
      refine bt_if_eq (tgt := 81) ok dX8_isNumber_24 (by decide) h (fun hc h => ?_) (fun hc h => ?_)
      · refine at_iinc (v := x8_3 + (-1)) ok dX8_isNumber_81 rfl rfl (lc_int rfl) (by decide) ?_
        refine at_goto (tgt := 8) ok dX8_isNumber_84 (by decide) ?_
        exact at_weak (lw_s (lw_s (lw_n (lw_s (lw_s (lw_s (lw_n lw_0))))))) (by have q := ih (x8_1, x8_2, (x8_3 + (-1))) _ h; dsimp only at q; exact q)
      · refine at_aloadn ok dX8_isNumber_27 rfl ?_
        refine at_getR ok gf_8_13 dX8_isNumber_28 h fun v28 h => ?_
        refine at_iload ok dX8_isNumber_31 rfl ?_
        refine at_iald ok dX8_isNumber_33 h fun v33 h => ?_
        refine at_bipush (v := 48) ok dX8_isNumber_34 (by decide) ?_
        refine at_isub ok dX8_isNumber_36 ?_
        refine at_istore ok dX8_isNumber_37 (lc_int rfl) (by decide) ?_
        refine at_iloadn ok dX8_isNumber_39 rfl ?_
        refine at_iconst (v := 2) ok dX8_isNumber_40 (by decide) ?_
        refine at_irem ok dX8_isNumber_41 (by decide) ?_
        refine at_iconst (v := 1) ok dX8_isNumber_42 (by decide) ?_
        refine bt_icmp_ne (tgt := 71) ok dX8_isNumber_43 (by decide) h (fun hc h => ?_) (fun hc h => ?_)
        · refine at_iconst (v := 2) ok dX8_isNumber_46 (by decide) ?_
          refine at_iload ok dX8_isNumber_47 rfl ?_
          refine at_imul ok dX8_isNumber_49 ?_
          refine at_bipush (v := 9) ok dX8_isNumber_50 (by decide) ?_
          refine bt_icmp_le (tgt := 65) ok dX8_isNumber_52 (by decide) h (fun hc h => ?_) (fun hc h => ?_)
          · refine at_iconst (v := 2) ok dX8_isNumber_65 (by decide) ?_
            refine at_iload ok dX8_isNumber_66 rfl ?_
            refine at_imul ok dX8_isNumber_68 ?_
            refine at_istore ok dX8_isNumber_69 (lc_int rfl) (by decide) ?_
            refine at_iload ok dX8_isNumber_71 rfl ?_
            refine at_iload ok dX8_isNumber_73 rfl ?_
            refine at_iadd ok dX8_isNumber_75 ?_
            refine at_istore ok dX8_isNumber_76 (lc_int rfl) (by decide) ?_
            refine at_iinc (v := x8_1 + 1) ok dX8_isNumber_78 rfl rfl (lc_non rfl) (by decide) ?_
            refine at_iinc (v := x8_3 + (-1)) ok dX8_isNumber_81 rfl rfl (lc_int rfl) (by decide) ?_
            refine at_goto (tgt := 8) ok dX8_isNumber_84 (by decide) ?_
            exact at_weak (lw_s (lw_s (lw_n (lw_s (lw_s (lw_s (lw_n lw_0))))))) (by have q := ih ((x8_1 + 1), (x8_2 + (2 * (v33 - 48))), (x8_3 + (-1))) _ h; dsimp only at q; exact q)
          · refine at_iconst (v := 2) ok dX8_isNumber_55 (by decide) ?_
            refine at_iload ok dX8_isNumber_56 rfl ?_
            refine at_imul ok dX8_isNumber_58 ?_
            refine at_bipush (v := 9) ok dX8_isNumber_59 (by decide) ?_
            refine at_isub ok dX8_isNumber_61 ?_
            refine at_goto (tgt := 69) ok dX8_isNumber_62 (by decide) ?_
            refine at_istore ok dX8_isNumber_69 (lc_int rfl) (by decide) ?_
            refine at_iload ok dX8_isNumber_71 rfl ?_
            refine at_iload ok dX8_isNumber_73 rfl ?_
            refine at_iadd ok dX8_isNumber_75 ?_
            refine at_istore ok dX8_isNumber_76 (lc_int rfl) (by decide) ?_
            refine at_iinc (v := x8_1 + 1) ok dX8_isNumber_78 rfl rfl (lc_non rfl) (by decide) ?_
            refine at_iinc (v := x8_3 + (-1)) ok dX8_isNumber_81 rfl rfl (lc_int rfl) (by decide) ?_
            refine at_goto (tgt := 8) ok dX8_isNumber_84 (by decide) ?_
            exact at_weak (lw_s (lw_s (lw_n (lw_s (lw_s (lw_s (lw_n lw_0))))))) (by have q := ih ((x8_1 + 1), (x8_2 + ((2 * (v33 - 48)) - 9)), (x8_3 + (-1))) _ h; dsimp only at q; exact q)
        · refine at_iload ok dX8_isNumber_71 rfl ?_
          refine at_iload ok dX8_isNumber_73 rfl ?_
          refine at_iadd ok dX8_isNumber_75 ?_
          refine at_istore ok dX8_isNumber_76 (lc_int rfl) (by decide) ?_
          refine at_iinc (v := x8_1 + 1) ok dX8_isNumber_78 rfl rfl (lc_non rfl) (by decide) ?_
          refine at_iinc (v := x8_3 + (-1)) ok dX8_isNumber_81 rfl rfl (lc_int rfl) (by decide) ?_
          refine at_goto (tgt := 8) ok dX8_isNumber_84 (by decide) ?_
          exact at_weak (lw_s (lw_s (lw_n (lw_s (lw_s (lw_s (lw_n lw_0))))))) (by have q := ih ((x8_1 + 1), (x8_2 + (v33 - 48)), (x8_3 + (-1))) _ h; dsimp only at q; exact q)
set_option maxRecDepth 100000 in
set_option maxHeartbeats 4000000 in
theorem s8_readNumbers (t : Option Nat) (σ : AH) (Q : Unit → AH → Prop) (h : Hr (f8_readNumbers t) σ Q) : Runs m8_readNumbers σ [va_rf t] (fun v σ1 => ∃ a, v = none ∧ Q a σ1) := by
  obtain ⟨a0, σ1, e, hQ⟩ := h
  have hm := n8_readNumbers t σ a0 σ1 e
  have h : Hr (f8_readNumbers t) σ (fun a σ2 => a = a0 ∧ σ2 = σ1) := ⟨a0, σ1, e, rfl, rfl⟩
  refine ⟨_, σ1, hm, ⟨a0, rfl, hQ⟩, runs_of (by decide +kernel) (by simp [cat_rf, cat_i, cat_l]) (Nat.le_of_ble_eq_true rfl) hm fun X ok fn => ?_⟩
  clear e hQ hm
  unfold f8_readNumbers at h
  show AT X m8_readNumbers 0 [some (va_rf (t)), none, none, none, none] [] σ
  refine at_aloadn ok dX8_readNumbers_0 rfl ?_
  refine at_iconst (v := 0) ok dX8_readNumbers_1 (by decide) ?_
  refine at_putI ok (pf_8_169 _) dX8_readNumbers_2 h fun σ h => ?_
  refine at_iconst (v := 0) ok dX8_readNumbers_5 (by decide) ?_
  refine at_istoren ok dX8_readNumbers_6 rfl (lc_ref rfl) (by decide) ?_
  refine at_weak (L' := [some (va_rf (t)), some (.int (0)), none, none, none]) (lw_s (lw_s (lw_n (lw_n (lw_n lw_0))))) ?_
  refine at_loop (fun x7 σ => AT X m8_readNumbers 7 [some (va_rf (t)), some (.int (x7)), none, none, none] [] σ) (fun y161 σ => AT X m8_readNumbers 161 [none, none, none, none, none] [] σ) h (fun y161 σ h => ?_) (fun kx rec ih x7 σ h => ?_)
  · exact at_vret ok fn rfl dX8_readNumbers_161 h
  · unfold l8_readNumbers_7 at h
    refine at_iloadn ok dX8_readNumbers_7 rfl ?_
    refine at_aloadn ok dX8_readNumbers_8 rfl ?_
    refine at_getI ok gf_8_143 dX8_readNumbers_9 h fun v9 h => ?_
    refine bt_icmp_ge (tgt := 161) ok dX8_readNumbers_12 (by decide) h (fun hc h => ?_) (fun hc h => ?_)
    · exact at_weak (lw_n (lw_n (lw_n (lw_n (lw_n lw_0))))) (kx () _ (hr_rt.mp h))
    · refine at_aloadn ok dX8_readNumbers_15 rfl ?_
      refine at_iloadn ok dX8_readNumbers_16 rfl ?_
      refine at_cVi (As := [.int (x7)]) ok ct_8_readNumbers_172 dX8_readNumbers_17 (by simp [cat_rf, cat_i, cat_l]) (s8_isDigitAt t x7 _) h fun v17 σ h => ?_
      refine bt_if_ne (tgt := 29) ok dX8_readNumbers_20 (by decide) h (fun hc h => ?_) (fun hc h => ?_)
      · refine at_iinc (v := x7 + 1) ok dX8_readNumbers_23 rfl rfl (lc_ref rfl) (by decide) ?_
        refine at_goto (tgt := 7) ok dX8_readNumbers_26 (by decide) ?_
        exact at_weak (lw_s (lw_s (lw_n (lw_n (lw_n lw_0))))) (ih (x7 + 1) _ h)
      · refine at_iloadn ok dX8_readNumbers_29 rfl ?_
        refine at_istoren ok dX8_readNumbers_30 rfl (lc_int rfl) (by decide) ?_
        refine at_iloadn ok dX8_readNumbers_31 rfl ?_
        refine at_istoren ok dX8_readNumbers_32 rfl (lc_int rfl) (by decide) ?_
        refine at_iconst (v := 1) ok dX8_readNumbers_33 (by decide) ?_
        refine at_istore ok dX8_readNumbers_34 (lc_int rfl) (by decide) ?_
        refine at_weak (L' := [some (va_rf (t)), none, some (.int (x7)), some (.int (x7)), some (.int (1))]) (lw_s (lw_n (lw_s (lw_s (lw_s lw_0))))) ?_
        refine at_loop (fun x36 σ => AT X m8_readNumbers 36 [some (va_rf (t)), none, some (.int (x7)), some (.int (x36.1)), some (.int (x36.2))] [] σ) (fun y115 σ => AT X m8_readNumbers 115 [some (va_rf (t)), none, some (.int (x7)), some (.int (y115)), none] [] σ) h (fun y115 σ h => ?_) (fun kx rec ih x36 σ h => ?_)
        · refine at_aloadn ok dX8_readNumbers_115 rfl ?_
          refine at_iloadn ok dX8_readNumbers_116 rfl ?_
          refine at_iloadn ok dX8_readNumbers_117 rfl ?_
          refine at_cVi (As := [.int (x7), .int (y115)]) ok ct_8_readNumbers_175 dX8_readNumbers_118 (by simp [cat_rf, cat_i, cat_l]) (s8_isNumber t x7 y115 _) h fun v118 σ h => ?_
          refine bt_if_eq (tgt := 154) ok dX8_readNumbers_121 (by decide) h (fun hc h => ?_) (fun hc h => ?_)
          · refine at_iloadn ok dX8_readNumbers_154 rfl ?_
            refine at_iconst (v := 1) ok dX8_readNumbers_155 (by decide) ?_
            refine at_iadd ok dX8_readNumbers_156 ?_
            refine at_istoren ok dX8_readNumbers_157 rfl (lc_ref rfl) (by decide) ?_
            refine at_goto (tgt := 7) ok dX8_readNumbers_158 (by decide) ?_
            exact at_weak (lw_s (lw_s (lw_n (lw_n (lw_n lw_0))))) (ih (y115 + 1) _ h)
          · refine at_aloadn ok dX8_readNumbers_124 rfl ?_
            refine at_getR ok gf_8_28 dX8_readNumbers_125 h fun v125 h => ?_
            refine at_aloadn ok dX8_readNumbers_128 rfl ?_
            refine at_getI ok gf_8_169 dX8_readNumbers_129 h fun v129 h => ?_
            refine at_iloadn ok dX8_readNumbers_132 rfl ?_
            refine at_iast ok dX8_readNumbers_133 h fun σ h => ?_
            refine at_aloadn ok dX8_readNumbers_134 rfl ?_
            refine at_getR ok gf_8_31 dX8_readNumbers_135 h fun v135 h => ?_
            refine at_aloadn ok dX8_readNumbers_138 rfl ?_
            refine at_getI ok gf_8_169 dX8_readNumbers_139 h fun v139 h => ?_
            refine at_iloadn ok dX8_readNumbers_142 rfl ?_
            refine at_iast ok dX8_readNumbers_143 h fun σ h => ?_
            refine at_aloadn ok dX8_readNumbers_144 rfl ?_
            refine at_dup ok dX8_readNumbers_145 (cat_rf _) ?_
            refine at_getI ok gf_8_169 dX8_readNumbers_146 h fun v146 h => ?_
            refine at_iconst (v := 1) ok dX8_readNumbers_149 (by decide) ?_
            refine at_iadd ok dX8_readNumbers_150 ?_
            refine at_putI ok (pf_8_169 _) dX8_readNumbers_151 h fun σ h => ?_
            refine at_iloadn ok dX8_readNumbers_154 rfl ?_
            refine at_iconst (v := 1) ok dX8_readNumbers_155 (by decide) ?_
            refine at_iadd ok dX8_readNumbers_156 ?_
            refine at_istoren ok dX8_readNumbers_157 rfl (lc_ref rfl) (by decide) ?_
            refine at_goto (tgt := 7) ok dX8_readNumbers_158 (by decide) ?_
            exact at_weak (lw_s (lw_s (lw_n (lw_n (lw_n lw_0))))) (ih (y115 + 1) _ h)
        · unfold l8_readNumbers_36 at h
          obtain ⟨x36_1, x36_2⟩ := x36
          dsimp only at h ⊢
          refine at_iload ok dX8_readNumbers_36 rfl ?_
          refine bt_if_eq (tgt := 115) ok dX8_readNumbers_38 (by decide) h (fun hc h => ?_) (fun hc h => ?_)
          · exact at_weak (lw_s (lw_n (lw_s (lw_s (lw_n lw_0))))) (kx x36_1 _ (hr_rt.mp h))
          · refine at_aloadn ok dX8_readNumbers_41 rfl ?_
            refine at_iloadn ok dX8_readNumbers_42 rfl ?_
            refine at_iconst (v := 1) ok dX8_readNumbers_43 (by decide) ?_
            refine at_iadd ok dX8_readNumbers_44 ?_
            refine at_cVi (As := [.int ((x36_1 + 1))]) ok ct_8_readNumbers_172 dX8_readNumbers_45 (by simp [cat_rf, cat_i, cat_l]) (s8_isDigitAt t (x36_1 + 1) _) h fun v45 σ h => ?_
            refine bt_if_eq (tgt := 57) ok dX8_readNumbers_48 (by decide) h (fun hc h => ?_) (fun hc h => ?_)
            · refine at_iloadn ok dX8_readNumbers_57 rfl ?_
              refine at_iconst (v := 1) ok dX8_readNumbers_58 (by decide) ?_
              refine at_iadd ok dX8_readNumbers_59 ?_
              refine at_aloadn ok dX8_readNumbers_60 rfl ?_
              refine at_getI ok gf_8_143 dX8_readNumbers_61 h fun v61 h => ?_
              refine bt_icmp_ge (tgt := 109) ok dX8_readNumbers_64 (by decide) h (fun hc h => ?_) (fun hc h => ?_)
              · refine at_iconst (v := 0) ok dX8_readNumbers_109 (by decide) ?_
                refine at_istore ok dX8_readNumbers_110 (lc_int rfl) (by decide) ?_
                refine at_goto (tgt := 36) ok dX8_readNumbers_112 (by decide) ?_
                exact at_weak (lw_s (lw_n (lw_s (lw_s (lw_s lw_0))))) (by have q := ih (x36_1, 0) _ h; dsimp only at q; exact q)
              · refine at_aloadn ok dX8_readNumbers_67 rfl ?_
                refine at_getR ok gf_8_13 dX8_readNumbers_68 h fun v68 h => ?_
                refine at_iloadn ok dX8_readNumbers_71 rfl ?_
                refine at_iconst (v := 1) ok dX8_readNumbers_72 (by decide) ?_
                refine at_iadd ok dX8_readNumbers_73 ?_
                refine at_iald ok dX8_readNumbers_74 h fun v74 h => ?_
                refine at_bipush (v := 32) ok dX8_readNumbers_75 (by decide) ?_
                refine bt_icmp_eq (tgt := 93) ok dX8_readNumbers_77 (by decide) h (fun hc h => ?_) (fun hc h => ?_)
                · refine at_aloadn ok dX8_readNumbers_93 rfl ?_
                  refine at_iloadn ok dX8_readNumbers_94 rfl ?_
                  refine at_iconst (v := 2) ok dX8_readNumbers_95 (by decide) ?_
                  refine at_iadd ok dX8_readNumbers_96 ?_
                  refine at_cVi (As := [.int ((x36_1 + 2))]) ok ct_8_readNumbers_172 dX8_readNumbers_97 (by simp [cat_rf, cat_i, cat_l]) (s8_isDigitAt t (x36_1 + 2) _) h fun v97 σ h => ?_
                  refine bt_if_eq (tgt := 109) ok dX8_readNumbers_100 (by decide) h (fun hc h => ?_) (fun hc h => ?_)
                  · refine at_iconst (v := 0) ok dX8_readNumbers_109 (by decide) ?_
                    refine at_istore ok dX8_readNumbers_110 (lc_int rfl) (by decide) ?_
                    refine at_goto (tgt := 36) ok dX8_readNumbers_112 (by decide) ?_
                    exact at_weak (lw_s (lw_n (lw_s (lw_s (lw_s lw_0))))) (by have q := ih (x36_1, 0) _ h; dsimp only at q; exact q)
                  · refine at_iinc (v := x36_1 + 2) ok dX8_readNumbers_103 rfl rfl (lc_int rfl) (by decide) ?_
                    refine at_goto (tgt := 36) ok dX8_readNumbers_106 (by decide) ?_
                    exact at_weak (lw_s (lw_n (lw_s (lw_s (lw_s lw_0))))) (by have q := ih ((x36_1 + 2), x36_2) _ h; dsimp only at q; exact q)
                · refine at_aloadn ok dX8_readNumbers_80 rfl ?_
                  refine at_getR ok gf_8_13 dX8_readNumbers_81 h fun v81 h => ?_
                  refine at_iloadn ok dX8_readNumbers_84 rfl ?_
                  refine at_iconst (v := 1) ok dX8_readNumbers_85 (by decide) ?_
                  refine at_iadd ok dX8_readNumbers_86 ?_
                  refine at_iald ok dX8_readNumbers_87 h fun v87 h => ?_
                  refine at_bipush (v := 45) ok dX8_readNumbers_88 (by decide) ?_
                  refine bt_icmp_ne (tgt := 109) ok dX8_readNumbers_90 (by decide) h (fun hc h => ?_) (fun hc h => ?_)
                  · refine at_aloadn ok dX8_readNumbers_93 rfl ?_
                    refine at_iloadn ok dX8_readNumbers_94 rfl ?_
                    refine at_iconst (v := 2) ok dX8_readNumbers_95 (by decide) ?_
                    refine at_iadd ok dX8_readNumbers_96 ?_
                    refine at_cVi (As := [.int ((x36_1 + 2))]) ok ct_8_readNumbers_172 dX8_readNumbers_97 (by simp [cat_rf, cat_i, cat_l]) (s8_isDigitAt t (x36_1 + 2) _) h fun v97 σ h => ?_
                    refine bt_if_eq (tgt := 109) ok dX8_readNumbers_100 (by decide) h (fun hc h => ?_) (fun hc h => ?_)
                    · refine at_iconst (v := 0) ok dX8_readNumbers_109 (by decide) ?_
                      refine at_istore ok dX8_readNumbers_110 (lc_int rfl) (by decide) ?_
                      refine at_goto (tgt := 36) ok dX8_readNumbers_112 (by decide) ?_
                      exact at_weak (lw_s (lw_n (lw_s (lw_s (lw_s lw_0))))) (by have q := ih (x36_1, 0) _ h; dsimp only at q; exact q)
                    · refine at_iinc (v := x36_1 + 2) ok dX8_readNumbers_103 rfl rfl (lc_int rfl) (by decide) ?_
                      refine at_goto (tgt := 36) ok dX8_readNumbers_106 (by decide) ?_
                      exact at_weak (lw_s (lw_n (lw_s (lw_s (lw_s lw_0))))) (by have q := ih ((x36_1 + 2), x36_2) _ h; dsimp only at q; exact q)
                  · refine at_iconst (v := 0) ok dX8_readNumbers_109 (by decide) ?_
                    refine at_istore ok dX8_readNumbers_110 (lc_int rfl) (by decide) ?_
                    refine at_goto (tgt := 36) ok dX8_readNumbers_112 (by decide) ?_
                    exact at_weak (lw_s (lw_n (lw_s (lw_s (lw_s lw_0))))) (by have q := ih (x36_1, 0) _ h; dsimp only at q; exact q)
            · refine at_iinc (v := x36_1 + 1) ok dX8_readNumbers_51 rfl rfl (lc_int rfl) (by decide) ?_
              refine at_goto (tgt := 36) ok dX8_readNumbers_54 (by decide) ?_
              exact at_weak (lw_s (lw_n (lw_s (lw_s (lw_s lw_0))))) (by have q := ih ((x36_1 + 1), x36_2) _ h; dsimp only at q; exact q)
set_option maxRecDepth 100000 in
set_option maxHeartbeats 4000000 in
theorem s8_read (t : Option Nat) (a1 : Option Nat) (a2 : Int32) (a3 : Int32) (σ : AH) (Q : Unit → AH → Prop) (h : Hr (f8_read t a1 a2 a3) σ Q) : Runs m8_read σ [va_rf t, va_rf (a1), .int (a2), .int (a3)] (fun v σ1 => ∃ a, v = none ∧ Q a σ1) := by
  obtain ⟨a0, σ1, e, hQ⟩ := h
  have hm := n8_read t a1 a2 a3 σ a0 σ1 e
  have h : Hr (f8_read t a1 a2 a3) σ (fun a σ2 => a = a0 ∧ σ2 = σ1) := ⟨a0, σ1, e, rfl, rfl⟩
  refine ⟨_, σ1, hm, ⟨a0, rfl, hQ⟩, runs_of (by decide +kernel) (by simp [cat_rf, cat_i, cat_l]) (Nat.le_of_ble_eq_true rfl) hm fun X ok fn => ?_⟩
  clear e hQ hm
  unfold f8_read at h
  show AT X m8_read 0 [some (va_rf (t)), some (va_rf (a1)), some (.int (a2)), some (.int (a3)), none] [] σ
  refine at_aloadn ok dX8_read_0 rfl ?_
  refine at_iloadn ok dX8_read_1 rfl ?_
  refine at_putI ok (pf_8_143 _) dX8_read_2 h fun σ h => ?_
  refine at_iconst (v := 0) ok dX8_read_5 (by decide) ?_
  refine at_istore ok dX8_read_6 (lc_int rfl) (by decide) ?_
  refine at_weak (L' := [some (va_rf (t)), some (va_rf (a1)), some (.int (a2)), some (.int (a3)), some (.int (0))]) (lw_s (lw_s (lw_s (lw_s (lw_s lw_0))))) ?_
  refine at_loop (fun x8 σ => AT X m8_read 8 [some (va_rf (t)), some (va_rf (a1)), some (.int (a2)), some (.int (a3)), some (.int (x8))] [] σ) (fun y51 σ => AT X m8_read 51 [some (va_rf (t)), none, none, none, none] [] σ) h (fun y51 σ h => ?_) (fun kx rec ih x8 σ h => ?_)
  · refine at_aloadn ok dX8_read_51 rfl ?_
    refine at_cVv (As := []) ok ct_8_read_157 dX8_read_52 (by simp [cat_rf, cat_i, cat_l]) (s8_pass t  _) h fun v52 σ h => ?_
    refine at_aloadn ok dX8_read_55 rfl ?_
    refine at_cVv (As := []) ok ct_8_read_157 dX8_read_56 (by simp [cat_rf, cat_i, cat_l]) (s8_pass t  _) h fun v56 σ h => ?_
    refine at_aloadn ok dX8_read_59 rfl ?_
    refine at_cVv (As := []) ok ct_8_read_157 dX8_read_60 (by simp [cat_rf, cat_i, cat_l]) (s8_pass t  _) h fun v60 σ h => ?_
    refine at_aloadn ok dX8_read_63 rfl ?_
    refine at_iconst (v := 0) ok dX8_read_64 (by decide) ?_
    refine at_putI ok (pf_8_160 _) dX8_read_65 h fun σ h => ?_
    refine at_iconst (v := 0) ok dX8_read_68 (by decide) ?_
    refine at_istore ok dX8_read_69 (lc_non rfl) (by decide) ?_
    refine at_weak (L' := [some (va_rf (t)), none, none, none, some (.int (0))]) (lw_s (lw_n (lw_n (lw_n (lw_s lw_0))))) ?_
    refine at_loop (fun x71 σ => AT X m8_read 71 [some (va_rf (t)), none, none, none, some (.int (x71))] [] σ) (fun y164 σ => AT X m8_read 164 [some (va_rf (t)), none, none, none, none] [] σ) h (fun y164 σ h => ?_) (fun kx rec ih x71 σ h => ?_)
    · refine at_aloadn ok dX8_read_164 rfl ?_
      refine at_cVv (As := []) ok ct_8_read_166 dX8_read_165 (by simp [cat_rf, cat_i, cat_l]) (s8_readNumbers t  _) h fun v165 σ h => ?_
      exact at_vret ok fn rfl dX8_read_168 h
    · unfold l8_read_71 at h
      refine at_iload ok dX8_read_71 rfl ?_
      refine at_aloadn ok dX8_read_73 rfl ?_
      refine at_getI ok gf_8_143 dX8_read_74 h fun v74 h => ?_
      refine bt_icmp_ge (tgt := 164) ok dX8_read_77 (by decide) h (fun hc h => ?_) (fun hc h => ?_)
      · exact at_weak (lw_s (lw_n (lw_n (lw_n (lw_n lw_0))))) (kx () _ (hr_rt.mp h))
      · refine at_aloadn ok dX8_read_80 rfl ?_
        refine at_getR ok gf_8_13 dX8_read_81 h fun v81 h => ?_
        refine at_iload ok dX8_read_84 rfl ?_
        refine at_iald ok dX8_read_86 h fun v86 h => ?_
        refine at_cSi (As := [.int (v86)]) ok ct_8_read_163 dX8_read_87 (by simp [cat_rf, cat_i, cat_l]) (s8_isSign v86 _) h fun v87 σ h => ?_
        refine bt_if_ne (tgt := 99) ok dX8_read_90 (by decide) h (fun hc h => ?_) (fun hc h => ?_)
        · refine at_iinc (v := x71 + 1) ok dX8_read_93 rfl rfl (lc_non rfl) (by decide) ?_
          refine at_goto (tgt := 71) ok dX8_read_96 (by decide) ?_
          exact at_weak (lw_s (lw_n (lw_n (lw_n (lw_s lw_0))))) (ih (x71 + 1) _ h)
        · refine at_aloadn ok dX8_read_99 rfl ?_
          refine at_getR ok gf_8_22 dX8_read_100 h fun v100 h => ?_
          refine at_aloadn ok dX8_read_103 rfl ?_
          refine at_getI ok gf_8_160 dX8_read_104 h fun v104 h => ?_
          refine at_iload ok dX8_read_107 rfl ?_
          refine at_iast ok dX8_read_109 h fun σ h => ?_
          refine at_weak (L' := [some (va_rf (t)), none, none, none, some (.int (x71))]) (lw_s (lw_n (lw_n (lw_n (lw_s lw_0))))) ?_
          refine at_loop (fun x110 σ => AT X m8_read 110 [some (va_rf (t)), none, none, none, some (.int (x110))] [] σ) (fun y138 σ => AT X m8_read 138 [some (va_rf (t)), none, none, none, some (.int (y138))] [] σ) h (fun y138 σ h => ?_) (fun kx rec ih x110 σ h => ?_)
          · refine at_aloadn ok dX8_read_138 rfl ?_
            refine at_getR ok gf_8_25 dX8_read_139 h fun v139 h => ?_
            refine at_aloadn ok dX8_read_142 rfl ?_
            refine at_getI ok gf_8_160 dX8_read_143 h fun v143 h => ?_
            refine at_iload ok dX8_read_146 rfl ?_
            refine at_iconst (v := 1) ok dX8_read_148 (by decide) ?_
            refine at_isub ok dX8_read_149 ?_
            refine at_iast ok dX8_read_150 h fun σ h => ?_
            refine at_aloadn ok dX8_read_151 rfl ?_
            refine at_dup ok dX8_read_152 (cat_rf _) ?_
            refine at_getI ok gf_8_160 dX8_read_153 h fun v153 h => ?_
            refine at_iconst (v := 1) ok dX8_read_156 (by decide) ?_
            refine at_iadd ok dX8_read_157 ?_
            refine at_putI ok (pf_8_160 _) dX8_read_158 h fun σ h => ?_
            refine at_goto (tgt := 71) ok dX8_read_161 (by decide) ?_
            exact at_weak (lw_s (lw_n (lw_n (lw_n (lw_s lw_0))))) (ih y138 _ h)
          · unfold l8_read_110 at h
            refine at_iload ok dX8_read_110 rfl ?_
            refine at_aloadn ok dX8_read_112 rfl ?_
            refine at_getI ok gf_8_143 dX8_read_113 h fun v113 h => ?_
            refine bt_icmp_ge (tgt := 138) ok dX8_read_116 (by decide) h (fun hc h => ?_) (fun hc h => ?_)
            · exact at_weak (lw_s (lw_n (lw_n (lw_n (lw_s lw_0))))) (kx x110 _ (hr_rt.mp h))
            · refine at_aloadn ok dX8_read_119 rfl ?_
              refine at_getR ok gf_8_13 dX8_read_120 h fun v120 h => ?_
              refine at_iload ok dX8_read_123 rfl ?_
              refine at_iald ok dX8_read_125 h fun v125 h => ?_
              refine at_cSi (As := [.int (v125)]) ok ct_8_read_163 dX8_read_126 (by simp [cat_rf, cat_i, cat_l]) (s8_isSign v125 _) h fun v126 σ h => ?_
              refine bt_if_eq (tgt := 138) ok dX8_read_129 (by decide) h (fun hc h => ?_) (fun hc h => ?_)
              · exact at_weak (lw_s (lw_n (lw_n (lw_n (lw_s lw_0))))) (kx x110 _ (hr_rt.mp h))
              · refine at_iinc (v := x110 + 1) ok dX8_read_132 rfl rfl (lc_non rfl) (by decide) ?_
                refine at_goto (tgt := 110) ok dX8_read_135 (by decide) ?_
                exact at_weak (lw_s (lw_n (lw_n (lw_n (lw_s lw_0))))) (ih (x110 + 1) _ h)
  · unfold l8_read_8 at h
    refine at_iload ok dX8_read_8 rfl ?_
    refine at_iloadn ok dX8_read_10 rfl ?_
    refine bt_icmp_ge (tgt := 51) ok dX8_read_11 (by decide) h (fun hc h => ?_) (fun hc h => ?_)
    · exact at_weak (lw_s (lw_n (lw_n (lw_n (lw_n lw_0))))) (kx () _ (hr_rt.mp h))
    · refine at_aloadn ok dX8_read_14 rfl ?_
      refine at_getR ok gf_8_13 dX8_read_15 h fun v15 h => ?_
      refine at_iload ok dX8_read_18 rfl ?_
      refine at_aloadn ok dX8_read_20 rfl ?_
      refine at_iloadn ok dX8_read_21 rfl ?_
      refine at_iload ok dX8_read_22 rfl ?_
      refine at_iadd ok dX8_read_24 ?_
      refine at_iald ok dX8_read_25 h fun v25 h => ?_
      refine at_iast ok dX8_read_26 h fun σ h => ?_
      refine at_aloadn ok dX8_read_27 rfl ?_
      refine at_getR ok gf_8_16 dX8_read_28 h fun v28 h => ?_
      refine at_iload ok dX8_read_31 rfl ?_
      refine at_iload ok dX8_read_33 rfl ?_
      refine at_iast ok dX8_read_35 h fun σ h => ?_
      refine at_aloadn ok dX8_read_36 rfl ?_
      refine at_getR ok gf_8_19 dX8_read_37 h fun v37 h => ?_
      refine at_iload ok dX8_read_40 rfl ?_
      refine at_iload ok dX8_read_42 rfl ?_
      refine at_iast ok dX8_read_44 h fun σ h => ?_
      refine at_iinc (v := x8 + 1) ok dX8_read_45 rfl rfl (lc_int rfl) (by decide) ?_
      refine at_goto (tgt := 8) ok dX8_read_48 (by decide) ?_
      exact at_weak (lw_s (lw_s (lw_s (lw_s (lw_s lw_0))))) (ih (x8 + 1) _ h)
set_option maxRecDepth 100000 in
set_option maxHeartbeats 4000000 in
theorem s8_keep (t : Option Nat) (a1 : Int32) (σ : AH) (Q : Int32 → AH → Prop) (h : Hr (f8_keep t a1) σ Q) : Runs m8_keep σ [va_rf t, .int (a1)] (fun v σ1 => ∃ a, v = some (.int a) ∧ Q a σ1) := by
  obtain ⟨a0, σ1, e, hQ⟩ := h
  have hm := n8_keep t a1 σ a0 σ1 e
  have h : Hr (f8_keep t a1) σ (fun a σ2 => a = a0 ∧ σ2 = σ1) := ⟨a0, σ1, e, rfl, rfl⟩
  refine ⟨_, σ1, hm, ⟨a0, rfl, hQ⟩, runs_of (by decide +kernel) (by simp [cat_rf, cat_i, cat_l]) (Nat.le_of_ble_eq_true rfl) hm fun X ok fn => ?_⟩
  clear e hQ hm
  unfold f8_keep at h
  show AT X m8_keep 0 [some (va_rf (t)), some (.int (a1)), none] [] σ
  refine at_iloadn ok dX8_keep_0 rfl ?_
  refine at_iconst (v := 0) ok dX8_keep_1 (by decide) ?_
  refine at_bipush (v := 7) ok dX8_keep_2 (by decide) ?_
  refine at_cSi (As := [.int (a1), .int (0), .int (7)]) ok ct_8_keep_128 dX8_keep_4 (by simp [cat_rf, cat_i, cat_l]) (s8_in a1 0 7 _) h fun v4 σ h => ?_
  refine bt_if_ne (tgt := 12) ok dX8_keep_7 (by decide) h (fun hc h => ?_) (fun hc h => ?_)
  · refine at_iconst (v := (-1)) ok dX8_keep_10 (by decide) ?_
    exact at_iret ok fn ⟨_, rfl, rfl⟩ dX8_keep_11 h
  · refine at_aloadn ok dX8_keep_12 rfl ?_
    refine at_aloadn ok dX8_keep_13 rfl ?_
    refine at_getR ok gf_8_9 dX8_keep_14 h fun v14 h => ?_
    refine at_iconst (v := 0) ok dX8_keep_17 (by decide) ?_
    refine at_aloadn ok dX8_keep_18 rfl ?_
    refine at_getI ok gf_8_140 dX8_keep_19 h fun v19 h => ?_
    refine at_cVv (As := [va_rf (v14), .int (0), .int (v19)]) ok ct_8_keep_179 dX8_keep_22 (by simp [cat_rf, cat_i, cat_l]) (s8_read t v14 0 v19 _) h fun v22 σ h => ?_
    refine at_aloadn ok dX8_keep_25 rfl ?_
    refine at_iconst (v := 0) ok dX8_keep_26 (by decide) ?_
    refine at_putI ok (pf_8_140 _) dX8_keep_27 h fun σ h => ?_
    refine at_iconst (v := 0) ok dX8_keep_30 (by decide) ?_
    refine at_istoren ok dX8_keep_31 rfl (lc_int rfl) (by decide) ?_
    refine at_weak (L' := [some (va_rf (t)), some (.int (a1)), some (.int (0))]) (lw_s (lw_s (lw_s lw_0))) ?_
    refine at_loop (fun x32 σ => AT X m8_keep 32 [some (va_rf (t)), some (.int (a1)), some (.int (x32))] [] σ) (fun y67 σ => AT X m8_keep 67 [some (va_rf (t)), some (.int (a1)), none] [] σ) h (fun y67 σ h => ?_) (fun kx rec ih x32 σ h => ?_)
    · refine at_iconst (v := 0) ok dX8_keep_67 (by decide) ?_
      refine at_istoren ok dX8_keep_68 rfl (lc_int rfl) (by decide) ?_
      refine at_weak (L' := [some (va_rf (t)), some (.int (a1)), some (.int (0))]) (lw_s (lw_s (lw_s lw_0))) ?_
      refine at_loop (fun x69 σ => AT X m8_keep 69 [some (va_rf (t)), some (.int (a1)), some (.int (x69))] [] σ) (fun y119 σ => AT X m8_keep 119 [some (va_rf (t)), some (.int (a1)), none] [] σ) h (fun y119 σ h => ?_) (fun kx rec ih x69 σ h => ?_)
      · refine at_aloadn ok dX8_keep_119 rfl ?_
        refine at_getR ok gf_8_43 dX8_keep_120 h fun v120 h => ?_
        refine at_iloadn ok dX8_keep_123 rfl ?_
        refine at_aloadn ok dX8_keep_124 rfl ?_
        refine at_getI ok gf_8_160 dX8_keep_125 h fun v125 h => ?_
        refine at_iast ok dX8_keep_128 h fun σ h => ?_
        refine at_aloadn ok dX8_keep_129 rfl ?_
        refine at_getI ok gf_8_160 dX8_keep_130 h fun v130 h => ?_
        exact at_iret ok fn ⟨_, rfl, rfl⟩ dX8_keep_133 h
      · unfold l8_keep_69 at h
        refine at_iloadn ok dX8_keep_69 rfl ?_
        refine at_aloadn ok dX8_keep_70 rfl ?_
        refine at_getI ok gf_8_160 dX8_keep_71 h fun v71 h => ?_
        refine bt_icmp_ge (tgt := 119) ok dX8_keep_74 (by decide) h (fun hc h => ?_) (fun hc h => ?_)
        · exact at_weak (lw_s (lw_s (lw_n lw_0))) (kx () _ (hr_rt.mp h))
        · refine at_aloadn ok dX8_keep_77 rfl ?_
          refine at_getR ok gf_8_37 dX8_keep_78 h fun v78 h => ?_
          refine at_sipush (v := 300) ok dX8_keep_81 (by decide) ?_
          refine at_iloadn ok dX8_keep_84 rfl ?_
          refine at_imul ok dX8_keep_85 ?_
          refine at_iloadn ok dX8_keep_86 rfl ?_
          refine at_iadd ok dX8_keep_87 ?_
          refine at_aloadn ok dX8_keep_88 rfl ?_
          refine at_getR ok gf_8_22 dX8_keep_89 h fun v89 h => ?_
          refine at_iloadn ok dX8_keep_92 rfl ?_
          refine at_iald ok dX8_keep_93 h fun v93 h => ?_
          refine at_iast ok dX8_keep_94 h fun σ h => ?_
          refine at_aloadn ok dX8_keep_95 rfl ?_
          refine at_getR ok gf_8_40 dX8_keep_96 h fun v96 h => ?_
          refine at_sipush (v := 300) ok dX8_keep_99 (by decide) ?_
          refine at_iloadn ok dX8_keep_102 rfl ?_
          refine at_imul ok dX8_keep_103 ?_
          refine at_iloadn ok dX8_keep_104 rfl ?_
          refine at_iadd ok dX8_keep_105 ?_
          refine at_aloadn ok dX8_keep_106 rfl ?_
          refine at_getR ok gf_8_25 dX8_keep_107 h fun v107 h => ?_
          refine at_iloadn ok dX8_keep_110 rfl ?_
          refine at_iald ok dX8_keep_111 h fun v111 h => ?_
          refine at_iast ok dX8_keep_112 h fun σ h => ?_
          refine at_iinc (v := x69 + 1) ok dX8_keep_113 rfl rfl (lc_int rfl) (by decide) ?_
          refine at_goto (tgt := 69) ok dX8_keep_116 (by decide) ?_
          exact at_weak (lw_s (lw_s (lw_s lw_0))) (ih (x69 + 1) _ h)
    · unfold l8_keep_32 at h
      refine at_iloadn ok dX8_keep_32 rfl ?_
      refine at_aloadn ok dX8_keep_33 rfl ?_
      refine at_getI ok gf_8_143 dX8_keep_34 h fun v34 h => ?_
      refine bt_icmp_ge (tgt := 67) ok dX8_keep_37 (by decide) h (fun hc h => ?_) (fun hc h => ?_)
      · exact at_weak (lw_s (lw_s (lw_n lw_0))) (kx () _ (hr_rt.mp h))
      · refine at_aloadn ok dX8_keep_40 rfl ?_
        refine at_getR ok gf_8_34 dX8_keep_41 h fun v41 h => ?_
        refine at_sipush (v := 300) ok dX8_keep_44 (by decide) ?_
        refine at_iloadn ok dX8_keep_47 rfl ?_
        refine at_imul ok dX8_keep_48 ?_
        refine at_iloadn ok dX8_keep_49 rfl ?_
        refine at_iadd ok dX8_keep_50 ?_
        refine at_aloadn ok dX8_keep_51 rfl ?_
        refine at_getR ok gf_8_13 dX8_keep_52 h fun v52 h => ?_
        refine at_iloadn ok dX8_keep_55 rfl ?_
        refine at_iald ok dX8_keep_56 h fun v56 h => ?_
        refine at_cSi (As := [.int (v56)]) ok ct_8_keep_150 dX8_keep_57 (by simp [cat_rf, cat_i, cat_l]) (s8_small v56 _) h fun v57 σ h => ?_
        refine at_iast ok dX8_keep_60 h fun σ h => ?_
        refine at_iinc (v := x32 + 1) ok dX8_keep_61 rfl rfl (lc_int rfl) (by decide) ?_
        refine at_goto (tgt := 32) ok dX8_keep_64 (by decide) ?_
        exact at_weak (lw_s (lw_s (lw_s lw_0))) (ih (x32 + 1) _ h)
set_option maxRecDepth 100000 in
set_option maxHeartbeats 4000000 in
theorem s8_mark (t : Option Nat) (a1 : Int32) (σ : AH) (Q : Int32 → AH → Prop) (h : Hr (f8_mark t a1) σ Q) : Runs m8_mark σ [va_rf t, .int (a1)] (fun v σ1 => ∃ a, v = some (.int a) ∧ Q a σ1) := by
  obtain ⟨a0, σ1, e, hQ⟩ := h
  have hm := n8_mark t a1 σ a0 σ1 e
  have h : Hr (f8_mark t a1) σ (fun a σ2 => a = a0 ∧ σ2 = σ1) := ⟨a0, σ1, e, rfl, rfl⟩
  refine ⟨_, σ1, hm, ⟨a0, rfl, hQ⟩, runs_of (by decide +kernel) (by simp [cat_rf, cat_i, cat_l]) (Nat.le_of_ble_eq_true rfl) hm fun X ok fn => ?_⟩
  clear e hQ hm
  unfold f8_mark at h
  show AT X m8_mark 0 [some (va_rf (t)), some (.int (a1)), none] [] σ
  refine at_iloadn ok dX8_mark_0 rfl ?_
  refine at_iconst (v := 0) ok dX8_mark_1 (by decide) ?_
  refine at_bipush (v := 7) ok dX8_mark_2 (by decide) ?_
  refine at_cSi (As := [.int (a1), .int (0), .int (7)]) ok ct_8_mark_128 dX8_mark_4 (by simp [cat_rf, cat_i, cat_l]) (s8_in a1 0 7 _) h fun v4 σ h => ?_
  refine bt_if_ne (tgt := 12) ok dX8_mark_7 (by decide) h (fun hc h => ?_) (fun hc h => ?_)
  · refine at_iconst (v := 0) ok dX8_mark_10 (by decide) ?_
    exact at_iret ok fn ⟨_, rfl, rfl⟩ dX8_mark_11 h
  · refine at_aloadn ok dX8_mark_12 rfl ?_
    refine at_aloadn ok dX8_mark_13 rfl ?_
    refine at_getR ok gf_8_9 dX8_mark_14 h fun v14 h => ?_
    refine at_iconst (v := 0) ok dX8_mark_17 (by decide) ?_
    refine at_aloadn ok dX8_mark_18 rfl ?_
    refine at_getI ok gf_8_140 dX8_mark_19 h fun v19 h => ?_
    refine at_cVv (As := [va_rf (v14), .int (0), .int (v19)]) ok ct_8_mark_179 dX8_mark_22 (by simp [cat_rf, cat_i, cat_l]) (s8_read t v14 0 v19 _) h fun v22 σ h => ?_
    refine at_aloadn ok dX8_mark_25 rfl ?_
    refine at_getI ok gf_8_160 dX8_mark_26 h fun v26 h => ?_
    refine bt_if_ne (tgt := 34) ok dX8_mark_29 (by decide) h (fun hc h => ?_) (fun hc h => ?_)
    · refine at_iconst (v := 0) ok dX8_mark_32 (by decide) ?_
      exact at_iret ok fn ⟨_, rfl, rfl⟩ dX8_mark_33 h
    · refine at_aloadn ok dX8_mark_34 rfl ?_
      refine at_getR ok gf_8_50 dX8_mark_35 h fun v35 h => ?_
      refine at_iloadn ok dX8_mark_38 rfl ?_
      refine at_iconst (v := 1) ok dX8_mark_39 (by decide) ?_
      refine at_iast ok dX8_mark_40 h fun σ h => ?_
      refine at_aloadn ok dX8_mark_41 rfl ?_
      refine at_getR ok gf_8_56 dX8_mark_42 h fun v42 h => ?_
      refine at_iloadn ok dX8_mark_45 rfl ?_
      refine at_aloadn ok dX8_mark_46 rfl ?_
      refine at_getR ok gf_8_25 dX8_mark_47 h fun v47 h => ?_
      refine at_iconst (v := 0) ok dX8_mark_50 (by decide) ?_
      refine at_iald ok dX8_mark_51 h fun v51 h => ?_
      refine at_aloadn ok dX8_mark_52 rfl ?_
      refine at_getR ok gf_8_22 dX8_mark_53 h fun v53 h => ?_
      refine at_iconst (v := 0) ok dX8_mark_56 (by decide) ?_
      refine at_iald ok dX8_mark_57 h fun v57 h => ?_
      refine at_isub ok dX8_mark_58 ?_
      refine at_iconst (v := 1) ok dX8_mark_59 (by decide) ?_
      refine at_iadd ok dX8_mark_60 ?_
      refine at_iast ok dX8_mark_61 h fun σ h => ?_
      refine at_iconst (v := 0) ok dX8_mark_62 (by decide) ?_
      refine at_istoren ok dX8_mark_63 rfl (lc_int rfl) (by decide) ?_
      refine at_weak (L' := [some (va_rf (t)), some (.int (a1)), some (.int (0))]) (lw_s (lw_s (lw_s lw_0))) ?_
      refine at_loop (fun x64 σ => AT X m8_mark 64 [some (va_rf (t)), some (.int (a1)), some (.int (x64))] [] σ) (fun y108 σ => AT X m8_mark 108 [some (va_rf (t)), none, none] [] σ) h (fun y108 σ h => ?_) (fun kx rec ih x64 σ h => ?_)
      · refine at_aloadn ok dX8_mark_108 rfl ?_
        refine at_iconst (v := 0) ok dX8_mark_109 (by decide) ?_
        refine at_putI ok (pf_8_140 _) dX8_mark_110 h fun σ h => ?_
        refine at_iconst (v := 1) ok dX8_mark_113 (by decide) ?_
        exact at_iret ok fn ⟨_, rfl, rfl⟩ dX8_mark_114 h
      · unfold l8_mark_64 at h
        refine at_iloadn ok dX8_mark_64 rfl ?_
        refine at_aloadn ok dX8_mark_65 rfl ?_
        refine at_getR ok gf_8_56 dX8_mark_66 h fun v66 h => ?_
        refine at_iloadn ok dX8_mark_69 rfl ?_
        refine at_iald ok dX8_mark_70 h fun v70 h => ?_
        refine bt_icmp_ge (tgt := 108) ok dX8_mark_71 (by decide) h (fun hc h => ?_) (fun hc h => ?_)
        · exact at_weak (lw_s (lw_n (lw_n lw_0))) (kx () _ (hr_rt.mp h))
        · refine at_aloadn ok dX8_mark_74 rfl ?_
          refine at_getR ok gf_8_53 dX8_mark_75 h fun v75 h => ?_
          refine at_sipush (v := 300) ok dX8_mark_78 (by decide) ?_
          refine at_iloadn ok dX8_mark_81 rfl ?_
          refine at_imul ok dX8_mark_82 ?_
          refine at_iloadn ok dX8_mark_83 rfl ?_
          refine at_iadd ok dX8_mark_84 ?_
          refine at_aloadn ok dX8_mark_85 rfl ?_
          refine at_getR ok gf_8_13 dX8_mark_86 h fun v86 h => ?_
          refine at_aloadn ok dX8_mark_89 rfl ?_
          refine at_getR ok gf_8_22 dX8_mark_90 h fun v90 h => ?_
          refine at_iconst (v := 0) ok dX8_mark_93 (by decide) ?_
          refine at_iald ok dX8_mark_94 h fun v94 h => ?_
          refine at_iloadn ok dX8_mark_95 rfl ?_
          refine at_iadd ok dX8_mark_96 ?_
          refine at_iald ok dX8_mark_97 h fun v97 h => ?_
          refine at_cSi (As := [.int (v97)]) ok ct_8_mark_150 dX8_mark_98 (by simp [cat_rf, cat_i, cat_l]) (s8_small v97 _) h fun v98 σ h => ?_
          refine at_iast ok dX8_mark_101 h fun σ h => ?_
          refine at_iinc (v := x64 + 1) ok dX8_mark_102 rfl rfl (lc_int rfl) (by decide) ?_
          refine at_goto (tgt := 64) ok dX8_mark_105 (by decide) ?_
          exact at_weak (lw_s (lw_s (lw_s lw_0))) (ih (x64 + 1) _ h)
