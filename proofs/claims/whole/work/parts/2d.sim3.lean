set_option maxRecDepth 100000 in
set_option maxHeartbeats 4000000 in
theorem s6_read (t : Option Nat) (a1 : Option Nat) (a2 : Int32) (σ : AH) (Q : Unit → AH → Prop) (h : Hr (f6_read t a1 a2) σ Q) : Runs m6_read σ [va_rf t, va_rf (a1), .int (a2)] (fun v σ1 => ∃ a, v = none ∧ Q a σ1) := by
  obtain ⟨a0, σ1, e, hQ⟩ := h
  have hm := n6_read t a1 a2 σ a0 σ1 e
  have h : Hr (f6_read t a1 a2) σ (fun a σ2 => a = a0 ∧ σ2 = σ1) := ⟨a0, σ1, e, rfl, rfl⟩
  refine ⟨_, σ1, hm, ⟨a0, rfl, hQ⟩, runs_of (by decide +kernel) (by simp [cat_rf, cat_i, cat_l]) (Nat.le_of_ble_eq_true rfl) hm fun X ok fn => ?_⟩
  clear e hQ hm
  unfold f6_read at h
  show AT X m6_read 0 [some (va_rf (t)), some (va_rf (a1)), some (.int (a2)), none] [] σ
  refine at_aloadn ok dX6_read_0 rfl ?_
  refine at_iloadn ok dX6_read_1 rfl ?_
  refine at_aloadn ok dX6_read_2 rfl ?_
  refine at_alen (t := 0) (by decide) ok dX6_read_3 h fun v3 h => ?_
  refine at_mmin wd_229 wd_230 wd_4 wd_231 (by decide) (by simp [cat_rf, cat_i, cat_l]) ok dX6_read_4 ?_
  refine at_aloadn ok dX6_read_7 rfl ?_
  refine at_getR ok gf_6_24 dX6_read_8 h fun v8 h => ?_
  refine at_alen (t := 0) (by decide) ok dX6_read_11 h fun v11 h => ?_
  refine at_mmin wd_229 wd_230 wd_4 wd_231 (by decide) (by simp [cat_rf, cat_i, cat_l]) ok dX6_read_12 ?_
  refine at_putI ok (pf_6_9 _) dX6_read_15 h fun σ h => ?_
  refine at_iconst (v := 0) ok dX6_read_18 (by decide) ?_
  refine at_istoren ok dX6_read_19 rfl (lc_int rfl) (by decide) ?_
  refine at_weak (L' := [some (va_rf (t)), some (va_rf (a1)), none, some (.int (0))]) (lw_s (lw_s (lw_n (lw_s lw_0)))) ?_
  refine at_loop (fun x20 σ => AT X m6_read 20 [some (va_rf (t)), some (va_rf (a1)), none, some (.int (x20))] [] σ) (fun y57 σ => AT X m6_read 57 [some (va_rf (t)), none, none, none] [] σ) h (fun y57 σ h => ?_) (fun kx rec ih x20 σ h => ?_)
  · refine at_iconst (v := 0) ok dX6_read_57 (by decide) ?_
    refine at_istoren ok dX6_read_58 rfl (lc_non rfl) (by decide) ?_
    refine at_weak (L' := [some (va_rf (t)), none, none, some (.int (0))]) (lw_s (lw_n (lw_n (lw_s lw_0)))) ?_
    refine at_loop (fun x59 σ => AT X m6_read 59 [some (va_rf (t)), none, none, some (.int (x59))] [] σ) (fun y74 σ => AT X m6_read 74 [some (va_rf (t)), none, none, none] [] σ) h (fun y74 σ h => ?_) (fun kx rec ih x59 σ h => ?_)
    · refine at_aloadn ok dX6_read_74 rfl ?_
      refine at_cVv (As := []) ok ct_6_read_49 dX6_read_75 (by simp [cat_rf, cat_i, cat_l]) (s6_makeSmall t  _) h fun v75 σ h => ?_
      refine at_aloadn ok dX6_read_78 rfl ?_
      refine at_cVv (As := []) ok ct_6_read_52 dX6_read_79 (by simp [cat_rf, cat_i, cat_l]) (s6_splitWords t  _) h fun v79 σ h => ?_
      exact at_vret ok fn rfl dX6_read_82 h
    · unfold l6_read_59 at h
      refine at_iloadn ok dX6_read_59 rfl ?_
      refine at_iconst (v := 3) ok dX6_read_60 (by decide) ?_
      refine bt_icmp_ge (tgt := 74) ok dX6_read_61 (by decide) h (fun hc h => ?_) (fun hc h => ?_)
      · exact at_weak (lw_s (lw_n (lw_n (lw_n lw_0)))) (kx () _ (hr_rt.mp h))
      · refine at_aloadn ok dX6_read_64 rfl ?_
        refine at_cVv (As := []) ok ct_6_read_46 dX6_read_65 (by simp [cat_rf, cat_i, cat_l]) (s6_unwrapOnce t  _) h fun v65 σ h => ?_
        refine at_iinc (v := x59 + 1) ok dX6_read_68 rfl rfl (lc_non rfl) (by decide) ?_
        refine at_goto (tgt := 59) ok dX6_read_71 (by decide) ?_
        exact at_weak (lw_s (lw_n (lw_n (lw_s lw_0)))) (ih (x59 + 1) _ h)
  · unfold l6_read_20 at h
    refine at_iloadn ok dX6_read_20 rfl ?_
    refine at_aloadn ok dX6_read_21 rfl ?_
    refine at_getI ok gf_6_9 dX6_read_22 h fun v22 h => ?_
    refine bt_icmp_ge (tgt := 57) ok dX6_read_25 (by decide) h (fun hc h => ?_) (fun hc h => ?_)
    · exact at_weak (lw_s (lw_n (lw_n (lw_n lw_0)))) (kx () _ (hr_rt.mp h))
    · refine at_aloadn ok dX6_read_28 rfl ?_
      refine at_getR ok gf_6_24 dX6_read_29 h fun v29 h => ?_
      refine at_iloadn ok dX6_read_32 rfl ?_
      refine at_aloadn ok dX6_read_33 rfl ?_
      refine at_iloadn ok dX6_read_34 rfl ?_
      refine at_iald ok dX6_read_35 h fun v35 h => ?_
      refine at_iast ok dX6_read_36 h fun σ h => ?_
      refine at_aloadn ok dX6_read_37 rfl ?_
      refine at_getR ok gf_6_28 dX6_read_38 h fun v38 h => ?_
      refine at_iloadn ok dX6_read_41 rfl ?_
      refine at_iloadn ok dX6_read_42 rfl ?_
      refine at_iast ok dX6_read_43 h fun σ h => ?_
      refine at_aloadn ok dX6_read_44 rfl ?_
      refine at_getR ok gf_6_31 dX6_read_45 h fun v45 h => ?_
      refine at_iloadn ok dX6_read_48 rfl ?_
      refine at_iloadn ok dX6_read_49 rfl ?_
      refine at_iast ok dX6_read_50 h fun σ h => ?_
      refine at_iinc (v := x20 + 1) ok dX6_read_51 rfl rfl (lc_non rfl) (by decide) ?_
      refine at_goto (tgt := 20) ok dX6_read_54 (by decide) ?_
      exact at_weak (lw_s (lw_s (lw_n (lw_s lw_0)))) (ih (x20 + 1) _ h)
set_option maxRecDepth 100000 in
set_option maxHeartbeats 4000000 in
theorem s7_takeTape (t : Option Nat) (σ : AH) (Q : Option Nat → AH → Prop) (h : Hr (f7_takeTape t) σ Q) : Runs m7_takeTape σ [va_rf t] (fun v σ1 => ∃ a, v = some (va_rf a) ∧ Q a σ1) := by
  obtain ⟨a0, σ1, e, hQ⟩ := h
  have hm := n7_takeTape t σ a0 σ1 e
  have h : Hr (f7_takeTape t) σ (fun a σ2 => a = a0 ∧ σ2 = σ1) := ⟨a0, σ1, e, rfl, rfl⟩
  refine ⟨_, σ1, hm, ⟨a0, rfl, hQ⟩, runs_of (by decide +kernel) (by simp [cat_rf, cat_i, cat_l]) (Nat.le_of_ble_eq_true rfl) hm fun X ok fn => ?_⟩
  clear e hQ hm
  unfold f7_takeTape at h
  show AT X m7_takeTape 0 [some (va_rf (t)), none] [] σ
  refine at_newO ok nw_7_20 dX7_takeTape_0 h fun v0 σ h => ?_
  refine at_dup ok dX7_takeTape_3 (cat_rf _) ?_
  refine at_aloadn ok dX7_takeTape_4 rfl ?_
  refine at_getI ok gf_7_17 dX7_takeTape_5 h fun v5 h => ?_
  refine at_cI (As := [.int (v5)]) ok ct_7_takeTape_52 dX7_takeTape_8 (by simp [cat_rf, cat_i, cat_l]) (s6_init v0 v5 _) h fun v8 σ h => ?_
  refine at_astoren ok dX7_takeTape_11 rfl (lc_ref rfl) (by decide) ?_
  refine at_aloadn ok dX7_takeTape_12 rfl ?_
  refine at_aloadn ok dX7_takeTape_13 rfl ?_
  refine at_getR ok gf_7_13 dX7_takeTape_14 h fun v14 h => ?_
  refine at_aloadn ok dX7_takeTape_17 rfl ?_
  refine at_getI ok gf_7_17 dX7_takeTape_18 h fun v18 h => ?_
  refine at_cVv (As := [va_rf (v14), .int (v18)]) ok ct_7_takeTape_252 dX7_takeTape_21 (by simp [cat_rf, cat_i, cat_l]) (s6_read v0 v14 v18 _) h fun v21 σ h => ?_
  refine at_aloadn ok dX7_takeTape_24 rfl ?_
  refine at_iconst (v := 0) ok dX7_takeTape_25 (by decide) ?_
  refine at_putI ok (pf_7_17 _) dX7_takeTape_26 h fun σ h => ?_
  refine at_aloadn ok dX7_takeTape_29 rfl ?_
  exact at_aret ok fn ⟨_, rfl, Or.inl ⟨_, rfl⟩⟩ dX7_takeTape_30 h
set_option maxRecDepth 100000 in
set_option maxHeartbeats 4000000 in
theorem s7_keep (t : Option Nat) (a1 : Int32) (σ : AH) (Q : Int32 → AH → Prop) (h : Hr (f7_keep t a1) σ Q) : Runs m7_keep σ [va_rf t, .int (a1)] (fun v σ1 => ∃ a, v = some (.int a) ∧ Q a σ1) := by
  obtain ⟨a0, σ1, e, hQ⟩ := h
  have hm := n7_keep t a1 σ a0 σ1 e
  have h : Hr (f7_keep t a1) σ (fun a σ2 => a = a0 ∧ σ2 = σ1) := ⟨a0, σ1, e, rfl, rfl⟩
  refine ⟨_, σ1, hm, ⟨a0, rfl, hQ⟩, runs_of (by decide +kernel) (by simp [cat_rf, cat_i, cat_l]) (Nat.le_of_ble_eq_true rfl) hm fun X ok fn => ?_⟩
  clear e hQ hm
  unfold f7_keep at h
  show AT X m7_keep 0 [some (va_rf (t)), some (.int (a1)), none] [] σ
  refine at_iloadn ok dX7_keep_0 rfl ?_
  refine at_cSi (As := [.int (a1)]) ok ct_7_keep_90 dX7_keep_1 (by simp [cat_rf, cat_i, cat_l]) (s7_isText a1 _) h fun v1 σ h => ?_
  refine bt_if_ne (tgt := 9) ok dX7_keep_4 (by decide) h (fun hc h => ?_) (fun hc h => ?_)
  · refine at_iconst (v := (-1)) ok dX7_keep_7 (by decide) ?_
    exact at_iret ok fn ⟨_, rfl, rfl⟩ dX7_keep_8 h
  · refine at_aloadn ok dX7_keep_9 rfl ?_
    refine at_cVr (As := []) ok ct_7_keep_94 dX7_keep_10 (by simp [cat_rf, cat_i, cat_l]) (s7_takeTape t  _) h fun v10 σ h => ?_
    refine at_astoren ok dX7_keep_13 rfl (lc_int rfl) (by decide) ?_
    refine at_aloadn ok dX7_keep_14 rfl ?_
    refine at_getR ok gf_7_22 dX7_keep_15 h fun v15 h => ?_
    refine at_iloadn ok dX7_keep_18 rfl ?_
    refine at_aloadn ok dX7_keep_19 rfl ?_
    refine at_aast (t := 2) (cc' := 6) rfl rfl (by decide) ok dX7_keep_20 h fun σ h => ?_
    refine at_aloadn ok dX7_keep_21 rfl ?_
    refine at_iloadn ok dX7_keep_22 rfl ?_
    refine at_cVv (As := [.int (a1)]) ok ct_7_keep_98 dX7_keep_23 (by simp [cat_rf, cat_i, cat_l]) (s7_forgetKindsOver t a1 _) h fun v23 σ h => ?_
    refine at_aloadn ok dX7_keep_26 rfl ?_
    refine at_getI ok gf_7_101 dX7_keep_27 h fun v27 h => ?_
    exact at_iret ok fn ⟨_, rfl, rfl⟩ dX7_keep_30 h
set_option maxRecDepth 100000 in
set_option maxHeartbeats 4000000 in
theorem s7_leastShared (a1 : Int32) (a2 : Int32) (σ : AH) (Q : Int32 → AH → Prop) (h : Hr (f7_leastShared a1 a2) σ Q) : Runs m7_leastShared σ [.int (a1), .int (a2)] (fun v σ1 => ∃ a, v = some (.int a) ∧ Q a σ1) := by
  obtain ⟨a0, σ1, e, hQ⟩ := h
  have hm := n7_leastShared a1 a2 σ a0 σ1 e
  have h : Hr (f7_leastShared a1 a2) σ (fun a σ2 => a = a0 ∧ σ2 = σ1) := ⟨a0, σ1, e, rfl, rfl⟩
  refine ⟨_, σ1, hm, ⟨a0, rfl, hQ⟩, runs_of (by decide +kernel) (by simp [cat_rf, cat_i, cat_l]) (Nat.le_of_ble_eq_true rfl) hm fun X ok fn => ?_⟩
  clear e hQ hm
  unfold f7_leastShared at h
  show AT X m7_leastShared 0 [some (.int (a1)), some (.int (a2))] [] σ
  refine at_iloadn ok dX7_leastShared_0 rfl ?_
  refine at_iconst (v := (-1)) ok dX7_leastShared_1 (by decide) ?_
  refine bt_icmp_ne (tgt := 11) ok dX7_leastShared_2 (by decide) h (fun hc h => ?_) (fun hc h => ?_)
  · refine at_iloadn ok dX7_leastShared_5 rfl ?_
    refine at_iconst (v := 0) ok dX7_leastShared_6 (by decide) ?_
    refine at_mmax wd_369 wd_51 wd_4 wd_52 (by decide) (by simp [cat_rf, cat_i, cat_l]) ok dX7_leastShared_7 ?_
    exact at_iret ok fn ⟨_, rfl, rfl⟩ dX7_leastShared_10 h
  · refine at_iloadn ok dX7_leastShared_11 rfl ?_
    refine at_iconst (v := (-1)) ok dX7_leastShared_12 (by decide) ?_
    refine bt_icmp_eq (tgt := 21) ok dX7_leastShared_13 (by decide) h (fun hc h => ?_) (fun hc h => ?_)
    · refine at_iloadn ok dX7_leastShared_21 rfl ?_
      refine at_goto (tgt := 26) ok dX7_leastShared_22 (by decide) ?_
      exact at_iret ok fn ⟨_, rfl, rfl⟩ dX7_leastShared_26 h
    · refine at_iloadn ok dX7_leastShared_16 rfl ?_
      refine at_iloadn ok dX7_leastShared_17 rfl ?_
      refine bt_icmp_ne (tgt := 25) ok dX7_leastShared_18 (by decide) h (fun hc h => ?_) (fun hc h => ?_)
      · refine at_iloadn ok dX7_leastShared_21 rfl ?_
        refine at_goto (tgt := 26) ok dX7_leastShared_22 (by decide) ?_
        exact at_iret ok fn ⟨_, rfl, rfl⟩ dX7_leastShared_26 h
      · refine at_iconst (v := (-1)) ok dX7_leastShared_25 (by decide) ?_
        exact at_iret ok fn ⟨_, rfl, rfl⟩ dX7_leastShared_26 h
set_option maxRecDepth 100000 in
set_option maxHeartbeats 4000000 in
theorem s7_lettersOfFate (t : Option Nat) (a1 : Int32) (σ : AH) (Q : Int32 → AH → Prop) (h : Hr (f7_lettersOfFate t a1) σ Q) : Runs m7_lettersOfFate σ [va_rf t, .int (a1)] (fun v σ1 => ∃ a, v = some (.int a) ∧ Q a σ1) := by
  obtain ⟨a0, σ1, e, hQ⟩ := h
  have hm := n7_lettersOfFate t a1 σ a0 σ1 e
  have h : Hr (f7_lettersOfFate t a1) σ (fun a σ2 => a = a0 ∧ σ2 = σ1) := ⟨a0, σ1, e, rfl, rfl⟩
  refine ⟨_, σ1, hm, ⟨a0, rfl, hQ⟩, runs_of (by decide +kernel) (by simp [cat_rf, cat_i, cat_l]) (Nat.le_of_ble_eq_true rfl) hm fun X ok fn => ?_⟩
  clear e hQ hm
  unfold f7_lettersOfFate at h
  show AT X m7_lettersOfFate 0 [some (va_rf (t)), some (.int (a1)), none, none] [] σ
  refine at_iconst (v := 0) ok dX7_lettersOfFate_0 (by decide) ?_
  refine at_istoren ok dX7_lettersOfFate_1 rfl (lc_int rfl) (by decide) ?_
  refine at_iconst (v := 0) ok dX7_lettersOfFate_2 (by decide) ?_
  refine at_istoren ok dX7_lettersOfFate_3 rfl (lc_int rfl) (by decide) ?_
  refine at_weak (L' := [some (va_rf (t)), some (.int (a1)), some (.int (0)), some (.int (0))]) (lw_s (lw_s (lw_s (lw_s lw_0)))) ?_
  refine at_loop (fun x4 σ => AT X m7_lettersOfFate 4 [some (va_rf (t)), some (.int (a1)), some (.int (x4.1)), some (.int (x4.2))] [] σ) (fun y34 σ => AT X m7_lettersOfFate 34 [none, none, some (.int (y34)), none] [] σ) h (fun y34 σ h => ?_) (fun kx rec ih x4 σ h => ?_)
  · refine at_iloadn ok dX7_lettersOfFate_34 rfl ?_
    exact at_iret ok fn ⟨_, rfl, rfl⟩ dX7_lettersOfFate_35 h
  · unfold l7_lettersOfFate_4 at h
    obtain ⟨x4_1, x4_2⟩ := x4
    dsimp only at h ⊢
    refine at_iloadn ok dX7_lettersOfFate_4 rfl ?_
    refine at_aloadn ok dX7_lettersOfFate_5 rfl ?_
    refine at_getI ok gf_7_49 dX7_lettersOfFate_6 h fun v6 h => ?_
    refine bt_icmp_ge (tgt := 34) ok dX7_lettersOfFate_9 (by decide) h (fun hc h => ?_) (fun hc h => ?_)
    · exact at_weak (lw_n (lw_n (lw_s (lw_n lw_0)))) (kx x4_1 _ (hr_rt.mp h))
    · refine at_aloadn ok dX7_lettersOfFate_12 rfl ?_
      refine at_getR ok gf_7_45 dX7_lettersOfFate_13 h fun v13 h => ?_
      refine at_iloadn ok dX7_lettersOfFate_16 rfl ?_
      refine at_aald (t := 4) ⟨_, rfl⟩ (by decide) ok dX7_lettersOfFate_17 h fun v17 h => ?_
      refine at_getI ok gf_7_185 dX7_lettersOfFate_18 h fun v18 h => ?_
      refine at_iloadn ok dX7_lettersOfFate_21 rfl ?_
      refine bt_icmp_ne (tgt := 28) ok dX7_lettersOfFate_22 (by decide) h (fun hc h => ?_) (fun hc h => ?_)
      · refine at_iinc (v := x4_1 + 1) ok dX7_lettersOfFate_25 rfl rfl (lc_int rfl) (by decide) ?_
        refine at_iinc (v := x4_2 + 1) ok dX7_lettersOfFate_28 rfl rfl (lc_int rfl) (by decide) ?_
        refine at_goto (tgt := 4) ok dX7_lettersOfFate_31 (by decide) ?_
        exact at_weak (lw_s (lw_s (lw_s (lw_s lw_0)))) (by have q := ih ((x4_1 + 1), (x4_2 + 1)) _ h; dsimp only at q; exact q)
      · refine at_iinc (v := x4_2 + 1) ok dX7_lettersOfFate_28 rfl rfl (lc_int rfl) (by decide) ?_
        refine at_goto (tgt := 4) ok dX7_lettersOfFate_31 (by decide) ?_
        exact at_weak (lw_s (lw_s (lw_s (lw_s lw_0)))) (by have q := ih (x4_1, (x4_2 + 1)) _ h; dsimp only at q; exact q)
set_option maxRecDepth 100000 in
set_option maxHeartbeats 4000000 in
theorem s7_lettersThatWereTold (t : Option Nat) (σ : AH) (Q : Int32 → AH → Prop) (h : Hr (f7_lettersThatWereTold t) σ Q) : Runs m7_lettersThatWereTold σ [va_rf t] (fun v σ1 => ∃ a, v = some (.int a) ∧ Q a σ1) := by
  obtain ⟨a0, σ1, e, hQ⟩ := h
  have hm := n7_lettersThatWereTold t σ a0 σ1 e
  have h : Hr (f7_lettersThatWereTold t) σ (fun a σ2 => a = a0 ∧ σ2 = σ1) := ⟨a0, σ1, e, rfl, rfl⟩
  refine ⟨_, σ1, hm, ⟨a0, rfl, hQ⟩, runs_of (by decide +kernel) (by simp [cat_rf, cat_i, cat_l]) (Nat.le_of_ble_eq_true rfl) hm fun X ok fn => ?_⟩
  clear e hQ hm
  unfold f7_lettersThatWereTold at h
  show AT X m7_lettersThatWereTold 0 [some (va_rf (t)), none, none] [] σ
  refine at_iconst (v := 0) ok dX7_lettersThatWereTold_0 (by decide) ?_
  refine at_istoren ok dX7_lettersThatWereTold_1 rfl (lc_ref rfl) (by decide) ?_
  refine at_iconst (v := 0) ok dX7_lettersThatWereTold_2 (by decide) ?_
  refine at_istoren ok dX7_lettersThatWereTold_3 rfl (lc_int rfl) (by decide) ?_
  refine at_weak (L' := [some (va_rf (t)), some (.int (0)), some (.int (0))]) (lw_s (lw_s (lw_s lw_0))) ?_
  refine at_loop (fun x4 σ => AT X m7_lettersThatWereTold 4 [some (va_rf (t)), some (.int (x4.1)), some (.int (x4.2))] [] σ) (fun y34 σ => AT X m7_lettersThatWereTold 34 [none, some (.int (y34)), none] [] σ) h (fun y34 σ h => ?_) (fun kx rec ih x4 σ h => ?_)
  · refine at_iloadn ok dX7_lettersThatWereTold_34 rfl ?_
    exact at_iret ok fn ⟨_, rfl, rfl⟩ dX7_lettersThatWereTold_35 h
  · unfold l7_lettersThatWereTold_4 at h
    obtain ⟨x4_1, x4_2⟩ := x4
    dsimp only at h ⊢
    refine at_iloadn ok dX7_lettersThatWereTold_4 rfl ?_
    refine at_aloadn ok dX7_lettersThatWereTold_5 rfl ?_
    refine at_getI ok gf_7_49 dX7_lettersThatWereTold_6 h fun v6 h => ?_
    refine bt_icmp_ge (tgt := 34) ok dX7_lettersThatWereTold_9 (by decide) h (fun hc h => ?_) (fun hc h => ?_)
    · exact at_weak (lw_n (lw_s (lw_n lw_0))) (kx x4_1 _ (hr_rt.mp h))
    · refine at_aloadn ok dX7_lettersThatWereTold_12 rfl ?_
      refine at_getR ok gf_7_45 dX7_lettersThatWereTold_13 h fun v13 h => ?_
      refine at_iloadn ok dX7_lettersThatWereTold_16 rfl ?_
      refine at_aald (t := 4) ⟨_, rfl⟩ (by decide) ok dX7_lettersThatWereTold_17 h fun v17 h => ?_
      refine at_getI ok gf_7_194 dX7_lettersThatWereTold_18 h fun v18 h => ?_
      refine at_iconst (v := 1) ok dX7_lettersThatWereTold_21 (by decide) ?_
      refine bt_icmp_ne (tgt := 28) ok dX7_lettersThatWereTold_22 (by decide) h (fun hc h => ?_) (fun hc h => ?_)
      · refine at_iinc (v := x4_1 + 1) ok dX7_lettersThatWereTold_25 rfl rfl (lc_ref rfl) (by decide) ?_
        refine at_iinc (v := x4_2 + 1) ok dX7_lettersThatWereTold_28 rfl rfl (lc_int rfl) (by decide) ?_
        refine at_goto (tgt := 4) ok dX7_lettersThatWereTold_31 (by decide) ?_
        exact at_weak (lw_s (lw_s (lw_s lw_0))) (by have q := ih ((x4_1 + 1), (x4_2 + 1)) _ h; dsimp only at q; exact q)
      · refine at_iinc (v := x4_2 + 1) ok dX7_lettersThatWereTold_28 rfl rfl (lc_int rfl) (by decide) ?_
        refine at_goto (tgt := 4) ok dX7_lettersThatWereTold_31 (by decide) ?_
        exact at_weak (lw_s (lw_s (lw_s lw_0))) (by have q := ih (x4_1, (x4_2 + 1)) _ h; dsimp only at q; exact q)
set_option maxRecDepth 100000 in
set_option maxHeartbeats 4000000 in
theorem s7_readTape (t : Option Nat) (σ : AH) (Q : Option Nat → AH → Prop) (h : Hr (f7_readTape t) σ Q) : Runs m7_readTape σ [va_rf t] (fun v σ1 => ∃ a, v = some (va_rf a) ∧ Q a σ1) := by
  obtain ⟨a0, σ1, e, hQ⟩ := h
  have hm := n7_readTape t σ a0 σ1 e
  have h : Hr (f7_readTape t) σ (fun a σ2 => a = a0 ∧ σ2 = σ1) := ⟨a0, σ1, e, rfl, rfl⟩
  refine ⟨_, σ1, hm, ⟨a0, rfl, hQ⟩, runs_of (by decide +kernel) (by simp [cat_rf, cat_i, cat_l]) (Nat.le_of_ble_eq_true rfl) hm fun X ok fn => ?_⟩
  clear e hQ hm
  unfold f7_readTape at h
  show AT X m7_readTape 0 [some (va_rf (t))] [] σ
  refine at_aloadn ok dX7_readTape_0 rfl ?_
  refine at_getR ok gf_7_55 dX7_readTape_1 h fun v1 h => ?_
  refine at_aloadn ok dX7_readTape_4 rfl ?_
  refine at_getR ok gf_7_13 dX7_readTape_5 h fun v5 h => ?_
  refine at_aloadn ok dX7_readTape_8 rfl ?_
  refine at_getI ok gf_7_17 dX7_readTape_9 h fun v9 h => ?_
  refine at_cVv (As := [va_rf (v5), .int (v9)]) ok ct_7_readTape_252 dX7_readTape_12 (by simp [cat_rf, cat_i, cat_l]) (s6_read v1 v5 v9 _) h fun v12 σ h => ?_
  refine at_aloadn ok dX7_readTape_15 rfl ?_
  refine at_getR ok gf_7_55 dX7_readTape_16 h fun v16 h => ?_
  exact at_aret ok fn ⟨_, rfl, Or.inl ⟨_, rfl⟩⟩ dX7_readTape_19 h
set_option maxRecDepth 100000 in
set_option maxHeartbeats 4000000 in
theorem s7_mark (t : Option Nat) (a1 : Int32) (σ : AH) (Q : Int32 → AH → Prop) (h : Hr (f7_mark t a1) σ Q) : Runs m7_mark σ [va_rf t, .int (a1)] (fun v σ1 => ∃ a, v = some (.int a) ∧ Q a σ1) := by
  obtain ⟨a0, σ1, e, hQ⟩ := h
  have hm := n7_mark t a1 σ a0 σ1 e
  have h : Hr (f7_mark t a1) σ (fun a σ2 => a = a0 ∧ σ2 = σ1) := ⟨a0, σ1, e, rfl, rfl⟩
  refine ⟨_, σ1, hm, ⟨a0, rfl, hQ⟩, runs_of (by decide +kernel) (by simp [cat_rf, cat_i, cat_l]) (Nat.le_of_ble_eq_true rfl) hm fun X ok fn => ?_⟩
  clear e hQ hm
  unfold f7_mark at h
  show AT X m7_mark 0 [some (va_rf (t)), some (.int (a1))] [] σ
  refine at_iloadn ok dX7_mark_0 rfl ?_
  refine at_cSi (As := [.int (a1)]) ok ct_7_mark_104 dX7_mark_1 (by simp [cat_rf, cat_i, cat_l]) (s7_isKind a1 _) h fun v1 σ h => ?_
  refine bt_if_eq (tgt := 17) ok dX7_mark_4 (by decide) h (fun hc h => ?_) (fun hc h => ?_)
  · refine at_iconst (v := 0) ok dX7_mark_17 (by decide) ?_
    exact at_iret ok fn ⟨_, rfl, rfl⟩ dX7_mark_18 h
  · refine at_aloadn ok dX7_mark_7 rfl ?_
    refine at_cVr (As := []) ok ct_7_mark_107 dX7_mark_8 (by simp [cat_rf, cat_i, cat_l]) (s7_readTape t  _) h fun v8 σ h => ?_
    refine at_getI ok gf_7_101 dX7_mark_11 h fun v11 h => ?_
    refine bt_if_ne (tgt := 19) ok dX7_mark_14 (by decide) h (fun hc h => ?_) (fun hc h => ?_)
    · refine at_iconst (v := 0) ok dX7_mark_17 (by decide) ?_
      exact at_iret ok fn ⟨_, rfl, rfl⟩ dX7_mark_18 h
    · refine at_aloadn ok dX7_mark_19 rfl ?_
      refine at_iloadn ok dX7_mark_20 rfl ?_
      refine at_newO ok nw_7_26 dX7_mark_21 h fun v21 σ h => ?_
      refine at_dup ok dX7_mark_24 (cat_rf _) ?_
      refine at_iconst (v := 1) ok dX7_mark_25 (by decide) ?_
      refine at_aloadn ok dX7_mark_26 rfl ?_
      refine at_cVr (As := []) ok ct_7_mark_94 dX7_mark_27 (by simp [cat_rf, cat_i, cat_l]) (s7_takeTape t  _) h fun v27 σ h => ?_
      refine at_iconst (v := 0) ok dX7_mark_30 (by decide) ?_
      refine at_iconst (v := 2) ok dX7_mark_31 (by decide) ?_
      refine at_iconst (v := 1) ok dX7_mark_32 (by decide) ?_
      refine at_iconst (v := 0) ok dX7_mark_33 (by decide) ?_
      refine at_cI (As := [.int (1), va_rf (v27), .int (0), .int (2), .int (1), .int (0)]) ok ct_7_mark_76 dX7_mark_34 (by simp [cat_rf, cat_i, cat_l]) (s1_init v21 1 v27 0 2 1 0 _) h fun v34 σ h => ?_
      refine at_cVv (As := [.int (a1), va_rf (v21)]) ok ct_7_mark_110 dX7_mark_37 (by simp [cat_rf, cat_i, cat_l]) (s7_setKind t a1 v21 _) h fun v37 σ h => ?_
      refine at_iconst (v := 1) ok dX7_mark_40 (by decide) ?_
      exact at_iret ok fn ⟨_, rfl, rfl⟩ dX7_mark_41 h
set_option maxRecDepth 100000 in
set_option maxHeartbeats 4000000 in
theorem s7_near (t : Option Nat) (a1 : Int32) (a2 : Int32) (a3 : Int32) (σ : AH) (Q : Int32 → AH → Prop) (h : Hr (f7_near t a1 a2 a3) σ Q) : Runs m7_near σ [va_rf t, .int (a1), .int (a2), .int (a3)] (fun v σ1 => ∃ a, v = some (.int a) ∧ Q a σ1) := by
  obtain ⟨a0, σ1, e, hQ⟩ := h
  have hm := n7_near t a1 a2 a3 σ a0 σ1 e
  have h : Hr (f7_near t a1 a2 a3) σ (fun a σ2 => a = a0 ∧ σ2 = σ1) := ⟨a0, σ1, e, rfl, rfl⟩
  refine ⟨_, σ1, hm, ⟨a0, rfl, hQ⟩, runs_of (by decide +kernel) (by simp [cat_rf, cat_i, cat_l]) (Nat.le_of_ble_eq_true rfl) hm fun X ok fn => ?_⟩
  clear e hQ hm
  unfold f7_near at h
  show AT X m7_near 0 [some (va_rf (t)), some (.int (a1)), some (.int (a2)), some (.int (a3))] [] σ
  refine at_iloadn ok dX7_near_0 rfl ?_
  refine at_cSi (As := [.int (a1)]) ok ct_7_near_104 dX7_near_1 (by simp [cat_rf, cat_i, cat_l]) (s7_isKind a1 _) h fun v1 σ h => ?_
  refine bt_if_eq (tgt := 21) ok dX7_near_4 (by decide) h (fun hc h => ?_) (fun hc h => ?_)
  · refine at_iconst (v := 0) ok dX7_near_21 (by decide) ?_
    exact at_iret ok fn ⟨_, rfl, rfl⟩ dX7_near_22 h
  · refine at_iloadn ok dX7_near_7 rfl ?_
    refine at_cSi (As := [.int (a2)]) ok ct_7_near_90 dX7_near_8 (by simp [cat_rf, cat_i, cat_l]) (s7_isText a2 _) h fun v8 σ h => ?_
    refine bt_if_eq (tgt := 21) ok dX7_near_11 (by decide) h (fun hc h => ?_) (fun hc h => ?_)
    · refine at_iconst (v := 0) ok dX7_near_21 (by decide) ?_
      exact at_iret ok fn ⟨_, rfl, rfl⟩ dX7_near_22 h
    · refine at_iloadn ok dX7_near_14 rfl ?_
      refine at_cSi (As := [.int (a3)]) ok ct_7_near_114 dX7_near_15 (by simp [cat_rf, cat_i, cat_l]) (s7_isRow a3 _) h fun v15 σ h => ?_
      refine bt_if_ne (tgt := 23) ok dX7_near_18 (by decide) h (fun hc h => ?_) (fun hc h => ?_)
      · refine at_iconst (v := 0) ok dX7_near_21 (by decide) ?_
        exact at_iret ok fn ⟨_, rfl, rfl⟩ dX7_near_22 h
      · refine at_aloadn ok dX7_near_23 rfl ?_
        refine at_iloadn ok dX7_near_24 rfl ?_
        refine at_newO ok nw_7_26 dX7_near_25 h fun v25 σ h => ?_
        refine at_dup ok dX7_near_28 (cat_rf _) ?_
        refine at_iconst (v := 2) ok dX7_near_29 (by decide) ?_
        refine at_null ok dX7_near_30 ?_
        refine at_iloadn ok dX7_near_31 rfl ?_
        refine at_iloadn ok dX7_near_32 rfl ?_
        refine at_iconst (v := 1) ok dX7_near_33 (by decide) ?_
        refine at_iconst (v := 0) ok dX7_near_34 (by decide) ?_
        refine at_cI (As := [.int (2), va_rf (none), .int (a2), .int (a3), .int (1), .int (0)]) ok ct_7_near_76 dX7_near_35 (by simp [cat_rf, cat_i, cat_l]) (s1_init v25 2 none a2 a3 1 0 _) h fun v35 σ h => ?_
        refine at_cVv (As := [.int (a1), va_rf (v25)]) ok ct_7_near_110 dX7_near_38 (by simp [cat_rf, cat_i, cat_l]) (s7_setKind t a1 v25 _) h fun v38 σ h => ?_
        refine at_iconst (v := 1) ok dX7_near_41 (by decide) ?_
        exact at_iret ok fn ⟨_, rfl, rfl⟩ dX7_near_42 h
set_option maxRecDepth 100000 in
set_option maxHeartbeats 4000000 in
theorem s0_clear (t : Option Nat) (σ : AH) (Q : Unit → AH → Prop) (h : Hr (f0_clear t) σ Q) : Runs m0_clear σ [va_rf t] (fun v σ1 => ∃ a, v = none ∧ Q a σ1) := by
  obtain ⟨a0, σ1, e, hQ⟩ := h
  have hm := n0_clear t σ a0 σ1 e
  have h : Hr (f0_clear t) σ (fun a σ2 => a = a0 ∧ σ2 = σ1) := ⟨a0, σ1, e, rfl, rfl⟩
  refine ⟨_, σ1, hm, ⟨a0, rfl, hQ⟩, runs_of (by decide +kernel) (by simp [cat_rf, cat_i, cat_l]) (Nat.le_of_ble_eq_true rfl) hm fun X ok fn => ?_⟩
  clear e hQ hm
  unfold f0_clear at h
  show AT X m0_clear 0 [some (va_rf (t))] [] σ
  refine at_aloadn ok dX0_clear_0 rfl ?_
  refine at_iconst (v := 0) ok dX0_clear_1 (by decide) ?_
  refine at_putI ok (pf_0_18 _) dX0_clear_2 h fun σ h => ?_
  refine at_aloadn ok dX0_clear_5 rfl ?_
  refine at_getR ok gf_0_12 dX0_clear_6 h fun v6 h => ?_
  refine at_cVv (As := []) ok ct_0_clear_38 dX0_clear_9 (by simp [cat_rf, cat_i, cat_l]) (s3_clear v6  _) h fun v9 σ h => ?_
  exact at_vret ok fn rfl dX0_clear_12 h
set_option maxRecDepth 100000 in
set_option maxHeartbeats 4000000 in
theorem s7_numbers (t : Option Nat) (σ : AH) (Q : Int32 → AH → Prop) (h : Hr (f7_numbers t) σ Q) : Runs m7_numbers σ [va_rf t] (fun v σ1 => ∃ a, v = some (.int a) ∧ Q a σ1) := by
  obtain ⟨a0, σ1, e, hQ⟩ := h
  have hm := n7_numbers t σ a0 σ1 e
  have h : Hr (f7_numbers t) σ (fun a σ2 => a = a0 ∧ σ2 = σ1) := ⟨a0, σ1, e, rfl, rfl⟩
  refine ⟨_, σ1, hm, ⟨a0, rfl, hQ⟩, runs_of (by decide +kernel) (by simp [cat_rf, cat_i, cat_l]) (Nat.le_of_ble_eq_true rfl) hm fun X ok fn => ?_⟩
  clear e hQ hm
  unfold f7_numbers at h
  show AT X m7_numbers 0 [some (va_rf (t))] [] σ
  refine at_aloadn ok dX7_numbers_0 rfl ?_
  refine at_getR ok gf_7_62 dX7_numbers_1 h fun v1 h => ?_
  refine at_cVv (As := []) ok ct_7_numbers_217 dX7_numbers_4 (by simp [cat_rf, cat_i, cat_l]) (s0_clear v1  _) h fun v4 σ h => ?_
  refine at_aloadn ok dX7_numbers_7 rfl ?_
  refine at_cVr (As := []) ok ct_7_numbers_107 dX7_numbers_8 (by simp [cat_rf, cat_i, cat_l]) (s7_readTape t  _) h fun v8 σ h => ?_
  refine at_aloadn ok dX7_numbers_11 rfl ?_
  refine at_getR ok gf_7_62 dX7_numbers_12 h fun v12 h => ?_
  refine at_cVv (As := [va_rf (v12)]) ok ct_7_numbers_220 dX7_numbers_15 (by simp [cat_rf, cat_i, cat_l]) (s6_collectNumbers v8 v12 _) h fun v15 σ h => ?_
  refine at_aloadn ok dX7_numbers_18 rfl ?_
  refine at_getR ok gf_7_62 dX7_numbers_19 h fun v19 h => ?_
  refine at_getI ok gf_7_202 dX7_numbers_22 h fun v22 h => ?_
  exact at_iret ok fn ⟨_, rfl, rfl⟩ dX7_numbers_25 h
set_option maxRecDepth 100000 in
set_option maxHeartbeats 4000000 in
theorem s7_parts (t : Option Nat) (a1 : Int32) (a2 : Int32) (σ : AH) (Q : Int32 → AH → Prop) (h : Hr (f7_parts t a1 a2) σ Q) : Runs m7_parts σ [va_rf t, .int (a1), .int (a2)] (fun v σ1 => ∃ a, v = some (.int a) ∧ Q a σ1) := by
  obtain ⟨a0, σ1, e, hQ⟩ := h
  have hm := n7_parts t a1 a2 σ a0 σ1 e
  have h : Hr (f7_parts t a1 a2) σ (fun a σ2 => a = a0 ∧ σ2 = σ1) := ⟨a0, σ1, e, rfl, rfl⟩
  refine ⟨_, σ1, hm, ⟨a0, rfl, hQ⟩, runs_of (by decide +kernel) (by simp [cat_rf, cat_i, cat_l]) (Nat.le_of_ble_eq_true rfl) hm fun X ok fn => ?_⟩
  clear e hQ hm
  unfold f7_parts at h
  show AT X m7_parts 0 [some (va_rf (t)), some (.int (a1)), some (.int (a2))] [] σ
  refine at_iloadn ok dX7_parts_0 rfl ?_
  refine at_cSi (As := [.int (a1)]) ok ct_7_parts_90 dX7_parts_1 (by simp [cat_rf, cat_i, cat_l]) (s7_isText a1 _) h fun v1 σ h => ?_
  refine bt_if_eq (tgt := 14) ok dX7_parts_4 (by decide) h (fun hc h => ?_) (fun hc h => ?_)
  · refine at_iconst (v := (-1)) ok dX7_parts_14 (by decide) ?_
    exact at_iret ok fn ⟨_, rfl, rfl⟩ dX7_parts_15 h
  · refine at_iloadn ok dX7_parts_7 rfl ?_
    refine at_cSi (As := [.int (a2)]) ok ct_7_parts_114 dX7_parts_8 (by simp [cat_rf, cat_i, cat_l]) (s7_isRow a2 _) h fun v8 σ h => ?_
    refine bt_if_ne (tgt := 16) ok dX7_parts_11 (by decide) h (fun hc h => ?_) (fun hc h => ?_)
    · refine at_iconst (v := (-1)) ok dX7_parts_14 (by decide) ?_
      exact at_iret ok fn ⟨_, rfl, rfl⟩ dX7_parts_15 h
    · refine at_aloadn ok dX7_parts_16 rfl ?_
      refine at_getR ok gf_7_62 dX7_parts_17 h fun v17 h => ?_
      refine at_cVv (As := []) ok ct_7_parts_217 dX7_parts_20 (by simp [cat_rf, cat_i, cat_l]) (s0_clear v17  _) h fun v20 σ h => ?_
      refine at_aloadn ok dX7_parts_23 rfl ?_
      refine at_cVr (As := []) ok ct_7_parts_107 dX7_parts_24 (by simp [cat_rf, cat_i, cat_l]) (s7_readTape t  _) h fun v24 σ h => ?_
      refine at_aloadn ok dX7_parts_27 rfl ?_
      refine at_getR ok gf_7_22 dX7_parts_28 h fun v28 h => ?_
      refine at_iloadn ok dX7_parts_31 rfl ?_
      refine at_aald (t := 2) ⟨_, rfl⟩ (by decide) ok dX7_parts_32 h fun v32 h => ?_
      refine at_iloadn ok dX7_parts_33 rfl ?_
      refine at_aloadn ok dX7_parts_34 rfl ?_
      refine at_getR ok gf_7_62 dX7_parts_35 h fun v35 h => ?_
      refine at_cVv (As := [va_rf (v32), .int (a2), va_rf (v35)]) ok ct_7_parts_224 dX7_parts_38 (by simp [cat_rf, cat_i, cat_l]) (s6_collectParts v24 v32 a2 v35 _) h fun v38 σ h => ?_
      refine at_aloadn ok dX7_parts_41 rfl ?_
      refine at_getR ok gf_7_62 dX7_parts_42 h fun v42 h => ?_
      refine at_getR ok gf_7_228 dX7_parts_45 h fun v45 h => ?_
      refine at_cVi (As := []) ok ct_7_parts_231 dX7_parts_48 (by simp [cat_rf, cat_i, cat_l]) (s3_size v45  _) h fun v48 σ h => ?_
      exact at_iret ok fn ⟨_, rfl, rfl⟩ dX7_parts_51 h
set_option maxRecDepth 100000 in
set_option maxHeartbeats 4000000 in
theorem s7_pieces (t : Option Nat) (a1 : Int32) (a2 : Int32) (a3 : Int32) (a4 : Int32) (a5 : Int32) (σ : AH) (Q : Int32 → AH → Prop) (h : Hr (f7_pieces t a1 a2 a3 a4 a5) σ Q) : Runs m7_pieces σ [va_rf t, .int (a1), .int (a2), .int (a3), .int (a4), .int (a5)] (fun v σ1 => ∃ a, v = some (.int a) ∧ Q a σ1) := by
  obtain ⟨a0, σ1, e, hQ⟩ := h
  have hm := n7_pieces t a1 a2 a3 a4 a5 σ a0 σ1 e
  have h : Hr (f7_pieces t a1 a2 a3 a4 a5) σ (fun a σ2 => a = a0 ∧ σ2 = σ1) := ⟨a0, σ1, e, rfl, rfl⟩
  refine ⟨_, σ1, hm, ⟨a0, rfl, hQ⟩, runs_of (by decide +kernel) (by simp [cat_rf, cat_i, cat_l]) (Nat.le_of_ble_eq_true rfl) hm fun X ok fn => ?_⟩
  clear e hQ hm
  unfold f7_pieces at h
  show AT X m7_pieces 0 [some (va_rf (t)), some (.int (a1)), some (.int (a2)), some (.int (a3)), some (.int (a4)), some (.int (a5))] [] σ
  refine at_iloadn ok dX7_pieces_0 rfl ?_
  refine at_cSi (As := [.int (a1)]) ok ct_7_pieces_104 dX7_pieces_1 (by simp [cat_rf, cat_i, cat_l]) (s7_isKind a1 _) h fun v1 σ h => ?_
  refine bt_if_eq (tgt := 21) ok dX7_pieces_4 (by decide) h (fun hc h => ?_) (fun hc h => ?_)
  · refine at_iconst (v := 0) ok dX7_pieces_21 (by decide) ?_
    exact at_iret ok fn ⟨_, rfl, rfl⟩ dX7_pieces_22 h
  · refine at_iloadn ok dX7_pieces_7 rfl ?_
    refine at_cSi (As := [.int (a2)]) ok ct_7_pieces_90 dX7_pieces_8 (by simp [cat_rf, cat_i, cat_l]) (s7_isText a2 _) h fun v8 σ h => ?_
    refine bt_if_eq (tgt := 21) ok dX7_pieces_11 (by decide) h (fun hc h => ?_) (fun hc h => ?_)
    · refine at_iconst (v := 0) ok dX7_pieces_21 (by decide) ?_
      exact at_iret ok fn ⟨_, rfl, rfl⟩ dX7_pieces_22 h
    · refine at_iloadn ok dX7_pieces_14 rfl ?_
      refine at_cSi (As := [.int (a3)]) ok ct_7_pieces_114 dX7_pieces_15 (by simp [cat_rf, cat_i, cat_l]) (s7_isRow a3 _) h fun v15 σ h => ?_
      refine bt_if_ne (tgt := 23) ok dX7_pieces_18 (by decide) h (fun hc h => ?_) (fun hc h => ?_)
      · refine at_iconst (v := 0) ok dX7_pieces_21 (by decide) ?_
        exact at_iret ok fn ⟨_, rfl, rfl⟩ dX7_pieces_22 h
      · refine at_iload ok dX7_pieces_23 rfl ?_
        refine at_iconst (v := 1) ok dX7_pieces_25 (by decide) ?_
        refine at_bipush (v := 50) ok dX7_pieces_26 (by decide) ?_
        refine at_cSi (As := [.int (a4), .int (1), .int (50)]) ok ct_7_pieces_79 dX7_pieces_28 (by simp [cat_rf, cat_i, cat_l]) (s7_within a4 1 50 _) h fun v28 σ h => ?_
        refine bt_if_eq (tgt := 45) ok dX7_pieces_31 (by decide) h (fun hc h => ?_) (fun hc h => ?_)
        · refine at_iconst (v := 0) ok dX7_pieces_45 (by decide) ?_
          exact at_iret ok fn ⟨_, rfl, rfl⟩ dX7_pieces_46 h
        · refine at_iload ok dX7_pieces_34 rfl ?_
          refine at_iconst (v := 0) ok dX7_pieces_36 (by decide) ?_
          refine at_bipush (v := 30) ok dX7_pieces_37 (by decide) ?_
          refine at_cSi (As := [.int (a5), .int (0), .int (30)]) ok ct_7_pieces_79 dX7_pieces_39 (by simp [cat_rf, cat_i, cat_l]) (s7_within a5 0 30 _) h fun v39 σ h => ?_
          refine bt_if_ne (tgt := 47) ok dX7_pieces_42 (by decide) h (fun hc h => ?_) (fun hc h => ?_)
          · refine at_iconst (v := 0) ok dX7_pieces_45 (by decide) ?_
            exact at_iret ok fn ⟨_, rfl, rfl⟩ dX7_pieces_46 h
          · refine at_aloadn ok dX7_pieces_47 rfl ?_
            refine at_iloadn ok dX7_pieces_48 rfl ?_
            refine at_newO ok nw_7_26 dX7_pieces_49 h fun v49 σ h => ?_
            refine at_dup ok dX7_pieces_52 (cat_rf _) ?_
            refine at_iconst (v := 4) ok dX7_pieces_53 (by decide) ?_
            refine at_null ok dX7_pieces_54 ?_
            refine at_iloadn ok dX7_pieces_55 rfl ?_
            refine at_iloadn ok dX7_pieces_56 rfl ?_
            refine at_iload ok dX7_pieces_57 rfl ?_
            refine at_iload ok dX7_pieces_59 rfl ?_
            refine at_cI (As := [.int (4), va_rf (none), .int (a2), .int (a3), .int (a4), .int (a5)]) ok ct_7_pieces_76 dX7_pieces_61 (by simp [cat_rf, cat_i, cat_l]) (s1_init v49 4 none a2 a3 a4 a5 _) h fun v61 σ h => ?_
            refine at_cVv (As := [.int (a1), va_rf (v49)]) ok ct_7_pieces_110 dX7_pieces_64 (by simp [cat_rf, cat_i, cat_l]) (s7_setKind t a1 v49 _) h fun v64 σ h => ?_
            refine at_iconst (v := 1) ok dX7_pieces_67 (by decide) ?_
            exact at_iret ok fn ⟨_, rfl, rfl⟩ dX7_pieces_68 h
set_option maxRecDepth 100000 in
set_option maxHeartbeats 4000000 in
theorem s7_quarrel (t : Option Nat) (a1 : Int32) (a2 : Int32) (σ : AH) (Q : Int32 → AH → Prop) (h : Hr (f7_quarrel t a1 a2) σ Q) : Runs m7_quarrel σ [va_rf t, .int (a1), .int (a2)] (fun v σ1 => ∃ a, v = some (.int a) ∧ Q a σ1) := by
  obtain ⟨a0, σ1, e, hQ⟩ := h
  have hm := n7_quarrel t a1 a2 σ a0 σ1 e
  have h : Hr (f7_quarrel t a1 a2) σ (fun a σ2 => a = a0 ∧ σ2 = σ1) := ⟨a0, σ1, e, rfl, rfl⟩
  refine ⟨_, σ1, hm, ⟨a0, rfl, hQ⟩, runs_of (by decide +kernel) (by simp [cat_rf, cat_i, cat_l]) (Nat.le_of_ble_eq_true rfl) hm fun X ok fn => ?_⟩
  clear e hQ hm
  unfold f7_quarrel at h
  show AT X m7_quarrel 0 [some (va_rf (t)), some (.int (a1)), some (.int (a2)), none, none, none, none] [] σ
  refine at_aloadn ok dX7_quarrel_0 rfl ?_
  refine at_getR ok gf_7_39 dX7_quarrel_1 h fun v1 h => ?_
  refine at_iloadn ok dX7_quarrel_4 rfl ?_
  refine at_cVr (As := [.int (a1)]) ok ct_7_quarrel_143 dX7_quarrel_5 (by simp [cat_rf, cat_i, cat_l]) (s5_get v1 a1 _) h fun v5 σ h => ?_
  refine at_astoren ok dX7_quarrel_8 rfl (lc_int rfl) (by decide) ?_
  refine at_aloadn ok dX7_quarrel_9 rfl ?_
  refine at_getR ok gf_7_39 dX7_quarrel_10 h fun v10 h => ?_
  refine at_iloadn ok dX7_quarrel_13 rfl ?_
  refine at_cVr (As := [.int (a2)]) ok ct_7_quarrel_143 dX7_quarrel_14 (by simp [cat_rf, cat_i, cat_l]) (s5_get v10 a2 _) h fun v14 σ h => ?_
  refine at_astore ok dX7_quarrel_17 (lc_ref rfl) (by decide) ?_
  refine at_aloadn ok dX7_quarrel_19 rfl ?_
  refine bt_ifnull (tgt := 52) ok dX7_quarrel_20 (by decide) h (fun hc h => ?_) (fun hc h => ?_)
  · refine at_iconst (v := (-1)) ok dX7_quarrel_52 (by decide) ?_
    exact at_iret ok fn ⟨_, rfl, rfl⟩ dX7_quarrel_53 h
  · refine at_aload ok dX7_quarrel_23 rfl ?_
    refine bt_ifnull (tgt := 52) ok dX7_quarrel_25 (by decide) h (fun hc h => ?_) (fun hc h => ?_)
    · refine at_iconst (v := (-1)) ok dX7_quarrel_52 (by decide) ?_
      exact at_iret ok fn ⟨_, rfl, rfl⟩ dX7_quarrel_53 h
    · refine at_aloadn ok dX7_quarrel_28 rfl ?_
      refine at_getI ok gf_7_147 dX7_quarrel_29 h fun v29 h => ?_
      refine at_aload ok dX7_quarrel_32 rfl ?_
      refine at_getI ok gf_7_147 dX7_quarrel_34 h fun v34 h => ?_
      refine bt_icmp_eq (tgt := 52) ok dX7_quarrel_37 (by decide) h (fun hc h => ?_) (fun hc h => ?_)
      · refine at_iconst (v := (-1)) ok dX7_quarrel_52 (by decide) ?_
        exact at_iret ok fn ⟨_, rfl, rfl⟩ dX7_quarrel_53 h
      · refine at_aloadn ok dX7_quarrel_40 rfl ?_
        refine at_getI ok gf_7_150 dX7_quarrel_41 h fun v41 h => ?_
        refine at_aload ok dX7_quarrel_44 rfl ?_
        refine at_getI ok gf_7_150 dX7_quarrel_46 h fun v46 h => ?_
        refine bt_icmp_eq (tgt := 54) ok dX7_quarrel_49 (by decide) h (fun hc h => ?_) (fun hc h => ?_)
        · refine at_aloadn ok dX7_quarrel_54 rfl ?_
          refine at_getI ok gf_7_153 dX7_quarrel_55 h fun v55 h => ?_
          refine at_aload ok dX7_quarrel_58 rfl ?_
          refine at_getI ok gf_7_153 dX7_quarrel_60 h fun v60 h => ?_
          refine at_cSi (As := [.int (v55), .int (v60)]) ok ct_7_quarrel_156 dX7_quarrel_63 (by simp [cat_rf, cat_i, cat_l]) (s7_leastShared v55 v60 _) h fun v63 σ h => ?_
          refine at_istore ok dX7_quarrel_66 (lc_ref rfl) (by decide) ?_
          refine at_aloadn ok dX7_quarrel_68 rfl ?_
          refine at_getI ok gf_7_160 dX7_quarrel_69 h fun v69 h => ?_
          refine at_aload ok dX7_quarrel_72 rfl ?_
          refine at_getI ok gf_7_160 dX7_quarrel_74 h fun v74 h => ?_
          refine at_cSi (As := [.int (v69), .int (v74)]) ok ct_7_quarrel_156 dX7_quarrel_77 (by simp [cat_rf, cat_i, cat_l]) (s7_leastShared v69 v74 _) h fun v77 σ h => ?_
          refine at_istore ok dX7_quarrel_80 (lc_int rfl) (by decide) ?_
          refine at_iload ok dX7_quarrel_82 rfl ?_
          refine at_iconst (v := (-1)) ok dX7_quarrel_84 (by decide) ?_
          refine bt_icmp_eq (tgt := 94) ok dX7_quarrel_85 (by decide) h (fun hc h => ?_) (fun hc h => ?_)
          · refine at_iconst (v := (-1)) ok dX7_quarrel_94 (by decide) ?_
            exact at_iret ok fn ⟨_, rfl, rfl⟩ dX7_quarrel_95 h
          · refine at_iload ok dX7_quarrel_88 rfl ?_
            refine at_iconst (v := (-1)) ok dX7_quarrel_90 (by decide) ?_
            refine bt_icmp_ne (tgt := 96) ok dX7_quarrel_91 (by decide) h (fun hc h => ?_) (fun hc h => ?_)
            · refine at_iconst (v := (-1)) ok dX7_quarrel_94 (by decide) ?_
              exact at_iret ok fn ⟨_, rfl, rfl⟩ dX7_quarrel_95 h
            · refine at_bipush (v := 10) ok dX7_quarrel_96 (by decide) ?_
              refine at_iload ok dX7_quarrel_98 rfl ?_
              refine at_imul ok dX7_quarrel_100 ?_
              refine at_iload ok dX7_quarrel_101 rfl ?_
              refine at_iadd ok dX7_quarrel_103 ?_
              exact at_iret ok fn ⟨_, rfl, rfl⟩ dX7_quarrel_104 h
        · refine at_iconst (v := (-1)) ok dX7_quarrel_52 (by decide) ?_
          exact at_iret ok fn ⟨_, rfl, rfl⟩ dX7_quarrel_53 h
set_option maxRecDepth 100000 in
set_option maxHeartbeats 4000000 in
theorem s4_init (t : Option Nat) (a1 : Int32) (a2 : Int32) (a3 : Int32) (a4 : Int32) (σ : AH) (Q : Unit → AH → Prop) (h : Hr (f4_init t a1 a2 a3 a4) σ Q) : Runs m4_init σ [va_rf t, .int (a1), .int (a2), .int (a3), .int (a4)] (fun v σ1 => ∃ a, v = none ∧ Q a σ1) := by
  obtain ⟨a0, σ1, e, hQ⟩ := h
  have hm := n4_init t a1 a2 a3 a4 σ a0 σ1 e
  have h : Hr (f4_init t a1 a2 a3 a4) σ (fun a σ2 => a = a0 ∧ σ2 = σ1) := ⟨a0, σ1, e, rfl, rfl⟩
  refine ⟨_, σ1, hm, ⟨a0, rfl, hQ⟩, runs_of (by decide +kernel) (by simp [cat_rf, cat_i, cat_l]) (Nat.le_of_ble_eq_true rfl) hm fun X ok fn => ?_⟩
  clear e hQ hm
  unfold f4_init at h
  show AT X m4_init 0 [some (va_rf (t)), some (.int (a1)), some (.int (a2)), some (.int (a3)), some (.int (a4))] [] σ
  refine at_aloadn ok dX4_init_0 rfl ?_
  refine at_oI wd_327 wd_19 wd_20 (by decide) (by simp [cat_rf, cat_i, cat_l]) ok dX4_init_1 h fun h => ?_
  refine at_aloadn ok dX4_init_4 rfl ?_
  refine at_iloadn ok dX4_init_5 rfl ?_
  refine at_putI ok pf_4_9 dX4_init_6 h fun σ h => ?_
  refine at_aloadn ok dX4_init_9 rfl ?_
  refine at_iloadn ok dX4_init_10 rfl ?_
  refine at_putI ok pf_4_15 dX4_init_11 h fun σ h => ?_
  refine at_aloadn ok dX4_init_14 rfl ?_
  refine at_iloadn ok dX4_init_15 rfl ?_
  refine at_putI ok pf_4_18 dX4_init_16 h fun σ h => ?_
  refine at_aloadn ok dX4_init_19 rfl ?_
  refine at_iload ok dX4_init_20 rfl ?_
  refine at_putI ok pf_4_21 dX4_init_22 h fun σ h => ?_
  exact at_vret ok fn rfl dX4_init_25 h
set_option maxRecDepth 100000 in
set_option maxHeartbeats 4000000 in
theorem s5_insert (t : Option Nat) (a1 : Int32) (a2 : Option Nat) (σ : AH) (Q : Unit → AH → Prop) (h : Hr (f5_insert t a1 a2) σ Q) : Runs m5_insert σ [va_rf t, .int (a1), va_rf (a2)] (fun v σ1 => ∃ a, v = none ∧ Q a σ1) := by
  obtain ⟨a0, σ1, e, hQ⟩ := h
  have hm := n5_insert t a1 a2 σ a0 σ1 e
  have h : Hr (f5_insert t a1 a2) σ (fun a σ2 => a = a0 ∧ σ2 = σ1) := ⟨a0, σ1, e, rfl, rfl⟩
  refine ⟨_, σ1, hm, ⟨a0, rfl, hQ⟩, runs_of (by decide +kernel) (by simp [cat_rf, cat_i, cat_l]) (Nat.le_of_ble_eq_true rfl) hm fun X ok fn => ?_⟩
  clear e hQ hm
  unfold f5_insert at h
  show AT X m5_insert 0 [some (va_rf (t)), some (.int (a1)), some (va_rf (a2)), none] [] σ
  refine at_aloadn ok dX5_insert_0 rfl ?_
  refine at_getI ok gf_5_17 dX5_insert_1 h fun v1 h => ?_
  refine at_aloadn ok dX5_insert_4 rfl ?_
  refine at_getR ok gf_5_11 dX5_insert_5 h fun v5 h => ?_
  refine at_alen (t := 5) (by decide) ok dX5_insert_8 h fun v8 h => ?_
  refine bt_icmp_ge (tgt := 24) ok dX5_insert_9 (by decide) h (fun hc h => ?_) (fun hc h => ?_)
  · exact at_vret ok fn rfl dX5_insert_24 h
  · refine at_iloadn ok dX5_insert_12 rfl ?_
    refine at_iconst (v := 0) ok dX5_insert_13 (by decide) ?_
    refine at_aloadn ok dX5_insert_14 rfl ?_
    refine at_getI ok gf_5_17 dX5_insert_15 h fun v15 h => ?_
    refine at_cSi (As := [.int (a1), .int (0), .int (v15)]) ok ct_5_insert_21 dX5_insert_18 (by simp [cat_rf, cat_i, cat_l]) (s7_within a1 0 v15 _) h fun v18 σ h => ?_
    refine bt_if_ne (tgt := 25) ok dX5_insert_21 (by decide) h (fun hc h => ?_) (fun hc h => ?_)
    · exact at_vret ok fn rfl dX5_insert_24 h
    · refine at_aloadn ok dX5_insert_25 rfl ?_
      refine at_getI ok gf_5_17 dX5_insert_26 h fun v26 h => ?_
      refine at_istoren ok dX5_insert_29 rfl (lc_ref rfl) (by decide) ?_
      refine at_weak (L' := [some (va_rf (t)), some (.int (a1)), some (va_rf (a2)), some (.int (v26))]) (lw_s (lw_s (lw_s (lw_s lw_0)))) ?_
      refine at_loop (fun x30 σ => AT X m5_insert 30 [some (va_rf (t)), some (.int (a1)), some (va_rf (a2)), some (.int (x30))] [] σ) (fun y55 σ => AT X m5_insert 55 [some (va_rf (t)), some (.int (a1)), some (va_rf (a2)), none] [] σ) h (fun y55 σ h => ?_) (fun kx rec ih x30 σ h => ?_)
      · refine at_aloadn ok dX5_insert_55 rfl ?_
        refine at_getR ok gf_5_11 dX5_insert_56 h fun v56 h => ?_
        refine at_iloadn ok dX5_insert_59 rfl ?_
        refine at_aloadn ok dX5_insert_60 rfl ?_
        refine at_aast (t := 5) (cc' := 4) rfl rfl (by decide) ok dX5_insert_61 h fun σ h => ?_
        refine at_aloadn ok dX5_insert_62 rfl ?_
        refine at_dup ok dX5_insert_63 (cat_rf _) ?_
        refine at_getI ok gf_5_17 dX5_insert_64 h fun v64 h => ?_
        refine at_iconst (v := 1) ok dX5_insert_67 (by decide) ?_
        refine at_iadd ok dX5_insert_68 ?_
        refine at_putI ok (pf_5_17 _) dX5_insert_69 h fun σ h => ?_
        exact at_vret ok fn rfl dX5_insert_72 h
      · unfold l5_insert_30 at h
        refine at_iloadn ok dX5_insert_30 rfl ?_
        refine at_iloadn ok dX5_insert_31 rfl ?_
        refine bt_icmp_le (tgt := 55) ok dX5_insert_32 (by decide) h (fun hc h => ?_) (fun hc h => ?_)
        · exact at_weak (lw_s (lw_s (lw_s (lw_n lw_0)))) (kx () _ (hr_rt.mp h))
        · refine at_aloadn ok dX5_insert_35 rfl ?_
          refine at_getR ok gf_5_11 dX5_insert_36 h fun v36 h => ?_
          refine at_iloadn ok dX5_insert_39 rfl ?_
          refine at_aloadn ok dX5_insert_40 rfl ?_
          refine at_getR ok gf_5_11 dX5_insert_41 h fun v41 h => ?_
          refine at_iloadn ok dX5_insert_44 rfl ?_
          refine at_iconst (v := 1) ok dX5_insert_45 (by decide) ?_
          refine at_isub ok dX5_insert_46 ?_
          refine at_aald (t := 5) ⟨_, rfl⟩ (by decide) ok dX5_insert_47 h fun v47 h => ?_
          refine at_aast (t := 5) (cc' := 4) rfl rfl (by decide) ok dX5_insert_48 h fun σ h => ?_
          refine at_iinc (v := x30 + (-1)) ok dX5_insert_49 rfl rfl (lc_ref rfl) (by decide) ?_
          refine at_goto (tgt := 30) ok dX5_insert_52 (by decide) ?_
          exact at_weak (lw_s (lw_s (lw_s (lw_s lw_0)))) (ih (x30 + (-1)) _ h)
set_option maxRecDepth 100000 in
set_option maxHeartbeats 4000000 in
theorem s7_rule (t : Option Nat) (a1 : Int32) (a2 : Int32) (a3 : Int32) (a4 : Int32) (a5 : Int32) (σ : AH) (Q : Int32 → AH → Prop) (h : Hr (f7_rule t a1 a2 a3 a4 a5) σ Q) : Runs m7_rule σ [va_rf t, .int (a1), .int (a2), .int (a3), .int (a4), .int (a5)] (fun v σ1 => ∃ a, v = some (.int a) ∧ Q a σ1) := by
  obtain ⟨a0, σ1, e, hQ⟩ := h
  have hm := n7_rule t a1 a2 a3 a4 a5 σ a0 σ1 e
  have h : Hr (f7_rule t a1 a2 a3 a4 a5) σ (fun a σ2 => a = a0 ∧ σ2 = σ1) := ⟨a0, σ1, e, rfl, rfl⟩
  refine ⟨_, σ1, hm, ⟨a0, rfl, hQ⟩, runs_of (by decide +kernel) (by simp [cat_rf, cat_i, cat_l]) (Nat.le_of_ble_eq_true rfl) hm fun X ok fn => ?_⟩
  clear e hQ hm
  unfold f7_rule at h
  show AT X m7_rule 0 [some (va_rf (t)), some (.int (a1)), some (.int (a2)), some (.int (a3)), some (.int (a4)), some (.int (a5))] [] σ
  refine at_aloadn ok dX7_rule_0 rfl ?_
  refine at_getR ok gf_7_39 dX7_rule_1 h fun v1 h => ?_
  refine at_getI ok gf_7_124 dX7_rule_4 h fun v4 h => ?_
  refine at_bipush (v := 20) ok dX7_rule_7 (by decide) ?_
  refine bt_icmp_ge (tgt := 26) ok dX7_rule_9 (by decide) h (fun hc h => ?_) (fun hc h => ?_)
  · refine at_iconst (v := (-1)) ok dX7_rule_26 (by decide) ?_
    exact at_iret ok fn ⟨_, rfl, rfl⟩ dX7_rule_27 h
  · refine at_aloadn ok dX7_rule_12 rfl ?_
    refine at_iloadn ok dX7_rule_13 rfl ?_
    refine at_iloadn ok dX7_rule_14 rfl ?_
    refine at_iloadn ok dX7_rule_15 rfl ?_
    refine at_iload ok dX7_rule_16 rfl ?_
    refine at_iload ok dX7_rule_18 rfl ?_
    refine at_cVi (As := [.int (a1), .int (a2), .int (a3), .int (a4), .int (a5)]) ok ct_7_rule_127 dX7_rule_20 (by simp [cat_rf, cat_i, cat_l]) (s7_isRule t a1 a2 a3 a4 a5 _) h fun v20 σ h => ?_
    refine bt_if_ne (tgt := 28) ok dX7_rule_23 (by decide) h (fun hc h => ?_) (fun hc h => ?_)
    · refine at_iconst (v := (-1)) ok dX7_rule_26 (by decide) ?_
      exact at_iret ok fn ⟨_, rfl, rfl⟩ dX7_rule_27 h
    · refine at_aloadn ok dX7_rule_28 rfl ?_
      refine at_getR ok gf_7_39 dX7_rule_29 h fun v29 h => ?_
      refine at_iloadn ok dX7_rule_32 rfl ?_
      refine at_newO ok nw_7_131 dX7_rule_33 h fun v33 σ h => ?_
      refine at_dup ok dX7_rule_36 (cat_rf _) ?_
      refine at_iloadn ok dX7_rule_37 rfl ?_
      refine at_iloadn ok dX7_rule_38 rfl ?_
      refine at_iload ok dX7_rule_39 rfl ?_
      refine at_iload ok dX7_rule_41 rfl ?_
      refine at_cI (As := [.int (a2), .int (a3), .int (a4), .int (a5)]) ok ct_7_rule_133 dX7_rule_43 (by simp [cat_rf, cat_i, cat_l]) (s4_init v33 a2 a3 a4 a5 _) h fun v43 σ h => ?_
      refine at_cVv (As := [.int (a1), va_rf (v33)]) ok ct_7_rule_136 dX7_rule_46 (by simp [cat_rf, cat_i, cat_l]) (s5_insert v29 a1 v33 _) h fun v46 σ h => ?_
      refine at_aloadn ok dX7_rule_49 rfl ?_
      refine at_getR ok gf_7_39 dX7_rule_50 h fun v50 h => ?_
      refine at_getI ok gf_7_124 dX7_rule_53 h fun v53 h => ?_
      exact at_iret ok fn ⟨_, rfl, rfl⟩ dX7_rule_56 h
set_option maxRecDepth 100000 in
set_option maxHeartbeats 4000000 in
theorem s7_sightAll (t : Option Nat) (σ : AH) (Q : Unit → AH → Prop) (h : Hr (f7_sightAll t) σ Q) : Runs m7_sightAll σ [va_rf t] (fun v σ1 => ∃ a, v = none ∧ Q a σ1) := by
  obtain ⟨a0, σ1, e, hQ⟩ := h
  have hm := n7_sightAll t σ a0 σ1 e
  have h : Hr (f7_sightAll t) σ (fun a σ2 => a = a0 ∧ σ2 = σ1) := ⟨a0, σ1, e, rfl, rfl⟩
  refine ⟨_, σ1, hm, ⟨a0, rfl, hQ⟩, runs_of (by decide +kernel) (by simp [cat_rf, cat_i, cat_l]) (Nat.le_of_ble_eq_true rfl) hm fun X ok fn => ?_⟩
  clear e hQ hm
  unfold f7_sightAll at h
  show AT X m7_sightAll 0 [some (va_rf (t)), none, none, none] [] σ
  refine at_iconst (v := 0) ok dX7_sightAll_0 (by decide) ?_
  refine at_istoren ok dX7_sightAll_1 rfl (lc_ref rfl) (by decide) ?_
  refine at_weak (L' := [some (va_rf (t)), some (.int (0)), none, none]) (lw_s (lw_s (lw_n (lw_n lw_0)))) ?_
  refine at_loop (fun x2 σ => AT X m7_sightAll 2 [some (va_rf (t)), some (.int (x2)), none, none] [] σ) (fun y82 σ => AT X m7_sightAll 82 [none, none, none, none] [] σ) h (fun y82 σ h => ?_) (fun kx rec ih x2 σ h => ?_)
  · exact at_vret ok fn rfl dX7_sightAll_82 h
  · unfold l7_sightAll_2 at h
    refine at_iloadn ok dX7_sightAll_2 rfl ?_
    refine at_aloadn ok dX7_sightAll_3 rfl ?_
    refine at_getI ok gf_7_49 dX7_sightAll_4 h fun v4 h => ?_
    refine bt_icmp_ge (tgt := 82) ok dX7_sightAll_7 (by decide) h (fun hc h => ?_) (fun hc h => ?_)
    · exact at_weak (lw_n (lw_n (lw_n (lw_n lw_0)))) (kx () _ (hr_rt.mp h))
    · refine at_aloadn ok dX7_sightAll_10 rfl ?_
      refine at_getR ok gf_7_45 dX7_sightAll_11 h fun v11 h => ?_
      refine at_iloadn ok dX7_sightAll_14 rfl ?_
      refine at_aald (t := 4) ⟨_, rfl⟩ (by decide) ok dX7_sightAll_15 h fun v15 h => ?_
      refine at_astoren ok dX7_sightAll_16 rfl (lc_int rfl) (by decide) ?_
      refine at_iconst (v := 0) ok dX7_sightAll_17 (by decide) ?_
      refine at_istoren ok dX7_sightAll_18 rfl (lc_ref rfl) (by decide) ?_
      refine at_weak (L' := [some (va_rf (t)), some (.int (x2)), some (va_rf (v15)), some (.int (0))]) (lw_s (lw_s (lw_s (lw_s lw_0)))) ?_
      refine at_loop (fun x19 σ => AT X m7_sightAll 19 [some (va_rf (t)), some (.int (x2)), some (va_rf (v15)), some (.int (x19))] [] σ) (fun y76 σ => AT X m7_sightAll 76 [some (va_rf (t)), some (.int (x2)), none, none] [] σ) h (fun y76 σ h => ?_) (fun kx rec ih x19 σ h => ?_)
      · refine at_iinc (v := x2 + 1) ok dX7_sightAll_76 rfl rfl (lc_ref rfl) (by decide) ?_
        refine at_goto (tgt := 2) ok dX7_sightAll_79 (by decide) ?_
        exact at_weak (lw_s (lw_s (lw_n (lw_n lw_0)))) (ih (x2 + 1) _ h)
      · unfold l7_sightAll_19 at h
        refine at_iloadn ok dX7_sightAll_19 rfl ?_
        refine at_bipush (v := 8) ok dX7_sightAll_20 (by decide) ?_
        refine bt_icmp_ge (tgt := 76) ok dX7_sightAll_22 (by decide) h (fun hc h => ?_) (fun hc h => ?_)
        · exact at_weak (lw_s (lw_s (lw_n (lw_n lw_0)))) (kx () _ (hr_rt.mp h))
        · refine at_aloadn ok dX7_sightAll_25 rfl ?_
          refine at_getR ok gf_7_262 dX7_sightAll_26 h fun v26 h => ?_
          refine at_iloadn ok dX7_sightAll_29 rfl ?_
          refine at_zald ok dX7_sightAll_30 h fun v30 h => ?_
          refine bt_if_ne (tgt := 70) ok dX7_sightAll_31 (by decide) h (fun hc h => ?_) (fun hc h => ?_)
          · refine at_aloadn ok dX7_sightAll_34 rfl ?_
            refine at_getR ok gf_7_265 dX7_sightAll_35 h fun v35 h => ?_
            refine at_iloadn ok dX7_sightAll_38 rfl ?_
            refine at_aald (t := 6) ⟨_, rfl⟩ (by decide) ok dX7_sightAll_39 h fun v39 h => ?_
            refine at_cVv (As := []) ok ct_7_sightAll_217 dX7_sightAll_40 (by simp [cat_rf, cat_i, cat_l]) (s0_clear v39  _) h fun v40 σ h => ?_
            refine at_aloadn ok dX7_sightAll_43 rfl ?_
            refine at_aloadn ok dX7_sightAll_44 rfl ?_
            refine at_getR ok gf_7_28 dX7_sightAll_45 h fun v45 h => ?_
            refine at_iloadn ok dX7_sightAll_48 rfl ?_
            refine at_aald (t := 3) ⟨_, rfl⟩ (by decide) ok dX7_sightAll_49 h fun v49 h => ?_
            refine at_aloadn ok dX7_sightAll_50 rfl ?_
            refine at_getR ok gf_7_269 dX7_sightAll_51 h fun v51 h => ?_
            refine at_aloadn ok dX7_sightAll_54 rfl ?_
            refine at_getR ok gf_7_265 dX7_sightAll_55 h fun v55 h => ?_
            refine at_iloadn ok dX7_sightAll_58 rfl ?_
            refine at_aald (t := 6) ⟨_, rfl⟩ (by decide) ok dX7_sightAll_59 h fun v59 h => ?_
            refine at_cVv (As := [va_rf (v49), va_rf (v51), va_rf (v59)]) ok ct_7_sightAll_272 dX7_sightAll_60 (by simp [cat_rf, cat_i, cat_l]) (s7_collect t v49 v51 v59 _) h fun v60 σ h => ?_
            refine at_aloadn ok dX7_sightAll_63 rfl ?_
            refine at_getR ok gf_7_262 dX7_sightAll_64 h fun v64 h => ?_
            refine at_iloadn ok dX7_sightAll_67 rfl ?_
            refine at_iconst (v := 1) ok dX7_sightAll_68 (by decide) ?_
            refine at_zast ok dX7_sightAll_69 h fun σ h => ?_
            refine at_iinc (v := x19 + 1) ok dX7_sightAll_70 rfl rfl (lc_ref rfl) (by decide) ?_
            refine at_goto (tgt := 19) ok dX7_sightAll_73 (by decide) ?_
            exact at_weak (lw_s (lw_s (lw_s (lw_s lw_0)))) (ih (x19 + 1) _ h)
          · refine at_iinc (v := x19 + 1) ok dX7_sightAll_70 rfl rfl (lc_ref rfl) (by decide) ?_
            refine at_goto (tgt := 19) ok dX7_sightAll_73 (by decide) ?_
            exact at_weak (lw_s (lw_s (lw_s (lw_s lw_0)))) (ih (x19 + 1) _ h)
set_option maxRecDepth 100000 in
set_option maxHeartbeats 4000000 in
theorem s2_init (t : Option Nat) (a1 : Int32) (a2 : Int32) (a3 : Int32) (a4 : Int32) (a5 : Option Nat) (a6 : Option Nat) (σ : AH) (Q : Unit → AH → Prop) (h : Hr (f2_init t a1 a2 a3 a4 a5 a6) σ Q) : Runs m2_init σ [va_rf t, .int (a1), .int (a2), .int (a3), .int (a4), va_rf (a5), va_rf (a6)] (fun v σ1 => ∃ a, v = none ∧ Q a σ1) := by
  obtain ⟨a0, σ1, e, hQ⟩ := h
  have hm := n2_init t a1 a2 a3 a4 a5 a6 σ a0 σ1 e
  have h : Hr (f2_init t a1 a2 a3 a4 a5 a6) σ (fun a σ2 => a = a0 ∧ σ2 = σ1) := ⟨a0, σ1, e, rfl, rfl⟩
  refine ⟨_, σ1, hm, ⟨a0, rfl, hQ⟩, runs_of (by decide +kernel) (by simp [cat_rf, cat_i, cat_l]) (Nat.le_of_ble_eq_true rfl) hm fun X ok fn => ?_⟩
  clear e hQ hm
  unfold f2_init at h
  show AT X m2_init 0 [some (va_rf (t)), some (.int (a1)), some (.int (a2)), some (.int (a3)), some (.int (a4)), some (va_rf (a5)), some (va_rf (a6)), none] [] σ
  refine at_aloadn ok dX2_init_0 rfl ?_
  refine at_oI wd_385 wd_19 wd_20 (by decide) (by simp [cat_rf, cat_i, cat_l]) ok dX2_init_1 h fun h => ?_
  refine at_aloadn ok dX2_init_4 rfl ?_
  refine at_iconst (v := 0) ok dX2_init_5 (by decide) ?_
  refine at_putI ok (pf_2_9 _) dX2_init_6 h fun σ h => ?_
  refine at_aloadn ok dX2_init_9 rfl ?_
  refine at_iconst (v := (-1)) ok dX2_init_10 (by decide) ?_
  refine at_putI ok (pf_2_15 _) dX2_init_11 h fun σ h => ?_
  refine at_aloadn ok dX2_init_14 rfl ?_
  refine at_iconst (v := 0) ok dX2_init_15 (by decide) ?_
  refine at_putI ok (pf_2_18 _) dX2_init_16 h fun σ h => ?_
  refine at_aloadn ok dX2_init_19 rfl ?_
  refine at_null ok dX2_init_20 ?_
  refine at_putR ok (pf_2_21 _) (Or.inl ⟨_, rfl⟩) dX2_init_21 h fun σ h => ?_
  refine at_aloadn ok dX2_init_24 rfl ?_
  refine at_bipush (v := 8) ok dX2_init_25 (by decide) ?_
  refine at_newR (t := 6) rfl (by decide) wd_386 wd_387 ok dX2_init_27 h fun v27 σ h => ?_
  refine at_putR ok pf_2_27 (Or.inr ⟨_, rfl⟩) dX2_init_30 h fun σ h => ?_
  refine at_aloadn ok dX2_init_33 rfl ?_
  refine at_bipush (v := 8) ok dX2_init_34 (by decide) ?_
  refine at_newA (atype := .boolean) (t := 1) rfl (Or.inr rfl) wd_42 ok dX2_init_36 h fun v36 σ h => ?_
  refine at_putR ok pf_2_31 (Or.inr ⟨_, rfl⟩) dX2_init_38 h fun σ h => ?_
  refine at_aloadn ok dX2_init_41 rfl ?_
  refine at_iloadn ok dX2_init_42 rfl ?_
  refine at_putI ok pf_2_35 dX2_init_43 h fun σ h => ?_
  refine at_aloadn ok dX2_init_46 rfl ?_
  refine at_iloadn ok dX2_init_47 rfl ?_
  refine at_putI ok pf_2_38 dX2_init_48 h fun σ h => ?_
  refine at_aloadn ok dX2_init_51 rfl ?_
  refine at_iloadn ok dX2_init_52 rfl ?_
  refine at_putI ok pf_2_41 dX2_init_53 h fun σ h => ?_
  refine at_aloadn ok dX2_init_56 rfl ?_
  refine at_iload ok dX2_init_57 rfl ?_
  refine at_putI ok pf_2_44 dX2_init_59 h fun σ h => ?_
  refine at_aloadn ok dX2_init_62 rfl ?_
  refine at_aload ok dX2_init_63 rfl ?_
  refine at_putR ok pf_2_47 (Or.inr ⟨_, rfl⟩) dX2_init_65 h fun σ h => ?_
  refine at_aloadn ok dX2_init_68 rfl ?_
  refine at_aload ok dX2_init_69 rfl ?_
  refine at_putR ok pf_2_51 (Or.inl ⟨_, rfl⟩) dX2_init_71 h fun σ h => ?_
  refine at_aloadn ok dX2_init_74 rfl ?_
  refine at_aload ok dX2_init_75 rfl ?_
  refine at_putR ok (pf_2_55 _) (Or.inr ⟨_, rfl⟩) dX2_init_77 h fun σ h => ?_
  refine at_iconst (v := 0) ok dX2_init_80 (by decide) ?_
  refine at_istore ok dX2_init_81 (lc_ref rfl) (by decide) ?_
  refine at_weak (L' := [some (va_rf (t)), none, none, none, none, none, none, some (.int (0))]) (lw_s (lw_n (lw_n (lw_n (lw_n (lw_n (lw_n (lw_s lw_0)))))))) ?_
  refine at_loop (fun x83 σ => AT X m2_init 83 [some (va_rf (t)), none, none, none, none, none, none, some (.int (x83))] [] σ) (fun y111 σ => AT X m2_init 111 [none, none, none, none, none, none, none, none] [] σ) h (fun y111 σ h => ?_) (fun kx rec ih x83 σ h => ?_)
  · exact at_vret ok fn rfl dX2_init_111 h
  · unfold l2_init_83 at h
    refine at_iload ok dX2_init_83 rfl ?_
    refine at_bipush (v := 8) ok dX2_init_85 (by decide) ?_
    refine bt_icmp_ge (tgt := 111) ok dX2_init_87 (by decide) h (fun hc h => ?_) (fun hc h => ?_)
    · exact at_weak (lw_n (lw_n (lw_n (lw_n (lw_n (lw_n (lw_n (lw_n lw_0)))))))) (kx () _ (hr_rt.mp h))
    · refine at_aloadn ok dX2_init_90 rfl ?_
      refine at_getR ok gf_2_27 dX2_init_91 h fun v91 h => ?_
      refine at_iload ok dX2_init_94 rfl ?_
      refine at_newO ok nw_2_25 dX2_init_96 h fun v96 σ h => ?_
      refine at_dup ok dX2_init_99 (cat_rf _) ?_
      refine at_iconst (v := 0) ok dX2_init_100 (by decide) ?_
      refine at_cI (As := [.int (0)]) ok ct_2_init_58 dX2_init_101 (by simp [cat_rf, cat_i, cat_l]) (s0_init v96 0 _) h fun v101 σ h => ?_
      refine at_aast (t := 6) (cc' := 0) rfl rfl (by decide) ok dX2_init_104 h fun σ h => ?_
      refine at_iinc (v := x83 + 1) ok dX2_init_105 rfl rfl (lc_non rfl) (by decide) ?_
      refine at_goto (tgt := 83) ok dX2_init_108 (by decide) ?_
      exact at_weak (lw_s (lw_n (lw_n (lw_n (lw_n (lw_n (lw_n (lw_s lw_0)))))))) (ih (x83 + 1) _ h)
set_option maxRecDepth 100000 in
set_option maxHeartbeats 4000000 in
theorem s7_send (t : Option Nat) (a1 : Int32) (a2 : Int32) (a3 : Int32) (σ : AH) (Q : Int32 → AH → Prop) (h : Hr (f7_send t a1 a2 a3) σ Q) : Runs m7_send σ [va_rf t, .int (a1), .int (a2), .int (a3)] (fun v σ1 => ∃ a, v = some (.int a) ∧ Q a σ1) := by
  obtain ⟨a0, σ1, e, hQ⟩ := h
  have hm := n7_send t a1 a2 a3 σ a0 σ1 e
  have h : Hr (f7_send t a1 a2 a3) σ (fun a σ2 => a = a0 ∧ σ2 = σ1) := ⟨a0, σ1, e, rfl, rfl⟩
  refine ⟨_, σ1, hm, ⟨a0, rfl, hQ⟩, runs_of (by decide +kernel) (by simp [cat_rf, cat_i, cat_l]) (Nat.le_of_ble_eq_true rfl) hm fun X ok fn => ?_⟩
  clear e hQ hm
  unfold f7_send at h
  show AT X m7_send 0 [some (va_rf (t)), some (.int (a1)), some (.int (a2)), some (.int (a3)), none, none, none] [] σ
  refine at_iloadn ok dX7_send_0 rfl ?_
  refine at_cSi (As := [.int (a1)]) ok ct_7_send_117 dX7_send_1 (by simp [cat_rf, cat_i, cat_l]) (s7_isPerson a1 _) h fun v1 σ h => ?_
  refine bt_if_eq (tgt := 23) ok dX7_send_4 (by decide) h (fun hc h => ?_) (fun hc h => ?_)
  · refine at_iconst (v := (-1)) ok dX7_send_23 (by decide) ?_
    exact at_iret ok fn ⟨_, rfl, rfl⟩ dX7_send_24 h
  · refine at_iloadn ok dX7_send_7 rfl ?_
    refine at_cSi (As := [.int (a2)]) ok ct_7_send_117 dX7_send_8 (by simp [cat_rf, cat_i, cat_l]) (s7_isPerson a2 _) h fun v8 σ h => ?_
    refine bt_if_eq (tgt := 23) ok dX7_send_11 (by decide) h (fun hc h => ?_) (fun hc h => ?_)
    · refine at_iconst (v := (-1)) ok dX7_send_23 (by decide) ?_
      exact at_iret ok fn ⟨_, rfl, rfl⟩ dX7_send_24 h
    · refine at_iloadn ok dX7_send_14 rfl ?_
      refine at_iconst (v := 0) ok dX7_send_15 (by decide) ?_
      refine at_iconst (v := 2) ok dX7_send_16 (by decide) ?_
      refine at_cSi (As := [.int (a3), .int (0), .int (2)]) ok ct_7_send_79 dX7_send_17 (by simp [cat_rf, cat_i, cat_l]) (s7_within a3 0 2 _) h fun v17 σ h => ?_
      refine bt_if_ne (tgt := 25) ok dX7_send_20 (by decide) h (fun hc h => ?_) (fun hc h => ?_)
      · refine at_iconst (v := (-1)) ok dX7_send_23 (by decide) ?_
        exact at_iret ok fn ⟨_, rfl, rfl⟩ dX7_send_24 h
      · refine at_aloadn ok dX7_send_25 rfl ?_
        refine at_getI ok gf_7_49 dX7_send_26 h fun v26 h => ?_
        refine at_bipush (v := 60) ok dX7_send_29 (by decide) ?_
        refine bt_icmp_lt (tgt := 36) ok dX7_send_31 (by decide) h (fun hc h => ?_) (fun hc h => ?_)
        · refine at_aloadn ok dX7_send_36 rfl ?_
          refine at_getI ok gf_7_49 dX7_send_37 h fun v37 h => ?_
          refine at_istore ok dX7_send_40 (lc_int rfl) (by decide) ?_
          refine at_aloadn ok dX7_send_42 rfl ?_
          refine at_cVr (As := []) ok ct_7_send_163 dX7_send_43 (by simp [cat_rf, cat_i, cat_l]) (s7_copyOfTape t  _) h fun v43 σ h => ?_
          refine at_astore ok dX7_send_46 (lc_int rfl) (by decide) ?_
          refine at_newO ok nw_7_43 dX7_send_48 h fun v48 σ h => ?_
          refine at_dup ok dX7_send_51 (cat_rf _) ?_
          refine at_iloadn ok dX7_send_52 rfl ?_
          refine at_iloadn ok dX7_send_53 rfl ?_
          refine at_iloadn ok dX7_send_54 rfl ?_
          refine at_aloadn ok dX7_send_55 rfl ?_
          refine at_getI ok gf_7_7 dX7_send_56 h fun v56 h => ?_
          refine at_aload ok dX7_send_59 rfl ?_
          refine at_aloadn ok dX7_send_61 rfl ?_
          refine at_cVr (As := []) ok ct_7_send_94 dX7_send_62 (by simp [cat_rf, cat_i, cat_l]) (s7_takeTape t  _) h fun v62 σ h => ?_
          refine at_cI (As := [.int (a1), .int (a2), .int (a3), .int (v56), va_rf (v43), va_rf (v62)]) ok ct_7_send_167 dX7_send_65 (by simp [cat_rf, cat_i, cat_l]) (s2_init v48 a1 a2 a3 v56 v43 v62 _) h fun v65 σ h => ?_
          refine at_astore ok dX7_send_68 (lc_ref rfl) (by decide) ?_
          refine at_aloadn ok dX7_send_70 rfl ?_
          refine at_getR ok gf_7_45 dX7_send_71 h fun v71 h => ?_
          refine at_iload ok dX7_send_74 rfl ?_
          refine at_aload ok dX7_send_76 rfl ?_
          refine at_aast (t := 4) (cc' := 2) rfl rfl (by decide) ok dX7_send_78 h fun σ h => ?_
          refine at_aloadn ok dX7_send_79 rfl ?_
          refine at_dup ok dX7_send_80 (cat_rf _) ?_
          refine at_getI ok gf_7_49 dX7_send_81 h fun v81 h => ?_
          refine at_iconst (v := 1) ok dX7_send_84 (by decide) ?_
          refine at_iadd ok dX7_send_85 ?_
          refine at_putI ok (pf_7_49 _) dX7_send_86 h fun σ h => ?_
          refine at_aloadn ok dX7_send_89 rfl ?_
          refine at_cVv (As := []) ok ct_7_send_170 dX7_send_90 (by simp [cat_rf, cat_i, cat_l]) (s7_sightAll t  _) h fun v90 σ h => ?_
          refine at_aloadn ok dX7_send_93 rfl ?_
          refine at_aload ok dX7_send_94 rfl ?_
          refine at_aloadn ok dX7_send_96 rfl ?_
          refine at_aloadn ok dX7_send_97 rfl ?_
          refine at_getR ok gf_7_39 dX7_send_98 h fun v98 h => ?_
          refine at_iload ok dX7_send_101 rfl ?_
          refine at_cVr (As := [va_rf (v98), .int (v37)]) ok ct_7_send_173 dX7_send_103 (by simp [cat_rf, cat_i, cat_l]) (s7_firstRule t v98 v37 _) h fun v103 σ h => ?_
          refine at_cVv (As := [va_rf (v48), va_rf (v103)]) ok ct_7_send_177 dX7_send_106 (by simp [cat_rf, cat_i, cat_l]) (s7_deal t v48 v103 _) h fun v106 σ h => ?_
          refine at_iload ok dX7_send_109 rfl ?_
          exact at_iret ok fn ⟨_, rfl, rfl⟩ dX7_send_111 h
        · refine at_iconst (v := (-1)) ok dX7_send_34 (by decide) ?_
          exact at_iret ok fn ⟨_, rfl, rfl⟩ dX7_send_35 h
set_option maxRecDepth 100000 in
set_option maxHeartbeats 4000000 in
theorem s5_copyWith (t : Option Nat) (a1 : Option Nat) (a2 : Int32) (a3 : Option Nat) (σ : AH) (Q : Unit → AH → Prop) (h : Hr (f5_copyWith t a1 a2 a3) σ Q) : Runs m5_copyWith σ [va_rf t, va_rf (a1), .int (a2), va_rf (a3)] (fun v σ1 => ∃ a, v = none ∧ Q a σ1) := by
  obtain ⟨a0, σ1, e, hQ⟩ := h
  have hm := n5_copyWith t a1 a2 a3 σ a0 σ1 e
  have h : Hr (f5_copyWith t a1 a2 a3) σ (fun a σ2 => a = a0 ∧ σ2 = σ1) := ⟨a0, σ1, e, rfl, rfl⟩
  refine ⟨_, σ1, hm, ⟨a0, rfl, hQ⟩, runs_of (by decide +kernel) (by simp [cat_rf, cat_i, cat_l]) (Nat.le_of_ble_eq_true rfl) hm fun X ok fn => ?_⟩
  clear e hQ hm
  unfold f5_copyWith at h
  show AT X m5_copyWith 0 [some (va_rf (t)), some (va_rf (a1)), some (.int (a2)), some (va_rf (a3)), none] [] σ
  refine at_aloadn ok dX5_copyWith_0 rfl ?_
  refine at_iconst (v := 0) ok dX5_copyWith_1 (by decide) ?_
  refine at_putI ok (pf_5_17 _) dX5_copyWith_2 h fun σ h => ?_
  refine at_iconst (v := 0) ok dX5_copyWith_5 (by decide) ?_
  refine at_istore ok dX5_copyWith_6 (lc_ref rfl) (by decide) ?_
  refine at_weak (L' := [some (va_rf (t)), some (va_rf (a1)), some (.int (a2)), some (va_rf (a3)), some (.int (0))]) (lw_s (lw_s (lw_s (lw_s (lw_s lw_0))))) ?_
  refine at_loop (fun x8 σ => AT X m5_copyWith 8 [some (va_rf (t)), some (va_rf (a1)), some (.int (a2)), some (va_rf (a3)), some (.int (x8))] [] σ) (fun y36 σ => AT X m5_copyWith 36 [some (va_rf (t)), none, some (.int (a2)), some (va_rf (a3)), none] [] σ) h (fun y36 σ h => ?_) (fun kx rec ih x8 σ h => ?_)
  · refine at_aloadn ok dX5_copyWith_36 rfl ?_
    refine at_iloadn ok dX5_copyWith_37 rfl ?_
    refine at_aloadn ok dX5_copyWith_38 rfl ?_
    refine at_cVv (As := [.int (a2), va_rf (a3)]) ok ct_5_copyWith_25 dX5_copyWith_39 (by simp [cat_rf, cat_i, cat_l]) (s5_insert t a2 a3 _) h fun v39 σ h => ?_
    exact at_vret ok fn rfl dX5_copyWith_42 h
  · unfold l5_copyWith_8 at h
    refine at_iload ok dX5_copyWith_8 rfl ?_
    refine at_aloadn ok dX5_copyWith_10 rfl ?_
    refine at_getI ok gf_5_17 dX5_copyWith_11 h fun v11 h => ?_
    refine bt_icmp_ge (tgt := 36) ok dX5_copyWith_14 (by decide) h (fun hc h => ?_) (fun hc h => ?_)
    · exact at_weak (lw_s (lw_n (lw_s (lw_s (lw_n lw_0))))) (kx () _ (hr_rt.mp h))
    · refine at_aloadn ok dX5_copyWith_17 rfl ?_
      refine at_iload ok dX5_copyWith_18 rfl ?_
      refine at_aloadn ok dX5_copyWith_20 rfl ?_
      refine at_getR ok gf_5_11 dX5_copyWith_21 h fun v21 h => ?_
      refine at_iload ok dX5_copyWith_24 rfl ?_
      refine at_aald (t := 5) ⟨_, rfl⟩ (by decide) ok dX5_copyWith_26 h fun v26 h => ?_
      refine at_cVv (As := [.int (x8), va_rf (v26)]) ok ct_5_copyWith_25 dX5_copyWith_27 (by simp [cat_rf, cat_i, cat_l]) (s5_insert t x8 v26 _) h fun v27 σ h => ?_
      refine at_iinc (v := x8 + 1) ok dX5_copyWith_30 rfl rfl (lc_ref rfl) (by decide) ?_
      refine at_goto (tgt := 8) ok dX5_copyWith_33 (by decide) ?_
      exact at_weak (lw_s (lw_s (lw_s (lw_s (lw_s lw_0))))) (ih (x8 + 1) _ h)
set_option maxRecDepth 100000 in
set_option maxHeartbeats 4000000 in
theorem s7_setTrial (t : Option Nat) (a1 : Int32) (a2 : Int32) (a3 : Int32) (a4 : Int32) (a5 : Int32) (σ : AH) (Q : Int32 → AH → Prop) (h : Hr (f7_setTrial t a1 a2 a3 a4 a5) σ Q) : Runs m7_setTrial σ [va_rf t, .int (a1), .int (a2), .int (a3), .int (a4), .int (a5)] (fun v σ1 => ∃ a, v = some (.int a) ∧ Q a σ1) := by
  obtain ⟨a0, σ1, e, hQ⟩ := h
  have hm := n7_setTrial t a1 a2 a3 a4 a5 σ a0 σ1 e
  have h : Hr (f7_setTrial t a1 a2 a3 a4 a5) σ (fun a σ2 => a = a0 ∧ σ2 = σ1) := ⟨a0, σ1, e, rfl, rfl⟩
  refine ⟨_, σ1, hm, ⟨a0, rfl, hQ⟩, runs_of (by decide +kernel) (by simp [cat_rf, cat_i, cat_l]) (Nat.le_of_ble_eq_true rfl) hm fun X ok fn => ?_⟩
  clear e hQ hm
  unfold f7_setTrial at h
  show AT X m7_setTrial 0 [some (va_rf (t)), some (.int (a1)), some (.int (a2)), some (.int (a3)), some (.int (a4)), some (.int (a5))] [] σ
  refine at_aloadn ok dX7_setTrial_0 rfl ?_
  refine at_iloadn ok dX7_setTrial_1 rfl ?_
  refine at_iloadn ok dX7_setTrial_2 rfl ?_
  refine at_iloadn ok dX7_setTrial_3 rfl ?_
  refine at_iload ok dX7_setTrial_4 rfl ?_
  refine at_iload ok dX7_setTrial_6 rfl ?_
  refine at_cVi (As := [.int (a1), .int (a2), .int (a3), .int (a4), .int (a5)]) ok ct_7_setTrial_127 dX7_setTrial_8 (by simp [cat_rf, cat_i, cat_l]) (s7_isRule t a1 a2 a3 a4 a5 _) h fun v8 σ h => ?_
  refine bt_if_ne (tgt := 16) ok dX7_setTrial_11 (by decide) h (fun hc h => ?_) (fun hc h => ?_)
  · refine at_iconst (v := 0) ok dX7_setTrial_14 (by decide) ?_
    exact at_iret ok fn ⟨_, rfl, rfl⟩ dX7_setTrial_15 h
  · refine at_aloadn ok dX7_setTrial_16 rfl ?_
    refine at_cVv (As := []) ok ct_7_setTrial_170 dX7_setTrial_17 (by simp [cat_rf, cat_i, cat_l]) (s7_sightAll t  _) h fun v17 σ h => ?_
    refine at_aloadn ok dX7_setTrial_20 rfl ?_
    refine at_getR ok gf_7_73 dX7_setTrial_21 h fun v21 h => ?_
    refine at_aloadn ok dX7_setTrial_24 rfl ?_
    refine at_getR ok gf_7_39 dX7_setTrial_25 h fun v25 h => ?_
    refine at_iloadn ok dX7_setTrial_28 rfl ?_
    refine at_newO ok nw_7_131 dX7_setTrial_29 h fun v29 σ h => ?_
    refine at_dup ok dX7_setTrial_32 (cat_rf _) ?_
    refine at_iloadn ok dX7_setTrial_33 rfl ?_
    refine at_iloadn ok dX7_setTrial_34 rfl ?_
    refine at_iload ok dX7_setTrial_35 rfl ?_
    refine at_iload ok dX7_setTrial_37 rfl ?_
    refine at_cI (As := [.int (a2), .int (a3), .int (a4), .int (a5)]) ok ct_7_setTrial_133 dX7_setTrial_39 (by simp [cat_rf, cat_i, cat_l]) (s4_init v29 a2 a3 a4 a5 _) h fun v39 σ h => ?_
    refine at_cVv (As := [va_rf (v25), .int (a1), va_rf (v29)]) ok ct_7_setTrial_317 dX7_setTrial_42 (by simp [cat_rf, cat_i, cat_l]) (s5_copyWith v21 v25 a1 v29 _) h fun v42 σ h => ?_
    refine at_iconst (v := 1) ok dX7_setTrial_45 (by decide) ?_
    exact at_iret ok fn ⟨_, rfl, rfl⟩ dX7_setTrial_46 h
