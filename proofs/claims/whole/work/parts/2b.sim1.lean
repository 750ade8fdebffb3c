set_option maxRecDepth 100000 in
set_option maxHeartbeats 4000000 in
theorem s6_isNumber (t : Option Nat) (a1 : Int32) (a2 : Int32) (σ : AH) (Q : Int32 → AH → Prop) (h : Hr (f6_isNumber t a1 a2) σ Q) : Runs m6_isNumber σ [va_rf t, .int (a1), .int (a2)] (fun v σ1 => ∃ a, v = some (.int a) ∧ Q a σ1) := by
  obtain ⟨a0, σ1, e, hQ⟩ := h
  have hm := n6_isNumber t a1 a2 σ a0 σ1 e
  have h : Hr (f6_isNumber t a1 a2) σ (fun a σ2 => a = a0 ∧ σ2 = σ1) := ⟨a0, σ1, e, rfl, rfl⟩
  refine ⟨_, σ1, hm, ⟨a0, rfl, hQ⟩, runs_of (by decide +kernel) (by simp [cat_rf, cat_i, cat_l]) (Nat.le_of_ble_eq_true rfl) hm fun X ok fn => ?_⟩
  clear e hQ hm
  unfold f6_isNumber at h
  show AT X m6_isNumber 0 [some (va_rf (t)), some (.int (a1)), some (.int (a2)), none, none, none, none, none] [] σ
  refine at_iconst (v := 0) ok dX6_isNumber_0 (by decide) ?_
  refine at_istoren ok dX6_isNumber_1 rfl (lc_int rfl) (by decide) ?_
  refine at_iconst (v := 0) ok dX6_isNumber_2 (by decide) ?_
  refine at_istore ok dX6_isNumber_3 (lc_int rfl) (by decide) ?_
  refine at_iloadn ok dX6_isNumber_5 rfl ?_
  refine at_istore ok dX6_isNumber_6 (lc_int rfl) (by decide) ?_
  refine at_weak (L' := [some (va_rf (t)), some (.int (a1)), none, some (.int (0)), some (.int (0)), some (.int (a2)), none, none]) (lw_s (lw_s (lw_n (lw_s (lw_s (lw_s (lw_n (lw_n lw_0)))))))) ?_
  refine at_loop (fun x8 σ => AT X m6_isNumber 8 [some (va_rf (t)), some (.int (a1)), none, some (.int (x8.1)), some (.int (x8.2.1)), some (.int (x8.2.2)), none, none] [] σ) (fun y87 σ => AT X m6_isNumber 87 [none, none, none, some (.int (y87.1)), some (.int (y87.2)), none, none, none] [] σ) h (fun y87 σ h => ?_) (fun kx rec ih x8 σ h => ?_)
  · obtain ⟨y87_1, y87_2⟩ := y87
    dsimp only at h ⊢
    refine at_iloadn ok dX6_isNumber_87 rfl ?_
    refine at_bipush (v := 8) ok dX6_isNumber_88 (by decide) ?_
    refine at_bipush (v := 16) ok dX6_isNumber_90 (by decide) ?_
    refine at_cSi (As := [.int (y87_1), .int (8), .int (16)]) ok ct_6_isNumber_103 dX6_isNumber_92 (by simp [cat_rf, cat_i, cat_l]) (s7_within y87_1 8 16 _) h fun v92 σ h => ?_
    refine bt_if_eq (tgt := 110) ok dX6_isNumber_95 (by decide) h (fun hc h => ?_) (fun hc h => ?_)
    · refine at_iconst (v := 0) ok dX6_isNumber_110 (by decide) ?_
      exact at_iret ok fn ⟨_, rfl, rfl⟩ dX6_isNumber_111 h
    · refine at_iload ok dX6_isNumber_98 rfl ?_
      refine at_bipush (v := 10) ok dX6_isNumber_100 (by decide) ?_
      refine at_irem ok dX6_isNumber_102 (by decide) ?_
      refine bt_if_ne (tgt := 110) ok dX6_isNumber_103 (by decide) h (fun hc h => ?_) (fun hc h => ?_)
      · refine at_iconst (v := 1) ok dX6_isNumber_106 (by decide) ?_
        refine at_goto (tgt := 111) ok dX6_isNumber_107 (by decide) ?_
        exact at_iret ok fn ⟨_, rfl, rfl⟩ dX6_isNumber_111 h
      · refine at_iconst (v := 0) ok dX6_isNumber_110 (by decide) ?_
        exact at_iret ok fn ⟨_, rfl, rfl⟩ dX6_isNumber_111 h
  · unfold l6_isNumber_8 at h
    obtain ⟨x8_1, x8_2, x8_3⟩ := x8
    dsimp only at h ⊢
    refine at_iload ok dX6_isNumber_8 rfl ?_
    refine at_iloadn ok dX6_isNumber_10 rfl ?_
    refine bt_icmp_lt (tgt := 87) ok dX6_isNumber_11 (by decide) h (fun hc h => ?_) (fun hc h => ?_)
    · exact at_weak (lw_n (lw_n (lw_n (lw_s (lw_s (lw_n (lw_n (lw_n lw_0)))))))) (by have q := kx (x8_1, x8_2) _ (hr_rt.mp h); dsimp only at q; exact q)
    · refine at_aloadn ok dX6_isNumber_14 rfl ?_
      refine at_getR ok gf_6_24 dX6_isNumber_15 h fun v15 h => ?_
      refine at_iload ok dX6_isNumber_18 rfl ?_
      refine at_iald ok dX6_isNumber_20 h fun v20 h => ?_
      refine at_cSi (As := [.int (v20)]) ok ct_6_isNumber_62 dX6_isNumber_21 (by simp [cat_rf, cat_i, cat_l]) (s6_isDigit v20 _) h fun v21 σ h => ?_
      refine bt_if_eq (tgt := 81) ok dX6_isNumber_24 (by decide) h (fun hc h => ?_) (fun hc h => ?_)
      · refine at_iinc (v := x8_3 + (-1)) ok dX6_isNumber_81 rfl rfl (lc_int rfl) (by decide) ?_
        refine at_goto (tgt := 8) ok dX6_isNumber_84 (by decide) ?_
        exact at_weak (lw_s (lw_s (lw_n (lw_s (lw_s (lw_s (lw_n (lw_n lw_0)))))))) (by have q := ih (x8_1, x8_2, (x8_3 + (-1))) _ h; dsimp only at q; exact q)
      · refine at_aloadn ok dX6_isNumber_27 rfl ?_
        refine at_getR ok gf_6_24 dX6_isNumber_28 h fun v28 h => ?_
        refine at_iload ok dX6_isNumber_31 rfl ?_
        refine at_iald ok dX6_isNumber_33 h fun v33 h => ?_
        refine at_bipush (v := 48) ok dX6_isNumber_34 (by decide) ?_
        refine at_isub ok dX6_isNumber_36 ?_
        refine at_istore ok dX6_isNumber_37 (lc_int rfl) (by decide) ?_
        refine at_iloadn ok dX6_isNumber_39 rfl ?_
        refine at_iconst (v := 2) ok dX6_isNumber_40 (by decide) ?_
        refine at_irem ok dX6_isNumber_41 (by decide) ?_
        refine at_join (fun y54 σ => AT X m6_isNumber 54 [some (va_rf (t)), some (.int (a1)), none, some (.int (x8_1)), some (.int (x8_2)), some (.int (x8_3)), none, none] [.int (y54)] σ) h (fun y54 σ h => ?_) (fun h j54 => ?_)
        · refine at_istore ok dX6_isNumber_54 (lc_non rfl) (by decide) ?_
          refine at_iload ok dX6_isNumber_56 rfl ?_
          refine at_iload ok dX6_isNumber_58 rfl ?_
          refine at_bipush (v := 9) ok dX6_isNumber_60 (by decide) ?_
          refine bt_icmp_le (tgt := 73) ok dX6_isNumber_62 (by decide) h (fun hc h => ?_) (fun hc h => ?_)
          · refine at_iload ok dX6_isNumber_73 rfl ?_
            refine at_iadd ok dX6_isNumber_75 ?_
            refine at_istore ok dX6_isNumber_76 (lc_int rfl) (by decide) ?_
            refine at_iinc (v := x8_1 + 1) ok dX6_isNumber_78 rfl rfl (lc_non rfl) (by decide) ?_
            refine at_iinc (v := x8_3 + (-1)) ok dX6_isNumber_81 rfl rfl (lc_int rfl) (by decide) ?_
            refine at_goto (tgt := 8) ok dX6_isNumber_84 (by decide) ?_
            exact at_weak (lw_s (lw_s (lw_n (lw_s (lw_s (lw_s (lw_n (lw_n lw_0)))))))) (by have q := ih ((x8_1 + 1), (x8_2 + y54), (x8_3 + (-1))) _ h; dsimp only at q; exact q)
          · refine at_iload ok dX6_isNumber_65 rfl ?_
            refine at_bipush (v := 9) ok dX6_isNumber_67 (by decide) ?_
            refine at_isub ok dX6_isNumber_69 ?_
            refine at_goto (tgt := 75) ok dX6_isNumber_70 (by decide) ?_
            refine at_iadd ok dX6_isNumber_75 ?_
            refine at_istore ok dX6_isNumber_76 (lc_int rfl) (by decide) ?_
            refine at_iinc (v := x8_1 + 1) ok dX6_isNumber_78 rfl rfl (lc_non rfl) (by decide) ?_
            refine at_iinc (v := x8_3 + (-1)) ok dX6_isNumber_81 rfl rfl (lc_int rfl) (by decide) ?_
            refine at_goto (tgt := 8) ok dX6_isNumber_84 (by decide) ?_
            exact at_weak (lw_s (lw_s (lw_n (lw_s (lw_s (lw_s (lw_n (lw_n lw_0)))))))) (by have q := ih ((x8_1 + 1), (x8_2 + (y54 - 9)), (x8_3 + (-1))) _ h; dsimp only at q; exact q)
        · refine bt_if_ne (tgt := 50) ok dX6_isNumber_42 (by decide) h (fun hc h => ?_) (fun hc h => ?_)
          · refine at_iload ok dX6_isNumber_45 rfl ?_
            refine at_goto (tgt := 54) ok dX6_isNumber_47 (by decide) ?_
            exact at_weak (lw_s (lw_s (lw_n (lw_s (lw_s (lw_s (lw_n (lw_n lw_0)))))))) (j54 (v33 - 48) _ (hr_rt.mp h))
          · refine at_iconst (v := 2) ok dX6_isNumber_50 (by decide) ?_
            refine at_iload ok dX6_isNumber_51 rfl ?_
            refine at_imul ok dX6_isNumber_53 ?_
            exact at_weak (lw_s (lw_s (lw_n (lw_s (lw_s (lw_s (lw_n (lw_n lw_0)))))))) (j54 (2 * (v33 - 48)) _ (hr_rt.mp h))
set_option maxRecDepth 100000 in
set_option maxHeartbeats 4000000 in
theorem s6_collectNumbers (t : Option Nat) (a1 : Option Nat) (σ : AH) (Q : Unit → AH → Prop) (h : Hr (f6_collectNumbers t a1) σ Q) : Runs m6_collectNumbers σ [va_rf t, va_rf (a1)] (fun v σ1 => ∃ a, v = none ∧ Q a σ1) := by
  obtain ⟨a0, σ1, e, hQ⟩ := h
  have hm := n6_collectNumbers t a1 σ a0 σ1 e
  have h : Hr (f6_collectNumbers t a1) σ (fun a σ2 => a = a0 ∧ σ2 = σ1) := ⟨a0, σ1, e, rfl, rfl⟩
  refine ⟨_, σ1, hm, ⟨a0, rfl, hQ⟩, runs_of (by decide +kernel) (by simp [cat_rf, cat_i, cat_l]) (Nat.le_of_ble_eq_true rfl) hm fun X ok fn => ?_⟩
  clear e hQ hm
  unfold f6_collectNumbers at h
  show AT X m6_collectNumbers 0 [some (va_rf (t)), some (va_rf (a1)), none, none] [] σ
  refine at_iconst (v := (-1)) ok dX6_collectNumbers_0 (by decide) ?_
  refine at_istoren ok dX6_collectNumbers_1 rfl (lc_ref rfl) (by decide) ?_
  refine at_iconst (v := 0) ok dX6_collectNumbers_2 (by decide) ?_
  refine at_istoren ok dX6_collectNumbers_3 rfl (lc_int rfl) (by decide) ?_
  refine at_weak (L' := [some (va_rf (t)), some (va_rf (a1)), some (.int ((-1))), some (.int (0))]) (lw_s (lw_s (lw_s (lw_s lw_0)))) ?_
  refine at_loop (fun x4 σ => AT X m6_collectNumbers 4 [some (va_rf (t)), some (va_rf (a1)), some (.int (x4.1)), some (.int (x4.2))] [] σ) (fun y67 σ => AT X m6_collectNumbers 67 [none, none, none, none] [] σ) h (fun y67 σ h => ?_) (fun kx rec ih x4 σ h => ?_)
  · exact at_vret ok fn rfl dX6_collectNumbers_67 h
  · unfold l6_collectNumbers_4 at h
    obtain ⟨x4_1, x4_2⟩ := x4
    dsimp only at h ⊢
    refine at_iloadn ok dX6_collectNumbers_4 rfl ?_
    refine at_aloadn ok dX6_collectNumbers_5 rfl ?_
    refine at_getI ok gf_6_9 dX6_collectNumbers_6 h fun v6 h => ?_
    refine bt_icmp_ge (tgt := 67) ok dX6_collectNumbers_9 (by decide) h (fun hc h => ?_) (fun hc h => ?_)
    · exact at_weak (lw_n (lw_n (lw_n (lw_n lw_0)))) (kx () _ (hr_rt.mp h))
    · refine at_iloadn ok dX6_collectNumbers_12 rfl ?_
      refine at_iloadn ok dX6_collectNumbers_13 rfl ?_
      refine bt_icmp_le (tgt := 61) ok dX6_collectNumbers_14 (by decide) h (fun hc h => ?_) (fun hc h => ?_)
      · refine at_iinc (v := x4_2 + 1) ok dX6_collectNumbers_61 rfl rfl (lc_int rfl) (by decide) ?_
        refine at_goto (tgt := 4) ok dX6_collectNumbers_64 (by decide) ?_
        exact at_weak (lw_s (lw_s (lw_s (lw_s lw_0)))) (by have q := ih (x4_1, (x4_2 + 1)) _ h; dsimp only at q; exact q)
      · refine at_aloadn ok dX6_collectNumbers_17 rfl ?_
        refine at_getR ok gf_6_24 dX6_collectNumbers_18 h fun v18 h => ?_
        refine at_iloadn ok dX6_collectNumbers_21 rfl ?_
        refine at_iald ok dX6_collectNumbers_22 h fun v22 h => ?_
        refine at_cSi (As := [.int (v22)]) ok ct_6_collectNumbers_62 dX6_collectNumbers_23 (by simp [cat_rf, cat_i, cat_l]) (s6_isDigit v22 _) h fun v23 σ h => ?_
        refine bt_if_eq (tgt := 61) ok dX6_collectNumbers_26 (by decide) h (fun hc h => ?_) (fun hc h => ?_)
        · refine at_iinc (v := x4_2 + 1) ok dX6_collectNumbers_61 rfl rfl (lc_int rfl) (by decide) ?_
          refine at_goto (tgt := 4) ok dX6_collectNumbers_64 (by decide) ?_
          exact at_weak (lw_s (lw_s (lw_s (lw_s lw_0)))) (by have q := ih (x4_1, (x4_2 + 1)) _ h; dsimp only at q; exact q)
        · refine at_aloadn ok dX6_collectNumbers_29 rfl ?_
          refine at_iloadn ok dX6_collectNumbers_30 rfl ?_
          refine at_cVi (As := [.int (x4_2)]) ok ct_6_collectNumbers_97 dX6_collectNumbers_31 (by simp [cat_rf, cat_i, cat_l]) (s6_endOfDigits t x4_2 _) h fun v31 σ h => ?_
          refine at_istoren ok dX6_collectNumbers_34 rfl (lc_ref rfl) (by decide) ?_
          refine at_aloadn ok dX6_collectNumbers_35 rfl ?_
          refine at_iloadn ok dX6_collectNumbers_36 rfl ?_
          refine at_iloadn ok dX6_collectNumbers_37 rfl ?_
          refine at_cVi (As := [.int (x4_2), .int (v31)]) ok ct_6_collectNumbers_100 dX6_collectNumbers_38 (by simp [cat_rf, cat_i, cat_l]) (s6_isNumber t x4_2 v31 _) h fun v38 σ h => ?_
          refine bt_if_eq (tgt := 61) ok dX6_collectNumbers_41 (by decide) h (fun hc h => ?_) (fun hc h => ?_)
          · refine at_iinc (v := x4_2 + 1) ok dX6_collectNumbers_61 rfl rfl (lc_int rfl) (by decide) ?_
            refine at_goto (tgt := 4) ok dX6_collectNumbers_64 (by decide) ?_
            exact at_weak (lw_s (lw_s (lw_s (lw_s lw_0)))) (by have q := ih (v31, (x4_2 + 1)) _ h; dsimp only at q; exact q)
          · refine at_aloadn ok dX6_collectNumbers_44 rfl ?_
            refine at_aloadn ok dX6_collectNumbers_45 rfl ?_
            refine at_getR ok gf_6_28 dX6_collectNumbers_46 h fun v46 h => ?_
            refine at_iloadn ok dX6_collectNumbers_49 rfl ?_
            refine at_iald ok dX6_collectNumbers_50 h fun v50 h => ?_
            refine at_aloadn ok dX6_collectNumbers_51 rfl ?_
            refine at_getR ok gf_6_31 dX6_collectNumbers_52 h fun v52 h => ?_
            refine at_iloadn ok dX6_collectNumbers_55 rfl ?_
            refine at_iald ok dX6_collectNumbers_56 h fun v56 h => ?_
            refine at_iconst (v := (-1)) ok dX6_collectNumbers_57 (by decide) ?_
            refine at_cVv (As := [.int (v50), .int (v56), .int ((-1))]) ok ct_6_collectNumbers_83 dX6_collectNumbers_58 (by simp [cat_rf, cat_i, cat_l]) (s0_put a1 v50 v56 (-1) _) h fun v58 σ h => ?_
            refine at_iinc (v := x4_2 + 1) ok dX6_collectNumbers_61 rfl rfl (lc_int rfl) (by decide) ?_
            refine at_goto (tgt := 4) ok dX6_collectNumbers_64 (by decide) ?_
            exact at_weak (lw_s (lw_s (lw_s (lw_s lw_0)))) (by have q := ih (v31, (x4_2 + 1)) _ h; dsimp only at q; exact q)
set_option maxRecDepth 100000 in
set_option maxHeartbeats 4000000 in
theorem s6_isAlikeRow (t : Option Nat) (a1 : Int32) (a2 : Option Nat) (a3 : Int32) (a4 : Int32) (σ : AH) (Q : Int32 → AH → Prop) (h : Hr (f6_isAlikeRow t a1 a2 a3 a4) σ Q) : Runs m6_isAlikeRow σ [va_rf t, .int (a1), va_rf (a2), .int (a3), .int (a4)] (fun v σ1 => ∃ a, v = some (.int a) ∧ Q a σ1) := by
  obtain ⟨a0, σ1, e, hQ⟩ := h
  have hm := n6_isAlikeRow t a1 a2 a3 a4 σ a0 σ1 e
  have h : Hr (f6_isAlikeRow t a1 a2 a3 a4) σ (fun a σ2 => a = a0 ∧ σ2 = σ1) := ⟨a0, σ1, e, rfl, rfl⟩
  refine ⟨_, σ1, hm, ⟨a0, rfl, hQ⟩, runs_of (by decide +kernel) (by simp [cat_rf, cat_i, cat_l]) (Nat.le_of_ble_eq_true rfl) hm fun X ok fn => ?_⟩
  clear e hQ hm
  unfold f6_isAlikeRow at h
  show AT X m6_isAlikeRow 0 [some (va_rf (t)), some (.int (a1)), some (va_rf (a2)), some (.int (a3)), some (.int (a4)), none] [] σ
  refine at_iconst (v := 0) ok dX6_isAlikeRow_0 (by decide) ?_
  refine at_istore ok dX6_isAlikeRow_1 (lc_int rfl) (by decide) ?_
  refine at_weak (L' := [some (va_rf (t)), some (.int (a1)), some (va_rf (a2)), some (.int (a3)), some (.int (a4)), some (.int (0))]) (lw_s (lw_s (lw_s (lw_s (lw_s (lw_s lw_0)))))) ?_
  refine at_loopS (fun x3 σ => AT X m6_isAlikeRow 3 [some (va_rf (t)), some (.int (a1)), some (va_rf (a2)), some (.int (a3)), some (.int (a4)), some (.int (x3))] [] σ) (fun y34 σ => AT X m6_isAlikeRow 34 [none, none, none, none, none, none] [] σ) h (fun y34 σ h => ?_) (fun kx rec ih x3 σ h => ?_)
  · refine at_iconst (v := 1) ok dX6_isAlikeRow_34 (by decide) ?_
    exact at_iret ok fn ⟨_, rfl, rfl⟩ dX6_isAlikeRow_35 h
  · unfold l6_isAlikeRow_3 at h
    refine at_iload ok dX6_isAlikeRow_3 rfl ?_
    refine at_iload ok dX6_isAlikeRow_5 rfl ?_
    refine bt_icmp_ge (tgt := 34) ok dX6_isAlikeRow_7 (by decide) h (fun hc h => ?_) (fun hc h => ?_)
    · exact at_weak (lw_n (lw_n (lw_n (lw_n (lw_n (lw_n lw_0)))))) (by have z := hr_inr h; exact kx () _ z)
    · refine at_aloadn ok dX6_isAlikeRow_10 rfl ?_
      refine at_iloadn ok dX6_isAlikeRow_11 rfl ?_
      refine at_iload ok dX6_isAlikeRow_12 rfl ?_
      refine at_iadd ok dX6_isAlikeRow_14 ?_
      refine at_aloadn ok dX6_isAlikeRow_15 rfl ?_
      refine at_iloadn ok dX6_isAlikeRow_16 rfl ?_
      refine at_iload ok dX6_isAlikeRow_17 rfl ?_
      refine at_iadd ok dX6_isAlikeRow_19 ?_
      refine at_cVi (As := [.int ((a1 + x3)), va_rf (a2), .int ((a3 + x3))]) ok ct_6_isAlikeRow_73 dX6_isAlikeRow_20 (by simp [cat_rf, cat_i, cat_l]) (s6_isAlike t (a1 + x3) a2 (a3 + x3) _) h fun v20 σ h => ?_
      refine bt_if_ne (tgt := 28) ok dX6_isAlikeRow_23 (by decide) h (fun hc h => ?_) (fun hc h => ?_)
      · refine at_iconst (v := 0) ok dX6_isAlikeRow_26 (by decide) ?_
        exact at_iret ok fn ⟨_, rfl, rfl⟩ dX6_isAlikeRow_27 (hr_inl h)
      · refine at_iinc (v := x3 + 1) ok dX6_isAlikeRow_28 rfl rfl (lc_int rfl) (by decide) ?_
        refine at_goto (tgt := 3) ok dX6_isAlikeRow_31 (by decide) ?_
        exact at_weak (lw_s (lw_s (lw_s (lw_s (lw_s (lw_s lw_0)))))) (ih (x3 + 1) _ h)
set_option maxRecDepth 100000 in
set_option maxHeartbeats 4000000 in
theorem s6_isPart (t : Option Nat) (a1 : Int32) (a2 : Int32) (σ : AH) (Q : Int32 → AH → Prop) (h : Hr (f6_isPart t a1 a2) σ Q) : Runs m6_isPart σ [va_rf t, .int (a1), .int (a2)] (fun v σ1 => ∃ a, v = some (.int a) ∧ Q a σ1) := by
  obtain ⟨a0, σ1, e, hQ⟩ := h
  have hm := n6_isPart t a1 a2 σ a0 σ1 e
  have h : Hr (f6_isPart t a1 a2) σ (fun a σ2 => a = a0 ∧ σ2 = σ1) := ⟨a0, σ1, e, rfl, rfl⟩
  refine ⟨_, σ1, hm, ⟨a0, rfl, hQ⟩, runs_of (by decide +kernel) (by simp [cat_rf, cat_i, cat_l]) (Nat.le_of_ble_eq_true rfl) hm fun X ok fn => ?_⟩
  clear e hQ hm
  unfold f6_isPart at h
  show AT X m6_isPart 0 [some (va_rf (t)), some (.int (a1)), some (.int (a2)), none] [] σ
  refine at_iconst (v := 0) ok dX6_isPart_0 (by decide) ?_
  refine at_istoren ok dX6_isPart_1 rfl (lc_int rfl) (by decide) ?_
  refine at_weak (L' := [some (va_rf (t)), some (.int (a1)), some (.int (a2)), some (.int (0))]) (lw_s (lw_s (lw_s (lw_s lw_0)))) ?_
  refine at_loopS (fun x2 σ => AT X m6_isPart 2 [some (va_rf (t)), some (.int (a1)), some (.int (a2)), some (.int (x2))] [] σ) (fun y27 σ => AT X m6_isPart 27 [none, none, none, none] [] σ) h (fun y27 σ h => ?_) (fun kx rec ih x2 σ h => ?_)
  · refine at_iconst (v := 0) ok dX6_isPart_27 (by decide) ?_
    exact at_iret ok fn ⟨_, rfl, rfl⟩ dX6_isPart_28 h
  · unfold l6_isPart_2 at h
    refine at_iloadn ok dX6_isPart_2 rfl ?_
    refine at_iloadn ok dX6_isPart_3 rfl ?_
    refine bt_icmp_ge (tgt := 27) ok dX6_isPart_4 (by decide) h (fun hc h => ?_) (fun hc h => ?_)
    · exact at_weak (lw_n (lw_n (lw_n (lw_n lw_0)))) (by have z := hr_inr h; exact kx () _ z)
    · refine at_aloadn ok dX6_isPart_7 rfl ?_
      refine at_getR ok gf_6_37 dX6_isPart_8 h fun v8 h => ?_
      refine at_iloadn ok dX6_isPart_11 rfl ?_
      refine at_iloadn ok dX6_isPart_12 rfl ?_
      refine at_iadd ok dX6_isPart_13 ?_
      refine at_iald ok dX6_isPart_14 h fun v14 h => ?_
      refine at_iconst (v := 4) ok dX6_isPart_15 (by decide) ?_
      refine bt_icmp_lt (tgt := 21) ok dX6_isPart_16 (by decide) h (fun hc h => ?_) (fun hc h => ?_)
      · refine at_iinc (v := x2 + 1) ok dX6_isPart_21 rfl rfl (lc_int rfl) (by decide) ?_
        refine at_goto (tgt := 2) ok dX6_isPart_24 (by decide) ?_
        exact at_weak (lw_s (lw_s (lw_s (lw_s lw_0)))) (ih (x2 + 1) _ h)
      · refine at_iconst (v := 1) ok dX6_isPart_19 (by decide) ?_
        exact at_iret ok fn ⟨_, rfl, rfl⟩ dX6_isPart_20 (hr_inl h)
set_option maxRecDepth 100000 in
set_option maxHeartbeats 4000000 in
theorem s6_collectParts (t : Option Nat) (a1 : Option Nat) (a2 : Int32) (a3 : Option Nat) (σ : AH) (Q : Unit → AH → Prop) (h : Hr (f6_collectParts t a1 a2 a3) σ Q) : Runs m6_collectParts σ [va_rf t, va_rf (a1), .int (a2), va_rf (a3)] (fun v σ1 => ∃ a, v = none ∧ Q a σ1) := by
  obtain ⟨a0, σ1, e, hQ⟩ := h
  have hm := n6_collectParts t a1 a2 a3 σ a0 σ1 e
  have h : Hr (f6_collectParts t a1 a2 a3) σ (fun a σ2 => a = a0 ∧ σ2 = σ1) := ⟨a0, σ1, e, rfl, rfl⟩
  refine ⟨_, σ1, hm, ⟨a0, rfl, hQ⟩, runs_of (by decide +kernel) (by simp [cat_rf, cat_i, cat_l]) (Nat.le_of_ble_eq_true rfl) hm fun X ok fn => ?_⟩
  clear e hQ hm
  unfold f6_collectParts at h
  show AT X m6_collectParts 0 [some (va_rf (t)), some (va_rf (a1)), some (.int (a2)), some (va_rf (a3)), none, none] [] σ
  refine at_iconst (v := 0) ok dX6_collectParts_0 (by decide) ?_
  refine at_istore ok dX6_collectParts_1 (lc_ref rfl) (by decide) ?_
  refine at_weak (L' := [some (va_rf (t)), some (va_rf (a1)), some (.int (a2)), some (va_rf (a3)), some (.int (0)), none]) (lw_s (lw_s (lw_s (lw_s (lw_s (lw_n lw_0)))))) ?_
  refine at_loop (fun x3 σ => AT X m6_collectParts 3 [some (va_rf (t)), some (va_rf (a1)), some (.int (a2)), some (va_rf (a3)), some (.int (x3)), none] [] σ) (fun y85 σ => AT X m6_collectParts 85 [none, none, none, none, none, none] [] σ) h (fun y85 σ h => ?_) (fun kx rec ih x3 σ h => ?_)
  · exact at_vret ok fn rfl dX6_collectParts_85 h
  · unfold l6_collectParts_3 at h
    refine at_iload ok dX6_collectParts_3 rfl ?_
    refine at_iloadn ok dX6_collectParts_5 rfl ?_
    refine at_iadd ok dX6_collectParts_6 ?_
    refine at_aloadn ok dX6_collectParts_7 rfl ?_
    refine at_getI ok gf_6_15 dX6_collectParts_8 h fun v8 h => ?_
    refine bt_icmp_gt (tgt := 85) ok dX6_collectParts_11 (by decide) h (fun hc h => ?_) (fun hc h => ?_)
    · exact at_weak (lw_n (lw_n (lw_n (lw_n (lw_n (lw_n lw_0)))))) (kx () _ (hr_rt.mp h))
    · refine at_iconst (v := 0) ok dX6_collectParts_14 (by decide) ?_
      refine at_istore ok dX6_collectParts_15 (lc_int rfl) (by decide) ?_
      refine at_weak (L' := [some (va_rf (t)), some (va_rf (a1)), some (.int (a2)), some (va_rf (a3)), some (.int (x3)), some (.int (0))]) (lw_s (lw_s (lw_s (lw_s (lw_s (lw_s lw_0)))))) ?_
      refine at_loop (fun x17 σ => AT X m6_collectParts 17 [some (va_rf (t)), some (va_rf (a1)), some (.int (a2)), some (va_rf (a3)), some (.int (x3)), some (.int (x17))] [] σ) (fun y79 σ => AT X m6_collectParts 79 [some (va_rf (t)), some (va_rf (a1)), some (.int (a2)), some (va_rf (a3)), some (.int (x3)), none] [] σ) h (fun y79 σ h => ?_) (fun kx rec ih x17 σ h => ?_)
      · refine at_iinc (v := x3 + 1) ok dX6_collectParts_79 rfl rfl (lc_ref rfl) (by decide) ?_
        refine at_goto (tgt := 3) ok dX6_collectParts_82 (by decide) ?_
        exact at_weak (lw_s (lw_s (lw_s (lw_s (lw_s (lw_n lw_0)))))) (ih (x3 + 1) _ h)
      · unfold l6_collectParts_17 at h
        refine at_iload ok dX6_collectParts_17 rfl ?_
        refine at_iloadn ok dX6_collectParts_19 rfl ?_
        refine at_iadd ok dX6_collectParts_20 ?_
        refine at_aloadn ok dX6_collectParts_21 rfl ?_
        refine at_getI ok gf_6_15 dX6_collectParts_22 h fun v22 h => ?_
        refine bt_icmp_gt (tgt := 79) ok dX6_collectParts_25 (by decide) h (fun hc h => ?_) (fun hc h => ?_)
        · exact at_weak (lw_s (lw_s (lw_s (lw_s (lw_s (lw_n lw_0)))))) (kx () _ (hr_rt.mp h))
        · refine at_aloadn ok dX6_collectParts_28 rfl ?_
          refine at_iload ok dX6_collectParts_29 rfl ?_
          refine at_aloadn ok dX6_collectParts_31 rfl ?_
          refine at_iload ok dX6_collectParts_32 rfl ?_
          refine at_iloadn ok dX6_collectParts_34 rfl ?_
          refine at_cVi (As := [.int (x3), va_rf (a1), .int (x17), .int (a2)]) ok ct_6_collectParts_89 dX6_collectParts_35 (by simp [cat_rf, cat_i, cat_l]) (s6_isAlikeRow t x3 a1 x17 a2 _) h fun v35 σ h => ?_
          refine bt_if_eq (tgt := 73) ok dX6_collectParts_38 (by decide) h (fun hc h => ?_) (fun hc h => ?_)
          · refine at_iinc (v := x17 + 1) ok dX6_collectParts_73 rfl rfl (lc_int rfl) (by decide) ?_
            refine at_goto (tgt := 17) ok dX6_collectParts_76 (by decide) ?_
            exact at_weak (lw_s (lw_s (lw_s (lw_s (lw_s (lw_s lw_0)))))) (ih (x17 + 1) _ h)
          · refine at_aloadn ok dX6_collectParts_41 rfl ?_
            refine at_iload ok dX6_collectParts_42 rfl ?_
            refine at_iloadn ok dX6_collectParts_44 rfl ?_
            refine at_cVi (As := [.int (x17), .int (a2)]) ok ct_6_collectParts_93 dX6_collectParts_45 (by simp [cat_rf, cat_i, cat_l]) (s6_isPart a1 x17 a2 _) h fun v45 σ h => ?_
            refine bt_if_eq (tgt := 73) ok dX6_collectParts_48 (by decide) h (fun hc h => ?_) (fun hc h => ?_)
            · refine at_iinc (v := x17 + 1) ok dX6_collectParts_73 rfl rfl (lc_int rfl) (by decide) ?_
              refine at_goto (tgt := 17) ok dX6_collectParts_76 (by decide) ?_
              exact at_weak (lw_s (lw_s (lw_s (lw_s (lw_s (lw_s lw_0)))))) (ih (x17 + 1) _ h)
            · refine at_aloadn ok dX6_collectParts_51 rfl ?_
              refine at_aloadn ok dX6_collectParts_52 rfl ?_
              refine at_iload ok dX6_collectParts_53 rfl ?_
              refine at_cVi (As := [.int (x3)]) ok ct_6_collectParts_77 dX6_collectParts_55 (by simp [cat_rf, cat_i, cat_l]) (s6_placeStart t x3 _) h fun v55 σ h => ?_
              refine at_aloadn ok dX6_collectParts_58 rfl ?_
              refine at_iload ok dX6_collectParts_59 rfl ?_
              refine at_iloadn ok dX6_collectParts_61 rfl ?_
              refine at_iadd ok dX6_collectParts_62 ?_
              refine at_iconst (v := 1) ok dX6_collectParts_63 (by decide) ?_
              refine at_isub ok dX6_collectParts_64 ?_
              refine at_cVi (As := [.int (((x3 + a2) - 1))]) ok ct_6_collectParts_80 dX6_collectParts_65 (by simp [cat_rf, cat_i, cat_l]) (s6_placeEnd t ((x3 + a2) - 1) _) h fun v65 σ h => ?_
              refine at_iload ok dX6_collectParts_68 rfl ?_
              refine at_cVv (As := [.int (v55), .int (v65), .int (x17)]) ok ct_6_collectParts_83 dX6_collectParts_70 (by simp [cat_rf, cat_i, cat_l]) (s0_put a3 v55 v65 x17 _) h fun v70 σ h => ?_
              refine at_iinc (v := x17 + 1) ok dX6_collectParts_73 rfl rfl (lc_int rfl) (by decide) ?_
              refine at_goto (tgt := 17) ok dX6_collectParts_76 (by decide) ?_
              exact at_weak (lw_s (lw_s (lw_s (lw_s (lw_s (lw_s lw_0)))))) (ih (x17 + 1) _ h)
set_option maxRecDepth 100000 in
set_option maxHeartbeats 4000000 in
theorem s7_collect (t : Option Nat) (a1 : Option Nat) (a2 : Option Nat) (a3 : Option Nat) (σ : AH) (Q : Unit → AH → Prop) (h : Hr (f7_collect t a1 a2 a3) σ Q) : Runs m7_collect σ [va_rf t, va_rf (a1), va_rf (a2), va_rf (a3)] (fun v σ1 => ∃ a, v = none ∧ Q a σ1) := by
  obtain ⟨a0, σ1, e, hQ⟩ := h
  have hm := n7_collect t a1 a2 a3 σ a0 σ1 e
  have h : Hr (f7_collect t a1 a2 a3) σ (fun a σ2 => a = a0 ∧ σ2 = σ1) := ⟨a0, σ1, e, rfl, rfl⟩
  refine ⟨_, σ1, hm, ⟨a0, rfl, hQ⟩, runs_of (by decide +kernel) (by simp [cat_rf, cat_i, cat_l]) (Nat.le_of_ble_eq_true rfl) hm fun X ok fn => ?_⟩
  clear e hQ hm
  unfold f7_collect at h
  show AT X m7_collect 0 [some (va_rf (t)), some (va_rf (a1)), some (va_rf (a2)), some (va_rf (a3))] [] σ
  refine at_aloadn ok dX7_collect_0 rfl ?_
  refine at_getI ok gf_7_276 dX7_collect_1 h fun v1 h => ?_
  refine at_ite h (fun hc1 h => ?_) (fun hc1 h => ?_)
  · refine at_tsw (tgt := 36) ok dX7_collect_4 (tsw_in hc1 (by decide) rfl (by decide)) ?_
    refine at_aloadn ok dX7_collect_36 rfl ?_
    refine at_aloadn ok dX7_collect_37 rfl ?_
    refine at_getR ok gf_7_279 dX7_collect_38 h fun v38 h => ?_
    refine at_aloadn ok dX7_collect_41 rfl ?_
    refine at_cVv (As := [va_rf (v38), va_rf (a3)]) ok ct_7_collect_282 dX7_collect_42 (by simp [cat_rf, cat_i, cat_l]) (s6_collectAlike a2 v38 a3 _) h fun v42 σ h => ?_
    refine at_goto (tgt := 77) ok dX7_collect_45 (by decide) ?_
    exact at_vret ok fn rfl dX7_collect_77 h
  · refine at_ite h (fun hc2 h => ?_) (fun hc2 h => ?_)
    · refine at_tsw (tgt := 56) ok dX7_collect_4 (tsw_in hc2 (by decide) rfl (by decide)) ?_
      refine at_aloadn ok dX7_collect_56 rfl ?_
      refine at_aloadn ok dX7_collect_57 rfl ?_
      refine at_getR ok gf_7_22 dX7_collect_58 h fun v58 h => ?_
      refine at_aloadn ok dX7_collect_61 rfl ?_
      refine at_getI ok gf_7_286 dX7_collect_62 h fun v62 h => ?_
      refine at_aald (t := 2) ⟨_, rfl⟩ (by decide) ok dX7_collect_65 h fun v65 h => ?_
      refine at_aloadn ok dX7_collect_66 rfl ?_
      refine at_getI ok gf_7_288 dX7_collect_67 h fun v67 h => ?_
      refine at_aloadn ok dX7_collect_70 rfl ?_
      refine at_cVv (As := [va_rf (v65), .int (v67), va_rf (a3)]) ok ct_7_collect_224 dX7_collect_71 (by simp [cat_rf, cat_i, cat_l]) (s6_collectParts a2 v65 v67 a3 _) h fun v71 σ h => ?_
      refine at_goto (tgt := 77) ok dX7_collect_74 (by decide) ?_
      exact at_vret ok fn rfl dX7_collect_77 h
    · refine at_ite h (fun hc3 h => ?_) (fun hc3 h => ?_)
      · refine at_tsw (tgt := 48) ok dX7_collect_4 (tsw_in hc3 (by decide) rfl (by decide)) ?_
        refine at_aloadn ok dX7_collect_48 rfl ?_
        refine at_aloadn ok dX7_collect_49 rfl ?_
        refine at_cVv (As := [va_rf (a3)]) ok ct_7_collect_220 dX7_collect_50 (by simp [cat_rf, cat_i, cat_l]) (s6_collectNumbers a2 a3 _) h fun v50 σ h => ?_
        refine at_goto (tgt := 77) ok dX7_collect_53 (by decide) ?_
        exact at_vret ok fn rfl dX7_collect_77 h
      · refine at_ite h (fun hc4 h => ?_) (fun hc4 h => ?_)
        · refine at_tsw (tgt := 56) ok dX7_collect_4 (tsw_in hc4 (by decide) rfl (by decide)) ?_
          refine at_aloadn ok dX7_collect_56 rfl ?_
          refine at_aloadn ok dX7_collect_57 rfl ?_
          refine at_getR ok gf_7_22 dX7_collect_58 h fun v58 h => ?_
          refine at_aloadn ok dX7_collect_61 rfl ?_
          refine at_getI ok gf_7_286 dX7_collect_62 h fun v62 h => ?_
          refine at_aald (t := 2) ⟨_, rfl⟩ (by decide) ok dX7_collect_65 h fun v65 h => ?_
          refine at_aloadn ok dX7_collect_66 rfl ?_
          refine at_getI ok gf_7_288 dX7_collect_67 h fun v67 h => ?_
          refine at_aloadn ok dX7_collect_70 rfl ?_
          refine at_cVv (As := [va_rf (v65), .int (v67), va_rf (a3)]) ok ct_7_collect_224 dX7_collect_71 (by simp [cat_rf, cat_i, cat_l]) (s6_collectParts a2 v65 v67 a3 _) h fun v71 σ h => ?_
          refine at_goto (tgt := 77) ok dX7_collect_74 (by decide) ?_
          exact at_vret ok fn rfl dX7_collect_77 h
        · refine at_tsw (tgt := 77) ok dX7_collect_4 (tsw_out (by have i1 := i32_ne (k := 1) (by decide) hc1; have i2 := i32_ne (k := 2) (by decide) hc2; have i3 := i32_ne (k := 3) (by decide) hc3; have i4 := i32_ne (k := 4) (by decide) hc4; omega) (by decide)) ?_
          exact at_vret ok fn rfl dX7_collect_77 h
set_option maxRecDepth 100000 in
set_option maxHeartbeats 4000000 in
theorem s7_copyOfTape (t : Option Nat) (σ : AH) (Q : Option Nat → AH → Prop) (h : Hr (f7_copyOfTape t) σ Q) : Runs m7_copyOfTape σ [va_rf t] (fun v σ1 => ∃ a, v = some (va_rf a) ∧ Q a σ1) := by
  obtain ⟨a0, σ1, e, hQ⟩ := h
  have hm := n7_copyOfTape t σ a0 σ1 e
  have h : Hr (f7_copyOfTape t) σ (fun a σ2 => a = a0 ∧ σ2 = σ1) := ⟨a0, σ1, e, rfl, rfl⟩
  refine ⟨_, σ1, hm, ⟨a0, rfl, hQ⟩, runs_of (by decide +kernel) (by simp [cat_rf, cat_i, cat_l]) (Nat.le_of_ble_eq_true rfl) hm fun X ok fn => ?_⟩
  clear e hQ hm
  unfold f7_copyOfTape at h
  show AT X m7_copyOfTape 0 [some (va_rf (t)), none] [] σ
  refine at_aloadn ok dX7_copyOfTape_0 rfl ?_
  refine at_getI ok gf_7_17 dX7_copyOfTape_1 h fun v1 h => ?_
  refine at_newA (atype := .int) (t := 0) rfl (Or.inl rfl) wd_41 ok dX7_copyOfTape_4 h fun v4 σ h => ?_
  refine at_astoren ok dX7_copyOfTape_6 rfl (lc_ref rfl) (by decide) ?_
  refine at_aloadn ok dX7_copyOfTape_7 rfl ?_
  refine at_getR ok gf_7_13 dX7_copyOfTape_8 h fun v8 h => ?_
  refine at_iconst (v := 0) ok dX7_copyOfTape_11 (by decide) ?_
  refine at_aloadn ok dX7_copyOfTape_12 rfl ?_
  refine at_iconst (v := 0) ok dX7_copyOfTape_13 (by decide) ?_
  refine at_aloadn ok dX7_copyOfTape_14 rfl ?_
  refine at_getI ok gf_7_17 dX7_copyOfTape_15 h fun v15 h => ?_
  refine at_copy wd_378 wd_380 wd_379 wd_10 (by decide) (by decide) ok dX7_copyOfTape_18 h fun σ h => ?_
  refine at_aloadn ok dX7_copyOfTape_21 rfl ?_
  exact at_aret ok fn ⟨_, rfl, Or.inr ⟨_, rfl⟩⟩ dX7_copyOfTape_22 h
set_option maxRecDepth 100000 in
set_option maxHeartbeats 4000000 in
theorem s7_forgetSights (t : Option Nat) (a1 : Int32) (σ : AH) (Q : Unit → AH → Prop) (h : Hr (f7_forgetSights t a1) σ Q) : Runs m7_forgetSights σ [va_rf t, .int (a1)] (fun v σ1 => ∃ a, v = none ∧ Q a σ1) := by
  obtain ⟨a0, σ1, e, hQ⟩ := h
  have hm := n7_forgetSights t a1 σ a0 σ1 e
  have h : Hr (f7_forgetSights t a1) σ (fun a σ2 => a = a0 ∧ σ2 = σ1) := ⟨a0, σ1, e, rfl, rfl⟩
  refine ⟨_, σ1, hm, ⟨a0, rfl, hQ⟩, runs_of (by decide +kernel) (by simp [cat_rf, cat_i, cat_l]) (Nat.le_of_ble_eq_true rfl) hm fun X ok fn => ?_⟩
  clear e hQ hm
  unfold f7_forgetSights at h
  show AT X m7_forgetSights 0 [some (va_rf (t)), some (.int (a1)), none] [] σ
  refine at_iconst (v := 0) ok dX7_forgetSights_0 (by decide) ?_
  refine at_istoren ok dX7_forgetSights_1 rfl (lc_int rfl) (by decide) ?_
  refine at_weak (L' := [some (va_rf (t)), some (.int (a1)), some (.int (0))]) (lw_s (lw_s (lw_s lw_0))) ?_
  refine at_loop (fun x2 σ => AT X m7_forgetSights 2 [some (va_rf (t)), some (.int (a1)), some (.int (x2))] [] σ) (fun y28 σ => AT X m7_forgetSights 28 [none, none, none] [] σ) h (fun y28 σ h => ?_) (fun kx rec ih x2 σ h => ?_)
  · exact at_vret ok fn rfl dX7_forgetSights_28 h
  · unfold l7_forgetSights_2 at h
    refine at_iloadn ok dX7_forgetSights_2 rfl ?_
    refine at_aloadn ok dX7_forgetSights_3 rfl ?_
    refine at_getI ok gf_7_49 dX7_forgetSights_4 h fun v4 h => ?_
    refine bt_icmp_ge (tgt := 28) ok dX7_forgetSights_7 (by decide) h (fun hc h => ?_) (fun hc h => ?_)
    · exact at_weak (lw_n (lw_n (lw_n lw_0))) (kx () _ (hr_rt.mp h))
    · refine at_aloadn ok dX7_forgetSights_10 rfl ?_
      refine at_getR ok gf_7_45 dX7_forgetSights_11 h fun v11 h => ?_
      refine at_iloadn ok dX7_forgetSights_14 rfl ?_
      refine at_aald (t := 4) ⟨_, rfl⟩ (by decide) ok dX7_forgetSights_15 h fun v15 h => ?_
      refine at_getR ok gf_7_262 dX7_forgetSights_16 h fun v16 h => ?_
      refine at_iloadn ok dX7_forgetSights_19 rfl ?_
      refine at_iconst (v := 0) ok dX7_forgetSights_20 (by decide) ?_
      refine at_zast ok dX7_forgetSights_21 h fun σ h => ?_
      refine at_iinc (v := x2 + 1) ok dX7_forgetSights_22 rfl rfl (lc_int rfl) (by decide) ?_
      refine at_goto (tgt := 2) ok dX7_forgetSights_25 (by decide) ?_
      exact at_weak (lw_s (lw_s (lw_s lw_0))) (ih (x2 + 1) _ h)
set_option maxRecDepth 100000 in
set_option maxHeartbeats 4000000 in
theorem s7_setKind (t : Option Nat) (a1 : Int32) (a2 : Option Nat) (σ : AH) (Q : Unit → AH → Prop) (h : Hr (f7_setKind t a1 a2) σ Q) : Runs m7_setKind σ [va_rf t, .int (a1), va_rf (a2)] (fun v σ1 => ∃ a, v = none ∧ Q a σ1) := by
  obtain ⟨a0, σ1, e, hQ⟩ := h
  have hm := n7_setKind t a1 a2 σ a0 σ1 e
  have h : Hr (f7_setKind t a1 a2) σ (fun a σ2 => a = a0 ∧ σ2 = σ1) := ⟨a0, σ1, e, rfl, rfl⟩
  refine ⟨_, σ1, hm, ⟨a0, rfl, hQ⟩, runs_of (by decide +kernel) (by simp [cat_rf, cat_i, cat_l]) (Nat.le_of_ble_eq_true rfl) hm fun X ok fn => ?_⟩
  clear e hQ hm
  unfold f7_setKind at h
  show AT X m7_setKind 0 [some (va_rf (t)), some (.int (a1)), some (va_rf (a2))] [] σ
  refine at_aloadn ok dX7_setKind_0 rfl ?_
  refine at_getR ok gf_7_28 dX7_setKind_1 h fun v1 h => ?_
  refine at_iloadn ok dX7_setKind_4 rfl ?_
  refine at_aloadn ok dX7_setKind_5 rfl ?_
  refine at_aast (t := 3) (cc' := 1) rfl rfl (by decide) ok dX7_setKind_6 h fun σ h => ?_
  refine at_aloadn ok dX7_setKind_7 rfl ?_
  refine at_iloadn ok dX7_setKind_8 rfl ?_
  refine at_cVv (As := [.int (a1)]) ok ct_7_setKind_256 dX7_setKind_9 (by simp [cat_rf, cat_i, cat_l]) (s7_forgetSights t a1 _) h fun v9 σ h => ?_
  exact at_vret ok fn rfl dX7_setKind_12 h
set_option maxRecDepth 100000 in
set_option maxHeartbeats 4000000 in
theorem s7_count (t : Option Nat) (a1 : Int32) (a2 : Int32) (σ : AH) (Q : Int32 → AH → Prop) (h : Hr (f7_count t a1 a2) σ Q) : Runs m7_count σ [va_rf t, .int (a1), .int (a2)] (fun v σ1 => ∃ a, v = some (.int a) ∧ Q a σ1) := by
  obtain ⟨a0, σ1, e, hQ⟩ := h
  have hm := n7_count t a1 a2 σ a0 σ1 e
  have h : Hr (f7_count t a1 a2) σ (fun a σ2 => a = a0 ∧ σ2 = σ1) := ⟨a0, σ1, e, rfl, rfl⟩
  refine ⟨_, σ1, hm, ⟨a0, rfl, hQ⟩, runs_of (by decide +kernel) (by simp [cat_rf, cat_i, cat_l]) (Nat.le_of_ble_eq_true rfl) hm fun X ok fn => ?_⟩
  clear e hQ hm
  unfold f7_count at h
  show AT X m7_count 0 [some (va_rf (t)), some (.int (a1)), some (.int (a2))] [] σ
  refine at_iloadn ok dX7_count_0 rfl ?_
  refine at_cSi (As := [.int (a1)]) ok ct_7_count_104 dX7_count_1 (by simp [cat_rf, cat_i, cat_l]) (s7_isKind a1 _) h fun v1 σ h => ?_
  refine bt_if_eq (tgt := 17) ok dX7_count_4 (by decide) h (fun hc h => ?_) (fun hc h => ?_)
  · refine at_iconst (v := 0) ok dX7_count_17 (by decide) ?_
    exact at_iret ok fn ⟨_, rfl, rfl⟩ dX7_count_18 h
  · refine at_iloadn ok dX7_count_7 rfl ?_
    refine at_iconst (v := 1) ok dX7_count_8 (by decide) ?_
    refine at_bipush (v := 20) ok dX7_count_9 (by decide) ?_
    refine at_cSi (As := [.int (a2), .int (1), .int (20)]) ok ct_7_count_79 dX7_count_11 (by simp [cat_rf, cat_i, cat_l]) (s7_within a2 1 20 _) h fun v11 σ h => ?_
    refine bt_if_ne (tgt := 19) ok dX7_count_14 (by decide) h (fun hc h => ?_) (fun hc h => ?_)
    · refine at_iconst (v := 0) ok dX7_count_17 (by decide) ?_
      exact at_iret ok fn ⟨_, rfl, rfl⟩ dX7_count_18 h
    · refine at_aloadn ok dX7_count_19 rfl ?_
      refine at_iloadn ok dX7_count_20 rfl ?_
      refine at_newO ok nw_7_26 dX7_count_21 h fun v21 σ h => ?_
      refine at_dup ok dX7_count_24 (cat_rf _) ?_
      refine at_iconst (v := 3) ok dX7_count_25 (by decide) ?_
      refine at_null ok dX7_count_26 ?_
      refine at_iconst (v := 0) ok dX7_count_27 (by decide) ?_
      refine at_iconst (v := 2) ok dX7_count_28 (by decide) ?_
      refine at_iloadn ok dX7_count_29 rfl ?_
      refine at_iconst (v := 0) ok dX7_count_30 (by decide) ?_
      refine at_cI (As := [.int (3), va_rf (none), .int (0), .int (2), .int (a2), .int (0)]) ok ct_7_count_76 dX7_count_31 (by simp [cat_rf, cat_i, cat_l]) (s1_init v21 3 none 0 2 a2 0 _) h fun v31 σ h => ?_
      refine at_cVv (As := [.int (a1), va_rf (v21)]) ok ct_7_count_110 dX7_count_34 (by simp [cat_rf, cat_i, cat_l]) (s7_setKind t a1 v21 _) h fun v34 σ h => ?_
      refine at_iconst (v := 1) ok dX7_count_37 (by decide) ?_
      exact at_iret ok fn ⟨_, rfl, rfl⟩ dX7_count_38 h
set_option maxRecDepth 100000 in
set_option maxHeartbeats 4000000 in
theorem s7_days (t : Option Nat) (a1 : Int32) (σ : AH) (Q : Int32 → AH → Prop) (h : Hr (f7_days t a1) σ Q) : Runs m7_days σ [va_rf t, .int (a1)] (fun v σ1 => ∃ a, v = some (.int a) ∧ Q a σ1) := by
  obtain ⟨a0, σ1, e, hQ⟩ := h
  have hm := n7_days t a1 σ a0 σ1 e
  have h : Hr (f7_days t a1) σ (fun a σ2 => a = a0 ∧ σ2 = σ1) := ⟨a0, σ1, e, rfl, rfl⟩
  refine ⟨_, σ1, hm, ⟨a0, rfl, hQ⟩, runs_of (by decide +kernel) (by simp [cat_rf, cat_i, cat_l]) (Nat.le_of_ble_eq_true rfl) hm fun X ok fn => ?_⟩
  clear e hQ hm
  unfold f7_days at h
  show AT X m7_days 0 [some (va_rf (t)), some (.int (a1))] [] σ
  refine at_iloadn ok dX7_days_0 rfl ?_
  refine at_iconst (v := 0) ok dX7_days_1 (by decide) ?_
  refine at_bipush (v := 100) ok dX7_days_2 (by decide) ?_
  refine at_cSi (As := [.int (a1), .int (0), .int (100)]) ok ct_7_days_79 dX7_days_4 (by simp [cat_rf, cat_i, cat_l]) (s7_within a1 0 100 _) h fun v4 σ h => ?_
  refine bt_if_eq (tgt := 22) ok dX7_days_7 (by decide) h (fun hc h => ?_) (fun hc h => ?_)
  · refine at_iconst (v := (-1)) ok dX7_days_22 (by decide) ?_
    exact at_iret ok fn ⟨_, rfl, rfl⟩ dX7_days_23 h
  · refine at_aloadn ok dX7_days_10 rfl ?_
    refine at_getI ok gf_7_7 dX7_days_11 h fun v11 h => ?_
    refine at_iloadn ok dX7_days_14 rfl ?_
    refine at_iadd ok dX7_days_15 ?_
    refine at_sipush (v := 1000) ok dX7_days_16 (by decide) ?_
    refine bt_icmp_le (tgt := 24) ok dX7_days_19 (by decide) h (fun hc h => ?_) (fun hc h => ?_)
    · refine at_aloadn ok dX7_days_24 rfl ?_
      refine at_dup ok dX7_days_25 (cat_rf _) ?_
      refine at_getI ok gf_7_7 dX7_days_26 h fun v26 h => ?_
      refine at_iloadn ok dX7_days_29 rfl ?_
      refine at_iadd ok dX7_days_30 ?_
      refine at_putI ok (pf_7_7 _) dX7_days_31 h fun σ h => ?_
      refine at_aloadn ok dX7_days_34 rfl ?_
      refine at_getI ok gf_7_7 dX7_days_35 h fun v35 h => ?_
      exact at_iret ok fn ⟨_, rfl, rfl⟩ dX7_days_38 h
    · refine at_iconst (v := (-1)) ok dX7_days_22 (by decide) ?_
      exact at_iret ok fn ⟨_, rfl, rfl⟩ dX7_days_23 h
set_option maxRecDepth 100000 in
set_option maxHeartbeats 4000000 in
theorem s0_keptCount (t : Option Nat) (σ : AH) (Q : Int32 → AH → Prop) (h : Hr (f0_keptCount t) σ Q) : Runs m0_keptCount σ [va_rf t] (fun v σ1 => ∃ a, v = some (.int a) ∧ Q a σ1) := by
  obtain ⟨a0, σ1, e, hQ⟩ := h
  have hm := n0_keptCount t σ a0 σ1 e
  have h : Hr (f0_keptCount t) σ (fun a σ2 => a = a0 ∧ σ2 = σ1) := ⟨a0, σ1, e, rfl, rfl⟩
  refine ⟨_, σ1, hm, ⟨a0, rfl, hQ⟩, runs_of (by decide +kernel) (by simp [cat_rf, cat_i, cat_l]) (Nat.le_of_ble_eq_true rfl) hm fun X ok fn => ?_⟩
  clear e hQ hm
  unfold f0_keptCount at h
  show AT X m0_keptCount 0 [some (va_rf (t))] [] σ
  refine at_aloadn ok dX0_keptCount_0 rfl ?_
  refine at_getI ok gf_0_18 dX0_keptCount_1 h fun v1 h => ?_
  refine at_aloadn ok dX0_keptCount_4 rfl ?_
  refine at_getR ok gf_0_28 dX0_keptCount_5 h fun v5 h => ?_
  refine at_alen (t := 0) (by decide) ok dX0_keptCount_8 h fun v8 h => ?_
  refine at_mmin wd_559 wd_230 wd_4 wd_231 (by decide) (by simp [cat_rf, cat_i, cat_l]) ok dX0_keptCount_9 ?_
  exact at_iret ok fn ⟨_, rfl, rfl⟩ dX0_keptCount_12 h
set_option maxRecDepth 100000 in
set_option maxHeartbeats 4000000 in
theorem s0_blackened (t : Option Nat) (a1 : Option Nat) (σ : AH) (Q : Option Nat → AH → Prop) (h : Hr (f0_blackened t a1) σ Q) : Runs m0_blackened σ [va_rf t, va_rf (a1)] (fun v σ1 => ∃ a, v = some (va_rf a) ∧ Q a σ1) := by
  obtain ⟨a0, σ1, e, hQ⟩ := h
  have hm := n0_blackened t a1 σ a0 σ1 e
  have h : Hr (f0_blackened t a1) σ (fun a σ2 => a = a0 ∧ σ2 = σ1) := ⟨a0, σ1, e, rfl, rfl⟩
  refine ⟨_, σ1, hm, ⟨a0, rfl, hQ⟩, runs_of (by decide +kernel) (by simp [cat_rf, cat_i, cat_l]) (Nat.le_of_ble_eq_true rfl) hm fun X ok fn => ?_⟩
  clear e hQ hm
  unfold f0_blackened at h
  show AT X m0_blackened 0 [some (va_rf (t)), some (va_rf (a1)), none, none, none, none] [] σ
  refine at_aloadn ok dX0_blackened_0 rfl ?_
  refine at_clone wd_548 wd_549 wd_550 wd_551 wd_552 wd_553 (by decide) (by simp [cat_rf, cat_i, cat_l]) ok dX0_blackened_1 h fun v1 σ h => ?_
  refine at_castI wd_554 ok dX0_blackened_4 h fun v4 h => ?_
  refine at_astoren ok dX0_blackened_7 rfl (lc_ref rfl) (by decide) ?_
  refine at_aloadn ok dX0_blackened_8 rfl ?_
  refine at_cVi (As := []) ok ct_0_blackened_48 dX0_blackened_9 (by simp [cat_rf, cat_i, cat_l]) (s0_keptCount t  _) h fun v9 σ h => ?_
  refine at_istoren ok dX0_blackened_12 rfl (lc_ref rfl) (by decide) ?_
  refine at_iconst (v := 0) ok dX0_blackened_13 (by decide) ?_
  refine at_istore ok dX0_blackened_14 (lc_int rfl) (by decide) ?_
  refine at_weak (L' := [some (va_rf (t)), none, some (va_rf (v1)), some (.int (v9)), some (.int (0)), none]) (lw_s (lw_n (lw_s (lw_s (lw_s (lw_n lw_0)))))) ?_
  refine at_loop (fun x16 σ => AT X m0_blackened 16 [some (va_rf (t)), none, some (va_rf (v1)), some (.int (v9)), some (.int (x16)), none] [] σ) (fun y68 σ => AT X m0_blackened 68 [none, none, some (va_rf (v1)), none, none, none] [] σ) h (fun y68 σ h => ?_) (fun kx rec ih x16 σ h => ?_)
  · refine at_aloadn ok dX0_blackened_68 rfl ?_
    exact at_aret ok fn ⟨_, rfl, Or.inr ⟨_, rfl⟩⟩ dX0_blackened_69 h
  · unfold l0_blackened_16 at h
    refine at_iload ok dX0_blackened_16 rfl ?_
    refine at_iloadn ok dX0_blackened_18 rfl ?_
    refine bt_icmp_ge (tgt := 68) ok dX0_blackened_19 (by decide) h (fun hc h => ?_) (fun hc h => ?_)
    · exact at_weak (lw_n (lw_n (lw_s (lw_n (lw_n (lw_n lw_0)))))) (kx () _ (hr_rt.mp h))
    · refine at_aloadn ok dX0_blackened_22 rfl ?_
      refine at_getR ok gf_0_28 dX0_blackened_23 h fun v23 h => ?_
      refine at_iload ok dX0_blackened_26 rfl ?_
      refine at_iald ok dX0_blackened_28 h fun v28 h => ?_
      refine at_istore ok dX0_blackened_29 (lc_int rfl) (by decide) ?_
      refine at_weak (L' := [some (va_rf (t)), none, some (va_rf (v1)), some (.int (v9)), some (.int (x16)), some (.int (v28))]) (lw_s (lw_n (lw_s (lw_s (lw_s (lw_s lw_0)))))) ?_
      refine at_loop (fun x31 σ => AT X m0_blackened 31 [some (va_rf (t)), none, some (va_rf (v1)), some (.int (v9)), some (.int (x16)), some (.int (x31))] [] σ) (fun y62 σ => AT X m0_blackened 62 [some (va_rf (t)), none, some (va_rf (v1)), some (.int (v9)), some (.int (x16)), none] [] σ) h (fun y62 σ h => ?_) (fun kx rec ih x31 σ h => ?_)
      · refine at_iinc (v := x16 + 1) ok dX0_blackened_62 rfl rfl (lc_int rfl) (by decide) ?_
        refine at_goto (tgt := 16) ok dX0_blackened_65 (by decide) ?_
        exact at_weak (lw_s (lw_n (lw_s (lw_s (lw_s (lw_n lw_0)))))) (ih (x16 + 1) _ h)
      · unfold l0_blackened_31 at h
        refine at_iload ok dX0_blackened_31 rfl ?_
        refine at_aloadn ok dX0_blackened_33 rfl ?_
        refine at_getR ok gf_0_32 dX0_blackened_34 h fun v34 h => ?_
        refine at_iload ok dX0_blackened_37 rfl ?_
        refine at_iald ok dX0_blackened_39 h fun v39 h => ?_
        refine bt_icmp_gt (tgt := 62) ok dX0_blackened_40 (by decide) h (fun hc h => ?_) (fun hc h => ?_)
        · exact at_weak (lw_s (lw_n (lw_s (lw_s (lw_s (lw_n lw_0)))))) (kx () _ (hr_rt.mp h))
        · refine at_iload ok dX0_blackened_43 rfl ?_
          refine at_aloadn ok dX0_blackened_45 rfl ?_
          refine at_alen (t := 0) (by decide) ok dX0_blackened_46 h fun v46 h => ?_
          refine bt_icmp_ge (tgt := 62) ok dX0_blackened_47 (by decide) h (fun hc h => ?_) (fun hc h => ?_)
          · exact at_weak (lw_s (lw_n (lw_s (lw_s (lw_s (lw_n lw_0)))))) (kx () _ (hr_rt.mp h))
          · refine at_aloadn ok dX0_blackened_50 rfl ?_
            refine at_iload ok dX0_blackened_51 rfl ?_
            refine at_bipush (v := 42) ok dX0_blackened_53 (by decide) ?_
            refine at_iast ok dX0_blackened_55 h fun σ h => ?_
            refine at_iinc (v := x31 + 1) ok dX0_blackened_56 rfl rfl (lc_int rfl) (by decide) ?_
            refine at_goto (tgt := 31) ok dX0_blackened_59 (by decide) ?_
            exact at_weak (lw_s (lw_n (lw_s (lw_s (lw_s (lw_s lw_0)))))) (ih (x31 + 1) _ h)
set_option maxRecDepth 100000 in
set_option maxHeartbeats 4000000 in
theorem s7_deal (t : Option Nat) (a1 : Option Nat) (a2 : Option Nat) (σ : AH) (Q : Unit → AH → Prop) (h : Hr (f7_deal t a1 a2) σ Q) : Runs m7_deal σ [va_rf t, va_rf (a1), va_rf (a2)] (fun v σ1 => ∃ a, v = none ∧ Q a σ1) := by
  obtain ⟨a0, σ1, e, hQ⟩ := h
  have hm := n7_deal t a1 a2 σ a0 σ1 e
  have h : Hr (f7_deal t a1 a2) σ (fun a σ2 => a = a0 ∧ σ2 = σ1) := ⟨a0, σ1, e, rfl, rfl⟩
  refine ⟨_, σ1, hm, ⟨a0, rfl, hQ⟩, runs_of (by decide +kernel) (by simp [cat_rf, cat_i, cat_l]) (Nat.le_of_ble_eq_true rfl) hm fun X ok fn => ?_⟩
  clear e hQ hm
  unfold f7_deal at h
  show AT X m7_deal 0 [some (va_rf (t)), some (va_rf (a1)), some (va_rf (a2)), none] [] σ
  refine at_aloadn ok dX7_deal_0 rfl ?_
  refine bt_ifnonnull (tgt := 5) ok dX7_deal_1 (by decide) h (fun hc h => ?_) (fun hc h => ?_)
  · exact at_vret ok fn rfl dX7_deal_4 h
  · refine at_newO ok nw_7_59 dX7_deal_5 h fun v5 σ h => ?_
    refine at_dup ok dX7_deal_8 (cat_rf _) ?_
    refine at_aloadn ok dX7_deal_9 rfl ?_
    refine at_getR ok gf_7_265 dX7_deal_10 h fun v10 h => ?_
    refine at_aloadn ok dX7_deal_13 rfl ?_
    refine at_getI ok gf_7_150 dX7_deal_14 h fun v14 h => ?_
    refine at_aald (t := 6) ⟨_, rfl⟩ (by decide) ok dX7_deal_17 h fun v17 h => ?_
    refine at_getI ok gf_7_202 dX7_deal_18 h fun v18 h => ?_
    refine at_cI (As := [.int (v18)]) ok ct_7_deal_61 dX7_deal_21 (by simp [cat_rf, cat_i, cat_l]) (s0_init v5 v18 _) h fun v21 σ h => ?_
    refine at_astoren ok dX7_deal_24 rfl (lc_ref rfl) (by decide) ?_
    refine at_aloadn ok dX7_deal_25 rfl ?_
    refine at_aloadn ok dX7_deal_26 rfl ?_
    refine at_getR ok gf_7_28 dX7_deal_27 h fun v27 h => ?_
    refine at_aloadn ok dX7_deal_30 rfl ?_
    refine at_getI ok gf_7_150 dX7_deal_31 h fun v31 h => ?_
    refine at_aald (t := 3) ⟨_, rfl⟩ (by decide) ok dX7_deal_34 h fun v34 h => ?_
    refine at_aloadn ok dX7_deal_35 rfl ?_
    refine at_getR ok gf_7_269 dX7_deal_36 h fun v36 h => ?_
    refine at_aloadn ok dX7_deal_39 rfl ?_
    refine at_cVv (As := [va_rf (v34), va_rf (v36), va_rf (v5)]) ok ct_7_deal_272 dX7_deal_40 (by simp [cat_rf, cat_i, cat_l]) (s7_collect t v34 v36 v5 _) h fun v40 σ h => ?_
    refine at_aloadn ok dX7_deal_43 rfl ?_
    refine at_aloadn ok dX7_deal_44 rfl ?_
    refine at_getI ok gf_7_147 dX7_deal_45 h fun v45 h => ?_
    refine at_putI ok (pf_7_194 _) dX7_deal_48 h fun σ h => ?_
    refine at_aloadn ok dX7_deal_51 rfl ?_
    refine at_aloadn ok dX7_deal_52 rfl ?_
    refine at_getI ok gf_7_150 dX7_deal_53 h fun v53 h => ?_
    refine at_putI ok (pf_7_195 _) dX7_deal_56 h fun σ h => ?_
    refine at_aloadn ok dX7_deal_59 rfl ?_
    refine at_aloadn ok dX7_deal_60 rfl ?_
    refine at_putR ok (pf_7_199 _) (Or.inl ⟨_, rfl⟩) dX7_deal_61 h fun σ h => ?_
    refine at_aloadn ok dX7_deal_64 rfl ?_
    refine at_getI ok gf_7_147 dX7_deal_65 h fun v65 h => ?_
    refine at_iconst (v := 2) ok dX7_deal_68 (by decide) ?_
    refine at_join (fun y84 σ => AT X m7_deal 84 [none, some (va_rf (a1)), some (va_rf (a2)), none] [] σ) h (fun y84 σ h => ?_) (fun h j84 => ?_)
    · refine at_aloadn ok dX7_deal_84 rfl ?_
      refine at_getI ok gf_7_147 dX7_deal_85 h fun v85 h => ?_
      refine at_iconst (v := 3) ok dX7_deal_88 (by decide) ?_
      refine bt_icmp_eq (tgt := 100) ok dX7_deal_89 (by decide) h (fun hc h => ?_) (fun hc h => ?_)
      · refine at_aloadn ok dX7_deal_100 rfl ?_
        refine at_iconst (v := 1) ok dX7_deal_101 (by decide) ?_
        refine at_putI ok (pf_7_185 _) dX7_deal_102 h fun σ h => ?_
        exact at_vret ok fn rfl dX7_deal_105 h
      · refine at_aloadn ok dX7_deal_92 rfl ?_
        refine at_getI ok gf_7_147 dX7_deal_93 h fun v93 h => ?_
        refine at_iconst (v := 4) ok dX7_deal_96 (by decide) ?_
        refine bt_icmp_ne (tgt := 105) ok dX7_deal_97 (by decide) h (fun hc h => ?_) (fun hc h => ?_)
        · refine at_aloadn ok dX7_deal_100 rfl ?_
          refine at_iconst (v := 1) ok dX7_deal_101 (by decide) ?_
          refine at_putI ok (pf_7_185 _) dX7_deal_102 h fun σ h => ?_
          exact at_vret ok fn rfl dX7_deal_105 h
        · exact at_vret ok fn rfl dX7_deal_105 h
    · refine bt_icmp_ne (tgt := 84) ok dX7_deal_69 (by decide) h (fun hc h => ?_) (fun hc h => ?_)
      · refine at_aloadn ok dX7_deal_72 rfl ?_
        refine at_aloadn ok dX7_deal_73 rfl ?_
        refine at_aloadn ok dX7_deal_74 rfl ?_
        refine at_getR ok gf_7_196 dX7_deal_75 h fun v75 h => ?_
        refine at_cVr (As := [va_rf (v75)]) ok ct_7_deal_313 dX7_deal_78 (by simp [cat_rf, cat_i, cat_l]) (s0_blackened v5 v75 _) h fun v78 σ h => ?_
        refine at_putR ok (pf_7_205 _) (Or.inr ⟨_, rfl⟩) dX7_deal_81 h fun σ h => ?_
        exact at_weak (lw_n (lw_s (lw_s (lw_n lw_0)))) (j84 () _ (hr_rt.mp h))
      · exact at_weak (lw_n (lw_s (lw_s (lw_n lw_0)))) (j84 () _ (hr_rt.mp h))
set_option maxRecDepth 100000 in
set_option maxHeartbeats 4000000 in
theorem s5_remove (t : Option Nat) (a1 : Int32) (σ : AH) (Q : Unit → AH → Prop) (h : Hr (f5_remove t a1) σ Q) : Runs m5_remove σ [va_rf t, .int (a1)] (fun v σ1 => ∃ a, v = none ∧ Q a σ1) := by
  obtain ⟨a0, σ1, e, hQ⟩ := h
  have hm := n5_remove t a1 σ a0 σ1 e
  have h : Hr (f5_remove t a1) σ (fun a σ2 => a = a0 ∧ σ2 = σ1) := ⟨a0, σ1, e, rfl, rfl⟩
  refine ⟨_, σ1, hm, ⟨a0, rfl, hQ⟩, runs_of (by decide +kernel) (by simp [cat_rf, cat_i, cat_l]) (Nat.le_of_ble_eq_true rfl) hm fun X ok fn => ?_⟩
  clear e hQ hm
  unfold f5_remove at h
  show AT X m5_remove 0 [some (va_rf (t)), some (.int (a1)), none] [] σ
  refine at_iloadn ok dX5_remove_0 rfl ?_
  refine at_iconst (v := 0) ok dX5_remove_1 (by decide) ?_
  refine at_aloadn ok dX5_remove_2 rfl ?_
  refine at_getI ok gf_5_17 dX5_remove_3 h fun v3 h => ?_
  refine at_iconst (v := 1) ok dX5_remove_6 (by decide) ?_
  refine at_isub ok dX5_remove_7 ?_
  refine at_cSi (As := [.int (a1), .int (0), .int ((v3 - 1))]) ok ct_5_remove_21 dX5_remove_8 (by simp [cat_rf, cat_i, cat_l]) (s7_within a1 0 (v3 - 1) _) h fun v8 σ h => ?_
  refine bt_if_ne (tgt := 15) ok dX5_remove_11 (by decide) h (fun hc h => ?_) (fun hc h => ?_)
  · exact at_vret ok fn rfl dX5_remove_14 h
  · refine at_iloadn ok dX5_remove_15 rfl ?_
    refine at_istoren ok dX5_remove_16 rfl (lc_int rfl) (by decide) ?_
    refine at_weak (L' := [some (va_rf (t)), none, some (.int (a1))]) (lw_s (lw_n (lw_s lw_0))) ?_
    refine at_loop (fun x17 σ => AT X m5_remove 17 [some (va_rf (t)), none, some (.int (x17))] [] σ) (fun y47 σ => AT X m5_remove 47 [some (va_rf (t)), none, none] [] σ) h (fun y47 σ h => ?_) (fun kx rec ih x17 σ h => ?_)
    · refine at_aloadn ok dX5_remove_47 rfl ?_
      refine at_dup ok dX5_remove_48 (cat_rf _) ?_
      refine at_getI ok gf_5_17 dX5_remove_49 h fun v49 h => ?_
      refine at_iconst (v := 1) ok dX5_remove_52 (by decide) ?_
      refine at_isub ok dX5_remove_53 ?_
      refine at_putI ok (pf_5_17 _) dX5_remove_54 h fun σ h => ?_
      exact at_vret ok fn rfl dX5_remove_57 h
    · unfold l5_remove_17 at h
      refine at_iloadn ok dX5_remove_17 rfl ?_
      refine at_iconst (v := 1) ok dX5_remove_18 (by decide) ?_
      refine at_iadd ok dX5_remove_19 ?_
      refine at_aloadn ok dX5_remove_20 rfl ?_
      refine at_getI ok gf_5_17 dX5_remove_21 h fun v21 h => ?_
      refine bt_icmp_ge (tgt := 47) ok dX5_remove_24 (by decide) h (fun hc h => ?_) (fun hc h => ?_)
      · exact at_weak (lw_s (lw_n (lw_n lw_0))) (kx () _ (hr_rt.mp h))
      · refine at_aloadn ok dX5_remove_27 rfl ?_
        refine at_getR ok gf_5_11 dX5_remove_28 h fun v28 h => ?_
        refine at_iloadn ok dX5_remove_31 rfl ?_
        refine at_aloadn ok dX5_remove_32 rfl ?_
        refine at_getR ok gf_5_11 dX5_remove_33 h fun v33 h => ?_
        refine at_iloadn ok dX5_remove_36 rfl ?_
        refine at_iconst (v := 1) ok dX5_remove_37 (by decide) ?_
        refine at_iadd ok dX5_remove_38 ?_
        refine at_aald (t := 5) ⟨_, rfl⟩ (by decide) ok dX5_remove_39 h fun v39 h => ?_
        refine at_aast (t := 5) (cc' := 4) rfl rfl (by decide) ok dX5_remove_40 h fun σ h => ?_
        refine at_iinc (v := x17 + 1) ok dX5_remove_41 rfl rfl (lc_non rfl) (by decide) ?_
        refine at_goto (tgt := 17) ok dX5_remove_44 (by decide) ?_
        exact at_weak (lw_s (lw_n (lw_s lw_0))) (ih (x17 + 1) _ h)
set_option maxRecDepth 100000 in
set_option maxHeartbeats 4000000 in
theorem s7_drop (t : Option Nat) (a1 : Int32) (σ : AH) (Q : Int32 → AH → Prop) (h : Hr (f7_drop t a1) σ Q) : Runs m7_drop σ [va_rf t, .int (a1)] (fun v σ1 => ∃ a, v = some (.int a) ∧ Q a σ1) := by
  obtain ⟨a0, σ1, e, hQ⟩ := h
  have hm := n7_drop t a1 σ a0 σ1 e
  have h : Hr (f7_drop t a1) σ (fun a σ2 => a = a0 ∧ σ2 = σ1) := ⟨a0, σ1, e, rfl, rfl⟩
  refine ⟨_, σ1, hm, ⟨a0, rfl, hQ⟩, runs_of (by decide +kernel) (by simp [cat_rf, cat_i, cat_l]) (Nat.le_of_ble_eq_true rfl) hm fun X ok fn => ?_⟩
  clear e hQ hm
  unfold f7_drop at h
  show AT X m7_drop 0 [some (va_rf (t)), some (.int (a1))] [] σ
  refine at_iloadn ok dX7_drop_0 rfl ?_
  refine at_iconst (v := 0) ok dX7_drop_1 (by decide) ?_
  refine at_aloadn ok dX7_drop_2 rfl ?_
  refine at_getR ok gf_7_39 dX7_drop_3 h fun v3 h => ?_
  refine at_getI ok gf_7_124 dX7_drop_6 h fun v6 h => ?_
  refine at_iconst (v := 1) ok dX7_drop_9 (by decide) ?_
  refine at_isub ok dX7_drop_10 ?_
  refine at_cSi (As := [.int (a1), .int (0), .int ((v6 - 1))]) ok ct_7_drop_79 dX7_drop_11 (by simp [cat_rf, cat_i, cat_l]) (s7_within a1 0 (v6 - 1) _) h fun v11 σ h => ?_
  refine bt_if_ne (tgt := 19) ok dX7_drop_14 (by decide) h (fun hc h => ?_) (fun hc h => ?_)
  · refine at_iconst (v := 0) ok dX7_drop_17 (by decide) ?_
    exact at_iret ok fn ⟨_, rfl, rfl⟩ dX7_drop_18 h
  · refine at_aloadn ok dX7_drop_19 rfl ?_
    refine at_getR ok gf_7_39 dX7_drop_20 h fun v20 h => ?_
    refine at_iloadn ok dX7_drop_23 rfl ?_
    refine at_cVv (As := [.int (a1)]) ok ct_7_drop_140 dX7_drop_24 (by simp [cat_rf, cat_i, cat_l]) (s5_remove v20 a1 _) h fun v24 σ h => ?_
    refine at_iconst (v := 1) ok dX7_drop_27 (by decide) ?_
    exact at_iret ok fn ⟨_, rfl, rfl⟩ dX7_drop_28 h
set_option maxRecDepth 100000 in
set_option maxHeartbeats 4000000 in
theorem s7_end (t : Option Nat) (a1 : Int32) (σ : AH) (Q : Int32 → AH → Prop) (h : Hr (f7_end t a1) σ Q) : Runs m7_end σ [va_rf t, .int (a1)] (fun v σ1 => ∃ a, v = some (.int a) ∧ Q a σ1) := by
  obtain ⟨a0, σ1, e, hQ⟩ := h
  have hm := n7_end t a1 σ a0 σ1 e
  have h : Hr (f7_end t a1) σ (fun a σ2 => a = a0 ∧ σ2 = σ1) := ⟨a0, σ1, e, rfl, rfl⟩
  refine ⟨_, σ1, hm, ⟨a0, rfl, hQ⟩, runs_of (by decide +kernel) (by simp [cat_rf, cat_i, cat_l]) (Nat.le_of_ble_eq_true rfl) hm fun X ok fn => ?_⟩
  clear e hQ hm
  unfold f7_end at h
  show AT X m7_end 0 [some (va_rf (t)), some (.int (a1))] [] σ
  refine at_iloadn ok dX7_end_0 rfl ?_
  refine at_iconst (v := 0) ok dX7_end_1 (by decide) ?_
  refine at_aloadn ok dX7_end_2 rfl ?_
  refine at_getI ok gf_7_17 dX7_end_3 h fun v3 h => ?_
  refine at_cSi (As := [.int (a1), .int (0), .int (v3)]) ok ct_7_end_79 dX7_end_6 (by simp [cat_rf, cat_i, cat_l]) (s7_within a1 0 v3 _) h fun v6 σ h => ?_
  refine bt_if_ne (tgt := 14) ok dX7_end_9 (by decide) h (fun hc h => ?_) (fun hc h => ?_)
  · refine at_iconst (v := 0) ok dX7_end_12 (by decide) ?_
    exact at_iret ok fn ⟨_, rfl, rfl⟩ dX7_end_13 h
  · refine at_aloadn ok dX7_end_14 rfl ?_
    refine at_iloadn ok dX7_end_15 rfl ?_
    refine at_putI ok (pf_7_17 _) dX7_end_16 h fun σ h => ?_
    refine at_iconst (v := 1) ok dX7_end_19 (by decide) ?_
    exact at_iret ok fn ⟨_, rfl, rfl⟩ dX7_end_20 h
set_option maxRecDepth 100000 in
set_option maxHeartbeats 4000000 in
theorem s7_feed (t : Option Nat) (a1 : Int32) (a2 : Int32) (a3 : Int32) (a4 : Int32) (a5 : Int32) (σ : AH) (Q : Int32 → AH → Prop) (h : Hr (f7_feed t a1 a2 a3 a4 a5) σ Q) : Runs m7_feed σ [va_rf t, .int (a1), .int (a2), .int (a3), .int (a4), .int (a5)] (fun v σ1 => ∃ a, v = some (.int a) ∧ Q a σ1) := by
  obtain ⟨a0, σ1, e, hQ⟩ := h
  have hm := n7_feed t a1 a2 a3 a4 a5 σ a0 σ1 e
  have h : Hr (f7_feed t a1 a2 a3 a4 a5) σ (fun a σ2 => a = a0 ∧ σ2 = σ1) := ⟨a0, σ1, e, rfl, rfl⟩
  refine ⟨_, σ1, hm, ⟨a0, rfl, hQ⟩, runs_of (by decide +kernel) (by simp [cat_rf, cat_i, cat_l]) (Nat.le_of_ble_eq_true rfl) hm fun X ok fn => ?_⟩
  clear e hQ hm
  unfold f7_feed at h
  show AT X m7_feed 0 [some (va_rf (t)), some (.int (a1)), some (.int (a2)), some (.int (a3)), some (.int (a4)), some (.int (a5)), none] [] σ
  refine at_iloadn ok dX7_feed_0 rfl ?_
  refine at_cSi (As := [.int (a1)]) ok ct_7_feed_83 dX7_feed_1 (by simp [cat_rf, cat_i, cat_l]) (s7_bytesOf a1 _) h fun v1 σ h => ?_
  refine at_iloadn ok dX7_feed_4 rfl ?_
  refine at_cSi (As := [.int (a2)]) ok ct_7_feed_83 dX7_feed_5 (by simp [cat_rf, cat_i, cat_l]) (s7_bytesOf a2 _) h fun v5 σ h => ?_
  refine at_iadd ok dX7_feed_8 ?_
  refine at_iloadn ok dX7_feed_9 rfl ?_
  refine at_cSi (As := [.int (a3)]) ok ct_7_feed_83 dX7_feed_10 (by simp [cat_rf, cat_i, cat_l]) (s7_bytesOf a3 _) h fun v10 σ h => ?_
  refine at_iadd ok dX7_feed_13 ?_
  refine at_iload ok dX7_feed_14 rfl ?_
  refine at_cSi (As := [.int (a4)]) ok ct_7_feed_83 dX7_feed_16 (by simp [cat_rf, cat_i, cat_l]) (s7_bytesOf a4 _) h fun v16 σ h => ?_
  refine at_iadd ok dX7_feed_19 ?_
  refine at_iload ok dX7_feed_20 rfl ?_
  refine at_cSi (As := [.int (a5)]) ok ct_7_feed_83 dX7_feed_22 (by simp [cat_rf, cat_i, cat_l]) (s7_bytesOf a5 _) h fun v22 σ h => ?_
  refine at_iadd ok dX7_feed_25 ?_
  refine at_istore ok dX7_feed_26 (lc_int rfl) (by decide) ?_
  refine at_aloadn ok dX7_feed_28 rfl ?_
  refine at_getI ok gf_7_17 dX7_feed_29 h fun v29 h => ?_
  refine at_iload ok dX7_feed_32 rfl ?_
  refine at_iadd ok dX7_feed_34 ?_
  refine at_sipush (v := 300) ok dX7_feed_35 (by decide) ?_
  refine bt_icmp_le (tgt := 43) ok dX7_feed_38 (by decide) h (fun hc h => ?_) (fun hc h => ?_)
  · refine at_aloadn ok dX7_feed_43 rfl ?_
    refine at_iloadn ok dX7_feed_44 rfl ?_
    refine at_cVv (As := [.int (a1)]) ok ct_7_feed_87 dX7_feed_45 (by simp [cat_rf, cat_i, cat_l]) (s7_append t a1 _) h fun v45 σ h => ?_
    refine at_aloadn ok dX7_feed_48 rfl ?_
    refine at_iloadn ok dX7_feed_49 rfl ?_
    refine at_cVv (As := [.int (a2)]) ok ct_7_feed_87 dX7_feed_50 (by simp [cat_rf, cat_i, cat_l]) (s7_append t a2 _) h fun v50 σ h => ?_
    refine at_aloadn ok dX7_feed_53 rfl ?_
    refine at_iloadn ok dX7_feed_54 rfl ?_
    refine at_cVv (As := [.int (a3)]) ok ct_7_feed_87 dX7_feed_55 (by simp [cat_rf, cat_i, cat_l]) (s7_append t a3 _) h fun v55 σ h => ?_
    refine at_aloadn ok dX7_feed_58 rfl ?_
    refine at_iload ok dX7_feed_59 rfl ?_
    refine at_cVv (As := [.int (a4)]) ok ct_7_feed_87 dX7_feed_61 (by simp [cat_rf, cat_i, cat_l]) (s7_append t a4 _) h fun v61 σ h => ?_
    refine at_aloadn ok dX7_feed_64 rfl ?_
    refine at_iload ok dX7_feed_65 rfl ?_
    refine at_cVv (As := [.int (a5)]) ok ct_7_feed_87 dX7_feed_67 (by simp [cat_rf, cat_i, cat_l]) (s7_append t a5 _) h fun v67 σ h => ?_
    refine at_aloadn ok dX7_feed_70 rfl ?_
    refine at_getI ok gf_7_17 dX7_feed_71 h fun v71 h => ?_
    exact at_iret ok fn ⟨_, rfl, rfl⟩ dX7_feed_74 h
  · refine at_iconst (v := (-1)) ok dX7_feed_41 (by decide) ?_
    exact at_iret ok fn ⟨_, rfl, rfl⟩ dX7_feed_42 h
set_option maxRecDepth 100000 in
set_option maxHeartbeats 4000000 in
theorem s3_clear (t : Option Nat) (σ : AH) (Q : Unit → AH → Prop) (h : Hr (f3_clear t) σ Q) : Runs m3_clear σ [va_rf t] (fun v σ1 => ∃ a, v = none ∧ Q a σ1) := by
  obtain ⟨a0, σ1, e, hQ⟩ := h
  have hm := n3_clear t σ a0 σ1 e
  have h : Hr (f3_clear t) σ (fun a σ2 => a = a0 ∧ σ2 = σ1) := ⟨a0, σ1, e, rfl, rfl⟩
  refine ⟨_, σ1, hm, ⟨a0, rfl, hQ⟩, runs_of (by decide +kernel) (by simp [cat_rf, cat_i, cat_l]) (Nat.le_of_ble_eq_true rfl) hm fun X ok fn => ?_⟩
  clear e hQ hm
  unfold f3_clear at h
  show AT X m3_clear 0 [some (va_rf (t))] [] σ
  refine at_aloadn ok dX3_clear_0 rfl ?_
  refine at_lconst (v := 0) ok dX3_clear_1 (by decide) ?_
  refine at_putL ok (pf_3_7 _) dX3_clear_2 h fun σ h => ?_
  refine at_aloadn ok dX3_clear_5 rfl ?_
  refine at_lconst (v := 0) ok dX3_clear_6 (by decide) ?_
  refine at_putL ok (pf_3_13 _) dX3_clear_7 h fun σ h => ?_
  refine at_aloadn ok dX3_clear_10 rfl ?_
  refine at_lconst (v := 0) ok dX3_clear_11 (by decide) ?_
  refine at_putL ok (pf_3_16 _) dX3_clear_12 h fun σ h => ?_
  exact at_vret ok fn rfl dX3_clear_15 h
set_option maxRecDepth 100000 in
set_option maxHeartbeats 4000000 in
theorem s3_putAll (t : Option Nat) (a1 : Option Nat) (σ : AH) (Q : Unit → AH → Prop) (h : Hr (f3_putAll t a1) σ Q) : Runs m3_putAll σ [va_rf t, va_rf (a1)] (fun v σ1 => ∃ a, v = none ∧ Q a σ1) := by
  obtain ⟨a0, σ1, e, hQ⟩ := h
  have hm := n3_putAll t a1 σ a0 σ1 e
  have h : Hr (f3_putAll t a1) σ (fun a σ2 => a = a0 ∧ σ2 = σ1) := ⟨a0, σ1, e, rfl, rfl⟩
  refine ⟨_, σ1, hm, ⟨a0, rfl, hQ⟩, runs_of (by decide +kernel) (by simp [cat_rf, cat_i, cat_l]) (Nat.le_of_ble_eq_true rfl) hm fun X ok fn => ?_⟩
  clear e hQ hm
  unfold f3_putAll at h
  show AT X m3_putAll 0 [some (va_rf (t)), some (va_rf (a1))] [] σ
  refine at_aloadn ok dX3_putAll_0 rfl ?_
  refine at_dup ok dX3_putAll_1 (cat_rf _) ?_
  refine at_getL ok gf_3_7 dX3_putAll_2 h fun v2 h => ?_
  refine at_aloadn ok dX3_putAll_5 rfl ?_
  refine at_getL ok gf_3_7 dX3_putAll_6 h fun v6 h => ?_
  refine at_lor ok dX3_putAll_9 ?_
  refine at_putL ok (pf_3_7 _) dX3_putAll_10 h fun σ h => ?_
  refine at_aloadn ok dX3_putAll_13 rfl ?_
  refine at_dup ok dX3_putAll_14 (cat_rf _) ?_
  refine at_getL ok gf_3_13 dX3_putAll_15 h fun v15 h => ?_
  refine at_aloadn ok dX3_putAll_18 rfl ?_
  refine at_getL ok gf_3_13 dX3_putAll_19 h fun v19 h => ?_
  refine at_lor ok dX3_putAll_22 ?_
  refine at_putL ok (pf_3_13 _) dX3_putAll_23 h fun σ h => ?_
  refine at_aloadn ok dX3_putAll_26 rfl ?_
  refine at_dup ok dX3_putAll_27 (cat_rf _) ?_
  refine at_getL ok gf_3_16 dX3_putAll_28 h fun v28 h => ?_
  refine at_aloadn ok dX3_putAll_31 rfl ?_
  refine at_getL ok gf_3_16 dX3_putAll_32 h fun v32 h => ?_
  refine at_lor ok dX3_putAll_35 ?_
  refine at_putL ok (pf_3_16 _) dX3_putAll_36 h fun σ h => ?_
  exact at_vret ok fn rfl dX3_putAll_39 h
set_option maxRecDepth 100000 in
set_option maxHeartbeats 4000000 in
theorem sJ13_bitCount_95d88 (a1 : Int64) (σ : AH) (Q : Int32 → AH → Prop) (h : Hr (fJ13_bitCount_95d88 a1) σ Q) : Runs mJ13_bitCount_95d88 σ [.long (a1)] (fun v σ1 => ∃ a, v = some (.int a) ∧ Q a σ1) := by
  obtain ⟨a0, σ1, e, hQ⟩ := h
  have hm := nJ13_bitCount_95d88 a1 σ a0 σ1 e
  have h : Hr (fJ13_bitCount_95d88 a1) σ (fun a σ2 => a = a0 ∧ σ2 = σ1) := ⟨a0, σ1, e, rfl, rfl⟩
  refine ⟨_, σ1, hm, ⟨a0, rfl, hQ⟩, runs_ofJ (by decide +kernel) rfl hm fun X ok fn => ?_⟩
  clear e hQ hm
  unfold fJ13_bitCount_95d88 at h
  show AT X mJ13_bitCount_95d88 0 [some (.long (a1)), none] [] σ
  refine at_lloadn ok dJ13_bitCount_95d88_0 rfl ?_
  refine at_lloadn ok dJ13_bitCount_95d88_1 rfl ?_
  refine at_iconst (v := 1) ok dJ13_bitCount_95d88_2 (by decide) ?_
  refine at_lushr ok dJ13_bitCount_95d88_3 ?_
  refine at_ldc2 (v := 6148914691236517205) ok wd_537 dJ13_bitCount_95d88_4 ?_
  refine at_land ok dJ13_bitCount_95d88_7 ?_
  refine at_lsub ok dJ13_bitCount_95d88_8 ?_
  refine at_lstoren ok dJ13_bitCount_95d88_9 rfl lc_0 (by decide) ?_
  refine at_lloadn ok dJ13_bitCount_95d88_10 rfl ?_
  refine at_ldc2 (v := 3689348814741910323) ok wd_538 dJ13_bitCount_95d88_11 ?_
  refine at_land ok dJ13_bitCount_95d88_14 ?_
  refine at_lloadn ok dJ13_bitCount_95d88_15 rfl ?_
  refine at_iconst (v := 2) ok dJ13_bitCount_95d88_16 (by decide) ?_
  refine at_lushr ok dJ13_bitCount_95d88_17 ?_
  refine at_ldc2 (v := 3689348814741910323) ok wd_538 dJ13_bitCount_95d88_18 ?_
  refine at_land ok dJ13_bitCount_95d88_21 ?_
  refine at_ladd ok dJ13_bitCount_95d88_22 ?_
  refine at_lstoren ok dJ13_bitCount_95d88_23 rfl lc_0 (by decide) ?_
  refine at_lloadn ok dJ13_bitCount_95d88_24 rfl ?_
  refine at_lloadn ok dJ13_bitCount_95d88_25 rfl ?_
  refine at_iconst (v := 4) ok dJ13_bitCount_95d88_26 (by decide) ?_
  refine at_lushr ok dJ13_bitCount_95d88_27 ?_
  refine at_ladd ok dJ13_bitCount_95d88_28 ?_
  refine at_ldc2 (v := 1085102592571150095) ok wd_539 dJ13_bitCount_95d88_29 ?_
  refine at_land ok dJ13_bitCount_95d88_32 ?_
  refine at_lstoren ok dJ13_bitCount_95d88_33 rfl lc_0 (by decide) ?_
  refine at_lloadn ok dJ13_bitCount_95d88_34 rfl ?_
  refine at_lloadn ok dJ13_bitCount_95d88_35 rfl ?_
  refine at_bipush (v := 8) ok dJ13_bitCount_95d88_36 (by decide) ?_
  refine at_lushr ok dJ13_bitCount_95d88_38 ?_
  refine at_ladd ok dJ13_bitCount_95d88_39 ?_
  refine at_lstoren ok dJ13_bitCount_95d88_40 rfl lc_0 (by decide) ?_
  refine at_lloadn ok dJ13_bitCount_95d88_41 rfl ?_
  refine at_lloadn ok dJ13_bitCount_95d88_42 rfl ?_
  refine at_bipush (v := 16) ok dJ13_bitCount_95d88_43 (by decide) ?_
  refine at_lushr ok dJ13_bitCount_95d88_45 ?_
  refine at_ladd ok dJ13_bitCount_95d88_46 ?_
  refine at_lstoren ok dJ13_bitCount_95d88_47 rfl lc_0 (by decide) ?_
  refine at_lloadn ok dJ13_bitCount_95d88_48 rfl ?_
  refine at_lloadn ok dJ13_bitCount_95d88_49 rfl ?_
  refine at_bipush (v := 32) ok dJ13_bitCount_95d88_50 (by decide) ?_
  refine at_lushr ok dJ13_bitCount_95d88_52 ?_
  refine at_ladd ok dJ13_bitCount_95d88_53 ?_
  refine at_lstoren ok dJ13_bitCount_95d88_54 rfl lc_0 (by decide) ?_
  refine at_lloadn ok dJ13_bitCount_95d88_55 rfl ?_
  refine at_l2i ok dJ13_bitCount_95d88_56 ?_
  refine at_bipush (v := 127) ok dJ13_bitCount_95d88_57 (by decide) ?_
  refine at_iand ok dJ13_bitCount_95d88_59 ?_
  exact at_iret ok fn ⟨_, rfl, rfl⟩ dJ13_bitCount_95d88_60 h
set_option maxRecDepth 100000 in
set_option maxHeartbeats 4000000 in
theorem s3_size (t : Option Nat) (σ : AH) (Q : Int32 → AH → Prop) (h : Hr (f3_size t) σ Q) : Runs m3_size σ [va_rf t] (fun v σ1 => ∃ a, v = some (.int a) ∧ Q a σ1) := by
  obtain ⟨a0, σ1, e, hQ⟩ := h
  have hm := n3_size t σ a0 σ1 e
  have h : Hr (f3_size t) σ (fun a σ2 => a = a0 ∧ σ2 = σ1) := ⟨a0, σ1, e, rfl, rfl⟩
  refine ⟨_, σ1, hm, ⟨a0, rfl, hQ⟩, runs_of (by decide +kernel) (by simp [cat_rf, cat_i, cat_l]) (Nat.le_of_ble_eq_true rfl) hm fun X ok fn => ?_⟩
  clear e hQ hm
  unfold f3_size at h
  show AT X m3_size 0 [some (va_rf (t))] [] σ
  refine at_aloadn ok dX3_size_0 rfl ?_
  refine at_getL ok gf_3_7 dX3_size_1 h fun v1 h => ?_
  refine at_cSi (As := [.long (v1)]) ok ct_3_size_19 dX3_size_4 (by simp [cat_rf, cat_i, cat_l]) (sJ13_bitCount_95d88 v1 _) h fun v4 σ h => ?_
  refine at_aloadn ok dX3_size_7 rfl ?_
  refine at_getL ok gf_3_13 dX3_size_8 h fun v8 h => ?_
  refine at_cSi (As := [.long (v8)]) ok ct_3_size_19 dX3_size_11 (by simp [cat_rf, cat_i, cat_l]) (sJ13_bitCount_95d88 v8 _) h fun v11 σ h => ?_
  refine at_iadd ok dX3_size_14 ?_
  refine at_aloadn ok dX3_size_15 rfl ?_
  refine at_getL ok gf_3_16 dX3_size_16 h fun v16 h => ?_
  refine at_cSi (As := [.long (v16)]) ok ct_3_size_19 dX3_size_19 (by simp [cat_rf, cat_i, cat_l]) (sJ13_bitCount_95d88 v16 _) h fun v19 σ h => ?_
  refine at_iadd ok dX3_size_22 ?_
  exact at_iret ok fn ⟨_, rfl, rfl⟩ dX3_size_23 h
