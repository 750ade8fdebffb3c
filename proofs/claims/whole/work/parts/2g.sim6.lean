set_option maxRecDepth 100000 in
set_option maxHeartbeats 4000000 in
theorem s8_readNumbers (t : Option Nat) (σ : AH) (Q : Unit → AH → Prop) (h : Hr (f8_readNumbers t) σ Q) : Runs m8_readNumbers σ [va_rf t] (fun v σ1 => ∃ a, v = none ∧ Q a σ1) := by
  obtain ⟨a0, σ1, e, hQ⟩ := h
  have hm := n8_readNumbers t σ a0 σ1 e
  have h : Hr (f8_readNumbers t) σ (fun a σ2 => a = a0 ∧ σ2 = σ1) := ⟨a0, σ1, e, rfl, rfl⟩
  refine ⟨_, σ1, hm, ⟨a0, rfl, hQ⟩, runs_of (by decide +kernel) (by simp [cat_rf, cat_i, cat_l]) (Nat.le_of_ble_eq_true rfl) hm fun X ok fn => ?_⟩
  clear e hQ hm
  unfold f8_readNumbers at h
  show AT X m8_readNumbers 0 [some (va_rf (t)), none, none, none, none] [] σ
  refine at_aloadn ok dX8_readNumbers_0 rfl ?_
  refine at_iconst (v := 0) ok dX8_readNumbers_1 (by decide) ?_
  refine at_putI ok (pf_8_169 _) dX8_readNumbers_2 h fun σ h => ?_
  refine at_iconst (v := 0) ok dX8_readNumbers_5 (by decide) ?_
  refine at_istoren ok dX8_readNumbers_6 rfl (lc_ref rfl) (by decide) ?_
  refine at_weak (L' := [some (va_rf (t)), some (.int (0)), none, none, none]) (lw_s (lw_s (lw_n (lw_n (lw_n lw_0))))) ?_
  refine at_loop (fun x7 σ => AT X m8_readNumbers 7 [some (va_rf (t)), some (.int (x7)), none, none, none] [] σ) (fun y161 σ => AT X m8_readNumbers 161 [none, none, none, none, none] [] σ) h (fun y161 σ h => ?_) (fun kx rec ih x7 σ h => ?_)
  · exact at_vret ok fn rfl dX8_readNumbers_161 h
  · unfold l8_readNumbers_7 at h
    refine at_iloadn ok dX8_readNumbers_7 rfl ?_
    refine at_aloadn ok dX8_readNumbers_8 rfl ?_
    refine at_getI ok gf_8_143 dX8_readNumbers_9 h fun v9 h => ?_
    refine bt_icmp_ge (tgt := 161) ok dX8_readNumbers_12 (by decide) h (fun hc h => ?_) (fun hc h => ?_)
    · exact at_weak (lw_n (lw_n (lw_n (lw_n (lw_n lw_0))))) (kx () _ (hr_rt.mp h))
    · refine at_aloadn ok dX8_readNumbers_15 rfl ?_
      refine at_iloadn ok dX8_readNumbers_16 rfl ?_
      refine at_cVi (As := [.int (x7)]) ok ct_8_readNumbers_172 dX8_readNumbers_17 (by simp [cat_rf, cat_i, cat_l]) (s8_isDigitAt t x7 _) h fun v17 σ h => ?_
      refine bt_if_ne (tgt := 29) ok dX8_readNumbers_20 (by decide) h (fun hc h => ?_) (fun hc h => ?_)
      · refine at_iinc (v := x7 + 1) ok dX8_readNumbers_23 rfl rfl (lc_ref rfl) (by decide) ?_
        refine at_goto (tgt := 7) ok dX8_readNumbers_26 (by decide) ?_
        exact at_weak (lw_s (lw_s (lw_n (lw_n (lw_n lw_0))))) (ih (x7 + 1) _ h)
      · refine at_iloadn ok dX8_readNumbers_29 rfl ?_
        refine at_istoren ok dX8_readNumbers_30 rfl (lc_int rfl) (by decide) ?_
        refine at_iloadn ok dX8_readNumbers_31 rfl ?_
        refine at_istoren ok dX8_readNumbers_32 rfl (lc_int rfl) (by decide) ?_
        refine at_iconst (v := 1) ok dX8_readNumbers_33 (by decide) ?_
        refine at_istore ok dX8_readNumbers_34 (lc_int rfl) (by decide) ?_
        refine at_weak (L' := [some (va_rf (t)), none, some (.int (x7)), some (.int (x7)), some (.int (1))]) (lw_s (lw_n (lw_s (lw_s (lw_s lw_0))))) ?_
        refine at_loop (fun x36 σ => AT X m8_readNumbers 36 [some (va_rf (t)), none, some (.int (x7)), some (.int (x36.1)), some (.int (x36.2))] [] σ) (fun y115 σ => AT X m8_readNumbers 115 [some (va_rf (t)), none, some (.int (x7)), some (.int (y115)), none] [] σ) h (fun y115 σ h => ?_) (fun kx rec ih x36 σ h => ?_)
        · refine at_aloadn ok dX8_readNumbers_115 rfl ?_
          refine at_iloadn ok dX8_readNumbers_116 rfl ?_
          refine at_iloadn ok dX8_readNumbers_117 rfl ?_
          refine at_cVi (As := [.int (x7), .int (y115)]) ok ct_8_readNumbers_175 dX8_readNumbers_118 (by simp [cat_rf, cat_i, cat_l]) (s8_isNumber t x7 y115 _) h fun v118 σ h => ?_
          refine bt_if_eq (tgt := 154) ok dX8_readNumbers_121 (by decide) h (fun hc h => ?_) (fun hc h => ?_)
          · refine at_iloadn ok dX8_readNumbers_154 rfl ?_
            refine at_iconst (v := 1) ok dX8_readNumbers_155 (by decide) ?_
            refine at_iadd ok dX8_readNumbers_156 ?_
            refine at_istoren ok dX8_readNumbers_157 rfl (lc_ref rfl) (by decide) ?_
            refine at_goto (tgt := 7) ok dX8_readNumbers_158 (by decide) ?_
            exact at_weak (lw_s (lw_s (lw_n (lw_n (lw_n lw_0))))) (ih (y115 + 1) _ h)
          · refine at_aloadn ok dX8_readNumbers_124 rfl ?_
            refine at_getR ok gf_8_28 dX8_readNumbers_125 h fun v125 h => ?_
            refine at_aloadn ok dX8_readNumbers_128 rfl ?_
            refine at_getI ok gf_8_169 dX8_readNumbers_129 h fun v129 h => ?_
            refine at_iloadn ok dX8_readNumbers_132 rfl ?_
            refine at_iast ok dX8_readNumbers_133 h fun σ h => ?_
            refine at_aloadn ok dX8_readNumbers_134 rfl ?_
            refine at_getR ok gf_8_31 dX8_readNumbers_135 h fun v135 h => ?_
            refine at_aloadn ok dX8_readNumbers_138 rfl ?_
            refine at_getI ok gf_8_169 dX8_readNumbers_139 h fun v139 h => ?_
            refine at_iloadn ok dX8_readNumbers_142 rfl ?_
            refine at_iast ok dX8_readNumbers_143 h fun σ h => ?_
            refine at_aloadn ok dX8_readNumbers_144 rfl ?_
            refine at_dup ok dX8_readNumbers_145 (cat_rf _) ?_
            refine at_getI ok gf_8_169 dX8_readNumbers_146 h fun v146 h => ?_
            refine at_iconst (v := 1) ok dX8_readNumbers_149 (by decide) ?_
            refine at_iadd ok dX8_readNumbers_150 ?_
            refine at_putI ok (pf_8_169 _) dX8_readNumbers_151 h fun σ h => ?_
            refine at_iloadn ok dX8_readNumbers_154 rfl ?_
            refine at_iconst (v := 1) ok dX8_readNumbers_155 (by decide) ?_
            refine at_iadd ok dX8_readNumbers_156 ?_
            refine at_istoren ok dX8_readNumbers_157 rfl (lc_ref rfl) (by decide) ?_
            refine at_goto (tgt := 7) ok dX8_readNumbers_158 (by decide) ?_
            exact at_weak (lw_s (lw_s (lw_n (lw_n (lw_n lw_0))))) (ih (y115 + 1) _ h)
        · unfold l8_readNumbers_36 at h
          obtain ⟨x36_1, x36_2⟩ := x36
          dsimp only at h ⊢
          refine at_iload ok dX8_readNumbers_36 rfl ?_
          refine bt_if_eq (tgt := 115) ok dX8_readNumbers_38 (by decide) h (fun hc h => ?_) (fun hc h => ?_)
          · exact at_weak (lw_s (lw_n (lw_s (lw_s (lw_n lw_0))))) (kx x36_1 _ (hr_rt.mp h))
          · refine at_aloadn ok dX8_readNumbers_41 rfl ?_
            refine at_iloadn ok dX8_readNumbers_42 rfl ?_
            refine at_iconst (v := 1) ok dX8_readNumbers_43 (by decide) ?_
            refine at_iadd ok dX8_readNumbers_44 ?_
            refine at_cVi (As := [.int ((x36_1 + 1))]) ok ct_8_readNumbers_172 dX8_readNumbers_45 (by simp [cat_rf, cat_i, cat_l]) (s8_isDigitAt t (x36_1 + 1) _) h fun v45 σ h => ?_
            refine bt_if_eq (tgt := 57) ok dX8_readNumbers_48 (by decide) h (fun hc h => ?_) (fun hc h => ?_)
            · refine at_iloadn ok dX8_readNumbers_57 rfl ?_
              refine at_iconst (v := 1) ok dX8_readNumbers_58 (by decide) ?_
              refine at_iadd ok dX8_readNumbers_59 ?_
              refine at_aloadn ok dX8_readNumbers_60 rfl ?_
              refine at_getI ok gf_8_143 dX8_readNumbers_61 h fun v61 h => ?_
              refine bt_icmp_ge (tgt := 109) ok dX8_readNumbers_64 (by decide) h (fun hc h => ?_) (fun hc h => ?_)
              · refine at_iconst (v := 0) ok dX8_readNumbers_109 (by decide) ?_
                refine at_istore ok dX8_readNumbers_110 (lc_int rfl) (by decide) ?_
                refine at_goto (tgt := 36) ok dX8_readNumbers_112 (by decide) ?_
                exact at_weak (lw_s (lw_n (lw_s (lw_s (lw_s lw_0))))) (by have q := ih (x36_1, 0) _ h; dsimp only at q; exact q)
              · refine at_aloadn ok dX8_readNumbers_67 rfl ?_
                refine at_getR ok gf_8_13 dX8_readNumbers_68 h fun v68 h => ?_
                refine at_iloadn ok dX8_readNumbers_71 rfl ?_
                refine at_iconst (v := 1) ok dX8_readNumbers_72 (by decide) ?_
                refine at_iadd ok dX8_readNumbers_73 ?_
                refine at_iald ok dX8_readNumbers_74 h fun v74 h => ?_
                refine at_bipush (v := 32) ok dX8_readNumbers_75 (by decide) ?_
                refine bt_icmp_eq (tgt := 93) ok dX8_readNumbers_77 (by decide) h (fun hc h => ?_) (fun hc h => ?_)
                · refine at_aloadn ok dX8_readNumbers_93 rfl ?_
                  refine at_iloadn ok dX8_readNumbers_94 rfl ?_
                  refine at_iconst (v := 2) ok dX8_readNumbers_95 (by decide) ?_
                  refine at_iadd ok dX8_readNumbers_96 ?_
                  refine at_cVi (As := [.int ((x36_1 + 2))]) ok ct_8_readNumbers_172 dX8_readNumbers_97 (by simp [cat_rf, cat_i, cat_l]) (s8_isDigitAt t (x36_1 + 2) _) h fun v97 σ h => ?_
                  refine bt_if_eq (tgt := 109) ok dX8_readNumbers_100 (by decide) h (fun hc h => ?_) (fun hc h => ?_)
                  · refine at_iconst (v := 0) ok dX8_readNumbers_109 (by decide) ?_
                    refine at_istore ok dX8_readNumbers_110 (lc_int rfl) (by decide) ?_
                    refine at_goto (tgt := 36) ok dX8_readNumbers_112 (by decide) ?_
                    exact at_weak (lw_s (lw_n (lw_s (lw_s (lw_s lw_0))))) (by have q := ih (x36_1, 0) _ h; dsimp only at q; exact q)
                  · refine at_iinc (v := x36_1 + 2) ok dX8_readNumbers_103 rfl rfl (lc_int rfl) (by decide) ?_
                    refine at_goto (tgt := 36) ok dX8_readNumbers_106 (by decide) ?_
                    exact at_weak (lw_s (lw_n (lw_s (lw_s (lw_s lw_0))))) (by have q := ih ((x36_1 + 2), x36_2) _ h; dsimp only at q; exact q)
                · refine at_aloadn ok dX8_readNumbers_80 rfl ?_
                  refine at_getR ok gf_8_13 dX8_readNumbers_81 h fun v81 h => ?_
                  refine at_iloadn ok dX8_readNumbers_84 rfl ?_
                  refine at_iconst (v := 1) ok dX8_readNumbers_85 (by decide) ?_
                  refine at_iadd ok dX8_readNumbers_86 ?_
                  refine at_iald ok dX8_readNumbers_87 h fun v87 h => ?_
                  refine at_bipush (v := 45) ok dX8_readNumbers_88 (by decide) ?_
                  refine bt_icmp_ne (tgt := 109) ok dX8_readNumbers_90 (by decide) h (fun hc h => ?_) (fun hc h => ?_)
                  · refine at_aloadn ok dX8_readNumbers_93 rfl ?_
                    refine at_iloadn ok dX8_readNumbers_94 rfl ?_
                    refine at_iconst (v := 2) ok dX8_readNumbers_95 (by decide) ?_
                    refine at_iadd ok dX8_readNumbers_96 ?_
                    refine at_cVi (As := [.int ((x36_1 + 2))]) ok ct_8_readNumbers_172 dX8_readNumbers_97 (by simp [cat_rf, cat_i, cat_l]) (s8_isDigitAt t (x36_1 + 2) _) h fun v97 σ h => ?_
                    refine bt_if_eq (tgt := 109) ok dX8_readNumbers_100 (by decide) h (fun hc h => ?_) (fun hc h => ?_)
                    · refine at_iconst (v := 0) ok dX8_readNumbers_109 (by decide) ?_
                      refine at_istore ok dX8_readNumbers_110 (lc_int rfl) (by decide) ?_
                      refine at_goto (tgt := 36) ok dX8_readNumbers_112 (by decide) ?_
                      exact at_weak (lw_s (lw_n (lw_s (lw_s (lw_s lw_0))))) (by have q := ih (x36_1, 0) _ h; dsimp only at q; exact q)
                    · refine at_iinc (v := x36_1 + 2) ok dX8_readNumbers_103 rfl rfl (lc_int rfl) (by decide) ?_
                      refine at_goto (tgt := 36) ok dX8_readNumbers_106 (by decide) ?_
                      exact at_weak (lw_s (lw_n (lw_s (lw_s (lw_s lw_0))))) (by have q := ih ((x36_1 + 2), x36_2) _ h; dsimp only at q; exact q)
                  · refine at_iconst (v := 0) ok dX8_readNumbers_109 (by decide) ?_
                    refine at_istore ok dX8_readNumbers_110 (lc_int rfl) (by decide) ?_
                    refine at_goto (tgt := 36) ok dX8_readNumbers_112 (by decide) ?_
                    exact at_weak (lw_s (lw_n (lw_s (lw_s (lw_s lw_0))))) (by have q := ih (x36_1, 0) _ h; dsimp only at q; exact q)
            · refine at_iinc (v := x36_1 + 1) ok dX8_readNumbers_51 rfl rfl (lc_int rfl) (by decide) ?_
              refine at_goto (tgt := 36) ok dX8_readNumbers_54 (by decide) ?_
              exact at_weak (lw_s (lw_n (lw_s (lw_s (lw_s lw_0))))) (by have q := ih ((x36_1 + 1), x36_2) _ h; dsimp only at q; exact q)
set_option maxRecDepth 100000 in
set_option maxHeartbeats 4000000 in
theorem s8_read (t : Option Nat) (a1 : Option Nat) (a2 : Int32) (a3 : Int32) (σ : AH) (Q : Unit → AH → Prop) (h : Hr (f8_read t a1 a2 a3) σ Q) : Runs m8_read σ [va_rf t, va_rf (a1), .int (a2), .int (a3)] (fun v σ1 => ∃ a, v = none ∧ Q a σ1) := by
  obtain ⟨a0, σ1, e, hQ⟩ := h
  have hm := n8_read t a1 a2 a3 σ a0 σ1 e
  have h : Hr (f8_read t a1 a2 a3) σ (fun a σ2 => a = a0 ∧ σ2 = σ1) := ⟨a0, σ1, e, rfl, rfl⟩
  refine ⟨_, σ1, hm, ⟨a0, rfl, hQ⟩, runs_of (by decide +kernel) (by simp [cat_rf, cat_i, cat_l]) (Nat.le_of_ble_eq_true rfl) hm fun X ok fn => ?_⟩
  clear e hQ hm
  unfold f8_read at h
  show AT X m8_read 0 [some (va_rf (t)), some (va_rf (a1)), some (.int (a2)), some (.int (a3)), none] [] σ
  refine at_aloadn ok dX8_read_0 rfl ?_
  refine at_iloadn ok dX8_read_1 rfl ?_
  refine at_putI ok (pf_8_143 _) dX8_read_2 h fun σ h => ?_
  refine at_iconst (v := 0) ok dX8_read_5 (by decide) ?_
  refine at_istore ok dX8_read_6 (lc_int rfl) (by decide) ?_
  refine at_weak (L' := [some (va_rf (t)), some (va_rf (a1)), some (.int (a2)), some (.int (a3)), some (.int (0))]) (lw_s (lw_s (lw_s (lw_s (lw_s lw_0))))) ?_
  refine at_loop (fun x8 σ => AT X m8_read 8 [some (va_rf (t)), some (va_rf (a1)), some (.int (a2)), some (.int (a3)), some (.int (x8))] [] σ) (fun y51 σ => AT X m8_read 51 [some (va_rf (t)), none, none, none, none] [] σ) h (fun y51 σ h => ?_) (fun kx rec ih x8 σ h => ?_)
  · refine at_aloadn ok dX8_read_51 rfl ?_
    refine at_cVv (As := []) ok ct_8_read_157 dX8_read_52 (by simp [cat_rf, cat_i, cat_l]) (s8_pass t  _) h fun v52 σ h => ?_
    refine at_aloadn ok dX8_read_55 rfl ?_
    refine at_cVv (As := []) ok ct_8_read_157 dX8_read_56 (by simp [cat_rf, cat_i, cat_l]) (s8_pass t  _) h fun v56 σ h => ?_
    refine at_aloadn ok dX8_read_59 rfl ?_
    refine at_cVv (As := []) ok ct_8_read_157 dX8_read_60 (by simp [cat_rf, cat_i, cat_l]) (s8_pass t  _) h fun v60 σ h => ?_
    refine at_aloadn ok dX8_read_63 rfl ?_
    refine at_iconst (v := 0) ok dX8_read_64 (by decide) ?_
    refine at_putI ok (pf_8_160 _) dX8_read_65 h fun σ h => ?_
    refine at_iconst (v := 0) ok dX8_read_68 (by decide) ?_
    refine at_istore ok dX8_read_69 (lc_non rfl) (by decide) ?_
    refine at_weak (L' := [some (va_rf (t)), none, none, none, some (.int (0))]) (lw_s (lw_n (lw_n (lw_n (lw_s lw_0))))) ?_
    refine at_loop (fun x71 σ => AT X m8_read 71 [some (va_rf (t)), none, none, none, some (.int (x71))] [] σ) (fun y164 σ => AT X m8_read 164 [some (va_rf (t)), none, none, none, none] [] σ) h (fun y164 σ h => ?_) (fun kx rec ih x71 σ h => ?_)
    · refine at_aloadn ok dX8_read_164 rfl ?_
      refine at_cVv (As := []) ok ct_8_read_166 dX8_read_165 (by simp [cat_rf, cat_i, cat_l]) (s8_readNumbers t  _) h fun v165 σ h => ?_
      exact at_vret ok fn rfl dX8_read_168 h
    · unfold l8_read_71 at h
      refine at_iload ok dX8_read_71 rfl ?_
      refine at_aloadn ok dX8_read_73 rfl ?_
      refine at_getI ok gf_8_143 dX8_read_74 h fun v74 h => ?_
      refine bt_icmp_ge (tgt := 164) ok dX8_read_77 (by decide) h (fun hc h => ?_) (fun hc h => ?_)
      · exact at_weak (lw_s (lw_n (lw_n (lw_n (lw_n lw_0))))) (kx () _ (hr_rt.mp h))
      · refine at_aloadn ok dX8_read_80 rfl ?_
        refine at_getR ok gf_8_13 dX8_read_81 h fun v81 h => ?_
        refine at_iload ok dX8_read_84 rfl ?_
        refine at_iald ok dX8_read_86 h fun v86 h => ?_
        refine at_cSi (As := [.int (v86)]) ok ct_8_read_163 dX8_read_87 (by simp [cat_rf, cat_i, cat_l]) (s8_isSign v86 _) h fun v87 σ h => ?_
        refine bt_if_ne (tgt := 99) ok dX8_read_90 (by decide) h (fun hc h => ?_) (fun hc h => ?_)
        · refine at_iinc (v := x71 + 1) ok dX8_read_93 rfl rfl (lc_non rfl) (by decide) ?_
          refine at_goto (tgt := 71) ok dX8_read_96 (by decide) ?_
          exact at_weak (lw_s (lw_n (lw_n (lw_n (lw_s lw_0))))) (ih (x71 + 1) _ h)
        · refine at_aloadn ok dX8_read_99 rfl ?_
          refine at_getR ok gf_8_22 dX8_read_100 h fun v100 h => ?_
          refine at_aloadn ok dX8_read_103 rfl ?_
          refine at_getI ok gf_8_160 dX8_read_104 h fun v104 h => ?_
          refine at_iload ok dX8_read_107 rfl ?_
          refine at_iast ok dX8_read_109 h fun σ h => ?_
          refine at_weak (L' := [some (va_rf (t)), none, none, none, some (.int (x71))]) (lw_s (lw_n (lw_n (lw_n (lw_s lw_0))))) ?_
          refine at_loop (fun x110 σ => AT X m8_read 110 [some (va_rf (t)), none, none, none, some (.int (x110))] [] σ) (fun y138 σ => AT X m8_read 138 [some (va_rf (t)), none, none, none, some (.int (y138))] [] σ) h (fun y138 σ h => ?_) (fun kx rec ih x110 σ h => ?_)
          · refine at_aloadn ok dX8_read_138 rfl ?_
            refine at_getR ok gf_8_25 dX8_read_139 h fun v139 h => ?_
            refine at_aloadn ok dX8_read_142 rfl ?_
            refine at_getI ok gf_8_160 dX8_read_143 h fun v143 h => ?_
            refine at_iload ok dX8_read_146 rfl ?_
            refine at_iconst (v := 1) ok dX8_read_148 (by decide) ?_
            refine at_isub ok dX8_read_149 ?_
            refine at_iast ok dX8_read_150 h fun σ h => ?_
            refine at_aloadn ok dX8_read_151 rfl ?_
            refine at_dup ok dX8_read_152 (cat_rf _) ?_
            refine at_getI ok gf_8_160 dX8_read_153 h fun v153 h => ?_
            refine at_iconst (v := 1) ok dX8_read_156 (by decide) ?_
            refine at_iadd ok dX8_read_157 ?_
            refine at_putI ok (pf_8_160 _) dX8_read_158 h fun σ h => ?_
            refine at_goto (tgt := 71) ok dX8_read_161 (by decide) ?_
            exact at_weak (lw_s (lw_n (lw_n (lw_n (lw_s lw_0))))) (ih y138 _ h)
          · unfold l8_read_110 at h
            refine at_iload ok dX8_read_110 rfl ?_
            refine at_aloadn ok dX8_read_112 rfl ?_
            refine at_getI ok gf_8_143 dX8_read_113 h fun v113 h => ?_
            refine bt_icmp_ge (tgt := 138) ok dX8_read_116 (by decide) h (fun hc h => ?_) (fun hc h => ?_)
            · exact at_weak (lw_s (lw_n (lw_n (lw_n (lw_s lw_0))))) (kx x110 _ (hr_rt.mp h))
            · refine at_aloadn ok dX8_read_119 rfl ?_
              refine at_getR ok gf_8_13 dX8_read_120 h fun v120 h => ?_
              refine at_iload ok dX8_read_123 rfl ?_
              refine at_iald ok dX8_read_125 h fun v125 h => ?_
              refine at_cSi (As := [.int (v125)]) ok ct_8_read_163 dX8_read_126 (by simp [cat_rf, cat_i, cat_l]) (s8_isSign v125 _) h fun v126 σ h => ?_
              refine bt_if_eq (tgt := 138) ok dX8_read_129 (by decide) h (fun hc h => ?_) (fun hc h => ?_)
              · exact at_weak (lw_s (lw_n (lw_n (lw_n (lw_s lw_0))))) (kx x110 _ (hr_rt.mp h))
              · refine at_iinc (v := x110 + 1) ok dX8_read_132 rfl rfl (lc_non rfl) (by decide) ?_
                refine at_goto (tgt := 110) ok dX8_read_135 (by decide) ?_
                exact at_weak (lw_s (lw_n (lw_n (lw_n (lw_s lw_0))))) (ih (x110 + 1) _ h)
  · unfold l8_read_8 at h
    refine at_iload ok dX8_read_8 rfl ?_
    refine at_iloadn ok dX8_read_10 rfl ?_
    refine bt_icmp_ge (tgt := 51) ok dX8_read_11 (by decide) h (fun hc h => ?_) (fun hc h => ?_)
    · exact at_weak (lw_s (lw_n (lw_n (lw_n (lw_n lw_0))))) (kx () _ (hr_rt.mp h))
    · refine at_aloadn ok dX8_read_14 rfl ?_
      refine at_getR ok gf_8_13 dX8_read_15 h fun v15 h => ?_
      refine at_iload ok dX8_read_18 rfl ?_
      refine at_aloadn ok dX8_read_20 rfl ?_
      refine at_iloadn ok dX8_read_21 rfl ?_
      refine at_iload ok dX8_read_22 rfl ?_
      refine at_iadd ok dX8_read_24 ?_
      refine at_iald ok dX8_read_25 h fun v25 h => ?_
      refine at_iast ok dX8_read_26 h fun σ h => ?_
      refine at_aloadn ok dX8_read_27 rfl ?_
      refine at_getR ok gf_8_16 dX8_read_28 h fun v28 h => ?_
      refine at_iload ok dX8_read_31 rfl ?_
      refine at_iload ok dX8_read_33 rfl ?_
      refine at_iast ok dX8_read_35 h fun σ h => ?_
      refine at_aloadn ok dX8_read_36 rfl ?_
      refine at_getR ok gf_8_19 dX8_read_37 h fun v37 h => ?_
      refine at_iload ok dX8_read_40 rfl ?_
      refine at_iload ok dX8_read_42 rfl ?_
      refine at_iast ok dX8_read_44 h fun σ h => ?_
      refine at_iinc (v := x8 + 1) ok dX8_read_45 rfl rfl (lc_int rfl) (by decide) ?_
      refine at_goto (tgt := 8) ok dX8_read_48 (by decide) ?_
      exact at_weak (lw_s (lw_s (lw_s (lw_s (lw_s lw_0))))) (ih (x8 + 1) _ h)
set_option maxRecDepth 100000 in
set_option maxHeartbeats 4000000 in
theorem s8_readLetter (t : Option Nat) (a1 : Int32) (σ : AH) (Q : Unit → AH → Prop) (h : Hr (f8_readLetter t a1) σ Q) : Runs m8_readLetter σ [va_rf t, .int (a1)] (fun v σ1 => ∃ a, v = none ∧ Q a σ1) := by
  obtain ⟨a0, σ1, e, hQ⟩ := h
  have hm := n8_readLetter t a1 σ a0 σ1 e
  have h : Hr (f8_readLetter t a1) σ (fun a σ2 => a = a0 ∧ σ2 = σ1) := ⟨a0, σ1, e, rfl, rfl⟩
  refine ⟨_, σ1, hm, ⟨a0, rfl, hQ⟩, runs_of (by decide +kernel) (by simp [cat_rf, cat_i, cat_l]) (Nat.le_of_ble_eq_true rfl) hm fun X ok fn => ?_⟩
  clear e hQ hm
  unfold f8_readLetter at h
  show AT X m8_readLetter 0 [some (va_rf (t)), some (.int (a1))] [] σ
  refine at_aloadn ok dX8_readLetter_0 rfl ?_
  refine at_aloadn ok dX8_readLetter_1 rfl ?_
  refine at_getR ok gf_8_74 dX8_readLetter_2 h fun v2 h => ?_
  refine at_sipush (v := 300) ok dX8_readLetter_5 (by decide) ?_
  refine at_iloadn ok dX8_readLetter_8 rfl ?_
  refine at_imul ok dX8_readLetter_9 ?_
  refine at_aloadn ok dX8_readLetter_10 rfl ?_
  refine at_getR ok gf_8_77 dX8_readLetter_11 h fun v11 h => ?_
  refine at_iloadn ok dX8_readLetter_14 rfl ?_
  refine at_iald ok dX8_readLetter_15 h fun v15 h => ?_
  refine at_cVv (As := [va_rf (v2), .int ((300 * a1)), .int (v15)]) ok ct_8_readLetter_179 dX8_readLetter_16 (by simp [cat_rf, cat_i, cat_l]) (s8_read t v2 (300 * a1) v15 _) h fun v16 σ h => ?_
  exact at_vret ok fn rfl dX8_readLetter_19 h
set_option maxRecDepth 100000 in
set_option maxHeartbeats 4000000 in
theorem s8_isEnough (t : Option Nat) (a1 : Int32) (a2 : Int32) (σ : AH) (Q : Int32 → AH → Prop) (h : Hr (f8_isEnough t a1 a2) σ Q) : Runs m8_isEnough σ [va_rf t, .int (a1), .int (a2)] (fun v σ1 => ∃ a, v = some (.int a) ∧ Q a σ1) := by
  obtain ⟨a0, σ1, e, hQ⟩ := h
  have hm := n8_isEnough t a1 a2 σ a0 σ1 e
  have h : Hr (f8_isEnough t a1 a2) σ (fun a σ2 => a = a0 ∧ σ2 = σ1) := ⟨a0, σ1, e, rfl, rfl⟩
  refine ⟨_, σ1, hm, ⟨a0, rfl, hQ⟩, runs_of (by decide +kernel) (by simp [cat_rf, cat_i, cat_l]) (Nat.le_of_ble_eq_true rfl) hm fun X ok fn => ?_⟩
  clear e hQ hm
  unfold f8_isEnough at h
  show AT X m8_isEnough 0 [some (va_rf (t)), some (.int (a1)), some (.int (a2)), none] [] σ
  refine at_aloadn ok dX8_isEnough_0 rfl ?_
  refine at_cVv (As := []) ok ct_8_isEnough_214 dX8_isEnough_1 (by simp [cat_rf, cat_i, cat_l]) (s8_noParts t  _) h fun v1 σ h => ?_
  refine at_iconst (v := 0) ok dX8_isEnough_4 (by decide) ?_
  refine at_istoren ok dX8_isEnough_5 rfl (lc_int rfl) (by decide) ?_
  refine at_weak (L' := [some (va_rf (t)), some (.int (a1)), some (.int (a2)), some (.int (0))]) (lw_s (lw_s (lw_s (lw_s lw_0)))) ?_
  refine at_loop (fun x6 σ => AT X m8_isEnough 6 [some (va_rf (t)), some (.int (a1)), some (.int (a2)), some (.int (x6))] [] σ) (fun y75 σ => AT X m8_isEnough 75 [some (va_rf (t)), some (.int (a1)), some (.int (a2)), none] [] σ) h (fun y75 σ h => ?_) (fun kx rec ih x6 σ h => ?_)
  · refine at_aloadn ok dX8_isEnough_75 rfl ?_
    refine at_iloadn ok dX8_isEnough_76 rfl ?_
    refine at_cVv (As := [.int (a2)]) ok ct_8_isEnough_217 dX8_isEnough_77 (by simp [cat_rf, cat_i, cat_l]) (s8_readLetter t a2 _) h fun v77 σ h => ?_
    refine at_aloadn ok dX8_isEnough_80 rfl ?_
    refine at_aloadn ok dX8_isEnough_81 rfl ?_
    refine at_getR ok gf_8_59 dX8_isEnough_82 h fun v82 h => ?_
    refine at_iloadn ok dX8_isEnough_85 rfl ?_
    refine at_iald ok dX8_isEnough_86 h fun v86 h => ?_
    refine at_cVi (As := [.int (v86)]) ok ct_8_isEnough_225 dX8_isEnough_87 (by simp [cat_rf, cat_i, cat_l]) (s8_partsHad t v86 _) h fun v87 σ h => ?_
    refine at_aloadn ok dX8_isEnough_90 rfl ?_
    refine at_getR ok gf_8_65 dX8_isEnough_91 h fun v91 h => ?_
    refine at_iloadn ok dX8_isEnough_94 rfl ?_
    refine at_iald ok dX8_isEnough_95 h fun v95 h => ?_
    refine bt_icmp_lt (tgt := 103) ok dX8_isEnough_96 (by decide) h (fun hc h => ?_) (fun hc h => ?_)
    · refine at_iconst (v := 0) ok dX8_isEnough_103 (by decide) ?_
      exact at_iret ok fn ⟨_, rfl, rfl⟩ dX8_isEnough_104 h
    · refine at_iconst (v := 1) ok dX8_isEnough_99 (by decide) ?_
      refine at_goto (tgt := 104) ok dX8_isEnough_100 (by decide) ?_
      exact at_iret ok fn ⟨_, rfl, rfl⟩ dX8_isEnough_104 h
  · unfold l8_isEnough_6 at h
    refine at_iloadn ok dX8_isEnough_6 rfl ?_
    refine at_iloadn ok dX8_isEnough_7 rfl ?_
    refine bt_icmp_gt (tgt := 75) ok dX8_isEnough_8 (by decide) h (fun hc h => ?_) (fun hc h => ?_)
    · exact at_weak (lw_s (lw_s (lw_s (lw_n lw_0)))) (kx () _ (hr_rt.mp h))
    · refine at_aloadn ok dX8_isEnough_11 rfl ?_
      refine at_getR ok gf_8_80 dX8_isEnough_12 h fun v12 h => ?_
      refine at_iloadn ok dX8_isEnough_15 rfl ?_
      refine at_iald ok dX8_isEnough_16 h fun v16 h => ?_
      refine at_aloadn ok dX8_isEnough_17 rfl ?_
      refine at_getR ok gf_8_80 dX8_isEnough_18 h fun v18 h => ?_
      refine at_iloadn ok dX8_isEnough_21 rfl ?_
      refine at_iald ok dX8_isEnough_22 h fun v22 h => ?_
      refine bt_icmp_ne (tgt := 69) ok dX8_isEnough_23 (by decide) h (fun hc h => ?_) (fun hc h => ?_)
      · refine at_aloadn ok dX8_isEnough_26 rfl ?_
        refine at_getR ok gf_8_89 dX8_isEnough_27 h fun v27 h => ?_
        refine at_iloadn ok dX8_isEnough_30 rfl ?_
        refine at_iald ok dX8_isEnough_31 h fun v31 h => ?_
        refine at_aloadn ok dX8_isEnough_32 rfl ?_
        refine at_getR ok gf_8_89 dX8_isEnough_33 h fun v33 h => ?_
        refine at_iloadn ok dX8_isEnough_36 rfl ?_
        refine at_iald ok dX8_isEnough_37 h fun v37 h => ?_
        refine at_isub ok dX8_isEnough_38 ?_
        refine at_aloadn ok dX8_isEnough_39 rfl ?_
        refine at_getR ok gf_8_68 dX8_isEnough_40 h fun v40 h => ?_
        refine at_iloadn ok dX8_isEnough_43 rfl ?_
        refine at_iald ok dX8_isEnough_44 h fun v44 h => ?_
        refine bt_icmp_gt (tgt := 69) ok dX8_isEnough_45 (by decide) h (fun hc h => ?_) (fun hc h => ?_)
        · refine at_iinc (v := x6 + 1) ok dX8_isEnough_69 rfl rfl (lc_int rfl) (by decide) ?_
          refine at_goto (tgt := 6) ok dX8_isEnough_72 (by decide) ?_
          exact at_weak (lw_s (lw_s (lw_s (lw_s lw_0)))) (ih (x6 + 1) _ h)
        · refine at_aloadn ok dX8_isEnough_48 rfl ?_
          refine at_iloadn ok dX8_isEnough_49 rfl ?_
          refine at_cVv (As := [.int (x6)]) ok ct_8_isEnough_217 dX8_isEnough_50 (by simp [cat_rf, cat_i, cat_l]) (s8_readLetter t x6 _) h fun v50 σ h => ?_
          refine at_aloadn ok dX8_isEnough_53 rfl ?_
          refine at_aloadn ok dX8_isEnough_54 rfl ?_
          refine at_getR ok gf_8_59 dX8_isEnough_55 h fun v55 h => ?_
          refine at_iloadn ok dX8_isEnough_58 rfl ?_
          refine at_iald ok dX8_isEnough_59 h fun v59 h => ?_
          refine at_aloadn ok dX8_isEnough_60 rfl ?_
          refine at_getR ok gf_8_62 dX8_isEnough_61 h fun v61 h => ?_
          refine at_iloadn ok dX8_isEnough_64 rfl ?_
          refine at_iald ok dX8_isEnough_65 h fun v65 h => ?_
          refine at_cVv (As := [.int (v59), .int (v65)]) ok ct_8_isEnough_221 dX8_isEnough_66 (by simp [cat_rf, cat_i, cat_l]) (s8_addParts t v59 v65 _) h fun v66 σ h => ?_
          refine at_iinc (v := x6 + 1) ok dX8_isEnough_69 rfl rfl (lc_int rfl) (by decide) ?_
          refine at_goto (tgt := 6) ok dX8_isEnough_72 (by decide) ?_
          exact at_weak (lw_s (lw_s (lw_s (lw_s lw_0)))) (ih (x6 + 1) _ h)
      · refine at_iinc (v := x6 + 1) ok dX8_isEnough_69 rfl rfl (lc_int rfl) (by decide) ?_
        refine at_goto (tgt := 6) ok dX8_isEnough_72 (by decide) ?_
        exact at_weak (lw_s (lw_s (lw_s (lw_s lw_0)))) (ih (x6 + 1) _ h)
set_option maxRecDepth 100000 in
set_option maxHeartbeats 4000000 in
theorem s8_isMark (t : Option Nat) (a1 : Int32) (a2 : Int32) (σ : AH) (Q : Int32 → AH → Prop) (h : Hr (f8_isMark t a1 a2) σ Q) : Runs m8_isMark σ [va_rf t, .int (a1), .int (a2)] (fun v σ1 => ∃ a, v = some (.int a) ∧ Q a σ1) := by
  obtain ⟨a0, σ1, e, hQ⟩ := h
  have hm := n8_isMark t a1 a2 σ a0 σ1 e
  have h : Hr (f8_isMark t a1 a2) σ (fun a σ2 => a = a0 ∧ σ2 = σ1) := ⟨a0, σ1, e, rfl, rfl⟩
  refine ⟨_, σ1, hm, ⟨a0, rfl, hQ⟩, runs_of (by decide +kernel) (by simp [cat_rf, cat_i, cat_l]) (Nat.le_of_ble_eq_true rfl) hm fun X ok fn => ?_⟩
  clear e hQ hm
  unfold f8_isMark at h
  show AT X m8_isMark 0 [some (va_rf (t)), some (.int (a1)), some (.int (a2)), none] [] σ
  refine at_aloadn ok dX8_isMark_0 rfl ?_
  refine at_getR ok gf_8_25 dX8_isMark_1 h fun v1 h => ?_
  refine at_iloadn ok dX8_isMark_4 rfl ?_
  refine at_iald ok dX8_isMark_5 h fun v5 h => ?_
  refine at_aloadn ok dX8_isMark_6 rfl ?_
  refine at_getR ok gf_8_22 dX8_isMark_7 h fun v7 h => ?_
  refine at_iloadn ok dX8_isMark_10 rfl ?_
  refine at_iald ok dX8_isMark_11 h fun v11 h => ?_
  refine at_isub ok dX8_isMark_12 ?_
  refine at_iconst (v := 1) ok dX8_isMark_13 (by decide) ?_
  refine at_iadd ok dX8_isMark_14 ?_
  refine at_aloadn ok dX8_isMark_15 rfl ?_
  refine at_getR ok gf_8_56 dX8_isMark_16 h fun v16 h => ?_
  refine at_iloadn ok dX8_isMark_19 rfl ?_
  refine at_iald ok dX8_isMark_20 h fun v20 h => ?_
  refine bt_icmp_eq (tgt := 26) ok dX8_isMark_21 (by decide) h (fun hc h => ?_) (fun hc h => ?_)
  · refine at_iconst (v := 0) ok dX8_isMark_26 (by decide) ?_
    refine at_istoren ok dX8_isMark_27 rfl (lc_int rfl) (by decide) ?_
    refine at_weak (L' := [some (va_rf (t)), some (.int (a1)), some (.int (a2)), some (.int (0))]) (lw_s (lw_s (lw_s (lw_s lw_0)))) ?_
    refine at_loopS (fun x28 σ => AT X m8_isMark 28 [some (va_rf (t)), some (.int (a1)), some (.int (a2)), some (.int (x28))] [] σ) (fun y77 σ => AT X m8_isMark 77 [none, none, none, none] [] σ) h (fun y77 σ h => ?_) (fun kx rec ih x28 σ h => ?_)
    · refine at_iconst (v := 1) ok dX8_isMark_77 (by decide) ?_
      exact at_iret ok fn ⟨_, rfl, rfl⟩ dX8_isMark_78 h
    · unfold l8_isMark_28 at h
      refine at_iloadn ok dX8_isMark_28 rfl ?_
      refine at_aloadn ok dX8_isMark_29 rfl ?_
      refine at_getR ok gf_8_56 dX8_isMark_30 h fun v30 h => ?_
      refine at_iloadn ok dX8_isMark_33 rfl ?_
      refine at_iald ok dX8_isMark_34 h fun v34 h => ?_
      refine bt_icmp_ge (tgt := 77) ok dX8_isMark_35 (by decide) h (fun hc h => ?_) (fun hc h => ?_)
      · exact at_weak (lw_n (lw_n (lw_n (lw_n lw_0)))) (by have z := hr_inr h; exact kx () _ z)
      · refine at_aloadn ok dX8_isMark_38 rfl ?_
        refine at_getR ok gf_8_53 dX8_isMark_39 h fun v39 h => ?_
        refine at_sipush (v := 300) ok dX8_isMark_42 (by decide) ?_
        refine at_iloadn ok dX8_isMark_45 rfl ?_
        refine at_imul ok dX8_isMark_46 ?_
        refine at_iloadn ok dX8_isMark_47 rfl ?_
        refine at_iadd ok dX8_isMark_48 ?_
        refine at_iald ok dX8_isMark_49 h fun v49 h => ?_
        refine at_aloadn ok dX8_isMark_50 rfl ?_
        refine at_getR ok gf_8_13 dX8_isMark_51 h fun v51 h => ?_
        refine at_aloadn ok dX8_isMark_54 rfl ?_
        refine at_getR ok gf_8_22 dX8_isMark_55 h fun v55 h => ?_
        refine at_iloadn ok dX8_isMark_58 rfl ?_
        refine at_iald ok dX8_isMark_59 h fun v59 h => ?_
        refine at_iloadn ok dX8_isMark_60 rfl ?_
        refine at_iadd ok dX8_isMark_61 ?_
        refine at_iald ok dX8_isMark_62 h fun v62 h => ?_
        refine at_cSi (As := [.int (v62)]) ok ct_8_isMark_150 dX8_isMark_63 (by simp [cat_rf, cat_i, cat_l]) (s8_small v62 _) h fun v63 σ h => ?_
        refine bt_icmp_eq (tgt := 71) ok dX8_isMark_66 (by decide) h (fun hc h => ?_) (fun hc h => ?_)
        · refine at_iinc (v := x28 + 1) ok dX8_isMark_71 rfl rfl (lc_int rfl) (by decide) ?_
          refine at_goto (tgt := 28) ok dX8_isMark_74 (by decide) ?_
          exact at_weak (lw_s (lw_s (lw_s (lw_s lw_0)))) (ih (x28 + 1) _ h)
        · refine at_iconst (v := 0) ok dX8_isMark_69 (by decide) ?_
          exact at_iret ok fn ⟨_, rfl, rfl⟩ dX8_isMark_70 (hr_inl h)
  · refine at_iconst (v := 0) ok dX8_isMark_24 (by decide) ?_
    exact at_iret ok fn ⟨_, rfl, rfl⟩ dX8_isMark_25 h
set_option maxRecDepth 100000 in
set_option maxHeartbeats 4000000 in
theorem s8_find (t : Option Nat) (a1 : Int32) (a2 : Int32) (a3 : Int32) (σ : AH) (Q : Int32 → AH → Prop) (h : Hr (f8_find t a1 a2 a3) σ Q) : Runs m8_find σ [va_rf t, .int (a1), .int (a2), .int (a3)] (fun v σ1 => ∃ a, v = some (.int a) ∧ Q a σ1) := by
  obtain ⟨a0, σ1, e, hQ⟩ := h
  have hm := n8_find t a1 a2 a3 σ a0 σ1 e
  have h : Hr (f8_find t a1 a2 a3) σ (fun a σ2 => a = a0 ∧ σ2 = σ1) := ⟨a0, σ1, e, rfl, rfl⟩
  refine ⟨_, σ1, hm, ⟨a0, rfl, hQ⟩, runs_of (by decide +kernel) (by simp [cat_rf, cat_i, cat_l]) (Nat.le_of_ble_eq_true rfl) hm fun X ok fn => ?_⟩
  clear e hQ hm
  unfold f8_find at h
  show AT X m8_find 0 [some (va_rf (t)), some (.int (a1)), some (.int (a2)), some (.int (a3)), none, none] [] σ
  refine at_aloadn ok dX8_find_0 rfl ?_
  refine at_getR ok gf_8_50 dX8_find_1 h fun v1 h => ?_
  refine at_iloadn ok dX8_find_4 rfl ?_
  refine at_iald ok dX8_find_5 h fun v5 h => ?_
  refine at_iconst (v := 1) ok dX8_find_6 (by decide) ?_
  refine bt_icmp_ne (tgt := 67) ok dX8_find_7 (by decide) h (fun hc h => ?_) (fun hc h => ?_)
  · refine at_iconst (v := 0) ok dX8_find_10 (by decide) ?_
    refine at_istore ok dX8_find_11 (lc_int rfl) (by decide) ?_
    refine at_iconst (v := 0) ok dX8_find_13 (by decide) ?_
    refine at_istore ok dX8_find_14 (lc_int rfl) (by decide) ?_
    refine at_weak (L' := [some (va_rf (t)), some (.int (a1)), none, some (.int (a3)), some (.int (0)), some (.int (0))]) (lw_s (lw_s (lw_n (lw_s (lw_s (lw_s lw_0)))))) ?_
    refine at_loop (fun x16 σ => AT X m8_find 16 [some (va_rf (t)), some (.int (a1)), none, some (.int (a3)), some (.int (x16.1)), some (.int (x16.2))] [] σ) (fun y64 σ => AT X m8_find 64 [none, none, none, none, some (.int (y64)), none] [] σ) h (fun y64 σ h => ?_) (fun kx rec ih x16 σ h => ?_)
    · refine at_iload ok dX8_find_64 rfl ?_
      exact at_iret ok fn ⟨_, rfl, rfl⟩ dX8_find_66 h
    · unfold l8_find_16 at h
      obtain ⟨x16_1, x16_2⟩ := x16
      dsimp only at h ⊢
      refine at_iload ok dX8_find_16 rfl ?_
      refine at_aloadn ok dX8_find_18 rfl ?_
      refine at_getI ok gf_8_160 dX8_find_19 h fun v19 h => ?_
      refine bt_icmp_ge (tgt := 64) ok dX8_find_22 (by decide) h (fun hc h => ?_) (fun hc h => ?_)
      · exact at_weak (lw_n (lw_n (lw_n (lw_n (lw_s (lw_n lw_0)))))) (kx x16_1 _ (hr_rt.mp h))
      · refine at_aloadn ok dX8_find_25 rfl ?_
        refine at_iloadn ok dX8_find_26 rfl ?_
        refine at_iload ok dX8_find_27 rfl ?_
        refine at_cVi (As := [.int (a1), .int (x16_2)]) ok ct_8_find_200 dX8_find_29 (by simp [cat_rf, cat_i, cat_l]) (s8_isMark t a1 x16_2 _) h fun v29 σ h => ?_
        refine bt_if_eq (tgt := 58) ok dX8_find_32 (by decide) h (fun hc h => ?_) (fun hc h => ?_)
        · refine at_iinc (v := x16_2 + 1) ok dX8_find_58 rfl rfl (lc_int rfl) (by decide) ?_
          refine at_goto (tgt := 16) ok dX8_find_61 (by decide) ?_
          exact at_weak (lw_s (lw_s (lw_n (lw_s (lw_s (lw_s lw_0)))))) (by have q := ih (x16_1, (x16_2 + 1)) _ h; dsimp only at q; exact q)
        · refine at_aloadn ok dX8_find_35 rfl ?_
          refine at_aloadn ok dX8_find_36 rfl ?_
          refine at_getR ok gf_8_22 dX8_find_37 h fun v37 h => ?_
          refine at_iload ok dX8_find_40 rfl ?_
          refine at_iald ok dX8_find_42 h fun v42 h => ?_
          refine at_aloadn ok dX8_find_43 rfl ?_
          refine at_getR ok gf_8_25 dX8_find_44 h fun v44 h => ?_
          refine at_iload ok dX8_find_47 rfl ?_
          refine at_iald ok dX8_find_49 h fun v49 h => ?_
          refine at_iconst (v := (-1)) ok dX8_find_50 (by decide) ?_
          refine at_iloadn ok dX8_find_51 rfl ?_
          refine at_cVv (As := [.int (v42), .int (v49), .int ((-1)), .int (a3)]) ok ct_8_find_203 dX8_find_52 (by simp [cat_rf, cat_i, cat_l]) (s8_found t v42 v49 (-1) a3 _) h fun v52 σ h => ?_
          refine at_iinc (v := x16_1 + 1) ok dX8_find_55 rfl rfl (lc_int rfl) (by decide) ?_
          refine at_iinc (v := x16_2 + 1) ok dX8_find_58 rfl rfl (lc_int rfl) (by decide) ?_
          refine at_goto (tgt := 16) ok dX8_find_61 (by decide) ?_
          exact at_weak (lw_s (lw_s (lw_n (lw_s (lw_s (lw_s lw_0)))))) (by have q := ih ((x16_1 + 1), (x16_2 + 1)) _ h; dsimp only at q; exact q)
  · refine at_aloadn ok dX8_find_67 rfl ?_
    refine at_getR ok gf_8_50 dX8_find_68 h fun v68 h => ?_
    refine at_iloadn ok dX8_find_71 rfl ?_
    refine at_iald ok dX8_find_72 h fun v72 h => ?_
    refine at_iconst (v := 3) ok dX8_find_73 (by decide) ?_
    refine bt_icmp_ne (tgt := 150) ok dX8_find_74 (by decide) h (fun hc h => ?_) (fun hc h => ?_)
    · refine at_iconst (v := 0) ok dX8_find_77 (by decide) ?_
      refine at_istore ok dX8_find_78 (lc_int rfl) (by decide) ?_
      refine at_weak (L' := [some (va_rf (t)), some (.int (a1)), none, some (.int (a3)), some (.int (0)), none]) (lw_s (lw_s (lw_n (lw_s (lw_s (lw_n lw_0)))))) ?_
      refine at_loop (fun x80 σ => AT X m8_find 80 [some (va_rf (t)), some (.int (a1)), none, some (.int (a3)), some (.int (x80)), none] [] σ) (fun y128 σ => AT X m8_find 128 [some (va_rf (t)), some (.int (a1)), none, none, none, none] [] σ) h (fun y128 σ h => ?_) (fun kx rec ih x80 σ h => ?_)
      · refine at_aloadn ok dX8_find_128 rfl ?_
        refine at_getI ok gf_8_169 dX8_find_129 h fun v129 h => ?_
        refine at_aloadn ok dX8_find_132 rfl ?_
        refine at_getR ok gf_8_65 dX8_find_133 h fun v133 h => ?_
        refine at_iloadn ok dX8_find_136 rfl ?_
        refine at_iald ok dX8_find_137 h fun v137 h => ?_
        refine bt_icmp_lt (tgt := 148) ok dX8_find_138 (by decide) h (fun hc h => ?_) (fun hc h => ?_)
        · refine at_iconst (v := 0) ok dX8_find_148 (by decide) ?_
          exact at_iret ok fn ⟨_, rfl, rfl⟩ dX8_find_149 h
        · refine at_aloadn ok dX8_find_141 rfl ?_
          refine at_getI ok gf_8_169 dX8_find_142 h fun v142 h => ?_
          refine at_goto (tgt := 149) ok dX8_find_145 (by decide) ?_
          exact at_iret ok fn ⟨_, rfl, rfl⟩ dX8_find_149 h
      · unfold l8_find_80 at h
        refine at_iload ok dX8_find_80 rfl ?_
        refine at_aloadn ok dX8_find_82 rfl ?_
        refine at_getI ok gf_8_169 dX8_find_83 h fun v83 h => ?_
        refine bt_icmp_ge (tgt := 128) ok dX8_find_86 (by decide) h (fun hc h => ?_) (fun hc h => ?_)
        · exact at_weak (lw_s (lw_s (lw_n (lw_n (lw_n (lw_n lw_0)))))) (kx () _ (hr_rt.mp h))
        · refine at_aloadn ok dX8_find_89 rfl ?_
          refine at_getI ok gf_8_169 dX8_find_90 h fun v90 h => ?_
          refine at_aloadn ok dX8_find_93 rfl ?_
          refine at_getR ok gf_8_65 dX8_find_94 h fun v94 h => ?_
          refine at_iloadn ok dX8_find_97 rfl ?_
          refine at_iald ok dX8_find_98 h fun v98 h => ?_
          refine bt_icmp_lt (tgt := 128) ok dX8_find_99 (by decide) h (fun hc h => ?_) (fun hc h => ?_)
          · exact at_weak (lw_s (lw_s (lw_n (lw_n (lw_n (lw_n lw_0)))))) (kx () _ (hr_rt.mp h))
          · refine at_aloadn ok dX8_find_102 rfl ?_
            refine at_aloadn ok dX8_find_103 rfl ?_
            refine at_getR ok gf_8_28 dX8_find_104 h fun v104 h => ?_
            refine at_iload ok dX8_find_107 rfl ?_
            refine at_iald ok dX8_find_109 h fun v109 h => ?_
            refine at_aloadn ok dX8_find_110 rfl ?_
            refine at_getR ok gf_8_31 dX8_find_111 h fun v111 h => ?_
            refine at_iload ok dX8_find_114 rfl ?_
            refine at_iald ok dX8_find_116 h fun v116 h => ?_
            refine at_iconst (v := (-1)) ok dX8_find_117 (by decide) ?_
            refine at_iloadn ok dX8_find_118 rfl ?_
            refine at_cVv (As := [.int (v109), .int (v116), .int ((-1)), .int (a3)]) ok ct_8_find_203 dX8_find_119 (by simp [cat_rf, cat_i, cat_l]) (s8_found t v109 v116 (-1) a3 _) h fun v119 σ h => ?_
            refine at_iinc (v := x80 + 1) ok dX8_find_122 rfl rfl (lc_int rfl) (by decide) ?_
            refine at_goto (tgt := 80) ok dX8_find_125 (by decide) ?_
            exact at_weak (lw_s (lw_s (lw_n (lw_s (lw_s (lw_n lw_0)))))) (ih (x80 + 1) _ h)
    · refine at_aloadn ok dX8_find_150 rfl ?_
      refine at_getR ok gf_8_50 dX8_find_151 h fun v151 h => ?_
      refine at_iloadn ok dX8_find_154 rfl ?_
      refine at_iald ok dX8_find_155 h fun v155 h => ?_
      refine at_iconst (v := 4) ok dX8_find_156 (by decide) ?_
      refine at_joinS (fun y171 σ => AT X m8_find 171 [some (va_rf (t)), some (.int (a1)), none, some (.int (a3)), none, none] [] σ) h (fun y171 σ h => ?_) (fun h j171 => ?_)
      · refine at_aloadn ok dX8_find_171 rfl ?_
        refine at_getR ok gf_8_50 dX8_find_172 h fun v172 h => ?_
        refine at_iloadn ok dX8_find_175 rfl ?_
        refine at_iald ok dX8_find_176 h fun v176 h => ?_
        refine at_iconst (v := 2) ok dX8_find_177 (by decide) ?_
        refine at_joinS (fun y191 σ => AT X m8_find 191 [some (va_rf (t)), some (.int (a1)), none, some (.int (a3)), none, none] [] σ) h (fun y191 σ h => ?_) (fun h j191 => ?_)
        · refine at_aloadn ok dX8_find_191 rfl ?_
          refine at_iloadn ok dX8_find_192 rfl ?_
          refine at_iloadn ok dX8_find_193 rfl ?_
          refine at_cVi (As := [.int (a1), .int (a3)]) ok ct_8_find_210 dX8_find_194 (by simp [cat_rf, cat_i, cat_l]) (s8_findParts t a1 a3 _) h fun v194 σ h => ?_
          refine at_goto (tgt := 201) ok dX8_find_197 (by decide) ?_
          exact at_iret ok fn ⟨_, rfl, rfl⟩ dX8_find_201 h
        · refine bt_icmp_eq (tgt := 191) ok dX8_find_178 (by decide) h (fun hc h => ?_) (fun hc h => ?_)
          · exact at_weak (lw_s (lw_s (lw_n (lw_s (lw_n (lw_n lw_0)))))) (by have z := hr_inr h; exact j191 () _ z)
          · refine at_aloadn ok dX8_find_181 rfl ?_
            refine at_getR ok gf_8_50 dX8_find_182 h fun v182 h => ?_
            refine at_iloadn ok dX8_find_185 rfl ?_
            refine at_iald ok dX8_find_186 h fun v186 h => ?_
            refine at_iconst (v := 4) ok dX8_find_187 (by decide) ?_
            refine bt_icmp_ne (tgt := 200) ok dX8_find_188 (by decide) h (fun hc h => ?_) (fun hc h => ?_)
            · exact at_weak (lw_s (lw_s (lw_n (lw_s (lw_n (lw_n lw_0)))))) (by have z := hr_inr h; exact j191 () _ z)
            · refine at_iconst (v := 0) ok dX8_find_200 (by decide) ?_
              exact at_iret ok fn ⟨_, rfl, rfl⟩ dX8_find_201 (hr_inl h)
      · refine bt_icmp_ne (tgt := 171) ok dX8_find_157 (by decide) h (fun hc h => ?_) (fun hc h => ?_)
        · refine at_aloadn ok dX8_find_160 rfl ?_
          refine at_iloadn ok dX8_find_161 rfl ?_
          refine at_iloadn ok dX8_find_162 rfl ?_
          refine at_cVi (As := [.int (a1), .int (a2)]) ok ct_8_find_207 dX8_find_163 (by simp [cat_rf, cat_i, cat_l]) (s8_isEnough t a1 a2 _) h fun v163 σ h => ?_
          refine bt_if_ne (tgt := 171) ok dX8_find_166 (by decide) h (fun hc h => ?_) (fun hc h => ?_)
          · refine at_iconst (v := 0) ok dX8_find_169 (by decide) ?_
            exact at_iret ok fn ⟨_, rfl, rfl⟩ dX8_find_170 (hr_inl h)
          · exact at_weak (lw_s (lw_s (lw_n (lw_s (lw_n (lw_n lw_0)))))) (by have z := hr_inr h; exact j171 () _ z)
        · exact at_weak (lw_s (lw_s (lw_n (lw_s (lw_n (lw_n lw_0)))))) (by have z := hr_inr h; exact j171 () _ z)
set_option maxRecDepth 100000 in
set_option maxHeartbeats 4000000 in
theorem s8_found_ (t : Option Nat) (a1 : Int32) (a2 : Int32) (a3 : Int32) (σ : AH) (Q : Int32 → AH → Prop) (h : Hr (f8_found_ t a1 a2 a3) σ Q) : Runs m8_found_ σ [va_rf t, .int (a1), .int (a2), .int (a3)] (fun v σ1 => ∃ a, v = some (.int a) ∧ Q a σ1) := by
  obtain ⟨a0, σ1, e, hQ⟩ := h
  have hm := n8_found_ t a1 a2 a3 σ a0 σ1 e
  have h : Hr (f8_found_ t a1 a2 a3) σ (fun a σ2 => a = a0 ∧ σ2 = σ1) := ⟨a0, σ1, e, rfl, rfl⟩
  refine ⟨_, σ1, hm, ⟨a0, rfl, hQ⟩, runs_of (by decide +kernel) (by simp [cat_rf, cat_i, cat_l]) (Nat.le_of_ble_eq_true rfl) hm fun X ok fn => ?_⟩
  clear e hQ hm
  unfold f8_found_ at h
  show AT X m8_found_ 0 [some (va_rf (t)), some (.int (a1)), some (.int (a2)), some (.int (a3)), none] [] σ
  refine at_aloadn ok dX8_found__0 rfl ?_
  refine at_iloadn ok dX8_found__1 rfl ?_
  refine at_cVi (As := [.int (a1)]) ok ct_8_found__255 dX8_found__2 (by simp [cat_rf, cat_i, cat_l]) (s8_isLetter t a1 _) h fun v2 σ h => ?_
  refine bt_if_eq (tgt := 24) ok dX8_found__5 (by decide) h (fun hc h => ?_) (fun hc h => ?_)
  · refine at_iconst (v := (-1)) ok dX8_found__24 (by decide) ?_
    exact at_iret ok fn ⟨_, rfl, rfl⟩ dX8_found__25 h
  · refine at_iloadn ok dX8_found__8 rfl ?_
    refine at_iconst (v := 0) ok dX8_found__9 (by decide) ?_
    refine at_aloadn ok dX8_found__10 rfl ?_
    refine at_getR ok gf_8_104 dX8_found__11 h fun v11 h => ?_
    refine at_iloadn ok dX8_found__14 rfl ?_
    refine at_iald ok dX8_found__15 h fun v15 h => ?_
    refine at_iconst (v := 1) ok dX8_found__16 (by decide) ?_
    refine at_isub ok dX8_found__17 ?_
    refine at_cSi (As := [.int (a2), .int (0), .int ((v15 - 1))]) ok ct_8_found__128 dX8_found__18 (by simp [cat_rf, cat_i, cat_l]) (s8_in a2 0 (v15 - 1) _) h fun v18 σ h => ?_
    refine bt_if_ne (tgt := 26) ok dX8_found__21 (by decide) h (fun hc h => ?_) (fun hc h => ?_)
    · refine at_iconst (v := (-1)) ok dX8_found__24 (by decide) ?_
      exact at_iret ok fn ⟨_, rfl, rfl⟩ dX8_found__25 h
    · refine at_aloadn ok dX8_found__26 rfl ?_
      refine at_getR ok gf_8_101 dX8_found__27 h fun v27 h => ?_
      refine at_iloadn ok dX8_found__30 rfl ?_
      refine at_iald ok dX8_found__31 h fun v31 h => ?_
      refine at_iloadn ok dX8_found__32 rfl ?_
      refine at_iadd ok dX8_found__33 ?_
      refine at_istore ok dX8_found__34 (lc_int rfl) (by decide) ?_
      refine at_iloadn ok dX8_found__36 rfl ?_
      refine bt_if_ne (tgt := 50) ok dX8_found__37 (by decide) h (fun hc h => ?_) (fun hc h => ?_)
      · refine at_aloadn ok dX8_found__40 rfl ?_
        refine at_getR ok gf_8_107 dX8_found__41 h fun v41 h => ?_
        refine at_iload ok dX8_found__44 rfl ?_
        refine at_iald ok dX8_found__46 h fun v46 h => ?_
        refine at_goto (tgt := 81) ok dX8_found__47 (by decide) ?_
        exact at_iret ok fn ⟨_, rfl, rfl⟩ dX8_found__81 h
      · refine at_iloadn ok dX8_found__50 rfl ?_
        refine at_iconst (v := 1) ok dX8_found__51 (by decide) ?_
        refine bt_icmp_ne (tgt := 65) ok dX8_found__52 (by decide) h (fun hc h => ?_) (fun hc h => ?_)
        · refine at_aloadn ok dX8_found__55 rfl ?_
          refine at_getR ok gf_8_110 dX8_found__56 h fun v56 h => ?_
          refine at_iload ok dX8_found__59 rfl ?_
          refine at_iald ok dX8_found__61 h fun v61 h => ?_
          refine at_goto (tgt := 81) ok dX8_found__62 (by decide) ?_
          exact at_iret ok fn ⟨_, rfl, rfl⟩ dX8_found__81 h
        · refine at_iloadn ok dX8_found__65 rfl ?_
          refine at_iconst (v := 2) ok dX8_found__66 (by decide) ?_
          refine bt_icmp_ne (tgt := 80) ok dX8_found__67 (by decide) h (fun hc h => ?_) (fun hc h => ?_)
          · refine at_aloadn ok dX8_found__70 rfl ?_
            refine at_getR ok gf_8_113 dX8_found__71 h fun v71 h => ?_
            refine at_iload ok dX8_found__74 rfl ?_
            refine at_iald ok dX8_found__76 h fun v76 h => ?_
            refine at_goto (tgt := 81) ok dX8_found__77 (by decide) ?_
            exact at_iret ok fn ⟨_, rfl, rfl⟩ dX8_found__81 h
          · refine at_iconst (v := (-1)) ok dX8_found__80 (by decide) ?_
            exact at_iret ok fn ⟨_, rfl, rfl⟩ dX8_found__81 h
set_option maxRecDepth 100000 in
set_option maxHeartbeats 4000000 in
theorem s8_insert (t : Option Nat) (a1 : Int32) (a2 : Int32) (a3 : Int32) (a4 : Int32) (a5 : Int32) (σ : AH) (Q : Unit → AH → Prop) (h : Hr (f8_insert t a1 a2 a3 a4 a5) σ Q) : Runs m8_insert σ [va_rf t, .int (a1), .int (a2), .int (a3), .int (a4), .int (a5)] (fun v σ1 => ∃ a, v = none ∧ Q a σ1) := by
  obtain ⟨a0, σ1, e, hQ⟩ := h
  have hm := n8_insert t a1 a2 a3 a4 a5 σ a0 σ1 e
  have h : Hr (f8_insert t a1 a2 a3 a4 a5) σ (fun a σ2 => a = a0 ∧ σ2 = σ1) := ⟨a0, σ1, e, rfl, rfl⟩
  refine ⟨_, σ1, hm, ⟨a0, rfl, hQ⟩, runs_of (by decide +kernel) (by simp [cat_rf, cat_i, cat_l]) (Nat.le_of_ble_eq_true rfl) hm fun X ok fn => ?_⟩
  clear e hQ hm
  unfold f8_insert at h
  show AT X m8_insert 0 [some (va_rf (t)), some (.int (a1)), some (.int (a2)), some (.int (a3)), some (.int (a4)), some (.int (a5)), none] [] σ
  refine at_aloadn ok dX8_insert_0 rfl ?_
  refine at_getI ok gf_8_232 dX8_insert_1 h fun v1 h => ?_
  refine at_istore ok dX8_insert_4 (lc_int rfl) (by decide) ?_
  refine at_weak (L' := [some (va_rf (t)), some (.int (a1)), some (.int (a2)), some (.int (a3)), some (.int (a4)), some (.int (a5)), some (.int (v1))]) (lw_s (lw_s (lw_s (lw_s (lw_s (lw_s (lw_s lw_0))))))) ?_
  refine at_loop (fun x6 σ => AT X m8_insert 6 [some (va_rf (t)), some (.int (a1)), some (.int (a2)), some (.int (a3)), some (.int (a4)), some (.int (a5)), some (.int (x6))] [] σ) (fun y82 σ => AT X m8_insert 82 [some (va_rf (t)), some (.int (a1)), some (.int (a2)), some (.int (a3)), some (.int (a4)), some (.int (a5)), none] [] σ) h (fun y82 σ h => ?_) (fun kx rec ih x6 σ h => ?_)
  · refine at_aloadn ok dX8_insert_82 rfl ?_
    refine at_getR ok gf_8_116 dX8_insert_83 h fun v83 h => ?_
    refine at_iloadn ok dX8_insert_86 rfl ?_
    refine at_iloadn ok dX8_insert_87 rfl ?_
    refine at_iast ok dX8_insert_88 h fun σ h => ?_
    refine at_aloadn ok dX8_insert_89 rfl ?_
    refine at_getR ok gf_8_119 dX8_insert_90 h fun v90 h => ?_
    refine at_iloadn ok dX8_insert_93 rfl ?_
    refine at_iloadn ok dX8_insert_94 rfl ?_
    refine at_iast ok dX8_insert_95 h fun σ h => ?_
    refine at_aloadn ok dX8_insert_96 rfl ?_
    refine at_getR ok gf_8_122 dX8_insert_97 h fun v97 h => ?_
    refine at_iloadn ok dX8_insert_100 rfl ?_
    refine at_iload ok dX8_insert_101 rfl ?_
    refine at_iast ok dX8_insert_103 h fun σ h => ?_
    refine at_aloadn ok dX8_insert_104 rfl ?_
    refine at_getR ok gf_8_125 dX8_insert_105 h fun v105 h => ?_
    refine at_iloadn ok dX8_insert_108 rfl ?_
    refine at_iload ok dX8_insert_109 rfl ?_
    refine at_iast ok dX8_insert_111 h fun σ h => ?_
    refine at_aloadn ok dX8_insert_112 rfl ?_
    refine at_dup ok dX8_insert_113 (cat_rf _) ?_
    refine at_getI ok gf_8_232 dX8_insert_114 h fun v114 h => ?_
    refine at_iconst (v := 1) ok dX8_insert_117 (by decide) ?_
    refine at_iadd ok dX8_insert_118 ?_
    refine at_putI ok (pf_8_232 _) dX8_insert_119 h fun σ h => ?_
    exact at_vret ok fn rfl dX8_insert_122 h
  · unfold l8_insert_6 at h
    refine at_iload ok dX8_insert_6 rfl ?_
    refine at_iloadn ok dX8_insert_8 rfl ?_
    refine bt_icmp_le (tgt := 82) ok dX8_insert_9 (by decide) h (fun hc h => ?_) (fun hc h => ?_)
    · exact at_weak (lw_s (lw_s (lw_s (lw_s (lw_s (lw_s (lw_n lw_0))))))) (kx () _ (hr_rt.mp h))
    · refine at_aloadn ok dX8_insert_12 rfl ?_
      refine at_getR ok gf_8_116 dX8_insert_13 h fun v13 h => ?_
      refine at_iload ok dX8_insert_16 rfl ?_
      refine at_aloadn ok dX8_insert_18 rfl ?_
      refine at_getR ok gf_8_116 dX8_insert_19 h fun v19 h => ?_
      refine at_iload ok dX8_insert_22 rfl ?_
      refine at_iconst (v := 1) ok dX8_insert_24 (by decide) ?_
      refine at_isub ok dX8_insert_25 ?_
      refine at_iald ok dX8_insert_26 h fun v26 h => ?_
      refine at_iast ok dX8_insert_27 h fun σ h => ?_
      refine at_aloadn ok dX8_insert_28 rfl ?_
      refine at_getR ok gf_8_119 dX8_insert_29 h fun v29 h => ?_
      refine at_iload ok dX8_insert_32 rfl ?_
      refine at_aloadn ok dX8_insert_34 rfl ?_
      refine at_getR ok gf_8_119 dX8_insert_35 h fun v35 h => ?_
      refine at_iload ok dX8_insert_38 rfl ?_
      refine at_iconst (v := 1) ok dX8_insert_40 (by decide) ?_
      refine at_isub ok dX8_insert_41 ?_
      refine at_iald ok dX8_insert_42 h fun v42 h => ?_
      refine at_iast ok dX8_insert_43 h fun σ h => ?_
      refine at_aloadn ok dX8_insert_44 rfl ?_
      refine at_getR ok gf_8_122 dX8_insert_45 h fun v45 h => ?_
      refine at_iload ok dX8_insert_48 rfl ?_
      refine at_aloadn ok dX8_insert_50 rfl ?_
      refine at_getR ok gf_8_122 dX8_insert_51 h fun v51 h => ?_
      refine at_iload ok dX8_insert_54 rfl ?_
      refine at_iconst (v := 1) ok dX8_insert_56 (by decide) ?_
      refine at_isub ok dX8_insert_57 ?_
      refine at_iald ok dX8_insert_58 h fun v58 h => ?_
      refine at_iast ok dX8_insert_59 h fun σ h => ?_
      refine at_aloadn ok dX8_insert_60 rfl ?_
      refine at_getR ok gf_8_125 dX8_insert_61 h fun v61 h => ?_
      refine at_iload ok dX8_insert_64 rfl ?_
      refine at_aloadn ok dX8_insert_66 rfl ?_
      refine at_getR ok gf_8_125 dX8_insert_67 h fun v67 h => ?_
      refine at_iload ok dX8_insert_70 rfl ?_
      refine at_iconst (v := 1) ok dX8_insert_72 (by decide) ?_
      refine at_isub ok dX8_insert_73 ?_
      refine at_iald ok dX8_insert_74 h fun v74 h => ?_
      refine at_iast ok dX8_insert_75 h fun σ h => ?_
      refine at_iinc (v := x6 + (-1)) ok dX8_insert_76 rfl rfl (lc_int rfl) (by decide) ?_
      refine at_goto (tgt := 6) ok dX8_insert_79 (by decide) ?_
      exact at_weak (lw_s (lw_s (lw_s (lw_s (lw_s (lw_s (lw_s lw_0))))))) (ih (x6 + (-1)) _ h)
set_option maxRecDepth 100000 in
set_option maxHeartbeats 4000000 in
theorem s8_isFor (t : Option Nat) (a1 : Int32) (a2 : Int32) (a3 : Int32) (σ : AH) (Q : Int32 → AH → Prop) (h : Hr (f8_isFor t a1 a2 a3) σ Q) : Runs m8_isFor σ [va_rf t, .int (a1), .int (a2), .int (a3)] (fun v σ1 => ∃ a, v = some (.int a) ∧ Q a σ1) := by
  obtain ⟨a0, σ1, e, hQ⟩ := h
  have hm := n8_isFor t a1 a2 a3 σ a0 σ1 e
  have h : Hr (f8_isFor t a1 a2 a3) σ (fun a σ2 => a = a0 ∧ σ2 = σ1) := ⟨a0, σ1, e, rfl, rfl⟩
  refine ⟨_, σ1, hm, ⟨a0, rfl, hQ⟩, runs_of (by decide +kernel) (by simp [cat_rf, cat_i, cat_l]) (Nat.le_of_ble_eq_true rfl) hm fun X ok fn => ?_⟩
  clear e hQ hm
  unfold f8_isFor at h
  show AT X m8_isFor 0 [some (va_rf (t)), some (.int (a1)), some (.int (a2)), some (.int (a3))] [] σ
  refine at_aloadn ok dX8_isFor_0 rfl ?_
  refine at_getR ok gf_8_116 dX8_isFor_1 h fun v1 h => ?_
  refine at_iloadn ok dX8_isFor_4 rfl ?_
  refine at_iald ok dX8_isFor_5 h fun v5 h => ?_
  refine at_iconst (v := (-1)) ok dX8_isFor_6 (by decide) ?_
  refine at_joinS (fun y20 σ => AT X m8_isFor 20 [some (va_rf (t)), some (.int (a1)), none, some (.int (a3))] [] σ) h (fun y20 σ h => ?_) (fun h j20 => ?_)
  · refine at_aloadn ok dX8_isFor_20 rfl ?_
    refine at_getR ok gf_8_119 dX8_isFor_21 h fun v21 h => ?_
    refine at_iloadn ok dX8_isFor_24 rfl ?_
    refine at_iald ok dX8_isFor_25 h fun v25 h => ?_
    refine at_iconst (v := (-1)) ok dX8_isFor_26 (by decide) ?_
    refine bt_icmp_eq (tgt := 40) ok dX8_isFor_27 (by decide) h (fun hc h => ?_) (fun hc h => ?_)
    · refine at_iconst (v := 1) ok dX8_isFor_40 (by decide) ?_
      refine at_goto (tgt := 45) ok dX8_isFor_41 (by decide) ?_
      exact at_iret ok fn ⟨_, rfl, rfl⟩ dX8_isFor_45 h
    · refine at_aloadn ok dX8_isFor_30 rfl ?_
      refine at_getR ok gf_8_119 dX8_isFor_31 h fun v31 h => ?_
      refine at_iloadn ok dX8_isFor_34 rfl ?_
      refine at_iald ok dX8_isFor_35 h fun v35 h => ?_
      refine at_iloadn ok dX8_isFor_36 rfl ?_
      refine bt_icmp_ne (tgt := 44) ok dX8_isFor_37 (by decide) h (fun hc h => ?_) (fun hc h => ?_)
      · refine at_iconst (v := 1) ok dX8_isFor_40 (by decide) ?_
        refine at_goto (tgt := 45) ok dX8_isFor_41 (by decide) ?_
        exact at_iret ok fn ⟨_, rfl, rfl⟩ dX8_isFor_45 h
      · refine at_iconst (v := 0) ok dX8_isFor_44 (by decide) ?_
        exact at_iret ok fn ⟨_, rfl, rfl⟩ dX8_isFor_45 h
  · refine bt_icmp_eq (tgt := 20) ok dX8_isFor_7 (by decide) h (fun hc h => ?_) (fun hc h => ?_)
    · exact at_weak (lw_s (lw_s (lw_n (lw_s lw_0)))) (by have z := hr_inr h; exact j20 () _ z)
    · refine at_aloadn ok dX8_isFor_10 rfl ?_
      refine at_getR ok gf_8_116 dX8_isFor_11 h fun v11 h => ?_
      refine at_iloadn ok dX8_isFor_14 rfl ?_
      refine at_iald ok dX8_isFor_15 h fun v15 h => ?_
      refine at_iloadn ok dX8_isFor_16 rfl ?_
      refine bt_icmp_ne (tgt := 44) ok dX8_isFor_17 (by decide) h (fun hc h => ?_) (fun hc h => ?_)
      · exact at_weak (lw_s (lw_s (lw_n (lw_s lw_0)))) (by have z := hr_inr h; exact j20 () _ z)
      · refine at_iconst (v := 0) ok dX8_isFor_44 (by decide) ?_
        exact at_iret ok fn ⟨_, rfl, rfl⟩ dX8_isFor_45 (hr_inl h)
set_option maxRecDepth 100000 in
set_option maxHeartbeats 4000000 in
theorem s8_isHad (t : Option Nat) (a1 : Int32) (a2 : Int32) (σ : AH) (Q : Int32 → AH → Prop) (h : Hr (f8_isHad t a1 a2) σ Q) : Runs m8_isHad σ [va_rf t, .int (a1), .int (a2)] (fun v σ1 => ∃ a, v = some (.int a) ∧ Q a σ1) := by
  obtain ⟨a0, σ1, e, hQ⟩ := h
  have hm := n8_isHad t a1 a2 σ a0 σ1 e
  have h : Hr (f8_isHad t a1 a2) σ (fun a σ2 => a = a0 ∧ σ2 = σ1) := ⟨a0, σ1, e, rfl, rfl⟩
  refine ⟨_, σ1, hm, ⟨a0, rfl, hQ⟩, runs_of (by decide +kernel) (by simp [cat_rf, cat_i, cat_l]) (Nat.le_of_ble_eq_true rfl) hm fun X ok fn => ?_⟩
  clear e hQ hm
  unfold f8_isHad at h
  show AT X m8_isHad 0 [some (va_rf (t)), some (.int (a1)), some (.int (a2))] [] σ
  refine at_aloadn ok dX8_isHad_0 rfl ?_
  refine at_getR ok gf_8_71 dX8_isHad_1 h fun v1 h => ?_
  refine at_bipush (v := 10) ok dX8_isHad_4 (by decide) ?_
  refine at_iloadn ok dX8_isHad_6 rfl ?_
  refine at_imul ok dX8_isHad_7 ?_
  refine at_aloadn ok dX8_isHad_8 rfl ?_
  refine at_getR ok gf_8_80 dX8_isHad_9 h fun v9 h => ?_
  refine at_iloadn ok dX8_isHad_12 rfl ?_
  refine at_iald ok dX8_isHad_13 h fun v13 h => ?_
  refine at_iadd ok dX8_isHad_14 ?_
  refine at_bipush (v := 10) ok dX8_isHad_15 (by decide) ?_
  refine at_imul ok dX8_isHad_17 ?_
  refine at_aloadn ok dX8_isHad_18 rfl ?_
  refine at_getR ok gf_8_83 dX8_isHad_19 h fun v19 h => ?_
  refine at_iloadn ok dX8_isHad_22 rfl ?_
  refine at_iald ok dX8_isHad_23 h fun v23 h => ?_
  refine at_iadd ok dX8_isHad_24 ?_
  refine at_zald ok dX8_isHad_25 h fun v25 h => ?_
  refine bt_if_ne (tgt := 43) ok dX8_isHad_26 (by decide) h (fun hc h => ?_) (fun hc h => ?_)
  · refine at_aloadn ok dX8_isHad_29 rfl ?_
    refine at_iloadn ok dX8_isHad_30 rfl ?_
    refine at_iloadn ok dX8_isHad_31 rfl ?_
    refine at_iconst (v := 0) ok dX8_isHad_32 (by decide) ?_
    refine at_cVi (As := [.int (a1), .int (a2), .int (0)]) ok ct_8_isHad_228 dX8_isHad_33 (by simp [cat_rf, cat_i, cat_l]) (s8_find t a1 a2 0 _) h fun v33 σ h => ?_
    refine bt_if_le (tgt := 43) ok dX8_isHad_36 (by decide) h (fun hc h => ?_) (fun hc h => ?_)
    · refine at_iconst (v := 0) ok dX8_isHad_43 (by decide) ?_
      exact at_iret ok fn ⟨_, rfl, rfl⟩ dX8_isHad_44 h
    · refine at_iconst (v := 1) ok dX8_isHad_39 (by decide) ?_
      refine at_goto (tgt := 44) ok dX8_isHad_40 (by decide) ?_
      exact at_iret ok fn ⟨_, rfl, rfl⟩ dX8_isHad_44 h
  · refine at_iconst (v := 0) ok dX8_isHad_43 (by decide) ?_
    exact at_iret ok fn ⟨_, rfl, rfl⟩ dX8_isHad_44 h
set_option maxRecDepth 100000 in
set_option maxHeartbeats 4000000 in
theorem s8_ruleFor (t : Option Nat) (a1 : Int32) (σ : AH) (Q : Int32 → AH → Prop) (h : Hr (f8_ruleFor t a1) σ Q) : Runs m8_ruleFor σ [va_rf t, .int (a1)] (fun v σ1 => ∃ a, v = some (.int a) ∧ Q a σ1) := by
  obtain ⟨a0, σ1, e, hQ⟩ := h
  have hm := n8_ruleFor t a1 σ a0 σ1 e
  have h : Hr (f8_ruleFor t a1) σ (fun a σ2 => a = a0 ∧ σ2 = σ1) := ⟨a0, σ1, e, rfl, rfl⟩
  refine ⟨_, σ1, hm, ⟨a0, rfl, hQ⟩, runs_of (by decide +kernel) (by simp [cat_rf, cat_i, cat_l]) (Nat.le_of_ble_eq_true rfl) hm fun X ok fn => ?_⟩
  clear e hQ hm
  unfold f8_ruleFor at h
  show AT X m8_ruleFor 0 [some (va_rf (t)), some (.int (a1)), none, none, none] [] σ
  refine at_iconst (v := 0) ok dX8_ruleFor_0 (by decide) ?_
  refine at_istoren ok dX8_ruleFor_1 rfl (lc_int rfl) (by decide) ?_
  refine at_weak (L' := [some (va_rf (t)), some (.int (a1)), some (.int (0)), none, none]) (lw_s (lw_s (lw_s (lw_n (lw_n lw_0))))) ?_
  refine at_loopS (fun x2 σ => AT X m8_ruleFor 2 [some (va_rf (t)), some (.int (a1)), some (.int (x2)), none, none] [] σ) (fun y104 σ => AT X m8_ruleFor 104 [none, none, none, none, none] [] σ) h (fun y104 σ h => ?_) (fun kx rec ih x2 σ h => ?_)
  · refine at_iconst (v := (-1)) ok dX8_ruleFor_104 (by decide) ?_
    exact at_iret ok fn ⟨_, rfl, rfl⟩ dX8_ruleFor_105 h
  · unfold l8_ruleFor_2 at h
    refine at_iloadn ok dX8_ruleFor_2 rfl ?_
    refine at_aloadn ok dX8_ruleFor_3 rfl ?_
    refine at_getI ok gf_8_232 dX8_ruleFor_4 h fun v4 h => ?_
    refine bt_icmp_ge (tgt := 104) ok dX8_ruleFor_7 (by decide) h (fun hc h => ?_) (fun hc h => ?_)
    · exact at_weak (lw_n (lw_n (lw_n (lw_n (lw_n lw_0))))) (by have z := hr_inr h; exact kx () _ z)
    · refine at_aloadn ok dX8_ruleFor_10 rfl ?_
      refine at_getR ok gf_8_116 dX8_ruleFor_11 h fun v11 h => ?_
      refine at_iloadn ok dX8_ruleFor_14 rfl ?_
      refine at_iald ok dX8_ruleFor_15 h fun v15 h => ?_
      refine at_iconst (v := (-1)) ok dX8_ruleFor_16 (by decide) ?_
      refine at_join (fun y40 σ => AT X m8_ruleFor 40 [some (va_rf (t)), some (.int (a1)), some (.int (x2)), none, none] [.int (y40)] σ) h (fun y40 σ h => ?_) (fun h j40 => ?_)
      · refine at_istoren ok dX8_ruleFor_40 rfl (lc_int rfl) (by decide) ?_
        refine at_aloadn ok dX8_ruleFor_41 rfl ?_
        refine at_getR ok gf_8_119 dX8_ruleFor_42 h fun v42 h => ?_
        refine at_iloadn ok dX8_ruleFor_45 rfl ?_
        refine at_iald ok dX8_ruleFor_46 h fun v46 h => ?_
        refine at_iconst (v := (-1)) ok dX8_ruleFor_47 (by decide) ?_
        refine at_join (fun y71 σ => AT X m8_ruleFor 71 [some (va_rf (t)), some (.int (a1)), some (.int (x2)), some (.int (y40)), none] [.int (y71)] σ) h (fun y71 σ h => ?_) (fun h j71 => ?_)
        · refine at_istore ok dX8_ruleFor_71 (lc_int rfl) (by decide) ?_
          refine at_iloadn ok dX8_ruleFor_73 rfl ?_
          refine bt_if_eq (tgt := 98) ok dX8_ruleFor_74 (by decide) h (fun hc h => ?_) (fun hc h => ?_)
          · refine at_iinc (v := x2 + 1) ok dX8_ruleFor_98 rfl rfl (lc_int rfl) (by decide) ?_
            refine at_goto (tgt := 2) ok dX8_ruleFor_101 (by decide) ?_
            exact at_weak (lw_s (lw_s (lw_s (lw_n (lw_n lw_0))))) (ih (x2 + 1) _ h)
          · refine at_iload ok dX8_ruleFor_77 rfl ?_
            refine bt_if_eq (tgt := 98) ok dX8_ruleFor_79 (by decide) h (fun hc h => ?_) (fun hc h => ?_)
            · refine at_iinc (v := x2 + 1) ok dX8_ruleFor_98 rfl rfl (lc_int rfl) (by decide) ?_
              refine at_goto (tgt := 2) ok dX8_ruleFor_101 (by decide) ?_
              exact at_weak (lw_s (lw_s (lw_s (lw_n (lw_n lw_0))))) (ih (x2 + 1) _ h)
            · refine at_aloadn ok dX8_ruleFor_82 rfl ?_
              refine at_aloadn ok dX8_ruleFor_83 rfl ?_
              refine at_getR ok gf_8_122 dX8_ruleFor_84 h fun v84 h => ?_
              refine at_iloadn ok dX8_ruleFor_87 rfl ?_
              refine at_iald ok dX8_ruleFor_88 h fun v88 h => ?_
              refine at_iloadn ok dX8_ruleFor_89 rfl ?_
              refine at_cVi (As := [.int (v88), .int (a1)]) ok ct_8_ruleFor_246 dX8_ruleFor_90 (by simp [cat_rf, cat_i, cat_l]) (s8_isHad t v88 a1 _) h fun v90 σ h => ?_
              refine bt_if_eq (tgt := 98) ok dX8_ruleFor_93 (by decide) h (fun hc h => ?_) (fun hc h => ?_)
              · refine at_iinc (v := x2 + 1) ok dX8_ruleFor_98 rfl rfl (lc_int rfl) (by decide) ?_
                refine at_goto (tgt := 2) ok dX8_ruleFor_101 (by decide) ?_
                exact at_weak (lw_s (lw_s (lw_s (lw_n (lw_n lw_0))))) (ih (x2 + 1) _ h)
              · refine at_iloadn ok dX8_ruleFor_96 rfl ?_
                exact at_iret ok fn ⟨_, rfl, rfl⟩ dX8_ruleFor_97 (hr_inl h)
        · refine bt_icmp_eq (tgt := 66) ok dX8_ruleFor_48 (by decide) h (fun hc h => ?_) (fun hc h => ?_)
          · refine at_iconst (v := 1) ok dX8_ruleFor_66 (by decide) ?_
            refine at_goto (tgt := 71) ok dX8_ruleFor_67 (by decide) ?_
            exact at_weak (lw_s (lw_s (lw_s (lw_s (lw_n lw_0))))) (j71 1 _ (hr_rt.mp h))
          · refine at_aloadn ok dX8_ruleFor_51 rfl ?_
            refine at_getR ok gf_8_119 dX8_ruleFor_52 h fun v52 h => ?_
            refine at_iloadn ok dX8_ruleFor_55 rfl ?_
            refine at_iald ok dX8_ruleFor_56 h fun v56 h => ?_
            refine at_aloadn ok dX8_ruleFor_57 rfl ?_
            refine at_getR ok gf_8_86 dX8_ruleFor_58 h fun v58 h => ?_
            refine at_iloadn ok dX8_ruleFor_61 rfl ?_
            refine at_iald ok dX8_ruleFor_62 h fun v62 h => ?_
            refine bt_icmp_ne (tgt := 70) ok dX8_ruleFor_63 (by decide) h (fun hc h => ?_) (fun hc h => ?_)
            · refine at_iconst (v := 1) ok dX8_ruleFor_66 (by decide) ?_
              refine at_goto (tgt := 71) ok dX8_ruleFor_67 (by decide) ?_
              exact at_weak (lw_s (lw_s (lw_s (lw_s (lw_n lw_0))))) (j71 1 _ (hr_rt.mp h))
            · refine at_iconst (v := 0) ok dX8_ruleFor_70 (by decide) ?_
              exact at_weak (lw_s (lw_s (lw_s (lw_s (lw_n lw_0))))) (j71 0 _ (hr_rt.mp h))
      · refine bt_icmp_eq (tgt := 35) ok dX8_ruleFor_17 (by decide) h (fun hc h => ?_) (fun hc h => ?_)
        · refine at_iconst (v := 1) ok dX8_ruleFor_35 (by decide) ?_
          refine at_goto (tgt := 40) ok dX8_ruleFor_36 (by decide) ?_
          exact at_weak (lw_s (lw_s (lw_s (lw_n (lw_n lw_0))))) (j40 1 _ (hr_rt.mp h))
        · refine at_aloadn ok dX8_ruleFor_20 rfl ?_
          refine at_getR ok gf_8_116 dX8_ruleFor_21 h fun v21 h => ?_
          refine at_iloadn ok dX8_ruleFor_24 rfl ?_
          refine at_iald ok dX8_ruleFor_25 h fun v25 h => ?_
          refine at_aloadn ok dX8_ruleFor_26 rfl ?_
          refine at_getR ok gf_8_80 dX8_ruleFor_27 h fun v27 h => ?_
          refine at_iloadn ok dX8_ruleFor_30 rfl ?_
          refine at_iald ok dX8_ruleFor_31 h fun v31 h => ?_
          refine bt_icmp_ne (tgt := 39) ok dX8_ruleFor_32 (by decide) h (fun hc h => ?_) (fun hc h => ?_)
          · refine at_iconst (v := 1) ok dX8_ruleFor_35 (by decide) ?_
            refine at_goto (tgt := 40) ok dX8_ruleFor_36 (by decide) ?_
            exact at_weak (lw_s (lw_s (lw_s (lw_n (lw_n lw_0))))) (j40 1 _ (hr_rt.mp h))
          · refine at_iconst (v := 0) ok dX8_ruleFor_39 (by decide) ?_
            exact at_weak (lw_s (lw_s (lw_s (lw_n (lw_n lw_0))))) (j40 0 _ (hr_rt.mp h))
