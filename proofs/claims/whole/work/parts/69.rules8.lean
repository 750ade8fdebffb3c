/-! ===== the reference: the rule for a letter; rules put in and taken out ===== -/
def insR (rs : List Rl) (p : Nat) (r : Rl) : List Rl := rs.take p ++ r :: rs.drop p
def delR (rs : List Rl) (p : Nat) : List Rl := rs.take p ++ rs.drop (p + 1)
theorem insR_len {rs : List Rl} {p : Nat} {r : Rl} (h : p ≤ rs.length) : (insR rs p r).length = rs.length + 1 := by
  simp only [insR, List.length_append, List.length_cons, List.length_take, List.length_drop]
  omega
theorem delR_len {rs : List Rl} {p : Nat} (h : p < rs.length) : (delR rs p).length = rs.length - 1 := by
  simp only [delR, List.length_append, List.length_take, List.length_drop]
  omega
theorem insR_get {rs : List Rl} {p : Nat} {r : Rl} (h : p ≤ rs.length) (i : Nat) : (insR rs p r)[i]? = if i < p then rs[i]? else if i = p then some r else rs[i - 1]? := by
  unfold insR
  have hl : (rs.take p).length = p := by rw [List.length_take]; omega
  by_cases h1 : i < p
  · rw [if_pos h1, List.getElem?_append_left (by omega), List.getElem?_take_of_lt h1]
  · rw [if_neg h1, List.getElem?_append_right (by omega), hl]
    by_cases h2 : i = p
    · rw [if_pos h2, h2, Nat.sub_self]
      rfl
    · rw [if_neg h2]
      obtain ⟨d, hd⟩ : ∃ d, i - p = d + 1 := ⟨i - p - 1, by omega⟩
      rw [hd, List.getElem?_cons_succ, List.getElem?_drop]
      congr 1
      omega
theorem delR_get {rs : List Rl} {p : Nat} (h : p < rs.length) (i : Nat) : (delR rs p)[i]? = if i < p then rs[i]? else rs[i + 1]? := by
  unfold delR
  have hl : (rs.take p).length = p := by rw [List.length_take]; omega
  by_cases h1 : i < p
  · rw [if_pos h1, List.getElem?_append_left (by omega), List.getElem?_take_of_lt h1]
  · rw [if_neg h1, List.getElem?_append_right (by omega), hl, List.getElem?_drop]
    congr 1
    omega
theorem del_ins {rs : List Rl} {p : Nat} {r : Rl} (h : p ≤ rs.length) : delR (insR rs p r) p = rs := by
  apply List.ext_getElem?
  intro i
  rw [delR_get (by rw [insR_len h]; omega), insR_get h, insR_get h]
  by_cases h1 : i < p
  · rw [if_pos h1, if_pos h1]
  · rw [if_neg h1, if_neg (by omega), if_neg (by omega), Nat.add_sub_cancel]
theorem insR_mem {rs : List Rl} {p : Nat} {r x : Rl} (h : x ∈ insR rs p r) : x = r ∨ x ∈ rs := by
  unfold insR at h
  rw [List.mem_append, List.mem_cons] at h
  rcases h with h | h | h
  · exact Or.inr (List.mem_of_mem_take h)
  · exact Or.inl h
  · exact Or.inr (List.mem_of_mem_drop h)
theorem delR_mem {rs : List Rl} {p : Nat} {x : Rl} (h : x ∈ delR rs p) : x ∈ rs := by
  unfold delR at h
  rw [List.mem_append] at h
  rcases h with h | h
  · exact List.mem_of_mem_take h
  · exact List.mem_of_mem_drop h
def actO (o : Option Rl) : Nat := match o with
  | none => 0
  | some r => rA r
def othB (A : St) (rs : List Rl) (l : Nat) : Bool := decide (¬ actO (sel A rs l) = lAct (lAt A l))
def oths (A : St) (rs : List Rl) (n : Nat) : List Nat := (List.range n).filter (othB A rs)
theorem oths_succ (A : St) (rs : List Rl) (n : Nat) : oths A rs (n + 1) = oths A rs n ++ (if othB A rs n = true then [n] else []) := by
  unfold oths
  rw [List.range_succ, List.filter_append]
  congr 1
  cases h : othB A rs n <;> simp [h]
theorem oths_len (A : St) (rs : List Rl) (n : Nat) : (oths A rs n).length ≤ n := by
  have := List.length_filter_le (othB A rs) (List.range n)
  rwa [List.length_range] at this
theorem oths_pre (A : St) (rs : List Rl) (n : Nat) : ∀ d, ∃ S, oths A rs (n + d) = oths A rs n ++ S := by
  intro d
  induction d with
  | zero => exact ⟨[], by simp⟩
  | succ d ih =>
    obtain ⟨S, hS⟩ := ih
    exact ⟨S ++ _, by rw [← Nat.add_assoc, oths_succ, hS, List.append_assoc]⟩
def pR : Nat → Bool := fun f => decide (f = 2 ∨ (43 ≤ f ∧ f ≤ 46))
section MRULE
variable {X : MX} {V : Nat → Int32} {M : Nat → Nat → Int32} {σ : AH} {A : St} {F : List T3} {rs : List Rl}
theorem find_drop {α : Type} {L : List α} {p : α → Bool} {i : Nat} {x : α} (hx : L[i]? = some x) : (L.drop i).find? p = if p x = true then some x else (L.drop (i + 1)).find? p := by
  obtain ⟨hi, rfl⟩ := List.getElem?_eq_some_iff.mp hx
  rw [List.drop_eq_getElem_cons hi, List.find?_cons]
  cases p L[i] <;> simp
theorem h8_ruleFor {l : Nat} (h : MP X V M σ) (hD : MD A M) (hW : DlW A) (hl : l < (aLet A).length) (hR : RD V M (lB (lAt A l))) (hF : FI X V M F) (hlen : ∀ k, k < 8 → F.length + (rawF (aKept A) (aKind A k) (lB (lAt A l))).length < 2 ^ 19) (hr : RM M rs) (h2 : V 2 = nI rs.length) (hrl : rs.length ≤ 21) (hrw : ∀ r ∈ rs, RlW r) :
    Hr (f8_ruleFor (some 31) (nI l)) σ (fun r σ' => ((r = -1 ∧ sel A rs l = none) ∨ ∃ i rl, rs[i]? = some rl ∧ r = nI i ∧ sel A rs l = some rl) ∧ ∃ X' V' M', MP X' V' M' σ' ∧ XG X X' ∧ Kx pSF V M V' M' ∧ FI X' V' M' F ∧ RD V' M' (lB (lAt A l))) := by
  have h60 := hW.2.2.1
  unfold f8_ruleFor
  refine b_hr (P := fun y σ' => ((y = .inr () ∧ sel A rs l = none) ∨ ∃ i rl, rs[i]? = some rl ∧ y = .inl (nI i) ∧ sel A rs l = some rl) ∧ ∃ X' V' M', MP X' V' M' σ' ∧ XG X X' ∧ Kx pSF V M V' M' ∧ FI X' V' M' F ∧ RD V' M' (lB (lAt A l))) ?_ ?_
  · refine hr_loop (fun x σ1 => ∃ (i : Nat) (X1 : MX) (V1 : Nat → Int32) (M1 : Nat → Nat → Int32), x = nI i ∧ i ≤ rs.length ∧ MP X1 V1 M1 σ1 ∧ XG X X1 ∧ Kx pSF V M V1 M1 ∧ FI X1 V1 M1 F ∧ RD V1 M1 (lB (lAt A l)) ∧ sel A rs l = (rs.drop i).find? (selB A l)) (fun x => 1000 - x.toNatClampNeg) ⟨0, X, V, M, rfl, Nat.zero_le _, h, XG.rf, Kx.rf, hF, hR, rfl⟩ (by show 1000 - _ < _; omega) ?_
    rintro rec x σ1 ⟨i, X1, V1, M1, rfl, hi, h1, hG, hK, hF1, hR1, hS⟩ ih
    have hD1 := hD.kp hK
    have hr1 := hr.kp hK
    unfold l8_ruleFor_2
    refine (m_getI h1 (by decide) rfl).mpr ?_
    rw [hK.1 2 rfl, h2]
    refine b_ite (fun c => ?_) (fun c => ?_)
    · rw [nI_leI (by omega) (by omega)] at c
      rw [List.drop_eq_nil_of_le (by omega)] at hS
      exact hr_rt.mpr ⟨Or.inl ⟨rfl, hS⟩, X1, V1, M1, h1, hG, hK, hF1, hR1⟩
    · rw [nI_leI (by omega) (by omega)] at c
      obtain ⟨rl, hrl⟩ : ∃ r, rs[i]? = some r := ⟨_, List.getElem?_eq_getElem (by omega)⟩
      have hri := hr1 i rl hrl
      have hrlw := hrw rl (List.mem_of_getElem? hrl)
      rw [find_drop hrl] at hS
      have al := LH.at hD1 hl
      have hm : 1000 - (nI i + 1).toNatClampNeg < 1000 - (nI i).toNatClampNeg := by rw [nI_1, nI_clamp (by omega), nI_clamp (by omega)]; omega
      have skip : selB A l rl = false → Hr (rec (nI i + 1)) σ1 (fun y σ' => ((y = .inr () ∧ sel A rs l = none) ∨ ∃ i rl, rs[i]? = some rl ∧ y = .inl (nI i) ∧ sel A rs l = some rl) ∧ ∃ X' V' M', MP X' V' M' σ' ∧ XG X X' ∧ Kx pSF V M V' M' ∧ FI X' V' M' F ∧ RD V' M' (lB (lAt A l))) := by
        intro hq
        refine ih _ _ ⟨i + 1, X1, V1, M1, nI_1 i, by omega, h1, hG, hK, hF1, hR1, ?_⟩ hm
        rw [hS, hq, if_neg (by decide)]
      refine (m_getR h1 rfl).mpr ?_
      refine (m_ld (n := 21) h1 rfl rfl rfl rfl (by omega)).mpr ?_
      rw [hri.1]
      refine b_hr (P := fun y σ' => σ' = σ1 ∧ y = bI (decide (rS rl = -1) || decide (rS rl = nI (lS (lAt A l))))) ?_ ?_
      · refine b_ite (fun c1 => ?_) (fun c1 => ?_)
        · exact hr_rt.mpr ⟨rfl, by rw [decide_eq_true c1]; rfl⟩
        · refine (m_getR h1 rfl).mpr ?_
          refine (m_ld (n := 21) h1 rfl rfl rfl rfl (by omega)).mpr ?_
          refine (m_getR h1 rfl).mpr ?_
          refine (m_ld (n := 60) h1 rfl rfl rfl rfl (by omega)).mpr ?_
          rw [hri.1, al.2.2.1, decide_eq_false c1, Bool.false_or]
          refine b_ite (fun c2 => ?_) (fun c2 => ?_)
          · exact hr_rt.mpr ⟨rfl, by rw [decide_eq_true c2]; rfl⟩
          · exact hr_rt.mpr ⟨rfl, by rw [decide_eq_false c2]; rfl⟩
      · rintro y1 σ2 ⟨rfl, rfl⟩
        refine (m_getR h1 rfl).mpr ?_
        refine (m_ld (n := 21) h1 rfl rfl rfl rfl (by omega)).mpr ?_
        rw [hri.2.1]
        refine b_hr (P := fun y σ' => σ' = σ2 ∧ y = bI (decide (rW rl = -1) || decide (rW rl = nI (lW (lAt A l))))) ?_ ?_
        · refine b_ite (fun c1 => ?_) (fun c1 => ?_)
          · exact hr_rt.mpr ⟨rfl, by rw [decide_eq_true c1]; rfl⟩
          · refine (m_getR h1 rfl).mpr ?_
            refine (m_ld (n := 21) h1 rfl rfl rfl rfl (by omega)).mpr ?_
            refine (m_getR h1 rfl).mpr ?_
            refine (m_ld (n := 60) h1 rfl rfl rfl rfl (by omega)).mpr ?_
            rw [hri.2.1, al.2.2.2.2.1, decide_eq_false c1, Bool.false_or]
            refine b_ite (fun c2 => ?_) (fun c2 => ?_)
            · exact hr_rt.mpr ⟨rfl, by rw [decide_eq_true c2]; rfl⟩
            · exact hr_rt.mpr ⟨rfl, by rw [decide_eq_false c2]; rfl⟩
        · rintro y2 σ3 ⟨rfl, rfl⟩
          refine b_ite (fun c1 => ?_) (fun c1 => ?_)
          · rw [bI_0] at c1
            exact skip (by unfold selB forB; rw [c1]; rfl)
          · rw [bI_0, Bool.not_eq_false] at c1
            refine b_ite (fun c2 => ?_) (fun c2 => ?_)
            · rw [bI_0] at c2
              exact skip (by unfold selB forB; rw [c1, c2]; rfl)
            · rw [bI_0, Bool.not_eq_false] at c2
              refine (m_getR h1 rfl).mpr ?_
              refine (m_ld (n := 21) h1 rfl rfl rfl rfl (by omega)).mpr ?_
              rw [hri.2.2.1]
              refine (m_obj h1).mpr ?_
              refine b_hr (h8_isHad h1 hD1 hW hl hrlw.1 hR1 hF1 (hlen _ hrlw.1)) ?_
              rintro y3 σ4 ⟨rfl, X4, V4, M4, h4, hG4, hK4, hF4, hR4⟩
              refine b_ite (fun c3 => ?_) (fun c3 => ?_)
              · rw [bI_0] at c3
                refine ih _ _ ⟨i + 1, X4, V4, M4, nI_1 i, by omega, h4, hG.tr hG4, hK.tr hK4, hF4, hR4, ?_⟩ hm
                rw [hS, show selB A l rl = false by unfold selB; rw [c3, Bool.and_false], if_neg (by decide)]
              · rw [bI_0, Bool.not_eq_false] at c3
                refine hr_rt.mpr ⟨Or.inr ⟨i, rl, hrl, rfl, ?_⟩, X4, V4, M4, h4, hG.tr hG4, hK.tr hK4, hF4, hR4⟩
                rw [hS, show selB A l rl = true by unfold selB forB; rw [c1, c2, c3]; rfl, if_pos rfl]
  · rintro y σ1 ⟨⟨rfl, hq⟩ | ⟨i, rl, h1, rfl, hq⟩, hX⟩
    · rw [Sum.elim_inr]
      exact hr_rt.mpr ⟨Or.inl ⟨rfl, hq⟩, hX⟩
    · rw [Sum.elim_inl]
      exact hr_rt.mpr ⟨Or.inr ⟨i, rl, h1, rfl, hq⟩, hX⟩
theorem m1_nI {i : Nat} (h : i < 2 ^ 31) : ¬ nI i = -1 := fun e => m1_ne h e.symm
theorem h8_isOther {l : Nat} (h : MP X V M σ) (hD : MD A M) (hW : DlW A) (hl : l < (aLet A).length) (hF : FI X V M F) (hlen : ∀ k, k < 8 → F.length + (rawF (aKept A) (aKind A k) (lB (lAt A l))).length < 2 ^ 19) (hr : RM M rs) (h2 : V 2 = nI rs.length) (hrl : rs.length ≤ 21) (hrw : ∀ r ∈ rs, RlW r) (h34 : M 34 l = nI (lAct (lAt A l))) (ha4 : lAct (lAt A l) ≤ 4) :
    Hr (f8_isOther (some 31) (nI l)) σ (fun r σ' => r = bI (othB A rs l) ∧ ∃ X' V' M', MP X' V' M' σ' ∧ XG X X' ∧ Kx pSF V M V' M' ∧ FI X' V' M' F) := by
  have h60 := hW.2.2.1
  unfold f8_isOther
  refine (m_obj h).mpr ?_
  refine b_hr (h8_readLetter h hD hW hl) ?_
  rintro _ σ1 ⟨V1, M1, h1, hK1, hR1⟩
  have hK1' := (hK1.mono scr_Q).mono pQ_SF
  refine (m_obj h1).mpr ?_
  refine b_hr (h8_ruleFor (rs := rs) h1 (hD.kp hK1') hW hl hR1 (hF.kS (hK1.mono scr_Q)) hlen (hr.kp hK1') (by rw [hK1.1 2 rfl]; exact h2) hrl hrw) ?_
  rintro r σ2 ⟨hres, X2, V2, M2, h2', hG2, hK2, hF2, hR2⟩
  have hK := hK1'.tr hK2
  refine b_hr (P := fun y σ' => σ' = σ2 ∧ y = nI (actO (sel A rs l)) ∧ actO (sel A rs l) ≤ 4) ?_ ?_
  · rcases hres with ⟨rfl, hq⟩ | ⟨i, rl, hi, rfl, hq⟩
    · rw [if_pos rfl, hq]
      exact hr_rt.mpr ⟨rfl, rfl, Nat.zero_le _⟩
    · have hil := (List.getElem?_eq_some_iff.mp hi).1
      rw [if_neg (m1_nI (by omega))]
      refine (m_getR h2' rfl).mpr ?_
      refine (m_ld (n := 21) h2' rfl rfl rfl rfl (by omega)).mpr ?_
      rw [((hr.kp hK) i rl hi).2.2.2, hq]
      exact hr_rt.mpr ⟨rfl, rfl, (hrw rl (List.mem_of_getElem? hi)).2.1⟩
  · rintro y σ3 ⟨rfl, rfl, hle⟩
    refine (m_getR h2' rfl).mpr ?_
    refine (m_ld (n := 60) h2' rfl rfl rfl rfl (by omega)).mpr ?_
    rw [hK.2 34 rfl, h34]
    unfold othB
    refine b_ite (fun c => ?_) (fun c => ?_)
    · rw [nI_eq (by omega) (by omega)] at c
      exact hr_rt.mpr ⟨by rw [decide_eq_false (fun q => q c)]; rfl, X2, V2, M2, h2', hG2, hK, hF2⟩
    · rw [nI_eq (by omega) (by omega)] at c
      exact hr_rt.mpr ⟨by rw [decide_eq_true c]; rfl, X2, V2, M2, h2', hG2, hK, hF2⟩
theorem h8_triedAt {j : Nat} (h : MP X V M σ) (hD : MD A M) (hW : DlW A) (hF : FI X V M F) (hlen : ∀ l k, k < 8 → F.length + (rawF (aKept A) (aKind A k) (lB (lAt A l))).length < 2 ^ 19) (hr : RM M rs) (h2 : V 2 = nI rs.length) (hrl : rs.length ≤ 21) (hrw : ∀ r ∈ rs, RlW r) (h34 : ∀ l, l < (aLet A).length → M 34 l = nI (lAct (lAt A l)) ∧ lAct (lAt A l) ≤ 4) (h1v : V 1 = nI (aLet A).length) (hj : j < 2 ^ 31) :
    Hr (f8_triedAt (some 31) (nI j)) σ (fun r σ' => (r = match (oths A rs (aLet A).length)[j]? with
      | some l => nI l
      | none => -1 - nI (oths A rs (aLet A).length).length) ∧ ∃ X' V' M', MP X' V' M' σ' ∧ XG X X' ∧ Kx pSF V M V' M' ∧ FI X' V' M' F) := by
  have h60 := hW.2.2.1
  unfold f8_triedAt
  refine b_hr (P := fun y σ' => ((∃ l, (oths A rs (aLet A).length)[j]? = some l ∧ y = .inl (nI l)) ∨ ((oths A rs (aLet A).length)[j]? = none ∧ y = .inr (nI (oths A rs (aLet A).length).length))) ∧ ∃ X' V' M', MP X' V' M' σ' ∧ XG X X' ∧ Kx pSF V M V' M' ∧ FI X' V' M' F) ?_ ?_
  · refine hr_loop (fun x σ1 => ∃ (l : Nat) (X1 : MX) (V1 : Nat → Int32) (M1 : Nat → Nat → Int32), x = (nI (oths A rs l).length, nI l) ∧ l ≤ (aLet A).length ∧ (oths A rs l).length ≤ j ∧ MP X1 V1 M1 σ1 ∧ XG X X1 ∧ Kx pSF V M V1 M1 ∧ FI X1 V1 M1 F) (fun x => 1000 - x.2.toNatClampNeg) ⟨0, X, V, M, rfl, Nat.zero_le _, Nat.zero_le _, h, XG.rf, Kx.rf, hF⟩ (by show 1000 - _ < _; omega) ?_
    rintro rec x σ1 ⟨l, X1, V1, M1, rfl, hl, hlj, h1, hG, hK, hF1⟩ ih
    have hol := oths_len A rs l
    unfold l8_triedAt_4
    dsimp only
    refine (m_getI h1 (by decide) rfl).mpr ?_
    rw [hK.1 1 rfl, h1v]
    refine b_ite (fun c => ?_) (fun c => ?_)
    · rw [nI_leI (by omega) (by omega)] at c
      have e : l = (aLet A).length := by omega
      rw [← e]
      refine hr_rt.mpr ⟨Or.inr ⟨List.getElem?_eq_none hlj, rfl⟩, X1, V1, M1, h1, hG, hK, hF1⟩
    · rw [nI_leI (by omega) (by omega)] at c
      have hm : 1000 - (nI l + 1).toNatClampNeg < 1000 - (nI l).toNatClampNeg := by rw [nI_1, nI_clamp (by omega), nI_clamp (by omega)]; omega
      refine (m_obj h1).mpr ?_
      have h34l := h34 l (by omega)
      refine b_hr (h8_isOther (rs := rs) h1 (hD.kp hK) hW (by omega) hF1 (hlen l) (hr.kp hK) (by rw [hK.1 2 rfl]; exact h2) hrl hrw (by rw [hK.2 34 rfl]; exact h34l.1) h34l.2) ?_
      rintro r σ2 ⟨rfl, X2, V2, M2, h2', hG2, hK2, hF2⟩
      refine b_ite (fun c2 => ?_) (fun c2 => ?_)
      · rw [bI_0] at c2
        have e : oths A rs (l + 1) = oths A rs l := by rw [oths_succ, c2]; simp
        refine ih _ _ ⟨l + 1, X2, V2, M2, by rw [e, nI_1], by omega, by rw [e]; exact hlj, h2', hG.tr hG2, hK.tr hK2, hF2⟩ hm
      · rw [bI_0, Bool.not_eq_false] at c2
        have e : oths A rs (l + 1) = oths A rs l ++ [l] := by rw [oths_succ, c2]; simp
        refine b_ite (fun c3 => ?_) (fun c3 => ?_)
        · rw [nI_eq (by omega) (by omega)] at c3
          refine hr_rt.mpr ⟨Or.inl ⟨l, ?_, rfl⟩, X2, V2, M2, h2', hG.tr hG2, hK.tr hK2, hF2⟩
          obtain ⟨S, hS⟩ := oths_pre A rs (l + 1) ((aLet A).length - (l + 1))
          rw [show l + 1 + ((aLet A).length - (l + 1)) = (aLet A).length by omega] at hS
          rw [hS, e, ← c3, List.append_assoc, List.getElem?_append_right (Nat.le_refl _), Nat.sub_self]
          rfl
        · rw [nI_eq (by omega) (by omega)] at c3
          refine ih _ _ ⟨l + 1, X2, V2, M2, ?_, by omega, ?_, h2', hG.tr hG2, hK.tr hK2, hF2⟩ hm
          · rw [e, nI_1, nI_1, List.length_append]; rfl
          · rw [e, List.length_append]
            simp only [List.length_cons, List.length_nil]
            omega
  · rintro y σ1 ⟨⟨l, hq, rfl⟩ | ⟨hq, rfl⟩, hX⟩
    · rw [Sum.elim_inl, hq]
      exact hr_rt.mpr ⟨rfl, hX⟩
    · rw [Sum.elim_inr, hq]
      exact hr_rt.mpr ⟨rfl, hX⟩
theorem up4 {M : Nat → Nat → Int32} {k : Nat} {a b c d : Int32} {f : Nat} (h1 : 43 ≤ f) (h2 : f ≤ 46) : upm (upm (upm (upm M 43 k a) 44 k b) 45 k c) 46 k d f = upd (M f) k (if f = 43 then a else if f = 44 then b else if f = 45 then c else d) := by
  obtain rfl | rfl | rfl | rfl : f = 43 ∨ f = 44 ∨ f = 45 ∨ f = 46 := by omega
  all_goals rfl
theorem h8_insert {p : Nat} {r : Rl} (h : MP X V M σ) (hr : RM M rs) (h2 : V 2 = nI rs.length) (hrl : rs.length ≤ 20) (hp : p ≤ rs.length) :
    Hr (f8_insert (some 31) (nI p) (rS r) (rW r) (nI (rK r)) (nI (rA r))) σ (fun _ σ' => ∃ V' M', MP X V' M' σ' ∧ Kx pR V M V' M' ∧ RM M' (insR rs p r) ∧ V' 2 = nI (rs.length + 1)) := by
  unfold f8_insert
  refine (m_getI h (by decide) rfl).mpr ?_
  rw [h2]
  refine b_hr (P := fun _ σ' => ∃ M', MP X V M' σ' ∧ Kx pR V M V M' ∧ ∀ f, 43 ≤ f → f ≤ 46 → ∀ i, i ≤ rs.length → (i ≤ p → M' f i = M f i) ∧ (p < i → M' f i = M f (i - 1))) ?_ ?_
  · refine hr_loop (fun x σ1 => ∃ (k : Nat) (M1 : Nat → Nat → Int32), x = nI k ∧ p ≤ k ∧ k ≤ rs.length ∧ MP X V M1 σ1 ∧ Kx pR V M V M1 ∧ ∀ f, 43 ≤ f → f ≤ 46 → ∀ i, i ≤ rs.length → (i ≤ k → M1 f i = M f i) ∧ (k < i → M1 f i = M f (i - 1))) (fun x => x.toNatClampNeg) ⟨rs.length, M, rfl, hp, Nat.le_refl _, h, Kx.rf, fun f _ _ i hi => ⟨fun _ => rfl, fun q => by omega⟩⟩ (by rw [nI_clamp (by omega)]; omega) ?_
    rintro rec x σ1 ⟨k, M1, rfl, hpk, hk, h1, hK, hM⟩ ih
    unfold l8_insert_6
    refine b_ite (fun c => ?_) (fun c => ?_)
    · rw [nI_leI (by omega) (by omega)] at c
      have : k = p := by omega
      subst this
      exact hr_rt.mpr ⟨M1, h1, hK, hM⟩
    · rw [nI_leI (by omega) (by omega)] at c
      have em : nI k - 1 = nI (k - 1) := by rw [show (1 : Int32) = nI 1 from rfl, nI_subN (by omega)]
      have em2 : nI k + (-1) = nI (k - 1) := by
        obtain ⟨d, rfl⟩ : ∃ d, k = d + 1 := ⟨k - 1, by omega⟩
        rw [nI_m1, Nat.add_sub_cancel]
      rw [em, em2]
      refine (m_getR h1 rfl).mpr ?_
      refine (m_getR h1 rfl).mpr ?_
      refine (m_ld (n := 21) h1 rfl rfl rfl rfl (by omega)).mpr ?_
      refine m_st (n := 21) h1 rfl rfl rfl rfl (by omega) fun σ2 k2 => ?_
      refine (m_getR k2 rfl).mpr ?_
      refine (m_getR k2 rfl).mpr ?_
      refine (m_ld (n := 21) k2 rfl rfl rfl rfl (by omega)).mpr ?_
      refine m_st (n := 21) k2 rfl rfl rfl rfl (by omega) fun σ3 k3 => ?_
      refine (m_getR k3 rfl).mpr ?_
      refine (m_getR k3 rfl).mpr ?_
      refine (m_ld (n := 21) k3 rfl rfl rfl rfl (by omega)).mpr ?_
      refine m_st (n := 21) k3 rfl rfl rfl rfl (by omega) fun σ4 k4 => ?_
      refine (m_getR k4 rfl).mpr ?_
      refine (m_getR k4 rfl).mpr ?_
      refine (m_ld (n := 21) k4 rfl rfl rfl rfl (by omega)).mpr ?_
      refine m_st (n := 21) k4 rfl rfl rfl rfl (by omega) fun σ5 k5 => ?_
      refine ih _ _ ⟨k - 1, _, rfl, by omega, by omega, k5, (((hK.m rfl).m rfl).m rfl).m rfl, fun f hf1 hf2 i hi => ?_⟩ ?_
      · rw [up4 hf1 hf2]
        have hv : (if f = 43 then M1 43 (k - 1) else if f = 44 then M1 44 (k - 1) else if f = 45 then M1 45 (k - 1) else M1 46 (k - 1)) = M1 f (k - 1) := by
          obtain rfl | rfl | rfl | rfl : f = 43 ∨ f = 44 ∨ f = 45 ∨ f = 46 := by omega
          all_goals rfl
        have hv2 := (hM f hf1 hf2 (k - 1) (by omega)).1 (by omega)
        have hmi := hM f hf1 hf2 i hi
        show (i ≤ k - 1 → upd (M1 f) k (if f = 43 then M1 43 (k - 1) else if f = 44 then M1 44 (k - 1) else if f = 45 then M1 45 (k - 1) else M1 46 (k - 1)) i = M f i) ∧ (k - 1 < i → upd (M1 f) k (if f = 43 then M1 43 (k - 1) else if f = 44 then M1 44 (k - 1) else if f = 45 then M1 45 (k - 1) else M1 46 (k - 1)) i = M f (i - 1))
        rw [hv, hv2]
        constructor
        · intro q
          simp only [upd, if_neg (show i ≠ k by omega)]
          exact hmi.1 (by omega)
        · intro q
          by_cases e : i = k
          · simp [upd, e]
          · simp only [upd, if_neg e]
            exact hmi.2 (by omega)
      · rw [nI_clamp (by omega), nI_clamp (by omega)]; omega
  · rintro _ σ1 ⟨M1, h1, hK, hM⟩
    refine (m_getR h1 rfl).mpr ?_
    refine m_st (n := 21) h1 rfl rfl rfl rfl (by omega) fun σ2 k2 => ?_
    refine (m_getR k2 rfl).mpr ?_
    refine m_st (n := 21) k2 rfl rfl rfl rfl (by omega) fun σ3 k3 => ?_
    refine (m_getR k3 rfl).mpr ?_
    refine m_st (n := 21) k3 rfl rfl rfl rfl (by omega) fun σ4 k4 => ?_
    refine (m_getR k4 rfl).mpr ?_
    refine m_st (n := 21) k4 rfl rfl rfl rfl (by omega) fun σ5 k5 => ?_
    refine (m_getI k5 (by decide) rfl).mpr ?_
    refine m_putI k5 (by decide) rfl fun σ6 k6 => ?_
    refine hr_rt.mpr ⟨_, _, k6, ((((hK.m rfl).m rfl).m rfl).m rfl).v rfl, fun i x hx => ?_, ?_⟩
    · have hil := (List.getElem?_eq_some_iff.mp hx).1
      rw [insR_len hp] at hil
      rw [insR_get hp] at hx
      rw [up4 (by omega) (by omega), up4 (by omega) (by omega), up4 (by omega) (by omega), up4 (by omega) (by omega)]
      by_cases q1 : i < p
      · rw [if_pos q1] at hx
        have := hr i x hx
        simp only [upd, if_neg (show i ≠ p by omega)]
        rw [(hM 43 (by omega) (by omega) i (by omega)).1 (by omega), (hM 44 (by omega) (by omega) i (by omega)).1 (by omega), (hM 45 (by omega) (by omega) i (by omega)).1 (by omega), (hM 46 (by omega) (by omega) i (by omega)).1 (by omega)]
        exact this
      · rw [if_neg q1] at hx
        by_cases q2 : i = p
        · rw [if_pos q2] at hx
          cases hx
          simp [upd, q2]
        · rw [if_neg q2] at hx
          have := hr (i - 1) x hx
          simp only [upd, if_neg q2]
          rw [(hM 43 (by omega) (by omega) i (by omega)).2 (by omega), (hM 44 (by omega) (by omega) i (by omega)).2 (by omega), (hM 45 (by omega) (by omega) i (by omega)).2 (by omega), (hM 46 (by omega) (by omega) i (by omega)).2 (by omega)]
          exact this
    · show upd V 2 (V 2 + 1) 2 = _
      rw [h2, nI_1]
      simp [upd]
theorem h8_remove {p : Nat} (h : MP X V M σ) (hr : RM M rs) (h2 : V 2 = nI rs.length) (hrl : rs.length ≤ 21) (hp : p < rs.length) :
    Hr (f8_remove (some 31) (nI p)) σ (fun _ σ' => ∃ V' M', MP X V' M' σ' ∧ Kx pR V M V' M' ∧ RM M' (delR rs p) ∧ V' 2 = nI (rs.length - 1)) := by
  unfold f8_remove
  refine (m_getI h (by decide) rfl).mpr ?_
  rw [h2, show (1 : Int32) = nI 1 from rfl, nI_subN (by omega)]
  refine m_putI h (by decide) rfl fun σ0 h0 => ?_
  refine b_hr (P := fun _ σ' => ∃ M', MP X (upd V 2 (nI (rs.length - 1))) M' σ' ∧ Kx pR V M (upd V 2 (nI (rs.length - 1))) M' ∧ ∀ f, 43 ≤ f → f ≤ 46 → ∀ i, i < rs.length - 1 → (i < p → M' f i = M f i) ∧ (p ≤ i → M' f i = M f (i + 1))) ?_ ?_
  · refine hr_loop (fun x σ1 => ∃ (k : Nat) (M1 : Nat → Nat → Int32), x = nI k ∧ p ≤ k ∧ k ≤ rs.length - 1 ∧ MP X (upd V 2 (nI (rs.length - 1))) M1 σ1 ∧ Kx pR V M (upd V 2 (nI (rs.length - 1))) M1 ∧ ∀ f, 43 ≤ f → f ≤ 46 → ∀ i, i ≤ rs.length - 1 → (i < p → M1 f i = M f i) ∧ (p ≤ i → i < k → M1 f i = M f (i + 1)) ∧ (k ≤ i → M1 f i = M f i)) (fun x => 100 - x.toNatClampNeg) ⟨p, M, rfl, Nat.le_refl _, by omega, h0, Kx.rf.v rfl, fun f _ _ i hi => ⟨fun _ => rfl, fun q1 q2 => by omega, fun _ => rfl⟩⟩ (by show 100 - _ < _; omega) ?_
    rintro rec x σ1 ⟨k, M1, rfl, hpk, hk, h1, hK, hM⟩ ih
    unfold l8_remove_12
    refine (m_getI h1 (by decide) rfl).mpr ?_
    rw [show upd V 2 (nI (rs.length - 1)) 2 = nI (rs.length - 1) by simp [upd], nI_1]
    refine b_ite (fun c => ?_) (fun c => ?_)
    · rw [nI_leI (by omega) (by omega)] at c
      exact hr_rt.mpr ⟨M1, h1, hK, fun f hf1 hf2 i hi => ⟨(hM f hf1 hf2 i (by omega)).1, fun q => (hM f hf1 hf2 i (by omega)).2.1 q (by omega)⟩⟩
    · rw [nI_leI (by omega) (by omega)] at c
      refine (m_getR h1 rfl).mpr ?_
      refine (m_getR h1 rfl).mpr ?_
      refine (m_ld (n := 21) h1 rfl rfl rfl rfl (by omega)).mpr ?_
      refine m_st (n := 21) h1 rfl rfl rfl rfl (by omega) fun σ2 k2 => ?_
      refine (m_getR k2 rfl).mpr ?_
      refine (m_getR k2 rfl).mpr ?_
      refine (m_ld (n := 21) k2 rfl rfl rfl rfl (by omega)).mpr ?_
      refine m_st (n := 21) k2 rfl rfl rfl rfl (by omega) fun σ3 k3 => ?_
      refine (m_getR k3 rfl).mpr ?_
      refine (m_getR k3 rfl).mpr ?_
      refine (m_ld (n := 21) k3 rfl rfl rfl rfl (by omega)).mpr ?_
      refine m_st (n := 21) k3 rfl rfl rfl rfl (by omega) fun σ4 k4 => ?_
      refine (m_getR k4 rfl).mpr ?_
      refine (m_getR k4 rfl).mpr ?_
      refine (m_ld (n := 21) k4 rfl rfl rfl rfl (by omega)).mpr ?_
      refine m_st (n := 21) k4 rfl rfl rfl rfl (by omega) fun σ5 k5 => ?_
      refine ih _ _ ⟨k + 1, _, rfl, by omega, by omega, k5, (((hK.m rfl).m rfl).m rfl).m rfl, fun f hf1 hf2 i hi => ?_⟩ ?_
      · rw [up4 hf1 hf2]
        have hv : (if f = 43 then M1 43 (k + 1) else if f = 44 then M1 44 (k + 1) else if f = 45 then M1 45 (k + 1) else M1 46 (k + 1)) = M1 f (k + 1) := by
          obtain rfl | rfl | rfl | rfl : f = 43 ∨ f = 44 ∨ f = 45 ∨ f = 46 := by omega
          all_goals rfl
        have hv2 := (hM f hf1 hf2 (k + 1) (by omega)).2.2 (by omega)
        have hmi := hM f hf1 hf2 i hi
        show (i < p → upd (M1 f) k (if f = 43 then M1 43 (k + 1) else if f = 44 then M1 44 (k + 1) else if f = 45 then M1 45 (k + 1) else M1 46 (k + 1)) i = M f i) ∧ (p ≤ i → i < k + 1 → upd (M1 f) k (if f = 43 then M1 43 (k + 1) else if f = 44 then M1 44 (k + 1) else if f = 45 then M1 45 (k + 1) else M1 46 (k + 1)) i = M f (i + 1)) ∧ (k + 1 ≤ i → upd (M1 f) k (if f = 43 then M1 43 (k + 1) else if f = 44 then M1 44 (k + 1) else if f = 45 then M1 45 (k + 1) else M1 46 (k + 1)) i = M f i)
        rw [hv, hv2]
        refine ⟨fun q => ?_, fun q1 q2 => ?_, fun q => ?_⟩
        · simp only [upd, if_neg (show i ≠ k by omega)]
          exact hmi.1 q
        · by_cases e : i = k
          · simp [upd, e]
          · simp only [upd, if_neg e]
            exact hmi.2.1 q1 (by omega)
        · simp only [upd, if_neg (show i ≠ k by omega)]
          exact hmi.2.2 (by omega)
      · rw [nI_clamp (by omega), nI_clamp (by omega)]; omega
  · rintro _ σ1 ⟨M1, h1, hK, hM⟩
    refine hr_rt.mpr ⟨_, M1, h1, hK, fun i x hx => ?_, by simp [upd]⟩
    have hil := (List.getElem?_eq_some_iff.mp hx).1
    rw [delR_len hp] at hil
    rw [delR_get hp] at hx
    by_cases q1 : i < p
    · rw [if_pos q1] at hx
      rw [(hM 43 (by omega) (by omega) i hil).1 q1, (hM 44 (by omega) (by omega) i hil).1 q1, (hM 45 (by omega) (by omega) i hil).1 q1, (hM 46 (by omega) (by omega) i hil).1 q1]
      exact hr i x hx
    · rw [if_neg q1] at hx
      rw [(hM 43 (by omega) (by omega) i hil).2 (by omega), (hM 44 (by omega) (by omega) i hil).2 (by omega), (hM 45 (by omega) (by omega) i hil).2 (by omega), (hM 46 (by omega) (by omega) i hil).2 (by omega)]
      exact hr (i + 1) x hx
end MRULE
