/-! ===== the class's calls: trial, tried ===== -/
section CLSJ
variable {g : Tg} {c : Nat → Nat} {σ : AH} {A : St} {rs : List Rl}
theorem h5_copyWith {p a : Nat} {r : Rl} (h : RRI g σ 5 6 rs) (ht : cTag g σ) (hT : cTr σ) (hl : rs.length ≤ 20) (hp : p ≤ rs.length) (ha : RlI g σ a r) : Hr (f5_copyWith (some 21) (some 5) (nI p) (some a)) σ (fun _ σ' => RRI g σ' 21 22 (insR rs p r) ∧ Sb σ σ' 21 22) := by
  have g21 := ht.2 21 (by decide)
  have g22 := ht.2 22 (by decide)
  obtain ⟨ft, n, t1, t2⟩ := hT
  unfold f5_copyWith
  refine b_putI t1 (by simp) fun σ1 u1 => ?_
  have hS1 : Sb σ σ1 21 22 := sbd_q u1
  have fr : ∀ σ', Sb σ σ' 21 22 → RRI g σ' 5 6 rs := fun σ' hS => h.fr (sb_ft hS g21 g22 (by decide)) (hS.1 5 (by decide) (by decide)) (hS.1 6 (by decide) (by decide))
  refine b_hr (P := fun _ σ' => RRI g σ' 21 22 rs ∧ Sb σ σ' 21 22) ?_ ?_
  · refine hr_loop (fun z σ2 => ∃ i, z = nI i ∧ i ≤ rs.length ∧ RRI g σ2 21 22 (rs.take i) ∧ Sb σ σ2 21 22) (fun z => 100 - z.toNatClampNeg) ⟨0, rfl, Nat.zero_le _, ⟨ft, u1.1, u1.ne t2 (by decide), by simp, fun i r hr => by simp at hr⟩, hS1⟩ (by show 100 - _ < _; omega) ?_
    rintro rec z σ2 ⟨i, rfl, hi, hR2, hS2⟩ ih
    obtain ⟨f5, q1, q2, -, q4⟩ := fr σ2 hS2
    unfold l5_copyWith_8
    refine (b_getI q1 rfl).mpr ?_
    refine b_ite (fun c1 => ?_) (fun c1 => ?_)
    · rw [nI_leI (by omega) (by omega)] at c1
      rw [List.take_of_length_le (by omega)] at hR2
      exact hr_rt.mpr ⟨hR2, hS2⟩
    rw [nI_leI (by omega) (by omega)] at c1
    obtain ⟨r', hr'⟩ : ∃ r', rs[i]? = some r' := ⟨_, List.getElem?_eq_getElem (by omega)⟩
    obtain ⟨a', e1, e2⟩ := q4 i r' hr'
    refine (b_getR q1 rfl).mpr ?_
    refine (b_ldR q2 rfl (by omega) (by decide)).mpr ?_
    rw [e1]
    obtain ⟨f2, z1, -⟩ := id hR2
    refine (b_obj z1).mpr ?_
    have hlt : (rs.take i).length = i := by rw [List.length_take]; omega
    refine b_hr (h5_insert (p := i) hR2 (by omega) (by omega) e2 g21 g22 (by decide)) ?_
    rintro _ σ3 ⟨hR3, hS3⟩
    refine ih _ _ ⟨i + 1, nI_1 i, by omega, ?_, hS2.tr hS3⟩ ?_
    · have : insR (rs.take i) i r' = rs.take (i + 1) := by
        unfold insR
        rw [List.take_of_length_le (by omega), List.drop_eq_nil_of_le (by omega), List.take_add_one, hr']
        rfl
      rw [← this]
      exact hR3
    · rw [nI_1, nI_clamp (by omega), nI_clamp (by omega)]; omega
  · rintro _ σ2 ⟨hR2, hS2⟩
    obtain ⟨f2, z1, -⟩ := id hR2
    refine (b_obj z1).mpr ?_
    refine b_hr (h5_insert hR2 hl hp (ha.fr (sb_ft hS2 g21 g22 (by decide))) g21 g22 (by decide)) ?_
    rintro _ σ3 ⟨hR3, hS3⟩
    exact hr_rt.mpr ⟨hR3, hS2.tr hS3⟩
theorem SG.tri {σ' : AH} {rs' : List Rl} (h : SG g c σ A) (hS : Sb σ σ' 21 22) (hR : RRI g σ' 21 22 rs') : SG g c σ' A := by
  obtain ⟨⟨k1, k2, k3, k4, k5, k6, k7, k8, ⟨k9, ⟨R, k9b⟩, ⟨S, k9c⟩, k9d⟩, k10⟩, hs⟩ := h
  have g21 := k1.2 21 (by decide)
  have g22 := k1.2 22 (by decide)
  have o : ∀ k, k < 21 → σ'.1[k]? = σ.1[k]? := fun k hk => hS.1 k (by omega) (by omega)
  have ft : ∀ t, t ≠ 2 → FT t g σ g σ' := fun t ht => sb_ft hS g21 g22 ht
  obtain ⟨f, r1, r2, -⟩ := hR
  refine ⟨⟨lo_tag k1 hS.2.1, by rw [o 0 (by decide)]; exact k2, k3.fr (o 1 (by decide)), k4.fr (ft 1 (by decide)) (o 2 (by decide)), k5.fr (ft 1 (by decide)) (o 3 (by decide)), k6.fr (o 4 (by decide)), k7.fr (ft 1 (by decide)) (o 5 (by decide)) (o 6 (by decide)), k8.fr (o 7 (by decide)), ⟨k9.fr (fun k a b => o k (by omega)), ⟨R, k9b.frame (fun k a b => o k (by omega))⟩, ⟨S, k9c.frame (o 20 (by decide))⟩, ⟨f, _, r1, r2⟩⟩, k10.fr (ft 1 (by decide)) (fun i _ => ft _ (by omega))⟩, fun i x hx k hk => ?_⟩
  obtain ⟨_, _, _, -, -, -, -, -, f0, -⟩ := k10 i x hx
  obtain ⟨g1, -⟩ := f0 k hk
  refine (hs i x hx k hk).frame (fun k' z1 z2 => ?_)
  have := g1 (k' - (c i + 11 + 5 * k)) (by omega)
  rw [show c i + 11 + 5 * k + (k' - (c i + 11 + 5 * k)) = k' by omega] at this
  exact (ft (3 + i) (by omega) k' this).2
theorem SG.grow {g' : Tg} {σ' : AH} (h : SG g c σ A) (ho : ∀ k, k < σ.1.length → σ'.1[k]? = σ.1[k]?) (hg : ∀ k, k < σ.1.length → g' k = g k) (hz : ∀ k, g' k ≠ 0 → k < σ'.1.length) : SG g' c σ' A := by
  refine ⟨h.1.grow ho hg hz, fun i x hx k hk => ?_⟩
  obtain ⟨_, _, _, -, -, -, -, -, f0, -⟩ := h.1.2.2.2.2.2.2.2.2.2 i x hx
  obtain ⟨g1, -⟩ := f0 k hk
  refine (h.2 i x hx k hk).frame (fun k' z1 z2 => ?_)
  have := g1 (k' - (c i + 11 + 5 * k)) (by omega)
  rw [show c i + 11 + 5 * k + (k' - (c i + 11 + 5 * k)) = k' by omega] at this
  exact ho k' (h.1.1.1 k' (by rw [this]; omega))
theorem h7_setTrial {p s w k a : Int32} (h : Cls g c σ A) (hW : StW A) : Hr (f7_setTrial (some 0) p s w k a) σ (fun r σ' => (r = 0 ∧ ruleOk A p s w k a = false ∧ σ' = σ) ∨ (r = 1 ∧ ruleOk A p s w k a = true ∧ ∃ g', SG g' c σ' A ∧ RRI g' σ' 21 22 (insR (aRul A) (tn p) (s, w, tn k, tn a)) ∧ CX g σ g' σ' 1 4)) := by
  have hl := hW.2.2.2.2.1
  unfold f7_setTrial
  refine (b_obj h.2.1).mpr ?_
  refine (b_eq (e7_isRule h)).mpr ?_
  refine b_ite (fun c1 => ?_) (fun c1 => ?_)
  · rw [bI_0] at c1
    exact hr_rt.mpr (Or.inl ⟨rfl, c1, rfl⟩)
  rw [bI_0, Bool.not_eq_false] at c1
  obtain ⟨p', k', a', hp, rfl, hk, rfl, ha, rfl, hrw⟩ := ruleOk_of hl c1
  rw [show tn (nI p') = p' from nI_clamp (by omega), show tn (nI k') = k' from nI_clamp (by omega), show tn (nI a') = a' from nI_clamp (by omega)]
  refine (b_obj h.2.1).mpr ?_
  refine b_hr (h7_sightAll h hW.2.2.2.1 hW.2.2.2.2.2.2.1) ?_
  rintro _ σ1 ⟨h1, x1, hs1, -⟩
  have hG1 : SG g c σ1 A := ⟨h1, hs1⟩
  refine (b_getR h1.2.1 rfl).mpr ?_
  refine (b_getR h1.2.1 rfl).mpr ?_
  refine b_newO fun σ2 n2 => ?_
  refine (b_obj n2.1).mpr ?_
  refine b_hr (h4_init n2.1) ?_
  rintro _ σ3 u
  have l3 : σ3.1.length = σ1.1.length + 1 := by rw [u.2.2.1]; exact n2.2.2.1
  have o3 : ∀ j, j < σ1.1.length → σ3.1[j]? = σ1.1[j]? := fun j hj => by rw [u.2.1 j (by omega), n2.2.1 j hj]
  have hG3 := hG1.grow (g' := ext g σ1.1.length (σ1.1.length + 1) 1) o3 (fun j hj => ext_lo hj) (fun j hj => by rw [l3]; exact ext_nz h1.1.1 (by omega) hj)
  have x3 : CX g σ1 (ext g σ1.1.length (σ1.1.length + 1) 1) σ3 1 4 := cx_new o3 (fun k hk => ext_lo hk) (by omega) (by omega) (by rw [u.2.2.2, n2.2.2.2]; exact Nat.le_refl _)
  have hT3 := hG3.1.2.2.2.2.2.2.2.2.1.2.2.2
  obtain ⟨f3, n3, t3, -⟩ := id hT3
  refine (b_obj t3).mpr ?_
  refine b_hr (h5_copyWith (r := ((s, w, k', a') : Rl)) hG3.1.2.2.2.2.2.2.1 hG3.1.1 hT3 hl hp ⟨ext_in (Nat.le_refl _) (by omega), u.1⟩) ?_
  rintro _ σ4 ⟨hR4, hS4⟩
  exact hr_rt.mpr (Or.inr ⟨rfl, c1, _, hG3.tri hS4 hR4, hR4, ((x1.tr x3).tr (sb_cx hS4 (hG3.1.1.2 21 (by decide)) (hG3.1.1.2 22 (by decide)))).wk (by omega) (by omega)⟩)
theorem h7_isOther {l : Nat} (h : SG g c σ A) (hW : StW A) (hB : BdF A) (hl : l < (aLet A).length) (hR : RRI g σ 21 22 rs) (hrw : ∀ r ∈ rs, RlW r) : Hr (f7_isOtherByTrial (some 0) (nI l)) σ (fun r σ' => r = bI (othB A rs l) ∧ SG g c σ' A ∧ RRI g σ' 21 22 rs ∧ Sm σ σ' 20 21) := by
  have h60 := hW.2.2.2.2.2.2.1
  obtain ⟨x, hx⟩ : ∃ x, (aLet A)[l]? = some x := ⟨_, List.getElem?_eq_getElem hl⟩
  have el := lAt_of hx
  have wx := hW.2.2.2.2.2.2.2.1 x (List.mem_of_getElem? hx)
  unfold f7_isOtherByTrial
  refine (b_getR h.1.2.1 rfl).mpr ?_
  refine (b_obj h.1.2.1).mpr ?_
  refine b_hr (h7_firstRule h hW.dl hl hR (by decide) (by decide) hrw (fun k _ => by have := hB l k; omega)) ?_
  rintro r σ1 ⟨h1, hS1, hR1, hres⟩
  refine b_hr (P := fun y σ' => σ' = σ1 ∧ y = nI (actO (sel A rs l)) ∧ actO (sel A rs l) ≤ 4) ?_ ?_
  · rcases hres with ⟨rfl, hq⟩ | ⟨a, rl, rfl, ha, hq, hm⟩
    · rw [if_pos rfl, hq]
      exact hr_rt.mpr ⟨rfl, rfl, Nat.zero_le _⟩
    · rw [if_neg (by simp)]
      refine (b_getI ha.2 rfl).mpr ?_
      rw [hq]
      exact hr_rt.mpr ⟨rfl, rfl, (hrw rl hm).2.1⟩
  · rintro y σ2 ⟨rfl, rfl, hle⟩
    obtain ⟨f, r1, r2⟩ := h1.1.2.2.2.2.2.2.2.1
    obtain ⟨fn, lv, sd, ⟨a1, a2⟩, -⟩ := h1.1.2.2.2.2.2.2.2.2.2 l x hx
    refine (b_getR h1.1.2.1 rfl).mpr ?_
    refine (b_ldR r1 rfl (by omega) (by decide)).mpr ?_
    rw [r2 l hl]
    refine (b_getI a2 rfl).mpr ?_
    have ha4 := wx.2.2.2.2.2.1
    unfold othB
    rw [el]
    refine b_ite (fun c1 => ?_) (fun c1 => ?_)
    · rw [nI_eq (by omega) (by omega)] at c1
      exact hr_rt.mpr ⟨by rw [decide_eq_false (fun q => q c1)]; rfl, h1, hR1, hS1⟩
    · rw [nI_eq (by omega) (by omega)] at c1
      exact hr_rt.mpr ⟨by rw [decide_eq_true c1]; rfl, h1, hR1, hS1⟩
theorem tri_rw {p s w k a : Int32} (hW : StW A) (h : ruleOk A p s w k a = true) : ∀ r ∈ insR (aRul A) (tn p) (s, w, tn k, tn a), RlW r := by
  obtain ⟨p', k', a', hp, rfl, hk, rfl, ha, rfl, hrw⟩ := ruleOk_of hW.2.2.2.2.1 h
  rw [show tn (nI p') = p' from nI_clamp (by have := hW.2.2.2.2.1; omega), show tn (nI k') = k' from nI_clamp (by omega), show tn (nI a') = a' from nI_clamp (by omega)]
  intro r hr
  rcases insR_mem hr with rfl | q
  · exact hrw
  · exact hW.2.2.2.2.2.1 r q
theorem d7_trial {p s w k a : Int32} (h : Cls g c σ A) (hW : StW A) (hB : BdF A) : Hr (f7_trial (some 0) p s w k a) σ (CQ g σ 60 2100 (pTrial A p s w k a, A)) := by
  have h60 := hW.2.2.2.2.2.2.1
  unfold f7_trial pTrial
  refine (b_obj h.2.1).mpr ?_
  refine b_hr (h7_setTrial h hW) ?_
  rintro r σ1 (⟨rfl, hq, rfl⟩ | ⟨rfl, hq, g1, h1, hR1, x1⟩)
  · rw [if_pos rfl, if_neg (by rw [hq]; decide)]
    exact cq_rt rfl h
  rw [if_neg (by decide), if_pos hq]
  have hrw := tri_rw hW hq
  generalize insR (aRul A) (tn p) (s, w, tn k, tn a) = rs at hR1 hrw
  refine b_hr (P := fun y σ' => y = nI (oths A rs (aLet A).length).length ∧ SG g1 c σ' A ∧ Sm σ1 σ' 20 21) ?_ ?_
  · refine hr_loop (fun z σ2 => ∃ l, z = (nI (oths A rs l).length, nI l) ∧ l ≤ (aLet A).length ∧ SG g1 c σ2 A ∧ RRI g1 σ2 21 22 rs ∧ Sm σ1 σ2 20 21) (fun z => 100 - z.2.toNatClampNeg) ⟨0, rfl, Nat.zero_le _, h1, hR1, Sm.rf⟩ (by show 100 - _ < _; omega) ?_
    rintro rec z σ2 ⟨l, rfl, hl, h2, hR2, hS2⟩ ih
    unfold l7_trial_22
    dsimp only
    refine (b_getI h2.1.2.1 rfl).mpr ?_
    refine b_ite (fun c1 => ?_) (fun c1 => ?_)
    · rw [nI_leI (by omega) (by omega)] at c1
      have : l = (aLet A).length := by omega
      subst this
      exact hr_rt.mpr ⟨rfl, h2, hS2⟩
    rw [nI_leI (by omega) (by omega)] at c1
    have hm : 100 - (nI l + 1).toNatClampNeg < 100 - (nI l).toNatClampNeg := by rw [nI_1, nI_clamp (by omega), nI_clamp (by omega)]; omega
    refine (b_obj h2.1.2.1).mpr ?_
    refine b_hr (h7_isOther h2 hW hB (by omega) hR2 hrw) ?_
    rintro r σ3 ⟨rfl, h3, hR3, hS3⟩
    refine b_ite (fun c2 => ?_) (fun c2 => ?_)
    · rw [bI_0] at c2
      have e : oths A rs (l + 1) = oths A rs l := by rw [oths_succ, c2]; simp
      exact ih _ _ ⟨l + 1, by rw [e, nI_1], by omega, h3, hR3, hS2.tr hS3⟩ hm
    · rw [bI_0, Bool.not_eq_false] at c2
      have e : oths A rs (l + 1) = oths A rs l ++ [l] := by rw [oths_succ, c2]; simp
      refine ih _ _ ⟨l + 1, ?_, by omega, h3, hR3, hS2.tr hS3⟩ hm
      rw [e, nI_1, nI_1, List.length_append]; rfl
  · rintro y σ2 ⟨rfl, h2, hS2⟩
    exact hr_rt.mpr ⟨rfl, g1, c, h2.1, (x1.tr (cx_lo h1.1.1 hS2 (by omega))).wk (by omega) (by omega)⟩
theorem d7_tried {p s w k a i : Int32} (h : Cls g c σ A) (hW : StW A) (hB : BdF A) : Hr (f7_tried (some 0) p s w k a i) σ (CQ g σ 60 2100 (pTried A p s w k a i, A)) := by
  have h60 := hW.2.2.2.2.2.2.1
  unfold f7_tried pTried
  refine (b_obj h.2.1).mpr ?_
  refine b_hr (h7_setTrial h hW) ?_
  rintro r σ1 (⟨rfl, hq, rfl⟩ | ⟨rfl, hq, g1, h1, hR1, x1⟩)
  · rw [if_pos rfl, if_neg (by rw [hq]; simp)]
    exact cq_rt rfl h
  rw [if_neg (by decide)]
  have hrw := tri_rw hW hq
  generalize insR (aRul A) (tn p) (s, w, tn k, tn a) = rs at hR1 hrw ⊢
  refine b_hr (P := fun y σ' => SG g1 c σ' A ∧ Sm σ1 σ' 20 21 ∧ ((∃ l, y = .inl (nI l) ∧ 0 ≤ i ∧ (oths A rs (aLet A).length)[tn i]? = some l) ∨ (y = .inr () ∧ (0 ≤ i → (oths A rs (aLet A).length)[tn i]? = none)))) ?_ ?_
  · refine hr_loop (fun z σ2 => ∃ l, z = (nI (oths A rs l).length, nI l) ∧ l ≤ (aLet A).length ∧ (0 ≤ i → (oths A rs l).length ≤ tn i) ∧ SG g1 c σ2 A ∧ RRI g1 σ2 21 22 rs ∧ Sm σ1 σ2 20 21) (fun z => 100 - z.2.toNatClampNeg) ⟨0, rfl, Nat.zero_le _, fun _ => Nat.zero_le _, h1, hR1, Sm.rf⟩ (by show 100 - _ < _; omega) ?_
    rintro rec z σ2 ⟨l, rfl, hl, hle, h2, hR2, hS2⟩ ih
    have hol := oths_len A rs l
    unfold l7_tried_22
    dsimp only
    refine (b_getI h2.1.2.1 rfl).mpr ?_
    refine b_ite (fun c1 => ?_) (fun c1 => ?_)
    · rw [nI_leI (by omega) (by omega)] at c1
      have : l = (aLet A).length := by omega
      subst this
      exact hr_rt.mpr ⟨h2, hS2, Or.inr ⟨rfl, fun z => List.getElem?_eq_none (hle z)⟩⟩
    rw [nI_leI (by omega) (by omega)] at c1
    have hm : 100 - (nI l + 1).toNatClampNeg < 100 - (nI l).toNatClampNeg := by rw [nI_1, nI_clamp (by omega), nI_clamp (by omega)]; omega
    refine (b_obj h2.1.2.1).mpr ?_
    refine b_hr (h7_isOther h2 hW hB (by omega) hR2 hrw) ?_
    rintro r σ3 ⟨rfl, h3, hR3, hS3⟩
    refine b_ite (fun c2 => ?_) (fun c2 => ?_)
    · rw [bI_0] at c2
      have e : oths A rs (l + 1) = oths A rs l := by rw [oths_succ, c2]; simp
      exact ih _ _ ⟨l + 1, by rw [e, nI_1], by omega, by rw [e]; exact hle, h3, hR3, hS2.tr hS3⟩ hm
    · rw [bI_0, Bool.not_eq_false] at c2
      have e : oths A rs (l + 1) = oths A rs l ++ [l] := by rw [oths_succ, c2]; simp
      refine b_ite (fun c3 => ?_) (fun c3 => ?_)
      · refine hr_rt.mpr ⟨h3, hS2.tr hS3, Or.inl ⟨l, rfl, ?_, ?_⟩⟩
        · rw [← c3]; exact nI_pos' (by omega)
        · obtain ⟨S, hS⟩ := oths_pre A rs (l + 1) ((aLet A).length - (l + 1))
          rw [show l + 1 + ((aLet A).length - (l + 1)) = (aLet A).length by omega] at hS
          rw [hS, e, ← c3, show tn (nI (oths A rs l).length) = (oths A rs l).length from nI_clamp (by omega), List.append_assoc, List.getElem?_append_right (Nat.le_refl _), Nat.sub_self]
          rfl
      · refine ih _ _ ⟨l + 1, ?_, by omega, fun z => ?_, h3, hR3, hS2.tr hS3⟩ hm
        · rw [e, nI_1, nI_1, List.length_append]; rfl
        · have := hle z
          have hne : (oths A rs l).length ≠ tn i := fun q => c3 (by
            obtain ⟨j, hj, rfl⟩ := nI_of (x := i) (nlt.mpr z)
            rw [q, show tn (nI j) = j from nI_clamp hj])
          rw [e, List.length_append]
          simp only [List.length_cons, List.length_nil]
          omega
  · rintro y σ2 ⟨h2, hS2, ⟨l, rfl, hi, hl⟩ | ⟨rfl, hn⟩⟩
    · rw [Sum.elim_inl, if_pos ⟨hq, hi⟩, hl]
      exact hr_rt.mpr ⟨rfl, g1, c, h2.1, (x1.tr (cx_lo h1.1.1 hS2 (by omega))).wk (by omega) (by omega)⟩
    · rw [Sum.elim_inr]
      refine hr_rt.mpr ⟨?_, g1, c, h2.1, (x1.tr (cx_lo h1.1.1 hS2 (by omega))).wk (by omega) (by omega)⟩
      by_cases z : 0 ≤ i
      · rw [if_pos ⟨hq, z⟩, hn z]; rfl
      · rw [if_neg (fun t => z t.2)]
end CLSJ
