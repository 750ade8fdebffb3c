/-! ===== the reference's calls: rule, drop, trial, tried, quarrel ===== -/
def BdF (A : St) : Prop := ∀ l k, (fnds (aLet A)).length + (rawF (aKept A) (aKind A k) (lB (lAt A l))).length < 2 ^ 19
def MC (A : St) (X : MX) (V : Nat → Int32) (M : Nat → Nat → Int32) : Prop := V 0 = nI (aDay A) ∧ V 1 = nI (aLet A).length ∧ V 4 = nI (aTape A).length ∧ B3 (M 3) (aTape A) ∧ MD A M ∧ LXm M (aLet A) ∧ FI X V M (fnds (aLet A))
theorem MR.mc {A : St} {X : MX} {V : Nat → Int32} {M : Nat → Nat → Int32} (h : MR A X V M) : MC A X V M := ⟨h.1, h.2.1, h.2.2.2.1, h.2.2.2.2.1, h.2.2.2.2.2.1, h.2.2.2.2.2.2.2.1, h.2.2.2.2.2.2.2.2⟩
theorem MC.mr {A : St} {X : MX} {V : Nat → Int32} {M : Nat → Nat → Int32} (h : MC A X V M) (h2 : V 2 = nI (aRul A).length) (hr : RM M (aRul A)) : MR A X V M := ⟨h.1, h.2.1, h2, h.2.2.1, h.2.2.2.1, h.2.2.2.2.1, hr, h.2.2.2.2.2.1, h.2.2.2.2.2.2⟩
theorem MC.kR {A : St} {X : MX} {V V' : Nat → Int32} {M M' : Nat → Nat → Int32} (h : MC A X V M) (k : Kx pR V M V' M') : MC A X V' M' := by
  obtain ⟨h1, h2, h3, h4, h5, h6, h7⟩ := h
  refine ⟨(k.1 0 rfl).trans h1, (k.1 1 rfl).trans h2, (k.1 4 rfl).trans h3, by rw [k.2 3 rfl]; exact h4, ?_, ?_, ?_⟩
  · unfold MD KT KM LH MK
    rw [k.2 15 rfl, k.2 16 rfl, k.2 17 rfl, k.2 18 rfl, k.2 20 rfl, k.2 21 rfl, k.2 22 rfl, k.2 23 rfl, k.2 24 rfl, k.2 25 rfl, k.2 26 rfl, k.2 27 rfl, k.2 28 rfl, k.2 29 rfl, k.2 30 rfl, k.2 31 rfl, k.2 32 rfl, k.2 33 rfl]
    exact h5
  · unfold LXm
    rw [k.2 34 rfl, k.2 35 rfl, k.2 36 rfl, k.2 37 rfl, k.2 38 rfl]
    exact h6
  · unfold FI
    rw [k.1 42 rfl, k.2 39 rfl, k.2 40 rfl, k.2 41 rfl]
    exact h7
theorem MC.kF {A : St} {X X' : MX} {V V' : Nat → Int32} {M M' : Nat → Nat → Int32} (h : MC A X V M) (k : Kx pSF V M V' M') (hF : FI X' V' M' (fnds (aLet A))) : MC A X' V' M' := by
  obtain ⟨h1, h2, h3, h4, h5, h6, h7⟩ := h
  refine ⟨(k.1 0 rfl).trans h1, (k.1 1 rfl).trans h2, (k.1 4 rfl).trans h3, by rw [k.2 3 rfl]; exact h4, h5.kp k, ?_, hF⟩
  unfold LXm
  rw [k.2 34 rfl, k.2 35 rfl, k.2 36 rfl, k.2 37 rfl, k.2 38 rfl]
  exact h6
theorem ruleOk_of {A : St} {p s w k a : Int32} (hl : (aRul A).length ≤ 20) (h : ruleOk A p s w k a = true) : ∃ p' k' a', p' ≤ (aRul A).length ∧ p = nI p' ∧ k' < 8 ∧ k = nI k' ∧ a' ≤ 4 ∧ a = nI a' ∧ RlW (s, w, k', a') := by
  unfold ruleOk at h
  rw [decide_eq_true_eq] at h
  obtain ⟨h1, h2, h3, h4, h5⟩ := h
  obtain ⟨p', q1, rfl⟩ := (in_nI (by omega)).mp h1
  obtain ⟨k', q4, rfl⟩ := (in_nI (m := 7) (by decide)).mp h4
  obtain ⟨a', q5, rfl⟩ := (in_nI (m := 4) (by decide)).mp h5
  refine ⟨p', k', a', q1, rfl, by omega, rfl, q5, rfl, by show k' < 8; omega, q5, ?_, ?_⟩
  · rcases (in_any (m := 9) (by decide)).mp h2 with q | ⟨j, hj, q⟩
    · exact Or.inl q
    · exact Or.inr ⟨j, by omega, q⟩
  · rcases (in_any (m := 2) (by decide)).mp h3 with q | ⟨j, hj, q⟩
    · exact Or.inl q
    · exact Or.inr ⟨j, by omega, q⟩
section PUBC
variable {X : MX} {V : Nat → Int32} {M : Nat → Nat → Int32} {σ : AH} {A : St}
theorem e8_isRule {p s w k a : Int32} (h : MP X V M σ) (h2 : V 2 = nI (aRul A).length) : f8_isRule (some 31) p s w k a σ = some (bI (ruleOk A p s w k a), σ) := by
  refine hr_det ?_
  unfold f8_isRule ruleOk
  refine (m_getI h (by decide) rfl).mpr ?_
  rw [h2]
  refine (b_eq (e8_in _ _ _ _)).mpr ?_
  refine b_ite (fun c => ?_) (fun c1 => ?_)
  · rw [bI_0, decide_eq_false_iff_not] at c
    exact hr_rt.mpr ⟨by rw [decide_eq_false (fun q => c q.1)]; rfl, rfl⟩
  rw [bI_0, Bool.not_eq_false, decide_eq_true_eq] at c1
  refine (b_eq (e8_in _ _ _ _)).mpr ?_
  refine b_ite (fun c => ?_) (fun c2 => ?_)
  · rw [bI_0, decide_eq_false_iff_not] at c
    exact hr_rt.mpr ⟨by rw [decide_eq_false (fun q => c q.2.1)]; rfl, rfl⟩
  rw [bI_0, Bool.not_eq_false, decide_eq_true_eq] at c2
  refine (b_eq (e8_in _ _ _ _)).mpr ?_
  refine b_ite (fun c => ?_) (fun c3 => ?_)
  · rw [bI_0, decide_eq_false_iff_not] at c
    exact hr_rt.mpr ⟨by rw [decide_eq_false (fun q => c q.2.2.1)]; rfl, rfl⟩
  rw [bI_0, Bool.not_eq_false, decide_eq_true_eq] at c3
  refine (b_eq (e8_in _ _ _ _)).mpr ?_
  refine b_ite (fun c => ?_) (fun c4 => ?_)
  · rw [bI_0, decide_eq_false_iff_not] at c
    exact hr_rt.mpr ⟨by rw [decide_eq_false (fun q => c q.2.2.2.1)]; rfl, rfl⟩
  rw [bI_0, Bool.not_eq_false, decide_eq_true_eq] at c4
  refine (b_eq (e8_in _ _ _ _)).mpr ?_
  refine b_ite (fun c => ?_) (fun c5 => ?_)
  · rw [bI_0, decide_eq_false_iff_not] at c
    exact hr_rt.mpr ⟨by rw [decide_eq_false (fun q => c q.2.2.2.2)]; rfl, rfl⟩
  rw [bI_0, Bool.not_eq_false, decide_eq_true_eq] at c5
  exact hr_rt.mpr ⟨by rw [decide_eq_true ⟨c1, c2, c3, c4, c5⟩]; rfl, rfl⟩
theorem d8_rule {p s w k a : Int32} (h : MP X V M σ) (hR : MR A X V M) (hW : StW A) : Hr (f8_rule (some 31) p s w k a) σ (MQm X (pRule A p s w k a)) := by
  have hl := hW.2.2.2.2.1
  have h2 := hR.2.2.1
  unfold f8_rule pRule
  refine (m_obj h).mpr ?_
  refine (b_eq (e8_isRule (A := A) h h2)).mpr ?_
  refine b_ite (fun c => ?_) (fun c => ?_)
  · rw [bI_0] at c
    rw [if_neg (by rw [c]; simp)]
    exact mq_rt rfl h hR
  · rw [bI_0, Bool.not_eq_false] at c
    refine (m_getI h (by decide) rfl).mpr ?_
    rw [h2, show (20 : Int32) = nI 20 from rfl]
    refine b_ite (fun c2 => ?_) (fun c2 => ?_)
    · rw [nI_eq (by omega) (by omega)] at c2
      rw [if_neg (by omega)]
      exact mq_rt rfl h hR
    · rw [nI_eq (by omega) (by omega)] at c2
      rw [if_pos ⟨c, by omega⟩]
      obtain ⟨p', k', a', hp, rfl, hk, rfl, ha, rfl, hrw⟩ := ruleOk_of hl c
      rw [show tn (nI p') = p' from nI_clamp (by omega), show tn (nI k') = k' from nI_clamp (by omega), show tn (nI a') = a' from nI_clamp (by omega)]
      refine (m_obj h).mpr ?_
      refine b_hr (h8_insert (r := ((s, w, k', a') : Rl)) h hR.2.2.2.2.2.2.1 h2 hl hp) ?_
      rintro _ σ1 ⟨V1, M1, h1, hK, hr, hv⟩
      refine (m_getI h1 (by decide) rfl).mpr ?_
      refine mq_rt hv h1 ?_
      have := hR.mc.kR hK
      exact ⟨this.1, this.2.1, by rw [hv]; show _ = nI (insR (aRul A) p' _).length; rw [insR_len hp], this.2.2.1, this.2.2.2.1, this.2.2.2.2.1, hr, this.2.2.2.2.2.1, this.2.2.2.2.2.2⟩
theorem d8_drop {p : Int32} (h : MP X V M σ) (hR : MR A X V M) (hW : StW A) : Hr (f8_drop (some 31) p) σ (MQm X (pDrop A p)) := by
  have hl := hW.2.2.2.2.1
  have h2 := hR.2.2.1
  unfold f8_drop pDrop
  refine (m_getI h (by decide) rfl).mpr ?_
  rw [h2]
  refine (b_eq (e8_in _ _ _ _)).mpr ?_
  refine b_ite (fun c => ?_) (fun c => ?_)
  · rw [bI_0, decide_eq_false_iff_not] at c
    rw [if_neg c]
    exact mq_rt rfl h hR
  · rw [bI_0, Bool.not_eq_false, decide_eq_true_eq] at c
    rw [if_pos c]
    obtain ⟨j, hj, rfl⟩ := (in_m1 (by omega)).mp c
    rw [show tn (nI j) = j from nI_clamp (by omega)]
    refine (m_obj h).mpr ?_
    refine b_hr (h8_remove h hR.2.2.2.2.2.2.1 h2 (by omega) hj) ?_
    rintro _ σ1 ⟨V1, M1, h1, hK, hr, hv⟩
    refine mq_rt rfl h1 ?_
    have := hR.mc.kR hK
    exact ⟨this.1, this.2.1, by rw [hv]; show _ = nI (delR (aRul A) j).length; rw [delR_len hj], this.2.2.1, this.2.2.2.1, this.2.2.2.2.1, hr, this.2.2.2.2.2.1, this.2.2.2.2.2.2⟩
theorem h8_try {p' k' a' j : Nat} {s w : Int32} {β : Type} {g : Int32 → Cm β} {Q : β → AH → Prop} (h : MP X V M σ) (hR : MR A X V M) (hW : StW A) (hB : BdF A) (hp : p' ≤ (aRul A).length) (hrw : RlW (s, w, k', a')) (hj : j < 2 ^ 31)
    (kk : ∀ r σ' X' V' M', (r = match (oths A (insR (aRul A) p' (s, w, k', a')) (aLet A).length)[j]? with
      | some l => nI l
      | none => -1 - nI (oths A (insR (aRul A) p' (s, w, k', a')) (aLet A).length).length) → MP X' V' M' σ' → XG X X' → MR A X' V' M' → Hr (g r) σ' Q) :
    Hr (bn (oObj (some 31) 8) fun _ => bn (f8_insert (some 31) (nI p') s w (nI k') (nI a')) fun _ => bn (oObj (some 31) 8) fun _ => bn (f8_triedAt (some 31) (nI j)) fun v31 => bn (oObj (some 31) 8) fun _ => bn (f8_remove (some 31) (nI p')) fun _ => g v31) σ Q := by
  have hl := hW.2.2.2.2.1
  have h2 := hR.2.2.1
  refine (m_obj h).mpr ?_
  refine b_hr (h8_insert (r := ((s, w, k', a') : Rl)) h hR.2.2.2.2.2.2.1 h2 hl hp) ?_
  rintro _ σ1 ⟨V1, M1, h1, hK, hr, hv⟩
  have hc1 := hR.mc.kR hK
  refine (m_obj h1).mpr ?_
  have hil := insR_len (r := ((s, w, k', a') : Rl)) hp
  refine b_hr (h8_triedAt (A := A) (rs := insR (aRul A) p' (s, w, k', a')) h1 hc1.2.2.2.2.1 hW.dl hc1.2.2.2.2.2.2 (fun l k _ => hB l k) hr (by rw [hil]; exact hv) (by omega) (fun r hr => by
    rcases insR_mem hr with rfl | q
    · exact hrw
    · exact hW.2.2.2.2.2.1 r q) (fun l hl => by
    obtain ⟨x, hx⟩ : ∃ x, (aLet A)[l]? = some x := ⟨_, List.getElem?_eq_getElem hl⟩
    rw [lAt_of hx]
    exact ⟨(hc1.2.2.2.2.2.1 l x hx).1, (hW.2.2.2.2.2.2.2.1 x (List.mem_of_getElem? hx)).2.2.2.2.2.1⟩) hc1.2.1 hj) ?_
  rintro r σ2 ⟨hres, X2, V2, M2, h2', hG, hK2, hF2⟩
  have hc2 := hc1.kF hK2 hF2
  refine (m_obj h2').mpr ?_
  refine b_hr (h8_remove h2' (hr.kp hK2) (by rw [hK2.1 2 rfl, hv, hil]) (by omega) (by omega)) ?_
  rintro _ σ3 ⟨V3, M3, h3, hK3, hr3, hv3⟩
  rw [del_ins hp] at hr3
  rw [hil, Nat.add_sub_cancel] at hv3
  exact kk r σ3 X2 V3 M3 hres h3 hG ((hc2.kR hK3).mr hv3 hr3)
theorem d8_trial {p s w k a : Int32} (h : MP X V M σ) (hR : MR A X V M) (hW : StW A) (hB : BdF A) : Hr (f8_trial (some 31) p s w k a) σ (MQm X (pTrial A p s w k a, A)) := by
  have hl := hW.2.2.2.2.1
  have h60 := hW.2.2.2.2.2.2.1
  unfold f8_trial pTrial
  refine (m_obj h).mpr ?_
  refine (b_eq (e8_isRule (A := A) h hR.2.2.1)).mpr ?_
  refine b_ite (fun c => ?_) (fun c => ?_)
  · rw [bI_0] at c
    rw [c]
    exact mq_rt rfl h hR
  · rw [bI_0, Bool.not_eq_false] at c
    rw [if_pos c]
    obtain ⟨p', k', a', hp, rfl, hk, rfl, ha, rfl, hrw⟩ := ruleOk_of hl c
    rw [show tn (nI p') = p' from nI_clamp (by omega), show tn (nI k') = k' from nI_clamp (by omega), show tn (nI a') = a' from nI_clamp (by omega)]
    refine h8_try (j := 60) h hR hW hB hp hrw (by decide) ?_
    intro r σ' X' V' M' hr h' hG hR'
    have hol := oths_len A (insR (aRul A) p' (s, w, k', a')) (aLet A).length
    rw [List.getElem?_eq_none (by omega)] at hr
    refine hr_rt.mpr ⟨?_, X', V', M', h', hG, hR'⟩
    rw [hr]
    show -1 - (-1 - nI _) = nI _
    rw [Int32.sub_eq_add_neg (-1) (-1 - _), Int32.neg_sub, Int32.sub_eq_add_neg, Int32.add_comm, Int32.add_assoc]
    show nI _ + (- -1 + -1) = _
    rw [show (- -1 + -1 : Int32) = 0 by decide, Int32.add_zero]
theorem d8_tried {p s w k a i : Int32} (h : MP X V M σ) (hR : MR A X V M) (hW : StW A) (hB : BdF A) : Hr (f8_tried (some 31) p s w k a i) σ (MQm X (pTried A p s w k a i, A)) := by
  have hl := hW.2.2.2.2.1
  have h60 := hW.2.2.2.2.2.2.1
  unfold f8_tried pTried
  refine (m_obj h).mpr ?_
  refine (b_eq (e8_isRule (A := A) h hR.2.2.1)).mpr ?_
  refine b_ite (fun c => ?_) (fun c => ?_)
  · rw [bI_0] at c
    rw [if_neg (by rw [c]; simp)]
    exact mq_rt rfl h hR
  · rw [bI_0, Bool.not_eq_false] at c
    refine b_ite (fun c2 => ?_) (fun c2 => ?_)
    · rw [if_pos ⟨c, c2⟩]
      obtain ⟨p', k', a', hp, rfl, hk, rfl, ha, rfl, hrw⟩ := ruleOk_of hl c
      obtain ⟨j, hj, rfl⟩ := nI_of (x := i) (nlt.mpr c2)
      rw [show tn (nI p') = p' from nI_clamp (by omega), show tn (nI k') = k' from nI_clamp (by omega), show tn (nI a') = a' from nI_clamp (by omega), show tn (nI j) = j from nI_clamp hj]
      refine h8_try (j := j) h hR hW hB hp hrw hj ?_
      intro r σ' X' V' M' hr h' hG hR'
      have hol := oths_len A (insR (aRul A) p' (s, w, k', a')) (aLet A).length
      refine hr_rt.mpr ⟨?_, X', V', M', h', hG, hR'⟩
      rw [hr]
      cases hq : (oths A (insR (aRul A) p' (s, w, k', a')) (aLet A).length)[j]? with
      | some l =>
        show jmax (-1) (nI l) = nI l
        unfold jmax
        rw [if_pos]
        have hlm := List.mem_of_getElem? hq
        unfold oths at hlm
        have hlm := List.mem_range.mp (List.mem_filter.mp hlm).1
        rw [i32_lt, nI_toInt (by omega)]
        have e2 : (-1 : Int32).toInt = -1 := rfl
        omega
      | none =>
        show jmax (-1) (-1 - nI _) = -1
        unfold jmax
        rw [if_neg]
        intro q
        rw [i32_lt, tI_sub (by rw [nI_toInt (by omega)]; show -2147483648 ≤ -1 - _; omega) (by rw [nI_toInt (by omega)]; show -1 - _ < 2147483648; omega), nI_toInt (by omega)] at q
        have e2 : (-1 : Int32).toInt = -1 := rfl
        omega
    · rw [if_neg (fun q => c2 q.2)]
      exact mq_rt rfl h hR
-- quarrel
theorem shr_spec {a b : Int32} {n : Nat} (hn : 0 < n) (hn2 : n < 1000) (ha : a = -1 ∨ ∃ s, s < n ∧ a = nI s) (hb : b = -1 ∨ ∃ s, s < n ∧ b = nI s) :
    (shr a b = -1 ∧ ∀ s, s < n → ¬ ((a = -1 ∨ a = nI s) ∧ (b = -1 ∨ b = nI s))) ∨ ∃ s, s < n ∧ shr a b = nI s ∧ ((a = -1 ∨ a = nI s) ∧ (b = -1 ∨ b = nI s)) ∧ ∀ s', s' < s → ¬ ((a = -1 ∨ a = nI s') ∧ (b = -1 ∨ b = nI s')) := by
  unfold shr
  rcases ha with rfl | ⟨i, hi, rfl⟩
  · rw [if_pos rfl]
    rcases hb with rfl | ⟨j, hj, rfl⟩
    · exact Or.inr ⟨0, hn, by decide, ⟨Or.inl rfl, Or.inl rfl⟩, fun s' h => by omega⟩
    · refine Or.inr ⟨j, hj, jmax_0 (by omega), ⟨Or.inl rfl, Or.inr rfl⟩, fun s' h q => ?_⟩
      rcases q.2 with q | q
      · exact m1_nI (by omega) q
      · rw [nI_eq (by omega) (by omega)] at q
        omega
  · rw [if_neg (m1_nI (by omega))]
    have mi : ∀ s', s' < n → (nI i = -1 ∨ nI i = nI s') → i = s' := fun s' h q => by
      rcases q with q | q
      · exact absurd q (m1_nI (by omega))
      · rwa [nI_eq (by omega) (by omega)] at q
    rcases hb with rfl | ⟨j, hj, rfl⟩
    · rw [if_pos (Or.inl rfl)]
      exact Or.inr ⟨i, hi, rfl, ⟨Or.inr rfl, Or.inl rfl⟩, fun s' h q => by have := mi s' (by omega) q.1; omega⟩
    · by_cases e : j = i
      · subst e
        rw [if_pos (Or.inr rfl)]
        exact Or.inr ⟨j, hi, rfl, ⟨Or.inr rfl, Or.inr rfl⟩, fun s' h q => by have := mi s' (by omega) q.1; omega⟩
      · rw [if_neg (fun q => by
          rcases q with q | q
          · exact m1_nI (by omega) q
          · rw [nI_eq (by omega) (by omega)] at q; exact e q)]
        refine Or.inl ⟨rfl, fun s hs q => ?_⟩
        have h1 := mi s hs q.1
        rcases q.2 with q | q
        · exact m1_nI (by omega) q
        · rw [nI_eq (by omega) (by omega)] at q
          omega
theorem e8_isFor {i s w : Nat} {r : Rl} (h : MP X V M σ) (hr : RM M (aRul A)) (hl : (aRul A).length ≤ 20) (hi : (aRul A)[i]? = some r) : f8_isFor (some 31) (nI i) (nI s) (nI w) σ = some (bI (decide ((rS r = -1 ∨ rS r = nI s) ∧ (rW r = -1 ∨ rW r = nI w))), σ) := by
  have hil := (List.getElem?_eq_some_iff.mp hi).1
  have hri := hr i r hi
  refine hr_det ?_
  unfold f8_isFor
  refine (m_getR h rfl).mpr ?_
  refine (m_ld (n := 21) h rfl rfl rfl rfl (by omega)).mpr ?_
  rw [hri.1]
  refine b_hr (P := fun y σ' => σ' = σ ∧ ((y = .inr () ∧ (rS r = -1 ∨ rS r = nI s)) ∨ (y = .inl 0 ∧ ¬ (rS r = -1 ∨ rS r = nI s)))) ?_ ?_
  · refine b_ite (fun c => ?_) (fun c => ?_)
    · exact hr_rt.mpr ⟨rfl, Or.inl ⟨rfl, Or.inl c⟩⟩
    · refine (m_getR h rfl).mpr ?_
      refine (m_ld (n := 21) h rfl rfl rfl rfl (by omega)).mpr ?_
      rw [hri.1]
      refine b_ite (fun c2 => ?_) (fun c2 => ?_)
      · exact hr_rt.mpr ⟨rfl, Or.inl ⟨rfl, Or.inr c2⟩⟩
      · exact hr_rt.mpr ⟨rfl, Or.inr ⟨rfl, fun q => q.elim c c2⟩⟩
  · rintro y σ1 ⟨rfl, ⟨rfl, hq⟩ | ⟨rfl, hq⟩⟩
    · rw [Sum.elim_inr]
      refine (m_getR h rfl).mpr ?_
      refine (m_ld (n := 21) h rfl rfl rfl rfl (by omega)).mpr ?_
      rw [hri.2.1]
      refine b_ite (fun c => ?_) (fun c => ?_)
      · exact hr_rt.mpr ⟨by rw [decide_eq_true ⟨hq, Or.inl c⟩]; rfl, rfl⟩
      · refine (m_getR h rfl).mpr ?_
        refine (m_ld (n := 21) h rfl rfl rfl rfl (by omega)).mpr ?_
        rw [hri.2.1]
        refine b_ite (fun c2 => ?_) (fun c2 => ?_)
        · exact hr_rt.mpr ⟨by rw [decide_eq_true ⟨hq, Or.inr c2⟩]; rfl, rfl⟩
        · exact hr_rt.mpr ⟨by rw [decide_eq_false (fun q => q.2.elim c c2)]; rfl, rfl⟩
    · rw [Sum.elim_inl]
      exact hr_rt.mpr ⟨by rw [decide_eq_false (fun q => hq q.1)]; rfl, rfl⟩
theorem getD_of {α : Type} {L : List α} {i : Nat} {x d : α} (h : L[i]? = some x) : L.getD i d = x := by
  rw [List.getD_eq_getElem?_getD, h]
  rfl
theorem d8_quarrel {x y : Int32} (h : MP X V M σ) (hR : MR A X V M) (hW : StW A) : Hr (f8_quarrel (some 31) x y) σ (MQm X (pQuarrel A x y, A)) := by
  have hl := hW.2.2.2.2.1
  have h2 := hR.2.2.1
  have hr := hR.2.2.2.2.2.2.1
  unfold f8_quarrel pQuarrel
  refine (m_getI h (by decide) rfl).mpr ?_
  rw [h2]
  refine (b_eq (e8_in _ _ _ _)).mpr ?_
  refine b_ite (fun c => ?_) (fun c1 => ?_)
  · rw [bI_0, decide_eq_false_iff_not] at c
    rw [if_neg (fun q => c q.1)]
    exact mq_rt rfl h hR
  rw [bI_0, Bool.not_eq_false, decide_eq_true_eq] at c1
  refine (m_getI h (by decide) rfl).mpr ?_
  rw [h2]
  refine (b_eq (e8_in _ _ _ _)).mpr ?_
  refine b_ite (fun c => ?_) (fun c2 => ?_)
  · rw [bI_0, decide_eq_false_iff_not] at c
    rw [if_neg (fun q => c q.2)]
    exact mq_rt rfl h hR
  rw [bI_0, Bool.not_eq_false, decide_eq_true_eq] at c2
  rw [if_pos (show (0 ≤ x ∧ x ≤ nI (aRul A).length - 1) ∧ 0 ≤ y ∧ y ≤ nI (aRul A).length - 1 from ⟨c1, c2⟩)]
  obtain ⟨i, hi, rfl⟩ := (in_m1 (by omega)).mp c1
  obtain ⟨j, hj, rfl⟩ := (in_m1 (by omega)).mp c2
  obtain ⟨a, ha⟩ : ∃ a, (aRul A)[i]? = some a := ⟨_, List.getElem?_eq_getElem hi⟩
  obtain ⟨b, hb⟩ : ∃ b, (aRul A)[j]? = some b := ⟨_, List.getElem?_eq_getElem hj⟩
  rw [show tn (nI i) = i from nI_clamp (by omega), show tn (nI j) = j from nI_clamp (by omega), getD_of ha, getD_of hb]
  have wa := hW.2.2.2.2.2.1 a (List.mem_of_getElem? ha)
  have wb := hW.2.2.2.2.2.1 b (List.mem_of_getElem? hb)
  have ra := hr i a ha
  have rb := hr j b hb
  unfold quL
  refine b_ite (fun c => ?_) (fun c => ?_)
  · rw [nI_eq (by omega) (by omega)] at c
    subst c
    rw [ha] at hb
    cases hb
    rw [if_pos (Or.inl rfl)]
    exact mq_rt rfl h hR
  refine (m_getR h rfl).mpr ?_
  refine (m_ld (n := 21) h rfl rfl rfl rfl (by omega)).mpr ?_
  refine (m_getR h rfl).mpr ?_
  refine (m_ld (n := 21) h rfl rfl rfl rfl (by omega)).mpr ?_
  rw [ra.2.2.1, rb.2.2.1]
  refine b_ite (fun c3 => ?_) (fun c3 => ?_)
  · rw [nI_eq (by have := wa.1; omega) (by have := wb.1; omega)] at c3
    refine (m_getR h rfl).mpr ?_
    refine (m_ld (n := 21) h rfl rfl rfl rfl (by omega)).mpr ?_
    refine (m_getR h rfl).mpr ?_
    refine (m_ld (n := 21) h rfl rfl rfl rfl (by omega)).mpr ?_
    rw [ra.2.2.2, rb.2.2.2]
    refine b_ite (fun c4 => ?_) (fun c4 => ?_)
    · rw [nI_eq (by have := wa.2.1; omega) (by have := wb.2.1; omega)] at c4
      rw [if_pos (Or.inl c4)]
      exact mq_rt rfl h hR
    · rw [nI_eq (by have := wa.2.1; omega) (by have := wb.2.1; omega)] at c4
      rw [if_neg (fun q => q.elim c4 (fun q => q c3))]
      have sS := shr_spec (n := 10) (by decide) (by decide) wa.2.2.1 wb.2.2.1
      have sW := shr_spec (n := 3) (by decide) (by decide) wa.2.2.2 wb.2.2.2
      generalize hsb : (fun s => (rS a = -1 ∨ rS a = nI s) ∧ (rS b = -1 ∨ rS b = nI s)) = sb
      generalize hwb : (fun w => (rW a = -1 ∨ rW a = nI w) ∧ (rW b = -1 ∨ rW b = nI w)) = wb'
      have esb : ∀ s, ((rS a = -1 ∨ rS a = nI s) ∧ (rS b = -1 ∨ rS b = nI s)) ↔ sb s := fun s => by rw [← hsb]
      have ewb : ∀ w, ((rW a = -1 ∨ rW a = nI w) ∧ (rW b = -1 ∨ rW b = nI w)) ↔ wb' w := fun w => by rw [← hwb]
      simp only [esb] at sS
      simp only [ewb] at sW
      refine b_hr (P := fun y σ' => σ' = σ ∧ ((y = .inr () ∧ ∀ s, s < 10 → ¬ (sb s ∧ ∃ w, w < 3 ∧ wb' w)) ∨ ∃ s w, s < 10 ∧ w < 3 ∧ y = .inl (10 * nI s + nI w) ∧ sb s ∧ wb' w ∧ (∀ s', s' < s → ¬ (sb s' ∧ ∃ w, w < 3 ∧ wb' w)) ∧ ∀ w', w' < w → ¬ wb' w')) ?_ ?_
      · refine hr_loop (fun x σ1 => σ1 = σ ∧ ∃ s, s ≤ 10 ∧ x = nI s ∧ ∀ s', s' < s → ¬ (sb s' ∧ ∃ w, w < 3 ∧ wb' w)) (fun x => 100 - x.toNatClampNeg) ⟨rfl, 0, by omega, rfl, fun s' q => by omega⟩ (by show 100 - _ < _; omega) ?_
        rintro rec x σ1 ⟨rfl, s, hs, rfl, hno⟩ ih
        unfold l8_quarrel_69
        rw [show (10 : Int32) = nI 10 from rfl]
        refine b_ite (fun c5 => ?_) (fun c5 => ?_)
        · rw [nI_leI (by omega) (by omega)] at c5
          exact hr_rt.mpr ⟨rfl, Or.inl ⟨rfl, fun s' q => hno s' (by omega)⟩⟩
        · rw [nI_leI (by omega) (by omega)] at c5
          refine b_hr (P := fun y σ' => σ' = σ1 ∧ ((y = .inr () ∧ ¬ (sb s ∧ ∃ w, w < 3 ∧ wb' w)) ∨ ∃ w, w < 3 ∧ y = .inl (.inl (10 * nI s + nI w)) ∧ sb s ∧ wb' w ∧ ∀ w', w' < w → ¬ wb' w')) ?_ ?_
          · refine hr_loop (fun x σ2 => σ2 = σ1 ∧ ∃ w, w ≤ 3 ∧ x = nI w ∧ ∀ w', w' < w → ¬ (sb s ∧ wb' w')) (fun x => 100 - x.toNatClampNeg) ⟨rfl, 0, by omega, rfl, fun s' q => by omega⟩ (by show 100 - _ < _; omega) ?_
            rintro rec2 x σ2 ⟨rfl, w, hw, rfl, hnw⟩ ih2
            unfold l8_quarrel_78
            rw [show (3 : Int32) = nI 3 from rfl]
            have hm2 : w < 3 → 100 - (nI w + 1).toNatClampNeg < 100 - (nI w).toNatClampNeg := fun _ => by rw [nI_1, nI_clamp (by omega), nI_clamp (by omega)]; omega
            refine b_ite (fun c6 => ?_) (fun c6 => ?_)
            · rw [nI_leI (by omega) (by omega)] at c6
              refine hr_rt.mpr ⟨rfl, Or.inl ⟨rfl, fun q => ?_⟩⟩
              obtain ⟨q1, w', q2, q3⟩ := q
              exact hnw w' (by omega) ⟨q1, q3⟩
            · rw [nI_leI (by omega) (by omega)] at c6
              have goon : ¬ (sb s ∧ wb' w) → Hr (rec2 (nI w + 1)) σ2 (fun y σ' => σ' = σ2 ∧ ((y = .inr () ∧ ¬ (sb s ∧ ∃ w, w < 3 ∧ wb' w)) ∨ ∃ w, w < 3 ∧ y = .inl (.inl (10 * nI s + nI w)) ∧ sb s ∧ wb' w ∧ ∀ w', w' < w → ¬ wb' w')) := by
                intro hq
                refine ih2 _ _ ⟨rfl, w + 1, by omega, nI_1 w, fun w' q => ?_⟩ (hm2 (by omega))
                by_cases e : w' = w
                · rw [e]; exact hq
                · exact hnw w' (by omega)
              refine (m_obj h).mpr ?_
              refine (b_eq (e8_isFor h hr hl ha)).mpr ?_
              refine b_ite (fun c7 => ?_) (fun c7 => ?_)
              · rw [bI_0, decide_eq_false_iff_not] at c7
                exact goon (fun q => c7 ⟨((esb s).mpr q.1).1, ((ewb w).mpr q.2).1⟩)
              · rw [bI_0, Bool.not_eq_false, decide_eq_true_eq] at c7
                refine (m_obj h).mpr ?_
                refine (b_eq (e8_isFor h hr hl hb)).mpr ?_
                refine b_ite (fun c8 => ?_) (fun c8 => ?_)
                · rw [bI_0, decide_eq_false_iff_not] at c8
                  exact goon (fun q => c8 ⟨((esb s).mpr q.1).2, ((ewb w).mpr q.2).2⟩)
                · rw [bI_0, Bool.not_eq_false, decide_eq_true_eq] at c8
                  have hs1 : sb s := (esb s).mp ⟨c7.1, c8.1⟩
                  exact hr_rt.mpr ⟨rfl, Or.inr ⟨w, by omega, rfl, hs1, (ewb w).mp ⟨c7.2, c8.2⟩, fun w' q z => hnw w' q ⟨hs1, z⟩⟩⟩
          · rintro y σ2 ⟨rfl, ⟨rfl, hq⟩ | ⟨w, hw, rfl, q1, q2, q3⟩⟩
            · rw [Sum.elim_inr]
              refine ih _ _ ⟨rfl, s + 1, by omega, nI_1 s, fun s' q => ?_⟩ ?_
              · by_cases e : s' = s
                · rw [e]; exact hq
                · exact hno s' (by omega)
              · rw [nI_1, nI_clamp (by omega), nI_clamp (by omega)]; omega
            · rw [Sum.elim_inl]
              exact hr_rt.mpr ⟨rfl, Or.inr ⟨s, w, by omega, hw, rfl, q1, q2, hno, q3⟩⟩
      · rintro y σ1 ⟨rfl, ⟨rfl, hq⟩ | ⟨s, w, hs, hw, rfl, q1, q2, q3, q4⟩⟩
        · rw [Sum.elim_inr]
          rcases sS with ⟨s1, s2⟩ | ⟨s, s1, s2, s3, s4⟩
          · rw [if_pos (Or.inl s1)]
            exact mq_rt rfl h hR
          · rcases sW with ⟨w1, w2⟩ | ⟨w, w1, w2, w3, w4⟩
            · rw [if_pos (Or.inr w1)]
              exact mq_rt rfl h hR
            · exact absurd ⟨s3, w, w1, w3⟩ (hq s s1)
        · rw [Sum.elim_inl]
          rcases sS with ⟨s1, s2⟩ | ⟨s', s1, s2, s3, s4⟩
          · exact absurd q1 (s2 s hs)
          · rcases sW with ⟨w1, w2⟩ | ⟨w', w1, w2, w3, w4⟩
            · exact absurd q2 (w2 w hw)
            · have es : s = s' := by
                rcases Nat.lt_trichotomy s s' with z | z | z
                · exact absurd q1 (s4 s z)
                · exact z
                · exact absurd ⟨s3, w, hw, q2⟩ (q3 s' z)
              have ew : w = w' := by
                rcases Nat.lt_trichotomy w w' with z | z | z
                · exact absurd q2 (w4 w z)
                · exact z
                · exact absurd w3 (q4 w' z)
              subst es
              subst ew
              rw [s2, w2, if_neg (fun q => q.elim (m1_nI (by omega)) (m1_nI (by omega)))]
              exact mq_rt rfl h hR
  · rw [nI_eq (by have := wa.1; omega) (by have := wb.1; omega)] at c3
    rw [if_pos (Or.inr c3)]
    exact mq_rt rfl h hR
end PUBC
