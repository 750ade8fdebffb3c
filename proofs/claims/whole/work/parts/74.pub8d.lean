/-! ===== the reference's calls: send ===== -/
theorem fnds_app (a b : List Lt) : fnds (a ++ b) = fnds a ++ fnds b := by unfold fnds; rw [List.flatMap_append]
theorem fnds_one (x : Lt) : fnds [x] = lR x := by simp [fnds]
section PUBD
variable {X : MX} {V : Nat → Int32} {M : Nat → Nat → Int32} {σ : AH} {A : St}
theorem mr_sent {X' : MX} {V' : Nat → Int32} {M' : Nat → Nat → Int32} {s t w : Nat} {x : Lt} (hR : MR A X V M) (hx : x.1 = (newL A s t w).1) (v0 : V' 0 = nI (aDay A)) (v1 : V' 1 = nI ((aLet A).length + 1)) (v2 : V' 2 = nI (aRul A).length) (v4 : V' 4 = 0) (hD : MD (addL A (newL A s t w)) M') (hr : RM M' (aRul A)) (ho : ∀ f, 34 ≤ f → f ≤ 38 → ∀ i, i ≠ (aLet A).length → M' f i = M f i) (e34 : M' 34 (aLet A).length = nI (lAct x)) (e35 : M' 35 (aLet A).length = lKind x) (e36 : M' 36 (aLet A).length = nI (lFate x)) (e37 : M' 37 (aLet A).length = nI (fnds (aLet A)).length) (e38 : M' 38 (aLet A).length = nI (lR x).length) (hF : FI X' V' M' (fnds (aLet A) ++ lR x)) : MR (addL A x) X' V' M' := by
  have h8 := hR.2.2.2.2.2.2.2.1
  refine ⟨v0, ?_, v2, v4, B3.nil, ⟨hD.1, hD.2.1, hD.2.2.1, ?_⟩, hr, ?_, ?_⟩
  · rw [v1]
    show _ = nI (aLet A ++ [x]).length
    rw [List.length_append]
    rfl
  · intro i y hy
    have hy : (aLet A ++ [x])[i]? = some y := hy
    have hq := hD.2.2.2 i
    by_cases hl : i < (aLet A).length
    · rw [List.getElem?_append_left hl] at hy
      exact hq y (by show (aLet A ++ [_])[i]? = _; rw [List.getElem?_append_left hl]; exact hy)
    · rw [List.getElem?_append_right (by omega)] at hy
      have hz := (List.getElem?_eq_some_iff.mp hy).1
      simp only [List.length_cons, List.length_nil] at hz
      have e : i = (aLet A).length := by omega
      rw [e, Nat.sub_self] at hy
      cases hy
      have := hq (newL A s t w) (by show (aLet A ++ [_])[i]? = _; rw [e, List.getElem?_append_right (Nat.le_refl _), Nat.sub_self]; rfl)
      show M' 29 i = nI x.1.2.2.2.2.length ∧ (∀ k c, x.1.2.2.2.2[k]? = some c → M' 28 (300 * i + k) = c) ∧ M' 30 i = nI x.1.1 ∧ M' 31 i = nI x.1.2.1 ∧ M' 32 i = nI x.1.2.2.1 ∧ M' 33 i = nI x.1.2.2.2.1
      rw [hx]
      exact this
  · intro i y hy
    have hy : (aLet A ++ [x])[i]? = some y := hy
    show M' 34 i = nI (lAct y) ∧ M' 35 i = lKind y ∧ M' 36 i = nI (lFate y) ∧ M' 37 i = nI (fnds ((aLet A ++ [x]).take i)).length ∧ M' 38 i = nI (lR y).length
    by_cases hl : i < (aLet A).length
    · rw [List.getElem?_append_left hl] at hy
      rw [List.take_append_of_le_length (by omega), ho 34 (by omega) (by omega) i (by omega), ho 35 (by omega) (by omega) i (by omega), ho 36 (by omega) (by omega) i (by omega), ho 37 (by omega) (by omega) i (by omega), ho 38 (by omega) (by omega) i (by omega)]
      exact h8 i y hy
    · rw [List.getElem?_append_right (by omega)] at hy
      have hz := (List.getElem?_eq_some_iff.mp hy).1
      simp only [List.length_cons, List.length_nil] at hz
      have e : i = (aLet A).length := by omega
      rw [e, Nat.sub_self] at hy
      cases hy
      rw [e, List.take_append_of_le_length (Nat.le_refl _), List.take_length]
      exact ⟨e34, e35, e36, e37, e38⟩
  · show FI X' V' M' (fnds (aLet A ++ [x]))
    rw [fnds_app, fnds_one]
    exact hF
theorem addL_dl {s t w : Nat} (hW : StW A) (hl : (aLet A).length < 60) (hs : s < 10) (ht : t < 10) (hw : w < 3) : DlW (addL A (newL A s t w)) := by
  obtain ⟨w1, w2, w3, w4, w5, w6, w7, w8, w9, w10⟩ := hW
  refine ⟨w3, w4, ?_, fun x hx => ?_, fun i j x y hij hx hy => ?_⟩
  · show (aLet A ++ [_]).length ≤ 60
    rw [List.length_append]
    simp only [List.length_cons, List.length_nil]
    omega
  · have hx : x ∈ aLet A ++ [_] := hx
    rw [List.mem_append] at hx
    rcases hx with hx | hx
    · have := w8 x hx
      exact ⟨this.1, this.2.1, this.2.2.1, this.2.2.2.1, this.2.2.2.2.1⟩
    · rw [List.mem_singleton] at hx
      subst hx
      exact ⟨hs, ht, hw, w1, w2⟩
  · have hx : (aLet A ++ [newL A s t w])[i]? = some x := hx
    have hy : (aLet A ++ [newL A s t w])[j]? = some y := hy
    by_cases hj : j < (aLet A).length
    · rw [List.getElem?_append_left hj] at hy
      rw [List.getElem?_append_left (by omega)] at hx
      exact w10 i j x y hij hx hy
    · rw [List.getElem?_append_right (by omega)] at hy
      have hz := (List.getElem?_eq_some_iff.mp hy).1
      simp only [List.length_cons, List.length_nil] at hz
      have e : j - (aLet A).length = 0 := by omega
      rw [e] at hy
      cases hy
      show lD x ≤ aDay A
      by_cases hi : i < (aLet A).length
      · rw [List.getElem?_append_left hi] at hx
        exact w9 x (List.mem_of_getElem? hx)
      · rw [List.getElem?_append_right (by omega)] at hx
        have hz := (List.getElem?_eq_some_iff.mp hx).1
        simp only [List.length_cons, List.length_nil] at hz
        have e : i - (aLet A).length = 0 := by omega
        rw [e] at hx
        cases hx
        exact Nat.le_refl _
theorem addL_fnds {s t w : Nat} : fnds (aLet (addL A (newL A s t w))) = fnds (aLet A) := by
  show fnds (aLet A ++ [newL A s t w]) = _
  rw [fnds_app, fnds_one]
  exact List.append_nil _
theorem d8_send {a b c : Int32} (h : MP X V M σ) (hR : MR A X V M) (hW : StW A) (hB : ∀ s t w, BdF (addL A (newL A s t w))) : Hr (f8_send (some 31) a b c) σ (MQm X (pSend A a b c)) := by
  have h60 := hW.2.2.2.2.2.2.1
  have htl := hW.2.1
  have hrl := hW.2.2.2.2.1
  unfold f8_send pSend
  refine (b_eq (e8_in _ _ _ _)).mpr ?_
  by_cases c1 : ¬ (0 ≤ a ∧ a ≤ 9)
  · rw [decide_eq_false c1, if_pos (show bI false = 0 from rfl), if_neg (fun q => c1 q.1.1)]
    exact mq_rt rfl h hR
  have c1 := Classical.not_not.mp c1
  rw [decide_eq_true c1, if_neg (show ¬ bI true = 0 by decide)]
  refine (b_eq (e8_in _ _ _ _)).mpr ?_
  by_cases c2 : ¬ (0 ≤ b ∧ b ≤ 9)
  · rw [decide_eq_false c2, if_pos (show bI false = 0 from rfl), if_neg (fun q => c2 q.1.2.1)]
    exact mq_rt rfl h hR
  have c2 := Classical.not_not.mp c2
  rw [decide_eq_true c2, if_neg (show ¬ bI true = 0 by decide)]
  refine (b_eq (e8_in _ _ _ _)).mpr ?_
  by_cases c3 : ¬ (0 ≤ c ∧ c ≤ 2)
  · rw [decide_eq_false c3, if_pos (show bI false = 0 from rfl), if_neg (fun q => c3 q.1.2.2)]
    exact mq_rt rfl h hR
  have c3 := Classical.not_not.mp c3
  rw [decide_eq_true c3, if_neg (show ¬ bI true = 0 by decide)]
  obtain ⟨q1, q2, q3, q4, q5, q6, q7, q8, q9⟩ := id hR
  refine (m_getI h (by decide) rfl).mpr ?_
  rw [q2, show (60 : Int32) = nI 60 from rfl]
  refine b_ite (fun c4 => ?_) (fun c4 => ?_)
  · rw [nI_eq (by omega) (by omega)] at c4
    rw [if_neg (by omega)]
    exact mq_rt rfl h hR
  rw [nI_eq (by omega) (by omega)] at c4
  rw [if_pos ⟨⟨c1, c2, c3⟩, by omega⟩]
  obtain ⟨s, hs, rfl⟩ := (in_nI (m := 9) (by decide)).mp c1
  obtain ⟨t, ht, rfl⟩ := (in_nI (m := 9) (by decide)).mp c2
  obtain ⟨w, hw, rfl⟩ := (in_nI (m := 2) (by decide)).mp c3
  rw [show tn (nI s) = s from nI_clamp (by omega), show tn (nI t) = t from nI_clamp (by omega), show tn (nI w) = w from nI_clamp (by omega)]
  have hDl := addL_dl (s := s) (t := t) (w := w) hW (by omega) (by omega) (by omega) (by omega)
  have hB1 := hB s t w
  have hF1 := addL_fnds (A := A) (s := s) (t := t) (w := w)
  have hxat : (aLet (addL A (newL A s t w)))[(aLet A).length]? = some (newL A s t w) := by
    show (aLet A ++ [_])[_]? = _
    rw [List.getElem?_append_right (Nat.le_refl _), Nat.sub_self]
    rfl
  have hll : (aLet A).length < (aLet (addL A (newL A s t w))).length := (List.getElem?_eq_some_iff.mp hxat).1
  have hlat := lAt_of hxat
  unfold sentL
  generalize hA1 : addL A (newL A s t w) = A1 at hDl hB1 hF1 hll hlat hxat ⊢
  generalize hl : (aLet A).length = l at *
  refine (m_getI h (by decide) rfl).mpr ?_
  refine (m_getI h (by decide) rfl).mpr ?_
  rw [q2, nI_1]
  refine m_putI h (by decide) rfl fun σ1 h1 => ?_
  refine b_hr (P := fun _ σ' => ∃ M', MP X (upd V 1 (nI (l + 1))) M' σ' ∧ Kx (fun f => decide (f = 28)) V M V M' ∧ (∀ j, (j < 300 * l ∨ 300 * l + 300 ≤ j) → M' 28 j = M 28 j) ∧ ∀ k c, (aTape A)[k]? = some c → M' 28 (300 * l + k) = c) ?_ ?_
  · refine hr_loop (fun x σ3 => ∃ (k : Nat) (M3 : Nat → Nat → Int32), x = nI k ∧ k ≤ (aTape A).length ∧ MP X (upd V 1 (nI (l + 1))) M3 σ3 ∧ Kx (fun f => decide (f = 28)) V M V M3 ∧ (∀ j, (j < 300 * l ∨ 300 * l + 300 ≤ j) → M3 28 j = M 28 j) ∧ ∀ k' c, k' < k → (aTape A)[k']? = some c → M3 28 (300 * l + k') = c) (fun x => 1000 - x.toNatClampNeg) ⟨0, M, rfl, Nat.zero_le _, h1, Kx.rf, fun _ _ => rfl, fun k' c q => by omega⟩ (by show 1000 - _ < _; omega) ?_
    rintro rec x σ3 ⟨k, M3, rfl, hk, h3, hK3, ho, hin⟩ ih
    unfold l8_send_59
    refine (m_getI h3 (by decide) rfl).mpr ?_
    rw [show upd V 1 (nI (l + 1)) 4 = V 4 from rfl, q4]
    refine b_ite (fun c => ?_) (fun c => ?_)
    · rw [nI_leI (by omega) (by omega)] at c
      refine hr_rt.mpr ⟨M3, h3, hK3, ho, fun k' c' hq => hin k' c' ?_ hq⟩
      have := (List.getElem?_eq_some_iff.mp hq).1
      omega
    · rw [nI_leI (by omega) (by omega)] at c
      obtain ⟨x, hx⟩ : ∃ x, (aTape A)[k]? = some x := ⟨_, List.getElem?_eq_getElem (by omega)⟩
      refine (m_getR h3 rfl).mpr ?_
      refine (m_getR h3 rfl).mpr ?_
      refine (m_ld (n := 300) h3 rfl rfl rfl rfl (by omega)).mpr ?_
      rw [hK3.2 3 rfl, q5 k x hx]
      refine m_st (n := 18000) h3 rfl rfl rfl (ix300 _ _) (by omega) fun σ4 h4 => ?_
      refine ih _ _ ⟨k + 1, _, nI_1 k, by omega, h4, hK3.m rfl, fun j hj => ?_, fun k' c' z1 z2 => ?_⟩ ?_
      · show upd (M3 28) (300 * l + k) x j = _
        simp only [upd, if_neg (show j ≠ 300 * l + k by omega)]
        exact ho j hj
      · show upd (M3 28) (300 * l + k) x (300 * l + k') = _
        by_cases e : k' = k
        · subst e
          rw [hx] at z2
          simp only [upd, if_true]
          exact Option.some.inj z2
        · simp only [upd, if_neg (show 300 * l + k' ≠ 300 * l + k by omega)]
          exact hin k' c' (by omega) z2
      · rw [nI_1, nI_clamp (by omega), nI_clamp (by omega)]; omega
  rintro _ σ2 ⟨M2, h2, hK2, ho2, hin2⟩
  refine (m_getR h2 rfl).mpr ?_
  refine (m_getI h2 (by decide) rfl).mpr ?_
  rw [show upd V 1 (nI (l + 1)) 4 = V 4 from rfl, q4]
  refine m_st (n := 60) h2 rfl rfl rfl rfl (by omega) fun σ3 h3 => ?_
  refine m_putI h3 (by decide) rfl fun σ4 h4 => ?_
  refine (m_getR h4 rfl).mpr ?_
  refine m_st (n := 60) h4 rfl rfl rfl rfl (by omega) fun σ5 h5 => ?_
  refine (m_getR h5 rfl).mpr ?_
  refine m_st (n := 60) h5 rfl rfl rfl rfl (by omega) fun σ6 h6 => ?_
  refine (m_getR h6 rfl).mpr ?_
  refine m_st (n := 60) h6 rfl rfl rfl rfl (by omega) fun σ7 h7 => ?_
  refine (m_getR h7 rfl).mpr ?_
  refine (m_getI h7 (by decide) rfl).mpr ?_
  rw [show upd (upd V 1 (nI (l + 1))) 4 0 0 = V 0 from rfl, q1]
  refine m_st (n := 60) h7 rfl rfl rfl rfl (by omega) fun σ8 h8 => ?_
  generalize hV8 : upd (upd V 1 (nI (l + 1))) 4 0 = V8 at h8
  generalize hM8 : upm (upm (upm (upm (upm M2 29 l (nI (aTape A).length)) 30 l (nI s)) 31 l (nI t)) 32 l (nI w)) 33 l (nI (aDay A)) = M8 at h8
  have ek : ∀ f, f < 28 ∨ 33 < f → M8 f = M f := fun f hf => by
    rw [← hM8, upm_n (by omega), upm_n (by omega), upm_n (by omega), upm_n (by omega), upm_n (by omega)]
    exact hK2.2 f (by simp only [decide_eq_false_iff_not]; omega)
  have eo : ∀ f i, i ≠ l → 29 ≤ f → f ≤ 33 → M8 f i = M f i := fun f i hi h1 h2 => by
    rw [← hM8]
    simp only [upm_o hi]
    rw [hK2.2 f (by simp only [decide_eq_false_iff_not]; omega)]
  have hD8 : MD A1 M8 := by
    rw [← hA1]
    refine ⟨fun i hi => ?_, fun i hi => ?_, fun i hi => ?_, fun i x hx => ?_⟩
    · show KT M8 i (aKept A i)
      unfold KT
      rw [ek 15 (by omega), ek 16 (by omega), ek 17 (by omega), ek 18 (by omega)]
      exact q6.1 i hi
    · show KM M8 i (aKind A i)
      unfold KM MK
      rw [ek 20 (by omega), ek 21 (by omega), ek 22 (by omega), ek 23 (by omega), ek 24 (by omega), ek 25 (by omega), ek 26 (by omega)]
      exact q6.2.1 i hi
    · show M8 27 i = _
      rw [ek 27 (by omega)]
      exact q6.2.2.1 i hi
    · have hx : (aLet A ++ [newL A s t w])[i]? = some x := hx
      by_cases hil : i < l
      · rw [List.getElem?_append_left (by omega)] at hx
        have := q6.2.2.2 i x hx
        have hbl := (hW.2.2.2.2.2.2.2.1 x (List.mem_of_getElem? hx)).2.2.2.2.1
        rw [eo 29 i (by omega) (by omega) (by omega), eo 30 i (by omega) (by omega) (by omega), eo 31 i (by omega) (by omega) (by omega), eo 32 i (by omega) (by omega) (by omega), eo 33 i (by omega) (by omega) (by omega)]
        refine ⟨this.1, fun k c hk => ?_, this.2.2⟩
        have hkk := (List.getElem?_eq_some_iff.mp hk).1
        rw [← hM8]
        show M2 28 _ = c
        rw [ho2 _ (by omega)]
        exact this.2.1 k c hk
      · rw [List.getElem?_append_right (by omega)] at hx
        have hz := (List.getElem?_eq_some_iff.mp hx).1
        simp only [List.length_cons, List.length_nil] at hz
        have e : i = l := by omega
        rw [e, hl, Nat.sub_self] at hx
        cases hx
        rw [e, ← hM8]
        refine ⟨?_, hin2, ?_, ?_, ?_, ?_⟩
        · show upd (M2 29) l _ l = _
          simp only [upd, if_true]
          rfl
        · show upd (M2 30) l _ l = _
          simp only [upd, if_true]
          rfl
        · show upd (M2 31) l _ l = _
          simp only [upd, if_true]
          rfl
        · show upd (M2 32) l _ l = _
          simp only [upd, if_true]
          rfl
        · show upd (M2 33) l _ l = _
          simp only [upd, if_true]
          rfl
  have hF8 : FI X V8 M8 (fnds (aLet A)) := by
    unfold FI
    rw [ek 39 (by omega), ek 40 (by omega), ek 41 (by omega), ← hV8]
    exact q9
  have hr8 : RM M8 (aRul A) := by
    unfold RM
    rw [ek 43 (by omega), ek 44 (by omega), ek 45 (by omega), ek 46 (by omega)]
    exact q7
  refine (m_obj h8).mpr ?_
  refine b_hr (h8_readLetter h8 hD8 hDl hll) ?_
  rintro _ σ9 ⟨V9, M9, h9, hK9, hR9⟩
  have hK9' := (hK9.mono scr_Q).mono pQ_SF
  refine (m_obj h9).mpr ?_
  refine b_hr (h8_ruleFor (rs := aRul A) h9 (hD8.kp hK9') hDl hll hR9 (hF8.kS (hK9.mono scr_Q)) (fun k _ => by have := hB1 l k; rw [hF1] at this; exact this) (hr8.kp hK9') (by rw [hK9.1 2 rfl, ← hV8]; exact q3) (by omega) hW.2.2.2.2.2.1) ?_
  rintro r σ10 ⟨hres, X10, V10, M10, h10, hG10, hK10, hF10, hR10⟩
  have hKa := hK9'.tr hK10
  have hD10 := hD8.kp hKa
  have hr10 := hr8.kp hKa
  have hv10 : ∀ f, f = 0 ∨ f = 1 ∨ f = 2 ∨ f = 4 → V10 f = V8 f := fun f hf => hKa.1 f (by simp only [pSF, decide_eq_false_iff_not]; omega)
  have em10 : ∀ f, 34 ≤ f → f ≤ 38 → M10 f = M f := fun f h1 h2 => by
    rw [hKa.2 f (by simp only [pSF, decide_eq_false_iff_not]; omega), ek f (by omega)]
  refine (m_getR h10 rfl).mpr ?_
  refine b_hr (P := fun y σ' => σ' = σ10 ∧ y = nI (actO (sel A1 (aRul A) l)) ∧ actO (sel A1 (aRul A) l) ≤ 4) ?_ ?_
  · rcases hres with ⟨rfl, hq⟩ | ⟨i, rl, hi, rfl, hq⟩
    · rw [if_pos rfl, hq]
      exact hr_rt.mpr ⟨rfl, rfl, Nat.zero_le _⟩
    · have hil := (List.getElem?_eq_some_iff.mp hi).1
      rw [if_neg (m1_nI (by omega))]
      refine (m_getR h10 rfl).mpr ?_
      refine (m_ld (n := 21) h10 rfl rfl rfl rfl (by omega)).mpr ?_
      rw [(hr10 i rl hi).2.2.2, hq]
      exact hr_rt.mpr ⟨rfl, rfl, (hW.2.2.2.2.2.1 rl (List.mem_of_getElem? hi)).2.1⟩
  rintro y1 σ11 ⟨rfl, rfl, hact⟩
  refine m_st (n := 60) h10 rfl rfl rfl rfl (by omega) fun σ12 h12 => ?_
  refine (m_getR h12 rfl).mpr ?_
  refine b_hr (P := fun y σ' => σ' = σ12 ∧ y = (match sel A1 (aRul A) l with
    | none => -1
    | some r => nI (rK r))) ?_ ?_
  · rcases hres with ⟨rfl, hq⟩ | ⟨i, rl, hi, rfl, hq⟩
    · rw [if_pos rfl, hq]
      exact hr_rt.mpr ⟨rfl, rfl⟩
    · have hil := (List.getElem?_eq_some_iff.mp hi).1
      rw [if_neg (m1_nI (by omega))]
      refine (m_getR h12 rfl).mpr ?_
      refine (m_ld (n := 21) h12 rfl rfl rfl rfl (by omega)).mpr ?_
      rw [show upm M10 34 l (nI (actO (sel A1 (aRul A) l))) 45 = M10 45 from rfl, (hr10 i rl hi).2.2.1, hq]
      exact hr_rt.mpr ⟨rfl, rfl⟩
  rintro y2 σ13 ⟨rfl, rfl⟩
  refine m_st (n := 60) h12 rfl rfl rfl rfl (by omega) fun σ14 h14 => ?_
  refine (m_getR h14 rfl).mpr ?_
  refine (m_getR h14 rfl).mpr ?_
  refine (m_ld (n := 60) h14 rfl rfl rfl rfl (by omega)).mpr ?_
  refine b_hr (P := fun y σ' => σ' = σ14 ∧ y = nI (if actO (sel A1 (aRul A) l) ≤ 2 then 0 else 1)) ?_ ?_
  · show Hr (if upd (M10 34) l (nI (actO (sel A1 (aRul A) l))) l ≤ 2 then rt 0 else rt 1) _ _
    simp only [upd, if_true]
    rw [show (2 : Int32) = nI 2 from rfl]
    refine b_ite (fun c => ?_) (fun c => ?_)
    · rw [nI_leI (by omega) (by omega)] at c
      rw [if_pos c]
      exact hr_rt.mpr ⟨rfl, rfl⟩
    · rw [nI_leI (by omega) (by omega)] at c
      rw [if_neg c]
      exact hr_rt.mpr ⟨rfl, rfl⟩
  rintro y3 σ15 ⟨rfl, rfl⟩
  refine m_st (n := 60) h14 rfl rfl rfl rfl (by omega) fun σ16 h16 => ?_
  refine (m_getR h16 rfl).mpr ?_
  refine (m_getI h16 (by decide) rfl).mpr ?_
  rw [hF10.1]
  refine m_st (n := 60) h16 rfl rfl rfl rfl (by omega) fun σ17 h17 => ?_
  refine (m_getR h17 rfl).mpr ?_
  generalize hM17 : upm (upm (upm (upm M10 34 l (nI (actO (sel A1 (aRul A) l)))) 35 l (match sel A1 (aRul A) l with
    | none => -1
    | some r => nI (rK r))) 36 l (nI (if actO (sel A1 (aRul A) l) ≤ 2 then 0 else 1))) 37 l (nI (fnds (aLet A)).length) = M17 at h17
  have e17 : ∀ f, f < 34 ∨ 37 < f → M17 f = M10 f := fun f hf => by
    rw [← hM17, upm_n (by omega), upm_n (by omega), upm_n (by omega), upm_n (by omega)]
  have o17 : ∀ f, 34 ≤ f → f ≤ 38 → ∀ i, i ≠ l → M17 f i = M f i := fun f h1 h2 i hi => by
    rw [← hM17]
    simp only [upm_o hi]
    rw [em10 f h1 h2]
  have v34 : M17 34 l = nI (actO (sel A1 (aRul A) l)) := by
    rw [← hM17]
    show upd (M10 34) l _ l = _
    simp only [upd, if_true]
  have v35 : M17 35 l = (match sel A1 (aRul A) l with
    | none => -1
    | some r => nI (rK r)) := by
    rw [← hM17]
    show upd (M10 35) l _ l = _
    simp only [upd, if_true]
  have v36 : M17 36 l = nI (if actO (sel A1 (aRul A) l) ≤ 2 then 0 else 1) := by
    rw [← hM17]
    show upd (M10 36) l _ l = _
    simp only [upd, if_true]
  have v37 : M17 37 l = nI (fnds (aLet A)).length := by
    rw [← hM17]
    show upd (M10 37) l _ l = _
    simp only [upd, if_true]
  have hD17 : MD A1 M17 := by
    unfold MD KT KM LH MK
    rw [e17 15 (by omega), e17 16 (by omega), e17 17 (by omega), e17 18 (by omega), e17 20 (by omega), e17 21 (by omega), e17 22 (by omega), e17 23 (by omega), e17 24 (by omega), e17 25 (by omega), e17 26 (by omega), e17 27 (by omega), e17 28 (by omega), e17 29 (by omega), e17 30 (by omega), e17 31 (by omega), e17 32 (by omega), e17 33 (by omega)]
    exact hD10
  have hr17 : RM M17 (aRul A) := by
    unfold RM
    rw [e17 43 (by omega), e17 44 (by omega), e17 45 (by omega), e17 46 (by omega)]
    exact hr10
  have hF17 : FI X10 V10 M17 (fnds (aLet A)) := by
    unfold FI
    rw [e17 39 (by omega), e17 40 (by omega), e17 41 (by omega)]
    exact hF10
  have hR17 : RD V10 M17 (lB (lAt A1 l)) := by
    unfold RD WM NM
    rw [e17 5 (by omega), e17 6 (by omega), e17 7 (by omega), e17 9 (by omega), e17 10 (by omega), e17 12 (by omega), e17 13 (by omega)]
    exact hR10
  have u0 : V10 0 = nI (aDay A) := by rw [hv10 0 (by omega), ← hV8]; exact q1
  have u1 : V10 1 = nI (l + 1) := by rw [hv10 1 (by omega), ← hV8]; rfl
  have u2 : V10 2 = nI (aRul A).length := by rw [hv10 2 (by omega), ← hV8]; exact q3
  have u4 : V10 4 = 0 := by rw [hv10 4 (by omega), ← hV8]; rfl
  rcases hres with ⟨rfl, hq⟩ | ⟨i, rl, hi, rfl, hq⟩
  · rw [if_pos rfl]
    rw [hq] at v34 v35 v36 ⊢
    refine m_st (n := 60) h17 rfl rfl rfl rfl (by omega) fun σ18 h18 => ?_
    refine hr_rt.mpr ⟨rfl, X10, V10, _, h18, hG10, ?_⟩
    show MR (addL A (newL A s t w)) _ _ _
    subst hl
    refine mr_sent (x := newL A s t w) hR rfl u0 u1 u2 u4 ?_ hr17 (fun f h1 h2 i hi => ?_) v34 v35 v36 v37 ?_ ?_
    · rw [hA1]; exact hD17
    · rw [upm_o hi]; exact o17 f h1 h2 i hi
    · show upd (M17 38) _ 0 _ = _
      simp only [upd, if_true]
      rfl
    · show FI X10 V10 M17 (fnds (aLet A) ++ [])
      rw [List.append_nil]
      exact hF17
  · have hil := (List.getElem?_eq_some_iff.mp hi).1
    have hrw := hW.2.2.2.2.2.1 rl (List.mem_of_getElem? hi)
    rw [if_neg (m1_nI (by omega))]
    rw [hq] at v34 v35 v36 ⊢
    refine (m_getR h17 rfl).mpr ?_
    refine (m_ld (n := 21) h17 rfl rfl rfl rfl (by omega)).mpr ?_
    rw [(hr17 i rl hi).2.2.1]
    refine (m_obj h17).mpr ?_
    rw [show (1 : Int32) = bI true from rfl]
    refine b_hr (h8_find (b := true) h17 hD17 hDl hll hrw.1 hR17 hF17 (by have := hB1 l (rK rl); rw [hF1] at this; exact this)) ?_
    rintro r σ18 ⟨rfl, X18, V18, M18, h18, hG18, hK18, hF18, -⟩
    rw [← hG18.2.2.2.2.2 38 (by decide) (by decide) (by decide)]
    refine m_st (n := 60) h18 rfl rfl rfl rfl (by omega) fun σ19 h19 => ?_
    refine hr_rt.mpr ⟨rfl, X18, V18, _, h19, hG10.tr hG18, ?_⟩
    show MR (addL A (dealt A1 l (newL A s t w) (some rl))) _ _ _
    subst hl
    refine mr_sent (x := dealt A1 _ (newL A s t w) (some rl)) hR rfl ?_ ?_ ?_ ?_ ?_ ?_ (fun f h1 h2 i hi => ?_) ?_ ?_ ?_ ?_ ?_ ?_
    · rw [hK18.1 0 rfl]; exact u0
    · rw [hK18.1 1 rfl]; exact u1
    · rw [hK18.1 2 rfl]; exact u2
    · rw [hK18.1 4 rfl]; exact u4
    · rw [hA1]; exact (show MD A1 M18 from hD17.kp hK18)
    · exact (show RM M18 (aRul A) from hr17.kp hK18)
    · rw [upm_o hi, hK18.2 f (by simp only [pSF, decide_eq_false_iff_not]; omega)]; exact o17 f h1 h2 i hi
    · show M18 34 _ = _
      rw [hK18.2 34 rfl]; exact v34
    · show M18 35 _ = _
      rw [hK18.2 35 rfl]; exact v35
    · show M18 36 _ = _
      rw [hK18.2 36 rfl]; exact v36
    · show M18 37 _ = _
      rw [hK18.2 37 rfl]; exact v37
    · show upd (M18 38) _ _ _ = _
      simp only [upd, if_true]
      rfl
    · exact hF18
end PUBD
