/-! ===== the reference's calls: keep, mark, near, count, pieces, allow ===== -/
theorem B3.nil {b : Nat → Int32} : B3 b [] := fun k c hk => by simp at hk
theorem upm_o {M : Nat → Nat → Int32} {f k f' j : Nat} {x : Int32} (h : j ≠ k) : upm M f k x f' j = M f' j := by
  unfold upm
  split
  · rename_i e
    subst e
    simp [upd, h]
  · rfl
section PUBB
variable {X : MX} {V : Nat → Int32} {M : Nat → Nat → Int32} {σ : AH} {A : St}
theorem d8_keep {t : Int32} (h : MP X V M σ) (hR : MR A X V M) (hW : StW A) : Hr (f8_keep (some 31) t) σ (MQm X (pKeep A t)) := by
  have htl := hW.2.1
  unfold f8_keep pKeep
  refine (b_eq (e8_in _ _ _ _)).mpr ?_
  by_cases cc : ¬ (0 ≤ t ∧ t ≤ 7)
  · rw [decide_eq_false cc, if_pos (show bI false = 0 from rfl), if_neg cc]
    exact mq_rt rfl h hR
  have cc := Classical.not_not.mp cc
  obtain ⟨i, hi, rfl⟩ := (in_nI (m := 7) (by decide)).mp cc
  rw [decide_eq_true cc, if_neg (show ¬ bI true = 0 by decide), if_pos cc, show tn (nI i) = i from nI_clamp (by omega)]
  obtain ⟨r1, r2, r3, r4, r5, r6, r7, r8, r9⟩ := id hR
  generalize hxs : aTape A = xs at r4 r5 htl
  have hlu := ut_le xs
  have hul := ut_len xs
  have hcx := wds_cnt xs
  refine (m_getR h rfl).mpr ?_
  refine (m_getI h (by decide) rfl).mpr ?_
  refine (m_obj h).mpr ?_
  refine b_hr (h8_read (xs := xs) (f0 := 3) (off := 0) (n0 := 300) h rfl rfl rfl rfl (fun k c hk => by rw [Nat.zero_add]; exact r5 k c hk) (by omega) (by omega) htl rfl r4) ?_
  rintro _ σ1 ⟨V1, M1, h1, hK1, hRD⟩
  refine m_putI h1 (by decide) rfl fun σ2 h2 => ?_
  obtain ⟨d1, d2, d3, d4, d5, d6⟩ := hRD
  refine b_hr (P := fun _ σ' => ∃ M', MP X (upd V1 4 0) M' σ' ∧ Kx (fun f => decide (f = 15)) V1 M1 V1 M' ∧ (∀ j, (j < 300 * i ∨ 300 * i + 300 ≤ j) → M' 15 j = M1 15 j) ∧ ∀ k c, (bts xs)[k]? = some c → M' 15 (300 * i + k) = c) ?_ ?_
  · refine hr_loop (fun x σ3 => ∃ (k : Nat) (M3 : Nat → Nat → Int32), x = nI k ∧ k ≤ (ut xs).length ∧ MP X (upd V1 4 0) M3 σ3 ∧ Kx (fun f => decide (f = 15)) V1 M1 V1 M3 ∧ (∀ j, (j < 300 * i ∨ 300 * i + 300 ≤ j) → M3 15 j = M1 15 j) ∧ ∀ k' c, k' < k → (bts xs)[k']? = some c → M3 15 (300 * i + k') = c) (fun x => 1000 - x.toNatClampNeg) ⟨0, M1, rfl, Nat.zero_le _, h2, Kx.rf, fun _ _ => rfl, fun k' c q => by omega⟩ (by show 1000 - _ < _; omega) ?_
    rintro rec x σ3 ⟨k, M3, rfl, hk, h3, hK3, ho, hin⟩ ih
    unfold l8_keep_32
    refine (m_getI h3 (by decide) rfl).mpr ?_
    rw [show upd V1 4 0 8 = V1 8 from rfl, d1]
    refine b_ite (fun c => ?_) (fun c => ?_)
    · rw [nI_leI (by omega) (by omega)] at c
      refine hr_rt.mpr ⟨M3, h3, hK3, ho, fun k' c' hq => hin k' c' ?_ hq⟩
      have := (List.getElem?_eq_some_iff.mp hq).1
      omega
    · rw [nI_leI (by omega) (by omega)] at c
      obtain ⟨x, hx⟩ : ∃ x, (ut xs)[k]? = some x := ⟨_, List.getElem?_eq_getElem (by omega)⟩
      have hm := (d2 k x hx).1
      rw [Nat.zero_add] at hm
      refine (m_getR h3 rfl).mpr ?_
      refine (m_getR h3 rfl).mpr ?_
      refine (m_ld (n := 300) h3 rfl rfl rfl rfl (by omega)).mpr ?_
      rw [hK3.2 5 rfl, hm]
      refine (b_eq (e8_small _ _)).mpr ?_
      refine m_st (n := 2400) h3 rfl rfl rfl (ix300 _ _) (by omega) fun σ4 h4 => ?_
      refine ih _ _ ⟨k + 1, _, nI_1 k, by omega, h4, hK3.m rfl, fun j hj => ?_, fun k' c' q1 q2 => ?_⟩ ?_
      · show upd (M3 15) (300 * i + k) (sm x.1) j = _
        simp only [upd, if_neg (show j ≠ 300 * i + k by omega)]
        exact ho j hj
      · show upd (M3 15) (300 * i + k) (sm x.1) (300 * i + k') = _
        by_cases e : k' = k
        · subst e
          rw [ut_bts hx] at q2
          simp only [upd, if_true]
          exact Option.some.inj q2
        · simp only [upd, if_neg (show 300 * i + k' ≠ 300 * i + k by omega)]
          exact hin k' c' (by omega) q2
      · rw [nI_1, nI_clamp (by omega), nI_clamp (by omega)]; omega
  · rintro _ σ3 ⟨M3, h3, hK3, ho, hin⟩
    refine b_hr (P := fun _ σ' => ∃ M', MP X (upd V1 4 0) M' σ' ∧ Kx (fun f => decide (f = 16 ∨ f = 17)) V1 M3 V1 M' ∧ (∀ j, (j < 300 * i ∨ 300 * i + 300 ≤ j) → M' 16 j = M3 16 j ∧ M' 17 j = M3 17 j) ∧ ∀ w p, (wds xs)[w]? = some p → M' 16 (300 * i + w) = nI p.1 ∧ M' 17 (300 * i + w) = nI (p.2 - 1)) ?_ ?_
    · refine hr_loop (fun x σ4 => ∃ (k : Nat) (M4 : Nat → Nat → Int32), x = nI k ∧ k ≤ (wds xs).length ∧ MP X (upd V1 4 0) M4 σ4 ∧ Kx (fun f => decide (f = 16 ∨ f = 17)) V1 M3 V1 M4 ∧ (∀ j, (j < 300 * i ∨ 300 * i + 300 ≤ j) → M4 16 j = M3 16 j ∧ M4 17 j = M3 17 j) ∧ ∀ w p, w < k → (wds xs)[w]? = some p → M4 16 (300 * i + w) = nI p.1 ∧ M4 17 (300 * i + w) = nI (p.2 - 1)) (fun x => 1000 - x.toNatClampNeg) ⟨0, M3, rfl, Nat.zero_le _, h3, Kx.rf, fun _ _ => ⟨rfl, rfl⟩, fun w p q => by omega⟩ (by show 1000 - _ < _; omega) ?_
      rintro rec x σ4 ⟨k, M4, rfl, hk, h4, hK4, ho4, hin4⟩ ih
      unfold l8_keep_69
      refine (m_getI h4 (by decide) rfl).mpr ?_
      rw [show upd V1 4 0 11 = V1 11 from rfl, d3]
      refine b_ite (fun c => ?_) (fun c => ?_)
      · rw [nI_leI (by omega) (by omega)] at c
        refine hr_rt.mpr ⟨M4, h4, hK4, ho4, fun w p hq => hin4 w p ?_ hq⟩
        have := (List.getElem?_eq_some_iff.mp hq).1
        omega
      · rw [nI_leI (by omega) (by omega)] at c
        obtain ⟨p, hp⟩ : ∃ x, (wds xs)[k]? = some x := ⟨_, List.getElem?_eq_getElem (by omega)⟩
        have hwp := d4 k p hp
        refine (m_getR h4 rfl).mpr ?_
        refine (m_getR h4 rfl).mpr ?_
        refine (m_ld (n := 300) h4 rfl rfl rfl rfl (by omega)).mpr ?_
        rw [hK4.2 9 rfl, hK3.2 9 rfl, hwp.1]
        refine m_st (n := 2400) h4 rfl rfl rfl (ix300 _ _) (by omega) fun σ5 h5 => ?_
        refine (m_getR h5 rfl).mpr ?_
        refine (m_getR h5 rfl).mpr ?_
        refine (m_ld (n := 300) h5 rfl rfl rfl rfl (by omega)).mpr ?_
        rw [show upm M4 16 (300 * i + k) (nI p.1) 10 = M4 10 from rfl, hK4.2 10 rfl, hK3.2 10 rfl, hwp.2]
        refine m_st (n := 2400) h5 rfl rfl rfl (ix300 _ _) (by omega) fun σ6 h6 => ?_
        refine ih _ _ ⟨k + 1, _, nI_1 k, by omega, h6, (hK4.m rfl).m rfl, fun j hj => ?_, fun w p' q1 q2 => ?_⟩ ?_
        · show upd (M4 16) (300 * i + k) _ j = _ ∧ upd (M4 17) (300 * i + k) _ j = _
          simp only [upd, if_neg (show j ≠ 300 * i + k by omega)]
          exact ho4 j hj
        · show upd (M4 16) (300 * i + k) _ (300 * i + w) = _ ∧ upd (M4 17) (300 * i + k) _ (300 * i + w) = _
          by_cases e : w = k
          · subst e
            rw [hp] at q2
            cases q2
            simp only [upd, if_true]
            exact ⟨trivial, trivial⟩
          · simp only [upd, if_neg (show 300 * i + w ≠ 300 * i + k by omega)]
            exact hin4 w p' (by omega) q2
        · rw [nI_1, nI_clamp (by omega), nI_clamp (by omega)]; omega
    · rintro _ σ4 ⟨M4, h4, hK4, ho4, hin4⟩
      refine (m_getR h4 rfl).mpr ?_
      refine (m_getI h4 (by decide) rfl).mpr ?_
      rw [show upd V1 4 0 11 = V1 11 from rfl, d3]
      refine m_st (n := 8) h4 rfl rfl rfl rfl (by omega) fun σ5 h5 => ?_
      refine (m_getI h5 (by decide) rfl).mpr ?_
      rw [show upd V1 4 0 11 = V1 11 from rfl, d3]
      refine mq_rt rfl h5 ?_
      have hRQ := hR.kQ (hK1.mono scr_Q)
      obtain ⟨q1, q2, q3, q4, q5, q6, q7, q8, q9⟩ := hRQ
      have e27 : M4 27 = M1 27 := (hK4.2 27 rfl).trans (hK3.2 27 rfl)
      refine ⟨q1, q2, q3, ?_, B3.nil, ⟨fun j hj => ?_, fun j hj => ?_, fun j hj => ?_, ?_⟩, ?_, ?_, ?_⟩
      · rfl
      · show KT (upm M4 18 i (nI (wds xs).length)) j (upF (aKept A) i xs j)
        by_cases e : j = i
        · subst e
          simp only [upF, if_true]
          refine ⟨by simp [upm, upd], ?_, ?_⟩
          · intro k c hk
            show M4 15 _ = c
            rw [hK4.2 15 rfl]
            exact hin k c hk
          · exact hin4
        · simp only [upF, if_neg e]
          have hkl := hW.2.2.1 j
          have hT := q6.1 j hj
          have hbt := bts_len (aKept A j)
          have htt := TXT_len (aKept A j)
          have hct := wds_cnt (aKept A j)
          refine ⟨?_, ?_, ?_⟩
          · show upd (M4 18) i _ j = _
            simp only [upd, if_neg e]
            rw [hK4.2 18 rfl, hK3.2 18 rfl]
            exact hT.1
          · intro k c hk
            have hkk := (List.getElem?_eq_some_iff.mp hk).1
            show M4 15 _ = c
            rw [hK4.2 15 rfl, ho _ (by omega)]
            exact hT.2.1 k c hk
          · intro w p hw
            have hww := (List.getElem?_eq_some_iff.mp hw).1
            have := ho4 (300 * j + w) (by omega)
            show M4 16 _ = _ ∧ M4 17 _ = _
            rw [this.1, this.2, hK3.2 16 rfl, hK3.2 17 rfl]
            exact hT.2.2 w p hw
      · show KM M4 j (aKind A j)
        unfold KM MK
        rw [hK4.2 20 rfl, hK4.2 21 rfl, hK4.2 22 rfl, hK4.2 23 rfl, hK4.2 24 rfl, hK4.2 25 rfl, hK4.2 26 rfl, hK3.2 20 rfl, hK3.2 21 rfl, hK3.2 22 rfl, hK3.2 23 rfl, hK3.2 24 rfl, hK3.2 25 rfl, hK3.2 26 rfl]
        exact q6.2.1 j hj
      · show M4 27 j = bI (aAll A j)
        rw [e27]
        exact q6.2.2.1 j hj
      · show LH M4 (aLet A)
        unfold LH
        rw [hK4.2 28 rfl, hK4.2 29 rfl, hK4.2 30 rfl, hK4.2 31 rfl, hK4.2 32 rfl, hK4.2 33 rfl, hK3.2 28 rfl, hK3.2 29 rfl, hK3.2 30 rfl, hK3.2 31 rfl, hK3.2 32 rfl, hK3.2 33 rfl]
        exact q6.2.2.2
      · show RM M4 (aRul A)
        unfold RM
        rw [hK4.2 43 rfl, hK4.2 44 rfl, hK4.2 45 rfl, hK4.2 46 rfl, hK3.2 43 rfl, hK3.2 44 rfl, hK3.2 45 rfl, hK3.2 46 rfl]
        exact q7
      · show LXm M4 (aLet A)
        unfold LXm
        rw [hK4.2 34 rfl, hK4.2 35 rfl, hK4.2 36 rfl, hK4.2 37 rfl, hK4.2 38 rfl, hK3.2 34 rfl, hK3.2 35 rfl, hK3.2 36 rfl, hK3.2 37 rfl, hK3.2 38 rfl]
        exact q8
      · show FI X V1 M4 (fnds (aLet A))
        unfold FI
        rw [hK4.2 39 rfl, hK4.2 40 rfl, hK4.2 41 rfl, hK3.2 39 rfl, hK3.2 40 rfl, hK3.2 41 rfl]
        exact q9
def pK : Nat → Bool := fun f => decide (20 ≤ f ∧ f ≤ 26)
/-- rows of kinds written at k: what is else stays -/
theorem mr_kind {V' : Nat → Int32} {M' : Nat → Nat → Int32} {k : Nat} {d : Kd} {tp : List Int32} (hR : MR A X V M) (hW : StW A) (hK : Kx pK V M V' M') (hk : k < 8) (ho : ∀ f, f = 20 ∨ (22 ≤ f ∧ f ≤ 26) → ∀ j, j ≠ k → M' f j = M f j) (h21 : ∀ j, (j < 300 * k ∨ 300 * k + 300 ≤ j) → M' 21 j = M 21 j) (hd : KM M' k d) (h4 : V' 4 = nI tp.length) (h3 : B3 (M' 3) tp) : MR ((aDay A, tp), aKept A, upF (aKind A) k d, A.2.2.2) X V' M' := by
  obtain ⟨q1, q2, q3, q4, q5, q6, q7, q8, q9⟩ := hR
  refine ⟨(hK.1 0 rfl).trans q1, (hK.1 1 rfl).trans q2, (hK.1 2 rfl).trans q3, h4, h3, ⟨fun j hj => ?_, fun j hj => ?_, fun j hj => ?_, ?_⟩, ?_, ?_, ?_⟩
  · show KT M' j (aKept A j)
    unfold KT
    rw [hK.2 15 rfl, hK.2 16 rfl, hK.2 17 rfl, hK.2 18 rfl]
    exact q6.1 j hj
  · show KM M' j (upF (aKind A) k d j)
    by_cases e : j = k
    · subst e
      simp only [upF, if_true]
      exact hd
    · simp only [upF, if_neg e]
      have := q6.2.1 j hj
      unfold KM at this ⊢
      rw [ho 20 (by omega) j e, ho 23 (by omega) j e, ho 24 (by omega) j e, ho 25 (by omega) j e, ho 26 (by omega) j e]
      refine ⟨this.1, fun q => ?_, this.2.2⟩
      obtain ⟨wd, w1, w2, w3, w4⟩ := this.2.1 q
      refine ⟨wd, w1, w2, by rw [ho 22 (by omega) j e]; exact w3, fun m c hm => ?_⟩
      have := (List.getElem?_eq_some_iff.mp hm).1
      rw [h21 _ (by omega)]
      exact w4 m c hm
  · show M' 27 j = _
    rw [hK.2 27 rfl]
    exact q6.2.2.1 j hj
  · show LH M' (aLet A)
    unfold LH
    rw [hK.2 28 rfl, hK.2 29 rfl, hK.2 30 rfl, hK.2 31 rfl, hK.2 32 rfl, hK.2 33 rfl]
    exact q6.2.2.2
  · show RM M' (aRul A)
    unfold RM
    rw [hK.2 43 rfl, hK.2 44 rfl, hK.2 45 rfl, hK.2 46 rfl]
    exact q7
  · show LXm M' (aLet A)
    unfold LXm
    rw [hK.2 34 rfl, hK.2 35 rfl, hK.2 36 rfl, hK.2 37 rfl, hK.2 38 rfl]
    exact q8
  · show FI X V' M' (fnds (aLet A))
    unfold FI
    rw [hK.1 42 rfl, hK.2 39 rfl, hK.2 40 rfl, hK.2 41 rfl]
    exact q9
theorem d8_mark {t : Int32} (h : MP X V M σ) (hR : MR A X V M) (hW : StW A) : Hr (f8_mark (some 31) t) σ (MQm X (pMark A t)) := by
  have htl := hW.2.1
  unfold f8_mark pMark
  refine (b_eq (e8_in _ _ _ _)).mpr ?_
  by_cases cc : ¬ (0 ≤ t ∧ t ≤ 7)
  · rw [decide_eq_false cc, if_pos (show bI false = 0 from rfl), if_neg (fun q => cc q.1)]
    exact mq_rt rfl h hR
  have cc := Classical.not_not.mp cc
  obtain ⟨i, hi, rfl⟩ := (in_nI (m := 7) (by decide)).mp cc
  rw [decide_eq_true cc, if_neg (show ¬ bI true = 0 by decide), show tn (nI i) = i from nI_clamp (by omega)]
  obtain ⟨r1, r2, r3, r4, r5, r6, r7, r8, r9⟩ := id hR
  generalize hxs : aTape A = xs at r4 r5 htl
  have hlu := ut_le xs
  have hul := ut_len xs
  have hcx := wds_cnt xs
  have hbl := bts_len xs
  refine (m_getR h rfl).mpr ?_
  refine (m_getI h (by decide) rfl).mpr ?_
  refine (m_obj h).mpr ?_
  refine b_hr (h8_read (xs := xs) (f0 := 3) (off := 0) (n0 := 300) h rfl rfl rfl rfl (fun k c hk => by rw [Nat.zero_add]; exact r5 k c hk) (by omega) (by omega) htl rfl r4) ?_
  rintro _ σ1 ⟨V1, M1, h1, hK1, hRD⟩
  obtain ⟨d1, d2, d3, d4, d5, d6⟩ := hRD
  have hRQ := hR.kQ (hK1.mono scr_Q)
  refine (m_getI h1 (by decide) rfl).mpr ?_
  rw [d3, show (0 : Int32) = nI 0 from rfl]
  refine b_ite (fun c => ?_) (fun c => ?_)
  · rw [nI_eq (by omega) (by omega)] at c
    rw [if_neg (by omega)]
    exact mq_rt rfl h1 hRQ
  · rw [nI_eq (by omega) (by omega)] at c
    rw [if_pos ⟨cc, by omega⟩]
    obtain ⟨a, ha⟩ : ∃ a, (wds xs)[0]? = some a := ⟨_, List.getElem?_eq_getElem (by omega)⟩
    have ma := wds_mem (List.mem_of_getElem? ha)
    have la := sl_len (List.mem_of_getElem? ha)
    have wa := d4 _ _ ha
    refine (m_getR h1 rfl).mpr ?_
    refine m_st (n := 8) h1 rfl rfl rfl rfl (by omega) fun σ2 h2 => ?_
    refine (m_getR h2 rfl).mpr ?_
    refine (m_getR h2 rfl).mpr ?_
    refine (m_ld (n := 300) h2 rfl rfl rfl rfl (by omega)).mpr ?_
    refine (m_getR h2 rfl).mpr ?_
    refine (m_ld (n := 300) h2 rfl rfl rfl rfl (by omega)).mpr ?_
    rw [show upm M1 20 i 1 9 0 = M1 9 0 from rfl, show upm M1 20 i 1 10 0 = M1 10 0 from rfl, wa.1, wa.2, nI_subN (by omega), nI_1, show a.2 - 1 - a.1 + 1 = a.2 - a.1 by omega]
    refine m_st (n := 8) h2 rfl rfl rfl rfl (by omega) fun σ3 h3 => ?_
    refine b_hr (P := fun _ σ' => ∃ M', MP X V1 M' σ' ∧ Kx (fun f => decide (f = 21)) V1 (upm (upm M1 20 i 1) 22 i (nI (a.2 - a.1))) V1 M' ∧ (∀ j, (j < 300 * i ∨ 300 * i + 300 ≤ j) → M' 21 j = M1 21 j) ∧ ∀ k c, (sl (bts xs) a)[k]? = some c → M' 21 (300 * i + k) = c) ?_ ?_
    · refine hr_loop (fun x σ4 => ∃ (k : Nat) (M4 : Nat → Nat → Int32), x = nI k ∧ k ≤ a.2 - a.1 ∧ MP X V1 M4 σ4 ∧ Kx (fun f => decide (f = 21)) V1 (upm (upm M1 20 i 1) 22 i (nI (a.2 - a.1))) V1 M4 ∧ (∀ j, (j < 300 * i ∨ 300 * i + 300 ≤ j) → M4 21 j = M1 21 j) ∧ ∀ k' c, k' < k → (sl (bts xs) a)[k']? = some c → M4 21 (300 * i + k') = c) (fun x => 1000 - x.toNatClampNeg) ⟨0, _, rfl, Nat.zero_le _, h3, Kx.rf, fun _ _ => rfl, fun k' c q => by omega⟩ (by show 1000 - _ < _; omega) ?_
      rintro rec x σ4 ⟨k, M4, rfl, hk, h4, hK4, ho4, hin4⟩ ih
      unfold l8_mark_64
      refine (m_getR h4 rfl).mpr ?_
      refine (m_ld (n := 8) h4 rfl rfl rfl rfl (by omega)).mpr ?_
      rw [hK4.2 22 rfl, show upm (upm M1 20 i 1) 22 i (nI (a.2 - a.1)) 22 i = nI (a.2 - a.1) by simp [upm, upd]]
      refine b_ite (fun c => ?_) (fun c => ?_)
      · rw [nI_leI (by omega) (by omega)] at c
        refine hr_rt.mpr ⟨M4, h4, hK4, ho4, fun k' c' hq => hin4 k' c' ?_ hq⟩
        have := (List.getElem?_eq_some_iff.mp hq).1
        omega
      · rw [nI_leI (by omega) (by omega)] at c
        obtain ⟨x, hx⟩ : ∃ x, (ut xs)[a.1 + k]? = some x := ⟨_, List.getElem?_eq_getElem (by omega)⟩
        have hm := (d2 _ x hx).1
        rw [Nat.zero_add] at hm
        refine (m_getR h4 rfl).mpr ?_
        refine (m_getR h4 rfl).mpr ?_
        refine (m_getR h4 rfl).mpr ?_
        refine (m_ld (n := 300) (j := 0) h4 rfl rfl rfl rfl (by omega)).mpr ?_
        rw [hK4.2 9 rfl, show upm (upm M1 20 i 1) 22 i (nI (a.2 - a.1)) 9 0 = M1 9 0 from rfl, wa.1]
        refine (m_ld (n := 300) h4 rfl rfl rfl (nI_add _ _) (by omega)).mpr ?_
        rw [hK4.2 5 rfl, show upm (upm M1 20 i 1) 22 i (nI (a.2 - a.1)) 5 (a.1 + k) = M1 5 (a.1 + k) from rfl, hm]
        refine (b_eq (e8_small _ _)).mpr ?_
        refine m_st (n := 2400) h4 rfl rfl rfl (ix300 _ _) (by omega) fun σ5 h5 => ?_
        refine ih _ _ ⟨k + 1, _, nI_1 k, by omega, h5, hK4.m rfl, fun j hj => ?_, fun k' c' q1 q2 => ?_⟩ ?_
        · show upd (M4 21) (300 * i + k) (sm x.1) j = _
          simp only [upd, if_neg (show j ≠ 300 * i + k by omega)]
          exact ho4 j hj
        · show upd (M4 21) (300 * i + k) (sm x.1) (300 * i + k') = _
          by_cases e : k' = k
          · subst e
            rw [sl_get (by omega), ut_bts hx] at q2
            simp only [upd, if_true]
            exact Option.some.inj q2
          · simp only [upd, if_neg (show 300 * i + k' ≠ 300 * i + k by omega)]
            exact hin4 k' c' (by omega) q2
        · rw [nI_1, nI_clamp (by omega), nI_clamp (by omega)]; omega
    · rintro _ σ4 ⟨M4, h4, hK4, ho4, hin4⟩
      refine m_putI h4 (by decide) rfl fun σ5 h5 => ?_
      refine mq_rt rfl h5 ?_
      obtain ⟨q1, q2, q3, q4, q5, q6, q7, q8, q9⟩ := id hRQ
      have hKz : Kx pK V1 M1 V1 M4 := ((Kx.rf.m rfl).m rfl : Kx pK V1 M1 V1 (upm (upm M1 20 i 1) 22 i (nI (a.2 - a.1)))).tr (hK4.mono (fun f hf => by simp only [pK, decide_eq_true_eq] at hf ⊢; omega))
      have hM0 := mr_kind (k := i) (d := ((1, xs, 0, 2, 1, 0) : Kd)) (tp := xs) hRQ hW hKz (by omega) (fun f hf j hj => by
        rw [hK4.2 f (by simp only [decide_eq_false_iff_not]; omega)]
        rw [upm_o hj, upm_o hj]) ho4 ⟨?_, fun _ => ⟨sl (bts xs) a, wv_at ha, by rw [la]; omega, ?_, hin4⟩, fun q => by have q' : (1 : Nat) = 2 ∨ (1 : Nat) = 4 := q; omega, fun q => by have q' : (1 : Nat) = 3 ∨ (1 : Nat) = 4 := q; omega, fun q => by have q' : (1 : Nat) = 4 := q; omega⟩ (by rw [q4, hxs]) (by rw [hKz.2 3 rfl, ← hxs]; exact q5)
      · obtain ⟨z1, z2, z3, z4, z5, z6⟩ := hM0
        exact ⟨z1, z2, z3, rfl, B3.nil, z6⟩
      · rw [hK4.2 20 rfl]
        simp [upm, upd]
        rfl
      · rw [hK4.2 22 rfl, la]
        simp [upm, upd]
theorem d8_near {a b c : Int32} (h : MP X V M σ) (hR : MR A X V M) (hW : StW A) : Hr (f8_near (some 31) a b c) σ (MQm X (pNear A a b c)) := by
  unfold f8_near pNear
  refine (b_eq (e8_in _ _ _ _)).mpr ?_
  by_cases c1 : ¬ (0 ≤ a ∧ a ≤ 7)
  · rw [decide_eq_false c1, if_pos (show bI false = 0 from rfl), if_neg (fun q => c1 q.1)]
    exact mq_rt rfl h hR
  have c1 := Classical.not_not.mp c1
  rw [decide_eq_true c1, if_neg (show ¬ bI true = 0 by decide)]
  refine (b_eq (e8_in _ _ _ _)).mpr ?_
  by_cases c2 : ¬ (0 ≤ b ∧ b ≤ 7)
  · rw [decide_eq_false c2, if_pos (show bI false = 0 from rfl), if_neg (fun q => c2 q.2.1)]
    exact mq_rt rfl h hR
  have c2 := Classical.not_not.mp c2
  rw [decide_eq_true c2, if_neg (show ¬ bI true = 0 by decide)]
  refine (b_eq (e8_in _ _ _ _)).mpr ?_
  by_cases c3 : ¬ (2 ≤ c ∧ c ≤ 8)
  · rw [decide_eq_false c3, if_pos (show bI false = 0 from rfl), if_neg (fun q => c3 q.2.2)]
    exact mq_rt rfl h hR
  have c3 := Classical.not_not.mp c3
  rw [decide_eq_true c3, if_neg (show ¬ bI true = 0 by decide), if_pos ⟨c1, c2, c3⟩]
  obtain ⟨i, hi, rfl⟩ := (in_nI (m := 7) (by decide)).mp c1
  obtain ⟨t, ht, rfl⟩ := (in_nI (m := 7) (by decide)).mp c2
  obtain ⟨n, hn1, hn2, rfl⟩ := (in_lo (l := 2) (m := 8) (by decide) (by decide)).mp c3
  rw [show tn (nI i) = i from nI_clamp (by omega), show tn (nI t) = t from nI_clamp (by omega), show tn (nI n) = n from nI_clamp (by omega)]
  refine (m_getR h rfl).mpr ?_
  refine m_st (n := 8) h rfl rfl rfl rfl (by omega) fun σ2 h2 => ?_
  refine (m_getR h2 rfl).mpr ?_
  refine m_st (n := 8) h2 rfl rfl rfl rfl (by omega) fun σ3 h3 => ?_
  refine (m_getR h3 rfl).mpr ?_
  refine m_st (n := 8) h3 rfl rfl rfl rfl (by omega) fun σ4 h4 => ?_
  refine mq_rt rfl h4 (mr_kind hR hW (((Kx.rf.m rfl).m rfl).m rfl) (by omega) (fun f hf j hj => by rw [upm_o hj, upm_o hj, upm_o hj]) (fun _ _ => rfl) ⟨?_, fun q => by have q' : (2 : Nat) = 1 := q; omega, fun _ => ⟨?_, ?_⟩, fun q => by have q' : (2 : Nat) = 3 ∨ (2 : Nat) = 4 := q; omega, fun q => by have q' : (2 : Nat) = 4 := q; omega⟩ hR.2.2.2.1 hR.2.2.2.2.1)
  · show upd (M 20) i 2 i = nI 2
    simp only [upd, if_true]
    rfl
  · show upd (M 23) i (nI t) i = nI t
    simp only [upd, if_true]
  · show upd (M 24) i (nI n) i = nI n
    simp only [upd, if_true]
theorem d8_count {a c : Int32} (h : MP X V M σ) (hR : MR A X V M) (hW : StW A) : Hr (f8_count (some 31) a c) σ (MQm X (pCount A a c)) := by
  unfold f8_count pCount
  refine (b_eq (e8_in _ _ _ _)).mpr ?_
  by_cases c1 : ¬ (0 ≤ a ∧ a ≤ 7)
  · rw [decide_eq_false c1, if_pos (show bI false = 0 from rfl), if_neg (fun q => c1 q.1)]
    exact mq_rt rfl h hR
  have c1 := Classical.not_not.mp c1
  rw [decide_eq_true c1, if_neg (show ¬ bI true = 0 by decide)]
  refine (b_eq (e8_in _ _ _ _)).mpr ?_
  by_cases c3 : ¬ (1 ≤ c ∧ c ≤ 20)
  · rw [decide_eq_false c3, if_pos (show bI false = 0 from rfl), if_neg (fun q => c3 q.2)]
    exact mq_rt rfl h hR
  have c3 := Classical.not_not.mp c3
  rw [decide_eq_true c3, if_neg (show ¬ bI true = 0 by decide), if_pos ⟨c1, c3⟩]
  obtain ⟨i, hi, rfl⟩ := (in_nI (m := 7) (by decide)).mp c1
  obtain ⟨n, hn1, hn2, rfl⟩ := (in_lo (l := 1) (m := 20) (by decide) (by decide)).mp c3
  rw [show tn (nI i) = i from nI_clamp (by omega), show tn (nI n) = n from nI_clamp (by omega)]
  refine (m_getR h rfl).mpr ?_
  refine m_st (n := 8) h rfl rfl rfl rfl (by omega) fun σ2 h2 => ?_
  refine (m_getR h2 rfl).mpr ?_
  refine m_st (n := 8) h2 rfl rfl rfl rfl (by omega) fun σ3 h3 => ?_
  refine mq_rt rfl h3 (mr_kind hR hW ((Kx.rf.m rfl).m rfl) (by omega) (fun f hf j hj => by rw [upm_o hj, upm_o hj]) (fun _ _ => rfl) ⟨?_, fun q => by have q' : (3 : Nat) = 1 := q; omega, fun q => by have q' : (3 : Nat) = 2 ∨ (3 : Nat) = 4 := q; omega, fun _ => ?_, fun q => by have q' : (3 : Nat) = 4 := q; omega⟩ hR.2.2.2.1 hR.2.2.2.2.1)
  · show upd (M 20) i 3 i = nI 3
    simp only [upd, if_true]
    rfl
  · show upd (M 25) i (nI n) i = nI n
    simp only [upd, if_true]
theorem d8_pieces {a b c e g : Int32} (h : MP X V M σ) (hR : MR A X V M) (hW : StW A) : Hr (f8_pieces (some 31) a b c e g) σ (MQm X (pPieces A a b c e g)) := by
  unfold f8_pieces pPieces
  refine (b_eq (e8_in _ _ _ _)).mpr ?_
  by_cases c1 : ¬ (0 ≤ a ∧ a ≤ 7)
  · rw [decide_eq_false c1, if_pos (show bI false = 0 from rfl), if_neg (fun q => c1 q.1)]
    exact mq_rt rfl h hR
  have c1 := Classical.not_not.mp c1
  rw [decide_eq_true c1, if_neg (show ¬ bI true = 0 by decide)]
  refine (b_eq (e8_in _ _ _ _)).mpr ?_
  by_cases c2 : ¬ (0 ≤ b ∧ b ≤ 7)
  · rw [decide_eq_false c2, if_pos (show bI false = 0 from rfl), if_neg (fun q => c2 q.2.1)]
    exact mq_rt rfl h hR
  have c2 := Classical.not_not.mp c2
  rw [decide_eq_true c2, if_neg (show ¬ bI true = 0 by decide)]
  refine (b_eq (e8_in _ _ _ _)).mpr ?_
  by_cases c3 : ¬ (2 ≤ c ∧ c ≤ 8)
  · rw [decide_eq_false c3, if_pos (show bI false = 0 from rfl), if_neg (fun q => c3 q.2.2.1)]
    exact mq_rt rfl h hR
  have c3 := Classical.not_not.mp c3
  rw [decide_eq_true c3, if_neg (show ¬ bI true = 0 by decide)]
  refine (b_eq (e8_in _ _ _ _)).mpr ?_
  by_cases c4 : ¬ (1 ≤ e ∧ e ≤ 50)
  · rw [decide_eq_false c4, if_pos (show bI false = 0 from rfl), if_neg (fun q => c4 q.2.2.2.1)]
    exact mq_rt rfl h hR
  have c4 := Classical.not_not.mp c4
  rw [decide_eq_true c4, if_neg (show ¬ bI true = 0 by decide)]
  refine (b_eq (e8_in _ _ _ _)).mpr ?_
  by_cases c5 : ¬ (0 ≤ g ∧ g ≤ 30)
  · rw [decide_eq_false c5, if_pos (show bI false = 0 from rfl), if_neg (fun q => c5 q.2.2.2.2)]
    exact mq_rt rfl h hR
  have c5 := Classical.not_not.mp c5
  rw [decide_eq_true c5, if_neg (show ¬ bI true = 0 by decide), if_pos ⟨c1, c2, c3, c4, c5⟩]
  obtain ⟨i, hi, rfl⟩ := (in_nI (m := 7) (by decide)).mp c1
  obtain ⟨t, ht, rfl⟩ := (in_nI (m := 7) (by decide)).mp c2
  obtain ⟨n, hn1, hn2, rfl⟩ := (in_lo (l := 2) (m := 8) (by decide) (by decide)).mp c3
  obtain ⟨m, hm1, hm2, rfl⟩ := (in_lo (l := 1) (m := 50) (by decide) (by decide)).mp c4
  obtain ⟨y, hy, rfl⟩ := (in_nI (m := 30) (by decide)).mp c5
  rw [show tn (nI i) = i from nI_clamp (by omega), show tn (nI t) = t from nI_clamp (by omega), show tn (nI n) = n from nI_clamp (by omega), show tn (nI m) = m from nI_clamp (by omega), show tn (nI y) = y from nI_clamp (by omega)]
  refine (m_getR h rfl).mpr ?_
  refine m_st (n := 8) h rfl rfl rfl rfl (by omega) fun σ2 h2 => ?_
  refine (m_getR h2 rfl).mpr ?_
  refine m_st (n := 8) h2 rfl rfl rfl rfl (by omega) fun σ3 h3 => ?_
  refine (m_getR h3 rfl).mpr ?_
  refine m_st (n := 8) h3 rfl rfl rfl rfl (by omega) fun σ4 h4 => ?_
  refine (m_getR h4 rfl).mpr ?_
  refine m_st (n := 8) h4 rfl rfl rfl rfl (by omega) fun σ5 h5 => ?_
  refine (m_getR h5 rfl).mpr ?_
  refine m_st (n := 8) h5 rfl rfl rfl rfl (by omega) fun σ6 h6 => ?_
  refine mq_rt rfl h6 (mr_kind hR hW (((((Kx.rf.m rfl).m rfl).m rfl).m rfl).m rfl) (by omega) (fun f hf j hj => by rw [upm_o hj, upm_o hj, upm_o hj, upm_o hj, upm_o hj]) (fun _ _ => rfl) ⟨?_, fun q => by have q' : (4 : Nat) = 1 := q; omega, fun _ => ⟨?_, ?_⟩, fun _ => ?_, fun _ => ?_⟩ hR.2.2.2.1 hR.2.2.2.2.1)
  · show upd (M 20) i 4 i = nI 4
    simp only [upd, if_true]
    rfl
  · show upd (M 23) i (nI t) i = nI t
    simp only [upd, if_true]
  · show upd (M 24) i (nI n) i = nI n
    simp only [upd, if_true]
  · show upd (M 25) i (nI m) i = nI m
    simp only [upd, if_true]
  · show upd (M 26) i (nI y) i = nI y
    simp only [upd, if_true]
theorem bI_inj {a b : Bool} : bI a = bI b ↔ a = b := by cases a <;> cases b <;> decide
theorem d8_allow {a b c : Int32} {is : Bool} (h : MP X V M σ) (hR : MR A X V M) (hW : StW A) : Hr (f8_allow (some 31) a b c (bI is)) σ (MQm X (pAllow A a b c is)) := by
  unfold f8_allow pAllow
  refine (b_eq (e8_in _ _ _ _)).mpr ?_
  by_cases c1 : ¬ (0 ≤ a ∧ a ≤ 7)
  · rw [decide_eq_false c1, if_pos (show bI false = 0 from rfl), if_neg (fun q => c1 q.1.1)]
    exact mq_rt rfl h hR
  have c1 := Classical.not_not.mp c1
  rw [decide_eq_true c1, if_neg (show ¬ bI true = 0 by decide)]
  refine (b_eq (e8_in _ _ _ _)).mpr ?_
  by_cases c2 : ¬ (0 ≤ b ∧ b ≤ 9)
  · rw [decide_eq_false c2, if_pos (show bI false = 0 from rfl), if_neg (fun q => c2 q.1.2.1)]
    exact mq_rt rfl h hR
  have c2 := Classical.not_not.mp c2
  rw [decide_eq_true c2, if_neg (show ¬ bI true = 0 by decide)]
  refine (b_eq (e8_in _ _ _ _)).mpr ?_
  by_cases c3 : ¬ (0 ≤ c ∧ c ≤ 9)
  · rw [decide_eq_false c3, if_pos (show bI false = 0 from rfl), if_neg (fun q => c3 q.1.2.2)]
    exact mq_rt rfl h hR
  have c3 := Classical.not_not.mp c3
  rw [decide_eq_true c3, if_neg (show ¬ bI true = 0 by decide)]
  obtain ⟨i, hi, rfl⟩ := (in_nI (m := 7) (by decide)).mp c1
  obtain ⟨s, hs, rfl⟩ := (in_nI (m := 9) (by decide)).mp c2
  obtain ⟨t, ht, rfl⟩ := (in_nI (m := 9) (by decide)).mp c3
  rw [show tn (nI i) = i from nI_clamp (by omega), show tn (nI s) = s from nI_clamp (by omega), show tn (nI t) = t from nI_clamp (by omega)]
  have hpl : pair i s t < 800 := by unfold pair; omega
  obtain ⟨q1, q2, q3, q4, q5, q6, q7, q8, q9⟩ := id hR
  refine (m_getR h rfl).mpr ?_
  refine (m_ld (n := 800) h rfl rfl rfl (pair_ix _ _ _) hpl).mpr ?_
  rw [q6.2.2.1 _ hpl]
  refine b_ite (fun c4 => ?_) (fun c4 => ?_)
  · rw [bI_inj] at c4
    rw [if_neg (fun q => q.2 c4)]
    exact mq_rt rfl h hR
  · rw [bI_inj] at c4
    rw [if_pos ⟨⟨c1, c2, c3⟩, c4⟩]
    refine (m_getR h rfl).mpr ?_
    refine m_stZ (n := 800) h rfl rfl rfl (bI_01 _) (pair_ix _ _ _) hpl fun σ2 h2 => ?_
    refine mq_rt rfl h2 ⟨q1, q2, q3, q4, q5, ⟨q6.1, q6.2.1, fun j hj => ?_, q6.2.2.2⟩, q7, q8, q9⟩
    show upd (M 27) (pair i s t) (bI is) j = bI (upF (aAll A) (pair i s t) is j)
    by_cases e : j = pair i s t
    · simp [upd, upF, e]
    · simp only [upd, upF, if_neg e]
      exact q6.2.2.1 j hj
end PUBB
