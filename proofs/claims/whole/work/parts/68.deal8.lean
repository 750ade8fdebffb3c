/-! ===== the reference: whether a letter has a kind; the rule for it ===== -/
def KM (M : Nat → Nat → Int32) (i : Nat) (d : Kd) : Prop := M 20 i = nI (kSort d) ∧ (kSort d = 1 → MK M i (kMs d)) ∧ (kSort d = 2 ∨ kSort d = 4 → M 23 i = nI (kTx d) ∧ M 24 i = nI (kN d)) ∧ (kSort d = 3 ∨ kSort d = 4 → M 25 i = nI (kM d)) ∧ (kSort d = 4 → M 26 i = nI (kD d))
def RM (M : Nat → Nat → Int32) (rs : List Rl) : Prop := ∀ i r, rs[i]? = some r → M 43 i = rS r ∧ M 44 i = rW r ∧ M 45 i = nI (rK r) ∧ M 46 i = nI (rA r)
def LH (M : Nat → Nat → Int32) (ls : List Lt) : Prop := ∀ i x, ls[i]? = some x → M 29 i = nI (lB x).length ∧ (∀ k c, (lB x)[k]? = some c → M 28 (300 * i + k) = c) ∧ M 30 i = nI (lS x) ∧ M 31 i = nI (lT x) ∧ M 32 i = nI (lW x) ∧ M 33 i = nI (lD x)
def MD (A : St) (M : Nat → Nat → Int32) : Prop := (∀ i, i < 8 → KT M i (aKept A i)) ∧ (∀ i, i < 8 → KM M i (aKind A i)) ∧ (∀ i, i < 800 → M 27 i = bI (aAll A i)) ∧ LH M (aLet A)
theorem pF_SF : ∀ f, pF f = true → pSF f = true := by
  intro f hf
  simp only [pF, pSF, decide_eq_true_eq] at hf ⊢
  omega
theorem MD.kp {A : St} {V V' : Nat → Int32} {M M' : Nat → Nat → Int32} (h : MD A M) (k : Kx pSF V M V' M') : MD A M' := by
  unfold MD KT KM LH MK
  rw [k.2 15 rfl, k.2 16 rfl, k.2 17 rfl, k.2 18 rfl, k.2 20 rfl, k.2 21 rfl, k.2 22 rfl, k.2 23 rfl, k.2 24 rfl, k.2 25 rfl, k.2 26 rfl, k.2 27 rfl, k.2 28 rfl, k.2 29 rfl, k.2 30 rfl, k.2 31 rfl, k.2 32 rfl, k.2 33 rfl]
  exact h
theorem RM.kp {rs : List Rl} {V V' : Nat → Int32} {M M' : Nat → Nat → Int32} (h : RM M rs) (k : Kx pSF V M V' M') : RM M' rs := by
  unfold RM
  rw [k.2 43 rfl, k.2 44 rfl, k.2 45 rfl, k.2 46 rfl]
  exact h
theorem FI.kS {X : MX} {F : List T3} {V V' : Nat → Int32} {M M' : Nat → Nat → Int32} (h : FI X V M F) (k : Kx pQ V M V' M') : FI X V' M' F := by
  unfold FI
  rw [k.1 42 rfl, k.2 39 rfl, k.2 40 rfl, k.2 41 rfl]
  exact h
section MDEAL
variable {X : MX} {V : Nat → Int32} {M : Nat → Nat → Int32} {σ : AH} {A : St} {F : List T3}
theorem LH.at (h : MD A M) {l : Nat} (hl : l < (aLet A).length) : M 29 l = nI (lB (lAt A l)).length ∧ (∀ k c, (lB (lAt A l))[k]? = some c → M 28 (300 * l + k) = c) ∧ M 30 l = nI (lS (lAt A l)) ∧ M 31 l = nI (lT (lAt A l)) ∧ M 32 l = nI (lW (lAt A l)) ∧ M 33 l = nI (lD (lAt A l)) := by
  obtain ⟨x, hx⟩ : ∃ x, (aLet A)[l]? = some x := ⟨_, List.getElem?_eq_getElem hl⟩
  rw [lAt_of hx]
  exact h.2.2.2 l x hx
theorem h8_readLetter {l : Nat} (h : MP X V M σ) (hD : MD A M) (hW : DlW A) (hl : l < (aLet A).length) :
    Hr (f8_readLetter (some 31) (nI l)) σ (fun _ σ' => ∃ V' M', MP X V' M' σ' ∧ Kx scr V M V' M' ∧ RD V' M' (lB (lAt A l))) := by
  have hlen := lB_len hW l
  have hat := LH.at hD hl
  have h60 := hW.2.2.1
  unfold f8_readLetter
  refine (m_getR h rfl).mpr ?_
  refine (m_getR h rfl).mpr ?_
  refine (m_ld (n := 60) h rfl rfl rfl rfl (by omega)).mpr ?_
  rw [hat.1]
  refine (m_obj h).mpr ?_
  refine b_hr (h8_read (xs := lB (lAt A l)) (f0 := 28) (off := 300 * l) (n0 := 18000) h rfl rfl rfl rfl hat.2.1 (by omega) (by omega) hlen (by rw [show (300 : Int32) = nI 300 from rfl, pk_mul]) rfl) ?_
  rintro _ σ1 hq
  exact hr_rt.mpr hq
theorem h8_isEnough {l k : Nat} (h : MP X V M σ) (hD : MD A M) (hW : DlW A) (hl : l < (aLet A).length) (hk : k < 8) (hs : kSort (aKind A k) = 4) :
    Hr (f8_isEnough (some 31) (nI k) (nI l)) σ (fun r σ' => r = bI (enough A l k) ∧ ∃ V' M', MP X V' M' σ' ∧ Kx pQ V M V' M' ∧ RD V' M' (lB (lAt A l))) := by
  have h60 := hW.2.2.1
  have hkw := hW.2.1 k
  obtain ⟨w1, w2, w3, w4, w5, w6, w7, w8, -⟩ := hkw
  have hKL := hW.1 (kTx (aKind A k))
  have hcy := wds_cnt (aKept A (kTx (aKind A k)))
  unfold f8_isEnough
  refine (m_obj h).mpr ?_
  refine b_hr (h8_noParts h) ?_
  rintro _ σ0 ⟨M0, h0, hK0, hS0⟩
  refine b_hr (P := fun _ σ' => ∃ V' M', MP X V' M' σ' ∧ Kx pQ V M V' M' ∧ SP M' (pUp A l k (l + 1))) ?_ ?_
  · refine hr_loop (fun x σ1 => ∃ (i : Nat) (V1 : Nat → Int32) (M1 : Nat → Nat → Int32), x = nI i ∧ i ≤ l + 1 ∧ MP X V1 M1 σ1 ∧ Kx pQ V M V1 M1 ∧ SP M1 (pUp A l k i)) (fun x => 1000 - x.toNatClampNeg) ⟨0, V, M0, rfl, Nat.zero_le _, h0, hK0.mono p19_Q, hS0.cg (fun q _ => rfl)⟩ (by show 1000 - _ < _; omega) ?_
    rintro rec x σ1 ⟨i, V1, M1, rfl, hi, h1, hK, hS⟩ ih
    have hD1 := hD.kp (hK.mono pQ_SF)
    unfold l8_isEnough_6
    refine b_ite (fun c => ?_) (fun c => ?_)
    · rw [nI_ltI (by omega) (by omega)] at c
      have : i = l + 1 := by omega
      subst this
      exact hr_rt.mpr ⟨V1, M1, h1, hK, hS⟩
    · rw [nI_ltI (by omega) (by omega)] at c
      have hm : 1000 - (nI i + 1).toNatClampNeg < 1000 - (nI i).toNatClampNeg := by rw [nI_1, nI_clamp (by omega), nI_clamp (by omega)]; omega
      have ai := LH.at hD1 (l := i) (by omega)
      have al := LH.at hD1 hl
      have hmo := lD_mono hW (i := i) (l := l) (by omega) hl
      have hkm := (hD1.2.1 k hk).2.2.1 (Or.inr hs)
      have hkd := (hD1.2.1 k hk).2.2.2.2 hs
      have si := (hW.2.2.2.1 _ (List.mem_of_getElem? (List.getElem?_eq_getElem (show i < (aLet A).length by omega)))).1
      have sl := (hW.2.2.2.1 _ (List.mem_of_getElem? (List.getElem?_eq_getElem hl))).1
      have ei := lAt_of (List.getElem?_eq_getElem (show i < (aLet A).length by omega))
      have el := lAt_of (List.getElem?_eq_getElem hl)
      rw [← ei] at si
      rw [← el] at sl
      have skip : nearK A l k i = false → SP M1 (pUp A l k (i + 1)) := fun hq => hS.cg (fun q _ => by
        unfold pUp
        rw [any_succ, hq, Bool.false_and, Bool.or_false])
      refine (m_getR h1 rfl).mpr ?_
      refine (m_ld (n := 60) h1 rfl rfl rfl rfl (by omega)).mpr ?_
      refine (m_getR h1 rfl).mpr ?_
      refine (m_ld (n := 60) h1 rfl rfl rfl rfl (by omega)).mpr ?_
      rw [ai.2.2.1, al.2.2.1]
      refine b_ite (fun c2 => ?_) (fun c2 => ?_)
      · rw [nI_eq (by omega) (by omega)] at c2
        refine (m_getR h1 rfl).mpr ?_
        refine (m_ld (n := 60) h1 rfl rfl rfl rfl (by omega)).mpr ?_
        refine (m_getR h1 rfl).mpr ?_
        refine (m_ld (n := 60) h1 rfl rfl rfl rfl (by omega)).mpr ?_
        refine (m_getR h1 rfl).mpr ?_
        refine (m_ld (n := 8) h1 rfl rfl rfl rfl hk).mpr ?_
        rw [ai.2.2.2.2.2, al.2.2.2.2.2, hkd, nI_subN hmo.1]
        refine b_ite (fun c3 => ?_) (fun c3 => ?_)
        · rw [nI_ltI (by omega) (by omega)] at c3
          refine ih _ _ ⟨i + 1, V1, M1, nI_1 i, by omega, h1, hK, skip ?_⟩ hm
          simp only [nearK, decide_eq_false_iff_not]
          omega
        · rw [nI_ltI (by omega) (by omega)] at c3
          refine (m_obj h1).mpr ?_
          refine b_hr (h8_readLetter h1 hD1 hW (l := i) (by omega)) ?_
          rintro _ σ2 ⟨V2, M2, h2, hK2, hR2⟩
          have hD2 := hD1.kp ((hK2.mono scr_Q).mono pQ_SF)
          have hkm2 := (hD2.2.1 k hk).2.2.1 (Or.inr hs)
          have hS2 : SP M2 (pUp A l k i) := by
            intro p hp
            rw [hK2.2 19 rfl]
            exact hS p hp
          refine (m_getR h2 rfl).mpr ?_
          refine (m_ld (n := 8) h2 rfl rfl rfl rfl hk).mpr ?_
          refine (m_getR h2 rfl).mpr ?_
          refine (m_ld (n := 8) h2 rfl rfl rfl rfl hk).mpr ?_
          rw [hkm2.1, hkm2.2]
          refine (m_obj h2).mpr ?_
          refine b_hr (h8_addParts h2 hR2 (lB_len hW i) (hD2.1 _ w2) w2 hKL w4 (by omega) hS2) ?_
          rintro _ σ3 ⟨M3, h3, hK3, hS3⟩
          refine ih _ _ ⟨i + 1, V2, M3, nI_1 i, by omega, h3, (hK.tr (hK2.mono scr_Q)).tr (hK3.mono p19_Q), hS3.cg (fun q _ => ?_)⟩ hm
          unfold pUp
          rw [any_succ, show nearK A l k i = true by simp only [nearK, decide_eq_true_eq]; omega, Bool.true_and]
      · rw [nI_eq (by omega) (by omega)] at c2
        refine ih _ _ ⟨i + 1, V1, M1, nI_1 i, by omega, h1, hK, skip ?_⟩ hm
        simp only [nearK, decide_eq_false_iff_not]
        omega
  · rintro _ σ1 ⟨V1, M1, h1, hK1, hS1⟩
    have hD1 := hD.kp (hK1.mono pQ_SF)
    refine (m_obj h1).mpr ?_
    refine b_hr (h8_readLetter h1 hD1 hW hl) ?_
    rintro _ σ2 ⟨V2, M2, h2, hK2, hR2⟩
    have hD2 := hD1.kp ((hK2.mono scr_Q).mono pQ_SF)
    have hS2 : SP M2 (pUp A l k (l + 1)) := by
      intro p hp
      rw [hK2.2 19 rfl]
      exact hS1 p hp
    have hkm2 := (hD2.2.1 k hk).2.2.1 (Or.inr hs)
    have hkm3 := (hD2.2.1 k hk).2.2.2.1 (Or.inr hs)
    refine (m_getR h2 rfl).mpr ?_
    refine (m_ld (n := 8) h2 rfl rfl rfl rfl hk).mpr ?_
    rw [hkm2.1]
    refine (m_obj h2).mpr ?_
    refine (b_eq (e8_partsHad h2 (hD2.1 _ w2) w2 hKL hS2)).mpr ?_
    refine (m_getR h2 rfl).mpr ?_
    refine (m_ld (n := 8) h2 rfl rfl rfl rfl hk).mpr ?_
    rw [hkm3]
    have hct := fb_ct_le (pUp A l k (l + 1)) (wds (aKept A (kTx (aKind A k)))).length
    refine b_ite (fun c => ?_) (fun c => ?_)
    · rw [nI_ltI (by omega) (by omega)] at c
      refine hr_rt.mpr ⟨?_, V2, M2, h2, hK1.tr (hK2.mono scr_Q), hR2⟩
      rw [show enough A l k = false by simp only [enough, decide_eq_false_iff_not]; omega]
      rfl
    · rw [nI_ltI (by omega) (by omega)] at c
      refine hr_rt.mpr ⟨?_, V2, M2, h2, hK1.tr (hK2.mono scr_Q), hR2⟩
      rw [show enough A l k = true by simp only [enough, decide_eq_true_eq]; omega]
      rfl
theorem rawF_mark {d : Kd} {kp : Nat → List Int32} {xs : List Int32} (h : kSort d = 1) : rawF kp d xs = fMark xs (kMs d) := if_pos h
theorem rawF_num {d : Kd} {kp : Nat → List Int32} {xs : List Int32} (h : kSort d = 3) : rawF kp d xs = fNum xs := by
  unfold rawF
  rw [if_neg (by omega), if_pos h]
theorem rawF_par {d : Kd} {kp : Nat → List Int32} {xs : List Int32} (h : kSort d = 2 ∨ kSort d = 4) : rawF kp d xs = fPar xs (kp (kTx d)) (kN d) := by
  unfold rawF
  rw [if_neg (by omega), if_neg (by omega), if_pos h]
theorem h8_find {l k : Nat} {b : Bool} (h : MP X V M σ) (hD : MD A M) (hW : DlW A) (hl : l < (aLet A).length) (hk : k < 8) (hR : RD V M (lB (lAt A l))) (hF : FI X V M F) (hlen : F.length + (rawF (aKept A) (aKind A k) (lB (lAt A l))).length < 2 ^ 19) :
    Hr (f8_find (some 31) (nI k) (nI l) (bI b)) σ (fun r σ' => r = nI (findR A l k).length ∧ ∃ X' V' M', MP X' V' M' σ' ∧ XG X X' ∧ Kx pSF V M V' M' ∧ FI X' V' M' (fapp b F (findR A l k)) ∧ RD V' M' (lB (lAt A l))) := by
  have hkw := hW.2.1 k
  obtain ⟨w1, w2, w3, w4, w5, w6, w7, w8, w9⟩ := hkw
  have hKL := hW.1 (kTx (aKind A k))
  have hxl := lB_len hW l
  have hkm := hD.2.1 k hk
  unfold f8_find
  refine (m_getR h rfl).mpr ?_
  refine (m_ld (n := 8) h rfl rfl rfl rfl hk).mpr ?_
  rw [hkm.1, show (1 : Int32) = nI 1 from rfl]
  refine b_ite (fun c => ?_) (fun c => ?_)
  · rw [nI_eq (by omega) (by omega)] at c
    have e : findR A l k = fMark (lB (lAt A l)) (kMs (aKind A k)) := by
      unfold findR
      rw [if_neg (by omega), if_neg (by omega), rawF_mark c]
    rw [rawF_mark c] at hlen
    refine b_hr (h8_findMark (b := b) h hR hxl (hkm.2.1 c) hk hF hlen) ?_
    rintro r σ1 ⟨rfl, X1, V1, M1, h1, hG, hK, hF1⟩
    refine hr_rt.mpr ⟨by rw [e], X1, V1, M1, h1, hG, hK.mono pF_SF, by rw [e]; exact hF1, hR.kF hK⟩
  · rw [nI_eq (by omega) (by omega)] at c
    refine (m_getR h rfl).mpr ?_
    refine (m_ld (n := 8) h rfl rfl rfl rfl hk).mpr ?_
    rw [hkm.1, show (3 : Int32) = nI 3 from rfl]
    refine b_ite (fun c2 => ?_) (fun c2 => ?_)
    · rw [nI_eq (by omega) (by omega)] at c2
      have e : findR A l k = (if kM (aKind A k) ≤ (fNum (lB (lAt A l))).length then fNum (lB (lAt A l)) else []) := by
        unfold findR
        by_cases q : kM (aKind A k) ≤ (fNum (lB (lAt A l))).length
        · rw [if_neg (fun z => z.2 q), if_neg (by omega), rawF_num c2, if_pos q]
        · rw [if_pos ⟨c2, q⟩, if_neg q]
      rw [rawF_num c2] at hlen
      have e25 := hkm.2.2.2.1 (Or.inl c2)
      have hnl : (nms (bts (lB (lAt A l)))).length ≤ (bts (lB (lAt A l))).length := nmsF_len _ _ _
      have hfl : (fNum (lB (lAt A l))).length = (nms (bts (lB (lAt A l)))).length := by simp [fNum]
      have hbl := bts_len (lB (lAt A l))
      have htl := TXT_len (lB (lAt A l))
      refine b_hr (h8_findNum (b := b) h hR hxl hk e25 (by omega) hF hlen) ?_
      rintro _ σ1 ⟨X1, V1, M1, h1, hG, hK, hF1⟩
      have hR1 := hR.kF hK
      refine (m_getI h1 (by decide) rfl).mpr ?_
      rw [hR1.2.2.2.2.1]
      refine (m_getR h1 rfl).mpr ?_
      refine (m_ld (n := 8) h1 rfl rfl rfl rfl hk).mpr ?_
      rw [hK.2 25 rfl, e25]
      refine b_ite (fun c3 => ?_) (fun c3 => ?_)
      · rw [nI_ltI (by omega) (by omega)] at c3
        refine hr_rt.mpr ⟨?_, X1, V1, M1, h1, hG, hK.mono pF_SF, by rw [e]; exact hF1, hR1⟩
        rw [e, if_neg (by omega)]
        rfl
      · rw [nI_ltI (by omega) (by omega)] at c3
        refine (m_getI h1 (by decide) rfl).mpr ?_
        rw [hR1.2.2.2.2.1]
        refine hr_rt.mpr ⟨?_, X1, V1, M1, h1, hG, hK.mono pF_SF, by rw [e]; exact hF1, hR1⟩
        rw [e, if_pos (by omega), hfl]
    · rw [nI_eq (by omega) (by omega)] at c2
      refine (m_getR h rfl).mpr ?_
      refine (m_ld (n := 8) h rfl rfl rfl rfl hk).mpr ?_
      rw [hkm.1]
      refine b_hr (P := fun y σ' => ∃ V' M', MP X V' M' σ' ∧ Kx pQ V M V' M' ∧ RD V' M' (lB (lAt A l)) ∧ ((y = .inl 0 ∧ kSort (aKind A k) = 4 ∧ enough A l k = false) ∨ (y = .inr () ∧ ¬ (kSort (aKind A k) = 4 ∧ enough A l k = false)))) ?_ ?_
      · rw [show (4 : Int32) = nI 4 from rfl]
        refine b_ite (fun c3 => ?_) (fun c3 => ?_)
        · rw [nI_eq (by omega) (by omega)] at c3
          refine (m_obj h).mpr ?_
          refine b_hr (h8_isEnough h hD hW hl hk c3) ?_
          rintro r σ1 ⟨rfl, V1, M1, h1, hK, hR1⟩
          refine b_ite (fun c4 => ?_) (fun c4 => ?_)
          · rw [bI_0] at c4
            exact hr_rt.mpr ⟨V1, M1, h1, hK, hR1, Or.inl ⟨rfl, c3, c4⟩⟩
          · rw [bI_0] at c4
            exact hr_rt.mpr ⟨V1, M1, h1, hK, hR1, Or.inr ⟨rfl, fun q => c4 q.2⟩⟩
        · rw [nI_eq (by omega) (by omega)] at c3
          exact hr_rt.mpr ⟨V, M, h, Kx.rf, hR, Or.inr ⟨rfl, fun q => c3 q.1⟩⟩
      · rintro y σ1 ⟨V1, M1, h1, hK, hR1, ⟨rfl, q1, q2⟩ | ⟨rfl, q⟩⟩
        · rw [Sum.elim_inl]
          have e : findR A l k = [] := by
            unfold findR
            rw [if_neg (by omega), if_pos ⟨q1, q2⟩]
          refine hr_rt.mpr ⟨by rw [e]; rfl, X, V1, M1, h1, XG.rf, hK.mono pQ_SF, ?_, hR1⟩
          rw [e, fapp_nil]
          exact hF.kS hK
        · rw [Sum.elim_inr]
          have e : findR A l k = rawF (aKept A) (aKind A k) (lB (lAt A l)) := by
            unfold findR
            rw [if_neg (by omega), if_neg q]
          have hD1 := hD.kp (hK.mono pQ_SF)
          have hkm1 := hD1.2.1 k hk
          refine (m_getR h1 rfl).mpr ?_
          refine (m_ld (n := 8) h1 rfl rfl rfl rfl hk).mpr ?_
          rw [hkm1.1]
          refine b_hr (P := fun y σ' => σ' = σ1 ∧ ((y = .inr () ∧ (kSort (aKind A k) = 2 ∨ kSort (aKind A k) = 4)) ∨ (y = .inl 0 ∧ ¬ (kSort (aKind A k) = 2 ∨ kSort (aKind A k) = 4)))) ?_ ?_
          · rw [show (2 : Int32) = nI 2 from rfl]
            refine b_ite (fun c3 => ?_) (fun c3 => ?_)
            · rw [nI_eq (by omega) (by omega)] at c3
              exact hr_rt.mpr ⟨rfl, Or.inl ⟨rfl, Or.inl c3⟩⟩
            · rw [nI_eq (by omega) (by omega)] at c3
              refine (m_getR h1 rfl).mpr ?_
              refine (m_ld (n := 8) h1 rfl rfl rfl rfl hk).mpr ?_
              rw [hkm1.1, show (4 : Int32) = nI 4 from rfl]
              refine b_ite (fun c4 => ?_) (fun c4 => ?_)
              · rw [nI_eq (by omega) (by omega)] at c4
                exact hr_rt.mpr ⟨rfl, Or.inl ⟨rfl, Or.inr c4⟩⟩
              · rw [nI_eq (by omega) (by omega)] at c4
                exact hr_rt.mpr ⟨rfl, Or.inr ⟨rfl, by omega⟩⟩
          · rintro y σ2 ⟨rfl, ⟨rfl, q4⟩ | ⟨rfl, q4⟩⟩
            · rw [Sum.elim_inr]
              rw [rawF_par q4] at e hlen
              have hkk := hkm1.2.2.1 q4
              refine (m_obj h1).mpr ?_
              refine b_hr (h8_findParts (b := b) h1 hR1 hxl (hD1.1 _ w2) w2 hKL w4 w3 hk hkk.1 hkk.2 (hF.kS hK) hlen) ?_
              rintro r σ3 ⟨rfl, X3, V3, M3, h3, hG3, hK3, hF3⟩
              exact hr_rt.mpr ⟨by rw [e], X3, V3, M3, h3, hG3, (hK.mono pQ_SF).tr (hK3.mono pF_SF), by rw [e]; exact hF3, hR1.kF hK3⟩
            · rw [Sum.elim_inl]
              have e2 : findR A l k = [] := by
                rw [e]
                unfold rawF
                rw [if_neg c, if_neg c2, if_neg q4]
              refine hr_rt.mpr ⟨by rw [e2]; rfl, X, V1, M1, h1, XG.rf, hK.mono pQ_SF, ?_, hR1⟩
              rw [e2, fapp_nil]
              exact hF.kS hK
theorem pair_ix (k s t : Nat) : (((10 : Int32) * nI k + nI s) * 10) + nI t = nI (pair k s t) := by
  rw [show (10 : Int32) = nI 10 from rfl, pk_mul, nI_add, pk_mul, nI_add]
  rfl
theorem h8_isHad {l k : Nat} (h : MP X V M σ) (hD : MD A M) (hW : DlW A) (hl : l < (aLet A).length) (hk : k < 8) (hR : RD V M (lB (lAt A l))) (hF : FI X V M F) (hlen : F.length + (rawF (aKept A) (aKind A k) (lB (lAt A l))).length < 2 ^ 19) :
    Hr (f8_isHad (some 31) (nI k) (nI l)) σ (fun r σ' => r = bI (hasK A l k) ∧ ∃ X' V' M', MP X' V' M' σ' ∧ XG X X' ∧ Kx pSF V M V' M' ∧ FI X' V' M' F ∧ RD V' M' (lB (lAt A l))) := by
  have h60 := hW.2.2.1
  have al := LH.at hD hl
  have sl := (hW.2.2.2.1 _ (List.mem_of_getElem? (List.getElem?_eq_getElem hl)))
  have el := lAt_of (List.getElem?_eq_getElem hl)
  rw [← el] at sl
  have hpl : pair k (lS (lAt A l)) (lT (lAt A l)) < 800 := by unfold pair; omega
  unfold f8_isHad hasK
  refine (m_getR h rfl).mpr ?_
  refine (m_getR h rfl).mpr ?_
  refine (m_ld (n := 60) h rfl rfl rfl rfl (by omega)).mpr ?_
  refine (m_getR h rfl).mpr ?_
  refine (m_ld (n := 60) h rfl rfl rfl rfl (by omega)).mpr ?_
  rw [al.2.2.1, al.2.2.2.1]
  refine (m_ld (n := 800) h rfl rfl rfl (pair_ix _ _ _) hpl).mpr ?_
  rw [hD.2.2.1 _ hpl]
  refine b_ite (fun c => ?_) (fun c => ?_)
  · rw [bI_0] at c
    refine (m_obj h).mpr ?_
    refine b_hr (h8_find (b := false) h hD hW hl hk hR hF hlen) ?_
    rintro r σ1 ⟨rfl, X1, V1, M1, h1, hG, hK, hF1, hR1⟩
    have hfl : (findR A l k).length ≤ (rawF (aKept A) (aKind A k) (lB (lAt A l))).length := by
      unfold findR
      split
      · simp
      · split
        · simp
        · exact Nat.le_refl _
    rw [c, show (0 : Int32) = nI 0 from rfl]
    refine b_ite (fun c2 => ?_) (fun c2 => ?_)
    · rw [nI_leI (by omega) (by omega)] at c2
      refine hr_rt.mpr ⟨?_, X1, V1, M1, h1, hG, hK, hF1, hR1⟩
      rw [decide_eq_false (by omega)]
      rfl
    · rw [nI_leI (by omega) (by omega)] at c2
      refine hr_rt.mpr ⟨?_, X1, V1, M1, h1, hG, hK, hF1, hR1⟩
      rw [decide_eq_true (by omega)]
      rfl
  · rw [bI_0, Bool.not_eq_false] at c
    refine hr_rt.mpr ⟨?_, X, V, M, h, XG.rf, Kx.rf, hF, hR⟩
    rw [c]
    rfl
end MDEAL
