/-! ===== the reference: finding parts, marks, numbers ===== -/
section MFIND
variable {X : MX} {V : Nat → Int32} {M : Nat → Nat → Int32} {σ : AH} {xs ks ms : List Int32} {F : List T3}
theorem rd_place (hR : RD V M xs) {w : Nat} {p : Nat × Nat} (hp : (wds xs)[w]? = some p) : M 6 p.1 = pFst xs w ∧ M 7 (p.2 - 1) = pLst xs w := by
  have mp := wds_mem (List.mem_of_getElem? hp)
  have hlu := ut_len xs
  have hbx := bts_len xs
  obtain ⟨x, hx1⟩ : ∃ x, (ut xs)[p.1]? = some x := ⟨_, List.getElem?_eq_getElem (by omega)⟩
  obtain ⟨y, hy1⟩ : ∃ y, (ut xs)[p.2 - 1]? = some y := ⟨_, List.getElem?_eq_getElem (by omega)⟩
  have f1 := (hR.2.1 _ _ hx1).2.1
  have f2 := (hR.2.1 _ _ hy1).2.2
  rw [Nat.zero_add] at f1 f2
  refine ⟨?_, ?_⟩
  · rw [f1]
    simp [pFst, List.getD_eq_getElem?_getD, hp, ut_TXT hx1]
  · rw [f2]
    simp [pLst, List.getD_eq_getElem?_getD, hp, ut_TXT hy1]
theorem stB_gPar {n w p : Nat} (h1 : w + n ≤ (wds xs).length) (h2 : p + n ≤ (wds ks).length) : stB xs ks n w p = decide (rowEq xs ks w p n = true ∧ longOne ks p n = true) := by
  unfold stB
  rw [decide_eq_true h1, decide_eq_true h2]
  cases rowEq xs ks w p n <;> cases longOne ks p n <;> rfl
theorem h8_findParts {k t n : Nat} {b : Bool} (h : MP X V M σ) (hR : RD V M xs) (hl : xs.length ≤ 300) (hT : KT M t ks) (ht : t < 8) (hk : ks.length ≤ 300) (hn : n ≤ 8) (h2n : 2 ≤ n) (hk8 : k < 8) (e23 : M 23 k = nI t) (e24 : M 24 k = nI n) (hF : FI X V M F) (hlen : F.length + (fPar xs ks n).length < 2 ^ 19) :
    Hr (f8_findParts (some 31) (nI k) (bI b)) σ (fun r σ' => r = nI (fPar xs ks n).length ∧ ∃ X' V' M', MP X' V' M' σ' ∧ XG X X' ∧ Kx pF V M V' M' ∧ FI X' V' M' (fapp b F (fPar xs ks n))) := by
  have hcx := wds_cnt xs
  have hcy := wds_cnt ks
  have hlx := TXT_len xs
  have hbx := bts_len xs
  unfold f8_findParts
  refine (m_getR h rfl).mpr ?_
  refine (m_ld (n := 8) h rfl rfl rfl rfl hk8).mpr ?_
  refine (m_getR h rfl).mpr ?_
  refine (m_ld (n := 8) h rfl rfl rfl rfl hk8).mpr ?_
  rw [e23, e24]
  refine b_hr (P := fun r σ' => r = nI (fPar xs ks n).length ∧ ∃ X' V' M', MP X' V' M' σ' ∧ XG X X' ∧ Kx pF V M V' M' ∧ FI X' V' M' (fapp b F (fPar xs ks n))) ?_ (fun _ _ hq => hr_rt.mpr hq)
  have pre : ∀ w, w ≤ (wds xs).length + 1 - n → ((List.range w).flatMap (rPar xs ks n)).length ≤ (fPar xs ks n).length := by
    intro w hw
    unfold fPar
    obtain ⟨d, hd⟩ : ∃ d, (wds xs).length + 1 - n = w + d := ⟨_, (Nat.add_sub_cancel' hw).symm⟩
    rw [hd, List.range_add, List.flatMap_append, List.length_append]
    omega
  refine hr_loop (fun x σ1 => ∃ (w : Nat) (X1 : MX) (V1 : Nat → Int32) (M1 : Nat → Nat → Int32), x = (nI ((List.range w).flatMap (rPar xs ks n)).length, nI w) ∧ w ≤ (wds xs).length + 1 - n ∧ MP X1 V1 M1 σ1 ∧ XG X X1 ∧ Kx pF V M V1 M1 ∧ FI X1 V1 M1 (fapp b F ((List.range w).flatMap (rPar xs ks n)))) (fun x => 1000 - x.2.toNatClampNeg) ⟨0, X, V, M, rfl, Nat.zero_le _, h, XG.rf, Kx.rf, by rw [List.range_zero, List.flatMap_nil, fapp_nil]; exact hF⟩ (by show 1000 - _ < _; omega) ?_
  rintro rec x σ1 ⟨w, X1, V1, M1, rfl, hw, h1, hG, hK, hF1⟩ ih
  unfold l8_findParts_21
  dsimp only
  have hR1 := hR.kF hK
  refine (m_getI h1 (by decide) rfl).mpr ?_
  rw [hR1.2.2.1, nI_add]
  refine b_ite (fun c => ?_) (fun c => ?_)
  · rw [nI_ltI (by omega) (by omega)] at c
    have : w = (wds xs).length + 1 - n := by omega
    subst this
    exact hr_rt.mpr ⟨rfl, X1, V1, M1, h1, hG, hK, hF1⟩
  · rw [nI_ltI (by omega) (by omega)] at c
    refine b_hr (P := fun y σ' => y = nI ((List.range (w + 1)).flatMap (rPar xs ks n)).length ∧ ∃ X' V' M', MP X' V' M' σ' ∧ XG X X' ∧ Kx pF V M V' M' ∧ FI X' V' M' (fapp b F ((List.range (w + 1)).flatMap (rPar xs ks n)))) ?_ ?_
    · have hp1 := pre (w + 1) (by omega)
      rw [fl_succ, List.length_append] at hp1
      have hlq : ∀ p, p ≤ (wds ks).length + 1 - n → ((List.range p).filterMap (gPar xs ks n w)).length ≤ (rPar xs ks n w).length := by
        intro p hp
        unfold rPar
        obtain ⟨d, hd⟩ : ∃ d, (wds ks).length + 1 - n = p + d := ⟨_, (Nat.add_sub_cancel' hp).symm⟩
        rw [hd, List.range_add, List.filterMap_append, List.length_append]
        omega
      refine hr_loop (fun x σ2 => ∃ (p : Nat) (X2 : MX) (V2 : Nat → Int32) (M2 : Nat → Nat → Int32), x = (nI ((List.range w).flatMap (rPar xs ks n) ++ (List.range p).filterMap (gPar xs ks n w)).length, nI p) ∧ p ≤ (wds ks).length + 1 - n ∧ MP X2 V2 M2 σ2 ∧ XG X X2 ∧ Kx pF V M V2 M2 ∧ FI X2 V2 M2 (fapp b F ((List.range w).flatMap (rPar xs ks n) ++ (List.range p).filterMap (gPar xs ks n w)))) (fun x => 1000 - x.2.toNatClampNeg) ⟨0, X1, V1, M1, by rw [List.range_zero, List.filterMap_nil, List.append_nil]; rfl, Nat.zero_le _, h1, hG, hK, by simpa using hF1⟩ (by show 1000 - _ < _; omega) ?_
      rintro rec2 x σ2 ⟨p, X2, V2, M2, rfl, hp, h2, hG2, hK2, hF2⟩ ih2
      unfold l8_findParts_36
      dsimp only
      have hR2 := hR.kF hK2
      have hT2 := hT.kF hK2
      refine (m_getR h2 rfl).mpr ?_
      refine (m_ld (n := 8) h2 rfl rfl rfl rfl ht).mpr ?_
      rw [hT2.1, nI_add]
      refine b_ite (fun c2 => ?_) (fun c2 => ?_)
      · rw [nI_ltI (by omega) (by omega)] at c2
        have : p = (wds ks).length + 1 - n := by omega
        subst this
        rw [fl_succ]
        exact hr_rt.mpr ⟨rfl, X2, V2, M2, h2, hG2, hK2, hF2⟩
      · rw [nI_ltI (by omega) (by omega)] at c2
        have hm : 1000 - (nI p + 1).toNatClampNeg < 1000 - (nI p).toNatClampNeg := by rw [nI_1, nI_clamp (by omega), nI_clamp (by omega)]; omega
        refine (m_obj h2).mpr ?_
        refine (b_eq (e8_stands h2 hR2 hl hT2 ht hk (by omega) (by omega) hn)).mpr ?_
        rw [stB_gPar (by omega) (by omega)]
        refine b_ite (fun c3 => ?_) (fun c3 => ?_)
        · rw [bI_0, decide_eq_false_iff_not] at c3
          refine ih2 _ _ ⟨p + 1, X2, V2, M2, ?_, by omega, h2, hG2, hK2, ?_⟩ hm
          · rw [nI_1, fm_succ, show gPar xs ks n w p = none from if_neg c3]
            simp
          · rw [fm_succ, show gPar xs ks n w p = none from if_neg c3]
            simpa using hF2
        · rw [bI_0, Bool.not_eq_false, decide_eq_true_eq] at c3
          obtain ⟨a, ha⟩ : ∃ a, (wds xs)[w]? = some a := ⟨_, List.getElem?_eq_getElem (by omega)⟩
          obtain ⟨a', ha'⟩ : ∃ a, (wds xs)[w + n - 1]? = some a := ⟨_, List.getElem?_eq_getElem (by omega)⟩
          have mA := wds_mem (List.mem_of_getElem? ha)
          have mA' := wds_mem (List.mem_of_getElem? ha')
          refine (m_getR h2 rfl).mpr ?_
          refine (m_ld (n := 300) h2 rfl rfl rfl rfl (by omega)).mpr ?_
          refine (m_getR h2 rfl).mpr ?_
          refine (m_ld (n := 300) (j := w + n - 1) h2 rfl rfl rfl (by rw [nI_add, show (1 : Int32) = nI 1 from rfl, nI_subN (by omega)]) (by omega)).mpr ?_
          rw [(hR2.2.2.2.1 _ _ ha).1, (hR2.2.2.2.1 _ _ ha').2]
          refine (m_obj h2).mpr ?_
          have hq := hlq p (by omega)
          have hfl := fapp_len b F ((List.range w).flatMap (rPar xs ks n) ++ (List.range p).filterMap (gPar xs ks n w))
          rw [List.length_append] at hfl
          refine b_hr (h8_found (b := b) h2 hF2 (by omega) (by omega) (by omega)) ?_
          rintro _ σ3 ⟨X3, V3, M3, h3, hG3, hK3, hF3⟩
          have eg : gPar xs ks n w p = some (pFst xs w, pLst xs (w + n - 1), nI p) := if_pos c3
          refine ih2 _ _ ⟨p + 1, X3, V3, M3, ?_, by omega, h3, hG2.tr hG3, hK2.tr hK3, ?_⟩ hm
          · rw [nI_1, nI_1, fm_succ, eg, ← List.append_assoc]
            simp [Nat.add_assoc]
          · rw [fapp_app, (rd_place hR2 ha).1, (rd_place hR2 ha').2] at hF3
            rw [fm_succ, eg, ← List.append_assoc]
            exact hF3
    · rintro y σ2 ⟨rfl, X2, V2, M2, h2, hG2, hK2, hF2⟩
      refine ih _ _ ⟨w + 1, X2, V2, M2, by rw [nI_1], by omega, h2, hG2, hK2, hF2⟩ ?_
      rw [nI_1, nI_clamp (by omega), nI_clamp (by omega)]; omega
theorem h8_findMark {k : Nat} {b : Bool} (h : MP X V M σ) (hR : RD V M xs) (hl : xs.length ≤ 300) (hM : MK M k ms) (hk8 : k < 8) (hF : FI X V M F) (hlen : F.length + (fMark xs ms).length < 2 ^ 19) :
    Hr (fx (l8_find_16 (some 31) (nI k) (bI b)) FUEL (0, 0)) σ (fun r σ' => r = nI (fMark xs ms).length ∧ ∃ X' V' M', MP X' V' M' σ' ∧ XG X X' ∧ Kx pF V M V' M' ∧ FI X' V' M' (fapp b F (fMark xs ms))) := by
  have hcx := wds_cnt xs
  have hlx := TXT_len xs
  have hbx := bts_len xs
  have pre : ∀ w, w ≤ (wds xs).length → ((List.range w).filterMap (gMark xs ms)).length ≤ (fMark xs ms).length := by
    intro w hw
    unfold fMark
    obtain ⟨d, hd⟩ : ∃ d, (wds xs).length = w + d := ⟨_, (Nat.add_sub_cancel' hw).symm⟩
    rw [hd, List.range_add, List.filterMap_append, List.length_append]
    omega
  refine hr_loop (fun x σ1 => ∃ (w : Nat) (X1 : MX) (V1 : Nat → Int32) (M1 : Nat → Nat → Int32), x = (nI ((List.range w).filterMap (gMark xs ms)).length, nI w) ∧ w ≤ (wds xs).length ∧ MP X1 V1 M1 σ1 ∧ XG X X1 ∧ Kx pF V M V1 M1 ∧ FI X1 V1 M1 (fapp b F ((List.range w).filterMap (gMark xs ms)))) (fun x => 1000 - x.2.toNatClampNeg) ⟨0, X, V, M, rfl, Nat.zero_le _, h, XG.rf, Kx.rf, by rw [List.range_zero, List.filterMap_nil, fapp_nil]; exact hF⟩ (by show 1000 - _ < _; omega) ?_
  rintro rec x σ1 ⟨w, X1, V1, M1, rfl, hw, h1, hG, hK, hF1⟩ ih
  unfold l8_find_16
  dsimp only
  have hR1 := hR.kF hK
  have hM1 := hM.kF hK
  refine (m_getI h1 (by decide) rfl).mpr ?_
  rw [hR1.2.2.1]
  refine b_ite (fun c => ?_) (fun c => ?_)
  · rw [nI_leI (by omega) (by omega)] at c
    have : w = (wds xs).length := by omega
    subst this
    exact hr_rt.mpr ⟨rfl, X1, V1, M1, h1, hG, hK, hF1⟩
  · rw [nI_leI (by omega) (by omega)] at c
    have hm : 1000 - (nI w + 1).toNatClampNeg < 1000 - (nI w).toNatClampNeg := by rw [nI_1, nI_clamp (by omega), nI_clamp (by omega)]; omega
    refine (m_obj h1).mpr ?_
    refine (b_eq (e8_isMark h1 hR1 hl hM1 hk8 (by omega))).mpr ?_
    refine b_ite (fun c3 => ?_) (fun c3 => ?_)
    · rw [bI_0, decide_eq_false_iff_not] at c3
      refine ih _ _ ⟨w + 1, X1, V1, M1, ?_, by omega, h1, hG, hK, ?_⟩ hm
      · rw [nI_1, fm_succ, show gMark xs ms w = none from if_neg c3]
        simp
      · rw [fm_succ, show gMark xs ms w = none from if_neg c3]
        simpa using hF1
    · rw [bI_0, Bool.not_eq_false, decide_eq_true_eq] at c3
      obtain ⟨a, ha⟩ : ∃ a, (wds xs)[w]? = some a := ⟨_, List.getElem?_eq_getElem (by omega)⟩
      have mA := wds_mem (List.mem_of_getElem? ha)
      refine (m_getR h1 rfl).mpr ?_
      refine (m_ld (n := 300) h1 rfl rfl rfl rfl (by omega)).mpr ?_
      refine (m_getR h1 rfl).mpr ?_
      refine (m_ld (n := 300) h1 rfl rfl rfl rfl (by omega)).mpr ?_
      rw [(hR1.2.2.2.1 _ _ ha).1, (hR1.2.2.2.1 _ _ ha).2]
      refine (m_obj h1).mpr ?_
      have hq := pre w (by omega)
      have hfl := fapp_len b F ((List.range w).filterMap (gMark xs ms))
      refine b_hr (h8_found (b := b) h1 hF1 (by omega) (by omega) (by omega)) ?_
      rintro _ σ3 ⟨X3, V3, M3, h3, hG3, hK3, hF3⟩
      have eg : gMark xs ms w = some (pFst xs w, pLst xs w, -1) := if_pos c3
      refine ih _ _ ⟨w + 1, X3, V3, M3, ?_, by omega, h3, hG.tr hG3, hK.tr hK3, ?_⟩ hm
      · rw [nI_1, nI_1, fm_succ, eg]
        simp
      · rw [fapp_app, (rd_place hR1 ha).1, (rd_place hR1 ha).2] at hF3
        rw [fm_succ, eg]
        exact hF3
theorem nmsF_mem (B : List Int32) : ∀ (n k : Nat), ∀ p ∈ nmsF B n k, p.1 < B.length ∧ p.2 < B.length := by
  intro n
  induction n with
  | zero => intro k p hp; cases hp
  | succ n ih =>
    intro k p hp
    rw [nmsF] at hp
    split at hp
    · rename_i hd
      rw [List.mem_append] at hp
      rcases hp with hp | hp
      · split at hp
        · rw [List.mem_singleton] at hp
          subst hp
          exact ⟨dAt_lt hd, (eod_ge (dAt_lt hd)).2⟩
        · cases hp
      · exact ih _ p hp
    · exact ih _ p hp
theorem rd_num (hR : RD V M xs) {p : Nat × Nat} (h1 : p.1 < (bts xs).length) (h2 : p.2 < (bts xs).length) : ((M 6 p.1, M 7 p.2, -1) : T3) = pNum xs p := by
  have hlu := ut_len xs
  obtain ⟨x, hx1⟩ : ∃ x, (ut xs)[p.1]? = some x := ⟨_, List.getElem?_eq_getElem (by omega)⟩
  obtain ⟨y, hy1⟩ : ∃ y, (ut xs)[p.2]? = some y := ⟨_, List.getElem?_eq_getElem (by omega)⟩
  have f1 := (hR.2.1 _ _ hx1).2.1
  have f2 := (hR.2.1 _ _ hy1).2.2
  rw [Nat.zero_add] at f1 f2
  rw [f1, f2]
  simp [pNum, List.getD_eq_getElem?_getD, ut_TXT hx1, ut_TXT hy1]
theorem h8_findNum {k m : Nat} {b : Bool} (h : MP X V M σ) (hR : RD V M xs) (hl : xs.length ≤ 300) (hk8 : k < 8) (e25 : M 25 k = nI m) (hm20 : m ≤ 100) (hF : FI X V M F) (hlen : F.length + (fNum xs).length < 2 ^ 19) :
    Hr (fx (l8_find_80 (some 31) (nI k) (bI b)) FUEL 0) σ (fun _ σ' => ∃ X' V' M', MP X' V' M' σ' ∧ XG X X' ∧ Kx pF V M V' M' ∧ FI X' V' M' (fapp b F (if m ≤ (fNum xs).length then fNum xs else []))) := by
  have hlx := TXT_len xs
  have hbx := bts_len xs
  have hnl : (nms (bts xs)).length ≤ (bts xs).length := nmsF_len _ _ _
  have hfl : (fNum xs).length = (nms (bts xs)).length := by simp [fNum]
  rw [hfl] at hlen ⊢
  refine hr_loop (fun x σ1 => ∃ (w : Nat) (X1 : MX) (V1 : Nat → Int32) (M1 : Nat → Nat → Int32), x = nI w ∧ w ≤ (nms (bts xs)).length ∧ (w = 0 ∨ m ≤ (nms (bts xs)).length) ∧ MP X1 V1 M1 σ1 ∧ XG X X1 ∧ Kx pF V M V1 M1 ∧ FI X1 V1 M1 (fapp b F (((nms (bts xs)).take w).map (pNum xs)))) (fun x => 1000 - x.toNatClampNeg) ⟨0, X, V, M, rfl, Nat.zero_le _, Or.inl rfl, h, XG.rf, Kx.rf, by rw [List.take_zero, List.map_nil, fapp_nil]; exact hF⟩ (by show 1000 - _ < _; omega) ?_
  rintro rec x σ1 ⟨w, X1, V1, M1, rfl, hw, hw0, h1, hG, hK, hF1⟩ ih
  unfold l8_find_80
  have hR1 := hR.kF hK
  have fin : (w = (nms (bts xs)).length ∧ (w = 0 ∨ m ≤ (nms (bts xs)).length)) ∨ (w = 0 ∧ ¬ m ≤ (nms (bts xs)).length) → FI X1 V1 M1 (fapp b F (if m ≤ (nms (bts xs)).length then fNum xs else [])) := by
    intro hq
    have : ((nms (bts xs)).take w).map (pNum xs) = (if m ≤ (nms (bts xs)).length then fNum xs else []) := by
      rcases hq with ⟨q1, q2⟩ | ⟨q1, q2⟩
      · rw [q1, List.take_length]
        rcases q2 with q2 | q2
        · have : nms (bts xs) = [] := List.length_eq_zero_iff.mp (by omega)
          unfold fNum
          rw [this]
          simp
        · rw [if_pos q2]; rfl
      · rw [q1, if_neg q2]; rfl
    rw [← this]
    exact hF1
  refine (m_getI h1 (by decide) rfl).mpr ?_
  rw [hR1.2.2.2.2.1]
  refine b_ite (fun c => ?_) (fun c => ?_)
  · rw [nI_leI (by omega) (by omega)] at c
    exact hr_rt.mpr ⟨X1, V1, M1, h1, hG, hK, fin (Or.inl ⟨by omega, hw0⟩)⟩
  · rw [nI_leI (by omega) (by omega)] at c
    refine (m_getI h1 (by decide) rfl).mpr ?_
    rw [hR1.2.2.2.2.1]
    refine (m_getR h1 rfl).mpr ?_
    refine (m_ld (n := 8) h1 rfl rfl rfl rfl hk8).mpr ?_
    rw [hK.2 25 rfl, e25]
    refine b_ite (fun c2 => ?_) (fun c2 => ?_)
    · rw [nI_ltI (by omega) (by omega)] at c2
      exact hr_rt.mpr ⟨X1, V1, M1, h1, hG, hK, fin (Or.inr ⟨by omega, by omega⟩)⟩
    · rw [nI_ltI (by omega) (by omega)] at c2
      obtain ⟨p, hp⟩ : ∃ p, (nms (bts xs))[w]? = some p := ⟨_, List.getElem?_eq_getElem (by omega)⟩
      have hpm := nmsF_mem _ _ _ p (List.mem_of_getElem? hp)
      refine (m_getR h1 rfl).mpr ?_
      refine (m_ld (n := 300) h1 rfl rfl rfl rfl (by omega)).mpr ?_
      refine (m_getR h1 rfl).mpr ?_
      refine (m_ld (n := 300) h1 rfl rfl rfl rfl (by omega)).mpr ?_
      rw [(hR1.2.2.2.2.2 _ _ hp).1, (hR1.2.2.2.2.2 _ _ hp).2]
      refine (m_obj h1).mpr ?_
      have hfl2 := fapp_len b F (((nms (bts xs)).take w).map (pNum xs))
      rw [List.length_map, List.length_take] at hfl2
      refine b_hr (h8_found (b := b) h1 hF1 (by omega) (by omega) (by omega)) ?_
      rintro _ σ3 ⟨X3, V3, M3, h3, hG3, hK3, hF3⟩
      refine ih _ _ ⟨w + 1, X3, V3, M3, nI_1 w, by omega, Or.inr (by omega), h3, hG.tr hG3, hK.tr hK3, ?_⟩ ?_
      · rw [fapp_app, rd_num hR1 hpm.1 hpm.2] at hF3
        rw [List.take_add_one, hp, List.map_append]
        exact hF3
      · rw [nI_1, nI_clamp (by omega), nI_clamp (by omega)]; omega
end MFIND
