/-! ===== the reference's kept texts: parts, words that are alike ===== -/
def KT (M : Nat → Nat → Int32) (i : Nat) (ks : List Int32) : Prop := M 18 i = nI (wds ks).length ∧ (∀ k c, (bts ks)[k]? = some c → M 15 (300 * i + k) = c) ∧ ∀ w p, (wds ks)[w]? = some p → M 16 (300 * i + w) = nI p.1 ∧ M 17 (300 * i + w) = nI (p.2 - 1)
def stB (xs ks : List Int32) (n w p : Nat) : Bool := decide (w + n ≤ (wds xs).length) && (decide (p + n ≤ (wds ks).length) && (longOne ks p n && rowEq xs ks w p n))
theorem ix300 (t w : Nat) : (300 : Int32) * nI t + nI w = nI (300 * t + w) := by
  rw [show (300 : Int32) = nI 300 from rfl, pk_mul, nI_add]
theorem KT.kp {V V' : Nat → Int32} {M M' : Nat → Nat → Int32} {i : Nat} {ks : List Int32} (h : KT M i ks) (k : Kx pSF V M V' M') : KT M' i ks := by
  unfold KT
  rw [k.2 15 rfl, k.2 16 rfl, k.2 17 rfl, k.2 18 rfl]
  exact h
section MSTANDS
variable {X : MX} {V : Nat → Int32} {M : Nat → Nat → Int32} {σ : AH} {xs ks : List Int32}
theorem e8_isPart {t p n : Nat} (h : MP X V M σ) (hT : KT M t ks) (ht : t < 8) (hk : ks.length ≤ 300) (hp : p < 1000) (hn : n ≤ 8) : f8_isPart (some 31) (nI t) (nI p) (nI n) σ = some (bI (decide (p + n ≤ (wds ks).length) && longOne ks p n), σ) := by
  have hcy := wds_cnt ks
  have hly := TXT_len ks
  refine hr_det ?_
  unfold f8_isPart
  refine (m_getR h rfl).mpr ?_
  refine (m_ld (n := 8) h rfl rfl rfl rfl ht).mpr ?_
  rw [hT.1, nI_add]
  refine b_ite (fun c => ?_) (fun c => ?_)
  · rw [nI_leI (by omega) (by omega)] at c
    rw [decide_eq_true c, Bool.true_and]
    refine b_hr (P := fun y σ' => σ' = σ ∧ ((y = .inl 1 ∧ longOne ks p n = true) ∨ (y = .inr () ∧ longOne ks p n = false))) ?_ ?_
    · refine hr_loop (fun x σ1 => σ1 = σ ∧ ∃ k, x = nI (p + k) ∧ k ≤ n ∧ ∀ j, j < k → wl ks (p + j) < 4) (fun x => p + n - x.toNatClampNeg) ⟨rfl, 0, rfl, Nat.zero_le _, fun j hj => by omega⟩ (by show p + n - _ < _; omega) ?_
      rintro rec x σ1 ⟨rfl, k, rfl, hkn, hall⟩ ih
      unfold l8_isPart_17
      rw [nI_add]
      refine b_ite (fun c => ?_) (fun c => ?_)
      · rw [nI_leI (by omega) (by omega)] at c
        refine hr_rt.mpr ⟨rfl, Or.inr ⟨rfl, ?_⟩⟩
        simp only [longOne, decide_eq_false_iff_not, Classical.not_not]
        exact fun j hj => hall j (by omega)
      · rw [nI_leI (by omega) (by omega)] at c
        obtain ⟨pp, hpp⟩ : ∃ z, (wds ks)[p + k]? = some z := ⟨_, List.getElem?_eq_getElem (by omega)⟩
        have hm := wds_mem (List.mem_of_getElem? hpp)
        have hw := hT.2.2 _ _ hpp
        have hwl := wl_at hpp
        refine (m_getR h rfl).mpr ?_
        refine (m_ld (n := 2400) h rfl rfl rfl (ix300 _ _) (by omega)).mpr ?_
        refine (m_getR h rfl).mpr ?_
        refine (m_ld (n := 2400) h rfl rfl rfl (ix300 _ _) (by omega)).mpr ?_
        rw [hw.1, hw.2, nI_subN (by omega), show (3 : Int32) = nI 3 from rfl]
        refine b_ite (fun c2 => ?_) (fun c2 => ?_)
        · rw [nI_ltI (by omega) (by omega)] at c2
          refine ih _ _ ⟨rfl, k + 1, nI_1 _, by omega, fun j hj => ?_⟩ ?_
          · by_cases hjk : j = k
            · subst hjk; omega
            · exact hall j (by omega)
          · rw [nI_1, nI_clamp (by omega), nI_clamp (by omega)]; omega
        · rw [nI_ltI (by omega) (by omega)] at c2
          refine hr_rt.mpr ⟨rfl, Or.inl ⟨rfl, ?_⟩⟩
          simp only [longOne, decide_eq_true_eq]
          intro hq
          have := hq k (by omega)
          omega
    · rintro y σ' ⟨rfl, ⟨rfl, hne⟩ | ⟨rfl, heq⟩⟩
      · exact hr_rt.mpr ⟨by rw [hne]; rfl, rfl⟩
      · exact hr_rt.mpr ⟨by rw [heq]; rfl, rfl⟩
  · rw [nI_leI (by omega) (by omega)] at c
    rw [decide_eq_false c, Bool.false_and]
    exact hr_rt.mpr ⟨rfl, rfl⟩
theorem e8_isWord {t p w : Nat} (h : MP X V M σ) (hR : RD V M xs) (hl : xs.length ≤ 300) (hT : KT M t ks) (ht : t < 8) (hk : ks.length ≤ 300) (hp : p < (wds ks).length) (hw : w < (wds xs).length) : f8_isWord (some 31) (nI t) (nI p) (nI w) σ = some (bI (decide ((wv xs)[w]? = (wv ks)[p]?)), σ) := by
  have hcx := wds_cnt xs
  have hcy := wds_cnt ks
  have hlx := TXT_len xs
  have hly := TXT_len ks
  have hlu := ut_len xs
  have hbx := bts_len xs
  have hbk := bts_len ks
  obtain ⟨a, ha⟩ : ∃ a, (wds xs)[w]? = some a := ⟨_, List.getElem?_eq_getElem hw⟩
  obtain ⟨b, hb⟩ : ∃ b, (wds ks)[p]? = some b := ⟨_, List.getElem?_eq_getElem hp⟩
  have ma := wds_mem (List.mem_of_getElem? ha)
  have mb := wds_mem (List.mem_of_getElem? hb)
  have la := sl_len (List.mem_of_getElem? ha)
  have lb := sl_len (List.mem_of_getElem? hb)
  have wa := hR.2.2.2.1 _ _ ha
  have wb := hT.2.2 _ _ hb
  rw [wv_at ha, wv_at hb]
  refine hr_det ?_
  have no : ¬ sl (bts xs) a = sl (bts ks) b → Hr (rt (0 : Int32)) σ (fun r σ' => r = bI (decide (some (sl (bts xs) a) = some (sl (bts ks) b))) ∧ σ' = σ) := by
    intro hne
    refine hr_rt.mpr ⟨?_, rfl⟩
    simp [hne, bI]
  unfold f8_isWord
  refine (m_getR h rfl).mpr ?_
  refine (m_ld (n := 2400) h rfl rfl rfl (ix300 _ _) (by omega)).mpr ?_
  refine (m_getR h rfl).mpr ?_
  refine (m_ld (n := 2400) h rfl rfl rfl (ix300 _ _) (by omega)).mpr ?_
  refine (m_getR h rfl).mpr ?_
  refine (m_ld (n := 300) h rfl rfl rfl rfl (by omega)).mpr ?_
  refine (m_getR h rfl).mpr ?_
  refine (m_ld (n := 300) h rfl rfl rfl rfl (by omega)).mpr ?_
  rw [wa.1, wa.2, wb.1, wb.2, nI_subN (by omega), nI_subN (by omega)]
  refine b_ite (fun c => ?_) (fun c => no (fun e => c ?_))
  · rw [nI_eq (by omega) (by omega)] at c
    refine b_hr (P := fun y σ' => σ' = σ ∧ ((y = .inl 0 ∧ ¬ sl (bts xs) a = sl (bts ks) b) ∨ (y = .inr () ∧ sl (bts xs) a = sl (bts ks) b))) ?_ ?_
    · refine hr_loop (fun x σ1 => σ1 = σ ∧ ∃ k, x = nI k ∧ k ≤ a.2 - a.1 ∧ ∀ j, j < k → (sl (bts xs) a)[j]? = (sl (bts ks) b)[j]?) (fun x => (a.2 - a.1) - x.toNatClampNeg) ⟨rfl, 0, rfl, Nat.zero_le _, fun j hj => by omega⟩ (by show (a.2 - a.1) - _ < _; omega) ?_
      rintro rec x σ1 ⟨rfl, k, rfl, hkn, hall⟩ ih
      unfold l8_isWord_54
      refine b_ite (fun c3 => ?_) (fun c3 => ?_)
      · rw [nI_ltI (by omega) (by omega)] at c3
        refine hr_rt.mpr ⟨rfl, Or.inr ⟨rfl, ?_⟩⟩
        apply List.ext_getElem?
        intro j
        by_cases hj : j < k
        · exact hall j hj
        · rw [List.getElem?_eq_none (by omega), List.getElem?_eq_none (by omega)]
      · rw [nI_ltI (by omega) (by omega)] at c3
        obtain ⟨ux, hux⟩ : ∃ c, (ut xs)[a.1 + k]? = some c := ⟨_, List.getElem?_eq_getElem (by omega)⟩
        obtain ⟨cy, hcy'⟩ : ∃ c, (bts ks)[b.1 + k]? = some c := ⟨_, List.getElem?_eq_getElem (by omega)⟩
        have hm := (hR.2.1 _ _ hux).1
        rw [Nat.zero_add] at hm
        refine (m_getR h rfl).mpr ?_
        refine (m_ld (n := 2400) (j := 300 * t + (b.1 + k)) h rfl rfl rfl (by rw [ix300, nI_add, Nat.add_assoc]) (by omega)).mpr ?_
        rw [hT.2.1 _ _ hcy']
        refine (m_getR h rfl).mpr ?_
        refine (m_getR h rfl).mpr ?_
        refine (m_ld (n := 300) h rfl rfl rfl rfl (by omega)).mpr ?_
        rw [wa.1]
        refine (m_ld (n := 300) h rfl rfl rfl (nI_add _ _) (by omega)).mpr ?_
        rw [hm]
        refine (b_eq (e8_small _ _)).mpr ?_
        refine b_ite (fun c4 => ?_) (fun c4 => ?_)
        · refine ih _ _ ⟨rfl, k + 1, nI_1 k, by omega, fun j hj => ?_⟩ ?_
          · by_cases hjk : j = k
            · subst hjk
              rw [sl_get (by omega), sl_get (by omega), hcy', ut_bts hux, c4]
            · exact hall j (by omega)
          · rw [nI_1, nI_clamp (by omega), nI_clamp (by omega)]; omega
        · refine hr_rt.mpr ⟨rfl, Or.inl ⟨rfl, fun e => c4 ?_⟩⟩
          have e1 := congrArg (fun L => L[k]?) e
          rw [sl_get (by omega), sl_get (by omega), hcy', ut_bts hux] at e1
          exact (Option.some.inj e1).symm
    · rintro y σ' ⟨rfl, ⟨rfl, hne⟩ | ⟨rfl, heq⟩⟩
      · exact no hne
      · refine hr_rt.mpr ⟨?_, rfl⟩
        simp [heq, bI]
  · have : (sl (bts xs) a).length = (sl (bts ks) b).length := by rw [e]
    rw [la, lb] at this
    congr 1
    omega
theorem e8_stands {t p n w : Nat} (h : MP X V M σ) (hR : RD V M xs) (hl : xs.length ≤ 300) (hT : KT M t ks) (ht : t < 8) (hk : ks.length ≤ 300) (hp : p < 1000) (hw : w < 1000) (hn : n ≤ 8) : f8_stands (some 31) (nI t) (nI p) (nI n) (nI w) σ = some (bI (stB xs ks n w p), σ) := by
  have hcx := wds_cnt xs
  have hcy := wds_cnt ks
  refine hr_det ?_
  unfold f8_stands stB
  refine (m_getI h (by decide) rfl).mpr ?_
  rw [hR.2.2.1, nI_add]
  refine b_ite (fun c => ?_) (fun c => ?_)
  · rw [nI_ltI (by omega) (by omega)] at c
    rw [decide_eq_false (by omega), Bool.false_and]
    exact hr_rt.mpr ⟨rfl, rfl⟩
  · rw [nI_ltI (by omega) (by omega)] at c
    rw [decide_eq_true (show w + n ≤ (wds xs).length by omega), Bool.true_and]
    refine (m_obj h).mpr ?_
    refine (b_eq (e8_isPart h hT ht hk hp hn)).mpr ?_
    refine b_ite (fun c2 => ?_) (fun c2 => ?_)
    · rw [bI_0] at c2
      rw [← Bool.and_assoc, c2, Bool.false_and]
      exact hr_rt.mpr ⟨rfl, rfl⟩
    · rw [bI_0, Bool.not_eq_false] at c2
      rw [← Bool.and_assoc, c2, Bool.true_and]
      rw [Bool.and_eq_true, decide_eq_true_eq] at c2
      have c2 := c2.1
      refine b_hr (P := fun y σ' => σ' = σ ∧ ((y = .inl 0 ∧ rowEq xs ks w p n = false) ∨ (y = .inr () ∧ rowEq xs ks w p n = true))) ?_ ?_
      · refine hr_loop (fun x σ1 => σ1 = σ ∧ ∃ k, x = nI k ∧ k ≤ n ∧ ∀ j, j < k → (wv xs)[w + j]? = (wv ks)[p + j]?) (fun x => n - x.toNatClampNeg) ⟨rfl, 0, rfl, Nat.zero_le _, fun j hj => by omega⟩ (by show n - _ < _; omega) ?_
        rintro rec x σ1 ⟨rfl, k, rfl, hkn, hall⟩ ih
        unfold l8_stands_26
        refine b_ite (fun c => ?_) (fun c => ?_)
        · rw [nI_leI (by omega) (by omega)] at c
          refine hr_rt.mpr ⟨rfl, Or.inr ⟨rfl, ?_⟩⟩
          simp only [rowEq, decide_eq_true_eq]
          exact fun j hj => hall j (by omega)
        · rw [nI_leI (by omega) (by omega)] at c
          refine (m_obj h).mpr ?_
          rw [nI_add, nI_add]
          refine (b_eq (e8_isWord h hR hl hT ht hk (by omega) (by omega))).mpr ?_
          refine b_ite (fun c2 => ?_) (fun c2 => ?_)
          · rw [bI_0, decide_eq_false_iff_not] at c2
            refine hr_rt.mpr ⟨rfl, Or.inl ⟨rfl, ?_⟩⟩
            simp only [rowEq, decide_eq_false_iff_not]
            exact fun hq => c2 (hq k (by omega))
          · rw [bI_0, Bool.not_eq_false, decide_eq_true_eq] at c2
            refine ih _ _ ⟨rfl, k + 1, nI_1 k, by omega, fun j hj => ?_⟩ ?_
            · by_cases hjk : j = k
              · subst hjk; exact c2
              · exact hall j (by omega)
            · rw [nI_1, nI_clamp (by omega), nI_clamp (by omega)]; omega
      · rintro y σ' ⟨rfl, ⟨rfl, hne⟩ | ⟨rfl, heq⟩⟩
        · exact hr_rt.mpr ⟨by rw [hne]; rfl, rfl⟩
        · exact hr_rt.mpr ⟨by rw [heq]; rfl, rfl⟩
end MSTANDS
