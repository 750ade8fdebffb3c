/-! ===== the reference: the set of parts, marks ===== -/
def hasP (xs ks : List Int32) (n p : Nat) : Bool := (List.range ((wds xs).length + 1 - n)).any (fun w => stB xs ks n w p)
def SP (M : Nat → Nat → Int32) (S : Nat → Bool) : Prop := ∀ p, p < 300 → M 19 p = bI (S p)
def p19 : Nat → Bool := fun f => decide (f = 19)
theorem p19_Q : ∀ f, p19 f = true → pQ f = true := by
  intro f hf
  simp only [p19, pQ, decide_eq_true_eq] at hf ⊢
  omega
theorem RD.k19 {V V' : Nat → Int32} {M M' : Nat → Nat → Int32} {xs : List Int32} (h : RD V M xs) (k : Kx p19 V M V' M') : RD V' M' xs := by
  unfold RD WM NM
  rw [k.1 8 rfl, k.1 11 rfl, k.1 14 rfl, k.2 5 rfl, k.2 6 rfl, k.2 7 rfl, k.2 9 rfl, k.2 10 rfl, k.2 12 rfl, k.2 13 rfl]
  exact h
theorem SP.set {M : Nat → Nat → Int32} {S : Nat → Bool} {p : Nat} {b : Bool} (h : SP M S) : SP (upm M 19 p (bI b)) (fun q => if q = p then b else S q) := by
  intro q hq
  show upd (M 19) p (bI b) q = _
  by_cases e : q = p
  · simp [upd, e]
  · simp only [upd, if_neg e]
    exact h q hq
theorem SP.cg {M : Nat → Nat → Int32} {S S' : Nat → Bool} (h : SP M S) (e : ∀ q, q < 300 → S q = S' q) : SP M S' := fun q hq => by rw [← e q hq]; exact h q hq
theorem any_succ (f : Nat → Bool) (k : Nat) : (List.range (k + 1)).any f = ((List.range k).any f || f k) := by
  rw [List.range_succ, List.any_append]
  simp
theorem any_mono {f : Nat → Bool} {a b : Nat} (h : a ≤ b) (hf : (List.range a).any f = true) : (List.range b).any f = true := by
  rw [List.any_eq_true] at hf ⊢
  obtain ⟨x, hx, hfx⟩ := hf
  exact ⟨x, List.mem_range.mpr (Nat.lt_of_lt_of_le (List.mem_range.mp hx) h), hfx⟩
section MPARTS
variable {X : MX} {V : Nat → Int32} {M : Nat → Nat → Int32} {σ : AH} {xs ks ms : List Int32}
theorem h8_noParts (h : MP X V M σ) : Hr (f8_noParts (some 31)) σ (fun _ σ' => ∃ M', MP X V M' σ' ∧ Kx p19 V M V M' ∧ SP M' sEmp) := by
  unfold f8_noParts
  refine b_hr (P := fun _ σ' => ∃ M', MP X V M' σ' ∧ Kx p19 V M V M' ∧ SP M' sEmp) ?_ (fun _ _ hq => hr_rt.mpr hq)
  refine hr_loop (fun x σ1 => ∃ (i : Nat) (M1 : Nat → Nat → Int32), x = nI i ∧ i ≤ 300 ∧ MP X V M1 σ1 ∧ Kx p19 V M V M1 ∧ ∀ q, q < i → M1 19 q = 0) (fun x => 300 - x.toNatClampNeg) ⟨0, M, rfl, by omega, h, Kx.rf, fun q hq => by omega⟩ (by show 300 - _ < _; omega) ?_
  rintro rec x σ1 ⟨i, M1, rfl, hi, h1, hK, hz⟩ ih
  unfold l8_noParts_2
  rw [show (300 : Int32) = nI 300 from rfl]
  refine b_ite (fun c => ?_) (fun c => ?_)
  · rw [nI_leI (by omega) (by omega)] at c
    exact hr_rt.mpr ⟨M1, h1, hK, fun q hq => hz q (by omega)⟩
  · rw [nI_leI (by omega) (by omega)] at c
    refine (m_getR h1 rfl).mpr ?_
    refine m_stZ (n := 300) h1 rfl rfl rfl (Or.inl rfl) rfl (by omega) fun σ2 h2 => ?_
    refine ih _ _ ⟨i + 1, _, nI_1 i, by omega, h2, hK.m rfl, fun q hq => ?_⟩ ?_
    · show upd (M1 19) i 0 q = 0
      by_cases e : q = i
      · simp [upd, e]
      · simp only [upd, if_neg e]
        exact hz q (by omega)
    · rw [nI_1, nI_clamp (by omega), nI_clamp (by omega)]; omega
theorem h8_addParts {t n : Nat} {S : Nat → Bool} (h : MP X V M σ) (hR : RD V M xs) (hl : xs.length ≤ 300) (hT : KT M t ks) (ht : t < 8) (hk : ks.length ≤ 300) (hn : n ≤ 8) (h1n : 1 ≤ n) (hS : SP M S) :
    Hr (f8_addParts (some 31) (nI t) (nI n)) σ (fun _ σ' => ∃ M', MP X V M' σ' ∧ Kx p19 V M V M' ∧ SP M' (fun p => S p || hasP xs ks n p)) := by
  have hcx := wds_cnt xs
  have hcy := wds_cnt ks
  unfold f8_addParts
  refine b_hr (P := fun _ σ' => ∃ M', MP X V M' σ' ∧ Kx p19 V M V M' ∧ SP M' (fun p => S p || hasP xs ks n p)) ?_ (fun _ _ hq => hr_rt.mpr hq)
  refine hr_loop (fun x σ1 => ∃ (i : Nat) (M1 : Nat → Nat → Int32), x = nI i ∧ i ≤ (wds ks).length + 1 ∧ MP X V M1 σ1 ∧ Kx p19 V M V M1 ∧ SP M1 (fun q => S q || (decide (q < i) && hasP xs ks n q))) (fun x => 1000 - x.toNatClampNeg) ⟨0, M, rfl, by omega, h, Kx.rf, hS.cg (fun q _ => by simp)⟩ (by show 1000 - _ < _; omega) ?_
  rintro rec x σ1 ⟨i, M1, rfl, hi, h1, hK, hS1⟩ ih
  unfold l8_addParts_2
  refine (m_getR h1 rfl).mpr ?_
  refine (m_ld (n := 8) h1 rfl rfl rfl rfl ht).mpr ?_
  rw [hK.2 18 rfl, hT.1, nI_add]
  refine b_ite (fun c => ?_) (fun c => ?_)
  · rw [nI_ltI (by omega) (by omega)] at c
    refine hr_rt.mpr ⟨M1, h1, hK, hS1.cg (fun q hq => ?_)⟩
    by_cases e : q < i
    · simp [e]
    · have : hasP xs ks n q = false := by
        unfold hasP
        rw [List.any_eq_false]
        intro w _
        simp only [stB, decide_eq_false (show ¬ q + n ≤ (wds ks).length by omega), Bool.false_and, Bool.and_false]
        decide
      simp [this]
  · rw [nI_ltI (by omega) (by omega)] at c
    refine b_hr (P := fun _ σ' => ∃ M', MP X V M' σ' ∧ Kx p19 V M V M' ∧ SP M' (fun q => S q || (decide (q < i + 1) && hasP xs ks n q))) ?_ ?_
    · refine hr_loop (fun x σ2 => ∃ (w : Nat) (M2 : Nat → Nat → Int32), x = nI w ∧ w ≤ (wds xs).length + 1 ∧ MP X V M2 σ2 ∧ Kx p19 V M V M2 ∧ SP M2 (fun q => if q = i then S i || (List.range w).any (fun w => stB xs ks n w i) else S q || (decide (q < i) && hasP xs ks n q)) ∧ w ≤ (wds xs).length + 1 - n) (fun x => 1000 - x.toNatClampNeg) ⟨0, M1, rfl, by omega, h1, hK, hS1.cg (fun q _ => by by_cases e : q = i <;> simp [e]), by omega⟩ (by show 1000 - _ < _; omega) ?_
      rintro rec2 x σ2 ⟨w, M2, rfl, hw, h2, hK2, hS2, hwn⟩ ih2
      unfold l8_addParts_17
      have hR2 := hR.k19 hK2
      have hT2 := hT.kp ((hK2.mono p19_Q).mono pQ_SF)
      have fin : (S i || (List.range w).any (fun w => stB xs ks n w i)) = (S i || hasP xs ks n i) → SP M2 (fun q => S q || (decide (q < i + 1) && hasP xs ks n q)) := by
        intro hq
        refine hS2.cg (fun q _ => ?_)
        by_cases e : q = i
        · subst e
          simp only [if_true, hq, decide_eq_true (Nat.lt_succ_self q), Bool.true_and]
        · simp only [if_neg e]
          congr 2
          rw [decide_eq_decide]
          omega
      refine (m_getI h2 (by decide) rfl).mpr ?_
      rw [hR2.2.2.1, nI_add]
      refine b_ite (fun c2 => ?_) (fun c2 => ?_)
      · rw [nI_ltI (by omega) (by omega)] at c2
        refine hr_rt.mpr ⟨M2, h2, hK2, fin ?_⟩
        unfold hasP
        rw [show (wds xs).length + 1 - n = w by omega]
      · rw [nI_ltI (by omega) (by omega)] at c2
        refine (m_getR h2 rfl).mpr ?_
        refine (m_ld (n := 300) h2 rfl rfl rfl rfl (by omega)).mpr ?_
        rw [hS2 i (by omega)]
        simp only [if_true]
        refine b_ite (fun c3 => ?_) (fun c3 => ?_)
        · rw [bI_0] at c3
          refine (m_getR h2 rfl).mpr ?_
          refine (m_obj h2).mpr ?_
          refine (b_eq (e8_stands h2 hR2 hl hT2 ht hk (by omega) (by omega) hn)).mpr ?_
          refine m_stZ (n := 300) h2 rfl rfl rfl (bI_01 _) rfl (by omega) fun σ3 h3 => ?_
          refine ih2 _ _ ⟨w + 1, _, nI_1 w, by omega, h3, hK2.m rfl, hS2.set.cg (fun q _ => ?_), by omega⟩ ?_
          · by_cases e : q = i
            · subst e
              simp only [if_true]
              rw [any_succ, ← Bool.or_assoc, c3, Bool.false_or]
            · simp only [if_neg e]
          · rw [nI_1, nI_clamp (by omega), nI_clamp (by omega)]; omega
        · rw [bI_0, Bool.not_eq_false] at c3
          refine hr_rt.mpr ⟨M2, h2, hK2, fin ?_⟩
          rw [c3]
          cases hSi : S i with
          | true => rfl
          | false =>
            rw [hSi, Bool.false_or] at c3
            rw [Bool.false_or]
            exact (any_mono hwn c3).symm
    · rintro _ σ2 ⟨M2, h2, hK2, hS2⟩
      refine ih _ _ ⟨i + 1, M2, nI_1 i, by omega, h2, hK2, hS2⟩ ?_
      rw [nI_1, nI_clamp (by omega), nI_clamp (by omega)]; omega
theorem e8_partsHad {t : Nat} {S : Nat → Bool} (h : MP X V M σ) (hT : KT M t ks) (ht : t < 8) (hk : ks.length ≤ 300) (hS : SP M S) : f8_partsHad (some 31) (nI t) σ = some (nI (fb_ct S (wds ks).length), σ) := by
  have hcy := wds_cnt ks
  refine hr_det ?_
  unfold f8_partsHad
  refine b_hr (P := fun y σ' => y = nI (fb_ct S (wds ks).length) ∧ σ' = σ) ?_ (fun _ _ hq => hr_rt.mpr hq)
  refine hr_loop (fun x σ1 => σ1 = σ ∧ ∃ i, x = (nI (fb_ct S i), nI i) ∧ i ≤ (wds ks).length) (fun x => 1000 - x.2.toNatClampNeg) ⟨rfl, 0, rfl, Nat.zero_le _⟩ (by show 1000 - _ < _; omega) ?_
  rintro rec x σ1 ⟨rfl, i, rfl, hi⟩ ih
  unfold l8_partsHad_4
  dsimp only
  refine (m_getR h rfl).mpr ?_
  refine (m_ld (n := 8) h rfl rfl rfl rfl ht).mpr ?_
  rw [hT.1]
  refine b_ite (fun c => ?_) (fun c => ?_)
  · rw [nI_leI (by omega) (by omega)] at c
    have : i = (wds ks).length := by omega
    subst this
    exact hr_rt.mpr ⟨rfl, rfl⟩
  · rw [nI_leI (by omega) (by omega)] at c
    have hm : 1000 - (nI i + 1).toNatClampNeg < 1000 - (nI i).toNatClampNeg := by rw [nI_1, nI_clamp (by omega), nI_clamp (by omega)]; omega
    refine (m_getR h rfl).mpr ?_
    refine (m_ld (n := 300) h rfl rfl rfl rfl (by omega)).mpr ?_
    rw [hS i (by omega)]
    refine b_ite (fun c2 => ?_) (fun c2 => ?_)
    · rw [bI_0] at c2
      refine ih _ _ ⟨rfl, i + 1, ?_, by omega⟩ hm
      rw [fb_ct_succ, c2, nI_1, show (0 : Int32) = nI 0 from rfl, nI_add]
      rfl
    · rw [bI_0, Bool.not_eq_false] at c2
      refine ih _ _ ⟨rfl, i + 1, ?_, by omega⟩ hm
      rw [fb_ct_succ, c2, nI_1, nI_1]
      rfl
/-- the reference's mark of a kind -/
def MK (M : Nat → Nat → Int32) (i : Nat) (ms : List Int32) : Prop := ∃ wd, (wv ms)[0]? = some wd ∧ wd.length ≤ 300 ∧ M 22 i = nI wd.length ∧ ∀ k c, wd[k]? = some c → M 21 (300 * i + k) = c
theorem e8_isMark {i w : Nat} (h : MP X V M σ) (hR : RD V M xs) (hl : xs.length ≤ 300) (hM : MK M i ms) (hi : i < 8) (hw : w < (wds xs).length) : f8_isMark (some 31) (nI i) (nI w) σ = some (bI (decide ((wv xs)[w]? = (wv ms)[0]?)), σ) := by
  have hcx := wds_cnt xs
  have hlx := TXT_len xs
  have hlu := ut_len xs
  have hbx := bts_len xs
  obtain ⟨wd, hwd, hwl, hM1, hM2⟩ := hM
  obtain ⟨a, ha⟩ : ∃ a, (wds xs)[w]? = some a := ⟨_, List.getElem?_eq_getElem hw⟩
  have ma := wds_mem (List.mem_of_getElem? ha)
  have la := sl_len (List.mem_of_getElem? ha)
  have wa := hR.2.2.2.1 _ _ ha
  rw [wv_at ha, hwd]
  refine hr_det ?_
  have no : ¬ sl (bts xs) a = wd → Hr (rt (0 : Int32)) σ (fun r σ' => r = bI (decide (some (sl (bts xs) a) = some wd)) ∧ σ' = σ) := by
    intro hne
    refine hr_rt.mpr ⟨?_, rfl⟩
    simp [hne, bI]
  unfold f8_isMark
  refine (m_getR h rfl).mpr ?_
  refine (m_ld (n := 300) h rfl rfl rfl rfl (by omega)).mpr ?_
  refine (m_getR h rfl).mpr ?_
  refine (m_ld (n := 300) h rfl rfl rfl rfl (by omega)).mpr ?_
  refine (m_getR h rfl).mpr ?_
  refine (m_ld (n := 8) h rfl rfl rfl rfl hi).mpr ?_
  rw [wa.1, wa.2, hM1, nI_subN (by omega), nI_1]
  refine b_ite (fun c => ?_) (fun c => no (fun e => c ?_))
  · rw [nI_eq (by omega) (by omega)] at c
    refine b_hr (P := fun y σ' => σ' = σ ∧ ((y = .inl 0 ∧ ¬ sl (bts xs) a = wd) ∨ (y = .inr () ∧ sl (bts xs) a = wd))) ?_ ?_
    · refine hr_loop (fun x σ1 => σ1 = σ ∧ ∃ k, x = nI k ∧ k ≤ a.2 - a.1 ∧ ∀ j, j < k → (sl (bts xs) a)[j]? = wd[j]?) (fun x => (a.2 - a.1) - x.toNatClampNeg) ⟨rfl, 0, rfl, Nat.zero_le _, fun j hj => by omega⟩ (by show (a.2 - a.1) - _ < _; omega) ?_
      rintro rec x σ1 ⟨rfl, k, rfl, hkn, hall⟩ ih
      unfold l8_isMark_28
      refine (m_getR h rfl).mpr ?_
      refine (m_ld (n := 8) h rfl rfl rfl rfl hi).mpr ?_
      rw [hM1]
      refine b_ite (fun c3 => ?_) (fun c3 => ?_)
      · rw [nI_leI (by omega) (by omega)] at c3
        refine hr_rt.mpr ⟨rfl, Or.inr ⟨rfl, ?_⟩⟩
        apply List.ext_getElem?
        intro j
        by_cases hj : j < k
        · exact hall j hj
        · rw [List.getElem?_eq_none (by omega), List.getElem?_eq_none (by omega)]
      · rw [nI_leI (by omega) (by omega)] at c3
        obtain ⟨ux, hux⟩ : ∃ c, (ut xs)[a.1 + k]? = some c := ⟨_, List.getElem?_eq_getElem (by omega)⟩
        obtain ⟨cy, hcy'⟩ : ∃ c, wd[k]? = some c := ⟨_, List.getElem?_eq_getElem (by omega)⟩
        have hm := (hR.2.1 _ _ hux).1
        rw [Nat.zero_add] at hm
        refine (m_getR h rfl).mpr ?_
        refine (m_ld (n := 2400) h rfl rfl rfl (ix300 _ _) (by omega)).mpr ?_
        rw [hM2 _ _ hcy']
        refine (m_getR h rfl).mpr ?_
        refine (m_getR h rfl).mpr ?_
        refine (m_ld (n := 300) h rfl rfl rfl rfl (by omega)).mpr ?_
        rw [wa.1]
        refine (m_ld (n := 300) h rfl rfl rfl (nI_add _ _) (by omega)).mpr ?_
        rw [hm]
        refine (b_eq (e8_small _ _)).mpr ?_
        refine b_ite (fun c4 => ?_) (fun c4 => ?_)
        · refine ih _ _ ⟨rfl, k + 1, nI_1 k, by omega, fun j hj => ?_⟩ ?_
          · by_cases hjk : j = k
            · subst hjk
              rw [sl_get (by omega), hcy', ut_bts hux, c4]
            · exact hall j (by omega)
          · rw [nI_1, nI_clamp (by omega), nI_clamp (by omega)]; omega
        · refine hr_rt.mpr ⟨rfl, Or.inl ⟨rfl, fun e => c4 ?_⟩⟩
          have e1 := congrArg (fun L => L[k]?) e
          rw [sl_get (by omega), hcy', ut_bts hux] at e1
          exact (Option.some.inj e1).symm
    · rintro y σ' ⟨rfl, ⟨rfl, hne⟩ | ⟨rfl, heq⟩⟩
      · exact no hne
      · refine hr_rt.mpr ⟨?_, rfl⟩
        simp [heq, bI]
  · have : (sl (bts xs) a).length = wd.length := by rw [e]
    rw [la] at this
    congr 1
    omega
end MPARTS
