/-! ===== numbers in a row of bytes (small letters) ===== -/
def dAt (B : List Int32) (i : Nat) : Bool := match B[i]? with
  | some c => dg c
  | none => false
def sAt (B : List Int32) (i : Nat) : Bool := match B[i]? with
  | some c => decide (c = 32 ∨ c = 45)
  | none => false
/-- the next digit of the row -/
def nxt (B : List Int32) (e : Nat) : Option Nat := if dAt B (e + 1) = true then some (e + 1) else if sAt B (e + 1) = true ∧ dAt B (e + 2) = true then some (e + 2) else none
theorem dAt_lt {B : List Int32} {i : Nat} (h : dAt B i = true) : i < B.length := by
  unfold dAt at h
  cases hb : B[i]? with
  | none => rw [hb] at h; cases h
  | some c => exact (List.getElem?_eq_some_iff.mp hb).1
theorem nxt_lt {B : List Int32} {e e' : Nat} (h : nxt B e = some e') : e < e' ∧ e' < B.length := by
  unfold nxt at h
  by_cases h1 : dAt B (e + 1) = true
  · rw [if_pos h1] at h
    cases h
    exact ⟨by omega, dAt_lt h1⟩
  · rw [if_neg h1] at h
    by_cases h2 : sAt B (e + 1) = true ∧ dAt B (e + 2) = true
    · rw [if_pos h2] at h
      cases h
      exact ⟨by omega, dAt_lt h2.2⟩
    · rw [if_neg h2] at h
      cases h
/-- the last digit of the longest row from e on -/
def eodF (B : List Int32) : Nat → Nat → Nat
  | 0, e => e
  | k + 1, e => match nxt B e with
    | none => e
    | some e' => eodF B k e'
theorem eodF_more (B : List Int32) : ∀ (k e : Nat), B.length ≤ e + 1 + k → eodF B (k + 1) e = eodF B k e := by
  intro k
  induction k with
  | zero =>
    intro e h
    simp only [eodF]
    cases hn : nxt B e with
    | none => rfl
    | some e' => have := nxt_lt hn; omega
  | succ k ih =>
    intro e h
    rw [eodF]
    conv => rhs; rw [eodF]
    cases hn : nxt B e with
    | none => rfl
    | some e' =>
      have := nxt_lt hn
      exact ih e' (by omega)
def eod (B : List Int32) (e : Nat) : Nat := eodF B B.length e
theorem eodF_big (B : List Int32) (e : Nat) : ∀ (j k : Nat), B.length ≤ e + 1 + k → eodF B (k + j) e = eodF B k e := by
  intro j
  induction j with
  | zero => intro k _; rfl
  | succ j ih =>
    intro k h
    rw [show k + (j + 1) = (k + j) + 1 by omega, eodF_more B (k + j) e (by omega), ih k h]
theorem eod_none {B : List Int32} {e : Nat} (h : nxt B e = none) : eod B e = e := by
  unfold eod
  cases B.length with
  | zero => rfl
  | succ k => rw [eodF, h]
theorem eod_some {B : List Int32} {e e' : Nat} (h : nxt B e = some e') : eod B e = eod B e' := by
  have hl := nxt_lt h
  unfold eod
  obtain ⟨k, hk⟩ : ∃ k, B.length = k + 1 := ⟨B.length - 1, by omega⟩
  rw [hk, eodF, h]
  simp only
  exact (eodF_more B k e' (by omega)).symm
theorem eodF_ge (B : List Int32) : ∀ (k e : Nat), e ≤ eodF B k e ∧ (e < B.length → eodF B k e < B.length) := by
  intro k
  induction k with
  | zero => intro e; exact ⟨Nat.le_refl _, id⟩
  | succ k ih =>
    intro e
    rw [eodF]
    cases hn : nxt B e with
    | none => exact ⟨Nat.le_refl _, id⟩
    | some e' =>
      have h1 := nxt_lt hn
      have h2 := ih e'
      simp only
      exact ⟨by omega, fun _ => h2.2 h1.2⟩
theorem eod_ge {B : List Int32} {e : Nat} (h : e < B.length) : e ≤ eod B e ∧ eod B e < B.length := ⟨(eodF_ge B _ e).1, (eodF_ge B _ e).2 h⟩
section NUMS
variable {σ : AH} {q cap : Nat} {xs : List Int32}
theorem dAt_b {b : Nat → Int32} {B : List Int32} (hB : B3 b B) {i : Nat} (h : i < B.length) : dAt B i = dg (b i) := by
  have e := hB i _ (List.getElem?_eq_getElem h)
  unfold dAt
  rw [List.getElem?_eq_getElem h, ← e]
theorem sAt_b {b : Nat → Int32} {B : List Int32} (hB : B3 b B) {i : Nat} (h : i < B.length) : sAt B i = decide (b i = 32 ∨ b i = 45) := by
  have e := hB i _ (List.getElem?_eq_getElem h)
  unfold sAt
  rw [List.getElem?_eq_getElem h, ← e]
theorem dAt_out {B : List Int32} {i : Nat} (h : B.length ≤ i) : dAt B i = false := by
  unfold dAt
  rw [List.getElem?_eq_none h]
theorem sAt_out {B : List Int32} {i : Nat} (h : B.length ≤ i) : sAt B i = false := by
  unfold sAt
  rw [List.getElem?_eq_none h]
theorem dg_not {c : Int32} (h : c = 32 ∨ c = 45) : dg c = false := by rcases h with rfl | rfl <;> decide
theorem e6_endOfDigits (hT : CTx σ q cap xs) {st : Nat} (hs : st < (bts xs).length) : f6_endOfDigits (some q) (nI st) σ = some (nI (eod (bts xs) st), σ) := by
  have hlen := hT.len
  have hTl := TXT_len xs
  have hbl := bts_len xs
  obtain ⟨b, f, l, s, e, h, ⟨h0, h1, h2, h3, h4, h5, h6⟩, hA, hW, hx, hc⟩ := hT
  have hB : B3 b (bts xs) := fun k c hk => hA.byte hk
  rw [← hbl] at h0
  have key : Hr (f6_endOfDigits (some q) (nI st)) σ (fun r σ' => r = nI (eod (bts xs) st) ∧ σ' = σ) := by
    unfold f6_endOfDigits
    refine b_hr (P := fun r σ' => r = nI (eod (bts xs) st) ∧ σ' = σ) ?_ (fun _ _ hq => hr_rt.mpr hq)
    refine hr_loop (fun x σ1 => σ1 = σ ∧ ∃ en i, x = (nI en, nI i) ∧ en < (bts xs).length ∧ eod (bts xs) en = eod (bts xs) st ∧ (i = en + 1 ∨ (i = en + 2 ∧ dAt (bts xs) (en + 1) = false ∧ sAt (bts xs) (en + 1) = true) ∨ (i = en + 3 ∧ nxt (bts xs) en = none))) (fun x => 1000 - x.2.toNatClampNeg) ⟨rfl, st, st + 1, by rw [nI_1], hs, rfl, Or.inl rfl⟩ (by show 1000 - _ < _; omega) ?_
    rintro rec x σ1 ⟨rfl, en, i, rfl, hen, hE, hI⟩ ih
    unfold l6_endOfDigits_6
    dsimp only
    have hm : i < 999 → 1000 - (nI i + 1).toNatClampNeg < 1000 - (nI i).toNatClampNeg := fun hi => by rw [nI_1, nI_clamp (by omega), nI_clamp (by omega)]; omega
    have out : nxt (bts xs) en = none → Hr (rt (nI en)) σ1 (fun r σ' => r = nI (eod (bts xs) st) ∧ σ' = σ1) := fun hn => hr_rt.mpr ⟨by rw [← hE, eod_none hn], rfl⟩
    refine (b_getI h0 rfl).mpr ?_
    refine b_ite (fun c => ?_) (fun c => ?_)
    · rw [nI_leI (by omega) (by omega)] at c
      refine out ?_
      rcases hI with rfl | ⟨rfl, g1, g2⟩ | ⟨-, g⟩
      · simp [nxt, dAt_out c, sAt_out c]
      · simp [nxt, g1, g2, dAt_out c]
      · exact g
    · rw [nI_leI (by omega) (by omega)] at c
      rw [show nI en + 2 = nI (en + 2) from nI_add en 2]
      refine b_ite (fun c2 => ?_) (fun c2 => ?_)
      · rw [nI_ltI (by omega) (by omega)] at c2
        refine out ?_
        rcases hI with rfl | ⟨rfl, g1, g2⟩ | ⟨-, g⟩
        · omega
        · omega
        · exact g
      · rw [nI_ltI (by omega) (by omega)] at c2
        have hI2 : i = en + 1 ∨ (i = en + 2 ∧ dAt (bts xs) (en + 1) = false ∧ sAt (bts xs) (en + 1) = true) := by
          rcases hI with g | g | ⟨g, -⟩
          · exact Or.inl g
          · exact Or.inr g
          · omega
        refine (b_getR h0 rfl).mpr ?_
        refine (b_ld h1 rfl (by omega) (by omega)).mpr ?_
        refine (b_eq (e6_isDigit _ σ1)).mpr ?_
        have hd := dAt_b hB (i := i) (by omega)
        have hsp := sAt_b hB (i := i) (by omega)
        refine b_ite (fun c3 => ?_) (fun c3 => ?_)
        · rw [bI_0] at c3
          rw [c3] at hd
          have sep : sAt (bts xs) i = true → Hr (rec (nI en, nI i + 1)) σ1 (fun r σ' => r = nI (eod (bts xs) st) ∧ σ' = σ1) := by
            intro hsep
            refine ih _ _ ⟨rfl, en, i + 1, by rw [nI_1], hen, hE, ?_⟩ (hm (by omega))
            rcases hI2 with rfl | ⟨rfl, g1, g2⟩
            · exact Or.inr (Or.inl ⟨rfl, hd, hsep⟩)
            · refine Or.inr (Or.inr ⟨rfl, ?_⟩)
              simp [nxt, g1, hd]
          refine (b_getR h0 rfl).mpr ?_
          refine (b_ld h1 rfl (by omega) (by omega)).mpr ?_
          refine b_ite (fun c4 => sep (by rw [hsp]; simp [c4])) (fun c4 => ?_)
          refine (b_getR h0 rfl).mpr ?_
          refine (b_ld h1 rfl (by omega) (by omega)).mpr ?_
          refine b_ite (fun c5 => sep (by rw [hsp]; simp [c5])) (fun c5 => ?_)
          have hns : sAt (bts xs) i = false := by rw [hsp]; simp [c4, c5]
          refine out ?_
          rcases hI2 with rfl | ⟨rfl, g1, g2⟩
          · simp [nxt, hd, hns]
          · simp [nxt, g1, hd]
        · rw [bI_0, Bool.not_eq_false] at c3
          rw [c3] at hd
          refine ih _ _ ⟨rfl, i, i + 1, by rw [nI_1], by omega, ?_, Or.inl rfl⟩ (hm (by omega))
          have hn : nxt (bts xs) en = some i := by
            rcases hI2 with rfl | ⟨rfl, g1, g2⟩
            · simp [nxt, hd]
            · simp [nxt, g1, g2, hd]
          rw [← eod_some hn, hE]
  obtain ⟨r, σ', e1, rfl, rfl⟩ := key
  exact e1
end NUMS
