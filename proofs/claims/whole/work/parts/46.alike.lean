/-! ===== words that are alike ===== -/
/-- the words themselves -/
def wv (xs : List Int32) : List (List Int32) := (wds xs).map (sl (bts xs))
theorem wv_len (xs : List Int32) : (wv xs).length = (wds xs).length := by simp [wv]
theorem wv_at {xs : List Int32} {k : Nat} {p : Nat × Nat} (h : (wds xs)[k]? = some p) : (wv xs)[k]? = some (sl (bts xs) p) := by simp [wv, h]
theorem sl_len {xs : List Int32} {p : Nat × Nat} (h : p ∈ wds xs) : (sl (bts xs) p).length = p.2 - p.1 := by
  have := wds_mem h
  simp only [sl, List.length_take, List.length_drop, bts_len]
  omega
theorem sl_get {B : List Int32} {p : Nat × Nat} {k : Nat} (h : k < p.2 - p.1) : (sl B p)[k]? = B[p.1 + k]? := by
  simp only [sl]
  rw [List.getElem?_take_of_lt h, List.getElem?_drop]
/-- how long word j is -/
def wl (xs : List Int32) (j : Nat) : Nat := ((wv xs).getD j []).length
def rowEq (xs ys : List Int32) (w p n : Nat) : Bool := decide (∀ k, k < n → (wv xs)[w + k]? = (wv ys)[p + k]?)
/-- one of n words from p on has four bytes or more -/
def longOne (ys : List Int32) (p n : Nat) : Bool := decide (¬ ∀ k, k < n → wl ys (p + k) < 4)
theorem A3.byte {b f l : Nat → Int32} {xs : List Int32} (hA : A3 b f l 0 (TXT xs)) {k : Nat} {c : Int32} (h : (bts xs)[k]? = some c) : b k = c := by
  unfold bts at h
  rw [List.getElem?_map] at h
  cases hk0 : (TXT xs)[k]? with
  | none => rw [hk0] at h; cases h
  | some y =>
    rw [hk0] at h
    cases h
    have := (hA k y hk0).1
    rwa [Nat.zero_add] at this
section TEXT
variable {σ : AH} {q cap q' cap' : Nat} {xs ys : List Int32}
theorem e6_isAlike (hT : CTx σ q cap xs) (hT' : CTx σ q' cap' ys) {w w' : Nat} (hw : w < (wds xs).length) (hw' : w' < (wds ys).length) : f6_isAlike (some q) (nI w) (some q') (nI w') σ = some (bI (decide ((wv xs)[w]? = (wv ys)[w']?)), σ) := by
  obtain ⟨b, f, l, s, e, h, ⟨h0, h1, h2, h3, h4, h5, h6⟩, hA, hW, hx, hc⟩ := hT
  obtain ⟨b', f', l', s', e', h', ⟨g0, g1, g2, g3, g4, g5, g6⟩, hA', hW', hx', hc'⟩ := hT'
  have hcx := wds_cnt xs
  have hcy := wds_cnt ys
  have hlx := TXT_len xs
  have hly := TXT_len ys
  obtain ⟨p, hp⟩ : ∃ p, (wds xs)[w]? = some p := ⟨_, List.getElem?_eq_getElem hw⟩
  obtain ⟨p', hp'⟩ : ∃ p, (wds ys)[w']? = some p := ⟨_, List.getElem?_eq_getElem hw'⟩
  have mp := wds_mem (List.mem_of_getElem? hp)
  have mp' := wds_mem (List.mem_of_getElem? hp')
  have lp := sl_len (List.mem_of_getElem? hp)
  have lp' := sl_len (List.mem_of_getElem? hp')
  obtain ⟨w1, w2, w3⟩ := hW w p hp
  obtain ⟨w1', w2', w3'⟩ := hW' w' p' hp'
  rw [wv_at hp, wv_at hp']
  have key : Hr (f6_isAlike (some q) (nI w) (some q') (nI w')) σ (fun r σ' => r = bI (decide (some (sl (bts xs) p) = some (sl (bts ys) p'))) ∧ σ' = σ) := by
    have no : ¬ sl (bts xs) p = sl (bts ys) p' → Hr (rt (0 : Int32)) σ (fun r σ' => r = bI (decide (some (sl (bts xs) p) = some (sl (bts ys) p'))) ∧ σ' = σ) := by
      intro hne
      refine hr_rt.mpr ⟨?_, rfl⟩
      simp [hne, bI]
    unfold f6_isAlike
    refine (b_getR h0 rfl).mpr ?_
    refine (b_ld h6 rfl (by omega) (by omega)).mpr ?_
    refine (b_getR g0 rfl).mpr ?_
    refine (b_ld g6 rfl (by omega) (by omega)).mpr ?_
    rw [w3, w3']
    refine b_ite (fun c => ?_) (fun c => no (fun e => c (by rw [e])))
    refine (b_getR h0 rfl).mpr ?_
    refine (b_ld h5 rfl (by omega) (by omega)).mpr ?_
    refine (b_getR g0 rfl).mpr ?_
    refine (b_ld g5 rfl (by omega) (by omega)).mpr ?_
    rw [w2, w2']
    refine b_ite (fun c2 => ?_) (fun c2 => no (fun e => c2 (by rw [← lp, ← lp', e])))
    rw [nI_eq (by omega) (by omega)] at c2
    refine (b_getR h0 rfl).mpr ?_
    refine (b_ld h4 rfl (by omega) (by omega)).mpr ?_
    refine (b_getR g0 rfl).mpr ?_
    refine (b_ld g4 rfl (by omega) (by omega)).mpr ?_
    rw [w1, w1']
    refine b_hr (P := fun y σ' => σ' = σ ∧ ((y = .inl 0 ∧ ¬ sl (bts xs) p = sl (bts ys) p') ∨ (y = .inr () ∧ sl (bts xs) p = sl (bts ys) p'))) ?_ ?_
    · refine hr_loop (fun x σ1 => σ1 = σ ∧ ∃ k, x = nI k ∧ k ≤ p.2 - p.1 ∧ ∀ j, j < k → (sl (bts xs) p)[j]? = (sl (bts ys) p')[j]?) (fun x => (p.2 - p.1) - x.toNatClampNeg) ⟨rfl, 0, rfl, Nat.zero_le _, fun j hj => by omega⟩ (by show (p.2 - p.1) - _ < _; omega) ?_
      rintro rec x σ1 ⟨rfl, k, rfl, hk, hall⟩ ih
      unfold l6_isAlike_57
      refine b_ite (fun c3 => ?_) (fun c3 => ?_)
      · rw [nI_leI (by omega) (by omega)] at c3
        refine hr_rt.mpr ⟨rfl, Or.inr ⟨rfl, ?_⟩⟩
        apply List.ext_getElem?
        intro j
        by_cases hj : j < k
        · exact hall j hj
        · rw [List.getElem?_eq_none (by omega), List.getElem?_eq_none (by omega)]
      · rw [nI_leI (by omega) (by omega)] at c3
        obtain ⟨cx, hcx'⟩ : ∃ c, (bts xs)[p.1 + k]? = some c := ⟨_, List.getElem?_eq_getElem (by rw [bts_len]; omega)⟩
        obtain ⟨cy, hcy'⟩ : ∃ c, (bts ys)[p'.1 + k]? = some c := ⟨_, List.getElem?_eq_getElem (by rw [bts_len]; omega)⟩
        refine (b_getR h0 rfl).mpr ?_
        refine (b_ld h1 (nI_add _ _) (by omega) (by omega)).mpr ?_
        refine (b_getR g0 rfl).mpr ?_
        refine (b_ld g1 (nI_add _ _) (by omega) (by omega)).mpr ?_
        rw [hA.byte hcx', hA'.byte hcy']
        refine b_ite (fun c4 => ?_) (fun c4 => ?_)
        · refine ih _ _ ⟨rfl, k + 1, nI_1 k, by omega, fun j hj => ?_⟩ ?_
          · by_cases hjk : j = k
            · subst hjk
              rw [sl_get (by omega), sl_get (by omega), hcx', hcy', c4]
            · exact hall j (by omega)
          · rw [nI_1, nI_clamp (by omega), nI_clamp (by omega)]; omega
        · refine hr_rt.mpr ⟨rfl, Or.inl ⟨rfl, fun e => c4 ?_⟩⟩
          have e1 := congrArg (fun L => L[k]?) e
          rw [sl_get (by omega), sl_get (by omega), hcx', hcy'] at e1
          exact Option.some.inj e1
    · rintro y σ' ⟨rfl, ⟨rfl, hne⟩ | ⟨rfl, heq⟩⟩
      · exact no hne
      · refine hr_rt.mpr ⟨?_, rfl⟩
        simp [heq, bI]
  obtain ⟨r, σ', e1, rfl, rfl⟩ := key
  exact e1
theorem e6_isAlikeRow (hT : CTx σ q cap xs) (hT' : CTx σ q' cap' ys) {w p n : Nat} (hw : w + n ≤ (wds xs).length) (hp : p + n ≤ (wds ys).length) : f6_isAlikeRow (some q) (nI w) (some q') (nI p) (nI n) σ = some (bI (rowEq xs ys w p n), σ) := by
  have hcx := wds_cnt xs
  have hcy := wds_cnt ys
  have key : Hr (f6_isAlikeRow (some q) (nI w) (some q') (nI p) (nI n)) σ (fun r σ' => r = bI (rowEq xs ys w p n) ∧ σ' = σ) := by
    have hx : xs.length ≤ 300 := by obtain ⟨_, _, _, _, _, _, _, _, _, a, b⟩ := hT; omega
    have hy : ys.length ≤ 300 := by obtain ⟨_, _, _, _, _, _, _, _, _, a, b⟩ := hT'; omega
    unfold f6_isAlikeRow
    refine b_hr (P := fun y σ' => σ' = σ ∧ ((y = .inl 0 ∧ rowEq xs ys w p n = false) ∨ (y = .inr () ∧ rowEq xs ys w p n = true))) ?_ ?_
    · refine hr_loop (fun x σ1 => σ1 = σ ∧ ∃ k, x = nI k ∧ k ≤ n ∧ ∀ j, j < k → (wv xs)[w + j]? = (wv ys)[p + j]?) (fun x => n - x.toNatClampNeg) ⟨rfl, 0, rfl, Nat.zero_le _, fun j hj => by omega⟩ (by show n - _ < _; omega) ?_
      rintro rec x σ1 ⟨rfl, k, rfl, hk, hall⟩ ih
      unfold l6_isAlikeRow_3
      refine b_ite (fun c => ?_) (fun c => ?_)
      · rw [nI_leI (by omega) (by omega)] at c
        refine hr_rt.mpr ⟨rfl, Or.inr ⟨rfl, ?_⟩⟩
        simp only [rowEq, decide_eq_true_eq]
        exact fun j hj => hall j (by omega)
      · rw [nI_leI (by omega) (by omega)] at c
        obtain ⟨b, f, l, s, e, h, ⟨h0, -⟩, -⟩ := id hT
        refine (b_obj h0).mpr ?_
        rw [nI_add, nI_add]
        refine (b_eq (e6_isAlike hT hT' (by omega) (by omega))).mpr ?_
        refine b_ite (fun c2 => ?_) (fun c2 => ?_)
        · rw [bI_0, decide_eq_false_iff_not] at c2
          refine hr_rt.mpr ⟨rfl, Or.inl ⟨rfl, ?_⟩⟩
          simp only [rowEq, decide_eq_false_iff_not]
          exact fun hq => c2 (hq k (by omega))
        · rw [bI_0, Bool.not_eq_false, decide_eq_true_eq] at c2
          refine ih _ _ ⟨rfl, k + 1, nI_1 k, by omega, fun j hj => ?_⟩ ?_
          · by_cases hjk : j = k
            · subst hjk; exact c2
            · exact hall j (by omega)
          · rw [nI_1, nI_clamp (by omega), nI_clamp (by omega)]; omega
    · rintro y σ' ⟨rfl, ⟨rfl, hne⟩ | ⟨rfl, heq⟩⟩
      · exact hr_rt.mpr ⟨by rw [hne]; rfl, rfl⟩
      · exact hr_rt.mpr ⟨by rw [heq]; rfl, rfl⟩
  obtain ⟨r, σ', e1, rfl, rfl⟩ := key
  exact e1
theorem wl_at {k : Nat} {p : Nat × Nat} (h : (wds ys)[k]? = some p) : wl ys k = p.2 - p.1 := by
  unfold wl
  rw [List.getD_eq_getElem?_getD, wv_at h]
  exact sl_len (List.mem_of_getElem? h)
theorem e6_isPart (hT : CTx σ q cap ys) {p n : Nat} (hp : p + n ≤ (wds ys).length) : f6_isPart (some q) (nI p) (nI n) σ = some (bI (longOne ys p n), σ) := by
  have hcy := wds_cnt ys
  obtain ⟨b, f, l, s, e, h, ⟨h0, h1, h2, h3, h4, h5, h6⟩, hA, hW, hx, hc⟩ := hT
  have hly := TXT_len ys
  have key : Hr (f6_isPart (some q) (nI p) (nI n)) σ (fun r σ' => r = bI (longOne ys p n) ∧ σ' = σ) := by
    unfold f6_isPart
    refine b_hr (P := fun y σ' => σ' = σ ∧ ((y = .inl 1 ∧ longOne ys p n = true) ∨ (y = .inr () ∧ longOne ys p n = false))) ?_ ?_
    · refine hr_loop (fun x σ1 => σ1 = σ ∧ ∃ k, x = nI k ∧ k ≤ n ∧ ∀ j, j < k → wl ys (p + j) < 4) (fun x => n - x.toNatClampNeg) ⟨rfl, 0, rfl, Nat.zero_le _, fun j hj => by omega⟩ (by show n - _ < _; omega) ?_
      rintro rec x σ1 ⟨rfl, k, rfl, hk, hall⟩ ih
      unfold l6_isPart_2
      refine b_ite (fun c => ?_) (fun c => ?_)
      · rw [nI_leI (by omega) (by omega)] at c
        refine hr_rt.mpr ⟨rfl, Or.inr ⟨rfl, ?_⟩⟩
        simp only [longOne, decide_eq_false_iff_not, Classical.not_not]
        exact fun j hj => hall j (by omega)
      · rw [nI_leI (by omega) (by omega)] at c
        obtain ⟨pp, hpp⟩ : ∃ z, (wds ys)[p + k]? = some z := ⟨_, List.getElem?_eq_getElem (by omega)⟩
        have hm := wds_mem (List.mem_of_getElem? hpp)
        refine (b_getR h0 rfl).mpr ?_
        refine (b_ld h5 (nI_add _ _) (by omega) (by omega)).mpr ?_
        rw [(hW _ _ hpp).2.1, ← wl_at hpp]
        have hwl := wl_at hpp
        refine b_ite (fun c2 => ?_) (fun c2 => ?_)
        · rw [show (4 : Int32) = nI 4 from rfl, nI_ltI (by omega) (by omega)] at c2
          refine ih _ _ ⟨rfl, k + 1, nI_1 k, by omega, fun j hj => ?_⟩ ?_
          · by_cases hjk : j = k
            · subst hjk; exact c2
            · exact hall j (by omega)
          · rw [nI_1, nI_clamp (by omega), nI_clamp (by omega)]; omega
        · rw [show (4 : Int32) = nI 4 from rfl, nI_ltI (by omega) (by omega)] at c2
          refine hr_rt.mpr ⟨rfl, Or.inl ⟨rfl, ?_⟩⟩
          simp only [longOne, decide_eq_true_eq]
          exact fun hq => c2 (hq k (by omega))
    · rintro y σ' ⟨rfl, ⟨rfl, hne⟩ | ⟨rfl, heq⟩⟩
      · exact hr_rt.mpr ⟨by rw [hne]; rfl, rfl⟩
      · exact hr_rt.mpr ⟨by rw [heq]; rfl, rfl⟩
  obtain ⟨r, σ', e1, rfl, rfl⟩ := key
  exact e1
/-- where a word's first byte stood, and its last one -/
def pFst (xs : List Int32) (w : Nat) : Int32 := ((TXT xs).getD ((wds xs).getD w (0, 0)).1 (0, 0, 0)).2.1
def pLst (xs : List Int32) (w : Nat) : Int32 := ((TXT xs).getD (((wds xs).getD w (0, 0)).2 - 1) (0, 0, 0)).2.2
theorem e6_place (hT : CTx σ q cap xs) {w : Nat} (hw : w < (wds xs).length) : f6_placeStart (some q) (nI w) σ = some (pFst xs w, σ) ∧ f6_placeEnd (some q) (nI w) σ = some (pLst xs w, σ) := by
  obtain ⟨b, f, l, s, e, h, ⟨h0, h1, h2, h3, h4, h5, h6⟩, hA, hW, hx, hc⟩ := hT
  have hcx := wds_cnt xs
  have hlx := TXT_len xs
  obtain ⟨p, hp⟩ : ∃ p, (wds xs)[w]? = some p := ⟨_, List.getElem?_eq_getElem hw⟩
  have mp := wds_mem (List.mem_of_getElem? hp)
  obtain ⟨w1, w2, w3⟩ := hW w p hp
  obtain ⟨x, hx1⟩ : ∃ x, (TXT xs)[p.1]? = some x := ⟨_, List.getElem?_eq_getElem (by omega)⟩
  obtain ⟨y, hy1⟩ : ∃ y, (TXT xs)[p.2 - 1]? = some y := ⟨_, List.getElem?_eq_getElem (by omega)⟩
  have e1 : pFst xs w = x.2.1 := by simp [pFst, List.getD_eq_getElem?_getD, hp, hx1]
  have e2 : pLst xs w = y.2.2 := by simp [pLst, List.getD_eq_getElem?_getD, hp, hy1]
  have f1 := (hA _ _ hx1).2.1
  have f2 := (hA _ _ hy1).2.2
  rw [Nat.zero_add] at f1 f2
  constructor
  · have key : Hr (f6_placeStart (some q) (nI w)) σ (fun r σ' => r = pFst xs w ∧ σ' = σ) := by
      unfold f6_placeStart
      refine (b_getR h0 rfl).mpr ?_
      refine (b_getR h0 rfl).mpr ?_
      refine (b_ld h4 rfl (by omega) (by omega)).mpr ?_
      rw [w1]
      refine (b_ld h2 rfl (by omega) (by omega)).mpr ?_
      exact hr_rt.mpr ⟨by rw [e1, f1], rfl⟩
    obtain ⟨r, σ', e1, rfl, rfl⟩ := key
    exact e1
  · have key : Hr (f6_placeEnd (some q) (nI w)) σ (fun r σ' => r = pLst xs w ∧ σ' = σ) := by
      unfold f6_placeEnd
      refine (b_getR h0 rfl).mpr ?_
      refine (b_getR h0 rfl).mpr ?_
      refine (b_ld h4 rfl (by omega) (by omega)).mpr ?_
      refine (b_getR h0 rfl).mpr ?_
      refine (b_ld h5 rfl (by omega) (by omega)).mpr ?_
      rw [w1, w2]
      refine (b_ld (j := p.2 - 1) h3 (by rw [nI_add, show (1 : Int32) = nI 1 from rfl, nI_subN (by omega)]; congr 1; omega) (by omega) (by omega)).mpr ?_
      exact hr_rt.mpr ⟨by rw [e2, f2], rfl⟩
    obtain ⟨r, σ', e1, rfl, rfl⟩ := key
    exact e1
end TEXT
