/-! ===== the reference: its object and rows as one picture ===== -/
-- the base: the class's cells (g k isn't 0) as they were (h0), how many cells and slots, where each row lies, the room of the found rows
abbrev MX : Type := (Nat → Nat) × (Nat → Option va_E) × Nat × Nat × (Nat → Nat) × Nat
abbrev xa (X : MX) : Nat → Nat := X.2.2.2.2.1
abbrev xC (X : MX) : Nat := X.2.2.2.2.2
def isA (f : Nat) : Bool := decide (f < 47) && !(decide (f = 0 ∨ f = 1 ∨ f = 2 ∨ f = 4 ∨ f = 8 ∨ f = 11 ∨ f = 14 ∨ f = 42))
def tgA (f : Nat) : Nat := if f = 19 ∨ f = 27 then 1 else 0
def lnA (C f : Nat) : Nat := if f ≤ 13 then 300 else if f ≤ 17 then 2400 else if f = 18 then 8 else if f = 19 then 300 else if f = 20 then 8 else if f = 21 then 2400 else if f ≤ 26 then 8 else if f = 27 then 800 else if f = 28 then 18000 else if f ≤ 38 then 60 else if f ≤ 41 then C else 21
def mfl (ma : Nat → Nat) (V : Nat → Int32) : List Value := (List.range 47).map (fun f => if isA f = true then .ref (ma f) else .int (V f))
def upm (M : Nat → Nat → Int32) (f j : Nat) (x : Int32) : Nat → Nat → Int32 := fun f' => if f' = f then upd (M f) j x else M f'
def upA (ma : Nat → Nat) (f a : Nat) : Nat → Nat := fun k => if k = f then a else ma k
theorem isA_lt {f : Nat} (h : isA f = true) : f < 47 := by
  unfold isA at h
  rw [Bool.and_eq_true, decide_eq_true_eq] at h
  exact h.1
theorem mfl_get {ma : Nat → Nat} {V : Nat → Int32} {f : Nat} (hf : f < 47) : (mfl ma V)[f]? = some (if isA f = true then .ref (ma f) else .int (V f)) := by
  unfold mfl
  rw [List.getElem?_map, List.getElem?_range hf]
  rfl
theorem mfl_len {ma : Nat → Nat} {V : Nat → Int32} : (mfl ma V).length = 47 := by simp [mfl]
theorem mfl_set {ma : Nat → Nat} {V : Nat → Int32} {f : Nat} {x : Int32} (hf : f < 47) (ha : isA f = false) : (mfl ma V).set f (.int x) = mfl ma (upd V f x) := by
  apply List.ext_getElem?
  intro i
  by_cases hi : i = f
  · subst hi
    rw [List.getElem?_set_self (by rw [mfl_len]; exact hf), mfl_get hf, ha]
    simp [upd]
  · rw [List.getElem?_set_ne (Ne.symm hi)]
    by_cases hl : i < 47
    · rw [mfl_get hl, mfl_get hl]
      simp [upd, hi]
    · rw [List.getElem?_eq_none (by rw [mfl_len]; omega), List.getElem?_eq_none (by rw [mfl_len]; omega)]
theorem mfl_setR {ma : Nat → Nat} {V : Nat → Int32} {f a : Nat} (ha : isA f = true) : (mfl ma V).set f (.ref a) = mfl (upA ma f a) V := by
  have hf := isA_lt ha
  apply List.ext_getElem?
  intro i
  by_cases hi : i = f
  · subst hi
    rw [List.getElem?_set_self (by rw [mfl_len]; exact hf), mfl_get hf, ha]
    simp [upA]
  · rw [List.getElem?_set_ne (Ne.symm hi)]
    by_cases hl : i < 47
    · rw [mfl_get hl, mfl_get hl]
      simp [upA, hi]
    · rw [List.getElem?_eq_none (by rw [mfl_len]; omega), List.getElem?_eq_none (by rw [mfl_len]; omega)]
def MP (X : MX) (V : Nat → Int32) (M : Nat → Nat → Int32) (σ : AH) : Prop :=
  σ.1[31]? = some (.inr (8, mfl (xa X) V)) ∧ (∀ f, isA f = true → σ.1[xa X f]? = some (.inl (tgA f, lnA (xC X) f, .inl (M f)))) ∧
  (∀ f, isA f = true → X.1 (xa X f) = 0 ∧ xa X f ≠ 31) ∧ X.1 31 = 0 ∧ (∀ f f', isA f = true → isA f' = true → xa X f = xa X f' → f = f') ∧
  (∀ k, X.1 k ≠ 0 → σ.1[k]? = X.2.1 k) ∧ σ.1.length = X.2.2.1 ∧ σ.2 = X.2.2.2.1 ∧ xC X < 2 ^ 30 ∧ ∀ k, X.1 k ≠ 0 → k < X.2.2.1
theorem lnA_lt {C f : Nat} (h : C < 2 ^ 30) : lnA C f < 2 ^ 31 := by
  unfold lnA
  repeat' split
  all_goals omega
section MSTEP
variable {X : MX} {V : Nat → Int32} {M : Nat → Nat → Int32} {σ : AH} {f t n j : Nat} {β : Type} {Q : β → AH → Prop}
theorem m_obj {k : Unit → Cm β} (h : MP X V M σ) : Hr (bn (oObj (some 31) 8) k) σ Q ↔ Hr (k ()) σ Q := b_obj h.1
theorem m_getI {k : Int32 → Cm β} (h : MP X V M σ) (hf : f < 47) (ha : isA f = false) : Hr (bn (oGetI (some 31) 8 f) k) σ Q ↔ Hr (k (V f)) σ Q := b_getI h.1 (by rw [mfl_get hf, ha]; rfl)
theorem m_getR {k : Option Nat → Cm β} (h : MP X V M σ) (ha : isA f = true) : Hr (bn (oGetR (some 31) 8 f) k) σ Q ↔ Hr (k (some (xa X f))) σ Q := b_getR h.1 (by rw [mfl_get (isA_lt ha), ha]; rfl)
theorem m_ld {i : Int32} {k : Int32 → Cm β} (h : MP X V M σ) (ha : isA f = true) (ht : tgA f = t) (hn : lnA (xC X) f = n) (hi : i = nI j) (hj : j < n) : Hr (bn (oLd t (some (xa X f)) i) k) σ Q ↔ Hr (k (M f j)) σ Q := by
  have hb := lnA_lt (f := f) h.2.2.2.2.2.2.2.2.1
  have h1 := h.2.1 f ha
  subst ht; subst hn
  exact b_ld h1 hi hj hb
theorem m_len {k : Int32 → Cm β} (h : MP X V M σ) (ha : isA f = true) (ht : tgA f = t) (hn : lnA (xC X) f = n) : Hr (bn (oLen t (some (xa X f))) k) σ Q ↔ Hr (k (nI n)) σ Q := by
  have h1 := h.2.1 f ha
  subst ht; subst hn
  exact b_len h1
theorem MP.up (h : MP X V M σ) {σ' : AH} {x : Int32} (ha : isA f = true) (u : Up σ σ' (xa X f) (.inl (tgA f, lnA (xC X) f, .inl (upd (M f) j x)))) : MP X V (upm M f j x) σ' := by
  obtain ⟨h1, h2, h3, h4, h5, h6, h7, h8, h9⟩ := h
  refine ⟨u.ne h1 (Ne.symm (h3 f ha).2), fun f' hf' => ?_, h3, h4, h5, fun k hk => ?_, u.2.2.1.trans h7, u.2.2.2.trans h8, h9⟩
  · by_cases e : f' = f
    · subst e
      rw [u.1]
      simp [upm]
    · rw [u.ne (h2 f' hf') (fun q => e (h5 f' f hf' ha q))]
      simp [upm, e]
  · rw [u.2.1 k (fun q => hk (by rw [q]; exact (h3 f ha).1))]
    exact h6 k hk
theorem m_st {i x : Int32} {k : Unit → Cm β} (h : MP X V M σ) (ha : isA f = true) (ht : tgA f = t) (hn : lnA (xC X) f = n) (hi : i = nI j) (hj : j < n) (kk : ∀ σ', MP X V (upm M f j x) σ' → Hr (k ()) σ' Q) : Hr (bn (oSt t (some (xa X f)) i x) k) σ Q := by
  have hb := lnA_lt (f := f) h.2.2.2.2.2.2.2.2.1
  have h1 := h.2.1 f ha
  subst ht; subst hn
  exact b_st h1 hi hj hb fun σ' u => kk σ' (h.up ha u)
theorem m_stZ {i x : Int32} {k : Unit → Cm β} (h : MP X V M σ) (ha : isA f = true) (ht : tgA f = 1) (hn : lnA (xC X) f = n) (hx : x = 0 ∨ x = 1) (hi : i = nI j) (hj : j < n) (kk : ∀ σ', MP X V (upm M f j x) σ' → Hr (k ()) σ' Q) : Hr (bn (oStZ (some (xa X f)) i x) k) σ Q := by
  have hb := lnA_lt (f := f) h.2.2.2.2.2.2.2.2.1
  have h1 := h.2.1 f ha
  rw [ht] at h1
  subst hn
  exact b_stZ hx h1 hi hj hb fun σ' u => kk σ' (h.up ha (by rw [ht]; exact u))
theorem m_putI {x : Int32} {k : Unit → Cm β} (h : MP X V M σ) (hf : f < 47) (ha : isA f = false) (kk : ∀ σ', MP X (upd V f x) M σ' → Hr (k ()) σ' Q) : Hr (bn (oPutI (some 31) 8 f x) k) σ Q := by
  refine b_putI h.1 (by rw [mfl_len]; exact hf) fun σ' u => kk σ' ?_
  rw [mfl_set hf ha] at u
  obtain ⟨h1, h2, h3, h4, h5, h6, h7, h8, h9⟩ := h
  refine ⟨u.1, fun f' hf' => u.ne (h2 f' hf') (h3 f' hf').2, h3, h4, h5, fun k hk => ?_, u.2.2.1.trans h7, u.2.2.2.trans h8, h9⟩
  rw [u.2.1 k (fun q => hk (by rw [q]; exact h4))]
  exact h6 k hk
end MSTEP
-- what isn't among P stays
def Kx (P : Nat → Bool) (V : Nat → Int32) (M : Nat → Nat → Int32) (V' : Nat → Int32) (M' : Nat → Nat → Int32) : Prop := (∀ f, P f = false → V' f = V f) ∧ (∀ f, P f = false → M' f = M f)
def scr : Nat → Bool := fun f => decide (5 ≤ f ∧ f ≤ 14)
def pQ : Nat → Bool := fun f => decide ((5 ≤ f ∧ f ≤ 14) ∨ f = 19)
def pSF : Nat → Bool := fun f => decide ((5 ≤ f ∧ f ≤ 14) ∨ f = 19 ∨ (39 ≤ f ∧ f ≤ 42))
theorem scr_Q : ∀ f, scr f = true → pQ f = true := by
  intro f hf
  simp only [scr, pQ, decide_eq_true_eq] at hf ⊢
  omega
theorem pQ_SF : ∀ f, pQ f = true → pSF f = true := by
  intro f hf
  simp only [pQ, pSF, decide_eq_true_eq] at hf ⊢
  omega
section KX
variable {P : Nat → Bool} {V V1 V2 : Nat → Int32} {M M1 M2 : Nat → Nat → Int32} {f j : Nat} {x : Int32}
theorem Kx.rf : Kx P V M V M := ⟨fun _ _ => rfl, fun _ _ => rfl⟩
theorem Kx.tr (h : Kx P V M V1 M1) (k : Kx P V1 M1 V2 M2) : Kx P V M V2 M2 := ⟨fun f hf => (k.1 f hf).trans (h.1 f hf), fun f hf => (k.2 f hf).trans (h.2 f hf)⟩
theorem Kx.m (h : Kx P V M V1 M1) (hs : P f = true) : Kx P V M V1 (upm M1 f j x) := ⟨h.1, fun f' hf' => by
  have : f' ≠ f := fun e => by rw [e, hs] at hf'; cases hf'
  simp only [upm, if_neg this]
  exact h.2 f' hf'⟩
theorem Kx.v (h : Kx P V M V1 M1) (hs : P f = true) : Kx P V M (upd V1 f x) M1 := ⟨fun f' hf' => by
  have : f' ≠ f := fun e => by rw [e, hs] at hf'; cases hf'
  simp only [upd, if_neg this]
  exact h.1 f' hf', h.2⟩
theorem Kx.mono {P' : Nat → Bool} (h : Kx P V M V1 M1) (hp : ∀ f, P f = true → P' f = true) : Kx P' V M V1 M1 := ⟨fun f hf => h.1 f (by
  cases hq : P f with
  | false => rfl
  | true => rw [hp f hq] at hf; cases hf), fun f hf => h.2 f (by
  cases hq : P f with
  | false => rfl
  | true => rw [hp f hq] at hf; cases hf)⟩
end KX
theorem upm_s {M : Nat → Nat → Int32} {f j : Nat} {x : Int32} : upm M f j x f = upd (M f) j x := by simp [upm]
theorem upm_n {M : Nat → Nat → Int32} {f f' j : Nat} {x : Int32} (h : f' ≠ f) : upm M f j x f' = M f' := by simp [upm, h]
/-! ===== pass: unwrapping once ===== -/
def wrB (T : List T3) : Bool := match T with
  | x :: y :: z :: _ => decide (x.1 = 37 ∧ ¬ hx y.1 = -1 ∧ ¬ hx z.1 = -1)
  | _ => false
theorem wrB_wr (T : List T3) : wrB T = true ↔ ¬ wr T = -1 := by
  match T with
  | [] => simp [wrB, wr]
  | [x] => simp [wrB, wr]
  | [x, y] => simp [wrB, wr]
  | x :: y :: z :: r =>
    simp only [wrB, wr, decide_eq_true_eq]
    by_cases hc : x.1 = 37 ∧ ¬ hx y.1 = -1 ∧ ¬ hx z.1 = -1
    · rw [if_pos hc]
      exact ⟨fun _ => hx_two hc.2.1 hc.2.2, fun _ => hc⟩
    · rw [if_neg hc]
      exact ⟨fun q => absurd q hc, fun q => absurd rfl q⟩
section MPASS
variable {X : MX} {V : Nat → Int32} {M : Nat → Nat → Int32} {σ : AH}
theorem h8_pass {T : List T3} (h : MP X V M σ) (h8 : V 8 = nI T.length) (hA : A3 (M 5) (M 6) (M 7) 0 T) (hl : T.length ≤ 300) :
    Hr (f8_pass (some 31)) σ (fun _ σ' => ∃ V' M', MP X V' M' σ' ∧ Kx scr V M V' M' ∧ V' 8 = nI (unw T).length ∧ A3 (M' 5) (M' 6) (M' 7) 0 (unw T)) := by
  unfold f8_pass
  refine b_hr (P := fun y σ' => ∃ M', y = nI (unw T).length ∧ MP X V M' σ' ∧ Kx scr V M V M' ∧ A3 (M' 5) (M' 6) (M' 7) 0 (unw T)) ?_ ?_
  · refine hr_loop (fun x σ1 => ∃ (i j : Nat) (M1 : Nat → Nat → Int32) (O : List T3), x = (nI j, nI i) ∧ MP X V M1 σ1 ∧ Kx scr V M V M1 ∧ O.length = j ∧ j ≤ i ∧ i ≤ T.length ∧ A3 (M1 5) (M1 6) (M1 7) 0 O ∧ A3 (M1 5) (M1 6) (M1 7) i (T.drop i) ∧ O ++ unw (T.drop i) = unw T) (fun x => T.length - x.2.toNatClampNeg) ⟨0, 0, M, [], rfl, h, Kx.rf, rfl, Nat.le_refl _, Nat.zero_le _, fun k x hk => by simp at hk, by simpa using hA, by simp⟩ (by show T.length - _ < _; omega) ?_
    rintro rec x σ1 ⟨i, j, M1, O, rfl, h1, hK, hO, hji, hin, hA0, hAi, hU⟩ ih
    unfold l8_pass_4
    dsimp only
    refine (m_getI h1 (by decide) rfl).mpr ?_
    rw [h8]
    refine b_ite (fun c => ?_) (fun c => ?_)
    · rw [nI_leI (by omega) (by omega)] at c
      have hi : i = T.length := by omega
      rw [hi, List.drop_length, unw.eq_2 [] (by intro _ _ _ _ h; cases h), List.append_nil] at hU
      exact hr_rt.mpr ⟨M1, by rw [← hU, hO], h1, hK, by rw [← hU]; exact hA0⟩
    · rw [nI_leI (by omega) (by omega)] at c
      obtain ⟨x, hxx⟩ := drop_hd (T := T) (i := i) (by omega)
      have hlen : (x :: T.drop (i + 1)).length = T.length - i := by rw [← hxx, List.length_drop]
      rw [hxx] at hAi hU
      refine (m_getR h1 rfl).mpr ?_
      refine (m_ld (n := 300) h1 rfl rfl rfl rfl (by omega)).mpr ?_
      rw [hAi.hd.1]
      refine b_hr (P := fun y σ' => y = bI (wrB (x :: T.drop (i + 1))) ∧ σ' = σ1) ?_ ?_
      · refine b_ite (fun c1 => ?_) (fun c1 => ?_)
        · refine (m_getI h1 (by decide) rfl).mpr ?_
          rw [h8, show nI i + 2 = nI (i + 2) from nI_add i 2]
          refine b_ite (fun c2 => ?_) (fun c2 => ?_)
          · rw [nI_leI (by omega) (by omega)] at c2
            refine hr_rt.mpr ⟨?_, rfl⟩
            generalize T.drop (i + 1) = R at hlen
            match R, hlen with
            | [], _ => rfl
            | [y], _ => rfl
            | y :: z :: r, hlen => simp at hlen; omega
          · rw [nI_leI (by omega) (by omega)] at c2
            obtain ⟨y, hy⟩ := drop_hd (T := T) (i := i + 1) (by omega)
            obtain ⟨z, hz⟩ := drop_hd (T := T) (i := i + 1 + 1) (by omega)
            rw [hz] at hy
            rw [hy] at hAi ⊢
            refine (m_getR h1 rfl).mpr ?_
            refine (m_ld (n := 300) h1 rfl rfl rfl (nI_1 i) (by omega)).mpr ?_
            rw [hAi.tl.hd.1]
            refine (b_eq (e8_hex _ _)).mpr ?_
            refine b_ite (fun c3 => ?_) (fun c3 => ?_)
            · exact hr_rt.mpr ⟨by simp [wrB, c3, bI], rfl⟩
            · refine (m_getR h1 rfl).mpr ?_
              refine (m_ld (n := 300) (j := i + 2) h1 rfl rfl rfl rfl (by omega)).mpr ?_
              have e3 : M1 5 (i + 2) = z.1 := hAi.tl.tl.hd.1
              rw [e3]
              refine (b_eq (e8_hex _ _)).mpr ?_
              refine b_ite (fun c4 => ?_) (fun c4 => ?_)
              · exact hr_rt.mpr ⟨by simp [wrB, c4, bI], rfl⟩
              · exact hr_rt.mpr ⟨by simp [wrB, c1, c3, c4, bI], rfl⟩
        · refine hr_rt.mpr ⟨?_, rfl⟩
          generalize T.drop (i + 1) = R
          match R with
          | [] => rfl
          | [y] => rfl
          | y :: z :: r => simp [wrB, c1, bI]
      · rintro y0 σ2 ⟨rfl, rfl⟩
        have go : ∀ (wd : Nat) (v : Int32) (z : T3) (r : List T3) (kont : Cm Int32), 1 ≤ wd → i + wd ≤ T.length → (v, x.2.1, z.2.2) :: unw r = unw (x :: T.drop (i + 1)) → T.drop (i + wd) = r → kont = rec (nI j + 1, nI i + nI wd) →
            Hr (bn (oGetR (some 31) 8 5) fun v142 => bn (oSt 0 v142 (nI j) v) fun _ => bn (oGetR (some 31) 8 6) fun v150 => bn (oSt 0 v150 (nI j) x.2.1) fun _ => bn (oGetR (some 31) 8 7) fun v158 => bn (oSt 0 v158 (nI j) z.2.2) fun _ => kont) σ2 (fun y σ' => ∃ M', y = nI (unw T).length ∧ MP X V M' σ' ∧ Kx scr V M V M' ∧ A3 (M' 5) (M' 6) (M' 7) 0 (unw T)) := by
          intro wd v z r kont hw1 hw2 hu hr hk
          refine (m_getR h1 rfl).mpr ?_
          refine m_st (n := 300) h1 rfl rfl rfl rfl (by omega) fun σ3 h3 => ?_
          refine (m_getR h3 rfl).mpr ?_
          refine m_st (n := 300) h3 rfl rfl rfl rfl (by omega) fun σ4 h4 => ?_
          refine (m_getR h4 rfl).mpr ?_
          refine m_st (n := 300) h4 rfl rfl rfl rfl (by omega) fun σ5 h5 => ?_
          rw [hk, nI_add, nI_1]
          refine ih _ _ ⟨i + wd, j + 1, _, O ++ [(v, x.2.1, z.2.2)], rfl, h5, ((hK.m rfl).m rfl).m rfl, by simp [hO], by omega, hw2, ?_, ?_, ?_⟩ ?_
          · have := A3.snoc (x := ((v, x.2.1, z.2.2) : T3)) hA0
            rw [hO] at this
            exact this
          · have hAd : A3 (M1 5) (M1 6) (M1 7) (i + wd) (T.drop (i + wd)) := by
              intro k y hk
              have := hAi (wd + k) y (by rw [← hxx, List.getElem?_drop]; rw [List.getElem?_drop] at hk; rw [← hk]; congr 1; omega)
              rwa [show i + (wd + k) = i + wd + k by omega] at this
            exact hAd.up (Or.inl (by omega))
          · rw [hr, List.append_assoc, List.singleton_append, hu]
            exact hU
          · show T.length - (nI (i + wd)).toNatClampNeg < T.length - (nI i).toNatClampNeg
            rw [nI_clamp (by omega), nI_clamp (by omega)]
            omega
        by_cases hw : wrB (x :: T.drop (i + 1)) = true
        · rw [hw, show bI true = 1 from rfl, if_neg (by decide), if_neg (by decide)]
          obtain ⟨y, z, r, hd, hu⟩ := unw_wr3 ((wrB_wr _).mp hw)
          have hlen3 : i + 3 ≤ T.length := by
            rw [hd] at hlen
            simp only [List.length_cons] at hlen
            omega
          have hAi' := hAi
          rw [hd] at hAi'
          refine (b_as).mpr ?_
          refine (m_getR h1 rfl).mpr ?_
          refine (b_as).mpr ?_
          refine (m_ld (n := 300) h1 rfl rfl rfl (nI_1 i) (by omega)).mpr ?_
          rw [hAi'.tl.hd.1]
          refine (b_as).mpr ?_
          refine (b_eq (e8_hex _ _)).mpr ?_
          refine (b_as).mpr ?_
          refine (m_getR h1 rfl).mpr ?_
          refine (b_as).mpr ?_
          refine (m_ld (n := 300) (j := i + 2) h1 rfl rfl rfl (show nI i + 2 = nI (i + 2) from nI_add i 2) (by omega)).mpr ?_
          have e3 : M1 5 (i + 2) = z.1 := hAi'.tl.tl.hd.1
          have e4 : M1 7 (i + 2) = z.2.2 := hAi'.tl.tl.hd.2.2
          rw [e3]
          refine (b_as).mpr ?_
          refine (b_eq (e8_hex _ _)).mpr ?_
          rw [bn_rt]
          refine (m_getR h1 rfl).mpr ?_
          refine (m_ld (n := 300) h1 rfl rfl rfl rfl (by omega)).mpr ?_
          rw [hAi.hd.2.1]
          refine (b_as).mpr ?_
          refine (m_getR h1 rfl).mpr ?_
          refine (b_as).mpr ?_
          refine (m_ld (n := 300) (j := i + 2) h1 rfl rfl rfl (show nI i + 2 = nI (i + 2) from nI_add i 2) (by omega)).mpr ?_
          rw [e4, bn_rt]
          have ew : wr (x :: T.drop (i + 1)) = 16 * hx y.1 + hx z.1 := by
            rw [hd] at hw ⊢
            simp only [wrB, decide_eq_true_eq] at hw
            simp only [wr, if_pos hw]
          rw [ew] at hu
          refine go 3 _ z r _ (by omega) hlen3 hu.symm ?_ rfl
          have e1 : T.drop (i + 3) = (T.drop (i + 1)).drop 2 := by rw [List.drop_drop]
          rw [e1, hd]
          rfl
        · have hw' : wrB (x :: T.drop (i + 1)) = false := by simpa using hw
          have hw2 : wr (x :: T.drop (i + 1)) = -1 := Classical.byContradiction fun q => hw ((wrB_wr _).mpr q)
          rw [hw', show bI false = 0 from rfl, if_pos rfl, if_pos rfl]
          refine (b_as).mpr ?_
          refine (m_getR h1 rfl).mpr ?_
          refine (b_as).mpr ?_
          refine (m_ld (n := 300) h1 rfl rfl rfl rfl (by omega)).mpr ?_
          rw [hAi.hd.1, bn_rt]
          refine (m_getR h1 rfl).mpr ?_
          refine (m_ld (n := 300) h1 rfl rfl rfl rfl (by omega)).mpr ?_
          rw [hAi.hd.2.1]
          refine (b_as).mpr ?_
          refine (m_getR h1 rfl).mpr ?_
          refine (b_as).mpr ?_
          refine (m_ld (n := 300) h1 rfl rfl rfl rfl (by omega)).mpr ?_
          rw [hAi.hd.2.2, bn_rt]
          exact go 1 x.1 x (T.drop (i + 1)) _ (Nat.le_refl _) (by omega) (by rw [unw_wr hw2]) rfl rfl
  · rintro y σ' ⟨M', rfl, h1, hK, hA'⟩
    refine m_putI h1 (by decide) rfl fun σ2 h2 => ?_
    exact hr_rt.mpr ⟨_, M', h2, hK.v rfl, by simp [upd], hA'⟩
end MPASS
