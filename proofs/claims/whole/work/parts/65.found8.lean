/-! ===== the reference: what is found is kept in rows that grow ===== -/
def pF : Nat → Bool := fun f => decide (39 ≤ f ∧ f ≤ 42)
/-- the found rows hold F -/
def FI (X : MX) (V : Nat → Int32) (M : Nat → Nat → Int32) (F : List T3) : Prop := V 42 = nI F.length ∧ F.length ≤ xC X ∧ 1024 ≤ xC X ∧ xC X ≤ 1024 + 2 * F.length ∧ A3 (M 39) (M 40) (M 41) 0 F
/-- the base grows: cells and slots by the room of the found rows -/
def XG (X X' : MX) : Prop := X'.1 = X.1 ∧ X'.2.1 = X.2.1 ∧ X.2.2.1 ≤ X'.2.2.1 ∧ 100 * X'.2.2.1 + xC X ≤ 100 * X.2.2.1 + xC X' ∧ X'.2.2.2.1 + 6 * xC X = X.2.2.2.1 + 6 * xC X' ∧ ∀ f, f ≠ 39 → f ≠ 40 → f ≠ 41 → xa X' f = xa X f
theorem XG.rf {X : MX} : XG X X := ⟨rfl, rfl, Nat.le_refl _, Nat.le_refl _, rfl, fun _ _ _ _ => rfl⟩
theorem XG.tr {X X1 X2 : MX} (h : XG X X1) (k : XG X1 X2) : XG X X2 := by
  obtain ⟨a1, a2, a3, a4, a5, a6⟩ := h
  obtain ⟨b1, b2, b3, b4, b5, b6⟩ := k
  exact ⟨b1.trans a1, b2.trans a2, by omega, by omega, by omega, fun f h1 h2 h3 => (b6 f h1 h2 h3).trans (a6 f h1 h2 h3)⟩
def fapp (b : Bool) (F R : List T3) : List T3 := if b = true then F ++ R else F
theorem fapp_nil (b : Bool) (F : List T3) : fapp b F [] = F := by unfold fapp; split <;> simp
theorem fapp_app (b : Bool) (F R S : List T3) : fapp b (fapp b F R) S = fapp b F (R ++ S) := by
  unfold fapp
  cases b <;> simp
theorem fapp_len (b : Bool) (F R : List T3) : (fapp b F R).length ≤ F.length + R.length := by
  unfold fapp
  cases b <;> simp
theorem RD.kF {V V' : Nat → Int32} {M M' : Nat → Nat → Int32} {xs : List Int32} (h : RD V M xs) (k : Kx pF V M V' M') : RD V' M' xs := by
  unfold RD WM NM
  rw [k.1 8 rfl, k.1 11 rfl, k.1 14 rfl, k.2 5 rfl, k.2 6 rfl, k.2 7 rfl, k.2 9 rfl, k.2 10 rfl, k.2 12 rfl, k.2 13 rfl]
  exact h
theorem KT.kF {V V' : Nat → Int32} {M M' : Nat → Nat → Int32} {i : Nat} {ks : List Int32} (h : KT M i ks) (k : Kx pF V M V' M') : KT M' i ks := by
  unfold KT
  rw [k.2 15 rfl, k.2 16 rfl, k.2 17 rfl, k.2 18 rfl]
  exact h
theorem MK.kF {V V' : Nat → Int32} {M M' : Nat → Nat → Int32} {i : Nat} {ks : List Int32} (h : MK M i ks) (k : Kx pF V M V' M') : MK M' i ks := by
  unfold MK
  rw [k.2 21 rfl, k.2 22 rfl]
  exact h
theorem h8_longer {σ : AH} {a C : Nat} {f : Nat → Int32} (h : σ.1[a]? = some (.inl (0, C, .inl f))) (hC : C < 2 ^ 21) :
    Hr (f8_longer (some a)) σ (fun r σ' => r = some σ.1.length ∧ σ'.1.length = σ.1.length + 1 ∧ σ'.2 = σ.2 + 2 * C ∧ (∀ k, k < σ.1.length → σ'.1[k]? = σ.1[k]?) ∧ ∃ f', σ'.1[σ.1.length]? = some (.inl (0, 2 * C, .inl f')) ∧ ∀ k, k < C → f' k = f k) := by
  have hal := (List.getElem?_eq_some_iff.mp h).1
  unfold f8_longer
  refine (b_len h).mpr ?_
  refine b_newA (m := 2 * C) (by show (2 : Int32) * nI C = _; rw [show (2 : Int32) = nI 2 from rfl, pk_mul]) (by omega) fun σ1 n1 => ?_
  refine b_hr (P := fun _ σ' => σ'.1.length = σ.1.length + 1 ∧ σ'.2 = σ.2 + 2 * C ∧ (∀ k, k < σ.1.length → σ'.1[k]? = σ.1[k]?) ∧ ∃ f', σ'.1[σ.1.length]? = some (.inl (0, 2 * C, .inl f')) ∧ ∀ k, k < C → f' k = f k) ?_ (fun _ _ hq => hr_rt.mpr ⟨rfl, hq⟩)
  refine hr_loop (fun x σ2 => ∃ (i : Nat) (f' : Nat → Int32), x = nI i ∧ i ≤ C ∧ σ2.1.length = σ.1.length + 1 ∧ σ2.2 = σ.2 + 2 * C ∧ (∀ k, k < σ.1.length → σ2.1[k]? = σ.1[k]?) ∧ σ2.1[σ.1.length]? = some (.inl (0, 2 * C, .inl f')) ∧ ∀ k, k < i → f' k = f k) (fun x => C - x.toNatClampNeg) ⟨0, _, rfl, Nat.zero_le _, n1.2.2.1, n1.2.2.2, n1.2.1, n1.1, fun k hk => by omega⟩ (by show C - _ < _; omega) ?_
  rintro rec x σ2 ⟨i, f', rfl, hi, hl, hs, hold, hnew, hcp⟩ ih
  have ha : σ2.1[a]? = some (.inl (0, C, .inl f)) := by rw [hold a hal]; exact h
  unfold l8_longer_9
  refine (b_len ha).mpr ?_
  refine b_ite (fun c => ?_) (fun c => ?_)
  · have c : C ≤ i := (nI_leI (by omega) (by omega)).mp c
    exact hr_rt.mpr ⟨hl, hs, hold, f', hnew, fun k hk => hcp k (by omega)⟩
  · have c : ¬ C ≤ i := fun q => c ((nI_leI (by omega) (by omega)).mpr q)
    refine (b_ld ha rfl (by omega) (by omega)).mpr ?_
    refine b_st hnew rfl (by omega) (by omega) fun σ3 u => ?_
    refine ih _ _ ⟨i + 1, _, nI_1 i, by omega, u.2.2.1.trans hl, u.2.2.2.trans hs, fun k hk => (u.2.1 k (by omega)).trans (hold k hk), u.1, fun k hk => ?_⟩ ?_
    · by_cases e : k = i
      · simp [upd, e]
      · simp only [upd, if_neg e]
        exact hcp k (by omega)
    · rw [nI_1, nI_clamp (by omega), nI_clamp (by omega)]; omega
section MFOUND
variable {X : MX} {V : Nat → Int32} {M : Nat → Nat → Int32} {σ : AH} {xs ks ms : List Int32} {F : List T3}
theorem h8_grow (h : MP X V M σ) (hF : FI X V M F) (hC : xC X < 2 ^ 21) :
    Hr (bn (oGetR (some 31) 8 39) fun v19 => bn (f8_longer v19) fun v22 => bn (oPutR (some 31) 8 39 v22) fun _ => bn (oGetR (some 31) 8 40) fun v30 => bn (f8_longer v30) fun v33 => bn (oPutR (some 31) 8 40 v33) fun _ => bn (oGetR (some 31) 8 41) fun v41 => bn (f8_longer v41) fun v44 => bn (oPutR (some 31) 8 41 v44) fun _ => rt ()) σ
      (fun _ σ' => ∃ X' M', MP X' V M' σ' ∧ XG X X' ∧ xC X' = 2 * xC X ∧ Kx pF V M V M' ∧ A3 (M' 39) (M' 40) (M' 41) 0 F) := by
  obtain ⟨f42, fl, f10, f2, fA⟩ := hF
  have h' := h
  obtain ⟨h1, h2, h3, h4, h5, h6, h7, h8, h9, h10⟩ := h'
  have c39 : σ.1[xa X 39]? = some (.inl (0, xC X, .inl (M 39))) := h2 39 rfl
  have c40 : σ.1[xa X 40]? = some (.inl (0, xC X, .inl (M 40))) := h2 40 rfl
  have c41 : σ.1[xa X 41]? = some (.inl (0, xC X, .inl (M 41))) := h2 41 rfl
  have lt : ∀ f, isA f = true → xa X f < X.2.2.1 := fun f hf => by
    have := (List.getElem?_eq_some_iff.mp (h2 f hf)).1
    omega
  have lt31 : 31 < X.2.2.1 := by
    have := (List.getElem?_eq_some_iff.mp h1).1
    omega
  refine (m_getR h rfl).mpr ?_
  refine b_hr (h8_longer c39 hC) ?_
  rintro r1 σ1 ⟨rfl, l1, s1, o1, f1, n1, e1⟩
  rw [h7] at l1 o1 n1 ⊢
  have k1 : σ1.1[31]? = some (.inr (8, mfl (xa X) V)) := by rw [o1 31 lt31]; exact h1
  refine b_putR k1 (by rw [mfl_len]; decide) fun σ2 u2 => ?_
  have u2a := u2.1
  rw [show va_rf (some X.2.2.1) = .ref X.2.2.1 from rfl, mfl_setR rfl] at u2a
  refine (b_getR (v := xa X 40) u2a (by rw [mfl_get (by decide)]; rfl)).mpr ?_
  have c40' : σ2.1[xa X 40]? = some (.inl (0, xC X, .inl (M 40))) := by
    rw [u2.2.1 _ (h3 40 rfl).2, o1 _ (lt 40 rfl)]; exact c40
  refine b_hr (h8_longer c40' hC) ?_
  rintro r2 σ3 ⟨rfl, l3, s3, o3, f3, n3, e3⟩
  have l2 : σ2.1.length = X.2.2.1 + 1 := by rw [u2.2.2.1, l1]
  rw [l2] at l3 o3 n3 ⊢
  have k3 := u2a
  rw [← o3 31 (by omega)] at k3
  refine b_putR k3 (by rw [mfl_len]; decide) fun σ4 u4 => ?_
  have u4a := u4.1
  rw [show va_rf (some (X.2.2.1 + 1)) = .ref (X.2.2.1 + 1) from rfl, mfl_setR rfl] at u4a
  refine (b_getR (v := xa X 41) u4a (by rw [mfl_get (by decide)]; rfl)).mpr ?_
  have c41' : σ4.1[xa X 41]? = some (.inl (0, xC X, .inl (M 41))) := by
    rw [u4.2.1 _ (h3 41 rfl).2, o3 _ (by have := lt 41 rfl; omega), u2.2.1 _ (h3 41 rfl).2, o1 _ (lt 41 rfl)]; exact c41
  refine b_hr (h8_longer c41' hC) ?_
  rintro r3 σ5 ⟨rfl, l5, s5, o5, f5, n5, e5⟩
  have l4 : σ4.1.length = X.2.2.1 + 2 := by rw [u4.2.2.1, l3]
  rw [l4] at l5 o5 n5 ⊢
  have k5 := u4a
  rw [← o5 31 (by omega)] at k5
  refine b_putR k5 (by rw [mfl_len]; decide) fun σ6 u6 => ?_
  have u6a := u6.1
  rw [show va_rf (some (X.2.2.1 + 2)) = .ref (X.2.2.1 + 2) from rfl, mfl_setR rfl] at u6a
  have old : ∀ k, k < X.2.2.1 → k ≠ 31 → σ6.1[k]? = σ.1[k]? := fun k hk hne => by
    rw [u6.2.1 k hne, o5 k (by omega), u4.2.1 k hne, o3 k (by omega), u2.2.1 k hne, o1 k hk]
  have a39 : σ6.1[X.2.2.1]? = some (.inl (0, 2 * xC X, .inl f1)) := by
    rw [u6.2.1 _ (by omega), o5 _ (by omega), u4.2.1 _ (by omega), o3 _ (by omega), u2.2.1 _ (by omega)]; exact n1
  have a40 : σ6.1[X.2.2.1 + 1]? = some (.inl (0, 2 * xC X, .inl f3)) := by
    rw [u6.2.1 _ (by omega), o5 _ (by omega), u4.2.1 _ (by omega)]; exact n3
  have a41 : σ6.1[X.2.2.1 + 2]? = some (.inl (0, 2 * xC X, .inl f5)) := by
    rw [u6.2.1 _ (by omega)]; exact n5
  refine hr_rt.mpr ⟨(X.1, X.2.1, X.2.2.1 + 3, X.2.2.2.1 + 6 * xC X, upA (upA (upA (xa X) 39 X.2.2.1) 40 (X.2.2.1 + 1)) 41 (X.2.2.1 + 2), 2 * xC X), (fun f => if f = 39 then f1 else if f = 40 then f3 else if f = 41 then f5 else M f), ⟨?_, ?_, ?_, h4, ?_, ?_, ?_, ?_, ?_, ?_⟩, ⟨rfl, rfl, ?_, ?_, ?_, fun f h1 h2 h3 => by show upA (upA (upA (xa X) 39 X.2.2.1) 40 (X.2.2.1 + 1)) 41 (X.2.2.1 + 2) f = xa X f; simp only [upA, if_neg h1, if_neg h2, if_neg h3]⟩, rfl, ⟨fun _ _ => rfl, ?_⟩, ?_⟩
  · exact u6a
  · intro f hf
    show σ6.1[upA (upA (upA (xa X) 39 X.2.2.1) 40 (X.2.2.1 + 1)) 41 (X.2.2.1 + 2) f]? = some (.inl (tgA f, lnA (2 * xC X) f, .inl (if f = 39 then f1 else if f = 40 then f3 else if f = 41 then f5 else M f)))
    by_cases e39 : f = 39
    · subst e39; exact a39
    · by_cases e40 : f = 40
      · subst e40; exact a40
      · by_cases e41 : f = 41
        · subst e41; exact a41
        · simp only [upA, if_neg e39, if_neg e40, if_neg e41]
          rw [old _ (lt f hf) (h3 f hf).2, h2 f hf]
          have : lnA (xC X) f = lnA (2 * xC X) f := by
            unfold lnA
            have : ¬ (39 ≤ f ∧ f ≤ 41) := by omega
            by_cases q : f ≤ 38
            · simp only [if_pos q]
            · rw [if_neg (show ¬ f ≤ 41 by omega), if_neg (show ¬ f ≤ 41 by omega)]
          rw [this]
  · intro f hf
    show X.1 (upA (upA (upA (xa X) 39 X.2.2.1) 40 (X.2.2.1 + 1)) 41 (X.2.2.1 + 2) f) = 0 ∧ upA (upA (upA (xa X) 39 X.2.2.1) 40 (X.2.2.1 + 1)) 41 (X.2.2.1 + 2) f ≠ 31
    have z : ∀ k, X.2.2.1 ≤ k → X.1 k = 0 := fun k hk => Classical.byContradiction fun q => by have := h10 k q; omega
    simp only [upA]
    split
    · exact ⟨z _ (by omega), by omega⟩
    · split
      · exact ⟨z _ (by omega), by omega⟩
      · split
        · exact ⟨z _ (by omega), by omega⟩
        · exact h3 f hf
  · intro f f' hf hf'
    show upA (upA (upA (xa X) 39 X.2.2.1) 40 (X.2.2.1 + 1)) 41 (X.2.2.1 + 2) f = upA (upA (upA (xa X) 39 X.2.2.1) 40 (X.2.2.1 + 1)) 41 (X.2.2.1 + 2) f' → f = f'
    have q1 := lt f hf
    have q2 := lt f' hf'
    have q3 := h5 f f' hf hf'
    simp only [upA]
    repeat' split
    all_goals first | omega | exact q3
  · intro k hk
    show σ6.1[k]? = X.2.1 k
    have hk' := h10 k hk
    rw [old k hk' (fun e => hk (by rw [e]; exact h4))]
    exact h6 k hk
  · show σ6.1.length = X.2.2.1 + 3
    rw [u6.2.2.1, l5]
  · show σ6.2 = X.2.2.2.1 + 6 * xC X
    rw [u6.2.2.2, s5, u4.2.2.2, s3, u2.2.2.2, s1, h8]
    omega
  · show 2 * xC X < 2 ^ 30
    omega
  · intro k hk
    show k < X.2.2.1 + 3
    have := h10 k hk
    omega
  · show X.2.2.1 ≤ X.2.2.1 + 3
    omega
  · show 100 * (X.2.2.1 + 3) + xC X ≤ 100 * X.2.2.1 + 2 * xC X
    omega
  · show X.2.2.2.1 + 6 * xC X + 6 * xC X = X.2.2.2.1 + 6 * (2 * xC X)
    omega
  · intro f hf
    simp only [pF, decide_eq_false_iff_not] at hf
    simp only [if_neg (show f ≠ 39 by omega), if_neg (show f ≠ 40 by omega), if_neg (show f ≠ 41 by omega)]
  · intro k x hk
    have hkl := (List.getElem?_eq_some_iff.mp hk).1
    have := fA k x hk
    show f1 (0 + k) = _ ∧ f3 (0 + k) = _ ∧ f5 (0 + k) = _
    rw [e1 _ (by omega), e3 _ (by omega), e5 _ (by omega)]
    exact this
theorem h8_found {b : Bool} {i j : Nat} {z : Int32} (h : MP X V M σ) (hF : FI X V M F) (hC : F.length < 2 ^ 19) (hi : i < 300) (hj : j < 300) :
    Hr (f8_found (some 31) (nI i) (nI j) z (bI b)) σ (fun _ σ' => ∃ X' V' M', MP X' V' M' σ' ∧ XG X X' ∧ Kx pF V M V' M' ∧ FI X' V' M' (fapp b F [(M 6 i, M 7 j, z)])) := by
  unfold f8_found
  cases b with
  | false =>
    rw [if_pos (show bI false = 0 from rfl)]
    exact hr_rt.mpr ⟨X, V, M, h, XG.rf, Kx.rf, hF⟩
  | true =>
    rw [if_neg (show ¬ bI true = 0 by decide)]
    obtain ⟨f42, fl, f10, f2, fA⟩ := id hF
    refine (m_getI h (by decide) rfl).mpr ?_
    refine (m_getR h rfl).mpr ?_
    refine (m_len (n := xC X) h rfl rfl rfl).mpr ?_
    rw [f42]
    refine b_hr (P := fun _ σ' => ∃ X' M', MP X' V M' σ' ∧ XG X X' ∧ Kx pF V M V M' ∧ F.length < xC X' ∧ xC X' ≤ 1024 + 2 * (F.length + 1) ∧ A3 (M' 39) (M' 40) (M' 41) 0 F) ?_ ?_
    · refine b_ite (fun c => ?_) (fun c => ?_)
      · rw [nI_eq (by omega) (by omega)] at c
        refine (h8_grow h hF (by omega)).mono ?_
        rintro _ σ1 ⟨X1, M1, g1, g2, g3, g4, g5⟩
        exact ⟨X1, M1, g1, g2, g4, by omega, by omega, g5⟩
      · rw [nI_eq (by omega) (by omega)] at c
        exact hr_rt.mpr ⟨X, M, h, XG.rf, Kx.rf, by omega, by omega, fA⟩
    · rintro _ σ1 ⟨X1, M1, h1, hG, hK, hlt, hle, hA⟩
      have k42 : V 42 = nI F.length := f42
      refine (m_getR h1 rfl).mpr ?_
      refine (m_getI h1 (by decide) rfl).mpr ?_
      refine (m_getR h1 rfl).mpr ?_
      refine (m_ld (n := 300) h1 rfl rfl rfl rfl hi).mpr ?_
      refine m_st (n := xC X1) (f := 39) h1 rfl rfl rfl k42 hlt fun σ2 h2 => ?_
      refine (m_getR h2 rfl).mpr ?_
      refine (m_getI h2 (by decide) rfl).mpr ?_
      refine (m_getR h2 rfl).mpr ?_
      refine (m_ld (n := 300) h2 rfl rfl rfl rfl hj).mpr ?_
      refine m_st (n := xC X1) (f := 40) h2 rfl rfl rfl k42 hlt fun σ3 h3 => ?_
      refine (m_getR h3 rfl).mpr ?_
      refine (m_getI h3 (by decide) rfl).mpr ?_
      refine m_st (n := xC X1) (f := 41) h3 rfl rfl rfl k42 hlt fun σ4 h4 => ?_
      refine (m_getI h4 (by decide) rfl).mpr ?_
      refine m_putI h4 (by decide) rfl fun σ5 h5 => ?_
      refine hr_rt.mpr ⟨X1, _, _, h5, hG, (((hK.m rfl).m rfl).m rfl).v rfl, ?_, ?_, ?_, ?_, ?_⟩
      · show upd V 42 (V 42 + 1) 42 = nI (F ++ [_]).length
        rw [k42, nI_1, List.length_append]
        simp [upd]
      · show (F ++ [_]).length ≤ _
        rw [List.length_append]
        simp only [List.length_cons, List.length_nil]
        omega
      · have := hG.2.2.2.1
        have := hG.2.2.1
        omega
      · show xC X1 ≤ 1024 + 2 * (F ++ [_]).length
        rw [List.length_append]
        simp only [List.length_cons, List.length_nil]
        omega
      · have e6 : M1 6 = M 6 := hK.2 6 rfl
        have e7 : M1 7 = M 7 := hK.2 7 rfl
        have := A3.snoc (x := ((M 6 i, M 7 j, z) : T3)) hA
        rw [← e6, ← e7] at this
        show A3 (upd (M1 39) F.length (M1 6 i)) (upd (M1 40) F.length (M1 7 j)) (upd (M1 41) F.length z) 0 (F ++ [(M 6 i, M 7 j, z)])
        rw [← e6, ← e7]
        exact this
end MFOUND
