/-! ===== what is found: marks, parts ===== -/
def gMark (xs ms : List Int32) (w : Nat) : Option T3 := if (wv xs)[w]? = (wv ms)[0]? then some (pFst xs w, pLst xs w, -1) else none
def fMark (xs ms : List Int32) : List T3 := (List.range (wds xs).length).filterMap (gMark xs ms)
def gPar (xs ks : List Int32) (n w p : Nat) : Option T3 := if rowEq xs ks w p n = true ∧ longOne ks p n = true then some (pFst xs w, pLst xs (w + n - 1), nI p) else none
def rPar (xs ks : List Int32) (n w : Nat) : List T3 := (List.range ((wds ks).length + 1 - n)).filterMap (gPar xs ks n w)
def fPar (xs ks : List Int32) (n : Nat) : List T3 := (List.range ((wds xs).length + 1 - n)).flatMap (rPar xs ks n)
theorem fm_succ {α : Type} (g : Nat → Option α) (k : Nat) : (List.range (k + 1)).filterMap g = (List.range k).filterMap g ++ (g k).toList := by
  rw [List.range_succ, List.filterMap_append]
  congr 1
theorem fl_succ {α : Type} (g : Nat → List α) (k : Nat) : (List.range (k + 1)).flatMap g = (List.range k).flatMap g ++ g k := by
  rw [List.range_succ, List.flatMap_append]
  simp
theorem fm_len {α : Type} (g : Nat → Option α) (k : Nat) : ((List.range k).filterMap g).length ≤ k := by
  have := List.length_filterMap_le g (List.range k)
  rwa [List.length_range] at this
theorem fl_len {α : Type} (g : Nat → List α) (c : Nat) (h : ∀ w, (g w).length ≤ c) : ∀ k, ((List.range k).flatMap g).length ≤ k * c := by
  intro k
  induction k with
  | zero => simp
  | succ k ih =>
    rw [fl_succ, List.length_append, Nat.succ_mul]
    have := h k
    omega
theorem rPar_len (xs ks : List Int32) (n w : Nat) : (rPar xs ks n w).length ≤ (wds ks).length + 1 := by
  have := fm_len (gPar xs ks n w) ((wds ks).length + 1 - n)
  unfold rPar
  omega
theorem fMark_len (xs ms : List Int32) : (fMark xs ms).length ≤ (wds xs).length := fm_len _ _
theorem CTx.len {σ : AH} {q cap : Nat} {xs : List Int32} (hT : CTx σ q cap xs) : xs.length ≤ 300 ∧ (wds xs).length ≤ 150 := by
  obtain ⟨_, _, _, _, _, _, _, _, _, a, b⟩ := hT
  have := wds_cnt xs
  omega
theorem CTx.obj {σ : AH} {q cap : Nat} {xs : List Int32} (hT : CTx σ q cap xs) : ∃ a1 a2 a3 a4 a5 a6 a7, σ.1[q]? = some (.inr (6, [a1, a2, a3, a4, a5, a6, a7, .int (nI (wds xs).length)])) := by
  obtain ⟨_, _, _, _, _, _, h, _⟩ := hT
  exact ⟨_, _, _, _, _, _, _, h.1⟩
theorem FB.obj {σ : AH} {q cap : Nat} {R : List T3} (hF : FB σ q cap R) : ∃ a1 a2 a3 a4, σ.1[q]? = some (.inr (0, [a1, a2, a3, a4, .int (nI R.length)])) := by
  obtain ⟨_, _, _, h, _⟩ := hF
  exact ⟨_, _, _, _, h⟩
theorem CTx.sm {σ σ' : AH} {q cap lo hi : Nat} {xs : List Int32} (hT : CTx σ q cap xs) (h : Sm σ σ' lo hi) (hd : q + 7 ≤ lo ∨ hi ≤ q) : CTx σ' q cap xs := hT.frame (fun k h1 h2 => h.1 k (by omega))
section COLLECT
variable {σ : AH} {q cap qm capm qf capf : Nat} {xs ms ks : List Int32}
theorem h6_collectAlike (hT : CTx σ q cap xs) (hM : CTx σ qm capm ms) (hw : 0 < (wds ms).length) (hF : FB σ qf capf []) (hd : q + 7 ≤ qf ∨ qf + 5 ≤ q) (hdm : qm + 7 ≤ qf ∨ qf + 5 ≤ qm) (hc : capf < 2 ^ 30) :
    Hr (f6_collectAlike (some q) (some qm) (some qf)) σ (fun _ σ' => Sm σ σ' qf (qf + 5) ∧ FB σ' qf capf (fMark xs ms)) := by
  have hlx := hT.len
  have hlm := hM.len
  unfold f6_collectAlike
  rw [if_neg (by simp)]
  obtain ⟨_, _, _, _, _, _, _, mo⟩ := hM.obj
  refine (b_getI mo rfl).mpr ?_
  rw [if_neg (nI_ne0 hw (by omega))]
  refine b_hr (P := fun _ σ' => Sm σ σ' qf (qf + 5) ∧ FB σ' qf capf (fMark xs ms)) ?_ (fun _ _ hq => hr_rt.mpr hq)
  refine hr_loop (fun x σ1 => ∃ k, x = nI k ∧ k ≤ (wds xs).length ∧ Sm σ σ1 qf (qf + 5) ∧ FB σ1 qf capf ((List.range k).filterMap (gMark xs ms))) (fun x => (wds xs).length - x.toNatClampNeg) ⟨0, rfl, Nat.zero_le _, Sm.rf, hF⟩ (by show (wds xs).length - _ < _; omega) ?_
  rintro rec x σ1 ⟨k, rfl, hk, hS, hF1⟩ ih
  unfold l6_collectAlike_14
  have hT1 := hT.sm hS hd
  have hM1 := hM.sm hS hdm
  obtain ⟨_, _, _, _, _, _, _, to⟩ := hT1.obj
  refine (b_getI to rfl).mpr ?_
  refine b_ite (fun c => ?_) (fun c => ?_)
  · rw [nI_leI (by omega) (by omega)] at c
    have : k = (wds xs).length := by omega
    subst this
    exact hr_rt.mpr ⟨hS, hF1⟩
  · rw [nI_leI (by omega) (by omega)] at c
    have hm : (wds xs).length - (nI k + 1).toNatClampNeg < (wds xs).length - (nI k).toNatClampNeg := by rw [nI_1, nI_clamp (by omega), nI_clamp (by omega)]; omega
    refine (b_obj to).mpr ?_
    rw [show (0 : Int32) = nI 0 from rfl]
    refine (b_eq (e6_isAlike hT1 hM1 (by omega) hw)).mpr ?_
    rw [show nI 0 = (0 : Int32) from rfl]
    refine b_ite (fun c2 => ?_) (fun c2 => ?_)
    · rw [bI_0, decide_eq_false_iff_not] at c2
      refine ih _ _ ⟨k + 1, nI_1 k, by omega, hS, ?_⟩ hm
      rw [fm_succ, show gMark xs ms k = none from if_neg c2]
      simpa using hF1
    · rw [bI_0, Bool.not_eq_false, decide_eq_true_eq] at c2
      have pl := e6_place hT1 (w := k) (by omega)
      refine (b_obj to).mpr ?_
      refine (b_eq pl.1).mpr ?_
      refine (b_obj to).mpr ?_
      refine (b_eq pl.2).mpr ?_
      obtain ⟨_, _, _, _, fo⟩ := hF1.obj
      refine (b_obj fo).mpr ?_
      have hl := fm_len (gMark xs ms) k
      refine b_hr (h0_put hF1 (Or.inl rfl) (by omega) hc) ?_
      rintro _ σ2 ⟨hS2, hF2⟩
      refine ih _ _ ⟨k + 1, nI_1 k, by omega, hS.tr hS2, ?_⟩ hm
      rw [fm_succ, show gMark xs ms k = some _ from if_pos c2]
      exact hF2
theorem h6_collectParts {n : Nat} (hT : CTx σ q cap xs) (hM : CTx σ qm capm ks) (hn : 2 ≤ n) (hn8 : n ≤ 8) (hF : FB σ qf capf []) (hd : q + 7 ≤ qf ∨ qf + 5 ≤ q) (hdm : qm + 7 ≤ qf ∨ qf + 5 ≤ qm) (hc : capf < 2 ^ 30) :
    Hr (f6_collectParts (some q) (some qm) (nI n) (some qf)) σ (fun _ σ' => Sm σ σ' qf (qf + 5) ∧ FB σ' qf capf (fPar xs ks n)) := by
  have hlx := hT.len
  have hlk := hM.len
  unfold f6_collectParts
  refine b_hr (P := fun _ σ' => Sm σ σ' qf (qf + 5) ∧ FB σ' qf capf (fPar xs ks n)) ?_ (fun _ _ hq => hr_rt.mpr hq)
  refine hr_loop (fun x σ1 => ∃ w, x = nI w ∧ w ≤ (wds xs).length + 1 - n ∧ Sm σ σ1 qf (qf + 5) ∧ FB σ1 qf capf ((List.range w).flatMap (rPar xs ks n))) (fun x => (wds xs).length + 1 - x.toNatClampNeg) ⟨0, rfl, Nat.zero_le _, Sm.rf, hF⟩ (by show (wds xs).length + 1 - _ < _; omega) ?_
  rintro rec x σ1 ⟨w, rfl, hw, hS, hF1⟩ ih
  unfold l6_collectParts_3
  have hT1 := hT.sm hS hd
  obtain ⟨_, _, _, _, _, _, _, to⟩ := hT1.obj
  refine (b_getI to rfl).mpr ?_
  rw [nI_add]
  refine b_ite (fun c => ?_) (fun c => ?_)
  · rw [nI_ltI (by omega) (by omega)] at c
    have : w = (wds xs).length + 1 - n := by omega
    subst this
    exact hr_rt.mpr ⟨hS, hF1⟩
  · rw [nI_ltI (by omega) (by omega)] at c
    have hl0 := fl_len (rPar xs ks n) ((wds ks).length + 1) (rPar_len xs ks n) w
    have hl1 : w * ((wds ks).length + 1) ≤ 151 * 151 := Nat.mul_le_mul (by omega) (by omega)
    refine b_hr (P := fun _ σ' => Sm σ σ' qf (qf + 5) ∧ FB σ' qf capf ((List.range w).flatMap (rPar xs ks n) ++ rPar xs ks n w)) ?_ ?_
    · refine hr_loop (fun x σ2 => ∃ p, x = nI p ∧ p ≤ (wds ks).length + 1 - n ∧ Sm σ σ2 qf (qf + 5) ∧ FB σ2 qf capf ((List.range w).flatMap (rPar xs ks n) ++ (List.range p).filterMap (gPar xs ks n w))) (fun x => (wds ks).length + 1 - x.toNatClampNeg) ⟨0, rfl, Nat.zero_le _, hS, by simpa using hF1⟩ (by show (wds ks).length + 1 - _ < _; omega) ?_
      rintro rec2 x σ2 ⟨p, rfl, hp, hS2, hF2⟩ ih2
      unfold l6_collectParts_17
      have hT2 := hT.sm hS2 hd
      have hM2 := hM.sm hS2 hdm
      obtain ⟨_, _, _, _, _, _, _, to2⟩ := hT2.obj
      obtain ⟨_, _, _, _, _, _, _, mo2⟩ := hM2.obj
      refine (b_getI mo2 rfl).mpr ?_
      rw [nI_add]
      refine b_ite (fun c2 => ?_) (fun c2 => ?_)
      · rw [nI_ltI (by omega) (by omega)] at c2
        have : p = (wds ks).length + 1 - n := by omega
        subst this
        exact hr_rt.mpr ⟨hS2, hF2⟩
      · rw [nI_ltI (by omega) (by omega)] at c2
        have hm : (wds ks).length + 1 - (nI p + 1).toNatClampNeg < (wds ks).length + 1 - (nI p).toNatClampNeg := by rw [nI_1, nI_clamp (by omega), nI_clamp (by omega)]; omega
        have skip : gPar xs ks n w p = none → Hr (rec2 (nI p + 1)) σ2 (fun _ σ' => Sm σ σ' qf (qf + 5) ∧ FB σ' qf capf ((List.range w).flatMap (rPar xs ks n) ++ rPar xs ks n w)) := by
          intro hg
          refine ih2 _ _ ⟨p + 1, nI_1 p, by omega, hS2, ?_⟩ hm
          rw [fm_succ, hg]
          simpa using hF2
        refine (b_obj to2).mpr ?_
        refine (b_eq (e6_isAlikeRow hT2 hM2 (by omega) (by omega))).mpr ?_
        refine b_ite (fun c3 => ?_) (fun c3 => ?_)
        · rw [bI_0] at c3
          exact skip (if_neg (by rw [c3]; simp))
        · rw [bI_0, Bool.not_eq_false] at c3
          refine (b_obj mo2).mpr ?_
          refine (b_eq (e6_isPart hM2 (by omega))).mpr ?_
          refine b_ite (fun c4 => ?_) (fun c4 => ?_)
          · rw [bI_0] at c4
            exact skip (if_neg (by rw [c4]; simp))
          · rw [bI_0, Bool.not_eq_false] at c4
            refine (b_obj to2).mpr ?_
            refine (b_eq (e6_place hT2 (w := w) (by omega)).1).mpr ?_
            refine (b_obj to2).mpr ?_
            rw [nI_add, show (1 : Int32) = nI 1 from rfl, nI_subN (by omega)]
            refine (b_eq (e6_place hT2 (w := w + n - 1) (by omega)).2).mpr ?_
            rw [show nI 1 = (1 : Int32) from rfl]
            obtain ⟨_, _, _, _, fo⟩ := hF2.obj
            refine (b_obj fo).mpr ?_
            have hl := fm_len (gPar xs ks n w) p
            refine b_hr (h0_put hF2 (Or.inr ⟨p, by omega, rfl⟩) (by rw [List.length_append]; omega) hc) ?_
            rintro _ σ3 ⟨hS3, hF3⟩
            refine ih2 _ _ ⟨p + 1, nI_1 p, by omega, hS2.tr hS3, ?_⟩ hm
            rw [fm_succ, show gPar xs ks n w p = some _ from if_pos ⟨c3, c4⟩]
            rw [List.append_assoc] at hF3
            exact hF3
    · rintro _ σ2 ⟨hS2, hF2⟩
      refine ih _ _ ⟨w + 1, nI_1 w, by omega, hS2, ?_⟩ ?_
      · rw [fl_succ]; exact hF2
      · rw [nI_1, nI_clamp (by omega), nI_clamp (by omega)]; omega
end COLLECT
