/-! ===== the reference's read: words, numbers ===== -/
theorem ut_len (xs : List Int32) : (ut xs).length = (bts xs).length := by simp [bts, TXT, lowT]
theorem ut_le (xs : List Int32) : (ut xs).length ≤ xs.length := by
  rw [ut_len, bts_len]
  exact TXT_len xs
theorem ut_bts {xs : List Int32} {i : Nat} {x : T3} (h : (ut xs)[i]? = some x) : (bts xs)[i]? = some (sm x.1) := by
  simp [bts, TXT, lowT, h]
theorem ut_TXT {xs : List Int32} {i : Nat} {x : T3} (h : (ut xs)[i]? = some x) : (TXT xs)[i]? = some (sm x.1, x.2) := by
  simp [TXT, lowT, h]
/-- the words' rows of the reference -/
def WM (M : Nat → Nat → Int32) (W : List (Nat × Nat)) : Prop := ∀ w p, W[w]? = some p → M 9 w = nI p.1 ∧ M 10 w = nI (p.2 - 1)
def NM (M : Nat → Nat → Int32) (W : List (Nat × Nat)) : Prop := ∀ w p, W[w]? = some p → M 12 w = nI p.1 ∧ M 13 w = nI p.2
def RD (V : Nat → Int32) (M : Nat → Nat → Int32) (xs : List Int32) : Prop := V 8 = nI (ut xs).length ∧ A3 (M 5) (M 6) (M 7) 0 (ut xs) ∧ V 11 = nI (wds xs).length ∧ WM M (wds xs) ∧ V 14 = nI (nms (bts xs)).length ∧ NM M (nms (bts xs))
theorem wsp_brk {B : List Int32} {k i : Nat} (hk : k < i) (h : ∀ c r, B = c :: r → iw c = false) : wsp k i B = (k, i) :: wsp i i B := by
  match B, h with
  | [], _ => rw [wsp, wsp, if_pos hk, if_neg (by omega)]
  | c :: r, h =>
    have hc := h c r rfl
    simp [wsp, hc, hk]
theorem wsp_skip {c : Int32} {r : List Int32} {i : Nat} (h : iw c = false) : wsp i i (c :: r) = wsp (i + 1) (i + 1) r := by
  rw [wsp, h, if_neg (by simp), if_neg (by omega)]
  rfl
theorem wsp_go {c : Int32} {r : List Int32} {k i : Nat} (h : iw c = true) : wsp k i (c :: r) = wsp k (i + 1) r := by
  rw [wsp, h, if_pos rfl]
theorem WM.snoc {M : Nat → Nat → Int32} {W : List (Nat × Nat)} {a b : Nat → Int32} {p : Nat × Nat} (h : WM M W) (ha : a = upd (M 9) W.length (nI p.1)) (hb : b = upd (M 10) W.length (nI (p.2 - 1))) {M' : Nat → Nat → Int32} (e1 : M' 9 = a) (e2 : M' 10 = b) : WM M' (W ++ [p]) := by
  intro w q hw
  rw [e1, e2, ha, hb]
  by_cases hl : w < W.length
  · rw [List.getElem?_append_left hl] at hw
    simp only [upd, if_neg (show w ≠ W.length by omega)]
    exact h w q hw
  · rw [List.getElem?_append_right (by omega)] at hw
    have hz : w - W.length < 1 := (List.getElem?_eq_some_iff.mp hw).1
    have hk0 : w = W.length := by omega
    subst hk0
    rw [Nat.sub_self] at hw
    cases hw
    simp [upd]
theorem NM.snoc {M : Nat → Nat → Int32} {W : List (Nat × Nat)} {p : Nat × Nat} (h : NM M W) {M' : Nat → Nat → Int32} (e1 : M' 12 = upd (M 12) W.length (nI p.1)) (e2 : M' 13 = upd (M 13) W.length (nI p.2)) : NM M' (W ++ [p]) := by
  intro w q hw
  rw [e1, e2]
  by_cases hl : w < W.length
  · rw [List.getElem?_append_left hl] at hw
    simp only [upd, if_neg (show w ≠ W.length by omega)]
    exact h w q hw
  · rw [List.getElem?_append_right (by omega)] at hw
    have hz : w - W.length < 1 := (List.getElem?_eq_some_iff.mp hw).1
    have hk0 : w = W.length := by omega
    subst hk0
    rw [Nat.sub_self] at hw
    cases hw
    simp [upd]
def pW : Nat → Bool := fun f => decide (f = 9 ∨ f = 10 ∨ f = 11)
def pN : Nat → Bool := fun f => decide (f = 12 ∨ f = 13 ∨ f = 14)
theorem pW_scr : ∀ f, pW f = true → scr f = true := by
  intro f hf
  simp only [pW, scr, decide_eq_true_eq] at hf ⊢
  omega
theorem pN_scr : ∀ f, pN f = true → scr f = true := by
  intro f hf
  simp only [pN, scr, decide_eq_true_eq] at hf ⊢
  omega
section MREAD
variable {X : MX} {V : Nat → Int32} {M : Nat → Nat → Int32} {σ : AH} {xs : List Int32}
theorem h8_wend {k : Nat} (h : MP X V M σ) (h8 : V 8 = nI (ut xs).length) (hA : A3 (M 5) (M 6) (M 7) 0 (ut xs)) (hl : xs.length ≤ 300) (hk : k < (ut xs).length) (hw : ∀ c r, (bts xs).drop k = c :: r → iw c = true) :
    Hr (fx (l8_read_110 (some 31)) FUEL (nI k)) σ (fun y σ' => σ' = σ ∧ ∃ e, y = nI e ∧ k < e ∧ e ≤ (ut xs).length ∧ wsp k k ((bts xs).drop k) = (k, e) :: wsp e e ((bts xs).drop e)) := by
  have hle := ut_le xs
  have hlb := ut_len xs
  refine hr_loop (fun x σ1 => σ1 = σ ∧ ∃ i, x = nI i ∧ k ≤ i ∧ i ≤ (ut xs).length ∧ wsp k k ((bts xs).drop k) = wsp k i ((bts xs).drop i)) (fun x => (ut xs).length - x.toNatClampNeg) ⟨rfl, k, rfl, Nat.le_refl _, by omega, rfl⟩ (by show (ut xs).length - _ < _; omega) ?_
  rintro rec x σ1 ⟨rfl, i, rfl, hki, hin, hU⟩ ih
  unfold l8_read_110
  refine (m_getI h (by decide) rfl).mpr ?_
  rw [h8]
  refine b_ite (fun c => ?_) (fun c => ?_)
  · rw [nI_leI (by omega) (by omega)] at c
    have hd : (bts xs).drop i = [] := List.drop_eq_nil_of_le (by omega)
    refine hr_rt.mpr ⟨rfl, i, rfl, ?_, hin, ?_⟩
    · omega
    · rw [hU]
      exact wsp_brk (by omega) (fun c r e => by rw [hd] at e; cases e)
  · rw [nI_leI (by omega) (by omega)] at c
    obtain ⟨x, hx⟩ : ∃ x, (ut xs)[i]? = some x := ⟨_, List.getElem?_eq_getElem (by omega)⟩
    have hb := ut_bts hx
    have hm := (hA i x hx).1
    rw [Nat.zero_add] at hm
    have hdr : (bts xs).drop i = sm x.1 :: (bts xs).drop (i + 1) := by
      obtain ⟨y, hy⟩ := drop_hd (T := bts xs) (i := i) (by omega)
      have : ((bts xs).drop i)[0]? = some (sm x.1) := by rw [List.getElem?_drop]; exact hb
      rw [hy] at this
      cases this
      exact hy
    refine (m_getR h rfl).mpr ?_
    refine (m_ld (n := 300) h rfl rfl rfl rfl (by omega)).mpr ?_
    rw [hm]
    refine (b_eq (e8_isSign _ _)).mpr ?_
    refine b_ite (fun c2 => ?_) (fun c2 => ?_)
    · rw [bI_0] at c2
      have hne : k ≠ i := by
        intro e
        subst e
        rw [hw _ _ hdr] at c2
        cases c2
      refine hr_rt.mpr ⟨rfl, i, rfl, by omega, hin, ?_⟩
      rw [hU]
      exact wsp_brk (by omega) (fun c r e => by rw [hdr] at e; cases e; exact c2)
    · rw [bI_0, Bool.not_eq_false] at c2
      refine ih _ _ ⟨rfl, i + 1, nI_1 i, by omega, by omega, ?_⟩ ?_
      · rw [hU, hdr, wsp_go c2]
      · rw [nI_1, nI_clamp (by omega), nI_clamp (by omega)]; omega
theorem h8_words (h : MP X V M σ) (h8 : V 8 = nI (ut xs).length) (hA : A3 (M 5) (M 6) (M 7) 0 (ut xs)) (hl : xs.length ≤ 300) (h11 : V 11 = 0) :
    Hr (fx (l8_read_71 (some 31)) FUEL 0) σ (fun _ σ' => ∃ V' M', MP X V' M' σ' ∧ Kx pW V M V' M' ∧ V' 11 = nI (wds xs).length ∧ WM M' (wds xs)) := by
  have hle := ut_le xs
  have hlb := ut_len xs
  have hcw := wds_cnt xs
  refine hr_loop (fun x σ1 => ∃ (i : Nat) (W : List (Nat × Nat)) (V1 : Nat → Int32) (M1 : Nat → Nat → Int32), x = nI i ∧ i ≤ (ut xs).length ∧ MP X V1 M1 σ1 ∧ Kx pW V M V1 M1 ∧ V1 11 = nI W.length ∧ WM M1 W ∧ W ++ wsp i i ((bts xs).drop i) = wds xs) (fun x => (ut xs).length - x.toNatClampNeg) ⟨0, [], V, M, rfl, Nat.zero_le _, h, Kx.rf, h11, fun w p hw => by simp at hw, rfl⟩ (by show (ut xs).length - _ < _; omega) ?_
  rintro rec x σ1 ⟨i, W, V1, M1, rfl, hin, h1, hK, hV, hW, hU⟩ ih
  have k8 : V1 8 = nI (ut xs).length := (hK.1 8 rfl).trans h8
  have kA : A3 (M1 5) (M1 6) (M1 7) 0 (ut xs) := by
    rw [hK.2 5 rfl, hK.2 6 rfl, hK.2 7 rfl]; exact hA
  unfold l8_read_71
  refine (m_getI h1 (by decide) rfl).mpr ?_
  rw [k8]
  refine b_ite (fun c => ?_) (fun c => ?_)
  · rw [nI_leI (by omega) (by omega)] at c
    have hd : (bts xs).drop i = [] := List.drop_eq_nil_of_le (by omega)
    rw [hd, wsp, if_neg (by omega), List.append_nil] at hU
    subst hU
    exact hr_rt.mpr ⟨V1, M1, h1, hK, hV, hW⟩
  · rw [nI_leI (by omega) (by omega)] at c
    obtain ⟨x, hx⟩ : ∃ x, (ut xs)[i]? = some x := ⟨_, List.getElem?_eq_getElem (by omega)⟩
    have hb := ut_bts hx
    have hm := (kA i x hx).1
    rw [Nat.zero_add] at hm
    have hdr : (bts xs).drop i = sm x.1 :: (bts xs).drop (i + 1) := by
      obtain ⟨y, hy⟩ := drop_hd (T := bts xs) (i := i) (by omega)
      have : ((bts xs).drop i)[0]? = some (sm x.1) := by rw [List.getElem?_drop]; exact hb
      rw [hy] at this
      cases this
      exact hy
    refine (m_getR h1 rfl).mpr ?_
    refine (m_ld (n := 300) h1 rfl rfl rfl rfl (by omega)).mpr ?_
    rw [hm]
    refine (b_eq (e8_isSign _ _)).mpr ?_
    refine b_ite (fun c2 => ?_) (fun c2 => ?_)
    · rw [bI_0] at c2
      refine ih _ _ ⟨i + 1, W, V1, M1, nI_1 i, by omega, h1, hK, hV, hW, ?_⟩ ?_
      · rw [← hU, hdr, wsp_skip c2]
      · rw [nI_1, nI_clamp (by omega), nI_clamp (by omega)]; omega
    · rw [bI_0, Bool.not_eq_false] at c2
      have hWl : W.length < (wds xs).length := by
        rw [← hU, List.length_append]
        have : 0 < (wsp i i ((bts xs).drop i)).length := by
          rw [hdr, wsp_go c2]
          clear hU hdr
          generalize (bts xs).drop (i + 1) = R
          have : ∀ (R : List Int32) (s j : Nat), s < j → 0 < (wsp s j R).length := by
            intro R
            induction R with
            | nil => intro s j hj; rw [wsp, if_pos hj]; simp
            | cons c r ihr =>
              intro s j hj
              rw [wsp]
              split
              · exact ihr s (j + 1) (by omega)
              · simp
          exact this R i (i + 1) (by omega)
        omega
      refine (m_getR h1 rfl).mpr ?_
      refine (m_getI h1 (by decide) rfl).mpr ?_
      refine m_st (n := 300) h1 rfl rfl rfl hV (by omega) fun σ2 h2 => ?_
      refine b_hr (h8_wend (xs := xs) (k := i) h2 k8 kA hl (by omega) (fun c r e => by rw [hdr] at e; cases e; exact c2)) ?_
      rintro y σ3 ⟨rfl, e, rfl, hie, hen, hws⟩
      refine (m_getR h2 rfl).mpr ?_
      refine (m_getI h2 (by decide) rfl).mpr ?_
      refine m_st (n := 300) h2 rfl rfl rfl hV (by omega) fun σ4 h4 => ?_
      refine (m_getI h4 (by decide) rfl).mpr ?_
      refine m_putI h4 (by decide) rfl fun σ5 h5 => ?_
      refine ih _ _ ⟨e, W ++ [(i, e)], _, _, rfl, hen, h5, ((hK.m rfl).m rfl).v rfl, ?_, ?_, ?_⟩ ?_
      · show upd V1 11 (V1 11 + 1) 11 = _
        rw [hV, nI_1]
        simp [upd]
      · refine hW.snoc (p := (i, e)) rfl rfl ?_ ?_
        · rfl
        · show upd (M1 10) W.length (nI e - 1) = _
          rw [show (1 : Int32) = nI 1 from rfl, nI_subN (by omega)]
      · rw [← hU, hws, List.append_assoc, List.singleton_append]
      · rw [nI_clamp (by omega), nI_clamp (by omega)]; omega
end MREAD
