/-! ===== the check of a number; the numbers of a text ===== -/
/-- one digit more, from the last on: how many there were, what they make -/
def lst (a : Int32 × Int32) (c : Int32) : Int32 × Int32 := if dg c = true then (a.1 + 1, a.2 + (if jrem a.1 2 = 0 then (c - 48) else if 2 * (c - 48) ≤ 9 then 2 * (c - 48) else 2 * (c - 48) - 9)) else a
/-- the k bytes up to e -/
def luK (B : List Int32) (e : Nat) : Nat → Int32 × Int32
  | 0 => (0, 0)
  | k + 1 => lst (luK B e k) (B.getD (e - k) 0)
def numv (B : List Int32) (s e : Nat) : Bool := decide ((8 ≤ (luK B e (e + 1 - s)).1 ∧ (luK B e (e + 1 - s)).1 ≤ 16) ∧ jrem (luK B e (e + 1 - s)).2 10 = 0)
/-- the numbers from k on, in n steps: first and last byte -/
def nmsF (B : List Int32) : Nat → Nat → List (Nat × Nat)
  | 0, _ => []
  | n + 1, k => if dAt B k = true then (if numv B k (eod B k) = true then [(k, eod B k)] else []) ++ nmsF B n (eod B k + 1) else nmsF B n (k + 1)
theorem nmsF_end (B : List Int32) : ∀ (n k : Nat), B.length ≤ k → nmsF B n k = [] := by
  intro n
  induction n with
  | zero => intro k _; rfl
  | succ n ih =>
    intro k h
    rw [nmsF, dAt_out h]
    exact ih (k + 1) (by omega)
theorem nmsF_more (B : List Int32) : ∀ (n k : Nat), B.length ≤ n + k → nmsF B (n + 1) k = nmsF B n k := by
  intro n
  induction n with
  | zero => intro k h; exact nmsF_end B 1 k (by omega)
  | succ n ih =>
    intro k h
    rw [nmsF]
    conv => rhs; rw [nmsF]
    by_cases hd : dAt B k = true
    · rw [if_pos hd, if_pos hd]
      have := eod_ge (dAt_lt hd)
      rw [ih (eod B k + 1) (by omega)]
    · rw [if_neg hd, if_neg hd]
      exact ih (k + 1) (by omega)
def nmsAt (B : List Int32) (k : Nat) : List (Nat × Nat) := nmsF B B.length k
def nms (B : List Int32) : List (Nat × Nat) := nmsAt B 0
theorem nms_out {B : List Int32} {k : Nat} (h : B.length ≤ k) : nmsAt B k = [] := nmsF_end B _ k h
theorem nms_no {B : List Int32} {k : Nat} (h : k < B.length) (hd : dAt B k = false) : nmsAt B k = nmsAt B (k + 1) := by
  unfold nmsAt
  obtain ⟨n, hn⟩ : ∃ n, B.length = n + 1 := ⟨B.length - 1, by omega⟩
  rw [hn, nmsF, hd]
  exact (nmsF_more B n (k + 1) (by omega)).symm
theorem nms_yes {B : List Int32} {k : Nat} (hd : dAt B k = true) : nmsAt B k = (if numv B k (eod B k) = true then [(k, eod B k)] else []) ++ nmsAt B (eod B k + 1) := by
  have h := dAt_lt hd
  have he := eod_ge h
  unfold nmsAt
  obtain ⟨n, hn⟩ : ∃ n, B.length = n + 1 := ⟨B.length - 1, by omega⟩
  rw [hn, nmsF, if_pos hd, nmsF_more B n (eod B k + 1) (by omega)]
theorem nmsF_len (B : List Int32) : ∀ (n k : Nat), (nmsF B n k).length ≤ n := by
  intro n
  induction n with
  | zero => intro k; simp [nmsF]
  | succ n ih =>
    intro k
    rw [nmsF]
    split
    · rw [List.length_append]
      have := ih (eod B k + 1)
      split <;> simp only [List.length_cons, List.length_nil] <;> omega
    · have := ih (k + 1)
      omega
theorem dg_val {c : Int32} (h : dg c = true) : (c - 48).toInt = c.toInt - 48 ∧ 48 ≤ c.toInt ∧ c.toInt ≤ 57 := by
  simp only [dg, decide_eq_true_eq] at h
  have h' : 48 ≤ c.toInt ∧ c.toInt ≤ 57 := ⟨(i32_le _ _).mp h.1, (i32_le _ _).mp h.2⟩
  have e48 : (48 : Int32).toInt = 48 := rfl
  exact ⟨by rw [tI_sub (by omega) (by omega), e48], h'⟩
theorem dg_le9 {c : Int32} (h : dg c = true) : c - 48 ≤ 9 := by
  have := dg_val h
  rw [i32_le]
  show (c - 48).toInt ≤ 9
  omega
section NUMS
variable {σ : AH} {q cap qf capf : Nat} {xs : List Int32}
theorem e6_isNumber (hT : CTx σ q cap xs) {st en : Nat} (hs : st ≤ en) (hen : en < (bts xs).length) : f6_isNumber (some q) (nI st) (nI en) σ = some (bI (numv (bts xs) st en), σ) := by
  have hlen := hT.len
  have hTl := TXT_len xs
  have hbl := bts_len xs
  obtain ⟨b, f, l, s, e, h, ⟨h0, h1, h2, h3, h4, h5, h6⟩, hA, hW, hx, hc⟩ := hT
  have hB : B3 b (bts xs) := fun k c hk => hA.byte hk
  have key : Hr (f6_isNumber (some q) (nI st) (nI en)) σ (fun r σ' => r = bI (numv (bts xs) st en) ∧ σ' = σ) := by
    unfold f6_isNumber
    refine b_hr (P := fun y σ' => y = luK (bts xs) en (en + 1 - st) ∧ σ' = σ) ?_ ?_
    · refine hr_loop (fun x σ1 => σ1 = σ ∧ ∃ m, st ≤ m ∧ m ≤ en + 1 ∧ x = ((luK (bts xs) en (en + 1 - m)).1, (luK (bts xs) en (en + 1 - m)).2, nI m - 1)) (fun x => (x.2.2 + 1).toNatClampNeg) ⟨rfl, en + 1, by omega, Nat.le_refl _, by rw [Nat.sub_self]; show _ = ((0 : Int32), (0 : Int32), nI (en + 1) - 1); rw [nI_pred]⟩ (by show (nI en + 1).toNatClampNeg < _; rw [nI_1, nI_clamp (by omega)]; omega) ?_
      rintro rec x σ1 ⟨rfl, m, hm1, hm2, rfl⟩ ih
      unfold l6_isNumber_8
      dsimp only
      have back : nI m - 1 + 1 = nI m := Int32.sub_add_cancel _ _
      refine b_ite (fun c => ?_) (fun c => ?_)
      · have : m = st := by
          rcases Nat.lt_or_ge st m with hlt | hge
          · exfalso
            obtain ⟨j, rfl⟩ : ∃ j, m = j + 1 := ⟨m - 1, by omega⟩
            rw [nI_pred, nI_ltI (by omega) (by omega)] at c
            omega
          · omega
        subst this
        exact hr_rt.mpr ⟨rfl, rfl⟩
      · obtain ⟨j, rfl⟩ : ∃ j, m = j + 1 := by
          rcases Nat.eq_zero_or_pos m with rfl | hp
          · exfalso
            apply c
            have : st = 0 := by omega
            subst this
            decide
          · exact ⟨m - 1, by omega⟩
        rw [nI_pred] at c ⊢
        rw [nI_ltI (by omega) (by omega)] at c
        have hj : j ≤ en := by omega
        have hsucc : luK (bts xs) en (en + 1 - j) = lst (luK (bts xs) en (en + 1 - (j + 1))) (b j) := by
          rw [show en + 1 - j = (en + 1 - (j + 1)) + 1 by omega, luK]
          congr 1
          rw [show en - (en + 1 - (j + 1)) = j by omega, List.getD_eq_getElem?_getD, List.getElem?_eq_getElem (show j < (bts xs).length by omega)]
          exact (hB j _ (List.getElem?_eq_getElem (by omega))).symm
        have go : ∀ (u v : Int32), lst (luK (bts xs) en (en + 1 - (j + 1))) (b j) = (u, v) → Hr (rec (u, v, nI j + (-1))) σ1 (fun y σ' => y = luK (bts xs) en (en + 1 - st) ∧ σ' = σ1) := by
          intro u v huv
          refine ih _ _ ⟨rfl, j, by omega, by omega, ?_⟩ ?_
          · rw [hsucc, huv]
            rw [Int32.sub_eq_add_neg]
          · show (nI j + (-1) + 1).toNatClampNeg < (nI (j + 1) - 1 + 1).toNatClampNeg
            rw [← Int32.sub_eq_add_neg, Int32.sub_add_cancel, Int32.sub_add_cancel, nI_clamp (by omega), nI_clamp (by omega)]
            omega
        refine (b_getR h0 rfl).mpr ?_
        refine (b_ld h1 rfl (by omega) (by omega)).mpr ?_
        refine (b_eq (e6_isDigit _ σ1)).mpr ?_
        refine b_ite (fun c2 => ?_) (fun c2 => ?_)
        · rw [bI_0] at c2
          exact go _ _ (by unfold lst; rw [if_neg (by rw [c2]; decide)])
        · rw [bI_0, Bool.not_eq_false] at c2
          refine (b_getR h0 rfl).mpr ?_
          refine (b_ld h1 rfl (by omega) (by omega)).mpr ?_
          by_cases c3 : jrem (luK (bts xs) en (en + 1 - (j + 1))).1 2 = 0
          · rw [if_pos c3, bn_rt, if_pos (dg_le9 c2)]
            exact go _ _ (by unfold lst; rw [if_pos c2, if_pos c3])
          · rw [if_neg c3, bn_rt]
            refine b_ite (fun c4 => ?_) (fun c4 => ?_)
            · exact go _ _ (by unfold lst; rw [if_pos c2, if_neg c3, if_pos c4])
            · exact go _ _ (by unfold lst; rw [if_pos c2, if_neg c3, if_neg c4])
    · rintro y σ' ⟨rfl, rfl⟩
      refine (b_eq (e7_within _ _ _ _)).mpr ?_
      refine b_ite (fun c => ?_) (fun c => ?_)
      · rw [bI_0, decide_eq_false_iff_not] at c
        refine hr_rt.mpr ⟨?_, rfl⟩
        simp only [numv, c, false_and, decide_false]
        rfl
      · rw [bI_0, Bool.not_eq_false, decide_eq_true_eq] at c
        refine b_ite (fun c2 => ?_) (fun c2 => ?_)
        · refine hr_rt.mpr ⟨?_, rfl⟩
          simp only [numv, c, c2, and_self, decide_true]
          rfl
        · refine hr_rt.mpr ⟨?_, rfl⟩
          simp only [numv, c2, and_false, decide_false]
          rfl
  obtain ⟨r, σ', e1, rfl, rfl⟩ := key
  exact e1
/-- the places of a number -/
def pNum (xs : List Int32) (p : Nat × Nat) : T3 := (((TXT xs).getD p.1 (0, 0, 0)).2.1, ((TXT xs).getD p.2 (0, 0, 0)).2.2, -1)
def fNum (xs : List Int32) : List T3 := (nms (bts xs)).map (pNum xs)
theorem h6_collectNumbers (hT : CTx σ q cap xs) (hF : FB σ qf capf []) (hd : q + 7 ≤ qf ∨ qf + 5 ≤ q) (hc : capf < 2 ^ 30) :
    Hr (f6_collectNumbers (some q) (some qf)) σ (fun _ σ' => Sm σ σ' qf (qf + 5) ∧ FB σ' qf capf (fNum xs)) := by
  have hlen := hT.len
  have hTl := TXT_len xs
  have hbl := bts_len xs
  unfold f6_collectNumbers
  refine b_hr (P := fun _ σ' => Sm σ σ' qf (qf + 5) ∧ FB σ' qf capf (fNum xs)) ?_ (fun _ _ hq => hr_rt.mpr hq)
  have hnl : (nms (bts xs)).length ≤ 300 := Nat.le_trans (nmsF_len _ _ _) (by omega)
  refine hr_loop (fun x σ1 => ∃ (en i : Nat) (N : List (Nat × Nat)), x = (nI en - 1, nI i) ∧ i ≤ (bts xs).length ∧ en ≤ (bts xs).length ∧ Sm σ σ1 qf (qf + 5) ∧ FB σ1 qf capf (N.map (pNum xs)) ∧ N ++ nmsAt (bts xs) (max i en) = nms (bts xs)) (fun x => 1000 - x.2.toNatClampNeg) ⟨0, 0, [], rfl, Nat.zero_le _, Nat.zero_le _, Sm.rf, hF, rfl⟩ (by show 1000 - _ < _; omega) ?_
  rintro rec x σ1 ⟨en, i, N, rfl, hi, hen, hS, hF1, hU⟩ ih
  unfold l6_collectNumbers_4
  dsimp only
  have hT1 := hT.sm hS hd
  have hT1' := hT1
  obtain ⟨b, f, l, s, e, h, ⟨h0, h1, h2, h3, h4, h5, h6⟩, hA, hW, hx, hcc⟩ := hT1'
  rw [← hbl] at h0
  have hB : B3 b (bts xs) := fun k c hk => hA.byte hk
  have hm : i < 999 → 1000 - (nI i + 1).toNatClampNeg < 1000 - (nI i).toNatClampNeg := fun hi => by rw [nI_1, nI_clamp (by omega), nI_clamp (by omega)]; omega
  refine (b_getI h0 rfl).mpr ?_
  refine b_ite (fun c => ?_) (fun c => ?_)
  · rw [nI_leI (by omega) (by omega)] at c
    rw [nms_out (by omega), List.append_nil] at hU
    refine hr_rt.mpr ⟨hS, ?_⟩
    unfold fNum
    rw [← hU]
    exact hF1
  · rw [nI_leI (by omega) (by omega)] at c
    have cmp : nI i ≤ nI en - 1 ↔ i < en := by
      cases en with
      | zero =>
        constructor
        · intro hq
          rw [i32_le, nI_toInt (by omega)] at hq
          have : (nI 0 - 1).toInt = -1 := by decide
          omega
        · intro hq; omega
      | succ en =>
        rw [nI_pred, nI_leI (by omega) (by omega)]
        omega
    refine b_ite (fun c2 => ?_) (fun c2 => ?_)
    · rw [cmp] at c2
      refine ih _ _ ⟨en, i + 1, N, by rw [nI_1], by omega, hen, hS, hF1, ?_⟩ (hm (by omega))
      rw [show max (i + 1) en = max i en by omega]
      exact hU
    · rw [cmp] at c2
      rw [show max i en = i by omega] at hU
      refine (b_getR h0 rfl).mpr ?_
      refine (b_ld h1 rfl (by omega) (by omega)).mpr ?_
      refine (b_eq (e6_isDigit _ σ1)).mpr ?_
      have hdd := dAt_b hB (i := i) (by omega)
      refine b_ite (fun c3 => ?_) (fun c3 => ?_)
      · rw [bI_0] at c3
        rw [c3] at hdd
        refine ih _ _ ⟨en, i + 1, N, by rw [nI_1], by omega, hen, hS, hF1, ?_⟩ (hm (by omega))
        rw [show max (i + 1) en = i + 1 by omega, ← nms_no (by omega) hdd]
        exact hU
      · rw [bI_0, Bool.not_eq_false] at c3
        rw [c3] at hdd
        have hge := eod_ge (B := bts xs) (e := i) (by omega)
        rw [nms_yes hdd] at hU
        refine (b_obj h0).mpr ?_
        refine (b_eq (e6_endOfDigits hT1 (by omega))).mpr ?_
        refine (b_obj h0).mpr ?_
        refine (b_eq (e6_isNumber hT1 hge.1 hge.2)).mpr ?_
        refine b_ite (fun c4 => ?_) (fun c4 => ?_)
        · rw [bI_0] at c4
          rw [if_neg (by rw [c4]; decide), List.nil_append] at hU
          refine ih _ _ ⟨eod (bts xs) i + 1, i + 1, N, by rw [nI_1, nI_pred], by omega, by omega, hS, hF1, ?_⟩ (hm (by omega))
          rw [show max (i + 1) (eod (bts xs) i + 1) = eod (bts xs) i + 1 by omega]
          exact hU
        · rw [bI_0, Bool.not_eq_false] at c4
          rw [if_pos c4] at hU
          refine (b_getR h0 rfl).mpr ?_
          refine (b_ld h2 rfl (by omega) (by omega)).mpr ?_
          refine (b_getR h0 rfl).mpr ?_
          refine (b_ld h3 rfl (by omega) (by omega)).mpr ?_
          obtain ⟨_, _, _, _, fo⟩ := hF1.obj
          refine (b_obj fo).mpr ?_
          have hNl : N.length < 301 := by
            have := congrArg List.length hU
            simp only [List.length_append, List.length_cons] at this
            omega
          refine b_hr (h0_put hF1 (Or.inl rfl) (by rw [List.length_map]; omega) hc) ?_
          rintro _ σ2 ⟨hS2, hF2⟩
          refine ih _ _ ⟨eod (bts xs) i + 1, i + 1, N ++ [(i, eod (bts xs) i)], by rw [nI_1, nI_pred], by omega, by omega, hS.tr hS2, ?_, ?_⟩ (hm (by omega))
          · rw [List.map_append]
            have e1 : f i = ((TXT xs).getD i (0, 0, 0)).2.1 := by
              have hlt : i < (TXT xs).length := by omega
              have := (hA i _ (List.getElem?_eq_getElem hlt)).2.1
              rw [Nat.zero_add] at this
              rw [this, List.getD_eq_getElem?_getD, List.getElem?_eq_getElem hlt]
              rfl
            have e2 : l (eod (bts xs) i) = ((TXT xs).getD (eod (bts xs) i) (0, 0, 0)).2.2 := by
              have hlt : eod (bts xs) i < (TXT xs).length := by omega
              have := (hA _ _ (List.getElem?_eq_getElem hlt)).2.2
              rw [Nat.zero_add] at this
              rw [this, List.getD_eq_getElem?_getD, List.getElem?_eq_getElem hlt]
              rfl
            rw [e1, e2] at hF2
            exact hF2
          · rw [show max (i + 1) (eod (bts xs) i + 1) = eod (bts xs) i + 1 by omega, List.append_assoc]
            exact hU
end NUMS
