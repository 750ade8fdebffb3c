/-! ===== the reference's read: numbers, all of it ===== -/
theorem hr_det {α : Type} {m : Cm α} {σ : AH} {v : α} (key : Hr m σ (fun r σ' => r = v ∧ σ' = σ)) : m σ = some (v, σ) := by
  obtain ⟨r, σ', e1, rfl, rfl⟩ := key
  exact e1
theorem sm_dg {c : Int32} (h : dg c = true) : sm c = c := by
  unfold sm
  rw [if_neg]
  intro hq
  have h1 := (dg_val h).2
  have h2 : (65 : Int32).toInt ≤ c.toInt := (i32_le _ _).mp hq.1
  have e : (65 : Int32).toInt = 65 := rfl
  omega
theorem sm_sep (c : Int32) : (sm c = 32 ∨ sm c = 45) ↔ (c = 32 ∨ c = 45) := by
  rw [i32_eq, i32_eq, i32_eq, i32_eq, sm_toInt]
  have e1 : (32 : Int32).toInt = 32 := rfl
  have e2 : (45 : Int32).toInt = 45 := rfl
  rw [e1, e2]
  split <;> omega
theorem luK_nat (B : List Int32) (e : Nat) : ∀ k, ∃ m, m ≤ k ∧ (luK B e k).1 = nI m := by
  intro k
  induction k with
  | zero => exact ⟨0, Nat.le_refl _, rfl⟩
  | succ k ih =>
    obtain ⟨m, hm, he⟩ := ih
    rw [luK]
    unfold lst
    by_cases hd : dg (B.getD (e - k) 0) = true
    · rw [if_pos hd]
      exact ⟨m + 1, by omega, by rw [he]; exact nI_1 m⟩
    · rw [if_neg hd]
      exact ⟨m, by omega, he⟩
theorem jrem2 {m : Nat} (h : m < 2 ^ 31) : jrem (nI m) 2 = nI (m % 2) := pk_rem (d := 2) h (by decide) (by decide)
theorem jrem_1 {m : Nat} (h : m < 2 ^ 31) : jrem (nI m) 2 = 1 ↔ ¬ jrem (nI m) 2 = 0 := by
  rw [jrem2 h, show (1 : Int32) = nI 1 from rfl, show (0 : Int32) = nI 0 from rfl, nI_eq (by omega) (by omega), nI_eq (by omega) (by omega)]
  omega
section MNUM
variable {X : MX} {V : Nat → Int32} {M : Nat → Nat → Int32} {σ : AH} {xs : List Int32}
theorem dAt_u {p : Nat} {x : T3} (h : (ut xs)[p]? = some x) : dAt (bts xs) p = dg x.1 := by
  unfold dAt
  rw [ut_bts h]
  exact dg_sm _
theorem sAt_u {p : Nat} {x : T3} (h : (ut xs)[p]? = some x) : sAt (bts xs) p = decide (x.1 = 32 ∨ x.1 = 45) := by
  unfold sAt
  rw [ut_bts h]
  simp only [sm_sep]
theorem e8_isDigitAt {p : Nat} (h : MP X V M σ) (h8 : V 8 = nI (ut xs).length) (hA : A3 (M 5) (M 6) (M 7) 0 (ut xs)) (hl : xs.length ≤ 300) (hp : p < 2 ^ 30) : f8_isDigitAt (some 31) (nI p) σ = some (bI (dAt (bts xs) p), σ) := by
  have hle := ut_le xs
  have hlb := ut_len xs
  refine hr_det ?_
  unfold f8_isDigitAt
  refine (m_getI h (by decide) rfl).mpr ?_
  rw [h8]
  refine b_ite (fun c => ?_) (fun c => ?_)
  · rw [nI_leI (by omega) (by omega)] at c
    exact hr_rt.mpr ⟨by rw [dAt_out (by omega)]; rfl, rfl⟩
  · rw [nI_leI (by omega) (by omega)] at c
    obtain ⟨x, hx⟩ : ∃ x, (ut xs)[p]? = some x := ⟨_, List.getElem?_eq_getElem (by omega)⟩
    have hm := (hA p x hx).1
    rw [Nat.zero_add] at hm
    refine (m_getR h rfl).mpr ?_
    refine (m_ld (n := 300) h rfl rfl rfl rfl (by omega)).mpr ?_
    rw [hm, dAt_u hx]
    refine (b_eq (e8_isDigit _ _)).mpr ?_
    cases dg x.1
    · rw [if_pos (show bI false = 0 from rfl)]; exact hr_rt.mpr ⟨rfl, rfl⟩
    · rw [if_neg (show ¬ bI true = 0 by decide)]; exact hr_rt.mpr ⟨rfl, rfl⟩
theorem e8_isNumber {st en : Nat} (h : MP X V M σ) (hA : A3 (M 5) (M 6) (M 7) 0 (ut xs)) (hl : xs.length ≤ 300) (hs : st ≤ en) (hen : en < (bts xs).length) : f8_isNumber (some 31) (nI st) (nI en) σ = some (bI (numv (bts xs) st en), σ) := by
  have hle := ut_le xs
  have hlb := ut_len xs
  refine hr_det ?_
  unfold f8_isNumber
  refine b_hr (P := fun y σ' => y = luK (bts xs) en (en + 1 - st) ∧ σ' = σ) ?_ ?_
  · refine hr_loop (fun x σ1 => σ1 = σ ∧ ∃ m, st ≤ m ∧ m ≤ en + 1 ∧ x = ((luK (bts xs) en (en + 1 - m)).1, (luK (bts xs) en (en + 1 - m)).2, nI m - 1)) (fun x => (x.2.2 + 1).toNatClampNeg) ⟨rfl, en + 1, by omega, Nat.le_refl _, by rw [Nat.sub_self]; show _ = ((0 : Int32), (0 : Int32), nI (en + 1) - 1); rw [nI_pred]⟩ (by show (nI en + 1).toNatClampNeg < _; rw [nI_1, nI_clamp (by omega)]; omega) ?_
    rintro rec x σ1 ⟨rfl, m, hm1, hm2, rfl⟩ ih
    unfold l8_isNumber_8
    dsimp only
    refine b_ite (fun c => ?_) (fun c => ?_)
    · have : m = st := by
        rcases Nat.lt_or_ge st m with hlt | hge
        · exfalso
          obtain ⟨j, rfl⟩ : ∃ j, m = j + 1 := ⟨m - 1, by omega⟩
          rw [nI_pred, nI_ltI (by omega) (by omega)] at c
          omega
        · omega
      subst this
      exact hr_rt.mpr ⟨rfl, rfl⟩
    · obtain ⟨j, rfl⟩ : ∃ j, m = j + 1 := by
        rcases Nat.eq_zero_or_pos m with rfl | hp
        · exfalso
          apply c
          have : st = 0 := by omega
          subst this
          decide
        · exact ⟨m - 1, by omega⟩
      rw [nI_pred] at c ⊢
      rw [nI_ltI (by omega) (by omega)] at c
      have hj : j ≤ en := by omega
      obtain ⟨x, hx⟩ : ∃ x, (ut xs)[j]? = some x := ⟨_, List.getElem?_eq_getElem (by omega)⟩
      have hm := (hA j x hx).1
      rw [Nat.zero_add] at hm
      have hsucc : luK (bts xs) en (en + 1 - j) = lst (luK (bts xs) en (en + 1 - (j + 1))) (sm x.1) := by
        rw [show en + 1 - j = (en + 1 - (j + 1)) + 1 by omega, luK]
        congr 1
        rw [show en - (en + 1 - (j + 1)) = j by omega, List.getD_eq_getElem?_getD, ut_bts hx]
        rfl
      have go : ∀ (u v : Int32), lst (luK (bts xs) en (en + 1 - (j + 1))) (sm x.1) = (u, v) → Hr (rec (u, v, nI j + (-1))) σ1 (fun y σ' => y = luK (bts xs) en (en + 1 - st) ∧ σ' = σ1) := by
        intro u v huv
        refine ih _ _ ⟨rfl, j, by omega, by omega, ?_⟩ ?_
        · rw [hsucc, huv]
          rw [Int32.sub_eq_add_neg]
        · show (nI j + (-1) + 1).toNatClampNeg < (nI (j + 1) - 1 + 1).toNatClampNeg
          rw [← Int32.sub_eq_add_neg, Int32.sub_add_cancel, Int32.sub_add_cancel, nI_clamp (by omega), nI_clamp (by omega)]
          omega
      refine (m_getR h rfl).mpr ?_
      refine (m_ld (n := 300) h rfl rfl rfl rfl (by omega)).mpr ?_
      rw [hm]
      refine (b_eq (e8_isDigit _ _)).mpr ?_
      refine b_ite (fun c2 => ?_) (fun c2 => ?_)
      · rw [bI_0] at c2
        exact go _ _ (by unfold lst; rw [if_neg (by rw [dg_sm, c2]; decide)])
      · rw [bI_0, Bool.not_eq_false] at c2
        have es := sm_dg c2
        have c2' : dg (sm x.1) = true := by rw [es]; exact c2
        refine (m_getR h rfl).mpr ?_
        refine (m_ld (n := 300) h rfl rfl rfl rfl (by omega)).mpr ?_
        rw [hm]
        obtain ⟨mm, hmm, hmn⟩ := luK_nat (bts xs) en (en + 1 - (j + 1))
        have hj1 := jrem_1 (m := mm) (by omega)
        rw [← hmn] at hj1
        refine b_ite (fun c3 => ?_) (fun c3 => ?_)
        · have c3 := hj1.mp c3
          refine b_ite (fun c4 => ?_) (fun c4 => ?_)
          · exact go _ _ (by unfold lst; rw [if_pos c2', if_neg c3, es, if_pos c4])
          · exact go _ _ (by unfold lst; rw [if_pos c2', if_neg c3, es, if_neg c4])
        · have c3 : jrem (luK (bts xs) en (en + 1 - (j + 1))).1 2 = 0 := Classical.byContradiction fun q => c3 (hj1.mpr q)
          exact go _ _ (by unfold lst; rw [if_pos c2', if_pos c3, es])
  · rintro y σ' ⟨rfl, rfl⟩
    refine b_ite (fun c => ?_) (fun c => ?_)
    · refine hr_rt.mpr ⟨?_, rfl⟩
      simp only [numv, nle.mpr c, false_and, decide_false]
      rfl
    · refine b_ite (fun c1 => ?_) (fun c1 => ?_)
      · refine hr_rt.mpr ⟨?_, rfl⟩
        simp only [numv, nle.mpr c1, and_false, false_and, decide_false]
        rfl
      · refine b_ite (fun c2 => ?_) (fun c2 => ?_)
        · refine hr_rt.mpr ⟨?_, rfl⟩
          simp only [numv, nlt.mp c, nlt.mp c1, c2, and_self, decide_true]
          rfl
        · refine hr_rt.mpr ⟨?_, rfl⟩
          simp only [numv, c2, and_false, decide_false]
          rfl
theorem h8_eod {k : Nat} (h : MP X V M σ) (h8 : V 8 = nI (ut xs).length) (hA : A3 (M 5) (M 6) (M 7) 0 (ut xs)) (hl : xs.length ≤ 300) (hk : k < (bts xs).length) :
    Hr (fx (l8_readNumbers_36 (some 31) (nI k)) FUEL (nI k, 1)) σ (fun y σ' => y = nI (eod (bts xs) k) ∧ σ' = σ) := by
  have hle := ut_le xs
  have hlb := ut_len xs
  refine hr_loop (fun x σ1 => σ1 = σ ∧ ∃ e, e < (bts xs).length ∧ ((x = (nI e, 1) ∧ eod (bts xs) e = eod (bts xs) k) ∨ (x = (nI e, 0) ∧ e = eod (bts xs) k))) (fun x => 2 * (1000 - x.1.toNatClampNeg) + x.2.toNatClampNeg) ⟨rfl, k, hk, Or.inl ⟨rfl, rfl⟩⟩ (by show 2 * (1000 - _) + (1 : Int32).toNatClampNeg < _; rw [show (1 : Int32).toNatClampNeg = 1 by decide]; omega) ?_
  rintro rec x σ1 ⟨rfl, e, he, ⟨rfl, hE⟩ | ⟨rfl, hE⟩⟩ ih
  · unfold l8_readNumbers_36
    dsimp only
    rw [if_neg (by decide)]
    have one : (1 : Int32).toNatClampNeg = 1 := by decide
    have zer : (0 : Int32).toNatClampNeg = 0 := by decide
    have stop : nxt (bts xs) e = none → Hr (rec (nI e, 0)) σ1 (fun y σ' => y = nI (eod (bts xs) k) ∧ σ' = σ1) := by
      intro hn
      refine ih _ _ ⟨rfl, e, he, Or.inr ⟨rfl, ?_⟩⟩ ?_
      · rw [← hE, eod_none hn]
      · show 2 * (1000 - (nI e).toNatClampNeg) + (0 : Int32).toNatClampNeg < 2 * (1000 - (nI e).toNatClampNeg) + (1 : Int32).toNatClampNeg
        rw [one, zer]; omega
    have goon : ∀ e', nxt (bts xs) e = some e' → Hr (rec (nI e', 1)) σ1 (fun y σ' => y = nI (eod (bts xs) k) ∧ σ' = σ1) := by
      intro e' hn
      have hlt := nxt_lt hn
      refine ih _ _ ⟨rfl, e', hlt.2, Or.inl ⟨rfl, ?_⟩⟩ ?_
      · rw [← hE, ← eod_some hn]
      · show 2 * (1000 - (nI e').toNatClampNeg) + (1 : Int32).toNatClampNeg < 2 * (1000 - (nI e).toNatClampNeg) + (1 : Int32).toNatClampNeg
        rw [nI_clamp (by omega), nI_clamp (by omega)]; omega
    refine (m_obj h).mpr ?_
    rw [nI_1, show nI e + 2 = nI (e + 2) from nI_add e 2]
    refine (b_eq (e8_isDigitAt h h8 hA hl (by omega))).mpr ?_
    refine b_ite (fun c => ?_) (fun c => ?_)
    · rw [bI_0] at c
      refine (m_getI h (by decide) rfl).mpr ?_
      rw [h8]
      refine b_ite (fun c2 => ?_) (fun c2 => ?_)
      · rw [nI_leI (by omega) (by omega)] at c2
        exact stop (by simp [nxt, c, sAt_out (B := bts xs) (i := e + 1) (by omega)])
      · rw [nI_leI (by omega) (by omega)] at c2
        obtain ⟨x, hx⟩ : ∃ x, (ut xs)[e + 1]? = some x := ⟨_, List.getElem?_eq_getElem (by omega)⟩
        have hm := (hA _ x hx).1
        rw [Nat.zero_add] at hm
        have hs := sAt_u hx
        have sep : (x.1 = 32 ∨ x.1 = 45) → Hr (bn (oObj (some 31) 8) fun _ => bn (f8_isDigitAt (some 31) (nI (e + 2))) fun v97 => if v97 = 0 then rec (nI e, 0) else rec (nI (e + 2), 1)) σ1 (fun y σ' => y = nI (eod (bts xs) k) ∧ σ' = σ1) := by
          intro hsep
          refine (m_obj h).mpr ?_
          refine (b_eq (e8_isDigitAt h h8 hA hl (by omega))).mpr ?_
          refine b_ite (fun c5 => ?_) (fun c5 => ?_)
          · rw [bI_0] at c5
            exact stop (by simp [nxt, c, c5])
          · rw [bI_0, Bool.not_eq_false] at c5
            exact goon _ (by simp [nxt, c, c5, hs, hsep])
        refine (m_getR h rfl).mpr ?_
        refine (m_ld (n := 300) h rfl rfl rfl rfl (by omega)).mpr ?_
        rw [hm]
        refine b_ite (fun c3 => sep (Or.inl c3)) (fun c3 => ?_)
        refine (m_getR h rfl).mpr ?_
        refine (m_ld (n := 300) h rfl rfl rfl rfl (by omega)).mpr ?_
        rw [hm]
        refine b_ite (fun c4 => sep (Or.inr c4)) (fun c4 => ?_)
        exact stop (by simp [nxt, c, hs, c3, c4])
    · rw [bI_0, Bool.not_eq_false] at c
      exact goon _ (by simp [nxt, c])
  · unfold l8_readNumbers_36
    dsimp only
    rw [if_pos rfl]
    exact hr_rt.mpr ⟨by rw [hE], rfl⟩
theorem h8_readNumbers (h : MP X V M σ) (h8 : V 8 = nI (ut xs).length) (hA : A3 (M 5) (M 6) (M 7) 0 (ut xs)) (hl : xs.length ≤ 300) :
    Hr (f8_readNumbers (some 31)) σ (fun _ σ' => ∃ V' M', MP X V' M' σ' ∧ Kx pN V M V' M' ∧ V' 14 = nI (nms (bts xs)).length ∧ NM M' (nms (bts xs))) := by
  have hle := ut_le xs
  have hlb := ut_len xs
  have hnl : (nms (bts xs)).length ≤ (bts xs).length := nmsF_len _ _ _
  unfold f8_readNumbers
  refine m_putI h (by decide) rfl fun σ0 h0 => ?_
  refine b_hr (P := fun _ σ' => ∃ V' M', MP X V' M' σ' ∧ Kx pN V M V' M' ∧ V' 14 = nI (nms (bts xs)).length ∧ NM M' (nms (bts xs))) ?_ (fun _ _ hq => hr_rt.mpr hq)
  refine hr_loop (fun x σ1 => ∃ (i : Nat) (N : List (Nat × Nat)) (V1 : Nat → Int32) (M1 : Nat → Nat → Int32), x = nI i ∧ i ≤ (bts xs).length ∧ MP X V1 M1 σ1 ∧ Kx pN V M V1 M1 ∧ V1 14 = nI N.length ∧ NM M1 N ∧ N ++ nmsAt (bts xs) i = nms (bts xs)) (fun x => 1000 - x.toNatClampNeg) ⟨0, [], _, M, rfl, Nat.zero_le _, h0, Kx.rf.v rfl, by simp [upd, nI_0], fun w p hw => by simp at hw, rfl⟩ (by show 1000 - _ < _; omega) ?_
  rintro rec x σ1 ⟨i, N, V1, M1, rfl, hin, h1, hK, hV, hN, hU⟩ ih
  have k8 : V1 8 = nI (ut xs).length := (hK.1 8 rfl).trans h8
  have kA : A3 (M1 5) (M1 6) (M1 7) 0 (ut xs) := by
    rw [hK.2 5 rfl, hK.2 6 rfl, hK.2 7 rfl]; exact hA
  unfold l8_readNumbers_7
  refine (m_getI h1 (by decide) rfl).mpr ?_
  rw [k8]
  refine b_ite (fun c => ?_) (fun c => ?_)
  · rw [nI_leI (by omega) (by omega)] at c
    rw [nms_out (by omega), List.append_nil] at hU
    subst hU
    exact hr_rt.mpr ⟨V1, M1, h1, hK, hV, hN⟩
  · rw [nI_leI (by omega) (by omega)] at c
    refine (m_obj h1).mpr ?_
    refine (b_eq (e8_isDigitAt h1 k8 kA hl (by omega))).mpr ?_
    refine b_ite (fun c2 => ?_) (fun c2 => ?_)
    · rw [bI_0] at c2
      refine ih _ _ ⟨i + 1, N, V1, M1, nI_1 i, by omega, h1, hK, hV, hN, ?_⟩ ?_
      · rw [← nms_no (by omega) c2]; exact hU
      · rw [nI_1, nI_clamp (by omega), nI_clamp (by omega)]; omega
    · rw [bI_0, Bool.not_eq_false] at c2
      have hge := eod_ge (B := bts xs) (e := i) (by omega)
      rw [nms_yes c2] at hU
      refine b_hr (h8_eod (xs := xs) h1 k8 kA hl (by omega)) ?_
      rintro y σ2 ⟨rfl, rfl⟩
      refine (m_obj h1).mpr ?_
      refine (b_eq (e8_isNumber h1 kA hl hge.1 hge.2)).mpr ?_
      rw [nI_1]
      refine b_ite (fun c3 => ?_) (fun c3 => ?_)
      · rw [bI_0] at c3
        rw [if_neg (by rw [c3]; decide), List.nil_append] at hU
        refine ih _ _ ⟨_, N, V1, M1, rfl, by omega, h1, hK, hV, hN, hU⟩ ?_
        rw [nI_clamp (by omega), nI_clamp (by omega)]; omega
      · rw [bI_0, Bool.not_eq_false] at c3
        rw [if_pos c3] at hU
        have hNl : N.length < 300 := by
          have := congrArg List.length hU
          simp only [List.length_append, List.length_cons] at this
          omega
        refine (m_getR h1 rfl).mpr ?_
        refine (m_getI h1 (by decide) rfl).mpr ?_
        refine m_st (n := 300) h1 rfl rfl rfl hV (by omega) fun σ3 h3 => ?_
        refine (m_getR h3 rfl).mpr ?_
        refine (m_getI h3 (by decide) rfl).mpr ?_
        refine m_st (n := 300) h3 rfl rfl rfl hV (by omega) fun σ4 h4 => ?_
        refine (m_getI h4 (by decide) rfl).mpr ?_
        refine m_putI h4 (by decide) rfl fun σ5 h5 => ?_
        refine ih _ _ ⟨_, N ++ [(i, eod (bts xs) i)], _, _, rfl, by omega, h5, ((hK.m rfl).m rfl).v rfl, ?_, ?_, ?_⟩ ?_
        · show upd V1 14 (V1 14 + 1) 14 = _
          rw [hV, nI_1]
          simp [upd]
        · exact hN.snoc (p := (i, eod (bts xs) i)) rfl rfl
        · rw [List.append_assoc]; exact hU
        · rw [nI_clamp (by omega), nI_clamp (by omega)]; omega
theorem h8_read {f0 off n0 : Nat} (h : MP X V M σ) (ha : isA f0 = true) (ht : tgA f0 = 0) (hn : lnA (xC X) f0 = n0) (hs : scr f0 = false) (hx : ∀ k c, xs[k]? = some c → M f0 (off + k) = c) (hb : off + xs.length ≤ n0) (hn0 : n0 ≤ 20000) (hl : xs.length ≤ 300) {o : Int32} (ho : o = nI off) {l : Int32} (hll : l = nI xs.length) :
    Hr (f8_read (some 31) (some (xa X f0)) o l) σ (fun _ σ' => ∃ V' M', MP X V' M' σ' ∧ Kx scr V M V' M' ∧ RD V' M' xs) := by
  subst ho
  subst hll
  unfold f8_read
  refine m_putI h (by decide) rfl fun σ0 h0 => ?_
  refine b_hr (P := fun _ σ' => ∃ V' M', MP X V' M' σ' ∧ Kx scr V M V' M' ∧ V' 8 = nI xs.length ∧ A3 (M' 5) (M' 6) (M' 7) 0 (tr0 xs)) ?_ ?_
  · refine hr_loop (fun x σ1 => ∃ (i : Nat) (M1 : Nat → Nat → Int32), x = nI i ∧ i ≤ xs.length ∧ MP X (upd V 8 (nI xs.length)) M1 σ1 ∧ Kx scr V M (upd V 8 (nI xs.length)) M1 ∧ A3 (M1 5) (M1 6) (M1 7) 0 ((tr0 xs).take i)) (fun x => xs.length - x.toNatClampNeg) ⟨0, M, rfl, Nat.zero_le _, h0, Kx.rf.v rfl, fun k x hk => by simp at hk⟩ (by show xs.length - _ < _; omega) ?_
    rintro rec x σ1 ⟨i, M1, rfl, hin, h1, hK, hA⟩ ih
    unfold l8_read_8
    refine b_ite (fun c => ?_) (fun c => ?_)
    · rw [nI_leI (by omega) (by omega)] at c
      refine hr_rt.mpr ⟨_, M1, h1, hK, by simp [upd], ?_⟩
      rw [List.take_of_length_le (by simp [tr0]; omega)] at hA
      exact hA
    · rw [nI_leI (by omega) (by omega)] at c
      refine (m_getR h1 rfl).mpr ?_
      refine (m_ld h1 ha ht hn (nI_add off i) (by omega)).mpr ?_
      have ev : M1 f0 (off + i) = xs[i] := by
        rw [hK.2 f0 hs]
        exact hx i _ (List.getElem?_eq_getElem (by omega))
      rw [ev]
      refine m_st (n := 300) h1 rfl rfl rfl rfl (by omega) fun σ3 h3 => ?_
      refine (m_getR h3 rfl).mpr ?_
      refine m_st (n := 300) h3 rfl rfl rfl rfl (by omega) fun σ4 h4 => ?_
      refine (m_getR h4 rfl).mpr ?_
      refine m_st (n := 300) h4 rfl rfl rfl rfl (by omega) fun σ5 h5 => ?_
      refine ih _ _ ⟨i + 1, _, nI_1 i, by omega, h5, ((hK.m rfl).m rfl).m rfl, ?_⟩ ?_
      · have hlt : ((tr0 xs).take i).length = i := by simp [tr0]; omega
        have := A3.snoc (x := ((xs[i], nI i, nI i) : T3)) hA
        rw [hlt] at this
        rw [List.take_add_one, show (tr0 xs)[i]?.toList = [((xs[i], nI i, nI i) : T3)] by simp [tr0, List.getElem?_mapIdx, List.getElem?_eq_getElem (show i < xs.length by omega)]]
        exact this
      · rw [nI_1, nI_clamp (by omega), nI_clamp (by omega)]; omega
  · rintro _ σ1 ⟨V1, M1, h1, hK1, h81, hA1⟩
    have ht0 : (tr0 xs).length = xs.length := by simp [tr0]
    have hu1 := unw_len (tr0 xs)
    have hu2 := unw_len (unw (tr0 xs))
    have hu3 := unw_len (unw (unw (tr0 xs)))
    refine (m_obj h1).mpr ?_
    refine b_hr (h8_pass h1 (by rw [h81, ht0]) hA1 (by omega)) ?_
    rintro _ σ2 ⟨V2, M2, h2, hK2, h82, hA2⟩
    refine (m_obj h2).mpr ?_
    refine b_hr (h8_pass h2 h82 hA2 (by omega)) ?_
    rintro _ σ3 ⟨V3, M3, h3, hK3, h83, hA3⟩
    refine (m_obj h3).mpr ?_
    refine b_hr (h8_pass h3 h83 hA3 (by omega)) ?_
    rintro _ σ4 ⟨V4, M4, h4, hK4, h84, hA4⟩
    refine m_putI h4 (by decide) rfl fun σ5 h5 => ?_
    refine b_hr (h8_words (xs := xs) h5 (by show upd V4 11 0 8 = _; simp only [upd]; exact h84) hA4 hl (by simp [upd])) ?_
    rintro _ σ6 ⟨V6, M6, h6, hK6, h116, hW6⟩
    have k8 : V6 8 = nI (ut xs).length := by rw [hK6.1 8 rfl]; exact h84
    have kA : A3 (M6 5) (M6 6) (M6 7) 0 (ut xs) := by
      rw [hK6.2 5 rfl, hK6.2 6 rfl, hK6.2 7 rfl]; exact hA4
    refine (m_obj h6).mpr ?_
    refine b_hr (h8_readNumbers (xs := xs) h6 k8 kA hl) ?_
    rintro _ σ7 ⟨V7, M7, h7, hK7, h147, hN7⟩
    refine hr_rt.mpr ⟨V7, M7, h7, ((((hK1.tr hK2).tr hK3).tr hK4).tr ((Kx.rf.v rfl).tr (hK6.mono pW_scr))).tr (hK7.mono pN_scr), ?_, ?_, ?_, ?_, h147, hN7⟩
    · rw [hK7.1 8 rfl]; exact k8
    · rw [hK7.2 5 rfl, hK7.2 6 rfl, hK7.2 7 rfl]; exact kA
    · rw [hK7.1 11 rfl]; exact h116
    · intro w p hw
      rw [hK7.2 9 rfl, hK7.2 10 rfl]
      exact hW6 w p hw
end MNUM
