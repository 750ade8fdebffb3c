/-! ===== the class: blackening, dealing with a letter ===== -/
def PFd (R : List T3) : Prop := ∀ y ∈ R, ∃ a, a ≤ 300 ∧ y.1 = nI a
theorem unw_pl (n : Nat) : ∀ (T : List T3), (∀ y ∈ T, ∃ a, a ≤ n ∧ y.2.1 = nI a) → ∀ y ∈ unw T, ∃ a, a ≤ n ∧ y.2.1 = nI a := by
  intro T
  induction T using unw.induct with
  | case1 x y z r h ih =>
    intro hT w hw
    rw [unw, if_pos h, List.mem_cons] at hw
    rcases hw with rfl | hw
    · exact hT x List.mem_cons_self
    · exact ih (fun y hy => hT y (by simp [hy])) w hw
  | case2 x y z r h ih =>
    intro hT w hw
    rw [unw, if_neg h, List.mem_cons] at hw
    rcases hw with rfl | hw
    · exact hT w List.mem_cons_self
    · exact ih (fun y hy => hT y (List.mem_cons_of_mem _ hy)) w hw
  | case3 l h =>
    intro hT w hw
    rw [unw.eq_2 l h] at hw
    exact hT w hw
theorem TXT_pl {xs : List Int32} (hx : xs.length ≤ 300) (i : Nat) : ∃ a, a ≤ 300 ∧ ((TXT xs).getD i (0, 0, 0)).2.1 = nI a := by
  have h0 : ∀ y ∈ tr0 xs, ∃ a, a ≤ 300 ∧ y.2.1 = nI a := by
    intro y hy
    unfold tr0 at hy
    obtain ⟨j, hj, rfl⟩ := List.mem_mapIdx.mp hy
    exact ⟨j, by omega, rfl⟩
  have h3 := unw_pl 300 _ (unw_pl 300 _ (unw_pl 300 _ h0))
  rw [List.getD_eq_getElem?_getD]
  cases hq : (TXT xs)[i]? with
  | none => exact ⟨0, by omega, rfl⟩
  | some y =>
    have hm := List.mem_of_getElem? hq
    unfold TXT lowT at hm
    rw [List.mem_map] at hm
    obtain ⟨z, hz, rfl⟩ := hm
    exact h3 z hz
theorem raw_pf {kp : Nat → List Int32} {d : Kd} {xs : List Int32} (hx : xs.length ≤ 300) : PFd (rawF kp d xs) := by
  intro y hy
  unfold rawF at hy
  split at hy
  · unfold fMark at hy
    rw [List.mem_filterMap] at hy
    obtain ⟨w, -, hg⟩ := hy
    unfold gMark at hg
    split at hg
    · cases hg
      exact TXT_pl hx _
    · cases hg
  · split at hy
    · unfold fNum at hy
      rw [List.mem_map] at hy
      obtain ⟨p, -, rfl⟩ := hy
      exact TXT_pl hx _
    · split at hy
      · unfold fPar at hy
        rw [List.mem_flatMap] at hy
        obtain ⟨w, -, hw⟩ := hy
        unfold rPar at hw
        rw [List.mem_filterMap] at hw
        obtain ⟨p, -, hg⟩ := hw
        unfold gPar at hg
        split at hg
        · cases hg
          exact TXT_pl hx _
        · cases hg
      · cases hy
section CLSK
variable {g : Tg} {c : Nat → Nat} {σ : AH} {A : St}
theorem h0_blackened {q cap ca : Nat} {R : List T3} {B : List Int32} {cm : Nat → Int32} (hF : FB σ q cap R) (hc : R.length ≤ cap) (hc2 : cap < 2 ^ 20) (hP : PFd R) (hC : σ.1[ca]? = some (.inl (0, B.length, .inl cm))) (hB : B3 cm B) (hBl : B.length ≤ 300) :
    Hr (f0_blackened (some q) (some ca)) σ (fun r σ' => r = some σ.1.length ∧ σ'.1.length = σ.1.length + 1 ∧ σ'.2 = σ.2 + B.length ∧ (∀ k, k < σ.1.length → σ'.1[k]? = σ.1[k]?) ∧ ∃ lf, σ'.1[σ.1.length]? = some (.inl (0, B.length, .inl lf)) ∧ B3 lf (blk B R)) := by
  have hF' := hF
  obtain ⟨F, L, P, p0, p1, p2, p3, p4, p5⟩ := hF'
  rw [List.take_of_length_le hc] at p5
  unfold f0_blackened
  refine b_clone hC fun σ1 n1 => ?_
  refine (b_len n1.1).mpr ?_
  refine (b_obj (n1.old p0)).mpr ?_
  have ek : f0_keptCount (some q) σ1 = some (nI R.length, σ1) := by
    refine hr_det ?_
    unfold f0_keptCount
    refine (b_getI (n1.old p0) rfl).mpr ?_
    refine (b_getR (n1.old p0) rfl).mpr ?_
    refine (b_len (n1.old p1)).mpr ?_
    refine hr_rt.mpr ⟨?_, rfl⟩
    show jmin (nI R.length) (nI cap) = _
    rw [jmin_nI (by omega) (by omega), Nat.min_eq_left hc]
  refine (b_eq ek).mpr ?_
  have hql := (List.getElem?_eq_some_iff.mp p0).1
  have hl1 := (List.getElem?_eq_some_iff.mp p1).1
  have hl2 := (List.getElem?_eq_some_iff.mp p2).1
  refine b_hr (P := fun _ σ' => σ'.1.length = σ.1.length + 1 ∧ σ'.2 = σ.2 + B.length ∧ (∀ k, k < σ.1.length → σ'.1[k]? = σ.1[k]?) ∧ ∃ lf, σ'.1[σ.1.length]? = some (.inl (0, B.length, .inl lf)) ∧ ∀ k, k < B.length → lf k = if isBlk R k = true then 42 else cm k) ?_ ?_
  · refine hr_loop (fun z σ2 => ∃ (i : Nat) (lf : Nat → Int32), z = nI i ∧ i ≤ R.length ∧ σ2.1.length = σ.1.length + 1 ∧ σ2.2 = σ.2 + B.length ∧ (∀ k, k < σ.1.length → σ2.1[k]? = σ.1[k]?) ∧ σ2.1[σ.1.length]? = some (.inl (0, B.length, .inl lf)) ∧ ∀ k, k < B.length → lf k = if isBlk (R.take i) k = true then 42 else cm k) (fun z => R.length - z.toNatClampNeg) ⟨0, cm, rfl, Nat.zero_le _, n1.2.2.1, n1.2.2.2, n1.2.1, n1.1, fun k hk => by simp [isBlk]⟩ (by show R.length - _ < _; omega) ?_
    rintro rec z σ2 ⟨i, lf, rfl, hi, hl, hs, ho, hn, hv⟩ ih
    unfold l0_blackened_16
    refine b_ite (fun c1 => ?_) (fun c1 => ?_)
    · rw [nI_leI (by omega) (by omega)] at c1
      rw [List.take_of_length_le (by omega)] at hv
      exact hr_rt.mpr ⟨hl, hs, ho, lf, hn, hv⟩
    rw [nI_leI (by omega) (by omega)] at c1
    obtain ⟨y, hy⟩ : ∃ y, R[i]? = some y := ⟨_, List.getElem?_eq_getElem (by omega)⟩
    obtain ⟨a, ha, hya⟩ := hP y (List.mem_of_getElem? hy)
    have py := p5 i y hy
    rw [Nat.zero_add] at py
    have o0 := p0
    rw [← ho q hql] at o0
    have o1 := p1
    rw [← ho _ hl1] at o1
    have o2 := p2
    rw [← ho _ hl2] at o2
    refine (b_getR o0 rfl).mpr ?_
    refine (b_ld o1 rfl (by omega) (by omega)).mpr ?_
    rw [py.1, hya]
    have hstep : ∀ k, isBlk (R.take (i + 1)) k = (isBlk (R.take i) k || decide (y.1 ≤ nI k ∧ nI k ≤ y.2.1)) := by
      intro k
      unfold isBlk
      rw [List.take_add_one, hy, List.any_append]
      simp
    refine b_hr (P := fun _ σ' => σ'.1.length = σ.1.length + 1 ∧ σ'.2 = σ.2 + B.length ∧ (∀ k, k < σ.1.length → σ'.1[k]? = σ.1[k]?) ∧ ∃ lf, σ'.1[σ.1.length]? = some (.inl (0, B.length, .inl lf)) ∧ ∀ k, k < B.length → lf k = if isBlk (R.take (i + 1)) k = true then 42 else cm k) ?_ ?_
    · refine hr_loop (fun z σ3 => ∃ (j : Nat) (lf3 : Nat → Int32), z = nI j ∧ a ≤ j ∧ j ≤ 301 ∧ (∀ k, a ≤ k → k < j → nI k ≤ y.2.1) ∧ σ3.1.length = σ.1.length + 1 ∧ σ3.2 = σ.2 + B.length ∧ (∀ k, k < σ.1.length → σ3.1[k]? = σ.1[k]?) ∧ σ3.1[σ.1.length]? = some (.inl (0, B.length, .inl lf3)) ∧ ∀ k, k < B.length → lf3 k = if (isBlk (R.take i) k || decide (a ≤ k ∧ k < j)) = true then 42 else cm k) (fun z => 1000 - z.toNatClampNeg) ⟨a, lf, rfl, Nat.le_refl _, by omega, fun k h1 h2 => by omega, hl, hs, ho, hn, fun k hk => by rw [hv k hk, decide_eq_false (by omega), Bool.or_false]⟩ (by show 1000 - _ < _; omega) ?_
      rintro rec2 z σ3 ⟨j, lf3, rfl, haj, hj, hle, hl3, hs3, ho3, hn3, hv3⟩ ih2
      have e0 := p0
      rw [← ho3 q hql] at e0
      have e2 := p2
      rw [← ho3 _ hl2] at e2
      have fin : (∀ k, k < B.length → ((a ≤ k ∧ k < j) ↔ (y.1 ≤ nI k ∧ nI k ≤ y.2.1))) → Hr (rt ()) σ3 (fun _ σ' => σ'.1.length = σ.1.length + 1 ∧ σ'.2 = σ.2 + B.length ∧ (∀ k, k < σ.1.length → σ'.1[k]? = σ.1[k]?) ∧ ∃ lf, σ'.1[σ.1.length]? = some (.inl (0, B.length, .inl lf)) ∧ ∀ k, k < B.length → lf k = if isBlk (R.take (i + 1)) k = true then 42 else cm k) := by
        intro hiff
        refine hr_rt.mpr ⟨hl3, hs3, ho3, lf3, hn3, fun k hk => ?_⟩
        rw [hv3 k hk, hstep k, decide_eq_decide.mpr (hiff k hk)]
      unfold l0_blackened_31
      refine (b_getR e0 rfl).mpr ?_
      refine (b_ld e2 rfl (by omega) (by omega)).mpr ?_
      rw [py.2.1]
      refine b_ite (fun c2 => ?_) (fun c2 => ?_)
      · refine fin (fun k hk => ?_)
        rw [hya, nI_leI (by omega) (by omega)]
        refine ⟨fun z => ⟨z.1, hle k z.1 z.2⟩, fun z => ⟨z.1, ?_⟩⟩
        have : nI k < nI j := by
          rw [i32_lt] at c2 ⊢
          have := (i32_le _ _).mp z.2
          omega
        rwa [nI_ltI (by omega) (by omega)] at this
      · refine (b_len hn3).mpr ?_
        refine b_ite (fun c3 => ?_) (fun c3 => ?_)
        · have c3 : B.length ≤ j := (nI_leI (by omega) (by omega)).mp c3
          refine fin (fun k hk => ?_)
          rw [hya, nI_leI (by omega) (by omega)]
          exact ⟨fun z => ⟨z.1, hle k z.1 z.2⟩, fun z => ⟨z.1, by omega⟩⟩
        · have c3 : ¬ B.length ≤ j := fun z => c3 ((nI_leI (by omega) (by omega)).mpr z)
          refine b_st hn3 rfl (by omega) (by omega) fun σ4 u => ?_
          refine ih2 _ _ ⟨j + 1, _, nI_1 j, by omega, by omega, fun k h1 h2 => ?_, u.2.2.1.trans hl3, u.2.2.2.trans hs3, fun k hk => (u.2.1 k (by omega)).trans (ho3 k hk), u.1, fun k hk => ?_⟩ ?_
          · by_cases e : k = j
            · rw [e]; exact nlt.mp c2
            · exact hle k h1 (by omega)
          · by_cases e : k = j
            · rw [e, decide_eq_true (show a ≤ j ∧ j < j + 1 by omega), Bool.or_true]
              simp [upd]
            · simp only [upd, if_neg e]
              rw [hv3 k hk, decide_eq_decide.mpr (show (a ≤ k ∧ k < j) ↔ (a ≤ k ∧ k < j + 1) by omega)]
          · rw [nI_1, nI_clamp (by omega), nI_clamp (by omega)]; omega
    · rintro _ σ3 ⟨hl3, hs3, ho3, lf3, hn3, hv3⟩
      refine ih _ _ ⟨i + 1, lf3, nI_1 i, by omega, hl3, hs3, ho3, hn3, hv3⟩ ?_
      rw [nI_1, nI_clamp (by omega), nI_clamp (by omega)]; omega
  · rintro _ σ2 ⟨hl, hs, ho, lf, hn, hv⟩
    refine hr_rt.mpr ⟨rfl, hl, hs, ho, lf, hn, fun k x hk => ?_⟩
    have hkl := (List.getElem?_eq_some_iff.mp hk).1
    have hkl : k < B.length := by unfold blk at hkl; simpa using hkl
    rw [hv k hkl]
    unfold blk at hk
    rw [List.getElem?_mapIdx, List.getElem?_eq_getElem hkl] at hk
    simp only [Option.map_some, Option.some.injEq] at hk
    rw [← hk, hB k _ (List.getElem?_eq_getElem hkl)]
theorem Cls.letter {g' : Tg} {σ' : AH} {l : Nat} {x x' : Lt} (h : Cls g c σ A) (hx : (aLet A)[l]? = some x) (hf : ∀ k, g k ≠ 0 → k ≠ c l + 1 → g' k = g k ∧ σ'.1[k]? = σ.1[k]?) (hg : g (c l + 1) = 3 + l) (hz : ∀ k, g' k ≠ 0 → k < σ'.1.length) (hL : LtI g' σ' (c l) l x' (rwA A)) : Cls g' c σ' (setL A l x') := by
  have hl := (List.getElem?_eq_some_iff.mp hx).1
  obtain ⟨k1, k2, k3, k4, k5, k6, k7, k8, k9, k10⟩ := h
  have n0 : ∀ k, k < 23 → g k ≠ 0 ∧ k ≠ c l + 1 := fun k hk => ⟨by rw [k1.2 k hk]; decide, fun e => by rw [← e, k1.2 k hk] at hg; omega⟩
  have ft : ∀ t, t ≠ 0 → t ≠ 3 + l → FT t g σ g' σ' := fun t ht ht2 k hk => by
    have := hf k (by rw [hk]; exact ht) (fun e => by rw [e, hg] at hk; exact ht2 hk.symm)
    exact ⟨this.1.trans hk, this.2⟩
  have o : ∀ k, k < 23 → σ'.1[k]? = σ.1[k]? := fun k hk => (hf k (n0 k hk).1 (n0 k hk).2).2
  refine ⟨⟨hz, fun k hk => by rw [(hf k (n0 k hk).1 (n0 k hk).2).1]; exact k1.2 k hk⟩, ?_, k3.fr (o 1 (by decide)), k4.fr (ft 1 (by decide) (by omega)) (o 2 (by decide)), k5.fr (ft 1 (by decide) (by omega)) (o 3 (by decide)), k6.fr (o 4 (by decide)), k7.fr (ft 1 (by decide) (by omega)) (o 5 (by decide)) (o 6 (by decide)), ?_, k9.fr (fun k _ b => o k b), ?_⟩
  · rw [o 0 (by decide)]
    show σ.1[0]? = some (Sum.inr (7, dgl (aDay A) (aTape A).length ((aLet A).set l x').length))
    rw [List.length_set]
    exact k2
  · show cRow σ' c ((aLet A).set l x').length
    rw [List.length_set]
    exact k8.fr (o 7 (by decide))
  · intro i y hy
    have hy : ((aLet A).set l x')[i]? = some y := hy
    by_cases e : i = l
    · subst e
      rw [List.getElem?_set_self hl] at hy
      cases hy
      exact hL
    · rw [List.getElem?_set_ne (Ne.symm e)] at hy
      exact (k10 i y hy).fr (ft 1 (by decide) (by omega)) (ft _ (by omega) (by omega))
theorem h7_deal {l a : Nat} {x : Lt} {rl : Rl} (h : SG g c σ A) (hW : DlW A) (hx : (aLet A)[l]? = some x) (hx2 : x.2 = (0, -1, 0, [])) (ha : RlI g σ a rl) (hrw : RlW rl) (hraw : (rwA A (rK rl) (lB x)).length < 99999) :
    Hr (f7_deal (some 0) (some (c l + 1)) (some a)) σ (fun _ σ' => ∃ g', Cls g' c σ' (setL A l (x.1, (rA rl, nI (rK rl), if rA rl ≤ 2 then 0 else 1, rwA A (rK rl) (lB x)))) ∧ CX g σ g' σ' 6 (308 + 3 * (rwA A (rK rl) (lB x)).length)) := by
  have hk8 := hrw.1
  have ha4 := hrw.2.1
  have wx := hW.2.2.2.1 x (List.mem_of_getElem? hx)
  have hLen := h.1.len
  have tg0 : ∀ k, σ.1.length ≤ k → g k = 0 := fun k hk => Classical.byContradiction fun z => by have := h.1.1.1 k z; omega
  obtain ⟨fn, lv, sd, ⟨a1, a2⟩, ⟨b1, cm, b2, b3⟩, ccT, ⟨d1, sg, d2, d3⟩, ⟨e1, e2⟩, f0, -, -⟩ := id (h.1.2.2.2.2.2.2.2.2.2 l x hx)
  have a1l : c l + 1 < σ.1.length := h.1.1.1 _ (by rw [a1]; omega)
  have hF := h.2 l x hx (rK rl) hk8
  obtain ⟨_, _, _, _, fo⟩ := hF.obj
  generalize hRaw : rwA A (rK rl) (lB x) = R at hraw hF fo ⊢
  unfold f7_deal
  rw [if_neg (by simp)]
  refine b_newO fun σ1 n1 => ?_
  refine (b_getR (n1.old a2) rfl).mpr ?_
  refine (b_getI (n1.old ha.2) rfl).mpr ?_
  refine (b_ldR (n1.old d2) rfl hk8 (by decide)).mpr ?_
  rw [d3 _ hk8]
  refine (b_getI (n1.old fo) rfl).mpr ?_
  refine (b_obj n1.1).mpr ?_
  refine b_hr (h0_init (q := σ.1.length) (cap := R.length) n1.1 n1.2.2.1 (by omega)) ?_
  rintro _ σ2 ⟨l2, s2, o2, hF2⟩
  have O2 : ∀ k, k < σ.1.length → σ2.1[k]? = σ.1[k]? := fun k hk => by rw [o2 k hk, n1.2.1 k hk]
  have h2 := h.1.grow (g' := g) O2 (fun _ _ => rfl) (fun k hk => by have := h.1.1.1 k hk; omega)
  have F12 : FT 1 g σ g σ2 := ft_new O2 (fun _ _ => rfl) h.1.1.1 (by decide)
  have ha2 := ha.fr F12
  obtain ⟨fk, p1, p2⟩ := h2.2.2.2.2.1
  obtain ⟨kq, p3, p4⟩ := p2 (rK rl) hk8
  have A2 := a2
  rw [← O2 _ a1l] at A2
  refine (b_getR h2.2.1 rfl).mpr ?_
  refine (b_getI ha2.2 rfl).mpr ?_
  refine (b_ldR p1 rfl hk8 (by decide)).mpr ?_
  rw [p3]
  refine (b_getR A2 rfl).mpr ?_
  refine (b_obj h2.2.1).mpr ?_
  refine b_hr (h7_collect h2.2.1 h2.2.2.2.1 p4 (hW.2.1 _) (ccT.fr F12) hF2 (fun k z1 z2 => by rw [tg0 k z1]; decide) (by omega)) ?_
  rintro _ σ3 ⟨hS3, hF3⟩
  have hF3 : FB σ3 σ.1.length R.length R := by rw [← hRaw] at hF3 ⊢; exact hF3
  have O3 : ∀ k, k < σ.1.length → σ3.1[k]? = σ.1[k]? := fun k hk => by rw [hS3.1 k (by omega), O2 k hk]
  have l3 : σ3.1.length = σ.1.length + 5 := by rw [hS3.2.1, l2]
  have s3 : σ3.2 = σ.2 + 8 + 3 * R.length := by
    have := n1.2.2.2
    simp only [List.length_cons, List.length_nil] at this
    rw [hS3.2.2, s2, this]
  have aA : ∀ (σ' : AH), (∀ k, k < σ.1.length → k ≠ c l + 1 → σ'.1[k]? = σ.1[k]?) → σ'.1[a]? = some (.inr (4, [.int (rS rl), .int (rW rl), .int (nI (rK rl)), .int (nI (rA rl))])) := fun σ' ho => by
    rw [ho a (h.1.1.1 a (by rw [ha.1]; decide)) (fun e => by have := ha.1; rw [e, a1] at this; omega)]
    exact ha.2
  have A3 := a2
  rw [← O3 _ a1l] at A3
  have b0 := aA σ3 (fun k hk _ => O3 k hk)
  refine (b_getI b0 rfl).mpr ?_
  refine b_putI A3 (by simp) fun σ4 u4 => ?_
  have b4 := u4.ne b0 (fun e => by have := ha.1; rw [e, a1] at this; omega)
  refine (b_getI b4 rfl).mpr ?_
  refine b_putI u4.1 (by simp) fun σ5 u5 => ?_
  have b5 := u5.ne b4 (fun e => by have := ha.1; rw [e, a1] at this; omega)
  refine b_putR u5.1 (by simp) fun σ6 u6 => ?_
  have b6 := u6.ne b5 (fun e => by have := ha.1; rw [e, a1] at this; omega)
  have U6 := (u4.tr u5).tr u6
  have U6c : σ6.1[c l + 1]? = some (.inr (2, [.int (nI (lS x)), .int (nI (lT x)), .int (nI (lW x)), .int (nI (lD x)), .ref (c l), .ref (c l + 2), .int (nI (rA rl)), .int (nI (rK rl)), .int (nI (lFate x)), .ref σ.1.length, .ref lv, .ref (c l + 9), .ref (c l + 10)])) := U6.1
  have O6 : ∀ k, k < σ.1.length → k ≠ c l + 1 → σ6.1[k]? = σ.1[k]? := fun k hk hne => (U6.2.1 k hne).trans (O3 k hk)
  have l6 : σ6.1.length = σ.1.length + 5 := U6.2.2.1.trans l3
  have s6 : σ6.2 = σ.2 + 8 + 3 * R.length := U6.2.2.2.trans s3
  have hF6 : FB σ6 σ.1.length R.length R := hF3.frame (fun k z1 z2 => U6.2.1 k (by omega))
  clear u4 u5 u6
  refine (b_getI b6 rfl).mpr ?_
  -- the bytes that leave
  refine b_hr (P := fun _ σ' => ∃ lv' : Nat, σ'.1[c l + 1]? = some (.inr (2, [.int (nI (lS x)), .int (nI (lT x)), .int (nI (lW x)), .int (nI (lD x)), .ref (c l), .ref (c l + 2), .int (nI (rA rl)), .int (nI (rK rl)), .int (nI (lFate x)), .ref σ.1.length, .ref lv', .ref (c l + 9), .ref (c l + 10)])) ∧ (∀ k, k < σ.1.length → k ≠ c l + 1 → σ'.1[k]? = σ.1[k]?) ∧ σ.1.length + 5 ≤ σ'.1.length ∧ σ'.1.length ≤ σ.1.length + 6 ∧ σ'.2 ≤ σ.2 + 308 + 3 * R.length ∧ FB σ' σ.1.length R.length R ∧ lv' < σ'.1.length ∧ (lv' < σ.1.length → g lv' = 1) ∧ lv' ≠ c l + 1 ∧ ∃ lf, σ'.1[lv']? = some (.inl (0, (lB x).length, .inl lf)) ∧ B3 lf (if rA rl = 2 then blk (lB x) R else lB x)) ?_ ?_
  · rw [show (2 : Int32) = nI 2 from rfl]
    refine b_ite (fun c1 => ?_) (fun c1 => ?_)
    · rw [nI_eq (by omega) (by omega)] at c1
      refine (b_getR U6c rfl).mpr ?_
      obtain ⟨_, _, _, _, fo6⟩ := hF6.obj
      refine (b_obj fo6).mpr ?_
      have cl : c l < σ.1.length := h.1.1.1 _ (by rw [b1]; decide)
      have b2' : σ6.1[c l]? = some (.inl (0, (lB x).length, .inl cm)) := by rw [O6 _ cl (by omega)]; exact b2
      refine b_hr (h0_blackened hF6 (Nat.le_refl _) (by omega) (by rw [← hRaw]; exact raw_pf wx.2.2.2.2) b2' b3 wx.2.2.2.2) ?_
      rintro r σ7 ⟨rfl, l7, s7, o7, lf, n7, hB7⟩
      have U7c := U6c
      rw [← o7 _ (by omega)] at U7c
      refine b_putR U7c (by simp) fun σ8 u8 => ?_
      refine hr_rt.mpr ⟨σ6.1.length, u8.1, fun k hk hne => (u8.2.1 k hne).trans ((o7 k (by omega)).trans (O6 k hk hne)), by rw [u8.2.2.1]; omega, by rw [u8.2.2.1]; omega, by rw [u8.2.2.2]; have := wx.2.2.2.2; omega, hF6.frame (fun k z1 z2 => (u8.2.1 k (by omega)).trans (o7 k (by omega))), by rw [u8.2.2.1]; omega, fun z => by omega, by omega, lf, u8.ne n7 (by omega), by rw [if_pos c1]; exact hB7⟩
    · rw [nI_eq (by omega) (by omega)] at c1
      obtain ⟨fn', lv', sd', ⟨-, z2⟩, -, -, -, -, -, -, ⟨y1, yf, y2, y3⟩⟩ := id (h.1.2.2.2.2.2.2.2.2.2 l x hx)
      rw [a2] at z2
      have elv : lv' = lv := by
        simp only [Option.some.injEq, Sum.inr.injEq, Prod.mk.injEq, List.cons.injEq, Value.ref.injEq] at z2
        exact z2.2.2.2.2.2.2.2.2.2.2.2.1.symm
      subst elv
      have lvl : lv' < σ.1.length := h.1.1.1 _ (by rw [y1]; decide)
      have lvn : lv' ≠ c l + 1 := fun e => by rw [e, a1] at y1; omega
      have hlvg : lvg x = lB x := by
        unfold lvg
        rw [if_neg (by show ¬ x.2.1 = 2; rw [hx2]; decide)]
      refine hr_rt.mpr ⟨lv', U6c, O6, by omega, by omega, by omega, hF6, by omega, fun _ => y1, lvn, yf, by rw [O6 _ lvl lvn]; exact y2, ?_⟩
      rw [if_neg c1, ← hlvg]
      exact y3
  · rintro _ σ7 ⟨lv', U7, O7, l7, l7', s7, hF7, lv1, lv2, lv3, lf, lv4, lv5⟩
    have b7 := aA σ7 O7
    have fin : ∀ (v : Int32) (σ8 : AH), v = nI (if rA rl ≤ 2 then 0 else 1) → σ8.1[c l + 1]? = some (.inr (2, [.int (nI (lS x)), .int (nI (lT x)), .int (nI (lW x)), .int (nI (lD x)), .ref (c l), .ref (c l + 2), .int (nI (rA rl)), .int (nI (rK rl)), .int v, .ref σ.1.length, .ref lv', .ref (c l + 9), .ref (c l + 10)])) → (∀ k, k ≠ c l + 1 → σ8.1[k]? = σ7.1[k]?) → σ8.1.length = σ7.1.length → σ8.2 = σ7.2 → Hr (rt ()) σ8 (fun _ σ' => ∃ g', Cls g' c σ' (setL A l (x.1, (rA rl, nI (rK rl), if rA rl ≤ 2 then 0 else 1, R))) ∧ CX g σ g' σ' 6 (308 + 3 * R.length)) := by
      intro v σ8 hv U8 O8 l8 s8
      have OO : ∀ k, k < σ.1.length → k ≠ c l + 1 → σ8.1[k]? = σ.1[k]? := fun k hk hne => (O8 k hne).trans (O7 k hk hne)
      have gx : ∀ k, k < σ.1.length → ext g σ.1.length σ8.1.length 1 k = g k := fun k hk => ext_lo hk
      have FF : ∀ t, t ≠ 0 → t ≠ 3 + l → FT t g σ (ext g σ.1.length σ8.1.length 1) σ8 := fun t ht ht2 k hk => by
        have kl := h.1.1.1 k (by rw [hk]; exact ht)
        exact ⟨by rw [gx k kl]; exact hk, OO k kl (fun e => by rw [e, a1] at hk; exact ht2 hk.symm)⟩
      have tl : ∀ k, g k = 3 + l → k < σ.1.length := fun k hk => h.1.1.1 k (by rw [hk]; omega)
      refine hr_rt.mpr ⟨ext g σ.1.length σ8.1.length 1, h.1.letter hx (fun k hk hne => ⟨gx k (h.1.1.1 k hk), OO k (h.1.1.1 k hk) hne⟩) a1 (fun k hk => ext_nz h.1.1.1 (by omega) hk) ?_, ⟨gx, ?_, by omega, by omega, by omega⟩⟩
      · refine ⟨some σ.1.length, lv', sd, ⟨by rw [gx _ a1l]; exact a1, by rw [U8, hv]; rfl⟩, ⟨by rw [gx _ (h.1.1.1 _ (by rw [b1]; decide))]; exact b1, cm, by rw [OO _ (h.1.1.1 _ (by rw [b1]; decide)) (by omega)]; exact b2, b3⟩, ccT.fr (FF 1 (by decide) (by omega)), ⟨by rw [gx _ (h.1.1.1 _ (by rw [d1]; decide))]; exact d1, sg, by rw [OO _ (h.1.1.1 _ (by rw [d1]; decide)) (by omega)]; exact d2, d3⟩, ⟨by rw [gx _ (tl _ e1)]; exact e1, by rw [OO _ (tl _ e1) (by omega)]; exact e2⟩, fun k hk => ?_, Or.inr ⟨σ.1.length, rfl, fun k z1 z2 => ext_in z1 (by omega), R.length, hF7.frame (fun k z1 z2 => O8 k (by omega)), Nat.le_refl _, by omega⟩, ⟨?_, lf, by rw [O8 _ lv3]; exact lv4, ?_⟩⟩
        · obtain ⟨q1, R', q2, q3⟩ := f0 k hk
          refine ⟨fun j hj => by rw [gx _ (tl _ (q1 j hj))]; exact q1 j hj, R', q2.frame (fun m m1 m2 => ?_), q3⟩
          have := q1 (m - (c l + 11 + 5 * k)) (by omega)
          rw [show c l + 11 + 5 * k + (m - (c l + 11 + 5 * k)) = m by omega] at this
          exact OO m (tl m this) (by omega)
        · by_cases z : lv' < σ.1.length
          · rw [gx _ z]; exact lv2 z
          · exact ext_in (by omega) (by omega)
        · exact lv5
      · exact fun k hk hl2 => OO k hl2 (fun e => by rw [e, a1] at hk; omega)
    refine (b_getI b7 rfl).mpr ?_
    rw [show (3 : Int32) = nI 3 from rfl, show (4 : Int32) = nI 4 from rfl]
    have hfate : lFate x = 0 := by show x.2.2.2.1 = 0; rw [hx2]
    refine b_ite (fun c1 => ?_) (fun c1 => ?_)
    · rw [nI_eq (by omega) (by omega)] at c1
      refine b_putI U7 (by simp) fun σ8 u8 => ?_
      exact fin 1 σ8 (by rw [if_neg (by omega)]; rfl) u8.1 u8.2.1 u8.2.2.1 u8.2.2.2
    rw [nI_eq (by omega) (by omega)] at c1
    refine (b_getI b7 rfl).mpr ?_
    refine b_ite (fun c2 => ?_) (fun c2 => ?_)
    · rw [nI_eq (by omega) (by omega)] at c2
      refine b_putI U7 (by simp) fun σ8 u8 => ?_
      exact fin 1 σ8 (by rw [if_neg (by omega)]; rfl) u8.1 u8.2.1 u8.2.2.1 u8.2.2.2
    rw [nI_eq (by omega) (by omega)] at c2
    exact fin (nI (lFate x)) σ7 (by rw [hfate, if_pos (by omega)]) U7 (fun _ _ => rfl) rfl rfl
end CLSK
