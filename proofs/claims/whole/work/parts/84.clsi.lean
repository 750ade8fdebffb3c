/-! ===== the class: whether a letter has a kind; the first rule for it ===== -/
def SG (g : Tg) (c : Nat → Nat) (σ : AH) (A : St) : Prop := Cls g c σ A ∧ ∀ i x, (aLet A)[i]? = some x → sgt σ (c i) x (rwA A)
section CLSI
variable {g : Tg} {c : Nat → Nat} {σ : AH} {A : St}
theorem SG.p20 {σ' : AH} {S : Nat → Bool} (h : SG g c σ A) (hS : Sm σ σ' 20 21) (hP : PB σ' 20 S) : SG g c σ' A := by
  obtain ⟨⟨k1, k2, k3, k4, k5, k6, k7, k8, ⟨k9, ⟨R, k9b⟩, k9c, k9d⟩, k10⟩, hs⟩ := h
  have o : ∀ k, k ≠ 20 → σ'.1[k]? = σ.1[k]? := fun k hk => hS.1 k (by omega)
  have ft : ∀ t, t ≠ 2 → FT t g σ g σ' := fun t ht => ft_sm hS (fun k a b => by rw [k1.2 k (by omega)]; exact Ne.symm ht)
  refine ⟨⟨lo_tag k1 hS.2.1, by rw [o 0 (by decide)]; exact k2, k3.fr (o 1 (by decide)), k4.fr (ft 1 (by decide)) (o 2 (by decide)), k5.fr (ft 1 (by decide)) (o 3 (by decide)), k6.fr (o 4 (by decide)), k7.fr (ft 1 (by decide)) (o 5 (by decide)) (o 6 (by decide)), k8.fr (o 7 (by decide)), ⟨k9.fr (fun k a b => o k (by omega)), ⟨R, k9b.frame (fun k a b => o k (by omega))⟩, ⟨S, hP⟩, k9d.fr (o 21 (by decide)) (o 22 (by decide))⟩, k10.fr (ft 1 (by decide)) (fun i _ => ft _ (by omega))⟩, fun i x hx k hk => ?_⟩
  obtain ⟨_, _, _, -, -, -, -, -, f0, -⟩ := k10 i x hx
  obtain ⟨g1, -⟩ := f0 k hk
  refine (hs i x hx k hk).frame (fun k' z1 z2 => o k' (fun e => ?_))
  have := g1 (k' - (c i + 11 + 5 * k)) (by omega)
  rw [show c i + 11 + 5 * k + (k' - (c i + 11 + 5 * k)) = k' by omega, e, k1.2 20 (by decide)] at this
  omega
theorem h7_piecesLetOut {l k : Nat} (h : SG g c σ A) (hW : DlW A) (hl : l < (aLet A).length) (hk : k < 8) (hs : kSort (aKind A k) = 4) : Hr (f7_piecesLetOut (some 0) (nI l) (nI k)) σ (fun r σ' => r = nI (fb_ct (pUp A l k (l + 1)) (wds (aKept A (kTx (aKind A k)))).length) ∧ SG g c σ' A ∧ Sm σ σ' 20 21) := by
  have h60 := hW.2.2.1
  obtain ⟨w1, w2, w3, w4, w5, w6, w7, w8, -⟩ := hW.2.1 k
  have hKL := hW.1 (kTx (aKind A k))
  have hcy := wds_cnt (aKept A (kTx (aKind A k)))
  obtain ⟨xl, hxl⟩ : ∃ x, (aLet A)[l]? = some x := ⟨_, List.getElem?_eq_getElem hl⟩
  have k2 := h.1.2.1
  obtain ⟨f, r1, r2⟩ := h.1.2.2.2.2.2.2.2.1
  obtain ⟨S0, hP0⟩ := h.1.2.2.2.2.2.2.2.2.1.2.2.1
  unfold f7_piecesLetOut
  refine (b_getR k2 rfl).mpr ?_
  refine (b_ldR r1 rfl (by omega) (by decide)).mpr ?_
  rw [r2 l hl]
  refine (b_getR k2 rfl).mpr ?_
  obtain ⟨pa, pm, pz, po, -⟩ := id hP0
  refine (b_obj po).mpr ?_
  refine b_hr (h3_clear po) ?_
  rintro _ σ1 ⟨hS1, hP1⟩
  refine b_hr (P := fun _ σ' => Sm σ σ' 20 21 ∧ SG g c σ' A ∧ PB σ' 20 (pUp A l k (l + 1))) ?_ ?_
  · refine hr_loop (fun z σ2 => ∃ i, z = nI i ∧ i ≤ l + 1 ∧ Sm σ σ2 20 21 ∧ SG g c σ2 A ∧ PB σ2 20 (pUp A l k i)) (fun z => 100 - z.toNatClampNeg) ⟨0, rfl, by omega, hS1, h.p20 hS1 hP1, hP1⟩ (by show 100 - _ < _; omega) ?_
    rintro rec z σ2 ⟨i, rfl, hi, hS2, h2, hP2⟩ ih
    unfold l7_piecesLetOut_17
    refine b_ite (fun c1 => ?_) (fun c1 => ?_)
    · rw [nI_ltI (by omega) (by omega)] at c1
      have : i = l + 1 := by omega
      subst this
      exact hr_rt.mpr ⟨hS2, h2, hP2⟩
    rw [nI_ltI (by omega) (by omega)] at c1
    have hm : 100 - (nI i + 1).toNatClampNeg < 100 - (nI i).toNatClampNeg := by rw [nI_1, nI_clamp (by omega), nI_clamp (by omega)]; omega
    obtain ⟨x, hx⟩ : ∃ x, (aLet A)[i]? = some x := ⟨_, List.getElem?_eq_getElem (by omega)⟩
    have m2 := h2.1.2.1
    obtain ⟨f', r1', r2'⟩ := h2.1.2.2.2.2.2.2.2.1
    obtain ⟨fn, lv, sd, ⟨a1, a2⟩, -, -, ⟨d1, sg, d2, d3⟩, -, f0, -⟩ := h2.1.2.2.2.2.2.2.2.2.2 i x hx
    obtain ⟨fn', lv', sd', ⟨a1', a2'⟩, -⟩ := h2.1.2.2.2.2.2.2.2.2.2 l xl hxl
    obtain ⟨fk, p1, p2⟩ := h2.1.2.2.2.2.1
    obtain ⟨q, p3, ⟨p4, wq, p5, -⟩⟩ := p2 k hk
    have wx := hW.2.2.2.1 x (List.mem_of_getElem? hx)
    have wxl := hW.2.2.2.1 xl (List.mem_of_getElem? hxl)
    have hmo := hW.2.2.2.2 i l x xl (by omega) hx hxl
    have ei := lAt_of hx
    have el := lAt_of hxl
    have skip : nearK A l k i = false → pUp A l k (i + 1) = pUp A l k i := fun hq => by
      funext p
      unfold pUp
      rw [any_succ, hq, Bool.false_and, Bool.or_false]
    refine (b_getR m2 rfl).mpr ?_
    refine (b_ldR r1' rfl (by omega) (by decide)).mpr ?_
    rw [r2' i (by omega)]
    refine (b_getI a2 rfl).mpr ?_
    refine (b_getI a2' rfl).mpr ?_
    refine b_ite (fun c2 => ?_) (fun c2 => ?_)
    · rw [nI_eq (by omega) (by omega)] at c2
      refine (b_getI a2' rfl).mpr ?_
      refine (b_getI a2 rfl).mpr ?_
      refine (b_getR m2 rfl).mpr ?_
      refine (b_ldR p1 rfl hk (by decide)).mpr ?_
      rw [p3]
      refine (b_getI p5 rfl).mpr ?_
      rw [nI_subN hmo]
      refine b_ite (fun c3 => ?_) (fun c3 => ?_)
      · rw [nI_ltI (by omega) (by omega)] at c3
        refine ih _ _ ⟨i + 1, nI_1 i, by omega, hS2, h2, ?_⟩ hm
        rw [skip (by simp only [nearK, decide_eq_false_iff_not, ei, el]; omega)]
        exact hP2
      · rw [nI_ltI (by omega) (by omega)] at c3
        have hF := h2.2 i x hx k hk
        obtain ⟨F, L, P, fo, -, -, -, fp, -⟩ := id hF
        refine (b_getR m2 rfl).mpr ?_
        refine (b_getR a2 rfl).mpr ?_
        refine (b_ldR d2 rfl hk (by decide)).mpr ?_
        rw [d3 k hk]
        refine (b_getR fo rfl).mpr ?_
        obtain ⟨pa, pm, pz, po, -⟩ := id hP2
        refine (b_obj po).mpr ?_
        have hne : c i + 11 + 5 * k + 1 ≠ 20 := fun e => by
          have := (f0 k hk).1 1 (by omega)
          rw [e, h2.1.1.2 20 (by decide)] at this
          omega
        refine b_hr (h3_putAll hP2 fp hne) ?_
        rintro _ σ3 ⟨hS3, hP3⟩
        refine ih _ _ ⟨i + 1, nI_1 i, by omega, hS2.tr hS3, h2.p20 hS3 hP3, ?_⟩ hm
        have : pUp A l k (i + 1) = (fun p => pUp A l k i p || sOf (rwA A k (lB x)) p) := by
          funext p
          unfold pUp
          rw [any_succ, show nearK A l k i = true by simp only [nearK, decide_eq_true_eq, ei, el]; omega, Bool.true_and]
          congr 1
          unfold rwA
          rw [rawF_par (Or.inr hs), sOf_par (by omega) (by omega), ei]
        rw [this]
        exact hP3
    · rw [nI_eq (by omega) (by omega)] at c2
      refine ih _ _ ⟨i + 1, nI_1 i, by omega, hS2, h2, ?_⟩ hm
      rw [skip (by simp only [nearK, decide_eq_false_iff_not, ei, el]; omega)]
      exact hP2
  · rintro _ σ2 ⟨hS2, h2, hP2⟩
    refine (b_getR h2.1.2.1 rfl).mpr ?_
    obtain ⟨pa, pm, pz, po, -⟩ := id hP2
    refine (b_obj po).mpr ?_
    refine (b_eq (e3_size hP2)).mpr ?_
    refine hr_rt.mpr ⟨?_, h2, hS2⟩
    rw [ct_beyond (S := pUp A l k (l + 1)) (a := (wds (aKept A (kTx (aKind A k)))).length) (b := 192) (by omega)]
    intro p hp
    unfold pUp
    rw [List.any_eq_false]
    intro i _
    rw [hasP_out (by omega) hp, Bool.and_false]
    decide
theorem h7_has {l k : Nat} (h : SG g c σ A) (hW : DlW A) (hl : l < (aLet A).length) (hk : k < 8) (hraw : ∀ xs, (rawF (aKept A) (aKind A k) (lB (lAt A l))).length < 2 ^ 19 ∨ xs = (0 : Nat)) : Hr (f7_has (some 0) (nI l) (nI k)) σ (fun r σ' => r = bI (hasK A l k) ∧ SG g c σ' A ∧ Sm σ σ' 20 21) := by
  have hraw : (rawF (aKept A) (aKind A k) (lB (lAt A l))).length < 2 ^ 19 := by
    rcases hraw 1 with q | q
    · exact q
    · cases q
  have h60 := hW.2.2.1
  obtain ⟨w1, w2, w3, w4, w5, w6, w7, w8, -⟩ := hW.2.1 k
  obtain ⟨x, hx⟩ : ∃ x, (aLet A)[l]? = some x := ⟨_, List.getElem?_eq_getElem hl⟩
  have el := lAt_of hx
  have wx := hW.2.2.2.1 x (List.mem_of_getElem? hx)
  have k2 := h.1.2.1
  obtain ⟨f, r1, r2⟩ := h.1.2.2.2.2.2.2.2.1
  obtain ⟨fa, p6, p6'⟩ := h.1.2.2.2.2.2.1
  obtain ⟨fk, p1, p2⟩ := h.1.2.2.2.2.1
  obtain ⟨q, p3, ⟨p4, wq, p5, -⟩⟩ := p2 k hk
  obtain ⟨fn, lv, sd, ⟨a1, a2⟩, -, -, ⟨d1, sg, d2, d3⟩, -, f0, -⟩ := h.1.2.2.2.2.2.2.2.2.2 l x hx
  have hF := h.2 l x hx k hk
  obtain ⟨_, _, _, _, fo⟩ := hF.obj
  have hpl : pair k (lS x) (lT x) < 800 := by unfold pair; omega
  have hfin : findR A l k = [] ∨ findR A l k = rwA A k (lB x) := by
    unfold findR
    split
    · exact Or.inl rfl
    · split
      · exact Or.inl rfl
      · exact Or.inr (by rw [el]; rfl)
  have hrl : (rwA A k (lB x)).length < 2 ^ 19 := by rw [el] at hraw; exact hraw
  unfold f7_has hasK
  rw [el]
  refine (b_getR k2 rfl).mpr ?_
  refine (b_ldR r1 rfl (by omega) (by decide)).mpr ?_
  rw [r2 l hl]
  refine (b_getR k2 rfl).mpr ?_
  refine (b_getI a2 rfl).mpr ?_
  refine (b_getI a2 rfl).mpr ?_
  refine (b_eq (e7_pairOf _ _ _ _)).mpr ?_
  refine (b_ld p6 rfl hpl (by decide)).mpr ?_
  rw [p6' _ hpl]
  refine b_ite (fun c1 => ?_) (fun c1 => ?_)
  · rw [bI_0] at c1
    rw [c1]
    refine (b_getR a2 rfl).mpr ?_
    refine (b_ldR d2 rfl hk (by decide)).mpr ?_
    rw [d3 k hk]
    refine (b_getI fo rfl).mpr ?_
    rw [show (0 : Int32) = nI 0 from rfl]
    refine b_ite (fun c2 => ?_) (fun c2 => ?_)
    · rw [nI_eq (by omega) (by omega)] at c2
      refine hr_rt.mpr ⟨?_, h, Sm.rf⟩
      have : (findR A l k).length = 0 := by
        rcases hfin with e | e
        · rw [e]; rfl
        · rw [e]; exact c2
      rw [this]
      rfl
    rw [nI_eq (by omega) (by omega)] at c2
    have yes : findR A l k = rwA A k (lB x) → nI 1 = bI (!false && decide (0 < (findR A l k).length)) := fun e => by
      rw [e, decide_eq_true (by omega)]
      rfl
    have no : findR A l k = [] → nI 0 = bI (!false && decide (0 < (findR A l k).length)) := fun e => by
      rw [e]
      rfl
    refine (b_getR k2 rfl).mpr ?_
    refine (b_ldR p1 rfl hk (by decide)).mpr ?_
    rw [p3]
    refine (b_getI p5 rfl).mpr ?_
    rw [show (3 : Int32) = nI 3 from rfl, show (4 : Int32) = nI 4 from rfl]
    refine b_ite (fun c3 => ?_) (fun c3 => ?_)
    · rw [nI_eq (by omega) (by omega)] at c3
      have er : rwA A k (lB x) = fNum (lB x) := rawF_num c3
      refine (b_getR k2 rfl).mpr ?_
      refine (b_ldR p1 rfl hk (by decide)).mpr ?_
      rw [p3]
      refine (b_getI p5 rfl).mpr ?_
      refine b_ite (fun c4 => ?_) (fun c4 => ?_)
      · rw [nI_ltI (by omega) (by omega)] at c4
        refine hr_rt.mpr ⟨no ?_, h, Sm.rf⟩
        unfold findR
        rw [if_pos ⟨c3, by rw [el]; rw [er] at c4; omega⟩]
      · rw [nI_ltI (by omega) (by omega)] at c4
        refine hr_rt.mpr ⟨yes ?_, h, Sm.rf⟩
        unfold findR
        rw [if_neg (fun z => z.2 (by rw [el]; rw [er] at c4; omega)), if_neg (by omega), el]
        rfl
    rw [nI_eq (by omega) (by omega)] at c3
    refine b_ite (fun c4 => ?_) (fun c4 => ?_)
    · rw [nI_eq (by omega) (by omega)] at c4
      refine (b_obj k2).mpr ?_
      refine b_hr (h7_piecesLetOut h hW hl hk c4) ?_
      rintro r σ1 ⟨rfl, h1, hS1⟩
      have hKL := hW.1 (kTx (aKind A k))
      have hcy := wds_cnt (aKept A (kTx (aKind A k)))
      have hct := fb_ct_le (pUp A l k (l + 1)) (wds (aKept A (kTx (aKind A k)))).length
      obtain ⟨fk', p1', p2'⟩ := h1.1.2.2.2.2.1
      obtain ⟨q', p3', ⟨p4', wq', p5', -⟩⟩ := p2' k hk
      refine (b_getR h1.1.2.1 rfl).mpr ?_
      refine (b_ldR p1' rfl hk (by decide)).mpr ?_
      rw [p3']
      refine (b_getI p5' rfl).mpr ?_
      refine b_ite (fun c5 => ?_) (fun c5 => ?_)
      · rw [nI_ltI (by omega) (by omega)] at c5
        refine hr_rt.mpr ⟨no ?_, h1, hS1⟩
        unfold findR
        rw [if_neg (by omega), if_pos ⟨c4, by simp only [enough, decide_eq_false_iff_not]; omega⟩]
      · rw [nI_ltI (by omega) (by omega)] at c5
        refine hr_rt.mpr ⟨yes ?_, h1, hS1⟩
        unfold findR
        rw [if_neg (by omega), if_neg (fun z => by have := z.2; simp only [enough, decide_eq_false_iff_not] at this; omega), el]
        rfl
    · rw [nI_eq (by omega) (by omega)] at c4
      refine hr_rt.mpr ⟨yes ?_, h, Sm.rf⟩
      unfold findR
      rw [if_neg (by omega), if_neg (by omega), el]
      rfl
  · rw [bI_0, Bool.not_eq_false] at c1
    rw [c1]
    exact hr_rt.mpr ⟨rfl, h, Sm.rf⟩
theorem e4_isFor {a b : Nat} {r : Rl} {x : Lt} {l : List Value} (ha : RlI g σ a r) (hb : σ.1[b]? = some (.inr (2, .int (nI (lS x)) :: .int (nI (lT x)) :: .int (nI (lW x)) :: l))) : f4_isFor (some a) (some b) σ = some (bI (forB r x), σ) := by
  refine hr_det ?_
  unfold f4_isFor forB
  refine (b_getI ha.2 rfl).mpr ?_
  refine b_hr (P := fun y σ' => σ' = σ ∧ ((y = .inr () ∧ (decide (rS r = -1) || decide (rS r = nI (lS x))) = true) ∨ (y = .inl 0 ∧ (decide (rS r = -1) || decide (rS r = nI (lS x))) = false))) ?_ ?_
  · refine b_ite (fun c => ?_) (fun c => ?_)
    · exact hr_rt.mpr ⟨rfl, Or.inl ⟨rfl, by rw [decide_eq_true c]; rfl⟩⟩
    · refine (b_getI ha.2 rfl).mpr ?_
      refine (b_getI hb rfl).mpr ?_
      refine b_ite (fun c2 => ?_) (fun c2 => ?_)
      · exact hr_rt.mpr ⟨rfl, Or.inl ⟨rfl, by rw [decide_eq_false c, decide_eq_true c2]; rfl⟩⟩
      · exact hr_rt.mpr ⟨rfl, Or.inr ⟨rfl, by rw [decide_eq_false c, decide_eq_false c2]; rfl⟩⟩
  · rintro y σ1 ⟨rfl, ⟨rfl, hq⟩ | ⟨rfl, hq⟩⟩
    · rw [Sum.elim_inr, hq, Bool.true_and]
      refine (b_getI ha.2 rfl).mpr ?_
      refine b_ite (fun c => ?_) (fun c => ?_)
      · exact hr_rt.mpr ⟨by rw [decide_eq_true c]; rfl, rfl⟩
      · refine (b_getI ha.2 rfl).mpr ?_
        refine (b_getI hb rfl).mpr ?_
        refine b_ite (fun c2 => ?_) (fun c2 => ?_)
        · exact hr_rt.mpr ⟨by rw [decide_eq_false c, decide_eq_true c2]; rfl, rfl⟩
        · exact hr_rt.mpr ⟨by rw [decide_eq_false c, decide_eq_false c2]; rfl, rfl⟩
    · rw [Sum.elim_inl, hq]
      exact hr_rt.mpr ⟨rfl, rfl⟩
theorem h7_firstRule {l q b : Nat} {rs : List Rl} (h : SG g c σ A) (hW : DlW A) (hl : l < (aLet A).length) (hR : RRI g σ q b rs) (hq : q ≠ 20) (hb : b ≠ 20) (hrw : ∀ r ∈ rs, RlW r) (hraw : ∀ k, k < 8 → (rawF (aKept A) (aKind A k) (lB (lAt A l))).length < 2 ^ 19) :
    Hr (f7_firstRule (some 0) (some q) (nI l)) σ (fun r σ' => SG g c σ' A ∧ Sm σ σ' 20 21 ∧ RRI g σ' q b rs ∧ ((r = none ∧ sel A rs l = none) ∨ ∃ a rl, r = some a ∧ RlI g σ' a rl ∧ sel A rs l = some rl ∧ rl ∈ rs)) := by
  have h60 := hW.2.2.1
  obtain ⟨x, hx⟩ : ∃ x, (aLet A)[l]? = some x := ⟨_, List.getElem?_eq_getElem hl⟩
  have el := lAt_of hx
  have hl21 : rs.length ≤ 21 := by obtain ⟨_, _, _, z, _⟩ := hR; exact z
  have k2 := h.1.2.1
  obtain ⟨f, r1, r2⟩ := h.1.2.2.2.2.2.2.2.1
  unfold f7_firstRule
  refine (b_getR k2 rfl).mpr ?_
  refine (b_ldR r1 rfl (by omega) (by decide)).mpr ?_
  rw [r2 l hl]
  have frR : ∀ σ1, SG g c σ A → Sm σ σ1 20 21 → RRI g σ1 q b rs := fun σ1 h1 hS => hR.fr (ft_sm hS (fun k a b => by rw [h1.1.1.2 k (by omega)]; decide)) (hS.1 q (by omega)) (hS.1 b (by omega))
  refine b_hr (P := fun y σ' => SG g c σ' A ∧ Sm σ σ' 20 21 ∧ ((y = .inr () ∧ sel A rs l = none) ∨ ∃ a rl, y = .inl (some a) ∧ RlI g σ' a rl ∧ sel A rs l = some rl ∧ rl ∈ rs)) ?_ ?_
  · refine hr_loop (fun z σ1 => ∃ i, z = nI i ∧ i ≤ rs.length ∧ SG g c σ1 A ∧ Sm σ σ1 20 21 ∧ sel A rs l = (rs.drop i).find? (selB A l)) (fun z => 100 - z.toNatClampNeg) ⟨0, rfl, Nat.zero_le _, h, Sm.rf, rfl⟩ (by show 100 - _ < _; omega) ?_
    rintro rec z σ1 ⟨i, rfl, hi, h1, hS1, hse⟩ ih
    have hR1 := frR σ1 h hS1
    obtain ⟨f1, q1, q2, -, q4⟩ := id hR1
    unfold l7_firstRule_10
    refine (b_getI q1 rfl).mpr ?_
    refine b_ite (fun c1 => ?_) (fun c1 => ?_)
    · rw [nI_leI (by omega) (by omega)] at c1
      rw [List.drop_eq_nil_of_le (by omega)] at hse
      exact hr_rt.mpr ⟨h1, hS1, Or.inl ⟨rfl, hse⟩⟩
    rw [nI_leI (by omega) (by omega)] at c1
    have hm : 100 - (nI i + 1).toNatClampNeg < 100 - (nI i).toNatClampNeg := by rw [nI_1, nI_clamp (by omega), nI_clamp (by omega)]; omega
    obtain ⟨rl, hrl⟩ : ∃ r, rs[i]? = some r := ⟨_, List.getElem?_eq_getElem (by omega)⟩
    have hrlw := hrw rl (List.mem_of_getElem? hrl)
    rw [find_drop hrl] at hse
    refine (b_obj q1).mpr ?_
    obtain ⟨o, e1, e2⟩ := e5_get (i := nI i) hR1
    refine (b_eq e1).mpr ?_
    rcases e2 with ⟨-, z2⟩ | ⟨j, a, r, rfl, hj, hij, hr, ha, -⟩
    · exact absurd ((in_m1 (by omega)).mpr ⟨i, by omega, rfl⟩) z2
    rw [nI_eq (by omega) (by omega)] at hij
    subst hij
    rw [hrl] at hr
    cases hr
    rw [if_neg (by simp)]
    obtain ⟨fn, lv, sd, ⟨a1, a2⟩, -⟩ := h1.1.2.2.2.2.2.2.2.2.2 l x hx
    refine (b_obj ha.2).mpr ?_
    refine (b_eq (e4_isFor ha a2)).mpr ?_
    refine b_ite (fun c2 => ?_) (fun c2 => ?_)
    · rw [bI_0] at c2
      refine ih _ _ ⟨i + 1, nI_1 i, by omega, h1, hS1, ?_⟩ hm
      rw [hse, show selB A l rl = false by unfold selB; rw [el, c2]; rfl, if_neg (by decide)]
    rw [bI_0, Bool.not_eq_false] at c2
    refine (b_getI ha.2 rfl).mpr ?_
    refine (b_obj h1.1.2.1).mpr ?_
    refine b_hr (h7_has h1 hW hl hrlw.1 (fun _ => Or.inl (hraw _ hrlw.1))) ?_
    rintro r σ2 ⟨rfl, h2, hS2⟩
    refine b_ite (fun c3 => ?_) (fun c3 => ?_)
    · rw [bI_0] at c3
      refine ih _ _ ⟨i + 1, nI_1 i, by omega, h2, hS1.tr hS2, ?_⟩ hm
      rw [hse, show selB A l rl = false by unfold selB; rw [c3, Bool.and_false], if_neg (by decide)]
    · rw [bI_0, Bool.not_eq_false] at c3
      refine hr_rt.mpr ⟨h2, hS1.tr hS2, Or.inr ⟨a, rl, rfl, ?_, ?_, List.mem_of_getElem? hrl⟩⟩
      · exact ha.fr (ft_sm hS2 (fun k a b => by rw [h1.1.1.2 k (by omega)]; decide))
      · rw [hse, show selB A l rl = true by unfold selB; rw [el, c2, c3]; rfl, if_pos rfl]
  · rintro y σ1 ⟨h1, hS1, ⟨rfl, hq⟩ | ⟨a, rl, rfl, hq, hq2, hq3⟩⟩
    · rw [Sum.elim_inr]
      exact hr_rt.mpr ⟨h1, hS1, frR σ1 h hS1, Or.inl ⟨rfl, hq⟩⟩
    · rw [Sum.elim_inl]
      exact hr_rt.mpr ⟨h1, hS1, frR σ1 h hS1, Or.inr ⟨a, rl, rfl, hq, hq2, hq3⟩⟩
end CLSI
