/-! ===== the class's calls: mark, keep ===== -/
section CLSF
variable {g g' : Tg} {c : Nat → Nat} {σ σ' : AH} {A : St}
theorem Cls.ft (h : Cls g c σ A) (hf : ∀ k, g k ≠ 0 → g' k = g k ∧ σ'.1[k]? = σ.1[k]?) (hz : ∀ k, g' k ≠ 0 → k < σ'.1.length) : Cls g' c σ' A := by
  obtain ⟨k1, k2, k3, k4, k5, k6, k7, k8, k9, k10⟩ := h
  have n0 : ∀ k, k < 23 → g k ≠ 0 := fun k hk => by rw [k1.2 k hk]; decide
  have ft : ∀ t, t ≠ 0 → FT t g σ g' σ' := fun t ht k hk => by
    have := hf k (by rw [hk]; exact ht)
    exact ⟨this.1.trans hk, this.2⟩
  have o : ∀ k, k < 23 → σ'.1[k]? = σ.1[k]? := fun k hk => (hf k (n0 k hk)).2
  exact ⟨⟨hz, fun k hk => by rw [(hf k (n0 k hk)).1]; exact k1.2 k hk⟩, by rw [o 0 (by decide)]; exact k2, k3.fr (o 1 (by decide)), k4.fr (ft 1 (by decide)) (o 2 (by decide)), k5.fr (ft 1 (by decide)) (o 3 (by decide)), k6.fr (o 4 (by decide)), k7.fr (ft 1 (by decide)) (o 5 (by decide)) (o 6 (by decide)), k8.fr (o 7 (by decide)), k9.fr (fun k _ b => o k b), k10.fr (ft 1 (by decide)) (fun i _ => ft _ (by omega))⟩
theorem StW.tape0 (h : StW A) : StW ((aDay A, []), A.2) := ⟨h.1, Nat.zero_le _, h.2.2⟩
theorem d7_mark {a : Int32} (h : Cls g c σ A) (hW : StW A) : Hr (f7_mark (some 0) a) σ (CQ g σ 60 2100 (pMark A a)) := by
  unfold f7_mark pMark
  have hcx := wds_cnt (aTape A)
  have htl := hW.2.1
  refine (b_eq (e7_isKind _ _)).mpr ?_
  by_cases c1 : ¬ (0 ≤ a ∧ a ≤ 7)
  · rw [decide_eq_false c1, if_pos (show bI false = 0 from rfl), if_neg (fun q => c1 q.1)]
    exact cq_rt rfl h
  have c1 := Classical.not_not.mp c1
  rw [decide_eq_true c1, if_neg (show ¬ bI true = 0 by decide)]
  obtain ⟨i, hi, rfl⟩ := (in_nI (m := 7) (by decide)).mp c1
  rw [show tn (nI i) = i from nI_clamp (by omega)]
  refine (b_obj h.2.1).mpr ?_
  refine b_hr (h7_readTape h hW) ?_
  rintro _ σ1 ⟨rfl, h1, hS, hT⟩
  have x1 := cx_lo h.1 hS (by omega)
  obtain ⟨_, _, _, _, _, _, _, to⟩ := hT.obj
  refine (b_getI to rfl).mpr ?_
  rw [show (0 : Int32) = nI 0 from rfl]
  refine b_ite (fun c2 => ?_) (fun c2 => ?_)
  · rw [nI_eq (by omega) (by omega)] at c2
    rw [if_neg (by omega)]
    exact hr_rt.mpr ⟨rfl, g, c, h1, x1.wk (by omega) (by omega)⟩
  rw [nI_eq (by omega) (by omega)] at c2
  rw [if_pos ⟨c1, by omega⟩]
  refine b_newO fun σ2 n2 => ?_
  have l2 : σ2.1.length = σ1.1.length + 1 := n2.2.2.1
  have h2 := h1.grow (g' := g) n2.2.1 (fun _ _ => rfl) (fun k hk => by have := h1.1.1 k hk; omega)
  refine (b_obj h2.2.1).mpr ?_
  refine b_hr (h7_takeTape h2 hW) ?_
  rintro _ σ3 ⟨rfl, l3, h3, hT3, x3, o3⟩
  have q0 : σ3.1[σ1.1.length]? = some (.inr (1, [.int 0, .null, .int 0, .int 0, .int 0, .int 0])) := by
    rw [o3 _ (by omega) (by have := h1.len; omega)]; exact n2.1
  refine (b_obj q0).mpr ?_
  refine b_hr (h1_init q0) ?_
  rintro _ σ4 u
  have gq : ext g σ2.1.length (σ2.1.length + 7) 1 σ1.1.length = 0 := by
    rw [ext_lo (by omega)]
    exact Classical.byContradiction fun z => by have := h1.1.1 _ z; omega
  generalize hg3 : ext g σ2.1.length (σ2.1.length + 7) 1 = g3 at h3 hT3 x3 gq
  have h4 := h3.ft (g' := fun k => if k = σ1.1.length then 1 else g3 k) (σ' := σ4) (fun k hk => by
    have : k ≠ σ1.1.length := fun e => hk (by rw [e]; exact gq)
    exact ⟨if_neg this, u.2.1 k this⟩) (fun k hk => by
    rw [u.2.2.1]
    by_cases e : k = σ1.1.length
    · omega
    · rw [if_neg e] at hk
      exact h3.1.1 k hk)
  have ft1 : FT 1 g3 σ3 (fun k => if k = σ1.1.length then 1 else g3 k) σ4 := fun k hk => by
    have : k ≠ σ1.1.length := fun e => by rw [e, gq] at hk; omega
    exact ⟨by simp only [if_neg this]; exact hk, u.2.1 k this⟩
  have x4 : CX g3 σ3 (fun k => if k = σ1.1.length then 1 else g3 k) σ4 0 0 → True := fun _ => trivial
  refine (b_obj h4.2.1).mpr ?_
  refine b_hr (h7_setKind (d := ((1, aTape A, 0, 2, 1, 0) : Kd)) h4 hW.tape0 (k := i) (by omega) ⟨if_pos rfl, some σ2.1.length, by rw [u.1]; rfl, fun _ => ⟨_, rfl, hT3.fr ft1⟩⟩) ?_
  rintro _ σ5 ⟨h5, x5⟩
  refine hr_rt.mpr ⟨rfl, _, c, h5, ?_⟩
  have xx : CX g σ1 (fun k => if k = σ1.1.length then 1 else g3 k) σ4 8 1364 := by
    obtain ⟨y1, y2, y3, y4, y5⟩ := x3
    refine ⟨fun k hk => ?_, fun k hk hl => ?_, by rw [u.2.2.1]; omega, by rw [u.2.2.1]; omega, ?_⟩
    · simp only [if_neg (show k ≠ σ1.1.length by omega)]
      exact y1 k (by omega)
    · rw [u.2.1 k (by omega), y2 k hk (by omega)]
      exact n2.2.1 k hl
    · rw [u.2.2.2]
      have := n2.2.2.2
      simp only [List.length_cons, List.length_nil] at this
      omega
  exact ((x1.tr xx).tr x5).wk (by omega) (by omega)
theorem LtI.cg {cc i : Nat} {x : Lt} {r1 r2 : Nat → List Int32 → List T3} (h : LtI g σ cc i x r1) (he : ∀ j, j < 8 → ∀ xs, r2 j xs = r1 j xs) : LtI g σ cc i x r2 := by
  obtain ⟨fn, lv, sd, a1, b1, c1, d1, e1, f1, h2⟩ := h
  refine ⟨fn, lv, sd, a1, b1, c1, d1, e1, fun k hk => ?_, h2⟩
  rw [he k hk]
  exact f1 k hk
theorem e1_isOver {q t : Nat} {d : Kd} (h : KdI g σ q d) (hw : KdW d) (ht : t < 8) : f1_isOver (some q) (nI t) σ = some (bI (decide ((kSort d = 2 ∨ kSort d = 4) ∧ kTx d = t)), σ) := by
  obtain ⟨h1, wq, h2, -⟩ := h
  obtain ⟨w1, w2, -⟩ := hw
  refine hr_det ?_
  unfold f1_isOver
  refine (b_getI h2 rfl).mpr ?_
  refine b_hr (P := fun y σ' => σ' = σ ∧ ((y = .inr () ∧ (kSort d = 2 ∨ kSort d = 4)) ∨ (y = .inl 0 ∧ ¬ (kSort d = 2 ∨ kSort d = 4)))) ?_ ?_
  · rw [show (2 : Int32) = nI 2 from rfl, show (4 : Int32) = nI 4 from rfl]
    refine b_ite (fun c => ?_) (fun c => ?_)
    · rw [nI_eq (by omega) (by omega)] at c
      exact hr_rt.mpr ⟨rfl, Or.inl ⟨rfl, Or.inl c⟩⟩
    · rw [nI_eq (by omega) (by omega)] at c
      refine (b_getI h2 rfl).mpr ?_
      refine b_ite (fun c2 => ?_) (fun c2 => ?_)
      · rw [nI_eq (by omega) (by omega)] at c2
        exact hr_rt.mpr ⟨rfl, Or.inl ⟨rfl, Or.inr c2⟩⟩
      · rw [nI_eq (by omega) (by omega)] at c2
        exact hr_rt.mpr ⟨rfl, Or.inr ⟨rfl, by omega⟩⟩
  · rintro y σ1 ⟨rfl, ⟨rfl, hq⟩ | ⟨rfl, hq⟩⟩
    · rw [Sum.elim_inr]
      refine (b_getI h2 rfl).mpr ?_
      refine b_ite (fun c => ?_) (fun c => ?_)
      · rw [nI_eq (by omega) (by omega)] at c
        exact hr_rt.mpr ⟨by rw [decide_eq_true ⟨hq, c⟩]; rfl, rfl⟩
      · rw [nI_eq (by omega) (by omega)] at c
        exact hr_rt.mpr ⟨by rw [decide_eq_false (fun z => c z.2)]; rfl, rfl⟩
    · rw [Sum.elim_inl]
      exact hr_rt.mpr ⟨by rw [decide_eq_false (fun z => hq z.1)]; rfl, rfl⟩
theorem d7_keep {a : Int32} (h : Cls g c σ A) (hW : StW A) : Hr (f7_keep (some 0) a) σ (CQ g σ 60 2100 (pKeep A a)) := by
  unfold f7_keep pKeep
  have h60 := hW.2.2.2.2.2.2.1
  refine (b_eq (e7_isText _ _)).mpr ?_
  by_cases c1 : ¬ (0 ≤ a ∧ a ≤ 7)
  · rw [decide_eq_false c1, if_pos (show bI false = 0 from rfl), if_neg c1]
    exact cq_rt rfl h
  have c1 := Classical.not_not.mp c1
  rw [decide_eq_true c1, if_neg (show ¬ bI true = 0 by decide), if_pos c1]
  obtain ⟨i, hi, rfl⟩ := (in_nI (m := 7) (by decide)).mp c1
  rw [show tn (nI i) = i from nI_clamp (by omega)]
  refine (b_obj h.2.1).mpr ?_
  refine b_hr (h7_takeTape h hW) ?_
  rintro _ σ1 ⟨rfl, l1, h1, hT1, x1, -⟩
  generalize ext g σ.1.length (σ.1.length + 7) 1 = g1 at h1 hT1 x1
  obtain ⟨k1, k2, k3, ⟨f, k4, k4'⟩, k5, k6, k7, k8, k9, k10⟩ := id h1
  obtain ⟨cap, hC⟩ := hT1.2
  obtain ⟨_, _, _, _, _, _, _, to⟩ := hC.obj
  refine (b_getR k2 rfl).mpr ?_
  refine b_stR k4 rfl (by omega) (by decide) (Or.inr (rdO_some to)) fun σ2 u => ?_
  have ft : ∀ t, t ≠ 2 → FT t g1 σ1 g1 σ2 := fun t ht => lo_ft k1 u (by decide) ht
  have o : ∀ k, k ≠ 2 → σ2.1[k]? = σ1.1[k]? := u.2.1
  have m0 := k2
  rw [← o 0 (by decide)] at m0
  have z2 : g1 2 ≠ 0 := by rw [k1.2 2 (by decide)]; decide
  refine (b_obj m0).mpr ?_
  have hk5 := k5.fr (ft 1 (by decide)) (o 3 (by decide))
  have key : Hr (f7_forgetKindsOver (some 0) (nI i)) σ2 (fun _ σ' => CX g1 σ2 g1 σ' 0 0 ∧ FT 1 g1 σ2 g1 σ' ∧ FT 2 g1 σ2 g1 σ' ∧ cTag g1 σ' ∧ cLet g1 c σ' (aLet A) (rwA ((aDay A, []), upF (aKept A) i (aTape A), A.2.2))) := by
    unfold f7_forgetKindsOver
    refine b_hr (P := fun _ σ' => CX g1 σ2 g1 σ' 0 0 ∧ FT 1 g1 σ2 g1 σ' ∧ FT 2 g1 σ2 g1 σ' ∧ cTag g1 σ' ∧ cLet g1 c σ' (aLet A) (rwA ((aDay A, []), upF (aKept A) i (aTape A), A.2.2))) ?_ (fun _ _ hq => hr_rt.mpr hq)
    refine hr_loop (fun x σ3 => ∃ j, x = nI j ∧ j ≤ 8 ∧ CX g1 σ2 g1 σ3 0 0 ∧ FT 1 g1 σ2 g1 σ3 ∧ FT 2 g1 σ2 g1 σ3 ∧ cTag g1 σ3 ∧ cLet g1 c σ3 (aLet A) (fun m xs => if m < j then rwA ((aDay A, []), upF (aKept A) i (aTape A), A.2.2) m xs else rwA A m xs)) (fun x => 100 - x.toNatClampNeg) ⟨0, rfl, by omega, CX.rf, FT.rf, FT.rf, lo_tag k1 u.2.2.1, fun m y hy => ((k10.fr (ft 1 (by decide)) (fun i _ => ft _ (by omega))) m y hy).cg (fun j _ xs => by rw [if_neg (by omega)]; rfl)⟩ (by show 100 - _ < _; omega) ?_
    rintro rec x σ3 ⟨j, rfl, hj, hX, f1, f2, ht3, hL⟩ ih
    unfold l7_forgetKindsOver_2
    rw [show (8 : Int32) = nI 8 from rfl]
    refine b_ite (fun c2 => ?_) (fun c2 => ?_)
    · rw [nI_leI (by omega) (by omega)] at c2
      exact hr_rt.mpr ⟨hX, f1, f2, ht3, fun m y hy => (hL m y hy).cg (fun j' hj' xs => by rw [if_pos (by omega)])⟩
    · rw [nI_leI (by omega) (by omega)] at c2
      have hm : 100 - (nI j + 1).toNatClampNeg < 100 - (nI j).toNatClampNeg := by rw [nI_1, nI_clamp (by omega), nI_clamp (by omega)]; omega
      have n0 := m0
      rw [← (f2 0 (k1.2 0 (by decide))).2] at n0
      obtain ⟨fk, p1, p2⟩ := hk5.fr f1 ((f2 3 (k1.2 3 (by decide))).2)
      obtain ⟨q, p3, p4⟩ := p2 j (by omega)
      obtain ⟨_, wq, p5, -⟩ := id p4
      refine (b_getR n0 rfl).mpr ?_
      refine (b_ldR p1 rfl (by omega) (by decide)).mpr ?_
      rw [p3]
      refine (b_obj p5).mpr ?_
      have hkw := hW.2.2.2.1 j
      refine (b_eq (e1_isOver (t := i) p4 hkw (by omega))).mpr ?_
      refine b_ite (fun c3 => ?_) (fun c3 => ?_)
      · rw [bI_0, decide_eq_false_iff_not] at c3
        refine ih _ _ ⟨j + 1, nI_1 j, by omega, hX, f1, f2, ht3, fun m y hy => (hL m y hy).cg (fun j' hj' xs => ?_)⟩ hm
        by_cases e : j' = j
        · subst e
          rw [if_pos (by omega), if_neg (by omega)]
          show rawF (upF (aKept A) i (aTape A)) (aKind A j') xs = rawF (aKept A) (aKind A j') xs
          unfold rawF
          by_cases s1 : kSort (aKind A j') = 2 ∨ kSort (aKind A j') = 4
          · have : kTx (aKind A j') ≠ i := fun z => c3 ⟨s1, z⟩
            simp only [upF, if_neg this]
          · simp only [if_neg s1]
        · by_cases ji : j' < j
          · rw [if_pos (by omega), if_pos ji]
          · rw [if_neg (by omega), if_neg ji]
      · rw [bI_0, Bool.not_eq_false, decide_eq_true_eq] at c3
        refine (b_obj n0).mpr ?_
        refine b_hr (h7_forgetSights (n := 0) (rw2 := fun m xs => if m < j + 1 then rwA ((aDay A, []), upF (aKept A) i (aTape A), A.2.2) m xs else rwA A m xs) ht3 n0 (k8.fr ((((f2 7 (k1.2 7 (by decide))).2).trans (o 7 (by decide))))) hL h60 (by omega) (fun j' hj' hne xs => ?_)) ?_
        · by_cases ji : j' < j
          · rw [if_pos (by omega), if_pos ji]
          · rw [if_neg (by omega), if_neg ji]
        · rintro _ σ4 ⟨y1, y2, y3, y4, y5⟩
          exact ih _ _ ⟨j + 1, nI_1 j, by omega, hX.tr y1, f1.tr y2, f2.tr y3, y4, y5⟩ hm
  refine b_hr key ?_
  rintro _ σ3 ⟨hX, f1, f2, ht3, hL⟩
  have F1 := (ft 1 (by decide)).tr f1
  have oo : ∀ k, k < 23 → k ≠ 2 → σ3.1[k]? = σ1.1[k]? := fun k a b => ((f2 k (k1.2 k a)).2).trans (o k b)
  have hT3 := hT1.fr F1
  obtain ⟨cap3, hC3⟩ := hT3.2
  obtain ⟨_, _, _, _, _, _, _, to3⟩ := hC3.obj
  refine (b_getI to3 rfl).mpr ?_
  refine hr_rt.mpr ⟨rfl, g1, c, ⟨ht3, by rw [oo 0 (by decide) (by decide)]; exact k2, k3.fr (oo 1 (by decide) (by decide)), ⟨_, by rw [(f2 2 (k1.2 2 (by decide))).2]; exact u.1, fun j hj => ?_⟩, k5.fr F1 (oo 3 (by decide) (by decide)), k6.fr (oo 4 (by decide) (by decide)), k7.fr F1 (oo 5 (by decide) (by decide)) (oo 6 (by decide) (by decide)), k8.fr (oo 7 (by decide) (by decide)), k9.fr (fun k a b => oo k b (by omega)), hL⟩, ((x1.tr (cx_up u z2)).tr hX).wk (by omega) (by omega)⟩
  show ∃ q', va_up f i (some σ.1.length) j = some q' ∧ TxI g1 σ3 q' (upF (aKept A) i (aTape A) j)
  by_cases e : j = i
  · subst e
    refine ⟨σ.1.length, by simp [va_up], ?_⟩
    simp only [upF, if_true]
    exact hT3
  · obtain ⟨q', h3, h4⟩ := k4' j hj
    refine ⟨q', by simp [va_up, e]; exact h3, ?_⟩
    simp only [upF, if_neg e]
    exact h4.fr F1
end CLSF
