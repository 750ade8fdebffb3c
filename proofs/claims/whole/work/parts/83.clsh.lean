/-! ===== the class: looking at letters; whether a letter has a kind; the first rule ===== -/
theorem dj {g : Tg} {q n qf m t : Nat} (h1 : ∀ k, q ≤ k → k < q + n → g k = t) (h2 : ∀ k, qf ≤ k → k < qf + m → g k ≠ t) (hn : 0 < n) (hm : 0 < m) : q + n ≤ qf ∨ qf + m ≤ q := by
  by_cases a : q ≤ qf
  · left
    exact Classical.byContradiction fun z => h2 qf (Nat.le_refl _) (by omega) (h1 qf a (by omega))
  · right
    exact Classical.byContradiction fun z => h2 q (by omega) (by omega) (h1 q (Nat.le_refl _) (by omega))
/-- all that letter x holds, kind by kind, is looked at -/
def sgt (σ : AH) (cc : Nat) (x : Lt) (rw0 : Nat → List Int32 → List T3) : Prop := ∀ k, k < 8 → FB σ (cc + 11 + 5 * k) 0 (rw0 k (lB x))
section CLSH
variable {g : Tg} {c : Nat → Nat} {σ : AH} {A : St}
theorem h7_collect {q tq qf capf : Nat} {d : Kd} {xs : List Int32} {kp : Nat → List Int32} {D m n : Nat} (h0 : σ.1[0]? = some (.inr (7, dgl D m n))) (hk : cKept g σ kp) (hq : KdI g σ q d) (hw : KdW d) (hT : TxI g σ tq xs) (hF : FB σ qf capf []) (hd : ∀ k, qf ≤ k → k < qf + 5 → g k ≠ 1) (hc : capf < 2 ^ 30) :
    Hr (f7_collect (some 0) (some q) (some tq) (some qf)) σ (fun _ σ' => Sm σ σ' qf (qf + 5) ∧ FB σ' qf capf (rawF kp d xs)) := by
  obtain ⟨q1, wq, q2, q3⟩ := hq
  obtain ⟨w1, w2, w3, w4, w5, w6, w7, w8, w9⟩ := hw
  obtain ⟨t1, cap, t2⟩ := id hT
  obtain ⟨_, _, _, _, _, _, _, to⟩ := t2.obj
  have dT := dj t1 hd (by decide) (by decide)
  obtain ⟨fk, p1, p2⟩ := hk
  obtain ⟨kq, p3, ⟨p4, kcap, p5⟩⟩ := p2 (kTx d) w2
  have dK := dj p4 hd (by decide) (by decide)
  have par : (kSort d = 2 ∨ kSort d = 4) → Hr (bn (oGetR (some 0) 7 3) fun v58 => bn (oGetI (some q) 1 2) fun v62 => bn (oLdR 2 v58 v62) fun v65 => bn (oGetI (some q) 1 3) fun v67 => bn (oObj (some tq) 6) fun _ => bn (f6_collectParts (some tq) v65 v67 (some qf)) fun _ => rt ()) σ (fun _ σ' => Sm σ σ' qf (qf + 5) ∧ FB σ' qf capf (rawF kp d xs)) := by
    intro hs
    rw [rawF_par hs]
    refine (b_getR h0 rfl).mpr ?_
    refine (b_getI q2 rfl).mpr ?_
    refine (b_ldR p1 rfl w2 (by decide)).mpr ?_
    rw [p3]
    refine (b_getI q2 rfl).mpr ?_
    refine (b_obj to).mpr ?_
    refine b_hr (h6_collectParts t2 p5 w3 w4 hF dT dK hc) ?_
    rintro _ σ1 hq
    exact hr_rt.mpr hq
  unfold f7_collect
  refine (b_getI q2 rfl).mpr ?_
  rw [show (1 : Int32) = nI 1 from rfl, show (2 : Int32) = nI 2 from rfl, show (3 : Int32) = nI 3 from rfl, show (4 : Int32) = nI 4 from rfl]
  refine b_ite (fun c1 => ?_) (fun c1 => ?_)
  · rw [nI_eq (by omega) (by omega)] at c1
    obtain ⟨a, rfl, ⟨a1, acap, a2⟩⟩ := q3 c1
    have dA := dj a1 hd (by decide) (by decide)
    rw [rawF_mark c1]
    refine (b_getR q2 rfl).mpr ?_
    refine (b_obj to).mpr ?_
    refine b_hr (h6_collectAlike t2 a2 (w9 c1) hF dT dA hc) ?_
    rintro _ σ1 hq
    exact hr_rt.mpr hq
  rw [nI_eq (by omega) (by omega)] at c1
  refine b_ite (fun c2 => ?_) (fun c2 => ?_)
  · rw [nI_eq (by omega) (by omega)] at c2
    exact par (Or.inl c2)
  rw [nI_eq (by omega) (by omega)] at c2
  refine b_ite (fun c3 => ?_) (fun c3 => ?_)
  · rw [nI_eq (by omega) (by omega)] at c3
    rw [rawF_num c3]
    refine (b_obj to).mpr ?_
    refine b_hr (h6_collectNumbers t2 hF dT hc) ?_
    rintro _ σ1 hq
    exact hr_rt.mpr hq
  rw [nI_eq (by omega) (by omega)] at c3
  refine b_ite (fun c4 => ?_) (fun c4 => ?_)
  · rw [nI_eq (by omega) (by omega)] at c4
    exact par (Or.inr c4)
  rw [nI_eq (by omega) (by omega)] at c4
  refine hr_rt.mpr ⟨Sm.rf, ?_⟩
  unfold rawF
  rw [if_neg c1, if_neg c3, if_neg (by omega)]
  exact hF
theorem h7_sight {i : Nat} {x : Lt} {D m n : Nat} (ht : cTag g σ) (h0 : σ.1[0]? = some (.inr (7, dgl D m n))) (hk : cKept g σ (aKept A)) (hkd : cKind g σ (aKind A)) (hw : ∀ k, KdW (aKind A k)) (hL : LtI g σ (c i) i x (rwA A)) {y : Int32} :
    Hr (fx (l7_sightAll_19 (some 0) y (some (c i + 1))) FUEL 0) σ (fun _ σ' => (∀ t, t ≠ 3 + i → FT t g σ g σ') ∧ CX g σ g σ' 0 0 ∧ LtI g σ' (c i) i x (rwA A) ∧ sgt σ' (c i) x (rwA A)) := by
  refine hr_loop (fun z σ1 => ∃ k, z = nI k ∧ k ≤ 8 ∧ (∀ t, t ≠ 3 + i → FT t g σ g σ1) ∧ CX g σ g σ1 0 0 ∧ LtI g σ1 (c i) i x (rwA A) ∧ ∀ j, j < k → FB σ1 (c i + 11 + 5 * j) 0 (rwA A j (lB x))) (fun z => 100 - z.toNatClampNeg) ⟨0, rfl, by omega, fun _ _ => FT.rf, CX.rf, hL, fun j hj => by omega⟩ (by show 100 - _ < _; omega) ?_
  rintro rec z σ1 ⟨k, rfl, hk8, hft, hX, hL1, hS⟩ ih
  unfold l7_sightAll_19
  rw [show (8 : Int32) = nI 8 from rfl]
  refine b_ite (fun c1 => ?_) (fun c1 => ?_)
  · rw [nI_leI (by omega) (by omega)] at c1
    exact hr_rt.mpr ⟨hft, hX, hL1, fun j hj => hS j (by omega)⟩
  rw [nI_leI (by omega) (by omega)] at c1
  have hm : 100 - (nI k + 1).toNatClampNeg < 100 - (nI k).toNatClampNeg := by rw [nI_1, nI_clamp (by omega), nI_clamp (by omega)]; omega
  obtain ⟨fn, lv, sd, ⟨a1, a2⟩, ⟨b1, cm, b2, b3⟩, cc, ⟨d1, sg, d2, d3⟩, ⟨e1, e2⟩, f0, hf, ⟨l1, lf, l2, l3⟩⟩ := id hL1
  obtain ⟨f1, R, f2, f3⟩ := f0 k (by omega)
  have n0 := h0
  rw [← (hft 2 (by omega) 0 (ht.2 0 (by decide))).2] at n0
  refine (b_getR a2 rfl).mpr ?_
  refine (b_ld e2 rfl (by omega) (by decide)).mpr ?_
  rcases f3 with f3 | ⟨f3, f4⟩
  · rw [f3, if_pos rfl]
    refine (b_getR a2 rfl).mpr ?_
    refine (b_ldR d2 rfl (by omega) (by decide)).mpr ?_
    rw [d3 k (by omega)]
    obtain ⟨_, _, _, _, fo⟩ := f2.obj
    refine (b_obj fo).mpr ?_
    refine b_hr (h0_clear f2) ?_
    rintro _ σ2 ⟨hS2, hF2⟩
    have tg5 : ∀ k', c i + 11 + 5 * k ≤ k' → k' < c i + 11 + 5 * k + 5 → g k' = 3 + i := fun k' z1 z2 => by
      have := f1 (k' - (c i + 11 + 5 * k)) (by omega)
      rwa [show c i + 11 + 5 * k + (k' - (c i + 11 + 5 * k)) = k' by omega] at this
    have ft2 : ∀ t, t ≠ 3 + i → FT t g σ1 g σ2 := fun t ht => ft_sm hS2 (fun k' z1 z2 => by rw [tg5 k' z1 z2]; exact Ne.symm ht)
    have o2 : ∀ k', (k' < c i + 11 + 5 * k ∨ c i + 11 + 5 * k + 5 ≤ k') → σ2.1[k']? = σ1.1[k']? := hS2.1
    have T2 := fun t ht => (hft t ht).tr (ft2 t ht)
    have m0 := n0
    rw [← (ft2 2 (by omega) 0 (ht.2 0 (by decide))).2] at m0
    have hkd2 := hkd.fr (T2 1 (by omega)) ((T2 2 (by omega) 3 (ht.2 3 (by decide))).2)
    have hkp2 := hk.fr (T2 1 (by omega)) ((T2 2 (by omega) 2 (ht.2 2 (by decide))).2)
    obtain ⟨fk, p1, p2⟩ := hkd2
    obtain ⟨q, p3, p4⟩ := p2 k (by omega)
    refine (b_getR m0 rfl).mpr ?_
    refine (b_ldR p1 rfl (by omega) (by decide)).mpr ?_
    rw [p3]
    have a2' := a2
    rw [← o2 _ (by omega)] at a2'
    have d2' := d2
    rw [← o2 _ (by omega)] at d2'
    refine (b_getR a2' rfl).mpr ?_
    refine (b_getR a2' rfl).mpr ?_
    refine (b_ldR d2' rfl (by omega) (by decide)).mpr ?_
    rw [d3 k (by omega)]
    refine (b_obj m0).mpr ?_
    refine b_hr (h7_collect m0 hkp2 p4 (hw k) (cc.fr (ft2 1 (by omega))) hF2 (fun k' z1 z2 => by rw [tg5 k' z1 z2]; omega) (by decide)) ?_
    rintro _ σ3 ⟨hS3, hF3⟩
    have ft3 : ∀ t, t ≠ 3 + i → FT t g σ2 g σ3 := fun t ht => ft_sm hS3 (fun k' z1 z2 => by rw [tg5 k' z1 z2]; exact Ne.symm ht)
    have o3 : ∀ k', (k' < c i + 11 + 5 * k ∨ c i + 11 + 5 * k + 5 ≤ k') → σ3.1[k']? = σ1.1[k']? := fun k' z => (hS3.1 k' z).trans (o2 k' z)
    have a3 := a2
    rw [← o3 _ (by omega)] at a3
    have e3 := e2
    rw [← o3 _ (by omega)] at e3
    refine (b_getR a3 rfl).mpr ?_
    refine b_stZ (Or.inr rfl) e3 rfl (by omega) (by decide) fun σ4 u => ?_
    have ft4 : ∀ t, t ≠ 3 + i → FT t g σ1 g σ4 := fun t ht => ((ft2 t ht).tr (ft3 t ht)).tr (ft_up u (by rw [e1]; exact Ne.symm ht))
    have o4 : ∀ k', (k' < c i + 11 + 5 * k ∨ c i + 11 + 5 * k + 5 ≤ k') → k' ≠ c i + 10 → σ4.1[k']? = σ1.1[k']? := fun k' z1 z2 => (u.2.1 k' z2).trans (o3 k' z1)
    have nz : g (c i + 10) ≠ 0 := by rw [e1]; omega
    have hF4 : FB σ4 (c i + 11 + 5 * k) 0 (rwA A k (lB x)) := hF3.frame (fun k' z1 z2 => u.2.1 k' (by omega))
    refine ih _ _ ⟨k + 1, nI_1 k, by omega, fun t ht => (hft t ht).tr (ft4 t ht), ((hX.tr (cx_sm hS2 (fun k' z1 z2 => by rw [tg5 k' z1 z2]; omega))).tr (cx_sm hS3 (fun k' z1 z2 => by rw [tg5 k' z1 z2]; omega))).tr (cx_up u nz), ?_, fun j hj => ?_⟩ hm
    · refine ⟨fn, lv, upd sd k 1, ⟨a1, by rw [o4 _ (by omega) (by omega)]; exact a2⟩, ⟨b1, cm, by rw [(ft4 1 (by omega) _ b1).2]; exact b2, b3⟩, cc.fr (ft4 1 (by omega)), ⟨d1, sg, by rw [o4 _ (by omega) (by omega)]; exact d2, d3⟩, ⟨e1, u.1⟩, fun j hj => ?_, ?_, ⟨l1, lf, by rw [(ft4 1 (by omega) _ l1).2]; exact l2, l3⟩⟩
      · obtain ⟨g1, R', g2, g3⟩ := f0 j hj
        by_cases e : j = k
        · subst e
          exact ⟨g1, _, hF4, Or.inr ⟨by simp [upd], rfl⟩⟩
        · refine ⟨g1, R', g2.frame (fun k' z1 z2 => o4 k' (by omega) (by omega)), ?_⟩
          simp only [upd, if_neg e]
          exact g3
      · rcases hf with hf | ⟨q, q1, q2, cap, q3, q4⟩
        · exact Or.inl hf
        · exact Or.inr ⟨q, q1, q2, cap, q3.frame (fun k a b => (ft4 1 (by omega) k (q2 k a b)).2), q4⟩
    · by_cases e : j = k
      · subst e
        exact hF4
      · exact (hS j (by omega)).frame (fun k' z1 z2 => o4 k' (by omega) (by omega))
  · rw [f3, if_neg (by decide)]
    refine ih _ _ ⟨k + 1, nI_1 k, by omega, hft, hX, hL1, fun j hj => ?_⟩ hm
    by_cases e : j = k
    · subst e
      rw [f4] at f2
      exact f2
    · exact hS j (by omega)
theorem h7_sightAll (h : Cls g c σ A) (hw : ∀ k, KdW (aKind A k)) (h60 : (aLet A).length ≤ 60) : Hr (f7_sightAll (some 0)) σ (fun _ σ' => Cls g c σ' A ∧ CX g σ g σ' 0 0 ∧ (∀ i x, (aLet A)[i]? = some x → sgt σ' (c i) x (rwA A)) ∧ FT 1 g σ g σ' ∧ FT 2 g σ g σ') := by
  obtain ⟨k1, k2, k3, k4, k5, k6, k7, ⟨f, k8, k8'⟩, k9, k10⟩ := h
  unfold f7_sightAll
  refine b_hr (P := fun _ σ' => FT 1 g σ g σ' ∧ FT 2 g σ g σ' ∧ CX g σ g σ' 0 0 ∧ cTag g σ' ∧ cLet g c σ' (aLet A) (rwA A) ∧ (∀ i x, (aLet A)[i]? = some x → sgt σ' (c i) x (rwA A))) ?_ ?_
  · refine hr_loop (fun z σ1 => ∃ n, z = nI n ∧ n ≤ (aLet A).length ∧ FT 1 g σ g σ1 ∧ FT 2 g σ g σ1 ∧ CX g σ g σ1 0 0 ∧ cTag g σ1 ∧ cLet g c σ1 (aLet A) (rwA A) ∧ (∀ i x, i < n → (aLet A)[i]? = some x → sgt σ1 (c i) x (rwA A))) (fun z => 100 - z.toNatClampNeg) ⟨0, rfl, Nat.zero_le _, FT.rf, FT.rf, CX.rf, k1, k10, fun i x hi => by omega⟩ (by show 100 - _ < _; omega) ?_
    rintro rec z σ1 ⟨n, rfl, hn, f1, f2, hX, ht1, hL, hS⟩ ih
    have m0 := k2
    rw [← (f2 0 (k1.2 0 (by decide))).2] at m0
    have m7 := k8
    rw [← (f2 7 (k1.2 7 (by decide))).2] at m7
    unfold l7_sightAll_2
    refine (b_getI m0 rfl).mpr ?_
    refine b_ite (fun c1 => ?_) (fun c1 => ?_)
    · rw [nI_leI (by omega) (by omega)] at c1
      exact hr_rt.mpr ⟨f1, f2, hX, ht1, hL, fun i x hx => hS i x (by have := (List.getElem?_eq_some_iff.mp hx).1; omega) hx⟩
    rw [nI_leI (by omega) (by omega)] at c1
    obtain ⟨x, hx⟩ : ∃ x, (aLet A)[n]? = some x := ⟨_, List.getElem?_eq_getElem (by omega)⟩
    refine (b_getR m0 rfl).mpr ?_
    refine (b_ldR m7 rfl (by omega) (by decide)).mpr ?_
    rw [k8' n (by omega)]
    refine b_hr (h7_sight ht1 m0 (k4.fr f1 ((f2 2 (k1.2 2 (by decide))).2)) (k5.fr f1 ((f2 3 (k1.2 3 (by decide))).2)) hw (hL n x hx)) ?_
    rintro _ σ2 ⟨ft2, x2, hL2, hS2⟩
    have hlen2 : cTag g σ2 := ⟨fun k hk => by have := x2.2.2.1; have := ht1.1 k hk; omega, ht1.2⟩
    refine ih _ _ ⟨n + 1, nI_1 n, by omega, f1.tr (ft2 1 (by omega)), f2.tr (ft2 2 (by omega)), hX.tr x2, hlen2, fun i y hy => ?_, fun i y hi hy => ?_⟩ ?_
    · by_cases e : i = n
      · subst e
        rw [hx] at hy
        cases hy
        exact hL2
      · exact (hL i y hy).fr (ft2 1 (by omega)) (ft2 _ (by omega))
    · by_cases e : i = n
      · subst e
        rw [hx] at hy
        cases hy
        exact hS2
      · intro k hk
        have hLi := hL i y hy
        obtain ⟨_, _, _, -, -, -, -, -, f0, -⟩ := hLi
        obtain ⟨g1, -⟩ := f0 k hk
        refine (hS i y (by omega) hy k hk).frame (fun k' z1 z2 => ?_)
        have := g1 (k' - (c i + 11 + 5 * k)) (by omega)
        rw [show c i + 11 + 5 * k + (k' - (c i + 11 + 5 * k)) = k' by omega] at this
        exact (ft2 (3 + i) (by omega) k' this).2
    · rw [nI_1, nI_clamp (by omega), nI_clamp (by omega)]; omega
  · rintro _ σ1 ⟨f1, f2, hX, ht1, hL, hS⟩
    have o : ∀ k, k < 23 → σ1.1[k]? = σ.1[k]? := fun k hk => (f2 k (k1.2 k hk)).2
    exact hr_rt.mpr ⟨⟨ht1, by rw [o 0 (by decide)]; exact k2, k3.fr (o 1 (by decide)), k4.fr f1 (o 2 (by decide)), k5.fr f1 (o 3 (by decide)), k6.fr (o 4 (by decide)), k7.fr f1 (o 5 (by decide)) (o 6 (by decide)), ⟨f, by rw [o 7 (by decide)]; exact k8, k8'⟩, k9.fr (fun k _ b => o k b), hL⟩, hX, hS, f1, f2⟩
end CLSH
