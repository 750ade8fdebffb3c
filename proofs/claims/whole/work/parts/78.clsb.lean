/-! ===== the class's calls: told, at, found, answer, state ===== -/
section CLSC
variable {g : Tg} {c : Nat → Nat} {σ : AH} {A : St}
theorem e7_letterAt {l : Int32} (h : Cls g c σ A) (hW : StW A) : f7_letterAt (some 0) l σ = some (if inL A l = true then some (c (tn l) + 1) else none, σ) := by
  have h60 := hW.2.2.2.2.2.2.1
  have h0 := h.2.1
  obtain ⟨f, r1, r2⟩ := h.2.2.2.2.2.2.2.1
  refine hr_det ?_
  unfold f7_letterAt
  refine (b_getI h0 rfl).mpr ?_
  refine (b_eq (e7_within _ _ _ _)).mpr ?_
  show Hr (if bI (inL A l) = 0 then rt none else _) σ _
  refine b_ite (fun c1 => ?_) (fun c1 => ?_)
  · rw [bI_0] at c1
    rw [c1]
    exact hr_rt.mpr ⟨rfl, rfl⟩
  · rw [bI_0, Bool.not_eq_false] at c1
    rw [if_pos c1]
    obtain ⟨j, x, hj, rfl, hx, et, ex⟩ := inL_of h60 c1
    refine (b_getR h0 rfl).mpr ?_
    refine (b_ldR r1 rfl (by omega) (by decide)).mpr ?_
    rw [r2 j hj, et]
    exact hr_rt.mpr ⟨rfl, rfl⟩
theorem d7_told {l w : Int32} (h : Cls g c σ A) (hW : StW A) : Hr (f7_told (some 0) l w) σ (CQ g σ 60 2100 (pTold A l w, A)) := by
  have h60 := hW.2.2.2.2.2.2.1
  unfold f7_told pTold
  refine (b_obj h.2.1).mpr ?_
  refine (b_eq (e7_letterAt h hW)).mpr ?_
  by_cases c1 : ¬ inL A l = true
  · rw [if_neg c1, if_neg c1, if_pos rfl]
    exact cq_rt rfl h
  have c1 := Classical.not_not.mp c1
  rw [if_pos c1, if_pos c1, if_neg (by simp)]
  obtain ⟨j, x, hj, rfl, hx, et, ex⟩ := inL_of h60 c1
  rw [ex, et]
  obtain ⟨fn, lv, sd, ⟨a1, a2⟩, ⟨b1, cm, b2, b3⟩, -, -, -, -, h2, -⟩ := h.2.2.2.2.2.2.2.2.2 j x hx
  unfold toldL
  by_cases e0 : w = 0
  · rw [if_pos e0, if_pos e0]
    refine (b_getI a2 rfl).mpr ?_
    exact cq_rt rfl h
  rw [if_neg e0, if_neg e0]
  by_cases e1 : w = 1
  · rw [if_pos e1, if_pos e1]
    refine (b_getI a2 rfl).mpr ?_
    exact cq_rt rfl h
  rw [if_neg e1, if_neg e1]
  by_cases e2 : w = 2
  · rw [if_pos e2, if_pos e2]
    refine (b_getI a2 rfl).mpr ?_
    exact cq_rt rfl h
  rw [if_neg e2, if_neg e2]
  by_cases e3 : w = 3
  · rw [if_pos e3, if_pos e3]
    refine (b_getI a2 rfl).mpr ?_
    exact cq_rt rfl h
  rw [if_neg e3, if_neg e3]
  by_cases e4 : w = 4
  · rw [if_pos e4, if_pos e4]
    refine (b_getI a2 rfl).mpr ?_
    exact cq_rt rfl h
  rw [if_neg e4, if_neg e4]
  by_cases e5 : w = 5
  · rw [if_pos e5, if_pos e5]
    refine (b_getI a2 rfl).mpr ?_
    exact cq_rt rfl h
  rw [if_neg e5, if_neg e5]
  by_cases e6 : w = 6
  · rw [if_pos e6, if_pos e6]
    refine (b_getI a2 rfl).mpr ?_
    exact cq_rt rfl h
  rw [if_neg e6, if_neg e6]
  by_cases e7 : w = 7
  · rw [if_pos e7, if_pos e7]
    refine (b_getR a2 rfl).mpr ?_
    refine (b_len b2).mpr ?_
    exact cq_rt rfl h
  rw [if_neg e7, if_neg e7]
  by_cases e8 : w = 8
  · rw [if_pos e8, if_pos e8]
    rcases h2 with ⟨rfl, hr⟩ | ⟨q, rfl, q1, cap, q2, q3⟩
    · refine (b_getN a2 rfl).mpr ?_
      rw [if_pos rfl]
      exact cq_rt (by rw [hr]; rfl) h
    · refine (b_getR a2 rfl).mpr ?_
      rw [if_neg (by simp)]
      refine (b_getR a2 rfl).mpr ?_
      obtain ⟨_, _, _, _, fo⟩ := q2.obj
      refine (b_getI fo rfl).mpr ?_
      exact cq_rt rfl h
  rw [if_neg e8, if_neg e8]
  exact cq_rt rfl h
theorem lvg_len (x : Lt) : (lvg x).length = (lB x).length := by
  unfold lvg blk
  split
  · simp
  · rfl
theorem d7_at {l i : Int32} {lvs : Bool} (h : Cls g c σ A) (hW : StW A) : Hr (f7_at (some 0) l i (bI lvs)) σ (CQ g σ 60 2100 (pAt A l i lvs, A)) := by
  have h60 := hW.2.2.2.2.2.2.1
  unfold f7_at pAt
  refine (b_obj h.2.1).mpr ?_
  refine (b_eq (e7_letterAt h hW)).mpr ?_
  by_cases c1 : ¬ inL A l = true
  · rw [if_neg c1, if_pos rfl, if_neg (fun q => c1 q.1)]
    exact cq_rt rfl h
  have c1 := Classical.not_not.mp c1
  rw [if_pos c1, if_neg (by simp)]
  obtain ⟨j, x, hj, rfl, hx, et, ex⟩ := inL_of h60 c1
  rw [ex, et]
  have hbl := (hW.2.2.2.2.2.2.2.1 x (List.mem_of_getElem? hx)).2.2.2.2.1
  obtain ⟨fn, lv, sd, ⟨a1, a2⟩, ⟨b1, cm, b2, b3⟩, -, -, -, -, h2, ⟨l1, lf, l2, l3⟩⟩ := h.2.2.2.2.2.2.2.2.2 j x hx
  have rest : ∀ (q : Nat) (rf : Nat → Int32) (L : List Int32), σ.1[q]? = some (.inl (0, (lB x).length, .inl rf)) → B3 rf L → L.length = (lB x).length → Hr (bn (oLen 0 (some q)) fun v37 => bn (f7_within i 0 (v37 - 1)) fun v40 => if v40 = 0 then rt (-1) else bn (oLd 0 (some q) i) fun v49 => rt v49) σ (CQ g σ 60 2100 (if inL A (nI j) = true ∧ 0 ≤ i ∧ i ≤ nI (lB x).length - 1 then L.getD (tn i) 0 else -1, A)) := by
    intro q rf L hq hB hL
    refine (b_len hq).mpr ?_
    refine (b_eq (e7_within _ _ _ _)).mpr ?_
    show Hr (if bI (decide (0 ≤ i ∧ i ≤ nI (lB x).length - 1)) = 0 then _ else _) σ _
    refine b_ite (fun c2 => ?_) (fun c2 => ?_)
    · rw [bI_0, decide_eq_false_iff_not] at c2
      rw [if_neg (fun q => c2 q.2)]
      exact cq_rt rfl h
    · rw [bI_0, Bool.not_eq_false, decide_eq_true_eq] at c2
      rw [if_pos ⟨c1, c2⟩]
      obtain ⟨k, hk, rfl⟩ := (in_m1 (by omega)).mp c2
      rw [show tn (nI k) = k from nI_clamp (by omega)]
      refine (b_ld hq rfl hk (by omega)).mpr ?_
      refine cq_rt ?_ h
      obtain ⟨y, hy⟩ : ∃ y, L[k]? = some y := ⟨_, List.getElem?_eq_getElem (by omega)⟩
      rw [hB k y hy, getD_of hy]
  cases lvs with
  | false =>
    rw [if_pos (show bI false = 0 from rfl)]
    refine (b_as).mpr ?_
    refine (b_getR a2 rfl).mpr ?_
    rw [bn_rt]
    exact rest _ cm (lB x) b2 b3 rfl
  | true =>
    rw [if_neg (show ¬ bI true = 0 by decide)]
    refine (b_as).mpr ?_
    refine (b_getR a2 rfl).mpr ?_
    rw [bn_rt]
    exact rest lv lf (lvg x) l2 l3 (lvg_len x)
theorem e0_isKept {q cap : Nat} {R : List T3} {i : Int32} (hF : FB σ q cap R) (hc : R.length ≤ cap) (hc2 : cap < 2 ^ 30) : f0_isKept (some q) i σ = some (bI (decide (0 ≤ i ∧ i ≤ nI R.length - 1)), σ) := by
  obtain ⟨F, L, P, h0, h1, h2, h3, h4, h5⟩ := hF
  refine hr_det ?_
  unfold f0_isKept f0_keptCount
  refine (b_obj h0).mpr ?_
  refine (b_as).mpr ?_
  refine (b_getI h0 rfl).mpr ?_
  refine (b_as).mpr ?_
  refine (b_getR h0 rfl).mpr ?_
  refine (b_as).mpr ?_
  refine (b_len h1).mpr ?_
  rw [bn_rt, show jmin (nI R.length) (nI (cap, (Sum.inl F : (Nat → Int32) ⊕ _)).1) = nI R.length by show jmin (nI R.length) (nI cap) = _; rw [jmin_nI (by omega) (by omega), Nat.min_eq_left hc]]
  refine (b_eq (e7_within _ _ _ _)).mpr ?_
  refine (b_z (bI_01 _)).mpr ?_
  exact hr_rt.mpr ⟨rfl, rfl⟩
theorem d7_found {l i w : Int32} (h : Cls g c σ A) (hW : StW A) : Hr (f7_found (some 0) l i w) σ (CQ g σ 60 2100 (pFound A l i w, A)) := by
  have h60 := hW.2.2.2.2.2.2.1
  unfold f7_found pFound
  refine (b_obj h.2.1).mpr ?_
  refine (b_eq (e7_letterAt h hW)).mpr ?_
  by_cases c1 : ¬ inL A l = true
  · rw [if_neg c1, if_pos rfl, if_neg (fun q => c1 q.1)]
    exact cq_rt rfl h
  have c1 := Classical.not_not.mp c1
  rw [if_pos c1, if_neg (by simp)]
  obtain ⟨j, x, hj, rfl, hx, et, ex⟩ := inL_of h60 c1
  rw [ex, et]
  obtain ⟨fn, lv, sd, ⟨a1, a2⟩, -, -, -, -, -, h2, -⟩ := h.2.2.2.2.2.2.2.2.2 j x hx
  rcases h2 with ⟨rfl, hr⟩ | ⟨q, rfl, q1, cap, q2, q3, q4⟩
  · refine (b_getN a2 rfl).mpr ?_
    rw [if_pos rfl, if_neg]
    · exact cq_rt rfl h
    · rintro ⟨-, z⟩
      rw [hr] at z
      obtain ⟨m, hm, -⟩ := (in_m1 (m := 0) (by decide)).mp z
      omega
  · have q2' := q2
    obtain ⟨F, L, P, p0, p1, p2, p3, p4, p5⟩ := q2'
    rw [List.take_of_length_le q3] at p5
    have ek := fun (i : Int32) => e0_isKept (i := i) q2 q3 q4
    refine (b_getR a2 rfl).mpr ?_
    rw [if_neg (by simp)]
    have rest : ∀ (k : Nat) (b : Nat) (rf : Nat → Int32) (pr : T3 → Int32), (∀ m y, (lR x)[m]? = some y → rf m = pr y) → σ.1[b]? = some (.inl (0, cap, .inl rf)) → (∀ (X : Int32), True) → [Value.ref (q + 2), .ref (q + 3), .ref (q + 4), .ref (q + 1), .int (nI (lR x).length)][k]? = some (.ref b) → Hr (bn (f0_isKept (some q) i) fun v2 => if v2 = 0 then rt (-1) else bn (oGetR (some q) 0 k) fun v9 => bn (oLd 0 v9 i) fun v13 => rt v13) σ (CQ g σ 60 2100 (if inL A (nI j) = true ∧ 0 ≤ i ∧ i ≤ nI (lR x).length - 1 then pr ((lR x).getD (tn i) (0, 0, 0)) else -1, A)) := by
      intro k b rf pr hrf hb _ hk
      refine (b_eq (ek i)).mpr ?_
      refine b_ite (fun c2 => ?_) (fun c2 => ?_)
      · rw [bI_0, decide_eq_false_iff_not] at c2
        rw [if_neg (fun q => c2 q.2)]
        exact cq_rt rfl h
      · rw [bI_0, Bool.not_eq_false, decide_eq_true_eq] at c2
        rw [if_pos ⟨c1, c2⟩]
        obtain ⟨m, hm, rfl⟩ := (in_m1 (by omega)).mp c2
        rw [show tn (nI m) = m from nI_clamp (by omega)]
        refine (b_getR p0 hk).mpr ?_
        refine (b_ld hb rfl (by omega) (by omega)).mpr ?_
        refine cq_rt ?_ h
        obtain ⟨y, hy⟩ : ∃ y, (lR x)[m]? = some y := ⟨_, List.getElem?_eq_getElem hm⟩
        rw [hrf m y hy, getD_of hy]
    unfold fndL
    by_cases e0 : w = 0
    · rw [if_pos e0]
      simp only [if_pos e0]
      refine (b_getR a2 rfl).mpr ?_
      refine (b_obj p0).mpr ?_
      unfold f0_firstOf
      refine (b_as).mpr ?_
      refine (b_obj p0).mpr ?_
      refine (b_as).mpr ?_
      refine hr_bn.mpr ?_
      have := hr_bn.mp (rest 0 (q + 2) F (fun y => y.1) (fun m y hy => by have := (p5 m y hy).1; rwa [Nat.zero_add] at this) p1 (fun _ => trivial) rfl)
      refine this.mono fun v σ' hv => ?_
      refine (b_bite (fun cc => ?_) (fun cc => ?_))
      · rw [if_pos cc] at hv
        exact b_rt.mpr hv
      · rw [if_neg cc] at hv
        refine (b_as).mpr ?_
        refine hr_bn.mpr ((hr_bn.mp hv).mono fun v9 σ'' hv => ?_)
        refine (b_as).mpr ?_
        refine hr_bn.mpr ((hr_bn.mp hv).mono fun v9 σ'' hv => ?_)
        exact b_rt.mpr hv
    rw [if_neg e0]
    by_cases e1 : w = 1
    · rw [if_pos e1]
      simp only [if_neg e0, if_pos e1]
      refine (b_getR a2 rfl).mpr ?_
      refine (b_obj p0).mpr ?_
      unfold f0_lastOf
      refine (b_as).mpr ?_
      refine (b_obj p0).mpr ?_
      refine (b_as).mpr ?_
      refine hr_bn.mpr ?_
      have := hr_bn.mp (rest 1 (q + 3) L (fun y => y.2.1) (fun m y hy => by have := (p5 m y hy).2.1; rwa [Nat.zero_add] at this) p2 (fun _ => trivial) rfl)
      refine this.mono fun v σ' hv => ?_
      refine (b_bite (fun cc => ?_) (fun cc => ?_))
      · rw [if_pos cc] at hv
        exact b_rt.mpr hv
      · rw [if_neg cc] at hv
        refine (b_as).mpr ?_
        refine hr_bn.mpr ((hr_bn.mp hv).mono fun v9 σ'' hv => ?_)
        refine (b_as).mpr ?_
        refine hr_bn.mpr ((hr_bn.mp hv).mono fun v9 σ'' hv => ?_)
        exact b_rt.mpr hv
    rw [if_neg e1]
    by_cases e2 : w = 2
    · rw [if_pos e2]
      simp only [if_neg e0, if_neg e1, if_pos e2]
      refine (b_getR a2 rfl).mpr ?_
      refine (b_obj p0).mpr ?_
      unfold f0_partOf
      refine (b_as).mpr ?_
      refine (b_obj p0).mpr ?_
      refine (b_as).mpr ?_
      refine hr_bn.mpr ?_
      have := hr_bn.mp (rest 2 (q + 4) P (fun y => y.2.2) (fun m y hy => by have := (p5 m y hy).2.2; rwa [Nat.zero_add] at this) p3 (fun _ => trivial) rfl)
      refine this.mono fun v σ' hv => ?_
      refine (b_bite (fun cc => ?_) (fun cc => ?_))
      · rw [if_pos cc] at hv
        exact b_rt.mpr hv
      · rw [if_neg cc] at hv
        refine (b_as).mpr ?_
        refine hr_bn.mpr ((hr_bn.mp hv).mono fun v9 σ'' hv => ?_)
        refine (b_as).mpr ?_
        refine hr_bn.mpr ((hr_bn.mp hv).mono fun v9 σ'' hv => ?_)
        exact b_rt.mpr hv
    rw [if_neg e2]
    simp only [if_neg e0, if_neg e1, if_neg e2, ite_self]
    exact cq_rt rfl h
theorem d7_answer {l : Int32} {is : Bool} (h : Cls g c σ A) (hW : StW A) : Hr (f7_answer (some 0) l (bI is)) σ (CQ g σ 60 2100 (pAnswer A l is)) := by
  have h60 := hW.2.2.2.2.2.2.1
  unfold f7_answer pAnswer
  refine (b_obj h.2.1).mpr ?_
  refine (b_eq (e7_letterAt h hW)).mpr ?_
  by_cases c1 : ¬ inL A l = true
  · rw [if_neg c1, if_pos rfl, if_neg (fun q => c1 q.1)]
    exact cq_rt rfl h
  have c1 := Classical.not_not.mp c1
  rw [if_pos c1, if_neg (by simp)]
  obtain ⟨j, x, hj, rfl, hx, et, ex⟩ := inL_of h60 c1
  rw [et] at ex
  rw [et, ex]
  have hfw := (hW.2.2.2.2.2.2.2.1 x (List.mem_of_getElem? hx)).2.2.2.2.2.2.1
  obtain ⟨k1, k2, k3, k4, k5, k6, k7, k8, k9, k10⟩ := id h
  have hx' := k10 j x hx
  obtain ⟨fn, lv, sd, ⟨a1, a2⟩, b0, c0, d0, e0, f0, h2, l0⟩ := id hx'
  refine (b_getI a2 rfl).mpr ?_
  rw [show (1 : Int32) = nI 1 from rfl]
  refine b_ite (fun c2 => ?_) (fun c2 => ?_)
  · rw [nI_eq (by omega) (by omega)] at c2
    rw [if_pos (show inL A (nI j) = true ∧ lFate x = 1 from ⟨c1, c2⟩)]
    have fin : ∀ (v : Int32) (σ2 : AH), v = nI (if is = true then 0 else 2) → Up σ σ2 (c j + 1) (.inr (2, ([.int (nI (lS x)), .int (nI (lT x)), .int (nI (lW x)), .int (nI (lD x)), .ref (c j), .ref (c j + 2), .int (nI (lAct x)), .int (lKind x), .int (nI (lFate x)), va_rf fn, .ref lv, .ref (c j + 9), .ref (c j + 10)] : List Value).set 8 (.int v))) → Hr (rt (nI 1)) σ2 (CQ g σ 60 2100 (1, setL A j (ansL x is))) := by
      intro v σ2 hv u
      have ft : ∀ t, t ≠ 3 + j → FT t g σ g σ2 := fun t ht => ft_up u (by rw [a1]; exact Ne.symm ht)
      have lo : ∀ k, k < 23 → σ2.1[k]? = σ.1[k]? := fun k hk => (ft 2 (by omega) k (k1.2 k hk)).2
      have nz : g (c j + 1) ≠ 0 := by rw [a1]; omega
      have ne1 : ∀ k, g k = 1 → σ2.1[k]? = σ.1[k]? := fun k hk => (ft 1 (by omega) k hk).2
      have oth : ∀ k, k ≠ c j + 1 → σ2.1[k]? = σ.1[k]? := u.2.1
      refine hr_rt.mpr ⟨rfl, g, c, ⟨lo_tag k1 u.2.2.1, ?_, k3.fr (lo 1 (by decide)), k4.fr (ft 1 (by omega)) (lo 2 (by decide)), k5.fr (ft 1 (by omega)) (lo 3 (by decide)), k6.fr (lo 4 (by decide)), k7.fr (ft 1 (by omega)) (lo 5 (by decide)) (lo 6 (by decide)), ?_, k9.fr (fun k _ b => lo k b), ?_⟩, (cx_up u nz).wk (by omega) (by omega)⟩
      · rw [lo 0 (by decide)]
        show σ.1[0]? = some (Sum.inr (7, dgl (aDay A) (aTape A).length ((aLet A).set j (ansL x is)).length))
        rw [List.length_set]
        exact k2
      · show cRow σ2 c ((aLet A).set j (ansL x is)).length
        rw [List.length_set]
        exact k8.fr (lo 7 (by decide))
      · intro i y hy
        have hy : ((aLet A).set j (ansL x is))[i]? = some y := hy
        show LtI g σ2 (c i) i y (rwA A)
        by_cases e : i = j
        · subst e
          rw [List.getElem?_set_self hj] at hy
          cases hy
          obtain ⟨d1, sg, d2, d3⟩ := d0
          obtain ⟨b1, cm, b2, b3⟩ := b0
          obtain ⟨l1, lf, l2, l3⟩ := l0
          refine ⟨fn, lv, sd, ⟨a1, ?_⟩, ⟨b1, cm, by rw [ne1 _ b1]; exact b2, b3⟩, c0.fr (ft 1 (by omega)), ⟨d1, sg, by rw [ne1 _ d1]; exact d2, d3⟩, ⟨e0.1, by rw [oth _ (by omega)]; exact e0.2⟩, fun k hk => ?_, ?_, ⟨l1, lf, by rw [ne1 _ l1]; exact l2, l3⟩⟩
          · rw [u.1, hv]; rfl
          · obtain ⟨q1, R, q2, q3⟩ := f0 k hk
            exact ⟨q1, R, q2.frame (fun m m1 m2 => oth m (by omega)), q3⟩
          · rcases h2 with h2 | ⟨q, q1, q2, cap, q3, q4⟩
            · exact Or.inl h2
            · exact Or.inr ⟨q, q1, q2, cap, q3.frame (fun k a b => ne1 k (q2 k a b)), q4⟩
        · rw [List.getElem?_set_ne (Ne.symm e)] at hy
          exact (k10 i y hy).fr (ft 1 (by omega)) (ft _ (by omega))
    cases is with
    | false =>
      rw [if_pos (show bI false = 0 from rfl)]
      refine b_putI a2 (by simp) fun σ2 u => ?_
      exact fin 2 σ2 rfl u
    | true =>
      rw [if_neg (show ¬ bI true = 0 by decide)]
      refine b_putI a2 (by simp) fun σ2 u => ?_
      exact fin 0 σ2 rfl u
  · rw [nI_eq (by omega) (by omega)] at c2
    rw [if_neg (fun q => c2 q.2)]
    exact cq_rt rfl h
theorem e7_lettersOfFate {v : Nat} (hv : v < 10) (h : Cls g c σ A) (hW : StW A) : f7_lettersOfFate (some 0) (nI v) σ = some (nI (cntL A (fun x => decide (lFate x = v))), σ) := by
  have h60 := hW.2.2.2.2.2.2.1
  obtain ⟨f, r1, r2⟩ := h.2.2.2.2.2.2.2.1
  have h0 := h.2.1
  refine hr_det ?_
  unfold f7_lettersOfFate cntL
  refine b_hr (P := fun y σ' => y = nI (fb_ct (fun i => decide (lFate (lAt A i) = v)) (aLet A).length) ∧ σ' = σ) ?_ (fun _ _ hq => hr_rt.mpr hq)
  refine hr_loop (fun z σ1 => σ1 = σ ∧ ∃ l, l ≤ (aLet A).length ∧ z = (nI (fb_ct (fun i => decide (lFate (lAt A i) = v)) l), nI l)) (fun z => 100 - z.2.toNatClampNeg) ⟨rfl, 0, Nat.zero_le _, rfl⟩ (by show 100 - _ < _; omega) ?_
  rintro rec z σ1 ⟨rfl, l, hl, rfl⟩ ih
  unfold l7_lettersOfFate_4
  dsimp only
  refine (b_getI h0 rfl).mpr ?_
  refine b_ite (fun c1 => ?_) (fun c1 => ?_)
  · rw [nI_leI (by omega) (by omega)] at c1
    have : l = (aLet A).length := by omega
    subst this
    exact hr_rt.mpr ⟨rfl, rfl⟩
  · rw [nI_leI (by omega) (by omega)] at c1
    have hm : 100 - (nI l + 1).toNatClampNeg < 100 - (nI l).toNatClampNeg := by rw [nI_1, nI_clamp (by omega), nI_clamp (by omega)]; omega
    obtain ⟨x, hx⟩ : ∃ x, (aLet A)[l]? = some x := ⟨_, List.getElem?_eq_getElem (by omega)⟩
    have hfw := (hW.2.2.2.2.2.2.2.1 x (List.mem_of_getElem? hx)).2.2.2.2.2.2.1
    obtain ⟨fn, lv, sd, ⟨a1, a2⟩, -⟩ := h.2.2.2.2.2.2.2.2.2 l x hx
    refine (b_getR h0 rfl).mpr ?_
    refine (b_ldR r1 rfl (by omega) (by decide)).mpr ?_
    rw [r2 l (by omega)]
    refine (b_getI a2 rfl).mpr ?_
    refine b_ite (fun c2 => ?_) (fun c2 => ?_)
    · rw [nI_eq (by omega) (by omega)] at c2
      refine ih _ _ ⟨rfl, l + 1, by omega, ?_⟩ hm
      rw [fb_ct_succ, lAt_of hx, nI_1, nI_1, decide_eq_true (show lFate x = v from c2)]
      rfl
    · rw [nI_eq (by omega) (by omega)] at c2
      refine ih _ _ ⟨rfl, l + 1, by omega, ?_⟩ hm
      rw [fb_ct_succ, lAt_of hx, nI_1, decide_eq_false (show ¬ lFate x = v from c2)]
      rfl
theorem e7_told (h : Cls g c σ A) (hW : StW A) : f7_lettersThatWereTold (some 0) σ = some (nI (cntL A (fun x => decide (lAct x = 1))), σ) := by
  have h60 := hW.2.2.2.2.2.2.1
  obtain ⟨f, r1, r2⟩ := h.2.2.2.2.2.2.2.1
  have h0 := h.2.1
  refine hr_det ?_
  unfold f7_lettersThatWereTold cntL
  refine b_hr (P := fun y σ' => y = nI (fb_ct (fun i => decide (lAct (lAt A i) = 1)) (aLet A).length) ∧ σ' = σ) ?_ (fun _ _ hq => hr_rt.mpr hq)
  refine hr_loop (fun z σ1 => σ1 = σ ∧ ∃ l, l ≤ (aLet A).length ∧ z = (nI (fb_ct (fun i => decide (lAct (lAt A i) = 1)) l), nI l)) (fun z => 100 - z.2.toNatClampNeg) ⟨rfl, 0, Nat.zero_le _, rfl⟩ (by show 100 - _ < _; omega) ?_
  rintro rec z σ1 ⟨rfl, l, hl, rfl⟩ ih
  unfold l7_lettersThatWereTold_4
  dsimp only
  refine (b_getI h0 rfl).mpr ?_
  refine b_ite (fun c1 => ?_) (fun c1 => ?_)
  · rw [nI_leI (by omega) (by omega)] at c1
    have : l = (aLet A).length := by omega
    subst this
    exact hr_rt.mpr ⟨rfl, rfl⟩
  · rw [nI_leI (by omega) (by omega)] at c1
    have hm : 100 - (nI l + 1).toNatClampNeg < 100 - (nI l).toNatClampNeg := by rw [nI_1, nI_clamp (by omega), nI_clamp (by omega)]; omega
    obtain ⟨x, hx⟩ : ∃ x, (aLet A)[l]? = some x := ⟨_, List.getElem?_eq_getElem (by omega)⟩
    have hfw := (hW.2.2.2.2.2.2.2.1 x (List.mem_of_getElem? hx)).2.2.2.2.2.1
    obtain ⟨fn, lv, sd, ⟨a1, a2⟩, -⟩ := h.2.2.2.2.2.2.2.2.2 l x hx
    refine (b_getR h0 rfl).mpr ?_
    refine (b_ldR r1 rfl (by omega) (by decide)).mpr ?_
    rw [r2 l (by omega)]
    refine (b_getI a2 rfl).mpr ?_
    rw [show (if nI (lAct x) = 1 then rec (nI (fb_ct (fun i => decide (lAct (lAt A i) = 1)) l) + 1, nI l + 1) else rec (nI (fb_ct (fun i => decide (lAct (lAt A i) = 1)) l), nI l + 1)) = (if nI (lAct x) = nI 1 then rec (nI (fb_ct (fun i => decide (lAct (lAt A i) = 1)) l) + 1, nI l + 1) else rec (nI (fb_ct (fun i => decide (lAct (lAt A i) = 1)) l), nI l + 1)) from rfl]
    refine b_ite (fun c2 => ?_) (fun c2 => ?_)
    · rw [nI_eq (by omega) (by omega)] at c2
      refine ih _ _ ⟨rfl, l + 1, by omega, ?_⟩ hm
      rw [fb_ct_succ, lAt_of hx, nI_1, nI_1, decide_eq_true (show lAct x = 1 from c2)]
      rfl
    · rw [nI_eq (by omega) (by omega)] at c2
      refine ih _ _ ⟨rfl, l + 1, by omega, ?_⟩ hm
      rw [fb_ct_succ, lAt_of hx, nI_1, decide_eq_false (show ¬ lAct x = 1 from c2)]
      rfl
theorem d7_state {w : Int32} (h : Cls g c σ A) (hW : StW A) : Hr (f7_state (some 0) w) σ (CQ g σ 60 2100 (pState A w, A)) := by
  have h0 := h.2.1
  unfold f7_state pState
  by_cases e0 : w = 0
  · rw [if_pos e0, if_pos e0]
    refine (b_getI h0 rfl).mpr ?_
    exact cq_rt rfl h
  rw [if_neg e0, if_neg e0]
  by_cases e1 : w = 1
  · rw [if_pos e1, if_pos e1]
    refine (b_getI h0 rfl).mpr ?_
    exact cq_rt rfl h
  rw [if_neg e1, if_neg e1]
  by_cases e2 : w = 2
  · rw [if_pos e2, if_pos e2]
    obtain ⟨f, r1, -⟩ := h.2.2.2.2.2.2.1
    refine (b_getR h0 rfl).mpr ?_
    refine (b_getI r1 rfl).mpr ?_
    exact cq_rt rfl h
  rw [if_neg e2, if_neg e2]
  by_cases e3 : w = 3
  · rw [if_pos e3, if_pos e3]
    refine (b_getI h0 rfl).mpr ?_
    exact cq_rt rfl h
  rw [if_neg e3, if_neg e3]
  by_cases e4 : w = 4
  · rw [if_pos e4, if_pos e4]
    refine (b_obj h0).mpr ?_
    refine (b_eq (e7_lettersOfFate (v := 1) (by decide) h hW)).mpr ?_
    exact cq_rt rfl h
  rw [if_neg e4, if_neg e4]
  by_cases e5 : w = 5
  · rw [if_pos e5, if_pos e5]
    refine (b_obj h0).mpr ?_
    refine (b_eq (e7_told h hW)).mpr ?_
    exact cq_rt rfl h
  rw [if_neg e5, if_neg e5]
  by_cases e6 : w = 6
  · rw [if_pos e6, if_pos e6]
    refine (b_obj h0).mpr ?_
    refine (b_eq (e7_lettersOfFate (v := 2) (by decide) h hW)).mpr ?_
    exact cq_rt rfl h
  rw [if_neg e6, if_neg e6]
  exact cq_rt rfl h
end CLSC
