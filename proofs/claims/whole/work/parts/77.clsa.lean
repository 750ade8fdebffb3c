/-! ===== the class's calls: feed, allow, told, at, found, answer, state ===== -/
section CLSB
variable {g : Tg} {c : Nat → Nat} {σ : AH} {A : St}
theorem e7_bytesOf (n : Int32) (σ : AH) : f7_bytesOf n σ = some (nI (by4 n).length, σ) := by
  refine hr_det ?_
  unfold f7_bytesOf
  refine b_hr (P := fun y σ' => y = nI (by4 n).length ∧ σ' = σ) ?_ (fun _ _ hq => hr_rt.mpr hq)
  refine hr_loop (fun x σ1 => σ1 = σ ∧ (x = (0, 24) ∨ x = (nI (byF n 24).toList.length, 16) ∨ x = (nI ((byF n 24).toList ++ (byF n 16).toList).length, 8) ∨ x = (nI ((byF n 24).toList ++ (byF n 16).toList ++ (byF n 8).toList).length, 0) ∨ x = (nI (by4 n).length, -8))) (fun x => (x.2 + 8).toNatClampNeg) ⟨rfl, Or.inl rfl⟩ (by show ((24 : Int32) + 8).toNatClampNeg < _; decide) ?_
  rintro rec x σ1 ⟨rfl, hx⟩ ih
  have step : ∀ (L : List Int32) (s s' : Int32), s + (-8) = s' → ¬ s < 0 → (s' + 8).toNatClampNeg < (s + 8).toNatClampNeg → ((nI (L ++ (byF n s).toList).length, s') = ((0, 24) : Int32 × Int32) ∨ (nI (L ++ (byF n s).toList).length, s') = (nI (byF n 24).toList.length, 16) ∨ (nI (L ++ (byF n s).toList).length, s') = (nI ((byF n 24).toList ++ (byF n 16).toList).length, 8) ∨ (nI (L ++ (byF n s).toList).length, s') = (nI ((byF n 24).toList ++ (byF n 16).toList ++ (byF n 8).toList).length, 0) ∨ (nI (L ++ (byF n s).toList).length, s') = (nI (by4 n).length, -8)) → (∀ x' σ', (σ' = σ1 ∧ (x' = (0, 24) ∨ x' = (nI (byF n 24).toList.length, 16) ∨ x' = (nI ((byF n 24).toList ++ (byF n 16).toList).length, 8) ∨ x' = (nI ((byF n 24).toList ++ (byF n 16).toList ++ (byF n 8).toList).length, 0) ∨ x' = (nI (by4 n).length, -8))) → (x'.2 + 8).toNatClampNeg < (s + 8).toNatClampNeg → Hr (rec x') σ' (fun y σ' => y = nI (by4 n).length ∧ σ' = σ1)) → Hr (l7_bytesOf_5 n rec (nI L.length, s)) σ1 (fun y σ' => y = nI (by4 n).length ∧ σ' = σ1) := by
    intro L s s' h1 h2 h3 h4 ih
    unfold l7_bytesOf_5
    dsimp only
    rw [if_neg h2, h1]
    refine b_ite (fun c => ?_) (fun c => ?_)
    · rw [show byF n s = none from if_pos c] at h4
      simp only [Option.toList_none, List.append_nil] at h4
      exact ih _ _ ⟨rfl, h4⟩ h3
    · rw [show byF n s = some _ from if_neg c] at h4
      simp only [Option.toList_some, List.length_append, List.length_cons, List.length_nil] at h4
      rw [nI_1]
      refine ih _ _ ⟨rfl, ?_⟩ h3
      simpa only [List.length_append] using h4
  rcases hx with rfl | rfl | rfl | rfl | rfl
  · exact step [] 24 16 (by decide) (by decide) (by decide) (Or.inr (Or.inl (by simp))) ih
  · exact step _ 16 8 (by decide) (by decide) (by decide) (Or.inr (Or.inr (Or.inl rfl))) ih
  · exact step _ 8 0 (by decide) (by decide) (by decide) (Or.inr (Or.inr (Or.inr (Or.inl rfl)))) ih
  · exact step _ 0 (-8) (by decide) (by decide) (by decide) (Or.inr (Or.inr (Or.inr (Or.inr rfl)))) ih
  · unfold l7_bytesOf_5
    dsimp only
    rw [if_pos (by decide)]
    exact hr_rt.mpr ⟨rfl, rfl⟩
theorem by4_len (n : Int32) : (by4 n).length ≤ 4 := by
  have : ∀ s, (byF n s).toList.length ≤ 1 := fun s => by cases byF n s <;> simp
  have h1 := this 24
  have h2 := this 16
  have h3 := this 8
  have h4 := this 0
  simp only [by4, List.length_append]
  omega
/-- the class with a tape under way -/
def ClT (g : Tg) (c : Nat → Nat) (σ : AH) (A : St) (xs : List Int32) : Prop := Cls g c σ ((aDay A, xs), A.2)
theorem h7_append {n : Int32} {xs : List Int32} (h : ClT g c σ A xs) (hl : xs.length + (by4 n).length ≤ 300) : Hr (f7_append (some 0) n) σ (fun _ σ' => ClT g c σ' A (xs ++ by4 n) ∧ CX g σ g σ' 0 0) := by
  unfold f7_append
  refine b_hr (P := fun _ σ' => ClT g c σ' A (xs ++ by4 n) ∧ CX g σ g σ' 0 0) ?_ (fun _ _ hq => hr_rt.mpr hq)
  refine hr_loop (fun x σ1 => CX g σ g σ1 0 0 ∧ ∃ L, ClT g c σ1 A (xs ++ L) ∧ ((x = 24 ∧ L = []) ∨ (x = 16 ∧ L = (byF n 24).toList) ∨ (x = 8 ∧ L = (byF n 24).toList ++ (byF n 16).toList) ∨ (x = 0 ∧ L = (byF n 24).toList ++ (byF n 16).toList ++ (byF n 8).toList) ∨ (x = -8 ∧ L = by4 n))) (fun x => (x + 8).toNatClampNeg) ⟨CX.rf, [], by rw [List.append_nil]; exact h, Or.inl ⟨rfl, rfl⟩⟩ (by show ((24 : Int32) + 8).toNatClampNeg < _; decide) ?_
  rintro rec x σ1 ⟨hX, L, hC, hx⟩ ih
  have step : ∀ (s s' : Int32), x = s → s + (-8) = s' → ¬ s < 0 → (s' + 8).toNatClampNeg < (s + 8).toNatClampNeg → L.length + (byF n s).toList.length ≤ (by4 n).length → ((s' = 24 ∧ L ++ (byF n s).toList = []) ∨ (s' = 16 ∧ L ++ (byF n s).toList = (byF n 24).toList) ∨ (s' = 8 ∧ L ++ (byF n s).toList = (byF n 24).toList ++ (byF n 16).toList) ∨ (s' = 0 ∧ L ++ (byF n s).toList = (byF n 24).toList ++ (byF n 16).toList ++ (byF n 8).toList) ∨ (s' = -8 ∧ L ++ (byF n s).toList = by4 n)) → Hr (l7_append_3 (some 0) n rec x) σ1 (fun _ σ' => ClT g c σ' A (xs ++ by4 n) ∧ CX g σ g σ' 0 0) := by
    intro s s' e h1 h2 h3 h5 h4
    subst e
    unfold l7_append_3
    rw [if_neg h2, h1]
    refine b_ite (fun c1 => ?_) (fun c1 => ?_)
    · rw [show byF n x = none from if_pos c1] at h4
      simp only [Option.toList_none, List.append_nil] at h4
      exact ih _ _ ⟨hX, L, hC, h4⟩ h3
    · rw [show byF n x = some _ from if_neg c1] at h4 h5
      simp only [Option.toList_some, List.length_cons, List.length_nil] at h4 h5
      have hC' := hC
      obtain ⟨k1, k2, ⟨b, k3, k3'⟩, k4, k5, k6, k7, k8, k9, k10⟩ := hC'
      have hlen : (xs ++ L).length = xs.length + L.length := List.length_append
      refine (b_getI k2 rfl).mpr ?_
      refine (b_getR k2 rfl).mpr ?_
      refine (b_len k3).mpr ?_
      refine b_ite (fun q => ?_) (fun _ => ?_)
      · exfalso
        have q : nI 300 ≤ nI (xs ++ L).length := q
        rw [nI_leI (by omega) (by omega)] at q
        omega
      refine (b_getR k2 rfl).mpr ?_
      refine (b_getI k2 rfl).mpr ?_
      refine b_st (j := (xs ++ L).length) k3 rfl (by omega) (by omega) fun σ2 u => ?_
      have m2 := u.ne k2 (by decide)
      refine (b_getI m2 rfl).mpr ?_
      refine b_putI m2 (by simp [dgl]) fun σ3 u2 => ?_
      have f : ∀ t, t ≠ 2 → FT t g σ1 g σ3 := fun t ht => (lo_ft k1 u (by decide) ht).tr (lo_ft (lo_tag k1 u.2.2.1) u2 (by decide) ht)
      have o : ∀ k, k ≠ 0 → k ≠ 1 → σ3.1[k]? = σ1.1[k]? := fun k a b => (u2.2.1 k a).trans (u.2.1 k b)
      have z1 : g 1 ≠ 0 := by rw [k1.2 1 (by decide)]; decide
      have z0 : g 0 ≠ 0 := by rw [k1.2 0 (by decide)]; decide
      refine ih _ _ ⟨(hX.tr (cx_up u z1)).tr (cx_up u2 z0), L ++ [jushr n x &&& 255], ?_, h4⟩ h3
      have hB : B3 (upd b (xs ++ L).length (jushr n x &&& 255)) (xs ++ (L ++ [jushr n x &&& 255])) := by
        rw [← List.append_assoc]
        intro i y hi
        by_cases hl2 : i < (xs ++ L).length
        · rw [List.getElem?_append_left hl2] at hi
          simp only [upd, if_neg (Nat.ne_of_lt hl2)]
          exact k3' i y hi
        · rw [List.getElem?_append_right (by omega)] at hi
          have hz := (List.getElem?_eq_some_iff.mp hi).1
          simp only [List.length_cons, List.length_nil] at hz
          have e0 : i = (xs ++ L).length := by omega
          rw [e0, Nat.sub_self] at hi
          simp only [List.getElem?_cons_zero, Option.some.injEq] at hi
          rw [e0, ← hi]
          simp [upd]
      refine ⟨lo_tag (lo_tag k1 u.2.2.1) u2.2.2.1, ?_, ⟨_, u2.ne u.1 (by decide), hB⟩, k4.fr (f 1 (by decide)) (o 2 (by decide) (by decide)), k5.fr (f 1 (by decide)) (o 3 (by decide) (by decide)), k6.fr (o 4 (by decide) (by decide)), k7.fr (f 1 (by decide)) (o 5 (by decide) (by decide)) (o 6 (by decide) (by decide)), k8.fr (o 7 (by decide) (by decide)), k9.fr (fun k a _ => o k (by omega) (by omega)), k10.fr (f 1 (by decide)) (fun i _ => f _ (by omega))⟩
      rw [u2.1]
      show some (Sum.inr (7, (dgl (aDay A) (xs ++ L).length (aLet A).length).set 2 (.int (nI (xs ++ L).length + 1)))) = some (Sum.inr (7, dgl (aDay A) (xs ++ (L ++ [jushr n x &&& 255])).length (aLet A).length))
      rw [nI_1, ← List.append_assoc, List.length_append (as := xs ++ L)]
      rfl
  rcases hx with ⟨e, rfl⟩ | ⟨e, rfl⟩ | ⟨e, rfl⟩ | ⟨e, rfl⟩ | ⟨e, rfl⟩
  · exact step 24 16 e (by decide) (by decide) (by decide) (by simp only [by4, List.length_append, List.length_nil]; omega) (Or.inr (Or.inl ⟨rfl, rfl⟩))
  · exact step 16 8 e (by decide) (by decide) (by decide) (by simp only [by4, List.length_append]; omega) (Or.inr (Or.inr (Or.inl ⟨rfl, rfl⟩)))
  · exact step 8 0 e (by decide) (by decide) (by decide) (by simp only [by4, List.length_append]; omega) (Or.inr (Or.inr (Or.inr (Or.inl ⟨rfl, rfl⟩))))
  · exact step 0 (-8) e (by decide) (by decide) (by decide) (by simp only [by4, List.length_append]; omega) (Or.inr (Or.inr (Or.inr (Or.inr ⟨rfl, rfl⟩))))
  · subst e
    unfold l7_append_3
    rw [if_pos (by decide)]
    exact hr_rt.mpr ⟨hC, hX⟩
theorem d7_feed {a b e d p : Int32} (h : Cls g c σ A) (hW : StW A) : Hr (f7_feed (some 0) a b e d p) σ (CQ g σ 60 2100 (pFeed A a b e d p)) := by
  have ht := hW.2.1
  have l1 := by4_len a
  have l2 := by4_len b
  have l3 := by4_len e
  have l4 := by4_len d
  have l5 := by4_len p
  have h0 := h.2.1
  unfold f7_feed pFeed
  refine (b_eq (e7_bytesOf _ _)).mpr ?_
  refine (b_eq (e7_bytesOf _ _)).mpr ?_
  refine (b_eq (e7_bytesOf _ _)).mpr ?_
  refine (b_eq (e7_bytesOf _ _)).mpr ?_
  refine (b_eq (e7_bytesOf _ _)).mpr ?_
  refine (b_getI h0 rfl).mpr ?_
  have e20 : (by20 a b e d p).length = (by4 a).length + (by4 b).length + (by4 e).length + (by4 d).length + (by4 p).length := by
    simp only [by20, List.length_append]
  rw [nI_add, nI_add, nI_add, nI_add, nI_add, ← e20, show (300 : Int32) = nI 300 from rfl]
  refine b_ite (fun c1 => ?_) (fun c1 => ?_)
  · rw [nI_leI (by omega) (by omega)] at c1
    rw [if_pos c1]
    refine (b_obj h0).mpr ?_
    refine b_hr (h7_append (A := A) (xs := aTape A) (n := a) h (by omega)) ?_
    rintro _ σ1 ⟨k1, x1⟩
    refine (b_obj k1.2.1).mpr ?_
    refine b_hr (h7_append (n := b) k1 (by rw [List.length_append]; omega)) ?_
    rintro _ σ2 ⟨k2, x2⟩
    refine (b_obj k2.2.1).mpr ?_
    refine b_hr (h7_append (n := e) k2 (by rw [List.length_append, List.length_append]; omega)) ?_
    rintro _ σ3 ⟨k3, x3⟩
    refine (b_obj k3.2.1).mpr ?_
    refine b_hr (h7_append (n := d) k3 (by rw [List.length_append, List.length_append, List.length_append]; omega)) ?_
    rintro _ σ4 ⟨k4, x4⟩
    refine (b_obj k4.2.1).mpr ?_
    refine b_hr (h7_append (n := p) k4 (by rw [List.length_append, List.length_append, List.length_append, List.length_append]; omega)) ?_
    rintro _ σ5 ⟨k5, x5⟩
    refine (b_getI k5.2.1 rfl).mpr ?_
    have ea : aTape A ++ by4 a ++ by4 b ++ by4 e ++ by4 d ++ by4 p = aTape A ++ by20 a b e d p := by
      simp only [by20, List.append_assoc]
    rw [ea] at k5
    refine hr_rt.mpr ⟨?_, g, c, k5, ((((x1.tr x2).tr x3).tr x4).tr x5).wk (by omega) (by omega)⟩
    show nI (aTape A ++ by4 a ++ by4 b ++ by4 e ++ by4 d ++ by4 p).length = _
    rw [ea, List.length_append]
  · rw [nI_leI (by omega) (by omega)] at c1
    rw [if_neg c1]
    exact cq_rt rfl h
theorem e7_isKind (a : Int32) (σ : AH) : f7_isKind a σ = some (bI (decide (0 ≤ a ∧ a ≤ 7)), σ) := by
  unfold f7_isKind
  rw [bn_ap (e7_within _ _ _ _)]
  exact hr_det ((b_z (bI_01 _)).mpr (hr_rt.mpr ⟨rfl, rfl⟩))
theorem e7_isText (a : Int32) (σ : AH) : f7_isText a σ = some (bI (decide (0 ≤ a ∧ a ≤ 7)), σ) := e7_isKind a σ
theorem e7_isPerson (a : Int32) (σ : AH) : f7_isPerson a σ = some (bI (decide (0 ≤ a ∧ a ≤ 9)), σ) := by
  unfold f7_isPerson
  rw [bn_ap (e7_within _ _ _ _)]
  exact hr_det ((b_z (bI_01 _)).mpr (hr_rt.mpr ⟨rfl, rfl⟩))
theorem e7_isRow (a : Int32) (σ : AH) : f7_isRow a σ = some (bI (decide (2 ≤ a ∧ a ≤ 8)), σ) := by
  unfold f7_isRow
  rw [bn_ap (e7_within _ _ _ _)]
  exact hr_det ((b_z (bI_01 _)).mpr (hr_rt.mpr ⟨rfl, rfl⟩))
theorem e7_pairOf (k s t : Nat) (σ : AH) : f7_pairOf (nI k) (nI s) (nI t) σ = some (nI (pair k s t), σ) := by
  unfold f7_pairOf
  rw [rt_ap, show (10 : Int32) = nI 10 from rfl, pk_mul, nI_add, pk_mul, nI_add, Nat.mul_comm k 10]
  rfl
theorem d7_allow {a b d : Int32} {is : Bool} (h : Cls g c σ A) (hW : StW A) : Hr (f7_allow (some 0) a b d (bI is)) σ (CQ g σ 60 2100 (pAllow A a b d is)) := by
  unfold f7_allow pAllow
  refine (b_eq (e7_isKind _ _)).mpr ?_
  by_cases c1 : ¬ (0 ≤ a ∧ a ≤ 7)
  · rw [decide_eq_false c1, if_pos (show bI false = 0 from rfl), if_neg (fun q => c1 q.1.1)]
    exact cq_rt rfl h
  have c1 := Classical.not_not.mp c1
  rw [decide_eq_true c1, if_neg (show ¬ bI true = 0 by decide)]
  refine (b_eq (e7_isPerson _ _)).mpr ?_
  by_cases c2 : ¬ (0 ≤ b ∧ b ≤ 9)
  · rw [decide_eq_false c2, if_pos (show bI false = 0 from rfl), if_neg (fun q => c2 q.1.2.1)]
    exact cq_rt rfl h
  have c2 := Classical.not_not.mp c2
  rw [decide_eq_true c2, if_neg (show ¬ bI true = 0 by decide)]
  refine (b_eq (e7_isPerson _ _)).mpr ?_
  by_cases c3 : ¬ (0 ≤ d ∧ d ≤ 9)
  · rw [decide_eq_false c3, if_pos (show bI false = 0 from rfl), if_neg (fun q => c3 q.1.2.2)]
    exact cq_rt rfl h
  have c3 := Classical.not_not.mp c3
  rw [decide_eq_true c3, if_neg (show ¬ bI true = 0 by decide)]
  obtain ⟨i, hi, rfl⟩ := (in_nI (m := 7) (by decide)).mp c1
  obtain ⟨s, hs, rfl⟩ := (in_nI (m := 9) (by decide)).mp c2
  obtain ⟨t, ht, rfl⟩ := (in_nI (m := 9) (by decide)).mp c3
  rw [show tn (nI i) = i from nI_clamp (by omega), show tn (nI s) = s from nI_clamp (by omega), show tn (nI t) = t from nI_clamp (by omega)]
  have hpl : pair i s t < 800 := by unfold pair; omega
  obtain ⟨k1, k2, k3, k4, k5, ⟨f, k6, k6'⟩, k7, k8, k9, k10⟩ := id h
  refine (b_eq (e7_pairOf _ _ _ _)).mpr ?_
  refine (b_getR k2 rfl).mpr ?_
  refine (b_ld k6 rfl hpl (by decide)).mpr ?_
  rw [k6' _ hpl]
  refine b_ite (fun c4 => ?_) (fun c4 => ?_)
  · rw [bI_inj] at c4
    rw [if_neg (fun q => q.2 c4)]
    exact cq_rt rfl h
  · rw [bI_inj] at c4
    rw [if_pos ⟨⟨c1, c2, c3⟩, c4⟩]
    refine (b_getR k2 rfl).mpr ?_
    refine b_stZ (bI_01 _) k6 rfl hpl (by decide) fun σ2 u => ?_
    have ff : ∀ t, t ≠ 2 → FT t g σ g σ2 := fun t ht => lo_ft k1 u (by decide) ht
    have z4 : g 4 ≠ 0 := by rw [k1.2 4 (by decide)]; decide
    refine hr_rt.mpr ⟨rfl, g, c, ⟨lo_tag k1 u.2.2.1, u.ne k2 (by decide), k3.fr (u.2.1 1 (by decide)), k4.fr (ff 1 (by decide)) (u.2.1 2 (by decide)), k5.fr (ff 1 (by decide)) (u.2.1 3 (by decide)), ⟨_, u.1, fun j hj => ?_⟩, k7.fr (ff 1 (by decide)) (u.2.1 5 (by decide)) (u.2.1 6 (by decide)), k8.fr (u.2.1 7 (by decide)), k9.fr (fun k a _ => u.2.1 k (by omega)), k10.fr (ff 1 (by decide)) (fun i _ => ff _ (by omega))⟩, (cx_up u z4).wk (by omega) (by omega)⟩
    show upd f (pair i s t) (bI is) j = bI (upF (aAll A) (pair i s t) is j)
    by_cases e : j = pair i s t
    · simp [upd, upF, e]
    · simp only [upd, upF, if_neg e]
      exact k6' j hj
end CLSB
