/-! ===== the class: a new letter; send ===== -/
abbrev ltO (s t w d : Nat) (cc : Nat) : va_E := .inr (2, [.int (nI s), .int (nI t), .int (nI w), .int (nI d), .ref cc, .ref (cc + 2), .int 0, .int (-1), .int 0, .null, .ref cc, .ref (cc + 9), .ref (cc + 10)])
theorem h2_init {σ : AH} {cc s t w d : Nat} (h : σ.1[cc + 1]? = some (.inr (2, [.int 0, .int 0, .int 0, .int 0, .null, .null, .int 0, .int 0, .int 0, .null, .null, .null, .null]))) (hl : σ.1.length = cc + 9) :
    Hr (f2_init (some (cc + 1)) (nI s) (nI t) (nI w) (nI d) (some cc) (some (cc + 2))) σ (fun _ σ' => σ'.1.length = cc + 51 ∧ σ'.2 = σ.2 + 80 ∧ (∀ k, k < cc + 9 → k ≠ cc + 1 → σ'.1[k]? = σ.1[k]?) ∧ σ'.1[cc + 1]? = some (ltO s t w d cc) ∧ (∃ sg, σ'.1[cc + 9]? = some (rA5 6 8 sg) ∧ ∀ k, k < 8 → sg k = some (cc + 11 + 5 * k)) ∧ σ'.1[cc + 10]? = some (.inl (1, 8, .inl (fun _ => 0))) ∧ ∀ k, k < 8 → FB σ' (cc + 11 + 5 * k) 0 []) := by
  unfold f2_init
  refine (b_obj h).mpr ?_
  refine b_putI h (by simp) fun σ1 u1 => ?_
  refine b_putI u1.1 (by simp) fun σ2 u2 => ?_
  refine b_putI u2.1 (by simp) fun σ3 u3 => ?_
  refine b_putR u3.1 (by simp) fun σ4 u4 => ?_
  have U4 := ((u1.tr u2).tr u3).tr u4
  refine b_newR (m := 8) rfl (by decide) fun σ5 n5 => ?_
  have l4 : σ4.1.length = cc + 9 := U4.2.2.1.trans hl
  rw [l4]
  refine b_putR (n5.old U4.1) (by simp) fun σ6 u6 => ?_
  refine b_newA (m := 8) rfl (by decide) fun σ7 n7 => ?_
  have l5 : σ5.1.length = cc + 10 := by rw [n5.2.2.1, l4]
  have l6 : σ6.1.length = cc + 10 := u6.2.2.1.trans l5
  rw [l6]
  refine b_putR (n7.old u6.1) (by simp) fun σ8 u8 => ?_
  refine b_putI u8.1 (by simp) fun σ9 u9 => ?_
  refine b_putI u9.1 (by simp) fun σ10 u10 => ?_
  refine b_putI u10.1 (by simp) fun σ11 u11 => ?_
  refine b_putI u11.1 (by simp) fun σ12 u12 => ?_
  refine b_putR u12.1 (by simp) fun σ13 u13 => ?_
  refine b_putR u13.1 (by simp) fun σ14 u14 => ?_
  refine b_putR u14.1 (by simp) fun σ15 u15 => ?_
  have U15 := ((((((u8.tr u9).tr u10).tr u11).tr u12).tr u13).tr u14).tr u15
  have l7 : σ7.1.length = cc + 11 := by rw [n7.2.2.1, l6]
  have l15 : σ15.1.length = cc + 11 := U15.2.2.1.trans l7
  have s15 : σ15.2 = σ.2 + 16 := by rw [U15.2.2.2, n7.2.2.2, u6.2.2.2, n5.2.2.2, U4.2.2.2]
  have c9 : σ15.1[cc + 9]? = some (rA5 6 8 (fun _ => none)) := by
    have := n5.1
    rw [l4] at this
    exact U15.ne (n7.old (u6.ne this (by omega))) (by omega)
  have c10 : σ15.1[cc + 10]? = some (.inl (1, 8, .inl (fun _ => 0))) := by
    have := n7.1
    rw [l6] at this
    exact U15.ne this (by omega)
  have cq : σ15.1[cc + 1]? = some (ltO s t w d cc) := U15.1
  have oo : ∀ k, k < cc + 9 → k ≠ cc + 1 → σ15.1[k]? = σ.1[k]? := fun k hk hne => by
    rw [U15.2.1 k hne, n7.2.1 k (by omega), u6.2.1 k hne, n5.2.1 k (by omega), U4.2.1 k hne]
  clear u1 u2 u3 u4 U4 n5 u6 n7 u8 u9 u10 u11 u12 u13 u14 u15 U15
  refine b_hr (P := fun _ σ' => σ'.1.length = cc + 51 ∧ σ'.2 = σ.2 + 80 ∧ (∀ k, k < cc + 9 → k ≠ cc + 1 → σ'.1[k]? = σ.1[k]?) ∧ σ'.1[cc + 1]? = some (ltO s t w d cc) ∧ (∃ sg, σ'.1[cc + 9]? = some (rA5 6 8 sg) ∧ ∀ k, k < 8 → sg k = some (cc + 11 + 5 * k)) ∧ σ'.1[cc + 10]? = some (.inl (1, 8, .inl (fun _ => 0))) ∧ ∀ k, k < 8 → FB σ' (cc + 11 + 5 * k) 0 []) ?_ (fun _ _ hq => hr_rt.mpr hq)
  refine hr_loop (fun z σ1 => ∃ (i : Nat) (sg : Nat → Option Nat), z = nI i ∧ i ≤ 8 ∧ σ1.1.length = cc + 11 + 5 * i ∧ σ1.2 = σ.2 + 16 + 8 * i ∧ (∀ k, k < cc + 9 → k ≠ cc + 1 → σ1.1[k]? = σ.1[k]?) ∧ σ1.1[cc + 1]? = some (ltO s t w d cc) ∧ σ1.1[cc + 9]? = some (rA5 6 8 sg) ∧ (∀ k, k < i → sg k = some (cc + 11 + 5 * k)) ∧ σ1.1[cc + 10]? = some (.inl (1, 8, .inl (fun _ => 0))) ∧ ∀ k, k < i → FB σ1 (cc + 11 + 5 * k) 0 []) (fun z => 100 - z.toNatClampNeg) ⟨0, _, rfl, by omega, l15, s15, oo, cq, c9, fun k hk => by omega, c10, fun k hk => by omega⟩ (by show 100 - _ < _; omega) ?_
  rintro rec z σ1 ⟨i, sg, rfl, hi, hl1, hs1, ho1, hq1, h9, hsg, h10, hF⟩ ih
  unfold l2_init_83
  rw [show (8 : Int32) = nI 8 from rfl]
  refine b_ite (fun c1 => ?_) (fun c1 => ?_)
  · rw [nI_leI (by omega) (by omega)] at c1
    have : i = 8 := by omega
    subst this
    exact hr_rt.mpr ⟨hl1, hs1, ho1, hq1, ⟨sg, h9, hsg⟩, h10, hF⟩
  rw [nI_leI (by omega) (by omega)] at c1
  refine (b_getR hq1 rfl).mpr ?_
  refine b_newO fun σ2 n2 => ?_
  refine (b_obj n2.1).mpr ?_
  refine b_hr (h0_init (q := σ1.1.length) (cap := 0) n2.1 n2.2.2.1 (by decide)) ?_
  rintro _ σ3 ⟨l3, s3, o3, hF3⟩
  have O3 : ∀ k, k < σ1.1.length → σ3.1[k]? = σ1.1[k]? := fun k hk => by rw [o3 k hk, n2.2.1 k hk]
  have h9' := h9
  rw [← O3 _ (by omega)] at h9'
  obtain ⟨_, _, _, _, fo⟩ := hF3.obj
  refine b_stR h9' rfl (by omega) (by decide) (Or.inr (rdO_some fo)) fun σ4 u => ?_
  have O4 : ∀ k, k < σ1.1.length → k ≠ cc + 9 → σ4.1[k]? = σ1.1[k]? := fun k hk hne => (u.2.1 k hne).trans (O3 k hk)
  refine ih _ _ ⟨i + 1, _, nI_1 i, by omega, by rw [u.2.2.1, l3]; omega, ?_, fun k hk hne => (O4 k (by omega) (by omega)).trans (ho1 k hk hne), by rw [O4 _ (by omega) (by omega)]; exact hq1, u.1, fun k hk => ?_, by rw [O4 _ (by omega) (by omega)]; exact h10, fun k hk => ?_⟩ ?_
  · have := n2.2.2.2
    simp only [List.length_cons, List.length_nil] at this
    rw [u.2.2.2, s3, this, hs1]
    omega
  · by_cases e : k = i
    · simp only [va_up, e, if_true]
      rw [hl1]
    · simp only [va_up, if_neg e]
      exact hsg k (by omega)
  · by_cases e : k = i
    · rw [e, ← hl1]
      exact hF3.frame (fun m z1 z2 => u.2.1 m (by omega))
    · exact (hF k (by omega)).frame (fun m z1 z2 => O4 m (by omega) (by omega))
  · rw [nI_1, nI_clamp (by omega), nI_clamp (by omega)]; omega
section CLSL
variable {g : Tg} {c : Nat → Nat} {σ : AH} {A : St}
theorem h7_copyOfTape (h : Cls g c σ A) (hW : StW A) : Hr (f7_copyOfTape (some 0)) σ (fun r σ' => r = some σ.1.length ∧ σ'.1.length = σ.1.length + 1 ∧ σ'.2 = σ.2 + (aTape A).length ∧ (∀ k, k < σ.1.length → σ'.1[k]? = σ.1[k]?) ∧ ∃ cm, σ'.1[σ.1.length]? = some (.inl (0, (aTape A).length, .inl cm)) ∧ B3 cm (aTape A)) := by
  have ht := hW.2.1
  have hl := h.len
  obtain ⟨tp, k3, k3'⟩ := h.2.2.1
  unfold f7_copyOfTape
  refine (b_getI h.2.1 rfl).mpr ?_
  refine b_newA (m := (aTape A).length) rfl (by omega) fun σ1 n1 => ?_
  refine (b_getR (n1.old h.2.1) rfl).mpr ?_
  refine (b_getI (n1.old h.2.1) rfl).mpr ?_
  rw [hr_bn, hr_copy (s0 := (0 : Int32)) (d0 := (0 : Int32)) (sp := 0) (dp := 0) (m := (aTape A).length) (n1.old k3) n1.1 (by omega) rfl rfl rfl (by omega) (by omega) (by decide) (by omega), hr_rt]
  have u := Up.of (σ := σ1) (e := .inl (0, (aTape A).length, .inl (va_cpy tp (fun _ => 0) 0 0 (aTape A).length))) n1.1
  refine ⟨rfl, u.2.2.1.trans n1.2.2.1, u.2.2.2.trans n1.2.2.2, fun k hk => (u.2.1 k (by omega)).trans (n1.2.1 k hk), _, u.1, fun k x hk => ?_⟩
  have hkl := (List.getElem?_eq_some_iff.mp hk).1
  rw [pk_cpy_in (by omega) (by omega)]
  rw [Nat.zero_add, Nat.sub_zero]
  exact k3' k x hk
theorem Cls.cc {c' : Nat → Nat} (h : Cls g c σ A) (hc : ∀ i, i < (aLet A).length → c' i = c i) : Cls g c' σ A := by
  obtain ⟨k1, k2, k3, k4, k5, k6, k7, ⟨f, k8, k8'⟩, k9, k10⟩ := h
  refine ⟨k1, k2, k3, k4, k5, k6, k7, ⟨f, k8, fun i hi => by rw [hc i hi]; exact k8' i hi⟩, k9, fun i x hx => ?_⟩
  rw [hc i (List.getElem?_eq_some_iff.mp hx).1]
  exact k10 i x hx
def ltg (g : Tg) (L l : Nat) : Tg := fun k => if k < L then g k else if k = L + 1 ∨ (L + 10 ≤ k ∧ k < L + 51) then 3 + l else if k < L + 51 then 1 else 0
theorem ltg_lo {L l k : Nat} (h : k < L) : ltg g L l k = g k := if_pos h
theorem ltg_3 {L l k : Nat} (h : k = L + 1 ∨ (L + 10 ≤ k ∧ k < L + 51)) : ltg g L l k = 3 + l := by
  unfold ltg
  rw [if_neg (by omega), if_pos h]
theorem ltg_1 {L l k : Nat} (h1 : L ≤ k) (h2 : k < L + 10) (h3 : k ≠ L + 1) : ltg g L l k = 1 := by
  unfold ltg
  rw [if_neg (by omega), if_neg (by omega), if_pos (by omega)]
theorem ltg_z {L l k : Nat} (hg : ∀ k, g k ≠ 0 → k < L) (h : ltg g L l k ≠ 0) : k < L + 51 := by
  unfold ltg at h
  split at h
  · omega
  · split at h
    · omega
    · split at h
      · assumption
      · exact absurd rfl h
/-- the letter is made, and stands in its row -/
theorem h7_put {s t w : Nat} {β : Type} {G : Option Nat → Cm β} {Q : β → AH → Prop} (h : Cls g c σ A) (hW : StW A) (hl : (aLet A).length < 60)
    (kk : ∀ σ' g' c', Cls g' c' σ' (addL A (newL A s t w)) → c' (aLet A).length = σ.1.length → CX g σ g' σ' 51 1751 → Hr (G (some (σ.1.length + 1))) σ' Q) :
    Hr (bn (oObj (some 0) 7) fun _ => bn (f7_copyOfTape (some 0)) fun v43 => bn (oNewO 2 [.int 0, .int 0, .int 0, .int 0, .null, .null, .int 0, .int 0, .int 0, .null, .null, .null, .null]) fun v48 => bn (oGetI (some 0) 7 0) fun v56 => bn (oObj (some 0) 7) fun _ => bn (f7_takeTape (some 0)) fun v62 => bn (oObj v48 2) fun _ => bn (f2_init v48 (nI s) (nI t) (nI w) v56 v43 v62) fun _ => bn (oGetR (some 0) 7 7) fun v71 => bn (oStR 4 2 v71 (nI (aLet A).length) v48) fun _ => bn (oGetI (some 0) 7 8) fun v81 => bn (oPutI (some 0) 7 8 (v81 + 1)) fun _ => G v48) σ Q := by
  have hLen := h.len
  have htl := hW.2.1
  refine (b_obj h.2.1).mpr ?_
  refine b_hr (h7_copyOfTape h hW) ?_
  rintro _ σ1 ⟨rfl, l1, s1, o1, cm, c1, hcm⟩
  refine b_newO fun σ2 n2 => ?_
  have l2 : σ2.1.length = σ.1.length + 2 := by rw [n2.2.2.1, l1]
  have s2 : σ2.2 = σ.2 + (aTape A).length + 13 := by rw [n2.2.2.2, s1]; rfl
  have n2c := n2.1
  rw [l1] at n2c ⊢
  have O2 : ∀ k, k < σ.1.length → σ2.1[k]? = σ.1[k]? := fun k hk => by rw [n2.2.1 k (by omega), o1 k hk]
  have h2 := h.grow (g' := g) O2 (fun _ _ => rfl) (fun k hk => by have := h.1.1 k hk; omega)
  refine (b_getI h2.2.1 rfl).mpr ?_
  refine (b_obj h2.2.1).mpr ?_
  refine b_hr (h7_takeTape h2 hW) ?_
  rintro _ σ3 ⟨rfl, l3, h3, hT3, x3, O3⟩
  rw [l2] at l3 h3 hT3 x3 O3 ⊢
  have n3c : σ3.1[σ.1.length + 1]? = some (.inr (2, [.int 0, .int 0, .int 0, .int 0, .null, .null, .int 0, .int 0, .int 0, .null, .null, .null, .null])) := by
    rw [O3 _ (by omega) (by omega)]; exact n2c
  refine (b_obj n3c).mpr ?_
  refine b_hr (h2_init (cc := σ.1.length) n3c (by omega)) ?_
  rintro _ σ4 ⟨l4, s4, O4, q4, ⟨sg, c9, hsg⟩, c10, hF4⟩
  have hz4 : ∀ k, ltg g σ.1.length (aLet A).length k ≠ 0 → k < σ4.1.length := fun k hk => by rw [l4]; exact ltg_z h.1.1 hk
  have g3 : ∀ k, ext g (σ.1.length + 2) (σ.1.length + 2 + 7) 1 k ≠ 0 → (k < σ.1.length ∧ ext g (σ.1.length + 2) (σ.1.length + 2 + 7) 1 k = g k) ∨ (σ.1.length + 2 ≤ k ∧ k < σ.1.length + 9 ∧ ext g (σ.1.length + 2) (σ.1.length + 2 + 7) 1 k = 1) := fun k hk => by
    by_cases z : k < σ.1.length + 2
    · rw [ext_lo z] at hk ⊢
      exact Or.inl ⟨h.1.1 k hk, rfl⟩
    · have := ext_nz (n := σ.1.length + 2) (fun k hk => by have := h.1.1 k hk; omega) (by omega) hk
      exact Or.inr ⟨by omega, by omega, ext_in (by omega) (by omega)⟩
  have h4 := h3.ft (g' := ltg g σ.1.length (aLet A).length) (σ' := σ4) (fun k hk => by
    rcases g3 k hk with ⟨z1, z2⟩ | ⟨z1, z2, z3⟩
    · exact ⟨by rw [ltg_lo z1, z2], O4 k (by omega) (by omega)⟩
    · exact ⟨by rw [ltg_1 (by omega) (by omega) (by omega), z3], O4 k (by omega) (by omega)⟩) hz4
  have h5 := h4.cc (c' := upF c (aLet A).length σ.1.length) (fun i hi => by simp only [upF, if_neg (show i ≠ (aLet A).length from Nat.ne_of_lt hi)])
  obtain ⟨k1, k2, k3, k4, k5, k6, k7, ⟨f, k8, k8'⟩, k9, k10⟩ := h5
  refine (b_getR k2 rfl).mpr ?_
  refine b_stR k8 rfl hl (by decide) (Or.inr (rdO_some q4)) fun σ5 u5 => ?_
  have m2 := u5.ne k2 (by decide)
  refine (b_getI m2 rfl).mpr ?_
  refine b_putI m2 (by simp [dgl]) fun σ6 u6 => ?_
  generalize hg1 : ltg g σ.1.length (aLet A).length = g1 at k1 k4 k5 k7 k10
  have ft : ∀ t, t ≠ 2 → FT t g1 σ4 g1 σ6 := fun t ht => (lo_ft k1 u5 (by decide) ht).tr (lo_ft (lo_tag k1 u5.2.2.1) u6 (by decide) ht)
  have o6 : ∀ k, k ≠ 0 → k ≠ 7 → σ6.1[k]? = σ4.1[k]? := fun k a b => (u6.2.1 k a).trans (u5.2.1 k b)
  have l6 : σ6.1.length = σ.1.length + 51 := by rw [u6.2.2.1, u5.2.2.1, l4]
  have s6 : σ6.2 ≤ σ.2 + 1751 := by
    have := x3.2.2.2.2
    rw [u6.2.2.2, u5.2.2.2, s4]
    omega
  refine kk σ6 g1 (upF c (aLet A).length σ.1.length) ⟨lo_tag k1 (by rw [u6.2.2.1, u5.2.2.1]), ?_, k3.fr (o6 1 (by decide) (by decide)), k4.fr (ft 1 (by decide)) (o6 2 (by decide) (by decide)), k5.fr (ft 1 (by decide)) (o6 3 (by decide) (by decide)), k6.fr (o6 4 (by decide) (by decide)), k7.fr (ft 1 (by decide)) (o6 5 (by decide) (by decide)) (o6 6 (by decide) (by decide)), ⟨_, u6.ne u5.1 (by decide), fun i hi => ?_⟩, k9.fr (fun k a b => o6 k (by omega) (by omega)), fun i x hx => ?_⟩ (by simp [upF]) ⟨fun k hk => by rw [← hg1]; exact ltg_lo hk, fun k hk hkl => ?_, by omega, by omega, s6⟩
  · rw [u6.1]
    show some (Sum.inr (7, (dgl (aDay A) 0 (aLet A).length).set 8 (.int (nI (aLet A).length + 1)))) = some (Sum.inr (7, dgl (aDay A) 0 (aLet A ++ [newL A s t w]).length))
    rw [nI_1, List.length_append]
    rfl
  · have hi : i < (aLet A ++ [newL A s t w]).length := hi
    rw [List.length_append] at hi
    simp only [List.length_cons, List.length_nil] at hi
    show va_up f (aLet A).length (some (σ.1.length + 1)) i = some (upF c (aLet A).length σ.1.length i + 1)
    by_cases e : i = (aLet A).length
    · simp [va_up, upF, e]
    · simp only [va_up, if_neg e]
      exact k8' i (by show i < (aLet A).length; omega)
  · have hx : (aLet A ++ [newL A s t w])[i]? = some x := hx
    show LtI g1 σ6 (upF c (aLet A).length σ.1.length i) i x (rwA A)
    by_cases e : i < (aLet A).length
    · rw [List.getElem?_append_left e] at hx
      exact (k10 i x hx).fr (ft 1 (by decide)) (ft _ (by omega))
    · rw [List.getElem?_append_right (by omega)] at hx
      have hz := (List.getElem?_eq_some_iff.mp hx).1
      simp only [List.length_cons, List.length_nil] at hz
      have e : i = (aLet A).length := by omega
      rw [e, Nat.sub_self] at hx
      cases hx
      rw [e]
      simp only [upF, if_true]
      have O6 : ∀ k, 23 ≤ k → σ6.1[k]? = σ4.1[k]? := fun k hk => o6 k (by omega) (by omega)
      have hT4 : TxI g1 σ6 (σ.1.length + 2) (aTape A) := by
        refine TxI.fr hT3 (fun k hk => ?_)
        rcases g3 k (by rw [hk]; decide) with ⟨z1, z2⟩ | ⟨z1, z2, z3⟩
        · refine ⟨by rw [← hg1, ltg_lo z1, ← z2]; exact hk, ?_⟩
          have gk : g1 k = 1 := by rw [← hg1, ltg_lo z1, ← z2]; exact hk
          rw [(ft 1 (by decide) k gk).2, O4 k (by omega) (by omega)]
        · exact ⟨by rw [← hg1]; exact ltg_1 (by omega) (by omega) (by omega), by rw [O6 k (by omega), O4 k (by omega) (by omega)]⟩
      have cC : σ6.1[σ.1.length]? = some (.inl (0, (aTape A).length, .inl cm)) := by
        rw [O6 _ hLen, O4 _ (by omega) (by omega), O3 _ (by omega) (by omega), n2.2.1 _ (by omega)]
        exact c1
      have gC : g1 σ.1.length = 1 := by rw [← hg1]; exact ltg_1 (by omega) (by omega) (by omega)
      refine ⟨none, σ.1.length, fun _ => 0, ⟨by rw [← hg1]; exact ltg_3 (by omega), by rw [O6 _ (by omega)]; exact q4⟩, ⟨gC, cm, cC, hcm⟩, hT4, ⟨by rw [← hg1]; exact ltg_1 (by omega) (by omega) (by omega), sg, by rw [O6 _ (by omega)]; exact c9, hsg⟩, ⟨by rw [← hg1]; exact ltg_3 (by omega), by rw [O6 _ (by omega)]; exact c10⟩, fun k hk => ⟨fun j hj => by rw [← hg1]; exact ltg_3 (by omega), [], (hF4 k hk).frame (fun m z1 z2 => O6 m (by omega)), Or.inl rfl⟩, Or.inl ⟨rfl, rfl⟩, ⟨gC, cm, cC, ?_⟩⟩
      show B3 cm (lvg (newL A s t w))
      exact hcm
  · have z0 : k ≠ 0 ∧ k ≠ 7 := ⟨fun e => by rw [e, h.1.2 0 (by decide)] at hk; omega, fun e => by rw [e, h.1.2 7 (by decide)] at hk; omega⟩
    rw [o6 k z0.1 z0.2, O4 k (by omega) (by omega), O3 k (by omega) z0.1, O2 k hkl]
theorem d7_send {a b d : Int32} (h : Cls g c σ A) (hW : StW A) (hB : ∀ s t w, BdF (addL A (newL A s t w))) (hB2 : ∀ s t w k, (rwA (addL A (newL A s t w)) k (aTape A)).length < 99999) : Hr (f7_send (some 0) a b d) σ (CQ g σ 60 (2100 + 3 * ((fnds (aLet (pSend A a b d).2)).length - (fnds (aLet A)).length)) (pSend A a b d)) := by
  have h60 := hW.2.2.2.2.2.2.1
  unfold f7_send pSend
  refine (b_eq (e7_isPerson _ _)).mpr ?_
  by_cases c1 : ¬ (0 ≤ a ∧ a ≤ 9)
  · rw [decide_eq_false c1, if_pos (show bI false = 0 from rfl), if_neg (fun q => c1 q.1.1)]
    exact cq_rt rfl h
  have c1 := Classical.not_not.mp c1
  rw [decide_eq_true c1, if_neg (show ¬ bI true = 0 by decide)]
  refine (b_eq (e7_isPerson _ _)).mpr ?_
  by_cases c2 : ¬ (0 ≤ b ∧ b ≤ 9)
  · rw [decide_eq_false c2, if_pos (show bI false = 0 from rfl), if_neg (fun q => c2 q.1.2.1)]
    exact cq_rt rfl h
  have c2 := Classical.not_not.mp c2
  rw [decide_eq_true c2, if_neg (show ¬ bI true = 0 by decide)]
  refine (b_eq (e7_within _ _ _ _)).mpr ?_
  by_cases c3 : ¬ (0 ≤ d ∧ d ≤ 2)
  · rw [decide_eq_false c3, if_pos (show bI false = 0 from rfl), if_neg (fun q => c3 q.1.2.2)]
    exact cq_rt rfl h
  have c3 := Classical.not_not.mp c3
  rw [decide_eq_true c3, if_neg (show ¬ bI true = 0 by decide)]
  refine (b_getI h.2.1 rfl).mpr ?_
  rw [show (60 : Int32) = nI 60 from rfl]
  refine b_ite (fun c4 => ?_) (fun c4 => ?_)
  · rw [nI_ltI (by omega) (by omega)] at c4
    rw [if_pos ⟨⟨c1, c2, c3⟩, c4⟩]
    obtain ⟨s, hs, rfl⟩ := (in_nI (m := 9) (by decide)).mp c1
    obtain ⟨t, ht, rfl⟩ := (in_nI (m := 9) (by decide)).mp c2
    obtain ⟨w, hw, rfl⟩ := (in_nI (m := 2) (by decide)).mp c3
    rw [show tn (nI s) = s from nI_clamp (by omega), show tn (nI t) = t from nI_clamp (by omega), show tn (nI w) = w from nI_clamp (by omega)]
    refine (b_getI h.2.1 rfl).mpr ?_
    refine h7_put h hW c4 fun σ1 g1 c' h1 hc1 x1 => ?_
    have hDl := addL_dl (s := s) (t := t) (w := w) hW c4 (by omega) (by omega) (by omega)
    have hxat : (aLet (addL A (newL A s t w)))[(aLet A).length]? = some (newL A s t w) := by
      show (aLet A ++ [_])[_]? = _
      rw [List.getElem?_append_right (Nat.le_refl _), Nat.sub_self]
      rfl
    have hll := (List.getElem?_eq_some_iff.mp hxat).1
    have hlat := lAt_of hxat
    have hB1 := hB s t w
    have hB3 := hB2 s t w
    refine (b_obj h1.2.1).mpr ?_
    refine b_hr (h7_sightAll h1 hDl.2.1 hDl.2.2.1) ?_
    rintro _ σ2 ⟨h2, x2, hs2, f12, f22⟩
    have hG2 : SG g1 c' σ2 (addL A (newL A s t w)) := ⟨h2, hs2⟩
    refine (b_getR h2.2.1 rfl).mpr ?_
    refine (b_obj h2.2.1).mpr ?_
    have hR2 : RRI g1 σ2 5 6 (aRul A) := h2.2.2.2.2.2.2.1
    refine b_hr (h7_firstRule hG2 hDl hll hR2 (by decide) (by decide) hW.2.2.2.2.2.1 (fun k _ => by have := hB1 (aLet A).length k; omega)) ?_
    rintro r σ3 ⟨h3, hS3, -, hres⟩
    have x3 := cx_lo h2.1 hS3 (by omega)
    refine (b_obj h3.1.2.1).mpr ?_
    have X3 := (x1.tr x2).tr x3
    unfold sentL
    rcases hres with ⟨rfl, hq⟩ | ⟨ra, rl, rfl, hra, hq, hm⟩
    · rw [hq]
      unfold f7_deal
      rw [if_pos rfl, bn_rt]
      exact hr_rt.mpr ⟨rfl, g1, c', h3.1, X3.wk (by omega) (by omega)⟩
    · rw [hq]
      have hrw := hW.2.2.2.2.2.1 rl hm
      have hraw : (rwA (addL A (newL A s t w)) (rK rl) (lB (newL A s t w))).length < 99999 := hB3 (rK rl)
      rw [← hc1]
      refine b_hr (h7_deal h3 hDl hxat rfl hra hrw hraw) ?_
      rintro _ σ4 ⟨g4, h4, x4⟩
      have hsel : findR (addL A (newL A s t w)) (aLet A).length (rK rl) = rwA (addL A (newL A s t w)) (rK rl) (lB (newL A s t w)) := by
        have h1 := List.find?_some hq
        unfold selB at h1
        rw [Bool.and_eq_true] at h1
        have h2 := h1.2
        unfold hasK at h2
        rw [Bool.and_eq_true, decide_eq_true_eq] at h2
        have h3 := h2.2
        unfold findR at h3 ⊢
        split at h3
        · simp at h3
        · split at h3
          · simp at h3
          · rename_i z1 z2
            rw [if_neg z1, if_neg z2, hlat]
            rfl
      have eL : setL (addL A (newL A s t w)) (aLet A).length ((newL A s t w).1, (rA rl, nI (rK rl), if rA rl ≤ 2 then 0 else 1, rwA (addL A (newL A s t w)) (rK rl) (lB (newL A s t w)))) = addL A (dealt (addL A (newL A s t w)) (aLet A).length (newL A s t w) (some rl)) := by
        unfold setL
        rw [← hsel]
        show ((aDay A, []), aKept A, aKind A, aAll A, aRul A, (aLet A ++ [newL A s t w]).set (aLet A).length _) = ((aDay A, []), aKept A, aKind A, aAll A, aRul A, aLet A ++ [_])
        rw [List.set_append_right _ _ (Nat.le_refl _), Nat.sub_self]
        rfl
      rw [eL] at h4
      refine hr_rt.mpr ⟨rfl, g4, c', h4, (X3.tr x4).wk (by omega) ?_⟩
      show _ ≤ 2100 + 3 * ((fnds (aLet A ++ [dealt (addL A (newL A s t w)) (aLet A).length (newL A s t w) (some rl)])).length - (fnds (aLet A)).length)
      rw [fnds_app, fnds_one, List.length_append, Nat.add_sub_cancel_left]
      show 1751 + 0 + 0 + (308 + 3 * (rwA (addL A (newL A s t w)) (rK rl) (lB (newL A s t w))).length) ≤ 2100 + 3 * (findR (addL A (newL A s t w)) (aLet A).length (rK rl)).length
      rw [hsel]
      omega
  · rw [nI_ltI (by omega) (by omega)] at c4
    rw [if_neg (fun q => c4 q.2)]
    exact cq_rt rfl h
end CLSL
