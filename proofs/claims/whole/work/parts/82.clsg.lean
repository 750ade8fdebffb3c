/-! ===== the class's rules: rows of rules; rule, drop, quarrel ===== -/
def Sb (σ σ' : AH) (q b : Nat) : Prop := (∀ k, k ≠ q → k ≠ b → σ'.1[k]? = σ.1[k]?) ∧ σ'.1.length = σ.1.length ∧ σ'.2 = σ.2
theorem Sb.rf {σ : AH} {q b : Nat} : Sb σ σ q b := ⟨fun _ _ _ => rfl, rfl, rfl⟩
theorem Sb.tr {σ σ1 σ2 : AH} {q b : Nat} (h : Sb σ σ1 q b) (k : Sb σ1 σ2 q b) : Sb σ σ2 q b := ⟨fun a h1 h2 => (k.1 a h1 h2).trans (h.1 a h1 h2), k.2.1.trans h.2.1, k.2.2.trans h.2.2⟩
theorem sbd_q {σ σ' : AH} {q b : Nat} {e : va_E} (u : Up σ σ' q e) : Sb σ σ' q b := ⟨fun k h _ => u.2.1 k h, u.2.2⟩
theorem sbd_b {σ σ' : AH} {q b : Nat} {e : va_E} (u : Up σ σ' b e) : Sb σ σ' q b := ⟨fun k _ h => u.2.1 k h, u.2.2⟩
theorem sb_ft {g : Tg} {σ σ' : AH} {q b t : Nat} (h : Sb σ σ' q b) (hq : g q = 2) (hb : g b = 2) (ht : t ≠ 2) : FT t g σ g σ' := fun k hk => ⟨hk, h.1 k (fun e => by rw [e, hq] at hk; exact ht hk.symm) (fun e => by rw [e, hb] at hk; exact ht hk.symm)⟩
theorem sb_cx {g : Tg} {σ σ' : AH} {q b : Nat} (h : Sb σ σ' q b) (hq : g q = 2) (hb : g b = 2) : CX g σ g σ' 0 0 := ⟨fun _ _ => rfl, fun k hk _ => h.1 k (fun e => by rw [e, hq] at hk; omega) (fun e => by rw [e, hb] at hk; omega), by rw [h.2.1]; exact Nat.le_refl _, by rw [h.2.1]; exact Nat.le_refl _, by rw [h.2.2]; exact Nat.le_refl _⟩
section CLSG
variable {g : Tg} {c : Nat → Nat} {σ : AH} {A : St} {q b : Nat} {rs : List Rl}
theorem h4_init {q : Nat} {a1 a2 a3 a4 : Int32} (h : σ.1[q]? = some (.inr (4, [.int 0, .int 0, .int 0, .int 0]))) : Hr (f4_init (some q) a1 a2 a3 a4) σ (fun _ σ' => Up σ σ' q (.inr (4, [.int a1, .int a2, .int a3, .int a4]))) := by
  unfold f4_init
  refine (b_obj h).mpr ?_
  refine b_putI h (by simp) fun σ1 u1 => ?_
  refine b_putI u1.1 (by simp) fun σ2 u2 => ?_
  refine b_putI u2.1 (by simp) fun σ3 u3 => ?_
  refine b_putI u3.1 (by simp) fun σ4 u4 => ?_
  exact hr_rt.mpr (((u1.tr u2).tr u3).tr u4)
theorem h5_insert {p a : Nat} {r : Rl} (h : RRI g σ q b rs) (hl : rs.length ≤ 20) (hp : p ≤ rs.length) (ha : RlI g σ a r) (hq : g q = 2) (hb : g b = 2) (hqb : q ≠ b) : Hr (f5_insert (some q) (nI p) (some a)) σ (fun _ σ' => RRI g σ' q b (insR rs p r) ∧ Sb σ σ' q b) := by
  obtain ⟨f, h1, h2, h3, h4⟩ := h
  unfold f5_insert
  refine (b_getI h1 rfl).mpr ?_
  refine (b_getR h1 rfl).mpr ?_
  refine (b_len h2).mpr ?_
  refine b_ite (fun c1 => ?_) (fun _ => ?_)
  · exfalso
    have c1 : nI 21 ≤ nI rs.length := c1
    rw [nI_leI (by omega) (by omega)] at c1
    omega
  refine (b_getI h1 rfl).mpr ?_
  refine (b_eq (e7_within _ _ _ _)).mpr ?_
  rw [decide_eq_true ((in_nI (by omega)).mpr ⟨p, hp, rfl⟩), if_neg (show ¬ bI true = 0 by decide)]
  refine (b_getI h1 rfl).mpr ?_
  refine b_hr (P := fun _ σ' => Sb σ σ' q b ∧ σ'.1[q]? = σ.1[q]? ∧ ∃ f', σ'.1[b]? = some (rA5 5 21 f') ∧ ∀ i, i ≤ rs.length → (i ≤ p → f' i = f i) ∧ (p < i → f' i = f (i - 1))) ?_ ?_
  · refine hr_loop (fun x σ1 => ∃ (k : Nat) (f1 : Nat → Option Nat), x = nI k ∧ p ≤ k ∧ k ≤ rs.length ∧ Sb σ σ1 q b ∧ σ1.1[q]? = σ.1[q]? ∧ σ1.1[b]? = some (rA5 5 21 f1) ∧ ∀ i, i ≤ rs.length → (i ≤ k → f1 i = f i) ∧ (k < i → f1 i = f (i - 1))) (fun x => x.toNatClampNeg) ⟨rs.length, f, rfl, hp, Nat.le_refl _, Sb.rf, rfl, h2, fun i hi => ⟨fun _ => rfl, fun z => by omega⟩⟩ (by rw [nI_clamp (by omega)]; omega) ?_
    rintro rec x σ1 ⟨k, f1, rfl, hpk, hk, hS, hqq, hf, hM⟩ ih
    unfold l5_insert_30
    refine b_ite (fun c => ?_) (fun c => ?_)
    · rw [nI_leI (by omega) (by omega)] at c
      have : k = p := by omega
      subst this
      exact hr_rt.mpr ⟨hS, hqq, f1, hf, hM⟩
    · rw [nI_leI (by omega) (by omega)] at c
      have em : nI k - 1 = nI (k - 1) := by rw [show (1 : Int32) = nI 1 from rfl, nI_subN (by omega)]
      have em2 : nI k + (-1) = nI (k - 1) := by
        obtain ⟨d, rfl⟩ : ∃ d, k = d + 1 := ⟨k - 1, by omega⟩
        rw [nI_m1, Nat.add_sub_cancel]
      rw [em, em2]
      have q1 := h1
      rw [← hqq] at q1
      refine (b_getR q1 rfl).mpr ?_
      refine (b_getR q1 rfl).mpr ?_
      refine (b_ldR hf rfl (by omega) (by decide)).mpr ?_
      obtain ⟨r', hr'⟩ : ∃ r', rs[k - 1]? = some r' := ⟨_, List.getElem?_eq_getElem (by omega)⟩
      obtain ⟨a', e1, e2⟩ := h4 (k - 1) r' hr'
      have fe : f1 (k - 1) = some a' := by rw [(hM (k - 1) (by omega)).1 (by omega)]; exact e1
      rw [fe]
      have e3 := e2.fr (sb_ft hS hq hb (by decide))
      refine b_stR hf rfl (by omega) (by decide) (Or.inr (rdO_some e3.2)) fun σ2 u => ?_
      refine ih _ _ ⟨k - 1, _, rfl, by omega, by omega, hS.tr (sbd_b u), (u.2.1 q hqb).trans hqq, u.1, fun i hi => ?_⟩ ?_
      · have hmi := hM i hi
        constructor
        · intro z
          simp only [va_up, if_neg (show i ≠ k by omega)]
          exact hmi.1 (by omega)
        · intro z
          by_cases e : i = k
          · simp [va_up, e]
            exact e1.symm
          · simp only [va_up, if_neg e]
            exact hmi.2 (by omega)
      · rw [nI_clamp (by omega), nI_clamp (by omega)]; omega
  · rintro _ σ1 ⟨hS, hqq, f1, hf, hM⟩
    have q1 := h1
    rw [← hqq] at q1
    refine (b_getR q1 rfl).mpr ?_
    have a1 := ha.fr (sb_ft hS hq hb (by decide))
    refine b_stR hf rfl (by omega) (by decide) (Or.inr (rdO_some a1.2)) fun σ2 u => ?_
    have q2 := u.ne q1 hqb
    refine (b_getI q2 rfl).mpr ?_
    refine b_putI q2 (by simp) fun σ3 u3 => ?_
    have hSS := (hS.tr (sbd_b u)).tr (sbd_q u3)
    have F1 : FT 1 g σ g σ3 := sb_ft hSS hq hb (by decide)
    refine hr_rt.mpr ⟨⟨va_up f1 p (some a), ?_, u3.ne u.1 (Ne.symm hqb), by rw [insR_len hp]; omega, fun i x hx => ?_⟩, hSS⟩
    · rw [u3.1, nI_1, insR_len hp]; rfl
    · have hil := (List.getElem?_eq_some_iff.mp hx).1
      rw [insR_len hp] at hil
      rw [insR_get hp] at hx
      by_cases z1 : i < p
      · rw [if_pos z1] at hx
        obtain ⟨a', e1, e2⟩ := h4 i x hx
        refine ⟨a', ?_, e2.fr F1⟩
        simp only [va_up, if_neg (show i ≠ p by omega)]
        rw [(hM i (by omega)).1 (by omega)]
        exact e1
      · rw [if_neg z1] at hx
        by_cases z2 : i = p
        · rw [if_pos z2] at hx
          cases hx
          exact ⟨a, by simp [va_up, z2], ha.fr F1⟩
        · rw [if_neg z2] at hx
          obtain ⟨a', e1, e2⟩ := h4 (i - 1) x hx
          refine ⟨a', ?_, e2.fr F1⟩
          simp only [va_up, if_neg z2]
          rw [(hM i (by omega)).2 (by omega)]
          exact e1
theorem h5_remove {p : Nat} (h : RRI g σ q b rs) (hp : p < rs.length) (hq : g q = 2) (hb : g b = 2) (hqb : q ≠ b) : Hr (f5_remove (some q) (nI p)) σ (fun _ σ' => RRI g σ' q b (delR rs p) ∧ Sb σ σ' q b) := by
  obtain ⟨f, h1, h2, h3, h4⟩ := h
  unfold f5_remove
  refine (b_getI h1 rfl).mpr ?_
  refine (b_eq (e7_within _ _ _ _)).mpr ?_
  rw [decide_eq_true ((in_m1 (by omega)).mpr ⟨p, hp, rfl⟩), if_neg (show ¬ bI true = 0 by decide)]
  refine b_hr (P := fun _ σ' => Sb σ σ' q b ∧ σ'.1[q]? = σ.1[q]? ∧ ∃ f', σ'.1[b]? = some (rA5 5 21 f') ∧ ∀ i, i + 1 < rs.length → (i < p → f' i = f i) ∧ (p ≤ i → f' i = f (i + 1))) ?_ ?_
  · refine hr_loop (fun x σ1 => ∃ (k : Nat) (f1 : Nat → Option Nat), x = nI k ∧ p ≤ k ∧ k < rs.length ∧ Sb σ σ1 q b ∧ σ1.1[q]? = σ.1[q]? ∧ σ1.1[b]? = some (rA5 5 21 f1) ∧ ∀ i, i < rs.length → (i < p → f1 i = f i) ∧ (p ≤ i → i < k → f1 i = f (i + 1)) ∧ (k ≤ i → f1 i = f i)) (fun x => 100 - x.toNatClampNeg) ⟨p, f, rfl, Nat.le_refl _, hp, Sb.rf, rfl, h2, fun i hi => ⟨fun _ => rfl, fun z1 z2 => by omega, fun _ => rfl⟩⟩ (by show 100 - _ < _; omega) ?_
    rintro rec x σ1 ⟨k, f1, rfl, hpk, hk, hS, hqq, hf, hM⟩ ih
    have q1 := h1
    rw [← hqq] at q1
    unfold l5_remove_17
    refine (b_getI q1 rfl).mpr ?_
    rw [nI_1]
    refine b_ite (fun c => ?_) (fun c => ?_)
    · rw [nI_leI (by omega) (by omega)] at c
      exact hr_rt.mpr ⟨hS, hqq, f1, hf, fun i hi => ⟨(hM i (by omega)).1, fun z => (hM i (by omega)).2.1 z (by omega)⟩⟩
    · rw [nI_leI (by omega) (by omega)] at c
      refine (b_getR q1 rfl).mpr ?_
      refine (b_getR q1 rfl).mpr ?_
      refine (b_ldR hf rfl (by omega) (by decide)).mpr ?_
      obtain ⟨r', hr'⟩ : ∃ r', rs[k + 1]? = some r' := ⟨_, List.getElem?_eq_getElem (by omega)⟩
      obtain ⟨a', e1, e2⟩ := h4 (k + 1) r' hr'
      have fe : f1 (k + 1) = some a' := by rw [(hM (k + 1) (by omega)).2.2 (by omega)]; exact e1
      rw [fe]
      have e3 := e2.fr (sb_ft hS hq hb (by decide))
      refine b_stR hf rfl (by omega) (by decide) (Or.inr (rdO_some e3.2)) fun σ2 u => ?_
      refine ih _ _ ⟨k + 1, _, rfl, by omega, by omega, hS.tr (sbd_b u), (u.2.1 q hqb).trans hqq, u.1, fun i hi => ?_⟩ ?_
      · have hmi := hM i hi
        refine ⟨fun z => ?_, fun z1 z2 => ?_, fun z => ?_⟩
        · simp only [va_up, if_neg (show i ≠ k by omega)]
          exact hmi.1 z
        · by_cases e : i = k
          · simp [va_up, e]
            exact e1.symm
          · simp only [va_up, if_neg e]
            exact hmi.2.1 z1 (by omega)
        · simp only [va_up, if_neg (show i ≠ k by omega)]
          exact hmi.2.2 (by omega)
      · rw [nI_clamp (by omega), nI_clamp (by omega)]; omega
  · rintro _ σ1 ⟨hS, hqq, f1, hf, hM⟩
    have q1 := h1
    rw [← hqq] at q1
    refine (b_getI q1 rfl).mpr ?_
    refine b_putI q1 (by simp) fun σ3 u3 => ?_
    have hSS := hS.tr (sbd_q u3)
    have F1 : FT 1 g σ g σ3 := sb_ft hSS hq hb (by decide)
    refine hr_rt.mpr ⟨⟨f1, ?_, u3.ne hf (Ne.symm hqb), by rw [delR_len hp]; omega, fun i x hx => ?_⟩, hSS⟩
    · rw [u3.1, show (1 : Int32) = nI 1 from rfl, nI_subN (by omega), delR_len hp]; rfl
    · have hil := (List.getElem?_eq_some_iff.mp hx).1
      rw [delR_len hp] at hil
      rw [delR_get hp] at hx
      by_cases z1 : i < p
      · rw [if_pos z1] at hx
        obtain ⟨a', e1, e2⟩ := h4 i x hx
        exact ⟨a', by rw [(hM i (by omega)).1 z1]; exact e1, e2.fr F1⟩
      · rw [if_neg z1] at hx
        obtain ⟨a', e1, e2⟩ := h4 (i + 1) x hx
        exact ⟨a', by rw [(hM i (by omega)).2 (by omega)]; exact e1, e2.fr F1⟩
theorem Cls.rules {σ' : AH} {rs' : List Rl} (h : Cls g c σ A) (hS : Sb σ σ' 5 6) (hR : RRI g σ' 5 6 rs') : Cls g c σ' (setR A rs') := by
  obtain ⟨k1, k2, k3, k4, k5, k6, k7, k8, k9, k10⟩ := h
  have ft : ∀ t, t ≠ 2 → FT t g σ g σ' := fun t ht => sb_ft hS (k1.2 5 (by decide)) (k1.2 6 (by decide)) ht
  have o : ∀ k, k ≠ 5 → k ≠ 6 → σ'.1[k]? = σ.1[k]? := hS.1
  exact ⟨lo_tag k1 hS.2.1, by rw [o 0 (by decide) (by decide)]; exact k2, k3.fr (o 1 (by decide) (by decide)), k4.fr (ft 1 (by decide)) (o 2 (by decide) (by decide)), k5.fr (ft 1 (by decide)) (o 3 (by decide) (by decide)), k6.fr (o 4 (by decide) (by decide)), hR, k8.fr (o 7 (by decide) (by decide)), k9.fr (fun k a _ => o k (by omega) (by omega)), k10.fr (ft 1 (by decide)) (fun i _ => ft _ (by omega))⟩
theorem e7_isRule {p s w k a : Int32} (h : Cls g c σ A) : f7_isRule (some 0) p s w k a σ = some (bI (ruleOk A p s w k a), σ) := by
  obtain ⟨f, r1, -⟩ := h.2.2.2.2.2.2.1
  refine hr_det ?_
  unfold f7_isRule ruleOk
  refine (b_getR h.2.1 rfl).mpr ?_
  refine (b_getI r1 rfl).mpr ?_
  refine (b_eq (e7_within _ _ _ _)).mpr ?_
  refine b_ite (fun c => ?_) (fun c1 => ?_)
  · rw [bI_0, decide_eq_false_iff_not] at c
    exact hr_rt.mpr ⟨by rw [decide_eq_false (fun q => c q.1)]; rfl, rfl⟩
  rw [bI_0, Bool.not_eq_false, decide_eq_true_eq] at c1
  refine (b_eq (e7_within _ _ _ _)).mpr ?_
  refine b_ite (fun c => ?_) (fun c2 => ?_)
  · rw [bI_0, decide_eq_false_iff_not] at c
    exact hr_rt.mpr ⟨by rw [decide_eq_false (fun q => c q.2.1)]; rfl, rfl⟩
  rw [bI_0, Bool.not_eq_false, decide_eq_true_eq] at c2
  refine (b_eq (e7_within _ _ _ _)).mpr ?_
  refine b_ite (fun c => ?_) (fun c3 => ?_)
  · rw [bI_0, decide_eq_false_iff_not] at c
    exact hr_rt.mpr ⟨by rw [decide_eq_false (fun q => c q.2.2.1)]; rfl, rfl⟩
  rw [bI_0, Bool.not_eq_false, decide_eq_true_eq] at c3
  refine (b_eq (e7_isKind _ _)).mpr ?_
  refine b_ite (fun c => ?_) (fun c4 => ?_)
  · rw [bI_0, decide_eq_false_iff_not] at c
    exact hr_rt.mpr ⟨by rw [decide_eq_false (fun q => c q.2.2.2.1)]; rfl, rfl⟩
  rw [bI_0, Bool.not_eq_false, decide_eq_true_eq] at c4
  refine (b_eq (e7_within _ _ _ _)).mpr ?_
  refine b_ite (fun c => ?_) (fun c5 => ?_)
  · rw [bI_0, decide_eq_false_iff_not] at c
    exact hr_rt.mpr ⟨by rw [decide_eq_false (fun q => c q.2.2.2.2)]; rfl, rfl⟩
  rw [bI_0, Bool.not_eq_false, decide_eq_true_eq] at c5
  exact hr_rt.mpr ⟨by rw [decide_eq_true ⟨c1, c2, c3, c4, c5⟩]; rfl, rfl⟩
/-- a new rule as an object -/
theorem h7_newRule {s w : Int32} {k' a' : Nat} {β : Type} {G : Cm β} {Q : β → AH → Prop} (h : Cls g c σ A)
    (kk : ∀ σ' g' a, Cls g' c σ' A → CX g σ g' σ' 1 4 → RlI g' σ' a (s, w, k', a') → a = σ.1.length → Hr G σ' Q) :
    Hr (bn (oNewO 4 [.int 0, .int 0, .int 0, .int 0]) fun v29 => bn (oObj v29 4) fun _ => bn (f4_init v29 s w (nI k') (nI a')) fun _ => G) σ Q := by
  refine b_newO fun σ1 n1 => ?_
  refine (b_obj n1.1).mpr ?_
  refine b_hr (h4_init n1.1) ?_
  rintro _ σ2 u
  have l2 : σ2.1.length = σ.1.length + 1 := by rw [u.2.2.1]; exact n1.2.2.1
  have o2 : ∀ j, j < σ.1.length → σ2.1[j]? = σ.1[j]? := fun j hj => by rw [u.2.1 j (by omega), n1.2.1 j hj]
  exact kk σ2 (ext g σ.1.length (σ.1.length + 1) 1) σ.1.length (h.grow o2 (fun j hj => ext_lo hj) (fun j hj => by rw [l2]; exact ext_nz h.1.1 (by omega) hj)) (cx_new o2 (fun k hk => ext_lo hk) (by omega) (by omega) (by rw [u.2.2.2, n1.2.2.2]; exact Nat.le_refl _)) ⟨ext_in (Nat.le_refl _) (by omega), u.1⟩ rfl
theorem d7_rule {p s w k a : Int32} (h : Cls g c σ A) (hW : StW A) : Hr (f7_rule (some 0) p s w k a) σ (CQ g σ 60 2100 (pRule A p s w k a)) := by
  have hl := hW.2.2.2.2.1
  obtain ⟨f, r1, -⟩ := h.2.2.2.2.2.2.1
  unfold f7_rule pRule
  refine (b_getR h.2.1 rfl).mpr ?_
  refine (b_getI r1 rfl).mpr ?_
  rw [show (20 : Int32) = nI 20 from rfl]
  refine b_ite (fun c1 => ?_) (fun c1 => ?_)
  · rw [nI_leI (by omega) (by omega)] at c1
    rw [if_neg (by omega)]
    exact cq_rt rfl h
  rw [nI_leI (by omega) (by omega)] at c1
  refine (b_obj h.2.1).mpr ?_
  refine (b_eq (e7_isRule h)).mpr ?_
  refine b_ite (fun c2 => ?_) (fun c2 => ?_)
  · rw [bI_0] at c2
    rw [if_neg (by rw [c2]; simp)]
    exact cq_rt rfl h
  rw [bI_0, Bool.not_eq_false] at c2
  rw [if_pos ⟨c2, by omega⟩]
  obtain ⟨p', k', a', hp, rfl, hk, rfl, ha, rfl, hrw⟩ := ruleOk_of hl c2
  rw [show tn (nI p') = p' from nI_clamp (by omega), show tn (nI k') = k' from nI_clamp (by omega), show tn (nI a') = a' from nI_clamp (by omega)]
  refine (b_getR h.2.1 rfl).mpr ?_
  rw [show (fun (v33 : Option Nat) => bn (oObj v33 4) fun _ => bn (f4_init v33 s w (nI k') (nI a')) fun _ => bn (oObj (some 5) 5) fun _ => bn (f5_insert (some 5) (nI p') v33) fun _ => bn (oGetR (some 0) 7 6) fun v50 => bn (oGetI v50 5 1) fun v53 => rt v53) = (fun (v33 : Option Nat) => bn (oObj v33 4) fun _ => bn (f4_init v33 s w (nI k') (nI a')) fun _ => bn (oObj (some 5) 5) fun _ => bn (f5_insert (some 5) (nI p') v33) fun _ => bn (oGetR (some 0) 7 6) fun v50 => bn (oGetI v50 5 1) fun v53 => rt v53) from rfl]
  refine b_newO fun σ1 n1 => ?_
  refine (b_obj n1.1).mpr ?_
  refine b_hr (h4_init n1.1) ?_
  rintro _ σ2 u
  have l2 : σ2.1.length = σ.1.length + 1 := by rw [u.2.2.1]; exact n1.2.2.1
  have o2 : ∀ j, j < σ.1.length → σ2.1[j]? = σ.1[j]? := fun j hj => by rw [u.2.1 j (by omega), n1.2.1 j hj]
  have h2 := h.grow (g' := ext g σ.1.length (σ.1.length + 1) 1) o2 (fun j hj => ext_lo hj) (fun j hj => by rw [l2]; exact ext_nz h.1.1 (by omega) hj)
  have x2 : CX g σ (ext g σ.1.length (σ.1.length + 1) 1) σ2 1 4 := cx_new o2 (fun k hk => ext_lo hk) (by omega) (by omega) (by rw [u.2.2.2, n1.2.2.2]; exact Nat.le_refl _)
  have hR2 := h2.2.2.2.2.2.2.1
  obtain ⟨f2, r2, -⟩ := id hR2
  refine (b_obj r2).mpr ?_
  refine b_hr (h5_insert (r := ((s, w, k', a') : Rl)) hR2 hl hp ⟨ext_in (Nat.le_refl _) (by omega), u.1⟩ (h2.1.2 5 (by decide)) (h2.1.2 6 (by decide)) (by decide)) ?_
  rintro _ σ3 ⟨hR3, hS3⟩
  have h3 := h2.rules hS3 hR3
  obtain ⟨f3, r3, -⟩ := id hR3
  refine (b_getR h3.2.1 rfl).mpr ?_
  refine (b_getI r3 rfl).mpr ?_
  exact hr_rt.mpr ⟨by rw [insR_len hp], _, c, h3, (x2.tr (sb_cx hS3 (h2.1.2 5 (by decide)) (h2.1.2 6 (by decide)))).wk (by omega) (by omega)⟩
theorem d7_drop {p : Int32} (h : Cls g c σ A) (hW : StW A) : Hr (f7_drop (some 0) p) σ (CQ g σ 60 2100 (pDrop A p)) := by
  have hl := hW.2.2.2.2.1
  have hR := h.2.2.2.2.2.2.1
  obtain ⟨f, r1, -⟩ := id hR
  unfold f7_drop pDrop
  refine (b_getR h.2.1 rfl).mpr ?_
  refine (b_getI r1 rfl).mpr ?_
  refine (b_eq (e7_within _ _ _ _)).mpr ?_
  refine b_ite (fun c1 => ?_) (fun c1 => ?_)
  · rw [bI_0, decide_eq_false_iff_not] at c1
    rw [if_neg c1]
    exact cq_rt rfl h
  · rw [bI_0, Bool.not_eq_false, decide_eq_true_eq] at c1
    rw [if_pos c1]
    obtain ⟨j, hj, rfl⟩ := (in_m1 (by omega)).mp c1
    rw [show tn (nI j) = j from nI_clamp (by omega)]
    refine (b_getR h.2.1 rfl).mpr ?_
    refine (b_obj r1).mpr ?_
    refine b_hr (h5_remove hR hj (h.1.2 5 (by decide)) (h.1.2 6 (by decide)) (by decide)) ?_
    rintro _ σ1 ⟨hR1, hS1⟩
    exact hr_rt.mpr ⟨rfl, g, c, h.rules hS1 hR1, (sb_cx hS1 (h.1.2 5 (by decide)) (h.1.2 6 (by decide))).wk (by omega) (by omega)⟩
theorem e5_get {i : Int32} (h : RRI g σ q b rs) : ∃ o, f5_get (some q) i σ = some (o, σ) ∧ ((o = none ∧ ¬ (0 ≤ i ∧ i ≤ nI rs.length - 1)) ∨ ∃ j a r, o = some a ∧ j < rs.length ∧ i = nI j ∧ rs[j]? = some r ∧ RlI g σ a r ∧ (0 ≤ i ∧ i ≤ nI rs.length - 1)) := by
  obtain ⟨f, h1, h2, h3, h4⟩ := h
  by_cases c1 : 0 ≤ i ∧ i ≤ nI rs.length - 1
  · obtain ⟨j, hj, rfl⟩ := (in_m1 (by omega)).mp c1
    obtain ⟨r, hr⟩ : ∃ r, rs[j]? = some r := ⟨_, List.getElem?_eq_getElem hj⟩
    obtain ⟨a, e1, e2⟩ := h4 j r hr
    refine ⟨some a, hr_det ?_, Or.inr ⟨j, a, r, rfl, hj, rfl, hr, e2, c1⟩⟩
    unfold f5_get
    refine (b_getI h1 rfl).mpr ?_
    refine (b_eq (e7_within _ _ _ _)).mpr ?_
    rw [decide_eq_true c1, if_neg (show ¬ bI true = 0 by decide)]
    refine (b_getR h1 rfl).mpr ?_
    refine (b_ldR h2 rfl (by omega) (by decide)).mpr ?_
    exact hr_rt.mpr ⟨e1, rfl⟩
  · refine ⟨none, hr_det ?_, Or.inl ⟨rfl, c1⟩⟩
    unfold f5_get
    refine (b_getI h1 rfl).mpr ?_
    refine (b_eq (e7_within _ _ _ _)).mpr ?_
    rw [decide_eq_false c1, if_pos (show bI false = 0 from rfl)]
    exact hr_rt.mpr ⟨rfl, rfl⟩
theorem e7_leastShared (a b : Int32) (σ : AH) : f7_leastShared a b σ = some (shr a b, σ) := by
  unfold f7_leastShared shr
  by_cases h1 : a = -1
  · rw [if_pos h1, if_pos h1]; rfl
  · rw [if_neg h1, if_neg h1]
    by_cases h2 : b = -1
    · rw [if_pos h2, if_pos (Or.inl h2)]; rfl
    · rw [if_neg h2]
      by_cases h3 : b = a
      · rw [if_pos h3, if_pos (Or.inr h3)]; rfl
      · rw [if_neg h3, if_neg (fun q => q.elim h2 h3)]; rfl
theorem d7_quarrel {x y : Int32} (h : Cls g c σ A) (hW : StW A) : Hr (f7_quarrel (some 0) x y) σ (CQ g σ 60 2100 (pQuarrel A x y, A)) := by
  have hl := hW.2.2.2.2.1
  have hR := h.2.2.2.2.2.2.1
  obtain ⟨f, r1, -⟩ := id hR
  obtain ⟨o1, e1, c1⟩ := e5_get (i := x) hR
  obtain ⟨o2, e2, c2⟩ := e5_get (i := y) hR
  unfold f7_quarrel pQuarrel
  refine (b_getR h.2.1 rfl).mpr ?_
  refine (b_obj r1).mpr ?_
  refine (b_eq e1).mpr ?_
  refine (b_getR h.2.1 rfl).mpr ?_
  refine (b_obj r1).mpr ?_
  refine (b_eq e2).mpr ?_
  rcases c1 with ⟨rfl, z1⟩ | ⟨i, a, ra, rfl, hi, rfl, hra, ha, z1⟩
  · rw [if_pos rfl, if_neg (fun q => z1 q.1)]
    exact cq_rt rfl h
  rw [if_neg (by simp)]
  rcases c2 with ⟨rfl, z2⟩ | ⟨j, b, rb, rfl, hj, rfl, hrb, hb, z2⟩
  · rw [if_pos rfl, if_neg (fun q => z2 q.2)]
    exact cq_rt rfl h
  rw [if_neg (by simp), if_pos ⟨z1, z2⟩, show tn (nI i) = i from nI_clamp (by omega), show tn (nI j) = j from nI_clamp (by omega), getD_of hra, getD_of hrb]
  have wa := hW.2.2.2.2.2.1 ra (List.mem_of_getElem? hra)
  have wb := hW.2.2.2.2.2.1 rb (List.mem_of_getElem? hrb)
  unfold quL
  refine (b_getI ha.2 rfl).mpr ?_
  refine (b_getI hb.2 rfl).mpr ?_
  refine b_ite (fun c3 => ?_) (fun c3 => ?_)
  · rw [nI_eq (by have := wa.2.1; omega) (by have := wb.2.1; omega)] at c3
    rw [if_pos (Or.inl c3)]
    exact cq_rt rfl h
  rw [nI_eq (by have := wa.2.1; omega) (by have := wb.2.1; omega)] at c3
  refine (b_getI ha.2 rfl).mpr ?_
  refine (b_getI hb.2 rfl).mpr ?_
  refine b_ite (fun c4 => ?_) (fun c4 => ?_)
  · rw [nI_eq (by have := wa.1; omega) (by have := wb.1; omega)] at c4
    rw [if_neg (fun q => q.elim c3 (fun q => q c4))]
    refine (b_getI ha.2 rfl).mpr ?_
    refine (b_getI hb.2 rfl).mpr ?_
    refine (b_eq (e7_leastShared _ _ _)).mpr ?_
    refine (b_getI ha.2 rfl).mpr ?_
    refine (b_getI hb.2 rfl).mpr ?_
    refine (b_eq (e7_leastShared _ _ _)).mpr ?_
    refine b_ite (fun c5 => ?_) (fun c5 => ?_)
    · rw [if_pos (Or.inl c5)]
      exact cq_rt rfl h
    refine b_ite (fun c6 => ?_) (fun c6 => ?_)
    · rw [if_pos (Or.inr c6)]
      exact cq_rt rfl h
    rw [if_neg (fun q => q.elim c5 c6)]
    exact cq_rt rfl h
  · rw [nI_eq (by have := wa.1; omega) (by have := wb.1; omega)] at c4
    rw [if_pos (Or.inr c4)]
    exact cq_rt rfl h
end CLSG
