/-! ===== the class's calls: near, count, pieces, mark, keep ===== -/
theorem Up.tr {σ σ1 σ2 : AH} {a : Nat} {e e' : va_E} (h : Up σ σ1 a e) (k : Up σ1 σ2 a e') : Up σ σ2 a e' := ⟨k.1, fun q hq => (k.2.1 q hq).trans (h.2.1 q hq), k.2.2.1.trans h.2.2.1, k.2.2.2.trans h.2.2.2⟩
def ext (g : Tg) (n m t : Nat) : Tg := fun k => if k < n then g k else if k < m then t else 0
theorem ext_lo {g : Tg} {n m t k : Nat} (h : k < n) : ext g n m t k = g k := if_pos h
theorem ext_in {g : Tg} {n m t k : Nat} (h1 : n ≤ k) (h2 : k < m) : ext g n m t k = t := by
  unfold ext
  rw [if_neg (by omega), if_pos h2]
theorem ext_nz {g : Tg} {n m t k : Nat} (hg : ∀ k, g k ≠ 0 → k < n) (hnm : n ≤ m) (h : ext g n m t k ≠ 0) : k < m := by
  unfold ext at h
  split at h
  · omega
  · split at h
    · assumption
    · exact absurd rfl h
section CLSE
variable {g g' : Tg} {c : Nat → Nat} {σ σ' : AH} {A : St}
theorem Cls.len (h : Cls g c σ A) : 23 ≤ σ.1.length := by
  have := h.1.1 22 (by rw [h.1.2 22 (by decide)]; decide)
  omega
theorem Cls.grow (h : Cls g c σ A) (ho : ∀ k, k < σ.1.length → σ'.1[k]? = σ.1[k]?) (hg : ∀ k, k < σ.1.length → g' k = g k) (hz : ∀ k, g' k ≠ 0 → k < σ'.1.length) : Cls g' c σ' A := by
  have hl := h.len
  obtain ⟨k1, k2, k3, k4, k5, k6, k7, k8, k9, k10⟩ := h
  have ft : ∀ t, t ≠ 0 → FT t g σ g' σ' := fun t ht => ft_new ho hg k1.1 ht
  have o : ∀ k, k < 23 → σ'.1[k]? = σ.1[k]? := fun k hk => ho k (by omega)
  exact ⟨⟨hz, fun k hk => by rw [hg k (by omega)]; exact k1.2 k hk⟩, by rw [o 0 (by decide)]; exact k2, k3.fr (o 1 (by decide)), k4.fr (ft 1 (by decide)) (o 2 (by decide)), k5.fr (ft 1 (by decide)) (o 3 (by decide)), k6.fr (o 4 (by decide)), k7.fr (ft 1 (by decide)) (o 5 (by decide)) (o 6 (by decide)), k8.fr (o 7 (by decide)), k9.fr (fun k _ b => o k b), k10.fr (ft 1 (by decide)) (fun i _ => ft _ (by omega))⟩
theorem cx_new {nc ns : Nat} (ho : ∀ k, k < σ.1.length → σ'.1[k]? = σ.1[k]?) (hg : ∀ k, k < σ.1.length → g' k = g k) (h1 : σ.1.length ≤ σ'.1.length) (h2 : σ'.1.length ≤ σ.1.length + nc) (h3 : σ'.2 ≤ σ.2 + ns) : CX g σ g' σ' nc ns := ⟨hg, fun k _ hk => ho k hk, h1, h2, h3⟩
theorem h7_takeTape (h : Cls g c σ A) (hW : StW A) : Hr (f7_takeTape (some 0)) σ (fun r σ' => r = some σ.1.length ∧ σ'.1.length = σ.1.length + 7 ∧ Cls (ext g σ.1.length (σ.1.length + 7) 1) c σ' ((aDay A, []), A.2) ∧ TxI (ext g σ.1.length (σ.1.length + 7) 1) σ' σ.1.length (aTape A) ∧ CX g σ (ext g σ.1.length (σ.1.length + 7) 1) σ' 7 1358 ∧ (∀ k, k < σ.1.length → k ≠ 0 → σ'.1[k]? = σ.1[k]?)) := by
  have ht := hW.2.1
  have hl := h.len
  obtain ⟨tp, k3, k3'⟩ := h.2.2.1
  have k2 := h.2.1
  unfold f7_takeTape
  refine b_newO fun σ1 n1 => ?_
  refine (b_getI (n1.old k2) rfl).mpr ?_
  refine (b_obj n1.1).mpr ?_
  have l1 : σ1.1.length = σ.1.length + 1 := n1.2.2.1
  refine b_hr (h6_init (q := σ.1.length) (cap := (aTape A).length) n1.1 l1 (by omega)) ?_
  rintro _ σ2 ⟨l2, s2, o2, hT2⟩
  have m2 : σ2.1[0]? = some (.inr (7, dgl (aDay A) (aTape A).length (aLet A).length)) := by rw [o2 0 (by omega)]; exact n1.old k2
  have m3 : σ2.1[1]? = some (.inl (0, 300, .inl tp)) := by rw [o2 1 (by omega)]; exact n1.old k3
  refine (b_getR m2 rfl).mpr ?_
  refine (b_getI m2 rfl).mpr ?_
  refine (b_obj hT2.1).mpr ?_
  refine b_hr (h6_read (xs := aTape A) (sa := 1) hT2 m3 (by omega) k3' (by omega) (by decide) (Nat.le_refl _) (by omega)) ?_
  rintro _ σ3 ⟨hS3, hT3⟩
  have o3 : ∀ k, k < σ.1.length → σ3.1[k]? = σ.1[k]? := fun k hk => by rw [hS3.1 k (by omega), o2 k hk, n1.2.1 k hk]
  have l3 : σ3.1.length = σ.1.length + 7 := by rw [hS3.2.1, l2]
  have hC3 := h.grow (g' := ext g σ.1.length (σ.1.length + 7) 1) o3 (fun k hk => ext_lo hk) (fun k hk => by rw [l3]; exact ext_nz h.1.1 (by omega) hk)
  refine b_putI hC3.2.1 (by simp [dgl]) fun σ4 u => ?_
  have hs : σ3.2 ≤ σ.2 + 1358 := by
    have e1 := n1.2.2.2
    simp only [List.length_cons, List.length_nil] at e1
    rw [hS3.2.2, s2, e1]
    omega
  refine hr_rt.mpr ⟨rfl, by rw [u.2.2.1, l3], hC3.u0 (d := aDay A) (tp := []) u (fun _ _ => B3.nil), ⟨fun k a b => ext_in a (by omega), _, hT3.frame (fun k a b => u.2.1 k (by omega))⟩, (cx_new o3 (fun k hk => ext_lo hk) (by omega) (by omega) hs).tr (cx_up u hC3.z0), fun k hk hne => (u.2.1 k hne).trans (o3 k hk)⟩
theorem h1_init {q : Nat} {a1 a3 a4 a5 a6 : Int32} {w : Option Nat} (h : σ.1[q]? = some (.inr (1, [.int 0, .null, .int 0, .int 0, .int 0, .int 0]))) : Hr (f1_init (some q) a1 w a3 a4 a5 a6) σ (fun _ σ' => Up σ σ' q (.inr (1, [.int a1, va_rf w, .int a3, .int a4, .int a5, .int a6]))) := by
  unfold f1_init
  refine (b_obj h).mpr ?_
  refine b_putI h (by simp) fun σ1 u1 => ?_
  refine b_putR u1.1 (by simp) fun σ2 u2 => ?_
  refine b_putI u2.1 (by simp) fun σ3 u3 => ?_
  refine b_putI u3.1 (by simp) fun σ4 u4 => ?_
  refine b_putI u4.1 (by simp) fun σ5 u5 => ?_
  refine b_putI u5.1 (by simp) fun σ6 u6 => ?_
  exact hr_rt.mpr (((((u1.tr u2).tr u3).tr u4).tr u5).tr u6)
/-- letters forget what they hold of kind k -/
theorem h7_forgetSights {k n : Nat} {ls : List Lt} {rw1 rw2 : Nat → List Int32 → List T3} {d m : Nat} (ht : cTag g σ) (h0 : σ.1[0]? = some (.inr (7, dgl d m ls.length))) (hr : cRow σ c ls.length) (hl : cLet g c σ ls rw1) (h60 : ls.length ≤ 60) (hk : k < 8) (hw : ∀ j, j < 8 → j ≠ k → ∀ xs, rw2 j xs = rw1 j xs) :
    Hr (f7_forgetSights (some 0) (nI k)) σ (fun _ σ' => CX g σ g σ' 0 0 ∧ FT 1 g σ g σ' ∧ FT 2 g σ g σ' ∧ cTag g σ' ∧ cLet g c σ' ls rw2) := by
  obtain ⟨f, r1, r2⟩ := hr
  unfold f7_forgetSights
  refine b_hr (P := fun _ σ' => CX g σ g σ' 0 0 ∧ FT 1 g σ g σ' ∧ FT 2 g σ g σ' ∧ cTag g σ' ∧ cLet g c σ' ls rw2) ?_ (fun _ _ hq => hr_rt.mpr hq)
  refine hr_loop (fun x σ1 => ∃ i, x = nI i ∧ i ≤ ls.length ∧ CX g σ g σ1 0 0 ∧ FT 1 g σ g σ1 ∧ FT 2 g σ g σ1 ∧ cTag g σ1 ∧ ∀ j y, ls[j]? = some y → LtI g σ1 (c j) j y (if j < i then rw2 else rw1)) (fun x => 100 - x.toNatClampNeg) ⟨0, rfl, Nat.zero_le _, CX.rf, FT.rf, FT.rf, ht, fun j y hy => by rw [if_neg (by omega)]; exact hl j y hy⟩ (by show 100 - _ < _; omega) ?_
  rintro rec x σ1 ⟨i, rfl, hi, hX, f1, f2, ht1, hL⟩ ih
  have m0 := h0
  rw [← (f2 0 (ht.2 0 (by decide))).2] at m0
  have m7 := r1
  rw [← (f2 7 (ht.2 7 (by decide))).2] at m7
  unfold l7_forgetSights_2
  refine (b_getI m0 rfl).mpr ?_
  refine b_ite (fun c1 => ?_) (fun c1 => ?_)
  · rw [nI_leI (by omega) (by omega)] at c1
    refine hr_rt.mpr ⟨hX, f1, f2, ht1, fun j y hy => ?_⟩
    have := hL j y hy
    rwa [if_pos (by have := (List.getElem?_eq_some_iff.mp hy).1; omega)] at this
  · rw [nI_leI (by omega) (by omega)] at c1
    obtain ⟨x, hx⟩ : ∃ x, ls[i]? = some x := ⟨_, List.getElem?_eq_getElem (by omega)⟩
    have hLi := hL i x hx
    rw [if_neg (by omega)] at hLi
    obtain ⟨fn, lv, sd, ⟨a1, a2⟩, ⟨b1, cm, b2, b3⟩, cc, ⟨d1, sg, d2, d3⟩, ⟨e1, e2⟩, f0, hf, ⟨l1, lf, l2, l3⟩⟩ := hLi
    refine (b_getR m0 rfl).mpr ?_
    refine (b_ldR m7 rfl (by omega) (by decide)).mpr ?_
    rw [r2 i (by omega)]
    refine (b_getR a2 rfl).mpr ?_
    refine b_stZ (Or.inl rfl) e2 rfl hk (by decide) fun σ2 u => ?_
    have ft : ∀ t, t ≠ 3 + i → FT t g σ1 g σ2 := fun t ht => ft_up u (by rw [e1]; exact Ne.symm ht)
    have nz : g (c i + 10) ≠ 0 := by rw [e1]; omega
    refine ih _ _ ⟨i + 1, nI_1 i, by omega, hX.tr (cx_up u nz), f1.tr (ft 1 (by omega)), f2.tr (ft 2 (by omega)), lo_tag ht1 u.2.2.1, fun j y hy => ?_⟩ ?_
    · by_cases e : j = i
      · subst e
        rw [hx] at hy
        cases hy
        rw [if_pos (by omega)]
        refine ⟨fn, lv, upd sd k 0, ⟨a1, u.ne a2 (by omega)⟩, ⟨b1, cm, by rw [(ft 1 (by omega) _ b1).2]; exact b2, b3⟩, cc.fr (ft 1 (by omega)), ⟨d1, sg, by rw [(ft 1 (by omega) _ d1).2]; exact d2, d3⟩, ⟨e1, u.1⟩, fun q hq => ?_, ?_, ⟨l1, lf, by rw [(ft 1 (by omega) _ l1).2]; exact l2, l3⟩⟩
        · obtain ⟨q1, R, q2, q3⟩ := f0 q hq
          refine ⟨q1, R, q2.frame (fun m m1 m2 => u.2.1 m (by omega)), ?_⟩
          by_cases e : q = k
          · exact Or.inl (by simp [upd, e])
          · simp only [upd, if_neg e]
            rw [hw q hq e]
            exact q3
        · rcases hf with hf | ⟨q, q1, q2, cap, q3, q4⟩
          · exact Or.inl hf
          · exact Or.inr ⟨q, q1, q2, cap, q3.frame (fun k a b => (ft 1 (by omega) k (q2 k a b)).2), q4⟩
      · have := (hL j y hy).fr (ft 1 (by omega)) (ft _ (by omega))
        by_cases ji : j < i
        · rw [if_pos ji] at this
          rw [if_pos (by omega)]
          exact this
        · rw [if_neg ji] at this
          rw [if_neg (by omega)]
          exact this
    · rw [nI_1, nI_clamp (by omega), nI_clamp (by omega)]; omega
theorem rdO_kd {q : Nat} {d : Kd} (h : KdI g σ q d) : (rdO σ (some q) 1).isSome = true := by
  obtain ⟨h1, wq, h2, -⟩ := h
  exact rdO_some h2
theorem h7_setKind {k q : Nat} {d : Kd} (h : Cls g c σ A) (hW : StW A) (hk : k < 8) (hq : KdI g σ q d) : Hr (f7_setKind (some 0) (nI k) (some q)) σ (fun _ σ' => Cls g c σ' (setKd A k d) ∧ CX g σ g σ' 0 0) := by
  have h60 := hW.2.2.2.2.2.2.1
  obtain ⟨k1, k2, k3, k4, ⟨f, k5, k5'⟩, k6, k7, k8, k9, k10⟩ := id h
  unfold f7_setKind
  refine (b_getR k2 rfl).mpr ?_
  refine b_stR k5 rfl hk (by decide) (Or.inr (rdO_kd hq)) fun σ1 u => ?_
  have ft : ∀ t, t ≠ 2 → FT t g σ g σ1 := fun t ht => lo_ft k1 u (by decide) ht
  have o : ∀ k, k ≠ 3 → σ1.1[k]? = σ.1[k]? := u.2.1
  have m2 := k2
  rw [← o 0 (by decide)] at m2
  refine (b_obj m2).mpr ?_
  refine b_hr (h7_forgetSights (k := k) (n := 0) (rw1 := rwA A) (rw2 := rwA (setKd A k d)) (lo_tag k1 u.2.2.1) m2 (k8.fr (o 7 (by decide))) (k10.fr (ft 1 (by decide)) (fun i _ => ft _ (by omega))) h60 hk (fun j _ hjk xs => ?_)) ?_
  · unfold rwA
    show rawF (aKept A) (upF (aKind A) k d j) xs = _
    simp only [upF, if_neg hjk]
  · rintro _ σ2 ⟨hX, f1, f2, ht, hL⟩
    have o2 : ∀ k, k < 23 → σ2.1[k]? = σ1.1[k]? := fun j hj => (f2 j (k1.2 j hj)).2
    have z3 : g 3 ≠ 0 := by rw [k1.2 3 (by decide)]; decide
    have oo : ∀ k, k < 23 → k ≠ 3 → σ2.1[k]? = σ.1[k]? := fun k a b => (o2 k a).trans (o k b)
    have F1 := (ft 1 (by decide)).tr f1
    refine hr_rt.mpr ⟨⟨ht, by rw [oo 0 (by decide) (by decide)]; exact k2, k3.fr (oo 1 (by decide) (by decide)), k4.fr F1 (oo 2 (by decide) (by decide)), ⟨_, by rw [o2 3 (by decide)]; exact u.1, fun i hi => ?_⟩, k6.fr (oo 4 (by decide) (by decide)), k7.fr F1 (oo 5 (by decide) (by decide)) (oo 6 (by decide) (by decide)), k8.fr (oo 7 (by decide) (by decide)), k9.fr (fun k a b => oo k b (by omega)), hL⟩, (cx_up u z3).tr hX⟩
    show ∃ q', va_up f k (some q) i = some q' ∧ KdI g σ2 q' (upF (aKind A) k d i)
    by_cases e : i = k
    · subst e
      refine ⟨q, by simp [va_up], ?_⟩
      simp only [upF, if_true]
      exact hq.fr F1
    · obtain ⟨q', h3, h4⟩ := k5' i hi
      refine ⟨q', by simp [va_up, e]; exact h3, ?_⟩
      simp only [upF, if_neg e]
      exact h4.fr F1
theorem h7_newKind {k sn t n m y : Nat} {β : Type} {G : Unit → Cm β} {Q : β → AH → Prop} {a1 a3 a4 a5 a6 : Int32} (h : Cls g c σ A) (hW : StW A) (hk : k < 8) (e1 : a1 = nI sn) (e3 : a3 = nI t) (e4 : a4 = nI n) (e5 : a5 = nI m) (e6 : a6 = nI y) (hs : sn ≠ 1)
    (kk : ∀ σ' g', Cls g' c σ' (setKd A k (sn, [], t, n, m, y)) → CX g σ g' σ' 60 2100 → Hr (G ()) σ' Q) :
    Hr (bn (oNewO 1 [.int 0, .null, .int 0, .int 0, .int 0, .int 0]) fun v21 => bn (oObj v21 1) fun _ => bn (f1_init v21 a1 none a3 a4 a5 a6) fun _ => bn (oObj (some 0) 7) fun _ => bn (f7_setKind (some 0) (nI k) v21) G) σ Q := by
  refine b_newO fun σ1 n1 => ?_
  refine (b_obj n1.1).mpr ?_
  refine b_hr (h1_init n1.1) ?_
  rintro _ σ2 u
  have l2 : σ2.1.length = σ.1.length + 1 := by rw [u.2.2.1]; exact n1.2.2.1
  have o2 : ∀ j, j < σ.1.length → σ2.1[j]? = σ.1[j]? := fun j hj => by rw [u.2.1 j (by omega), n1.2.1 j hj]
  have hC := h.grow (g' := ext g σ.1.length (σ.1.length + 1) 1) o2 (fun j hj => ext_lo hj) (fun j hj => by rw [l2]; exact ext_nz h.1.1 (by omega) hj)
  have hX : CX g σ (ext g σ.1.length (σ.1.length + 1) 1) σ2 1 6 := cx_new o2 (fun k hk => ext_lo hk) (by omega) (by omega) (by rw [u.2.2.2, n1.2.2.2]; exact Nat.le_refl _)
  refine (b_obj hC.2.1).mpr ?_
  refine b_hr (h7_setKind (d := ((sn, [], t, n, m, y) : Kd)) hC hW hk ⟨ext_in (Nat.le_refl _) (by omega), none, by rw [u.1, e1, e3, e4, e5, e6], fun q => absurd q hs⟩) ?_
  rintro _ σ3 ⟨h3, x3⟩
  exact kk σ3 _ h3 ((hX.tr x3).wk (by omega) (by omega))
theorem d7_near {a b d : Int32} (h : Cls g c σ A) (hW : StW A) : Hr (f7_near (some 0) a b d) σ (CQ g σ 60 2100 (pNear A a b d)) := by
  unfold f7_near pNear
  refine (b_eq (e7_isKind _ _)).mpr ?_
  by_cases c1 : ¬ (0 ≤ a ∧ a ≤ 7)
  · rw [decide_eq_false c1, if_pos (show bI false = 0 from rfl), if_neg (fun q => c1 q.1)]
    exact cq_rt rfl h
  have c1 := Classical.not_not.mp c1
  rw [decide_eq_true c1, if_neg (show ¬ bI true = 0 by decide)]
  refine (b_eq (e7_isText _ _)).mpr ?_
  by_cases c2 : ¬ (0 ≤ b ∧ b ≤ 7)
  · rw [decide_eq_false c2, if_pos (show bI false = 0 from rfl), if_neg (fun q => c2 q.2.1)]
    exact cq_rt rfl h
  have c2 := Classical.not_not.mp c2
  rw [decide_eq_true c2, if_neg (show ¬ bI true = 0 by decide)]
  refine (b_eq (e7_isRow _ _)).mpr ?_
  by_cases c3 : ¬ (2 ≤ d ∧ d ≤ 8)
  · rw [decide_eq_false c3, if_pos (show bI false = 0 from rfl), if_neg (fun q => c3 q.2.2)]
    exact cq_rt rfl h
  have c3 := Classical.not_not.mp c3
  rw [decide_eq_true c3, if_neg (show ¬ bI true = 0 by decide), if_pos ⟨c1, c2, c3⟩]
  obtain ⟨i, hi, rfl⟩ := (in_nI (m := 7) (by decide)).mp c1
  obtain ⟨t, ht, rfl⟩ := (in_nI (m := 7) (by decide)).mp c2
  obtain ⟨n, hn1, hn2, rfl⟩ := (in_lo (l := 2) (m := 8) (by decide) (by decide)).mp c3
  rw [show tn (nI i) = i from nI_clamp (by omega), show tn (nI t) = t from nI_clamp (by omega), show tn (nI n) = n from nI_clamp (by omega)]
  refine h7_newKind (sn := 2) (m := 1) (y := 0) h hW (by omega) rfl rfl rfl rfl rfl (by decide) fun σ' g' h' x' => ?_
  exact hr_rt.mpr ⟨rfl, g', c, h', x'⟩
theorem d7_count {a d : Int32} (h : Cls g c σ A) (hW : StW A) : Hr (f7_count (some 0) a d) σ (CQ g σ 60 2100 (pCount A a d)) := by
  unfold f7_count pCount
  refine (b_eq (e7_isKind _ _)).mpr ?_
  by_cases c1 : ¬ (0 ≤ a ∧ a ≤ 7)
  · rw [decide_eq_false c1, if_pos (show bI false = 0 from rfl), if_neg (fun q => c1 q.1)]
    exact cq_rt rfl h
  have c1 := Classical.not_not.mp c1
  rw [decide_eq_true c1, if_neg (show ¬ bI true = 0 by decide)]
  refine (b_eq (e7_within _ _ _ _)).mpr ?_
  by_cases c3 : ¬ (1 ≤ d ∧ d ≤ 20)
  · rw [decide_eq_false c3, if_pos (show bI false = 0 from rfl), if_neg (fun q => c3 q.2)]
    exact cq_rt rfl h
  have c3 := Classical.not_not.mp c3
  rw [decide_eq_true c3, if_neg (show ¬ bI true = 0 by decide), if_pos ⟨c1, c3⟩]
  obtain ⟨i, hi, rfl⟩ := (in_nI (m := 7) (by decide)).mp c1
  obtain ⟨n, hn1, hn2, rfl⟩ := (in_lo (l := 1) (m := 20) (by decide) (by decide)).mp c3
  rw [show tn (nI i) = i from nI_clamp (by omega), show tn (nI n) = n from nI_clamp (by omega)]
  refine h7_newKind (sn := 3) (t := 0) (n := 2) (y := 0) h hW (by omega) rfl rfl rfl rfl rfl (by decide) fun σ' g' h' x' => ?_
  exact hr_rt.mpr ⟨rfl, g', c, h', x'⟩
theorem d7_pieces {a b d e p : Int32} (h : Cls g c σ A) (hW : StW A) : Hr (f7_pieces (some 0) a b d e p) σ (CQ g σ 60 2100 (pPieces A a b d e p)) := by
  unfold f7_pieces pPieces
  refine (b_eq (e7_isKind _ _)).mpr ?_
  by_cases c1 : ¬ (0 ≤ a ∧ a ≤ 7)
  · rw [decide_eq_false c1, if_pos (show bI false = 0 from rfl), if_neg (fun q => c1 q.1)]
    exact cq_rt rfl h
  have c1 := Classical.not_not.mp c1
  rw [decide_eq_true c1, if_neg (show ¬ bI true = 0 by decide)]
  refine (b_eq (e7_isText _ _)).mpr ?_
  by_cases c2 : ¬ (0 ≤ b ∧ b ≤ 7)
  · rw [decide_eq_false c2, if_pos (show bI false = 0 from rfl), if_neg (fun q => c2 q.2.1)]
    exact cq_rt rfl h
  have c2 := Classical.not_not.mp c2
  rw [decide_eq_true c2, if_neg (show ¬ bI true = 0 by decide)]
  refine (b_eq (e7_isRow _ _)).mpr ?_
  by_cases c3 : ¬ (2 ≤ d ∧ d ≤ 8)
  · rw [decide_eq_false c3, if_pos (show bI false = 0 from rfl), if_neg (fun q => c3 q.2.2.1)]
    exact cq_rt rfl h
  have c3 := Classical.not_not.mp c3
  rw [decide_eq_true c3, if_neg (show ¬ bI true = 0 by decide)]
  refine (b_eq (e7_within _ _ _ _)).mpr ?_
  by_cases c4 : ¬ (1 ≤ e ∧ e ≤ 50)
  · rw [decide_eq_false c4, if_pos (show bI false = 0 from rfl), if_neg (fun q => c4 q.2.2.2.1)]
    exact cq_rt rfl h
  have c4 := Classical.not_not.mp c4
  rw [decide_eq_true c4, if_neg (show ¬ bI true = 0 by decide)]
  refine (b_eq (e7_within _ _ _ _)).mpr ?_
  by_cases c5 : ¬ (0 ≤ p ∧ p ≤ 30)
  · rw [decide_eq_false c5, if_pos (show bI false = 0 from rfl), if_neg (fun q => c5 q.2.2.2.2)]
    exact cq_rt rfl h
  have c5 := Classical.not_not.mp c5
  rw [decide_eq_true c5, if_neg (show ¬ bI true = 0 by decide), if_pos ⟨c1, c2, c3, c4, c5⟩]
  obtain ⟨i, hi, rfl⟩ := (in_nI (m := 7) (by decide)).mp c1
  obtain ⟨t, ht, rfl⟩ := (in_nI (m := 7) (by decide)).mp c2
  obtain ⟨n, hn1, hn2, rfl⟩ := (in_lo (l := 2) (m := 8) (by decide) (by decide)).mp c3
  obtain ⟨m, hm1, hm2, rfl⟩ := (in_lo (l := 1) (m := 50) (by decide) (by decide)).mp c4
  obtain ⟨y, hy, rfl⟩ := (in_nI (m := 30) (by decide)).mp c5
  rw [show tn (nI i) = i from nI_clamp (by omega), show tn (nI t) = t from nI_clamp (by omega), show tn (nI n) = n from nI_clamp (by omega), show tn (nI m) = m from nI_clamp (by omega), show tn (nI y) = y from nI_clamp (by omega)]
  refine h7_newKind (sn := 4) h hW (by omega) rfl rfl rfl rfl rfl (by decide) fun σ' g' h' x' => ?_
  exact hr_rt.mpr ⟨rfl, g', c, h', x'⟩
end CLSE
