/-! ===== the law: class and reference, call by call ===== -/
theorem b_scr {n k : Nat} {xs : Nat → Int32} {i : Int32} {β : Type} {g : Int32 → Cm β} {σ : AH} {Q : β → AH → Prop} (hi : i = nI k) (hk : k < n) (hn : n < 2 ^ 31) : Hr (bn (oScr n xs i) g) σ Q ↔ Hr (g (xs k)) σ Q := by
  subst hi
  have e : oScr n xs (nI k) σ = some (xs k, σ) := by
    unfold oScr
    rw [if_neg (by have := vp_in_nI hk hn; exact this), nI_clamp (by omega)]
  exact b_eq e
theorem ifb (v : Int32) : (if v = 0 then rt 0 else rt 1 : Cm Int32) = rt (bI (!decide (v = 0))) := by
  by_cases h : v = 0
  · rw [if_pos h, decide_eq_true h]; rfl
  · rw [if_neg h, decide_eq_false h]; rfl
def INVd (j : Nat) (σ : AH) (A : St) (g : Tg) (c : Nat → Nat) (X : MX) (V : Nat → Int32) (M : Nat → Nat → Int32) : Prop := Cls g c σ A ∧ MP X V M σ ∧ MR A X V M ∧ StW A ∧ byt A ≤ 20 * j ∧ X.1 = g ∧ 100 * σ.1.length ≤ 100 * (71 + 60 * j) + xC X ∧ σ.2 ≤ 40000 + 2100 * j + 3 * (fnds (aLet A)).length + 6 * xC X
def INV (j : Nat) (σ : AH) : Prop := ∃ A g c X V M, INVd j σ A g c X V M
def MID (j : Nat) (A A' : St) (σ : AH) : Prop := ∃ (g : Tg) (c : Nat → Nat) (X : MX) (V : Nat → Int32) (M : Nat → Nat → Int32), Cls g c σ A' ∧ MP X V M σ ∧ MR A X V M ∧ StW A' ∧ byt A' ≤ 20 * (j + 1) ∧ X.1 = g ∧ 100 * σ.1.length ≤ 100 * (71 + 60 * (j + 1)) + xC X ∧ σ.2 ≤ 40000 + 2100 * (j + 1) + 3 * (fnds (aLet A')).length + 6 * xC X
theorem mp_move {X : MX} {V : Nat → Int32} {M : Nat → Nat → Int32} {σ σ1 : AH} {g1 : Tg} {nc n2 : Nat} (h : MP X V M σ) (hx : CX X.1 σ g1 σ1 nc n2) (hz : ∀ k, g1 k ≠ 0 → k < σ1.1.length) : MP (g1, (fun k => σ1.1[k]?), σ1.1.length, σ1.2, xa X, xC X) V M σ1 := by
  obtain ⟨h1, h2, h3, h4, h5, h6, h7, h8, h9, h10⟩ := h
  obtain ⟨x1, x2, x3, x4, x5⟩ := hx
  have l31 := (List.getElem?_eq_some_iff.mp h1).1
  have lf : ∀ f, isA f = true → xa X f < σ.1.length := fun f hf => (List.getElem?_eq_some_iff.mp (h2 f hf)).1
  exact ⟨by rw [x2 31 h4 l31]; exact h1, fun f hf => by show σ1.1[xa X f]? = _; rw [x2 _ (h3 f hf).1 (lf f hf)]; exact h2 f hf, fun f hf => ⟨by show g1 (xa X f) = 0; rw [x1 _ (lf f hf)]; exact (h3 f hf).1, (h3 f hf).2⟩, by show g1 31 = 0; rw [x1 31 l31]; exact h4, h5, fun _ _ => rfl, rfl, rfl, h9, hz⟩
theorem law_c {j : Nat} {σ : AH} {A : St} {g : Tg} {c : Nat → Nat} {X : MX} {V : Nat → Int32} {M : Nat → Nat → Int32} {m : Cm Int32} {o : Int32 × St} (h : INVd j σ A g c X V M) (hc : Hr m σ (CQ g σ 60 (2100 + 3 * ((fnds (aLet o.2)).length - (fnds (aLet A)).length)) o)) (ok : Ok2 A o.2) : Hr m σ (fun r σ1 => r = o.1 ∧ MID j A o.2 σ1) := by
  obtain ⟨h1, h2, h3, h4, h5, h6, h7, h8⟩ := h
  obtain ⟨k1, k2, k3⟩ := ok
  refine hc.mono ?_
  rintro r σ1 ⟨rfl, g1, c1, hC, hx⟩
  refine ⟨rfl, g1, c1, (g1, (fun k => σ1.1[k]?), σ1.1.length, σ1.2, xa X, xC X), V, M, hC, mp_move h2 (by rw [h6]; exact hx) hC.1.1, h3, k1, by omega, rfl, ?_, ?_⟩
  · have := hx.2.2.2.1
    show 100 * σ1.1.length ≤ 100 * (71 + 60 * (j + 1)) + xC X
    omega
  · have := hx.2.2.2.2
    show σ1.2 ≤ 40000 + 2100 * (j + 1) + 3 * (fnds (aLet o.2)).length + 6 * xC X
    omega
theorem cq_wk {g : Tg} {σ : AH} {m : Cm Int32} {o : Int32 × St} {n : Nat} (h : Hr m σ (CQ g σ 60 2100 o)) : Hr m σ (CQ g σ 60 (2100 + n) o) := by
  refine h.mono ?_
  rintro r σ1 ⟨h1, g1, c1, h2, h3⟩
  exact ⟨h1, g1, c1, h2, h3.wk (Nat.le_refl _) (by omega)⟩
theorem mid_obj {j : Nat} {A A' : St} {σ : AH} (h : MID j A A' σ) : ∃ fs, σ.1[31]? = some (.inr (8, fs)) := by
  obtain ⟨g, c, X, V, M, -, h2, -⟩ := h
  exact ⟨_, h2.1⟩
theorem law_m {j : Nat} {σ : AH} {A : St} {m : Cm Int32} {o : Int32 × St} (h : MID j A o.2 σ) (hm : ∀ X V M σ', MP X V M σ' → MR A X V M → Hr m σ' (MQm X o)) : Hr m σ (fun r σ2 => r = o.1 ∧ INV (j + 1) σ2) := by
  obtain ⟨g, c, X, V, M, h1, h2, h3, h4, h5, h6, h7, h8⟩ := h
  refine (hm X V M σ h2 h3).mono ?_
  rintro r σ2 ⟨rfl, X2, V2, M2, k1, k2, k3⟩
  have len1 := h2.2.2.2.2.2.2.1
  have sl1 := h2.2.2.2.2.2.2.2.1
  have cl1 := h2.2.2.2.2.2.1
  have len2 := k1.2.2.2.2.2.2.1
  have sl2 := k1.2.2.2.2.2.2.2.1
  have cl2 := k1.2.2.2.2.2.1
  obtain ⟨e1, e2, e3, e4, e5, -⟩ := k2
  refine ⟨rfl, o.2, g, c, X2, V2, M2, h1.ft (g' := g) (fun k hk => ⟨rfl, ?_⟩) (fun k hk => ?_), k1, k3, h4, by omega, by rw [e1, h6], ?_, ?_⟩
  · rw [cl2 k (by rw [e1, h6]; exact hk), e2, ← cl1 k (by rw [h6]; exact hk)]
  · have := h1.1.1 k hk
    omega
  · rw [len1] at h7
    rw [len2]
    omega
  · rw [sl1] at h8
    rw [sl2]
    omega
theorem lt_end {n i : Nat} (hn : n < 2 ^ 30) (hi : i < 2 ^ 30) : nI n - 7 < nI i ↔ n < i + 7 := by
  have e : (7 : Int32).toInt = 7 := rfl
  rw [i32_lt, tI_sub (by rw [nI_toInt (by omega), e]; omega) (by rw [nI_toInt (by omega), e]; omega), nI_toInt (by omega), nI_toInt (by omega), e]
  omega
set_option maxHeartbeats 4000000 in
theorem law_body {n j : Nat} {xs : Nat → Int32} {σ : AH} {rec : Int32 → Cm (Int32 ⊕ Unit)} {Q : Int32 ⊕ Unit → AH → Prop} (hn : n ≤ 3584) (hj : 7 * j + 7 ≤ n) (hI : INV j σ) (next : ∀ σ', INV (j + 1) σ' → Hr (rec (nI (7 * j) + 7)) σ' Q) : Hr (lL_law_18 n xs (some 0) (some 31) rec (nI (7 * j))) σ Q := by
  obtain ⟨A, g, c, X, V, M, hD⟩ := hI
  have hC := hD.1
  have hW := hD.2.2.2.1
  have hb : byt A ≤ 10240 := by have := hD.2.2.2.2.1; omega
  have hB := bdF_of hW hb
  have h0 := hC.2.1
  unfold lL_law_18
  rw [if_neg (by rw [lt_end (by omega) (by omega)]; omega)]
  refine (b_scr (k := 7 * j) rfl (by omega) (by omega)).mpr ?_
  refine b_ite (fun _ => ?_) (fun _ => ?_)
  · refine (b_scr (k := 7 * j + 1) (nI_add (7 * j) 1) (by omega) (by omega)).mpr ?_
    refine (b_obj h0).mpr ?_
    refine b_hr (law_c (o := pDays A (xs (7 * j + 1))) hD (cq_wk (d7_days hC hW)) (ok_days hW)) ?_
    rintro r1 σ1 ⟨rfl, hM1⟩
    refine (b_scr (k := 7 * j + 1) (nI_add (7 * j) 1) (by omega) (by omega)).mpr ?_
    obtain ⟨_, h31⟩ := mid_obj hM1
    refine (b_obj h31).mpr ?_
    refine b_hr (law_m hM1 (fun X V M σ' h hR => d8_days h hR hW)) ?_
    rintro r2 σ2 ⟨rfl, hN⟩
    rw [if_pos rfl]
    exact next σ2 hN
  refine b_ite (fun _ => ?_) (fun _ => ?_)
  · refine (b_scr (k := 7 * j + 1) (nI_add (7 * j) 1) (by omega) (by omega)).mpr ?_
    refine (b_scr (k := 7 * j + 2) (nI_add (7 * j) 2) (by omega) (by omega)).mpr ?_
    refine (b_scr (k := 7 * j + 3) (nI_add (7 * j) 3) (by omega) (by omega)).mpr ?_
    refine (b_scr (k := 7 * j + 4) (nI_add (7 * j) 4) (by omega) (by omega)).mpr ?_
    refine (b_scr (k := 7 * j + 5) (nI_add (7 * j) 5) (by omega) (by omega)).mpr ?_
    refine (b_obj h0).mpr ?_
    refine b_hr (law_c (o := pFeed A (xs (7 * j + 1)) (xs (7 * j + 2)) (xs (7 * j + 3)) (xs (7 * j + 4)) (xs (7 * j + 5))) hD (cq_wk (d7_feed hC hW)) (ok_feed hW)) ?_
    rintro r1 σ1 ⟨rfl, hM1⟩
    refine (b_scr (k := 7 * j + 1) (nI_add (7 * j) 1) (by omega) (by omega)).mpr ?_
    refine (b_scr (k := 7 * j + 2) (nI_add (7 * j) 2) (by omega) (by omega)).mpr ?_
    refine (b_scr (k := 7 * j + 3) (nI_add (7 * j) 3) (by omega) (by omega)).mpr ?_
    refine (b_scr (k := 7 * j + 4) (nI_add (7 * j) 4) (by omega) (by omega)).mpr ?_
    refine (b_scr (k := 7 * j + 5) (nI_add (7 * j) 5) (by omega) (by omega)).mpr ?_
    obtain ⟨_, h31⟩ := mid_obj hM1
    refine (b_obj h31).mpr ?_
    refine b_hr (law_m hM1 (fun X V M σ' h hR => d8_feed h hR hW)) ?_
    rintro r2 σ2 ⟨rfl, hN⟩
    rw [if_pos rfl]
    exact next σ2 hN
  refine b_ite (fun _ => ?_) (fun _ => ?_)
  · refine (b_scr (k := 7 * j + 1) (nI_add (7 * j) 1) (by omega) (by omega)).mpr ?_
    refine (b_obj h0).mpr ?_
    refine b_hr (law_c (o := pEnd A (xs (7 * j + 1))) hD (cq_wk (d7_end hC hW)) (ok_end hW)) ?_
    rintro r1 σ1 ⟨rfl, hM1⟩
    refine (b_scr (k := 7 * j + 1) (nI_add (7 * j) 1) (by omega) (by omega)).mpr ?_
    obtain ⟨_, h31⟩ := mid_obj hM1
    refine (b_obj h31).mpr ?_
    refine b_hr (law_m hM1 (fun X V M σ' h hR => d8_end h hR hW)) ?_
    rintro r2 σ2 ⟨rfl, hN⟩
    rw [if_pos rfl]
    exact next σ2 hN
  refine b_ite (fun _ => ?_) (fun _ => ?_)
  · refine (b_scr (k := 7 * j + 1) (nI_add (7 * j) 1) (by omega) (by omega)).mpr ?_
    refine (b_obj h0).mpr ?_
    refine b_hr (law_c (o := pKeep A (xs (7 * j + 1))) hD (cq_wk (d7_keep hC hW)) (ok_keep hW)) ?_
    rintro r1 σ1 ⟨rfl, hM1⟩
    refine (b_scr (k := 7 * j + 1) (nI_add (7 * j) 1) (by omega) (by omega)).mpr ?_
    obtain ⟨_, h31⟩ := mid_obj hM1
    refine (b_obj h31).mpr ?_
    refine b_hr (law_m hM1 (fun X V M σ' h hR => d8_keep h hR hW)) ?_
    rintro r2 σ2 ⟨rfl, hN⟩
    rw [if_pos rfl]
    exact next σ2 hN
  refine b_ite (fun _ => ?_) (fun _ => ?_)
  · refine (b_scr (k := 7 * j + 1) (nI_add (7 * j) 1) (by omega) (by omega)).mpr ?_
    refine (b_obj h0).mpr ?_
    refine b_hr (law_c (o := pMark A (xs (7 * j + 1))) hD (cq_wk (d7_mark hC hW)) (ok_mark hW)) ?_
    rintro r1 σ1 ⟨rfl, hM1⟩
    refine (b_scr (k := 7 * j + 1) (nI_add (7 * j) 1) (by omega) (by omega)).mpr ?_
    obtain ⟨_, h31⟩ := mid_obj hM1
    refine (b_obj h31).mpr ?_
    refine b_hr (law_m hM1 (fun X V M σ' h hR => d8_mark h hR hW)) ?_
    rintro r2 σ2 ⟨rfl, hN⟩
    rw [if_pos rfl]
    exact next σ2 hN
  refine b_ite (fun _ => ?_) (fun _ => ?_)
  · refine (b_scr (k := 7 * j + 1) (nI_add (7 * j) 1) (by omega) (by omega)).mpr ?_
    refine (b_scr (k := 7 * j + 2) (nI_add (7 * j) 2) (by omega) (by omega)).mpr ?_
    refine (b_scr (k := 7 * j + 3) (nI_add (7 * j) 3) (by omega) (by omega)).mpr ?_
    refine (b_obj h0).mpr ?_
    refine b_hr (law_c (o := pNear A (xs (7 * j + 1)) (xs (7 * j + 2)) (xs (7 * j + 3))) hD (cq_wk (d7_near hC hW)) (ok_near hW)) ?_
    rintro r1 σ1 ⟨rfl, hM1⟩
    refine (b_scr (k := 7 * j + 1) (nI_add (7 * j) 1) (by omega) (by omega)).mpr ?_
    refine (b_scr (k := 7 * j + 2) (nI_add (7 * j) 2) (by omega) (by omega)).mpr ?_
    refine (b_scr (k := 7 * j + 3) (nI_add (7 * j) 3) (by omega) (by omega)).mpr ?_
    obtain ⟨_, h31⟩ := mid_obj hM1
    refine (b_obj h31).mpr ?_
    refine b_hr (law_m hM1 (fun X V M σ' h hR => d8_near h hR hW)) ?_
    rintro r2 σ2 ⟨rfl, hN⟩
    rw [if_pos rfl]
    exact next σ2 hN
  refine b_ite (fun _ => ?_) (fun _ => ?_)
  · refine (b_scr (k := 7 * j + 1) (nI_add (7 * j) 1) (by omega) (by omega)).mpr ?_
    refine (b_scr (k := 7 * j + 2) (nI_add (7 * j) 2) (by omega) (by omega)).mpr ?_
    refine (b_obj h0).mpr ?_
    refine b_hr (law_c (o := pCount A (xs (7 * j + 1)) (xs (7 * j + 2))) hD (cq_wk (d7_count hC hW)) (ok_count hW)) ?_
    rintro r1 σ1 ⟨rfl, hM1⟩
    refine (b_scr (k := 7 * j + 1) (nI_add (7 * j) 1) (by omega) (by omega)).mpr ?_
    refine (b_scr (k := 7 * j + 2) (nI_add (7 * j) 2) (by omega) (by omega)).mpr ?_
    obtain ⟨_, h31⟩ := mid_obj hM1
    refine (b_obj h31).mpr ?_
    refine b_hr (law_m hM1 (fun X V M σ' h hR => d8_count h hR hW)) ?_
    rintro r2 σ2 ⟨rfl, hN⟩
    rw [if_pos rfl]
    exact next σ2 hN
  refine b_ite (fun _ => ?_) (fun _ => ?_)
  · refine (b_scr (k := 7 * j + 1) (nI_add (7 * j) 1) (by omega) (by omega)).mpr ?_
    refine (b_scr (k := 7 * j + 2) (nI_add (7 * j) 2) (by omega) (by omega)).mpr ?_
    refine (b_scr (k := 7 * j + 3) (nI_add (7 * j) 3) (by omega) (by omega)).mpr ?_
    refine (b_scr (k := 7 * j + 4) (nI_add (7 * j) 4) (by omega) (by omega)).mpr ?_
    refine (b_scr (k := 7 * j + 5) (nI_add (7 * j) 5) (by omega) (by omega)).mpr ?_
    refine (b_obj h0).mpr ?_
    refine b_hr (law_c (o := pPieces A (xs (7 * j + 1)) (xs (7 * j + 2)) (xs (7 * j + 3)) (xs (7 * j + 4)) (xs (7 * j + 5))) hD (cq_wk (d7_pieces hC hW)) (ok_pieces hW)) ?_
    rintro r1 σ1 ⟨rfl, hM1⟩
    refine (b_scr (k := 7 * j + 1) (nI_add (7 * j) 1) (by omega) (by omega)).mpr ?_
    refine (b_scr (k := 7 * j + 2) (nI_add (7 * j) 2) (by omega) (by omega)).mpr ?_
    refine (b_scr (k := 7 * j + 3) (nI_add (7 * j) 3) (by omega) (by omega)).mpr ?_
    refine (b_scr (k := 7 * j + 4) (nI_add (7 * j) 4) (by omega) (by omega)).mpr ?_
    refine (b_scr (k := 7 * j + 5) (nI_add (7 * j) 5) (by omega) (by omega)).mpr ?_
    obtain ⟨_, h31⟩ := mid_obj hM1
    refine (b_obj h31).mpr ?_
    refine b_hr (law_m hM1 (fun X V M σ' h hR => d8_pieces h hR hW)) ?_
    rintro r2 σ2 ⟨rfl, hN⟩
    rw [if_pos rfl]
    exact next σ2 hN
  refine b_ite (fun _ => ?_) (fun _ => ?_)
  · refine (b_scr (k := 7 * j + 1) (nI_add (7 * j) 1) (by omega) (by omega)).mpr ?_
    refine (b_scr (k := 7 * j + 2) (nI_add (7 * j) 2) (by omega) (by omega)).mpr ?_
    refine (b_scr (k := 7 * j + 3) (nI_add (7 * j) 3) (by omega) (by omega)).mpr ?_
    refine (b_scr (k := 7 * j + 4) (nI_add (7 * j) 4) (by omega) (by omega)).mpr ?_
    rw [ifb, bn_rt]
    refine (b_obj h0).mpr ?_
    refine b_hr (law_c (o := pAllow A (xs (7 * j + 1)) (xs (7 * j + 2)) (xs (7 * j + 3)) (!decide (xs (7 * j + 4) = 0))) hD (cq_wk (d7_allow hC hW)) (ok_allow hW)) ?_
    rintro r1 σ1 ⟨rfl, hM1⟩
    refine (b_scr (k := 7 * j + 1) (nI_add (7 * j) 1) (by omega) (by omega)).mpr ?_
    refine (b_scr (k := 7 * j + 2) (nI_add (7 * j) 2) (by omega) (by omega)).mpr ?_
    refine (b_scr (k := 7 * j + 3) (nI_add (7 * j) 3) (by omega) (by omega)).mpr ?_
    refine (b_scr (k := 7 * j + 4) (nI_add (7 * j) 4) (by omega) (by omega)).mpr ?_
    rw [ifb, bn_rt]
    obtain ⟨_, h31⟩ := mid_obj hM1
    refine (b_obj h31).mpr ?_
    refine b_hr (law_m hM1 (fun X V M σ' h hR => d8_allow h hR hW)) ?_
    rintro r2 σ2 ⟨rfl, hN⟩
    rw [if_pos rfl]
    exact next σ2 hN
  refine b_ite (fun _ => ?_) (fun _ => ?_)
  · refine (b_scr (k := 7 * j + 1) (nI_add (7 * j) 1) (by omega) (by omega)).mpr ?_
    refine (b_scr (k := 7 * j + 2) (nI_add (7 * j) 2) (by omega) (by omega)).mpr ?_
    refine (b_scr (k := 7 * j + 3) (nI_add (7 * j) 3) (by omega) (by omega)).mpr ?_
    refine (b_scr (k := 7 * j + 4) (nI_add (7 * j) 4) (by omega) (by omega)).mpr ?_
    refine (b_scr (k := 7 * j + 5) (nI_add (7 * j) 5) (by omega) (by omega)).mpr ?_
    refine (b_obj h0).mpr ?_
    refine b_hr (law_c (o := pRule A (xs (7 * j + 1)) (xs (7 * j + 2)) (xs (7 * j + 3)) (xs (7 * j + 4)) (xs (7 * j + 5))) hD (cq_wk (d7_rule hC hW)) (ok_rule hW)) ?_
    rintro r1 σ1 ⟨rfl, hM1⟩
    refine (b_scr (k := 7 * j + 1) (nI_add (7 * j) 1) (by omega) (by omega)).mpr ?_
    refine (b_scr (k := 7 * j + 2) (nI_add (7 * j) 2) (by omega) (by omega)).mpr ?_
    refine (b_scr (k := 7 * j + 3) (nI_add (7 * j) 3) (by omega) (by omega)).mpr ?_
    refine (b_scr (k := 7 * j + 4) (nI_add (7 * j) 4) (by omega) (by omega)).mpr ?_
    refine (b_scr (k := 7 * j + 5) (nI_add (7 * j) 5) (by omega) (by omega)).mpr ?_
    obtain ⟨_, h31⟩ := mid_obj hM1
    refine (b_obj h31).mpr ?_
    refine b_hr (law_m hM1 (fun X V M σ' h hR => d8_rule h hR hW)) ?_
    rintro r2 σ2 ⟨rfl, hN⟩
    rw [if_pos rfl]
    exact next σ2 hN
  refine b_ite (fun _ => ?_) (fun _ => ?_)
  · refine (b_scr (k := 7 * j + 1) (nI_add (7 * j) 1) (by omega) (by omega)).mpr ?_
    refine (b_obj h0).mpr ?_
    refine b_hr (law_c (o := pDrop A (xs (7 * j + 1))) hD (cq_wk (d7_drop hC hW)) (ok_drop hW)) ?_
    rintro r1 σ1 ⟨rfl, hM1⟩
    refine (b_scr (k := 7 * j + 1) (nI_add (7 * j) 1) (by omega) (by omega)).mpr ?_
    obtain ⟨_, h31⟩ := mid_obj hM1
    refine (b_obj h31).mpr ?_
    refine b_hr (law_m hM1 (fun X V M σ' h hR => d8_drop h hR hW)) ?_
    rintro r2 σ2 ⟨rfl, hN⟩
    rw [if_pos rfl]
    exact next σ2 hN
  refine b_ite (fun _ => ?_) (fun _ => ?_)
  · refine (b_scr (k := 7 * j + 1) (nI_add (7 * j) 1) (by omega) (by omega)).mpr ?_
    refine (b_scr (k := 7 * j + 2) (nI_add (7 * j) 2) (by omega) (by omega)).mpr ?_
    refine (b_scr (k := 7 * j + 3) (nI_add (7 * j) 3) (by omega) (by omega)).mpr ?_
    refine (b_obj h0).mpr ?_
    refine b_hr (law_c (o := pSend A (xs (7 * j + 1)) (xs (7 * j + 2)) (xs (7 * j + 3))) hD (d7_send hC hW (fun s t w => bdF_add hW hb) (fun s t w k => Nat.lt_of_le_of_lt (raw_30 (kp := aKept A) (d := aKind A k) (xs := aTape A) hW.2.2.1 (hW.2.2.2.1 k)) (by have := hW.2.1; omega))) (ok_send hW)) ?_
    rintro r1 σ1 ⟨rfl, hM1⟩
    refine (b_scr (k := 7 * j + 1) (nI_add (7 * j) 1) (by omega) (by omega)).mpr ?_
    refine (b_scr (k := 7 * j + 2) (nI_add (7 * j) 2) (by omega) (by omega)).mpr ?_
    refine (b_scr (k := 7 * j + 3) (nI_add (7 * j) 3) (by omega) (by omega)).mpr ?_
    obtain ⟨_, h31⟩ := mid_obj hM1
    refine (b_obj h31).mpr ?_
    refine b_hr (law_m hM1 (fun X V M σ' h hR => d8_send h hR hW (fun s t w => bdF_add hW hb))) ?_
    rintro r2 σ2 ⟨rfl, hN⟩
    rw [if_pos rfl]
    exact next σ2 hN
  refine b_ite (fun _ => ?_) (fun _ => ?_)
  · refine (b_scr (k := 7 * j + 1) (nI_add (7 * j) 1) (by omega) (by omega)).mpr ?_
    refine (b_scr (k := 7 * j + 2) (nI_add (7 * j) 2) (by omega) (by omega)).mpr ?_
    rw [ifb, bn_rt]
    refine (b_obj h0).mpr ?_
    refine b_hr (law_c (o := pAnswer A (xs (7 * j + 1)) (!decide (xs (7 * j + 2) = 0))) hD (cq_wk (d7_answer hC hW)) (ok_answer hW)) ?_
    rintro r1 σ1 ⟨rfl, hM1⟩
    refine (b_scr (k := 7 * j + 1) (nI_add (7 * j) 1) (by omega) (by omega)).mpr ?_
    refine (b_scr (k := 7 * j + 2) (nI_add (7 * j) 2) (by omega) (by omega)).mpr ?_
    rw [ifb, bn_rt]
    obtain ⟨_, h31⟩ := mid_obj hM1
    refine (b_obj h31).mpr ?_
    refine b_hr (law_m hM1 (fun X V M σ' h hR => d8_answer h hR hW)) ?_
    rintro r2 σ2 ⟨rfl, hN⟩
    rw [if_pos rfl]
    exact next σ2 hN
  refine b_ite (fun _ => ?_) (fun _ => ?_)
  · refine (b_scr (k := 7 * j + 1) (nI_add (7 * j) 1) (by omega) (by omega)).mpr ?_
    refine (b_scr (k := 7 * j + 2) (nI_add (7 * j) 2) (by omega) (by omega)).mpr ?_
    refine (b_obj h0).mpr ?_
    refine b_hr (law_c (o := (pTold A (xs (7 * j + 1)) (xs (7 * j + 2)), A)) hD (cq_wk (d7_told hC hW)) (ok_same hW)) ?_
    rintro r1 σ1 ⟨rfl, hM1⟩
    refine (b_scr (k := 7 * j + 1) (nI_add (7 * j) 1) (by omega) (by omega)).mpr ?_
    refine (b_scr (k := 7 * j + 2) (nI_add (7 * j) 2) (by omega) (by omega)).mpr ?_
    obtain ⟨_, h31⟩ := mid_obj hM1
    refine (b_obj h31).mpr ?_
    refine b_hr (law_m hM1 (fun X V M σ' h hR => d8_told h hR hW)) ?_
    rintro r2 σ2 ⟨rfl, hN⟩
    rw [if_pos rfl]
    exact next σ2 hN
  refine b_ite (fun _ => ?_) (fun _ => ?_)
  · refine (b_scr (k := 7 * j + 1) (nI_add (7 * j) 1) (by omega) (by omega)).mpr ?_
    refine (b_scr (k := 7 * j + 2) (nI_add (7 * j) 2) (by omega) (by omega)).mpr ?_
    refine (b_scr (k := 7 * j + 3) (nI_add (7 * j) 3) (by omega) (by omega)).mpr ?_
    rw [ifb, bn_rt]
    refine (b_obj h0).mpr ?_
    refine b_hr (law_c (o := (pAt A (xs (7 * j + 1)) (xs (7 * j + 2)) (!decide (xs (7 * j + 3) = 0)), A)) hD (cq_wk (d7_at hC hW)) (ok_same hW)) ?_
    rintro r1 σ1 ⟨rfl, hM1⟩
    refine (b_scr (k := 7 * j + 1) (nI_add (7 * j) 1) (by omega) (by omega)).mpr ?_
    refine (b_scr (k := 7 * j + 2) (nI_add (7 * j) 2) (by omega) (by omega)).mpr ?_
    refine (b_scr (k := 7 * j + 3) (nI_add (7 * j) 3) (by omega) (by omega)).mpr ?_
    rw [ifb, bn_rt]
    obtain ⟨_, h31⟩ := mid_obj hM1
    refine (b_obj h31).mpr ?_
    refine b_hr (law_m hM1 (fun X V M σ' h hR => d8_at h hR hW)) ?_
    rintro r2 σ2 ⟨rfl, hN⟩
    rw [if_pos rfl]
    exact next σ2 hN
  refine b_ite (fun _ => ?_) (fun _ => ?_)
  · refine (b_scr (k := 7 * j + 1) (nI_add (7 * j) 1) (by omega) (by omega)).mpr ?_
    refine (b_scr (k := 7 * j + 2) (nI_add (7 * j) 2) (by omega) (by omega)).mpr ?_
    refine (b_scr (k := 7 * j + 3) (nI_add (7 * j) 3) (by omega) (by omega)).mpr ?_
    refine (b_obj h0).mpr ?_
    refine b_hr (law_c (o := (pFound A (xs (7 * j + 1)) (xs (7 * j + 2)) (xs (7 * j + 3)), A)) hD (cq_wk (d7_found hC hW)) (ok_same hW)) ?_
    rintro r1 σ1 ⟨rfl, hM1⟩
    refine (b_scr (k := 7 * j + 1) (nI_add (7 * j) 1) (by omega) (by omega)).mpr ?_
    refine (b_scr (k := 7 * j + 2) (nI_add (7 * j) 2) (by omega) (by omega)).mpr ?_
    refine (b_scr (k := 7 * j + 3) (nI_add (7 * j) 3) (by omega) (by omega)).mpr ?_
    obtain ⟨_, h31⟩ := mid_obj hM1
    refine (b_obj h31).mpr ?_
    refine b_hr (law_m hM1 (fun X V M σ' h hR => d8_found h hR hW)) ?_
    rintro r2 σ2 ⟨rfl, hN⟩
    rw [if_pos rfl]
    exact next σ2 hN
  refine b_ite (fun _ => ?_) (fun _ => ?_)
  · refine (b_obj h0).mpr ?_
    refine b_hr (law_c (o := (pWords A, A)) hD (cq_wk (d7_words hC hW)) (ok_same hW)) ?_
    rintro r1 σ1 ⟨rfl, hM1⟩
    obtain ⟨_, h31⟩ := mid_obj hM1
    refine (b_obj h31).mpr ?_
    refine b_hr (law_m hM1 (fun X V M σ' h hR => d8_words h hR hW)) ?_
    rintro r2 σ2 ⟨rfl, hN⟩
    rw [if_pos rfl]
    exact next σ2 hN
  refine b_ite (fun _ => ?_) (fun _ => ?_)
  · refine (b_obj h0).mpr ?_
    refine b_hr (law_c (o := (pNumbers A, A)) hD (cq_wk (d7_numbers hC hW)) (ok_same hW)) ?_
    rintro r1 σ1 ⟨rfl, hM1⟩
    obtain ⟨_, h31⟩ := mid_obj hM1
    refine (b_obj h31).mpr ?_
    refine b_hr (law_m hM1 (fun X V M σ' h hR => d8_numbers h hR hW)) ?_
    rintro r2 σ2 ⟨rfl, hN⟩
    rw [if_pos rfl]
    exact next σ2 hN
  refine b_ite (fun _ => ?_) (fun _ => ?_)
  · refine (b_scr (k := 7 * j + 1) (nI_add (7 * j) 1) (by omega) (by omega)).mpr ?_
    refine (b_scr (k := 7 * j + 2) (nI_add (7 * j) 2) (by omega) (by omega)).mpr ?_
    refine (b_obj h0).mpr ?_
    refine b_hr (law_c (o := (pParts A (xs (7 * j + 1)) (xs (7 * j + 2)), A)) hD (cq_wk (d7_parts hC hW)) (ok_same hW)) ?_
    rintro r1 σ1 ⟨rfl, hM1⟩
    refine (b_scr (k := 7 * j + 1) (nI_add (7 * j) 1) (by omega) (by omega)).mpr ?_
    refine (b_scr (k := 7 * j + 2) (nI_add (7 * j) 2) (by omega) (by omega)).mpr ?_
    obtain ⟨_, h31⟩ := mid_obj hM1
    refine (b_obj h31).mpr ?_
    refine b_hr (law_m hM1 (fun X V M σ' h hR => d8_parts h hR hW)) ?_
    rintro r2 σ2 ⟨rfl, hN⟩
    rw [if_pos rfl]
    exact next σ2 hN
  refine b_ite (fun _ => ?_) (fun _ => ?_)
  · refine (b_scr (k := 7 * j + 1) (nI_add (7 * j) 1) (by omega) (by omega)).mpr ?_
    refine (b_scr (k := 7 * j + 2) (nI_add (7 * j) 2) (by omega) (by omega)).mpr ?_
    refine (b_scr (k := 7 * j + 3) (nI_add (7 * j) 3) (by omega) (by omega)).mpr ?_
    refine (b_scr (k := 7 * j + 4) (nI_add (7 * j) 4) (by omega) (by omega)).mpr ?_
    refine (b_scr (k := 7 * j + 5) (nI_add (7 * j) 5) (by omega) (by omega)).mpr ?_
    refine (b_obj h0).mpr ?_
    refine b_hr (law_c (o := (pTrial A (xs (7 * j + 1)) (xs (7 * j + 2)) (xs (7 * j + 3)) (xs (7 * j + 4)) (xs (7 * j + 5)), A)) hD (cq_wk (d7_trial hC hW hB)) (ok_same hW)) ?_
    rintro r1 σ1 ⟨rfl, hM1⟩
    refine (b_scr (k := 7 * j + 1) (nI_add (7 * j) 1) (by omega) (by omega)).mpr ?_
    refine (b_scr (k := 7 * j + 2) (nI_add (7 * j) 2) (by omega) (by omega)).mpr ?_
    refine (b_scr (k := 7 * j + 3) (nI_add (7 * j) 3) (by omega) (by omega)).mpr ?_
    refine (b_scr (k := 7 * j + 4) (nI_add (7 * j) 4) (by omega) (by omega)).mpr ?_
    refine (b_scr (k := 7 * j + 5) (nI_add (7 * j) 5) (by omega) (by omega)).mpr ?_
    obtain ⟨_, h31⟩ := mid_obj hM1
    refine (b_obj h31).mpr ?_
    refine b_hr (law_m hM1 (fun X V M σ' h hR => d8_trial h hR hW hB)) ?_
    rintro r2 σ2 ⟨rfl, hN⟩
    rw [if_pos rfl]
    exact next σ2 hN
  refine b_ite (fun _ => ?_) (fun _ => ?_)
  · refine (b_scr (k := 7 * j + 1) (nI_add (7 * j) 1) (by omega) (by omega)).mpr ?_
    refine (b_scr (k := 7 * j + 2) (nI_add (7 * j) 2) (by omega) (by omega)).mpr ?_
    refine (b_scr (k := 7 * j + 3) (nI_add (7 * j) 3) (by omega) (by omega)).mpr ?_
    refine (b_scr (k := 7 * j + 4) (nI_add (7 * j) 4) (by omega) (by omega)).mpr ?_
    refine (b_scr (k := 7 * j + 5) (nI_add (7 * j) 5) (by omega) (by omega)).mpr ?_
    refine (b_scr (k := 7 * j + 6) (nI_add (7 * j) 6) (by omega) (by omega)).mpr ?_
    refine (b_obj h0).mpr ?_
    refine b_hr (law_c (o := (pTried A (xs (7 * j + 1)) (xs (7 * j + 2)) (xs (7 * j + 3)) (xs (7 * j + 4)) (xs (7 * j + 5)) (xs (7 * j + 6)), A)) hD (cq_wk (d7_tried hC hW hB)) (ok_same hW)) ?_
    rintro r1 σ1 ⟨rfl, hM1⟩
    refine (b_scr (k := 7 * j + 1) (nI_add (7 * j) 1) (by omega) (by omega)).mpr ?_
    refine (b_scr (k := 7 * j + 2) (nI_add (7 * j) 2) (by omega) (by omega)).mpr ?_
    refine (b_scr (k := 7 * j + 3) (nI_add (7 * j) 3) (by omega) (by omega)).mpr ?_
    refine (b_scr (k := 7 * j + 4) (nI_add (7 * j) 4) (by omega) (by omega)).mpr ?_
    refine (b_scr (k := 7 * j + 5) (nI_add (7 * j) 5) (by omega) (by omega)).mpr ?_
    refine (b_scr (k := 7 * j + 6) (nI_add (7 * j) 6) (by omega) (by omega)).mpr ?_
    obtain ⟨_, h31⟩ := mid_obj hM1
    refine (b_obj h31).mpr ?_
    refine b_hr (law_m hM1 (fun X V M σ' h hR => d8_tried h hR hW hB)) ?_
    rintro r2 σ2 ⟨rfl, hN⟩
    rw [if_pos rfl]
    exact next σ2 hN
  refine b_ite (fun _ => ?_) (fun _ => ?_)
  · refine (b_scr (k := 7 * j + 1) (nI_add (7 * j) 1) (by omega) (by omega)).mpr ?_
    refine (b_scr (k := 7 * j + 2) (nI_add (7 * j) 2) (by omega) (by omega)).mpr ?_
    refine (b_obj h0).mpr ?_
    refine b_hr (law_c (o := (pQuarrel A (xs (7 * j + 1)) (xs (7 * j + 2)), A)) hD (cq_wk (d7_quarrel hC hW)) (ok_same hW)) ?_
    rintro r1 σ1 ⟨rfl, hM1⟩
    refine (b_scr (k := 7 * j + 1) (nI_add (7 * j) 1) (by omega) (by omega)).mpr ?_
    refine (b_scr (k := 7 * j + 2) (nI_add (7 * j) 2) (by omega) (by omega)).mpr ?_
    obtain ⟨_, h31⟩ := mid_obj hM1
    refine (b_obj h31).mpr ?_
    refine b_hr (law_m hM1 (fun X V M σ' h hR => d8_quarrel h hR hW)) ?_
    rintro r2 σ2 ⟨rfl, hN⟩
    rw [if_pos rfl]
    exact next σ2 hN
  refine b_ite (fun _ => ?_) (fun _ => ?_)
  · refine (b_scr (k := 7 * j + 1) (nI_add (7 * j) 1) (by omega) (by omega)).mpr ?_
    refine (b_obj h0).mpr ?_
    refine b_hr (law_c (o := (pState A (xs (7 * j + 1)), A)) hD (cq_wk (d7_state hC hW)) (ok_same hW)) ?_
    rintro r1 σ1 ⟨rfl, hM1⟩
    refine (b_scr (k := 7 * j + 1) (nI_add (7 * j) 1) (by omega) (by omega)).mpr ?_
    obtain ⟨_, h31⟩ := mid_obj hM1
    refine (b_obj h31).mpr ?_
    refine b_hr (law_m hM1 (fun X V M σ' h hR => d8_state h hR hW)) ?_
    rintro r2 σ2 ⟨rfl, hN⟩
    rw [if_pos rfl]
    exact next σ2 hN
  refine next σ ⟨A, g, c, X, V, M, ?_⟩
  obtain ⟨h1, h2, h3, h4, h5, h6, h7, h8⟩ := hD
  exact ⟨h1, h2, h3, h4, by omega, h6, by omega, by omega⟩
theorem inv_room {j : Nat} {σ : AH} (h : INV j σ) (hj : j ≤ 512) : σ.1.length ≤ 600000 ∧ σ.2 ≤ 7302250 := by
  obtain ⟨A, g, c, X, V, M, h1, h2, h3, h4, h5, h6, h7, h8⟩ := h
  have hf := fnds_30 (aLet A) h4.2.2.2.2.2.2.2.1
  have h60 := h4.2.2.2.2.2.2.1
  have hC := h3.2.2.2.2.2.2.2.2.2.2.2.1
  unfold byt at h5
  omega
theorem law_cmd (n : Nat) (xs : Nat → Int32) (hn : n ≤ 3584) : Hr (fL_law n xs) ([], 0) LQ := by
  unfold fL_law
  refine b_newO fun σ1 n1 => ?_
  have l1 : σ1.1.length = 1 := n1.2.2.1
  have c1 : σ1.1[0]? = some (.inr (7, [.int 0, .null, .int 0, .null, .null, .null, .null, .null, .int 0, .null, .null, .null, .null])) := n1.1
  have s1 : σ1.2 = 13 := n1.2.2.2
  show Hr (bn (oObj (some 0) 7) _) σ1 LQ
  refine (b_obj c1).mpr ?_
  refine b_hr (i7_init c1 l1) ?_
  rintro _ σ2 ⟨hC, l2, s2⟩
  refine b_newO fun σ3 n3 => ?_
  have c3 := n3.1
  rw [l2] at c3 ⊢
  have l3 : σ3.1.length = 32 := by rw [n3.2.2.1, l2]
  have s3 := n3.2.2.2
  simp only [List.length_cons, List.length_nil] at s3
  refine (b_obj c3).mpr ?_
  refine b_hr (i8_init c3 l3) ?_
  rintro _ σ4 hN
  have hM := mp_init hN mfl_F.symm
  have hl4 : σ4.1.length = 71 := hN.2.1
  have hs4 : σ4.2 = σ3.2 + 34912 := hN.2.2.2.2
  have hC4 := hC.ft (g' := g00) (σ' := σ4) (fun k hk => ⟨rfl, by
    have kl := g00_lt hk
    rw [hN.2.2.2.1 k kl, n3.2.1 k (by omega)]⟩) (fun k hk => by have := g00_lt hk; omega)
  have hI : INV 0 σ4 := ⟨A00, g00, fun _ => 0, _, _, _, hC4, hM, mr_init rfl, stw_init, Nat.le_refl _, rfl, by show 100 * σ4.1.length ≤ 100 * (71 + 60 * 0) + 1024; omega, by show σ4.2 ≤ 40000 + 2100 * 0 + 3 * 0 + 6 * 1024; omega⟩
  refine b_hr (P := fun y σ' => y = .inr () ∧ σ'.1.length ≤ 600000 ∧ σ'.2 ≤ 7302250) ?_ ?_
  · refine hr_loop (fun z σ5 => ∃ j, z = nI (7 * j) ∧ 7 * j ≤ n ∧ INV j σ5) (fun z => 10000 - z.toNatClampNeg) ⟨0, rfl, Nat.zero_le _, hI⟩ (by show 10000 - _ < _; omega) ?_
    rintro rec z σ5 ⟨j, rfl, hj, hI5⟩ ih
    by_cases c5 : n < 7 * j + 7
    · unfold lL_law_18
      rw [if_pos ((lt_end (by omega) (by omega)).mpr c5)]
      exact hr_rt.mpr ⟨rfl, inv_room hI5 (by omega)⟩
    · refine law_body hn (by omega) hI5 fun σ6 hI6 => ?_
      refine ih _ _ ⟨j + 1, nI_add (7 * j) 7, by omega, hI6⟩ ?_
      rw [show nI (7 * j) + 7 = nI (7 * j + 7) from nI_add (7 * j) 7, nI_clamp (by omega), nI_clamp (by omega)]
      omega
  · rintro y σ5 ⟨rfl, h1, h2⟩
    rw [Sum.elim_inr]
    exact hr_rt.mpr ⟨rfl, h1, h2⟩
