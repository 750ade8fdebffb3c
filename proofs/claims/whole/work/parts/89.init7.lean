/-! ===== a new object of each: the pictures ===== -/
theorem g00_z {k : Nat} (h : 31 ≤ k) : g00 k = 0 := by
  unfold g00
  rw [if_neg (by omega), if_neg (by omega)]
theorem g00_lt {k : Nat} (h : g00 k ≠ 0) : k < 31 := Classical.byContradiction fun z => h (g00_z (by omega))
theorem maI_ge (f : Nat) : 32 ≤ maI f := by unfold maI; omega
theorem unw_nil : unw [] = [] := by rw [unw.eq_2 [] (by intro _ _ _ _ h; cases h)]
theorem TXT_nil : TXT [] = [] := by
  unfold TXT lowT ut
  rw [show tr0 [] = [] from rfl, unw_nil, unw_nil, unw_nil]
  rfl
theorem bts_nil : bts [] = [] := by
  unfold bts
  rw [TXT_nil]
  rfl
theorem wds_nil : wds [] = [] := by
  unfold wds
  rw [bts_nil, wsp, if_neg (by omega)]
theorem mp_init {σ0 σ : AH} {fs : List Value} {S : Nat} (h : NI σ0 σ fs csF S) (hf : fs = mfl maI (fun _ => 0)) : MP (g00, (fun k => σ.1[k]?), 71, S, maI, 1024) (fun _ => 0) (fun _ _ => 0) σ := by
  obtain ⟨h1, h2, h3, h4, h5⟩ := h
  refine ⟨by rw [h1, hf], fun f hf => ?_, fun f hf => ⟨g00_z (by have := maI_ge f; show 31 ≤ maI f; omega), by have := maI_ge f; show maI f ≠ 31; omega⟩, g00_z (Nat.le_refl _), fun f f' a b e => maI_inj f (isA_lt a) f' (isA_lt b) a b e, fun k _ => rfl, h2, h5, by show 1024 < 2 ^ 30; decide, fun k hk => by have := g00_lt hk; show k < 71; omega⟩
  exact h3 _ _ (csF_at f (isA_lt hf) hf)
theorem mr_init {X : MX} (hC : xC X = 1024) : MR A00 X (fun _ => 0) (fun _ _ => 0) := by
  refine ⟨rfl, rfl, rfl, rfl, B3.nil, ⟨fun i _ => ?_, fun i _ => ?_, fun i _ => rfl, fun i x hx => ?_⟩, fun i r hr => ?_, fun i x hx => ?_, rfl, ?_, ?_, ?_, fun k x hk => ?_⟩
  · show KT _ i []
    unfold KT
    rw [wds_nil, bts_nil]
    refine ⟨rfl, fun k c hk => ?_, fun w p hp => ?_⟩
    · cases hk
    · cases hp
  · show KM _ i (0, [], 0, 2, 1, 0)
    refine ⟨rfl, fun q => ?_, fun q => ?_, fun q => ?_, fun q => ?_⟩
    · have q : (0 : Nat) = 1 := q
      omega
    · have q : (0 : Nat) = 2 ∨ (0 : Nat) = 4 := q
      omega
    · have q : (0 : Nat) = 3 ∨ (0 : Nat) = 4 := q
      omega
    · have q : (0 : Nat) = 4 := q
      omega
  · have hx : ([] : List Lt)[i]? = some x := hx
    cases hx
  · have hr : ([] : List Rl)[i]? = some r := hr
    cases hr
  · have hx : ([] : List Lt)[i]? = some x := hx
    cases hx
  · exact Nat.zero_le _
  · rw [hC]
    decide
  · rw [hC]
    decide
  · have hk : ([] : List T3)[k]? = some x := hk
    cases hk
theorem stw_init : StW A00 := by
  refine ⟨Nat.zero_le _, Nat.zero_le _, fun _ => Nat.zero_le _, fun _ => ?_, Nat.zero_le _, fun r hr => ?_, Nat.zero_le _, fun x hx => ?_, fun x hx => ?_, fun i j x y _ hx => ?_⟩
  · show KdW (0, [], 0, 2, 1, 0)
    refine ⟨?_, ?_, ?_, ?_, ?_, ?_, ?_, Nat.zero_le _, fun q => ?_⟩
    · show 0 ≤ 4; omega
    · show 0 < 8; omega
    · show 2 ≤ 2; omega
    · show 2 ≤ 8; omega
    · show 1 ≤ 1; omega
    · show 1 ≤ 50; omega
    · show 0 ≤ 30; omega
    · have q : (0 : Nat) = 1 := q
      omega
  · have hr : r ∈ ([] : List Rl) := hr
    cases hr
  · have hx : x ∈ ([] : List Lt) := hx
    cases hx
  · have hx : x ∈ ([] : List Lt) := hx
    cases hx
  have hx : ([] : List Lt)[i]? = some x := hx
  cases hx
/-- all but cell 0 stays -/
def Ka (σ σ' : AH) : Prop := (∀ k, 1 ≤ k → k < σ.1.length → σ'.1[k]? = σ.1[k]?) ∧ σ.1.length ≤ σ'.1.length
theorem Ka.tr {σ σ1 σ2 : AH} (h : Ka σ σ1) (k : Ka σ1 σ2) : Ka σ σ2 := ⟨fun a h1 h2 => (k.1 a h1 (by have := h.2; omega)).trans (h.1 a h1 h2), Nat.le_trans h.2 k.2⟩
theorem ka_u {σ σ' : AH} {e : va_E} (u : Up σ σ' 0 e) : Ka σ σ' := ⟨fun k h _ => u.2.1 k (by omega), by rw [u.2.2.1]; exact Nat.le_refl _⟩
theorem ka_n {σ σ' : AH} {e : va_E} {n : Nat} (u : Nw σ σ' e n) : Ka σ σ' := ⟨fun k _ h => u.2.1 k h, by rw [u.2.2.1]; omega⟩
theorem ka_o {σ σ' : AH} (h : ∀ k, k < σ.1.length → σ'.1[k]? = σ.1[k]?) (hl : σ.1.length ≤ σ'.1.length) : Ka σ σ' := ⟨fun k _ hk => h k hk, hl⟩
theorem Ka.at {σ σ' : AH} {k : Nat} {e : va_E} (h : Ka σ σ') (he : σ.1[k]? = some e) (hk : 1 ≤ k) : σ'.1[k]? = some e := by
  rw [h.1 k hk (List.getElem?_eq_some_iff.mp he).1]; exact he
theorem h5_init {σ : AH} {q : Nat} (h : σ.1[q]? = some (.inr (5, [.null, .int 0]))) (hl : σ.1.length = q + 1) : Hr (f5_init (some q)) σ (fun _ σ' => σ'.1.length = q + 2 ∧ σ'.2 = σ.2 + 21 ∧ (∀ k, k < q → σ'.1[k]? = σ.1[k]?) ∧ σ'.1[q]? = some (.inr (5, [.ref (q + 1), .int 0])) ∧ σ'.1[q + 1]? = some (rA5 5 21 (fun _ => none))) := by
  unfold f5_init
  refine (b_obj h).mpr ?_
  refine b_newR (m := 21) rfl (by decide) fun σ1 n1 => ?_
  rw [hl]
  refine b_putR (n1.old h) (by simp) fun σ2 u2 => ?_
  refine b_putI u2.1 (by simp) fun σ3 u3 => ?_
  have c1 := n1.1
  rw [hl] at c1
  exact hr_rt.mpr ⟨by rw [u3.2.2.1, u2.2.2.1, n1.2.2.1, hl], by rw [u3.2.2.2, u2.2.2.2, n1.2.2.2], fun k hk => by rw [u3.2.1 k (by omega), u2.2.1 k (by omega), n1.2.1 k (by omega)], u3.1, u3.ne (u2.ne c1 (by omega)) (by omega)⟩
theorem txt_nil {σ : AH} {q : Nat} (h : TB σ q 0 (fun _ => 0) (fun _ => 0) (fun _ => 0) 0 (fun _ => 0) (fun _ => 0) (fun _ => 0) 0) : CTx σ q 0 [] := by
  unfold CTx
  rw [TXT_nil, wds_nil, bts_nil]
  refine ⟨_, _, _, _, _, _, h, fun k x hk => ?_, fun k p hk => ?_, Nat.le_refl _, by decide⟩
  · cases hk
  · cases hk

theorem h7_fillA {σ : AH} {q : Nat} {f0 : Nat → Option Nat} {fs : List Value} (h0 : σ.1[0]? = some (.inr (7, fs))) (hfl : fs[3]? = some (.ref 2)) (ha : σ.1[2]? = some (rA5 2 8 f0)) (hq : ∃ ws, σ.1[q]? = some (.inr (6, ws))) (hqa : q ≠ 2) :
    Hr (fx (l7_init_134 (some 0) (some q)) FUEL 0) σ (fun _ σ' => ∃ f, Up σ σ' 2 (rA5 2 8 f) ∧ ∀ i, i < 8 → f i = some q) := by
  obtain ⟨ws, hq⟩ := hq
  refine hr_loop (fun z σ1 => ∃ (i : Nat) (f : Nat → Option Nat), z = nI i ∧ i ≤ 8 ∧ Up σ σ1 2 (rA5 2 8 f) ∧ ∀ j, j < i → f j = some q) (fun z => 100 - z.toNatClampNeg) ⟨0, f0, rfl, by omega, ⟨ha, fun _ _ => rfl, rfl, rfl⟩, fun j hj => by omega⟩ (by show 100 - _ < _; omega) ?_
  rintro rec z σ1 ⟨i, f, rfl, hi, u, hf⟩ ih
  unfold l7_init_134
  rw [show (8 : Int32) = nI 8 from rfl]
  refine b_ite (fun c1 => ?_) (fun c1 => ?_)
  · rw [nI_leI (by omega) (by omega)] at c1
    exact hr_rt.mpr ⟨f, u, fun j hj => hf j (by omega)⟩
  rw [nI_leI (by omega) (by omega)] at c1
  refine (b_getR (u.ne h0 (by decide)) hfl).mpr ?_
  refine b_stR u.1 rfl (by omega) (by decide) (Or.inr (rdO_some (u.ne hq hqa))) fun σ2 u2 => ?_
  refine ih _ _ ⟨i + 1, _, nI_1 i, by omega, u.tr u2, fun j hj => ?_⟩ ?_
  · by_cases e : j = i
    · simp [va_up, e]
    · simp only [va_up, if_neg e]
      exact hf j (by omega)
  · rw [nI_1, nI_clamp (by omega), nI_clamp (by omega)]; omega
theorem h7_fillB {σ : AH} {q : Nat} {f0 : Nat → Option Nat} {fs : List Value} (h0 : σ.1[0]? = some (.inr (7, fs))) (hfl : fs[4]? = some (.ref 3)) (ha : σ.1[3]? = some (rA5 3 8 f0)) (hq : ∃ ws, σ.1[q]? = some (.inr (1, ws))) (hqa : q ≠ 3) :
    Hr (fx (l7_init_169 (some 0) (some q)) FUEL 0) σ (fun _ σ' => ∃ f, Up σ σ' 3 (rA5 3 8 f) ∧ ∀ i, i < 8 → f i = some q) := by
  obtain ⟨ws, hq⟩ := hq
  refine hr_loop (fun z σ1 => ∃ (i : Nat) (f : Nat → Option Nat), z = nI i ∧ i ≤ 8 ∧ Up σ σ1 3 (rA5 3 8 f) ∧ ∀ j, j < i → f j = some q) (fun z => 100 - z.toNatClampNeg) ⟨0, f0, rfl, by omega, ⟨ha, fun _ _ => rfl, rfl, rfl⟩, fun j hj => by omega⟩ (by show 100 - _ < _; omega) ?_
  rintro rec z σ1 ⟨i, f, rfl, hi, u, hf⟩ ih
  unfold l7_init_169
  rw [show (8 : Int32) = nI 8 from rfl]
  refine b_ite (fun c1 => ?_) (fun c1 => ?_)
  · rw [nI_leI (by omega) (by omega)] at c1
    exact hr_rt.mpr ⟨f, u, fun j hj => hf j (by omega)⟩
  rw [nI_leI (by omega) (by omega)] at c1
  refine (b_getR (u.ne h0 (by decide)) hfl).mpr ?_
  refine b_stR u.1 rfl (by omega) (by decide) (Or.inr (rdO_some (u.ne hq hqa))) fun σ2 u2 => ?_
  refine ih _ _ ⟨i + 1, _, nI_1 i, by omega, u.tr u2, fun j hj => ?_⟩ ?_
  · by_cases e : j = i
    · simp [va_up, e]
    · simp only [va_up, if_neg e]
      exact hf j (by omega)
  · rw [nI_1, nI_clamp (by omega), nI_clamp (by omega)]; omega
theorem i7_init {σ : AH} (h : σ.1[0]? = some (.inr (7, [.int 0, .null, .int 0, .null, .null, .null, .null, .null, .int 0, .null, .null, .null, .null]))) (hl : σ.1.length = 1) :
    Hr (f7_init (some 0)) σ (fun _ σ' => Cls g00 (fun _ => 0) σ' A00 ∧ σ'.1.length = 31 ∧ σ'.2 ≤ σ.2 + 3000) := by
  unfold f7_init
  refine (b_obj h).mpr ?_
  refine b_putI h (by simp) fun σ1 u1 => ?_
  refine b_newA (m := 300) rfl (by decide) fun σ2 n2 => ?_
  have l1 : σ1.1.length = 1 := u1.2.2.1.trans hl
  rw [l1]
  refine b_putR (n2.old u1.1) (by simp) fun σ3 u3 => ?_
  refine b_putI u3.1 (by simp) fun σ4 u4 => ?_
  have l4 : σ4.1.length = 2 := by rw [u4.2.2.1, u3.2.2.1, n2.2.2.1, l1]
  have s4 : σ4.2 = σ.2 + 300 := by rw [u4.2.2.2, u3.2.2.2, n2.2.2.2, u1.2.2.2]
  have f1 : σ4.1[1]? = some (.inl (0, 300, .inl (fun _ => 0))) := by
    have := n2.1
    rw [l1] at this
    exact ((ka_u u3).tr (ka_u u4)).at this (by decide)
  refine b_newR (m := 8) rfl (by decide) fun σ5 n5 => ?_
  rw [l4]
  refine b_putR (n5.old u4.1) (by simp) fun σ6 u6 => ?_
  refine b_newR (m := 8) rfl (by decide) fun σ7 n7 => ?_
  have l6 : σ6.1.length = 3 := by rw [u6.2.2.1, n5.2.2.1, l4]
  rw [l6]
  refine b_putR (n7.old u6.1) (by simp) fun σ8 u8 => ?_
  refine b_newA (m := 800) rfl (by decide) fun σ9 n9 => ?_
  have l8 : σ8.1.length = 4 := by rw [u8.2.2.1, n7.2.2.1, l6]
  rw [l8]
  refine b_putR (n9.old u8.1) (by simp) fun σ10 u10 => ?_
  have l10 : σ10.1.length = 5 := by rw [u10.2.2.1, n9.2.2.1, l8]
  have s10 : σ10.2 = σ4.2 + 816 := by rw [u10.2.2.2, n9.2.2.2, u8.2.2.2, n7.2.2.2, u6.2.2.2, n5.2.2.2]
  have f2 : σ10.1[2]? = some (rA5 2 8 (fun _ => none)) := by
    have := n5.1
    rw [l4] at this
    exact (((((ka_u u6).tr (ka_n n7)).tr (ka_u u8)).tr (ka_n n9)).tr (ka_u u10)).at this (by decide)
  have f3 : σ10.1[3]? = some (rA5 3 8 (fun _ => none)) := by
    have := n7.1
    rw [l6] at this
    exact (((ka_u u8).tr (ka_n n9)).tr (ka_u u10)).at this (by decide)
  have f4 : σ10.1[4]? = some (.inl (1, 800, .inl (fun _ => 0))) := by
    have := n9.1
    rw [l8] at this
    exact (ka_u u10).at this (by decide)
  have K10 : Ka σ4 σ10 := ((((((ka_n n5).tr (ka_u u6)).tr (ka_n n7)).tr (ka_u u8)).tr (ka_n n9)).tr (ka_u u10))
  have f1 := K10.at f1 (by decide)
  have o10 := u10.1
  clear u1 n2 u3 u4 n5 u6 n7 u8 n9 u10 K10
  refine b_newO fun σ11 n11 => ?_
  rw [l10]
  have c11 := n11.1
  rw [l10] at c11
  refine (b_obj c11).mpr ?_
  refine b_hr (h5_init c11 (by rw [n11.2.2.1, l10])) ?_
  rintro _ σ12 ⟨l12, s12, o12, r12, q12⟩
  have z12 := o10
  rw [← n11.2.1 0 (by omega), ← o12 0 (by omega)] at z12
  have K12 : Ka σ10 σ12 := ⟨fun k _ hk => by rw [o12 k (by omega), n11.2.1 k hk], by omega⟩
  refine b_putR z12 (by simp) fun σ13 u13 => ?_
  refine b_newR (m := 60) rfl (by decide) fun σ14 n14 => ?_
  have l13 : σ13.1.length = 7 := u13.2.2.1.trans l12
  rw [l13]
  refine b_putR (n14.old u13.1) (by simp) fun σ15 u15 => ?_
  refine b_putI u15.1 (by simp) fun σ16 u16 => ?_
  have l16 : σ16.1.length = 8 := by rw [u16.2.2.1, u15.2.2.1, n14.2.2.1, l13]
  have s16 : σ16.2 = σ10.2 + 83 := by
    have := n11.2.2.2
    simp only [List.length_cons, List.length_nil] at this
    rw [u16.2.2.2, u15.2.2.2, n14.2.2.2, u13.2.2.2, s12, this]
  have K16 : Ka σ12 σ16 := (((ka_u u13).tr (ka_n n14)).tr (ka_u u15)).tr (ka_u u16)
  have f7 : σ16.1[7]? = some (rA5 4 60 (fun _ => none)) := by
    have := n14.1
    rw [l13] at this
    exact ((ka_u u15).tr (ka_u u16)).at this (by decide)
  have f5 := K16.at r12 (by decide)
  have f6 := K16.at q12 (by decide)
  have K := K12.tr K16
  have f1 := K.at f1 (by decide)
  have f2 := K.at f2 (by decide)
  have f3 := K.at f3 (by decide)
  have f4 := K.at f4 (by decide)
  have o16 := u16.1
  clear n11 c11 s12 o12 r12 q12 z12 K12 u13 n14 u15 u16 K16 K o10
  refine b_newO fun σ17 n17 => ?_
  rw [l16]
  have c17 := n17.1
  rw [l16] at c17
  refine (b_obj c17).mpr ?_
  refine b_hr (h6_init (q := 8) (cap := 300) c17 (by rw [n17.2.2.1, l16]) (by decide)) ?_
  rintro _ σ18 ⟨l18, s18, o18, T18⟩
  have z18 := o16
  rw [← n17.2.1 0 (by omega), ← o18 0 (by omega)] at z18
  have K18 : Ka σ16 σ18 := ⟨fun k _ hk => by rw [o18 k (by omega), n17.2.1 k hk], by omega⟩
  refine b_putR z18 (by simp) fun σ19 u19 => ?_
  have l19 : σ19.1.length = 15 := u19.2.2.1.trans l18
  refine b_newO fun σ20 n20 => ?_
  rw [l19]
  have c20 := n20.1
  rw [l19] at c20
  refine (b_obj c20).mpr ?_
  refine b_hr (h0_init (q := 15) (cap := 0) c20 (by rw [n20.2.2.1, l19]) (by decide)) ?_
  rintro _ σ21 ⟨l21, s21, o21, F21⟩
  have z21 := u19.1
  rw [← n20.2.1 0 (by omega), ← o21 0 (by omega)] at z21
  refine b_putR z21 (by simp) fun σ22 u22 => ?_
  have l22 : σ22.1.length = 20 := u22.2.2.1.trans l21
  refine b_newO fun σ23 n23 => ?_
  rw [l22]
  have c23 := n23.1
  rw [l22] at c23
  refine (b_obj c23).mpr ?_
  refine b_hr (h3_init c23) ?_
  rintro _ σ24 ⟨S24, P24⟩
  have l24 : σ24.1.length = 21 := by rw [S24.2.1, n23.2.2.1, l22]
  have z24 := u22.1
  rw [← n23.2.1 0 (by omega), ← S24.1 0 (by omega)] at z24
  refine b_putR z24 (by simp) fun σ25 u25 => ?_
  have l25 : σ25.1.length = 21 := u25.2.2.1.trans l24
  refine b_newO fun σ26 n26 => ?_
  rw [l25]
  have c26 := n26.1
  rw [l25] at c26
  refine (b_obj c26).mpr ?_
  refine b_hr (h5_init c26 (by rw [n26.2.2.1, l25])) ?_
  rintro _ σ27 ⟨l27, s27, o27, r27, q27⟩
  have z27 := u25.1
  rw [← n26.2.1 0 (by omega), ← o27 0 (by omega)] at z27
  refine b_putR z27 (by simp) fun σ28 u28 => ?_
  have l28 : σ28.1.length = 23 := u28.2.2.1.trans l27
  refine b_newO fun σ29 n29 => ?_
  rw [l28]
  have c29 := n29.1
  rw [l28] at c29
  refine (b_obj c29).mpr ?_
  refine b_hr (h6_init (q := 23) (cap := 0) c29 (by rw [n29.2.2.1, l28]) (by decide)) ?_
  rintro _ σ30 ⟨l30, s30, o30, T30⟩
  have z30 := u28.1
  rw [← n29.2.1 0 (by omega), ← o30 0 (by omega)] at z30
  have K28 : Ka σ27 σ28 := ka_u u28
  have K30 : Ka σ28 σ30 := ⟨fun k _ hk => by rw [o30 k (by omega), n29.2.1 k hk], by omega⟩
  have K27 : Ka σ25 σ27 := ⟨fun k _ hk => by rw [o27 k (by omega), n26.2.1 k hk], by omega⟩
  have K24 : Ka σ22 σ24 := ⟨fun k _ hk => by rw [S24.1 k (by omega), n23.2.1 k hk], by omega⟩
  have K21 : Ka σ19 σ21 := ⟨fun k _ hk => by rw [o21 k (by omega), n20.2.1 k hk], by omega⟩
  have KA : Ka σ21 σ30 := ((((((ka_u u22).tr K24).tr (ka_u u25)).tr K27).tr K28).tr K30)
  have KB : Ka σ18 σ30 := ((ka_u u19).tr K21).tr KA
  have KC : Ka σ16 σ30 := K18.tr KB
  have KD : Ka σ24 σ30 := (((ka_u u25).tr K27).tr K28).tr K30
  have KE : Ka σ27 σ30 := K28.tr K30
  have f1 := KC.at f1 (by decide)
  have f2 := KC.at f2 (by decide)
  have f3 := KC.at f3 (by decide)
  have f4 := KC.at f4 (by decide)
  have f5 := KC.at f5 (by decide)
  have f6 := KC.at f6 (by decide)
  have f7 := KC.at f7 (by decide)
  have f21 := KE.at r27 (by decide)
  have f22 := KE.at q27 (by decide)
  have T8 : TB σ30 8 300 (fun _ => 0) (fun _ => 0) (fun _ => 0) 0 (fun _ => 0) (fun _ => 0) (fun _ => 0) 0 := T18.frame (fun k a b => KB.1 k (by omega) (by omega))
  have F15 : FB σ30 15 0 [] := F21.frame (fun k a b => KA.1 k (by omega) (by omega))
  have P20 : PB σ30 20 sEmp := P24.frame (KD.1 20 (by decide) (by omega))
  have s30' : σ30.2 ≤ σ.2 + 2700 := by
    have e1 := n17.2.2.2
    have e2 := n20.2.2.2
    have e3 := n23.2.2.2
    have e4 := n26.2.2.2
    have e5 := n29.2.2.2
    simp only [List.length_cons, List.length_nil] at e1 e2 e3 e4 e5
    have e6 := u19.2.2.2
    have e7 := u22.2.2.2
    have e8 := S24.2.2
    have e9 := u25.2.2.2
    have e10 := u28.2.2.2
    omega
  clear n17 c17 s18 o18 T18 z18 K18 u19 n20 c20 s21 o21 F21 z21 u22 n23 c23 S24 P24 z24 u25 n26 c26 s27 o27 r27 q27 z27 u28 n29 c29 s30 o30 K28 K30 K27 K24 K21 KA KB KC KD KE o16
  refine b_hr (h7_fillA z30 rfl f2 ⟨_, T30.1⟩ (by decide)) ?_
  rintro _ σ31 ⟨fA, u31, hfA⟩
  have l31 : σ31.1.length = 30 := u31.2.2.1.trans l30
  refine b_newO fun σ32 n32 => ?_
  rw [l31]
  have c32 := n32.1
  rw [l31] at c32
  refine (b_obj c32).mpr ?_
  refine b_hr (h1_init c32) ?_
  rintro _ σ33 u33
  have O33 : ∀ k, k < 30 → k ≠ 2 → σ33.1[k]? = σ30.1[k]? := fun k hk hne => by rw [u33.2.1 k (by omega), n32.2.1 k (by omega), u31.2.1 k hne]
  have l33 : σ33.1.length = 31 := by rw [u33.2.2.1, n32.2.2.1, l31]
  have z33 := z30
  rw [← O33 0 (by decide) (by decide)] at z33
  have f3' := f3
  rw [← O33 3 (by decide) (by decide)] at f3'
  refine b_hr (h7_fillB z33 rfl f3' ⟨_, u33.1⟩ (by decide)) ?_
  rintro _ σ34 ⟨fB, u34, hfB⟩
  have O34 : ∀ k, k < 30 → k ≠ 2 → k ≠ 3 → σ34.1[k]? = σ30.1[k]? := fun k hk h2 h3 => (u34.2.1 k h3).trans (O33 k hk h2)
  have l34 : σ34.1.length = 31 := u34.2.2.1.trans l33
  have T23 : TB σ34 23 0 (fun _ => 0) (fun _ => 0) (fun _ => 0) 0 (fun _ => 0) (fun _ => 0) (fun _ => 0) 0 := T30.frame (fun k a b => O34 k (by omega) (by omega) (by omega))
  have tg1 : ∀ k, 23 ≤ k → k < 31 → g00 k = 1 := fun k a b => by
    unfold g00
    rw [if_neg (by omega), if_pos b]
  refine hr_rt.mpr ⟨⟨⟨fun k hk => by rw [l34]; exact g00_lt hk, fun k hk => if_pos hk⟩, ?_, ⟨_, by rw [O34 1 (by decide) (by decide) (by decide)]; exact f1, B3.nil⟩, ⟨fA, ?_, fun i hi => ⟨23, hfA i hi, fun k a b => tg1 k a (by omega), 0, txt_nil T23⟩⟩, ⟨fB, u34.1, fun i hi => ⟨30, hfB i hi, tg1 30 (by decide) (by decide), none, ?_, fun q => ?_⟩⟩, ⟨_, by rw [O34 4 (by decide) (by decide) (by decide)]; exact f4, fun i hi => rfl⟩, ⟨_, by rw [O34 5 (by decide) (by decide) (by decide)]; exact f5, by rw [O34 6 (by decide) (by decide) (by decide)]; exact f6, Nat.zero_le _, fun i r hr => ?_⟩, ⟨_, by rw [O34 7 (by decide) (by decide) (by decide)]; exact f7, fun i hi => ?_⟩, ⟨⟨_, _, _, _, _, _, _, _, T8.frame (fun k a b => O34 k (by omega) (by omega) (by omega))⟩, ⟨[], F15.frame (fun k a b => O34 k (by omega) (by omega) (by omega))⟩, ⟨sEmp, P20.frame (O34 20 (by decide) (by decide) (by decide))⟩, ⟨_, _, by rw [O34 21 (by decide) (by decide) (by decide)]; exact f21, by rw [O34 22 (by decide) (by decide) (by decide)]; exact f22⟩⟩, fun i x hx => ?_⟩, l34, ?_⟩
  · rw [O34 0 (by decide) (by decide) (by decide)]
    exact z30
  · rw [u34.2.1 2 (by decide), u33.2.1 2 (by omega), n32.2.1 2 (by omega)]
    exact u31.1
  · rw [u34.2.1 30 (by decide), u33.1]
    rfl
  · have q : (0 : Nat) = 1 := q
    omega
  · have hr : ([] : List Rl)[i]? = some r := hr
    cases hr
  · have hi : i < 0 := hi
    omega
  · have hx : ([] : List Lt)[i]? = some x := hx
    cases hx
  · have e1 := n32.2.2.2
    simp only [List.length_cons, List.length_nil] at e1
    rw [u34.2.2.2, u33.2.2.2, e1, u31.2.2.2]
    omega
