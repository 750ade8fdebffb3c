/-! ===== rows that make cells; calls, returns, a method's entry ===== -/
section ROWS
variable {X : Cx} {M : MI} {pc : Nat} {L : List (Option Value)} {S : List Value} {σ : AH} {β : Type} {QQ : β → AH → Prop} {idx ci k t : Nat} {r : Option Nat}
theorem at_newO {fs : List Value} {f : Option Nat → Cm β} (ok : Ok X M) (g : NW M.1.cls idx ci fs) (d : decode M.2.1 pc = .ok (.new idx, 3)) (h0 : Hr (bn (oNewO ci fs) f) σ QQ) (kk : ∀ v σ, Hr (f v) σ QQ → AT X M (pc + 3) L (va_rf v :: S) σ) : AT X M pc L S σ := by
  obtain ⟨v, σ', e, h⟩ := hr_bn.mp h0
  cases e
  have kk := kk _ _ h
  obtain ⟨p, l, e, R, s, m, args, below, meth, c, D, aC, b, n0, z0, N, Z, Q⟩ := X
  obtain ⟨hx, hb, hr, hml, hown, hts, hlk, hnm, hK, hR⟩ := ok
  obtain ⟨C, T, N', ty0, hc, hin, hty, w1, w2, w3, hlen, hdef, htr⟩ := g
  have kk1 := kk.1
  simp only [List.length_append, List.length_cons, List.length_nil] at kk1
  refine ⟨⟨by omega, by omega⟩, fun H locs ls g1 g2 hP hS hl => ?_⟩
  obtain ⟨-, -, hR3, hR4, hs0⟩ := hR
  refine W_sz fun hz => ?_
  have hz1 : H.size = b + σ.1.length := wsO_sz hP hS hs0 g1 hz
  have hA : ∀ q, s.heap.size ≤ q → b ≤ q := fun q h => by omega
  have hfs : fs.map (trV b) = fs := (List.map_congr_left (fun v hv => htr v hv b)).trans (List.map_id' fs)
  refine va_new (ci := ci) (fs := fs) hx hb hts hin ty0 hty hown (hts _ w1) (hts _ w2) (hts _ w3) hK.1 hP wsO_D hS hA hc hdef (by omega) (by omega) d fun q H1 hP1 hD1 hS1 => ?_
  refine W_sz fun hz2 => ?_
  have hq : q = b + σ.1.length := wsO_new hP1 hD1 (by omega)
  subst hq
  have es : wsO b aC σ.1 ++ [(b + σ.1.length, .inr (ci, fs))] = wsO b aC (σ.1 ++ [.inr (ci, fs)]) := by
    rw [← wsO_app]; simp only [trE, hfs]
  rw [es] at hP1
  have := kk.2 H1 locs ls (by simp only [List.length_append, List.length_cons, List.length_nil]; omega) (by simp only; omega) hP1 hS1 hl
  simp only [List.length_append, List.length_cons, List.length_nil] at this
  rw [show σ.1.length + (0 + 1) - n0 = σ.1.length - n0 + 1 by omega, show σ.2 + fs.length - z0 = σ.2 - z0 + N' by omega] at this
  exact this
theorem at_newA {atype : ArrayType} {n : Int32} {f : Option Nat → Cm β} (hty : newarray.typeOf atype = aty t) (h01 : t = 0 ∨ t = 1) (hw : Cond.arrayClass (newarray.typeOf atype) ∈ gw) (ok : Ok X M) (d : decode M.2.1 pc = .ok (.newarray atype, 2)) (h0 : Hr (bn (oNewA t n) f) σ QQ) (kk : ∀ v σ, Hr (f v) σ QQ → AT X M (pc + 2) L (va_rf v :: S) σ) : AT X M pc L (.int n :: S) σ := by
  obtain ⟨v, σ', e, h⟩ := hr_bn.mp h0
  obtain ⟨c1, c2, rfl, rfl⟩ := newA_inv e
  have kk := kk _ _ h
  obtain ⟨p, l, e, R, s, m, args, below, meth, c, D, aC, b, n0, z0, N, Z, Q⟩ := X
  obtain ⟨hx, hb, hr, hml, hown, hts, hlk, hnm, hK, hR⟩ := ok
  have kk1 := kk.1
  simp only [List.length_append, List.length_cons, List.length_nil] at kk1
  refine ⟨⟨by omega, by omega⟩, fun H locs ls g1 g2 hP hS hl => ?_⟩
  obtain ⟨-, -, hR3, hR4, hs0⟩ := hR
  refine W_sz fun hz => ?_
  have hz1 : H.size = b + σ.1.length := wsO_sz hP hS hs0 g1 hz
  have hA : ∀ q, s.heap.size ≤ q → b ≤ q := fun q h => by omega
  have hcb : n.toNatClampNeg * componentBytes (aty t) ≤ 536870912 := by
    rcases h01 with rfl | rfl
    · show n.toNatClampNeg * 4 ≤ _; omega
    · show n.toNatClampNeg * 1 ≤ _; omega
  have hcell : ∀ cA : ClassId, vp_cell cA (n.toNatClampNeg, .inl (fun _ => 0)) = arrV cA n.toNatClampNeg (fun _ => defaultValue (aty t)) := by
    intro cA
    rcases h01 with rfl | rfl <;> rfl
  refine va_newa hx hb (hts _ hw) hty hK.1 hP wsO_D hS hA hcell c1 rfl hcb (by omega) (by omega) d fun q cA H1 hK1 hP1 hD1 hS1 => ?_
  refine W_sz fun hz2 => ?_
  have hq : q = b + σ.1.length := wsO_new hP1 hD1 (by omega)
  subst hq
  have hcA : cA = aC t := by
    have e1 := (hK1.2 7 (cA, aty t) rfl).2
    have e2 := (hK.1.2 t _ (tysO_at (by omega))).2
    rcases h01 with rfl | rfl
    · exact Option.some.inj ((show s.vm.findClass ("[" ++ FieldType.int.toString) = some cA from e1).symm.trans e2)
    · exact Option.some.inj ((show s.vm.findClass ("[" ++ FieldType.boolean.toString) = some cA from e1).symm.trans e2)
  subst hcA
  have es : wsO b aC σ.1 ++ [(b + σ.1.length, .inl (aC t, n.toNatClampNeg, .inl (fun _ => 0)))] = wsO b aC (σ.1 ++ [.inl (t, n.toNatClampNeg, .inl (fun _ => 0))]) := by
    rw [← wsO_app]; rfl
  rw [es] at hP1
  have := kk.2 H1 locs ls (by simp only [List.length_append, List.length_cons, List.length_nil]; omega) (by simp only; omega) hP1 hS1 hl
  simp only [List.length_append, List.length_cons, List.length_nil] at this
  rw [show σ.1.length + (0 + 1) - n0 = σ.1.length - n0 + 1 by omega, show σ.2 + n.toNatClampNeg - z0 = σ.2 - z0 + n.toNatClampNeg by omega] at this
  exact this
theorem at_newR {C : String} {n : Int32} {f : Option Nat → Cm β} (hty : aty t = .object C) (ht7 : t < 7) (w1 : Cond.classLink M.1.cls idx C ∈ gw) (w2 : Cond.arrayOver (.object C) ∈ nwl) (ok : Ok X M) (d : decode M.2.1 pc = .ok (.anewarray idx, 3)) (h0 : Hr (bn (oNewR t n) f) σ QQ) (kk : ∀ v σ, Hr (f v) σ QQ → AT X M (pc + 3) L (va_rf v :: S) σ) : AT X M pc L (.int n :: S) σ := by
  obtain ⟨v, σ', e, h⟩ := hr_bn.mp h0
  obtain ⟨c1, c2, rfl, rfl⟩ := newR_inv e
  have kk := kk _ _ h
  obtain ⟨p, l, e, R, s, m, args, below, meth, c, D, aC, b, n0, z0, N, Z, Q⟩ := X
  obtain ⟨hx, hb, hr, hml, hown, hts, hlk, hnm, hK, hR⟩ := ok
  have kk1 := kk.1
  simp only [List.length_append, List.length_cons, List.length_nil] at kk1
  refine ⟨⟨by omega, by omega⟩, fun H locs ls g1 g2 hP hS hl => ?_⟩
  obtain ⟨-, -, hR3, hR4, hs0⟩ := hR
  refine W_sz fun hz => ?_
  have hz1 : H.size = b + σ.1.length := wsO_sz hP hS hs0 g1 hz
  have hA : ∀ q, s.heap.size ≤ q → b ≤ q := fun q h => by omega
  refine va_newq hx hb hown (hts _ w1) (hK.2 _ w2) hK.1 hP wsO_D hS hA c1 rfl (by omega) (by omega) (by omega) d fun q cA H1 hK1 hP1 hD1 hS1 => ?_
  refine W_sz fun hz2 => ?_
  have hq : q = b + σ.1.length := wsO_new hP1 hD1 (by omega)
  subst hq
  have hcA : cA = aC t := by
    have e1 := (hK1.2 7 (cA, .object C) rfl).2
    have e2 := (hK.1.2 t _ (tysO_at ht7)).2
    rw [hty] at e2
    obtain ⟨_, _, _, _, _, f1⟩ := e1
    obtain ⟨_, _, _, _, _, f2⟩ := e2
    exact Option.some.inj (f1.symm.trans f2)
  subst hcA
  have es : wsO b aC σ.1 ++ [(b + σ.1.length, .inl (aC t, n.toNatClampNeg, .inr (.inr (.inr (.inr (fun _ => none))))))] = wsO b aC (σ.1 ++ [.inl (t, n.toNatClampNeg, .inr (.inr (.inr (.inr (fun _ => none)))))]) := by
    rw [← wsO_app]; rfl
  rw [es] at hP1
  have := kk.2 H1 locs ls (by simp only [List.length_append, List.length_cons, List.length_nil]; omega) (by simp only; omega) hP1 hS1 hl
  simp only [List.length_append, List.length_cons, List.length_nil] at this
  rw [show σ.1.length + (0 + 1) - n0 = σ.1.length - n0 + 1 by omega, show σ.2 + n.toNatClampNeg - z0 = σ.2 - z0 + n.toNatClampNeg by omega] at this
  exact this
theorem at_clone {f : Option Nat → Cm β} (w1 : Cond.methodLink M.1.cls idx ⟨"[I", "clone", "()Ljava/lang/Object;"⟩ ∈ gw) (w2 : Cond.sameMethod "[I" "java/lang/Object" "clone" "()Ljava/lang/Object;" ∈ gw) (w3 : Cond.native ⟨"java/lang/Object", "clone", "()Ljava/lang/Object;"⟩ ∈ gw) (w4 : Cond.instanceMethod ⟨"java/lang/Object", "clone", "()Ljava/lang/Object;"⟩ ∈ gw) (w5 : Cond.selects "[I" ⟨"[I", "clone", "()Ljava/lang/Object;"⟩ ⟨"java/lang/Object", "clone", "()Ljava/lang/Object;"⟩ ∈ gw) (w6 : Cond.castable "[I" "java/lang/Cloneable" ∈ nwl)
    (hf : 1 ≤ M.2.2.2.2.1) (hlo : (S.map fun v => v.category).sum + 14 ≤ M.2.2.2.2.2) (ok : Ok X M) (d : decode M.2.1 pc = .ok (.invokevirtual idx, 3)) (h0 : Hr (bn (oClone r) f) σ QQ) (kk : ∀ v σ, Hr (f v) σ QQ → AT X M (pc + 3) L (va_rf v :: S) σ) : AT X M pc L (va_rf r :: S) σ := by
  obtain ⟨v, σ', e, h⟩ := hr_bn.mp h0
  obtain ⟨a, n, g, rfl, h1, rfl, rfl⟩ := clone_inv e
  have kk := kk _ _ h
  obtain ⟨p, l, e, R, s, m, args, below, meth, c, D, aC, b, n0, z0, N, Z, Q⟩ := X
  obtain ⟨hx, hb, hr, hml, hown, hts, hlk, hnm, hK, hR⟩ := ok
  have kk1 := kk.1
  simp only [List.length_append, List.length_cons, List.length_nil] at kk1
  refine ⟨⟨by omega, by omega⟩, fun H locs ls g1 g2 hP hS hl => ?_⟩
  obtain ⟨hR1, hR2, hR3, hR4, hs0⟩ := hR
  refine W_sz fun hz => ?_
  have hz1 : H.size = b + σ.1.length := wsO_sz hP hS hs0 g1 hz
  have hA : ∀ q, s.heap.size ≤ q → b ≤ q := fun q h => by omega
  have hnmI : s.vm.findClass "[I" = some (aC 0) := by
    have e2 := (hK.1.2 0 _ rfl).2
    have e3 : "[" ++ FieldType.int.toString = "[I" := by decide +kernel
    rw [← e3]
    exact e2
  have hfit : ∀ (i : Nat) (v : Value), (vp_cell (aC 0) (n, .inl g)).slots[i]? = some v → fits .int v = true := by
    intro i v hv
    have hv : (arrV (aC 0) n (fun j => .int (g j))).slots[i]? = some v := hv
    have hi : i < n := by
      have := (Array.getElem?_eq_some_iff.mp hv).1
      rwa [arrV_size] at this
    rw [arrV_read _ _ hi] at hv
    cases hv
    rfl
  refine va_clone (ad := "[I") (ty := .int) hx hb (by rw [hml]; exact hl.1.symm) hown (hts _ w1) (hts _ w2) (hts _ w3) (hts _ w4) (hts _ w5) (hK.2 _ w6) hK.1 hP wsO_D hS hA a 0 (wsO_get (b := b) (aC := aC) h1) rfl hnmI hfit (by omega) (by rw [trS_cat]; omega) (by omega) (by show σ.2 - z0 + n ≤ _; omega) d fun q H1 hK1 hP1 hD1 hS1 => ?_
  refine W_sz fun hz2 => ?_
  have hq : q = b + σ.1.length := wsO_new hP1 hD1 (by omega)
  subst hq
  have es : wsO b aC σ.1 ++ [(b + σ.1.length, .inl (aC 0, n, .inl g))] = wsO b aC (σ.1 ++ [.inl (0, n, .inl g)]) := by
    rw [← wsO_app]; rfl
  have hP2 : va_P D vwCl (wsO b aC (σ.1 ++ [.inl (0, n, .inl g)])) H1 := es ▸ hP1
  have := kk.2 H1 locs ls (by simp only [List.length_append, List.length_cons, List.length_nil]; omega) (by simp only; omega) hP2 hS1 hl
  simp only [List.length_append, List.length_cons, List.length_nil] at this
  rw [show σ.1.length + (0 + 1) - n0 = σ.1.length - n0 + 1 by omega, show σ.2 + n - z0 = σ.2 - z0 + n by omega] at this
  exact this
theorem at_copy {r' : Option Nat} {sp dp n : Int32} {f : Unit → Cm β} (w1 : Cond.methodLink M.1.cls idx arraycopyName ∈ gw) (w2 : Cond.native arraycopyName ∈ gw) (w3 : Cond.static arraycopyName ∈ gw) (w4 : Cond.initialized "java/lang/System" ∈ gw)
    (hf : 1 ≤ M.2.2.2.2.1) (hlo : (S.map fun v => v.category).sum + (nativeFrameWords "java/lang/System" "arraycopy" 5 + 11) ≤ M.2.2.2.2.2) (ok : Ok X M) (d : decode M.2.1 pc = .ok (.invokestatic idx, 3)) (h0 : Hr (bn (oCopy r sp r' dp n) f) σ QQ) (kk : ∀ σ, Hr (f ()) σ QQ → AT X M (pc + 3) L S σ) : AT X M pc L (.int n :: .int dp :: va_rf r' :: .int sp :: va_rf r :: S) σ := by
  obtain ⟨v, σ', e, h⟩ := hr_bn.mp h0
  obtain ⟨a0, a, n0', n1', f0, g, rfl, rfl, h1, h2, c1, c2, c3, c4, c5, rfl⟩ := copy_inv e
  have kk := kk _ h
  obtain ⟨p, l, e, R, s, m, args, below, meth, c, D, aC, b, n0, z0, N, Z, Q⟩ := X
  obtain ⟨hx, hb, hr, hml, hown, hts, hlk, hnm, hK, hR⟩ := ok
  have kk1 := kk.1
  simp only [List.length_set] at kk1
  refine ⟨kk1, fun H locs ls g1 g2 hP hS hl => ?_⟩
  obtain ⟨hR1, hR2, hR3, hR4, hs0⟩ := hR
  refine va_copyi (ty := .int) hx hb (by rw [hml]; exact hl.1.symm) hown (hts _ w1) (hts _ w2) (hts _ w3) (hts _ w4) hK.1 hP wsO_D hS a0 a 0 0 (wsO_get (b := b) (aC := aC) h1) (wsO_get (b := b) (aC := aC) h2) rfl rfl rfl c1 c2 c3 c4 c5 (fun _ _ => rfl) (by omega) (by rw [trS_cat]; omega) d fun H1 locs1 hP1 hD1 hS1 => ?_
  have es : (wsO b aC σ.1).set a (b + a, .inl (aC 0, n1', .inl (va_cpy f0 g sp.toNatClampNeg dp.toNatClampNeg n.toNatClampNeg))) = wsO b aC (σ.1.set a (.inl (0, n1', .inl (va_cpy f0 g sp.toNatClampNeg dp.toNatClampNeg n.toNatClampNeg)))) := by
    rw [← wsO_set]; rfl
  rw [es] at hP1
  have := kk.2 H1 locs1 ls (by simpa using g1) g2 hP1 hS1 hl
  simpa using this
theorem at_mmax {x y : Int32} (w1 : Cond.methodLink M.1.cls idx Lib.Math.max.name ∈ gw) (w2 : Cond.static Lib.Math.max.name ∈ gw) (w3 : Cond.initialized "java/lang/Math" ∈ gw) (w4 : Cond.code Lib.Math.max.name Lib.Math.max.code 2 (some .int) ∈ gw)
    (hf : 1 ≤ M.2.2.2.2.1) (hlo : (S.map fun v => v.category).sum + 13 ≤ M.2.2.2.2.2) (ok : Ok X M) (d : decode M.2.1 pc = .ok (.invokestatic idx, 3)) (kk : AT X M (pc + 3) L (.int (jmax x y) :: S) σ) : AT X M pc L (.int y :: .int x :: S) σ := by
  obtain ⟨p, l, e, R, s, m, args, below, meth, c, D, aC, b, n0, z0, N, Z, Q⟩ := X
  obtain ⟨hx, hb, hr, hml, hown, hts, hlk, hnm, hK, hR⟩ := ok
  have kk1 := kk.1
  refine ⟨kk1, fun H locs ls g1 g2 hP hS hl => ?_⟩
  obtain ⟨hR1, hR2, hR3, hR4, hs0⟩ := hR
  exact va_mmax hx hb (by rw [hml]; exact hl.1.symm) hown (hts _ w1) (hts _ w2) (hts _ w3) (hts _ w4) (by omega) (by rw [trS_cat]; omega) (by omega) (by omega) d (kk.2 H locs ls g1 g2 hP hS hl)
theorem at_mmin {x y : Int32} (w1 : Cond.methodLink M.1.cls idx Lib.Math.min.name ∈ gw) (w2 : Cond.static Lib.Math.min.name ∈ gw) (w3 : Cond.initialized "java/lang/Math" ∈ gw) (w4 : Cond.code Lib.Math.min.name Lib.Math.min.code 2 (some .int) ∈ gw)
    (hf : 1 ≤ M.2.2.2.2.1) (hlo : (S.map fun v => v.category).sum + 13 ≤ M.2.2.2.2.2) (ok : Ok X M) (d : decode M.2.1 pc = .ok (.invokestatic idx, 3)) (kk : AT X M (pc + 3) L (.int (jmin x y) :: S) σ) : AT X M pc L (.int y :: .int x :: S) σ := by
  obtain ⟨p, l, e, R, s, m, args, below, meth, c, D, aC, b, n0, z0, N, Z, Q⟩ := X
  obtain ⟨hx, hb, hr, hml, hown, hts, hlk, hnm, hK, hR⟩ := ok
  have kk1 := kk.1
  refine ⟨kk1, fun H locs ls g1 g2 hP hS hl => ?_⟩
  obtain ⟨hR1, hR2, hR3, hR4, hs0⟩ := hR
  exact va_mmin hx hb (by rw [hml]; exact hl.1.symm) hown (hts _ w1) (hts _ w2) (hts _ w3) (hts _ w4) (by omega) (by rw [trS_cat]; omega) (by omega) (by omega) d (kk.2 H locs ls g1 g2 hP hS hl)
theorem at_objInit (w1 : Cond.methodLink M.1.cls idx Lib.objectInit ∈ gw) (w2 : Cond.instanceMethod Lib.objectInit ∈ gw) (w3 : Cond.code Lib.objectInit ⟨#[0xb1]⟩ 1 none ∈ gw) (hf : 1 ≤ M.2.2.2.2.1) (hlo : (S.map fun v => v.category).sum + 12 ≤ M.2.2.2.2.2) {a : Nat} (ok : Ok X M) (d : decode M.2.1 pc = .ok (.invokespecial idx, 3)) (kk : AT X M (pc + 3) L S σ) : AT X M pc L (va_rf (some a) :: S) σ := by
  obtain ⟨p, l, e, R, s, m, args, below, meth, c, D, aC, b, n0, z0, N, Z, Q⟩ := X
  obtain ⟨hx, hb, hr, hml, hown, hts, hlk, hnm, hK, hR⟩ := ok
  refine ⟨kk.1, fun H locs ls g1 g2 hP hS hl => ?_⟩
  obtain ⟨hR1, hR2, hR3, hR4, hs0⟩ := hR
  exact W.objInit (g := F0 m pc ls ((va_rf (some a) :: S).map (trV b))) hx hb hown (hts _ w1) (hts _ w2) (hts _ w3) rfl (by rw [hml]; exact hl.1) rfl d (by omega) (by show 2 * 0 + _ + 12 ≤ _; rw [trS_cat]; omega) (kk.2 H locs ls g1 g2 hP hS hl)
end ROWS
