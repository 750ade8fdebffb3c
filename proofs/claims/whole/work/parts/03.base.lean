/-! ===== an abstract machine of my own: heap, commands, a judgement; no word of the Jvm model below but Value and the cells ===== -/
abbrev AH : Type := List va_E × Nat
abbrev Cm (α : Type) : Type := AH → Option (α × AH)
def rt {α : Type} (a : α) : Cm α := fun σ => some (a, σ)
def bn {α β : Type} (m : Cm α) (f : α → Cm β) : Cm β := fun σ => match m σ with
  | none => none
  | some q => f q.1 q.2
def Hr {α : Type} (m : Cm α) (σ : AH) (Q : α → AH → Prop) : Prop := ∃ (a : α) (σ' : AH), m σ = some (a, σ') ∧ Q a σ'
theorem Hr.mono {α : Type} {m : Cm α} {σ : AH} {Q Q' : α → AH → Prop} (h : Hr m σ Q) (k : ∀ a σ', Q a σ' → Q' a σ') : Hr m σ Q' := by
  obtain ⟨a, σ', h1, h2⟩ := h
  exact ⟨a, σ', h1, k a σ' h2⟩
theorem hr_eq {α : Type} {m : Cm α} {a : α} {σ σ' : AH} {Q : α → AH → Prop} (e : m σ = some (a, σ')) : Hr m σ Q ↔ Q a σ' := by
  constructor
  · rintro ⟨b, σ2, h1, h2⟩
    rw [e] at h1
    cases h1
    exact h2
  · intro h
    exact ⟨a, σ', e, h⟩
theorem hr_rt {α : Type} {a : α} {σ : AH} {Q : α → AH → Prop} : Hr (rt a) σ Q ↔ Q a σ := by
  constructor
  · rintro ⟨b, σ', h1, h2⟩
    cases h1
    exact h2
  · intro h
    exact ⟨a, σ, rfl, h⟩
theorem hr_bn {α β : Type} {m : Cm α} {f : α → Cm β} {σ : AH} {Q : β → AH → Prop} : Hr (bn m f) σ Q ↔ Hr m σ (fun a σ' => Hr (f a) σ' Q) := by
  constructor
  · rintro ⟨b, σ', h1, h2⟩
    unfold bn at h1
    cases hm : m σ with
    | none => rw [hm] at h1; cases h1
    | some q => rw [hm] at h1; exact ⟨q.1, q.2, hm, b, σ', h1, h2⟩
  · rintro ⟨a, σ', h1, b, σ2, h3, h4⟩
    refine ⟨b, σ2, ?_, h4⟩
    unfold bn
    rw [h1]
    exact h3
/-- a loop: F's own calls of itself go to the next one, at most n of them -/
def fx {X Y : Type} (F : (X → Cm Y) → X → Cm Y) : Nat → X → Cm Y
  | 0 => fun _ _ => none
  | n + 1 => fun x => F (fx F n) x
theorem hr_fx0 {X Y : Type} {F : (X → Cm Y) → X → Cm Y} {x : X} {σ : AH} {Q : Y → AH → Prop} : ¬ Hr (fx F 0 x) σ Q := by
  rintro ⟨a, σ', h, _⟩
  cases h
theorem fuel_ex : ∃ n : Nat, n = 16777216 := ⟨_, rfl⟩
noncomputable def FUEL : Nat := Classical.choose fuel_ex
theorem fuel_eq : FUEL = 16777216 := Classical.choose_spec fuel_ex
/-- the rule of loops: an invariant, and a measure that falls -/
theorem hr_fx {X Y : Type} {F : (X → Cm Y) → X → Cm Y} {Q : Y → AH → Prop} (I : X → AH → Prop) (μ : X → Nat)
    (hs : ∀ (rec : X → Cm Y) (x : X) (σ : AH), I x σ → (∀ x' σ', I x' σ' → μ x' < μ x → Hr (rec x') σ' Q) → Hr (F rec x) σ Q) : ∀ (n : Nat) (x : X) (σ : AH), μ x < n → I x σ → Hr (fx F n x) σ Q := by
  intro n
  induction n with
  | zero => intro x σ h; exact absurd h (Nat.not_lt_zero _)
  | succ n ih =>
    intro x σ h hI
    exact hs (fx F n) x σ hI (fun x' σ' hI' hm => ih x' σ' (Nat.lt_of_lt_of_le hm (Nat.le_of_lt_succ h)) hI')
theorem hr_loop {X Y : Type} {F : (X → Cm Y) → X → Cm Y} {Q : Y → AH → Prop} (I : X → AH → Prop) (μ : X → Nat) {x : X} {σ : AH} (hI : I x σ) (hμ : μ x < 16777216)
    (hs : ∀ (rec : X → Cm Y) (x : X) (σ : AH), I x σ → (∀ x' σ', I x' σ' → μ x' < μ x → Hr (rec x') σ' Q) → Hr (F rec x) σ Q) : Hr (fx F FUEL x) σ Q := hr_fx I μ hs FUEL x σ (by rw [fuel_eq]; exact hμ) hI
-- reading cells
def rdO (σ : AH) (r : Option Nat) (ci : Nat) : Option (List Value) := match r with
  | none => none
  | some a => match σ.1[a]? with
    | some (.inr o) => if o.1 = ci then some o.2 else none
    | _ => none
def rdA (σ : AH) (r : Option Nat) (t : Nat) : Option vp_A := match r with
  | none => none
  | some a => match σ.1[a]? with
    | some (.inl x) => if x.1 = t then some x.2 else none
    | _ => none
theorem rdO_spec {σ : AH} {r : Option Nat} {ci : Nat} {fs : List Value} : rdO σ r ci = some fs ↔ ∃ a, r = some a ∧ σ.1[a]? = some (.inr (ci, fs)) := by
  constructor
  · intro h
    unfold rdO at h
    cases r with
    | none => cases h
    | some a =>
      refine ⟨a, rfl, ?_⟩
      simp only at h
      cases hc : σ.1[a]? with
      | none => rw [hc] at h; cases h
      | some e =>
        rw [hc] at h
        cases e with
        | inl x => cases h
        | inr o =>
          simp only at h
          by_cases ho : o.1 = ci
          · rw [if_pos ho] at h
            cases h
            rw [← ho]
          · rw [if_neg ho] at h
            cases h
  · rintro ⟨a, rfl, h⟩
    simp [rdO, h]
theorem rdA_spec {σ : AH} {r : Option Nat} {t : Nat} {x : vp_A} : rdA σ r t = some x ↔ ∃ a, r = some a ∧ σ.1[a]? = some (.inl (t, x)) := by
  constructor
  · intro h
    unfold rdA at h
    cases r with
    | none => cases h
    | some a =>
      refine ⟨a, rfl, ?_⟩
      simp only at h
      cases hc : σ.1[a]? with
      | none => rw [hc] at h; cases h
      | some e =>
        rw [hc] at h
        cases e with
        | inr x => cases h
        | inl o =>
          simp only at h
          by_cases ho : o.1 = t
          · rw [if_pos ho] at h
            cases h
            rw [← ho]
          · rw [if_neg ho] at h
            cases h
  · rintro ⟨a, rfl, h⟩
    simp [rdA, h]
-- the commands
def oGetI (r : Option Nat) (ci k : Nat) : Cm Int32 := fun σ => match rdO σ r ci with
  | some fs => match fs[k]? with
    | some (.int v) => some (v, σ)
    | _ => none
  | none => none
def oGetL (r : Option Nat) (ci k : Nat) : Cm Int64 := fun σ => match rdO σ r ci with
  | some fs => match fs[k]? with
    | some (.long v) => some (v, σ)
    | _ => none
  | none => none
def oGetR (r : Option Nat) (ci k : Nat) : Cm (Option Nat) := fun σ => match rdO σ r ci with
  | some fs => match fs[k]? with
    | some .null => some (none, σ)
    | some (.ref a) => some (some a, σ)
    | _ => none
  | none => none
def oPut (r : Option Nat) (ci k : Nat) (v : Value) : Cm Unit := fun σ => match r with
  | none => none
  | some a => match rdO σ (some a) ci with
    | some fs => if k < fs.length then some ((), (σ.1.set a (.inr (ci, fs.set k v)), σ.2)) else none
    | none => none
def oPutI (r : Option Nat) (ci k : Nat) (x : Int32) : Cm Unit := oPut r ci k (.int x)
def oPutL (r : Option Nat) (ci k : Nat) (x : Int64) : Cm Unit := oPut r ci k (.long x)
def oPutR (r : Option Nat) (ci k : Nat) (x : Option Nat) : Cm Unit := oPut r ci k (va_rf x)
/-- int and boolean arrays: t is 0, 1 -/
def oLd (t : Nat) (r : Option Nat) (i : Int32) : Cm Int32 := fun σ => match rdA σ r t with
  | some (n, .inl f) => if i < 0 ∨ n ≤ i.toNatClampNeg then none else some (f i.toNatClampNeg, σ)
  | _ => none
def oSt (t : Nat) (r : Option Nat) (i x : Int32) : Cm Unit := fun σ => match r with
  | none => none
  | some a => match rdA σ (some a) t with
    | some (n, .inl f) => if i < 0 ∨ n ≤ i.toNatClampNeg then none else some ((), (σ.1.set a (.inl (t, n, .inl (upd f i.toNatClampNeg x))), σ.2))
    | _ => none
/-- a boolean's store: what isn't 0 or 1 stops -/
def oStZ (r : Option Nat) (i x : Int32) : Cm Unit := fun σ => if x = 0 ∨ x = 1 then oSt 1 r i x σ else none
def oLdR (t : Nat) (r : Option Nat) (i : Int32) : Cm (Option Nat) := fun σ => match rdA σ r t with
  | some (n, .inr (.inr (.inr (.inr f)))) => if i < 0 ∨ n ≤ i.toNatClampNeg then none else some (f i.toNatClampNeg, σ)
  | _ => none
/-- a store into an array t of references: null, or an object of the class c -/
def oStR (t c : Nat) (r : Option Nat) (i : Int32) (v : Option Nat) : Cm Unit := fun σ => match r with
  | none => none
  | some a => match rdA σ (some a) t with
    | some (n, .inr (.inr (.inr (.inr f)))) => if i < 0 ∨ n ≤ i.toNatClampNeg then none else
        if v = none ∨ (rdO σ v c).isSome = true then some ((), (σ.1.set a (.inl (t, n, .inr (.inr (.inr (.inr (va_up f i.toNatClampNeg v)))))), σ.2)) else none
    | _ => none
def oLen (t : Nat) (r : Option Nat) : Cm Int32 := fun σ => match rdA σ r t with
  | some x => some (Int32.ofNat x.1, σ)
  | none => none
def oNewO (ci : Nat) (fs : List Value) : Cm (Option Nat) := fun σ => some (some σ.1.length, (σ.1 ++ [.inr (ci, fs)], σ.2 + fs.length))
/-- a new array of ints or booleans -/
def oNewA (t : Nat) (n : Int32) : Cm (Option Nat) := fun σ => if n < 0 ∨ 100000000 < n.toNatClampNeg then none else some (some σ.1.length, (σ.1 ++ [.inl (t, n.toNatClampNeg, .inl (fun _ => 0))], σ.2 + n.toNatClampNeg))
def oNewR (t : Nat) (n : Int32) : Cm (Option Nat) := fun σ => if n < 0 ∨ 100000000 < n.toNatClampNeg then none else some (some σ.1.length, (σ.1 ++ [.inl (t, n.toNatClampNeg, .inr (.inr (.inr (.inr (fun _ => none)))))], σ.2 + n.toNatClampNeg))
def oClone (r : Option Nat) : Cm (Option Nat) := fun σ => match rdA σ r 0 with
  | some (n, .inl f) => some (some σ.1.length, (σ.1 ++ [.inl (0, n, .inl f)], σ.2 + n))
  | _ => none
/-- System.arraycopy of ints -/
def oCopy (r : Option Nat) (sp : Int32) (r' : Option Nat) (dp n : Int32) : Cm Unit := fun σ => match r' with
  | none => none
  | some a => match rdA σ r 0, rdA σ (some a) 0 with
    | some (n0, .inl f), some (n1, .inl g) => if r = some a ∨ sp < 0 ∨ dp < 0 ∨ n < 0 ∨ n0 < sp.toNatClampNeg + n.toNatClampNeg ∨ n1 < dp.toNatClampNeg + n.toNatClampNeg then none else
        some ((), (σ.1.set a (.inl (0, n1, .inl (va_cpy f g sp.toNatClampNeg dp.toNatClampNeg n.toNatClampNeg))), σ.2))
    | _, _ => none
def oObj (r : Option Nat) (ci : Nat) : Cm Unit := fun σ => match rdO σ r ci with
  | some _ => some ((), σ)
  | none => none
def oZ (x : Int32) : Cm Unit := fun σ => if x = 0 ∨ x = 1 then some ((), σ) else none
-- arithmetic as Java has it
def jrem (x y : Int32) : Int32 := x - x / y * y
def jshl (x y : Int32) : Int32 := x <<< (y &&& 31)
def jshr (x y : Int32) : Int32 := x >>> (y &&& 31)
def jushr (x y : Int32) : Int32 := (x.toUInt32 >>> (y.toUInt32 &&& Int32.toUInt32 31)).toInt32
def jlshl (x : Int64) (y : Int32) : Int64 := x <<< (y.toInt64 &&& 63)
def jlushr (x : Int64) (y : Int32) : Int64 := (x.toUInt64 >>> (y.toInt64.toUInt64 &&& Int64.toUInt64 63)).toInt64
def jmax (x y : Int32) : Int32 := if x < y then y else x
def jmin (x y : Int32) : Int32 := if y < x then y else x
-- what each command does, said for a heap that is known there
section OPS
variable {σ : AH} {a ci k t n : Nat} {fs : List Value}
theorem rdO_at (h : σ.1[a]? = some (.inr (ci, fs))) : rdO σ (some a) ci = some fs := rdO_spec.mpr ⟨a, rfl, h⟩
theorem rdA_at {x : vp_A} (h : σ.1[a]? = some (.inl (t, x))) : rdA σ (some a) t = some x := rdA_spec.mpr ⟨a, rfl, h⟩
theorem hr_getI {v : Int32} {Q : Int32 → AH → Prop} (h : σ.1[a]? = some (.inr (ci, fs))) (hv : fs[k]? = some (.int v)) : Hr (oGetI (some a) ci k) σ Q ↔ Q v σ := by
  have e : oGetI (some a) ci k σ = some (v, σ) := by simp [oGetI, rdO_at h, hv]
  exact hr_eq e
theorem hr_getL {v : Int64} {Q : Int64 → AH → Prop} (h : σ.1[a]? = some (.inr (ci, fs))) (hv : fs[k]? = some (.long v)) : Hr (oGetL (some a) ci k) σ Q ↔ Q v σ := by
  have e : oGetL (some a) ci k σ = some (v, σ) := by simp [oGetL, rdO_at h, hv]
  exact hr_eq e
theorem hr_getR {v : Nat} {Q : Option Nat → AH → Prop} (h : σ.1[a]? = some (.inr (ci, fs))) (hv : fs[k]? = some (.ref v)) : Hr (oGetR (some a) ci k) σ Q ↔ Q (some v) σ := by
  have e : oGetR (some a) ci k σ = some (some v, σ) := by simp [oGetR, rdO_at h, hv]
  exact hr_eq e
theorem hr_getN {Q : Option Nat → AH → Prop} (h : σ.1[a]? = some (.inr (ci, fs))) (hv : fs[k]? = some .null) : Hr (oGetR (some a) ci k) σ Q ↔ Q none σ := by
  have e : oGetR (some a) ci k σ = some (none, σ) := by simp [oGetR, rdO_at h, hv]
  exact hr_eq e
theorem hr_put {v : Value} {Q : Unit → AH → Prop} (h : σ.1[a]? = some (.inr (ci, fs))) (hk : k < fs.length) : Hr (oPut (some a) ci k v) σ Q ↔ Q () (σ.1.set a (.inr (ci, fs.set k v)), σ.2) := by
  have e : oPut (some a) ci k v σ = some ((), (σ.1.set a (.inr (ci, fs.set k v)), σ.2)) := by simp [oPut, rdO_at h, hk]
  exact hr_eq e
theorem hr_ld {f : Nat → Int32} {i : Int32} {Q : Int32 → AH → Prop} (h : σ.1[a]? = some (.inl (t, n, .inl f))) (hi : vp_in i n) : Hr (oLd t (some a) i) σ Q ↔ Q (f i.toNatClampNeg) σ := by
  have e : oLd t (some a) i σ = some (f i.toNatClampNeg, σ) := by
    simp only [oLd, rdA_at h]
    exact if_neg hi
  exact hr_eq e
theorem hr_ldN {f : Nat → Int32} {i : Int32} {j : Nat} {Q : Int32 → AH → Prop} (h : σ.1[a]? = some (.inl (t, n, .inl f))) (hi : i = nI j) (hj : j < n) (hn : n < 2 ^ 31) : Hr (oLd t (some a) i) σ Q ↔ Q (f j) σ := by
  subst hi
  rw [hr_ld h (vp_in_nI hj hn), nI_clamp (by omega)]
theorem hr_st {f : Nat → Int32} {i x : Int32} {Q : Unit → AH → Prop} (h : σ.1[a]? = some (.inl (t, n, .inl f))) (hi : vp_in i n) : Hr (oSt t (some a) i x) σ Q ↔ Q () (σ.1.set a (.inl (t, n, .inl (upd f i.toNatClampNeg x))), σ.2) := by
  have e : oSt t (some a) i x σ = some ((), (σ.1.set a (.inl (t, n, .inl (upd f i.toNatClampNeg x))), σ.2)) := by
    simp only [oSt, rdA_at h]
    exact if_neg hi
  exact hr_eq e
theorem hr_stN {f : Nat → Int32} {i x : Int32} {j : Nat} {Q : Unit → AH → Prop} (h : σ.1[a]? = some (.inl (t, n, .inl f))) (hi : i = nI j) (hj : j < n) (hn : n < 2 ^ 31) : Hr (oSt t (some a) i x) σ Q ↔ Q () (σ.1.set a (.inl (t, n, .inl (upd f j x))), σ.2) := by
  subst hi
  rw [hr_st h (vp_in_nI hj hn), nI_clamp (by omega)]
theorem hr_len {x : vp_A} {Q : Int32 → AH → Prop} (h : σ.1[a]? = some (.inl (t, x))) : Hr (oLen t (some a)) σ Q ↔ Q (nI x.1) σ := by
  have e : oLen t (some a) σ = some (nI x.1, σ) := by simp [oLen, rdA_at h, nI]
  exact hr_eq e
theorem hr_ldR {f : Nat → Option Nat} {i : Int32} {j : Nat} {Q : Option Nat → AH → Prop} (h : σ.1[a]? = some (.inl (t, n, .inr (.inr (.inr (.inr f)))))) (hi : i = nI j) (hj : j < n) (hn : n < 2 ^ 31) : Hr (oLdR t (some a) i) σ Q ↔ Q (f j) σ := by
  subst hi
  have e : oLdR t (some a) (nI j) σ = some (f j, σ) := by
    simp only [oLdR, rdA_at h]
    rw [nI_clamp (by omega)]
    exact if_neg (by have := vp_in_nI hj hn; unfold vp_in at this; rwa [nI_clamp (by omega)] at this)
  exact hr_eq e
theorem hr_stR {f : Nat → Option Nat} {i : Int32} {j c : Nat} {v : Option Nat} {Q : Unit → AH → Prop} (h : σ.1[a]? = some (.inl (t, n, .inr (.inr (.inr (.inr f)))))) (hi : i = nI j) (hj : j < n) (hn : n < 2 ^ 31) (hv : v = none ∨ (rdO σ v c).isSome = true) : Hr (oStR t c (some a) i v) σ Q ↔ Q () (σ.1.set a (.inl (t, n, .inr (.inr (.inr (.inr (va_up f j v)))))), σ.2) := by
  subst hi
  have e : oStR t c (some a) (nI j) v σ = some ((), (σ.1.set a (.inl (t, n, .inr (.inr (.inr (.inr (va_up f j v)))))), σ.2)) := by
    simp only [oStR, rdA_at h]
    rw [nI_clamp (by omega), if_neg (by have := vp_in_nI hj hn; unfold vp_in at this; rwa [nI_clamp (by omega)] at this), if_pos hv]
  exact hr_eq e
theorem hr_obj {Q : Unit → AH → Prop} (h : σ.1[a]? = some (.inr (ci, fs))) : Hr (oObj (some a) ci) σ Q ↔ Q () σ := by
  have e : oObj (some a) ci σ = some ((), σ) := by simp [oObj, rdO_at h]
  exact hr_eq e
theorem hr_newO {Q : Option Nat → AH → Prop} : Hr (oNewO ci fs) σ Q ↔ Q (some σ.1.length) (σ.1 ++ [.inr (ci, fs)], σ.2 + fs.length) := by
  have e : oNewO ci fs σ = some (some σ.1.length, (σ.1 ++ [.inr (ci, fs)], σ.2 + fs.length)) := rfl
  exact hr_eq e
theorem hr_newA {m : Nat} {i : Int32} {Q : Option Nat → AH → Prop} (hi : i = nI m) (hm : m ≤ 100000000) : Hr (oNewA t i) σ Q ↔ Q (some σ.1.length) (σ.1 ++ [.inl (t, m, .inl (fun _ => 0))], σ.2 + m) := by
  subst hi
  have e : oNewA t (nI m) σ = some (some σ.1.length, (σ.1 ++ [.inl (t, m, .inl (fun _ => 0))], σ.2 + m)) := by
    simp only [oNewA]
    rw [nI_clamp (by omega)]
    exact if_neg (by rintro (h | h); exact nI_pos (by omega) h; omega)
  exact hr_eq e
theorem hr_newR {m : Nat} {i : Int32} {Q : Option Nat → AH → Prop} (hi : i = nI m) (hm : m ≤ 100000000) : Hr (oNewR t i) σ Q ↔ Q (some σ.1.length) (σ.1 ++ [.inl (t, m, .inr (.inr (.inr (.inr (fun _ => none)))))], σ.2 + m) := by
  subst hi
  have e : oNewR t (nI m) σ = some (some σ.1.length, (σ.1 ++ [.inl (t, m, .inr (.inr (.inr (.inr (fun _ => none)))))], σ.2 + m)) := by
    simp only [oNewR]
    rw [nI_clamp (by omega)]
    exact if_neg (by rintro (h | h); exact nI_pos (by omega) h; omega)
  exact hr_eq e
theorem hr_clone {f : Nat → Int32} {Q : Option Nat → AH → Prop} (h : σ.1[a]? = some (.inl (0, n, .inl f))) : Hr (oClone (some a)) σ Q ↔ Q (some σ.1.length) (σ.1 ++ [.inl (0, n, .inl f)], σ.2 + n) := by
  have e : oClone (some a) σ = some (some σ.1.length, (σ.1 ++ [.inl (0, n, .inl f)], σ.2 + n)) := by simp only [oClone, rdA_at h]
  exact hr_eq e
theorem hr_z {x : Int32} {Q : Unit → AH → Prop} (h : x = 0 ∨ x = 1) : Hr (oZ x) σ Q ↔ Q () σ := by
  have e : oZ x σ = some ((), σ) := if_pos h
  exact hr_eq e
theorem hr_copy {a0 n0 n1 : Nat} {f g : Nat → Int32} {sp dp m : Nat} {s0 d0 m0 : Int32} {Q : Unit → AH → Prop} (h0 : σ.1[a0]? = some (.inl (0, n0, .inl f))) (h1 : σ.1[a]? = some (.inl (0, n1, .inl g))) (hne : a0 ≠ a) (es : s0 = nI sp) (ed : d0 = nI dp) (em : m0 = nI m) (hs : sp + m ≤ n0) (hd : dp + m ≤ n1) (b0 : n0 < 2 ^ 31) (b1 : n1 < 2 ^ 31) :
    Hr (oCopy (some a0) s0 (some a) d0 m0) σ Q ↔ Q () (σ.1.set a (.inl (0, n1, .inl (va_cpy f g sp dp m))), σ.2) := by
  subst es; subst ed; subst em
  have e : oCopy (some a0) (nI sp) (some a) (nI dp) (nI m) σ = some ((), (σ.1.set a (.inl (0, n1, .inl (va_cpy f g sp dp m))), σ.2)) := by
    simp only [oCopy, rdA_at h0, rdA_at h1]
    rw [nI_clamp (by omega), nI_clamp (by omega), nI_clamp (by omega)]
    refine if_neg ?_
    rintro (h | h | h | h | h | h)
    · exact hne (Option.some.inj h)
    · exact nI_pos (by omega) h
    · exact nI_pos (by omega) h
    · exact nI_pos (by omega) h
    · omega
    · omega
  exact hr_eq e
theorem hr_stZ {r : Option Nat} {i x : Int32} {Q : Unit → AH → Prop} (h : x = 0 ∨ x = 1) : Hr (oStZ r i x) σ Q ↔ Hr (oSt 1 r i x) σ Q := by
  unfold Hr oStZ
  simp only [if_pos h]
end OPS
-- cells never go
def Mn {α : Type} (m : Cm α) : Prop := ∀ σ a σ', m σ = some (a, σ') → σ.1.length ≤ σ'.1.length ∧ σ.2 ≤ σ'.2
theorem mn_rt {α : Type} {a : α} : Mn (rt a) := by
  intro σ b σ' h
  cases h
  exact ⟨Nat.le_refl _, Nat.le_refl _⟩
theorem mn_bn {α β : Type} {m : Cm α} {f : α → Cm β} (h1 : Mn m) (h2 : ∀ a, Mn (f a)) : Mn (bn m f) := by
  intro σ b σ' h
  unfold bn at h
  cases hm : m σ with
  | none => rw [hm] at h; cases h
  | some q =>
    rw [hm] at h
    have a1 := h1 σ q.1 q.2 hm
    have a2 := h2 q.1 q.2 b σ' h
    exact ⟨Nat.le_trans a1.1 a2.1, Nat.le_trans a1.2 a2.2⟩
theorem mn_fx {X Y : Type} {F : (X → Cm Y) → X → Cm Y} (h : ∀ rec : X → Cm Y, (∀ x, Mn (rec x)) → ∀ x, Mn (F rec x)) : ∀ n x, Mn (fx F n x) := by
  intro n
  induction n with
  | zero => intro x σ a σ' h; cases h
  | succ n ih => intro x; exact h _ ih x
theorem mn_ite {α : Type} {c : Prop} {d : Decidable c} {m1 m2 : Cm α} (h1 : Mn m1) (h2 : Mn m2) : Mn (if c then m1 else m2) := by
  by_cases h : c
  · rw [if_pos h]; exact h1
  · rw [if_neg h]; exact h2
theorem mn_sum {α β γ : Type} {f : α → Cm γ} {g : β → Cm γ} (h1 : ∀ a, Mn (f a)) (h2 : ∀ b, Mn (g b)) (y : α ⊕ β) : Mn (Sum.elim f g y) := by
  cases y with
  | inl a => exact h1 a
  | inr b => exact h2 b
theorem mn_same {α : Type} {m : Cm α} (h : ∀ σ a σ', m σ = some (a, σ') → σ' = σ) : Mn m := by
  intro σ a σ' e
  rw [h σ a σ' e]
  exact ⟨Nat.le_refl _, Nat.le_refl _⟩
theorem mn_getI {r : Option Nat} {ci k : Nat} : Mn (oGetI r ci k) := by
  refine mn_same fun σ a σ' h => ?_
  unfold oGetI at h
  split at h
  · split at h <;> cases h
    rfl
  · cases h
theorem mn_getL {r : Option Nat} {ci k : Nat} : Mn (oGetL r ci k) := by
  refine mn_same fun σ a σ' h => ?_
  unfold oGetL at h
  split at h
  · split at h <;> cases h
    rfl
  · cases h
theorem mn_getR {r : Option Nat} {ci k : Nat} : Mn (oGetR r ci k) := by
  refine mn_same fun σ a σ' h => ?_
  unfold oGetR at h
  split at h
  · split at h <;> cases h <;> rfl
  · cases h
theorem mn_put {r : Option Nat} {ci k : Nat} {v : Value} : Mn (oPut r ci k v) := by
  intro σ a σ' h
  unfold oPut at h
  split at h
  · cases h
  · split at h
    · split at h
      · cases h
        simp
      · cases h
    · cases h
theorem mn_putI {r : Option Nat} {ci k : Nat} {v : Int32} : Mn (oPutI r ci k v) := mn_put
theorem mn_putL {r : Option Nat} {ci k : Nat} {v : Int64} : Mn (oPutL r ci k v) := mn_put
theorem mn_putR {r : Option Nat} {ci k : Nat} {v : Option Nat} : Mn (oPutR r ci k v) := mn_put
theorem mn_ld {t : Nat} {r : Option Nat} {i : Int32} : Mn (oLd t r i) := by
  refine mn_same fun σ a σ' h => ?_
  unfold oLd at h
  split at h
  · split at h <;> cases h
    rfl
  · cases h
theorem mn_ldR {t : Nat} {r : Option Nat} {i : Int32} : Mn (oLdR t r i) := by
  refine mn_same fun σ a σ' h => ?_
  unfold oLdR at h
  split at h
  · split at h <;> cases h
    rfl
  · cases h
theorem mn_st {t : Nat} {r : Option Nat} {i x : Int32} : Mn (oSt t r i x) := by
  intro σ a σ' h
  unfold oSt at h
  split at h
  · cases h
  · split at h
    · split at h
      · cases h
      · cases h
        simp
    · cases h
theorem mn_stZ {r : Option Nat} {i x : Int32} : Mn (oStZ r i x) := by
  intro σ a σ' h
  unfold oStZ at h
  split at h
  · exact mn_st σ a σ' h
  · cases h
theorem mn_stR {t c : Nat} {r : Option Nat} {i : Int32} {v : Option Nat} : Mn (oStR t c r i v) := by
  intro σ a σ' h
  unfold oStR at h
  split at h
  · cases h
  · split at h
    · split at h
      · cases h
      · split at h
        · cases h
          simp
        · cases h
    · cases h
theorem mn_len {t : Nat} {r : Option Nat} : Mn (oLen t r) := by
  refine mn_same fun σ a σ' h => ?_
  unfold oLen at h
  split at h <;> cases h
  rfl
theorem mn_newO {ci : Nat} {fs : List Value} : Mn (oNewO ci fs) := by
  intro σ a σ' h
  cases h
  simp
theorem mn_newA {t : Nat} {n : Int32} : Mn (oNewA t n) := by
  intro σ a σ' h
  unfold oNewA at h
  split at h <;> cases h
  simp
theorem mn_newR {t : Nat} {n : Int32} : Mn (oNewR t n) := by
  intro σ a σ' h
  unfold oNewR at h
  split at h <;> cases h
  simp
theorem mn_clone {r : Option Nat} : Mn (oClone r) := by
  intro σ a σ' h
  unfold oClone at h
  split at h <;> cases h
  simp
theorem mn_copy {r : Option Nat} {sp : Int32} {r' : Option Nat} {dp n : Int32} : Mn (oCopy r sp r' dp n) := by
  intro σ a σ' h
  unfold oCopy at h
  split at h
  · cases h
  · split at h
    · split at h
      · cases h
      · cases h
        simp
    · cases h
theorem mn_obj {r : Option Nat} {ci : Nat} : Mn (oObj r ci) := by
  refine mn_same fun σ a σ' h => ?_
  unfold oObj at h
  split at h <;> cases h
  rfl
theorem mn_z {x : Int32} : Mn (oZ x) := by
  refine mn_same fun σ a σ' h => ?_
  unfold oZ at h
  split at h <;> cases h
  rfl
