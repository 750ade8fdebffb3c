/-! ===== plain Lean over the commands: steps, updates ===== -/
/-- σ' is σ, but at a, where e is now -/
def Up (σ σ' : AH) (a : Nat) (e : va_E) : Prop := σ'.1[a]? = some e ∧ (∀ k, k ≠ a → σ'.1[k]? = σ.1[k]?) ∧ σ'.1.length = σ.1.length ∧ σ'.2 = σ.2
theorem Up.of {σ : AH} {a : Nat} {e e0 : va_E} (h : σ.1[a]? = some e0) : Up σ (σ.1.set a e, σ.2) a e := by
  have hl := (List.getElem?_eq_some_iff.mp h).1
  refine ⟨List.getElem?_set_self hl, fun k hk => List.getElem?_set_ne (Ne.symm hk), List.length_set, rfl⟩
theorem Up.ne {σ σ' : AH} {a k : Nat} {e x : va_E} (h : Up σ σ' a e) (hx : σ.1[k]? = some x) (hk : k ≠ a) : σ'.1[k]? = some x := by rw [h.2.1 k hk]; exact hx
/-- σ' is σ with one cell more, e, behind all -/
def Nw (σ σ' : AH) (e : va_E) (n : Nat) : Prop := σ'.1[σ.1.length]? = some e ∧ (∀ k, k < σ.1.length → σ'.1[k]? = σ.1[k]?) ∧ σ'.1.length = σ.1.length + 1 ∧ σ'.2 = σ.2 + n
theorem Nw.of {σ : AH} {e : va_E} {n : Nat} : Nw σ (σ.1 ++ [e], σ.2 + n) e n := by
  refine ⟨?_, fun k hk => List.getElem?_append_left hk, by simp, rfl⟩
  show (σ.1 ++ [e])[σ.1.length]? = some e
  rw [List.getElem?_append_right (Nat.le_refl _), Nat.sub_self]
  rfl
theorem Nw.old {σ σ' : AH} {e x : va_E} {n k : Nat} (h : Nw σ σ' e n) (hx : σ.1[k]? = some x) : σ'.1[k]? = some x := by
  rw [h.2.1 k (List.getElem?_eq_some_iff.mp hx).1]; exact hx
section STEPS
variable {σ : AH} {a ci k t n j : Nat} {fs : List Value} {β : Type} {Q : β → AH → Prop}
theorem b_rt {β' : Type} {x : β'} {g : β' → Cm β} : Hr (bn (rt x) g) σ Q ↔ Hr (g x) σ Q := by rw [hr_bn, hr_rt]
theorem b_as {α γ : Type} {m : Cm α} {f : α → Cm γ} {g : γ → Cm β} : Hr (bn (bn m f) g) σ Q ↔ Hr (bn m (fun a => bn (f a) g)) σ Q := by
  rw [hr_bn, hr_bn, hr_bn]
  constructor
  · intro h; exact h.mono fun a σ' h => hr_bn.mpr h
  · intro h; exact h.mono fun a σ' h => hr_bn.mp h
theorem b_eq {α : Type} {m : Cm α} {x : α} {σ' : AH} {g : α → Cm β} (e : m σ = some (x, σ')) : Hr (bn m g) σ Q ↔ Hr (g x) σ' Q := by rw [hr_bn, hr_eq e]
theorem b_hr {α : Type} {m : Cm α} {g : α → Cm β} {P : α → AH → Prop} (h : Hr m σ P) (k : ∀ x σ', P x σ' → Hr (g x) σ' Q) : Hr (bn m g) σ Q := hr_bn.mpr (h.mono k)
theorem b_getI {v : Int32} {g : Int32 → Cm β} (h : σ.1[a]? = some (.inr (ci, fs))) (hv : fs[k]? = some (.int v)) : Hr (bn (oGetI (some a) ci k) g) σ Q ↔ Hr (g v) σ Q := by rw [hr_bn, hr_getI h hv]
theorem b_getL {v : Int64} {g : Int64 → Cm β} (h : σ.1[a]? = some (.inr (ci, fs))) (hv : fs[k]? = some (.long v)) : Hr (bn (oGetL (some a) ci k) g) σ Q ↔ Hr (g v) σ Q := by rw [hr_bn, hr_getL h hv]
theorem b_getR {v : Nat} {g : Option Nat → Cm β} (h : σ.1[a]? = some (.inr (ci, fs))) (hv : fs[k]? = some (.ref v)) : Hr (bn (oGetR (some a) ci k) g) σ Q ↔ Hr (g (some v)) σ Q := by rw [hr_bn, hr_getR h hv]
theorem b_getN {g : Option Nat → Cm β} (h : σ.1[a]? = some (.inr (ci, fs))) (hv : fs[k]? = some .null) : Hr (bn (oGetR (some a) ci k) g) σ Q ↔ Hr (g none) σ Q := by rw [hr_bn, hr_getN h hv]
theorem b_obj {g : Unit → Cm β} (h : σ.1[a]? = some (.inr (ci, fs))) : Hr (bn (oObj (some a) ci) g) σ Q ↔ Hr (g ()) σ Q := by rw [hr_bn, hr_obj h]
theorem b_ld {f : Nat → Int32} {i : Int32} {g : Int32 → Cm β} (h : σ.1[a]? = some (.inl (t, n, .inl f))) (hi : i = nI j) (hj : j < n) (hn : n < 2 ^ 31) : Hr (bn (oLd t (some a) i) g) σ Q ↔ Hr (g (f j)) σ Q := by rw [hr_bn, hr_ldN h hi hj hn]
theorem b_ldR {f : Nat → Option Nat} {i : Int32} {g : Option Nat → Cm β} (h : σ.1[a]? = some (.inl (t, n, .inr (.inr (.inr (.inr f)))))) (hi : i = nI j) (hj : j < n) (hn : n < 2 ^ 31) : Hr (bn (oLdR t (some a) i) g) σ Q ↔ Hr (g (f j)) σ Q := by rw [hr_bn, hr_ldR h hi hj hn]
theorem b_len {x : vp_A} {g : Int32 → Cm β} (h : σ.1[a]? = some (.inl (t, x))) : Hr (bn (oLen t (some a)) g) σ Q ↔ Hr (g (nI x.1)) σ Q := by rw [hr_bn, hr_len h]
theorem b_z {x : Int32} {g : Unit → Cm β} (h : x = 0 ∨ x = 1) : Hr (bn (oZ x) g) σ Q ↔ Hr (g ()) σ Q := by rw [hr_bn, hr_z h]
theorem b_put {v : Value} {g : Unit → Cm β} (h : σ.1[a]? = some (.inr (ci, fs))) (hk : k < fs.length) (kk : ∀ σ', Up σ σ' a (.inr (ci, fs.set k v)) → Hr (g ()) σ' Q) : Hr (bn (oPut (some a) ci k v) g) σ Q := by
  rw [hr_bn, hr_put h hk]
  exact kk _ (Up.of h)
theorem b_putI {v : Int32} {g : Unit → Cm β} (h : σ.1[a]? = some (.inr (ci, fs))) (hk : k < fs.length) (kk : ∀ σ', Up σ σ' a (.inr (ci, fs.set k (.int v))) → Hr (g ()) σ' Q) : Hr (bn (oPutI (some a) ci k v) g) σ Q := b_put h hk kk
theorem b_putL {v : Int64} {g : Unit → Cm β} (h : σ.1[a]? = some (.inr (ci, fs))) (hk : k < fs.length) (kk : ∀ σ', Up σ σ' a (.inr (ci, fs.set k (.long v))) → Hr (g ()) σ' Q) : Hr (bn (oPutL (some a) ci k v) g) σ Q := b_put h hk kk
theorem b_putR {v : Option Nat} {g : Unit → Cm β} (h : σ.1[a]? = some (.inr (ci, fs))) (hk : k < fs.length) (kk : ∀ σ', Up σ σ' a (.inr (ci, fs.set k (va_rf v))) → Hr (g ()) σ' Q) : Hr (bn (oPutR (some a) ci k v) g) σ Q := b_put h hk kk
theorem b_st {f : Nat → Int32} {i x : Int32} {g : Unit → Cm β} (h : σ.1[a]? = some (.inl (t, n, .inl f))) (hi : i = nI j) (hj : j < n) (hn : n < 2 ^ 31) (kk : ∀ σ', Up σ σ' a (.inl (t, n, .inl (upd f j x))) → Hr (g ()) σ' Q) : Hr (bn (oSt t (some a) i x) g) σ Q := by
  rw [hr_bn, hr_stN h hi hj hn]
  exact kk _ (Up.of h)
theorem b_stZ {f : Nat → Int32} {i x : Int32} {g : Unit → Cm β} (hx : x = 0 ∨ x = 1) (h : σ.1[a]? = some (.inl (1, n, .inl f))) (hi : i = nI j) (hj : j < n) (hn : n < 2 ^ 31) (kk : ∀ σ', Up σ σ' a (.inl (1, n, .inl (upd f j x))) → Hr (g ()) σ' Q) : Hr (bn (oStZ (some a) i x) g) σ Q := by
  rw [hr_bn, hr_stZ hx, hr_stN h hi hj hn]
  exact kk _ (Up.of h)
theorem b_stR {f : Nat → Option Nat} {i : Int32} {c : Nat} {v : Option Nat} {g : Unit → Cm β} (h : σ.1[a]? = some (.inl (t, n, .inr (.inr (.inr (.inr f)))))) (hi : i = nI j) (hj : j < n) (hn : n < 2 ^ 31) (hv : v = none ∨ (rdO σ v c).isSome = true) (kk : ∀ σ', Up σ σ' a (.inl (t, n, .inr (.inr (.inr (.inr (va_up f j v)))))) → Hr (g ()) σ' Q) : Hr (bn (oStR t c (some a) i v) g) σ Q := by
  rw [hr_bn, hr_stR h hi hj hn hv]
  exact kk _ (Up.of h)
theorem rdO_some {q c : Nat} {fs : List Value} (h : σ.1[q]? = some (.inr (c, fs))) : (rdO σ (some q) c).isSome = true := by rw [rdO_at h]; rfl
theorem b_newO {g : Option Nat → Cm β} (kk : ∀ σ', Nw σ σ' (.inr (ci, fs)) fs.length → Hr (g (some σ.1.length)) σ' Q) : Hr (bn (oNewO ci fs) g) σ Q := by
  rw [hr_bn, hr_newO]
  exact kk _ Nw.of
theorem b_newA {m : Nat} {i : Int32} {g : Option Nat → Cm β} (hi : i = nI m) (hm : m ≤ 100000000) (kk : ∀ σ', Nw σ σ' (.inl (t, m, .inl (fun _ => 0))) m → Hr (g (some σ.1.length)) σ' Q) : Hr (bn (oNewA t i) g) σ Q := by
  rw [hr_bn, hr_newA hi hm]
  exact kk _ Nw.of
theorem b_newR {m : Nat} {i : Int32} {g : Option Nat → Cm β} (hi : i = nI m) (hm : m ≤ 100000000) (kk : ∀ σ', Nw σ σ' (.inl (t, m, .inr (.inr (.inr (.inr (fun _ => none)))))) m → Hr (g (some σ.1.length)) σ' Q) : Hr (bn (oNewR t i) g) σ Q := by
  rw [hr_bn, hr_newR hi hm]
  exact kk _ Nw.of
theorem b_clone {f : Nat → Int32} {g : Option Nat → Cm β} (h : σ.1[a]? = some (.inl (0, n, .inl f))) (kk : ∀ σ', Nw σ σ' (.inl (0, n, .inl f)) n → Hr (g (some σ.1.length)) σ' Q) : Hr (bn (oClone (some a)) g) σ Q := by
  rw [hr_bn, hr_clone h]
  exact kk _ Nw.of
theorem b_ite {c : Prop} {d : Decidable c} {m1 m2 : Cm β} (h1 : c → Hr m1 σ Q) (h2 : ¬ c → Hr m2 σ Q) : Hr (if c then m1 else m2) σ Q := by
  by_cases h : c
  · rw [if_pos h]; exact h1 h
  · rw [if_neg h]; exact h2 h
theorem b_bite {α : Type} {c : Prop} {d : Decidable c} {m1 m2 : Cm α} {g : α → Cm β} (h1 : c → Hr (bn m1 g) σ Q) (h2 : ¬ c → Hr (bn m2 g) σ Q) : Hr (bn (if c then m1 else m2) g) σ Q := by
  by_cases h : c
  · rw [if_pos h]; exact h1 h
  · rw [if_neg h]; exact h2 h
end STEPS
-- numbers
theorem nI_lit (k : Nat) : (OfNat.ofNat k : Int32) = nI k := rfl
theorem nI_subN {a b : Nat} (h : b ≤ a) : nI a - nI b = nI (a - b) := pk_sub h
theorem nI_m1 (n : Nat) : nI (n + 1) + (-1) = nI n := pk_m1 n
theorem i32_le (a b : Int32) : a ≤ b ↔ a.toInt ≤ b.toInt := Int32.le_iff_toInt_le
theorem i32_lt (a b : Int32) : a < b ↔ a.toInt < b.toInt := Int32.lt_iff_toInt_lt
theorem i32_eq (a b : Int32) : a = b ↔ a.toInt = b.toInt := Int32.toInt_inj.symm
/-- a truth as Java answers it -/
def bI (b : Bool) : Int32 := if b then 1 else 0
theorem bI_01 (b : Bool) : bI b = 0 ∨ bI b = 1 := by cases b <;> decide
theorem bI_0 (b : Bool) : bI b = 0 ↔ b = false := by cases b <;> decide
theorem bn_rt {α β : Type} (x : α) (g : α → Cm β) : bn (rt x) g = g x := rfl
theorem rt_ap {α : Type} (x : α) (σ : AH) : rt x σ = some (x, σ) := rfl
theorem bn_ap {α β : Type} {m : Cm α} {g : α → Cm β} {σ σ' : AH} {x : α} (e : m σ = some (x, σ')) : bn m g σ = g x σ' := by unfold bn; rw [e]
