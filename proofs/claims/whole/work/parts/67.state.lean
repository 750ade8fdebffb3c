/-! ===== what is told: the state that class and reference both hold, and what is found by it ===== -/
-- a kind: sort, the mark's text, text, n, m, days; a rule: sender, way, kind, act; a letter: (sender, taker, way, day, bytes), (act, kind, fate, found)
abbrev Kd : Type := Nat × List Int32 × Nat × Nat × Nat × Nat
abbrev Rl : Type := Int32 × Int32 × Nat × Nat
abbrev Lt : Type := (Nat × Nat × Nat × Nat × List Int32) × (Nat × Int32 × Nat × List T3)
abbrev St : Type := (Nat × List Int32) × (Nat → List Int32) × (Nat → Kd) × (Nat → Bool) × List Rl × List Lt
abbrev aDay (A : St) : Nat := A.1.1
abbrev aTape (A : St) : List Int32 := A.1.2
abbrev aKept (A : St) : Nat → List Int32 := A.2.1
abbrev aKind (A : St) : Nat → Kd := A.2.2.1
abbrev aAll (A : St) : Nat → Bool := A.2.2.2.1
abbrev aRul (A : St) : List Rl := A.2.2.2.2.1
abbrev aLet (A : St) : List Lt := A.2.2.2.2.2
abbrev kSort (d : Kd) : Nat := d.1
abbrev kMs (d : Kd) : List Int32 := d.2.1
abbrev kTx (d : Kd) : Nat := d.2.2.1
abbrev kN (d : Kd) : Nat := d.2.2.2.1
abbrev kM (d : Kd) : Nat := d.2.2.2.2.1
abbrev kD (d : Kd) : Nat := d.2.2.2.2.2
abbrev rS (r : Rl) : Int32 := r.1
abbrev rW (r : Rl) : Int32 := r.2.1
abbrev rK (r : Rl) : Nat := r.2.2.1
abbrev rA (r : Rl) : Nat := r.2.2.2
abbrev lS (x : Lt) : Nat := x.1.1
abbrev lT (x : Lt) : Nat := x.1.2.1
abbrev lW (x : Lt) : Nat := x.1.2.2.1
abbrev lD (x : Lt) : Nat := x.1.2.2.2.1
abbrev lB (x : Lt) : List Int32 := x.1.2.2.2.2
abbrev lAct (x : Lt) : Nat := x.2.1
abbrev lKind (x : Lt) : Int32 := x.2.2.1
abbrev lFate (x : Lt) : Nat := x.2.2.2.1
abbrev lR (x : Lt) : List T3 := x.2.2.2.2
def dfl : Lt := ((0, 0, 0, 0, []), (0, -1, 0, []))
def lAt (A : St) (l : Nat) : Lt := (aLet A).getD l dfl
theorem lAt_of {A : St} {l : Nat} {x : Lt} (h : (aLet A)[l]? = some x) : lAt A l = x := by
  unfold lAt
  rw [List.getD_eq_getElem?_getD, h]
  rfl
def pair (k s t : Nat) : Nat := (10 * k + s) * 10 + t
def nearK (A : St) (l k i : Nat) : Bool := decide (lS (lAt A i) = lS (lAt A l) ∧ lD (lAt A l) - lD (lAt A i) ≤ kD (aKind A k))
def pUp (A : St) (l k n : Nat) : Nat → Bool := fun p => (List.range n).any (fun i => nearK A l k i && hasP (lB (lAt A i)) (aKept A (kTx (aKind A k))) (kN (aKind A k)) p)
def enough (A : St) (l k : Nat) : Bool := decide (kM (aKind A k) ≤ fb_ct (pUp A l k (l + 1)) (wds (aKept A (kTx (aKind A k)))).length)
/-- all that is found, by the kind alone -/
def rawF (kp : Nat → List Int32) (d : Kd) (xs : List Int32) : List T3 := if kSort d = 1 then fMark xs (kMs d) else if kSort d = 3 then fNum xs else if kSort d = 2 ∨ kSort d = 4 then fPar xs (kp (kTx d)) (kN d) else []
/-- what is found of kind k in letter l -/
def findR (A : St) (l k : Nat) : List T3 := if kSort (aKind A k) = 3 ∧ ¬ kM (aKind A k) ≤ (fNum (lB (lAt A l))).length then [] else if kSort (aKind A k) = 4 ∧ enough A l k = false then [] else rawF (aKept A) (aKind A k) (lB (lAt A l))
def hasK (A : St) (l k : Nat) : Bool := !(aAll A (pair k (lS (lAt A l)) (lT (lAt A l)))) && decide (0 < (findR A l k).length)
def forB (r : Rl) (x : Lt) : Bool := (decide (rS r = -1) || decide (rS r = nI (lS x))) && (decide (rW r = -1) || decide (rW r = nI (lW x)))
def selB (A : St) (l : Nat) (r : Rl) : Bool := forB r (lAt A l) && hasK A l (rK r)
def sel (A : St) (rs : List Rl) (l : Nat) : Option Rl := rs.find? (selB A l)
-- what always holds of it
def KdW (d : Kd) : Prop := kSort d ≤ 4 ∧ kTx d < 8 ∧ 2 ≤ kN d ∧ kN d ≤ 8 ∧ 1 ≤ kM d ∧ kM d ≤ 50 ∧ kD d ≤ 30 ∧ (kMs d).length ≤ 300 ∧ (kSort d = 1 → 0 < (wds (kMs d)).length)
def RlW (r : Rl) : Prop := rK r < 8 ∧ rA r ≤ 4 ∧ (rS r = -1 ∨ ∃ s, s < 10 ∧ rS r = nI s) ∧ (rW r = -1 ∨ ∃ w, w < 3 ∧ rW r = nI w)
def LtW (x : Lt) : Prop := lS x < 10 ∧ lT x < 10 ∧ lW x < 3 ∧ lD x ≤ 1000 ∧ (lB x).length ≤ 300 ∧ lAct x ≤ 4 ∧ lFate x ≤ 2 ∧ (lR x).length ≤ 30 * ((lB x).length + 1)
def StW (A : St) : Prop := aDay A ≤ 1000 ∧ (aTape A).length ≤ 300 ∧ (∀ i, (aKept A i).length ≤ 300) ∧ (∀ i, KdW (aKind A i)) ∧ (aRul A).length ≤ 20 ∧ (∀ r ∈ aRul A, RlW r) ∧ (aLet A).length ≤ 60 ∧ (∀ x ∈ aLet A, LtW x) ∧ (∀ x ∈ aLet A, lD x ≤ aDay A) ∧ ∀ (i j : Nat) (x y : Lt), i ≤ j → (aLet A)[i]? = some x → (aLet A)[j]? = some y → lD x ≤ lD y
/-- the part of the state that finding in a letter uses -/
def DlW (A : St) : Prop := (∀ i, (aKept A i).length ≤ 300) ∧ (∀ i, KdW (aKind A i)) ∧ (aLet A).length ≤ 60 ∧ (∀ x ∈ aLet A, lS x < 10 ∧ lT x < 10 ∧ lW x < 3 ∧ lD x ≤ 1000 ∧ (lB x).length ≤ 300) ∧ ∀ (i j : Nat) (x y : Lt), i ≤ j → (aLet A)[i]? = some x → (aLet A)[j]? = some y → lD x ≤ lD y
theorem StW.dl {A : St} (h : StW A) : DlW A := ⟨h.2.2.1, h.2.2.2.1, h.2.2.2.2.2.2.1, fun x hx => by
  have := h.2.2.2.2.2.2.2.1 x hx
  exact ⟨this.1, this.2.1, this.2.2.1, this.2.2.2.1, this.2.2.2.2.1⟩, h.2.2.2.2.2.2.2.2.2⟩
theorem lB_len {A : St} (h : DlW A) (l : Nat) : (lB (lAt A l)).length ≤ 300 := by
  unfold lAt
  rw [List.getD_eq_getElem?_getD]
  cases hq : (aLet A)[l]? with
  | none => exact Nat.zero_le _
  | some x => exact (h.2.2.2.1 x (List.mem_of_getElem? hq)).2.2.2.2
theorem lD_mono {A : St} (h : DlW A) {i l : Nat} (hil : i ≤ l) (hl : l < (aLet A).length) : lD (lAt A i) ≤ lD (lAt A l) ∧ lD (lAt A l) ≤ 1000 := by
  obtain ⟨x, hx⟩ : ∃ x, (aLet A)[i]? = some x := ⟨_, List.getElem?_eq_getElem (by omega)⟩
  obtain ⟨y, hy⟩ : ∃ y, (aLet A)[l]? = some y := ⟨_, List.getElem?_eq_getElem hl⟩
  rw [lAt_of hx, lAt_of hy]
  exact ⟨h.2.2.2.2 i l x y hil hx hy, (h.2.2.2.1 y (List.mem_of_getElem? hy)).2.2.2.1⟩
