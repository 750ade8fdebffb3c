/-! ===== what each call answers, and what is told then ===== -/
abbrev tn (n : Int32) : Nat := n.toNatClampNeg
def upF {α : Type} (f : Nat → α) (k : Nat) (x : α) : Nat → α := fun j => if j = k then x else f j
def pDays (A : St) (n : Int32) : Int32 × St := if (0 ≤ n ∧ n ≤ 100) ∧ aDay A + tn n ≤ 1000 then (nI (aDay A + tn n), ((aDay A + tn n, aTape A), A.2)) else (-1, A)
def byF (n s : Int32) : Option Int32 := if jushr n s &&& 255 = 0 then none else some (jushr n s &&& 255)
def by4 (n : Int32) : List Int32 := (byF n 24).toList ++ (byF n 16).toList ++ (byF n 8).toList ++ (byF n 0).toList
def by20 (a b c d e : Int32) : List Int32 := by4 a ++ by4 b ++ by4 c ++ by4 d ++ by4 e
def pFeed (A : St) (a b c d e : Int32) : Int32 × St := if (aTape A).length + (by20 a b c d e).length ≤ 300 then (nI ((aTape A).length + (by20 a b c d e).length), ((aDay A, aTape A ++ by20 a b c d e), A.2)) else (-1, A)
def pEnd (A : St) (n : Int32) : Int32 × St := if 0 ≤ n ∧ n ≤ nI (aTape A).length then (1, ((aDay A, (aTape A).take (tn n)), A.2)) else (0, A)
def pKeep (A : St) (t : Int32) : Int32 × St := if 0 ≤ t ∧ t ≤ 7 then (nI (wds (aTape A)).length, ((aDay A, []), upF (aKept A) (tn t) (aTape A), A.2.2)) else (-1, A)
def pMark (A : St) (k : Int32) : Int32 × St := if (0 ≤ k ∧ k ≤ 7) ∧ 0 < (wds (aTape A)).length then (1, ((aDay A, []), aKept A, upF (aKind A) (tn k) (1, aTape A, 0, 2, 1, 0), A.2.2.2)) else (0, A)
def setKd (A : St) (k : Nat) (d : Kd) : St := (A.1, aKept A, upF (aKind A) k d, A.2.2.2)
def pNear (A : St) (k t n : Int32) : Int32 × St := if (0 ≤ k ∧ k ≤ 7) ∧ (0 ≤ t ∧ t ≤ 7) ∧ (2 ≤ n ∧ n ≤ 8) then (1, setKd A (tn k) (2, [], tn t, tn n, 1, 0)) else (0, A)
def pCount (A : St) (k m : Int32) : Int32 × St := if (0 ≤ k ∧ k ≤ 7) ∧ (1 ≤ m ∧ m ≤ 20) then (1, setKd A (tn k) (3, [], 0, 2, tn m, 0)) else (0, A)
def pPieces (A : St) (k t n m d : Int32) : Int32 × St := if (0 ≤ k ∧ k ≤ 7) ∧ (0 ≤ t ∧ t ≤ 7) ∧ (2 ≤ n ∧ n ≤ 8) ∧ (1 ≤ m ∧ m ≤ 50) ∧ (0 ≤ d ∧ d ≤ 30) then (1, setKd A (tn k) (4, [], tn t, tn n, tn m, tn d)) else (0, A)
def pAllow (A : St) (k s t : Int32) (is : Bool) : Int32 × St := if ((0 ≤ k ∧ k ≤ 7) ∧ (0 ≤ s ∧ s ≤ 9) ∧ (0 ≤ t ∧ t ≤ 9)) ∧ ¬ aAll A (pair (tn k) (tn s) (tn t)) = is then (1, (A.1, aKept A, aKind A, upF (aAll A) (pair (tn k) (tn s) (tn t)) is, A.2.2.2.2)) else (0, A)
def ruleOk (A : St) (p s w k a : Int32) : Bool := decide ((0 ≤ p ∧ p ≤ nI (aRul A).length) ∧ (-1 ≤ s ∧ s ≤ 9) ∧ (-1 ≤ w ∧ w ≤ 2) ∧ (0 ≤ k ∧ k ≤ 7) ∧ (0 ≤ a ∧ a ≤ 4))
def setR (A : St) (rs : List Rl) : St := (A.1, aKept A, aKind A, aAll A, rs, aLet A)
def pRule (A : St) (p s w k a : Int32) : Int32 × St := if ruleOk A p s w k a = true ∧ (aRul A).length < 20 then (nI ((aRul A).length + 1), setR A (insR (aRul A) (tn p) (s, w, tn k, tn a))) else (-1, A)
def pDrop (A : St) (p : Int32) : Int32 × St := if 0 ≤ p ∧ p ≤ nI (aRul A).length - 1 then (1, setR A (delR (aRul A) (tn p))) else (0, A)
def addL (A : St) (x : Lt) : St := ((aDay A, []), aKept A, aKind A, aAll A, aRul A, aLet A ++ [x])
def newL (A : St) (s t w : Nat) : Lt := ((s, t, w, aDay A, aTape A), (0, -1, 0, []))
/-- the letter, dealt with -/
def dealt (A1 : St) (l : Nat) (x : Lt) (o : Option Rl) : Lt := match o with
  | none => x
  | some r => (x.1, (rA r, nI (rK r), if rA r ≤ 2 then 0 else 1, findR A1 l (rK r)))
def sentL (A : St) (s t w : Nat) : Lt := dealt (addL A (newL A s t w)) (aLet A).length (newL A s t w) (sel (addL A (newL A s t w)) (aRul A) (aLet A).length)
def pSend (A : St) (s t w : Int32) : Int32 × St := if ((0 ≤ s ∧ s ≤ 9) ∧ (0 ≤ t ∧ t ≤ 9) ∧ (0 ≤ w ∧ w ≤ 2)) ∧ (aLet A).length < 60 then (nI (aLet A).length, addL A (sentL A (tn s) (tn t) (tn w))) else (-1, A)
def inL (A : St) (l : Int32) : Bool := decide (0 ≤ l ∧ l ≤ nI (aLet A).length - 1)
def setL (A : St) (i : Nat) (x : Lt) : St := (A.1, aKept A, aKind A, aAll A, aRul A, (aLet A).set i x)
def ansL (x : Lt) (is : Bool) : Lt := (x.1, (lAct x, lKind x, if is = true then 0 else 2, lR x))
def pAnswer (A : St) (l : Int32) (is : Bool) : Int32 × St := if inL A l = true ∧ lFate (lAt A (tn l)) = 1 then (1, setL A (tn l) (ansL (lAt A (tn l)) is)) else (0, A)
def toldL (x : Lt) (what : Int32) : Int32 := if what = 0 then nI (lS x) else if what = 1 then nI (lT x) else if what = 2 then nI (lW x) else if what = 3 then nI (lD x) else if what = 4 then nI (lAct x) else if what = 5 then lKind x else if what = 6 then nI (lFate x) else if what = 7 then nI (lB x).length else if what = 8 then nI (lR x).length else -1
def pTold (A : St) (l what : Int32) : Int32 := if inL A l = true then toldL (lAt A (tn l)) what else -1
def isBlk (R : List T3) (i : Nat) : Bool := R.any (fun y => decide (y.1 ≤ nI i ∧ nI i ≤ y.2.1))
def blk (B : List Int32) (R : List T3) : List Int32 := B.mapIdx (fun i c => if isBlk R i = true then 42 else c)
def lvg (x : Lt) : List Int32 := if lAct x = 2 then blk (lB x) (lR x) else lB x
def pAt (A : St) (l i : Int32) (lv : Bool) : Int32 := if inL A l = true ∧ (0 ≤ i ∧ i ≤ nI (lB (lAt A (tn l))).length - 1) then (if lv = true then lvg (lAt A (tn l)) else lB (lAt A (tn l))).getD (tn i) 0 else -1
def fndL (y : T3) (what : Int32) : Int32 := if what = 0 then y.1 else if what = 1 then y.2.1 else if what = 2 then y.2.2 else -1
def pFound (A : St) (l i what : Int32) : Int32 := if inL A l = true ∧ (0 ≤ i ∧ i ≤ nI (lR (lAt A (tn l))).length - 1) then fndL ((lR (lAt A (tn l))).getD (tn i) (0, 0, 0)) what else -1
def pWords (A : St) : Int32 := nI (wds (aTape A)).length
def pNumbers (A : St) : Int32 := nI (nms (bts (aTape A))).length
def pParts (A : St) (t n : Int32) : Int32 := if (0 ≤ t ∧ t ≤ 7) ∧ (2 ≤ n ∧ n ≤ 8) then nI (fb_ct (hasP (aTape A) (aKept A (tn t)) (tn n)) (wds (aKept A (tn t))).length) else -1
def pTrial (A : St) (p s w k a : Int32) : Int32 := if ruleOk A p s w k a = true then nI (oths A (insR (aRul A) (tn p) (s, w, tn k, tn a)) (aLet A).length).length else -1
def optI (o : Option Nat) : Int32 := match o with
  | some l => nI l
  | none => -1
def pTried (A : St) (p s w k a i : Int32) : Int32 := if ruleOk A p s w k a = true ∧ 0 ≤ i then optI (oths A (insR (aRul A) (tn p) (s, w, tn k, tn a)) (aLet A).length)[tn i]? else -1
def shr (a b : Int32) : Int32 := if a = -1 then jmax b 0 else if b = -1 ∨ b = a then a else -1
def quL (a b : Rl) : Int32 := if rA a = rA b ∨ ¬ rK a = rK b then -1 else if shr (rS a) (rS b) = -1 ∨ shr (rW a) (rW b) = -1 then -1 else 10 * shr (rS a) (rS b) + shr (rW a) (rW b)
def dfr : Rl := (0, 0, 0, 0)
def pQuarrel (A : St) (x y : Int32) : Int32 := if (0 ≤ x ∧ x ≤ nI (aRul A).length - 1) ∧ (0 ≤ y ∧ y ≤ nI (aRul A).length - 1) then quL ((aRul A).getD (tn x) dfr) ((aRul A).getD (tn y) dfr) else -1
def cntL (A : St) (p : Lt → Bool) : Nat := fb_ct (fun i => p (lAt A i)) (aLet A).length
def pState (A : St) (w : Int32) : Int32 := if w = 0 then nI (aDay A) else if w = 1 then nI (aLet A).length else if w = 2 then nI (aRul A).length else if w = 3 then nI (aTape A).length else if w = 4 then nI (cntL A (fun x => decide (lFate x = 1))) else if w = 5 then nI (cntL A (fun x => decide (lAct x = 1))) else if w = 6 then nI (cntL A (fun x => decide (lFate x = 2))) else -1
-- bounds
theorem in_nI {n : Int32} {m : Nat} (hm : m < 2 ^ 31) : (0 ≤ n ∧ n ≤ nI m) ↔ ∃ j, j ≤ m ∧ n = nI j := by
  constructor
  · rintro ⟨h1, h2⟩
    obtain ⟨j, hj, rfl⟩ := nI_of (x := n) (nlt.mpr h1)
    rw [nI_leI hj hm] at h2
    exact ⟨j, h2, rfl⟩
  · rintro ⟨j, hj, rfl⟩
    exact ⟨nI_pos' (by omega), nI_le hj hm⟩
theorem in_m1 {n : Int32} {m : Nat} (hm : m < 2 ^ 31) : (0 ≤ n ∧ n ≤ nI m - 1) ↔ ∃ j, j < m ∧ n = nI j := by
  cases m with
  | zero =>
    constructor
    · rintro ⟨h1, h2⟩
      exfalso
      rw [i32_le] at h1 h2
      have e1 : (0 : Int32).toInt = 0 := rfl
      have e2 : (nI 0 - 1).toInt = -1 := by decide
      omega
    · rintro ⟨j, hj, -⟩
      omega
  | succ m =>
    rw [nI_pred, in_nI (by omega)]
    constructor
    · rintro ⟨j, hj, e⟩
      exact ⟨j, by omega, e⟩
    · rintro ⟨j, hj, e⟩
      exact ⟨j, by omega, e⟩
theorem in_lo {n : Int32} {l m : Nat} (hm : m < 2 ^ 31) (hl : l < 2 ^ 31) : (nI l ≤ n ∧ n ≤ nI m) ↔ ∃ j, l ≤ j ∧ j ≤ m ∧ n = nI j := by
  constructor
  · rintro ⟨h1, h2⟩
    have h0 : 0 ≤ n := by
      rw [i32_le] at h1 ⊢
      rw [nI_toInt hl] at h1
      have e1 : (0 : Int32).toInt = 0 := rfl
      omega
    obtain ⟨j, hj, rfl⟩ := (in_nI hm).mp ⟨h0, h2⟩
    rw [nI_leI hl (by omega)] at h1
    exact ⟨j, h1, hj, rfl⟩
  · rintro ⟨j, h1, h2, rfl⟩
    exact ⟨nI_le h1 (by omega), nI_le h2 hm⟩
theorem in_any {n : Int32} {m : Nat} (hm : m < 2 ^ 30) : (-1 ≤ n ∧ n ≤ nI m) ↔ n = -1 ∨ ∃ j, j ≤ m ∧ n = nI j := by
  constructor
  · rintro ⟨h1, h2⟩
    by_cases h0 : 0 ≤ n
    · exact Or.inr ((in_nI (by omega)).mp ⟨h0, h2⟩)
    · left
      rw [i32_le] at h0 h1
      rw [i32_eq]
      have e1 : (0 : Int32).toInt = 0 := rfl
      have e2 : (-1 : Int32).toInt = -1 := rfl
      omega
  · rintro (rfl | ⟨j, hj, rfl⟩)
    · refine ⟨by decide, ?_⟩
      rw [i32_le, nI_toInt (by omega)]
      have e2 : (-1 : Int32).toInt = -1 := rfl
      omega
    · refine ⟨?_, nI_le hj (by omega)⟩
      rw [i32_le, nI_toInt (by omega)]
      have e2 : (-1 : Int32).toInt = -1 := rfl
      omega
