/-! ===== the mathematical side of texts: hexadecimal digits, small letters, unwrapping; the static methods ===== -/
def hx (c : Int32) : Int32 := if 48 ≤ c ∧ c ≤ 57 then c - 48 else if 97 ≤ c ∧ c ≤ 102 then c - 97 + 10 else if 65 ≤ c ∧ c ≤ 70 then c - 65 + 10 else -1
def dg (c : Int32) : Bool := decide (48 ≤ c ∧ c ≤ 57)
def sm (c : Int32) : Int32 := if 65 ≤ c ∧ c ≤ 90 then c - 65 + 97 else c
/-- a byte of a word, great letters being as small ones already -/
def iw (c : Int32) : Bool := dg c || decide (97 ≤ c ∧ c ≤ 122)
theorem nlt {a b : Int32} : ¬ a < b ↔ b ≤ a := Int32.not_lt
theorem nle {a b : Int32} : ¬ a ≤ b ↔ b < a := Int32.not_le
theorem e7_within (n l m : Int32) (σ : AH) : f7_within n l m σ = some (bI (decide (l ≤ n ∧ n ≤ m)), σ) := by
  unfold f7_within
  by_cases h1 : n < l
  · simp [h1, rt, bI, nle.mpr h1]
  · by_cases h2 : m < n
    · simp [h1, h2, rt, bI, nle.mpr h2]
    · simp [h1, h2, rt, bI, nlt.mp h1, nlt.mp h2]
theorem e8_in (n l m : Int32) (σ : AH) : f8_in n l m σ = some (bI (decide (l ≤ n ∧ n ≤ m)), σ) := e7_within n l m σ
theorem e6_isDigit (c : Int32) (σ : AH) : f6_isDigit c σ = some (bI (dg c), σ) := e7_within c 48 57 σ
theorem e8_isDigit (c : Int32) (σ : AH) : f8_isDigit c σ = some (bI (dg c), σ) := e7_within c 48 57 σ
theorem hexrest (c : Int32) (h0 : ¬ (48 ≤ c ∧ c ≤ 57)) (σ : AH) : (bn (α := Int32 ⊕ Unit) (if c < 97 then rt (.inr ()) else if 102 < c then rt (.inr ()) else rt (.inl (c - 97 + 10))) (Sum.elim (fun r => rt r) fun _ => if c < 65 then rt (-1) else if 70 < c then rt (-1) else rt (c - 65 + 10))) σ = some (hx c, σ) := by
  have key : ¬ (97 ≤ c ∧ c ≤ 102) → (if c < 65 then rt (-1) else if 70 < c then rt (-1) else rt (c - 65 + 10) : Cm Int32) σ = some (hx c, σ) := by
    intro h1
    unfold hx
    rw [if_neg h0, if_neg h1]
    by_cases h3 : c < 65
    · rw [if_pos h3, if_neg (fun h => absurd h3 (nlt.mpr h.1))]; rfl
    · rw [if_neg h3]
      by_cases h4 : 70 < c
      · rw [if_pos h4, if_neg (fun h => absurd h4 (nlt.mpr h.2))]; rfl
      · rw [if_neg h4, if_pos ⟨nlt.mp h3, nlt.mp h4⟩]; rfl
  by_cases h1 : c < 97
  · rw [if_pos h1, bn_rt, Sum.elim_inr]
    exact key (fun h => absurd h1 (nlt.mpr h.1))
  · rw [if_neg h1]
    by_cases h2 : 102 < c
    · rw [if_pos h2, bn_rt, Sum.elim_inr]
      exact key (fun h => absurd h2 (nlt.mpr h.2))
    · rw [if_neg h2, bn_rt, Sum.elim_inl]
      unfold hx
      rw [if_neg h0, if_pos ⟨nlt.mp h1, nlt.mp h2⟩]
      rfl
theorem e6_hexOf (c : Int32) (σ : AH) : f6_hexOf c σ = some (hx c, σ) := by
  unfold f6_hexOf
  rw [bn_ap (e6_isDigit c σ)]
  by_cases h0 : 48 ≤ c ∧ c ≤ 57
  · rw [if_neg (by rw [bI_0]; simp [dg, h0])]
    unfold hx
    rw [if_pos h0]
    rfl
  · rw [if_pos (by rw [bI_0]; simp only [dg, decide_eq_false_iff_not]; exact h0)]
    exact hexrest c h0 σ
theorem e8_hex (c : Int32) (σ : AH) : f8_hex c σ = some (hx c, σ) := by
  unfold f8_hex
  by_cases a1 : c < 48
  · rw [if_pos a1, bn_rt, Sum.elim_inr]
    exact hexrest c (fun h => absurd a1 (nlt.mpr h.1)) σ
  · rw [if_neg a1]
    by_cases a2 : 57 < c
    · rw [if_pos a2, bn_rt, Sum.elim_inr]
      exact hexrest c (fun h => absurd a2 (nlt.mpr h.2)) σ
    · rw [if_neg a2, bn_rt, Sum.elim_inl]
      unfold hx
      rw [if_pos ⟨nlt.mp a1, nlt.mp a2⟩]
      rfl
theorem e8_small (c : Int32) (σ : AH) : f8_small c σ = some (sm c, σ) := by
  unfold f8_small sm
  by_cases h1 : c < 65
  · have : ¬ (65 ≤ c ∧ c ≤ 90) := fun h => absurd h1 (nlt.mpr h.1)
    simp [h1, this, rt]
  · by_cases h2 : 90 < c
    · have : ¬ (65 ≤ c ∧ c ≤ 90) := fun h => absurd h2 (nlt.mpr h.2)
      simp [h1, h2, this, rt]
    · simp [h1, h2, nlt.mp h1, nlt.mp h2, rt]
theorem tI_add {a b : Int32} (h1 : -2147483648 ≤ a.toInt + b.toInt) (h2 : a.toInt + b.toInt < 2147483648) : (a + b).toInt = a.toInt + b.toInt := by
  rw [Int32.toInt_add]
  exact Int.bmod_eq_of_le (by omega) (by omega)
theorem tI_sub {a b : Int32} (h1 : -2147483648 ≤ a.toInt - b.toInt) (h2 : a.toInt - b.toInt < 2147483648) : (a - b).toInt = a.toInt - b.toInt := by
  rw [Int32.toInt_sub]
  exact Int.bmod_eq_of_le (by omega) (by omega)
theorem tI_mul {a b : Int32} (h1 : -2147483648 ≤ a.toInt * b.toInt) (h2 : a.toInt * b.toInt < 2147483648) : (a * b).toInt = a.toInt * b.toInt := by
  rw [Int32.toInt_mul]
  exact Int.bmod_eq_of_le (by omega) (by omega)
/-- c - k + m, k and m small -/
theorem tI_dif {c k m : Int32} {u v w : Int} (hc : c.toInt = u) (hk : k.toInt = v) (hm : m.toInt = w) (h1 : 0 ≤ u - v) (h2 : u - v ≤ 1000) (h3 : 0 ≤ w) (h4 : w ≤ 1000) : (c - k + m).toInt = u - v + w := by
  have e1 : (c - k).toInt = u - v := by rw [tI_sub (by omega) (by omega)]; omega
  rw [tI_add (by omega) (by omega)]
  omega
theorem sm_toInt (c : Int32) : (sm c).toInt = if 65 ≤ c.toInt ∧ c.toInt ≤ 90 then c.toInt + 32 else c.toInt := by
  unfold sm
  by_cases h : 65 ≤ c ∧ c ≤ 90
  · have h' : 65 ≤ c.toInt ∧ c.toInt ≤ 90 := ⟨(i32_le _ _).mp h.1, (i32_le _ _).mp h.2⟩
    rw [if_pos h, if_pos h', tI_dif (v := 65) (w := 97) rfl rfl rfl (by omega) (by omega) (by omega) (by omega)]
    omega
  · have h' : ¬ (65 ≤ c.toInt ∧ c.toInt ≤ 90) := fun q => h ⟨(i32_le _ _).mpr q.1, (i32_le _ _).mpr q.2⟩
    rw [if_neg h, if_neg h']
theorem dg_sm (c : Int32) : dg (sm c) = dg c := by
  unfold dg
  rw [decide_eq_decide, i32_le, i32_le, i32_le, i32_le, sm_toInt]
  show (48 ≤ _ ∧ _ ≤ 57) ↔ (48 ≤ c.toInt ∧ c.toInt ≤ 57)
  split <;> omega
theorem e8_isSign (c : Int32) (σ : AH) : f8_isSign c σ = some (bI (iw (sm c)), σ) := by
  unfold f8_isSign
  rw [bn_ap (e8_small c σ)]
  have key : ¬ (97 ≤ sm c ∧ sm c ≤ 122) → (bn (f8_isDigit c) fun v18 => if v18 = 0 then rt 0 else rt 1 : Cm Int32) σ = some (bI (iw (sm c)), σ) := by
    intro h
    rw [bn_ap (e8_isDigit c σ)]
    simp only [iw, dg_sm, h, decide_false, Bool.or_false]
    cases hd : dg c <;> rfl
  by_cases h1 : sm c < 97
  · rw [if_pos h1, bn_rt, Sum.elim_inr]
    exact key (fun h => absurd h1 (nlt.mpr h.1))
  · rw [if_neg h1]
    by_cases h2 : sm c ≤ 122
    · rw [if_pos h2, bn_rt, Sum.elim_inl]
      simp only [iw, nlt.mp h1, h2, and_self, decide_true, Bool.or_true]
      rfl
    · rw [if_neg h2, bn_rt, Sum.elim_inr]
      exact key (fun h => h2 h.2)
theorem hx_rng (c : Int32) : hx c = -1 ∨ (0 ≤ (hx c).toInt ∧ (hx c).toInt ≤ 15) := by
  unfold hx
  by_cases h0 : 48 ≤ c ∧ c ≤ 57
  · right
    have h' : 48 ≤ c.toInt ∧ c.toInt ≤ 57 := ⟨(i32_le _ _).mp h0.1, (i32_le _ _).mp h0.2⟩
    have e48 : (48 : Int32).toInt = 48 := rfl
    rw [if_pos h0, tI_sub (by omega) (by omega)]
    omega
  · rw [if_neg h0]
    by_cases h1 : 97 ≤ c ∧ c ≤ 102
    · right
      have h' : 97 ≤ c.toInt ∧ c.toInt ≤ 102 := ⟨(i32_le _ _).mp h1.1, (i32_le _ _).mp h1.2⟩
      rw [if_pos h1, tI_dif (v := 97) (w := 10) rfl rfl rfl (by omega) (by omega) (by omega) (by omega)]
      omega
    · rw [if_neg h1]
      by_cases h2 : 65 ≤ c ∧ c ≤ 70
      · right
        have h' : 65 ≤ c.toInt ∧ c.toInt ≤ 70 := ⟨(i32_le _ _).mp h2.1, (i32_le _ _).mp h2.2⟩
        rw [if_pos h2, tI_dif (v := 65) (w := 10) rfl rfl rfl (by omega) (by omega) (by omega) (by omega)]
        omega
      · left
        rw [if_neg h2]
/-- what two hexadecimal digits tell is never -1 -/
theorem hx_two {c d : Int32} (hc : ¬ hx c = -1) (hd : ¬ hx d = -1) : ¬ (16 * hx c + hx d) = -1 := by
  rcases hx_rng c with h | h
  · exact absurd h hc
  · rcases hx_rng d with g | g
    · exact absurd g hd
    · intro e
      have e2 := congrArg Int32.toInt e
      have e16 : (16 : Int32).toInt = 16 := rfl
      have em : (-1 : Int32).toInt = -1 := rfl
      have e3 : ((16 : Int32) * hx c).toInt = 16 * (hx c).toInt := tI_mul (by show -2147483648 ≤ 16 * (hx c).toInt; omega) (by show 16 * (hx c).toInt < 2147483648; omega)
      rw [tI_add (by omega) (by omega)] at e2
      omega
-- a byte with the places of its first and last byte in the text as it came
abbrev T3 : Type := Int32 × Int32 × Int32
/-- once unwrapped -/
def unw : List T3 → List T3
  | x :: y :: z :: r => if x.1 = 37 ∧ ¬ hx y.1 = -1 ∧ ¬ hx z.1 = -1 then (16 * hx y.1 + hx z.1, x.2.1, z.2.2) :: unw r else x :: unw (y :: z :: r)
  | l => l
theorem unw_len : ∀ (l : List T3), (unw l).length ≤ l.length := by
  intro l
  induction l using unw.induct with
  | case1 x y z r h ih => rw [unw, if_pos h]; simp only [List.length_cons]; omega
  | case2 x y z r h ih => rw [unw, if_neg h]; simp only [List.length_cons] at ih ⊢; omega
  | case3 l h => rw [unw.eq_2 l h]; exact Nat.le_refl _
/-- what stands in three rows of ints from a place on -/
def A3 (b f l : Nat → Int32) (i : Nat) (T : List T3) : Prop := ∀ k x, T[k]? = some x → b (i + k) = x.1 ∧ f (i + k) = x.2.1 ∧ l (i + k) = x.2.2
theorem A3.hd {b f l : Nat → Int32} {i : Nat} {x : T3} {T : List T3} (h : A3 b f l i (x :: T)) : b i = x.1 ∧ f i = x.2.1 ∧ l i = x.2.2 := h 0 x rfl
theorem A3.tl {b f l : Nat → Int32} {i : Nat} {x : T3} {T : List T3} (h : A3 b f l i (x :: T)) : A3 b f l (i + 1) T := fun k y hk => by
  have := h (k + 1) y hk
  rwa [show i + (k + 1) = i + 1 + k by omega] at this
theorem A3.up {b f l : Nat → Int32} {i j : Nat} {T : List T3} {x y z : Int32} (h : A3 b f l i T) (hj : j < i ∨ i + T.length ≤ j) : A3 (upd b j x) (upd f j y) (upd l j z) i T := by
  intro k w hk
  have hl := (List.getElem?_eq_some_iff.mp hk).1
  have hne : i + k ≠ j := by omega
  simp only [upd, if_neg hne]
  exact h k w hk
theorem A3.snoc {b f l : Nat → Int32} {T : List T3} {x : T3} (h : A3 b f l 0 T) : A3 (upd b T.length x.1) (upd f T.length x.2.1) (upd l T.length x.2.2) 0 (T ++ [x]) := by
  intro k w hk
  by_cases hl : k < T.length
  · rw [List.getElem?_append_left hl] at hk
    have hne : 0 + k ≠ T.length := by omega
    simp only [upd, if_neg hne]
    exact h k w hk
  · rw [List.getElem?_append_right (by omega)] at hk
    have hz : k - T.length < 1 := (List.getElem?_eq_some_iff.mp hk).1
    have hk0 : k = T.length := by omega
    subst hk0
    rw [Nat.sub_self] at hk
    cases hk
    simp [upd]
