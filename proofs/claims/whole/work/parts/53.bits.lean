/-! ===== Long.bitCount counts bits ===== -/
def rM (m : Nat) : Nat → Nat
  | 0 => 0
  | k + 1 => m + 256 * rM m k
theorem and_sp (b m a M : Nat) (hb : b < 256) (hm : m < 256) : (b + 256 * a) &&& (m + 256 * M) = (b &&& m) + 256 * (a &&& M) := by
  have h1 : ((b + 256 * a) &&& (m + 256 * M)) % 2 ^ 8 = (b &&& m) := by
    rw [Nat.and_mod_two_pow]
    congr 1 <;> omega
  have h2 : ((b + 256 * a) &&& (m + 256 * M)) / 2 ^ 8 = (a &&& M) := by
    rw [← Nat.shiftRight_eq_div_pow, Nat.shiftRight_and_distrib, Nat.shiftRight_eq_div_pow, Nat.shiftRight_eq_div_pow]
    congr 1 <;> omega
  have h3 := Nat.div_add_mod ((b + 256 * a) &&& (m + 256 * M)) (2 ^ 8)
  rw [h1, h2] at h3
  omega
def s1 (k n : Nat) : Nat := n - (n / 2 &&& rM 85 k)
def s2 (k n : Nat) : Nat := (n &&& rM 51 k) + (n / 4 &&& rM 51 k)
def s3 (k n : Nat) : Nat := (n + n / 16) &&& rM 15 k
def u1 (b : Nat) : Nat := b - (b / 2 &&& 85)
def u2 (b : Nat) : Nat := (b &&& 51) + (b / 4 &&& 51)
def u3 (b : Nat) : Nat := (b + b / 16) &&& 15
theorem u_dec1 : ∀ b, b < 256 → ∀ t, t < 2 → (b / 2 + 128 * t) &&& 85 = b / 2 &&& 85 ∧ (b / 2 &&& 85) ≤ b := by decide +kernel
theorem u_dec2 : ∀ b, b < 256 → ∀ t, t < 4 → (b / 4 + 64 * t) &&& 51 = b / 4 &&& 51 := by decide +kernel
theorem u_dec3 : ∀ b, b < 256 → u1 b < 256 ∧ u2 (u1 b) ≤ 68 ∧ u2 (u1 b) % 16 ≤ 4 ∧ u3 (u2 (u1 b)) = fb_ct (fun k => b.testBit k) 8 := by decide +kernel
theorem s1_sp (k b a : Nat) (hb : b < 256) : s1 (k + 1) (b + 256 * a) = u1 b + 256 * s1 k a := by
  unfold s1 u1
  have h := u_dec1 b hb (a % 2) (by omega)
  rw [show (b + 256 * a) / 2 = (b / 2 + 128 * (a % 2)) + 256 * (a / 2) by omega, rM, and_sp _ _ _ _ (by omega) (by decide), h.1]
  have h2 : (a / 2 &&& rM 85 k) ≤ a := Nat.le_trans Nat.and_le_left (by omega)
  have := h.2
  omega
theorem s2_sp (k b a : Nat) (hb : b < 256) : s2 (k + 1) (b + 256 * a) = u2 b + 256 * s2 k a := by
  unfold s2 u2
  have h := u_dec2 b hb (a % 4) (by omega)
  rw [show (b + 256 * a) / 4 = (b / 4 + 64 * (a % 4)) + 256 * (a / 4) by omega, rM, and_sp _ _ _ _ hb (by decide), and_sp _ _ _ _ (by omega) (by decide), h]
  omega
theorem s3_sp (k b a : Nat) (hb : b ≤ 68) (ha : a % 16 ≤ 4) : s3 (k + 1) (b + 256 * a) = u3 b + 256 * s3 k a := by
  unfold s3 u3
  rw [show b + 256 * a + (b + 256 * a) / 16 = (b + b / 16 + 16 * (a % 16)) + 256 * (a + a / 16) by omega, rM, and_sp _ _ _ _ (by omega) (by decide)]
  congr 1
  have e1 := Nat.and_two_pow_sub_one_eq_mod (b + b / 16 + 16 * (a % 16)) 4
  have e2 := Nat.and_two_pow_sub_one_eq_mod (b + b / 16) 4
  rw [show (15 : Nat) = 2 ^ 4 - 1 by decide, e1, e2]
  omega
theorem ct_sp (b a m : Nat) (hb : b < 256) : fb_ct (fun k => (b + 256 * a).testBit k) (8 + m) = fb_ct (fun k => b.testBit k) 8 + fb_ct (fun k => a.testBit k) m := by
  rw [fb_ct_split]
  congr 1
  · refine fb_ct_cong fun k hk => ?_
    rw [Nat.testBit_eq_decide_div_mod_eq, Nat.testBit_eq_decide_div_mod_eq]
    congr 2
    rcases (show k = 0 ∨ k = 1 ∨ k = 2 ∨ k = 3 ∨ k = 4 ∨ k = 5 ∨ k = 6 ∨ k = 7 by omega) with rfl | rfl | rfl | rfl | rfl | rfl | rfl | rfl <;> omega
  · refine fb_ct_cong fun k hk => ?_
    rw [Nat.testBit_eq_decide_div_mod_eq, Nat.testBit_eq_decide_div_mod_eq, Nat.pow_add, ← Nat.div_div_eq_div_mul, show (b + 256 * a) / 2 ^ 8 = a by omega]
/-- the sums of the bytes -/
def bsum : Nat → Nat → Nat
  | 0, _ => 0
  | k + 1, n => n % 256 + bsum k (n / 256)
theorem s_all : ∀ (k n : Nat), n < 256 ^ k → s2 k (s1 k n) % 16 ≤ 4 ∧ s3 k (s2 k (s1 k n)) < 256 ^ k ∧ bsum k (s3 k (s2 k (s1 k n))) = fb_ct (fun j => n.testBit j) (8 * k) ∧ ∀ i, s3 k (s2 k (s1 k n)) / 256 ^ i % 256 ≤ 8 := by
  intro k
  induction k with
  | zero =>
    intro n h
    have : n = 0 := by simpa using h
    subst this
    refine ⟨by decide, by decide, rfl, fun i => ?_⟩
    show (0 : Nat) / 256 ^ i % 256 ≤ 8
    simp
  | succ k ih =>
    intro n h
    obtain ⟨b, a, hb, rfl⟩ : ∃ b a, b < 256 ∧ n = b + 256 * a := ⟨n % 256, n / 256, Nat.mod_lt _ (by decide), by omega⟩
    have ha : a < 256 ^ k := by
      rw [Nat.pow_succ] at h
      omega
    obtain ⟨i1, i2, i3, i4⟩ := ih a ha
    obtain ⟨d1, d2, d3, d4⟩ := u_dec3 b hb
    have hu3 : u3 (u2 (u1 b)) ≤ 8 := by rw [d4]; exact fb_ct_le _ _
    rw [s1_sp k b a hb, s2_sp k _ _ d1, s3_sp k _ _ d2 i1]
    refine ⟨by omega, by rw [Nat.pow_succ]; omega, ?_, fun i => ?_⟩
    · rw [bsum, show (u3 (u2 (u1 b)) + 256 * s3 k (s2 k (s1 k a))) % 256 = u3 (u2 (u1 b)) by omega, show (u3 (u2 (u1 b)) + 256 * s3 k (s2 k (s1 k a))) / 256 = s3 k (s2 k (s1 k a)) by omega, i3, d4, show 8 * (k + 1) = 8 + 8 * k by omega, ct_sp b a _ hb]
    · cases i with
      | zero => rw [Nat.pow_zero, Nat.div_one]; omega
      | succ i =>
        have := i4 i
        rw [Nat.pow_succ, Nat.mul_comm (256 ^ i) 256, ← Nat.div_div_eq_div_mul, show (u3 (u2 (u1 b)) + 256 * s3 k (s2 k (s1 k a))) / 256 = s3 k (s2 k (s1 k a)) by omega]
        exact this
theorem jl_at {a k : Nat} (ha : a < 2 ^ 64) (hk : k < 64) : jlushr (lN a) (nI k) = lN (a / 2 ^ k) := wb_shr ha hk
