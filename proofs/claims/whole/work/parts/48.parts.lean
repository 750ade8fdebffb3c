/-! ===== PartSet: three longs as a set of numbers below 192; Findings ===== -/
/-- the set that three numbers' bits are -/
def PS (a m z : Nat) (S : Nat → Bool) : Prop := a < 2 ^ 64 ∧ m < 2 ^ 64 ∧ z < 2 ^ 64 ∧ (∀ k, k < 64 → a.testBit k = S k ∧ m.testBit k = S (64 + k) ∧ z.testBit k = S (128 + k)) ∧ ∀ k, 192 ≤ k → S k = false
/-- a PartSet at q -/
def PB (σ : AH) (q : Nat) (S : Nat → Bool) : Prop := ∃ a m z, σ.1[q]? = some (.inr (3, [.long (lN a), .long (lN m), .long (lN z)])) ∧ PS a m z S
def sIns (S : Nat → Bool) (p : Nat) : Nat → Bool := fun k => S k || decide (k = p)
def sEmp : Nat → Bool := fun _ => false
theorem PS.emp : PS 0 0 0 sEmp := by
  refine ⟨by decide, by decide, by decide, fun k _ => ?_, fun _ _ => rfl⟩
  simp [sEmp]
theorem bit_new {p : Nat} : jlshl 1 (nI p &&& 63) = lN (2 ^ (p % 64)) := by
  have e1 : nI p &&& 63 = nI (p % 64) := by
    have h1 := pk_and (nI p) (m := 63) 6 (by decide)
    rw [h1]
    have h2 : (nI p).toBitVec.toNat = p % 2 ^ 32 := BitVec.toNat_ofNat p 32
    rw [h2]
    congr 1
    omega
  rw [e1]
  show (1 : Int64) <<< ((nI (p % 64)).toInt64 &&& 63) = _
  have := wb_shl 1 (k := p % 64) (Nat.mod_lt _ (by decide))
  rw [Nat.one_mul] at this
  exact this
theorem jshr6 {p : Nat} (h : p < 2 ^ 31) : jshr (nI p) 6 = nI (p / 64) := by
  unfold jshr
  exact pk_shrN h _ 6 (by decide)
theorem two_lt (p : Nat) : 2 ^ (p % 64) < 2 ^ 64 := Nat.pow_lt_pow_right (by decide) (Nat.mod_lt _ (by decide))
section PARTS
variable {σ : AH} {q : Nat} {S : Nat → Bool}
theorem h3_put {p : Nat} (hP : PB σ q S) (hp : p < 192) : Hr (f3_put (some q) (nI p)) σ (fun _ σ' => Sm σ σ' q (q + 1) ∧ PB σ' q (sIns S p)) := by
  obtain ⟨a, m, z, h0, ha, hm, hz, hb, hbig⟩ := hP
  unfold f3_put
  rw [if_pos (nI_pos' (by omega)), jshr6 (by omega), bit_new]
  have hdm := Nat.div_add_mod p 64
  have hml : p % 64 < 64 := Nat.mod_lt _ (by decide)
  have big : ∀ k, 192 ≤ k → sIns S p k = false := fun k hk => by simp [sIns, hbig k hk]; omega
  refine b_ite (fun c => ?_) (fun c => ?_)
  · rw [show (0 : Int32) = nI 0 from rfl, nI_eq (by omega) (by omega)] at c
    refine (b_getL h0 rfl).mpr ?_
    refine b_putL h0 (by simp) fun σ' u => ?_
    refine hr_rt.mpr ⟨Sm.rf.up u (by omega) (by omega), a ||| 2 ^ (p % 64), m, z, ?_, Nat.or_lt_two_pow ha (two_lt p), hm, hz, fun k hk => ?_, big⟩
    · rw [u.1, fb_orL]; rfl
    · rw [fb_bit_set]
      obtain ⟨b1, b2, b3⟩ := hb k hk
      refine ⟨?_, ?_, ?_⟩
      · rw [b1]; simp only [sIns]; congr 2; rw [eq_iff_iff]; omega
      · rw [b2]; simp only [sIns]; rw [decide_eq_false (by omega), Bool.or_false]
      · rw [b3]; simp only [sIns]; rw [decide_eq_false (by omega), Bool.or_false]
  · rw [show (0 : Int32) = nI 0 from rfl, nI_eq (by omega) (by omega)] at c
    refine b_ite (fun c1 => ?_) (fun c1 => ?_)
    · rw [show (1 : Int32) = nI 1 from rfl, nI_eq (by omega) (by omega)] at c1
      refine (b_getL h0 rfl).mpr ?_
      refine b_putL h0 (by simp) fun σ' u => ?_
      refine hr_rt.mpr ⟨Sm.rf.up u (by omega) (by omega), a, m ||| 2 ^ (p % 64), z, ?_, ha, Nat.or_lt_two_pow hm (two_lt p), hz, fun k hk => ?_, big⟩
      · rw [u.1, fb_orL]; rfl
      · rw [fb_bit_set]
        obtain ⟨b1, b2, b3⟩ := hb k hk
        refine ⟨?_, ?_, ?_⟩
        · rw [b1]; simp only [sIns]; rw [decide_eq_false (by omega), Bool.or_false]
        · rw [b2]; simp only [sIns]; congr 2; rw [eq_iff_iff]; omega
        · rw [b3]; simp only [sIns]; rw [decide_eq_false (by omega), Bool.or_false]
    · rw [show (1 : Int32) = nI 1 from rfl, nI_eq (by omega) (by omega)] at c1
      rw [if_pos (by rw [show (2 : Int32) = nI 2 from rfl, nI_eq (by omega) (by omega)]; omega)]
      refine (b_getL h0 rfl).mpr ?_
      refine b_putL h0 (by simp) fun σ' u => ?_
      refine hr_rt.mpr ⟨Sm.rf.up u (by omega) (by omega), a, m, z ||| 2 ^ (p % 64), ?_, ha, hm, Nat.or_lt_two_pow hz (two_lt p), fun k hk => ?_, big⟩
      · rw [u.1, fb_orL]; rfl
      · rw [fb_bit_set]
        obtain ⟨b1, b2, b3⟩ := hb k hk
        refine ⟨?_, ?_, ?_⟩
        · rw [b1]; simp only [sIns]; rw [decide_eq_false (by omega), Bool.or_false]
        · rw [b2]; simp only [sIns]; rw [decide_eq_false (by omega), Bool.or_false]
        · rw [b3]; simp only [sIns]; congr 2; rw [eq_iff_iff]; omega
theorem h3_putN (hP : PB σ q S) : Hr (f3_put (some q) (-1)) σ (fun _ σ' => σ' = σ) := by
  unfold f3_put
  rw [if_neg (by decide)]
  exact hr_rt.mpr rfl
theorem h3_clear {a m z : Int64} (h0 : σ.1[q]? = some (.inr (3, [.long a, .long m, .long z]))) : Hr (f3_clear (some q)) σ (fun _ σ' => Sm σ σ' q (q + 1) ∧ PB σ' q sEmp) := by
  unfold f3_clear
  refine b_putL h0 (by simp) fun σ1 u1 => ?_
  refine b_putL u1.1 (by simp) fun σ2 u2 => ?_
  refine b_putL u2.1 (by simp) fun σ3 u3 => ?_
  exact hr_rt.mpr ⟨((Sm.rf.up u1 (by omega) (by omega)).up u2 (by omega) (by omega)).up u3 (by omega) (by omega), 0, 0, 0, u3.1, PS.emp⟩
theorem h3_putAll {q' : Nat} {S' : Nat → Bool} (hP : PB σ q S) (hP' : PB σ q' S') (hne : q' ≠ q) : Hr (f3_putAll (some q) (some q')) σ (fun _ σ' => Sm σ σ' q (q + 1) ∧ PB σ' q (fun k => S k || S' k)) := by
  obtain ⟨a, m, z, h0, ha, hm, hz, hb, hbig⟩ := hP
  obtain ⟨a', m', z', g0, ha', hm', hz', hb', hbig'⟩ := hP'
  unfold f3_putAll
  refine (b_getL h0 rfl).mpr ?_
  refine (b_getL g0 rfl).mpr ?_
  refine b_putL h0 (by simp) fun σ1 u1 => ?_
  have g1 := u1.ne g0 hne
  refine (b_getL u1.1 rfl).mpr ?_
  refine (b_getL g1 rfl).mpr ?_
  refine b_putL u1.1 (by simp) fun σ2 u2 => ?_
  have g2 := u2.ne g1 hne
  refine (b_getL u2.1 rfl).mpr ?_
  refine (b_getL g2 rfl).mpr ?_
  refine b_putL u2.1 (by simp) fun σ3 u3 => ?_
  refine hr_rt.mpr ⟨((Sm.rf.up u1 (by omega) (by omega)).up u2 (by omega) (by omega)).up u3 (by omega) (by omega), a ||| a', m ||| m', z ||| z', ?_, Nat.or_lt_two_pow ha ha', Nat.or_lt_two_pow hm hm', Nat.or_lt_two_pow hz hz', fun k hk => ?_, fun k hk => by simp [hbig k hk, hbig' k hk]⟩
  · rw [u3.1, fb_orL, fb_orL, fb_orL]; rfl
  · obtain ⟨b1, b2, b3⟩ := hb k hk
    obtain ⟨c1, c2, c3⟩ := hb' k hk
    rw [Nat.testBit_or, Nat.testBit_or, Nat.testBit_or, b1, b2, b3, c1, c2, c3]
    exact ⟨rfl, rfl, rfl⟩
end PARTS
