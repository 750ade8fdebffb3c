/-! ===== Findings ===== -/
/-- the parts that findings tell -/
def sOf (R : List T3) : Nat → Bool := fun k => decide (k < 192) && R.any (fun x => decide (x.2.2 = nI k))
/-- a Findings at q: R was found, the first cap of it are kept -/
def FB (σ : AH) (q cap : Nat) (R : List T3) : Prop := ∃ F L P, σ.1[q]? = some (.inr (0, [.ref (q + 2), .ref (q + 3), .ref (q + 4), .ref (q + 1), .int (nI R.length)])) ∧ σ.1[q + 2]? = some (.inl (0, cap, .inl F)) ∧ σ.1[q + 3]? = some (.inl (0, cap, .inl L)) ∧ σ.1[q + 4]? = some (.inl (0, cap, .inl P)) ∧ PB σ (q + 1) (sOf R) ∧ A3 F L P 0 (R.take cap)
theorem PB.frame {σ σ' : AH} {q : Nat} {S : Nat → Bool} (h : PB σ q S) (hk : σ'.1[q]? = σ.1[q]?) : PB σ' q S := by
  obtain ⟨a, m, z, h0, h1⟩ := h
  exact ⟨a, m, z, by rw [hk]; exact h0, h1⟩
theorem FB.frame {σ σ' : AH} {q cap : Nat} {R : List T3} (hF : FB σ q cap R) (hk : ∀ k, q ≤ k → k < q + 5 → σ'.1[k]? = σ.1[k]?) : FB σ' q cap R := by
  obtain ⟨F, L, P, h0, h1, h2, h3, h4, h5⟩ := hF
  exact ⟨F, L, P, by rw [hk _ (by omega) (by omega)]; exact h0, by rw [hk _ (by omega) (by omega)]; exact h1, by rw [hk _ (by omega) (by omega)]; exact h2, by rw [hk _ (by omega) (by omega)]; exact h3, h4.frame (hk _ (by omega) (by omega)), h5⟩
theorem Sm.wid {σ σ' : AH} {lo hi lo' hi' : Nat} (h : Sm σ σ' lo hi) (h1 : lo' ≤ lo) (h2 : hi ≤ hi') : Sm σ σ' lo' hi' := ⟨fun k hk => h.1 k (by omega), h.2⟩
theorem sOf_add {R : List T3} {x y : Int32} {p : Nat} (hp : p < 192) : sOf (R ++ [(x, y, nI p)]) = sIns (sOf R) p := by
  funext k
  simp only [sOf, sIns, List.any_append, List.any_cons, List.any_nil, Bool.or_false]
  by_cases hk : k < 192
  · have : decide (nI p = nI k) = decide (k = p) := by
      rw [decide_eq_decide, nI_eq (by omega) (by omega)]
      exact eq_comm
    simp [hk, this]
  · have : ¬ k = p := by omega
    simp [hk, this]
theorem m1_ne {k : Nat} (h : k < 2 ^ 31) : ¬ (-1 : Int32) = nI k := by
  intro e
  have := congrArg Int32.toInt e
  rw [nI_toInt h] at this
  have e1 : (-1 : Int32).toInt = -1 := rfl
  omega
theorem sOf_addN {R : List T3} {x y : Int32} : sOf (R ++ [(x, y, -1)]) = sOf R := by
  funext k
  simp only [sOf, List.any_append, List.any_cons, List.any_nil, Bool.or_false]
  by_cases hk : k < 192
  · have := m1_ne (k := k) (by omega)
    simp [hk, this]
  · simp [hk]
section FIND
variable {σ : AH} {q cap : Nat} {R : List T3}
theorem h0_put {x y z : Int32} (hF : FB σ q cap R) (hz : z = -1 ∨ ∃ p, p < 192 ∧ z = nI p) (hR : R.length < 2 ^ 30) (hc : cap < 2 ^ 30) : Hr (f0_put (some q) x y z) σ (fun _ σ' => Sm σ σ' q (q + 5) ∧ FB σ' q cap (R ++ [(x, y, z)])) := by
  obtain ⟨F, L, P, h0, h1, h2, h3, h4, h5⟩ := hF
  unfold f0_put
  refine (b_getI h0 rfl).mpr ?_
  refine (b_getR h0 rfl).mpr ?_
  refine (b_len h1).mpr ?_
  refine b_hr (P := fun _ σ' => Sm σ σ' q (q + 5) ∧ ∃ F' L' P', σ'.1[q]? = some (.inr (0, [.ref (q + 2), .ref (q + 3), .ref (q + 4), .ref (q + 1), .int (nI R.length)])) ∧ σ'.1[q + 2]? = some (.inl (0, cap, .inl F')) ∧ σ'.1[q + 3]? = some (.inl (0, cap, .inl L')) ∧ σ'.1[q + 4]? = some (.inl (0, cap, .inl P')) ∧ PB σ' (q + 1) (sOf R) ∧ A3 F' L' P' 0 ((R ++ [(x, y, z)]).take cap)) ?_ ?_
  · refine b_ite (fun c => ?_) (fun c => ?_)
    · have c : cap ≤ R.length := (nI_leI (by omega) (by omega)).mp c
      refine hr_rt.mpr ⟨Sm.rf, F, L, P, h0, h1, h2, h3, h4, ?_⟩
      rw [List.take_append_of_le_length c]
      exact h5
    · have c : ¬ cap ≤ R.length := fun hq => c ((nI_leI (by omega) (by omega)).mpr hq)
      refine (b_getR h0 rfl).mpr ?_
      refine (b_getI h0 rfl).mpr ?_
      refine b_st h1 rfl (by omega) (by omega) fun σ1 u1 => ?_
      have k0 := u1.ne h0 (by omega)
      refine (b_getR k0 rfl).mpr ?_
      refine (b_getI k0 rfl).mpr ?_
      refine b_st (u1.ne h2 (by omega)) rfl (by omega) (by omega) fun σ2 u2 => ?_
      have m0 := u2.ne k0 (by omega)
      refine (b_getR m0 rfl).mpr ?_
      refine (b_getI m0 rfl).mpr ?_
      refine b_st (u2.ne (u1.ne h3 (by omega)) (by omega)) rfl (by omega) (by omega) fun σ3 u3 => ?_
      refine hr_rt.mpr ⟨((Sm.rf.up u1 (by omega) (by omega)).up u2 (by omega) (by omega)).up u3 (by omega) (by omega), _, _, _, u3.ne m0 (by omega), u3.ne (u2.ne u1.1 (by omega)) (by omega), u3.ne u2.1 (by omega), u3.1, h4.frame (by rw [u3.2.1 _ (by omega), u2.2.1 _ (by omega), u1.2.1 _ (by omega)]), ?_⟩
      rw [List.take_of_length_le (by simp; omega)]
      rw [List.take_of_length_le (by omega)] at h5
      exact A3.snoc (x := ((x, y, z) : T3)) h5
  · rintro _ σ1 ⟨hS1, F', L', P', k0, k1, k2, k3, k4, k5⟩
    refine (b_getI k0 rfl).mpr ?_
    refine b_putI k0 (by simp) fun σ2 u => ?_
    have hP2 : PB σ2 (q + 1) (sOf R) := k4.frame (u.2.1 _ (by omega))
    have hS2 : Sm σ σ2 q (q + 5) := hS1.up u (by omega) (by omega)
    have o2 : σ2.1[q]? = some (.inr (0, [.ref (q + 2), .ref (q + 3), .ref (q + 4), .ref (q + 1), .int (nI (R ++ [(x, y, z)]).length)])) := by
      rw [u.1, nI_1, List.length_append]; rfl
    refine (b_getR o2 rfl).mpr ?_
    have hP2' := hP2
    obtain ⟨a, m, zz, p0, -⟩ := hP2'
    refine (b_obj p0).mpr ?_
    have fin : ∀ σ3, Sm σ2 σ3 (q + 1) (q + 1 + 1) → PB σ3 (q + 1) (sOf (R ++ [(x, y, z)])) → Hr (rt ()) σ3 (fun _ σ' => Sm σ σ' q (q + 5) ∧ FB σ' q cap (R ++ [(x, y, z)])) := by
      intro σ3 hS3 hP3
      have fr : ∀ k, k ≠ q + 1 → σ3.1[k]? = σ2.1[k]? := fun k hk => hS3.1 k (by omega)
      refine hr_rt.mpr ⟨hS2.tr (hS3.wid (by omega) (by omega)), F', L', P', ?_, ?_, ?_, ?_, hP3, k5⟩
      · rw [fr _ (by omega)]; exact o2
      · rw [fr _ (by omega)]; exact u.ne k1 (by omega)
      · rw [fr _ (by omega)]; exact u.ne k2 (by omega)
      · rw [fr _ (by omega)]; exact u.ne k3 (by omega)
    rcases hz with rfl | ⟨p, hp, rfl⟩
    · refine b_hr (h3_putN hP2) ?_
      rintro _ σ3 rfl
      exact fin σ3 Sm.rf (by rw [sOf_addN]; exact hP2)
    · refine b_hr (h3_put hP2 hp) ?_
      rintro _ σ3 ⟨hS3, hP3⟩
      exact fin σ3 hS3 (by rw [sOf_add hp]; exact hP3)
theorem sOf_nil : sOf [] = sEmp := by funext k; simp [sOf, sEmp]
theorem h0_clear (hF : FB σ q cap R) : Hr (f0_clear (some q)) σ (fun _ σ' => Sm σ σ' q (q + 5) ∧ FB σ' q cap []) := by
  obtain ⟨F, L, P, h0, h1, h2, h3, ⟨a, m, z, p0, -⟩, h5⟩ := hF
  unfold f0_clear
  refine b_putI h0 (by simp) fun σ1 u => ?_
  refine (b_getR u.1 rfl).mpr ?_
  have p1 := u.ne p0 (by omega)
  refine (b_obj p1).mpr ?_
  refine b_hr (h3_clear p1) ?_
  rintro _ σ2 ⟨hS2, hP2⟩
  have fr : ∀ k, k ≠ q + 1 → σ2.1[k]? = σ1.1[k]? := fun k hk => hS2.1 k (by omega)
  refine hr_rt.mpr ⟨(Sm.rf.up u (by omega) (by omega)).tr (hS2.wid (by omega) (by omega)), F, L, P, ?_, ?_, ?_, ?_, by rw [sOf_nil]; exact hP2, fun k x hk => by simp at hk⟩
  · rw [fr _ (by omega)]; exact u.1
  · rw [fr _ (by omega)]; exact u.ne h1 (by omega)
  · rw [fr _ (by omega)]; exact u.ne h2 (by omega)
  · rw [fr _ (by omega)]; exact u.ne h3 (by omega)
end FIND
