/-! ===== new Findings ===== -/
theorem h3_init {σ : AH} {q : Nat} {a m z : Int64} (h0 : σ.1[q]? = some (.inr (3, [.long a, .long m, .long z]))) : Hr (f3_init (some q)) σ (fun _ σ' => Sm σ σ' q (q + 1) ∧ PB σ' q sEmp) := by
  unfold f3_init
  refine (b_obj h0).mpr ?_
  exact h3_clear h0
theorem h0_init {σ : AH} {q cap : Nat} (h0 : σ.1[q]? = some (.inr (0, [.null, .null, .null, .null, .int 0]))) (hl : σ.1.length = q + 1) (hc : cap < 100000) :
    Hr (f0_init (some q) (nI cap)) σ (fun _ σ' => σ'.1.length = q + 5 ∧ σ'.2 = σ.2 + 3 + 3 * cap ∧ (∀ k, k < q → σ'.1[k]? = σ.1[k]?) ∧ FB σ' q cap []) := by
  unfold f0_init
  rw [jmax_0 (by omega)]
  refine (b_obj h0).mpr ?_
  refine b_newO fun σ1 n1 => ?_
  have c1 := n1.1
  rw [hl] at c1 ⊢
  refine (b_obj c1).mpr ?_
  refine b_hr (h3_init c1) ?_
  rintro _ σ2 ⟨hS2, hP2⟩
  have o2 : σ2.1[q]? = some (.inr (0, [.null, .null, .null, .null, .int 0])) := by rw [hS2.1 q (by omega)]; exact n1.old h0
  refine b_putR o2 (by simp) fun σ3 u3 => ?_
  refine b_putI u3.1 (by simp) fun σ4 u4 => ?_
  refine b_newA rfl (by omega) fun σ5 n5 => ?_
  refine b_putR (n5.old u4.1) (by simp) fun σ6 u6 => ?_
  refine b_newA rfl (by omega) fun σ7 n7 => ?_
  refine b_putR (n7.old u6.1) (by simp) fun σ8 u8 => ?_
  refine b_newA rfl (by omega) fun σ9 n9 => ?_
  refine b_putR (n9.old u8.1) (by simp) fun σ10 u10 => ?_
  have l1 := n1.2.2; have l2 := hS2.2; have l3 := u3.2.2; have l4 := u4.2.2; have l5 := n5.2.2; have l6 := u6.2.2; have l7 := n7.2.2; have l8 := u8.2.2; have l9 := n9.2.2; have l10 := u10.2.2
  simp only [List.length_cons, List.length_nil] at l1
  have e5 : σ4.1.length = q + 2 := by omega
  have e7 : σ6.1.length = q + 3 := by omega
  have e9 : σ8.1.length = q + 4 := by omega
  have c5 := n5.1; have c7 := n7.1; have c9 := n9.1
  rw [e5] at c5; rw [e7] at c7; rw [e9] at c9
  refine hr_rt.mpr ⟨by omega, by omega, fun k hk => ?_, (fun _ => 0), (fun _ => 0), (fun _ => 0), ?_, ?_, ?_, ?_, ?_, fun k x hk => by simp at hk⟩
  · rw [u10.2.1 k (by omega), n9.2.1 k (by omega), u8.2.1 k (by omega), n7.2.1 k (by omega), u6.2.1 k (by omega), n5.2.1 k (by omega), u4.2.1 k (by omega), u3.2.1 k (by omega), hS2.1 k (by omega), n1.2.1 k (by omega)]
  · rw [u10.1, e5, e7, e9]; rfl
  · exact u10.ne (n9.old (u8.ne (n7.old (u6.ne c5 (by omega))) (by omega))) (by omega)
  · exact u10.ne (n9.old (u8.ne c7 (by omega))) (by omega)
  · exact u10.ne c9 (by omega)
  · rw [sOf_nil]
    refine hP2.frame ?_
    rw [u10.2.1 _ (by omega), n9.2.1 _ (by omega), u8.2.1 _ (by omega), n7.2.1 _ (by omega), u6.2.1 _ (by omega), n5.2.1 _ (by omega), u4.2.1 _ (by omega), u3.2.1 _ (by omega)]
