/-! ===== new objects ===== -/
theorem half_nI {c : Nat} (hc : c < 2 ^ 30) : (nI c + 1) / 2 = nI ((c + 1) / 2) := by
  rw [nI_1, show (2 : Int32) = nI 2 from rfl]
  exact pk_div (by omega) (by decide) (by decide)
theorem h6_init {σ : AH} {q cap : Nat} (h0 : σ.1[q]? = some (.inr (6, [.null, .null, .null, .int 0, .null, .null, .null, .int 0]))) (hl : σ.1.length = q + 1) (hc : cap ≤ 300) :
    Hr (f6_init (some q) (nI cap)) σ (fun _ σ' => σ'.1.length = q + 7 ∧ σ'.2 = σ.2 + 3 * cap + 3 * ((cap + 1) / 2) ∧ (∀ k, k < q → σ'.1[k]? = σ.1[k]?) ∧ TB σ' q cap (fun _ => 0) (fun _ => 0) (fun _ => 0) 0 (fun _ => 0) (fun _ => 0) (fun _ => 0) 0) := by
  unfold f6_init
  rw [jmax_0 (by omega), half_nI (by omega)]
  refine (b_obj h0).mpr ?_
  refine b_putI h0 (by simp) fun σ1 u1 => ?_
  refine b_putI u1.1 (by simp) fun σ2 u2 => ?_
  refine b_newA rfl (by omega) fun σ3 n1 => ?_
  have o3 := n1.old u2.1
  refine b_putR o3 (by simp) fun σ4 u4 => ?_
  refine b_newA rfl (by omega) fun σ5 n2 => ?_
  have o5 := n2.old u4.1
  refine b_putR o5 (by simp) fun σ6 u6 => ?_
  refine b_newA rfl (by omega) fun σ7 n3 => ?_
  have o7 := n3.old u6.1
  refine b_putR o7 (by simp) fun σ8 u8 => ?_
  refine b_newA rfl (by omega) fun σ9 n4 => ?_
  have o9 := n4.old u8.1
  refine b_putR o9 (by simp) fun σ10 u10 => ?_
  refine b_newA rfl (by omega) fun σ11 n5 => ?_
  have o11 := n5.old u10.1
  refine b_putR o11 (by simp) fun σ12 u12 => ?_
  refine b_newA rfl (by omega) fun σ13 n6 => ?_
  have o13 := n6.old u12.1
  refine b_putR o13 (by simp) fun σ14 u14 => ?_
  have l1 := u1.2.2; have l2 := u2.2.2; have l3 := n1.2.2; have l4 := u4.2.2; have l5 := n2.2.2; have l6 := u6.2.2; have l7 := n3.2.2; have l8 := u8.2.2; have l9 := n4.2.2; have l10 := u10.2.2; have l11 := n5.2.2; have l12 := u12.2.2; have l13 := n6.2.2; have l14 := u14.2.2
  have e3 : σ2.1.length = q + 1 := by omega
  have e5 : σ4.1.length = q + 2 := by omega
  have e7 : σ6.1.length = q + 3 := by omega
  have e9 : σ8.1.length = q + 4 := by omega
  have e11 : σ10.1.length = q + 5 := by omega
  have e13 : σ12.1.length = q + 6 := by omega
  have c1 := n1.1; have c2 := n2.1; have c3 := n3.1; have c4 := n4.1; have c5 := n5.1; have c6 := n6.1
  rw [e3] at c1; rw [e5] at c2; rw [e7] at c3; rw [e9] at c4; rw [e11] at c5; rw [e13] at c6
  refine hr_rt.mpr ⟨by omega, by omega, fun k hk => ?_, ?_, ?_, ?_, ?_, ?_, ?_, ?_⟩
  · rw [u14.2.1 k (by omega), n6.2.1 k (by omega), u12.2.1 k (by omega), n5.2.1 k (by omega), u10.2.1 k (by omega), n4.2.1 k (by omega), u8.2.1 k (by omega), n3.2.1 k (by omega), u6.2.1 k (by omega), n2.2.1 k (by omega), u4.2.1 k (by omega), n1.2.1 k (by omega), u2.2.1 k (by omega), u1.2.1 k (by omega)]
  · rw [u14.1, e3, e5, e7, e9, e11, e13]; rfl
  · exact u14.ne (n6.old (u12.ne (n5.old (u10.ne (n4.old (u8.ne (n3.old (u6.ne (n2.old (u4.ne c1 (by omega))) (by omega))) (by omega))) (by omega))) (by omega))) (by omega)
  · exact u14.ne (n6.old (u12.ne (n5.old (u10.ne (n4.old (u8.ne (n3.old (u6.ne c2 (by omega))) (by omega))) (by omega))) (by omega))) (by omega)
  · exact u14.ne (n6.old (u12.ne (n5.old (u10.ne (n4.old (u8.ne c3 (by omega))) (by omega))) (by omega))) (by omega)
  · exact u14.ne (n6.old (u12.ne (n5.old (u10.ne c4 (by omega))) (by omega))) (by omega)
  · exact u14.ne (n6.old (u12.ne c5 (by omega))) (by omega)
  · exact u14.ne c6 (by omega)
