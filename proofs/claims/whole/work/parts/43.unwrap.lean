/-! ===== Text.unwrapOnce ===== -/
theorem drop_hd {α : Type} {T : List α} {i : Nat} (h : i < T.length) : ∃ x, T.drop i = x :: T.drop (i + 1) := ⟨T[i], List.drop_eq_getElem_cons h⟩
section TEXT
variable {σ : AH} {q cap n w : Nat} {b f l s e h : Nat → Int32}
theorem TB.st3 {σ1 σ2 σ3 : AH} {j : Nat} {x y z : Int32} (hT : TB σ q cap b f l n s e h w) (u1 : Up σ σ1 (q + 1) (.inl (0, cap, .inl (upd b j x)))) (u2 : Up σ1 σ2 (q + 2) (.inl (0, cap, .inl (upd f j y)))) (u3 : Up σ2 σ3 (q + 3) (.inl (0, cap, .inl (upd l j z)))) : TB σ3 q cap (upd b j x) (upd f j y) (upd l j z) n s e h w := by
  obtain ⟨h0, h1, h2, h3, h4, h5, h6⟩ := hT
  have g : ∀ k (v : va_E), σ.1[k]? = some v → k ≠ q + 1 → k ≠ q + 2 → k ≠ q + 3 → σ3.1[k]? = some v := fun k v hv a1 a2 a3 => u3.ne (u2.ne (u1.ne hv a1) a2) a3
  exact ⟨g _ _ h0 (by omega) (by omega) (by omega), u3.ne (u2.ne u1.1 (by omega)) (by omega), u3.ne u2.1 (by omega), u3.1, g _ _ h4 (by omega) (by omega) (by omega), g _ _ h5 (by omega) (by omega) (by omega), g _ _ h6 (by omega) (by omega) (by omega)⟩
theorem h6_unwrapOnce {T : List T3} (hT : TB σ q cap b f l n s e h w) (hA : A3 b f l 0 T) (hl : T.length = n) (hn : n ≤ cap) (hc : cap ≤ 300) :
    Hr (f6_unwrapOnce (some q)) σ (fun _ σ' => Sm σ σ' q (q + 7) ∧ ∃ b' f' l', TB σ' q cap b' f' l' (unw T).length s e h w ∧ A3 b' f' l' 0 (unw T)) := by
  unfold f6_unwrapOnce
  refine b_hr (P := fun y σ' => ∃ b' f' l', y = nI (unw T).length ∧ Sm σ σ' q (q + 7) ∧ TB σ' q cap b' f' l' n s e h w ∧ A3 b' f' l' 0 (unw T)) ?_ ?_
  · refine hr_loop (fun x σ1 => ∃ (i j : Nat) (b1 f1 l1 : Nat → Int32) (O : List T3), x = (nI i, nI j) ∧ TB σ1 q cap b1 f1 l1 n s e h w ∧ Sm σ σ1 q (q + 7) ∧ O.length = j ∧ j ≤ i ∧ i ≤ n ∧ A3 b1 f1 l1 0 O ∧ A3 b1 f1 l1 i (T.drop i) ∧ O ++ unw (T.drop i) = unw T) (fun x => n - x.1.toNatClampNeg) ⟨0, 0, b, f, l, [], rfl, hT, Sm.rf, rfl, Nat.le_refl _, Nat.zero_le _, fun k x hk => by simp at hk, by simpa using hA, by simp⟩ (by show n - _ < _; omega) ?_
    rintro rec x σ1 ⟨i, j, b1, f1, l1, O, rfl, hT1, hS1, hO, hji, hin, hA0, hAi, hU⟩ ih
    unfold l6_unwrapOnce_4
    dsimp only
    have hT1' := hT1
    obtain ⟨h0, h1, h2, h3, h4, h5, h6⟩ := hT1'
    refine (b_getI h0 rfl).mpr ?_
    refine b_ite (fun c => ?_) (fun c => ?_)
    · rw [nI_leI (by omega) (by omega)] at c
      have hi : i = n := by omega
      subst hi
      have hd : T.drop i = [] := List.drop_eq_nil_of_le (by omega)
      rw [hd, unw.eq_2 [] (by intro _ _ _ _ h; cases h), List.append_nil] at hU
      refine hr_rt.mpr ⟨b1, f1, l1, ?_, hS1, hT1, ?_⟩
      · rw [← hU, hO]
      · rw [← hU]; exact hA0
    · rw [nI_leI (by omega) (by omega)] at c
      obtain ⟨x, hx⟩ := drop_hd (T := T) (i := i) (by omega)
      have hlen : (x :: T.drop (i + 1)).length = n - i := by rw [← hx, List.length_drop, hl]
      rw [hx] at hAi hU
      refine (b_obj h0).mpr ?_
      refine (b_eq (e6_wrappedAt hT1 hAi (by omega) hn hc (by rw [hlen]; omega))).mpr ?_
      -- one place goes out, width places are taken
      have go : ∀ (wd : Nat) (v : Int32) (z : T3) (r : List T3), 1 ≤ wd → i + wd ≤ n → (v, x.2.1, z.2.2) :: unw r = unw (x :: T.drop (i + 1)) → T.drop (i + wd) = r → l1 (i + wd - 1) = z.2.2 →
          Hr (bn (oSt 0 (some (q + 1)) (nI j) v) fun _ => bn (oGetR (some q) 6 1) fun v52 => bn (oGetR (some q) 6 1) fun v57 => bn (oLd 0 v57 (nI i)) fun v61 => bn (oSt 0 v52 (nI j) v61) fun _ => bn (oGetR (some q) 6 2) fun v64 => bn (oGetR (some q) 6 2) fun v69 => bn (oLd 0 v69 (nI i + nI wd - 1)) fun v78 => bn (oSt 0 v64 (nI j) v78) fun _ => rec (nI i + nI wd, nI j + 1)) σ1 (fun y σ' => ∃ b' f' l', y = nI (unw T).length ∧ Sm σ σ' q (q + 7) ∧ TB σ' q cap b' f' l' n s e h w ∧ A3 b' f' l' 0 (unw T)) := by
        intro wd v z r hw1 hw2 hu hr hz
        refine b_st h1 rfl (by omega) (by omega) fun σ2 u1 => ?_
        have k0 := u1.ne h0 (by omega)
        have k2 := u1.ne h2 (by omega)
        have k3 := u1.ne h3 (by omega)
        refine (b_getR k0 rfl).mpr ?_
        refine (b_getR k0 rfl).mpr ?_
        refine (b_ld k2 rfl (by omega) (by omega)).mpr ?_
        rw [hAi.hd.2.1]
        refine b_st k2 rfl (by omega) (by omega) fun σ3 u2 => ?_
        have m0 := u2.ne k0 (by omega)
        have m3 := u2.ne k3 (by omega)
        refine (b_getR m0 rfl).mpr ?_
        refine (b_getR m0 rfl).mpr ?_
        refine (b_ld (j := i + wd - 1) m3 (by rw [nI_add, show (1 : Int32) = nI 1 from rfl, nI_subN (by omega)]) (by omega) (by omega)).mpr ?_
        rw [hz]
        refine b_st m3 rfl (by omega) (by omega) fun σ4 u3 => ?_
        rw [nI_add, nI_1]
        refine ih _ _ ⟨i + wd, j + 1, _, _, _, O ++ [(v, x.2.1, z.2.2)], rfl, hT1.st3 u1 u2 u3, ((hS1.up u1 (by omega) (by omega)).up u2 (by omega) (by omega)).up u3 (by omega) (by omega), by simp [hO], by omega, hw2, ?_, ?_, ?_⟩ ?_
        · have := A3.snoc (x := ((v, x.2.1, z.2.2) : T3)) hA0
          rw [hO] at this
          exact this
        · have hAd : A3 b1 f1 l1 (i + wd) (T.drop (i + wd)) := by
            intro k y hk
            have := hAi (wd + k) y (by rw [← hx, List.getElem?_drop]; rw [List.getElem?_drop] at hk; rw [← hk]; congr 1; omega)
            rwa [show i + (wd + k) = i + wd + k by omega] at this
          exact hAd.up (Or.inl (by omega))
        · rw [hr, List.append_assoc, List.singleton_append, hu]
          exact hU
        · show n - (nI (i + wd)).toNatClampNeg < n - (nI i).toNatClampNeg
          rw [nI_clamp (by omega), nI_clamp (by omega)]
          omega
      by_cases hw : wr (x :: T.drop (i + 1)) = -1
      · rw [if_pos hw, bn_rt]
        refine (b_getR h0 rfl).mpr ?_
        rw [if_pos hw]
        refine (b_as).mpr ?_
        refine (b_getR h0 rfl).mpr ?_
        refine (b_as).mpr ?_
        refine (b_ld h1 rfl (by omega) (by omega)).mpr ?_
        rw [hAi.hd.1, bn_rt]
        exact go 1 x.1 x (T.drop (i + 1)) (Nat.le_refl _) (by omega) (by rw [unw_wr hw]) rfl (by rw [Nat.add_sub_cancel]; exact hAi.hd.2.2)
      · rw [if_neg hw, bn_rt]
        refine (b_getR h0 rfl).mpr ?_
        rw [if_neg hw, bn_rt]
        obtain ⟨y, z, r, hd, hu⟩ := unw_wr3 hw
        have hlen3 : i + 3 ≤ n := by
          rw [hd] at hlen
          simp only [List.length_cons] at hlen
          omega
        refine go 3 _ z r (by omega) hlen3 hu.symm ?_ ?_
        · have e1 : T.drop (i + 3) = (T.drop (i + 1)).drop 2 := by rw [List.drop_drop]
          rw [e1, hd]
          rfl
        · rw [hd] at hAi
          have := hAi.tl.tl.hd.2.2
          rwa [show i + 1 + 1 = i + 3 - 1 by omega] at this
  · rintro y σ' ⟨b', f', l', rfl, hS, hT', hA'⟩
    have hT2 := hT'
    obtain ⟨h0, h1, h2, h3, h4, h5, h6⟩ := hT2
    refine b_putI h0 (by simp) fun σ2 u => ?_
    refine hr_rt.mpr ⟨hS.up u (by omega) (by omega), b', f', l', ?_, hA'⟩
    exact ⟨u.1, u.ne h1 (by omega), u.ne h2 (by omega), u.ne h3 (by omega), u.ne h4 (by omega), u.ne h5 (by omega), u.ne h6 (by omega)⟩
end TEXT
