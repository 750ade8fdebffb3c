/-! ===== Text.read, new Text ===== -/
def tr0 (xs : List Int32) : List T3 := xs.mapIdx (fun i c => (c, nI i, nI i))
def ut (xs : List Int32) : List T3 := unw (unw (unw (tr0 xs)))
def lowT (T : List T3) : List T3 := T.map (fun x => (sm x.1, x.2))
/-- a text unwrapped, in small letters, with the places -/
def TXT (xs : List Int32) : List T3 := lowT (ut xs)
def bts (xs : List Int32) : List Int32 := (TXT xs).map (fun x => x.1)
def wds (xs : List Int32) : List (Nat × Nat) := wsp 0 0 (bts xs)
theorem TXT_len (xs : List Int32) : (TXT xs).length ≤ xs.length := by
  unfold TXT lowT ut
  rw [List.length_map]
  have h1 := unw_len (tr0 xs)
  have h2 := unw_len (unw (tr0 xs))
  have h3 := unw_len (unw (unw (tr0 xs)))
  have h4 : (tr0 xs).length = xs.length := by simp [tr0]
  omega
theorem bts_len (xs : List Int32) : (bts xs).length = (TXT xs).length := by simp [bts]
theorem wds_cnt (xs : List Int32) : 2 * (wds xs).length ≤ xs.length + 1 := by
  have h1 := wsp_cnt (bts xs) 0 0 (Nat.le_refl _)
  rw [if_neg (by omega), bts_len] at h1
  have h2 := TXT_len xs
  unfold wds
  omega
theorem wds_mem {xs : List Int32} {p : Nat × Nat} (h : p ∈ wds xs) : p.1 < p.2 ∧ p.2 ≤ (TXT xs).length := by
  have := wsp_mem (bts xs) 0 0 (Nat.le_refl _) p h
  rw [bts_len, Nat.zero_add] at this
  exact this
/-- a Text at q that holds the text xs -/
def CTx (σ : AH) (q cap : Nat) (xs : List Int32) : Prop := ∃ b f l s e h, TB σ q cap b f l (TXT xs).length s e h (wds xs).length ∧ A3 b f l 0 (TXT xs) ∧ WD s e h (wds xs) (bts xs) ∧ xs.length ≤ cap ∧ cap ≤ 300
theorem CTx.frame {σ σ' : AH} {q cap : Nat} {xs : List Int32} (hT : CTx σ q cap xs) (hk : ∀ k, q ≤ k → k < q + 7 → σ'.1[k]? = σ.1[k]?) : CTx σ' q cap xs := by
  obtain ⟨b, f, l, s, e, h, h1, h2, h3, h4⟩ := hT
  exact ⟨b, f, l, s, e, h, h1.frame hk, h2, h3, h4⟩
theorem sm_add {c : Int32} (h : 65 ≤ c ∧ c ≤ 90) : c + 32 = sm c := by
  unfold sm
  rw [if_pos h, Int32.sub_eq_add_neg, Int32.add_assoc]
  rfl
section TEXT
variable {σ : AH} {q cap n w : Nat} {b f l s e h : Nat → Int32}
theorem TB.st1 {σ1 : AH} {b' : Nat → Int32} (hT : TB σ q cap b f l n s e h w) (u1 : Up σ σ1 (q + 1) (.inl (0, cap, .inl b'))) : TB σ1 q cap b' f l n s e h w := by
  obtain ⟨h0, h1, h2, h3, h4, h5, h6⟩ := hT
  exact ⟨u1.ne h0 (by omega), u1.1, u1.ne h2 (by omega), u1.ne h3 (by omega), u1.ne h4 (by omega), u1.ne h5 (by omega), u1.ne h6 (by omega)⟩
theorem h6_makeSmall {T : List T3} (hT : TB σ q cap b f l n s e h w) (hA : A3 b f l 0 T) (hl : T.length = n) (hn : n ≤ cap) (hc : cap ≤ 300) :
    Hr (f6_makeSmall (some q)) σ (fun _ σ' => Sm σ σ' q (q + 7) ∧ ∃ b', TB σ' q cap b' f l n s e h w ∧ A3 b' f l 0 (lowT T)) := by
  unfold f6_makeSmall
  refine b_hr (P := fun _ σ' => Sm σ σ' q (q + 7) ∧ ∃ b', TB σ' q cap b' f l n s e h w ∧ A3 b' f l 0 (lowT T)) ?_ (fun _ _ hq => hr_rt.mpr hq)
  refine hr_loop (fun x σ1 => ∃ (i : Nat) (b1 : Nat → Int32), x = nI i ∧ i ≤ n ∧ Sm σ σ1 q (q + 7) ∧ TB σ1 q cap b1 f l n s e h w ∧ (∀ k, i ≤ k → b1 k = b k) ∧ (∀ k, k < i → b1 k = sm (b k))) (fun x => n - x.toNatClampNeg) ⟨0, b, rfl, Nat.zero_le _, Sm.rf, hT, fun _ _ => rfl, fun k hk => by omega⟩ (by show n - _ < _; omega) ?_
  rintro rec x σ1 ⟨i, b1, rfl, hin, hS1, hT1, hge, hlt⟩ ih
  unfold l6_makeSmall_2
  have hT1' := hT1
  obtain ⟨h0, h1, h2, h3, h4, h5, h6⟩ := hT1'
  refine (b_getI h0 rfl).mpr ?_
  refine b_ite (fun c => ?_) (fun c => ?_)
  · rw [nI_leI (by omega) (by omega)] at c
    refine hr_rt.mpr ⟨hS1, b1, hT1, ?_⟩
    intro k x hk
    unfold lowT at hk
    rw [List.getElem?_map] at hk
    cases hT0 : T[k]? with
    | none => rw [hT0] at hk; cases hk
    | some y =>
      rw [hT0] at hk
      cases hk
      have hkl := (List.getElem?_eq_some_iff.mp hT0).1
      have := hA k y hT0
      rw [Nat.zero_add] at this ⊢
      rw [hlt k (by omega), this.1]
      exact ⟨rfl, this.2⟩
  · rw [nI_leI (by omega) (by omega)] at c
    have hm : n - (nI i + 1).toNatClampNeg < n - (nI i).toNatClampNeg := by rw [nI_1, nI_clamp (by omega), nI_clamp (by omega)]; omega
    have keep : ¬ (65 ≤ b1 i ∧ b1 i ≤ 90) → Hr (rec (nI i + 1)) σ1 (fun _ σ' => Sm σ σ' q (q + 7) ∧ ∃ b', TB σ' q cap b' f l n s e h w ∧ A3 b' f l 0 (lowT T)) := by
      intro hno
      refine ih _ _ ⟨i + 1, b1, nI_1 i, by omega, hS1, hT1, fun k hk => hge k (by omega), fun k hk => ?_⟩ hm
      by_cases hki : k = i
      · subst hki
        rw [← hge k (Nat.le_refl _)]
        unfold sm
        rw [if_neg hno]
      · exact hlt k (by omega)
    refine (b_getR h0 rfl).mpr ?_
    refine (b_ld h1 rfl (by omega) (by omega)).mpr ?_
    refine b_ite (fun c2 => keep (fun q => absurd c2 (nlt.mpr q.1))) (fun c2 => ?_)
    refine (b_getR h0 rfl).mpr ?_
    refine (b_ld h1 rfl (by omega) (by omega)).mpr ?_
    refine b_ite (fun c3 => keep (fun q => absurd c3 (nlt.mpr q.2))) (fun c3 => ?_)
    refine (b_getR h0 rfl).mpr ?_
    refine (b_ld h1 rfl (by omega) (by omega)).mpr ?_
    refine b_st h1 rfl (by omega) (by omega) fun σ2 u => ?_
    refine ih _ _ ⟨i + 1, _, nI_1 i, by omega, hS1.up u (by omega) (by omega), hT1.st1 u, fun k hk => ?_, fun k hk => ?_⟩ hm
    · simp only [upd, if_neg (show k ≠ i by omega)]
      exact hge k (by omega)
    · by_cases hki : k = i
      · subst hki
        simp only [upd, if_true]
        rw [sm_add ⟨nlt.mp c2, nlt.mp c3⟩, hge k (Nat.le_refl _)]
      · simp only [upd, if_neg hki]
        exact hlt k (by omega)
theorem jmin_nI {a b : Nat} (ha : a < 2 ^ 31) (hb : b < 2 ^ 31) : jmin (nI a) (nI b) = nI (min a b) := by
  unfold jmin
  by_cases hc : nI b < nI a
  · rw [if_pos hc]
    rw [nI_ltI hb ha] at hc
    rw [Nat.min_eq_right (by omega)]
  · rw [if_neg hc]
    rw [nI_ltI hb ha] at hc
    rw [Nat.min_eq_left (by omega)]
theorem jmax_0 {a : Nat} (ha : a < 2 ^ 31) : jmax (nI a) 0 = nI a := by
  unfold jmax
  rw [if_neg]
  exact nI_pos ha
theorem h6_read {xs : List Int32} {sa m0 : Nat} {g : Nat → Int32} (hT : TB σ q cap b f l n s e h w) (hsa : σ.1[sa]? = some (.inl (0, m0, .inl g))) (hap : sa < q ∨ q + 7 ≤ sa) (hg : B3 g xs) (hm : xs.length ≤ m0) (hm2 : m0 < 2 ^ 31) (hx : xs.length ≤ cap) (hc : cap ≤ 300) :
    Hr (f6_read (some q) (some sa) (nI xs.length)) σ (fun _ σ' => Sm σ σ' q (q + 7) ∧ CTx σ' q cap xs) := by
  have hT' := hT
  obtain ⟨h0, h1, h2, h3, h4, h5, h6⟩ := hT'
  unfold f6_read
  refine (b_len hsa).mpr ?_
  refine (b_getR h0 rfl).mpr ?_
  refine (b_len h1).mpr ?_
  rw [show jmin (jmin (nI xs.length) (nI (m0, _).1)) (nI (cap, _).1) = nI xs.length by
    show jmin (jmin (nI xs.length) (nI m0)) (nI cap) = _
    rw [jmin_nI (by omega) (by omega), jmin_nI (by omega) (by omega), Nat.min_eq_left (by omega), Nat.min_eq_left (by omega)]]
  refine b_putI h0 (by simp) fun σ1 u => ?_
  have hT1 : TB σ1 q cap b f l xs.length s e h w := ⟨u.1, u.ne h1 (by omega), u.ne h2 (by omega), u.ne h3 (by omega), u.ne h4 (by omega), u.ne h5 (by omega), u.ne h6 (by omega)⟩
  have hS1 : Sm σ σ1 q (q + 7) := Sm.rf.up u (by omega) (by omega)
  refine b_hr (P := fun _ σ' => Sm σ σ' q (q + 7) ∧ ∃ b' f' l', TB σ' q cap b' f' l' xs.length s e h w ∧ A3 b' f' l' 0 (tr0 xs)) ?_ ?_
  · refine hr_loop (fun x σ2 => ∃ (i : Nat) (b1 f1 l1 : Nat → Int32), x = nI i ∧ i ≤ xs.length ∧ Sm σ σ2 q (q + 7) ∧ TB σ2 q cap b1 f1 l1 xs.length s e h w ∧ A3 b1 f1 l1 0 ((tr0 xs).take i)) (fun x => xs.length - x.toNatClampNeg) ⟨0, b, f, l, rfl, Nat.zero_le _, hS1, hT1, fun k x hk => by simp at hk⟩ (by show xs.length - _ < _; omega) ?_
    rintro rec x σ2 ⟨i, b1, f1, l1, rfl, hin, hS2, hT2, hA⟩ ih
    unfold l6_read_20
    have hT2' := hT2
    obtain ⟨k0, k1, k2, k3, k4, k5, k6⟩ := hT2'
    have ksa : σ2.1[sa]? = some (.inl (0, m0, .inl g)) := by rw [hS2.1 sa hap]; exact hsa
    refine (b_getI k0 rfl).mpr ?_
    refine b_ite (fun c => ?_) (fun c => ?_)
    · rw [nI_leI (by omega) (by omega)] at c
      refine hr_rt.mpr ⟨hS2, b1, f1, l1, hT2, ?_⟩
      rw [List.take_of_length_le (by simp [tr0]; omega)] at hA
      exact hA
    · rw [nI_leI (by omega) (by omega)] at c
      refine (b_getR k0 rfl).mpr ?_
      refine (b_ld ksa rfl (by omega) (by omega)).mpr ?_
      refine b_st k1 rfl (by omega) (by omega) fun σ3 u1 => ?_
      refine (b_getR (u1.ne k0 (by omega)) rfl).mpr ?_
      refine b_st (u1.ne k2 (by omega)) rfl (by omega) (by omega) fun σ4 u2 => ?_
      refine (b_getR (u2.ne (u1.ne k0 (by omega)) (by omega)) rfl).mpr ?_
      refine b_st (u2.ne (u1.ne k3 (by omega)) (by omega)) rfl (by omega) (by omega) fun σ5 u3 => ?_
      have hgi : g i = xs[i] := hg i _ (List.getElem?_eq_getElem (by omega))
      have hti : (tr0 xs)[i]? = some (g i, nI i, nI i) := by rw [hgi]; simp [tr0]
      refine ih _ _ ⟨i + 1, _, _, _, nI_1 i, by omega, ((hS2.up u1 (by omega) (by omega)).up u2 (by omega) (by omega)).up u3 (by omega) (by omega), hT2.st3 u1 u2 u3, ?_⟩ ?_
      · rw [List.take_add_one, hti]
        have hlen : ((tr0 xs).take i).length = i := by simp [tr0]; omega
        have := A3.snoc (x := ((g i, nI i, nI i) : T3)) hA
        rw [hlen] at this
        exact this
      · rw [nI_1, nI_clamp (by omega), nI_clamp (by omega)]
        omega
  · rintro _ σ2 ⟨hS2, b2, f2, l2, hT2, hA2⟩
    refine b_hr (P := fun _ σ' => Sm σ σ' q (q + 7) ∧ ∃ b' f' l', TB σ' q cap b' f' l' (ut xs).length s e h w ∧ A3 b' f' l' 0 (ut xs)) ?_ ?_
    · have step : ∀ (T : List T3) (σ3 : AH) (b3 f3 l3 : Nat → Int32), Sm σ σ3 q (q + 7) → TB σ3 q cap b3 f3 l3 T.length s e h w → A3 b3 f3 l3 0 T → T.length ≤ xs.length → Hr (f6_unwrapOnce (some q)) σ3 (fun _ σ' => Sm σ σ' q (q + 7) ∧ ∃ b' f' l', TB σ' q cap b' f' l' (unw T).length s e h w ∧ A3 b' f' l' 0 (unw T)) := by
        intro T σ3 b3 f3 l3 hS3 hT3 hA3 hle
        exact (h6_unwrapOnce hT3 hA3 rfl (by omega) hc).mono fun _ σ' ⟨hs, hr⟩ => ⟨hS3.tr hs, hr⟩
      have hlen0 : (tr0 xs).length = xs.length := by simp [tr0]
      have hl1 := unw_len (tr0 xs)
      have hl2 := unw_len (unw (tr0 xs))
      refine hr_loop (fun x σ3 => ∃ (i : Nat) (T : List T3) (b3 f3 l3 : Nat → Int32), x = nI i ∧ Sm σ σ3 q (q + 7) ∧ TB σ3 q cap b3 f3 l3 T.length s e h w ∧ A3 b3 f3 l3 0 T ∧ T.length ≤ xs.length ∧ ((i = 0 ∧ T = tr0 xs) ∨ (i = 1 ∧ T = unw (tr0 xs)) ∨ (i = 2 ∧ T = unw (unw (tr0 xs))) ∨ (i = 3 ∧ T = ut xs))) (fun x => 3 - x.toNatClampNeg) ⟨0, tr0 xs, b2, f2, l2, rfl, hS2, by rw [hlen0]; exact hT2, hA2, by omega, Or.inl ⟨rfl, rfl⟩⟩ (by show 3 - _ < _; omega) ?_
      rintro rec x σ3 ⟨i, T, b3, f3, l3, rfl, hS3, hT3, hA3, hle, hI⟩ ih
      unfold l6_read_59
      have hi3 : i ≤ 3 := by omega
      refine b_ite (fun c => ?_) (fun c => ?_)
      · rw [show (3 : Int32) = nI 3 from rfl, nI_leI (by omega) (by omega)] at c
        rcases hI with ⟨h, -⟩ | ⟨h, -⟩ | ⟨h, -⟩ | ⟨-, rfl⟩
        · omega
        · omega
        · omega
        · exact hr_rt.mpr ⟨hS3, b3, f3, l3, hT3, hA3⟩
      · rw [show (3 : Int32) = nI 3 from rfl, nI_leI (by omega) (by omega)] at c
        refine (b_obj hT3.1).mpr ?_
        refine b_hr (step T σ3 b3 f3 l3 hS3 hT3 hA3 hle) ?_
        rintro _ σ4 ⟨hS4, b4, f4, l4, hT4, hA4⟩
        refine ih _ _ ⟨i + 1, unw T, b4, f4, l4, nI_1 i, hS4, hT4, hA4, Nat.le_trans (unw_len T) hle, ?_⟩ ?_
        · rcases hI with ⟨h, rfl⟩ | ⟨h, rfl⟩ | ⟨h, rfl⟩ | ⟨h, -⟩
          · exact Or.inr (Or.inl ⟨by omega, rfl⟩)
          · exact Or.inr (Or.inr (Or.inl ⟨by omega, rfl⟩))
          · exact Or.inr (Or.inr (Or.inr ⟨by omega, rfl⟩))
          · omega
        · rw [nI_1, nI_clamp (by omega), nI_clamp (by omega)]
          omega
    · rintro _ σ3 ⟨hS3, b3, f3, l3, hT3, hA3⟩
      have hle : (ut xs).length ≤ xs.length := by
        have := TXT_len xs
        unfold TXT lowT at this
        rwa [List.length_map] at this
      have hlT : (lowT (ut xs)).length = (ut xs).length := by simp [lowT]
      refine (b_obj hT3.1).mpr ?_
      refine b_hr (h6_makeSmall hT3 hA3 rfl (by omega) hc) ?_
      rintro _ σ4 ⟨hS4, b4, hT4, hA4⟩
      refine (b_obj hT4.1).mpr ?_
      refine b_hr (h6_splitWords (B := bts xs) hT4 ?_ (by rw [bts_len]; unfold TXT; rw [hlT]) (by omega) hc) ?_
      · intro k c hk
        unfold bts at hk
        rw [List.getElem?_map] at hk
        cases hk0 : (TXT xs)[k]? with
        | none => rw [hk0] at hk; cases hk
        | some y =>
          rw [hk0] at hk
          cases hk
          have := (hA4 k y hk0).1
          rwa [Nat.zero_add] at this
      · rintro _ σ5 ⟨hS5, s5, e5, h5', hT5, hW5⟩
        refine hr_rt.mpr ⟨(hS3.tr hS4).tr hS5, b4, f3, l3, s5, e5, h5', ?_, hA4, hW5, hx, hc⟩
        unfold TXT
        rw [hlT]
        exact hT5
end TEXT
