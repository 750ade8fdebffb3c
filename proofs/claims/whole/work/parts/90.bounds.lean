/-! ===== how much can be found; what each call leaves true ===== -/
def wsum (L : List (Nat × Nat)) : Nat := (L.map (fun p => p.2 - p.1 + 1)).sum
theorem wsum_app (a b : List (Nat × Nat)) : wsum (a ++ b) = wsum a + wsum b := by simp [wsum]
theorem wsp_sum : ∀ (B : List Int32) (s i : Nat), s ≤ i → wsum (wsp s i B) ≤ (i - s) + B.length + 1 := by
  intro B
  induction B with
  | nil =>
    intro s i h
    rw [wsp]
    by_cases h1 : s < i
    · rw [if_pos h1]; simp [wsum]
    · rw [if_neg h1]; simp [wsum]
  | cons c r ih =>
    intro s i h
    rw [wsp]
    by_cases hc : iw c = true
    · rw [if_pos hc]
      have := ih s (i + 1) (by omega)
      simp only [List.length_cons]
      omega
    · rw [if_neg hc, wsum_app]
      have := ih (i + 1) (i + 1) (Nat.le_refl _)
      simp only [List.length_cons]
      by_cases h1 : s < i
      · rw [if_pos h1]
        have e : wsum [(s, i)] = i - s + 1 := by simp [wsum]
        omega
      · rw [if_neg h1]
        have e : wsum [] = 0 := rfl
        omega
theorem wds_sum (ks : List Int32) : wsum (wds ks) ≤ ks.length + 1 := by
  have h1 := wsp_sum (bts ks) 0 0 (Nat.le_refl _)
  have h2 := bts_len ks
  have h3 := TXT_len ks
  unfold wds
  omega
theorem sm_wl (ks : List Int32) : ∀ k, k ≤ (wds ks).length → fb_sm (fun j => wl ks j + 1) k = wsum ((wds ks).take k) := by
  intro k
  induction k with
  | zero => intro _; rfl
  | succ k ih =>
    intro hk
    obtain ⟨p, hp⟩ : ∃ p, (wds ks)[k]? = some p := ⟨_, List.getElem?_eq_getElem (by omega)⟩
    rw [fb_sm_succ, ih (by omega), List.take_add_one, hp, wsum_app, wl_at hp]
    simp [wsum]
theorem fm_ct {α : Type} (f : Nat → Option α) : ∀ N, ((List.range N).filterMap f).length = fb_ct (fun p => (f p).isSome) N := by
  intro N
  induction N with
  | zero => rfl
  | succ N ih =>
    rw [fm_succ, List.length_append, ih, fb_ct_succ]
    cases f N <;> rfl
theorem ct_sm5 {m : Nat → Bool} {f : Nat → Nat} : ∀ N, (∀ k, k < N → m k = true → 5 ≤ f k) → 5 * fb_ct m N ≤ fb_sm f N := by
  intro N
  induction N with
  | zero => intro _; exact Nat.le_refl _
  | succ N ih =>
    intro h
    have h1 := ih (fun k hk => h k (by omega))
    rw [fb_ct_succ, fb_sm_succ]
    cases hm : m N with
    | false => simp; omega
    | true =>
      have := h N (by omega) hm
      simp
      omega
theorem rPar_60 {xs ks : List Int32} {n w : Nat} (hk : ks.length ≤ 300) (hn : 1 ≤ n) : (rPar xs ks n w).length ≤ 60 := by
  have hs := wds_sum ks
  unfold rPar
  rw [fm_ct]
  rcases Nat.eq_zero_or_pos (fb_ct (fun p => (gPar xs ks n w p).isSome) ((wds ks).length + 1 - n)) with h0 | h0
  · omega
  obtain ⟨p0, hp0, hm0⟩ := fb_ct_pos.mp h0
  have cond : ∀ p, (gPar xs ks n w p).isSome = true → rowEq xs ks w p n = true ∧ longOne ks p n = true := fun p hp => by
    unfold gPar at hp
    split at hp
    · assumption
    · cases hp
  obtain ⟨r0, l0⟩ := cond p0 hm0
  simp only [longOne, decide_eq_true_eq] at l0
  obtain ⟨j, hj, hlj⟩ : ∃ j, j < n ∧ ¬ wl ks (p0 + j) < 4 := by
    apply Classical.byContradiction
    intro z
    exact l0 (fun k hk => Classical.byContradiction fun q => z ⟨k, hk, q⟩)
  have five : ∀ p, p < (wds ks).length + 1 - n → (gPar xs ks n w p).isSome = true → 5 ≤ (fun q => wl ks (j + q) + 1) p := by
    intro p hp hm
    obtain ⟨r1, -⟩ := cond p hm
    simp only [rowEq, decide_eq_true_eq] at r0 r1
    have e : (wv ks)[p + j]? = (wv ks)[p0 + j]? := (r1 j hj).symm.trans (r0 j hj)
    have : wl ks (p + j) = wl ks (p0 + j) := by
      unfold wl
      rw [List.getD_eq_getElem?_getD, List.getD_eq_getElem?_getD, e]
    show 5 ≤ wl ks (j + p) + 1
    rw [Nat.add_comm j p, this]
    omega
  have h1 := ct_sm5 _ five
  have h2 := fb_sm_split (fun q => wl ks q + 1) j ((wds ks).length + 1 - n)
  have h3 : fb_sm (fun q => wl ks q + 1) (j + ((wds ks).length + 1 - n)) ≤ fb_sm (fun q => wl ks q + 1) (wds ks).length := by
    obtain ⟨d, hd⟩ : ∃ d, (wds ks).length = j + ((wds ks).length + 1 - n) + d := ⟨(wds ks).length - (j + ((wds ks).length + 1 - n)), by omega⟩
    have := fb_sm_mono (fun q => wl ks q + 1) (j + ((wds ks).length + 1 - n)) d
    rw [← hd] at this
    exact this
  have h4 := sm_wl ks _ (Nat.le_refl _)
  rw [List.take_length] at h4
  omega
theorem fPar_30 {xs ks : List Int32} {n : Nat} (hk : ks.length ≤ 300) (hn : 1 ≤ n) : (fPar xs ks n).length ≤ 30 * (xs.length + 1) := by
  have h1 := fl_len (rPar xs ks n) 60 (fun w => rPar_60 hk hn) ((wds xs).length + 1 - n)
  have h2 := wds_cnt xs
  unfold fPar
  omega
theorem raw_30 {kp : Nat → List Int32} {d : Kd} {xs : List Int32} (hk : ∀ i, (kp i).length ≤ 300) (hd : KdW d) : (rawF kp d xs).length ≤ 30 * (xs.length + 1) := by
  have h2 := wds_cnt xs
  unfold rawF
  split
  · have := fMark_len xs (kMs d)
    omega
  · split
    · have hnl : (nms (bts xs)).length ≤ (bts xs).length := nmsF_len _ _ _
      have hfl : (fNum xs).length = (nms (bts xs)).length := by simp [fNum]
      have hbl := bts_len xs
      have htl := TXT_len xs
      omega
    · split
      · exact fPar_30 (hk _) (by have := hd.2.2.1; omega)
      · exact Nat.zero_le _
def bsL (ls : List Lt) : Nat := (ls.map (fun x => (lB x).length)).sum
def byt (A : St) : Nat := (aTape A).length + bsL (aLet A)
theorem fnds_30 : ∀ (ls : List Lt), (∀ x ∈ ls, LtW x) → (fnds ls).length ≤ 30 * (bsL ls + ls.length) := by
  intro ls
  induction ls with
  | nil => intro _; exact Nat.zero_le _
  | cons x r ih =>
    intro h
    have h1 := ih (fun y hy => h y (List.mem_cons_of_mem _ hy))
    have h2 := (h x List.mem_cons_self).2.2.2.2.2.2.2
    have e1 : (fnds (x :: r)).length = (lR x).length + (fnds r).length := by simp [fnds]
    have e2 : bsL (x :: r) = (lB x).length + bsL r := by simp [bsL]
    rw [e1, e2, List.length_cons]
    omega
theorem bdF_of {A : St} (hW : StW A) (hb : byt A ≤ 10240) : BdF A := by
  intro l k
  have h1 := fnds_30 (aLet A) hW.2.2.2.2.2.2.2.1
  have h60 := hW.2.2.2.2.2.2.1
  have h2 := raw_30 (xs := lB (lAt A l)) hW.2.2.1 (hW.2.2.2.1 k)
  have h3 := lB_len hW.dl l
  unfold byt at hb
  omega
theorem bdF_add {A : St} {s t w : Nat} (hW : StW A) (hb : byt A ≤ 10240) : BdF (addL A (newL A s t w)) := by
  intro l k
  rw [addL_fnds]
  have h1 := fnds_30 (aLet A) hW.2.2.2.2.2.2.2.1
  have h60 := hW.2.2.2.2.2.2.1
  have h2 := raw_30 (kp := aKept A) (d := aKind A k) (xs := lB (lAt (addL A (newL A s t w)) l)) hW.2.2.1 (hW.2.2.2.1 k)
  have h3 : (lB (lAt (addL A (newL A s t w)) l)).length ≤ 300 := by
    unfold lAt
    rw [List.getD_eq_getElem?_getD]
    cases hq : (aLet (addL A (newL A s t w)))[l]? with
    | none => exact Nat.zero_le _
    | some x =>
      have hm : x ∈ aLet A ++ [newL A s t w] := List.mem_of_getElem? hq
      rw [List.mem_append] at hm
      rcases hm with hm | hm
      · exact (hW.2.2.2.2.2.2.2.1 x hm).2.2.2.2.1
      · rw [List.mem_singleton] at hm
        rw [hm]
        exact hW.2.1
  unfold byt at hb
  show (fnds (aLet A)).length + (rawF (aKept A) (aKind A k) (lB (lAt (addL A (newL A s t w)) l))).length < 2 ^ 19
  omega
/-- a call's state is sound, has at most twenty bytes more, and forgets nothing that was found -/
def Ok2 (A A' : St) : Prop := StW A' ∧ byt A' ≤ byt A + 20 ∧ (fnds (aLet A)).length ≤ (fnds (aLet A')).length
section OKS
variable {A : St}
theorem ok_same (h : StW A) : Ok2 A A := ⟨h, by omega, Nat.le_refl _⟩
theorem ok_days {n : Int32} (h : StW A) : Ok2 A (pDays A n).2 := by
  unfold pDays
  split
  · rename_i c
    obtain ⟨w1, w2, w3, w4, w5, w6, w7, w8, w9, w10⟩ := h
    exact ⟨⟨c.2, w2, w3, w4, w5, w6, w7, w8, fun x hx => Nat.le_trans (w9 x hx) (Nat.le_add_right _ _), w10⟩, Nat.le_add_right _ _, Nat.le_refl _⟩
  · exact ok_same h
theorem by20_len (a b c d e : Int32) : (by20 a b c d e).length ≤ 20 := by
  rw [by20_eq]
  exact fm_len _ _
theorem ok_feed {a b c d e : Int32} (h : StW A) : Ok2 A (pFeed A a b c d e).2 := by
  unfold pFeed
  split
  · rename_i cc
    have hl := by20_len a b c d e
    obtain ⟨w1, w2, w3⟩ := h
    refine ⟨⟨w1, ?_, w3⟩, ?_, Nat.le_refl _⟩
    · show (aTape A ++ by20 a b c d e).length ≤ 300
      rw [List.length_append]
      exact cc
    · show (aTape A ++ by20 a b c d e).length + bsL (aLet A) ≤ (aTape A).length + bsL (aLet A) + 20
      rw [List.length_append]
      omega
  · exact ok_same h
theorem ok_end {n : Int32} (h : StW A) : Ok2 A (pEnd A n).2 := by
  unfold pEnd
  split
  · obtain ⟨w1, w2, w3⟩ := h
    have hl : ((aTape A).take (tn n)).length ≤ (aTape A).length := by rw [List.length_take]; omega
    refine ⟨⟨w1, ?_, w3⟩, ?_, Nat.le_refl _⟩
    · show ((aTape A).take (tn n)).length ≤ 300
      omega
    · show ((aTape A).take (tn n)).length + bsL (aLet A) ≤ (aTape A).length + bsL (aLet A) + 20
      omega
  · exact ok_same h
theorem ok_keep {t : Int32} (h : StW A) : Ok2 A (pKeep A t).2 := by
  unfold pKeep
  split
  · obtain ⟨w1, w2, w3, w4⟩ := h
    refine ⟨⟨w1, Nat.zero_le _, fun i => ?_, w4⟩, ?_, Nat.le_refl _⟩
    · show (upF (aKept A) (tn t) (aTape A) i).length ≤ 300
      unfold upF
      split
      · exact w2
      · exact w3 i
    · show 0 + bsL (aLet A) ≤ (aTape A).length + bsL (aLet A) + 20
      omega
  · exact ok_same h
theorem upF_kw {k : Nat} {d : Kd} (h : ∀ i, KdW (aKind A i)) (hd : KdW d) : ∀ i, KdW (upF (aKind A) k d i) := by
  intro i
  unfold upF
  split
  · exact hd
  · exact h i
theorem ok_mark {k : Int32} (h : StW A) : Ok2 A (pMark A k).2 := by
  unfold pMark
  split
  · rename_i cc
    obtain ⟨w1, w2, w3, w4, w5⟩ := h
    refine ⟨⟨w1, Nat.zero_le _, w3, upF_kw w4 ⟨by show 1 ≤ 4; omega, by show 0 < 8; omega, by show 2 ≤ 2; omega, by show 2 ≤ 8; omega, by show 1 ≤ 1; omega, by show 1 ≤ 50; omega, by show 0 ≤ 30; omega, w2, fun _ => cc.2⟩, w5⟩, ?_, Nat.le_refl _⟩
    show 0 + bsL (aLet A) ≤ (aTape A).length + bsL (aLet A) + 20
    omega
  · exact ok_same h
theorem ok_kd {k : Nat} {d : Kd} (h : StW A) (hd : KdW d) : Ok2 A (setKd A k d) := by
  obtain ⟨w1, w2, w3, w4, w5⟩ := h
  exact ⟨⟨w1, w2, w3, upF_kw w4 hd, w5⟩, Nat.le_add_right _ _, Nat.le_refl _⟩
theorem ok_near {k t n : Int32} (h : StW A) : Ok2 A (pNear A k t n).2 := by
  unfold pNear
  split
  · rename_i cc
    obtain ⟨t', ht, rfl⟩ := (in_nI (m := 7) (by decide)).mp cc.2.1
    obtain ⟨n', hn1, hn2, rfl⟩ := (in_lo (l := 2) (m := 8) (by decide) (by decide)).mp cc.2.2
    refine ok_kd h ?_
    rw [show tn (nI t') = t' from nI_clamp (by omega), show tn (nI n') = n' from nI_clamp (by omega)]
    exact ⟨by show 2 ≤ 4; omega, by show t' < 8; omega, hn1, hn2, by show 1 ≤ 1; omega, by show 1 ≤ 50; omega, by show 0 ≤ 30; omega, Nat.zero_le _, fun q => by have q : (2 : Nat) = 1 := q; omega⟩
  · exact ok_same h
theorem ok_count {k m : Int32} (h : StW A) : Ok2 A (pCount A k m).2 := by
  unfold pCount
  split
  · rename_i cc
    obtain ⟨n', hn1, hn2, rfl⟩ := (in_lo (l := 1) (m := 20) (by decide) (by decide)).mp cc.2
    refine ok_kd h ?_
    rw [show tn (nI n') = n' from nI_clamp (by omega)]
    exact ⟨by show 3 ≤ 4; omega, by show 0 < 8; omega, by show 2 ≤ 2; omega, by show 2 ≤ 8; omega, hn1, by show n' ≤ 50; omega, by show 0 ≤ 30; omega, Nat.zero_le _, fun q => by have q : (3 : Nat) = 1 := q; omega⟩
  · exact ok_same h
theorem ok_pieces {k t n m d : Int32} (h : StW A) : Ok2 A (pPieces A k t n m d).2 := by
  unfold pPieces
  split
  · rename_i cc
    obtain ⟨t', ht, rfl⟩ := (in_nI (m := 7) (by decide)).mp cc.2.1
    obtain ⟨n', hn1, hn2, rfl⟩ := (in_lo (l := 2) (m := 8) (by decide) (by decide)).mp cc.2.2.1
    obtain ⟨m', hm1, hm2, rfl⟩ := (in_lo (l := 1) (m := 50) (by decide) (by decide)).mp cc.2.2.2.1
    obtain ⟨d', hd, rfl⟩ := (in_nI (m := 30) (by decide)).mp cc.2.2.2.2
    refine ok_kd h ?_
    rw [show tn (nI t') = t' from nI_clamp (by omega), show tn (nI n') = n' from nI_clamp (by omega), show tn (nI m') = m' from nI_clamp (by omega), show tn (nI d') = d' from nI_clamp (by omega)]
    exact ⟨by show 4 ≤ 4; omega, by show t' < 8; omega, hn1, hn2, hm1, hm2, hd, Nat.zero_le _, fun q => by have q : (4 : Nat) = 1 := q; omega⟩
  · exact ok_same h
theorem ok_allow {k s t : Int32} {is : Bool} (h : StW A) : Ok2 A (pAllow A k s t is).2 := by
  unfold pAllow
  split
  · exact ⟨h, Nat.le_add_right _ _, Nat.le_refl _⟩
  · exact ok_same h
theorem ok_rule {p s w k a : Int32} (h : StW A) : Ok2 A (pRule A p s w k a).2 := by
  unfold pRule
  split
  · rename_i cc
    obtain ⟨p', k', a', hp, rfl, hk, rfl, ha, rfl, hrw⟩ := ruleOk_of h.2.2.2.2.1 cc.1
    rw [show tn (nI p') = p' from nI_clamp (by have := h.2.2.2.2.1; omega), show tn (nI k') = k' from nI_clamp (by omega), show tn (nI a') = a' from nI_clamp (by omega)]
    obtain ⟨w1, w2, w3, w4, w5, w6, w7⟩ := h
    refine ⟨⟨w1, w2, w3, w4, ?_, fun r hr => ?_, w7⟩, Nat.le_add_right _ _, Nat.le_refl _⟩
    · show (insR (aRul A) p' _).length ≤ 20
      rw [insR_len hp]
      omega
    · rcases insR_mem hr with rfl | q
      · exact hrw
      · exact w6 r q
  · exact ok_same h
theorem ok_drop {p : Int32} (h : StW A) : Ok2 A (pDrop A p).2 := by
  unfold pDrop
  split
  · rename_i cc
    obtain ⟨j, hj, rfl⟩ := (in_m1 (by have := h.2.2.2.2.1; omega)).mp cc
    rw [show tn (nI j) = j from nI_clamp (by have := h.2.2.2.2.1; omega)]
    obtain ⟨w1, w2, w3, w4, w5, w6, w7⟩ := h
    refine ⟨⟨w1, w2, w3, w4, ?_, fun r hr => w6 r (delR_mem hr), w7⟩, Nat.le_add_right _ _, Nat.le_refl _⟩
    show (delR (aRul A) j).length ≤ 20
    rw [delR_len hj]
    omega
  · exact ok_same h
theorem bsL_set {ls : List Lt} {j : Nat} {x y : Lt} (hx : ls[j]? = some x) (h : y.1 = x.1) : bsL (ls.set j y) = bsL ls := by
  unfold bsL
  congr 1
  apply List.ext_getElem?
  intro i
  rw [List.getElem?_map, List.getElem?_map]
  by_cases e : i = j
  · subst e
    rw [List.getElem?_set_self (List.getElem?_eq_some_iff.mp hx).1, hx]
    show some (y.1.2.2.2.2.length) = some (x.1.2.2.2.2.length)
    rw [h]
  · rw [List.getElem?_set_ne (Ne.symm e)]
theorem ok_answer {l : Int32} {is : Bool} (h : StW A) : Ok2 A (pAnswer A l is).2 := by
  unfold pAnswer
  split
  · rename_i cc
    obtain ⟨j, x, hj, rfl, hx, et, ex⟩ := inL_of h.2.2.2.2.2.2.1 cc.1
    rw [et] at ex
    rw [et, ex]
    obtain ⟨w1, w2, w3, w4, w5, w6, w7, w8, w9, w10⟩ := h
    have hget : ∀ (i : Nat) (y : Lt), ((aLet A).set j (ansL x is))[i]? = some y → ∃ y', (aLet A)[i]? = some y' ∧ y.1 = y'.1 := fun i y hy => by
      by_cases e : i = j
      · subst e
        rw [List.getElem?_set_self hj] at hy
        cases hy
        exact ⟨x, hx, rfl⟩
      · rw [List.getElem?_set_ne (Ne.symm e)] at hy
        exact ⟨y, hy, rfl⟩
    refine ⟨⟨w1, w2, w3, w4, w5, w6, ?_, fun y hy => ?_, fun y hy => ?_, fun i k y z hik hy hz => ?_⟩, ?_, ?_⟩
    · show ((aLet A).set j (ansL x is)).length ≤ 60
      rw [List.length_set]
      exact w7
    · have hy : y ∈ (aLet A).set j (ansL x is) := hy
      obtain ⟨i, hi⟩ := List.mem_iff_getElem?.mp hy
      by_cases e : i = j
      · subst e
        rw [List.getElem?_set_self hj] at hi
        cases hi
        have := w8 x (List.mem_of_getElem? hx)
        refine ⟨this.1, this.2.1, this.2.2.1, this.2.2.2.1, this.2.2.2.2.1, this.2.2.2.2.2.1, ?_, this.2.2.2.2.2.2.2⟩
        show (if is = true then 0 else 2) ≤ 2
        split <;> omega
      · rw [List.getElem?_set_ne (Ne.symm e)] at hi
        exact w8 y (List.mem_of_getElem? hi)
    · have hy : y ∈ (aLet A).set j (ansL x is) := hy
      obtain ⟨i, hi⟩ := List.mem_iff_getElem?.mp hy
      obtain ⟨y', h1, h2⟩ := hget i y hi
      show y.1.2.2.2.1 ≤ aDay A
      rw [h2]
      exact w9 y' (List.mem_of_getElem? h1)
    · obtain ⟨y', h1, h2⟩ := hget i y hy
      obtain ⟨z', h3, h4⟩ := hget k z hz
      show y.1.2.2.2.1 ≤ z.1.2.2.2.1
      rw [h2, h4]
      exact w10 i k y' z' hik h1 h3
    · show (aTape A).length + bsL ((aLet A).set j (ansL x is)) ≤ (aTape A).length + bsL (aLet A) + 20
      rw [bsL_set (y := ansL x is) hx rfl]
      omega
    · show _ ≤ (fnds ((aLet A).set j (ansL x is))).length
      rw [(fnds_set (y := ansL x is) hx rfl).1]
      exact Nat.le_refl _
  · exact ok_same h
theorem ok_send {a b d : Int32} (h : StW A) : Ok2 A (pSend A a b d).2 := by
  unfold pSend
  split
  · rename_i cc
    obtain ⟨⟨c1, c2, c3⟩, c4⟩ := cc
    obtain ⟨s, hs, rfl⟩ := (in_nI (m := 9) (by decide)).mp c1
    obtain ⟨t, ht, rfl⟩ := (in_nI (m := 9) (by decide)).mp c2
    obtain ⟨w, hw, rfl⟩ := (in_nI (m := 2) (by decide)).mp c3
    rw [show tn (nI s) = s from nI_clamp (by omega), show tn (nI t) = t from nI_clamp (by omega), show tn (nI w) = w from nI_clamp (by omega)]
    have hDl := addL_dl (s := s) (t := t) (w := w) h c4 (by omega) (by omega) (by omega)
    have hrk := h.2.2.2.2.2.1
    obtain ⟨w1, w2, w3, w4, w5, w6, w7, w8, w9, w10⟩ := h
    have hx1 : (sentL A s t w).1 = (newL A s t w).1 := by
      unfold sentL dealt
      split <;> rfl
    have hget : ∀ (i : Nat) (y : Lt), (aLet A ++ [sentL A s t w])[i]? = some y → ∃ y', (aLet A ++ [newL A s t w])[i]? = some y' ∧ y.1 = y'.1 := fun i y hy => by
      by_cases e : i < (aLet A).length
      · rw [List.getElem?_append_left e] at hy ⊢
        exact ⟨y, hy, rfl⟩
      · rw [List.getElem?_append_right (by omega)] at hy ⊢
        have hz := (List.getElem?_eq_some_iff.mp hy).1
        simp only [List.length_cons, List.length_nil] at hz
        have e : i - (aLet A).length = 0 := by omega
        rw [e] at hy ⊢
        cases hy
        exact ⟨_, rfl, hx1⟩
    refine ⟨⟨w1, Nat.zero_le _, w3, w4, w5, w6, ?_, fun y hy => ?_, fun y hy => ?_, fun i k y z hik hy hz => ?_⟩, ?_, ?_⟩
    · show (aLet A ++ [_]).length ≤ 60
      rw [List.length_append]
      simp only [List.length_cons, List.length_nil]
      omega
    · have hy : y ∈ aLet A ++ [sentL A s t w] := hy
      rw [List.mem_append] at hy
      rcases hy with hy | hy
      · exact w8 y hy
      · rw [List.mem_singleton] at hy
        subst hy
        have hxat : (aLet (addL A (newL A s t w)))[(aLet A).length]? = some (newL A s t w) := by
          show (aLet A ++ [_])[_]? = _
          rw [List.getElem?_append_right (Nat.le_refl _), Nat.sub_self]
          rfl
        unfold sentL
        cases hq : sel (addL A (newL A s t w)) (aRul A) (aLet A).length with
        | none => exact ⟨by show s < 10; omega, by show t < 10; omega, by show w < 3; omega, w1, w2, Nat.zero_le _, Nat.zero_le _, Nat.zero_le _⟩
        | some r =>
          have hr := hrk r (List.mem_of_find?_eq_some hq)
          refine ⟨by show s < 10; omega, by show t < 10; omega, by show w < 3; omega, w1, w2, hr.2.1, ?_, ?_⟩
          · show (if rA r ≤ 2 then 0 else 1) ≤ 2
            split <;> omega
          · show (findR (addL A (newL A s t w)) (aLet A).length (rK r)).length ≤ 30 * ((aTape A).length + 1)
            have h2 := raw_30 (kp := aKept A) (d := aKind A (rK r)) (xs := aTape A) w3 (w4 _)
            unfold findR
            split
            · exact Nat.zero_le _
            · split
              · exact Nat.zero_le _
              · rw [lAt_of hxat]
                exact h2
    · have hy : y ∈ aLet A ++ [sentL A s t w] := hy
      rw [List.mem_append] at hy
      rcases hy with hy | hy
      · exact w9 y hy
      · rw [List.mem_singleton] at hy
        subst hy
        show (sentL A s t w).1.2.2.2.1 ≤ aDay A
        rw [hx1]
        exact Nat.le_refl _
    · obtain ⟨y', h1, h2⟩ := hget i y hy
      obtain ⟨z', h3, h4⟩ := hget k z hz
      show y.1.2.2.2.1 ≤ z.1.2.2.2.1
      rw [h2, h4]
      exact hDl.2.2.2.2 i k y' z' hik h1 h3
    · show 0 + bsL (aLet A ++ [sentL A s t w]) ≤ (aTape A).length + bsL (aLet A) + 20
      have e : bsL (aLet A ++ [sentL A s t w]) = bsL (aLet A) + (sentL A s t w).1.2.2.2.2.length := by simp [bsL]
      have e2 : (sentL A s t w).1.2.2.2.2.length = (aTape A).length := by rw [hx1]; rfl
      omega
    · show _ ≤ (fnds (aLet A ++ [sentL A s t w])).length
      rw [fnds_app, List.length_append]
      omega
  · exact ok_same h
end OKS
