/-! ===== words, and the class's Text read out of bytes ===== -/
/-- the words of a row of bytes (small letters): from where, up to where; s is where the word under way began, i where we are -/
def wsp : Nat → Nat → List Int32 → List (Nat × Nat)
  | s, i, [] => if s < i then [(s, i)] else []
  | s, i, c :: r => if iw c then wsp s (i + 1) r else (if s < i then [(s, i)] else []) ++ wsp (i + 1) (i + 1) r
theorem wsp_cnt : ∀ (B : List Int32) (s i : Nat), s ≤ i → 2 * (wsp s i B).length ≤ (if s < i then 1 else 0) + B.length + 1 := by
  intro B
  induction B with
  | nil =>
    intro s i h
    rw [wsp]
    by_cases h1 : s < i
    · rw [if_pos h1, if_pos h1]; simp
    · rw [if_neg h1, if_neg h1]; simp
  | cons c r ih =>
    intro s i h
    rw [wsp]
    by_cases hc : iw c = true
    · rw [if_pos hc]
      have := ih s (i + 1) (by omega)
      rw [if_pos (by omega)] at this
      simp only [List.length_cons]
      split <;> omega
    · rw [if_neg hc]
      have := ih (i + 1) (i + 1) (Nat.le_refl _)
      rw [if_neg (by omega)] at this
      rw [List.length_append]
      simp only [List.length_cons]
      by_cases h1 : s < i
      · rw [if_pos h1, if_pos h1]; simp only [List.length_cons, List.length_nil]; omega
      · rw [if_neg h1, if_neg h1]; simp only [List.length_nil]; omega
theorem wsp_mem : ∀ (B : List Int32) (s i : Nat), s ≤ i → ∀ p ∈ wsp s i B, p.1 < p.2 ∧ p.2 ≤ i + B.length := by
  intro B
  induction B with
  | nil =>
    intro s i h p hp
    rw [wsp] at hp
    by_cases h1 : s < i
    · rw [if_pos h1] at hp
      simp only [List.mem_singleton] at hp
      subst hp
      exact ⟨h1, by simp⟩
    · rw [if_neg h1] at hp
      cases hp
  | cons c r ih =>
    intro s i h p hp
    rw [wsp] at hp
    by_cases hc : iw c = true
    · rw [if_pos hc] at hp
      have := ih s (i + 1) (by omega) p hp
      simp only [List.length_cons]
      omega
    · rw [if_neg hc, List.mem_append] at hp
      rcases hp with hp | hp
      · by_cases h1 : s < i
        · rw [if_pos h1] at hp
          simp only [List.mem_singleton] at hp
          subst hp
          simp only [List.length_cons]
          exact ⟨h1, by omega⟩
        · rw [if_neg h1] at hp
          cases hp
      · have := ih (i + 1) (i + 1) (Nat.le_refl _) p hp
        simp only [List.length_cons]
        omega
def sl (B : List Int32) (p : Nat × Nat) : List Int32 := (B.drop p.1).take (p.2 - p.1)
def hsh (L : List Int32) : Int32 := L.foldl (fun a c => 31 * a + c) 0
theorem hsh_snoc (L : List Int32) (c : Int32) : hsh (L ++ [c]) = 31 * hsh L + c := by simp [hsh, List.foldl_append]
/-- the words' rows -/
def WD (s e h : Nat → Int32) (W : List (Nat × Nat)) (B : List Int32) : Prop := ∀ k p, W[k]? = some p → s k = nI p.1 ∧ e k = nI (p.2 - p.1) ∧ h k = hsh (sl B p)
theorem WD.snoc {s e h : Nat → Int32} {W : List (Nat × Nat)} {B : List Int32} {p : Nat × Nat} {x y z : Int32} (hW : WD s e h W B) (hx : x = nI p.1) (hy : y = nI (p.2 - p.1)) (hz : z = hsh (sl B p)) : WD (upd s W.length x) (upd e W.length y) (upd h W.length z) (W ++ [p]) B := by
  intro k w hk
  by_cases hl : k < W.length
  · rw [List.getElem?_append_left hl] at hk
    simp only [upd, if_neg (Nat.ne_of_lt hl)]
    exact hW k w hk
  · rw [List.getElem?_append_right (by omega)] at hk
    have hz0 : k - W.length < 1 := (List.getElem?_eq_some_iff.mp hk).1
    have hk0 : k = W.length := by omega
    subst hk0
    rw [Nat.sub_self] at hk
    cases hk
    simp only [upd, if_true]
    exact ⟨hx, hy, hz⟩
def B3 (b : Nat → Int32) (B : List Int32) : Prop := ∀ k c, B[k]? = some c → b k = c
section TEXT
variable {σ : AH} {q cap n w : Nat} {b f l s e h : Nat → Int32}
theorem h6_addWord {B : List Int32} {W : List (Nat × Nat)} {st i : Nat} (hT : TB σ q cap b f l n s e h W.length) (hB : B3 b B) (hBn : B.length = n) (hn : n ≤ cap) (hc : cap ≤ 300) (hW : WD s e h W B) (hsi : st ≤ i) (hi : i ≤ n) (hcnt : st < i → W.length < (cap + 1) / 2) :
    Hr (f6_addWord (some q) (nI st) (nI (i - st))) σ (fun _ σ' => Sm σ σ' q (q + 7) ∧ ∃ s' e' h', TB σ' q cap b f l n s' e' h' (W ++ (if st < i then [(st, i)] else [])).length ∧ WD s' e' h' (W ++ (if st < i then [(st, i)] else [])) B) := by
  have hT' := hT
  obtain ⟨h0, h1, h2, h3, h4, h5, h6⟩ := hT'
  unfold f6_addWord
  refine b_ite (fun c => ?_) (fun c => ?_)
  · rw [show (1 : Int32) = nI 1 from rfl, nI_ltI (by omega) (by omega)] at c
    refine hr_rt.mpr ⟨Sm.rf, s, e, h, ?_, ?_⟩
    · rw [if_neg (by omega), List.append_nil]; exact hT
    · rw [if_neg (by omega), List.append_nil]; exact hW
  · rw [show (1 : Int32) = nI 1 from rfl, nI_ltI (by omega) (by omega)] at c
    have hlt : st < i := by omega
    have hcn := hcnt hlt
    rw [if_pos hlt]
    refine (b_getI h0 rfl).mpr ?_
    refine (b_getR h0 rfl).mpr ?_
    refine (b_len h4).mpr ?_
    rw [if_pos (nI_lt (by omega) (by omega))]
    refine b_hr (P := fun y σ' => y = hsh (sl B (st, i)) ∧ σ' = σ) ?_ ?_
    · refine hr_loop (fun x σ1 => σ1 = σ ∧ ∃ j, j ≤ i - st ∧ x = (hsh ((B.drop st).take j), nI j)) (fun x => (i - st) - x.2.toNatClampNeg) ⟨rfl, 0, Nat.zero_le _, rfl⟩ (by show (i - st) - _ < _; omega) ?_
      rintro rec x σ1 ⟨rfl, j, hj, rfl⟩ ih
      unfold l6_addWord_23
      dsimp only
      refine b_ite (fun c2 => ?_) (fun c2 => ?_)
      · rw [nI_leI (by omega) (by omega)] at c2
        have : j = i - st := by omega
        subst this
        exact hr_rt.mpr ⟨rfl, rfl⟩
      · rw [nI_leI (by omega) (by omega)] at c2
        refine (b_getR h0 rfl).mpr ?_
        refine (b_ld h1 (nI_add st j) (by omega) (by omega)).mpr ?_
        have hlen : st + j < B.length := by omega
        have hb : b (st + j) = B[st + j] := hB _ _ (List.getElem?_eq_getElem hlen)
        refine ih _ _ ⟨rfl, j + 1, by omega, ?_⟩ ?_
        · rw [nI_1]
          congr 1
          rw [hb, List.take_add_one, List.getElem?_drop, List.getElem?_eq_getElem hlen]
          exact (hsh_snoc _ _).symm
        · show (i - st) - (nI j + 1).toNatClampNeg < (i - st) - (nI j).toNatClampNeg
          rw [nI_1, nI_clamp (by omega), nI_clamp (by omega)]
          omega
    · rintro y σ' ⟨rfl, rfl⟩
      refine (b_getR h0 rfl).mpr ?_
      refine (b_getI h0 rfl).mpr ?_
      refine b_st h4 rfl (by omega) (by omega) fun σ2 u1 => ?_
      have k0 := u1.ne h0 (by omega)
      have k5 := u1.ne h5 (by omega)
      have k6 := u1.ne h6 (by omega)
      refine (b_getR k0 rfl).mpr ?_
      refine (b_getI k0 rfl).mpr ?_
      refine b_st k5 rfl (by omega) (by omega) fun σ3 u2 => ?_
      have m0 := u2.ne k0 (by omega)
      have m6 := u2.ne k6 (by omega)
      refine (b_getR m0 rfl).mpr ?_
      refine (b_getI m0 rfl).mpr ?_
      refine b_st m6 rfl (by omega) (by omega) fun σ4 u3 => ?_
      have p0 := u3.ne m0 (by omega)
      refine (b_getI p0 rfl).mpr ?_
      refine b_putI p0 (by simp) fun σ5 u4 => ?_
      refine hr_rt.mpr ⟨(((Sm.rf.up u1 (by omega) (by omega)).up u2 (by omega) (by omega)).up u3 (by omega) (by omega)).up u4 (by omega) (by omega), upd s W.length (nI st), upd e W.length (nI (i - st)), upd h W.length (hsh (sl B (st, i))), ?_, hW.snoc rfl rfl rfl⟩
      have g : ∀ k (v : va_E), σ'.1[k]? = some v → k ≠ q + 4 → k ≠ q + 5 → k ≠ q + 6 → k ≠ q → σ5.1[k]? = some v := fun k v hv a1 a2 a3 a4 => u4.ne (u3.ne (u2.ne (u1.ne hv a1) a2) a3) a4
      refine ⟨?_, g _ _ h1 (by omega) (by omega) (by omega) (by omega), g _ _ h2 (by omega) (by omega) (by omega) (by omega), g _ _ h3 (by omega) (by omega) (by omega) (by omega), u4.ne (u3.ne (u2.ne u1.1 (by omega)) (by omega)) (by omega), u4.ne (u3.ne u2.1 (by omega)) (by omega), u4.ne u3.1 (by omega)⟩
      rw [u4.1, nI_1, List.length_append]
      rfl
theorem e6_isOfWord (hT : TB σ q cap b f l n s e h w) {i : Nat} (hi : i < n) (hn : n ≤ cap) (hc : cap ≤ 300) : f6_isOfWord (some q) (nI i) σ = some (bI (iw (b i)), σ) := by
  obtain ⟨h0, h1, h2, h3, h4, h5, h6⟩ := hT
  have key : Hr (f6_isOfWord (some q) (nI i)) σ (fun r σ' => r = bI (iw (b i)) ∧ σ' = σ) := by
    unfold f6_isOfWord
    refine (b_getR h0 rfl).mpr ?_
    refine (b_ld h1 rfl (by omega) (by omega)).mpr ?_
    refine (b_eq (e6_isDigit _ σ)).mpr ?_
    refine b_ite (fun c => ?_) (fun c => ?_)
    · rw [bI_0] at c
      refine (b_getR h0 rfl).mpr ?_
      refine (b_ld h1 rfl (by omega) (by omega)).mpr ?_
      refine b_ite (fun c2 => ?_) (fun c2 => ?_)
      · refine hr_rt.mpr ⟨?_, rfl⟩
        have : ¬ (97 ≤ b i ∧ b i ≤ 122) := fun q => absurd c2 (nlt.mpr q.1)
        simp [iw, c, this, bI]
      · refine (b_getR h0 rfl).mpr ?_
        refine (b_ld h1 rfl (by omega) (by omega)).mpr ?_
        refine b_ite (fun c3 => ?_) (fun c3 => ?_)
        · refine hr_rt.mpr ⟨?_, rfl⟩
          have : ¬ (97 ≤ b i ∧ b i ≤ 122) := fun q => absurd c3 (nlt.mpr q.2)
          simp [iw, c, this, bI]
        · refine hr_rt.mpr ⟨?_, rfl⟩
          simp [iw, c, nlt.mp c2, nlt.mp c3, bI]
    · rw [bI_0, Bool.not_eq_false] at c
      refine hr_rt.mpr ⟨?_, rfl⟩
      simp [iw, c, bI]
  obtain ⟨r, σ', e1, rfl, rfl⟩ := key
  exact e1
theorem h6_splitWords {B : List Int32} (hT : TB σ q cap b f l n s e h w) (hB : B3 b B) (hBn : B.length = n) (hn : n ≤ cap) (hc : cap ≤ 300) :
    Hr (f6_splitWords (some q)) σ (fun _ σ' => Sm σ σ' q (q + 7) ∧ ∃ s' e' h', TB σ' q cap b f l n s' e' h' (wsp 0 0 B).length ∧ WD s' e' h' (wsp 0 0 B) B) := by
  have hT' := hT
  obtain ⟨h0, h1, h2, h3, h4, h5, h6⟩ := hT'
  unfold f6_splitWords
  refine b_putI h0 (by simp) fun σ1 u => ?_
  have hT1 : TB σ1 q cap b f l n s e h 0 := ⟨u.1, u.ne h1 (by omega), u.ne h2 (by omega), u.ne h3 (by omega), u.ne h4 (by omega), u.ne h5 (by omega), u.ne h6 (by omega)⟩
  have hS1 : Sm σ σ1 q (q + 7) := Sm.rf.up u (by omega) (by omega)
  have hcnt := wsp_cnt B 0 0 (Nat.le_refl _)
  rw [if_neg (by omega)] at hcnt
  refine b_hr (P := fun _ σ' => Sm σ σ' q (q + 7) ∧ ∃ s' e' h', TB σ' q cap b f l n s' e' h' (wsp 0 0 B).length ∧ WD s' e' h' (wsp 0 0 B) B) ?_ (fun _ _ hq => hr_rt.mpr hq)
  refine hr_loop (fun x σ2 => Sm σ σ2 q (q + 7) ∧ ∃ (st i : Nat) (W : List (Nat × Nat)) (s2 e2 h2 : Nat → Int32), x = (nI st, nI i) ∧ TB σ2 q cap b f l n s2 e2 h2 W.length ∧ WD s2 e2 h2 W B ∧ st ≤ i ∧ ((i ≤ n ∧ W ++ wsp st i (B.drop i) = wsp 0 0 B) ∨ (i = n + 1 ∧ W = wsp 0 0 B))) (fun x => n + 1 - x.2.toNatClampNeg) ⟨hS1, 0, 0, [], s, e, h, rfl, hT1, fun k p hk => by simp at hk, Nat.le_refl _, Or.inl ⟨Nat.zero_le _, rfl⟩⟩ (by show n + 1 - _ < _; omega) ?_
  rintro rec x σ2 ⟨hS2, st, i, W, s2, e2, h2', rfl, hT2, hW, hsi, hI⟩ ih
  unfold l6_splitWords_9
  dsimp only
  have k0 := hT2.1
  have mono : n + 1 - (nI (i + 1)).toNatClampNeg < n + 1 - (nI i).toNatClampNeg ∨ i = n + 1 := by
    rcases hI with ⟨hin, -⟩ | ⟨hin, -⟩
    · left
      rw [nI_clamp (by omega), nI_clamp (by omega)]; omega
    · right; exact hin
  refine (b_getI k0 rfl).mpr ?_
  refine b_ite (fun c => ?_) (fun c => ?_)
  · rw [nI_ltI (by omega) (by omega)] at c
    rcases hI with ⟨hin, -⟩ | ⟨-, rfl⟩
    · omega
    · exact hr_rt.mpr ⟨hS2, s2, e2, h2', hT2, hW⟩
  · rw [nI_ltI (by omega) (by omega)] at c
    rcases hI with ⟨hin, hU⟩ | ⟨hin, -⟩
    · have add : ∀ (rest : List (Nat × Nat)), W ++ ((if st < i then [(st, i)] else []) ++ rest) = wsp 0 0 B → (∀ W', W' ++ rest = wsp 0 0 B → (i + 1 ≤ n ∧ W' ++ wsp (i + 1) (i + 1) (B.drop (i + 1)) = wsp 0 0 B) ∨ (i + 1 = n + 1 ∧ W' = wsp 0 0 B)) →
          Hr (bn (oObj (some q) 6) fun _ => bn (f6_addWord (some q) (nI st) (nI i - nI st)) fun _ => rec (nI i + 1, nI i + 1)) σ2 (fun _ σ' => Sm σ σ' q (q + 7) ∧ ∃ s' e' h', TB σ' q cap b f l n s' e' h' (wsp 0 0 B).length ∧ WD s' e' h' (wsp 0 0 B) B) := by
        intro rest hU2 hnext
        refine (b_obj k0).mpr ?_
        rw [nI_subN hsi]
        refine b_hr (h6_addWord hT2 hB hBn hn hc hW hsi hin (fun hlt => ?_)) ?_
        · have := congrArg List.length hU2
          rw [if_pos hlt] at this
          simp only [List.length_append, List.length_cons, List.length_nil] at this
          omega
        · rintro _ σ3 ⟨hS3, s3, e3, h3', hT3, hW3⟩
          rw [nI_1]
          refine ih _ _ ⟨hS2.tr hS3, i + 1, i + 1, _, s3, e3, h3', rfl, hT3, hW3, Nat.le_refl _, hnext _ (by rw [List.append_assoc]; exact hU2)⟩ ?_
          rcases mono with hm | hm
          · exact hm
          · omega
      refine (b_getI k0 rfl).mpr ?_
      refine b_ite (fun c2 => ?_) (fun c2 => ?_)
      · rw [nI_eq (by omega) (by omega)] at c2
        have hd : B.drop i = [] := List.drop_eq_nil_of_le (by omega)
        rw [hd, wsp] at hU
        exact add [] (by rw [List.append_nil]; exact hU) (fun W' hW' => Or.inr ⟨by omega, by rw [List.append_nil] at hW'; exact hW'⟩)
      · rw [nI_eq (by omega) (by omega)] at c2
        obtain ⟨cc, hcc⟩ := drop_hd (T := B) (i := i) (by omega)
        have hbi : b i = cc := by
          refine hB i cc ?_
          have : (B.drop i)[0]? = some cc := by rw [hcc]; rfl
          rwa [List.getElem?_drop, Nat.add_zero] at this
        rw [hcc, wsp] at hU
        refine (b_obj k0).mpr ?_
        refine (b_eq (e6_isOfWord hT2 (by omega) hn hc)).mpr ?_
        rw [hbi]
        refine b_ite (fun c3 => ?_) (fun c3 => ?_)
        · rw [bI_0] at c3
          rw [if_neg (by rw [c3]; decide)] at hU
          exact add _ hU (fun W' hW' => Or.inl ⟨by omega, hW'⟩)
        · rw [bI_0, Bool.not_eq_false] at c3
          rw [if_pos c3] at hU
          rw [nI_1]
          refine ih _ _ ⟨hS2, st, i + 1, W, s2, e2, h2', rfl, hT2, hW, by omega, Or.inl ⟨by omega, hU⟩⟩ ?_
          rcases mono with hm | hm
          · exact hm
          · omega
    · omega
end TEXT
