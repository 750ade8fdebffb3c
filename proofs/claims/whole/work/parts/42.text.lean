/-! ===== the class's Text: its cells, unwrapping ===== -/
/-- a Text at q, its six rows behind it: cap bytes' room; b f l the bytes and their places, n of them; s e h the words' starts, lengths, hashes, w of them -/
def TB (σ : AH) (q cap : Nat) (b f l : Nat → Int32) (n : Nat) (s e h : Nat → Int32) (w : Nat) : Prop :=
  σ.1[q]? = some (.inr (6, [.ref (q + 1), .ref (q + 2), .ref (q + 3), .int (nI n), .ref (q + 4), .ref (q + 5), .ref (q + 6), .int (nI w)])) ∧
  σ.1[q + 1]? = some (.inl (0, cap, .inl b)) ∧ σ.1[q + 2]? = some (.inl (0, cap, .inl f)) ∧ σ.1[q + 3]? = some (.inl (0, cap, .inl l)) ∧
  σ.1[q + 4]? = some (.inl (0, (cap + 1) / 2, .inl s)) ∧ σ.1[q + 5]? = some (.inl (0, (cap + 1) / 2, .inl e)) ∧ σ.1[q + 6]? = some (.inl (0, (cap + 1) / 2, .inl h))
theorem TB.frame {σ σ' : AH} {q cap : Nat} {b f l : Nat → Int32} {n : Nat} {s e h : Nat → Int32} {w : Nat} (hT : TB σ q cap b f l n s e h w) (hk : ∀ k, q ≤ k → k < q + 7 → σ'.1[k]? = σ.1[k]?) : TB σ' q cap b f l n s e h w := by
  obtain ⟨h0, h1, h2, h3, h4, h5, h6⟩ := hT
  exact ⟨by rw [hk _ (by omega) (by omega)]; exact h0, by rw [hk _ (by omega) (by omega)]; exact h1, by rw [hk _ (by omega) (by omega)]; exact h2, by rw [hk _ (by omega) (by omega)]; exact h3, by rw [hk _ (by omega) (by omega)]; exact h4, by rw [hk _ (by omega) (by omega)]; exact h5, by rw [hk _ (by omega) (by omega)]; exact h6⟩
/-- only cells from lo up to hi differ; none is new -/
def Sm (σ σ' : AH) (lo hi : Nat) : Prop := (∀ k, (k < lo ∨ hi ≤ k) → σ'.1[k]? = σ.1[k]?) ∧ σ'.1.length = σ.1.length ∧ σ'.2 = σ.2
theorem Sm.rf {σ : AH} {lo hi : Nat} : Sm σ σ lo hi := ⟨fun _ _ => rfl, rfl, rfl⟩
theorem Sm.up {σ σ1 σ2 : AH} {lo hi a : Nat} {e : va_E} (h : Sm σ σ1 lo hi) (u : Up σ1 σ2 a e) (h1 : lo ≤ a) (h2 : a < hi) : Sm σ σ2 lo hi := ⟨fun k hk => (u.2.1 k (by omega)).trans (h.1 k hk), u.2.2.1.trans h.2.1, u.2.2.2.trans h.2.2⟩
theorem Sm.tr {σ σ1 σ2 : AH} {lo hi : Nat} (h : Sm σ σ1 lo hi) (u : Sm σ1 σ2 lo hi) : Sm σ σ2 lo hi := ⟨fun k hk => (u.1 k hk).trans (h.1 k hk), u.2.1.trans h.2.1, u.2.2.trans h.2.2⟩
/-- the byte that a wrapped one tells, or -1 -/
def wr : List T3 → Int32
  | x :: y :: z :: _ => if x.1 = 37 ∧ ¬ hx y.1 = -1 ∧ ¬ hx z.1 = -1 then 16 * hx y.1 + hx z.1 else -1
  | _ => -1
section TEXT
variable {σ : AH} {q cap n w : Nat} {b f l s e h : Nat → Int32}
theorem e6_wrappedAt (hT : TB σ q cap b f l n s e h w) {i : Nat} {T : List T3} (hA : A3 b f l i T) (hi : i < n) (hn : n ≤ cap) (hc : cap ≤ 300) (hl : i + T.length = n) : f6_wrappedAt (some q) (nI i) σ = some (wr T, σ) := by
  obtain ⟨h0, h1, h2, h3, h4, h5, h6⟩ := hT
  have key : Hr (f6_wrappedAt (some q) (nI i)) σ (fun r σ' => r = wr T ∧ σ' = σ) := by
    unfold f6_wrappedAt
    refine (b_getR h0 rfl).mpr ?_
    refine (b_ld h1 rfl (by omega) (by omega)).mpr ?_
    match T, hA, hl with
    | [], hA, hl => simp at hl; omega
    | x :: T, hA, hl =>
      rw [hA.hd.1]
      refine b_ite (fun c => ?_) (fun c => ?_)
      · refine (b_getI h0 rfl).mpr ?_
        rw [show nI i + 2 = nI (i + 2) from nI_add i 2]
        refine b_ite (fun c2 => ?_) (fun c2 => ?_)
        · rw [nI_ltI (by omega) (by omega)] at c2
          match T, hA, hl with
          | [], hA, hl => simp at hl; omega
          | [y], hA, hl => simp at hl; omega
          | y :: z :: r, hA, hl =>
            refine (b_getR h0 rfl).mpr ?_
            refine (b_ld h1 (nI_1 i) (by omega) (by omega)).mpr ?_
            rw [hA.tl.hd.1]
            refine (b_eq (e6_hexOf _ σ)).mpr ?_
            refine (b_getR h0 rfl).mpr ?_
            refine (b_ld h1 rfl (by omega) (by omega)).mpr ?_
            have e3 : b (i + 2) = z.1 := hA.tl.tl.hd.1
            rw [e3]
            refine (b_eq (e6_hexOf _ σ)).mpr ?_
            refine b_ite (fun c3 => ?_) (fun c3 => ?_)
            · refine hr_rt.mpr ⟨?_, rfl⟩
              simp [wr, c3]
            · refine b_ite (fun c4 => ?_) (fun c4 => ?_)
              · refine hr_rt.mpr ⟨?_, rfl⟩
                simp [wr, c4]
              · refine hr_rt.mpr ⟨?_, rfl⟩
                simp [wr, c, c3, c4]
        · rw [nI_ltI (by omega) (by omega)] at c2
          refine hr_rt.mpr ⟨?_, rfl⟩
          match T, hl with
          | [], hl => rfl
          | [y], hl => rfl
          | y :: z :: r, hl => simp at hl; omega
      · refine hr_rt.mpr ⟨?_, rfl⟩
        match T with
        | [] => rfl
        | [y] => rfl
        | y :: z :: r => simp [wr, c]
  obtain ⟨r, σ', e1, rfl, rfl⟩ := key
  exact e1
theorem unw_wr {x : T3} {T : List T3} (h : wr (x :: T) = -1) : unw (x :: T) = x :: unw T := by
  match T with
  | [] => rw [unw.eq_2 [x] (by intro _ _ _ _ h; cases h), unw.eq_2 [] (by intro _ _ _ _ h; cases h)]
  | [y] => rw [unw.eq_2 [x, y] (by intro _ _ _ _ h; cases h), unw.eq_2 [y] (by intro _ _ _ _ h; cases h)]
  | y :: z :: r =>
    rw [unw]
    by_cases hc : x.1 = 37 ∧ ¬ hx y.1 = -1 ∧ ¬ hx z.1 = -1
    · simp only [wr, if_pos hc] at h
      exact absurd h (hx_two hc.2.1 hc.2.2)
    · rw [if_neg hc]
theorem unw_wr3 {x : T3} {T : List T3} (h : ¬ wr (x :: T) = -1) : ∃ y z r, T = y :: z :: r ∧ unw (x :: T) = (wr (x :: T), x.2.1, z.2.2) :: unw r := by
  match T, h with
  | [], h => exact absurd rfl h
  | [y], h => exact absurd rfl h
  | y :: z :: r, h =>
    refine ⟨y, z, r, rfl, ?_⟩
    by_cases hc : x.1 = 37 ∧ ¬ hx y.1 = -1 ∧ ¬ hx z.1 = -1
    · rw [unw, if_pos hc]
      simp only [wr, if_pos hc]
    · simp only [wr, if_neg hc] at h
      exact absurd trivial h
end TEXT
