/-! ===== the class: its cells, each with a tag: 0 not the class's, 1 never written again, 2 the first twenty-three, 3 + i letter i's own ===== -/
abbrev Tg : Type := Nat → Nat
def FT (t : Nat) (g : Tg) (σ : AH) (g' : Tg) (σ' : AH) : Prop := ∀ k, g k = t → g' k = t ∧ σ'.1[k]? = σ.1[k]?
theorem FT.rf {t : Nat} {g : Tg} {σ : AH} : FT t g σ g σ := fun k hk => ⟨hk, rfl⟩
theorem FT.tr {t : Nat} {g g1 g2 : Tg} {σ σ1 σ2 : AH} (h : FT t g σ g1 σ1) (k : FT t g1 σ1 g2 σ2) : FT t g σ g2 σ2 := fun a ha => ⟨(k a (h a ha).1).1, (k a (h a ha).1).2.trans (h a ha).2⟩
theorem ft_up {t : Nat} {g : Tg} {σ σ' : AH} {a : Nat} {e : va_E} (u : Up σ σ' a e) (h : g a ≠ t) : FT t g σ g σ' := fun k hk => ⟨hk, u.2.1 k (fun q => h (by rw [← q]; exact hk))⟩
theorem ft_sm {t : Nat} {g : Tg} {σ σ' : AH} {lo hi : Nat} (u : Sm σ σ' lo hi) (h : ∀ k, lo ≤ k → k < hi → g k ≠ t) : FT t g σ g σ' := fun k hk => ⟨hk, u.1 k (Classical.byContradiction fun q => h k (by omega) (by omega) hk)⟩
theorem ft_new {t : Nat} {g g' : Tg} {σ σ' : AH} (ho : ∀ k, k < σ.1.length → σ'.1[k]? = σ.1[k]?) (hg : ∀ k, k < σ.1.length → g' k = g k) (hl : ∀ k, g k ≠ 0 → k < σ.1.length) (ht : t ≠ 0) : FT t g σ g' σ' := fun k hk => by
  have := hl k (by rw [hk]; exact ht)
  exact ⟨by rw [hg k this]; exact hk, ho k this⟩
def TxI (g : Tg) (σ : AH) (q : Nat) (xs : List Int32) : Prop := (∀ k, q ≤ k → k < q + 7 → g k = 1) ∧ ∃ cap, CTx σ q cap xs
def KdI (g : Tg) (σ : AH) (q : Nat) (d : Kd) : Prop := g q = 1 ∧ ∃ wq : Option Nat, σ.1[q]? = some (.inr (1, [.int (nI (kSort d)), va_rf wq, .int (nI (kTx d)), .int (nI (kN d)), .int (nI (kM d)), .int (nI (kD d))])) ∧ (kSort d = 1 → ∃ a, wq = some a ∧ TxI g σ a (kMs d))
def RlI (g : Tg) (σ : AH) (q : Nat) (r : Rl) : Prop := g q = 1 ∧ σ.1[q]? = some (.inr (4, [.int (rS r), .int (rW r), .int (nI (rK r)), .int (nI (rA r))]))
abbrev rA5 (t n : Nat) (f : Nat → Option Nat) : va_E := .inl (t, n, .inr (.inr (.inr (.inr f))))
def RRI (g : Tg) (σ : AH) (q b : Nat) (rs : List Rl) : Prop := ∃ f, σ.1[q]? = some (.inr (5, [.ref b, .int (nI rs.length)])) ∧ σ.1[b]? = some (rA5 5 21 f) ∧ rs.length ≤ 21 ∧ ∀ i r, rs[i]? = some r → ∃ a, f i = some a ∧ RlI g σ a r
theorem TxI.fr {g g' : Tg} {σ σ' : AH} {q : Nat} {xs : List Int32} (h : TxI g σ q xs) (f : FT 1 g σ g' σ') : TxI g' σ' q xs := by
  obtain ⟨h1, cap, h2⟩ := h
  exact ⟨fun k a b => (f k (h1 k a b)).1, cap, h2.frame fun k a b => (f k (h1 k a b)).2⟩
theorem KdI.fr {g g' : Tg} {σ σ' : AH} {q : Nat} {d : Kd} (h : KdI g σ q d) (f : FT 1 g σ g' σ') : KdI g' σ' q d := by
  obtain ⟨h1, wq, h2, h3⟩ := h
  refine ⟨(f q h1).1, wq, by rw [(f q h1).2]; exact h2, fun hs => ?_⟩
  obtain ⟨a, h4, h5⟩ := h3 hs
  exact ⟨a, h4, h5.fr f⟩
theorem RlI.fr {g g' : Tg} {σ σ' : AH} {q : Nat} {r : Rl} (h : RlI g σ q r) (f : FT 1 g σ g' σ') : RlI g' σ' q r := ⟨(f q h.1).1, by rw [(f q h.1).2]; exact h.2⟩
theorem RRI.fr {g g' : Tg} {σ σ' : AH} {q b : Nat} {rs : List Rl} (h : RRI g σ q b rs) (f : FT 1 g σ g' σ') (hq : σ'.1[q]? = σ.1[q]?) (hb : σ'.1[b]? = σ.1[b]?) : RRI g' σ' q b rs := by
  obtain ⟨p, h1, h2, h3, h4⟩ := h
  refine ⟨p, by rw [hq]; exact h1, by rw [hb]; exact h2, h3, fun i r hr => ?_⟩
  obtain ⟨a, h5, h6⟩ := h4 i r hr
  exact ⟨a, h5, h6.fr f⟩
/-- a letter at c (its bytes as they came; the Letter itself is behind them) -/
def LtI (g : Tg) (σ : AH) (c i : Nat) (x : Lt) (rw0 : Nat → List Int32 → List T3) : Prop := ∃ (fn : Option Nat) (lv : Nat) (sd : Nat → Int32),
  (g (c + 1) = 3 + i ∧ σ.1[c + 1]? = some (.inr (2, [.int (nI (lS x)), .int (nI (lT x)), .int (nI (lW x)), .int (nI (lD x)), .ref c, .ref (c + 2), .int (nI (lAct x)), .int (lKind x), .int (nI (lFate x)), va_rf fn, .ref lv, .ref (c + 9), .ref (c + 10)]))) ∧
  (g c = 1 ∧ ∃ cm, σ.1[c]? = some (.inl (0, (lB x).length, .inl cm)) ∧ B3 cm (lB x)) ∧ TxI g σ (c + 2) (lB x) ∧
  (g (c + 9) = 1 ∧ ∃ sg, σ.1[c + 9]? = some (rA5 6 8 sg) ∧ ∀ k, k < 8 → sg k = some (c + 11 + 5 * k)) ∧
  (g (c + 10) = 3 + i ∧ σ.1[c + 10]? = some (.inl (1, 8, .inl sd))) ∧
  (∀ k, k < 8 → (∀ j, j < 5 → g (c + 11 + 5 * k + j) = 3 + i) ∧ ∃ R, FB σ (c + 11 + 5 * k) 0 R ∧ (sd k = 0 ∨ (sd k = 1 ∧ R = rw0 k (lB x)))) ∧
  ((fn = none ∧ lR x = []) ∨ ∃ q, fn = some q ∧ (∀ k, q ≤ k → k < q + 5 → g k = 1) ∧ ∃ cap, FB σ q cap (lR x) ∧ (lR x).length ≤ cap ∧ cap < 2 ^ 30) ∧
  (g lv = 1 ∧ ∃ lf, σ.1[lv]? = some (.inl (0, (lB x).length, .inl lf)) ∧ B3 lf (lvg x))
theorem LtI.fr {g g' : Tg} {σ σ' : AH} {c i : Nat} {x : Lt} {rw0 : Nat → List Int32 → List T3} (h : LtI g σ c i x rw0) (f : FT 1 g σ g' σ') (fi : FT (3 + i) g σ g' σ') : LtI g' σ' c i x rw0 := by
  obtain ⟨fn, lv, sd, ⟨a1, a2⟩, ⟨b1, cm, b2, b3⟩, c1, ⟨d1, sg, d2, d3⟩, ⟨e1, e2⟩, h1, h2, ⟨l1, lf, l2, l3⟩⟩ := h
  refine ⟨fn, lv, sd, ⟨(fi _ a1).1, by rw [(fi _ a1).2]; exact a2⟩, ⟨(f _ b1).1, cm, by rw [(f _ b1).2]; exact b2, b3⟩, c1.fr f, ⟨(f _ d1).1, sg, by rw [(f _ d1).2]; exact d2, d3⟩, ⟨(fi _ e1).1, by rw [(fi _ e1).2]; exact e2⟩, fun k hk => ?_, ?_, ⟨(f _ l1).1, lf, by rw [(f _ l1).2]; exact l2, l3⟩⟩
  · obtain ⟨q1, R, q2, q3⟩ := h1 k hk
    refine ⟨fun j hj => (fi _ (q1 j hj)).1, R, q2.frame (fun m m1 m2 => ?_), q3⟩
    obtain ⟨j, rfl⟩ : ∃ j, m = c + 11 + 5 * k + j := ⟨m - (c + 11 + 5 * k), by omega⟩
    exact (fi _ (q1 j (by omega))).2
  · rcases h2 with h2 | ⟨q, q1, q2, cap, q3, q4⟩
    · exact Or.inl h2
    · exact Or.inr ⟨q, q1, fun k a b => (f k (q2 k a b)).1, cap, q3.frame (fun k a b => (f k (q2 k a b)).2), q4⟩
def dgl (d n l : Nat) : List Value := [.int (nI d), .ref 1, .int (nI n), .ref 2, .ref 3, .ref 4, .ref 5, .ref 7, .int (nI l), .ref 8, .ref 15, .ref 20, .ref 21]
def cTape (σ : AH) (xs : List Int32) : Prop := ∃ tp, σ.1[1]? = some (.inl (0, 300, .inl tp)) ∧ B3 tp xs
def cKept (g : Tg) (σ : AH) (kp : Nat → List Int32) : Prop := ∃ f, σ.1[2]? = some (rA5 2 8 f) ∧ ∀ i, i < 8 → ∃ q, f i = some q ∧ TxI g σ q (kp i)
def cKind (g : Tg) (σ : AH) (kd : Nat → Kd) : Prop := ∃ f, σ.1[3]? = some (rA5 3 8 f) ∧ ∀ i, i < 8 → ∃ q, f i = some q ∧ KdI g σ q (kd i)
def cAll (σ : AH) (al : Nat → Bool) : Prop := ∃ f, σ.1[4]? = some (.inl (1, 800, .inl f)) ∧ ∀ i, i < 800 → f i = bI (al i)
def cRow (σ : AH) (c : Nat → Nat) (n : Nat) : Prop := ∃ f, σ.1[7]? = some (rA5 4 60 f) ∧ ∀ i, i < n → f i = some (c i + 1)
def cTx (σ : AH) : Prop := ∃ b f l n s e h w, TB σ 8 300 b f l n s e h w
def cTr (σ : AH) : Prop := ∃ f n, σ.1[21]? = some (.inr (5, [.ref 22, .int n])) ∧ σ.1[22]? = some (rA5 5 21 f)
def cSc (σ : AH) : Prop := cTx σ ∧ (∃ R, FB σ 15 0 R) ∧ (∃ S, PB σ 20 S) ∧ cTr σ
def cLet (g : Tg) (c : Nat → Nat) (σ : AH) (ls : List Lt) (rw0 : Nat → List Int32 → List T3) : Prop := ∀ i x, ls[i]? = some x → LtI g σ (c i) i x rw0
def rwA (A : St) : Nat → List Int32 → List T3 := fun k xs => rawF (aKept A) (aKind A k) xs
def cTag (g : Tg) (σ : AH) : Prop := (∀ k, g k ≠ 0 → k < σ.1.length) ∧ ∀ k, k < 23 → g k = 2
def Cls (g : Tg) (c : Nat → Nat) (σ : AH) (A : St) : Prop := cTag g σ ∧ σ.1[0]? = some (.inr (7, dgl (aDay A) (aTape A).length (aLet A).length)) ∧ cTape σ (aTape A) ∧ cKept g σ (aKept A) ∧ cKind g σ (aKind A) ∧ cAll σ (aAll A) ∧ RRI g σ 5 6 (aRul A) ∧ cRow σ c (aLet A).length ∧ cSc σ ∧ cLet g c σ (aLet A) (rwA A)
theorem cKept.fr {g g' : Tg} {σ σ' : AH} {kp : Nat → List Int32} (h : cKept g σ kp) (f : FT 1 g σ g' σ') (hq : σ'.1[2]? = σ.1[2]?) : cKept g' σ' kp := by
  obtain ⟨p, h1, h2⟩ := h
  refine ⟨p, by rw [hq]; exact h1, fun i hi => ?_⟩
  obtain ⟨q, h3, h4⟩ := h2 i hi
  exact ⟨q, h3, h4.fr f⟩
theorem cKind.fr {g g' : Tg} {σ σ' : AH} {kd : Nat → Kd} (h : cKind g σ kd) (f : FT 1 g σ g' σ') (hq : σ'.1[3]? = σ.1[3]?) : cKind g' σ' kd := by
  obtain ⟨p, h1, h2⟩ := h
  refine ⟨p, by rw [hq]; exact h1, fun i hi => ?_⟩
  obtain ⟨q, h3, h4⟩ := h2 i hi
  exact ⟨q, h3, h4.fr f⟩
theorem cLet.fr {g g' : Tg} {c : Nat → Nat} {σ σ' : AH} {ls : List Lt} {rw0 : Nat → List Int32 → List T3} (h : cLet g c σ ls rw0) (f : FT 1 g σ g' σ') (fi : ∀ i, i < ls.length → FT (3 + i) g σ g' σ') : cLet g' c σ' ls rw0 := fun i x hx => (h i x hx).fr f (fi i (List.getElem?_eq_some_iff.mp hx).1)
theorem cTape.fr {σ σ' : AH} {xs : List Int32} (h : cTape σ xs) (hq : σ'.1[1]? = σ.1[1]?) : cTape σ' xs := by
  obtain ⟨p, h1, h2⟩ := h
  exact ⟨p, by rw [hq]; exact h1, h2⟩
theorem cAll.fr {σ σ' : AH} {al : Nat → Bool} (h : cAll σ al) (hq : σ'.1[4]? = σ.1[4]?) : cAll σ' al := by
  obtain ⟨p, h1, h2⟩ := h
  exact ⟨p, by rw [hq]; exact h1, h2⟩
theorem cRow.fr {σ σ' : AH} {c : Nat → Nat} {n : Nat} (h : cRow σ c n) (hq : σ'.1[7]? = σ.1[7]?) : cRow σ' c n := by
  obtain ⟨p, h1, h2⟩ := h
  exact ⟨p, by rw [hq]; exact h1, h2⟩
theorem cTx.fr {σ σ' : AH} (h : cTx σ) (hq : ∀ k, 8 ≤ k → k < 15 → σ'.1[k]? = σ.1[k]?) : cTx σ' := by
  obtain ⟨b, f, l, n, s, e, hh, w, h1⟩ := h
  exact ⟨b, f, l, n, s, e, hh, w, h1.frame hq⟩
theorem cTr.fr {σ σ' : AH} (h : cTr σ) (hq : σ'.1[21]? = σ.1[21]?) (hr : σ'.1[22]? = σ.1[22]?) : cTr σ' := by
  obtain ⟨f, n, h1, h2⟩ := h
  exact ⟨f, n, by rw [hq]; exact h1, by rw [hr]; exact h2⟩
theorem cSc.fr {σ σ' : AH} (h : cSc σ) (hq : ∀ k, 8 ≤ k → k < 23 → σ'.1[k]? = σ.1[k]?) : cSc σ' := by
  obtain ⟨h1, ⟨R, h2⟩, ⟨S, h3⟩, h4⟩ := h
  exact ⟨h1.fr (fun k a b => hq k a (by omega)), ⟨R, h2.frame (fun k a b => hq k (by omega) (by omega))⟩, ⟨S, h3.frame (hq 20 (by omega) (by omega))⟩, h4.fr (hq 21 (by omega) (by omega)) (hq 22 (by omega) (by omega))⟩
/-- what a call of the class leaves alone, and what room it takes -/
def CX (g0 : Tg) (σ0 : AH) (g : Tg) (σ : AH) (nc ns : Nat) : Prop := (∀ k, k < σ0.1.length → g k = g0 k) ∧ (∀ k, g0 k = 0 → k < σ0.1.length → σ.1[k]? = σ0.1[k]?) ∧ σ0.1.length ≤ σ.1.length ∧ σ.1.length ≤ σ0.1.length + nc ∧ σ.2 ≤ σ0.2 + ns
theorem CX.rf {g : Tg} {σ : AH} : CX g σ g σ 0 0 := ⟨fun _ _ => rfl, fun _ _ _ => rfl, Nat.le_refl _, Nat.le_refl _, Nat.le_refl _⟩
theorem CX.wk {g0 g : Tg} {σ0 σ : AH} {nc ns nc' ns' : Nat} (h : CX g0 σ0 g σ nc ns) (h1 : nc ≤ nc') (h2 : ns ≤ ns') : CX g0 σ0 g σ nc' ns' := ⟨h.1, h.2.1, h.2.2.1, by have := h.2.2.2.1; omega, by have := h.2.2.2.2; omega⟩
theorem CX.tr {g0 g1 g2 : Tg} {σ0 σ1 σ2 : AH} {a b c d : Nat} (h : CX g0 σ0 g1 σ1 a b) (k : CX g1 σ1 g2 σ2 c d) : CX g0 σ0 g2 σ2 (a + c) (b + d) := by
  obtain ⟨h1, h2, h3, h4, h5⟩ := h
  obtain ⟨k1, k2, k3, k4, k5⟩ := k
  refine ⟨fun q hq => (k1 q (by omega)).trans (h1 q hq), fun q hq hl => ?_, by omega, by omega, by omega⟩
  rw [k2 q (by rw [h1 q hl]; exact hq) (by omega), h2 q hq hl]
theorem cx_up {g : Tg} {σ σ' : AH} {a : Nat} {e : va_E} (u : Up σ σ' a e) (h : g a ≠ 0) : CX g σ g σ' 0 0 := ⟨fun _ _ => rfl, fun k hk _ => u.2.1 k (fun q => h (by rw [← q]; exact hk)), by rw [u.2.2.1]; exact Nat.le_refl _, by rw [u.2.2.1]; exact Nat.le_refl _, by rw [u.2.2.2]; exact Nat.le_refl _⟩
theorem cx_sm {g : Tg} {σ σ' : AH} {lo hi : Nat} (u : Sm σ σ' lo hi) (h : ∀ k, lo ≤ k → k < hi → g k ≠ 0) : CX g σ g σ' 0 0 := ⟨fun _ _ => rfl, fun k hk _ => u.1 k (Classical.byContradiction fun q => h k (by omega) (by omega) hk), by rw [u.2.1]; exact Nat.le_refl _, by rw [u.2.1]; exact Nat.le_refl _, by rw [u.2.2]; exact Nat.le_refl _⟩
def CQ (g0 : Tg) (σ0 : AH) (nc ns : Nat) (o : Int32 × St) : Int32 → AH → Prop := fun r σ => r = o.1 ∧ ∃ g c, Cls g c σ o.2 ∧ CX g0 σ0 g σ nc ns
theorem cq_rt {g : Tg} {c : Nat → Nat} {σ : AH} {o : Int32 × St} {nc ns : Nat} {r : Int32} (hr : r = o.1) (h : Cls g c σ o.2) : Hr (rt r) σ (CQ g σ nc ns o) := hr_rt.mpr ⟨hr, g, c, h, CX.rf.wk (Nat.zero_le _) (Nat.zero_le _)⟩
/-- a write at one of the first twenty-three cells: what is behind them stays -/
theorem lo_ft {g : Tg} {σ σ' : AH} {a t : Nat} {e : va_E} (h : cTag g σ) (u : Up σ σ' a e) (ha : a < 23) (ht : t ≠ 2) : FT t g σ g σ' := ft_up u (by rw [h.2 a ha]; exact Ne.symm ht)
theorem lo_tag {g : Tg} {σ σ' : AH} (h : cTag g σ) (hl : σ'.1.length = σ.1.length) : cTag g σ' := ⟨fun k hk => by rw [hl]; exact h.1 k hk, h.2⟩
theorem Cls.u0 {g : Tg} {c : Nat → Nat} {σ σ' : AH} {A : St} {d : Nat} {tp : List Int32} (h : Cls g c σ A) (u : Up σ σ' 0 (.inr (7, dgl d tp.length (aLet A).length))) (hB : ∀ b, B3 b (aTape A) → B3 b tp) : Cls g c σ' ((d, tp), A.2) := by
  obtain ⟨h1, h2, ⟨b, h3, h3'⟩, h4, h5, h6, h7, h8, h9, h10⟩ := h
  have f : ∀ t, t ≠ 2 → FT t g σ g σ' := fun t ht => lo_ft h1 u (by decide) ht
  exact ⟨lo_tag h1 u.2.2.1, u.1, ⟨b, u.ne h3 (by decide), hB b h3'⟩, h4.fr (f 1 (by decide)) (u.2.1 2 (by decide)), h5.fr (f 1 (by decide)) (u.2.1 3 (by decide)), h6.fr (u.2.1 4 (by decide)), h7.fr (f 1 (by decide)) (u.2.1 5 (by decide)) (u.2.1 6 (by decide)), h8.fr (u.2.1 7 (by decide)), h9.fr (fun k a _ => u.2.1 k (by omega)), h10.fr (f 1 (by decide)) (fun i _ => f _ (by omega))⟩
theorem Cls.z0 {g : Tg} {c : Nat → Nat} {σ : AH} {A : St} (h : Cls g c σ A) : g 0 ≠ 0 := by rw [h.1.2 0 (by decide)]; decide
section CLSA
variable {g : Tg} {c : Nat → Nat} {σ : AH} {A : St}
theorem d7_days {n : Int32} (h : Cls g c σ A) (hW : StW A) : Hr (f7_days (some 0) n) σ (CQ g σ 60 2100 (pDays A n)) := by
  unfold f7_days pDays
  have hd := hW.1
  have h0 := h.2.1
  refine (b_eq (e7_within _ _ _ _)).mpr ?_
  by_cases c1 : 0 ≤ n ∧ n ≤ 100
  · obtain ⟨j, hj, rfl⟩ := (in_nI (m := 100) (by decide)).mp c1
    rw [decide_eq_true c1, if_neg (show ¬ bI true = 0 by decide), show tn (nI j) = j from nI_clamp (by omega)]
    refine (b_getI h0 rfl).mpr ?_
    rw [nI_add, show (1000 : Int32) = nI 1000 from rfl]
    refine b_ite (fun c2 => ?_) (fun c2 => ?_)
    · rw [nI_leI (by omega) (by omega)] at c2
      rw [if_pos ⟨c1, c2⟩]
      refine (b_getI h0 rfl).mpr ?_
      rw [nI_add]
      refine b_putI h0 (by simp [dgl]) fun σ2 u => ?_
      refine (b_getI u.1 rfl).mpr ?_
      exact hr_rt.mpr ⟨rfl, g, c, h.u0 u (fun _ q => q), (cx_up u h.z0).wk (by omega) (by omega)⟩
    · rw [nI_leI (by omega) (by omega)] at c2
      rw [if_neg (fun q => c2 q.2)]
      exact cq_rt rfl h
  · rw [decide_eq_false c1, if_pos (show bI false = 0 from rfl), if_neg (fun q => c1 q.1)]
    exact cq_rt rfl h
theorem d7_end {n : Int32} (h : Cls g c σ A) (hW : StW A) : Hr (f7_end (some 0) n) σ (CQ g σ 60 2100 (pEnd A n)) := by
  unfold f7_end pEnd
  have ht := hW.2.1
  have h0 := h.2.1
  refine (b_getI h0 rfl).mpr ?_
  refine (b_eq (e7_within _ _ _ _)).mpr ?_
  by_cases c1 : 0 ≤ n ∧ n ≤ nI (aTape A).length
  · rw [decide_eq_true c1, if_neg (show ¬ bI true = 0 by decide), if_pos c1]
    obtain ⟨j, hj, rfl⟩ := (in_nI (by omega)).mp c1
    rw [show tn (nI j) = j from nI_clamp (by omega)]
    refine b_putI h0 (by simp [dgl]) fun σ2 u => ?_
    have hl : ((aTape A).take j).length = j := by rw [List.length_take]; omega
    refine hr_rt.mpr ⟨rfl, g, c, h.u0 (d := aDay A) (tp := (aTape A).take j) ?_ (fun _ q => q.take j), (cx_up u h.z0).wk (by omega) (by omega)⟩
    rw [hl]
    exact u
  · rw [decide_eq_false c1, if_pos (show bI false = 0 from rfl), if_neg c1]
    exact cq_rt rfl h
end CLSA
