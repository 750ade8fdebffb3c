/-! ===== the rows as the printed walks use them ===== -/
theorem cat_i (x : Int32) : (Value.int x).category = 1 := rfl
theorem cat_l (x : Int64) : (Value.long x).category = 2 := rfl
theorem lc_int {L : List (Option Value)} {i : Nat} {x : Int32} (h : L[i - 1]? = some (some (.int x))) : lc L i := fun v _ h2 => by rw [h] at h2; cases h2; rfl
theorem lc_ref {L : List (Option Value)} {i : Nat} {r : Option Nat} (h : L[i - 1]? = some (some (va_rf r))) : lc L i := fun v _ h2 => by rw [h] at h2; cases h2; exact cat_rf _
theorem lc_non {L : List (Option Value)} {i : Nat} (h : L[i - 1]? = some none) : lc L i := fun v _ h2 => by rw [h] at h2; cases h2
theorem lc_0 {L : List (Option Value)} : lc L 0 := fun v h _ => absurd h (by decide)
def lw : List (Option Value) → List (Option Value) → Prop
  | [], _ => True
  | none :: A, _ :: B => lw A B
  | some v :: A, o :: B => o = some v ∧ lw A B
  | _ :: _, [] => False
theorem lw_0 {B : List (Option Value)} : lw [] B := trivial
theorem lw_n {A B : List (Option Value)} {o : Option Value} (h : lw A B) : lw (none :: A) (o :: B) := h
theorem lw_s {A B : List (Option Value)} {v : Value} (h : lw A B) : lw (some v :: A) (some v :: B) := ⟨rfl, h⟩
theorem lw_get : ∀ {A B : List (Option Value)}, lw A B → ∀ (i : Nat) (v : Value), A[i]? = some (some v) → B[i]? = some (some v) := by
  intro A
  induction A with
  | nil => intro B h i v hv; simp at hv
  | cons a A ih =>
    intro B h i v hv
    cases B with
    | nil => cases a <;> exact absurd h (by simp [lw])
    | cons o B =>
      cases a with
      | none =>
        cases i with
        | zero => cases hv
        | succ i => exact ih (B := B) h i v hv
      | some w =>
        cases i with
        | zero => cases hv; rw [h.1]; rfl
        | succ i => exact ih (B := B) h.2 i v hv
theorem at_weak {X : Cx} {M : MI} {pc : Nat} {L L' : List (Option Value)} {S : List Value} {σ : AH} (hw : lw L' L) (k : AT X M pc L' S σ) : AT X M pc L S σ := by
  obtain ⟨p, l, e, R, s, m, args, below, meth, c, D, aC, b, n0, z0, N, Z, Q⟩ := X
  refine ⟨k.1, fun H locs ls g1 g2 hP hS hl => k.2 H locs ls g1 g2 hP hS ⟨hl.1, hl.2.1, ?_⟩⟩
  rintro ⟨i, w⟩ hm
  obtain ⟨v, h1, rfl⟩ := lvl_mem.mp hm
  exact hl.at (lw_get hw i v h1)
theorem at_join {α β : Type} {m : Cm α} {f : α → Cm β} {σ : AH} {QQ : β → AH → Prop} {P : Prop} (J : α → AH → Prop) (h : Hr (bn m f) σ QQ) (kj : ∀ y σ, Hr (f y) σ QQ → J y σ) (km : Hr m σ (fun y σ => Hr (f y) σ QQ) → (∀ y σ, Hr (f y) σ QQ → J y σ) → P) : P := km (hr_bn.mp h) kj
theorem hr_inr {ρ α β : Type} {f1 : ρ → Cm β} {f2 : α → Cm β} {a : α} {σ : AH} {QQ : β → AH → Prop} (h : Hr (rt (.inr a)) σ (fun y σ => Hr (Sum.elim f1 f2 y) σ QQ)) : Hr (f2 a) σ QQ := hr_rt.mp h
theorem hr_inl {ρ α β : Type} {f1 : ρ → Cm β} {f2 : α → Cm β} {a : ρ} {σ : AH} {QQ : β → AH → Prop} (h : Hr (rt (.inl a)) σ (fun y σ => Hr (Sum.elim f1 f2 y) σ QQ)) : Hr (f1 a) σ QQ := hr_rt.mp h
theorem at_joinS {ρ α β : Type} {m : Cm (ρ ⊕ α)} {f1 : ρ → Cm β} {f2 : α → Cm β} {σ : AH} {QQ : β → AH → Prop} {P : Prop} (J : α → AH → Prop) (h : Hr (bn m (Sum.elim f1 f2)) σ QQ) (kj : ∀ y σ, Hr (f2 y) σ QQ → J y σ) (km : Hr m σ (fun y σ => Hr (Sum.elim f1 f2 y) σ QQ) → (∀ y σ, Hr (f2 y) σ QQ → J y σ) → P) : P := km (hr_bn.mp h) kj
theorem at_ite {β : Type} {c : Prop} {dec : Decidable c} {m1 m2 : Cm β} {σ : AH} {QQ : β → AH → Prop} {P : Prop} (h : Hr (@ite (Cm β) c dec m1 m2) σ QQ) (kt : c → Hr m1 σ QQ → P) (kf : ¬ c → Hr m2 σ QQ → P) : P := by
  by_cases hc : c
  · rw [if_pos hc] at h; exact kt hc h
  · rw [if_neg hc] at h; exact kf hc h
theorem at_loop {ξ η β : Type} {F : (ξ → Cm η) → ξ → Cm η} {f : η → Cm β} {x : ξ} {σ : AH} {QQ : β → AH → Prop} (Hd : ξ → AH → Prop) (Ex : η → AH → Prop) (h : Hr (bn (fx F FUEL x) f) σ QQ) (kx : ∀ y σ, Hr (f y) σ QQ → Ex y σ) (body : (∀ y σ, Hr (f y) σ QQ → Ex y σ) → ∀ rec : ξ → Cm η, (∀ x σ, Hr (rec x) σ (fun y σ => Hr (f y) σ QQ) → Hd x σ) → ∀ x σ, Hr (F rec x) σ (fun y σ => Hr (f y) σ QQ) → Hd x σ) : Hd x σ := by
  have key : ∀ n x σ, Hr (fx F n x) σ (fun y σ => Hr (f y) σ QQ) → Hd x σ := by
    intro n
    induction n with
    | zero => intro x σ h; exact absurd h hr_fx0
    | succ n ih => intro x σ h; exact body kx (fx F n) ih x σ h
  exact key FUEL x σ (hr_bn.mp h)
theorem at_loopS {ρ ξ η β : Type} {F : (ξ → Cm (ρ ⊕ η)) → ξ → Cm (ρ ⊕ η)} {f1 : ρ → Cm β} {f2 : η → Cm β} {x : ξ} {σ : AH} {QQ : β → AH → Prop} (Hd : ξ → AH → Prop) (Ex : η → AH → Prop) (h : Hr (bn (fx F FUEL x) (Sum.elim f1 f2)) σ QQ) (kx : ∀ y σ, Hr (f2 y) σ QQ → Ex y σ) (body : (∀ y σ, Hr (f2 y) σ QQ → Ex y σ) → ∀ rec : ξ → Cm (ρ ⊕ η), (∀ x σ, Hr (rec x) σ (fun y σ => Hr (Sum.elim f1 f2 y) σ QQ) → Hd x σ) → ∀ x σ, Hr (F rec x) σ (fun y σ => Hr (Sum.elim f1 f2 y) σ QQ) → Hd x σ) : Hd x σ := by
  have key : ∀ n x σ, Hr (fx F n x) σ (fun y σ => Hr (Sum.elim f1 f2 y) σ QQ) → Hd x σ := by
    intro n
    induction n with
    | zero => intro x σ h; exact absurd h hr_fx0
    | succ n ih => intro x σ h; exact body kx (fx F n) ih x σ h
  exact key FUEL x σ (hr_bn.mp h)
section ROWS
variable {X : Cx} {M : MI} {pc : Nat} {L : List (Option Value)} {S : List Value} {σ : AH} {β : Type} {QQ : β → AH → Prop} {idx ci k t : Nat} {r : Option Nat}
theorem bt_if_eq {x : Int32} {off : Int} {tgt : Nat} {dec : Decidable (x = 0)} {m1 m2 : Cm β} (ok : Ok X M) (d : decode M.2.1 pc = .ok (.ifCond .eq off, 3)) (ht : (pc : Int) + off = (tgt : Int)) (h : Hr (@ite (Cm β) (x = 0) dec m1 m2) σ QQ) (kt : x = 0 → Hr m1 σ QQ → AT X M tgt L S σ) (kf : ¬ (x = 0) → Hr m2 σ QQ → AT X M (pc + 3) L S σ) : AT X M pc L (.int x :: S) σ := at_if_eq ok d ht (fun hc => kt hc (by rw [if_pos hc] at h; exact h)) (fun hc => kf hc (by rw [if_neg hc] at h; exact h))
theorem bt_if_ne {x : Int32} {off : Int} {tgt : Nat} {dec : Decidable (x = 0)} {m1 m2 : Cm β} (ok : Ok X M) (d : decode M.2.1 pc = .ok (.ifCond .ne off, 3)) (ht : (pc : Int) + off = (tgt : Int)) (h : Hr (@ite (Cm β) (x = 0) dec m1 m2) σ QQ) (kt : x = 0 → Hr m1 σ QQ → AT X M (pc + 3) L S σ) (kf : ¬ (x = 0) → Hr m2 σ QQ → AT X M tgt L S σ) : AT X M pc L (.int x :: S) σ := at_if_ne ok d ht (fun hc => kf hc (by rw [if_neg hc] at h; exact h)) (fun hc => kt hc (by rw [if_pos hc] at h; exact h))
theorem bt_if_lt {x : Int32} {off : Int} {tgt : Nat} {dec : Decidable (x < 0)} {m1 m2 : Cm β} (ok : Ok X M) (d : decode M.2.1 pc = .ok (.ifCond .lt off, 3)) (ht : (pc : Int) + off = (tgt : Int)) (h : Hr (@ite (Cm β) (x < 0) dec m1 m2) σ QQ) (kt : x < 0 → Hr m1 σ QQ → AT X M tgt L S σ) (kf : ¬ (x < 0) → Hr m2 σ QQ → AT X M (pc + 3) L S σ) : AT X M pc L (.int x :: S) σ := at_if_lt ok d ht (fun hc => kt hc (by rw [if_pos hc] at h; exact h)) (fun hc => kf hc (by rw [if_neg hc] at h; exact h))
theorem bt_if_ge {x : Int32} {off : Int} {tgt : Nat} {dec : Decidable (0 ≤ x)} {m1 m2 : Cm β} (ok : Ok X M) (d : decode M.2.1 pc = .ok (.ifCond .ge off, 3)) (ht : (pc : Int) + off = (tgt : Int)) (h : Hr (@ite (Cm β) (0 ≤ x) dec m1 m2) σ QQ) (kt : 0 ≤ x → Hr m1 σ QQ → AT X M tgt L S σ) (kf : ¬ (0 ≤ x) → Hr m2 σ QQ → AT X M (pc + 3) L S σ) : AT X M pc L (.int x :: S) σ := at_if_ge ok d ht (fun hc => kt hc (by rw [if_pos hc] at h; exact h)) (fun hc => kf hc (by rw [if_neg hc] at h; exact h))
theorem bt_if_gt {x : Int32} {off : Int} {tgt : Nat} {dec : Decidable (0 < x)} {m1 m2 : Cm β} (ok : Ok X M) (d : decode M.2.1 pc = .ok (.ifCond .gt off, 3)) (ht : (pc : Int) + off = (tgt : Int)) (h : Hr (@ite (Cm β) (0 < x) dec m1 m2) σ QQ) (kt : 0 < x → Hr m1 σ QQ → AT X M tgt L S σ) (kf : ¬ (0 < x) → Hr m2 σ QQ → AT X M (pc + 3) L S σ) : AT X M pc L (.int x :: S) σ := at_if_gt ok d ht (fun hc => kt hc (by rw [if_pos hc] at h; exact h)) (fun hc => kf hc (by rw [if_neg hc] at h; exact h))
theorem bt_if_le {x : Int32} {off : Int} {tgt : Nat} {dec : Decidable (x ≤ 0)} {m1 m2 : Cm β} (ok : Ok X M) (d : decode M.2.1 pc = .ok (.ifCond .le off, 3)) (ht : (pc : Int) + off = (tgt : Int)) (h : Hr (@ite (Cm β) (x ≤ 0) dec m1 m2) σ QQ) (kt : x ≤ 0 → Hr m1 σ QQ → AT X M tgt L S σ) (kf : ¬ (x ≤ 0) → Hr m2 σ QQ → AT X M (pc + 3) L S σ) : AT X M pc L (.int x :: S) σ := at_if_le ok d ht (fun hc => kt hc (by rw [if_pos hc] at h; exact h)) (fun hc => kf hc (by rw [if_neg hc] at h; exact h))
theorem bt_icmp_eq {x y : Int32} {off : Int} {tgt : Nat} {dec : Decidable (x = y)} {m1 m2 : Cm β} (ok : Ok X M) (d : decode M.2.1 pc = .ok (.if_icmp .eq off, 3)) (ht : (pc : Int) + off = (tgt : Int)) (h : Hr (@ite (Cm β) (x = y) dec m1 m2) σ QQ) (kt : x = y → Hr m1 σ QQ → AT X M tgt L S σ) (kf : ¬ (x = y) → Hr m2 σ QQ → AT X M (pc + 3) L S σ) : AT X M pc L (.int y :: .int x :: S) σ := at_icmp_eq ok d ht (fun hc => kt hc (by rw [if_pos hc] at h; exact h)) (fun hc => kf hc (by rw [if_neg hc] at h; exact h))
theorem bt_icmp_ne {x y : Int32} {off : Int} {tgt : Nat} {dec : Decidable (x = y)} {m1 m2 : Cm β} (ok : Ok X M) (d : decode M.2.1 pc = .ok (.if_icmp .ne off, 3)) (ht : (pc : Int) + off = (tgt : Int)) (h : Hr (@ite (Cm β) (x = y) dec m1 m2) σ QQ) (kt : x = y → Hr m1 σ QQ → AT X M (pc + 3) L S σ) (kf : ¬ (x = y) → Hr m2 σ QQ → AT X M tgt L S σ) : AT X M pc L (.int y :: .int x :: S) σ := at_icmp_ne ok d ht (fun hc => kf hc (by rw [if_neg hc] at h; exact h)) (fun hc => kt hc (by rw [if_pos hc] at h; exact h))
theorem bt_icmp_lt {x y : Int32} {off : Int} {tgt : Nat} {dec : Decidable (x < y)} {m1 m2 : Cm β} (ok : Ok X M) (d : decode M.2.1 pc = .ok (.if_icmp .lt off, 3)) (ht : (pc : Int) + off = (tgt : Int)) (h : Hr (@ite (Cm β) (x < y) dec m1 m2) σ QQ) (kt : x < y → Hr m1 σ QQ → AT X M tgt L S σ) (kf : ¬ (x < y) → Hr m2 σ QQ → AT X M (pc + 3) L S σ) : AT X M pc L (.int y :: .int x :: S) σ := at_icmp_lt ok d ht (fun hc => kt hc (by rw [if_pos hc] at h; exact h)) (fun hc => kf hc (by rw [if_neg hc] at h; exact h))
theorem bt_icmp_ge {x y : Int32} {off : Int} {tgt : Nat} {dec : Decidable (y ≤ x)} {m1 m2 : Cm β} (ok : Ok X M) (d : decode M.2.1 pc = .ok (.if_icmp .ge off, 3)) (ht : (pc : Int) + off = (tgt : Int)) (h : Hr (@ite (Cm β) (y ≤ x) dec m1 m2) σ QQ) (kt : y ≤ x → Hr m1 σ QQ → AT X M tgt L S σ) (kf : ¬ (y ≤ x) → Hr m2 σ QQ → AT X M (pc + 3) L S σ) : AT X M pc L (.int y :: .int x :: S) σ := at_icmp_ge ok d ht (fun hc => kt hc (by rw [if_pos hc] at h; exact h)) (fun hc => kf hc (by rw [if_neg hc] at h; exact h))
theorem bt_icmp_gt {x y : Int32} {off : Int} {tgt : Nat} {dec : Decidable (y < x)} {m1 m2 : Cm β} (ok : Ok X M) (d : decode M.2.1 pc = .ok (.if_icmp .gt off, 3)) (ht : (pc : Int) + off = (tgt : Int)) (h : Hr (@ite (Cm β) (y < x) dec m1 m2) σ QQ) (kt : y < x → Hr m1 σ QQ → AT X M tgt L S σ) (kf : ¬ (y < x) → Hr m2 σ QQ → AT X M (pc + 3) L S σ) : AT X M pc L (.int y :: .int x :: S) σ := at_icmp_gt ok d ht (fun hc => kt hc (by rw [if_pos hc] at h; exact h)) (fun hc => kf hc (by rw [if_neg hc] at h; exact h))
theorem bt_icmp_le {x y : Int32} {off : Int} {tgt : Nat} {dec : Decidable (x ≤ y)} {m1 m2 : Cm β} (ok : Ok X M) (d : decode M.2.1 pc = .ok (.if_icmp .le off, 3)) (ht : (pc : Int) + off = (tgt : Int)) (h : Hr (@ite (Cm β) (x ≤ y) dec m1 m2) σ QQ) (kt : x ≤ y → Hr m1 σ QQ → AT X M tgt L S σ) (kf : ¬ (x ≤ y) → Hr m2 σ QQ → AT X M (pc + 3) L S σ) : AT X M pc L (.int y :: .int x :: S) σ := at_icmp_le ok d ht (fun hc => kt hc (by rw [if_pos hc] at h; exact h)) (fun hc => kf hc (by rw [if_neg hc] at h; exact h))
theorem bt_ifnull {off : Int} {tgt : Nat} {dec : Decidable (r = none)} {m1 m2 : Cm β} (ok : Ok X M) (d : decode M.2.1 pc = .ok (.ifnull off, 3)) (ht : (pc : Int) + off = (tgt : Int)) (h : Hr (@ite (Cm β) (r = none) dec m1 m2) σ QQ) (kt : r = none → Hr m1 σ QQ → AT X M tgt L S σ) (kf : ¬ (r = none) → Hr m2 σ QQ → AT X M (pc + 3) L S σ) : AT X M pc L (va_rf r :: S) σ := at_ifnull ok d ht (fun hc => kt hc (by rw [if_pos hc] at h; exact h)) (fun hc => kf hc (by rw [if_neg hc] at h; exact h))
theorem bt_ifnonnull {off : Int} {tgt : Nat} {dec : Decidable (r = none)} {m1 m2 : Cm β} (ok : Ok X M) (d : decode M.2.1 pc = .ok (.ifnonnull off, 3)) (ht : (pc : Int) + off = (tgt : Int)) (h : Hr (@ite (Cm β) (r = none) dec m1 m2) σ QQ) (kt : r = none → Hr m1 σ QQ → AT X M (pc + 3) L S σ) (kf : ¬ (r = none) → Hr m2 σ QQ → AT X M tgt L S σ) : AT X M pc L (va_rf r :: S) σ := at_ifnonnull ok d ht (fun hc => kf hc (by rw [if_neg hc] at h; exact h)) (fun hc => kt (Decidable.not_not.mp hc) (by rw [if_pos (Decidable.not_not.mp hc)] at h; exact h))
theorem at_cI {M' : MI} {As : List Value} {f : Cm Unit} {g : Unit → Cm β} (ok : Ok X M) (ct : CI M M' idx As.length) (d : decode M.2.1 pc = .ok (.invokespecial idx, 3)) (hS8 : (S.map fun v => v.category).sum ≤ 8) (sim : ∀ Q, Hr f σ Q → Runs M' σ (va_rf r :: As) (fun v σ1 => ∃ a, v = none ∧ Q a σ1)) (h : Hr (bn (oObj r ci) fun _ => bn f g) σ QQ) (kk : ∀ a σ1, Hr (g a) σ1 QQ → AT X M (pc + 3) L S σ1) : AT X M pc L (As.reverse ++ va_rf r :: S) σ := by
  obtain ⟨u, σ', e, h2⟩ := hr_bn.mp h
  obtain ⟨rfl, b, fs, rfl, ho⟩ := obj_inv e
  exact at_cIv ok ct d hS8 sim h2 kk
theorem at_oI {g : Unit → Cm β} (w1 : Cond.methodLink M.1.cls idx Lib.objectInit ∈ gw) (w2 : Cond.instanceMethod Lib.objectInit ∈ gw) (w3 : Cond.code Lib.objectInit ⟨#[0xb1]⟩ 1 none ∈ gw) (hf : 1 ≤ M.2.2.2.2.1) (hlo : (S.map fun v => v.category).sum + 12 ≤ M.2.2.2.2.2) (ok : Ok X M) (d : decode M.2.1 pc = .ok (.invokespecial idx, 3)) (h : Hr (bn (oObj r ci) g) σ QQ) (kk : Hr (g ()) σ QQ → AT X M (pc + 3) L S σ) : AT X M pc L (va_rf r :: S) σ := by
  obtain ⟨u, σ', e, h2⟩ := hr_bn.mp h
  obtain ⟨rfl, b, fs, rfl, ho⟩ := obj_inv e
  exact at_objInit w1 w2 w3 hf hlo ok d (kk h2)
theorem at_castI {f : Int32 → Cm β} (hw : Cond.classLink M.1.cls idx "[I" ∈ gw) (ok : Ok X M) (d : decode M.2.1 pc = .ok (.checkcast idx, 3)) (h0 : Hr (bn (oLen 0 r) f) σ QQ) (kk : ∀ v, Hr (f v) σ QQ → AT X M (pc + 3) L (va_rf r :: S) σ) : AT X M pc L (va_rf r :: S) σ := by
  obtain ⟨v, σ', e, h⟩ := hr_bn.mp h0
  obtain ⟨rfl, a, x, rfl, h1, rfl⟩ := len_inv e
  have kk := kk _ h
  obtain ⟨p, l, e, R, s, m, args, below, meth, c, D, aC, b, n0, z0, N, Z, Q⟩ := X
  obtain ⟨hx, hb, hr, hml, hown, hts, hlk, hnm, hK, hR⟩ := ok
  refine ⟨kk.1, fun H locs ls g1 g2 hP hS hl => ?_⟩
  have hnmI : s.vm.findClass "[I" = some (aC 0) := by
    have e2 := (hK.1.2 0 _ rfl).2
    have e3 : "[" ++ FieldType.int.toString = "[I" := by decide +kernel
    rw [← e3]
    exact e2
  exact va_castA hx hb hown (hts _ hw) hP a (wsO_get (b := b) (aC := aC) h1) hnmI d (kk.2 H locs ls g1 g2 hP hS hl)
theorem at_lstoren {k : Fin 4} {i : Nat} {x : Int64} (ok : Ok X M) (d : decode M.2.1 pc = .ok (.lstore_n k, 1)) (hi : (k : Nat) = i) (hc : lc L i) (hn : i + 1 < M.2.2.1) (kk : AT X M (pc + 1) ((L.set i (some (.long x))).set (i + 1) none) S σ) : AT X M pc L (.long x :: S) σ := by
  obtain ⟨p, l, e, R, s, m, args, below, meth, c, D, aC, b, n0, z0, N, Z, Q⟩ := X
  obtain ⟨hx, hb, hr, hml, hown, hts, hlk, hnm, hK, hR⟩ := ok
  refine ⟨kk.1, fun H locs ls g1 g2 hP hS hl => ?_⟩
  refine lv_lstore_n hx hb d hi hl hn rfl (fun ls h' => kk.2 H locs ls g1 g2 hP hS ?_)
  refine ⟨h'.1, h'.2.1, ?_⟩
  rintro ⟨j, w⟩ hw
  obtain ⟨u, h1, rfl⟩ := lvl_mem.mp hw
  refine h'.2.2 (j, trV b u) ?_
  by_cases hj1 : i + 1 = j
  · subst hj1
    rw [List.getElem?_set] at h1
    simp at h1
  · rw [List.getElem?_set_ne hj1] at h1
    by_cases hj : i = j
    · subst hj
      have hlt : i < L.length := by
        have := (List.getElem?_eq_some_iff.mp h1).1
        simpa using this
      rw [List.getElem?_set_self hlt] at h1
      cases h1
      exact List.mem_cons_self
    · rw [List.getElem?_set_ne hj] at h1
      refine List.mem_cons_of_mem _ (List.mem_filter.mpr ⟨lvl_mem.mpr ⟨u, h1, rfl⟩, ?_⟩)
      have h2 : ¬ j = i := fun h => hj h.symm
      have h2' : ¬ j = i + 1 := fun h => hj1 h.symm
      by_cases h3 : j + 1 = i
      · have h4 : u.category = 1 := hc u (by omega) (by rw [← h3]; exact h1)
        simp [h2, h2', trV_cat, h4]
      · simp [h2, h2', h3]
/-- a method of one long -/
theorem runs_ofJ {M : MI} {σ σ' : AH} {x : Int64} {r : Option Value} (hp : plainName M.1.cls = true) (hlen : M.2.2.1 = 2) (hmono : σ.1.length ≤ σ'.1.length ∧ σ.2 ≤ σ'.2) (body : ∀ X : Cx, Ok X M → Fin' X r σ' → AT X M 0 [some (.long x), none] [] σ) : RunsTo M σ [.long x] σ' r := by
  intro l D aC b
  refine Met.ofW (cc := M.2.1) (maxL := M.2.2.1) (ret := M.2.2.2.1) hp rfl ?_
  intro p e s m args below meth c s₁ B hml hv
  obtain ⟨rfl, hsz, hP, hK⟩ := hv
  have hts := atoms_spec (ws := wdsM M) B.pre
  have hown : s.vm.findClass M.1.cls = some m.cls := findClass_of_methodNamed B.named
  have hk := body (p, l, e, ({ frames := M.2.2.2.2.1, cells := σ'.1.length - σ.1.length, slots := σ'.2 - σ.2, locals := M.2.2.2.2.2 } : Room), s, m, ([Value.long x].map (trV b)).toArray, below, meth, c, D, aC, b, σ.1.length, σ.2, σ'.1.length, σ'.2, MQ below (fun _ st oc t => oc = .returned (r.map (trV b)) ∧ va_P D vwCl (wsO b aC σ'.1) t.heap ∧ va_F (fun q => b ≤ q) st t) ([Value.long x].map (trV b)).toArray s (σ'.1.length - σ.1.length) (σ'.2 - σ.2) (fun q => b ≤ q))
    ⟨B.exec, B.bytes, B.returns, hml, hown, fun w hw => hts w (List.mem_cons_of_mem _ hw), B.notSynchronized, (name_of_methodNamed B.named B.method).1, hK, Nat.le_refl _, Nat.le_refl _, Nat.le_refl _, Nat.le_refl _, hsz⟩ ⟨rfl, rfl, rfl⟩
  have hl := lv_entry ([Value.long x]) (n := M.2.2.1) (by rw [hlen]; exact Nat.le_refl 2)
  have e0 : [Value.long x].map (trV b) = [Value.long x] := rfl
  rw [e0, lg_entry_eq]
  generalize (lg_sl [Value.long x] ++ List.replicate (M.2.2.1 - (lg_sl [Value.long x]).length) Slot.unset).toArray = ls at hl ⊢
  have hl2 : LV ls M.2.2.1 b [some (.long x), none] := by
    refine ⟨hl.1, hl.2.1, ?_⟩
    rintro ⟨i, w⟩ hw
    obtain ⟨v, h1, rfl⟩ := lvl_mem.mp hw
    refine hl.2.2 (i, trV b v) ?_
    match i, h1 with
    | 0, h1 => cases h1; exact List.mem_cons_self
    | 1, h1 => cases h1
    | i + 2, h1 => simp at h1
  have := hk.2 s.heap [] ls (Nat.le_refl _) (Nat.le_refl _) hP va_S.rf hl2
  rw [Nat.sub_self, Nat.sub_self] at this
  exact this
theorem tsw_in {dflt lo hi off : Int} {offs : Array Int} {x y : Int32} {pc tgt : Nat} (e : x = y) (h1 : ¬ (y.toInt < lo ∨ hi < y.toInt)) (h2 : offs[(y.toInt - lo).toNat]? = some off) (h3 : (pc : Int) + off = (tgt : Int)) : if x.toInt < lo ∨ hi < x.toInt then (pc : Int) + dflt = (tgt : Int) else ∃ off, offs[(x.toInt - lo).toNat]? = some off ∧ (pc : Int) + off = (tgt : Int) := by
  subst e
  rw [if_neg h1]
  exact ⟨off, h2, h3⟩
theorem tsw_out {dflt lo hi : Int} {offs : Array Int} {x : Int32} {pc tgt : Nat} (h1 : x.toInt < lo ∨ hi < x.toInt) (h3 : (pc : Int) + dflt = (tgt : Int)) : if x.toInt < lo ∨ hi < x.toInt then (pc : Int) + dflt = (tgt : Int) else ∃ off, offs[(x.toInt - lo).toNat]? = some off ∧ (pc : Int) + off = (tgt : Int) := by
  rw [if_pos h1]
  exact h3
end ROWS
