/-! ===== the abstract machine over the Jvm model: a world out of a heap of mine, the judgement AT, a row an instruction ===== -/
def aty : Nat → FieldType
  | 0 => .int
  | 1 => .boolean
  | 2 => .object RX6
  | 3 => .object RX1
  | 4 => .object RX2
  | 5 => .object RX4
  | _ => .object RX0
/-- an abstract value as the machine has it: a cell's number goes behind the start; '.retAddr a', which no program here has, stands for the address a itself (the law's script) -/
def trV (b : Nat) : Value → Value
  | .ref a => .ref (b + a)
  | .retAddr a => .ref a
  | v => v
def trR (b : Nat) (r : Option Nat) : Option Nat := r.map (b + ·)
theorem trV_rf (b : Nat) (r : Option Nat) : trV b (va_rf r) = va_rf (trR b r) := by cases r <;> rfl
theorem trV_cat (b : Nat) (v : Value) : (trV b v).category = v.category := by cases v <;> rfl
theorem cat_rf (r : Option Nat) : (va_rf r).category = 1 := by cases r <;> rfl
theorem trS_cat (b : Nat) (S : List Value) : ((S.map (trV b)).map fun v => v.category).sum = (S.map fun v => v.category).sum := by
  rw [List.map_map]
  congr 1
  apply List.map_congr_left
  intro v _
  exact trV_cat b v
def trC (b : Nat) : ((Nat → Int32) ⊕ (Nat → Int64) ⊕ (Nat → UInt32) ⊕ (Nat → UInt64) ⊕ (Nat → Option Nat)) → ((Nat → Int32) ⊕ (Nat → Int64) ⊕ (Nat → UInt32) ⊕ (Nat → UInt64) ⊕ (Nat → Option Nat))
  | .inr (.inr (.inr (.inr f))) => .inr (.inr (.inr (.inr (fun j => trR b (f j)))))
  | x => x
def trE (b : Nat) (aC : Nat → ClassId) : va_E → va_E
  | .inl x => .inl (aC x.1, x.2.1, trC b x.2.2)
  | .inr o => .inr (o.1, o.2.map (trV b))
def wsO (b : Nat) (aC : Nat → ClassId) (σ : List va_E) : va_W := σ.mapIdx (fun k e => (b + k, trE b aC e))
theorem wsO_get {b : Nat} {aC : Nat → ClassId} {σ : List va_E} {k : Nat} {e : va_E} (h : σ[k]? = some e) : (wsO b aC σ)[k]? = some (b + k, trE b aC e) := by
  simp [wsO, h]
theorem wsO_len {b : Nat} {aC : Nat → ClassId} {σ : List va_E} : (wsO b aC σ).length = σ.length := by simp [wsO]
theorem wsO_set {b : Nat} {aC : Nat → ClassId} {σ : List va_E} {k : Nat} {e : va_E} : (wsO b aC σ).set k (b + k, trE b aC e) = wsO b aC (σ.set k e) := by
  apply List.ext_getElem?
  intro i
  by_cases hik : k = i
  · subst hik
    by_cases hk : k < σ.length
    · simp [wsO, List.getElem?_set, hk]
    · simp [wsO, List.getElem?_set, hk]
  · simp [wsO, List.getElem?_set, hik]
theorem wsO_app {b : Nat} {aC : Nat → ClassId} {σ : List va_E} {e : va_E} : wsO b aC σ ++ [(b + σ.length, trE b aC e)] = wsO b aC (σ ++ [e]) := by
  simp [wsO, List.mapIdx_append]
theorem wsO_D {b : Nat} {aC : Nat → ClassId} {σ : List va_E} : va_D (fun q => b ≤ q) (wsO b aC σ) := by
  have key : ∀ (k : Nat) (q : Nat × va_E), (wsO b aC σ)[k]? = some q → q.1 = b + k := by
    intro k q h
    simp only [wsO, List.getElem?_mapIdx] at h
    cases hs : σ[k]? with
    | none => rw [hs] at h; cases h
    | some e => rw [hs] at h; cases h; rfl
  refine ⟨fun i j p q h1 h2 h3 => ?_, fun k q h => ?_⟩
  · have a1 := key i p h1
    have a2 := key j q h2
    omega
  · have a1 := key k q h
    show b ≤ q.1
    omega
def tysO (aC : Nat → ClassId) : List (ClassId × FieldType) := [(aC 0, .int), (aC 1, .boolean), (aC 2, .object RX6), (aC 3, .object RX1), (aC 4, .object RX2), (aC 5, .object RX4), (aC 6, .object RX0)]
theorem tysO_at {aC : Nat → ClassId} {t : Nat} (h : t < 7) : (tysO aC)[t]? = some (aC t, aty t) := by
  rcases (show t = 0 ∨ t = 1 ∨ t = 2 ∨ t = 3 ∨ t = 4 ∨ t = 5 ∨ t = 6 by omega) with rfl | rfl | rfl | rfl | rfl | rfl | rfl <;> rfl
/-- what is known of the tables along a run -/
def KW (D : va_G) (aC : Nat → ClassId) (s : State) : Prop := va_K D vwCl (tysO aC) s ∧ ∀ w ∈ nwl, va_Nw w s
theorem KW.same {D : va_G} {aC : Nat → ClassId} {s U : State} (hvm : s.vm = U.vm) (h : KW D aC s) : KW D aC U := by
  have hal : s.vm.Alike U.vm := by rw [← hvm]; exact Vm.Alike.refl s.vm
  refine ⟨va_K.moved hal h.1, fun w hw => ?_⟩
  have h1 := (List.mem_filter.mp hw).2
  have h2 := h.2 w hw
  cases w with
  | fieldLinkNest a i c n d e => exact va_Nw.same rfl hvm h2
  | methodLinkNest a i x e => exact va_Nw.same rfl hvm h2
  | castable a c => exact va_Nw.same rfl hvm h2
  | arrayOver ty =>
    cases ty with
    | object C => exact va_AO.moved hal h2
    | _ => simp [isNw] at h1
  | _ => simp [isNw] at h1
theorem KW.warm {D : va_G} {aC : Nat → ClassId} {s U : State} (hW : s.WarmedH U.vm) (h : KW D aC s) : KW D aC U := by
  refine ⟨va_K.moved hW.alike h.1, fun w hw => ?_⟩
  have h1 := (List.mem_filter.mp hw).2
  have h2 := h.2 w hw
  cases w with
  | fieldLinkNest a i c n d e => exact va_Nw.warmF hW h2
  | methodLinkNest a i x e => exact va_Nw.warmM hW h2
  | castable a c => exact va_Nw.warmC hW h2
  | arrayOver ty =>
    cases ty with
    | object C => exact va_AO.moved hW.alike h2
    | _ => simp [isNw] at h1
  | _ => simp [isNw] at h1
-- a method: its name, its code, its locals, what it returns, how deep it calls, which locals it and its calls need
abbrev MI : Type := MethodName × ByteArray × Nat × Option FieldType × Nat × Nat
def wdsM (M : MI) : List Cond := .code M.1 M.2.1 M.2.2.1 M.2.2.2.1 :: gw
-- where a run of a method stands
abbrev Cx : Type := Program × Launch × Env × Room × State × MethodId × Array Value × List Frame × Method × Code × va_G × (Nat → ClassId) × Nat × Nat × Nat × Nat × Nat × (State → Prop)
def lvl (b : Nat) (L : List (Option Value)) : List (Nat × Value) := L.zipIdx.filterMap (fun q => q.1.map (fun v => (q.2, trV b v)))
theorem lvl_mem {b : Nat} {L : List (Option Value)} {i : Nat} {w : Value} : (i, w) ∈ lvl b L ↔ ∃ v, L[i]? = some (some v) ∧ w = trV b v := by
  unfold lvl
  rw [List.mem_filterMap]
  constructor
  · rintro ⟨q, h1, h2⟩
    obtain ⟨o, j⟩ := q
    rw [List.mem_zipIdx_iff_getElem?] at h1
    cases o with
    | none => cases h2
    | some v =>
      simp only [Option.map_some, Option.some.injEq, Prod.mk.injEq] at h2
      obtain ⟨rfl, rfl⟩ := h2
      exact ⟨v, h1, rfl⟩
  · rintro ⟨v, h1, rfl⟩
    refine ⟨(some v, i), ?_, rfl⟩
    rw [List.mem_zipIdx_iff_getElem?]
    exact h1
def LV (ls : Array Slot) (nL b : Nat) (L : List (Option Value)) : Prop := lv_has ls nL (lvl b L)
theorem LV.at {ls : Array Slot} {nL b : Nat} {L : List (Option Value)} (h : LV ls nL b L) {i : Nat} {v : Value} (hi : L[i]? = some (some v)) : ls[i]? = some (.val (trV b v)) := h.2.2 (i, trV b v) (lvl_mem.mpr ⟨v, hi, rfl⟩)
/-- before a store: no long ends at the place ahead -/
def lc (L : List (Option Value)) (i : Nat) : Prop := ∀ v, 1 ≤ i → L[i - 1]? = some (some v) → v.category = 1
theorem LV.st {ls' : Array Slot} {nL b i : Nat} {v : Value} {L : List (Option Value)} (hc : lc L i) (h' : lv_has ls' nL ((i, trV b v) :: (lvl b L).filter (fun q => !(q.1 == i) && !(q.1 + 1 == i && q.2.category == 2)))) : LV ls' nL b (L.set i (some v)) := by
  refine ⟨h'.1, h'.2.1, ?_⟩
  rintro ⟨j, w⟩ hw
  obtain ⟨u, h1, rfl⟩ := lvl_mem.mp hw
  refine h'.2.2 (j, trV b u) ?_
  by_cases hj : i = j
  · subst hj
    have hlt : i < L.length := by
      have := (List.getElem?_eq_some_iff.mp h1).1
      simpa using this
    rw [List.getElem?_set_self hlt] at h1
    cases h1
    exact List.mem_cons_self
  · rw [List.getElem?_set_ne hj] at h1
    refine List.mem_cons_of_mem _ (List.mem_filter.mpr ⟨lvl_mem.mpr ⟨u, h1, rfl⟩, ?_⟩)
    have h2 : ¬ j = i := fun h => hj h.symm
    by_cases h3 : j + 1 = i
    · have h4 : u.category = 1 := hc u (by omega) (by rw [← h3]; exact h1)
      simp [h2, trV_cat, h4]
    · simp [h2, h3]
theorem lvl_pos {b : Nat} {L : List (Option Value)} {i : Nat} {v : Value} (h : L[i]? = some (some v)) : ∃ k : Nat, (lvl b L)[k]? = some (i, trV b v) := List.getElem?_of_mem (lvl_mem.mpr ⟨v, h, rfl⟩)
/-- from this place on, with these locals, this stack and this heap, the run comes to its end, within its room -/
def AT (X : Cx) (M : MI) (pc : Nat) (L : List (Option Value)) (S : List Value) (σ : AH) : Prop := match X with
  | (p, l, e, R, s, m, args, below, meth, c, D, aC, b, n0, z0, N, Z, Q) => (σ.1.length ≤ N ∧ σ.2 ≤ Z) ∧
    ∀ (H : Heap) (locs : List Loc) (ls : Array Slot), n0 ≤ σ.1.length → z0 ≤ σ.2 → va_P D vwCl (wsO b aC σ.1) H → va_S (fun q => b ≤ q) s.heap H locs → LV ls M.2.2.1 b L →
      W p l e R s m args below meth c H locs (σ.1.length - n0) (σ.2 - z0) Q (F0 m pc ls (S.map (trV b)))
def Ok (X : Cx) (M : MI) : Prop := match X with
  | (p, l, e, R, s, m, args, below, meth, c, D, aC, b, n0, z0, N, Z, Q) => p.tables.exec = Jvm.exec ∧ c.code = M.2.1 ∧ meth.sig.returnType = M.2.2.2.1 ∧ c.maxLocals = M.2.2.1 ∧ s.vm.findClass M.1.cls = some m.cls ∧ (∀ w ∈ gw, w.before args s = true) ∧ meth.locks = false ∧ meth.name = M.1.name ∧ KW D aC s ∧
    M.2.2.2.2.1 ≤ R.frames ∧ M.2.2.2.2.2 ≤ R.locals ∧ N - n0 ≤ R.cells ∧ Z - z0 ≤ R.slots ∧ s.heap.size = b + n0
/-- the run's end: what it answers, and with which heap -/
def Fin' (X : Cx) (r : Option Value) (σ1 : AH) : Prop := match X with
  | (p, l, e, R, s, m, args, below, meth, c, D, aC, b, n0, z0, N, Z, Q) => N = σ1.1.length ∧ Z = σ1.2 ∧ Q = MQ below (fun _ st oc t => oc = .returned (r.map (trV b)) ∧ va_P D vwCl (wsO b aC σ1.1) t.heap ∧ va_F (fun q => b ≤ q) st t) args s (N - n0) (Z - z0) (fun q => b ≤ q)
/-- how large the heap is: what the room's count says from above, the world from below -/
theorem W_sz {p : Program} {l : Launch} {e : Env} {R : Room} {s : State} {m : MethodId} {args : Array Value} {below : List Frame} {meth : Method} {c : Code} {H : Heap} {locs : List Loc} {cells slots : Nat} {Q : State → Prop} {g : JFrame} (k : H.size ≤ s.heap.size + cells → W p l e R s m args below meth c H locs cells slots Q g) : W p l e R s m args below meth c H locs cells slots Q g := fun T hT X => k (by rw [← hT]; exact X.same.2.2.1) T hT X
theorem wsO_sz {D : va_G} {b : Nat} {aC : Nat → ClassId} {σ : List va_E} {s : State} {H : Heap} {locs : List Loc} {n0 : Nat} (hP : va_P D vwCl (wsO b aC σ) H) (hS : va_S (fun q => b ≤ q) s.heap H locs) (hs : s.heap.size = b + n0) (g1 : n0 ≤ σ.length) (hz : H.size ≤ s.heap.size + (σ.length - n0)) : H.size = b + σ.length := by
  have h1 := hS.1
  by_cases h0 : σ.length = 0
  · omega
  · have hlt : σ.length - 1 < σ.length := by omega
    have h2 := (hP (σ.length - 1) _ (wsO_get (List.getElem?_eq_getElem hlt))).lt
    simp only at h2
    omega
/-- the address of a cell that was just made -/
theorem wsO_new {D : va_G} {b q : Nat} {aC : Nat → ClassId} {σ : List va_E} {e : va_E} {H1 : Heap} (hP : va_P D vwCl (wsO b aC σ ++ [(q, e)]) H1) (hD : va_D (fun q => b ≤ q) (wsO b aC σ ++ [(q, e)])) (hz : H1.size ≤ b + σ.length + 1) : q = b + σ.length := by
  have hn : (wsO b aC σ ++ [(q, e)])[σ.length]? = some (q, e) := by
    rw [List.getElem?_append_right (by rw [wsO_len]; exact Nat.le_refl _), wsO_len, Nat.sub_self]
    rfl
  have h1 := (hP _ _ hn).lt
  have h2 := hD.2 _ _ hn
  simp only at h1 h2
  rcases Nat.lt_or_ge q (b + σ.length) with h3 | h3
  · have hk : q - b < σ.length := by omega
    have hm : (wsO b aC σ ++ [(q, e)])[q - b]? = some (b + (q - b), trE b aC σ[q - b]) := by
      rw [List.getElem?_append_left (by rw [wsO_len]; exact hk)]
      exact wsO_get (List.getElem?_eq_getElem hk)
    have := hD.1 _ _ _ _ hn hm (by simp only; omega)
    omega
  · omega
section ROWS
variable {X : Cx} {M : MI} {pc : Nat} {L : List (Option Value)} {S : List Value} {σ : AH}
theorem at_iconst {n : Int} {v : Int32} (ok : Ok X M) (d : decode M.2.1 pc = .ok (.iconst n, 1)) (hv : Int32.ofInt n = v) (kk : AT X M (pc + 1) L (.int v :: S) σ) : AT X M pc L (S) σ := by
  obtain ⟨p, l, e, R, s, m, args, below, meth, c, D, aC, b, n0, z0, N, Z, Q⟩ := X
  obtain ⟨hx, hb, hr, hml, hown, hts, hlk, hnm, hK, hR⟩ := ok
  refine ⟨kk.1, fun H locs ls g1 g2 hP hS hl => ?_⟩
  exact lv_iconst hx hb d hv (kk.2 H locs ls g1 g2 hP hS hl)
theorem at_bipush {n : Int} {v : Int32} (ok : Ok X M) (d : decode M.2.1 pc = .ok (.bipush n, 2)) (hv : (Int8.ofInt n).toInt32 = v) (kk : AT X M (pc + 2) L (.int v :: S) σ) : AT X M pc L (S) σ := by
  obtain ⟨p, l, e, R, s, m, args, below, meth, c, D, aC, b, n0, z0, N, Z, Q⟩ := X
  obtain ⟨hx, hb, hr, hml, hown, hts, hlk, hnm, hK, hR⟩ := ok
  refine ⟨kk.1, fun H locs ls g1 g2 hP hS hl => ?_⟩
  exact lv_bipush hx hb d hv (kk.2 H locs ls g1 g2 hP hS hl)
theorem at_sipush {n : Int} {v : Int32} (ok : Ok X M) (d : decode M.2.1 pc = .ok (.sipush n, 3)) (hv : (Int16.ofInt n).toInt32 = v) (kk : AT X M (pc + 3) L (.int v :: S) σ) : AT X M pc L (S) σ := by
  obtain ⟨p, l, e, R, s, m, args, below, meth, c, D, aC, b, n0, z0, N, Z, Q⟩ := X
  obtain ⟨hx, hb, hr, hml, hown, hts, hlk, hnm, hK, hR⟩ := ok
  refine ⟨kk.1, fun H locs ls g1 g2 hP hS hl => ?_⟩
  exact lv_sipush hx hb d hv (kk.2 H locs ls g1 g2 hP hS hl)
theorem at_null (ok : Ok X M) (d : decode M.2.1 pc = .ok (.aconst_null, 1)) (kk : AT X M (pc + 1) L (va_rf none :: S) σ) : AT X M pc L (S) σ := by
  obtain ⟨p, l, e, R, s, m, args, below, meth, c, D, aC, b, n0, z0, N, Z, Q⟩ := X
  obtain ⟨hx, hb, hr, hml, hown, hts, hlk, hnm, hK, hR⟩ := ok
  refine ⟨kk.1, fun H locs ls g1 g2 hP hS hl => ?_⟩
  exact lv_null hx hb d (kk.2 H locs ls g1 g2 hP hS hl)
theorem at_iloadn {k : Fin 4} {x : Int32} (ok : Ok X M) (d : decode M.2.1 pc = .ok (.iload_n k, 1)) (h : L[(k : Nat)]? = some (some (.int x))) (kk : AT X M (pc + 1) L (.int x :: S) σ) : AT X M pc L (S) σ := by
  obtain ⟨p, l, e, R, s, m, args, below, meth, c, D, aC, b, n0, z0, N, Z, Q⟩ := X
  obtain ⟨hx, hb, hr, hml, hown, hts, hlk, hnm, hK, hR⟩ := ok
  refine ⟨kk.1, fun H locs ls g1 g2 hP hS hl => ?_⟩
  exact lv_iload_n hx hb d rfl (hl.at h) (kk.2 H locs ls g1 g2 hP hS hl)
theorem at_iload {k : Nat} {x : Int32} (ok : Ok X M) (d : decode M.2.1 pc = .ok (.iload k, 2)) (h : L[k]? = some (some (.int x))) (kk : AT X M (pc + 2) L (.int x :: S) σ) : AT X M pc L (S) σ := by
  obtain ⟨p, l, e, R, s, m, args, below, meth, c, D, aC, b, n0, z0, N, Z, Q⟩ := X
  obtain ⟨hx, hb, hr, hml, hown, hts, hlk, hnm, hK, hR⟩ := ok
  refine ⟨kk.1, fun H locs ls g1 g2 hP hS hl => ?_⟩
  exact lv_iload hx hb d (hl.at h) (kk.2 H locs ls g1 g2 hP hS hl)
theorem at_lloadn {k : Fin 4} {x : Int64} (ok : Ok X M) (d : decode M.2.1 pc = .ok (.lload_n k, 1)) (h : L[(k : Nat)]? = some (some (.long x))) (kk : AT X M (pc + 1) L (.long x :: S) σ) : AT X M pc L (S) σ := by
  obtain ⟨p, l, e, R, s, m, args, below, meth, c, D, aC, b, n0, z0, N, Z, Q⟩ := X
  obtain ⟨hx, hb, hr, hml, hown, hts, hlk, hnm, hK, hR⟩ := ok
  refine ⟨kk.1, fun H locs ls g1 g2 hP hS hl => ?_⟩
  exact lv_lload_n hx hb d rfl (hl.at h) (kk.2 H locs ls g1 g2 hP hS hl)
theorem at_aloadn {k : Fin 4} {r : Option Nat} (ok : Ok X M) (d : decode M.2.1 pc = .ok (.aload_n k, 1)) (h : L[(k : Nat)]? = some (some (va_rf r))) (kk : AT X M (pc + 1) L (va_rf r :: S) σ) : AT X M pc L (S) σ := by
  obtain ⟨p, l, e, R, s, m, args, below, meth, c, D, aC, b, n0, z0, N, Z, Q⟩ := X
  obtain ⟨hx, hb, hr, hml, hown, hts, hlk, hnm, hK, hR⟩ := ok
  refine ⟨kk.1, fun H locs ls g1 g2 hP hS hl => ?_⟩
  cases r with
  | none => exact lv_aload_nN hx hb d rfl (hl.at h) (kk.2 H locs ls g1 g2 hP hS hl)
  | some a => exact lv_aload_n hx hb d rfl (hl.at h) (kk.2 H locs ls g1 g2 hP hS hl)
theorem at_aload {k : Nat} {r : Option Nat} (ok : Ok X M) (d : decode M.2.1 pc = .ok (.aload k, 2)) (h : L[k]? = some (some (va_rf r))) (kk : AT X M (pc + 2) L (va_rf r :: S) σ) : AT X M pc L (S) σ := by
  obtain ⟨p, l, e, R, s, m, args, below, meth, c, D, aC, b, n0, z0, N, Z, Q⟩ := X
  obtain ⟨hx, hb, hr, hml, hown, hts, hlk, hnm, hK, hR⟩ := ok
  refine ⟨kk.1, fun H locs ls g1 g2 hP hS hl => ?_⟩
  cases r with
  | none => exact lv_aloadN hx hb d (hl.at h) (kk.2 H locs ls g1 g2 hP hS hl)
  | some a => exact lv_aload hx hb d (hl.at h) (kk.2 H locs ls g1 g2 hP hS hl)
theorem at_iadd {x y : Int32} (ok : Ok X M) (d : decode M.2.1 pc = .ok (.iadd, 1)) (kk : AT X M (pc + 1) L (.int (x + y) :: S) σ) : AT X M pc L (.int y :: .int x :: S) σ := by
  obtain ⟨p, l, e, R, s, m, args, below, meth, c, D, aC, b, n0, z0, N, Z, Q⟩ := X
  obtain ⟨hx, hb, hr, hml, hown, hts, hlk, hnm, hK, hR⟩ := ok
  refine ⟨kk.1, fun H locs ls g1 g2 hP hS hl => ?_⟩
  exact lv_iadd hx hb d (kk.2 H locs ls g1 g2 hP hS hl)
theorem at_isub {x y : Int32} (ok : Ok X M) (d : decode M.2.1 pc = .ok (.isub, 1)) (kk : AT X M (pc + 1) L (.int (x - y) :: S) σ) : AT X M pc L (.int y :: .int x :: S) σ := by
  obtain ⟨p, l, e, R, s, m, args, below, meth, c, D, aC, b, n0, z0, N, Z, Q⟩ := X
  obtain ⟨hx, hb, hr, hml, hown, hts, hlk, hnm, hK, hR⟩ := ok
  refine ⟨kk.1, fun H locs ls g1 g2 hP hS hl => ?_⟩
  exact lv_isub hx hb d (kk.2 H locs ls g1 g2 hP hS hl)
theorem at_imul {x y : Int32} (ok : Ok X M) (d : decode M.2.1 pc = .ok (.imul, 1)) (kk : AT X M (pc + 1) L (.int (x * y) :: S) σ) : AT X M pc L (.int y :: .int x :: S) σ := by
  obtain ⟨p, l, e, R, s, m, args, below, meth, c, D, aC, b, n0, z0, N, Z, Q⟩ := X
  obtain ⟨hx, hb, hr, hml, hown, hts, hlk, hnm, hK, hR⟩ := ok
  refine ⟨kk.1, fun H locs ls g1 g2 hP hS hl => ?_⟩
  exact lv_imul hx hb d (kk.2 H locs ls g1 g2 hP hS hl)
theorem at_iand {x y : Int32} (ok : Ok X M) (d : decode M.2.1 pc = .ok (.iand, 1)) (kk : AT X M (pc + 1) L (.int (x &&& y) :: S) σ) : AT X M pc L (.int y :: .int x :: S) σ := by
  obtain ⟨p, l, e, R, s, m, args, below, meth, c, D, aC, b, n0, z0, N, Z, Q⟩ := X
  obtain ⟨hx, hb, hr, hml, hown, hts, hlk, hnm, hK, hR⟩ := ok
  refine ⟨kk.1, fun H locs ls g1 g2 hP hS hl => ?_⟩
  exact lv_iand hx hb d (kk.2 H locs ls g1 g2 hP hS hl)
theorem at_ior {x y : Int32} (ok : Ok X M) (d : decode M.2.1 pc = .ok (.ior, 1)) (kk : AT X M (pc + 1) L (.int (x ||| y) :: S) σ) : AT X M pc L (.int y :: .int x :: S) σ := by
  obtain ⟨p, l, e, R, s, m, args, below, meth, c, D, aC, b, n0, z0, N, Z, Q⟩ := X
  obtain ⟨hx, hb, hr, hml, hown, hts, hlk, hnm, hK, hR⟩ := ok
  refine ⟨kk.1, fun H locs ls g1 g2 hP hS hl => ?_⟩
  exact lv_ior hx hb d (kk.2 H locs ls g1 g2 hP hS hl)
theorem at_ixor {x y : Int32} (ok : Ok X M) (d : decode M.2.1 pc = .ok (.ixor, 1)) (kk : AT X M (pc + 1) L (.int (x ^^^ y) :: S) σ) : AT X M pc L (.int y :: .int x :: S) σ := by
  obtain ⟨p, l, e, R, s, m, args, below, meth, c, D, aC, b, n0, z0, N, Z, Q⟩ := X
  obtain ⟨hx, hb, hr, hml, hown, hts, hlk, hnm, hK, hR⟩ := ok
  refine ⟨kk.1, fun H locs ls g1 g2 hP hS hl => ?_⟩
  exact lv_ixor hx hb d (kk.2 H locs ls g1 g2 hP hS hl)
theorem at_ishl {x y : Int32} (ok : Ok X M) (d : decode M.2.1 pc = .ok (.ishl, 1)) (kk : AT X M (pc + 1) L (.int (jshl x y) :: S) σ) : AT X M pc L (.int y :: .int x :: S) σ := by
  obtain ⟨p, l, e, R, s, m, args, below, meth, c, D, aC, b, n0, z0, N, Z, Q⟩ := X
  obtain ⟨hx, hb, hr, hml, hown, hts, hlk, hnm, hK, hR⟩ := ok
  refine ⟨kk.1, fun H locs ls g1 g2 hP hS hl => ?_⟩
  exact lv_ishl hx hb d (kk.2 H locs ls g1 g2 hP hS hl)
theorem at_ishr {x y : Int32} (ok : Ok X M) (d : decode M.2.1 pc = .ok (.ishr, 1)) (kk : AT X M (pc + 1) L (.int (jshr x y) :: S) σ) : AT X M pc L (.int y :: .int x :: S) σ := by
  obtain ⟨p, l, e, R, s, m, args, below, meth, c, D, aC, b, n0, z0, N, Z, Q⟩ := X
  obtain ⟨hx, hb, hr, hml, hown, hts, hlk, hnm, hK, hR⟩ := ok
  refine ⟨kk.1, fun H locs ls g1 g2 hP hS hl => ?_⟩
  exact lv_ishr hx hb d (kk.2 H locs ls g1 g2 hP hS hl)
theorem at_iushr {x y : Int32} (ok : Ok X M) (d : decode M.2.1 pc = .ok (.iushr, 1)) (kk : AT X M (pc + 1) L (.int (jushr x y) :: S) σ) : AT X M pc L (.int y :: .int x :: S) σ := by
  obtain ⟨p, l, e, R, s, m, args, below, meth, c, D, aC, b, n0, z0, N, Z, Q⟩ := X
  obtain ⟨hx, hb, hr, hml, hown, hts, hlk, hnm, hK, hR⟩ := ok
  refine ⟨kk.1, fun H locs ls g1 g2 hP hS hl => ?_⟩
  exact lv_iushr hx hb d rfl (kk.2 H locs ls g1 g2 hP hS hl)
theorem at_idiv {x y : Int32} (ok : Ok X M) (d : decode M.2.1 pc = .ok (.idiv, 1)) (hy : ¬ y = 0) (kk : AT X M (pc + 1) L (.int (x / y) :: S) σ) : AT X M pc L (.int y :: .int x :: S) σ := by
  obtain ⟨p, l, e, R, s, m, args, below, meth, c, D, aC, b, n0, z0, N, Z, Q⟩ := X
  obtain ⟨hx, hb, hr, hml, hown, hts, hlk, hnm, hK, hR⟩ := ok
  refine ⟨kk.1, fun H locs ls g1 g2 hP hS hl => ?_⟩
  exact lv_idiv hx hb d hy (kk.2 H locs ls g1 g2 hP hS hl)
theorem at_irem {x y : Int32} (ok : Ok X M) (d : decode M.2.1 pc = .ok (.irem, 1)) (hy : ¬ y = 0) (kk : AT X M (pc + 1) L (.int (jrem x y) :: S) σ) : AT X M pc L (.int y :: .int x :: S) σ := by
  obtain ⟨p, l, e, R, s, m, args, below, meth, c, D, aC, b, n0, z0, N, Z, Q⟩ := X
  obtain ⟨hx, hb, hr, hml, hown, hts, hlk, hnm, hK, hR⟩ := ok
  refine ⟨kk.1, fun H locs ls g1 g2 hP hS hl => ?_⟩
  exact lv_irem hx hb d hy (kk.2 H locs ls g1 g2 hP hS hl)
theorem at_ladd {x y : Int64} (ok : Ok X M) (d : decode M.2.1 pc = .ok (.ladd, 1)) (kk : AT X M (pc + 1) L (.long (x + y) :: S) σ) : AT X M pc L (.long y :: .long x :: S) σ := by
  obtain ⟨p, l, e, R, s, m, args, below, meth, c, D, aC, b, n0, z0, N, Z, Q⟩ := X
  obtain ⟨hx, hb, hr, hml, hown, hts, hlk, hnm, hK, hR⟩ := ok
  refine ⟨kk.1, fun H locs ls g1 g2 hP hS hl => ?_⟩
  exact lv_ladd hx hb d (kk.2 H locs ls g1 g2 hP hS hl)
theorem at_lsub {x y : Int64} (ok : Ok X M) (d : decode M.2.1 pc = .ok (.lsub, 1)) (kk : AT X M (pc + 1) L (.long (x - y) :: S) σ) : AT X M pc L (.long y :: .long x :: S) σ := by
  obtain ⟨p, l, e, R, s, m, args, below, meth, c, D, aC, b, n0, z0, N, Z, Q⟩ := X
  obtain ⟨hx, hb, hr, hml, hown, hts, hlk, hnm, hK, hR⟩ := ok
  refine ⟨kk.1, fun H locs ls g1 g2 hP hS hl => ?_⟩
  exact lv_lsub hx hb d (kk.2 H locs ls g1 g2 hP hS hl)
theorem at_land {x y : Int64} (ok : Ok X M) (d : decode M.2.1 pc = .ok (.land, 1)) (kk : AT X M (pc + 1) L (.long (x &&& y) :: S) σ) : AT X M pc L (.long y :: .long x :: S) σ := by
  obtain ⟨p, l, e, R, s, m, args, below, meth, c, D, aC, b, n0, z0, N, Z, Q⟩ := X
  obtain ⟨hx, hb, hr, hml, hown, hts, hlk, hnm, hK, hR⟩ := ok
  refine ⟨kk.1, fun H locs ls g1 g2 hP hS hl => ?_⟩
  exact lv_land hx hb d (kk.2 H locs ls g1 g2 hP hS hl)
theorem at_lor {x y : Int64} (ok : Ok X M) (d : decode M.2.1 pc = .ok (.lor, 1)) (kk : AT X M (pc + 1) L (.long (x ||| y) :: S) σ) : AT X M pc L (.long y :: .long x :: S) σ := by
  obtain ⟨p, l, e, R, s, m, args, below, meth, c, D, aC, b, n0, z0, N, Z, Q⟩ := X
  obtain ⟨hx, hb, hr, hml, hown, hts, hlk, hnm, hK, hR⟩ := ok
  refine ⟨kk.1, fun H locs ls g1 g2 hP hS hl => ?_⟩
  exact lv_lor hx hb d (kk.2 H locs ls g1 g2 hP hS hl)
theorem at_lshl {x : Int64} {y : Int32} (ok : Ok X M) (d : decode M.2.1 pc = .ok (.lshl, 1)) (kk : AT X M (pc + 1) L (.long (jlshl x y) :: S) σ) : AT X M pc L (.int y :: .long x :: S) σ := by
  obtain ⟨p, l, e, R, s, m, args, below, meth, c, D, aC, b, n0, z0, N, Z, Q⟩ := X
  obtain ⟨hx, hb, hr, hml, hown, hts, hlk, hnm, hK, hR⟩ := ok
  refine ⟨kk.1, fun H locs ls g1 g2 hP hS hl => ?_⟩
  exact lv_lshl hx hb d rfl (kk.2 H locs ls g1 g2 hP hS hl)
theorem at_lushr {x : Int64} {y : Int32} (ok : Ok X M) (d : decode M.2.1 pc = .ok (.lushr, 1)) (kk : AT X M (pc + 1) L (.long (jlushr x y) :: S) σ) : AT X M pc L (.int y :: .long x :: S) σ := by
  obtain ⟨p, l, e, R, s, m, args, below, meth, c, D, aC, b, n0, z0, N, Z, Q⟩ := X
  obtain ⟨hx, hb, hr, hml, hown, hts, hlk, hnm, hK, hR⟩ := ok
  refine ⟨kk.1, fun H locs ls g1 g2 hP hS hl => ?_⟩
  exact lv_lushr hx hb d rfl (kk.2 H locs ls g1 g2 hP hS hl)
theorem at_l2i {x : Int64} (ok : Ok X M) (d : decode M.2.1 pc = .ok (.l2i, 1)) (kk : AT X M (pc + 1) L (.int x.toInt32 :: S) σ) : AT X M pc L (.long x :: S) σ := by
  obtain ⟨p, l, e, R, s, m, args, below, meth, c, D, aC, b, n0, z0, N, Z, Q⟩ := X
  obtain ⟨hx, hb, hr, hml, hown, hts, hlk, hnm, hK, hR⟩ := ok
  refine ⟨kk.1, fun H locs ls g1 g2 hP hS hl => ?_⟩
  exact lv_l2i hx hb d rfl (kk.2 H locs ls g1 g2 hP hS hl)
theorem at_lconst {n : Fin 2} {v : Int64} (ok : Ok X M) (d : decode M.2.1 pc = .ok (.lconst n, 1)) (hv : Int64.ofNat (n : Nat) = v) (kk : AT X M (pc + 1) L (.long v :: S) σ) : AT X M pc L (S) σ := by
  obtain ⟨p, l, e, R, s, m, args, below, meth, c, D, aC, b, n0, z0, N, Z, Q⟩ := X
  obtain ⟨hx, hb, hr, hml, hown, hts, hlk, hnm, hK, hR⟩ := ok
  refine ⟨kk.1, fun H locs ls g1 g2 hP hS hl => ?_⟩
  exact lv_lconst hx hb d hv (kk.2 H locs ls g1 g2 hP hS hl)
theorem at_ldc2 {i : Nat} {v : Int64} (ok : Ok X M) (hw : Cond.constantLong M.1.cls i v ∈ gw) (d : decode M.2.1 pc = .ok (.ldc2_w i, 3)) (kk : AT X M (pc + 3) L (.long v :: S) σ) : AT X M pc L (S) σ := by
  obtain ⟨p, l, e, R, s, m, args, below, meth, c, D, aC, b, n0, z0, N, Z, Q⟩ := X
  obtain ⟨hx, hb, hr, hml, hown, hts, hlk, hnm, hK, hR⟩ := ok
  refine ⟨kk.1, fun H locs ls g1 g2 hP hS hl => ?_⟩
  exact lv_ldc2 hx hb hown (hts _ hw) d (kk.2 H locs ls g1 g2 hP hS hl)
theorem at_dup {v : Value} (ok : Ok X M) (d : decode M.2.1 pc = .ok (.dup, 1)) (hc : v.category = 1) (kk : AT X M (pc + 1) L (v :: v :: S) σ) : AT X M pc L (v :: S) σ := by
  obtain ⟨p, l, e, R, s, m, args, below, meth, c, D, aC, b, n0, z0, N, Z, Q⟩ := X
  obtain ⟨hx, hb, hr, hml, hown, hts, hlk, hnm, hK, hR⟩ := ok
  refine ⟨kk.1, fun H locs ls g1 g2 hP hS hl => ?_⟩
  exact lv_dup hx hb d ((trV_cat b v).trans hc) (kk.2 H locs ls g1 g2 hP hS hl)
theorem at_pop {v : Value} (ok : Ok X M) (d : decode M.2.1 pc = .ok (.pop, 1)) (hc : v.category = 1) (kk : AT X M (pc + 1) L (S) σ) : AT X M pc L (v :: S) σ := by
  obtain ⟨p, l, e, R, s, m, args, below, meth, c, D, aC, b, n0, z0, N, Z, Q⟩ := X
  obtain ⟨hx, hb, hr, hml, hown, hts, hlk, hnm, hK, hR⟩ := ok
  refine ⟨kk.1, fun H locs ls g1 g2 hP hS hl => ?_⟩
  exact lv_pop hx hb d ((trV_cat b v).trans hc) (kk.2 H locs ls g1 g2 hP hS hl)
theorem at_dup2 {v w : Value} (ok : Ok X M) (d : decode M.2.1 pc = .ok (.dup2, 1)) (hc : v.category = 1) (hc2 : w.category = 1) (kk : AT X M (pc + 1) L (v :: w :: v :: w :: S) σ) : AT X M pc L (v :: w :: S) σ := by
  obtain ⟨p, l, e, R, s, m, args, below, meth, c, D, aC, b, n0, z0, N, Z, Q⟩ := X
  obtain ⟨hx, hb, hr, hml, hown, hts, hlk, hnm, hK, hR⟩ := ok
  refine ⟨kk.1, fun H locs ls g1 g2 hP hS hl => ?_⟩
  exact lv_dup2_11 hx hb d ((trV_cat b v).trans hc) ((trV_cat b w).trans hc2) (kk.2 H locs ls g1 g2 hP hS hl)
theorem at_goto {off : Int} {tgt : Nat} (ok : Ok X M) (d : decode M.2.1 pc = .ok (.goto off, 3)) (ht : (pc : Int) + off = (tgt : Int)) (kk : AT X M tgt L S σ) : AT X M pc L S σ := by
  obtain ⟨p, l, e, R, s, m, args, below, meth, c, D, aC, b, n0, z0, N, Z, Q⟩ := X
  obtain ⟨hx, hb, hr, hml, hown, hts, hlk, hnm, hK, hR⟩ := ok
  refine ⟨kk.1, fun H locs ls g1 g2 hP hS hl => ?_⟩
  exact lv_goto hx hb d ht (kk.2 H locs ls g1 g2 hP hS hl)
theorem at_if_eq {x : Int32} {off : Int} {tgt : Nat} (ok : Ok X M) (d : decode M.2.1 pc = .ok (.ifCond .eq off, 3)) (ht : (pc : Int) + off = (tgt : Int)) (kt : x = 0 → AT X M tgt L S σ) (kf : ¬ (x = 0) → AT X M (pc + 3) L S σ) : AT X M pc L (.int x :: S) σ := by
  obtain ⟨p, l, e, R, s, m, args, below, meth, c, D, aC, b, n0, z0, N, Z, Q⟩ := X
  obtain ⟨hx, hb, hr, hml, hown, hts, hlk, hnm, hK, hR⟩ := ok
  refine ⟨?_, fun H locs ls g1 g2 hP hS hl => ?_⟩
  · by_cases hc : x = 0
    · exact (kt hc).1
    · exact (kf hc).1
  · exact lv_if_eq hx hb d ht (fun hc => (kt hc).2 H locs ls g1 g2 hP hS hl) (fun hc => (kf hc).2 H locs ls g1 g2 hP hS hl)
theorem at_if_ne {x : Int32} {off : Int} {tgt : Nat} (ok : Ok X M) (d : decode M.2.1 pc = .ok (.ifCond .ne off, 3)) (ht : (pc : Int) + off = (tgt : Int)) (kt : ¬ x = 0 → AT X M tgt L S σ) (kf : x = 0 → AT X M (pc + 3) L S σ) : AT X M pc L (.int x :: S) σ := by
  obtain ⟨p, l, e, R, s, m, args, below, meth, c, D, aC, b, n0, z0, N, Z, Q⟩ := X
  obtain ⟨hx, hb, hr, hml, hown, hts, hlk, hnm, hK, hR⟩ := ok
  refine ⟨?_, fun H locs ls g1 g2 hP hS hl => ?_⟩
  · by_cases hc : x = 0
    · exact (kf hc).1
    · exact (kt hc).1
  · exact lv_if_ne hx hb d ht (fun hc => (kt hc).2 H locs ls g1 g2 hP hS hl) (fun hc => (kf hc).2 H locs ls g1 g2 hP hS hl)
theorem at_if_lt {x : Int32} {off : Int} {tgt : Nat} (ok : Ok X M) (d : decode M.2.1 pc = .ok (.ifCond .lt off, 3)) (ht : (pc : Int) + off = (tgt : Int)) (kt : x < 0 → AT X M tgt L S σ) (kf : ¬ (x < 0) → AT X M (pc + 3) L S σ) : AT X M pc L (.int x :: S) σ := by
  obtain ⟨p, l, e, R, s, m, args, below, meth, c, D, aC, b, n0, z0, N, Z, Q⟩ := X
  obtain ⟨hx, hb, hr, hml, hown, hts, hlk, hnm, hK, hR⟩ := ok
  refine ⟨?_, fun H locs ls g1 g2 hP hS hl => ?_⟩
  · by_cases hc : x < 0
    · exact (kt hc).1
    · exact (kf hc).1
  · exact lv_if_lt hx hb d ht (fun hc => (kt hc).2 H locs ls g1 g2 hP hS hl) (fun hc => (kf hc).2 H locs ls g1 g2 hP hS hl)
theorem at_if_ge {x : Int32} {off : Int} {tgt : Nat} (ok : Ok X M) (d : decode M.2.1 pc = .ok (.ifCond .ge off, 3)) (ht : (pc : Int) + off = (tgt : Int)) (kt : 0 ≤ x → AT X M tgt L S σ) (kf : ¬ (0 ≤ x) → AT X M (pc + 3) L S σ) : AT X M pc L (.int x :: S) σ := by
  obtain ⟨p, l, e, R, s, m, args, below, meth, c, D, aC, b, n0, z0, N, Z, Q⟩ := X
  obtain ⟨hx, hb, hr, hml, hown, hts, hlk, hnm, hK, hR⟩ := ok
  refine ⟨?_, fun H locs ls g1 g2 hP hS hl => ?_⟩
  · by_cases hc : 0 ≤ x
    · exact (kt hc).1
    · exact (kf hc).1
  · exact lv_if_ge hx hb d ht (fun hc => (kt hc).2 H locs ls g1 g2 hP hS hl) (fun hc => (kf hc).2 H locs ls g1 g2 hP hS hl)
theorem at_if_gt {x : Int32} {off : Int} {tgt : Nat} (ok : Ok X M) (d : decode M.2.1 pc = .ok (.ifCond .gt off, 3)) (ht : (pc : Int) + off = (tgt : Int)) (kt : 0 < x → AT X M tgt L S σ) (kf : ¬ (0 < x) → AT X M (pc + 3) L S σ) : AT X M pc L (.int x :: S) σ := by
  obtain ⟨p, l, e, R, s, m, args, below, meth, c, D, aC, b, n0, z0, N, Z, Q⟩ := X
  obtain ⟨hx, hb, hr, hml, hown, hts, hlk, hnm, hK, hR⟩ := ok
  refine ⟨?_, fun H locs ls g1 g2 hP hS hl => ?_⟩
  · by_cases hc : 0 < x
    · exact (kt hc).1
    · exact (kf hc).1
  · exact lv_if_gt hx hb d ht (fun hc => (kt hc).2 H locs ls g1 g2 hP hS hl) (fun hc => (kf hc).2 H locs ls g1 g2 hP hS hl)
theorem at_if_le {x : Int32} {off : Int} {tgt : Nat} (ok : Ok X M) (d : decode M.2.1 pc = .ok (.ifCond .le off, 3)) (ht : (pc : Int) + off = (tgt : Int)) (kt : x ≤ 0 → AT X M tgt L S σ) (kf : ¬ (x ≤ 0) → AT X M (pc + 3) L S σ) : AT X M pc L (.int x :: S) σ := by
  obtain ⟨p, l, e, R, s, m, args, below, meth, c, D, aC, b, n0, z0, N, Z, Q⟩ := X
  obtain ⟨hx, hb, hr, hml, hown, hts, hlk, hnm, hK, hR⟩ := ok
  refine ⟨?_, fun H locs ls g1 g2 hP hS hl => ?_⟩
  · by_cases hc : x ≤ 0
    · exact (kt hc).1
    · exact (kf hc).1
  · exact lv_if_le hx hb d ht (fun hc => (kt hc).2 H locs ls g1 g2 hP hS hl) (fun hc => (kf hc).2 H locs ls g1 g2 hP hS hl)
theorem at_icmp_eq {x y : Int32} {off : Int} {tgt : Nat} (ok : Ok X M) (d : decode M.2.1 pc = .ok (.if_icmp .eq off, 3)) (ht : (pc : Int) + off = (tgt : Int)) (kt : x = y → AT X M tgt L S σ) (kf : ¬ (x = y) → AT X M (pc + 3) L S σ) : AT X M pc L (.int y :: .int x :: S) σ := by
  obtain ⟨p, l, e, R, s, m, args, below, meth, c, D, aC, b, n0, z0, N, Z, Q⟩ := X
  obtain ⟨hx, hb, hr, hml, hown, hts, hlk, hnm, hK, hR⟩ := ok
  refine ⟨?_, fun H locs ls g1 g2 hP hS hl => ?_⟩
  · by_cases hc : x = y
    · exact (kt hc).1
    · exact (kf hc).1
  · exact lv_icmp_eq hx hb d ht (fun hc => (kt hc).2 H locs ls g1 g2 hP hS hl) (fun hc => (kf hc).2 H locs ls g1 g2 hP hS hl)
theorem at_icmp_ne {x y : Int32} {off : Int} {tgt : Nat} (ok : Ok X M) (d : decode M.2.1 pc = .ok (.if_icmp .ne off, 3)) (ht : (pc : Int) + off = (tgt : Int)) (kt : ¬ x = y → AT X M tgt L S σ) (kf : x = y → AT X M (pc + 3) L S σ) : AT X M pc L (.int y :: .int x :: S) σ := by
  obtain ⟨p, l, e, R, s, m, args, below, meth, c, D, aC, b, n0, z0, N, Z, Q⟩ := X
  obtain ⟨hx, hb, hr, hml, hown, hts, hlk, hnm, hK, hR⟩ := ok
  refine ⟨?_, fun H locs ls g1 g2 hP hS hl => ?_⟩
  · by_cases hc : x = y
    · exact (kf hc).1
    · exact (kt hc).1
  · exact lv_icmp_ne hx hb d ht (fun hc => (kt hc).2 H locs ls g1 g2 hP hS hl) (fun hc => (kf hc).2 H locs ls g1 g2 hP hS hl)
theorem at_icmp_lt {x y : Int32} {off : Int} {tgt : Nat} (ok : Ok X M) (d : decode M.2.1 pc = .ok (.if_icmp .lt off, 3)) (ht : (pc : Int) + off = (tgt : Int)) (kt : x < y → AT X M tgt L S σ) (kf : ¬ (x < y) → AT X M (pc + 3) L S σ) : AT X M pc L (.int y :: .int x :: S) σ := by
  obtain ⟨p, l, e, R, s, m, args, below, meth, c, D, aC, b, n0, z0, N, Z, Q⟩ := X
  obtain ⟨hx, hb, hr, hml, hown, hts, hlk, hnm, hK, hR⟩ := ok
  refine ⟨?_, fun H locs ls g1 g2 hP hS hl => ?_⟩
  · by_cases hc : x < y
    · exact (kt hc).1
    · exact (kf hc).1
  · exact lv_icmp_lt hx hb d ht (fun hc => (kt hc).2 H locs ls g1 g2 hP hS hl) (fun hc => (kf hc).2 H locs ls g1 g2 hP hS hl)
theorem at_icmp_ge {x y : Int32} {off : Int} {tgt : Nat} (ok : Ok X M) (d : decode M.2.1 pc = .ok (.if_icmp .ge off, 3)) (ht : (pc : Int) + off = (tgt : Int)) (kt : y ≤ x → AT X M tgt L S σ) (kf : ¬ (y ≤ x) → AT X M (pc + 3) L S σ) : AT X M pc L (.int y :: .int x :: S) σ := by
  obtain ⟨p, l, e, R, s, m, args, below, meth, c, D, aC, b, n0, z0, N, Z, Q⟩ := X
  obtain ⟨hx, hb, hr, hml, hown, hts, hlk, hnm, hK, hR⟩ := ok
  refine ⟨?_, fun H locs ls g1 g2 hP hS hl => ?_⟩
  · by_cases hc : y ≤ x
    · exact (kt hc).1
    · exact (kf hc).1
  · exact lv_icmp_ge hx hb d ht (fun hc => (kt hc).2 H locs ls g1 g2 hP hS hl) (fun hc => (kf hc).2 H locs ls g1 g2 hP hS hl)
theorem at_icmp_gt {x y : Int32} {off : Int} {tgt : Nat} (ok : Ok X M) (d : decode M.2.1 pc = .ok (.if_icmp .gt off, 3)) (ht : (pc : Int) + off = (tgt : Int)) (kt : y < x → AT X M tgt L S σ) (kf : ¬ (y < x) → AT X M (pc + 3) L S σ) : AT X M pc L (.int y :: .int x :: S) σ := by
  obtain ⟨p, l, e, R, s, m, args, below, meth, c, D, aC, b, n0, z0, N, Z, Q⟩ := X
  obtain ⟨hx, hb, hr, hml, hown, hts, hlk, hnm, hK, hR⟩ := ok
  refine ⟨?_, fun H locs ls g1 g2 hP hS hl => ?_⟩
  · by_cases hc : y < x
    · exact (kt hc).1
    · exact (kf hc).1
  · exact lv_icmp_gt hx hb d ht (fun hc => (kt hc).2 H locs ls g1 g2 hP hS hl) (fun hc => (kf hc).2 H locs ls g1 g2 hP hS hl)
theorem at_icmp_le {x y : Int32} {off : Int} {tgt : Nat} (ok : Ok X M) (d : decode M.2.1 pc = .ok (.if_icmp .le off, 3)) (ht : (pc : Int) + off = (tgt : Int)) (kt : x ≤ y → AT X M tgt L S σ) (kf : ¬ (x ≤ y) → AT X M (pc + 3) L S σ) : AT X M pc L (.int y :: .int x :: S) σ := by
  obtain ⟨p, l, e, R, s, m, args, below, meth, c, D, aC, b, n0, z0, N, Z, Q⟩ := X
  obtain ⟨hx, hb, hr, hml, hown, hts, hlk, hnm, hK, hR⟩ := ok
  refine ⟨?_, fun H locs ls g1 g2 hP hS hl => ?_⟩
  · by_cases hc : x ≤ y
    · exact (kt hc).1
    · exact (kf hc).1
  · exact lv_icmp_le hx hb d ht (fun hc => (kt hc).2 H locs ls g1 g2 hP hS hl) (fun hc => (kf hc).2 H locs ls g1 g2 hP hS hl)
theorem at_ifnull {r : Option Nat} {off : Int} {tgt : Nat} (ok : Ok X M) (d : decode M.2.1 pc = .ok (.ifnull off, 3)) (ht : (pc : Int) + off = (tgt : Int)) (kt : r = none → AT X M tgt L S σ) (kf : ¬ r = none → AT X M (pc + 3) L S σ) : AT X M pc L (va_rf r :: S) σ := by
  obtain ⟨p, l, e, R, s, m, args, below, meth, c, D, aC, b, n0, z0, N, Z, Q⟩ := X
  obtain ⟨hx, hb, hr, hml, hown, hts, hlk, hnm, hK, hR⟩ := ok
  cases r with
  | none => exact ⟨(kt rfl).1, fun H locs ls g1 g2 hP hS hl => lv_ifnullN hx hb d ht ((kt rfl).2 H locs ls g1 g2 hP hS hl)⟩
  | some a => exact ⟨(kf nofun).1, fun H locs ls g1 g2 hP hS hl => lv_ifnull hx hb d ((kf nofun).2 H locs ls g1 g2 hP hS hl)⟩
theorem at_ifnonnull {r : Option Nat} {off : Int} {tgt : Nat} (ok : Ok X M) (d : decode M.2.1 pc = .ok (.ifnonnull off, 3)) (ht : (pc : Int) + off = (tgt : Int)) (kt : ¬ r = none → AT X M tgt L S σ) (kf : ¬ (¬ r = none) → AT X M (pc + 3) L S σ) : AT X M pc L (va_rf r :: S) σ := by
  obtain ⟨p, l, e, R, s, m, args, below, meth, c, D, aC, b, n0, z0, N, Z, Q⟩ := X
  obtain ⟨hx, hb, hr, hml, hown, hts, hlk, hnm, hK, hR⟩ := ok
  cases r with
  | none => exact ⟨(kf (fun h => h rfl)).1, fun H locs ls g1 g2 hP hS hl => lv_ifnonnullN hx hb d ((kf (fun h => h rfl)).2 H locs ls g1 g2 hP hS hl)⟩
  | some a => exact ⟨(kt nofun).1, fun H locs ls g1 g2 hP hS hl => lv_ifnonnull hx hb d ht ((kt nofun).2 H locs ls g1 g2 hP hS hl)⟩
theorem at_istoren {k : Fin 4} {i : Nat} {x : Int32} (ok : Ok X M) (d : decode M.2.1 pc = .ok (.istore_n k, 1)) (hi : (k : Nat) = i) (hc : lc L i) (hn : i < M.2.2.1) (kk : AT X M (pc + 1) (L.set i (some (.int x))) S σ) : AT X M pc L (.int x :: S) σ := by
  obtain ⟨p, l, e, R, s, m, args, below, meth, c, D, aC, b, n0, z0, N, Z, Q⟩ := X
  obtain ⟨hx, hb, hr, hml, hown, hts, hlk, hnm, hK, hR⟩ := ok
  refine ⟨kk.1, fun H locs ls g1 g2 hP hS hl => ?_⟩
  exact lv_istore_n hx hb d hi hl hn rfl (fun ls h => kk.2 H locs ls g1 g2 hP hS (LV.st (v := .int x) hc h))
theorem at_istore {i : Nat} {x : Int32} (ok : Ok X M) (d : decode M.2.1 pc = .ok (.istore i, 2)) (hc : lc L i) (hn : i < M.2.2.1) (kk : AT X M (pc + 2) (L.set i (some (.int x))) S σ) : AT X M pc L (.int x :: S) σ := by
  obtain ⟨p, l, e, R, s, m, args, below, meth, c, D, aC, b, n0, z0, N, Z, Q⟩ := X
  obtain ⟨hx, hb, hr, hml, hown, hts, hlk, hnm, hK, hR⟩ := ok
  refine ⟨kk.1, fun H locs ls g1 g2 hP hS hl => ?_⟩
  exact lv_istore hx hb d hl hn rfl (fun ls h => kk.2 H locs ls g1 g2 hP hS (LV.st (v := .int x) hc h))
theorem at_astoren {k : Fin 4} {i : Nat} {r : Option Nat} (ok : Ok X M) (d : decode M.2.1 pc = .ok (.astore_n k, 1)) (hi : (k : Nat) = i) (hc : lc L i) (hn : i < M.2.2.1) (kk : AT X M (pc + 1) (L.set i (some (va_rf r))) S σ) : AT X M pc L (va_rf r :: S) σ := by
  obtain ⟨p, l, e, R, s, m, args, below, meth, c, D, aC, b, n0, z0, N, Z, Q⟩ := X
  obtain ⟨hx, hb, hr, hml, hown, hts, hlk, hnm, hK, hR⟩ := ok
  refine ⟨kk.1, fun H locs ls g1 g2 hP hS hl => ?_⟩
  cases r with
  | none => exact lv_astore_nN hx hb d hi hl hn rfl (fun ls h => kk.2 H locs ls g1 g2 hP hS (LV.st (v := .null) hc h))
  | some a => exact lv_astore_n hx hb d hi hl hn rfl (fun ls h => kk.2 H locs ls g1 g2 hP hS (LV.st (v := .ref a) hc h))
theorem at_astore {i : Nat} {r : Option Nat} (ok : Ok X M) (d : decode M.2.1 pc = .ok (.astore i, 2)) (hc : lc L i) (hn : i < M.2.2.1) (kk : AT X M (pc + 2) (L.set i (some (va_rf r))) S σ) : AT X M pc L (va_rf r :: S) σ := by
  obtain ⟨p, l, e, R, s, m, args, below, meth, c, D, aC, b, n0, z0, N, Z, Q⟩ := X
  obtain ⟨hx, hb, hr, hml, hown, hts, hlk, hnm, hK, hR⟩ := ok
  refine ⟨kk.1, fun H locs ls g1 g2 hP hS hl => ?_⟩
  cases r with
  | none => exact lv_astoreN hx hb d hl hn rfl (fun ls h => kk.2 H locs ls g1 g2 hP hS (LV.st (v := .null) hc h))
  | some a => exact lv_astore hx hb d hl hn rfl (fun ls h => kk.2 H locs ls g1 g2 hP hS (LV.st (v := .ref a) hc h))
theorem at_iinc {i : Nat} {n : Int} {x v : Int32} (ok : Ok X M) (d : decode M.2.1 pc = .ok (.iinc i n, 3)) (h : L[i]? = some (some (.int x))) (hv : x + Int32.ofInt n = v) (hc : lc L i) (hn : i < M.2.2.1) (kk : AT X M (pc + 3) (L.set i (some (.int v))) S σ) : AT X M pc L S σ := by
  obtain ⟨p, l, e, R, s, m, args, below, meth, c, D, aC, b, n0, z0, N, Z, Q⟩ := X
  obtain ⟨hx, hb, hr, hml, hown, hts, hlk, hnm, hK, hR⟩ := ok
  refine ⟨kk.1, fun H locs ls g1 g2 hP hS hl => ?_⟩
  obtain ⟨k, hk⟩ := lvl_pos (b := b) h
  exact lv_iinc hx hb d hl hk hv hn rfl (fun ls h => kk.2 H locs ls g1 g2 hP hS (LV.st (v := .int v) hc h))
end ROWS
