/-! ===== a method's run, its entry, its ends, calls ===== -/
def RunsTo (M : MI) (σ : AH) (args : List Value) (σ' : AH) (r : Option Value) : Prop := ∀ (l : Launch) (D : va_G) (aC : Nat → ClassId) (b : Nat),
  Met l M.1 (wdsM M) ({ frames := M.2.2.2.2.1, cells := σ'.1.length - σ.1.length, slots := σ'.2 - σ.2, locals := M.2.2.2.2.2 } : Room) (va_Pc (args.map (trV b)) (fun U => U.heap.size = b + σ.1.length ∧ va_P D vwCl (wsO b aC σ.1) U.heap ∧ KW D aC U))
    (fun _ st oc t => oc = .returned (r.map (trV b)) ∧ va_P D vwCl (wsO b aC σ'.1) t.heap ∧ va_F (fun q => b ≤ q) st t) (σ'.1.length - σ.1.length) (σ'.2 - σ.2) (fun q => b ≤ q)
def Runs (M : MI) (σ : AH) (args : List Value) (Q : Option Value → AH → Prop) : Prop := ∃ (r : Option Value) (σ' : AH), (σ.1.length ≤ σ'.1.length ∧ σ.2 ≤ σ'.2) ∧ Q r σ' ∧ RunsTo M σ args σ' r
theorem lv_args1 (vs : List Value) (h : ∀ v ∈ vs, v.category = 1) : ∀ (i : Nat), lv_args i vs = vs.mapIdx (fun k v => (i + k, v)) := by
  induction vs with
  | nil => intro i; rfl
  | cons v vs ih =>
    intro i
    have hv : ¬ v.category = 2 := by rw [h v List.mem_cons_self]; decide
    simp only [lv_args, if_neg hv]
    rw [ih (fun w hw => h w (List.mem_cons_of_mem _ hw)) (i + 1), List.mapIdx_cons]
    congr 1
    apply List.ext_getElem?
    intro j
    simp only [List.getElem?_mapIdx]
    cases vs[j]? with
    | none => rfl
    | some w => simp; omega
theorem lg_sl1 (vs : List Value) (h : ∀ v ∈ vs, v.category = 1) : (lg_sl vs).length = vs.length := by
  induction vs with
  | nil => rfl
  | cons v vs ih =>
    have hv : ¬ v.category = 2 := by rw [h v List.mem_cons_self]; decide
    unfold lg_sl at ih ⊢
    rw [List.flatMap_cons, if_neg hv, List.length_append, ih (fun w hw => h w (List.mem_cons_of_mem _ hw))]
    simp
    omega
/-- a method's run, out of the judgement at its entry -/
theorem runs_of {M : MI} {σ σ' : AH} {av : List Value} {r : Option Value} (hp : plainName M.1.cls = true) (hcat : ∀ v ∈ av, v.category = 1) (hlen : av.length ≤ M.2.2.1) (hmono : σ.1.length ≤ σ'.1.length ∧ σ.2 ≤ σ'.2)
    (body : ∀ X : Cx, Ok X M → Fin' X r σ' → AT X M 0 (av.map some ++ List.replicate (M.2.2.1 - av.length) none) [] σ) : RunsTo M σ av σ' r := by
  intro l D aC b
  refine Met.ofW (cc := M.2.1) (maxL := M.2.2.1) (ret := M.2.2.2.1) hp rfl ?_
  intro p e s m args below meth c s₁ B hml hv
  obtain ⟨rfl, hsz, hP, hK⟩ := hv
  have hts := atoms_spec (ws := wdsM M) B.pre
  have hown : s.vm.findClass M.1.cls = some m.cls := findClass_of_methodNamed B.named
  have hk := body (p, l, e, ({ frames := M.2.2.2.2.1, cells := σ'.1.length - σ.1.length, slots := σ'.2 - σ.2, locals := M.2.2.2.2.2 } : Room), s, m, (av.map (trV b)).toArray, below, meth, c, D, aC, b, σ.1.length, σ.2, σ'.1.length, σ'.2, MQ below (fun _ st oc t => oc = .returned (r.map (trV b)) ∧ va_P D vwCl (wsO b aC σ'.1) t.heap ∧ va_F (fun q => b ≤ q) st t) (av.map (trV b)).toArray s (σ'.1.length - σ.1.length) (σ'.2 - σ.2) (fun q => b ≤ q))
    ⟨B.exec, B.bytes, B.returns, hml, hown, fun w hw => hts w (List.mem_cons_of_mem _ hw), B.notSynchronized, (name_of_methodNamed B.named B.method).1, hK, Nat.le_refl _, Nat.le_refl _, Nat.le_refl _, Nat.le_refl _, hsz⟩ ⟨rfl, rfl, rfl⟩
  have hcat' : ∀ v ∈ av.map (trV b), v.category = 1 := by
    intro v hv
    obtain ⟨w, hw, rfl⟩ := List.mem_map.mp hv
    rw [trV_cat]
    exact hcat w hw
  have hl := lv_entry (av.map (trV b)) (n := M.2.2.1) (by rw [lg_sl1 _ hcat']; simpa using hlen)
  rw [lg_entry_eq]
  generalize (lg_sl (av.map (trV b)) ++ List.replicate (M.2.2.1 - (lg_sl (av.map (trV b))).length) Slot.unset).toArray = ls at hl ⊢
  have hl2 : LV ls M.2.2.1 b (av.map some ++ List.replicate (M.2.2.1 - av.length) none) := by
    refine ⟨hl.1, hl.2.1, ?_⟩
    rintro ⟨i, w⟩ hw
    obtain ⟨v, h1, rfl⟩ := lvl_mem.mp hw
    refine hl.2.2 (i, trV b v) ?_
    rw [lv_args1 _ hcat' 0]
    by_cases hi : i < av.length
    · rw [List.getElem?_append_left (by simpa using hi), List.getElem?_map] at h1
      refine List.mem_of_getElem? (i := i) ?_
      rw [List.getElem?_mapIdx, List.getElem?_map]
      cases hv : av[i]? with
      | none => rw [hv] at h1; cases h1
      | some u => rw [hv] at h1; cases h1; simp
    · rw [List.getElem?_append_right (by simpa using hi)] at h1
      have := List.mem_of_getElem? h1
      simp [List.mem_replicate] at this
  have := hk.2 s.heap [] ls (Nat.le_refl _) (Nat.le_refl _) hP va_S.rf hl2
  rw [Nat.sub_self, Nat.sub_self] at this
  exact this
section ROWS
variable {X : Cx} {M : MI} {pc : Nat} {L : List (Option Value)} {S : List Value} {σ σ1 : AH} {idx ci : Nat}
theorem fin_q {X : Cx} {r : Option Value} {σ : AH} (f : Fin' X r σ) : match X with
  | (p, l, e, R, s, m, args, below, meth, c, D, aC, b, n0, z0, N, Z, Q) => N = σ.1.length ∧ Z = σ.2 ∧ Q = MQ below (fun _ st oc t => oc = .returned (r.map (trV b)) ∧ va_P D vwCl (wsO b aC σ.1) t.heap ∧ va_F (fun q => b ≤ q) st t) args s (N - n0) (Z - z0) (fun q => b ≤ q) := f
theorem at_iret {x a0 : Int32} (ok : Ok X M) (fn : Fin' X (some (.int a0)) σ1) (hn : ∃ ty, M.2.2.2.1 = some ty ∧ narrow ty (.int x) = .int x) (d : decode M.2.1 pc = .ok (.ireturn, 1)) (h : Hr (rt x) σ (fun a σ2 => a = a0 ∧ σ2 = σ1)) : AT X M pc L [.int x] σ := by
  obtain ⟨rfl, rfl⟩ := hr_rt.mp h
  obtain ⟨p, l, e, R, s, m, args, below, meth, c, D, aC, b, n0, z0, N, Z, Q⟩ := X
  obtain ⟨hx, hb, hr, hml, hown, hts, hlk, hnm, hK, hR⟩ := ok
  obtain ⟨rfl, rfl, rfl⟩ := fn
  refine ⟨⟨Nat.le_refl _, Nat.le_refl _⟩, fun H locs ls g1 g2 hP hS hl => ?_⟩
  obtain ⟨ty, ht, hn⟩ := hn
  exact W.zret hx hb (hr.trans ht) hn (fun t ht hW => ⟨rfl, by rw [ht]; exact hP, hS.F ht⟩) hS.2.2 d hlk
theorem at_aret {x a0 : Option Nat} (ok : Ok X M) (fn : Fin' X (some (va_rf a0)) σ1) (hn : ∃ ty, M.2.2.2.1 = some ty ∧ ((∃ n, ty = .object n) ∨ ∃ t, ty = .array t)) (d : decode M.2.1 pc = .ok (.areturn, 1)) (h : Hr (rt x) σ (fun a σ2 => a = a0 ∧ σ2 = σ1)) : AT X M pc L [va_rf x] σ := by
  obtain ⟨rfl, rfl⟩ := hr_rt.mp h
  obtain ⟨p, l, e, R, s, m, args, below, meth, c, D, aC, b, n0, z0, N, Z, Q⟩ := X
  obtain ⟨hx, hb, hr, hml, hown, hts, hlk, hnm, hK, hR⟩ := ok
  obtain ⟨rfl, rfl, rfl⟩ := fn
  refine ⟨⟨Nat.le_refl _, Nat.le_refl _⟩, fun H locs ls g1 g2 hP hS hl => ?_⟩
  obtain ⟨ty, ht, hn⟩ := hn
  exact W.aret hx hb (hr.trans ht) hn (by cases x with
    | none => exact Or.inl rfl
    | some a => exact Or.inr ⟨_, rfl⟩) (fun t ht hW => ⟨rfl, by rw [ht]; exact hP, hS.F ht⟩) hS.2.2 d hlk
theorem at_vret {x a0 : Unit} (ok : Ok X M) (fn : Fin' X none σ1) (hn : M.2.2.2.1 = none) (d : decode M.2.1 pc = .ok (.return_, 1)) (h : Hr (rt x) σ (fun a σ2 => a = a0 ∧ σ2 = σ1)) : AT X M pc L [] σ := by
  obtain ⟨-, rfl⟩ := hr_rt.mp h
  obtain ⟨p, l, e, R, s, m, args, below, meth, c, D, aC, b, n0, z0, N, Z, Q⟩ := X
  obtain ⟨hx, hb, hr, hml, hown, hts, hlk, hnm, hK, hR⟩ := ok
  obtain ⟨rfl, rfl, rfl⟩ := fn
  refine ⟨⟨Nat.le_refl _, Nat.le_refl _⟩, fun H locs ls g1 g2 hP hS hl => ?_⟩
  exact W.vret hx hb (hr.trans hn) (fun t ht hW => ⟨rfl, by rw [ht]; exact hP, hS.F ht⟩) hS.2.2 d hlk
theorem at_z {β : Type} {x : Int32} {f : Unit → Cm β} {QQ : β → AH → Prop} (h : Hr (bn (oZ x) f) σ QQ) (kk : (x = 0 ∨ x = 1) → Hr (f ()) σ QQ → AT X M pc L S σ) : AT X M pc L S σ := by
  obtain ⟨v, σ', e, h⟩ := hr_bn.mp h
  unfold oZ at e
  split at e
  · rename_i hx
    cases e
    exact kk hx h
  · cases e
theorem nar_z {x : Int32} (h : x = 0 ∨ x = 1) : narrow .boolean (.int x) = .int x := by rcases h with rfl | rfl <;> rfl
-- what the tables must say of a call: V of an object's method, S of a static one, I of a constructor
def CA (M M' : MI) (n : Nat) : Prop := Cond.code M'.1 M'.2.1 M'.2.2.1 M'.2.2.2.1 ∈ gw ∧ Cond.initialized M'.1.cls ∈ gw ∧ (M'.1.cls ≠ "java/lang/invoke/MethodHandle" ∧ M'.1.cls ≠ "java/lang/invoke/VarHandle" ∧ (parseMethodDescriptor M'.1.desc).map (fun d => d.parameters.length) = some n) ∧ M'.2.2.2.2.1 + 1 ≤ M.2.2.2.2.1 ∧ 8 + (M'.2.2.1 + 11) + M'.2.2.2.2.2 ≤ M.2.2.2.2.2
def LK (own : String) (idx : Nat) (y : MethodName) : Prop := Cond.methodLink own idx y ∈ gw ∨ ∃ host, Cond.methodLinkNest own idx y host ∈ nwl
def CV (M M' : MI) (idx ci n : Nat) : Prop := CA M M' n ∧ LK M.1.cls idx M'.1 ∧ Cond.instanceMethod M'.1 ∈ gw ∧ Cond.selects M'.1.cls M'.1 M'.1 ∈ gw ∧ ∃ (T : u_T) (N : Nat), vwCl[ci]? = some (M'.1.cls, T, N)
def CT (M M' : MI) (idx n : Nat) : Prop := CA M M' n ∧ LK M.1.cls idx M'.1 ∧ Cond.static M'.1 ∈ gw
def CI (M M' : MI) (idx n : Nat) : Prop := CA M M' n ∧ LK M.1.cls idx M'.1 ∧ Cond.instanceMethod M'.1 ∈ gw ∧ M'.1.name = "<init>" ∧ M'.2.2.2.1 = none
theorem W_run {p : Program} {l : Launch} {e : Env} {R : Room} {s : State} {m : MethodId} {args : Array Value} {below : List Frame} {meth : Method} {c : Code} {H : Heap} {locs : List Loc} {cells slots mc ms pc : Nat} {Q : State → Prop} {ls : Array Slot} {st0 rest : List Value} {Qa : State → Outcome → State → Prop} {free : Addr → Prop}
    (hr : va_Run p l e R s m args below meth c H locs cells slots mc ms (F0 m pc ls st0) rest Qa free) (kk : ∀ (v : Option Value) (st t : State) (H1 : Heap) (L : List Loc), st.heap = H → t.heap = H1 → Qa st (.returned v) t → (∀ q ∈ L, free q.base) → W p l e R s m args below meth c H1 (locs ++ L) (cells + mc) (slots + ms) Q (F0 m (pc + 3) ls (v.toList ++ rest))) : W p l e R s m args below meth c H locs cells slots Q (F0 m pc ls st0) := by
  intro T hT X
  obtain ⟨v, st₀, t, T', L, h0, X', hL, e1, e2, hq, st⟩ := hr T hT X
  obtain ⟨t2, a1, b1⟩ := kk v st₀ t T'.heap L h0 e1.symm hq hL T' rfl X'
  exact ⟨t2, st t2 a1, b1⟩
theorem wds_good {M : MI} (h : Cond.code M.1 M.2.1 M.2.2.1 M.2.2.2.1 ∈ gw) : GoodIn gw (wdsM M) := by
  intro w hw
  rcases List.mem_cons.mp hw with rfl | hw
  · exact gw_good _ h
  · exact gw_good _ hw
/-- the world behind a call, for the caller -/
theorem back_S {b : Nat} {s st t : State} {H H1 : Heap} {locs L : List Loc} (hS : va_S (fun q => b ≤ q) s.heap H locs) (e0 : st.heap = H) (e1 : t.heap = H1) (hF : va_F (fun q => b ≤ q) st t) (hL : ∀ q ∈ L, b ≤ q.base) (hs : b ≤ s.heap.size) : va_S (fun q => b ≤ q) s.heap H1 (locs ++ L) := by
  obtain ⟨f1, f2⟩ := hF
  rw [e0] at f1 f2
  rw [e1] at f1 f2
  refine ⟨Nat.le_trans hS.1 f1, fun q h1 h2 => ?_, fun q hq => ?_⟩
  · rw [f2 q (Nat.lt_of_lt_of_le h1 hS.1) h2]
    exact hS.2.1 q h1 h2
  · rcases List.mem_append.mp hq with h | h
    · exact hS.2.2 q h
    · exact hL q h
theorem pc_blind {b : Nat} {D : va_G} {aC : Nat → ClassId} {σ : AH} {av : List Value} : FrameBlind (va_Pc av (fun U => U.heap.size = b + σ.1.length ∧ va_P D vwCl (wsO b aC σ.1) U.heap ∧ KW D aC U)) := by
  rintro a U g mk ⟨h1, h2, h3, h4⟩
  exact ⟨h1, h2, h3, KW.same (s := U) (U := U.calling g mk a) rfl h4⟩
theorem at_callS {M' : MI} {As : List Value} {Qr : Option Value → AH → Prop} (ok : Ok X M) (ct : CT M M' idx As.length) (d : decode M.2.1 pc = .ok (.invokestatic idx, 3)) (hS8 : (S.map fun v => v.category).sum ≤ 8) (hr : Runs M' σ As Qr) (kk : ∀ v σ1, Qr v σ1 → AT X M (pc + 3) L (v.toList ++ S) σ1) : AT X M pc L (As.reverse ++ S) σ := by
  obtain ⟨rv, σ', ⟨m1, m2⟩, hq, hM⟩ := hr
  have kk := kk rv σ' hq
  obtain ⟨p, l, e, R, s, m, args, below, meth, c, D, aC, b, n0, z0, N, Z, Q⟩ := X
  obtain ⟨hx, hb, hr, hml, hown, hts, hlk, hnm, hK, hR⟩ := ok
  have kk1 := kk.1
  refine ⟨⟨by omega, by omega⟩, fun H locs ls g1 g2 hP hS hl => ?_⟩
  obtain ⟨hR1, hR2, hR3, hR4, hs0⟩ := hR
  refine W_sz fun hz => ?_
  have hz1 : H.size = b + σ.1.length := wsO_sz hP hS hs0 g1 hz
  obtain ⟨⟨a1, a2, a3, a4, a5⟩, lk, hst⟩ := ct
  have hM := hM l D aC b
  have hpre : PreS s H (va_Pc (As.map (trV b)) (fun U => U.heap.size = b + σ.1.length ∧ va_P D vwCl (wsO b aC σ.1) U.heap ∧ KW D aC U)) (As.map (trV b)) := ⟨pc_blind, fun U hU hW => ⟨rfl, by rw [hU]; exact hz1, by rw [hU]; exact hP, KW.warm hW hK⟩⟩
  have hstk : (As.reverse ++ S).map (trV b) = (As.map (trV b)).reverse ++ S.map (trV b) := by rw [List.map_append, List.map_reverse]
  have h8 : 2 * (F0 m pc ls ((As.reverse ++ S).map (trV b))).monitorRoom + ((S.map (trV b)).map fun v => v.category).sum ≤ 8 := lv_room (by rw [trS_cat]; exact hS8)
  have run : va_Run p l e R s m args below meth c H locs (σ.1.length - n0) (σ.2 - z0) (σ'.1.length - σ.1.length) (σ'.2 - σ.2) (F0 m pc ls ((As.reverse ++ S).map (trV b))) (S.map (trV b)) (fun st oc t => oc = .returned (rv.map (trV b)) ∧ va_P D vwCl (wsO b aC σ'.1) t.heap ∧ va_F (fun q => b ≤ q) st t) (fun q => b ≤ q) := by
    rcases lk with lk | ⟨host, lk⟩
    · exact va_runS ⟨hx, hb, hml, hown, hts⟩ hM ⟨callB_of As.length hts (wds_good a1) rfl rfl rfl (hts _ a2) (hts _ lk) a3 ⟨by show M'.2.2.2.2.1 + 1 ≤ _; omega, by show 8 + (M'.2.2.1 + 11) + M'.2.2.2.2.2 ≤ _; omega⟩, hts _ hst⟩ hpre rfl (by simp) hl.1 hstk h8 d ⟨by omega, by omega⟩
    · exact va_runSN ⟨hx, hb, hml, hown, hts⟩ hM ⟨va_cnB As.length hts (wds_good a1) rfl rfl rfl (hK.2 _ lk) (hts _ a2) a3 ⟨by show M'.2.2.2.2.1 + 1 ≤ _; omega, by show 8 + (M'.2.2.1 + 11) + M'.2.2.2.2.2 ≤ _; omega⟩, hts _ hst, trivial⟩ hpre rfl (by simp) hl.1 hstk h8 d ⟨by omega, by omega⟩
  refine W_run run fun v st t H1 L' e0 e1 hq' hL' => ?_
  obtain ⟨ho, hP1, hF⟩ := hq'
  cases ho
  rw [e1] at hP1
  have := kk.2 H1 (locs ++ L') ls (by omega) (by omega) hP1 (back_S hS e0 e1 hF hL' (by omega)) hl
  rw [show σ'.1.length - n0 = σ.1.length - n0 + (σ'.1.length - σ.1.length) by omega, show σ'.2 - z0 = σ.2 - z0 + (σ'.2 - σ.2) by omega] at this
  have es : (rv.toList ++ S).map (trV b) = (rv.map (trV b)).toList ++ S.map (trV b) := by cases rv <;> simp
  rw [es] at this
  exact this
theorem at_callV0 {M' : MI} {As : List Value} {a : Nat} {fs : List Value} {Qr : Option Value → AH → Prop} (ok : Ok X M) (cv : CV M M' idx ci As.length) (d : decode M.2.1 pc = .ok (.invokevirtual idx, 3)) (hS8 : (S.map fun v => v.category).sum ≤ 8) (ho : σ.1[a]? = some (.inr (ci, fs))) (hr : Runs M' σ (.ref a :: As) Qr) (kk : ∀ v σ1, Qr v σ1 → AT X M (pc + 3) L (v.toList ++ S) σ1) : AT X M pc L (As.reverse ++ .ref a :: S) σ := by
  obtain ⟨rv, σ', ⟨m1, m2⟩, hq, hM⟩ := hr
  have kk := kk rv σ' hq
  obtain ⟨p, l, e, R, s, m, args, below, meth, c, D, aC, b, n0, z0, N, Z, Q⟩ := X
  obtain ⟨hx, hb, hr, hml, hown, hts, hlk, hnm, hK, hR⟩ := ok
  have kk1 := kk.1
  refine ⟨⟨by omega, by omega⟩, fun H locs ls g1 g2 hP hS hl => ?_⟩
  obtain ⟨hR1, hR2, hR3, hR4, hs0⟩ := hR
  refine W_sz fun hz => ?_
  have hz1 : H.size = b + σ.1.length := wsO_sz hP hS hs0 g1 hz
  obtain ⟨⟨a1, a2, a3, a4, a5⟩, lk, hin, hse, T, N', hc⟩ := cv
  have hM := hM l D aC b
  have hpre : PreV s H M'.1.cls (b + a) (va_Pc ((.ref a :: As).map (trV b)) (fun U => U.heap.size = b + σ.1.length ∧ va_P D vwCl (wsO b aC σ.1) U.heap ∧ KW D aC U)) (As.map (trV b)) := ⟨pc_blind, va_recv hK.1 hP hc (wsO_get (b := b) (aC := aC) ho), fun U hU hW => ⟨rfl, by rw [hU]; exact hz1, by rw [hU]; exact hP, KW.warm hW hK⟩⟩
  have hstk : (As.reverse ++ .ref a :: S).map (trV b) = (As.map (trV b)).reverse ++ .ref (b + a) :: S.map (trV b) := by rw [List.map_append, List.map_reverse]; rfl
  have h8 : 2 * (F0 m pc ls ((As.reverse ++ .ref a :: S).map (trV b))).monitorRoom + ((S.map (trV b)).map fun v => v.category).sum ≤ 8 := lv_room (by rw [trS_cat]; exact hS8)
  have run : va_Run p l e R s m args below meth c H locs (σ.1.length - n0) (σ.2 - z0) (σ'.1.length - σ.1.length) (σ'.2 - σ.2) (F0 m pc ls ((As.reverse ++ .ref a :: S).map (trV b))) (S.map (trV b)) (fun st oc t => oc = .returned (rv.map (trV b)) ∧ va_P D vwCl (wsO b aC σ'.1) t.heap ∧ va_F (fun q => b ≤ q) st t) (fun q => b ≤ q) := by
    rcases lk with lk | ⟨host, lk⟩
    · exact va_runV ⟨hx, hb, hml, hown, hts⟩ hM ⟨callB_of As.length hts (wds_good a1) rfl rfl rfl (hts _ a2) (hts _ lk) a3 ⟨by show M'.2.2.2.2.1 + 1 ≤ _; omega, by show 8 + (M'.2.2.1 + 11) + M'.2.2.2.2.2 ≤ _; omega⟩, hts _ hin, hts _ hse⟩ hpre rfl (by simp) hl.1 hstk h8 d ⟨by omega, by omega⟩
    · exact va_runVN ⟨hx, hb, hml, hown, hts⟩ hM ⟨va_cnB As.length hts (wds_good a1) rfl rfl rfl (hK.2 _ lk) (hts _ a2) a3 ⟨by show M'.2.2.2.2.1 + 1 ≤ _; omega, by show 8 + (M'.2.2.1 + 11) + M'.2.2.2.2.2 ≤ _; omega⟩, hts _ hin, hts _ hse⟩ hpre rfl (by simp) hl.1 hstk h8 d ⟨by omega, by omega⟩
  refine W_run run fun v st t H1 L' e0 e1 hq' hL' => ?_
  obtain ⟨ho, hP1, hF⟩ := hq'
  cases ho
  rw [e1] at hP1
  have := kk.2 H1 (locs ++ L') ls (by omega) (by omega) hP1 (back_S hS e0 e1 hF hL' (by omega)) hl
  rw [show σ'.1.length - n0 = σ.1.length - n0 + (σ'.1.length - σ.1.length) by omega, show σ'.2 - z0 = σ.2 - z0 + (σ'.2 - σ.2) by omega] at this
  have es : (rv.toList ++ S).map (trV b) = (rv.map (trV b)).toList ++ S.map (trV b) := by cases rv <;> simp
  rw [es] at this
  exact this
theorem at_callI0 {M' : MI} {As : List Value} {a : Nat} {Qr : Option Value → AH → Prop} (ok : Ok X M) (ct : CI M M' idx As.length) (d : decode M.2.1 pc = .ok (.invokespecial idx, 3)) (hS8 : (S.map fun v => v.category).sum ≤ 8) (hr : Runs M' σ (.ref a :: As) Qr) (kk : ∀ v σ1, Qr v σ1 → AT X M (pc + 3) L (v.toList ++ S) σ1) : AT X M pc L (As.reverse ++ .ref a :: S) σ := by
  obtain ⟨rv, σ', ⟨m1, m2⟩, hq, hM⟩ := hr
  have kk := kk rv σ' hq
  obtain ⟨p, l, e, R, s, m, args, below, meth, c, D, aC, b, n0, z0, N, Z, Q⟩ := X
  obtain ⟨hx, hb, hr, hml, hown, hts, hlk, hnm, hK, hR⟩ := ok
  have kk1 := kk.1
  refine ⟨⟨by omega, by omega⟩, fun H locs ls g1 g2 hP hS hl => ?_⟩
  obtain ⟨hR1, hR2, hR3, hR4, hs0⟩ := hR
  refine W_sz fun hz => ?_
  have hz1 : H.size = b + σ.1.length := wsO_sz hP hS hs0 g1 hz
  obtain ⟨⟨a1, a2, a3, a4, a5⟩, lk, hin, hi1, hi2⟩ := ct
  have hM := hM l D aC b
  rw [hi2] at a1
  have hpre : PreS s H (va_Pc ((.ref a :: As).map (trV b)) (fun U => U.heap.size = b + σ.1.length ∧ va_P D vwCl (wsO b aC σ.1) U.heap ∧ KW D aC U)) (.ref (b + a) :: As.map (trV b)) := ⟨pc_blind, fun U hU hW => ⟨rfl, by rw [hU]; exact hz1, by rw [hU]; exact hP, KW.warm hW hK⟩⟩
  have hstk : (As.reverse ++ .ref a :: S).map (trV b) = (As.map (trV b)).reverse ++ .ref (b + a) :: S.map (trV b) := by rw [List.map_append, List.map_reverse]; rfl
  have h8 : 2 * (F0 m pc ls ((As.reverse ++ .ref a :: S).map (trV b))).monitorRoom + ((S.map (trV b)).map fun v => v.category).sum ≤ 8 := lv_room (by rw [trS_cat]; exact hS8)
  have hwd : wdsM M' = Cond.code M'.1 M'.2.1 M'.2.2.1 none :: gw := by unfold wdsM; rw [hi2]
  have hgood : GoodIn gw (wdsM M') := wds_good (by rw [hi2]; exact a1)
  have run : va_Run p l e R s m args below meth c H locs (σ.1.length - n0) (σ.2 - z0) (σ'.1.length - σ.1.length) (σ'.2 - σ.2) (F0 m pc ls ((As.reverse ++ .ref a :: S).map (trV b))) (S.map (trV b)) (fun st oc t => oc = .returned (rv.map (trV b)) ∧ va_P D vwCl (wsO b aC σ'.1) t.heap ∧ va_F (fun q => b ≤ q) st t) (fun q => b ≤ q) := by
    rcases lk with lk | ⟨host, lk⟩
    · exact va_runI ⟨hx, hb, hml, hown, hts⟩ hM ⟨callB_of As.length hts hgood hwd rfl rfl (hts _ a2) (hts _ lk) a3 ⟨by show M'.2.2.2.2.1 + 1 ≤ _; omega, by show 8 + (M'.2.2.1 + 11) + M'.2.2.2.2.2 ≤ _; omega⟩, hi1, hts _ hin⟩ hpre rfl (by simp) hl.1 hstk h8 d ⟨by omega, by omega⟩
    · exact va_runIN ⟨hx, hb, hml, hown, hts⟩ hM ⟨va_cnB As.length hts hgood hwd rfl rfl (hK.2 _ lk) (hts _ a2) a3 ⟨by show M'.2.2.2.2.1 + 1 ≤ _; omega, by show 8 + (M'.2.2.1 + 11) + M'.2.2.2.2.2 ≤ _; omega⟩, hi1, hts _ hin⟩ hpre rfl (by simp) hl.1 hstk h8 d ⟨by omega, by omega⟩
  refine W_run run fun v st t H1 L' e0 e1 hq' hL' => ?_
  obtain ⟨ho, hP1, hF⟩ := hq'
  cases ho
  rw [e1] at hP1
  have := kk.2 H1 (locs ++ L') ls (by omega) (by omega) hP1 (back_S hS e0 e1 hF hL' (by omega)) hl
  rw [show σ'.1.length - n0 = σ.1.length - n0 + (σ'.1.length - σ.1.length) by omega, show σ'.2 - z0 = σ.2 - z0 + (σ'.2 - σ.2) by omega] at this
  have es : (rv.toList ++ S).map (trV b) = (rv.map (trV b)).toList ++ S.map (trV b) := by cases rv <;> simp
  rw [es] at this
  exact this
variable {β : Type} {QQ : β → AH → Prop}
theorem at_cSi {M' : MI} {As : List Value} {f : Cm (Int32)} {g : Int32 → Cm β} (ok : Ok X M) (ct : CT M M' idx As.length) (d : decode M.2.1 pc = .ok (.invokestatic idx, 3)) (hS8 : (S.map fun v => v.category).sum ≤ 8) (sim : ∀ Q, Hr f σ Q → Runs M' σ As (fun v σ1 => ∃ a, v = some (.int a) ∧ Q a σ1)) (h : Hr (bn f g) σ QQ) (kk : ∀ a σ1, Hr (g a) σ1 QQ → AT X M (pc + 3) L (.int a :: S) σ1) : AT X M pc L (As.reverse ++ S) σ := by
  refine at_callS ok ct d hS8 (sim _ (hr_bn.mp h)) fun v σ1 hv => ?_
  obtain ⟨a, rfl, hv⟩ := hv
  exact kk a σ1 hv
theorem at_cVi {M' : MI} {As : List Value} {r : Option Nat} {f : Cm (Int32)} {g : Int32 → Cm β} (ok : Ok X M) (cv : CV M M' idx ci As.length) (d : decode M.2.1 pc = .ok (.invokevirtual idx, 3)) (hS8 : (S.map fun v => v.category).sum ≤ 8) (sim : ∀ Q, Hr f σ Q → Runs M' σ (va_rf r :: As) (fun v σ1 => ∃ a, v = some (.int a) ∧ Q a σ1)) (h : Hr (bn (oObj r ci) fun _ => bn f g) σ QQ) (kk : ∀ a σ1, Hr (g a) σ1 QQ → AT X M (pc + 3) L (.int a :: S) σ1) : AT X M pc L (As.reverse ++ va_rf r :: S) σ := by
  obtain ⟨u, σ', e, h2⟩ := hr_bn.mp h
  obtain ⟨rfl, b, fs, rfl, ho⟩ := obj_inv e
  refine at_callV0 ok cv d hS8 ho (sim _ (hr_bn.mp h2)) fun v σ1 hv => ?_
  obtain ⟨a, rfl, hv⟩ := hv
  exact kk a σ1 hv
theorem at_cSr {M' : MI} {As : List Value} {f : Cm (Option Nat)} {g : Option Nat → Cm β} (ok : Ok X M) (ct : CT M M' idx As.length) (d : decode M.2.1 pc = .ok (.invokestatic idx, 3)) (hS8 : (S.map fun v => v.category).sum ≤ 8) (sim : ∀ Q, Hr f σ Q → Runs M' σ As (fun v σ1 => ∃ a, v = some (va_rf a) ∧ Q a σ1)) (h : Hr (bn f g) σ QQ) (kk : ∀ a σ1, Hr (g a) σ1 QQ → AT X M (pc + 3) L (va_rf a :: S) σ1) : AT X M pc L (As.reverse ++ S) σ := by
  refine at_callS ok ct d hS8 (sim _ (hr_bn.mp h)) fun v σ1 hv => ?_
  obtain ⟨a, rfl, hv⟩ := hv
  exact kk a σ1 hv
theorem at_cVr {M' : MI} {As : List Value} {r : Option Nat} {f : Cm (Option Nat)} {g : Option Nat → Cm β} (ok : Ok X M) (cv : CV M M' idx ci As.length) (d : decode M.2.1 pc = .ok (.invokevirtual idx, 3)) (hS8 : (S.map fun v => v.category).sum ≤ 8) (sim : ∀ Q, Hr f σ Q → Runs M' σ (va_rf r :: As) (fun v σ1 => ∃ a, v = some (va_rf a) ∧ Q a σ1)) (h : Hr (bn (oObj r ci) fun _ => bn f g) σ QQ) (kk : ∀ a σ1, Hr (g a) σ1 QQ → AT X M (pc + 3) L (va_rf a :: S) σ1) : AT X M pc L (As.reverse ++ va_rf r :: S) σ := by
  obtain ⟨u, σ', e, h2⟩ := hr_bn.mp h
  obtain ⟨rfl, b, fs, rfl, ho⟩ := obj_inv e
  refine at_callV0 ok cv d hS8 ho (sim _ (hr_bn.mp h2)) fun v σ1 hv => ?_
  obtain ⟨a, rfl, hv⟩ := hv
  exact kk a σ1 hv
theorem at_cSv {M' : MI} {As : List Value} {f : Cm (Unit)} {g : Unit → Cm β} (ok : Ok X M) (ct : CT M M' idx As.length) (d : decode M.2.1 pc = .ok (.invokestatic idx, 3)) (hS8 : (S.map fun v => v.category).sum ≤ 8) (sim : ∀ Q, Hr f σ Q → Runs M' σ As (fun v σ1 => ∃ a, v = none ∧ Q a σ1)) (h : Hr (bn f g) σ QQ) (kk : ∀ a σ1, Hr (g a) σ1 QQ → AT X M (pc + 3) L (S) σ1) : AT X M pc L (As.reverse ++ S) σ := by
  refine at_callS ok ct d hS8 (sim _ (hr_bn.mp h)) fun v σ1 hv => ?_
  obtain ⟨a, rfl, hv⟩ := hv
  exact kk a σ1 hv
theorem at_cVv {M' : MI} {As : List Value} {r : Option Nat} {f : Cm (Unit)} {g : Unit → Cm β} (ok : Ok X M) (cv : CV M M' idx ci As.length) (d : decode M.2.1 pc = .ok (.invokevirtual idx, 3)) (hS8 : (S.map fun v => v.category).sum ≤ 8) (sim : ∀ Q, Hr f σ Q → Runs M' σ (va_rf r :: As) (fun v σ1 => ∃ a, v = none ∧ Q a σ1)) (h : Hr (bn (oObj r ci) fun _ => bn f g) σ QQ) (kk : ∀ a σ1, Hr (g a) σ1 QQ → AT X M (pc + 3) L (S) σ1) : AT X M pc L (As.reverse ++ va_rf r :: S) σ := by
  obtain ⟨u, σ', e, h2⟩ := hr_bn.mp h
  obtain ⟨rfl, b, fs, rfl, ho⟩ := obj_inv e
  refine at_callV0 ok cv d hS8 ho (sim _ (hr_bn.mp h2)) fun v σ1 hv => ?_
  obtain ⟨a, rfl, hv⟩ := hv
  exact kk a σ1 hv
theorem at_cIv {M' : MI} {As : List Value} {b : Nat} {f : Cm Unit} {g : Unit → Cm β} (ok : Ok X M) (ct : CI M M' idx As.length) (d : decode M.2.1 pc = .ok (.invokespecial idx, 3)) (hS8 : (S.map fun v => v.category).sum ≤ 8) (sim : ∀ Q, Hr f σ Q → Runs M' σ (va_rf (some b) :: As) (fun v σ1 => ∃ a, v = none ∧ Q a σ1)) (h : Hr (bn f g) σ QQ) (kk : ∀ a σ1, Hr (g a) σ1 QQ → AT X M (pc + 3) L S σ1) : AT X M pc L (As.reverse ++ va_rf (some b) :: S) σ := by
  refine at_callI0 ok ct d hS8 (sim _ (hr_bn.mp h)) fun v σ1 hv => ?_
  obtain ⟨a, rfl, hv⟩ := hv
  exact kk a σ1 hv
/-- a table of places: what the number is says where it goes on -/
theorem at_tsw {dflt lo hi : Int} {offs : Array Int} {len : Nat} {x : Int32} {tgt : Nat} (ok : Ok X M) (d : decode M.2.1 pc = .ok (.tableswitch dflt lo hi offs, len)) (ht : (if x.toInt < lo ∨ hi < x.toInt then (pc : Int) + dflt = (tgt : Int) else ∃ off, offs[(x.toInt - lo).toNat]? = some off ∧ (pc : Int) + off = (tgt : Int))) (kk : AT X M tgt L S σ) : AT X M pc L (.int x :: S) σ := by
  obtain ⟨p, l, e, R, s, m, args, below, meth, c, D, aC, b, n0, z0, N, Z, Q⟩ := X
  obtain ⟨hx, hb, hr, hml, hown, hts, hlk, hnm, hK, hR⟩ := ok
  refine ⟨kk.1, fun H locs ls g1 g2 hP hS hl => ?_⟩
  by_cases hc : x.toInt < lo ∨ hi < x.toInt
  · rw [if_pos hc] at ht
    exact lv_tableOut hx hb d hc ht (kk.2 H locs ls g1 g2 hP hS hl)
  · rw [if_neg hc] at ht
    obtain ⟨off, h1, h2⟩ := ht
    exact lv_tableIn hx hb d (fun q => hc (Or.inl q)) (fun q => hc (Or.inr q)) h1 h2 (kk.2 H locs ls g1 g2 hP hS hl)
theorem at_lsw {dflt : Int} {ps : Array (Int × Int)} {len : Nat} {x : Int32} {off : Int} {tgt : Nat} (ok : Ok X M) (d : decode M.2.1 pc = .ok (.lookupswitch dflt ps, len)) (hp : (ps.toList.zip (ps.toList.drop 1)).all (fun (a, next) => a.1 < next.1) = true) (ho : Op.lookupswitch.offset ps.toList dflt x.toInt = off) (ht : (pc : Int) + off = (tgt : Int)) (kk : AT X M tgt L S σ) : AT X M pc L (.int x :: S) σ := by
  obtain ⟨p, l, e, R, s, m, args, below, meth, c, D, aC, b, n0, z0, N, Z, Q⟩ := X
  obtain ⟨hx, hb, hr, hml, hown, hts, hlk, hnm, hK, hR⟩ := ok
  refine ⟨kk.1, fun H locs ls g1 g2 hP hS hl => ?_⟩
  exact lv_lookup hx hb d hp ho ht (kk.2 H locs ls g1 g2 hP hS hl)
theorem i32_ne {x : Int32} {k : Nat} (hk : k < 2 ^ 31) (h : ¬ x = nI k) : ¬ x.toInt = (k : Int) := by
  intro e
  apply h
  apply Int32.toInt_inj.mp
  rw [nI_toInt hk, e]
end ROWS
