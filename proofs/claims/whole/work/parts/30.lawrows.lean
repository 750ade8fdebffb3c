/-! THE CLAIM OUT OF ONE WALK OF THE LAW'S BODY. Your part is whole_start (and what it stands on); all else here is the same for every law, but numbers. -/
def R_law : String := "DoorGuardLaw"
def lw_P (b : Addr) (xs : List Int32) (args : Array Value) (s : State) : Prop := args = #[.ref b] ∧ s.IntsAt b xs ∧ xs.length ≤ 3584 ∧ (Jvm.Cond.and given_1 narrow_1).before args s = true
def lw_Q (_ : Array Value) (s : State) (o : Outcome) (t : State) : Prop := o = .returned (some (.int 1)) ∧ Framed s o t [] 600000 7302250
def lw_Z (below : List Frame) (a : Array Value) (s : State) : State → Prop := fun t => ∃ o, t.status = .running ∧ Ended t below o ∧ lw_Q a s o t
/-- the law's own end, with 1 on the stack, nothing written that was there before, its room as the claim has it -/
theorem lw_ret {p : Program} {l : Launch} {e : Env} {s : State} {m : MethodId} {below : List Frame} {meth : Method} {c : Code} {b : Nat} (hx : p.tables.exec = Jvm.exec) (hb : c.code = code) (hr : meth.sig.returnType = ret) (hlocks : meth.locks = false) {pc : Nat} {H : Heap} {ls : Array Slot} (hdg : decode code pc = .ok (.ireturn, 1)) : W p l e room_1 s m #[Value.ref b] below meth c H [] 600000 7302250 (lw_Z below #[Value.ref b] s) (F0 m pc ls [.int 1]) := by
  intro T hT X
  obtain ⟨fs, hret, hrun, hended, hW, hframe⟩ := X.leave (v := some (.int 1)) (hlocks := hlocks) (fun h => by rw [hr] at h; cases h)
  have hmeth' : T.vm.method? m = some meth := X.method'
  refine ⟨T.setFrames fs, ?_, .returned (some (.int 1)), hrun, hended, rfl, ⟨_, rfl⟩, hW, hframe⟩
  jvm_step X.here [X.here.top, hx, hb, hdg, hmeth', hr, ret, narrow_b1]
  (try refine ⟨rfl, ?_⟩); (try refine ⟨rfl, ?_⟩)
  first | (intro acts; rw [hret _ acts rfl rfl rfl]) | rw [hret _ _ rfl rfl rfl]
  exact Steps.refl _
/-- what holds at the law's entry: the machine, the code, the tables' words (any of lw_tbl by 'hts w (by decide +kernel)'), the script of L ints xs at the cell b, what the Statement gives of the start (any of its parts by flat_of_before) -/
def lw_At (p : Program) (s : State) (m : MethodId) (meth : Method) (c : Code) (b L : Nat) (xs : Nat → Int32) : Prop :=
  p.tables.exec = Jvm.exec ∧ c.code = code ∧ meth.sig.returnType = ret ∧ c.maxLocals = 4 ∧ s.vm.findClass R_law = some m.cls ∧ (∀ w ∈ lw_tbl, w.before #[Value.ref b] s = true) ∧ va_X b L xs s s.heap ∧ b < s.heap.size ∧ meth.locks = false ∧ (Jvm.Cond.and given_1 narrow_1).before #[Value.ref b] s = true ∧ meth.name = "law"

/-! ===== the law's own rows: its script, its end ===== -/
def oScr (n : Nat) (xs : Nat → Int32) (i : Int32) : Cm Int32 := fun σ => if i < 0 ∨ n ≤ i.toNatClampNeg then none else some (xs i.toNatClampNeg, σ)
/-- the law's end: it answers 1, within the room -/
def LQ : Int32 → AH → Prop := fun r σ => r = 1 ∧ σ.1.length ≤ 600000 ∧ σ.2 ≤ 7302250
def LX (X : Cx) (b0 n : Nat) (xs : Nat → Int32) : Prop := match X with
  | (p, l, e, R, s, m, args, below, meth, c, D, aC, b, n0, z0, N, Z, Q) => va_X b0 n xs s s.heap ∧ b0 < b ∧ b = s.heap.size ∧ n0 = 0 ∧ z0 = 0 ∧ N = 600000 ∧ Z = 7302250 ∧ args = #[Value.ref b0] ∧ R = room_1 ∧ Q = lw_Z below #[Value.ref b0] s
theorem lc_abs {L : List (Option Value)} {i a : Nat} (h : L[i - 1]? = some (some (.retAddr a))) : lc L i := fun v _ h2 => by rw [h] at h2; cases h2; rfl
section ROWS
variable {X : Cx} {M : MI} {pc : Nat} {L : List (Option Value)} {S : List Value} {σ : AH} {β : Type} {QQ : β → AH → Prop} {b0 n : Nat} {xs : Nat → Int32}
theorem at_aloadns {k : Fin 4} {a : Nat} (ok : Ok X M) (d : decode M.2.1 pc = .ok (.aload_n k, 1)) (h : L[(k : Nat)]? = some (some (.retAddr a))) (kk : AT X M (pc + 1) L (.retAddr a :: S) σ) : AT X M pc L S σ := by
  obtain ⟨p, l, e, R, s, m, args, below, meth, c, D, aC, b, n0, z0, N, Z, Q⟩ := X
  obtain ⟨hx, hb, hr, hml, hown, hts, hlk, hnm, hK, hR⟩ := ok
  refine ⟨kk.1, fun H locs ls g1 g2 hP hS hl => ?_⟩
  exact lv_aload_n hx hb d rfl (hl.at h) (kk.2 H locs ls g1 g2 hP hS hl)
theorem at_sld {i : Int32} {f : Int32 → Cm β} (ok : Ok X M) (lx : LX X b0 n xs) (d : decode M.2.1 pc = .ok (.iaload, 1)) (h0 : Hr (bn (oScr n xs i) f) σ QQ) (kk : ∀ v, Hr (f v) σ QQ → AT X M (pc + 1) L (.int v :: S) σ) : AT X M pc L (.int i :: .retAddr b0 :: S) σ := by
  obtain ⟨v, σ', e, h⟩ := hr_bn.mp h0
  have hi : vp_in i n ∧ v = xs i.toNatClampNeg ∧ σ' = σ := by
    unfold oScr at e
    split at e
    · cases e
    · rename_i hi
      cases e
      exact ⟨hi, rfl, rfl⟩
  obtain ⟨hi, rfl, rfl⟩ := hi
  have kk := kk _ h
  obtain ⟨p, l, e, R, s, m, args, below, meth, c, D, aC, b, n0, z0, N, Z, Q⟩ := X
  obtain ⟨hx, hb, hr, hml, hown, hts, hlk, hnm, hK, hR⟩ := ok
  obtain ⟨hX, hb0, rfl, -⟩ := lx
  refine ⟨kk.1, fun H locs ls g1 g2 hP hS hl => ?_⟩
  exact va_sld hx hb hX hb0 (Nat.not_le.mpr hb0) hS hi d (kk.2 H locs ls g1 g2 hP hS hl)
theorem at_slen (ok : Ok X M) (lx : LX X b0 n xs) (d : decode M.2.1 pc = .ok (.arraylength, 1)) (kk : AT X M (pc + 1) L (.int (nI n) :: S) σ) : AT X M pc L (.retAddr b0 :: S) σ := by
  obtain ⟨p, l, e, R, s, m, args, below, meth, c, D, aC, b, n0, z0, N, Z, Q⟩ := X
  obtain ⟨hx, hb, hr, hml, hown, hts, hlk, hnm, hK, hR⟩ := ok
  obtain ⟨hX, hb0, rfl, -⟩ := lx
  refine ⟨kk.1, fun H locs ls g1 g2 hP hS hl => ?_⟩
  exact va_slen hx hb hX hb0 (Nat.not_le.mpr hb0) hS d (kk.2 H locs ls g1 g2 hP hS hl)
theorem at_lret {x : Int32} (ok : Ok X (yL_law, cL_law, 4, (some .boolean), 14, 566)) (lx : LX X b0 n xs) (d : decode cL_law pc = .ok (.ireturn, 1)) (h : Hr (rt x) σ LQ) : AT X (yL_law, cL_law, 4, (some .boolean), 14, 566) pc L [.int x] σ := by
  obtain ⟨rfl, c1, c2⟩ := hr_rt.mp h
  obtain ⟨p, l, e, R, s, m, args, below, meth, c, D, aC, b, n0, z0, N, Z, Q⟩ := X
  obtain ⟨hx, hb, hr, hml, hown, hts, hlk, hnm, hK, hR⟩ := ok
  obtain ⟨hX, hb0, rfl, rfl, rfl, rfl, rfl, rfl, rfl, rfl⟩ := lx
  refine ⟨⟨c1, c2⟩, fun H locs ls g1 g2 hP hS hl => ?_⟩
  refine va_forget (fun q hq => hS.2.2 q hq) ?_
  refine W.widen (k := 600000) (n := 7302250) (by omega) (by omega) ?_
  exact lw_ret hx hb hr hlk d
end ROWS
