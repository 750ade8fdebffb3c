/-! ===== rows that read and write cells ===== -/
theorem getI_inv {r : Option Nat} {ci k : Nat} {σ σ' : AH} {v : Int32} (h : oGetI r ci k σ = some (v, σ')) : σ' = σ ∧ ∃ (a : Nat) (fs : List Value), r = some a ∧ σ.1[a]? = some (.inr (ci, fs)) ∧ fs[k]? = some (.int v) := by
  unfold oGetI at h
  split at h
  · rename_i fs hfs
    obtain ⟨a, h1, h2⟩ := rdO_spec.mp hfs
    split at h
    · rename_i w hw
      cases h
      exact ⟨rfl, a, fs, h1, h2, hw⟩
    · cases h
  · cases h
theorem getL_inv {r : Option Nat} {ci k : Nat} {σ σ' : AH} {v : Int64} (h : oGetL r ci k σ = some (v, σ')) : σ' = σ ∧ ∃ (a : Nat) (fs : List Value), r = some a ∧ σ.1[a]? = some (.inr (ci, fs)) ∧ fs[k]? = some (.long v) := by
  unfold oGetL at h
  split at h
  · rename_i fs hfs
    obtain ⟨a, h1, h2⟩ := rdO_spec.mp hfs
    split at h
    · rename_i w hw
      cases h
      exact ⟨rfl, a, fs, h1, h2, hw⟩
    · cases h
  · cases h
theorem getR_inv {r : Option Nat} {ci k : Nat} {σ σ' : AH} {v : Option Nat} (h : oGetR r ci k σ = some (v, σ')) : σ' = σ ∧ ∃ (a : Nat) (fs : List Value), r = some a ∧ σ.1[a]? = some (.inr (ci, fs)) ∧ fs[k]? = some (va_rf v) := by
  unfold oGetR at h
  split at h
  · rename_i fs hfs
    obtain ⟨a, h1, h2⟩ := rdO_spec.mp hfs
    split at h
    · rename_i hw
      cases h
      exact ⟨rfl, a, fs, h1, h2, hw⟩
    · rename_i w hw
      cases h
      exact ⟨rfl, a, fs, h1, h2, hw⟩
    · cases h
  · cases h
theorem put_inv {r : Option Nat} {ci k : Nat} {x : Value} {σ σ' : AH} {u : Unit} (h : oPut r ci k x σ = some (u, σ')) : ∃ (a : Nat) (fs : List Value), r = some a ∧ σ.1[a]? = some (.inr (ci, fs)) ∧ k < fs.length ∧ σ' = (σ.1.set a (.inr (ci, fs.set k x)), σ.2) := by
  unfold oPut at h
  split at h
  · cases h
  · rename_i a
    split at h
    · rename_i fs hfs
      obtain ⟨a', h1, h2⟩ := rdO_spec.mp hfs
      cases h1
      split at h
      · rename_i hk
        cases h
        exact ⟨a, fs, rfl, h2, hk, rfl⟩
      · cases h
    · cases h
theorem ld_inv {t : Nat} {r : Option Nat} {i : Int32} {σ σ' : AH} {v : Int32} (h : oLd t r i σ = some (v, σ')) : σ' = σ ∧ ∃ (a n : Nat) (f : Nat → Int32), r = some a ∧ σ.1[a]? = some (.inl (t, n, .inl f)) ∧ vp_in i n ∧ v = f i.toNatClampNeg := by
  unfold oLd at h
  split at h
  · rename_i n f hf
    obtain ⟨a, h1, h2⟩ := rdA_spec.mp hf
    split at h
    · cases h
    · rename_i hi
      cases h
      exact ⟨rfl, a, n, f, h1, h2, hi, rfl⟩
  · cases h
theorem ldR_inv {t : Nat} {r : Option Nat} {i : Int32} {σ σ' : AH} {v : Option Nat} (h : oLdR t r i σ = some (v, σ')) : σ' = σ ∧ ∃ (a n : Nat) (f : Nat → Option Nat), r = some a ∧ σ.1[a]? = some (.inl (t, n, .inr (.inr (.inr (.inr f))))) ∧ vp_in i n ∧ v = f i.toNatClampNeg := by
  unfold oLdR at h
  split at h
  · rename_i n f hf
    obtain ⟨a, h1, h2⟩ := rdA_spec.mp hf
    split at h
    · cases h
    · rename_i hi
      cases h
      exact ⟨rfl, a, n, f, h1, h2, hi, rfl⟩
  · cases h
theorem st_inv {t : Nat} {r : Option Nat} {i x : Int32} {σ σ' : AH} {u : Unit} (h : oSt t r i x σ = some (u, σ')) : ∃ (a n : Nat) (f : Nat → Int32), r = some a ∧ σ.1[a]? = some (.inl (t, n, .inl f)) ∧ vp_in i n ∧ σ' = (σ.1.set a (.inl (t, n, .inl (upd f i.toNatClampNeg x))), σ.2) := by
  unfold oSt at h
  split at h
  · cases h
  · rename_i a
    split at h
    · rename_i n f hf
      obtain ⟨a', h1, h2⟩ := rdA_spec.mp hf
      cases h1
      split at h
      · cases h
      · rename_i hi
        cases h
        exact ⟨a, n, f, rfl, h2, hi, rfl⟩
    · cases h
theorem stR_inv {t c : Nat} {r : Option Nat} {i : Int32} {v : Option Nat} {σ σ' : AH} {u : Unit} (h : oStR t c r i v σ = some (u, σ')) : ∃ (a n : Nat) (f : Nat → Option Nat), r = some a ∧ σ.1[a]? = some (.inl (t, n, .inr (.inr (.inr (.inr f))))) ∧ vp_in i n ∧ (v = none ∨ ∃ (q : Nat) (fs : List Value), v = some q ∧ σ.1[q]? = some (.inr (c, fs))) ∧ σ' = (σ.1.set a (.inl (t, n, .inr (.inr (.inr (.inr (va_up f i.toNatClampNeg v)))))), σ.2) := by
  unfold oStR at h
  split at h
  · cases h
  · rename_i a
    split at h
    · rename_i n f hf
      obtain ⟨a', h1, h2⟩ := rdA_spec.mp hf
      cases h1
      split at h
      · cases h
      · rename_i hi
        split at h
        · rename_i hv
          cases h
          refine ⟨a, n, f, rfl, h2, hi, ?_, rfl⟩
          rcases hv with hv | hv
          · exact Or.inl hv
          · obtain ⟨fs, hfs⟩ := Option.isSome_iff_exists.mp hv
            obtain ⟨q, h3, h4⟩ := rdO_spec.mp hfs
            exact Or.inr ⟨q, fs, h3, h4⟩
        · cases h
    · cases h
theorem len_inv {t : Nat} {r : Option Nat} {σ σ' : AH} {v : Int32} (h : oLen t r σ = some (v, σ')) : σ' = σ ∧ ∃ (a : Nat) (x : vp_A), r = some a ∧ σ.1[a]? = some (.inl (t, x)) ∧ Int32.ofNat x.1 = v := by
  unfold oLen at h
  split at h
  · rename_i x hx
    obtain ⟨a, h1, h2⟩ := rdA_spec.mp hx
    cases h
    exact ⟨rfl, a, x, h1, h2, rfl⟩
  · cases h
theorem newA_inv {t : Nat} {n : Int32} {σ σ' : AH} {v : Option Nat} (h : oNewA t n σ = some (v, σ')) : ¬ n < 0 ∧ n.toNatClampNeg ≤ 100000000 ∧ v = some σ.1.length ∧ σ' = (σ.1 ++ [.inl (t, n.toNatClampNeg, .inl (fun _ => 0))], σ.2 + n.toNatClampNeg) := by
  unfold oNewA at h
  split at h
  · cases h
  · rename_i hn
    cases h
    exact ⟨fun q => hn (Or.inl q), Nat.not_lt.mp fun q => hn (Or.inr q), rfl, rfl⟩
theorem newR_inv {t : Nat} {n : Int32} {σ σ' : AH} {v : Option Nat} (h : oNewR t n σ = some (v, σ')) : ¬ n < 0 ∧ n.toNatClampNeg ≤ 100000000 ∧ v = some σ.1.length ∧ σ' = (σ.1 ++ [.inl (t, n.toNatClampNeg, .inr (.inr (.inr (.inr (fun _ => none)))))], σ.2 + n.toNatClampNeg) := by
  unfold oNewR at h
  split at h
  · cases h
  · rename_i hn
    cases h
    exact ⟨fun q => hn (Or.inl q), Nat.not_lt.mp fun q => hn (Or.inr q), rfl, rfl⟩
theorem clone_inv {r : Option Nat} {σ σ' : AH} {v : Option Nat} (h : oClone r σ = some (v, σ')) : ∃ (a n : Nat) (f : Nat → Int32), r = some a ∧ σ.1[a]? = some (.inl (0, n, .inl f)) ∧ v = some σ.1.length ∧ σ' = (σ.1 ++ [.inl (0, n, .inl f)], σ.2 + n) := by
  unfold oClone at h
  split at h
  · rename_i n f hx
    obtain ⟨a, h1, h2⟩ := rdA_spec.mp hx
    cases h
    exact ⟨a, n, f, h1, h2, rfl, rfl⟩
  · cases h
theorem obj_inv {r : Option Nat} {ci : Nat} {σ σ' : AH} {u : Unit} (h : oObj r ci σ = some (u, σ')) : σ' = σ ∧ ∃ (a : Nat) (fs : List Value), r = some a ∧ σ.1[a]? = some (.inr (ci, fs)) := by
  unfold oObj at h
  split at h
  · rename_i fs hfs
    obtain ⟨a, h1, h2⟩ := rdO_spec.mp hfs
    cases h
    exact ⟨rfl, a, fs, h1, h2⟩
  · cases h
theorem copy_inv {r r' : Option Nat} {sp dp n : Int32} {σ σ' : AH} {u : Unit} (h : oCopy r sp r' dp n σ = some (u, σ')) : ∃ (a0 a n0 n1 : Nat) (f g : Nat → Int32), r = some a0 ∧ r' = some a ∧ σ.1[a0]? = some (.inl (0, n0, .inl f)) ∧ σ.1[a]? = some (.inl (0, n1, .inl g)) ∧ ¬ sp < 0 ∧ ¬ dp < 0 ∧ ¬ n < 0 ∧ sp.toNatClampNeg + n.toNatClampNeg ≤ n0 ∧ dp.toNatClampNeg + n.toNatClampNeg ≤ n1 ∧ σ' = (σ.1.set a (.inl (0, n1, .inl (va_cpy f g sp.toNatClampNeg dp.toNatClampNeg n.toNatClampNeg))), σ.2) := by
  unfold oCopy at h
  split at h
  · cases h
  · rename_i a
    split at h
    · rename_i n0 f n1 g hf hg
      obtain ⟨a0, h1, h2⟩ := rdA_spec.mp hf
      obtain ⟨a', h3, h4⟩ := rdA_spec.mp hg
      cases h3
      split at h
      · cases h
      · rename_i hc
        cases h
        refine ⟨a0, a, n0, n1, f, g, h1, rfl, h2, h4, fun q => hc (Or.inr (Or.inl q)), fun q => hc (Or.inr (Or.inr (Or.inl q))), fun q => hc (Or.inr (Or.inr (Or.inr (Or.inl q)))), Nat.not_lt.mp fun q => hc (Or.inr (Or.inr (Or.inr (Or.inr (Or.inl q))))), Nat.not_lt.mp fun q => hc (Or.inr (Or.inr (Or.inr (Or.inr (Or.inr q))))), rfl⟩
    · cases h
-- what the tables must say of an instruction
def GF (own : String) (idx ci k : Nat) : Prop := ∃ (C : String) (T : u_T) (N : Nat), vwCl[ci]? = some (C, T, N) ∧ k < N ∧ (∀ w ∈ u_ws C T N, w ∈ gw) ∧ (Cond.fieldLink own idx (T k).1 (T k).2.1 (T k).2.2.1 ∈ gw ∨ ∃ host, Cond.fieldLinkNest own idx (T k).1 (T k).2.1 (T k).2.2.1 host ∈ nwl)
def PF (own nm : String) (idx ci k : Nat) (ty : FieldType) : Prop := ∃ (C : String) (T : u_T) (N : Nat) (ty0 : Nat → FieldType), vwCl[ci]? = some (C, T, N) ∧ k < N ∧ (∀ w ∈ u_ws C T N, w ∈ gw) ∧ (∀ k, k < N → parseFieldDescriptor (T k).2.2.1 = some (ty0 k)) ∧ (∀ a, a < N → ∀ b, b < N → a ≠ b → (T a).2.1 ≠ (T b).2.1) ∧ ty0 k = ty ∧
  ((Cond.fieldLink own idx (T k).1 (T k).2.1 (T k).2.2.1 ∈ gw ∧ ((T k).2.2.2 = false ∨ ((T k).2.2.2 = true ∧ nm = "<init>" ∧ (T k).1 = own))) ∨ ((T k).2.2.2 = false ∧ ∃ host, Cond.fieldLinkNest own idx (T k).1 (T k).2.1 (T k).2.2.1 host ∈ nwl))
def NW (own : String) (idx ci : Nat) (fs : List Value) : Prop := ∃ (C : String) (T : u_T) (N : Nat) (ty0 : Nat → FieldType), vwCl[ci]? = some (C, T, N) ∧ (∀ w ∈ u_ws C T N, w ∈ gw) ∧ (∀ k, k < N → parseFieldDescriptor (T k).2.2.1 = some (ty0 k)) ∧ Cond.classLink own idx C ∈ gw ∧ Cond.instantiable C N ∈ gw ∧ Cond.initialized C ∈ gw ∧ fs.length = N ∧ (∀ j, j < N → defaultValue (ty0 j) = vp_V fs j) ∧ ∀ v ∈ fs, ∀ b, trV b v = v
section ROWS
variable {X : Cx} {M : MI} {pc : Nat} {L : List (Option Value)} {S : List Value} {σ : AH} {β : Type} {QQ : β → AH → Prop} {idx ci k t : Nat} {r : Option Nat}
theorem at_getV {v : Value} {a : Nat} {fs : List Value} (ok : Ok X M) (g : GF M.1.cls idx ci k) (d : decode M.2.1 pc = .ok (.getfield idx, 3)) (h1 : σ.1[a]? = some (.inr (ci, fs))) (h2 : fs[k]? = some v) (kk : AT X M (pc + 3) L (v :: S) σ) : AT X M pc L (.ref a :: S) σ := by
  obtain ⟨p, l, e, R, s, m, args, below, meth, c, D, aC, b, n0, z0, N, Z, Q⟩ := X
  obtain ⟨hx, hb, hr, hml, hown, hts, hlk, hnm, hK, hR⟩ := ok
  refine ⟨kk.1, fun H locs ls g1 g2 hP hS hl => ?_⟩
  obtain ⟨C, T, N', hc, hk, hin, hw⟩ := g
  have he := wsO_get (b := b) (aC := aC) h1
  have hv : (fs.map (trV b))[k]? = some (trV b v) := by rw [List.getElem?_map, h2]; rfl
  rcases hw with hw | ⟨host, hw⟩
  · exact va_get hx hb hts hin hown hK.1 hP a he hc k hk (hts _ hw) (fun _ h9 => h9) hv d (kk.2 H locs ls g1 g2 hP hS hl)
  · exact va_getN hx hb hts hin hown hK.1 hP a he hc k hk (va_Nw.use rfl (hK.2 _ hw)) (fun _ h9 => h9) hv d (kk.2 H locs ls g1 g2 hP hS hl)
theorem at_getI {f : Int32 → Cm β} (ok : Ok X M) (g : GF M.1.cls idx ci k) (d : decode M.2.1 pc = .ok (.getfield idx, 3)) (h0 : Hr (bn (oGetI r ci k) f) σ QQ) (kk : ∀ v, Hr (f v) σ QQ → AT X M (pc + 3) L (.int v :: S) σ) : AT X M pc L (va_rf r :: S) σ := by
  obtain ⟨v, σ', e, h⟩ := hr_bn.mp h0
  obtain ⟨rfl, a, fs, rfl, h1, h2⟩ := getI_inv e
  exact at_getV ok g d h1 h2 (kk v h)
theorem at_getL {f : Int64 → Cm β} (ok : Ok X M) (g : GF M.1.cls idx ci k) (d : decode M.2.1 pc = .ok (.getfield idx, 3)) (h0 : Hr (bn (oGetL r ci k) f) σ QQ) (kk : ∀ v, Hr (f v) σ QQ → AT X M (pc + 3) L (.long v :: S) σ) : AT X M pc L (va_rf r :: S) σ := by
  obtain ⟨v, σ', e, h⟩ := hr_bn.mp h0
  obtain ⟨rfl, a, fs, rfl, h1, h2⟩ := getL_inv e
  exact at_getV ok g d h1 h2 (kk v h)
theorem at_getR {f : Option Nat → Cm β} (ok : Ok X M) (g : GF M.1.cls idx ci k) (d : decode M.2.1 pc = .ok (.getfield idx, 3)) (h0 : Hr (bn (oGetR r ci k) f) σ QQ) (kk : ∀ v, Hr (f v) σ QQ → AT X M (pc + 3) L (va_rf v :: S) σ) : AT X M pc L (va_rf r :: S) σ := by
  obtain ⟨v, σ', e, h⟩ := hr_bn.mp h0
  obtain ⟨rfl, a, fs, rfl, h1, h2⟩ := getR_inv e
  exact at_getV ok g d h1 h2 (kk v h)
theorem at_putV {v : Value} {ty : FieldType} {f : Unit → Cm β} (ok : Ok X M) (g : PF M.1.cls M.1.name idx ci k ty) (hn : ∀ b, narrow ty (trV b v) = trV b v ∧ fits ty (trV b v) = true) (d : decode M.2.1 pc = .ok (.putfield idx, 3)) (h : Hr (bn (oPut r ci k v) f) σ QQ) (kk : ∀ σ, Hr (f ()) σ QQ → AT X M (pc + 3) L S σ) : AT X M pc L (v :: va_rf r :: S) σ := by
  obtain ⟨u, σ', e, h⟩ := hr_bn.mp h
  obtain ⟨a, fs, rfl, h1, hk', rfl⟩ := put_inv e
  have kk := kk _ h
  obtain ⟨p, l, e, R, s, m, args, below, meth, c, D, aC, b, n0, z0, N, Z, Q⟩ := X
  obtain ⟨hx, hb, hr, hml, hown, hts, hlk, hnm, hK, hR⟩ := ok
  have kk1 := kk.1
  simp only [List.length_set] at kk1
  refine ⟨kk1, fun H locs ls g1 g2 hP hS hl => ?_⟩
  obtain ⟨C, T, N', ty0, hc, hk, hin, hty, hnmd, rfl, hw⟩ := g
  have he := wsO_get (b := b) (aC := aC) h1
  have hl' : k < (fs.map (trV b)).length := by simpa using hk'
  have es : (wsO b aC σ.1).set a (b + a, .inr (ci, (fs.map (trV b)).set k (trV b v))) = wsO b aC (σ.1.set a (.inr (ci, fs.set k v))) := by
    rw [← wsO_set]
    simp [trE, List.map_set]
  have hd : parseFieldDescriptor (T k).2.2.1 = some (ty0 k) := hty k hk
  have fin : ∀ (H1 : Heap) (locs1 : List Loc), va_P D vwCl ((wsO b aC σ.1).set a (b + a, .inr (ci, (fs.map (trV b)).set k (trV b v)))) H1 → va_D (fun q => b ≤ q) ((wsO b aC σ.1).set a (b + a, .inr (ci, (fs.map (trV b)).set k (trV b v)))) → va_S (fun q => b ≤ q) s.heap H1 locs1 →
      W p l e R s m args below meth c H1 locs1 (σ.1.length - n0) (σ.2 - z0) Q (F0 m (pc + 3) ls (S.map (trV b))) := by
    intro H1 locs1 hP1 hD1 hS1
    rw [es] at hP1
    have := kk.2 H1 locs1 ls (by simpa using g1) g2 hP1 hS1 hl
    simpa using this
  rcases hw with ⟨hw, hf | ⟨hf, hi, hdc⟩⟩ | ⟨hf, host, hw⟩
  · exact va_put hx hb hts hin ty0 hty hnmd hown hK.1 hP wsO_D hS a he hc k hk (hts _ hw) (fun _ h9 => h9) hf hd (hn b).1 (hn b).2 hl' d fin
  · exact va_putF hx hb hts hin ty0 hty hnmd hown hK.1 hP wsO_D hS a he hc k hk (hts _ hw) (fun _ h9 => h9) hf (hnm.trans hi) hdc hd (hn b).1 (hn b).2 hl' d fin
  · exact va_putN hx hb hts hin ty0 hty hnmd hown hK.1 hP wsO_D hS a he hc k hk (va_Nw.use rfl (hK.2 _ hw)) (fun _ h9 => h9) hf hd (hn b).1 (hn b).2 hl' d fin
theorem at_putI {x : Int32} {f : Unit → Cm β} (ok : Ok X M) (g : PF M.1.cls M.1.name idx ci k .int) (d : decode M.2.1 pc = .ok (.putfield idx, 3)) (h : Hr (bn (oPutI r ci k x) f) σ QQ) (kk : ∀ σ, Hr (f ()) σ QQ → AT X M (pc + 3) L S σ) : AT X M pc L (.int x :: va_rf r :: S) σ := at_putV ok g (fun b => ⟨rfl, rfl⟩) d h kk
theorem at_putL {x : Int64} {f : Unit → Cm β} (ok : Ok X M) (g : PF M.1.cls M.1.name idx ci k .long) (d : decode M.2.1 pc = .ok (.putfield idx, 3)) (h : Hr (bn (oPutL r ci k x) f) σ QQ) (kk : ∀ σ, Hr (f ()) σ QQ → AT X M (pc + 3) L S σ) : AT X M pc L (.long x :: va_rf r :: S) σ := at_putV ok g (fun b => ⟨rfl, rfl⟩) d h kk
theorem at_putR {x : Option Nat} {ty : FieldType} {f : Unit → Cm β} (ok : Ok X M) (g : PF M.1.cls M.1.name idx ci k ty) (ht : (∃ n, ty = .object n) ∨ ∃ t, ty = .array t) (d : decode M.2.1 pc = .ok (.putfield idx, 3)) (h : Hr (bn (oPutR r ci k x) f) σ QQ) (kk : ∀ σ, Hr (f ()) σ QQ → AT X M (pc + 3) L S σ) : AT X M pc L (va_rf x :: va_rf r :: S) σ := by
  refine at_putV ok g (fun b => ?_) d h kk
  rcases ht with ⟨n, rfl⟩ | ⟨t, rfl⟩ <;> cases x <;> exact ⟨rfl, rfl⟩
theorem at_iald {i : Int32} {f : Int32 → Cm β} (ok : Ok X M) (d : decode M.2.1 pc = .ok (.iaload, 1)) (h0 : Hr (bn (oLd 0 r i) f) σ QQ) (kk : ∀ v, Hr (f v) σ QQ → AT X M (pc + 1) L (.int v :: S) σ) : AT X M pc L (.int i :: va_rf r :: S) σ := by
  obtain ⟨v, σ', e, h⟩ := hr_bn.mp h0
  obtain ⟨rfl, a, n, g, rfl, h1, h2, rfl⟩ := ld_inv e
  have kk := kk _ h
  obtain ⟨p, l, e, R, s, m, args, below, meth, c, D, aC, b, n0, z0, N, Z, Q⟩ := X
  obtain ⟨hx, hb, hr, hml, hown, hts, hlk, hnm, hK, hR⟩ := ok
  refine ⟨kk.1, fun H locs ls g1 g2 hP hS hl => ?_⟩
  exact va_iald hx hb hK.1 hP a 0 (wsO_get (b := b) (aC := aC) h1) rfl h2 d (kk.2 H locs ls g1 g2 hP hS hl)
theorem at_zald {i : Int32} {f : Int32 → Cm β} (ok : Ok X M) (d : decode M.2.1 pc = .ok (.baload, 1)) (h0 : Hr (bn (oLd 1 r i) f) σ QQ) (kk : ∀ v, Hr (f v) σ QQ → AT X M (pc + 1) L (.int v :: S) σ) : AT X M pc L (.int i :: va_rf r :: S) σ := by
  obtain ⟨v, σ', e, h⟩ := hr_bn.mp h0
  obtain ⟨rfl, a, n, g, rfl, h1, h2, rfl⟩ := ld_inv e
  have kk := kk _ h
  obtain ⟨p, l, e, R, s, m, args, below, meth, c, D, aC, b, n0, z0, N, Z, Q⟩ := X
  obtain ⟨hx, hb, hr, hml, hown, hts, hlk, hnm, hK, hR⟩ := ok
  refine ⟨kk.1, fun H locs ls g1 g2 hP hS hl => ?_⟩
  exact va_zald hx hb hK.1 hP a 1 (wsO_get (b := b) (aC := aC) h1) rfl h2 d (kk.2 H locs ls g1 g2 hP hS hl)
theorem at_aald {i : Int32} {f : Option Nat → Cm β} (ht : ∃ C, aty t = .object C) (ht7 : t < 7) (ok : Ok X M) (d : decode M.2.1 pc = .ok (.aaload, 1)) (h0 : Hr (bn (oLdR t r i) f) σ QQ) (kk : ∀ v, Hr (f v) σ QQ → AT X M (pc + 1) L (va_rf v :: S) σ) : AT X M pc L (.int i :: va_rf r :: S) σ := by
  obtain ⟨v, σ', e, h⟩ := hr_bn.mp h0
  obtain ⟨rfl, a, n, g, rfl, h1, h2, rfl⟩ := ldR_inv e
  have kk := kk _ h
  obtain ⟨p, l, e, R, s, m, args, below, meth, c, D, aC, b, n0, z0, N, Z, Q⟩ := X
  obtain ⟨hx, hb, hr, hml, hown, hts, hlk, hnm, hK, hR⟩ := ok
  refine ⟨kk.1, fun H locs ls g1 g2 hP hS hl => ?_⟩
  obtain ⟨C, hC⟩ := ht
  have k2 := kk.2 H locs ls g1 g2 hP hS hl
  rw [List.map_cons, trV_rf] at k2
  exact va_aldq hx hb hK.1 hP a t (wsO_get (b := b) (aC := aC) h1) ((tysO_at ht7).trans (by rw [hC])) h2 d k2
theorem at_alen {f : Int32 → Cm β} (ht7 : t < 7) (ok : Ok X M) (d : decode M.2.1 pc = .ok (.arraylength, 1)) (h0 : Hr (bn (oLen t r) f) σ QQ) (kk : ∀ v, Hr (f v) σ QQ → AT X M (pc + 1) L (.int v :: S) σ) : AT X M pc L (va_rf r :: S) σ := by
  obtain ⟨v, σ', e, h⟩ := hr_bn.mp h0
  obtain ⟨rfl, a, x, rfl, h1, rfl⟩ := len_inv e
  have kk := kk _ h
  obtain ⟨p, l, e, R, s, m, args, below, meth, c, D, aC, b, n0, z0, N, Z, Q⟩ := X
  obtain ⟨hx, hb, hr, hml, hown, hts, hlk, hnm, hK, hR⟩ := ok
  refine ⟨kk.1, fun H locs ls g1 g2 hP hS hl => ?_⟩
  exact va_alen hx hb hK.1 hP a t (wsO_get (b := b) (aC := aC) h1) (tysO_at ht7) rfl d (kk.2 H locs ls g1 g2 hP hS hl)
theorem at_iast {i x : Int32} {f : Unit → Cm β} (ok : Ok X M) (d : decode M.2.1 pc = .ok (.iastore, 1)) (h0 : Hr (bn (oSt 0 r i x) f) σ QQ) (kk : ∀ σ, Hr (f ()) σ QQ → AT X M (pc + 1) L S σ) : AT X M pc L (.int x :: .int i :: va_rf r :: S) σ := by
  obtain ⟨v, σ', e, h⟩ := hr_bn.mp h0
  obtain ⟨a, n, g, rfl, h1, h2, rfl⟩ := st_inv e
  have kk := kk _ h
  obtain ⟨p, l, e, R, s, m, args, below, meth, c, D, aC, b, n0, z0, N, Z, Q⟩ := X
  obtain ⟨hx, hb, hr, hml, hown, hts, hlk, hnm, hK, hR⟩ := ok
  have kk1 := kk.1
  simp only [List.length_set] at kk1
  refine ⟨kk1, fun H locs ls g1 g2 hP hS hl => ?_⟩
  refine va_iast hx hb hK.1 hP wsO_D hS a 0 (wsO_get (b := b) (aC := aC) h1) rfl h2 d fun H1 locs1 hP1 hD1 hS1 => ?_
  have es : (wsO b aC σ.1).set a (b + a, .inl (aC 0, n, .inl (upd g i.toNatClampNeg x))) = wsO b aC (σ.1.set a (.inl (0, n, .inl (upd g i.toNatClampNeg x)))) := by
    rw [← wsO_set]; rfl
  rw [es] at hP1
  have := kk.2 H1 locs1 ls (by simpa using g1) g2 hP1 hS1 hl
  simpa using this
theorem at_zast {i x : Int32} {f : Unit → Cm β} (ok : Ok X M) (d : decode M.2.1 pc = .ok (.bastore, 1)) (h0 : Hr (bn (oStZ r i x) f) σ QQ) (kk : ∀ σ, Hr (f ()) σ QQ → AT X M (pc + 1) L S σ) : AT X M pc L (.int x :: .int i :: va_rf r :: S) σ := by
  obtain ⟨v, σ', e, h⟩ := hr_bn.mp h0
  have hx01 : x = 0 ∨ x = 1 := by
    unfold oStZ at e
    split at e
    · assumption
    · cases e
  have e : oSt 1 r i x σ = some (v, σ') := by
    unfold oStZ at e
    rwa [if_pos hx01] at e
  obtain ⟨a, n, g, rfl, h1, h2, rfl⟩ := st_inv e
  have hnar : vp_nar .boolean x = x := by rcases hx01 with rfl | rfl <;> rfl
  have kk := kk _ h
  obtain ⟨p, l, e, R, s, m, args, below, meth, c, D, aC, b, n0, z0, N, Z, Q⟩ := X
  obtain ⟨hx, hb, hr, hml, hown, hts, hlk, hnm, hK, hR⟩ := ok
  have kk1 := kk.1
  simp only [List.length_set] at kk1
  refine ⟨kk1, fun H locs ls g1 g2 hP hS hl => ?_⟩
  refine va_zast hx hb hK.1 hP wsO_D hS a 1 (wsO_get (b := b) (aC := aC) h1) rfl h2 d fun H1 locs1 hP1 hD1 hS1 => ?_
  rw [hnar] at hP1
  have es : (wsO b aC σ.1).set a (b + a, .inl (aC 1, n, .inl (upd g i.toNatClampNeg x))) = wsO b aC (σ.1.set a (.inl (1, n, .inl (upd g i.toNatClampNeg x)))) := by
    rw [← wsO_set]; rfl
  rw [es] at hP1
  have := kk.2 H1 locs1 ls (by simpa using g1) g2 hP1 hS1 hl
  simpa using this
theorem tr_up (b : Nat) (g : Nat → Option Nat) (k : Nat) (v : Option Nat) : (fun j => trR b (va_up g k v j)) = va_up (fun j => trR b (g j)) k (trR b v) := by
  funext j
  unfold va_up
  by_cases h : j = k <;> simp [h]
theorem at_aast {cc' : Nat} {i : Int32} {x : Option Nat} {C : String} {T : u_T} {N' : Nat} {f : Unit → Cm β} (hcl : vwCl[cc']? = some (C, T, N')) (ht : aty t = .object C) (ht7 : t < 7) (ok : Ok X M) (d : decode M.2.1 pc = .ok (.aastore, 1)) (h0 : Hr (bn (oStR t cc' r i x) f) σ QQ) (kk : ∀ σ, Hr (f ()) σ QQ → AT X M (pc + 1) L S σ) : AT X M pc L (va_rf x :: .int i :: va_rf r :: S) σ := by
  obtain ⟨v, σ', e, h⟩ := hr_bn.mp h0
  obtain ⟨a, n, g, rfl, h1, h2, h3, rfl⟩ := stR_inv e
  have kk := kk _ h
  obtain ⟨p, l, e, R, s, m, args, below, meth, c, D, aC, b, n0, z0, N, Z, Q⟩ := X
  obtain ⟨hx, hb, hr, hml, hown, hts, hlk, hnm, hK, hR⟩ := ok
  have kk1 := kk.1
  simp only [List.length_set] at kk1
  refine ⟨kk1, fun H locs ls g1 g2 hP hS hl => ?_⟩
  have es : (wsO b aC σ.1).set a (b + a, .inl (aC t, n, .inr (.inr (.inr (.inr (va_up (fun j => trR b (g j)) i.toNatClampNeg (trR b x))))))) = wsO b aC (σ.1.set a (.inl (t, n, .inr (.inr (.inr (.inr (va_up g i.toNatClampNeg x))))))) := by
    rw [← wsO_set]
    simp only [trE, trC]
    rw [tr_up]
  have fin : ∀ (H1 : Heap) (locs1 : List Loc), va_P D vwCl ((wsO b aC σ.1).set a (b + a, .inl (aC t, n, .inr (.inr (.inr (.inr (va_up (fun j => trR b (g j)) i.toNatClampNeg (trR b x)))))))) H1 → va_D (fun q => b ≤ q) ((wsO b aC σ.1).set a (b + a, .inl (aC t, n, .inr (.inr (.inr (.inr (va_up (fun j => trR b (g j)) i.toNatClampNeg (trR b x)))))))) → va_S (fun q => b ≤ q) s.heap H1 locs1 →
      W p l e R s m args below meth c H1 locs1 (σ.1.length - n0) (σ.2 - z0) Q (F0 m (pc + 1) ls (S.map (trV b))) := by
    intro H1 locs1 hP1 hD1 hS1
    rw [es] at hP1
    have := kk.2 H1 locs1 ls (by simpa using g1) g2 hP1 hS1 hl
    simpa using this
  rcases h3 with rfl | ⟨q, fs, rfl, h4⟩
  · exact va_astqN (C := C) hx hb hK.1 hP wsO_D hS a t (wsO_get (b := b) (aC := aC) h1) ((tysO_at ht7).trans (by rw [ht])) h2 d fin
  · exact va_astq (r := (C, T, N')) hx hb hK.1 hP wsO_D hS a t q cc' (wsO_get (b := b) (aC := aC) h1) ((tysO_at ht7).trans (by rw [ht])) (wsO_get (b := b) (aC := aC) h4) hcl h2 d fin
end ROWS
