/-! ===== the law's entry, out of the command ===== -/
theorem arr_prim {s : State} {ty : FieldType} {A : Array Value} (h : (Cond.arrayClass ty).before A s = true) (hp : ∀ C, ty ≠ .object C) : ∃ cA, ArrOfT s cA ty ∧ va_RA s cA ty := by
  obtain ⟨c, k, comp, h1, h2, h3⟩ := Cond.arrayClass_spec h
  refine ⟨c, fun n z => ⟨fun k h => (by cases h), k, h2, comp, h3⟩, ?_⟩
  cases ty with
  | object C => exact absurd rfl (hp C)
  | _ => exact h1
theorem arr_ref {s : State} {C : String} {A : Array Value} (h : (Cond.arrayOver (.object C)).before A s = true) : ∃ cA, ArrOfT s cA (.object C) ∧ va_RA s cA (.object C) := by
  obtain ⟨comp, c, k, h1, h2, h3, h4, h5⟩ := Cond.arrayOver_spec h
  exact ⟨c, fun n z => ⟨fun k h => (by cases h), k, h3, comp, h4⟩, k, comp, h3, h4, h1, h5⟩
set_option maxHeartbeats 4000000 in
set_option maxRecDepth 100000 in
theorem law_start (cmd : ∀ (n : Nat) (xs : Nat → Int32), n ≤ 3584 → Hr (fL_law n xs) ([], 0) LQ) {p : Program} {e : Env} {s : State} {m : MethodId} {below : List Frame} {meth : Method} {c : Code} (l : Launch) {b L : Nat} {xs : Nat → Int32} (hL : L ≤ 3584) (C0 : lw_At p s m meth c b L xs) : W p l e room_1 s m #[Value.ref b] below meth c s.heap [] 0 0 (lw_Z below #[Value.ref b] s) (entryFrame m ([Value.ref b] : List Value).toArray 4) := by
  obtain ⟨hx, hb, hr, hml, hown, hts, hX, hbl, hlocks, hgv, hnm⟩ := id C0
  have hgw : ∀ w ∈ gw, w.before #[Value.ref b] s = true := fun w hw => hts w (List.mem_filter.mp hw).1
  obtain ⟨c0, iS0, hKn0⟩ := u_known (C := RX0) (T := TX0) (N := 5) (n := 5) hgw inX0 (hts (.instantiable RX0 5) (by decide +kernel))
  obtain ⟨c1, iS1, hKn1⟩ := u_known (C := RX1) (T := TX1) (N := 6) (n := 6) hgw inX1 (hts (.instantiable RX1 6) (by decide +kernel))
  obtain ⟨c2, iS2, hKn2⟩ := u_known (C := RX2) (T := TX2) (N := 13) (n := 13) hgw inX2 (hts (.instantiable RX2 13) (by decide +kernel))
  obtain ⟨c3, iS3, hKn3⟩ := u_known (C := RX3) (T := TX3) (N := 3) (n := 3) hgw inX3 (hts (.instantiable RX3 3) (by decide +kernel))
  obtain ⟨c4, iS4, hKn4⟩ := u_known (C := RX4) (T := TX4) (N := 4) (n := 4) hgw inX4 (hts (.instantiable RX4 4) (by decide +kernel))
  obtain ⟨c5, iS5, hKn5⟩ := u_known (C := RX5) (T := TX5) (N := 2) (n := 2) hgw inX5 (hts (.instantiable RX5 2) (by decide +kernel))
  obtain ⟨c6, iS6, hKn6⟩ := u_known (C := RX6) (T := TX6) (N := 8) (n := 8) hgw inX6 (hts (.instantiable RX6 8) (by decide +kernel))
  obtain ⟨c7, iS7, hKn7⟩ := u_known (C := RX7) (T := TX7) (N := 13) (n := 13) hgw inX7 (hts (.instantiable RX7 13) (by decide +kernel))
  obtain ⟨c8, iS8, hKn8⟩ := u_known (C := RX8) (T := TX8) (N := 47) (n := 47) hgw inX8 (hts (.instantiable RX8 47) (by decide +kernel))
  obtain ⟨a0, ha0⟩ := arr_prim (ty := .int) (hts (.arrayClass .int) (by decide +kernel)) (by intro C h; cases h)
  obtain ⟨a1, ha1⟩ := arr_prim (ty := .boolean) (hts (.arrayClass .boolean) (by decide +kernel)) (by intro C h; cases h)
  obtain ⟨a2, ha2⟩ := arr_ref (C := RX6) (hts (.arrayOver (.object RX6)) (by decide +kernel))
  obtain ⟨a3, ha3⟩ := arr_ref (C := RX1) (hts (.arrayOver (.object RX1)) (by decide +kernel))
  obtain ⟨a4, ha4⟩ := arr_ref (C := RX2) (hts (.arrayOver (.object RX2)) (by decide +kernel))
  obtain ⟨a5, ha5⟩ := arr_ref (C := RX4) (hts (.arrayOver (.object RX4)) (by decide +kernel))
  obtain ⟨a6, ha6⟩ := arr_ref (C := RX0) (hts (.arrayOver (.object RX0)) (by decide +kernel))
  have hK : KW (fun k => if k = 0 then c0 else if k = 1 then c1 else if k = 2 then c2 else if k = 3 then c3 else if k = 4 then c4 else if k = 5 then c5 else if k = 6 then c6 else if k = 7 then c7 else c8, fun k => if k = 0 then iS0 else if k = 1 then iS1 else if k = 2 then iS2 else if k = 3 then iS3 else if k = 4 then iS4 else if k = 5 then iS5 else if k = 6 then iS6 else if k = 7 then iS7 else iS8) (fun k => if k = 0 then a0 else if k = 1 then a1 else if k = 2 then a2 else if k = 3 then a3 else if k = 4 then a4 else if k = 5 then a5 else a6) s := by
    refine ⟨⟨?_, ?_⟩, ?_⟩
    · intro k q hq
      match k, hq with
      | 0, hq => cases hq; exact hKn0
      | 1, hq => cases hq; exact hKn1
      | 2, hq => cases hq; exact hKn2
      | 3, hq => cases hq; exact hKn3
      | 4, hq => cases hq; exact hKn4
      | 5, hq => cases hq; exact hKn5
      | 6, hq => cases hq; exact hKn6
      | 7, hq => cases hq; exact hKn7
      | 8, hq => cases hq; exact hKn8
      | k + 9, hq => simp [vwCl] at hq
    · intro k q hq
      match k, hq with
      | 0, hq => cases hq; exact ha0
      | 1, hq => cases hq; exact ha1
      | 2, hq => cases hq; exact ha2
      | 3, hq => cases hq; exact ha3
      | 4, hq => cases hq; exact ha4
      | 5, hq => cases hq; exact ha5
      | 6, hq => cases hq; exact ha6
      | k + 7, hq => simp [tysO] at hq
    · intro w hw
      obtain ⟨hw1, hw2⟩ := List.mem_filter.mp hw
      have hb1 := hts w hw1
      cases w with
      | fieldLinkNest a i c n d e => exact va_Nw.of rfl hb1
      | methodLinkNest a i x e => exact va_Nw.of rfl hb1
      | castable a c => exact va_Nw.of rfl hb1
      | arrayOver ty =>
        cases ty with
        | object C => exact hb1
        | _ => simp [isNw] at hw2
      | _ => simp [isNw] at hw2
  generalize hDe : ((fun k => if k = 0 then c0 else if k = 1 then c1 else if k = 2 then c2 else if k = 3 then c3 else if k = 4 then c4 else if k = 5 then c5 else if k = 6 then c6 else if k = 7 then c7 else c8, fun k => if k = 0 then iS0 else if k = 1 then iS1 else if k = 2 then iS2 else if k = 3 then iS3 else if k = 4 then iS4 else if k = 5 then iS5 else if k = 6 then iS6 else if k = 7 then iS7 else iS8) : va_G) = D at hK
  generalize hAe : (fun k => if k = 0 then a0 else if k = 1 then a1 else if k = 2 then a2 else if k = 3 then a3 else if k = 4 then a4 else if k = 5 then a5 else a6 : Nat → ClassId) = aC at hK
  have hat := sL_law (X := (p, l, e, room_1, s, m, #[Value.ref b], below, meth, c, D, aC, s.heap.size, 0, 0, 600000, 7302250, lw_Z below #[Value.ref b] s)) (b0 := b) (n := L) (xs := xs) (σ := ([], 0)) ⟨hx, hb, hr, hml, hown, hgw, hlocks, hnm, hK, by decide, by decide, by decide, by decide, rfl⟩ ⟨hX, hbl, rfl, rfl, rfl, rfl, rfl, rfl, rfl, rfl⟩ (cmd L xs hL)
  have hl := lv_entry ([.ref b]) (n := 4) (Nat.le_of_ble_eq_true rfl)
  rw [lg_entry_eq]
  generalize (lg_sl ([.ref b]) ++ List.replicate (4 - (lg_sl ([.ref b])).length) Slot.unset).toArray = ls at hl ⊢
  have hP : va_P D vwCl (wsO s.heap.size aC []) s.heap := fun k q h => by simp [wsO] at h
  refine hat.2 s.heap [] ls (Nat.le_refl _) (Nat.le_refl _) hP va_S.rf ⟨hl.1, hl.2.1, ?_⟩
  rintro ⟨i, w⟩ hw
  obtain ⟨v, h1, rfl⟩ := lvl_mem.mp hw
  match i, h1 with
  | 0, h1 => cases h1; exact hl.2.2 (0, .ref b) List.mem_cons_self
  | 1, h1 => cases h1
  | 2, h1 => cases h1
  | 3, h1 => cases h1
  | i + 4, h1 => simp at h1
