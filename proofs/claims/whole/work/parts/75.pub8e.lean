/-! ===== the reference's calls: answer, told, at, found, words, numbers, parts, state ===== -/
section PUBE
variable {X : MX} {V : Nat → Int32} {M : Nat → Nat → Int32} {σ : AH} {A : St}
theorem e8_isLetter {l : Int32} (h : MP X V M σ) (hR : MR A X V M) : f8_isLetter (some 31) l σ = some (bI (inL A l), σ) := by
  refine hr_det ?_
  unfold f8_isLetter inL
  refine (m_getI h (by decide) rfl).mpr ?_
  rw [hR.2.1]
  refine (b_eq (e8_in _ _ _ _)).mpr ?_
  refine (b_z (bI_01 _)).mpr ?_
  exact hr_rt.mpr ⟨rfl, rfl⟩
theorem inL_of {l : Int32} (hl : (aLet A).length ≤ 60) (h : inL A l = true) : ∃ j x, j < (aLet A).length ∧ l = nI j ∧ (aLet A)[j]? = some x ∧ tn l = j ∧ lAt A (tn l) = x := by
  unfold inL at h
  rw [decide_eq_true_eq] at h
  obtain ⟨j, hj, rfl⟩ := (in_m1 (by omega)).mp h
  have e : tn (nI j) = j := nI_clamp (by omega)
  exact ⟨j, _, hj, rfl, List.getElem?_eq_getElem hj, e, by rw [e]; exact lAt_of (List.getElem?_eq_getElem hj)⟩
theorem fnds_set {ls : List Lt} {j : Nat} {x y : Lt} (hx : ls[j]? = some x) (h : lR y = lR x) : fnds (ls.set j y) = fnds ls ∧ ∀ i, fnds ((ls.set j y).take i) = fnds (ls.take i) := by
  have key : ∀ (ls : List Lt) (j : Nat), ls[j]? = some x → (ls.set j y).map (fun x => lR x) = ls.map (fun x => lR x) := by
    intro ls j hx
    apply List.ext_getElem?
    intro i
    rw [List.getElem?_map, List.getElem?_map]
    by_cases e : i = j
    · subst e
      rw [List.getElem?_set_self (List.getElem?_eq_some_iff.mp hx).1, hx]
      simp only [Option.map_some]
      rw [h]
    · rw [List.getElem?_set_ne (Ne.symm e)]
  have k := key ls j hx
  refine ⟨?_, fun i => ?_⟩
  · unfold fnds
    rw [List.flatMap_def, List.flatMap_def, k]
  · unfold fnds
    rw [List.flatMap_def, List.flatMap_def, List.map_take, List.map_take, k]
theorem d8_answer {l : Int32} {is : Bool} (h : MP X V M σ) (hR : MR A X V M) (hW : StW A) : Hr (f8_answer (some 31) l (bI is)) σ (MQm X (pAnswer A l is)) := by
  have h60 := hW.2.2.2.2.2.2.1
  unfold f8_answer pAnswer
  refine (m_obj h).mpr ?_
  refine (b_eq (e8_isLetter h hR)).mpr ?_
  refine b_ite (fun c => ?_) (fun c => ?_)
  · rw [bI_0] at c
    rw [if_neg (by rw [c]; simp)]
    exact mq_rt rfl h hR
  rw [bI_0, Bool.not_eq_false] at c
  obtain ⟨j, x, hj, rfl, hx, et, ex⟩ := inL_of h60 c
  rw [et] at ex
  rw [et, ex]
  obtain ⟨q1, q2, q3, q4, q5, q6, q7, q8, q9⟩ := id hR
  have hxx := q8 j x hx
  have hxw := hW.2.2.2.2.2.2.2.1 x (List.mem_of_getElem? hx)
  refine (m_getR h rfl).mpr ?_
  refine (m_ld (n := 60) h rfl rfl rfl rfl (by omega)).mpr ?_
  rw [hxx.2.2.1, show (1 : Int32) = nI 1 from rfl]
  refine b_ite (fun c2 => ?_) (fun c2 => ?_)
  · rw [nI_eq (by have := hxw.2.2.2.2.2.2.1; omega) (by omega)] at c2
    rw [if_pos ⟨c, c2⟩]
    have fin : ∀ (v : Int32) (σ2 : AH), v = nI (if is = true then 0 else 2) → MP X V (upm M 36 j v) σ2 → Hr (rt (nI 1)) σ2 (MQm X (1, setL A j (ansL x is))) := by
      intro v σ2 hv h2
      refine mq_rt rfl h2 ⟨q1, ?_, q3, q4, q5, ⟨q6.1, q6.2.1, q6.2.2.1, ?_⟩, q7, ?_, ?_⟩
      · rw [q2]
        show _ = nI ((aLet A).set j (ansL x is)).length
        rw [List.length_set]
      · intro i y hy
        have hy : ((aLet A).set j (ansL x is))[i]? = some y := hy
        by_cases e : i = j
        · subst e
          rw [List.getElem?_set_self hj] at hy
          cases hy
          exact q6.2.2.2 i x hx
        · rw [List.getElem?_set_ne (Ne.symm e)] at hy
          exact q6.2.2.2 i y hy
      · intro i y hy
        have hy : ((aLet A).set j (ansL x is))[i]? = some y := hy
        show M 34 i = _ ∧ M 35 i = _ ∧ upd (M 36) j v i = _ ∧ M 37 i = nI (fnds (((aLet A).set j (ansL x is)).take i)).length ∧ M 38 i = _
        rw [(fnds_set (y := ansL x is) hx rfl).2 i]
        by_cases e : i = j
        · subst e
          rw [List.getElem?_set_self hj] at hy
          cases hy
          refine ⟨hxx.1, hxx.2.1, ?_, hxx.2.2.2.1, hxx.2.2.2.2⟩
          simp only [upd, if_true]
          exact hv
        · rw [List.getElem?_set_ne (Ne.symm e)] at hy
          simp only [upd, if_neg e]
          exact q8 i y hy
      · show FI X V M (fnds ((aLet A).set j (ansL x is)))
        rw [(fnds_set (y := ansL x is) hx rfl).1]
        exact q9
    refine (m_getR h rfl).mpr ?_
    cases is with
    | false =>
      rw [if_pos (show bI false = 0 from rfl)]
      refine m_st (n := 60) h rfl rfl rfl rfl (by omega) fun σ2 h2 => ?_
      exact fin 2 σ2 rfl h2
    | true =>
      rw [if_neg (show ¬ bI true = 0 by decide)]
      refine m_st (n := 60) h rfl rfl rfl rfl (by omega) fun σ2 h2 => ?_
      exact fin 0 σ2 rfl h2
  · rw [nI_eq (by have := hxw.2.2.2.2.2.2.1; omega) (by omega)] at c2
    rw [if_neg (fun q => c2 q.2)]
    exact mq_rt rfl h hR
theorem d8_told {l w : Int32} (h : MP X V M σ) (hR : MR A X V M) (hW : StW A) : Hr (f8_told (some 31) l w) σ (MQm X (pTold A l w, A)) := by
  have h60 := hW.2.2.2.2.2.2.1
  unfold f8_told pTold
  refine (m_obj h).mpr ?_
  refine (b_eq (e8_isLetter h hR)).mpr ?_
  refine b_ite (fun c => ?_) (fun c => ?_)
  · rw [bI_0] at c
    rw [if_neg (by rw [c]; simp)]
    exact mq_rt rfl h hR
  rw [bI_0, Bool.not_eq_false] at c
  obtain ⟨j, x, hj, rfl, hx, et, ex⟩ := inL_of h60 c
  rw [if_pos c, ex]
  have h1 := hR.2.2.2.2.2.1.2.2.2 j x hx
  have h2 := hR.2.2.2.2.2.2.2.1 j x hx
  unfold toldL
  have go : ∀ (f : Nat) (v : Int32), isA f = true → tgA f = 0 → lnA (xC X) f = 60 → M f j = v → Hr (bn (oGetR (some 31) 8 f) fun v61 => bn (oLd 0 v61 (nI j)) fun v65 => rt v65) σ (MQm X (v, A)) := by
    intro f v a1 a2 a3 a4
    refine (m_getR h a1).mpr ?_
    refine (m_ld h a1 a2 a3 rfl (by omega)).mpr ?_
    rw [a4]
    exact mq_rt rfl h hR
  by_cases e0 : w = 0
  · rw [if_pos e0, if_pos e0]; exact go 30 _ rfl rfl rfl h1.2.2.1
  rw [if_neg e0, if_neg e0]
  by_cases e1 : w = 1
  · rw [if_pos e1, if_pos e1]; exact go 31 _ rfl rfl rfl h1.2.2.2.1
  rw [if_neg e1, if_neg e1]
  by_cases e2 : w = 2
  · rw [if_pos e2, if_pos e2]; exact go 32 _ rfl rfl rfl h1.2.2.2.2.1
  rw [if_neg e2, if_neg e2]
  by_cases e3 : w = 3
  · rw [if_pos e3, if_pos e3]; exact go 33 _ rfl rfl rfl h1.2.2.2.2.2
  rw [if_neg e3, if_neg e3]
  by_cases e4 : w = 4
  · rw [if_pos e4, if_pos e4]; exact go 34 _ rfl rfl rfl h2.1
  rw [if_neg e4, if_neg e4]
  by_cases e5 : w = 5
  · rw [if_pos e5, if_pos e5]; exact go 35 _ rfl rfl rfl h2.2.1
  rw [if_neg e5, if_neg e5]
  by_cases e6 : w = 6
  · rw [if_pos e6, if_pos e6]; exact go 36 _ rfl rfl rfl h2.2.2.1
  rw [if_neg e6, if_neg e6]
  by_cases e7 : w = 7
  · rw [if_pos e7, if_pos e7]; exact go 29 _ rfl rfl rfl h1.1
  rw [if_neg e7, if_neg e7]
  by_cases e8 : w = 8
  · rw [if_pos e8, if_pos e8]; exact go 38 _ rfl rfl rfl h2.2.2.2.2
  rw [if_neg e8, if_neg e8]
  exact mq_rt rfl h hR
/-- where a letter's found begin, and that they are there -/
theorem fnds_at {ls : List Lt} {j : Nat} {x : Lt} (hx : ls[j]? = some x) (k : Nat) (hk : k < (lR x).length) : (fnds ls)[(fnds (ls.take j)).length + k]? = (lR x)[k]? := by
  obtain ⟨hj, e⟩ := List.getElem?_eq_some_iff.mp hx
  have : ls = ls.take j ++ (x :: ls.drop (j + 1)) := by
    rw [← e, ← List.drop_eq_getElem_cons hj, List.take_append_drop]
  have h2 : fnds ls = fnds (ls.take j) ++ (lR x ++ fnds (ls.drop (j + 1))) := by
    conv => lhs; rw [this]
    rw [fnds_app]
    congr 1
  rw [h2, List.getElem?_append_right (by omega), Nat.add_sub_cancel_left, List.getElem?_append_left hk]
theorem fnds_le {ls : List Lt} {j : Nat} {x : Lt} (hx : ls[j]? = some x) : (fnds (ls.take j)).length + (lR x).length ≤ (fnds ls).length := by
  obtain ⟨hj, e⟩ := List.getElem?_eq_some_iff.mp hx
  have : ls = ls.take j ++ (x :: ls.drop (j + 1)) := by
    rw [← e, ← List.drop_eq_getElem_cons hj, List.take_append_drop]
  have h2 : fnds ls = fnds (ls.take j) ++ (lR x ++ fnds (ls.drop (j + 1))) := by
    conv => lhs; rw [this]
    rw [fnds_app]
    congr 1
  rw [h2, List.length_append, List.length_append]
  omega
theorem d8_at {l i : Int32} {lv : Bool} (h : MP X V M σ) (hR : MR A X V M) (hW : StW A) : Hr (f8_at (some 31) l i (bI lv)) σ (MQm X (pAt A l i lv, A)) := by
  have h60 := hW.2.2.2.2.2.2.1
  unfold f8_at pAt
  refine (m_obj h).mpr ?_
  refine (b_eq (e8_isLetter h hR)).mpr ?_
  refine b_ite (fun c => ?_) (fun c => ?_)
  · rw [bI_0] at c
    rw [if_neg (by rw [c]; simp)]
    exact mq_rt rfl h hR
  rw [bI_0, Bool.not_eq_false] at c
  obtain ⟨j, x, hj, rfl, hx, et, ex⟩ := inL_of h60 c
  have h1 := hR.2.2.2.2.2.1.2.2.2 j x hx
  have h2 := hR.2.2.2.2.2.2.2.1 j x hx
  have hF := hR.2.2.2.2.2.2.2.2
  have hC := h.2.2.2.2.2.2.2.2.1
  have hxw := hW.2.2.2.2.2.2.2.1 x (List.mem_of_getElem? hx)
  have hbl := hxw.2.2.2.2.1
  have hfl := fnds_le hx
  rw [ex]
  refine (m_getR h rfl).mpr ?_
  refine (m_ld (n := 60) h rfl rfl rfl rfl (by omega)).mpr ?_
  rw [h1.1]
  refine (b_eq (e8_in _ _ _ _)).mpr ?_
  refine b_ite (fun c2 => ?_) (fun c2 => ?_)
  · rw [bI_0, decide_eq_false_iff_not] at c2
    rw [if_neg (fun q => c2 q.2)]
    exact mq_rt rfl h hR
  rw [bI_0, Bool.not_eq_false, decide_eq_true_eq] at c2
  rw [if_pos ⟨c, c2⟩]
  obtain ⟨k, hk, rfl⟩ := (in_m1 (by omega)).mp c2
  rw [show tn (nI k) = k from nI_clamp (by omega)]
  obtain ⟨ch, hch⟩ : ∃ ch, (lB x)[k]? = some ch := ⟨_, List.getElem?_eq_getElem hk⟩
  refine (m_getR h rfl).mpr ?_
  refine (m_ld (n := 60) h rfl rfl rfl rfl (by omega)).mpr ?_
  rw [h2.2.2.2.1]
  refine b_hr (P := fun y σ' => σ' = σ ∧ y = bI (lv && (decide (lAct x = 2) && isBlk (lR x) k))) ?_ ?_
  · refine hr_loop (fun z σ1 => σ1 = σ ∧ ∃ m, m ≤ (lR x).length ∧ z = (bI (lv && (decide (lAct x = 2) && isBlk ((lR x).take m) k)), nI ((fnds ((aLet A).take j)).length + m))) (fun z => (fnds ((aLet A).take j)).length + (lR x).length - z.2.toNatClampNeg) ⟨rfl, 0, Nat.zero_le _, by simp [isBlk, bI]⟩ ?_ ?_
    · show (fnds ((aLet A).take j)).length + (lR x).length - (nI (fnds ((aLet A).take j)).length).toNatClampNeg < _
      rw [nI_clamp (by have := hF.2.1; omega)]
      have := hxw.2.2.2.2.2.2.2
      omega
    rintro rec z σ1 ⟨rfl, m, hm, rfl⟩ ih
    unfold l8_at_37
    dsimp only
    cases lv with
    | false =>
      rw [if_pos (show bI false = 0 from rfl)]
      exact hr_rt.mpr ⟨rfl, rfl⟩
    | true =>
      rw [if_neg (show ¬ bI true = 0 by decide)]
      refine (m_getR h rfl).mpr ?_
      refine (m_ld (n := 60) h rfl rfl rfl rfl (by omega)).mpr ?_
      rw [h2.1, show (2 : Int32) = nI 2 from rfl]
      refine b_ite (fun c3 => ?_) (fun c3 => ?_)
      · rw [nI_eq (by have := hxw.2.2.2.2.2.1; omega) (by omega)] at c3
        simp only [c3, decide_true, Bool.true_and] at ih ⊢
        refine (m_getR h rfl).mpr ?_
        refine (m_ld (n := 60) h rfl rfl rfl rfl (by omega)).mpr ?_
        refine (m_getR h rfl).mpr ?_
        refine (m_ld (n := 60) h rfl rfl rfl rfl (by omega)).mpr ?_
        rw [h2.2.2.2.1, h2.2.2.2.2, nI_add]
        have hF2 := hF.2.1
        refine b_ite (fun c4 => ?_) (fun c4 => ?_)
        · rw [nI_leI (by omega) (by omega)] at c4
          have : m = (lR x).length := by omega
          subst this
          rw [List.take_length]
          exact hr_rt.mpr ⟨rfl, rfl⟩
        · rw [nI_leI (by omega) (by omega)] at c4
          obtain ⟨y, hy⟩ : ∃ y, (lR x)[m]? = some y := ⟨_, List.getElem?_eq_getElem (by omega)⟩
          have hyy := hF.2.2.2.2 ((fnds ((aLet A).take j)).length + m) y (by rw [fnds_at hx m (by omega)]; exact hy)
          rw [Nat.zero_add] at hyy
          have hstep : isBlk ((lR x).take (m + 1)) k = (isBlk ((lR x).take m) k || decide (y.1 ≤ nI k ∧ nI k ≤ y.2.1)) := by
            unfold isBlk
            rw [List.take_add_one, hy, List.any_append]
            simp
          have hmm : (fnds ((aLet A).take j)).length + (lR x).length - (nI ((fnds ((aLet A).take j)).length + (m + 1))).toNatClampNeg < (fnds ((aLet A).take j)).length + (lR x).length - (nI ((fnds ((aLet A).take j)).length + m)).toNatClampNeg := by
            rw [nI_clamp (by omega), nI_clamp (by omega)]; omega
          rw [nI_1, Nat.add_assoc]
          refine b_ite (fun c5 => ?_) (fun c5 => ?_)
          · rw [bI_0] at c5
            refine (m_getR h rfl).mpr ?_
            refine (m_ld (n := xC X) h rfl rfl rfl rfl (by omega)).mpr ?_
            rw [hyy.1]
            refine b_ite (fun c6 => ?_) (fun c6 => ?_)
            · refine ih _ _ ⟨rfl, m + 1, by omega, ?_⟩ hmm
              rw [hstep, c5, decide_eq_false (fun q => absurd c6 (nlt.mpr q.1))]
              rfl
            · refine (m_getR h rfl).mpr ?_
              refine (m_ld (n := xC X) h rfl rfl rfl rfl (by omega)).mpr ?_
              rw [hyy.2.1]
              refine b_ite (fun c7 => ?_) (fun c7 => ?_)
              · refine ih _ _ ⟨rfl, m + 1, by omega, ?_⟩ hmm
                rw [hstep, c5, decide_eq_false (fun q => absurd c7 (nlt.mpr q.2))]
                rfl
              · refine ih _ _ ⟨rfl, m + 1, by omega, ?_⟩ hmm
                rw [hstep, c5, decide_eq_true ⟨nlt.mp c6, nlt.mp c7⟩]
                rfl
          · rw [bI_0, Bool.not_eq_false] at c5
            refine ih _ _ ⟨rfl, m + 1, by omega, ?_⟩ hmm
            rw [hstep, c5]
            rfl
      · rw [nI_eq (by have := hxw.2.2.2.2.2.1; omega) (by omega)] at c3
        refine hr_rt.mpr ⟨rfl, ?_⟩
        simp only [c3, decide_false, Bool.false_and]
  · rintro y σ1 ⟨rfl, rfl⟩
    have hval : (if lv = true then lvg x else lB x).getD k 0 = if (lv && (decide (lAct x = 2) && isBlk (lR x) k)) = true then 42 else ch := by
      cases lv with
      | false => simp [List.getD_eq_getElem?_getD, hch]
      | true =>
        unfold lvg
        by_cases e : lAct x = 2
        · simp [e, blk, List.getD_eq_getElem?_getD, List.getElem?_mapIdx, hch]
        · simp [e, List.getD_eq_getElem?_getD, hch]
    rw [hval]
    refine b_ite (fun c3 => ?_) (fun c3 => ?_)
    · rw [bI_0] at c3
      rw [c3, if_neg (by decide)]
      refine (m_getR h rfl).mpr ?_
      refine (m_ld (n := 18000) h rfl rfl rfl (ix300 _ _) (by omega)).mpr ?_
      rw [h1.2.1 k ch hch]
      exact mq_rt rfl h hR
    · rw [bI_0, Bool.not_eq_false] at c3
      rw [c3, if_pos rfl]
      exact mq_rt rfl h hR
theorem d8_found {l i w : Int32} (h : MP X V M σ) (hR : MR A X V M) (hW : StW A) : Hr (f8_found_ (some 31) l i w) σ (MQm X (pFound A l i w, A)) := by
  have h60 := hW.2.2.2.2.2.2.1
  unfold f8_found_ pFound
  refine (m_obj h).mpr ?_
  refine (b_eq (e8_isLetter h hR)).mpr ?_
  refine b_ite (fun c => ?_) (fun c => ?_)
  · rw [bI_0] at c
    rw [if_neg (by rw [c]; simp)]
    exact mq_rt rfl h hR
  rw [bI_0, Bool.not_eq_false] at c
  obtain ⟨j, x, hj, rfl, hx, et, ex⟩ := inL_of h60 c
  have h2 := hR.2.2.2.2.2.2.2.1 j x hx
  have hF := hR.2.2.2.2.2.2.2.2
  have hC := h.2.2.2.2.2.2.2.2.1
  have hxw := hW.2.2.2.2.2.2.2.1 x (List.mem_of_getElem? hx)
  have hbl := hxw.2.2.2.2.1
  have hrl := hxw.2.2.2.2.2.2.2
  have hfl := fnds_le hx
  have hF2 := hF.2.1
  rw [ex]
  refine (m_getR h rfl).mpr ?_
  refine (m_ld (n := 60) h rfl rfl rfl rfl (by omega)).mpr ?_
  rw [h2.2.2.2.2]
  refine (b_eq (e8_in _ _ _ _)).mpr ?_
  refine b_ite (fun c2 => ?_) (fun c2 => ?_)
  · rw [bI_0, decide_eq_false_iff_not] at c2
    rw [if_neg (fun q => c2 q.2)]
    exact mq_rt rfl h hR
  rw [bI_0, Bool.not_eq_false, decide_eq_true_eq] at c2
  rw [if_pos ⟨c, c2⟩]
  obtain ⟨k, hk, rfl⟩ := (in_m1 (by omega)).mp c2
  rw [show tn (nI k) = k from nI_clamp (by omega)]
  obtain ⟨y, hy⟩ : ∃ y, (lR x)[k]? = some y := ⟨_, List.getElem?_eq_getElem hk⟩
  have hyy := hF.2.2.2.2 ((fnds ((aLet A).take j)).length + k) y (by rw [fnds_at hx k hk]; exact hy)
  rw [Nat.zero_add] at hyy
  rw [getD_of hy]
  refine (m_getR h rfl).mpr ?_
  refine (m_ld (n := 60) h rfl rfl rfl rfl (by omega)).mpr ?_
  rw [h2.2.2.2.1, nI_add]
  unfold fndL
  have go : ∀ (f : Nat) (v : Int32), isA f = true → tgA f = 0 → lnA (xC X) f = xC X → M f ((fnds ((aLet A).take j)).length + k) = v → Hr (bn (oGetR (some 31) 8 f) fun v61 => bn (oLd 0 v61 (nI ((fnds ((aLet A).take j)).length + k))) fun v65 => rt v65) σ (MQm X (v, A)) := by
    intro f v a1 a2 a3 a4
    refine (m_getR h a1).mpr ?_
    refine (m_ld h a1 a2 a3 rfl (by omega)).mpr ?_
    rw [a4]
    exact mq_rt rfl h hR
  by_cases e0 : w = 0
  · rw [if_pos e0, if_pos e0]; exact go 39 _ rfl rfl rfl hyy.1
  rw [if_neg e0, if_neg e0]
  by_cases e1 : w = 1
  · rw [if_pos e1, if_pos e1]; exact go 40 _ rfl rfl rfl hyy.2.1
  rw [if_neg e1, if_neg e1]
  by_cases e2 : w = 2
  · rw [if_pos e2, if_pos e2]; exact go 41 _ rfl rfl rfl hyy.2.2
  rw [if_neg e2, if_neg e2]
  exact mq_rt rfl h hR
theorem h8_readTape (h : MP X V M σ) (hR : MR A X V M) (hW : StW A) {β : Type} {g : Unit → Cm β} {Q : β → AH → Prop} (kk : ∀ σ' V' M', MP X V' M' σ' → MR A X V' M' → RD V' M' (aTape A) → Hr (g ()) σ' Q) :
    Hr (bn (oGetR (some 31) 8 3) fun v2 => bn (oGetI (some 31) 8 4) fun v7 => bn (oObj (some 31) 8) fun _ => bn (f8_read (some 31) v2 0 v7) g) σ Q := by
  have htl := hW.2.1
  refine (m_getR h rfl).mpr ?_
  refine (m_getI h (by decide) rfl).mpr ?_
  refine (m_obj h).mpr ?_
  refine b_hr (h8_read (xs := aTape A) (f0 := 3) (off := 0) (n0 := 300) h rfl rfl rfl rfl (fun k c hk => by rw [Nat.zero_add]; exact hR.2.2.2.2.1 k c hk) (by omega) (by omega) htl rfl hR.2.2.2.1) ?_
  rintro _ σ1 ⟨V1, M1, h1, hK1, hRD⟩
  exact kk σ1 V1 M1 h1 (hR.kQ (hK1.mono scr_Q)) hRD
theorem d8_words (h : MP X V M σ) (hR : MR A X V M) (hW : StW A) : Hr (f8_words (some 31)) σ (MQm X (pWords A, A)) := by
  unfold f8_words pWords
  refine h8_readTape h hR hW fun σ' V' M' h' hR' hD => ?_
  refine (m_getI h' (by decide) rfl).mpr ?_
  exact mq_rt hD.2.2.1 h' hR'
theorem d8_numbers (h : MP X V M σ) (hR : MR A X V M) (hW : StW A) : Hr (f8_numbers (some 31)) σ (MQm X (pNumbers A, A)) := by
  unfold f8_numbers pNumbers
  refine h8_readTape h hR hW fun σ' V' M' h' hR' hD => ?_
  refine (m_getI h' (by decide) rfl).mpr ?_
  exact mq_rt hD.2.2.2.2.1 h' hR'
theorem d8_parts {t n : Int32} (h : MP X V M σ) (hR : MR A X V M) (hW : StW A) : Hr (f8_parts (some 31) t n) σ (MQm X (pParts A t n, A)) := by
  unfold f8_parts pParts
  refine (b_eq (e8_in _ _ _ _)).mpr ?_
  by_cases c1 : ¬ (0 ≤ t ∧ t ≤ 7)
  · rw [decide_eq_false c1, if_pos (show bI false = 0 from rfl), if_neg (fun q => c1 q.1)]
    exact mq_rt rfl h hR
  have c1 := Classical.not_not.mp c1
  rw [decide_eq_true c1, if_neg (show ¬ bI true = 0 by decide)]
  refine (b_eq (e8_in _ _ _ _)).mpr ?_
  by_cases c3 : ¬ (2 ≤ n ∧ n ≤ 8)
  · rw [decide_eq_false c3, if_pos (show bI false = 0 from rfl), if_neg (fun q => c3 q.2)]
    exact mq_rt rfl h hR
  have c3 := Classical.not_not.mp c3
  rw [decide_eq_true c3, if_neg (show ¬ bI true = 0 by decide), if_pos ⟨c1, c3⟩]
  obtain ⟨i, hi, rfl⟩ := (in_nI (m := 7) (by decide)).mp c1
  obtain ⟨m, hm1, hm2, rfl⟩ := (in_lo (l := 2) (m := 8) (by decide) (by decide)).mp c3
  rw [show tn (nI i) = i from nI_clamp (by omega), show tn (nI m) = m from nI_clamp (by omega)]
  refine h8_readTape h hR hW fun σ1 V1 M1 h1 hR1 hD => ?_
  have hkl := hW.2.2.1 i
  refine (m_obj h1).mpr ?_
  refine b_hr (h8_noParts h1) ?_
  rintro _ σ2 ⟨M2, h2, hK2, hS2⟩
  have hR2 := hR1.kQ (hK2.mono p19_Q)
  refine (m_obj h2).mpr ?_
  refine b_hr (h8_addParts h2 (hD.k19 hK2) hW.2.1 (hR2.2.2.2.2.2.1.1 i (by omega)) (by omega) hkl hm2 (by omega) hS2) ?_
  rintro _ σ3 ⟨M3, h3, hK3, hS3⟩
  have hR3 := hR2.kQ (hK3.mono p19_Q)
  refine (m_obj h3).mpr ?_
  refine (b_eq (e8_partsHad h3 (hR3.2.2.2.2.2.1.1 i (by omega)) (by omega) hkl hS3)).mpr ?_
  refine mq_rt ?_ h3 hR3
  show nI _ = nI _
  congr 1
theorem d8_state {w : Int32} (h : MP X V M σ) (hR : MR A X V M) (hW : StW A) : Hr (f8_state (some 31) w) σ (MQm X (pState A w, A)) := by
  have h60 := hW.2.2.2.2.2.2.1
  unfold f8_state pState
  refine b_hr (P := fun y σ' => σ' = σ ∧ y = (nI (cntL A (fun x => decide (lFate x = 1))), nI (cntL A (fun x => decide (lAct x = 1))), nI (cntL A (fun x => decide (lFate x = 2))))) ?_ ?_
  · unfold cntL
    refine hr_loop (fun z σ1 => σ1 = σ ∧ ∃ l, l ≤ (aLet A).length ∧ z = (nI (fb_ct (fun i => decide (lFate (lAt A i) = 1)) l), nI (fb_ct (fun i => decide (lAct (lAt A i) = 1)) l), nI (fb_ct (fun i => decide (lFate (lAt A i) = 2)) l), nI l)) (fun z => 100 - z.2.2.2.toNatClampNeg) ⟨rfl, 0, Nat.zero_le _, rfl⟩ (by show 100 - _ < _; omega) ?_
    rintro rec z σ1 ⟨rfl, l, hl, rfl⟩ ih
    unfold l8_state_10
    dsimp only
    refine (m_getI h (by decide) rfl).mpr ?_
    rw [hR.2.1]
    refine b_ite (fun c => ?_) (fun c => ?_)
    · rw [nI_leI (by omega) (by omega)] at c
      have : l = (aLet A).length := by omega
      subst this
      exact hr_rt.mpr ⟨rfl, rfl⟩
    · rw [nI_leI (by omega) (by omega)] at c
      obtain ⟨x, hx⟩ : ∃ x, (aLet A)[l]? = some x := ⟨_, List.getElem?_eq_getElem (by omega)⟩
      have h2 := hR.2.2.2.2.2.2.2.1 l x hx
      have hxw := hW.2.2.2.2.2.2.2.1 x (List.mem_of_getElem? hx)
      have ha := hxw.2.2.2.2.2.1
      have hf := hxw.2.2.2.2.2.2.1
      have one : ∀ (a b : Nat) (σ' : AH), a < 100 → b < 100 → Hr (if nI a = nI b then rt (1 : Int32) else rt 0) σ' (fun y σ'' => σ'' = σ' ∧ y = nI (if decide (a = b) = true then 1 else 0)) := by
        intro a b σ' h1 h2
        refine b_ite (fun c3 => ?_) (fun c3 => ?_)
        · rw [nI_eq (by omega) (by omega)] at c3
          exact hr_rt.mpr ⟨rfl, by rw [decide_eq_true c3]; rfl⟩
        · rw [nI_eq (by omega) (by omega)] at c3
          exact hr_rt.mpr ⟨rfl, by rw [decide_eq_false c3]; rfl⟩
      refine (m_getR h rfl).mpr ?_
      refine (m_ld (n := 60) h rfl rfl rfl rfl (by omega)).mpr ?_
      rw [h2.2.2.1]
      refine b_hr (one (lFate x) 1 _ (by omega) (by omega)) ?_
      rintro y1 σ2 ⟨rfl, rfl⟩
      refine (m_getR h rfl).mpr ?_
      refine (m_ld (n := 60) h rfl rfl rfl rfl (by omega)).mpr ?_
      rw [h2.1]
      refine b_hr (one (lAct x) 1 _ (by omega) (by omega)) ?_
      rintro y2 σ3 ⟨rfl, rfl⟩
      refine (m_getR h rfl).mpr ?_
      refine (m_ld (n := 60) h rfl rfl rfl rfl (by omega)).mpr ?_
      rw [h2.2.2.1]
      have hm : 100 - (nI l + 1).toNatClampNeg < 100 - (nI l).toNatClampNeg := by rw [nI_1, nI_clamp (by omega), nI_clamp (by omega)]; omega
      rw [nI_add, nI_add, show (2 : Int32) = nI 2 from rfl]
      refine b_ite (fun c3 => ?_) (fun c3 => ?_)
      · rw [nI_eq (by omega) (by omega)] at c3
        refine ih _ _ ⟨rfl, l + 1, by omega, ?_⟩ hm
        rw [fb_ct_succ, fb_ct_succ, fb_ct_succ, lAt_of hx, nI_1, nI_1, decide_eq_true (show lFate x = 2 from c3)]
        rfl
      · rw [nI_eq (by omega) (by omega)] at c3
        refine ih _ _ ⟨rfl, l + 1, by omega, ?_⟩ hm
        rw [fb_ct_succ, fb_ct_succ, fb_ct_succ, lAt_of hx, nI_1, show (0 : Int32) = nI 0 from rfl, nI_add, decide_eq_false (show ¬ lFate x = 2 from c3)]
        rfl
  · rintro y σ1 ⟨rfl, rfl⟩
    obtain ⟨q1, q2, q3, q4, -⟩ := id hR
    by_cases e0 : w = 0
    · rw [if_pos e0, if_pos e0]
      refine (m_getI h (by decide) rfl).mpr ?_
      exact mq_rt q1 h hR
    rw [if_neg e0, if_neg e0]
    by_cases e1 : w = 1
    · rw [if_pos e1, if_pos e1]
      refine (m_getI h (by decide) rfl).mpr ?_
      exact mq_rt q2 h hR
    rw [if_neg e1, if_neg e1]
    by_cases e2 : w = 2
    · rw [if_pos e2, if_pos e2]
      refine (m_getI h (by decide) rfl).mpr ?_
      exact mq_rt q3 h hR
    rw [if_neg e2, if_neg e2]
    by_cases e3 : w = 3
    · rw [if_pos e3, if_pos e3]
      refine (m_getI h (by decide) rfl).mpr ?_
      exact mq_rt q4 h hR
    rw [if_neg e3, if_neg e3]
    by_cases e4 : w = 4
    · rw [if_pos e4, if_pos e4]
      exact mq_rt rfl h hR
    rw [if_neg e4, if_neg e4]
    by_cases e5 : w = 5
    · rw [if_pos e5, if_pos e5]
      exact mq_rt rfl h hR
    rw [if_neg e5, if_neg e5]
    by_cases e6 : w = 6
    · rw [if_pos e6, if_pos e6]
      exact mq_rt rfl h hR
    rw [if_neg e6, if_neg e6]
    exact mq_rt rfl h hR
end PUBE
