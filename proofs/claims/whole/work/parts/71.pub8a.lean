/-! ===== the reference's calls: days, feed, end, keep, mark, near, count, pieces, allow ===== -/
def fnds (ls : List Lt) : List T3 := ls.flatMap (fun x => lR x)
def LXm (M : Nat → Nat → Int32) (ls : List Lt) : Prop := ∀ i x, ls[i]? = some x → M 34 i = nI (lAct x) ∧ M 35 i = lKind x ∧ M 36 i = nI (lFate x) ∧ M 37 i = nI (fnds (ls.take i)).length ∧ M 38 i = nI (lR x).length
def MR (A : St) (X : MX) (V : Nat → Int32) (M : Nat → Nat → Int32) : Prop := V 0 = nI (aDay A) ∧ V 1 = nI (aLet A).length ∧ V 2 = nI (aRul A).length ∧ V 4 = nI (aTape A).length ∧ B3 (M 3) (aTape A) ∧ MD A M ∧ RM M (aRul A) ∧ LXm M (aLet A) ∧ FI X V M (fnds (aLet A))
theorem MR.kF {A : St} {X X' : MX} {V V' : Nat → Int32} {M M' : Nat → Nat → Int32} (h : MR A X V M) (k : Kx pSF V M V' M') (hF : FI X' V' M' (fnds (aLet A))) : MR A X' V' M' := by
  obtain ⟨h1, h2, h3, h4, h5, h6, h7, h8, h9⟩ := h
  refine ⟨(k.1 0 rfl).trans h1, (k.1 1 rfl).trans h2, (k.1 2 rfl).trans h3, (k.1 4 rfl).trans h4, by rw [k.2 3 rfl]; exact h5, h6.kp k, h7.kp k, ?_, hF⟩
  unfold LXm
  rw [k.2 34 rfl, k.2 35 rfl, k.2 36 rfl, k.2 37 rfl, k.2 38 rfl]
  exact h8
theorem MR.kQ {A : St} {X : MX} {V V' : Nat → Int32} {M M' : Nat → Nat → Int32} (h : MR A X V M) (k : Kx pQ V M V' M') : MR A X V' M' := h.kF (k.mono pQ_SF) (h.2.2.2.2.2.2.2.2.kS k)
def MQm (X : MX) (o : Int32 × St) : Int32 → AH → Prop := fun r σ' => r = o.1 ∧ ∃ X' V' M', MP X' V' M' σ' ∧ XG X X' ∧ MR o.2 X' V' M'
section PUBA
variable {X : MX} {V : Nat → Int32} {M : Nat → Nat → Int32} {σ : AH} {A : St}
theorem mq_rt {o : Int32 × St} {r : Int32} (hr : r = o.1) (h : MP X V M σ) (hR : MR o.2 X V M) : Hr (rt r) σ (MQm X o) := hr_rt.mpr ⟨hr, X, V, M, h, XG.rf, hR⟩
theorem d8_days {n : Int32} (h : MP X V M σ) (hR : MR A X V M) (hW : StW A) : Hr (f8_days (some 31) n) σ (MQm X (pDays A n)) := by
  unfold f8_days pDays
  have hd := hW.1
  refine (b_eq (e8_in _ _ _ _)).mpr ?_
  by_cases c : 0 ≤ n ∧ n ≤ 100
  · obtain ⟨j, hj, rfl⟩ := (in_nI (m := 100) (by decide)).mp c
    rw [decide_eq_true c, if_neg (show ¬ bI true = 0 by decide), show tn (nI j) = j from nI_clamp (by omega)]
    refine (m_getI h (by decide) rfl).mpr ?_
    rw [hR.1, nI_add, show (1000 : Int32) = nI 1000 from rfl]
    refine b_ite (fun c2 => ?_) (fun c2 => ?_)
    · rw [nI_leI (by omega) (by omega)] at c2
      rw [if_pos ⟨c, c2⟩]
      refine (m_getI h (by decide) rfl).mpr ?_
      rw [hR.1, nI_add]
      refine m_putI h (by decide) rfl fun σ2 h2 => ?_
      refine (m_getI h2 (by decide) rfl).mpr ?_
      refine mq_rt (by simp [upd]) h2 ?_
      obtain ⟨r1, r2⟩ := hR
      exact ⟨by simp [upd], r2⟩
    · rw [nI_leI (by omega) (by omega)] at c2
      rw [if_neg (fun q => c2 q.2)]
      exact mq_rt rfl h hR
  · rw [decide_eq_false c, if_pos (show bI false = 0 from rfl), if_neg (fun q => c q.1)]
    exact mq_rt rfl h hR
-- bytes of a number
theorem sh255 (x s : Int32) (k : Nat) (h1 : ((s &&& 31).toBitVec.smod 32).toNat = k) (h2 : ((s.toUInt32 &&& Int32.toUInt32 31).toBitVec % 32).toNat = k) (hk : k = 0 ∨ k = 8 ∨ k = 16 ∨ k = 24) : jshr x s &&& 255 = jushr x s &&& 255 := by
  rw [pk_and _ 8 (by decide), pk_and _ 8 (by decide)]
  congr 1
  have e1 : (jushr x s).toBitVec.toNat = x.toBitVec.toNat / 2 ^ k := pk_ushr x s k h2
  have e2 : (jshr x s).toInt = x.toInt >>> k := pk_shr x (s &&& 31) k h1
  rw [Int.shiftRight_eq_div_pow] at e2
  rw [e1]
  have q1 : (jshr x s).toInt = (jshr x s).toBitVec.toInt := rfl
  have q2 : x.toInt = x.toBitVec.toInt := rfl
  rw [q1, q2, BitVec.toInt_eq_toNat_cond, BitVec.toInt_eq_toNat_cond] at e2
  have b1 := (jshr x s).toBitVec.isLt
  have b2 := x.toBitVec.isLt
  generalize (jshr x s).toBitVec.toNat = P at *
  generalize x.toBitVec.toNat = N at *
  rcases hk with rfl | rfl | rfl | rfl <;> (split at e2 <;> split at e2 <;> omega)
def wk (a b c d e : Int32) (k : Nat) : Int32 := if k < 4 then a else if k < 8 then b else if k < 12 then c else if k < 16 then d else e
def sk (k : Nat) : Int32 := nI (24 - 8 * (k % 4))
theorem fm_cons {α β : Type} (f : α → Option β) (x : α) (l : List α) : (x :: l).filterMap f = (f x).toList ++ l.filterMap f := by
  rw [List.filterMap_cons]
  cases f x <;> rfl
theorem by20_eq (a b c d e : Int32) : by20 a b c d e = (List.range 20).filterMap (fun k => byF (wk a b c d e k) (sk k)) := by
  rw [show List.range 20 = [0, 1, 2, 3, 4, 5, 6, 7, 8, 9, 10, 11, 12, 13, 14, 15, 16, 17, 18, 19] by decide]
  simp only [fm_cons, List.filterMap_nil, List.append_nil]
  unfold by20 by4
  simp only [List.append_assoc]
  rfl
theorem e8_byteOf (a b c d e : Int32) {k : Nat} (hk : k < 20) (σ : AH) : f8_byteOf a b c d e (nI k) σ = some (jushr (wk a b c d e k) (sk k) &&& 255, σ) := by
  unfold f8_byteOf
  have ec : (if (4 : Int32) ≤ nI k then if (8 : Int32) ≤ nI k then if (12 : Int32) ≤ nI k then if (16 : Int32) ≤ nI k then rt e else rt d else rt c else rt b else rt a : Cm Int32) = rt (wk a b c d e k) := by
    have q4 : (4 : Int32) ≤ nI k ↔ 4 ≤ k := nI_leI (a := 4) (by omega) (by omega)
    have q8 : (8 : Int32) ≤ nI k ↔ 8 ≤ k := nI_leI (a := 8) (by omega) (by omega)
    have q12 : (12 : Int32) ≤ nI k ↔ 12 ≤ k := nI_leI (a := 12) (by omega) (by omega)
    have q16 : (16 : Int32) ≤ nI k ↔ 16 ≤ k := nI_leI (a := 16) (by omega) (by omega)
    unfold wk
    by_cases h4 : 4 ≤ k
    · by_cases h8 : 8 ≤ k
      · by_cases h12 : 12 ≤ k
        · by_cases h16 : 16 ≤ k
          · rw [if_pos (q4.mpr h4), if_pos (q8.mpr h8), if_pos (q12.mpr h12), if_pos (q16.mpr h16), if_neg (by omega), if_neg (by omega), if_neg (by omega), if_neg (by omega)]
          · rw [if_pos (q4.mpr h4), if_pos (q8.mpr h8), if_pos (q12.mpr h12), if_neg (fun q => h16 (q16.mp q)), if_neg (by omega), if_neg (by omega), if_neg (by omega), if_pos (by omega)]
        · rw [if_pos (q4.mpr h4), if_pos (q8.mpr h8), if_neg (fun q => h12 (q12.mp q)), if_neg (by omega), if_neg (by omega), if_pos (by omega)]
      · rw [if_pos (q4.mpr h4), if_neg (fun q => h8 (q8.mp q)), if_neg (by omega), if_pos (by omega)]
    · rw [if_neg (fun q => h4 (q4.mp q)), if_pos (by omega)]
  rw [ec, bn_rt, rt_ap]
  have er : (24 : Int32) - 8 * jrem (nI k) 4 = sk k := by
    have : jrem (nI k) 4 = nI (k % 4) := pk_rem (d := 4) (by omega) (by decide) (by decide)
    rw [this, show (8 : Int32) = nI 8 from rfl, pk_mul, show (24 : Int32) = nI 24 from rfl, nI_subN (by omega)]
    rfl
  rw [er]
  congr 2
  have hm : k % 4 = 0 ∨ k % 4 = 1 ∨ k % 4 = 2 ∨ k % 4 = 3 := by omega
  unfold sk
  rcases hm with q | q | q | q <;> rw [q]
  · exact sh255 _ _ 24 (by decide) (by decide) (by decide)
  · exact sh255 _ _ 16 (by decide) (by decide) (by decide)
  · exact sh255 _ _ 8 (by decide) (by decide) (by decide)
  · exact sh255 _ _ 0 (by decide) (by decide) (by decide)
theorem d8_feed {a b c d e : Int32} (h : MP X V M σ) (hR : MR A X V M) (hW : StW A) : Hr (f8_feed (some 31) a b c d e) σ (MQm X (pFeed A a b c d e)) := by
  have ht := hW.2.1
  have hbl : ∀ n, ((List.range n).filterMap (fun k => byF (wk a b c d e k) (sk k))).length ≤ n := fun n => fm_len _ _
  unfold f8_feed pFeed
  refine b_hr (P := fun y σ' => y = nI (by20 a b c d e).length ∧ σ' = σ) ?_ ?_
  · rw [by20_eq]
    refine hr_loop (fun x σ1 => σ1 = σ ∧ ∃ k, k ≤ 20 ∧ x = (nI ((List.range k).filterMap (fun k => byF (wk a b c d e k) (sk k))).length, nI k)) (fun x => 100 - x.2.toNatClampNeg) ⟨rfl, 0, by omega, rfl⟩ (by show 100 - _ < _; omega) ?_
    rintro rec x σ1 ⟨rfl, k, hk, rfl⟩ ih
    unfold l8_feed_6
    dsimp only
    have hm : k < 20 → 100 - (nI k + 1).toNatClampNeg < 100 - (nI k).toNatClampNeg := fun q => by rw [nI_1, nI_clamp (by omega), nI_clamp (by omega)]; omega
    rw [show (20 : Int32) = nI 20 from rfl]
    refine b_ite (fun cz => ?_) (fun cz => ?_)
    · rw [nI_leI (by omega) (by omega)] at cz
      have : k = 20 := by omega
      subst this
      exact hr_rt.mpr ⟨rfl, rfl⟩
    · rw [nI_leI (by omega) (by omega)] at cz
      refine (b_eq (e8_byteOf _ _ _ _ _ (by omega) _)).mpr ?_
      refine b_ite (fun c2 => ?_) (fun c2 => ?_)
      · refine ih _ _ ⟨rfl, k + 1, by omega, ?_⟩ (hm (by omega))
        rw [fm_succ, show byF (wk a b c d e k) (sk k) = none from if_pos c2, nI_1, show (0 : Int32) = nI 0 from rfl, nI_add]
        simp
      · refine ih _ _ ⟨rfl, k + 1, by omega, ?_⟩ (hm (by omega))
        rw [fm_succ, show byF (wk a b c d e k) (sk k) = some _ from if_neg c2, nI_1, nI_1]
        simp
  · rintro y σ1 ⟨rfl, rfl⟩
    have h20 := hbl 20
    rw [← by20_eq] at h20
    refine (m_getI h (by decide) rfl).mpr ?_
    rw [hR.2.2.2.1, nI_add, show (300 : Int32) = nI 300 from rfl]
    refine b_ite (fun cz => ?_) (fun cz => ?_)
    · rw [nI_leI (by omega) (by omega)] at cz
      rw [if_pos cz]
      refine b_hr (P := fun _ σ' => ∃ V' M', MP X V' M' σ' ∧ Kx (fun f => decide (f = 3 ∨ f = 4)) V M V' M' ∧ V' 4 = nI ((aTape A).length + (by20 a b c d e).length) ∧ B3 (M' 3) (aTape A ++ by20 a b c d e)) ?_ ?_
      · rw [by20_eq] at cz ⊢
        have hpre : ∀ k, k ≤ 20 → ((List.range k).filterMap (fun k => byF (wk a b c d e k) (sk k))).length ≤ ((List.range 20).filterMap (fun k => byF (wk a b c d e k) (sk k))).length := by
          intro k hk
          obtain ⟨d', hd⟩ : ∃ d', 20 = k + d' := ⟨20 - k, by omega⟩
          rw [hd, List.range_add, List.filterMap_append, List.length_append]
          omega
        refine hr_loop (fun x σ1 => ∃ (k : Nat) (V1 : Nat → Int32) (M1 : Nat → Nat → Int32), k ≤ 20 ∧ x = nI k ∧ MP X V1 M1 σ1 ∧ Kx (fun f => decide (f = 3 ∨ f = 4)) V M V1 M1 ∧ V1 4 = nI ((aTape A).length + ((List.range k).filterMap (fun k => byF (wk a b c d e k) (sk k))).length) ∧ B3 (M1 3) (aTape A ++ (List.range k).filterMap (fun k => byF (wk a b c d e k) (sk k)))) (fun x => 100 - x.toNatClampNeg) ⟨0, V, M, by omega, rfl, h, Kx.rf, hR.2.2.2.1, by simpa using hR.2.2.2.2.1⟩ (by show 100 - _ < _; omega) ?_
        rintro rec x σ1 ⟨k, V1, M1, hk, rfl, h1, hK, hV, hB⟩ ih
        unfold l8_feed_62
        have hm : k < 20 → 100 - (nI k + 1).toNatClampNeg < 100 - (nI k).toNatClampNeg := fun q => by rw [nI_1, nI_clamp (by omega), nI_clamp (by omega)]; omega
        rw [show (20 : Int32) = nI 20 from rfl]
        refine b_ite (fun c3 => ?_) (fun c3 => ?_)
        · rw [nI_leI (by omega) (by omega)] at c3
          have : k = 20 := by omega
          subst this
          exact hr_rt.mpr ⟨V1, M1, h1, hK, hV, hB⟩
        · rw [nI_leI (by omega) (by omega)] at c3
          refine (b_eq (e8_byteOf _ _ _ _ _ (by omega) _)).mpr ?_
          refine b_ite (fun c2 => ?_) (fun c2 => ?_)
          · refine ih _ _ ⟨k + 1, V1, M1, by omega, nI_1 k, h1, hK, ?_, ?_⟩ (hm (by omega))
            · rw [fm_succ, show byF (wk a b c d e k) (sk k) = none from if_pos c2]
              simpa using hV
            · rw [fm_succ, show byF (wk a b c d e k) (sk k) = none from if_pos c2]
              simpa using hB
          · have hp := hpre (k + 1) (by omega)
            rw [fm_succ, show byF (wk a b c d e k) (sk k) = some _ from if_neg c2] at hp
            simp only [Option.toList_some, List.length_append, List.length_cons, List.length_nil] at hp
            refine (m_getR h1 rfl).mpr ?_
            refine (m_getI h1 (by decide) rfl).mpr ?_
            refine m_st (n := 300) h1 rfl rfl rfl hV (by omega) fun σ2 h2 => ?_
            refine (m_getI h2 (by decide) rfl).mpr ?_
            refine m_putI h2 (by decide) rfl fun σ3 h3 => ?_
            refine ih _ _ ⟨k + 1, _, _, by omega, nI_1 k, h3, (hK.m rfl).v rfl, ?_, ?_⟩ (hm (by omega))
            · show upd V1 4 (V1 4 + 1) 4 = _
              rw [hV, nI_1, fm_succ, show byF (wk a b c d e k) (sk k) = some _ from if_neg c2]
              simp [upd, Nat.add_assoc]
            · show B3 (upd (M1 3) ((aTape A).length + ((List.range k).filterMap (fun k => byF (wk a b c d e k) (sk k))).length) (jushr (wk a b c d e k) (sk k) &&& 255)) _
              rw [fm_succ, show byF (wk a b c d e k) (sk k) = some _ from if_neg c2, ← List.append_assoc, ← List.length_append]
              intro i x hi
              by_cases hl : i < (aTape A ++ (List.range k).filterMap (fun k => byF (wk a b c d e k) (sk k))).length
              · rw [List.getElem?_append_left hl] at hi
                simp only [upd, if_neg (Nat.ne_of_lt hl)]
                exact hB i x hi
              · rw [List.getElem?_append_right (by omega)] at hi
                have hz := (List.getElem?_eq_some_iff.mp hi).1
                simp only [Option.toList_some, List.length_cons, List.length_nil] at hz
                have e0 : i = (aTape A ++ (List.range k).filterMap (fun k => byF (wk a b c d e k) (sk k))).length := by omega
                rw [e0, Nat.sub_self] at hi
                simp only [Option.toList_some, List.getElem?_cons_zero, Option.some.injEq] at hi
                rw [e0, ← hi]
                simp [upd]
      · rintro _ σ2 ⟨V2, M2, h2, hK, hV, hB⟩
        refine (m_getI h2 (by decide) rfl).mpr ?_
        refine mq_rt hV h2 ?_
        obtain ⟨r1, r2, r3, r4, r5, r6, r7, r8, r9⟩ := hR
        refine ⟨(hK.1 0 rfl).trans r1, (hK.1 1 rfl).trans r2, (hK.1 2 rfl).trans r3, ?_, hB, ?_, ?_, ?_, ?_⟩
        · rw [hV]
          show _ = nI (aTape A ++ by20 a b c d e).length
          rw [List.length_append]
        · show MD A M2
          unfold MD KT KM LH MK
          rw [hK.2 15 rfl, hK.2 16 rfl, hK.2 17 rfl, hK.2 18 rfl, hK.2 20 rfl, hK.2 21 rfl, hK.2 22 rfl, hK.2 23 rfl, hK.2 24 rfl, hK.2 25 rfl, hK.2 26 rfl, hK.2 27 rfl, hK.2 28 rfl, hK.2 29 rfl, hK.2 30 rfl, hK.2 31 rfl, hK.2 32 rfl, hK.2 33 rfl]
          exact r6
        · show RM M2 (aRul A)
          unfold RM
          rw [hK.2 43 rfl, hK.2 44 rfl, hK.2 45 rfl, hK.2 46 rfl]
          exact r7
        · show LXm M2 (aLet A)
          unfold LXm
          rw [hK.2 34 rfl, hK.2 35 rfl, hK.2 36 rfl, hK.2 37 rfl, hK.2 38 rfl]
          exact r8
        · show FI X V2 M2 (fnds (aLet A))
          unfold FI
          rw [hK.1 42 rfl, hK.2 39 rfl, hK.2 40 rfl, hK.2 41 rfl]
          exact r9
    · rw [nI_leI (by omega) (by omega)] at cz
      rw [if_neg cz]
      exact mq_rt rfl h hR
theorem B3.take {b : Nat → Int32} {L : List Int32} (h : B3 b L) (n : Nat) : B3 b (L.take n) := by
  intro k c hk
  refine h k c ?_
  rw [List.getElem?_take] at hk
  split at hk
  · exact hk
  · cases hk
theorem d8_end {n : Int32} (h : MP X V M σ) (hR : MR A X V M) (hW : StW A) : Hr (f8_end (some 31) n) σ (MQm X (pEnd A n)) := by
  have ht := hW.2.1
  unfold f8_end pEnd
  refine b_ite (fun c => ?_) (fun c => ?_)
  · rw [if_neg (fun q => absurd c (nlt.mpr q.1))]
    exact mq_rt rfl h hR
  · refine (m_getI h (by decide) rfl).mpr ?_
    rw [hR.2.2.2.1]
    refine b_ite (fun c2 => ?_) (fun c2 => ?_)
    · have cc : 0 ≤ n ∧ n ≤ nI (aTape A).length := ⟨nlt.mp c, c2⟩
      rw [if_pos cc]
      obtain ⟨j, hj, rfl⟩ := (in_nI (by omega)).mp cc
      refine m_putI h (by decide) rfl fun σ2 h2 => ?_
      refine mq_rt rfl h2 ?_
      obtain ⟨r1, r2, r3, r4, r5, r6⟩ := hR
      refine ⟨r1, r2, r3, ?_, r5.take _, r6⟩
      show upd V 4 (nI j) 4 = nI ((aTape A).take (tn (nI j))).length
      rw [show tn (nI j) = j from nI_clamp (by omega), List.length_take, Nat.min_eq_left hj]
      simp [upd]
    · rw [if_neg (fun q => c2 q.2)]
      exact mq_rt rfl h hR
end PUBA
