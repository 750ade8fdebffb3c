/-! ===== Long.bitCount, to its end; PartSet.size; the tape as a text ===== -/
theorem dv256 {r Q : Nat} (h : r < 256) : (r + 256 * Q) / 256 = Q := by omega
theorem sum8 {p0 p1 p2 p3 p4 p5 p6 p7 A Q1 Q2 Q3 Q4 Q5 Q6 Q7 : Nat} (h0 : p0 ≤ 8) (h1 : p1 ≤ 8) (h2 : p2 ≤ 8) (h3 : p3 ≤ 8) (h4 : p4 ≤ 8) (h5 : p5 ≤ 8) (h6 : p6 ≤ 8) (h7 : p7 ≤ 8) (hA : A = p0 + 256 * Q1) (g1 : Q1 = p1 + 256 * Q2) (g2 : Q2 = p2 + 256 * Q3) (g3 : Q3 = p3 + 256 * Q4) (g4 : Q4 = p4 + 256 * Q5) (g5 : Q5 = p5 + 256 * Q6) (g6 : Q6 = p6 + 256 * Q7) (g7 : Q7 = p7) :
    (A + A / 256 + (A + A / 256) / 65536 + (A + A / 256 + (A + A / 256) / 65536) / 4294967296) % 128 = p0 + p1 + p2 + p3 + p4 + p5 + p6 + p7 := by
  have e1 : A / 256 = Q1 := by rw [hA]; exact dv256 (by omega)
  have eB : A + A / 256 = (p0 + p1) + 256 * (Q1 + Q2) := by rw [e1]; omega
  have s1 : Q1 + Q2 = (p1 + p2) + 256 * (Q2 + Q3) := by omega
  have eB2 : (A + A / 256) / 65536 = Q2 + Q3 := by
    rw [eB, show (65536 : Nat) = 256 * 256 from rfl, ← Nat.div_div_eq_div_mul, dv256 (by omega), s1, dv256 (by omega)]
  generalize A + A / 256 = B at eB eB2 ⊢
  rw [eB2]
  have eC : B + (Q2 + Q3) = (p0 + p1 + p2 + p3) + 256 * (Q1 + Q2 + Q3 + Q4) := by omega
  have t1 : Q1 + Q2 + Q3 + Q4 = (p1 + p2 + p3 + p4) + 256 * (Q2 + Q3 + Q4 + Q5) := by omega
  have t2 : Q2 + Q3 + Q4 + Q5 = (p2 + p3 + p4 + p5) + 256 * (Q3 + Q4 + Q5 + Q6) := by omega
  have t3 : Q3 + Q4 + Q5 + Q6 = (p3 + p4 + p5 + p6) + 256 * (Q4 + Q5 + Q6 + Q7) := by omega
  have eC4 : (B + (Q2 + Q3)) / 4294967296 = Q4 + Q5 + Q6 + Q7 := by
    rw [eC, show (4294967296 : Nat) = 256 * 256 * 256 * 256 from rfl, ← Nat.div_div_eq_div_mul, ← Nat.div_div_eq_div_mul, ← Nat.div_div_eq_div_mul, dv256 (by omega), t1, dv256 (by omega), t2, dv256 (by omega), t3, dv256 (by omega)]
  rw [eC4]
  generalize B + (Q2 + Q3) = C at eC ⊢
  omega
set_option maxRecDepth 20000 in
theorem e_bitCount {n : Nat} (hn : n < 2 ^ 64) (σ : AH) : fJ13_bitCount_95d88 (lN n) σ = some (nI (fb_ct (fun k => n.testBit k) 64), σ) := by
  have m1 : rM 85 8 = 6148914691236517205 := by decide
  have m2 : rM 51 8 = 3689348814741910323 := by decide
  have m3 : rM 15 8 = 1085102592571150095 := by decide
  unfold fJ13_bitCount_95d88
  have j1 : jlushr (lN n) 1 = lN (n / 2) := jl_at (k := 1) hn (by decide)
  have b1 : n / 2 &&& 6148914691236517205 ≤ n := Nat.le_trans Nat.and_le_left (by omega)
  have e1 : lN n - (jlushr (lN n) 1 &&& 6148914691236517205) = lN (s1 8 n) := by
    rw [j1, show (6148914691236517205 : Int64) = lN 6148914691236517205 from rfl, fb_andL, lN_sub b1, s1, m1]
  rw [e1]
  have b2 : s1 8 n < 2 ^ 64 := Nat.lt_of_le_of_lt (Nat.sub_le _ _) hn
  generalize hA1 : s1 8 n = A1 at b2
  have e2 : (lN A1 &&& 3689348814741910323) + (jlushr (lN A1) 2 &&& 3689348814741910323) = lN (s2 8 A1) := by
    have j2 : jlushr (lN A1) 2 = lN (A1 / 4) := jl_at (k := 2) b2 (by decide)
    rw [j2, show (3689348814741910323 : Int64) = lN 3689348814741910323 from rfl, fb_andL, fb_andL, lN_add, s2, m2]
  rw [e2]
  have b3 : s2 8 A1 < 2 ^ 64 := by
    unfold s2
    rw [m2]
    have x1 : A1 &&& 3689348814741910323 ≤ 3689348814741910323 := Nat.and_le_right
    have x2 : A1 / 4 &&& 3689348814741910323 ≤ 3689348814741910323 := Nat.and_le_right
    omega
  generalize hA2 : s2 8 A1 = A2 at b3
  have e3 : (lN A2 + jlushr (lN A2) 4) &&& 1085102592571150095 = lN (s3 8 A2) := by
    have j3 : jlushr (lN A2) 4 = lN (A2 / 16) := jl_at (k := 4) b3 (by decide)
    rw [j3, lN_add, show (1085102592571150095 : Int64) = lN 1085102592571150095 from rfl, fb_andL, s3, m3]
  rw [e3]
  have b4 : s3 8 A2 ≤ 1085102592571150095 := by
    unfold s3
    rw [m3]
    exact Nat.and_le_right
  obtain ⟨-, i2, i3, i4⟩ := s_all 8 n (by simpa using hn)
  rw [hA1, hA2] at i2 i3 i4
  generalize hA3 : s3 8 A2 = A at b4 i2 i3 i4
  have e4 : lN A + jlushr (lN A) 8 = lN (A + A / 256) := by
    have j4 : jlushr (lN A) 8 = lN (A / 256) := jl_at (k := 8) (by omega) (by decide)
    rw [j4, lN_add]
  rw [e4]
  have e5 : lN (A + A / 256) + jlushr (lN (A + A / 256)) 16 = lN (A + A / 256 + (A + A / 256) / 65536) := by
    have j5 : jlushr (lN (A + A / 256)) 16 = lN ((A + A / 256) / 65536) := jl_at (k := 16) (by omega) (by decide)
    rw [j5, lN_add]
  rw [e5]
  have e6 : lN (A + A / 256 + (A + A / 256) / 65536) + jlushr (lN (A + A / 256 + (A + A / 256) / 65536)) 32 = lN (A + A / 256 + (A + A / 256) / 65536 + (A + A / 256 + (A + A / 256) / 65536) / 4294967296) := by
    have j6 : jlushr (lN (A + A / 256 + (A + A / 256) / 65536)) 32 = lN ((A + A / 256 + (A + A / 256) / 65536) / 4294967296) := jl_at (k := 32) (by omega) (by decide)
    rw [j6, lN_add]
  rw [e6, lN_i]
  generalize hD : A + A / 256 + (A + A / 256) / 65536 + (A + A / 256 + (A + A / 256) / 65536) / 4294967296 = D
  have e7 : nI D &&& 127 = nI (D % 128) := by
    have h1 := pk_and (nI D) (m := 127) 7 (by decide)
    rw [h1]
    have h2 : (nI D).toBitVec.toNat = D % 2 ^ 32 := BitVec.toNat_ofNat D 32
    rw [h2]
    congr 1
    omega
  rw [e7, rt_ap]
  congr 3
  rw [← hD]
  have q0 := i4 0
  have q1 := i4 1
  have q2 := i4 2
  have q3 := i4 3
  have q4 := i4 4
  have q5 := i4 5
  have q6 := i4 6
  have q7 := i4 7
  have hs : bsum 8 A = A % 256 + (A / 256 % 256 + (A / 256 / 256 % 256 + (A / 256 / 256 / 256 % 256 + (A / 256 / 256 / 256 / 256 % 256 + (A / 256 / 256 / 256 / 256 / 256 % 256 + (A / 256 / 256 / 256 / 256 / 256 / 256 % 256 + (A / 256 / 256 / 256 / 256 / 256 / 256 / 256 % 256 + 0))))))) := rfl
  have hA64 : A < 18446744073709551616 := by simpa using i2
  have this := sum8 (A := A) (p0 := A % 256) (p1 := A / 256 % 256) (p2 := A / 65536 % 256) (p3 := A / 16777216 % 256) (p4 := A / 4294967296 % 256) (p5 := A / 1099511627776 % 256) (p6 := A / 281474976710656 % 256) (p7 := A / 72057594037927936 % 256) (Q1 := A / 256) (Q2 := A / 65536) (Q3 := A / 16777216) (Q4 := A / 4294967296) (Q5 := A / 1099511627776) (Q6 := A / 281474976710656) (Q7 := A / 72057594037927936) (by simpa using q0) (by simpa using q1) (by simpa using q2) (by simpa using q3) (by simpa using q4) (by simpa using q5) (by simpa using q6) (by simpa using q7) (by omega) (by omega) (by omega) (by omega) (by omega) (by omega) (by omega) (by omega)
  rw [this]
  have i3 : bsum 8 A = fb_ct (fun j => n.testBit j) 64 := i3
  rw [← i3, hs]
  simp only [Nat.div_div_eq_div_mul, Nat.reduceMul, Nat.add_zero, Nat.add_assoc]
theorem e3_size {σ : AH} {q : Nat} {S : Nat → Bool} (h : PB σ q S) : f3_size (some q) σ = some (nI (fb_ct S 192), σ) := by
  obtain ⟨a, m, z, h0, ha, hm, hz, hb, -⟩ := h
  refine hr_det ?_
  unfold f3_size
  refine (b_getL h0 rfl).mpr ?_
  refine (b_eq (e_bitCount ha _)).mpr ?_
  refine (b_getL h0 rfl).mpr ?_
  refine (b_eq (e_bitCount hm _)).mpr ?_
  refine (b_getL h0 rfl).mpr ?_
  refine (b_eq (e_bitCount hz _)).mpr ?_
  refine hr_rt.mpr ⟨?_, rfl⟩
  rw [nI_add, nI_add]
  congr 1
  rw [show (192 : Nat) = 64 + (64 + 64) from rfl, fb_ct_split, fb_ct_split, ← Nat.add_assoc]
  congr 1
  · congr 1
    · exact fb_ct_cong fun k hk => (hb k hk).1
    · exact fb_ct_cong fun k hk => (hb k hk).2.1
  · exact fb_ct_cong fun k hk => by rw [(hb k hk).2.2, ← Nat.add_assoc]
theorem sOf_par {xs ks : List Int32} {n : Nat} (hn : 1 ≤ n) (hk : (wds ks).length ≤ 150) (p : Nat) : sOf (fPar xs ks n) p = hasP xs ks n p := by
  rw [Bool.eq_iff_iff]
  unfold sOf hasP fPar
  simp only [Bool.and_eq_true, decide_eq_true_eq, List.any_eq_true, List.mem_flatMap, List.mem_range]
  constructor
  · rintro ⟨hp, x, ⟨w, hw, hx⟩, hxp⟩
    unfold rPar at hx
    rw [List.mem_filterMap] at hx
    obtain ⟨p', hp', hg⟩ := hx
    rw [List.mem_range] at hp'
    unfold gPar at hg
    split at hg
    · rename_i hc
      cases hg
      have e : p' = p := (nI_eq (by omega) (by omega)).mp hxp
      subst e
      refine ⟨w, hw, ?_⟩
      rw [stB_gPar (by omega) (by omega), decide_eq_true hc]
    · cases hg
  · rintro ⟨w, hw, hs⟩
    have hs' := hs
    unfold stB at hs'
    rw [Bool.and_eq_true, Bool.and_eq_true, decide_eq_true_eq, decide_eq_true_eq] at hs'
    rw [stB_gPar (by omega) (by omega), decide_eq_true_eq] at hs
    refine ⟨by omega, (pFst xs w, pLst xs (w + n - 1), nI p), ⟨w, hw, ?_⟩, rfl⟩
    unfold rPar
    rw [List.mem_filterMap]
    exact ⟨p, by rw [List.mem_range]; omega, if_pos hs⟩
theorem ct_beyond {S : Nat → Bool} {a b : Nat} (h : a ≤ b) (hz : ∀ k, a ≤ k → S k = false) : fb_ct S b = fb_ct S a := by
  obtain ⟨d, rfl⟩ : ∃ d, b = a + d := ⟨b - a, by omega⟩
  rw [fb_ct_split]
  have : fb_ct (fun k => S (a + k)) d = 0 := fb_ct_zero.mpr (fun k _ => hz _ (by omega))
  omega
theorem hasP_out {xs ks : List Int32} {n p : Nat} (hn : 1 ≤ n) (h : (wds ks).length ≤ p) : hasP xs ks n p = false := by
  unfold hasP
  rw [List.any_eq_false]
  intro w _
  simp only [stB, decide_eq_false (show ¬ p + n ≤ (wds ks).length by omega), Bool.false_and, Bool.and_false]
  decide
section CLSD
variable {g : Tg} {c : Nat → Nat} {σ : AH} {A : St}
theorem h7_readTape (h : Cls g c σ A) (hW : StW A) : Hr (f7_readTape (some 0)) σ (fun r σ' => r = some 8 ∧ Cls g c σ' A ∧ Sm σ σ' 8 15 ∧ CTx σ' 8 300 (aTape A)) := by
  have ht := hW.2.1
  obtain ⟨k1, k2, ⟨tp, k3, k3'⟩, k4, k5, k6, k7, k8, ⟨⟨b, f, l, n, s, e, hh, w, k9⟩, k9b, k9c, k9d⟩, k10⟩ := id h
  unfold f7_readTape
  refine (b_getR k2 rfl).mpr ?_
  refine (b_getR k2 rfl).mpr ?_
  refine (b_getI k2 rfl).mpr ?_
  refine (b_obj k9.1).mpr ?_
  refine b_hr (h6_read (xs := aTape A) (sa := 1) k9 k3 (by omega) k3' (by omega) (by decide) (by omega) (by omega)) ?_
  rintro _ σ1 ⟨hS, hT⟩
  have hS : Sm σ σ1 8 15 := hS
  have ft : ∀ t, t ≠ 2 → FT t g σ g σ1 := fun t ht => ft_sm hS (fun k a b => by rw [k1.2 k (by omega)]; exact Ne.symm ht)
  have o : ∀ k, k < 8 ∨ 15 ≤ k → σ1.1[k]? = σ.1[k]? := hS.1
  have m2 := k2
  rw [← o 0 (by omega)] at m2
  refine (b_getR m2 rfl).mpr ?_
  refine hr_rt.mpr ⟨rfl, ⟨lo_tag k1 hS.2.1, m2, ⟨tp, by rw [o 1 (by omega)]; exact k3, k3'⟩, k4.fr (ft 1 (by decide)) (o 2 (by omega)), k5.fr (ft 1 (by decide)) (o 3 (by omega)), k6.fr (o 4 (by omega)), k7.fr (ft 1 (by decide)) (o 5 (by omega)) (o 6 (by omega)), k8.fr (o 7 (by omega)), ⟨?_, ?_, ?_, k9d.fr (o 21 (by omega)) (o 22 (by omega))⟩, k10.fr (ft 1 (by decide)) (fun i _ => ft _ (by omega))⟩, hS, hT⟩
  · obtain ⟨b, f, l, s, e, hh, h1, -⟩ := hT
    exact ⟨b, f, l, _, s, e, hh, _, h1⟩
  · obtain ⟨R, hR⟩ := k9b
    exact ⟨R, hR.frame (fun k a b => o k (by omega))⟩
  · obtain ⟨S, hS⟩ := k9c
    exact ⟨S, hS.frame (o 20 (by omega))⟩
theorem cx_lo {σ' : AH} {lo hi : Nat} (h : cTag g σ) (u : Sm σ σ' lo hi) (hh : hi ≤ 23) : CX g σ g σ' 0 0 := cx_sm u (fun k _ b => by rw [h.2 k (by omega)]; decide)
theorem d7_words (h : Cls g c σ A) (hW : StW A) : Hr (f7_words (some 0)) σ (CQ g σ 60 2100 (pWords A, A)) := by
  unfold f7_words pWords
  refine (b_obj h.2.1).mpr ?_
  refine b_hr (h7_readTape h hW) ?_
  rintro _ σ1 ⟨rfl, h1, hS, hT⟩
  obtain ⟨_, _, _, _, _, _, _, to⟩ := hT.obj
  refine (b_getI to rfl).mpr ?_
  exact hr_rt.mpr ⟨rfl, g, c, h1, (cx_lo h.1 hS (by omega)).wk (by omega) (by omega)⟩
/-- findings over the tape, in the rows of the class -/
theorem Cls.find {σ' : AH} {R : List T3} (h : Cls g c σ A) (hS : Sm σ σ' 15 20) (hF : FB σ' 15 0 R) : Cls g c σ' A := by
  obtain ⟨k1, k2, k3, k4, k5, k6, k7, k8, ⟨k9, k9b, ⟨S, k9c⟩, k9d⟩, k10⟩ := h
  have ft : ∀ t, t ≠ 2 → FT t g σ g σ' := fun t ht => ft_sm hS (fun k a b => by rw [k1.2 k (by omega)]; exact Ne.symm ht)
  have o : ∀ k, k < 15 ∨ 20 ≤ k → σ'.1[k]? = σ.1[k]? := hS.1
  exact ⟨lo_tag k1 hS.2.1, by rw [o 0 (by omega)]; exact k2, k3.fr (o 1 (by omega)), k4.fr (ft 1 (by decide)) (o 2 (by omega)), k5.fr (ft 1 (by decide)) (o 3 (by omega)), k6.fr (o 4 (by omega)), k7.fr (ft 1 (by decide)) (o 5 (by omega)) (o 6 (by omega)), k8.fr (o 7 (by omega)), ⟨k9.fr (fun k a b => o k (by omega)), ⟨R, hF⟩, ⟨S, k9c.frame (o 20 (by omega))⟩, k9d.fr (o 21 (by omega)) (o 22 (by omega))⟩, k10.fr (ft 1 (by decide)) (fun i _ => ft _ (by omega))⟩
theorem d7_numbers (h : Cls g c σ A) (hW : StW A) : Hr (f7_numbers (some 0)) σ (CQ g σ 60 2100 (pNumbers A, A)) := by
  unfold f7_numbers pNumbers
  obtain ⟨R0, hF0⟩ := h.2.2.2.2.2.2.2.2.1.2.1
  obtain ⟨_, _, _, _, fo⟩ := hF0.obj
  refine (b_getR h.2.1 rfl).mpr ?_
  refine (b_obj fo).mpr ?_
  refine b_hr (h0_clear hF0) ?_
  rintro _ σ1 ⟨hS1, hF1⟩
  have h1 := h.find hS1 hF1
  refine (b_obj h1.2.1).mpr ?_
  refine b_hr (h7_readTape h1 hW) ?_
  rintro _ σ2 ⟨rfl, h2, hS2, hT2⟩
  have hF2 : FB σ2 15 0 [] := hF1.frame (fun k a b => hS2.1 k (by omega))
  obtain ⟨_, _, _, _, _, _, _, to⟩ := hT2.obj
  refine (b_getR h2.2.1 rfl).mpr ?_
  refine (b_obj to).mpr ?_
  refine b_hr (h6_collectNumbers hT2 hF2 (by omega) (by decide)) ?_
  rintro _ σ3 ⟨hS3, hF3⟩
  have h3 := h2.find hS3 hF3
  obtain ⟨_, _, _, _, fo3⟩ := hF3.obj
  refine (b_getR h3.2.1 rfl).mpr ?_
  refine (b_getI fo3 rfl).mpr ?_
  refine hr_rt.mpr ⟨by simp [fNum], g, c, h3, (((cx_lo h.1 hS1 (by omega)).tr (cx_lo h1.1 hS2 (by omega))).tr (cx_lo h2.1 hS3 (by omega))).wk (by omega) (by omega)⟩
theorem d7_parts {t n : Int32} (h : Cls g c σ A) (hW : StW A) : Hr (f7_parts (some 0) t n) σ (CQ g σ 60 2100 (pParts A t n, A)) := by
  unfold f7_parts pParts
  refine (b_eq (e7_isText _ _)).mpr ?_
  by_cases c1 : ¬ (0 ≤ t ∧ t ≤ 7)
  · rw [decide_eq_false c1, if_pos (show bI false = 0 from rfl), if_neg (fun q => c1 q.1)]
    exact cq_rt rfl h
  have c1 := Classical.not_not.mp c1
  rw [decide_eq_true c1, if_neg (show ¬ bI true = 0 by decide)]
  refine (b_eq (e7_isRow _ _)).mpr ?_
  by_cases c3 : ¬ (2 ≤ n ∧ n ≤ 8)
  · rw [decide_eq_false c3, if_pos (show bI false = 0 from rfl), if_neg (fun q => c3 q.2)]
    exact cq_rt rfl h
  have c3 := Classical.not_not.mp c3
  rw [decide_eq_true c3, if_neg (show ¬ bI true = 0 by decide), if_pos ⟨c1, c3⟩]
  obtain ⟨i, hi, rfl⟩ := (in_nI (m := 7) (by decide)).mp c1
  obtain ⟨m, hm1, hm2, rfl⟩ := (in_lo (l := 2) (m := 8) (by decide) (by decide)).mp c3
  rw [show tn (nI i) = i from nI_clamp (by omega), show tn (nI m) = m from nI_clamp (by omega)]
  obtain ⟨R0, hF0⟩ := h.2.2.2.2.2.2.2.2.1.2.1
  obtain ⟨_, _, _, _, fo⟩ := hF0.obj
  refine (b_getR h.2.1 rfl).mpr ?_
  refine (b_obj fo).mpr ?_
  refine b_hr (h0_clear hF0) ?_
  rintro _ σ1 ⟨hS1, hF1⟩
  have h1 := h.find hS1 hF1
  refine (b_obj h1.2.1).mpr ?_
  refine b_hr (h7_readTape h1 hW) ?_
  rintro _ σ2 ⟨rfl, h2, hS2, hT2⟩
  have hF2 : FB σ2 15 0 [] := hF1.frame (fun k a b => hS2.1 k (by omega))
  obtain ⟨_, _, _, _, _, _, _, to⟩ := hT2.obj
  obtain ⟨fk, q1, q2⟩ := h2.2.2.2.1
  obtain ⟨q, q3, q4, cap, q5⟩ := q2 i (by omega)
  refine (b_getR h2.2.1 rfl).mpr ?_
  refine (b_ldR q1 rfl (by omega) (by decide)).mpr ?_
  rw [q3]
  refine (b_getR h2.2.1 rfl).mpr ?_
  refine (b_obj to).mpr ?_
  have hq23 : 23 ≤ q := Classical.byContradiction fun z => by
    have a1 := q4 q (by omega) (by omega)
    have a2 := h2.1.2 q (by omega)
    omega
  have hkl := q5.len
  refine b_hr (h6_collectParts hT2 q5 hm1 hm2 hF2 (by omega) (by omega) (by decide)) ?_
  rintro _ σ3 ⟨hS3, hF3⟩
  have h3 := h2.find hS3 hF3
  obtain ⟨F, L, P, fo3, -, -, -, fp, -⟩ := id hF3
  refine (b_getR h3.2.1 rfl).mpr ?_
  refine (b_getR fo3 rfl).mpr ?_
  obtain ⟨pa, pm, pz, po, -⟩ := id fp
  refine (b_obj po).mpr ?_
  refine (b_eq (e3_size fp)).mpr ?_
  refine hr_rt.mpr ⟨?_, g, c, h3, (((cx_lo h.1 hS1 (by omega)).tr (cx_lo h1.1 hS2 (by omega))).tr (cx_lo h2.1 hS3 (by omega))).wk (by omega) (by omega)⟩
  show nI _ = nI _
  congr 1
  rw [← ct_beyond (S := hasP (aTape A) (aKept A i) m) (a := (wds (aKept A i)).length) (b := 192) (by omega) (fun k hk => hasP_out (by omega) hk)]
  exact fb_ct_cong fun k _ => sOf_par (by omega) (by omega) k
end CLSD
