abbrev m3_init : MI := (yX3_init, cX3_init, 1, none, 1, 20)
noncomputable def f3_init (t : Option Nat) : Cm (Unit) :=
  bn (oObj t 3) fun _ =>
  bn (oPutL t 3 0 0) fun _ =>
  bn (oPutL t 3 1 0) fun _ =>
  bn (oPutL t 3 2 0) fun _ =>
  rt (())
theorem n3_init (t : Option Nat) : Mn (f3_init t) := by
  unfold f3_init
  repeat' first | with_reducible exact mn_rt | with_reducible exact mn_getI | with_reducible exact mn_getR | with_reducible exact mn_getL | with_reducible exact mn_putI | with_reducible exact mn_putR | with_reducible exact mn_putL | with_reducible exact mn_ld | with_reducible exact mn_ldR | with_reducible exact mn_st | with_reducible exact mn_stZ | with_reducible exact mn_stR | with_reducible exact mn_len | with_reducible exact mn_newO | with_reducible exact mn_newA | with_reducible exact mn_newR | with_reducible exact mn_clone | with_reducible exact mn_copy | with_reducible exact mn_obj | with_reducible exact mn_z | with_reducible exact hrec _ | with_reducible refine mn_ite ?_ ?_ | with_reducible refine mn_bn ?_ (fun _ => ?_) | with_reducible refine mn_sum (fun _ => ?_) (fun _ => ?_) _
abbrev m0_init : MI := (yX0_init, cX0_init, 3, none, 2, 40)
noncomputable def f0_init (t : Option Nat) (a1 : Int32) : Cm (Unit) :=
  bn (oObj t 0) fun _ =>
  bn (oNewO 3 [.long 0, .long 0, .long 0]) fun v5 =>
  bn (oObj v5 3) fun _ =>
  bn (f3_init v5 ) fun _ =>
  bn (oPutR t 0 3 v5) fun _ =>
  bn (oPutI t 0 4 0) fun _ =>
  bn (oNewA 0 (jmax a1 0)) fun v28 =>
  bn (oPutR t 0 0 v28) fun _ =>
  bn (oNewA 0 (jmax a1 0)) fun v35 =>
  bn (oPutR t 0 1 v35) fun _ =>
  bn (oNewA 0 (jmax a1 0)) fun v42 =>
  bn (oPutR t 0 2 v42) fun _ =>
  rt (())
theorem n0_init (t : Option Nat) (a1 : Int32) : Mn (f0_init t a1) := by
  unfold f0_init
  repeat' first | with_reducible exact mn_rt | with_reducible exact mn_getI | with_reducible exact mn_getR | with_reducible exact mn_getL | with_reducible exact mn_putI | with_reducible exact mn_putR | with_reducible exact mn_putL | with_reducible exact mn_ld | with_reducible exact mn_ldR | with_reducible exact mn_st | with_reducible exact mn_stZ | with_reducible exact mn_stR | with_reducible exact mn_len | with_reducible exact mn_newO | with_reducible exact mn_newA | with_reducible exact mn_newR | with_reducible exact mn_clone | with_reducible exact mn_copy | with_reducible exact mn_obj | with_reducible exact mn_z | with_reducible exact n3_init _ | with_reducible exact hrec _ | with_reducible refine mn_ite ?_ ?_ | with_reducible refine mn_bn ?_ (fun _ => ?_) | with_reducible refine mn_sum (fun _ => ?_) (fun _ => ?_) _
abbrev m1_init : MI := (yX1_init, cX1_init, 7, none, 1, 20)
noncomputable def f1_init (t : Option Nat) (a1 : Int32) (a2 : Option Nat) (a3 : Int32) (a4 : Int32) (a5 : Int32) (a6 : Int32) : Cm (Unit) :=
  bn (oObj t 1) fun _ =>
  bn (oPutI t 1 0 a1) fun _ =>
  bn (oPutR t 1 1 a2) fun _ =>
  bn (oPutI t 1 2 a3) fun _ =>
  bn (oPutI t 1 3 a4) fun _ =>
  bn (oPutI t 1 4 a5) fun _ =>
  bn (oPutI t 1 5 a6) fun _ =>
  rt (())
theorem n1_init (t : Option Nat) (a1 : Int32) (a2 : Option Nat) (a3 : Int32) (a4 : Int32) (a5 : Int32) (a6 : Int32) : Mn (f1_init t a1 a2 a3 a4 a5 a6) := by
  unfold f1_init
  repeat' first | with_reducible exact mn_rt | with_reducible exact mn_getI | with_reducible exact mn_getR | with_reducible exact mn_getL | with_reducible exact mn_putI | with_reducible exact mn_putR | with_reducible exact mn_putL | with_reducible exact mn_ld | with_reducible exact mn_ldR | with_reducible exact mn_st | with_reducible exact mn_stZ | with_reducible exact mn_stR | with_reducible exact mn_len | with_reducible exact mn_newO | with_reducible exact mn_newA | with_reducible exact mn_newR | with_reducible exact mn_clone | with_reducible exact mn_copy | with_reducible exact mn_obj | with_reducible exact mn_z | with_reducible exact hrec _ | with_reducible refine mn_ite ?_ ?_ | with_reducible refine mn_bn ?_ (fun _ => ?_) | with_reducible refine mn_sum (fun _ => ?_) (fun _ => ?_) _
abbrev m5_init : MI := (yX5_init, cX5_init, 1, none, 1, 20)
noncomputable def f5_init (t : Option Nat) : Cm (Unit) :=
  bn (oObj t 5) fun _ =>
  bn (oNewR 5 21) fun v7 =>
  bn (oPutR t 5 0 v7) fun _ =>
  bn (oPutI t 5 1 0) fun _ =>
  rt (())
theorem n5_init (t : Option Nat) : Mn (f5_init t) := by
  unfold f5_init
  repeat' first | with_reducible exact mn_rt | with_reducible exact mn_getI | with_reducible exact mn_getR | with_reducible exact mn_getL | with_reducible exact mn_putI | with_reducible exact mn_putR | with_reducible exact mn_putL | with_reducible exact mn_ld | with_reducible exact mn_ldR | with_reducible exact mn_st | with_reducible exact mn_stZ | with_reducible exact mn_stR | with_reducible exact mn_len | with_reducible exact mn_newO | with_reducible exact mn_newA | with_reducible exact mn_newR | with_reducible exact mn_clone | with_reducible exact mn_copy | with_reducible exact mn_obj | with_reducible exact mn_z | with_reducible exact hrec _ | with_reducible refine mn_ite ?_ ?_ | with_reducible refine mn_bn ?_ (fun _ => ?_) | with_reducible refine mn_sum (fun _ => ?_) (fun _ => ?_) _
abbrev m6_init : MI := (yX6_init, cX6_init, 4, none, 1, 21)
noncomputable def f6_init (t : Option Nat) (a1 : Int32) : Cm (Unit) :=
  bn (oObj t 6) fun _ =>
  bn (oPutI t 6 3 0) fun _ =>
  bn (oPutI t 6 7 0) fun _ =>
  bn (oNewA 0 (jmax a1 0)) fun v22 =>
  bn (oPutR t 6 0 v22) fun _ =>
  bn (oNewA 0 (jmax a1 0)) fun v29 =>
  bn (oPutR t 6 1 v29) fun _ =>
  bn (oNewA 0 (jmax a1 0)) fun v36 =>
  bn (oPutR t 6 2 v36) fun _ =>
  bn (oNewA 0 (((jmax a1 0) + 1) / 2)) fun v49 =>
  bn (oPutR t 6 4 v49) fun _ =>
  bn (oNewA 0 (((jmax a1 0) + 1) / 2)) fun v56 =>
  bn (oPutR t 6 5 v56) fun _ =>
  bn (oNewA 0 (((jmax a1 0) + 1) / 2)) fun v63 =>
  bn (oPutR t 6 6 v63) fun _ =>
  rt (())
theorem n6_init (t : Option Nat) (a1 : Int32) : Mn (f6_init t a1) := by
  unfold f6_init
  repeat' first | with_reducible exact mn_rt | with_reducible exact mn_getI | with_reducible exact mn_getR | with_reducible exact mn_getL | with_reducible exact mn_putI | with_reducible exact mn_putR | with_reducible exact mn_putL | with_reducible exact mn_ld | with_reducible exact mn_ldR | with_reducible exact mn_st | with_reducible exact mn_stZ | with_reducible exact mn_stR | with_reducible exact mn_len | with_reducible exact mn_newO | with_reducible exact mn_newA | with_reducible exact mn_newR | with_reducible exact mn_clone | with_reducible exact mn_copy | with_reducible exact mn_obj | with_reducible exact mn_z | with_reducible exact hrec _ | with_reducible refine mn_ite ?_ ?_ | with_reducible refine mn_bn ?_ (fun _ => ?_) | with_reducible refine mn_sum (fun _ => ?_) (fun _ => ?_) _
abbrev m7_init : MI := (yX7_init, cX7_init, 4, none, 3, 62)
noncomputable def l7_init_134 (t : Option Nat) (p1 : Option Nat) (rec : Int32 → Cm (Unit)) (x134 : Int32) : Cm (Unit) :=
  if 8 ≤ x134 then
    rt ()
  else
    bn (oGetR t 7 3) fun v141 =>
    bn (oStR 2 6 v141 x134 p1) fun _ =>
    rec (x134 + 1)
noncomputable def l7_init_169 (t : Option Nat) (p2 : Option Nat) (rec : Int32 → Cm (Unit)) (x169 : Int32) : Cm (Unit) :=
  if 8 ≤ x169 then
    rt ()
  else
    bn (oGetR t 7 4) fun v176 =>
    bn (oStR 3 1 v176 x169 p2) fun _ =>
    rec (x169 + 1)
noncomputable def f7_init (t : Option Nat) : Cm (Unit) :=
  bn (oObj t 7) fun _ =>
  bn (oPutI t 7 0 0) fun _ =>
  bn (oNewA 0 300) fun v13 =>
  bn (oPutR t 7 1 v13) fun _ =>
  bn (oPutI t 7 2 0) fun _ =>
  bn (oNewR 2 8) fun v26 =>
  bn (oPutR t 7 3 v26) fun _ =>
  bn (oNewR 3 8) fun v35 =>
  bn (oPutR t 7 4 v35) fun _ =>
  bn (oNewA 1 800) fun v45 =>
  bn (oPutR t 7 5 v45) fun _ =>
  bn (oNewO 5 [.null, .int 0]) fun v51 =>
  bn (oObj v51 5) fun _ =>
  bn (f5_init v51 ) fun _ =>
  bn (oPutR t 7 6 v51) fun _ =>
  bn (oNewR 4 60) fun v64 =>
  bn (oPutR t 7 7 v64) fun _ =>
  bn (oPutI t 7 8 0) fun _ =>
  bn (oNewO 6 [.null, .null, .null, .int 0, .null, .null, .null, .int 0]) fun v76 =>
  bn (oObj v76 6) fun _ =>
  bn (f6_init v76 300) fun _ =>
  bn (oPutR t 7 9 v76) fun _ =>
  bn (oNewO 0 [.null, .null, .null, .null, .int 0]) fun v90 =>
  bn (oObj v90 0) fun _ =>
  bn (f0_init v90 0) fun _ =>
  bn (oPutR t 7 10 v90) fun _ =>
  bn (oNewO 3 [.long 0, .long 0, .long 0]) fun v102 =>
  bn (oObj v102 3) fun _ =>
  bn (f3_init v102 ) fun _ =>
  bn (oPutR t 7 11 v102) fun _ =>
  bn (oNewO 5 [.null, .int 0]) fun v113 =>
  bn (oObj v113 5) fun _ =>
  bn (f5_init v113 ) fun _ =>
  bn (oPutR t 7 12 v113) fun _ =>
  bn (oNewO 6 [.null, .null, .null, .int 0, .null, .null, .null, .int 0]) fun v123 =>
  bn (oObj v123 6) fun _ =>
  bn (f6_init v123 0) fun _ =>
  bn (fx (l7_init_134 t v123) FUEL 0) (fun y153 =>
    bn (oNewO 1 [.int 0, .null, .int 0, .int 0, .int 0, .int 0]) fun v153 =>
    bn (oObj v153 1) fun _ =>
    bn (f1_init v153 0 none 0 2 1 0) fun _ =>
    bn (fx (l7_init_169 t v153) FUEL 0) (fun y188 =>
      rt (())
    )
  )
theorem k7_init_134 (t : Option Nat) (p1 : Option Nat) (n : Nat) (x : Int32) : Mn (fx (l7_init_134 t p1) n x) := by
  refine mn_fx (fun rec hrec x => ?_) n x
  unfold l7_init_134
  repeat' first | with_reducible exact mn_rt | with_reducible exact mn_getI | with_reducible exact mn_getR | with_reducible exact mn_getL | with_reducible exact mn_putI | with_reducible exact mn_putR | with_reducible exact mn_putL | with_reducible exact mn_ld | with_reducible exact mn_ldR | with_reducible exact mn_st | with_reducible exact mn_stZ | with_reducible exact mn_stR | with_reducible exact mn_len | with_reducible exact mn_newO | with_reducible exact mn_newA | with_reducible exact mn_newR | with_reducible exact mn_clone | with_reducible exact mn_copy | with_reducible exact mn_obj | with_reducible exact mn_z | with_reducible exact n0_init _ _ | with_reducible exact n1_init _ _ _ _ _ _ _ | with_reducible exact n3_init _ | with_reducible exact n5_init _ | with_reducible exact n6_init _ _ | with_reducible exact hrec _ | with_reducible refine mn_ite ?_ ?_ | with_reducible refine mn_bn ?_ (fun _ => ?_) | with_reducible refine mn_sum (fun _ => ?_) (fun _ => ?_) _
theorem k7_init_169 (t : Option Nat) (p2 : Option Nat) (n : Nat) (x : Int32) : Mn (fx (l7_init_169 t p2) n x) := by
  refine mn_fx (fun rec hrec x => ?_) n x
  unfold l7_init_169
  repeat' first | with_reducible exact mn_rt | with_reducible exact mn_getI | with_reducible exact mn_getR | with_reducible exact mn_getL | with_reducible exact mn_putI | with_reducible exact mn_putR | with_reducible exact mn_putL | with_reducible exact mn_ld | with_reducible exact mn_ldR | with_reducible exact mn_st | with_reducible exact mn_stZ | with_reducible exact mn_stR | with_reducible exact mn_len | with_reducible exact mn_newO | with_reducible exact mn_newA | with_reducible exact mn_newR | with_reducible exact mn_clone | with_reducible exact mn_copy | with_reducible exact mn_obj | with_reducible exact mn_z | with_reducible exact n0_init _ _ | with_reducible exact n1_init _ _ _ _ _ _ _ | with_reducible exact n3_init _ | with_reducible exact n5_init _ | with_reducible exact n6_init _ _ | with_reducible exact hrec _ | with_reducible exact k7_init_134 _ _ _ _ | with_reducible refine mn_ite ?_ ?_ | with_reducible refine mn_bn ?_ (fun _ => ?_) | with_reducible refine mn_sum (fun _ => ?_) (fun _ => ?_) _
theorem n7_init (t : Option Nat) : Mn (f7_init t) := by
  unfold f7_init
  repeat' first | with_reducible exact mn_rt | with_reducible exact mn_getI | with_reducible exact mn_getR | with_reducible exact mn_getL | with_reducible exact mn_putI | with_reducible exact mn_putR | with_reducible exact mn_putL | with_reducible exact mn_ld | with_reducible exact mn_ldR | with_reducible exact mn_st | with_reducible exact mn_stZ | with_reducible exact mn_stR | with_reducible exact mn_len | with_reducible exact mn_newO | with_reducible exact mn_newA | with_reducible exact mn_newR | with_reducible exact mn_clone | with_reducible exact mn_copy | with_reducible exact mn_obj | with_reducible exact mn_z | with_reducible exact n0_init _ _ | with_reducible exact n1_init _ _ _ _ _ _ _ | with_reducible exact n3_init _ | with_reducible exact n5_init _ | with_reducible exact n6_init _ _ | with_reducible exact hrec _ | with_reducible exact k7_init_134 _ _ _ _ | with_reducible exact k7_init_169 _ _ _ _ | with_reducible refine mn_ite ?_ ?_ | with_reducible refine mn_bn ?_ (fun _ => ?_) | with_reducible refine mn_sum (fun _ => ?_) (fun _ => ?_) _
abbrev m7_within : MI := (yX7_within, cX7_within, 3, (some .boolean), 0, 0)
noncomputable def f7_within (a1 : Int32) (a2 : Int32) (a3 : Int32) : Cm (Int32) :=
  if a1 < a2 then
    rt (0)
  else
    if a3 < a1 then
      rt (0)
    else
      rt (1)
theorem n7_within (a1 : Int32) (a2 : Int32) (a3 : Int32) : Mn (f7_within a1 a2 a3) := by
  unfold f7_within
  repeat' first | with_reducible exact mn_rt | with_reducible exact mn_getI | with_reducible exact mn_getR | with_reducible exact mn_getL | with_reducible exact mn_putI | with_reducible exact mn_putR | with_reducible exact mn_putL | with_reducible exact mn_ld | with_reducible exact mn_ldR | with_reducible exact mn_st | with_reducible exact mn_stZ | with_reducible exact mn_stR | with_reducible exact mn_len | with_reducible exact mn_newO | with_reducible exact mn_newA | with_reducible exact mn_newR | with_reducible exact mn_clone | with_reducible exact mn_copy | with_reducible exact mn_obj | with_reducible exact mn_z | with_reducible exact hrec _ | with_reducible refine mn_ite ?_ ?_ | with_reducible refine mn_bn ?_ (fun _ => ?_) | with_reducible refine mn_sum (fun _ => ?_) (fun _ => ?_) _
abbrev m7_isKind : MI := (yX7_isKind, cX7_isKind, 1, (some .boolean), 1, 22)
noncomputable def f7_isKind (a1 : Int32) : Cm (Int32) :=
  bn (f7_within a1 0 7) fun v4 =>
  bn (oZ v4) fun _ =>
  rt (v4)
theorem n7_isKind (a1 : Int32) : Mn (f7_isKind a1) := by
  unfold f7_isKind
  repeat' first | with_reducible exact mn_rt | with_reducible exact mn_getI | with_reducible exact mn_getR | with_reducible exact mn_getL | with_reducible exact mn_putI | with_reducible exact mn_putR | with_reducible exact mn_putL | with_reducible exact mn_ld | with_reducible exact mn_ldR | with_reducible exact mn_st | with_reducible exact mn_stZ | with_reducible exact mn_stR | with_reducible exact mn_len | with_reducible exact mn_newO | with_reducible exact mn_newA | with_reducible exact mn_newR | with_reducible exact mn_clone | with_reducible exact mn_copy | with_reducible exact mn_obj | with_reducible exact mn_z | with_reducible exact n7_within _ _ _ | with_reducible exact hrec _ | with_reducible refine mn_ite ?_ ?_ | with_reducible refine mn_bn ?_ (fun _ => ?_) | with_reducible refine mn_sum (fun _ => ?_) (fun _ => ?_) _
abbrev m7_isPerson : MI := (yX7_isPerson, cX7_isPerson, 1, (some .boolean), 1, 22)
noncomputable def f7_isPerson (a1 : Int32) : Cm (Int32) :=
  bn (f7_within a1 0 9) fun v4 =>
  bn (oZ v4) fun _ =>
  rt (v4)
theorem n7_isPerson (a1 : Int32) : Mn (f7_isPerson a1) := by
  unfold f7_isPerson
  repeat' first | with_reducible exact mn_rt | with_reducible exact mn_getI | with_reducible exact mn_getR | with_reducible exact mn_getL | with_reducible exact mn_putI | with_reducible exact mn_putR | with_reducible exact mn_putL | with_reducible exact mn_ld | with_reducible exact mn_ldR | with_reducible exact mn_st | with_reducible exact mn_stZ | with_reducible exact mn_stR | with_reducible exact mn_len | with_reducible exact mn_newO | with_reducible exact mn_newA | with_reducible exact mn_newR | with_reducible exact mn_clone | with_reducible exact mn_copy | with_reducible exact mn_obj | with_reducible exact mn_z | with_reducible exact n7_within _ _ _ | with_reducible exact hrec _ | with_reducible refine mn_ite ?_ ?_ | with_reducible refine mn_bn ?_ (fun _ => ?_) | with_reducible refine mn_sum (fun _ => ?_) (fun _ => ?_) _
abbrev m7_pairOf : MI := (yX7_pairOf, cX7_pairOf, 3, (some .int), 0, 0)
noncomputable def f7_pairOf (a1 : Int32) (a2 : Int32) (a3 : Int32) : Cm (Int32) :=
  rt (((((a1 * 10) + a2) * 10) + a3))
theorem n7_pairOf (a1 : Int32) (a2 : Int32) (a3 : Int32) : Mn (f7_pairOf a1 a2 a3) := by
  unfold f7_pairOf
  repeat' first | with_reducible exact mn_rt | with_reducible exact mn_getI | with_reducible exact mn_getR | with_reducible exact mn_getL | with_reducible exact mn_putI | with_reducible exact mn_putR | with_reducible exact mn_putL | with_reducible exact mn_ld | with_reducible exact mn_ldR | with_reducible exact mn_st | with_reducible exact mn_stZ | with_reducible exact mn_stR | with_reducible exact mn_len | with_reducible exact mn_newO | with_reducible exact mn_newA | with_reducible exact mn_newR | with_reducible exact mn_clone | with_reducible exact mn_copy | with_reducible exact mn_obj | with_reducible exact mn_z | with_reducible exact hrec _ | with_reducible refine mn_ite ?_ ?_ | with_reducible refine mn_bn ?_ (fun _ => ?_) | with_reducible refine mn_sum (fun _ => ?_) (fun _ => ?_) _
abbrev m7_allow : MI := (yX7_allow, cX7_allow, 6, (some .boolean), 2, 42)
noncomputable def f7_allow (t : Option Nat) (a1 : Int32) (a2 : Int32) (a3 : Int32) (a4 : Int32) : Cm (Int32) :=
  bn (f7_isKind a1) fun v1 =>
  if v1 = 0 then
    rt (0)
  else
    bn (f7_isPerson a2) fun v8 =>
    if v8 = 0 then
      rt (0)
    else
      bn (f7_isPerson a3) fun v15 =>
      if v15 = 0 then
        rt (0)
      else
        bn (f7_pairOf a1 a2 a3) fun v26 =>
        bn (oGetR t 7 5) fun v32 =>
        bn (oLd 1 v32 v26) fun v37 =>
        if v37 = a4 then
          rt (0)
        else
          bn (oGetR t 7 5) fun v46 =>
          bn (oStZ v46 v26 a4) fun _ =>
          rt (1)
theorem n7_allow (t : Option Nat) (a1 : Int32) (a2 : Int32) (a3 : Int32) (a4 : Int32) : Mn (f7_allow t a1 a2 a3 a4) := by
  unfold f7_allow
  repeat' first | with_reducible exact mn_rt | with_reducible exact mn_getI | with_reducible exact mn_getR | with_reducible exact mn_getL | with_reducible exact mn_putI | with_reducible exact mn_putR | with_reducible exact mn_putL | with_reducible exact mn_ld | with_reducible exact mn_ldR | with_reducible exact mn_st | with_reducible exact mn_stZ | with_reducible exact mn_stR | with_reducible exact mn_len | with_reducible exact mn_newO | with_reducible exact mn_newA | with_reducible exact mn_newR | with_reducible exact mn_clone | with_reducible exact mn_copy | with_reducible exact mn_obj | with_reducible exact mn_z | with_reducible exact n7_isKind _ | with_reducible exact n7_isPerson _ | with_reducible exact n7_pairOf _ _ _ | with_reducible exact hrec _ | with_reducible refine mn_ite ?_ ?_ | with_reducible refine mn_bn ?_ (fun _ => ?_) | with_reducible refine mn_sum (fun _ => ?_) (fun _ => ?_) _
abbrev m7_letterAt : MI := (yX7_letterAt, cX7_letterAt, 2, (some (.object "DoorGuard$Letter")), 1, 22)
noncomputable def f7_letterAt (t : Option Nat) (a1 : Int32) : Cm (Option Nat) :=
  bn (oGetI t 7 8) fun v3 =>
  bn (f7_within a1 0 (v3 - 1)) fun v8 =>
  if v8 = 0 then
    rt (none)
  else
    bn (oGetR t 7 7) fun v15 =>
    bn (oLdR 4 v15 a1) fun v19 =>
    rt (v19)
theorem n7_letterAt (t : Option Nat) (a1 : Int32) : Mn (f7_letterAt t a1) := by
  unfold f7_letterAt
  repeat' first | with_reducible exact mn_rt | with_reducible exact mn_getI | with_reducible exact mn_getR | with_reducible exact mn_getL | with_reducible exact mn_putI | with_reducible exact mn_putR | with_reducible exact mn_putL | with_reducible exact mn_ld | with_reducible exact mn_ldR | with_reducible exact mn_st | with_reducible exact mn_stZ | with_reducible exact mn_stR | with_reducible exact mn_len | with_reducible exact mn_newO | with_reducible exact mn_newA | with_reducible exact mn_newR | with_reducible exact mn_clone | with_reducible exact mn_copy | with_reducible exact mn_obj | with_reducible exact mn_z | with_reducible exact n7_within _ _ _ | with_reducible exact hrec _ | with_reducible refine mn_ite ?_ ?_ | with_reducible refine mn_bn ?_ (fun _ => ?_) | with_reducible refine mn_sum (fun _ => ?_) (fun _ => ?_) _
abbrev m7_answer : MI := (yX7_answer, cX7_answer, 4, (some .boolean), 2, 43)
noncomputable def f7_answer (t : Option Nat) (a1 : Int32) (a2 : Int32) : Cm (Int32) :=
  bn (oObj t 7) fun _ =>
  bn (f7_letterAt t a1) fun v2 =>
  if v2 = none then
    rt (0)
  else
    bn (oGetI v2 2 8) fun v11 =>
    if v11 = 1 then
      if a2 = 0 then
        bn (oPutI v2 2 8 2) fun _ =>
        rt (1)
      else
        bn (oPutI v2 2 8 0) fun _ =>
        rt (1)
    else
      rt (0)
theorem n7_answer (t : Option Nat) (a1 : Int32) (a2 : Int32) : Mn (f7_answer t a1 a2) := by
  unfold f7_answer
  repeat' first | with_reducible exact mn_rt | with_reducible exact mn_getI | with_reducible exact mn_getR | with_reducible exact mn_getL | with_reducible exact mn_putI | with_reducible exact mn_putR | with_reducible exact mn_putL | with_reducible exact mn_ld | with_reducible exact mn_ldR | with_reducible exact mn_st | with_reducible exact mn_stZ | with_reducible exact mn_stR | with_reducible exact mn_len | with_reducible exact mn_newO | with_reducible exact mn_newA | with_reducible exact mn_newR | with_reducible exact mn_clone | with_reducible exact mn_copy | with_reducible exact mn_obj | with_reducible exact mn_z | with_reducible exact n7_letterAt _ _ | with_reducible exact hrec _ | with_reducible refine mn_ite ?_ ?_ | with_reducible refine mn_bn ?_ (fun _ => ?_) | with_reducible refine mn_sum (fun _ => ?_) (fun _ => ?_) _
abbrev m7_append : MI := (yX7_append, cX7_append, 4, none, 0, 0)
noncomputable def l7_append_3 (t : Option Nat) (p1 : Int32) (rec : Int32 → Cm (Unit)) (x3 : Int32) : Cm (Unit) :=
  if x3 < 0 then
    rt ()
  else
    if ((jushr p1 x3) &&& 255) = 0 then
      rec (x3 + (-8))
    else
      bn (oGetI t 7 2) fun v20 =>
      bn (oGetR t 7 1) fun v24 =>
      bn (oLen 0 v24) fun v27 =>
      if v27 ≤ v20 then
        rec (x3 + (-8))
      else
        bn (oGetR t 7 1) fun v32 =>
        bn (oGetI t 7 2) fun v36 =>
        bn (oSt 0 v32 v36 ((jushr p1 x3) &&& 255)) fun _ =>
        bn (oGetI t 7 2) fun v43 =>
        bn (oPutI t 7 2 (v43 + 1)) fun _ =>
        rec (x3 + (-8))
noncomputable def f7_append (t : Option Nat) (a1 : Int32) : Cm (Unit) :=
  bn (fx (l7_append_3 t a1) FUEL 24) (fun y57 =>
    rt (())
  )
theorem k7_append_3 (t : Option Nat) (p1 : Int32) (n : Nat) (x : Int32) : Mn (fx (l7_append_3 t p1) n x) := by
  refine mn_fx (fun rec hrec x => ?_) n x
  unfold l7_append_3
  repeat' first | with_reducible exact mn_rt | with_reducible exact mn_getI | with_reducible exact mn_getR | with_reducible exact mn_getL | with_reducible exact mn_putI | with_reducible exact mn_putR | with_reducible exact mn_putL | with_reducible exact mn_ld | with_reducible exact mn_ldR | with_reducible exact mn_st | with_reducible exact mn_stZ | with_reducible exact mn_stR | with_reducible exact mn_len | with_reducible exact mn_newO | with_reducible exact mn_newA | with_reducible exact mn_newR | with_reducible exact mn_clone | with_reducible exact mn_copy | with_reducible exact mn_obj | with_reducible exact mn_z | with_reducible exact hrec _ | with_reducible refine mn_ite ?_ ?_ | with_reducible refine mn_bn ?_ (fun _ => ?_) | with_reducible refine mn_sum (fun _ => ?_) (fun _ => ?_) _
theorem n7_append (t : Option Nat) (a1 : Int32) : Mn (f7_append t a1) := by
  unfold f7_append
  repeat' first | with_reducible exact mn_rt | with_reducible exact mn_getI | with_reducible exact mn_getR | with_reducible exact mn_getL | with_reducible exact mn_putI | with_reducible exact mn_putR | with_reducible exact mn_putL | with_reducible exact mn_ld | with_reducible exact mn_ldR | with_reducible exact mn_st | with_reducible exact mn_stZ | with_reducible exact mn_stR | with_reducible exact mn_len | with_reducible exact mn_newO | with_reducible exact mn_newA | with_reducible exact mn_newR | with_reducible exact mn_clone | with_reducible exact mn_copy | with_reducible exact mn_obj | with_reducible exact mn_z | with_reducible exact hrec _ | with_reducible exact k7_append_3 _ _ _ _ | with_reducible refine mn_ite ?_ ?_ | with_reducible refine mn_bn ?_ (fun _ => ?_) | with_reducible refine mn_sum (fun _ => ?_) (fun _ => ?_) _
abbrev m7_at : MI := (yX7_at, cX7_at, 6, (some .int), 2, 43)
noncomputable def f7_at (t : Option Nat) (a1 : Int32) (a2 : Int32) (a3 : Int32) : Cm (Int32) :=
  bn (oObj t 7) fun _ =>
  bn (f7_letterAt t a1) fun v2 =>
  if v2 = none then
    rt ((-1))
  else
    bn (α := Option Nat) (
      if a3 = 0 then
        bn (oGetR v2 2 4) fun v28 =>
        rt v28
      else
        bn (oGetR v2 2 10) fun v20 =>
        rt v20
    ) (fun y31 =>
      bn (oLen 0 y31) fun v37 =>
      bn (f7_within a2 0 (v37 - 1)) fun v40 =>
      if v40 = 0 then
        rt ((-1))
      else
        bn (oLd 0 y31 a2) fun v49 =>
        rt (v49)
    )
theorem n7_at (t : Option Nat) (a1 : Int32) (a2 : Int32) (a3 : Int32) : Mn (f7_at t a1 a2 a3) := by
  unfold f7_at
  repeat' first | with_reducible exact mn_rt | with_reducible exact mn_getI | with_reducible exact mn_getR | with_reducible exact mn_getL | with_reducible exact mn_putI | with_reducible exact mn_putR | with_reducible exact mn_putL | with_reducible exact mn_ld | with_reducible exact mn_ldR | with_reducible exact mn_st | with_reducible exact mn_stZ | with_reducible exact mn_stR | with_reducible exact mn_len | with_reducible exact mn_newO | with_reducible exact mn_newA | with_reducible exact mn_newR | with_reducible exact mn_clone | with_reducible exact mn_copy | with_reducible exact mn_obj | with_reducible exact mn_z | with_reducible exact n7_letterAt _ _ | with_reducible exact n7_within _ _ _ | with_reducible exact hrec _ | with_reducible refine mn_ite ?_ ?_ | with_reducible refine mn_bn ?_ (fun _ => ?_) | with_reducible refine mn_sum (fun _ => ?_) (fun _ => ?_) _
abbrev m7_bytesOf : MI := (yX7_bytesOf, cX7_bytesOf, 3, (some .int), 0, 0)
noncomputable def l7_bytesOf_5 (p0 : Int32) (rec : (Int32 × Int32) → Cm (Int32)) (x5 : Int32 × Int32) : Cm (Int32) :=
  if x5.2 < 0 then
    rt x5.1
  else
    if ((jushr p0 x5.2) &&& 255) = 0 then
      rec (x5.1, (x5.2 + (-8)))
    else
      rec ((x5.1 + 1), (x5.2 + (-8)))
noncomputable def f7_bytesOf (a1 : Int32) : Cm (Int32) :=
  bn (fx (l7_bytesOf_5 a1) FUEL (0, 24)) (fun y28 =>
    rt (y28)
  )
theorem k7_bytesOf_5 (p0 : Int32) (n : Nat) (x : Int32 × Int32) : Mn (fx (l7_bytesOf_5 p0) n x) := by
  refine mn_fx (fun rec hrec x => ?_) n x
  unfold l7_bytesOf_5
  repeat' first | with_reducible exact mn_rt | with_reducible exact mn_getI | with_reducible exact mn_getR | with_reducible exact mn_getL | with_reducible exact mn_putI | with_reducible exact mn_putR | with_reducible exact mn_putL | with_reducible exact mn_ld | with_reducible exact mn_ldR | with_reducible exact mn_st | with_reducible exact mn_stZ | with_reducible exact mn_stR | with_reducible exact mn_len | with_reducible exact mn_newO | with_reducible exact mn_newA | with_reducible exact mn_newR | with_reducible exact mn_clone | with_reducible exact mn_copy | with_reducible exact mn_obj | with_reducible exact mn_z | with_reducible exact hrec _ | with_reducible refine mn_ite ?_ ?_ | with_reducible refine mn_bn ?_ (fun _ => ?_) | with_reducible refine mn_sum (fun _ => ?_) (fun _ => ?_) _
theorem n7_bytesOf (a1 : Int32) : Mn (f7_bytesOf a1) := by
  unfold f7_bytesOf
  repeat' first | with_reducible exact mn_rt | with_reducible exact mn_getI | with_reducible exact mn_getR | with_reducible exact mn_getL | with_reducible exact mn_putI | with_reducible exact mn_putR | with_reducible exact mn_putL | with_reducible exact mn_ld | with_reducible exact mn_ldR | with_reducible exact mn_st | with_reducible exact mn_stZ | with_reducible exact mn_stR | with_reducible exact mn_len | with_reducible exact mn_newO | with_reducible exact mn_newA | with_reducible exact mn_newR | with_reducible exact mn_clone | with_reducible exact mn_copy | with_reducible exact mn_obj | with_reducible exact mn_z | with_reducible exact hrec _ | with_reducible exact k7_bytesOf_5 _ _ _ | with_reducible refine mn_ite ?_ ?_ | with_reducible refine mn_bn ?_ (fun _ => ?_) | with_reducible refine mn_sum (fun _ => ?_) (fun _ => ?_) _
abbrev m3_put : MI := (yX3_put, cX3_put, 4, none, 0, 0)
noncomputable def f3_put (t : Option Nat) (a1 : Int32) : Cm (Unit) :=
  if 0 ≤ a1 then
    if (jshr a1 6) = 0 then
      bn (oGetL t 3 0) fun v46 =>
      bn (oPutL t 3 0 (v46 ||| (jlshl 1 (a1 &&& 63)))) fun _ =>
      rt (())
    else
      if (jshr a1 6) = 1 then
        bn (oGetL t 3 1) fun v59 =>
        bn (oPutL t 3 1 (v59 ||| (jlshl 1 (a1 &&& 63)))) fun _ =>
        rt (())
      else
        if (jshr a1 6) = 2 then
          bn (oGetL t 3 2) fun v72 =>
          bn (oPutL t 3 2 (v72 ||| (jlshl 1 (a1 &&& 63)))) fun _ =>
          rt (())
        else
          rt (())
  else
    rt (())
theorem n3_put (t : Option Nat) (a1 : Int32) : Mn (f3_put t a1) := by
  unfold f3_put
  repeat' first | with_reducible exact mn_rt | with_reducible exact mn_getI | with_reducible exact mn_getR | with_reducible exact mn_getL | with_reducible exact mn_putI | with_reducible exact mn_putR | with_reducible exact mn_putL | with_reducible exact mn_ld | with_reducible exact mn_ldR | with_reducible exact mn_st | with_reducible exact mn_stZ | with_reducible exact mn_stR | with_reducible exact mn_len | with_reducible exact mn_newO | with_reducible exact mn_newA | with_reducible exact mn_newR | with_reducible exact mn_clone | with_reducible exact mn_copy | with_reducible exact mn_obj | with_reducible exact mn_z | with_reducible exact hrec _ | with_reducible refine mn_ite ?_ ?_ | with_reducible refine mn_bn ?_ (fun _ => ?_) | with_reducible refine mn_sum (fun _ => ?_) (fun _ => ?_) _
abbrev m0_put : MI := (yX0_put, cX0_put, 4, none, 1, 23)
noncomputable def f0_put (t : Option Nat) (a1 : Int32) (a2 : Int32) (a3 : Int32) : Cm (Unit) :=
  bn (oGetI t 0 4) fun v1 =>
  bn (oGetR t 0 0) fun v5 =>
  bn (oLen 0 v5) fun v8 =>
  bn (α := Unit) (
    if v8 ≤ v1 then
      rt ()
    else
      bn (oGetR t 0 0) fun v13 =>
      bn (oGetI t 0 4) fun v17 =>
      bn (oSt 0 v13 v17 a1) fun _ =>
      bn (oGetR t 0 1) fun v23 =>
      bn (oGetI t 0 4) fun v27 =>
      bn (oSt 0 v23 v27 a2) fun _ =>
      bn (oGetR t 0 2) fun v33 =>
      bn (oGetI t 0 4) fun v37 =>
      bn (oSt 0 v33 v37 a3) fun _ =>
      rt ()
  ) (fun y42 =>
    bn (oGetI t 0 4) fun v44 =>
    bn (oPutI t 0 4 (v44 + 1)) fun _ =>
    bn (oGetR t 0 3) fun v53 =>
    bn (oObj v53 3) fun _ =>
    bn (f3_put v53 a3) fun _ =>
    rt (())
  )
theorem n0_put (t : Option Nat) (a1 : Int32) (a2 : Int32) (a3 : Int32) : Mn (f0_put t a1 a2 a3) := by
  unfold f0_put
  repeat' first | with_reducible exact mn_rt | with_reducible exact mn_getI | with_reducible exact mn_getR | with_reducible exact mn_getL | with_reducible exact mn_putI | with_reducible exact mn_putR | with_reducible exact mn_putL | with_reducible exact mn_ld | with_reducible exact mn_ldR | with_reducible exact mn_st | with_reducible exact mn_stZ | with_reducible exact mn_stR | with_reducible exact mn_len | with_reducible exact mn_newO | with_reducible exact mn_newA | with_reducible exact mn_newR | with_reducible exact mn_clone | with_reducible exact mn_copy | with_reducible exact mn_obj | with_reducible exact mn_z | with_reducible exact n3_put _ _ | with_reducible exact hrec _ | with_reducible refine mn_ite ?_ ?_ | with_reducible refine mn_bn ?_ (fun _ => ?_) | with_reducible refine mn_sum (fun _ => ?_) (fun _ => ?_) _
abbrev m6_isAlike : MI := (yX6_isAlike, cX6_isAlike, 8, (some .boolean), 0, 0)
noncomputable def l6_isAlike_57 (t : Option Nat) (p2 : Option Nat) (p4 : Int32) (p5 : Int32) (p6 : Int32) (rec : Int32 → Cm ((Int32) ⊕ (Unit))) (x57 : Int32) : Cm ((Int32) ⊕ (Unit)) :=
  if p4 ≤ x57 then
    rt (.inr ())
  else
    bn (oGetR t 6 0) fun v65 =>
    bn (oLd 0 v65 (p5 + x57)) fun v73 =>
    bn (oGetR p2 6 0) fun v75 =>
    bn (oLd 0 v75 (p6 + x57)) fun v83 =>
    if v73 = v83 then
      rec (x57 + 1)
    else
      rt (.inl (0))
noncomputable def f6_isAlike (t : Option Nat) (a1 : Int32) (a2 : Option Nat) (a3 : Int32) : Cm (Int32) :=
  bn (oGetR t 6 6) fun v1 =>
  bn (oLd 0 v1 a1) fun v5 =>
  bn (oGetR a2 6 6) fun v7 =>
  bn (oLd 0 v7 a3) fun v11 =>
  if v5 = v11 then
    bn (oGetR t 6 5) fun v18 =>
    bn (oLd 0 v18 a1) fun v22 =>
    bn (oGetR a2 6 5) fun v28 =>
    bn (oLd 0 v28 a3) fun v32 =>
    if v22 = v32 then
      bn (oGetR t 6 4) fun v39 =>
      bn (oLd 0 v39 a1) fun v43 =>
      bn (oGetR a2 6 4) fun v47 =>
      bn (oLd 0 v47 a3) fun v51 =>
      bn (fx (l6_isAlike_57 t a2 v22 v43 v51) FUEL 0) (Sum.elim (fun r => rt r) fun y95 =>
        rt (1)
      )
    else
      rt (0)
  else
    rt (0)
theorem k6_isAlike_57 (t : Option Nat) (p2 : Option Nat) (p4 : Int32) (p5 : Int32) (p6 : Int32) (n : Nat) (x : Int32) : Mn (fx (l6_isAlike_57 t p2 p4 p5 p6) n x) := by
  refine mn_fx (fun rec hrec x => ?_) n x
  unfold l6_isAlike_57
  repeat' first | with_reducible exact mn_rt | with_reducible exact mn_getI | with_reducible exact mn_getR | with_reducible exact mn_getL | with_reducible exact mn_putI | with_reducible exact mn_putR | with_reducible exact mn_putL | with_reducible exact mn_ld | with_reducible exact mn_ldR | with_reducible exact mn_st | with_reducible exact mn_stZ | with_reducible exact mn_stR | with_reducible exact mn_len | with_reducible exact mn_newO | with_reducible exact mn_newA | with_reducible exact mn_newR | with_reducible exact mn_clone | with_reducible exact mn_copy | with_reducible exact mn_obj | with_reducible exact mn_z | with_reducible exact hrec _ | with_reducible refine mn_ite ?_ ?_ | with_reducible refine mn_bn ?_ (fun _ => ?_) | with_reducible refine mn_sum (fun _ => ?_) (fun _ => ?_) _
theorem n6_isAlike (t : Option Nat) (a1 : Int32) (a2 : Option Nat) (a3 : Int32) : Mn (f6_isAlike t a1 a2 a3) := by
  unfold f6_isAlike
  repeat' first | with_reducible exact mn_rt | with_reducible exact mn_getI | with_reducible exact mn_getR | with_reducible exact mn_getL | with_reducible exact mn_putI | with_reducible exact mn_putR | with_reducible exact mn_putL | with_reducible exact mn_ld | with_reducible exact mn_ldR | with_reducible exact mn_st | with_reducible exact mn_stZ | with_reducible exact mn_stR | with_reducible exact mn_len | with_reducible exact mn_newO | with_reducible exact mn_newA | with_reducible exact mn_newR | with_reducible exact mn_clone | with_reducible exact mn_copy | with_reducible exact mn_obj | with_reducible exact mn_z | with_reducible exact hrec _ | with_reducible exact k6_isAlike_57 _ _ _ _ _ _ _ | with_reducible refine mn_ite ?_ ?_ | with_reducible refine mn_bn ?_ (fun _ => ?_) | with_reducible refine mn_sum (fun _ => ?_) (fun _ => ?_) _
abbrev m6_placeEnd : MI := (yX6_placeEnd, cX6_placeEnd, 2, (some .int), 0, 0)
noncomputable def f6_placeEnd (t : Option Nat) (a1 : Int32) : Cm (Int32) :=
  bn (oGetR t 6 2) fun v1 =>
  bn (oGetR t 6 4) fun v5 =>
  bn (oLd 0 v5 a1) fun v9 =>
  bn (oGetR t 6 5) fun v11 =>
  bn (oLd 0 v11 a1) fun v15 =>
  bn (oLd 0 v1 ((v9 + v15) - 1)) fun v19 =>
  rt (v19)
theorem n6_placeEnd (t : Option Nat) (a1 : Int32) : Mn (f6_placeEnd t a1) := by
  unfold f6_placeEnd
  repeat' first | with_reducible exact mn_rt | with_reducible exact mn_getI | with_reducible exact mn_getR | with_reducible exact mn_getL | with_reducible exact mn_putI | with_reducible exact mn_putR | with_reducible exact mn_putL | with_reducible exact mn_ld | with_reducible exact mn_ldR | with_reducible exact mn_st | with_reducible exact mn_stZ | with_reducible exact mn_stR | with_reducible exact mn_len | with_reducible exact mn_newO | with_reducible exact mn_newA | with_reducible exact mn_newR | with_reducible exact mn_clone | with_reducible exact mn_copy | with_reducible exact mn_obj | with_reducible exact mn_z | with_reducible exact hrec _ | with_reducible refine mn_ite ?_ ?_ | with_reducible refine mn_bn ?_ (fun _ => ?_) | with_reducible refine mn_sum (fun _ => ?_) (fun _ => ?_) _
abbrev m6_placeStart : MI := (yX6_placeStart, cX6_placeStart, 2, (some .int), 0, 0)
noncomputable def f6_placeStart (t : Option Nat) (a1 : Int32) : Cm (Int32) :=
  bn (oGetR t 6 1) fun v1 =>
  bn (oGetR t 6 4) fun v5 =>
  bn (oLd 0 v5 a1) fun v9 =>
  bn (oLd 0 v1 v9) fun v10 =>
  rt (v10)
theorem n6_placeStart (t : Option Nat) (a1 : Int32) : Mn (f6_placeStart t a1) := by
  unfold f6_placeStart
  repeat' first | with_reducible exact mn_rt | with_reducible exact mn_getI | with_reducible exact mn_getR | with_reducible exact mn_getL | with_reducible exact mn_putI | with_reducible exact mn_putR | with_reducible exact mn_putL | with_reducible exact mn_ld | with_reducible exact mn_ldR | with_reducible exact mn_st | with_reducible exact mn_stZ | with_reducible exact mn_stR | with_reducible exact mn_len | with_reducible exact mn_newO | with_reducible exact mn_newA | with_reducible exact mn_newR | with_reducible exact mn_clone | with_reducible exact mn_copy | with_reducible exact mn_obj | with_reducible exact mn_z | with_reducible exact hrec _ | with_reducible refine mn_ite ?_ ?_ | with_reducible refine mn_bn ?_ (fun _ => ?_) | with_reducible refine mn_sum (fun _ => ?_) (fun _ => ?_) _
abbrev m6_collectAlike : MI := (yX6_collectAlike, cX6_collectAlike, 4, none, 2, 46)
noncomputable def l6_collectAlike_14 (t : Option Nat) (p1 : Option Nat) (p2 : Option Nat) (rec : Int32 → Cm (Unit)) (x14 : Int32) : Cm (Unit) :=
  bn (oGetI t 6 7) fun v16 =>
  if v16 ≤ x14 then
    rt ()
  else
    bn (oObj t 6) fun _ =>
    bn (f6_isAlike t x14 p1 0) fun v26 =>
    if v26 = 0 then
      rec (x14 + 1)
    else
      bn (oObj t 6) fun _ =>
      bn (f6_placeStart t x14) fun v35 =>
      bn (oObj t 6) fun _ =>
      bn (f6_placeEnd t x14) fun v40 =>
      bn (oObj p2 0) fun _ =>
      bn (f0_put p2 v35 v40 (-1)) fun _ =>
      rec (x14 + 1)
noncomputable def f6_collectAlike (t : Option Nat) (a1 : Option Nat) (a2 : Option Nat) : Cm (Unit) :=
  if a1 = none then
    rt (())
  else
    bn (oGetI a1 6 7) fun v5 =>
    if v5 = 0 then
      rt (())
    else
      bn (fx (l6_collectAlike_14 t a1 a2) FUEL 0) (fun y53 =>
        rt (())
      )
theorem k6_collectAlike_14 (t : Option Nat) (p1 : Option Nat) (p2 : Option Nat) (n : Nat) (x : Int32) : Mn (fx (l6_collectAlike_14 t p1 p2) n x) := by
  refine mn_fx (fun rec hrec x => ?_) n x
  unfold l6_collectAlike_14
  repeat' first | with_reducible exact mn_rt | with_reducible exact mn_getI | with_reducible exact mn_getR | with_reducible exact mn_getL | with_reducible exact mn_putI | with_reducible exact mn_putR | with_reducible exact mn_putL | with_reducible exact mn_ld | with_reducible exact mn_ldR | with_reducible exact mn_st | with_reducible exact mn_stZ | with_reducible exact mn_stR | with_reducible exact mn_len | with_reducible exact mn_newO | with_reducible exact mn_newA | with_reducible exact mn_newR | with_reducible exact mn_clone | with_reducible exact mn_copy | with_reducible exact mn_obj | with_reducible exact mn_z | with_reducible exact n0_put _ _ _ _ | with_reducible exact n6_isAlike _ _ _ _ | with_reducible exact n6_placeEnd _ _ | with_reducible exact n6_placeStart _ _ | with_reducible exact hrec _ | with_reducible refine mn_ite ?_ ?_ | with_reducible refine mn_bn ?_ (fun _ => ?_) | with_reducible refine mn_sum (fun _ => ?_) (fun _ => ?_) _
theorem n6_collectAlike (t : Option Nat) (a1 : Option Nat) (a2 : Option Nat) : Mn (f6_collectAlike t a1 a2) := by
  unfold f6_collectAlike
  repeat' first | with_reducible exact mn_rt | with_reducible exact mn_getI | with_reducible exact mn_getR | with_reducible exact mn_getL | with_reducible exact mn_putI | with_reducible exact mn_putR | with_reducible exact mn_putL | with_reducible exact mn_ld | with_reducible exact mn_ldR | with_reducible exact mn_st | with_reducible exact mn_stZ | with_reducible exact mn_stR | with_reducible exact mn_len | with_reducible exact mn_newO | with_reducible exact mn_newA | with_reducible exact mn_newR | with_reducible exact mn_clone | with_reducible exact mn_copy | with_reducible exact mn_obj | with_reducible exact mn_z | with_reducible exact n0_put _ _ _ _ | with_reducible exact n6_isAlike _ _ _ _ | with_reducible exact n6_placeEnd _ _ | with_reducible exact n6_placeStart _ _ | with_reducible exact hrec _ | with_reducible exact k6_collectAlike_14 _ _ _ _ _ | with_reducible refine mn_ite ?_ ?_ | with_reducible refine mn_bn ?_ (fun _ => ?_) | with_reducible refine mn_sum (fun _ => ?_) (fun _ => ?_) _
abbrev m6_isDigit : MI := (yX6_isDigit, cX6_isDigit, 1, (some .boolean), 0, 0)
noncomputable def f6_isDigit (a1 : Int32) : Cm (Int32) :=
  if a1 < 48 then
    rt (0)
  else
    if 57 < a1 then
      rt (0)
    else
      rt (1)
theorem n6_isDigit (a1 : Int32) : Mn (f6_isDigit a1) := by
  unfold f6_isDigit
  repeat' first | with_reducible exact mn_rt | with_reducible exact mn_getI | with_reducible exact mn_getR | with_reducible exact mn_getL | with_reducible exact mn_putI | with_reducible exact mn_putR | with_reducible exact mn_putL | with_reducible exact mn_ld | with_reducible exact mn_ldR | with_reducible exact mn_st | with_reducible exact mn_stZ | with_reducible exact mn_stR | with_reducible exact mn_len | with_reducible exact mn_newO | with_reducible exact mn_newA | with_reducible exact mn_newR | with_reducible exact mn_clone | with_reducible exact mn_copy | with_reducible exact mn_obj | with_reducible exact mn_z | with_reducible exact hrec _ | with_reducible refine mn_ite ?_ ?_ | with_reducible refine mn_bn ?_ (fun _ => ?_) | with_reducible refine mn_sum (fun _ => ?_) (fun _ => ?_) _
abbrev m6_endOfDigits : MI := (yX6_endOfDigits, cX6_endOfDigits, 4, (some .int), 1, 20)
noncomputable def l6_endOfDigits_6 (t : Option Nat) (rec : (Int32 × Int32) → Cm (Int32)) (x6 : Int32 × Int32) : Cm (Int32) :=
  bn (oGetI t 6 3) fun v8 =>
  if v8 ≤ x6.2 then
    rt x6.1
  else
    if (x6.1 + 2) < x6.2 then
      rt x6.1
    else
      bn (oGetR t 6 0) fun v22 =>
      bn (oLd 0 v22 x6.2) fun v26 =>
      bn (f6_isDigit v26) fun v27 =>
      if v27 = 0 then
        bn (oGetR t 6 0) fun v39 =>
        bn (oLd 0 v39 x6.2) fun v43 =>
        if v43 = 32 then
          rec (x6.1, (x6.2 + 1))
        else
          bn (oGetR t 6 0) fun v50 =>
          bn (oLd 0 v50 x6.2) fun v54 =>
          if v54 = 45 then
            rec (x6.1, (x6.2 + 1))
          else
            rt x6.1
      else
        rec (x6.2, (x6.2 + 1))
noncomputable def f6_endOfDigits (t : Option Nat) (a1 : Int32) : Cm (Int32) :=
  bn (fx (l6_endOfDigits_6 t) FUEL (a1, (a1 + 1))) (fun y69 =>
    rt (y69)
  )
theorem k6_endOfDigits_6 (t : Option Nat) (n : Nat) (x : Int32 × Int32) : Mn (fx (l6_endOfDigits_6 t) n x) := by
  refine mn_fx (fun rec hrec x => ?_) n x
  unfold l6_endOfDigits_6
  repeat' first | with_reducible exact mn_rt | with_reducible exact mn_getI | with_reducible exact mn_getR | with_reducible exact mn_getL | with_reducible exact mn_putI | with_reducible exact mn_putR | with_reducible exact mn_putL | with_reducible exact mn_ld | with_reducible exact mn_ldR | with_reducible exact mn_st | with_reducible exact mn_stZ | with_reducible exact mn_stR | with_reducible exact mn_len | with_reducible exact mn_newO | with_reducible exact mn_newA | with_reducible exact mn_newR | with_reducible exact mn_clone | with_reducible exact mn_copy | with_reducible exact mn_obj | with_reducible exact mn_z | with_reducible exact n6_isDigit _ | with_reducible exact hrec _ | with_reducible refine mn_ite ?_ ?_ | with_reducible refine mn_bn ?_ (fun _ => ?_) | with_reducible refine mn_sum (fun _ => ?_) (fun _ => ?_) _
theorem n6_endOfDigits (t : Option Nat) (a1 : Int32) : Mn (f6_endOfDigits t a1) := by
  unfold f6_endOfDigits
  repeat' first | with_reducible exact mn_rt | with_reducible exact mn_getI | with_reducible exact mn_getR | with_reducible exact mn_getL | with_reducible exact mn_putI | with_reducible exact mn_putR | with_reducible exact mn_putL | with_reducible exact mn_ld | with_reducible exact mn_ldR | with_reducible exact mn_st | with_reducible exact mn_stZ | with_reducible exact mn_stR | with_reducible exact mn_len | with_reducible exact mn_newO | with_reducible exact mn_newA | with_reducible exact mn_newR | with_reducible exact mn_clone | with_reducible exact mn_copy | with_reducible exact mn_obj | with_reducible exact mn_z | with_reducible exact n6_isDigit _ | with_reducible exact hrec _ | with_reducible exact k6_endOfDigits_6 _ _ _ | with_reducible refine mn_ite ?_ ?_ | with_reducible refine mn_bn ?_ (fun _ => ?_) | with_reducible refine mn_sum (fun _ => ?_) (fun _ => ?_) _
abbrev m6_isNumber : MI := (yX6_isNumber, cX6_isNumber, 8, (some .boolean), 1, 22)
noncomputable def l6_isNumber_8 (t : Option Nat) (p1 : Int32) (rec : (Int32 × Int32 × Int32) → Cm (Int32 × Int32)) (x8 : Int32 × Int32 × Int32) : Cm (Int32 × Int32) :=
  if x8.2.2 < p1 then
    rt (x8.1, x8.2.1)
  else
    bn (oGetR t 6 0) fun v15 =>
    bn (oLd 0 v15 x8.2.2) fun v20 =>
    bn (f6_isDigit v20) fun v21 =>
    if v21 = 0 then
      rec (x8.1, x8.2.1, (x8.2.2 + (-1)))
    else
      bn (oGetR t 6 0) fun v28 =>
      bn (oLd 0 v28 x8.2.2) fun v33 =>
      bn (α := Int32) (
        if (jrem x8.1 2) = 0 then
          rt (v33 - 48)
        else
          rt (2 * (v33 - 48))
      ) (fun y54 =>
        if y54 ≤ 9 then
          rec ((x8.1 + 1), (x8.2.1 + y54), (x8.2.2 + (-1)))
        else
          rec ((x8.1 + 1), (x8.2.1 + (y54 - 9)), (x8.2.2 + (-1)))
      )
noncomputable def f6_isNumber (t : Option Nat) (a1 : Int32) (a2 : Int32) : Cm (Int32) :=
  bn (fx (l6_isNumber_8 t a1) FUEL (0, 0, a2)) (fun y87 =>
    bn (f7_within y87.1 8 16) fun v92 =>
    if v92 = 0 then
      rt (0)
    else
      if (jrem y87.2 10) = 0 then
        rt (1)
      else
        rt (0)
  )
theorem k6_isNumber_8 (t : Option Nat) (p1 : Int32) (n : Nat) (x : Int32 × Int32 × Int32) : Mn (fx (l6_isNumber_8 t p1) n x) := by
  refine mn_fx (fun rec hrec x => ?_) n x
  unfold l6_isNumber_8
  repeat' first | with_reducible exact mn_rt | with_reducible exact mn_getI | with_reducible exact mn_getR | with_reducible exact mn_getL | with_reducible exact mn_putI | with_reducible exact mn_putR | with_reducible exact mn_putL | with_reducible exact mn_ld | with_reducible exact mn_ldR | with_reducible exact mn_st | with_reducible exact mn_stZ | with_reducible exact mn_stR | with_reducible exact mn_len | with_reducible exact mn_newO | with_reducible exact mn_newA | with_reducible exact mn_newR | with_reducible exact mn_clone | with_reducible exact mn_copy | with_reducible exact mn_obj | with_reducible exact mn_z | with_reducible exact n7_within _ _ _ | with_reducible exact n6_isDigit _ | with_reducible exact hrec _ | with_reducible refine mn_ite ?_ ?_ | with_reducible refine mn_bn ?_ (fun _ => ?_) | with_reducible refine mn_sum (fun _ => ?_) (fun _ => ?_) _
theorem n6_isNumber (t : Option Nat) (a1 : Int32) (a2 : Int32) : Mn (f6_isNumber t a1 a2) := by
  unfold f6_isNumber
  repeat' first | with_reducible exact mn_rt | with_reducible exact mn_getI | with_reducible exact mn_getR | with_reducible exact mn_getL | with_reducible exact mn_putI | with_reducible exact mn_putR | with_reducible exact mn_putL | with_reducible exact mn_ld | with_reducible exact mn_ldR | with_reducible exact mn_st | with_reducible exact mn_stZ | with_reducible exact mn_stR | with_reducible exact mn_len | with_reducible exact mn_newO | with_reducible exact mn_newA | with_reducible exact mn_newR | with_reducible exact mn_clone | with_reducible exact mn_copy | with_reducible exact mn_obj | with_reducible exact mn_z | with_reducible exact n7_within _ _ _ | with_reducible exact n6_isDigit _ | with_reducible exact hrec _ | with_reducible exact k6_isNumber_8 _ _ _ _ | with_reducible refine mn_ite ?_ ?_ | with_reducible refine mn_bn ?_ (fun _ => ?_) | with_reducible refine mn_sum (fun _ => ?_) (fun _ => ?_) _
abbrev m6_collectNumbers : MI := (yX6_collectNumbers, cX6_collectNumbers, 4, none, 2, 49)
noncomputable def l6_collectNumbers_4 (t : Option Nat) (p1 : Option Nat) (rec : (Int32 × Int32) → Cm (Unit)) (x4 : Int32 × Int32) : Cm (Unit) :=
  bn (oGetI t 6 3) fun v6 =>
  if v6 ≤ x4.2 then
    rt ()
  else
    if x4.2 ≤ x4.1 then
      rec (x4.1, (x4.2 + 1))
    else
      bn (oGetR t 6 0) fun v18 =>
      bn (oLd 0 v18 x4.2) fun v22 =>
      bn (f6_isDigit v22) fun v23 =>
      if v23 = 0 then
        rec (x4.1, (x4.2 + 1))
      else
        bn (oObj t 6) fun _ =>
        bn (f6_endOfDigits t x4.2) fun v31 =>
        bn (oObj t 6) fun _ =>
        bn (f6_isNumber t x4.2 v31) fun v38 =>
        if v38 = 0 then
          rec (v31, (x4.2 + 1))
        else
          bn (oGetR t 6 1) fun v46 =>
          bn (oLd 0 v46 x4.2) fun v50 =>
          bn (oGetR t 6 2) fun v52 =>
          bn (oLd 0 v52 v31) fun v56 =>
          bn (oObj p1 0) fun _ =>
          bn (f0_put p1 v50 v56 (-1)) fun _ =>
          rec (v31, (x4.2 + 1))
noncomputable def f6_collectNumbers (t : Option Nat) (a1 : Option Nat) : Cm (Unit) :=
  bn (fx (l6_collectNumbers_4 t a1) FUEL ((-1), 0)) (fun y67 =>
    rt (())
  )
theorem k6_collectNumbers_4 (t : Option Nat) (p1 : Option Nat) (n : Nat) (x : Int32 × Int32) : Mn (fx (l6_collectNumbers_4 t p1) n x) := by
  refine mn_fx (fun rec hrec x => ?_) n x
  unfold l6_collectNumbers_4
  repeat' first | with_reducible exact mn_rt | with_reducible exact mn_getI | with_reducible exact mn_getR | with_reducible exact mn_getL | with_reducible exact mn_putI | with_reducible exact mn_putR | with_reducible exact mn_putL | with_reducible exact mn_ld | with_reducible exact mn_ldR | with_reducible exact mn_st | with_reducible exact mn_stZ | with_reducible exact mn_stR | with_reducible exact mn_len | with_reducible exact mn_newO | with_reducible exact mn_newA | with_reducible exact mn_newR | with_reducible exact mn_clone | with_reducible exact mn_copy | with_reducible exact mn_obj | with_reducible exact mn_z | with_reducible exact n0_put _ _ _ _ | with_reducible exact n6_endOfDigits _ _ | with_reducible exact n6_isDigit _ | with_reducible exact n6_isNumber _ _ _ | with_reducible exact hrec _ | with_reducible refine mn_ite ?_ ?_ | with_reducible refine mn_bn ?_ (fun _ => ?_) | with_reducible refine mn_sum (fun _ => ?_) (fun _ => ?_) _
theorem n6_collectNumbers (t : Option Nat) (a1 : Option Nat) : Mn (f6_collectNumbers t a1) := by
  unfold f6_collectNumbers
  repeat' first | with_reducible exact mn_rt | with_reducible exact mn_getI | with_reducible exact mn_getR | with_reducible exact mn_getL | with_reducible exact mn_putI | with_reducible exact mn_putR | with_reducible exact mn_putL | with_reducible exact mn_ld | with_reducible exact mn_ldR | with_reducible exact mn_st | with_reducible exact mn_stZ | with_reducible exact mn_stR | with_reducible exact mn_len | with_reducible exact mn_newO | with_reducible exact mn_newA | with_reducible exact mn_newR | with_reducible exact mn_clone | with_reducible exact mn_copy | with_reducible exact mn_obj | with_reducible exact mn_z | with_reducible exact n0_put _ _ _ _ | with_reducible exact n6_endOfDigits _ _ | with_reducible exact n6_isDigit _ | with_reducible exact n6_isNumber _ _ _ | with_reducible exact hrec _ | with_reducible exact k6_collectNumbers_4 _ _ _ _ | with_reducible refine mn_ite ?_ ?_ | with_reducible refine mn_bn ?_ (fun _ => ?_) | with_reducible refine mn_sum (fun _ => ?_) (fun _ => ?_) _
abbrev m6_isAlikeRow : MI := (yX6_isAlikeRow, cX6_isAlikeRow, 6, (some .boolean), 1, 27)
noncomputable def l6_isAlikeRow_3 (t : Option Nat) (p1 : Int32) (p2 : Option Nat) (p3 : Int32) (p4 : Int32) (rec : Int32 → Cm ((Int32) ⊕ (Unit))) (x3 : Int32) : Cm ((Int32) ⊕ (Unit)) :=
  if p4 ≤ x3 then
    rt (.inr ())
  else
    bn (oObj t 6) fun _ =>
    bn (f6_isAlike t (p1 + x3) p2 (p3 + x3)) fun v20 =>
    if v20 = 0 then
      rt (.inl (0))
    else
      rec (x3 + 1)
noncomputable def f6_isAlikeRow (t : Option Nat) (a1 : Int32) (a2 : Option Nat) (a3 : Int32) (a4 : Int32) : Cm (Int32) :=
  bn (fx (l6_isAlikeRow_3 t a1 a2 a3 a4) FUEL 0) (Sum.elim (fun r => rt r) fun y34 =>
    rt (1)
  )
theorem k6_isAlikeRow_3 (t : Option Nat) (p1 : Int32) (p2 : Option Nat) (p3 : Int32) (p4 : Int32) (n : Nat) (x : Int32) : Mn (fx (l6_isAlikeRow_3 t p1 p2 p3 p4) n x) := by
  refine mn_fx (fun rec hrec x => ?_) n x
  unfold l6_isAlikeRow_3
  repeat' first | with_reducible exact mn_rt | with_reducible exact mn_getI | with_reducible exact mn_getR | with_reducible exact mn_getL | with_reducible exact mn_putI | with_reducible exact mn_putR | with_reducible exact mn_putL | with_reducible exact mn_ld | with_reducible exact mn_ldR | with_reducible exact mn_st | with_reducible exact mn_stZ | with_reducible exact mn_stR | with_reducible exact mn_len | with_reducible exact mn_newO | with_reducible exact mn_newA | with_reducible exact mn_newR | with_reducible exact mn_clone | with_reducible exact mn_copy | with_reducible exact mn_obj | with_reducible exact mn_z | with_reducible exact n6_isAlike _ _ _ _ | with_reducible exact hrec _ | with_reducible refine mn_ite ?_ ?_ | with_reducible refine mn_bn ?_ (fun _ => ?_) | with_reducible refine mn_sum (fun _ => ?_) (fun _ => ?_) _
theorem n6_isAlikeRow (t : Option Nat) (a1 : Int32) (a2 : Option Nat) (a3 : Int32) (a4 : Int32) : Mn (f6_isAlikeRow t a1 a2 a3 a4) := by
  unfold f6_isAlikeRow
  repeat' first | with_reducible exact mn_rt | with_reducible exact mn_getI | with_reducible exact mn_getR | with_reducible exact mn_getL | with_reducible exact mn_putI | with_reducible exact mn_putR | with_reducible exact mn_putL | with_reducible exact mn_ld | with_reducible exact mn_ldR | with_reducible exact mn_st | with_reducible exact mn_stZ | with_reducible exact mn_stR | with_reducible exact mn_len | with_reducible exact mn_newO | with_reducible exact mn_newA | with_reducible exact mn_newR | with_reducible exact mn_clone | with_reducible exact mn_copy | with_reducible exact mn_obj | with_reducible exact mn_z | with_reducible exact n6_isAlike _ _ _ _ | with_reducible exact hrec _ | with_reducible exact k6_isAlikeRow_3 _ _ _ _ _ _ _ | with_reducible refine mn_ite ?_ ?_ | with_reducible refine mn_bn ?_ (fun _ => ?_) | with_reducible refine mn_sum (fun _ => ?_) (fun _ => ?_) _
abbrev m6_isPart : MI := (yX6_isPart, cX6_isPart, 4, (some .boolean), 0, 0)
noncomputable def l6_isPart_2 (t : Option Nat) (p1 : Int32) (p2 : Int32) (rec : Int32 → Cm ((Int32) ⊕ (Unit))) (x2 : Int32) : Cm ((Int32) ⊕ (Unit)) :=
  if p2 ≤ x2 then
    rt (.inr ())
  else
    bn (oGetR t 6 5) fun v8 =>
    bn (oLd 0 v8 (p1 + x2)) fun v14 =>
    if v14 < 4 then
      rec (x2 + 1)
    else
      rt (.inl (1))
noncomputable def f6_isPart (t : Option Nat) (a1 : Int32) (a2 : Int32) : Cm (Int32) :=
  bn (fx (l6_isPart_2 t a1 a2) FUEL 0) (Sum.elim (fun r => rt r) fun y27 =>
    rt (0)
  )
theorem k6_isPart_2 (t : Option Nat) (p1 : Int32) (p2 : Int32) (n : Nat) (x : Int32) : Mn (fx (l6_isPart_2 t p1 p2) n x) := by
  refine mn_fx (fun rec hrec x => ?_) n x
  unfold l6_isPart_2
  repeat' first | with_reducible exact mn_rt | with_reducible exact mn_getI | with_reducible exact mn_getR | with_reducible exact mn_getL | with_reducible exact mn_putI | with_reducible exact mn_putR | with_reducible exact mn_putL | with_reducible exact mn_ld | with_reducible exact mn_ldR | with_reducible exact mn_st | with_reducible exact mn_stZ | with_reducible exact mn_stR | with_reducible exact mn_len | with_reducible exact mn_newO | with_reducible exact mn_newA | with_reducible exact mn_newR | with_reducible exact mn_clone | with_reducible exact mn_copy | with_reducible exact mn_obj | with_reducible exact mn_z | with_reducible exact hrec _ | with_reducible refine mn_ite ?_ ?_ | with_reducible refine mn_bn ?_ (fun _ => ?_) | with_reducible refine mn_sum (fun _ => ?_) (fun _ => ?_) _
theorem n6_isPart (t : Option Nat) (a1 : Int32) (a2 : Int32) : Mn (f6_isPart t a1 a2) := by
  unfold f6_isPart
  repeat' first | with_reducible exact mn_rt | with_reducible exact mn_getI | with_reducible exact mn_getR | with_reducible exact mn_getL | with_reducible exact mn_putI | with_reducible exact mn_putR | with_reducible exact mn_putL | with_reducible exact mn_ld | with_reducible exact mn_ldR | with_reducible exact mn_st | with_reducible exact mn_stZ | with_reducible exact mn_stR | with_reducible exact mn_len | with_reducible exact mn_newO | with_reducible exact mn_newA | with_reducible exact mn_newR | with_reducible exact mn_clone | with_reducible exact mn_copy | with_reducible exact mn_obj | with_reducible exact mn_z | with_reducible exact hrec _ | with_reducible exact k6_isPart_2 _ _ _ _ _ | with_reducible refine mn_ite ?_ ?_ | with_reducible refine mn_bn ?_ (fun _ => ?_) | with_reducible refine mn_sum (fun _ => ?_) (fun _ => ?_) _
abbrev m6_collectParts : MI := (yX6_collectParts, cX6_collectParts, 6, none, 2, 52)
noncomputable def l6_collectParts_17 (t : Option Nat) (p1 : Option Nat) (p2 : Int32) (p3 : Option Nat) (p4 : Int32) (rec : Int32 → Cm (Unit)) (x17 : Int32) : Cm (Unit) :=
  bn (oGetI p1 6 7) fun v22 =>
  if v22 < (x17 + p2) then
    rt ()
  else
    bn (oObj t 6) fun _ =>
    bn (f6_isAlikeRow t p4 p1 x17 p2) fun v35 =>
    if v35 = 0 then
      rec (x17 + 1)
    else
      bn (oObj p1 6) fun _ =>
      bn (f6_isPart p1 x17 p2) fun v45 =>
      if v45 = 0 then
        rec (x17 + 1)
      else
        bn (oObj t 6) fun _ =>
        bn (f6_placeStart t p4) fun v55 =>
        bn (oObj t 6) fun _ =>
        bn (f6_placeEnd t ((p4 + p2) - 1)) fun v65 =>
        bn (oObj p3 0) fun _ =>
        bn (f0_put p3 v55 v65 x17) fun _ =>
        rec (x17 + 1)
noncomputable def l6_collectParts_3 (t : Option Nat) (p1 : Option Nat) (p2 : Int32) (p3 : Option Nat) (rec : Int32 → Cm (Unit)) (x3 : Int32) : Cm (Unit) :=
  bn (oGetI t 6 7) fun v8 =>
  if v8 < (x3 + p2) then
    rt ()
  else
    bn (fx (l6_collectParts_17 t p1 p2 p3 x3) FUEL 0) (fun y79 =>
      rec (x3 + 1)
    )
noncomputable def f6_collectParts (t : Option Nat) (a1 : Option Nat) (a2 : Int32) (a3 : Option Nat) : Cm (Unit) :=
  bn (fx (l6_collectParts_3 t a1 a2 a3) FUEL 0) (fun y85 =>
    rt (())
  )
theorem k6_collectParts_17 (t : Option Nat) (p1 : Option Nat) (p2 : Int32) (p3 : Option Nat) (p4 : Int32) (n : Nat) (x : Int32) : Mn (fx (l6_collectParts_17 t p1 p2 p3 p4) n x) := by
  refine mn_fx (fun rec hrec x => ?_) n x
  unfold l6_collectParts_17
  repeat' first | with_reducible exact mn_rt | with_reducible exact mn_getI | with_reducible exact mn_getR | with_reducible exact mn_getL | with_reducible exact mn_putI | with_reducible exact mn_putR | with_reducible exact mn_putL | with_reducible exact mn_ld | with_reducible exact mn_ldR | with_reducible exact mn_st | with_reducible exact mn_stZ | with_reducible exact mn_stR | with_reducible exact mn_len | with_reducible exact mn_newO | with_reducible exact mn_newA | with_reducible exact mn_newR | with_reducible exact mn_clone | with_reducible exact mn_copy | with_reducible exact mn_obj | with_reducible exact mn_z | with_reducible exact n0_put _ _ _ _ | with_reducible exact n6_isAlikeRow _ _ _ _ _ | with_reducible exact n6_isPart _ _ _ | with_reducible exact n6_placeEnd _ _ | with_reducible exact n6_placeStart _ _ | with_reducible exact hrec _ | with_reducible refine mn_ite ?_ ?_ | with_reducible refine mn_bn ?_ (fun _ => ?_) | with_reducible refine mn_sum (fun _ => ?_) (fun _ => ?_) _
theorem k6_collectParts_3 (t : Option Nat) (p1 : Option Nat) (p2 : Int32) (p3 : Option Nat) (n : Nat) (x : Int32) : Mn (fx (l6_collectParts_3 t p1 p2 p3) n x) := by
  refine mn_fx (fun rec hrec x => ?_) n x
  unfold l6_collectParts_3
  repeat' first | with_reducible exact mn_rt | with_reducible exact mn_getI | with_reducible exact mn_getR | with_reducible exact mn_getL | with_reducible exact mn_putI | with_reducible exact mn_putR | with_reducible exact mn_putL | with_reducible exact mn_ld | with_reducible exact mn_ldR | with_reducible exact mn_st | with_reducible exact mn_stZ | with_reducible exact mn_stR | with_reducible exact mn_len | with_reducible exact mn_newO | with_reducible exact mn_newA | with_reducible exact mn_newR | with_reducible exact mn_clone | with_reducible exact mn_copy | with_reducible exact mn_obj | with_reducible exact mn_z | with_reducible exact n0_put _ _ _ _ | with_reducible exact n6_isAlikeRow _ _ _ _ _ | with_reducible exact n6_isPart _ _ _ | with_reducible exact n6_placeEnd _ _ | with_reducible exact n6_placeStart _ _ | with_reducible exact hrec _ | with_reducible exact k6_collectParts_17 _ _ _ _ _ _ _ | with_reducible refine mn_ite ?_ ?_ | with_reducible refine mn_bn ?_ (fun _ => ?_) | with_reducible refine mn_sum (fun _ => ?_) (fun _ => ?_) _
theorem n6_collectParts (t : Option Nat) (a1 : Option Nat) (a2 : Int32) (a3 : Option Nat) : Mn (f6_collectParts t a1 a2 a3) := by
  unfold f6_collectParts
  repeat' first | with_reducible exact mn_rt | with_reducible exact mn_getI | with_reducible exact mn_getR | with_reducible exact mn_getL | with_reducible exact mn_putI | with_reducible exact mn_putR | with_reducible exact mn_putL | with_reducible exact mn_ld | with_reducible exact mn_ldR | with_reducible exact mn_st | with_reducible exact mn_stZ | with_reducible exact mn_stR | with_reducible exact mn_len | with_reducible exact mn_newO | with_reducible exact mn_newA | with_reducible exact mn_newR | with_reducible exact mn_clone | with_reducible exact mn_copy | with_reducible exact mn_obj | with_reducible exact mn_z | with_reducible exact n0_put _ _ _ _ | with_reducible exact n6_isAlikeRow _ _ _ _ _ | with_reducible exact n6_isPart _ _ _ | with_reducible exact n6_placeEnd _ _ | with_reducible exact n6_placeStart _ _ | with_reducible exact hrec _ | with_reducible exact k6_collectParts_17 _ _ _ _ _ _ _ | with_reducible exact k6_collectParts_3 _ _ _ _ _ _ | with_reducible refine mn_ite ?_ ?_ | with_reducible refine mn_bn ?_ (fun _ => ?_) | with_reducible refine mn_sum (fun _ => ?_) (fun _ => ?_) _
abbrev m7_collect : MI := (yX7_collect, cX7_collect, 4, none, 3, 77)
noncomputable def f7_collect (t : Option Nat) (a1 : Option Nat) (a2 : Option Nat) (a3 : Option Nat) : Cm (Unit) :=
  bn (oGetI a1 1 0) fun v1 =>
  if v1 = 1 then
    bn (oGetR a1 1 1) fun v38 =>
    bn (oObj a2 6) fun _ =>
    bn (f6_collectAlike a2 v38 a3) fun _ =>
    rt (())
  else
    if v1 = 2 then
      bn (oGetR t 7 3) fun v58 =>
      bn (oGetI a1 1 2) fun v62 =>
      bn (oLdR 2 v58 v62) fun v65 =>
      bn (oGetI a1 1 3) fun v67 =>
      bn (oObj a2 6) fun _ =>
      bn (f6_collectParts a2 v65 v67 a3) fun _ =>
      rt (())
    else
      if v1 = 3 then
        bn (oObj a2 6) fun _ =>
        bn (f6_collectNumbers a2 a3) fun _ =>
        rt (())
      else
        if v1 = 4 then
          bn (oGetR t 7 3) fun v58 =>
          bn (oGetI a1 1 2) fun v62 =>
          bn (oLdR 2 v58 v62) fun v65 =>
          bn (oGetI a1 1 3) fun v67 =>
          bn (oObj a2 6) fun _ =>
          bn (f6_collectParts a2 v65 v67 a3) fun _ =>
          rt (())
        else
          rt (())
theorem n7_collect (t : Option Nat) (a1 : Option Nat) (a2 : Option Nat) (a3 : Option Nat) : Mn (f7_collect t a1 a2 a3) := by
  unfold f7_collect
  repeat' first | with_reducible exact mn_rt | with_reducible exact mn_getI | with_reducible exact mn_getR | with_reducible exact mn_getL | with_reducible exact mn_putI | with_reducible exact mn_putR | with_reducible exact mn_putL | with_reducible exact mn_ld | with_reducible exact mn_ldR | with_reducible exact mn_st | with_reducible exact mn_stZ | with_reducible exact mn_stR | with_reducible exact mn_len | with_reducible exact mn_newO | with_reducible exact mn_newA | with_reducible exact mn_newR | with_reducible exact mn_clone | with_reducible exact mn_copy | with_reducible exact mn_obj | with_reducible exact mn_z | with_reducible exact n6_collectAlike _ _ _ | with_reducible exact n6_collectNumbers _ _ | with_reducible exact n6_collectParts _ _ _ _ | with_reducible exact hrec _ | with_reducible refine mn_ite ?_ ?_ | with_reducible refine mn_bn ?_ (fun _ => ?_) | with_reducible refine mn_sum (fun _ => ?_) (fun _ => ?_) _
abbrev m7_copyOfTape : MI := (yX7_copyOfTape, cX7_copyOfTape, 2, (some (.array .int)), 1, 48)
noncomputable def f7_copyOfTape (t : Option Nat) : Cm (Option Nat) :=
  bn (oGetI t 7 2) fun v1 =>
  bn (oNewA 0 v1) fun v4 =>
  bn (oGetR t 7 1) fun v8 =>
  bn (oGetI t 7 2) fun v15 =>
  bn (oCopy v8 0 v4 0 v15) fun _ =>
  rt (v4)
theorem n7_copyOfTape (t : Option Nat) : Mn (f7_copyOfTape t) := by
  unfold f7_copyOfTape
  repeat' first | with_reducible exact mn_rt | with_reducible exact mn_getI | with_reducible exact mn_getR | with_reducible exact mn_getL | with_reducible exact mn_putI | with_reducible exact mn_putR | with_reducible exact mn_putL | with_reducible exact mn_ld | with_reducible exact mn_ldR | with_reducible exact mn_st | with_reducible exact mn_stZ | with_reducible exact mn_stR | with_reducible exact mn_len | with_reducible exact mn_newO | with_reducible exact mn_newA | with_reducible exact mn_newR | with_reducible exact mn_clone | with_reducible exact mn_copy | with_reducible exact mn_obj | with_reducible exact mn_z | with_reducible exact hrec _ | with_reducible refine mn_ite ?_ ?_ | with_reducible refine mn_bn ?_ (fun _ => ?_) | with_reducible refine mn_sum (fun _ => ?_) (fun _ => ?_) _
abbrev m7_forgetSights : MI := (yX7_forgetSights, cX7_forgetSights, 3, none, 0, 0)
noncomputable def l7_forgetSights_2 (t : Option Nat) (p1 : Int32) (rec : Int32 → Cm (Unit)) (x2 : Int32) : Cm (Unit) :=
  bn (oGetI t 7 8) fun v4 =>
  if v4 ≤ x2 then
    rt ()
  else
    bn (oGetR t 7 7) fun v11 =>
    bn (oLdR 4 v11 x2) fun v15 =>
    bn (oGetR v15 2 12) fun v16 =>
    bn (oStZ v16 p1 0) fun _ =>
    rec (x2 + 1)
noncomputable def f7_forgetSights (t : Option Nat) (a1 : Int32) : Cm (Unit) :=
  bn (fx (l7_forgetSights_2 t a1) FUEL 0) (fun y28 =>
    rt (())
  )
theorem k7_forgetSights_2 (t : Option Nat) (p1 : Int32) (n : Nat) (x : Int32) : Mn (fx (l7_forgetSights_2 t p1) n x) := by
  refine mn_fx (fun rec hrec x => ?_) n x
  unfold l7_forgetSights_2
  repeat' first | with_reducible exact mn_rt | with_reducible exact mn_getI | with_reducible exact mn_getR | with_reducible exact mn_getL | with_reducible exact mn_putI | with_reducible exact mn_putR | with_reducible exact mn_putL | with_reducible exact mn_ld | with_reducible exact mn_ldR | with_reducible exact mn_st | with_reducible exact mn_stZ | with_reducible exact mn_stR | with_reducible exact mn_len | with_reducible exact mn_newO | with_reducible exact mn_newA | with_reducible exact mn_newR | with_reducible exact mn_clone | with_reducible exact mn_copy | with_reducible exact mn_obj | with_reducible exact mn_z | with_reducible exact hrec _ | with_reducible refine mn_ite ?_ ?_ | with_reducible refine mn_bn ?_ (fun _ => ?_) | with_reducible refine mn_sum (fun _ => ?_) (fun _ => ?_) _
theorem n7_forgetSights (t : Option Nat) (a1 : Int32) : Mn (f7_forgetSights t a1) := by
  unfold f7_forgetSights
  repeat' first | with_reducible exact mn_rt | with_reducible exact mn_getI | with_reducible exact mn_getR | with_reducible exact mn_getL | with_reducible exact mn_putI | with_reducible exact mn_putR | with_reducible exact mn_putL | with_reducible exact mn_ld | with_reducible exact mn_ldR | with_reducible exact mn_st | with_reducible exact mn_stZ | with_reducible exact mn_stR | with_reducible exact mn_len | with_reducible exact mn_newO | with_reducible exact mn_newA | with_reducible exact mn_newR | with_reducible exact mn_clone | with_reducible exact mn_copy | with_reducible exact mn_obj | with_reducible exact mn_z | with_reducible exact hrec _ | with_reducible exact k7_forgetSights_2 _ _ _ _ | with_reducible refine mn_ite ?_ ?_ | with_reducible refine mn_bn ?_ (fun _ => ?_) | with_reducible refine mn_sum (fun _ => ?_) (fun _ => ?_) _
abbrev m7_setKind : MI := (yX7_setKind, cX7_setKind, 3, none, 1, 22)
noncomputable def f7_setKind (t : Option Nat) (a1 : Int32) (a2 : Option Nat) : Cm (Unit) :=
  bn (oGetR t 7 4) fun v1 =>
  bn (oStR 3 1 v1 a1 a2) fun _ =>
  bn (oObj t 7) fun _ =>
  bn (f7_forgetSights t a1) fun _ =>
  rt (())
theorem n7_setKind (t : Option Nat) (a1 : Int32) (a2 : Option Nat) : Mn (f7_setKind t a1 a2) := by
  unfold f7_setKind
  repeat' first | with_reducible exact mn_rt | with_reducible exact mn_getI | with_reducible exact mn_getR | with_reducible exact mn_getL | with_reducible exact mn_putI | with_reducible exact mn_putR | with_reducible exact mn_putL | with_reducible exact mn_ld | with_reducible exact mn_ldR | with_reducible exact mn_st | with_reducible exact mn_stZ | with_reducible exact mn_stR | with_reducible exact mn_len | with_reducible exact mn_newO | with_reducible exact mn_newA | with_reducible exact mn_newR | with_reducible exact mn_clone | with_reducible exact mn_copy | with_reducible exact mn_obj | with_reducible exact mn_z | with_reducible exact n7_forgetSights _ _ | with_reducible exact hrec _ | with_reducible refine mn_ite ?_ ?_ | with_reducible refine mn_bn ?_ (fun _ => ?_) | with_reducible refine mn_sum (fun _ => ?_) (fun _ => ?_) _
abbrev m7_count : MI := (yX7_count, cX7_count, 3, (some .boolean), 2, 46)
noncomputable def f7_count (t : Option Nat) (a1 : Int32) (a2 : Int32) : Cm (Int32) :=
  bn (f7_isKind a1) fun v1 =>
  if v1 = 0 then
    rt (0)
  else
    bn (f7_within a2 1 20) fun v11 =>
    if v11 = 0 then
      rt (0)
    else
      bn (oNewO 1 [.int 0, .null, .int 0, .int 0, .int 0, .int 0]) fun v21 =>
      bn (oObj v21 1) fun _ =>
      bn (f1_init v21 3 none 0 2 a2 0) fun _ =>
      bn (oObj t 7) fun _ =>
      bn (f7_setKind t a1 v21) fun _ =>
      rt (1)
theorem n7_count (t : Option Nat) (a1 : Int32) (a2 : Int32) : Mn (f7_count t a1 a2) := by
  unfold f7_count
  repeat' first | with_reducible exact mn_rt | with_reducible exact mn_getI | with_reducible exact mn_getR | with_reducible exact mn_getL | with_reducible exact mn_putI | with_reducible exact mn_putR | with_reducible exact mn_putL | with_reducible exact mn_ld | with_reducible exact mn_ldR | with_reducible exact mn_st | with_reducible exact mn_stZ | with_reducible exact mn_stR | with_reducible exact mn_len | with_reducible exact mn_newO | with_reducible exact mn_newA | with_reducible exact mn_newR | with_reducible exact mn_clone | with_reducible exact mn_copy | with_reducible exact mn_obj | with_reducible exact mn_z | with_reducible exact n7_isKind _ | with_reducible exact n7_setKind _ _ _ | with_reducible exact n7_within _ _ _ | with_reducible exact n1_init _ _ _ _ _ _ _ | with_reducible exact hrec _ | with_reducible refine mn_ite ?_ ?_ | with_reducible refine mn_bn ?_ (fun _ => ?_) | with_reducible refine mn_sum (fun _ => ?_) (fun _ => ?_) _
abbrev m7_days : MI := (yX7_days, cX7_days, 2, (some .int), 1, 22)
noncomputable def f7_days (t : Option Nat) (a1 : Int32) : Cm (Int32) :=
  bn (f7_within a1 0 100) fun v4 =>
  if v4 = 0 then
    rt ((-1))
  else
    bn (oGetI t 7 0) fun v11 =>
    if (v11 + a1) ≤ 1000 then
      bn (oGetI t 7 0) fun v26 =>
      bn (oPutI t 7 0 (v26 + a1)) fun _ =>
      bn (oGetI t 7 0) fun v35 =>
      rt (v35)
    else
      rt ((-1))
theorem n7_days (t : Option Nat) (a1 : Int32) : Mn (f7_days t a1) := by
  unfold f7_days
  repeat' first | with_reducible exact mn_rt | with_reducible exact mn_getI | with_reducible exact mn_getR | with_reducible exact mn_getL | with_reducible exact mn_putI | with_reducible exact mn_putR | with_reducible exact mn_putL | with_reducible exact mn_ld | with_reducible exact mn_ldR | with_reducible exact mn_st | with_reducible exact mn_stZ | with_reducible exact mn_stR | with_reducible exact mn_len | with_reducible exact mn_newO | with_reducible exact mn_newA | with_reducible exact mn_newR | with_reducible exact mn_clone | with_reducible exact mn_copy | with_reducible exact mn_obj | with_reducible exact mn_z | with_reducible exact n7_within _ _ _ | with_reducible exact hrec _ | with_reducible refine mn_ite ?_ ?_ | with_reducible refine mn_bn ?_ (fun _ => ?_) | with_reducible refine mn_sum (fun _ => ?_) (fun _ => ?_) _
abbrev m0_keptCount : MI := (yX0_keptCount, cX0_keptCount, 1, (some .int), 1, 21)
noncomputable def f0_keptCount (t : Option Nat) : Cm (Int32) :=
  bn (oGetI t 0 4) fun v1 =>
  bn (oGetR t 0 0) fun v5 =>
  bn (oLen 0 v5) fun v8 =>
  rt ((jmin v1 v8))
theorem n0_keptCount (t : Option Nat) : Mn (f0_keptCount t) := by
  unfold f0_keptCount
  repeat' first | with_reducible exact mn_rt | with_reducible exact mn_getI | with_reducible exact mn_getR | with_reducible exact mn_getL | with_reducible exact mn_putI | with_reducible exact mn_putR | with_reducible exact mn_putL | with_reducible exact mn_ld | with_reducible exact mn_ldR | with_reducible exact mn_st | with_reducible exact mn_stZ | with_reducible exact mn_stR | with_reducible exact mn_len | with_reducible exact mn_newO | with_reducible exact mn_newA | with_reducible exact mn_newR | with_reducible exact mn_clone | with_reducible exact mn_copy | with_reducible exact mn_obj | with_reducible exact mn_z | with_reducible exact hrec _ | with_reducible refine mn_ite ?_ ?_ | with_reducible refine mn_bn ?_ (fun _ => ?_) | with_reducible refine mn_sum (fun _ => ?_) (fun _ => ?_) _
abbrev m0_blackened : MI := (yX0_blackened, cX0_blackened, 6, (some (.array .int)), 2, 41)
noncomputable def l0_blackened_31 (t : Option Nat) (p2 : Option Nat) (p3 : Int32) (p4 : Int32) (rec : Int32 → Cm (Unit)) (x31 : Int32) : Cm (Unit) :=
  bn (oGetR t 0 1) fun v34 =>
  bn (oLd 0 v34 p4) fun v39 =>
  if v39 < x31 then
    rt ()
  else
    bn (oLen 0 p2) fun v46 =>
    if v46 ≤ x31 then
      rt ()
    else
      bn (oSt 0 p2 x31 42) fun _ =>
      rec (x31 + 1)
noncomputable def l0_blackened_16 (t : Option Nat) (p2 : Option Nat) (p3 : Int32) (rec : Int32 → Cm (Unit)) (x16 : Int32) : Cm (Unit) :=
  if p3 ≤ x16 then
    rt ()
  else
    bn (oGetR t 0 0) fun v23 =>
    bn (oLd 0 v23 x16) fun v28 =>
    bn (fx (l0_blackened_31 t p2 p3 x16) FUEL v28) (fun y62 =>
      rec (x16 + 1)
    )
noncomputable def f0_blackened (t : Option Nat) (a1 : Option Nat) : Cm (Option Nat) :=
  bn (oClone a1) fun v1 =>
  bn (oLen 0 v1) fun v4 =>
  bn (oObj t 0) fun _ =>
  bn (f0_keptCount t ) fun v9 =>
  bn (fx (l0_blackened_16 t v1 v9) FUEL 0) (fun y68 =>
    rt (v1)
  )
theorem k0_blackened_31 (t : Option Nat) (p2 : Option Nat) (p3 : Int32) (p4 : Int32) (n : Nat) (x : Int32) : Mn (fx (l0_blackened_31 t p2 p3 p4) n x) := by
  refine mn_fx (fun rec hrec x => ?_) n x
  unfold l0_blackened_31
  repeat' first | with_reducible exact mn_rt | with_reducible exact mn_getI | with_reducible exact mn_getR | with_reducible exact mn_getL | with_reducible exact mn_putI | with_reducible exact mn_putR | with_reducible exact mn_putL | with_reducible exact mn_ld | with_reducible exact mn_ldR | with_reducible exact mn_st | with_reducible exact mn_stZ | with_reducible exact mn_stR | with_reducible exact mn_len | with_reducible exact mn_newO | with_reducible exact mn_newA | with_reducible exact mn_newR | with_reducible exact mn_clone | with_reducible exact mn_copy | with_reducible exact mn_obj | with_reducible exact mn_z | with_reducible exact n0_keptCount _ | with_reducible exact hrec _ | with_reducible refine mn_ite ?_ ?_ | with_reducible refine mn_bn ?_ (fun _ => ?_) | with_reducible refine mn_sum (fun _ => ?_) (fun _ => ?_) _
theorem k0_blackened_16 (t : Option Nat) (p2 : Option Nat) (p3 : Int32) (n : Nat) (x : Int32) : Mn (fx (l0_blackened_16 t p2 p3) n x) := by
  refine mn_fx (fun rec hrec x => ?_) n x
  unfold l0_blackened_16
  repeat' first | with_reducible exact mn_rt | with_reducible exact mn_getI | with_reducible exact mn_getR | with_reducible exact mn_getL | with_reducible exact mn_putI | with_reducible exact mn_putR | with_reducible exact mn_putL | with_reducible exact mn_ld | with_reducible exact mn_ldR | with_reducible exact mn_st | with_reducible exact mn_stZ | with_reducible exact mn_stR | with_reducible exact mn_len | with_reducible exact mn_newO | with_reducible exact mn_newA | with_reducible exact mn_newR | with_reducible exact mn_clone | with_reducible exact mn_copy | with_reducible exact mn_obj | with_reducible exact mn_z | with_reducible exact n0_keptCount _ | with_reducible exact hrec _ | with_reducible exact k0_blackened_31 _ _ _ _ _ _ | with_reducible refine mn_ite ?_ ?_ | with_reducible refine mn_bn ?_ (fun _ => ?_) | with_reducible refine mn_sum (fun _ => ?_) (fun _ => ?_) _
theorem n0_blackened (t : Option Nat) (a1 : Option Nat) : Mn (f0_blackened t a1) := by
  unfold f0_blackened
  repeat' first | with_reducible exact mn_rt | with_reducible exact mn_getI | with_reducible exact mn_getR | with_reducible exact mn_getL | with_reducible exact mn_putI | with_reducible exact mn_putR | with_reducible exact mn_putL | with_reducible exact mn_ld | with_reducible exact mn_ldR | with_reducible exact mn_st | with_reducible exact mn_stZ | with_reducible exact mn_stR | with_reducible exact mn_len | with_reducible exact mn_newO | with_reducible exact mn_newA | with_reducible exact mn_newR | with_reducible exact mn_clone | with_reducible exact mn_copy | with_reducible exact mn_obj | with_reducible exact mn_z | with_reducible exact n0_keptCount _ | with_reducible exact hrec _ | with_reducible exact k0_blackened_31 _ _ _ _ _ _ | with_reducible exact k0_blackened_16 _ _ _ _ _ | with_reducible refine mn_ite ?_ ?_ | with_reducible refine mn_bn ?_ (fun _ => ?_) | with_reducible refine mn_sum (fun _ => ?_) (fun _ => ?_) _
abbrev m7_deal : MI := (yX7_deal, cX7_deal, 4, none, 4, 100)
noncomputable def f7_deal (t : Option Nat) (a1 : Option Nat) (a2 : Option Nat) : Cm (Unit) :=
  if a2 = none then
    rt (())
  else
    bn (oNewO 0 [.null, .null, .null, .null, .int 0]) fun v5 =>
    bn (oGetR a1 2 11) fun v10 =>
    bn (oGetI a2 4 2) fun v14 =>
    bn (oLdR 6 v10 v14) fun v17 =>
    bn (oGetI v17 0 4) fun v18 =>
    bn (oObj v5 0) fun _ =>
    bn (f0_init v5 v18) fun _ =>
    bn (oGetR t 7 4) fun v27 =>
    bn (oGetI a2 4 2) fun v31 =>
    bn (oLdR 3 v27 v31) fun v34 =>
    bn (oGetR a1 2 5) fun v36 =>
    bn (oObj t 7) fun _ =>
    bn (f7_collect t v34 v36 v5) fun _ =>
    bn (oGetI a2 4 3) fun v45 =>
    bn (oPutI a1 2 6 v45) fun _ =>
    bn (oGetI a2 4 2) fun v53 =>
    bn (oPutI a1 2 7 v53) fun _ =>
    bn (oPutR a1 2 9 v5) fun _ =>
    bn (oGetI a2 4 3) fun v65 =>
    bn (α := Unit) (
      if v65 = 2 then
        bn (oGetR a1 2 4) fun v75 =>
        bn (oObj v5 0) fun _ =>
        bn (f0_blackened v5 v75) fun v78 =>
        bn (oPutR a1 2 10 v78) fun _ =>
        rt ()
      else
        rt ()
    ) (fun y84 =>
      bn (oGetI a2 4 3) fun v85 =>
      if v85 = 3 then
        bn (oPutI a1 2 8 1) fun _ =>
        rt (())
      else
        bn (oGetI a2 4 3) fun v93 =>
        if v93 = 4 then
          bn (oPutI a1 2 8 1) fun _ =>
          rt (())
        else
          rt (())
    )
theorem n7_deal (t : Option Nat) (a1 : Option Nat) (a2 : Option Nat) : Mn (f7_deal t a1 a2) := by
  unfold f7_deal
  repeat' first | with_reducible exact mn_rt | with_reducible exact mn_getI | with_reducible exact mn_getR | with_reducible exact mn_getL | with_reducible exact mn_putI | with_reducible exact mn_putR | with_reducible exact mn_putL | with_reducible exact mn_ld | with_reducible exact mn_ldR | with_reducible exact mn_st | with_reducible exact mn_stZ | with_reducible exact mn_stR | with_reducible exact mn_len | with_reducible exact mn_newO | with_reducible exact mn_newA | with_reducible exact mn_newR | with_reducible exact mn_clone | with_reducible exact mn_copy | with_reducible exact mn_obj | with_reducible exact mn_z | with_reducible exact n7_collect _ _ _ _ | with_reducible exact n0_init _ _ | with_reducible exact n0_blackened _ _ | with_reducible exact hrec _ | with_reducible refine mn_ite ?_ ?_ | with_reducible refine mn_bn ?_ (fun _ => ?_) | with_reducible refine mn_sum (fun _ => ?_) (fun _ => ?_) _
abbrev m5_remove : MI := (yX5_remove, cX5_remove, 3, none, 1, 22)
noncomputable def l5_remove_17 (t : Option Nat) (rec : Int32 → Cm (Unit)) (x17 : Int32) : Cm (Unit) :=
  bn (oGetI t 5 1) fun v21 =>
  if v21 ≤ (x17 + 1) then
    rt ()
  else
    bn (oGetR t 5 0) fun v28 =>
    bn (oGetR t 5 0) fun v33 =>
    bn (oLdR 5 v33 (x17 + 1)) fun v39 =>
    bn (oStR 5 4 v28 x17 v39) fun _ =>
    rec (x17 + 1)
noncomputable def f5_remove (t : Option Nat) (a1 : Int32) : Cm (Unit) :=
  bn (oGetI t 5 1) fun v3 =>
  bn (f7_within a1 0 (v3 - 1)) fun v8 =>
  if v8 = 0 then
    rt (())
  else
    bn (fx (l5_remove_17 t) FUEL a1) (fun y47 =>
      bn (oGetI t 5 1) fun v49 =>
      bn (oPutI t 5 1 (v49 - 1)) fun _ =>
      rt (())
    )
theorem k5_remove_17 (t : Option Nat) (n : Nat) (x : Int32) : Mn (fx (l5_remove_17 t) n x) := by
  refine mn_fx (fun rec hrec x => ?_) n x
  unfold l5_remove_17
  repeat' first | with_reducible exact mn_rt | with_reducible exact mn_getI | with_reducible exact mn_getR | with_reducible exact mn_getL | with_reducible exact mn_putI | with_reducible exact mn_putR | with_reducible exact mn_putL | with_reducible exact mn_ld | with_reducible exact mn_ldR | with_reducible exact mn_st | with_reducible exact mn_stZ | with_reducible exact mn_stR | with_reducible exact mn_len | with_reducible exact mn_newO | with_reducible exact mn_newA | with_reducible exact mn_newR | with_reducible exact mn_clone | with_reducible exact mn_copy | with_reducible exact mn_obj | with_reducible exact mn_z | with_reducible exact n7_within _ _ _ | with_reducible exact hrec _ | with_reducible refine mn_ite ?_ ?_ | with_reducible refine mn_bn ?_ (fun _ => ?_) | with_reducible refine mn_sum (fun _ => ?_) (fun _ => ?_) _
theorem n5_remove (t : Option Nat) (a1 : Int32) : Mn (f5_remove t a1) := by
  unfold f5_remove
  repeat' first | with_reducible exact mn_rt | with_reducible exact mn_getI | with_reducible exact mn_getR | with_reducible exact mn_getL | with_reducible exact mn_putI | with_reducible exact mn_putR | with_reducible exact mn_putL | with_reducible exact mn_ld | with_reducible exact mn_ldR | with_reducible exact mn_st | with_reducible exact mn_stZ | with_reducible exact mn_stR | with_reducible exact mn_len | with_reducible exact mn_newO | with_reducible exact mn_newA | with_reducible exact mn_newR | with_reducible exact mn_clone | with_reducible exact mn_copy | with_reducible exact mn_obj | with_reducible exact mn_z | with_reducible exact n7_within _ _ _ | with_reducible exact hrec _ | with_reducible exact k5_remove_17 _ _ _ | with_reducible refine mn_ite ?_ ?_ | with_reducible refine mn_bn ?_ (fun _ => ?_) | with_reducible refine mn_sum (fun _ => ?_) (fun _ => ?_) _
abbrev m7_drop : MI := (yX7_drop, cX7_drop, 2, (some .boolean), 2, 44)
noncomputable def f7_drop (t : Option Nat) (a1 : Int32) : Cm (Int32) :=
  bn (oGetR t 7 6) fun v3 =>
  bn (oGetI v3 5 1) fun v6 =>
  bn (f7_within a1 0 (v6 - 1)) fun v11 =>
  if v11 = 0 then
    rt (0)
  else
    bn (oGetR t 7 6) fun v20 =>
    bn (oObj v20 5) fun _ =>
    bn (f5_remove v20 a1) fun _ =>
    rt (1)
theorem n7_drop (t : Option Nat) (a1 : Int32) : Mn (f7_drop t a1) := by
  unfold f7_drop
  repeat' first | with_reducible exact mn_rt | with_reducible exact mn_getI | with_reducible exact mn_getR | with_reducible exact mn_getL | with_reducible exact mn_putI | with_reducible exact mn_putR | with_reducible exact mn_putL | with_reducible exact mn_ld | with_reducible exact mn_ldR | with_reducible exact mn_st | with_reducible exact mn_stZ | with_reducible exact mn_stR | with_reducible exact mn_len | with_reducible exact mn_newO | with_reducible exact mn_newA | with_reducible exact mn_newR | with_reducible exact mn_clone | with_reducible exact mn_copy | with_reducible exact mn_obj | with_reducible exact mn_z | with_reducible exact n7_within _ _ _ | with_reducible exact n5_remove _ _ | with_reducible exact hrec _ | with_reducible refine mn_ite ?_ ?_ | with_reducible refine mn_bn ?_ (fun _ => ?_) | with_reducible refine mn_sum (fun _ => ?_) (fun _ => ?_) _
abbrev m7_end : MI := (yX7_end, cX7_end, 2, (some .boolean), 1, 22)
noncomputable def f7_end (t : Option Nat) (a1 : Int32) : Cm (Int32) :=
  bn (oGetI t 7 2) fun v3 =>
  bn (f7_within a1 0 v3) fun v6 =>
  if v6 = 0 then
    rt (0)
  else
    bn (oPutI t 7 2 a1) fun _ =>
    rt (1)
theorem n7_end (t : Option Nat) (a1 : Int32) : Mn (f7_end t a1) := by
  unfold f7_end
  repeat' first | with_reducible exact mn_rt | with_reducible exact mn_getI | with_reducible exact mn_getR | with_reducible exact mn_getL | with_reducible exact mn_putI | with_reducible exact mn_putR | with_reducible exact mn_putL | with_reducible exact mn_ld | with_reducible exact mn_ldR | with_reducible exact mn_st | with_reducible exact mn_stZ | with_reducible exact mn_stR | with_reducible exact mn_len | with_reducible exact mn_newO | with_reducible exact mn_newA | with_reducible exact mn_newR | with_reducible exact mn_clone | with_reducible exact mn_copy | with_reducible exact mn_obj | with_reducible exact mn_z | with_reducible exact n7_within _ _ _ | with_reducible exact hrec _ | with_reducible refine mn_ite ?_ ?_ | with_reducible refine mn_bn ?_ (fun _ => ?_) | with_reducible refine mn_sum (fun _ => ?_) (fun _ => ?_) _
abbrev m7_feed : MI := (yX7_feed, cX7_feed, 7, (some .int), 1, 23)
noncomputable def f7_feed (t : Option Nat) (a1 : Int32) (a2 : Int32) (a3 : Int32) (a4 : Int32) (a5 : Int32) : Cm (Int32) :=
  bn (f7_bytesOf a1) fun v1 =>
  bn (f7_bytesOf a2) fun v5 =>
  bn (f7_bytesOf a3) fun v10 =>
  bn (f7_bytesOf a4) fun v16 =>
  bn (f7_bytesOf a5) fun v22 =>
  bn (oGetI t 7 2) fun v29 =>
  if (v29 + ((((v1 + v5) + v10) + v16) + v22)) ≤ 300 then
    bn (oObj t 7) fun _ =>
    bn (f7_append t a1) fun _ =>
    bn (oObj t 7) fun _ =>
    bn (f7_append t a2) fun _ =>
    bn (oObj t 7) fun _ =>
    bn (f7_append t a3) fun _ =>
    bn (oObj t 7) fun _ =>
    bn (f7_append t a4) fun _ =>
    bn (oObj t 7) fun _ =>
    bn (f7_append t a5) fun _ =>
    bn (oGetI t 7 2) fun v71 =>
    rt (v71)
  else
    rt ((-1))
theorem n7_feed (t : Option Nat) (a1 : Int32) (a2 : Int32) (a3 : Int32) (a4 : Int32) (a5 : Int32) : Mn (f7_feed t a1 a2 a3 a4 a5) := by
  unfold f7_feed
  repeat' first | with_reducible exact mn_rt | with_reducible exact mn_getI | with_reducible exact mn_getR | with_reducible exact mn_getL | with_reducible exact mn_putI | with_reducible exact mn_putR | with_reducible exact mn_putL | with_reducible exact mn_ld | with_reducible exact mn_ldR | with_reducible exact mn_st | with_reducible exact mn_stZ | with_reducible exact mn_stR | with_reducible exact mn_len | with_reducible exact mn_newO | with_reducible exact mn_newA | with_reducible exact mn_newR | with_reducible exact mn_clone | with_reducible exact mn_copy | with_reducible exact mn_obj | with_reducible exact mn_z | with_reducible exact n7_append _ _ | with_reducible exact n7_bytesOf _ | with_reducible exact hrec _ | with_reducible refine mn_ite ?_ ?_ | with_reducible refine mn_bn ?_ (fun _ => ?_) | with_reducible refine mn_sum (fun _ => ?_) (fun _ => ?_) _
abbrev m3_clear : MI := (yX3_clear, cX3_clear, 1, none, 0, 0)
noncomputable def f3_clear (t : Option Nat) : Cm (Unit) :=
  bn (oPutL t 3 0 0) fun _ =>
  bn (oPutL t 3 1 0) fun _ =>
  bn (oPutL t 3 2 0) fun _ =>
  rt (())
theorem n3_clear (t : Option Nat) : Mn (f3_clear t) := by
  unfold f3_clear
  repeat' first | with_reducible exact mn_rt | with_reducible exact mn_getI | with_reducible exact mn_getR | with_reducible exact mn_getL | with_reducible exact mn_putI | with_reducible exact mn_putR | with_reducible exact mn_putL | with_reducible exact mn_ld | with_reducible exact mn_ldR | with_reducible exact mn_st | with_reducible exact mn_stZ | with_reducible exact mn_stR | with_reducible exact mn_len | with_reducible exact mn_newO | with_reducible exact mn_newA | with_reducible exact mn_newR | with_reducible exact mn_clone | with_reducible exact mn_copy | with_reducible exact mn_obj | with_reducible exact mn_z | with_reducible exact hrec _ | with_reducible refine mn_ite ?_ ?_ | with_reducible refine mn_bn ?_ (fun _ => ?_) | with_reducible refine mn_sum (fun _ => ?_) (fun _ => ?_) _
abbrev m3_putAll : MI := (yX3_putAll, cX3_putAll, 2, none, 0, 0)
noncomputable def f3_putAll (t : Option Nat) (a1 : Option Nat) : Cm (Unit) :=
  bn (oGetL t 3 0) fun v2 =>
  bn (oGetL a1 3 0) fun v6 =>
  bn (oPutL t 3 0 (v2 ||| v6)) fun _ =>
  bn (oGetL t 3 1) fun v15 =>
  bn (oGetL a1 3 1) fun v19 =>
  bn (oPutL t 3 1 (v15 ||| v19)) fun _ =>
  bn (oGetL t 3 2) fun v28 =>
  bn (oGetL a1 3 2) fun v32 =>
  bn (oPutL t 3 2 (v28 ||| v32)) fun _ =>
  rt (())
theorem n3_putAll (t : Option Nat) (a1 : Option Nat) : Mn (f3_putAll t a1) := by
  unfold f3_putAll
  repeat' first | with_reducible exact mn_rt | with_reducible exact mn_getI | with_reducible exact mn_getR | with_reducible exact mn_getL | with_reducible exact mn_putI | with_reducible exact mn_putR | with_reducible exact mn_putL | with_reducible exact mn_ld | with_reducible exact mn_ldR | with_reducible exact mn_st | with_reducible exact mn_stZ | with_reducible exact mn_stR | with_reducible exact mn_len | with_reducible exact mn_newO | with_reducible exact mn_newA | with_reducible exact mn_newR | with_reducible exact mn_clone | with_reducible exact mn_copy | with_reducible exact mn_obj | with_reducible exact mn_z | with_reducible exact hrec _ | with_reducible refine mn_ite ?_ ?_ | with_reducible refine mn_bn ?_ (fun _ => ?_) | with_reducible refine mn_sum (fun _ => ?_) (fun _ => ?_) _
abbrev mJ13_bitCount_95d88 : MI := (yJ13_bitCount_95d88, cJ13_bitCount_95d88, 2, (some .int), 0, 0)
noncomputable def fJ13_bitCount_95d88 (a1 : Int64) : Cm (Int32) :=
  rt (((((((((((a1 - ((jlushr a1 1) &&& 6148914691236517205)) &&& 3689348814741910323) + ((jlushr (a1 - ((jlushr a1 1) &&& 6148914691236517205)) 2) &&& 3689348814741910323)) + (jlushr (((a1 - ((jlushr a1 1) &&& 6148914691236517205)) &&& 3689348814741910323) + ((jlushr (a1 - ((jlushr a1 1) &&& 6148914691236517205)) 2) &&& 3689348814741910323)) 4)) &&& 1085102592571150095) + (jlushr (((((a1 - ((jlushr a1 1) &&& 6148914691236517205)) &&& 3689348814741910323) + ((jlushr (a1 - ((jlushr a1 1) &&& 6148914691236517205)) 2) &&& 3689348814741910323)) + (jlushr (((a1 - ((jlushr a1 1) &&& 6148914691236517205)) &&& 3689348814741910323) + ((jlushr (a1 - ((jlushr a1 1) &&& 6148914691236517205)) 2) &&& 3689348814741910323)) 4)) &&& 1085102592571150095) 8)) + (jlushr ((((((a1 - ((jlushr a1 1) &&& 6148914691236517205)) &&& 3689348814741910323) + ((jlushr (a1 - ((jlushr a1 1) &&& 6148914691236517205)) 2) &&& 3689348814741910323)) + (jlushr (((a1 - ((jlushr a1 1) &&& 6148914691236517205)) &&& 3689348814741910323) + ((jlushr (a1 - ((jlushr a1 1) &&& 6148914691236517205)) 2) &&& 3689348814741910323)) 4)) &&& 1085102592571150095) + (jlushr (((((a1 - ((jlushr a1 1) &&& 6148914691236517205)) &&& 3689348814741910323) + ((jlushr (a1 - ((jlushr a1 1) &&& 6148914691236517205)) 2) &&& 3689348814741910323)) + (jlushr (((a1 - ((jlushr a1 1) &&& 6148914691236517205)) &&& 3689348814741910323) + ((jlushr (a1 - ((jlushr a1 1) &&& 6148914691236517205)) 2) &&& 3689348814741910323)) 4)) &&& 1085102592571150095) 8)) 16)) + (jlushr (((((((a1 - ((jlushr a1 1) &&& 6148914691236517205)) &&& 3689348814741910323) + ((jlushr (a1 - ((jlushr a1 1) &&& 6148914691236517205)) 2) &&& 3689348814741910323)) + (jlushr (((a1 - ((jlushr a1 1) &&& 6148914691236517205)) &&& 3689348814741910323) + ((jlushr (a1 - ((jlushr a1 1) &&& 6148914691236517205)) 2) &&& 3689348814741910323)) 4)) &&& 1085102592571150095) + (jlushr (((((a1 - ((jlushr a1 1) &&& 6148914691236517205)) &&& 3689348814741910323) + ((jlushr (a1 - ((jlushr a1 1) &&& 6148914691236517205)) 2) &&& 3689348814741910323)) + (jlushr (((a1 - ((jlushr a1 1) &&& 6148914691236517205)) &&& 3689348814741910323) + ((jlushr (a1 - ((jlushr a1 1) &&& 6148914691236517205)) 2) &&& 3689348814741910323)) 4)) &&& 1085102592571150095) 8)) + (jlushr ((((((a1 - ((jlushr a1 1) &&& 6148914691236517205)) &&& 3689348814741910323) + ((jlushr (a1 - ((jlushr a1 1) &&& 6148914691236517205)) 2) &&& 3689348814741910323)) + (jlushr (((a1 - ((jlushr a1 1) &&& 6148914691236517205)) &&& 3689348814741910323) + ((jlushr (a1 - ((jlushr a1 1) &&& 6148914691236517205)) 2) &&& 3689348814741910323)) 4)) &&& 1085102592571150095) + (jlushr (((((a1 - ((jlushr a1 1) &&& 6148914691236517205)) &&& 3689348814741910323) + ((jlushr (a1 - ((jlushr a1 1) &&& 6148914691236517205)) 2) &&& 3689348814741910323)) + (jlushr (((a1 - ((jlushr a1 1) &&& 6148914691236517205)) &&& 3689348814741910323) + ((jlushr (a1 - ((jlushr a1 1) &&& 6148914691236517205)) 2) &&& 3689348814741910323)) 4)) &&& 1085102592571150095) 8)) 16)) 32))).toInt32 &&& 127))
theorem nJ13_bitCount_95d88 (a1 : Int64) : Mn (fJ13_bitCount_95d88 a1) := by
  unfold fJ13_bitCount_95d88
  repeat' first | with_reducible exact mn_rt | with_reducible exact mn_getI | with_reducible exact mn_getR | with_reducible exact mn_getL | with_reducible exact mn_putI | with_reducible exact mn_putR | with_reducible exact mn_putL | with_reducible exact mn_ld | with_reducible exact mn_ldR | with_reducible exact mn_st | with_reducible exact mn_stZ | with_reducible exact mn_stR | with_reducible exact mn_len | with_reducible exact mn_newO | with_reducible exact mn_newA | with_reducible exact mn_newR | with_reducible exact mn_clone | with_reducible exact mn_copy | with_reducible exact mn_obj | with_reducible exact mn_z | with_reducible exact hrec _ | with_reducible refine mn_ite ?_ ?_ | with_reducible refine mn_bn ?_ (fun _ => ?_) | with_reducible refine mn_sum (fun _ => ?_) (fun _ => ?_) _
abbrev m3_size : MI := (yX3_size, cX3_size, 1, (some .int), 1, 21)
noncomputable def f3_size (t : Option Nat) : Cm (Int32) :=
  bn (oGetL t 3 0) fun v1 =>
  bn (fJ13_bitCount_95d88 v1) fun v4 =>
  bn (oGetL t 3 1) fun v8 =>
  bn (fJ13_bitCount_95d88 v8) fun v11 =>
  bn (oGetL t 3 2) fun v16 =>
  bn (fJ13_bitCount_95d88 v16) fun v19 =>
  rt (((v4 + v11) + v19))
theorem n3_size (t : Option Nat) : Mn (f3_size t) := by
  unfold f3_size
  repeat' first | with_reducible exact mn_rt | with_reducible exact mn_getI | with_reducible exact mn_getR | with_reducible exact mn_getL | with_reducible exact mn_putI | with_reducible exact mn_putR | with_reducible exact mn_putL | with_reducible exact mn_ld | with_reducible exact mn_ldR | with_reducible exact mn_st | with_reducible exact mn_stZ | with_reducible exact mn_stR | with_reducible exact mn_len | with_reducible exact mn_newO | with_reducible exact mn_newA | with_reducible exact mn_newR | with_reducible exact mn_clone | with_reducible exact mn_copy | with_reducible exact mn_obj | with_reducible exact mn_z | with_reducible exact nJ13_bitCount_95d88 _ | with_reducible exact hrec _ | with_reducible refine mn_ite ?_ ?_ | with_reducible refine mn_bn ?_ (fun _ => ?_) | with_reducible refine mn_sum (fun _ => ?_) (fun _ => ?_) _
abbrev m7_piecesLetOut : MI := (yX7_piecesLetOut, cX7_piecesLetOut, 6, (some .int), 2, 41)
noncomputable def l7_piecesLetOut_17 (t : Option Nat) (p1 : Int32) (p2 : Int32) (p3 : Option Nat) (rec : Int32 → Cm (Unit)) (x17 : Int32) : Cm (Unit) :=
  if p1 < x17 then
    rt ()
  else
    bn (oGetR t 7 7) fun v24 =>
    bn (oLdR 4 v24 x17) fun v29 =>
    bn (oGetI v29 2 0) fun v34 =>
    bn (oGetI p3 2 0) fun v38 =>
    if v34 = v38 then
      bn (oGetI p3 2 3) fun v45 =>
      bn (oGetI v29 2 3) fun v50 =>
      bn (oGetR t 7 4) fun v55 =>
      bn (oLdR 3 v55 p2) fun v59 =>
      bn (oGetI v59 1 5) fun v60 =>
      if v60 < (v45 - v50) then
        rec (x17 + 1)
      else
        bn (oGetR t 7 11) fun v67 =>
        bn (oGetR v29 2 11) fun v72 =>
        bn (oLdR 6 v72 p2) fun v76 =>
        bn (oGetR v76 0 3) fun v77 =>
        bn (oObj v67 3) fun _ =>
        bn (f3_putAll v67 v77) fun _ =>
        rec (x17 + 1)
    else
      rec (x17 + 1)
noncomputable def f7_piecesLetOut (t : Option Nat) (a1 : Int32) (a2 : Int32) : Cm (Int32) :=
  bn (oGetR t 7 7) fun v1 =>
  bn (oLdR 4 v1 a1) fun v5 =>
  bn (oGetR t 7 11) fun v8 =>
  bn (oObj v8 3) fun _ =>
  bn (f3_clear v8 ) fun _ =>
  bn (fx (l7_piecesLetOut_17 t a1 a2 v5) FUEL 0) (fun y89 =>
    bn (oGetR t 7 11) fun v90 =>
    bn (oObj v90 3) fun _ =>
    bn (f3_size v90 ) fun v93 =>
    rt (v93)
  )
theorem k7_piecesLetOut_17 (t : Option Nat) (p1 : Int32) (p2 : Int32) (p3 : Option Nat) (n : Nat) (x : Int32) : Mn (fx (l7_piecesLetOut_17 t p1 p2 p3) n x) := by
  refine mn_fx (fun rec hrec x => ?_) n x
  unfold l7_piecesLetOut_17
  repeat' first | with_reducible exact mn_rt | with_reducible exact mn_getI | with_reducible exact mn_getR | with_reducible exact mn_getL | with_reducible exact mn_putI | with_reducible exact mn_putR | with_reducible exact mn_putL | with_reducible exact mn_ld | with_reducible exact mn_ldR | with_reducible exact mn_st | with_reducible exact mn_stZ | with_reducible exact mn_stR | with_reducible exact mn_len | with_reducible exact mn_newO | with_reducible exact mn_newA | with_reducible exact mn_newR | with_reducible exact mn_clone | with_reducible exact mn_copy | with_reducible exact mn_obj | with_reducible exact mn_z | with_reducible exact n3_clear _ | with_reducible exact n3_putAll _ _ | with_reducible exact n3_size _ | with_reducible exact hrec _ | with_reducible refine mn_ite ?_ ?_ | with_reducible refine mn_bn ?_ (fun _ => ?_) | with_reducible refine mn_sum (fun _ => ?_) (fun _ => ?_) _
theorem n7_piecesLetOut (t : Option Nat) (a1 : Int32) (a2 : Int32) : Mn (f7_piecesLetOut t a1 a2) := by
  unfold f7_piecesLetOut
  repeat' first | with_reducible exact mn_rt | with_reducible exact mn_getI | with_reducible exact mn_getR | with_reducible exact mn_getL | with_reducible exact mn_putI | with_reducible exact mn_putR | with_reducible exact mn_putL | with_reducible exact mn_ld | with_reducible exact mn_ldR | with_reducible exact mn_st | with_reducible exact mn_stZ | with_reducible exact mn_stR | with_reducible exact mn_len | with_reducible exact mn_newO | with_reducible exact mn_newA | with_reducible exact mn_newR | with_reducible exact mn_clone | with_reducible exact mn_copy | with_reducible exact mn_obj | with_reducible exact mn_z | with_reducible exact n3_clear _ | with_reducible exact n3_putAll _ _ | with_reducible exact n3_size _ | with_reducible exact hrec _ | with_reducible exact k7_piecesLetOut_17 _ _ _ _ _ _ | with_reducible refine mn_ite ?_ ?_ | with_reducible refine mn_bn ?_ (fun _ => ?_) | with_reducible refine mn_sum (fun _ => ?_) (fun _ => ?_) _
abbrev m7_has : MI := (yX7_has, cX7_has, 5, (some .boolean), 3, 66)
noncomputable def f7_has (t : Option Nat) (a1 : Int32) (a2 : Int32) : Cm (Int32) :=
  bn (oGetR t 7 7) fun v1 =>
  bn (oLdR 4 v1 a1) fun v5 =>
  bn (oGetR t 7 5) fun v8 =>
  bn (oGetI v5 2 0) fun v13 =>
  bn (oGetI v5 2 1) fun v17 =>
  bn (f7_pairOf a2 v13 v17) fun v20 =>
  bn (oLd 1 v8 v20) fun v23 =>
  if v23 = 0 then
    bn (oGetR v5 2 11) fun v30 =>
    bn (oLdR 6 v30 a2) fun v34 =>
    bn (oGetI v34 0 4) fun v35 =>
    if v35 = 0 then
      rt (0)
    else
      bn (oGetR t 7 4) fun v48 =>
      bn (oLdR 3 v48 a2) fun v52 =>
      bn (oGetI v52 1 0) fun v53 =>
      if v53 = 3 then
        bn (oGetR t 7 4) fun v87 =>
        bn (oLdR 3 v87 a2) fun v91 =>
        bn (oGetI v91 1 4) fun v92 =>
        if v35 < v92 then
          rt (0)
        else
          rt (1)
      else
        if v53 = 4 then
          bn (oObj t 7) fun _ =>
          bn (f7_piecesLetOut t a1 a2) fun v107 =>
          bn (oGetR t 7 4) fun v111 =>
          bn (oLdR 3 v111 a2) fun v115 =>
          bn (oGetI v115 1 4) fun v116 =>
          if v107 < v116 then
            rt (0)
          else
            rt (1)
        else
          rt (1)
  else
    rt (0)
theorem n7_has (t : Option Nat) (a1 : Int32) (a2 : Int32) : Mn (f7_has t a1 a2) := by
  unfold f7_has
  repeat' first | with_reducible exact mn_rt | with_reducible exact mn_getI | with_reducible exact mn_getR | with_reducible exact mn_getL | with_reducible exact mn_putI | with_reducible exact mn_putR | with_reducible exact mn_putL | with_reducible exact mn_ld | with_reducible exact mn_ldR | with_reducible exact mn_st | with_reducible exact mn_stZ | with_reducible exact mn_stR | with_reducible exact mn_len | with_reducible exact mn_newO | with_reducible exact mn_newA | with_reducible exact mn_newR | with_reducible exact mn_clone | with_reducible exact mn_copy | with_reducible exact mn_obj | with_reducible exact mn_z | with_reducible exact n7_pairOf _ _ _ | with_reducible exact n7_piecesLetOut _ _ _ | with_reducible exact hrec _ | with_reducible refine mn_ite ?_ ?_ | with_reducible refine mn_bn ?_ (fun _ => ?_) | with_reducible refine mn_sum (fun _ => ?_) (fun _ => ?_) _
abbrev m4_isFor : MI := (yX4_isFor, cX4_isFor, 2, (some .boolean), 0, 0)
noncomputable def f4_isFor (t : Option Nat) (a1 : Option Nat) : Cm (Int32) :=
  bn (oGetI t 4 0) fun v1 =>
  bn (α := (Int32) ⊕ (Unit)) (
    if v1 = (-1) then
      rt (.inr ())
    else
      bn (oGetI t 4 0) fun v9 =>
      bn (oGetI a1 2 0) fun v13 =>
      if v9 = v13 then
        rt (.inr ())
      else
        rt (.inl (0))
  ) (Sum.elim (fun r => rt r) fun y19 =>
    bn (oGetI t 4 1) fun v20 =>
    if v20 = (-1) then
      rt (1)
    else
      bn (oGetI t 4 1) fun v28 =>
      bn (oGetI a1 2 2) fun v32 =>
      if v28 = v32 then
        rt (1)
      else
        rt (0)
  )
theorem n4_isFor (t : Option Nat) (a1 : Option Nat) : Mn (f4_isFor t a1) := by
  unfold f4_isFor
  repeat' first | with_reducible exact mn_rt | with_reducible exact mn_getI | with_reducible exact mn_getR | with_reducible exact mn_getL | with_reducible exact mn_putI | with_reducible exact mn_putR | with_reducible exact mn_putL | with_reducible exact mn_ld | with_reducible exact mn_ldR | with_reducible exact mn_st | with_reducible exact mn_stZ | with_reducible exact mn_stR | with_reducible exact mn_len | with_reducible exact mn_newO | with_reducible exact mn_newA | with_reducible exact mn_newR | with_reducible exact mn_clone | with_reducible exact mn_copy | with_reducible exact mn_obj | with_reducible exact mn_z | with_reducible exact hrec _ | with_reducible refine mn_ite ?_ ?_ | with_reducible refine mn_bn ?_ (fun _ => ?_) | with_reducible refine mn_sum (fun _ => ?_) (fun _ => ?_) _
abbrev m5_get : MI := (yX5_get, cX5_get, 2, (some (.object "DoorGuard$Rule")), 1, 22)
noncomputable def f5_get (t : Option Nat) (a1 : Int32) : Cm (Option Nat) :=
  bn (oGetI t 5 1) fun v3 =>
  bn (f7_within a1 0 (v3 - 1)) fun v8 =>
  if v8 = 0 then
    rt (none)
  else
    bn (oGetR t 5 0) fun v15 =>
    bn (oLdR 5 v15 a1) fun v19 =>
    rt (v19)
theorem n5_get (t : Option Nat) (a1 : Int32) : Mn (f5_get t a1) := by
  unfold f5_get
  repeat' first | with_reducible exact mn_rt | with_reducible exact mn_getI | with_reducible exact mn_getR | with_reducible exact mn_getL | with_reducible exact mn_putI | with_reducible exact mn_putR | with_reducible exact mn_putL | with_reducible exact mn_ld | with_reducible exact mn_ldR | with_reducible exact mn_st | with_reducible exact mn_stZ | with_reducible exact mn_stR | with_reducible exact mn_len | with_reducible exact mn_newO | with_reducible exact mn_newA | with_reducible exact mn_newR | with_reducible exact mn_clone | with_reducible exact mn_copy | with_reducible exact mn_obj | with_reducible exact mn_z | with_reducible exact n7_within _ _ _ | with_reducible exact hrec _ | with_reducible refine mn_ite ?_ ?_ | with_reducible refine mn_bn ?_ (fun _ => ?_) | with_reducible refine mn_sum (fun _ => ?_) (fun _ => ?_) _
abbrev m7_firstRule : MI := (yX7_firstRule, cX7_firstRule, 6, (some (.object "DoorGuard$Rule")), 4, 90)
noncomputable def l7_firstRule_10 (t : Option Nat) (p1 : Option Nat) (p2 : Int32) (p3 : Option Nat) (rec : Int32 → Cm ((Option Nat) ⊕ (Unit))) (x10 : Int32) : Cm ((Option Nat) ⊕ (Unit)) :=
  bn (oGetI p1 5 1) fun v13 =>
  if v13 ≤ x10 then
    rt (.inr ())
  else
    bn (oObj p1 5) fun _ =>
    bn (f5_get p1 x10) fun v22 =>
    if v22 = none then
      rec (x10 + 1)
    else
      bn (oObj v22 4) fun _ =>
      bn (f4_isFor v22 p3) fun v35 =>
      if v35 = 0 then
        rec (x10 + 1)
      else
        bn (oGetI v22 4 2) fun v45 =>
        bn (oObj t 7) fun _ =>
        bn (f7_has t p2 v45) fun v48 =>
        if v48 = 0 then
          rec (x10 + 1)
        else
          rt (.inl (v22))
noncomputable def f7_firstRule (t : Option Nat) (a1 : Option Nat) (a2 : Int32) : Cm (Option Nat) :=
  bn (oGetR t 7 7) fun v1 =>
  bn (oLdR 4 v1 a2) fun v5 =>
  bn (fx (l7_firstRule_10 t a1 a2 v5) FUEL 0) (Sum.elim (fun r => rt r) fun y63 =>
    rt (none)
  )
theorem k7_firstRule_10 (t : Option Nat) (p1 : Option Nat) (p2 : Int32) (p3 : Option Nat) (n : Nat) (x : Int32) : Mn (fx (l7_firstRule_10 t p1 p2 p3) n x) := by
  refine mn_fx (fun rec hrec x => ?_) n x
  unfold l7_firstRule_10
  repeat' first | with_reducible exact mn_rt | with_reducible exact mn_getI | with_reducible exact mn_getR | with_reducible exact mn_getL | with_reducible exact mn_putI | with_reducible exact mn_putR | with_reducible exact mn_putL | with_reducible exact mn_ld | with_reducible exact mn_ldR | with_reducible exact mn_st | with_reducible exact mn_stZ | with_reducible exact mn_stR | with_reducible exact mn_len | with_reducible exact mn_newO | with_reducible exact mn_newA | with_reducible exact mn_newR | with_reducible exact mn_clone | with_reducible exact mn_copy | with_reducible exact mn_obj | with_reducible exact mn_z | with_reducible exact n7_has _ _ _ | with_reducible exact n4_isFor _ _ | with_reducible exact n5_get _ _ | with_reducible exact hrec _ | with_reducible refine mn_ite ?_ ?_ | with_reducible refine mn_bn ?_ (fun _ => ?_) | with_reducible refine mn_sum (fun _ => ?_) (fun _ => ?_) _
theorem n7_firstRule (t : Option Nat) (a1 : Option Nat) (a2 : Int32) : Mn (f7_firstRule t a1 a2) := by
  unfold f7_firstRule
  repeat' first | with_reducible exact mn_rt | with_reducible exact mn_getI | with_reducible exact mn_getR | with_reducible exact mn_getL | with_reducible exact mn_putI | with_reducible exact mn_putR | with_reducible exact mn_putL | with_reducible exact mn_ld | with_reducible exact mn_ldR | with_reducible exact mn_st | with_reducible exact mn_stZ | with_reducible exact mn_stR | with_reducible exact mn_len | with_reducible exact mn_newO | with_reducible exact mn_newA | with_reducible exact mn_newR | with_reducible exact mn_clone | with_reducible exact mn_copy | with_reducible exact mn_obj | with_reducible exact mn_z | with_reducible exact n7_has _ _ _ | with_reducible exact n4_isFor _ _ | with_reducible exact n5_get _ _ | with_reducible exact hrec _ | with_reducible exact k7_firstRule_10 _ _ _ _ _ _ | with_reducible refine mn_ite ?_ ?_ | with_reducible refine mn_bn ?_ (fun _ => ?_) | with_reducible refine mn_sum (fun _ => ?_) (fun _ => ?_) _
abbrev m1_isOver : MI := (yX1_isOver, cX1_isOver, 2, (some .boolean), 0, 0)
noncomputable def f1_isOver (t : Option Nat) (a1 : Int32) : Cm (Int32) :=
  bn (oGetI t 1 0) fun v1 =>
  bn (α := (Int32) ⊕ (Unit)) (
    if v1 = 2 then
      rt (.inr ())
    else
      bn (oGetI t 1 0) fun v9 =>
      if v9 = 4 then
        rt (.inr ())
      else
        rt (.inl (0))
  ) (Sum.elim (fun r => rt r) fun y16 =>
    bn (oGetI t 1 2) fun v17 =>
    if v17 = a1 then
      rt (1)
    else
      rt (0)
  )
theorem n1_isOver (t : Option Nat) (a1 : Int32) : Mn (f1_isOver t a1) := by
  unfold f1_isOver
  repeat' first | with_reducible exact mn_rt | with_reducible exact mn_getI | with_reducible exact mn_getR | with_reducible exact mn_getL | with_reducible exact mn_putI | with_reducible exact mn_putR | with_reducible exact mn_putL | with_reducible exact mn_ld | with_reducible exact mn_ldR | with_reducible exact mn_st | with_reducible exact mn_stZ | with_reducible exact mn_stR | with_reducible exact mn_len | with_reducible exact mn_newO | with_reducible exact mn_newA | with_reducible exact mn_newR | with_reducible exact mn_clone | with_reducible exact mn_copy | with_reducible exact mn_obj | with_reducible exact mn_z | with_reducible exact hrec _ | with_reducible refine mn_ite ?_ ?_ | with_reducible refine mn_bn ?_ (fun _ => ?_) | with_reducible refine mn_sum (fun _ => ?_) (fun _ => ?_) _
abbrev m7_forgetKindsOver : MI := (yX7_forgetKindsOver, cX7_forgetKindsOver, 3, none, 1, 22)
noncomputable def l7_forgetKindsOver_2 (t : Option Nat) (p1 : Int32) (rec : Int32 → Cm (Unit)) (x2 : Int32) : Cm (Unit) :=
  if 8 ≤ x2 then
    rt ()
  else
    bn (oGetR t 7 4) fun v9 =>
    bn (oLdR 3 v9 x2) fun v13 =>
    bn (oObj v13 1) fun _ =>
    bn (f1_isOver v13 p1) fun v15 =>
    if v15 = 0 then
      rec (x2 + 1)
    else
      bn (oObj t 7) fun _ =>
      bn (f7_forgetSights t x2) fun _ =>
      rec (x2 + 1)
noncomputable def f7_forgetKindsOver (t : Option Nat) (a1 : Int32) : Cm (Unit) :=
  bn (fx (l7_forgetKindsOver_2 t a1) FUEL 0) (fun y32 =>
    rt (())
  )
theorem k7_forgetKindsOver_2 (t : Option Nat) (p1 : Int32) (n : Nat) (x : Int32) : Mn (fx (l7_forgetKindsOver_2 t p1) n x) := by
  refine mn_fx (fun rec hrec x => ?_) n x
  unfold l7_forgetKindsOver_2
  repeat' first | with_reducible exact mn_rt | with_reducible exact mn_getI | with_reducible exact mn_getR | with_reducible exact mn_getL | with_reducible exact mn_putI | with_reducible exact mn_putR | with_reducible exact mn_putL | with_reducible exact mn_ld | with_reducible exact mn_ldR | with_reducible exact mn_st | with_reducible exact mn_stZ | with_reducible exact mn_stR | with_reducible exact mn_len | with_reducible exact mn_newO | with_reducible exact mn_newA | with_reducible exact mn_newR | with_reducible exact mn_clone | with_reducible exact mn_copy | with_reducible exact mn_obj | with_reducible exact mn_z | with_reducible exact n7_forgetSights _ _ | with_reducible exact n1_isOver _ _ | with_reducible exact hrec _ | with_reducible refine mn_ite ?_ ?_ | with_reducible refine mn_bn ?_ (fun _ => ?_) | with_reducible refine mn_sum (fun _ => ?_) (fun _ => ?_) _
theorem n7_forgetKindsOver (t : Option Nat) (a1 : Int32) : Mn (f7_forgetKindsOver t a1) := by
  unfold f7_forgetKindsOver
  repeat' first | with_reducible exact mn_rt | with_reducible exact mn_getI | with_reducible exact mn_getR | with_reducible exact mn_getL | with_reducible exact mn_putI | with_reducible exact mn_putR | with_reducible exact mn_putL | with_reducible exact mn_ld | with_reducible exact mn_ldR | with_reducible exact mn_st | with_reducible exact mn_stZ | with_reducible exact mn_stR | with_reducible exact mn_len | with_reducible exact mn_newO | with_reducible exact mn_newA | with_reducible exact mn_newR | with_reducible exact mn_clone | with_reducible exact mn_copy | with_reducible exact mn_obj | with_reducible exact mn_z | with_reducible exact n7_forgetSights _ _ | with_reducible exact n1_isOver _ _ | with_reducible exact hrec _ | with_reducible exact k7_forgetKindsOver_2 _ _ _ _ | with_reducible refine mn_ite ?_ ?_ | with_reducible refine mn_bn ?_ (fun _ => ?_) | with_reducible refine mn_sum (fun _ => ?_) (fun _ => ?_) _
abbrev m0_isKept : MI := (yX0_isKept, cX0_isKept, 2, (some .boolean), 2, 41)
noncomputable def f0_isKept (t : Option Nat) (a1 : Int32) : Cm (Int32) :=
  bn (oObj t 0) fun _ =>
  bn (f0_keptCount t ) fun v3 =>
  bn (f7_within a1 0 (v3 - 1)) fun v8 =>
  bn (oZ v8) fun _ =>
  rt (v8)
theorem n0_isKept (t : Option Nat) (a1 : Int32) : Mn (f0_isKept t a1) := by
  unfold f0_isKept
  repeat' first | with_reducible exact mn_rt | with_reducible exact mn_getI | with_reducible exact mn_getR | with_reducible exact mn_getL | with_reducible exact mn_putI | with_reducible exact mn_putR | with_reducible exact mn_putL | with_reducible exact mn_ld | with_reducible exact mn_ldR | with_reducible exact mn_st | with_reducible exact mn_stZ | with_reducible exact mn_stR | with_reducible exact mn_len | with_reducible exact mn_newO | with_reducible exact mn_newA | with_reducible exact mn_newR | with_reducible exact mn_clone | with_reducible exact mn_copy | with_reducible exact mn_obj | with_reducible exact mn_z | with_reducible exact n7_within _ _ _ | with_reducible exact n0_keptCount _ | with_reducible exact hrec _ | with_reducible refine mn_ite ?_ ?_ | with_reducible refine mn_bn ?_ (fun _ => ?_) | with_reducible refine mn_sum (fun _ => ?_) (fun _ => ?_) _
abbrev m0_firstOf : MI := (yX0_firstOf, cX0_firstOf, 2, (some .int), 3, 62)
noncomputable def f0_firstOf (t : Option Nat) (a1 : Int32) : Cm (Int32) :=
  bn (oObj t 0) fun _ =>
  bn (f0_isKept t a1) fun v2 =>
  if v2 = 0 then
    rt ((-1))
  else
    bn (oGetR t 0 0) fun v9 =>
    bn (oLd 0 v9 a1) fun v13 =>
    rt (v13)
theorem n0_firstOf (t : Option Nat) (a1 : Int32) : Mn (f0_firstOf t a1) := by
  unfold f0_firstOf
  repeat' first | with_reducible exact mn_rt | with_reducible exact mn_getI | with_reducible exact mn_getR | with_reducible exact mn_getL | with_reducible exact mn_putI | with_reducible exact mn_putR | with_reducible exact mn_putL | with_reducible exact mn_ld | with_reducible exact mn_ldR | with_reducible exact mn_st | with_reducible exact mn_stZ | with_reducible exact mn_stR | with_reducible exact mn_len | with_reducible exact mn_newO | with_reducible exact mn_newA | with_reducible exact mn_newR | with_reducible exact mn_clone | with_reducible exact mn_copy | with_reducible exact mn_obj | with_reducible exact mn_z | with_reducible exact n0_isKept _ _ | with_reducible exact hrec _ | with_reducible refine mn_ite ?_ ?_ | with_reducible refine mn_bn ?_ (fun _ => ?_) | with_reducible refine mn_sum (fun _ => ?_) (fun _ => ?_) _
abbrev m0_lastOf : MI := (yX0_lastOf, cX0_lastOf, 2, (some .int), 3, 62)
noncomputable def f0_lastOf (t : Option Nat) (a1 : Int32) : Cm (Int32) :=
  bn (oObj t 0) fun _ =>
  bn (f0_isKept t a1) fun v2 =>
  if v2 = 0 then
    rt ((-1))
  else
    bn (oGetR t 0 1) fun v9 =>
    bn (oLd 0 v9 a1) fun v13 =>
    rt (v13)
theorem n0_lastOf (t : Option Nat) (a1 : Int32) : Mn (f0_lastOf t a1) := by
  unfold f0_lastOf
  repeat' first | with_reducible exact mn_rt | with_reducible exact mn_getI | with_reducible exact mn_getR | with_reducible exact mn_getL | with_reducible exact mn_putI | with_reducible exact mn_putR | with_reducible exact mn_putL | with_reducible exact mn_ld | with_reducible exact mn_ldR | with_reducible exact mn_st | with_reducible exact mn_stZ | with_reducible exact mn_stR | with_reducible exact mn_len | with_reducible exact mn_newO | with_reducible exact mn_newA | with_reducible exact mn_newR | with_reducible exact mn_clone | with_reducible exact mn_copy | with_reducible exact mn_obj | with_reducible exact mn_z | with_reducible exact n0_isKept _ _ | with_reducible exact hrec _ | with_reducible refine mn_ite ?_ ?_ | with_reducible refine mn_bn ?_ (fun _ => ?_) | with_reducible refine mn_sum (fun _ => ?_) (fun _ => ?_) _
abbrev m0_partOf : MI := (yX0_partOf, cX0_partOf, 2, (some .int), 3, 62)
noncomputable def f0_partOf (t : Option Nat) (a1 : Int32) : Cm (Int32) :=
  bn (oObj t 0) fun _ =>
  bn (f0_isKept t a1) fun v2 =>
  if v2 = 0 then
    rt ((-1))
  else
    bn (oGetR t 0 2) fun v9 =>
    bn (oLd 0 v9 a1) fun v13 =>
    rt (v13)
theorem n0_partOf (t : Option Nat) (a1 : Int32) : Mn (f0_partOf t a1) := by
  unfold f0_partOf
  repeat' first | with_reducible exact mn_rt | with_reducible exact mn_getI | with_reducible exact mn_getR | with_reducible exact mn_getL | with_reducible exact mn_putI | with_reducible exact mn_putR | with_reducible exact mn_putL | with_reducible exact mn_ld | with_reducible exact mn_ldR | with_reducible exact mn_st | with_reducible exact mn_stZ | with_reducible exact mn_stR | with_reducible exact mn_len | with_reducible exact mn_newO | with_reducible exact mn_newA | with_reducible exact mn_newR | with_reducible exact mn_clone | with_reducible exact mn_copy | with_reducible exact mn_obj | with_reducible exact mn_z | with_reducible exact n0_isKept _ _ | with_reducible exact hrec _ | with_reducible refine mn_ite ?_ ?_ | with_reducible refine mn_bn ?_ (fun _ => ?_) | with_reducible refine mn_sum (fun _ => ?_) (fun _ => ?_) _
abbrev m7_found : MI := (yX7_found, cX7_found, 5, (some .int), 4, 83)
noncomputable def f7_found (t : Option Nat) (a1 : Int32) (a2 : Int32) (a3 : Int32) : Cm (Int32) :=
  bn (oObj t 7) fun _ =>
  bn (f7_letterAt t a1) fun v2 =>
  if v2 = none then
    rt ((-1))
  else
    bn (oGetR v2 2 9) fun v14 =>
    if v14 = none then
      rt ((-1))
    else
      if a3 = 0 then
        bn (oGetR v2 2 9) fun v50 =>
        bn (oObj v50 0) fun _ =>
        bn (f0_firstOf v50 a2) fun v54 =>
        rt (v54)
      else
        if a3 = 1 then
          bn (oGetR v2 2 9) fun v60 =>
          bn (oObj v60 0) fun _ =>
          bn (f0_lastOf v60 a2) fun v64 =>
          rt (v64)
        else
          if a3 = 2 then
            bn (oGetR v2 2 9) fun v70 =>
            bn (oObj v70 0) fun _ =>
            bn (f0_partOf v70 a2) fun v74 =>
            rt (v74)
          else
            rt ((-1))
theorem n7_found (t : Option Nat) (a1 : Int32) (a2 : Int32) (a3 : Int32) : Mn (f7_found t a1 a2 a3) := by
  unfold f7_found
  repeat' first | with_reducible exact mn_rt | with_reducible exact mn_getI | with_reducible exact mn_getR | with_reducible exact mn_getL | with_reducible exact mn_putI | with_reducible exact mn_putR | with_reducible exact mn_putL | with_reducible exact mn_ld | with_reducible exact mn_ldR | with_reducible exact mn_st | with_reducible exact mn_stZ | with_reducible exact mn_stR | with_reducible exact mn_len | with_reducible exact mn_newO | with_reducible exact mn_newA | with_reducible exact mn_newR | with_reducible exact mn_clone | with_reducible exact mn_copy | with_reducible exact mn_obj | with_reducible exact mn_z | with_reducible exact n7_letterAt _ _ | with_reducible exact n0_firstOf _ _ | with_reducible exact n0_lastOf _ _ | with_reducible exact n0_partOf _ _ | with_reducible exact hrec _ | with_reducible refine mn_ite ?_ ?_ | with_reducible refine mn_bn ?_ (fun _ => ?_) | with_reducible refine mn_sum (fun _ => ?_) (fun _ => ?_) _
abbrev m7_isOtherByTrial : MI := (yX7_isOtherByTrial, cX7_isOtherByTrial, 4, (some .boolean), 5, 115)
noncomputable def f7_isOtherByTrial (t : Option Nat) (a1 : Int32) : Cm (Int32) :=
  bn (oGetR t 7 12) fun v2 =>
  bn (oObj t 7) fun _ =>
  bn (f7_firstRule t v2 a1) fun v6 =>
  bn (α := Int32) (
    if v6 = none then
      rt 0
    else
      bn (oGetI v6 4 3) fun v19 =>
      rt v19
  ) (fun y22 =>
    bn (oGetR t 7 7) fun v25 =>
    bn (oLdR 4 v25 a1) fun v29 =>
    bn (oGetI v29 2 6) fun v30 =>
    if y22 = v30 then
      rt (0)
    else
      rt (1)
  )
theorem n7_isOtherByTrial (t : Option Nat) (a1 : Int32) : Mn (f7_isOtherByTrial t a1) := by
  unfold f7_isOtherByTrial
  repeat' first | with_reducible exact mn_rt | with_reducible exact mn_getI | with_reducible exact mn_getR | with_reducible exact mn_getL | with_reducible exact mn_putI | with_reducible exact mn_putR | with_reducible exact mn_putL | with_reducible exact mn_ld | with_reducible exact mn_ldR | with_reducible exact mn_st | with_reducible exact mn_stZ | with_reducible exact mn_stR | with_reducible exact mn_len | with_reducible exact mn_newO | with_reducible exact mn_newA | with_reducible exact mn_newR | with_reducible exact mn_clone | with_reducible exact mn_copy | with_reducible exact mn_obj | with_reducible exact mn_z | with_reducible exact n7_firstRule _ _ _ | with_reducible exact hrec _ | with_reducible refine mn_ite ?_ ?_ | with_reducible refine mn_bn ?_ (fun _ => ?_) | with_reducible refine mn_sum (fun _ => ?_) (fun _ => ?_) _
abbrev m7_isRow : MI := (yX7_isRow, cX7_isRow, 1, (some .boolean), 1, 22)
noncomputable def f7_isRow (a1 : Int32) : Cm (Int32) :=
  bn (f7_within a1 2 8) fun v4 =>
  bn (oZ v4) fun _ =>
  rt (v4)
theorem n7_isRow (a1 : Int32) : Mn (f7_isRow a1) := by
  unfold f7_isRow
  repeat' first | with_reducible exact mn_rt | with_reducible exact mn_getI | with_reducible exact mn_getR | with_reducible exact mn_getL | with_reducible exact mn_putI | with_reducible exact mn_putR | with_reducible exact mn_putL | with_reducible exact mn_ld | with_reducible exact mn_ldR | with_reducible exact mn_st | with_reducible exact mn_stZ | with_reducible exact mn_stR | with_reducible exact mn_len | with_reducible exact mn_newO | with_reducible exact mn_newA | with_reducible exact mn_newR | with_reducible exact mn_clone | with_reducible exact mn_copy | with_reducible exact mn_obj | with_reducible exact mn_z | with_reducible exact n7_within _ _ _ | with_reducible exact hrec _ | with_reducible refine mn_ite ?_ ?_ | with_reducible refine mn_bn ?_ (fun _ => ?_) | with_reducible refine mn_sum (fun _ => ?_) (fun _ => ?_) _
abbrev m7_isRule : MI := (yX7_isRule, cX7_isRule, 6, (some .boolean), 2, 42)
noncomputable def f7_isRule (t : Option Nat) (a1 : Int32) (a2 : Int32) (a3 : Int32) (a4 : Int32) (a5 : Int32) : Cm (Int32) :=
  bn (oGetR t 7 6) fun v3 =>
  bn (oGetI v3 5 1) fun v6 =>
  bn (f7_within a1 0 v6) fun v9 =>
  if v9 = 0 then
    rt (0)
  else
    bn (f7_within a2 (-1) 9) fun v19 =>
    if v19 = 0 then
      rt (0)
    else
      bn (f7_within a3 (-1) 2) fun v28 =>
      if v28 = 0 then
        rt (0)
      else
        bn (f7_isKind a4) fun v36 =>
        if v36 = 0 then
          rt (0)
        else
          bn (f7_within a5 0 4) fun v46 =>
          if v46 = 0 then
            rt (0)
          else
            rt (1)
theorem n7_isRule (t : Option Nat) (a1 : Int32) (a2 : Int32) (a3 : Int32) (a4 : Int32) (a5 : Int32) : Mn (f7_isRule t a1 a2 a3 a4 a5) := by
  unfold f7_isRule
  repeat' first | with_reducible exact mn_rt | with_reducible exact mn_getI | with_reducible exact mn_getR | with_reducible exact mn_getL | with_reducible exact mn_putI | with_reducible exact mn_putR | with_reducible exact mn_putL | with_reducible exact mn_ld | with_reducible exact mn_ldR | with_reducible exact mn_st | with_reducible exact mn_stZ | with_reducible exact mn_stR | with_reducible exact mn_len | with_reducible exact mn_newO | with_reducible exact mn_newA | with_reducible exact mn_newR | with_reducible exact mn_clone | with_reducible exact mn_copy | with_reducible exact mn_obj | with_reducible exact mn_z | with_reducible exact n7_isKind _ | with_reducible exact n7_within _ _ _ | with_reducible exact hrec _ | with_reducible refine mn_ite ?_ ?_ | with_reducible refine mn_bn ?_ (fun _ => ?_) | with_reducible refine mn_sum (fun _ => ?_) (fun _ => ?_) _
abbrev m7_isText : MI := (yX7_isText, cX7_isText, 1, (some .boolean), 1, 22)
noncomputable def f7_isText (a1 : Int32) : Cm (Int32) :=
  bn (f7_within a1 0 7) fun v4 =>
  bn (oZ v4) fun _ =>
  rt (v4)
theorem n7_isText (a1 : Int32) : Mn (f7_isText a1) := by
  unfold f7_isText
  repeat' first | with_reducible exact mn_rt | with_reducible exact mn_getI | with_reducible exact mn_getR | with_reducible exact mn_getL | with_reducible exact mn_putI | with_reducible exact mn_putR | with_reducible exact mn_putL | with_reducible exact mn_ld | with_reducible exact mn_ldR | with_reducible exact mn_st | with_reducible exact mn_stZ | with_reducible exact mn_stR | with_reducible exact mn_len | with_reducible exact mn_newO | with_reducible exact mn_newA | with_reducible exact mn_newR | with_reducible exact mn_clone | with_reducible exact mn_copy | with_reducible exact mn_obj | with_reducible exact mn_z | with_reducible exact n7_within _ _ _ | with_reducible exact hrec _ | with_reducible refine mn_ite ?_ ?_ | with_reducible refine mn_bn ?_ (fun _ => ?_) | with_reducible refine mn_sum (fun _ => ?_) (fun _ => ?_) _
abbrev m6_makeSmall : MI := (yX6_makeSmall, cX6_makeSmall, 2, none, 0, 0)
noncomputable def l6_makeSmall_2 (t : Option Nat) (rec : Int32 → Cm (Unit)) (x2 : Int32) : Cm (Unit) :=
  bn (oGetI t 6 3) fun v4 =>
  if v4 ≤ x2 then
    rt ()
  else
    bn (oGetR t 6 0) fun v11 =>
    bn (oLd 0 v11 x2) fun v15 =>
    if v15 < 65 then
      rec (x2 + 1)
    else
      bn (oGetR t 6 0) fun v22 =>
      bn (oLd 0 v22 x2) fun v26 =>
      if 90 < v26 then
        rec (x2 + 1)
      else
        bn (oGetR t 6 0) fun v33 =>
        bn (oLd 0 v33 x2) fun v38 =>
        bn (oSt 0 v33 x2 (v38 + 32)) fun _ =>
        rec (x2 + 1)
noncomputable def f6_makeSmall (t : Option Nat) : Cm (Unit) :=
  bn (fx (l6_makeSmall_2 t) FUEL 0) (fun y49 =>
    rt (())
  )
theorem k6_makeSmall_2 (t : Option Nat) (n : Nat) (x : Int32) : Mn (fx (l6_makeSmall_2 t) n x) := by
  refine mn_fx (fun rec hrec x => ?_) n x
  unfold l6_makeSmall_2
  repeat' first | with_reducible exact mn_rt | with_reducible exact mn_getI | with_reducible exact mn_getR | with_reducible exact mn_getL | with_reducible exact mn_putI | with_reducible exact mn_putR | with_reducible exact mn_putL | with_reducible exact mn_ld | with_reducible exact mn_ldR | with_reducible exact mn_st | with_reducible exact mn_stZ | with_reducible exact mn_stR | with_reducible exact mn_len | with_reducible exact mn_newO | with_reducible exact mn_newA | with_reducible exact mn_newR | with_reducible exact mn_clone | with_reducible exact mn_copy | with_reducible exact mn_obj | with_reducible exact mn_z | with_reducible exact hrec _ | with_reducible refine mn_ite ?_ ?_ | with_reducible refine mn_bn ?_ (fun _ => ?_) | with_reducible refine mn_sum (fun _ => ?_) (fun _ => ?_) _
theorem n6_makeSmall (t : Option Nat) : Mn (f6_makeSmall t) := by
  unfold f6_makeSmall
  repeat' first | with_reducible exact mn_rt | with_reducible exact mn_getI | with_reducible exact mn_getR | with_reducible exact mn_getL | with_reducible exact mn_putI | with_reducible exact mn_putR | with_reducible exact mn_putL | with_reducible exact mn_ld | with_reducible exact mn_ldR | with_reducible exact mn_st | with_reducible exact mn_stZ | with_reducible exact mn_stR | with_reducible exact mn_len | with_reducible exact mn_newO | with_reducible exact mn_newA | with_reducible exact mn_newR | with_reducible exact mn_clone | with_reducible exact mn_copy | with_reducible exact mn_obj | with_reducible exact mn_z | with_reducible exact hrec _ | with_reducible exact k6_makeSmall_2 _ _ _ | with_reducible refine mn_ite ?_ ?_ | with_reducible refine mn_bn ?_ (fun _ => ?_) | with_reducible refine mn_sum (fun _ => ?_) (fun _ => ?_) _
abbrev m6_addWord : MI := (yX6_addWord, cX6_addWord, 5, none, 0, 0)
noncomputable def l6_addWord_23 (t : Option Nat) (p1 : Int32) (p2 : Int32) (rec : (Int32 × Int32) → Cm (Int32)) (x23 : Int32 × Int32) : Cm (Int32) :=
  if p2 ≤ x23.2 then
    rt x23.1
  else
    bn (oGetR t 6 0) fun v34 =>
    bn (oLd 0 v34 (p1 + x23.2)) fun v41 =>
    rec (((31 * x23.1) + v41), (x23.2 + 1))
noncomputable def f6_addWord (t : Option Nat) (a1 : Int32) (a2 : Int32) : Cm (Unit) :=
  if a2 < 1 then
    rt (())
  else
    bn (oGetI t 6 7) fun v6 =>
    bn (oGetR t 6 4) fun v10 =>
    bn (oLen 0 v10) fun v13 =>
    if v6 < v13 then
      bn (fx (l6_addWord_23 t a1 a2) FUEL (0, 0)) (fun y50 =>
        bn (oGetR t 6 4) fun v51 =>
        bn (oGetI t 6 7) fun v55 =>
        bn (oSt 0 v51 v55 a1) fun _ =>
        bn (oGetR t 6 5) fun v61 =>
        bn (oGetI t 6 7) fun v65 =>
        bn (oSt 0 v61 v65 a2) fun _ =>
        bn (oGetR t 6 6) fun v71 =>
        bn (oGetI t 6 7) fun v75 =>
        bn (oSt 0 v71 v75 y50) fun _ =>
        bn (oGetI t 6 7) fun v82 =>
        bn (oPutI t 6 7 (v82 + 1)) fun _ =>
        rt (())
      )
    else
      rt (())
theorem k6_addWord_23 (t : Option Nat) (p1 : Int32) (p2 : Int32) (n : Nat) (x : Int32 × Int32) : Mn (fx (l6_addWord_23 t p1 p2) n x) := by
  refine mn_fx (fun rec hrec x => ?_) n x
  unfold l6_addWord_23
  repeat' first | with_reducible exact mn_rt | with_reducible exact mn_getI | with_reducible exact mn_getR | with_reducible exact mn_getL | with_reducible exact mn_putI | with_reducible exact mn_putR | with_reducible exact mn_putL | with_reducible exact mn_ld | with_reducible exact mn_ldR | with_reducible exact mn_st | with_reducible exact mn_stZ | with_reducible exact mn_stR | with_reducible exact mn_len | with_reducible exact mn_newO | with_reducible exact mn_newA | with_reducible exact mn_newR | with_reducible exact mn_clone | with_reducible exact mn_copy | with_reducible exact mn_obj | with_reducible exact mn_z | with_reducible exact hrec _ | with_reducible refine mn_ite ?_ ?_ | with_reducible refine mn_bn ?_ (fun _ => ?_) | with_reducible refine mn_sum (fun _ => ?_) (fun _ => ?_) _
theorem n6_addWord (t : Option Nat) (a1 : Int32) (a2 : Int32) : Mn (f6_addWord t a1 a2) := by
  unfold f6_addWord
  repeat' first | with_reducible exact mn_rt | with_reducible exact mn_getI | with_reducible exact mn_getR | with_reducible exact mn_getL | with_reducible exact mn_putI | with_reducible exact mn_putR | with_reducible exact mn_putL | with_reducible exact mn_ld | with_reducible exact mn_ldR | with_reducible exact mn_st | with_reducible exact mn_stZ | with_reducible exact mn_stR | with_reducible exact mn_len | with_reducible exact mn_newO | with_reducible exact mn_newA | with_reducible exact mn_newR | with_reducible exact mn_clone | with_reducible exact mn_copy | with_reducible exact mn_obj | with_reducible exact mn_z | with_reducible exact hrec _ | with_reducible exact k6_addWord_23 _ _ _ _ _ | with_reducible refine mn_ite ?_ ?_ | with_reducible refine mn_bn ?_ (fun _ => ?_) | with_reducible refine mn_sum (fun _ => ?_) (fun _ => ?_) _
abbrev m6_isOfWord : MI := (yX6_isOfWord, cX6_isOfWord, 2, (some .boolean), 1, 20)
noncomputable def f6_isOfWord (t : Option Nat) (a1 : Int32) : Cm (Int32) :=
  bn (oGetR t 6 0) fun v1 =>
  bn (oLd 0 v1 a1) fun v5 =>
  bn (f6_isDigit v5) fun v6 =>
  if v6 = 0 then
    bn (oGetR t 6 0) fun v13 =>
    bn (oLd 0 v13 a1) fun v17 =>
    if v17 < 97 then
      rt (0)
    else
      bn (oGetR t 6 0) fun v24 =>
      bn (oLd 0 v24 a1) fun v28 =>
      if 122 < v28 then
        rt (0)
      else
        rt (1)
  else
    rt (1)
theorem n6_isOfWord (t : Option Nat) (a1 : Int32) : Mn (f6_isOfWord t a1) := by
  unfold f6_isOfWord
  repeat' first | with_reducible exact mn_rt | with_reducible exact mn_getI | with_reducible exact mn_getR | with_reducible exact mn_getL | with_reducible exact mn_putI | with_reducible exact mn_putR | with_reducible exact mn_putL | with_reducible exact mn_ld | with_reducible exact mn_ldR | with_reducible exact mn_st | with_reducible exact mn_stZ | with_reducible exact mn_stR | with_reducible exact mn_len | with_reducible exact mn_newO | with_reducible exact mn_newA | with_reducible exact mn_newR | with_reducible exact mn_clone | with_reducible exact mn_copy | with_reducible exact mn_obj | with_reducible exact mn_z | with_reducible exact n6_isDigit _ | with_reducible exact hrec _ | with_reducible refine mn_ite ?_ ?_ | with_reducible refine mn_bn ?_ (fun _ => ?_) | with_reducible refine mn_sum (fun _ => ?_) (fun _ => ?_) _
abbrev m6_splitWords : MI := (yX6_splitWords, cX6_splitWords, 3, none, 2, 41)
noncomputable def l6_splitWords_9 (t : Option Nat) (rec : (Int32 × Int32) → Cm (Unit)) (x9 : Int32 × Int32) : Cm (Unit) :=
  bn (oGetI t 6 3) fun v11 =>
  if v11 < x9.2 then
    rt ()
  else
    bn (oGetI t 6 3) fun v19 =>
    if x9.2 = v19 then
      bn (oObj t 6) fun _ =>
      bn (f6_addWord t x9.1 (x9.2 - x9.1)) fun _ =>
      rec ((x9.2 + 1), (x9.2 + 1))
    else
      bn (oObj t 6) fun _ =>
      bn (f6_isOfWord t x9.2) fun v27 =>
      if v27 = 0 then
        bn (oObj t 6) fun _ =>
        bn (f6_addWord t x9.1 (x9.2 - x9.1)) fun _ =>
        rec ((x9.2 + 1), (x9.2 + 1))
      else
        rec (x9.1, (x9.2 + 1))
noncomputable def f6_splitWords (t : Option Nat) : Cm (Unit) :=
  bn (oPutI t 6 7 0) fun _ =>
  bn (fx (l6_splitWords_9 t) FUEL (0, 0)) (fun y51 =>
    rt (())
  )
theorem k6_splitWords_9 (t : Option Nat) (n : Nat) (x : Int32 × Int32) : Mn (fx (l6_splitWords_9 t) n x) := by
  refine mn_fx (fun rec hrec x => ?_) n x
  unfold l6_splitWords_9
  repeat' first | with_reducible exact mn_rt | with_reducible exact mn_getI | with_reducible exact mn_getR | with_reducible exact mn_getL | with_reducible exact mn_putI | with_reducible exact mn_putR | with_reducible exact mn_putL | with_reducible exact mn_ld | with_reducible exact mn_ldR | with_reducible exact mn_st | with_reducible exact mn_stZ | with_reducible exact mn_stR | with_reducible exact mn_len | with_reducible exact mn_newO | with_reducible exact mn_newA | with_reducible exact mn_newR | with_reducible exact mn_clone | with_reducible exact mn_copy | with_reducible exact mn_obj | with_reducible exact mn_z | with_reducible exact n6_addWord _ _ _ | with_reducible exact n6_isOfWord _ _ | with_reducible exact hrec _ | with_reducible refine mn_ite ?_ ?_ | with_reducible refine mn_bn ?_ (fun _ => ?_) | with_reducible refine mn_sum (fun _ => ?_) (fun _ => ?_) _
theorem n6_splitWords (t : Option Nat) : Mn (f6_splitWords t) := by
  unfold f6_splitWords
  repeat' first | with_reducible exact mn_rt | with_reducible exact mn_getI | with_reducible exact mn_getR | with_reducible exact mn_getL | with_reducible exact mn_putI | with_reducible exact mn_putR | with_reducible exact mn_putL | with_reducible exact mn_ld | with_reducible exact mn_ldR | with_reducible exact mn_st | with_reducible exact mn_stZ | with_reducible exact mn_stR | with_reducible exact mn_len | with_reducible exact mn_newO | with_reducible exact mn_newA | with_reducible exact mn_newR | with_reducible exact mn_clone | with_reducible exact mn_copy | with_reducible exact mn_obj | with_reducible exact mn_z | with_reducible exact n6_addWord _ _ _ | with_reducible exact n6_isOfWord _ _ | with_reducible exact hrec _ | with_reducible exact k6_splitWords_9 _ _ _ | with_reducible refine mn_ite ?_ ?_ | with_reducible refine mn_bn ?_ (fun _ => ?_) | with_reducible refine mn_sum (fun _ => ?_) (fun _ => ?_) _
abbrev m6_hexOf : MI := (yX6_hexOf, cX6_hexOf, 1, (some .int), 1, 20)
noncomputable def f6_hexOf (a1 : Int32) : Cm (Int32) :=
  bn (f6_isDigit a1) fun v1 =>
  if v1 = 0 then
    bn (α := (Int32) ⊕ (Unit)) (
      if a1 < 97 then
        rt (.inr ())
      else
        if 102 < a1 then
          rt (.inr ())
        else
          rt (.inl (((a1 - 97) + 10)))
    ) (Sum.elim (fun r => rt r) fun y32 =>
      if a1 < 65 then
        rt ((-1))
      else
        if 70 < a1 then
          rt ((-1))
        else
          rt (((a1 - 65) + 10))
    )
  else
    rt ((a1 - 48))
theorem n6_hexOf (a1 : Int32) : Mn (f6_hexOf a1) := by
  unfold f6_hexOf
  repeat' first | with_reducible exact mn_rt | with_reducible exact mn_getI | with_reducible exact mn_getR | with_reducible exact mn_getL | with_reducible exact mn_putI | with_reducible exact mn_putR | with_reducible exact mn_putL | with_reducible exact mn_ld | with_reducible exact mn_ldR | with_reducible exact mn_st | with_reducible exact mn_stZ | with_reducible exact mn_stR | with_reducible exact mn_len | with_reducible exact mn_newO | with_reducible exact mn_newA | with_reducible exact mn_newR | with_reducible exact mn_clone | with_reducible exact mn_copy | with_reducible exact mn_obj | with_reducible exact mn_z | with_reducible exact n6_isDigit _ | with_reducible exact hrec _ | with_reducible refine mn_ite ?_ ?_ | with_reducible refine mn_bn ?_ (fun _ => ?_) | with_reducible refine mn_sum (fun _ => ?_) (fun _ => ?_) _
abbrev m6_wrappedAt : MI := (yX6_wrappedAt, cX6_wrappedAt, 4, (some .int), 2, 40)
noncomputable def f6_wrappedAt (t : Option Nat) (a1 : Int32) : Cm (Int32) :=
  bn (oGetR t 6 0) fun v1 =>
  bn (oLd 0 v1 a1) fun v5 =>
  if v5 = 37 then
    bn (oGetI t 6 3) fun v15 =>
    if (a1 + 2) < v15 then
      bn (oGetR t 6 0) fun v24 =>
      bn (oLd 0 v24 (a1 + 1)) fun v30 =>
      bn (f6_hexOf v30) fun v31 =>
      bn (oGetR t 6 0) fun v36 =>
      bn (oLd 0 v36 (a1 + 2)) fun v42 =>
      bn (f6_hexOf v42) fun v43 =>
      if v31 = (-1) then
        rt ((-1))
      else
        if v43 = (-1) then
          rt ((-1))
        else
          rt (((16 * v31) + v43))
    else
      rt ((-1))
  else
    rt ((-1))
theorem n6_wrappedAt (t : Option Nat) (a1 : Int32) : Mn (f6_wrappedAt t a1) := by
  unfold f6_wrappedAt
  repeat' first | with_reducible exact mn_rt | with_reducible exact mn_getI | with_reducible exact mn_getR | with_reducible exact mn_getL | with_reducible exact mn_putI | with_reducible exact mn_putR | with_reducible exact mn_putL | with_reducible exact mn_ld | with_reducible exact mn_ldR | with_reducible exact mn_st | with_reducible exact mn_stZ | with_reducible exact mn_stR | with_reducible exact mn_len | with_reducible exact mn_newO | with_reducible exact mn_newA | with_reducible exact mn_newR | with_reducible exact mn_clone | with_reducible exact mn_copy | with_reducible exact mn_obj | with_reducible exact mn_z | with_reducible exact n6_hexOf _ | with_reducible exact hrec _ | with_reducible refine mn_ite ?_ ?_ | with_reducible refine mn_bn ?_ (fun _ => ?_) | with_reducible refine mn_sum (fun _ => ?_) (fun _ => ?_) _
abbrev m6_unwrapOnce : MI := (yX6_unwrapOnce, cX6_unwrapOnce, 5, none, 3, 63)
noncomputable def l6_unwrapOnce_4 (t : Option Nat) (rec : (Int32 × Int32) → Cm (Int32)) (x4 : Int32 × Int32) : Cm (Int32) :=
  bn (oGetI t 6 3) fun v6 =>
  if v6 ≤ x4.1 then
    rt x4.2
  else
    bn (oObj t 6) fun _ =>
    bn (f6_wrappedAt t x4.1) fun v14 =>
    bn (α := Int32) (
      if v14 = (-1) then
        rt 1
      else
        rt 3
    ) (fun y28 =>
      bn (oGetR t 6 0) fun v31 =>
      bn (α := Int32) (
        if v14 = (-1) then
          bn (oGetR t 6 0) fun v41 =>
          bn (oLd 0 v41 x4.1) fun v45 =>
          rt v45
        else
          rt v14
      ) (fun y50 =>
        bn (oSt 0 v31 x4.2 y50) fun _ =>
        bn (oGetR t 6 1) fun v52 =>
        bn (oGetR t 6 1) fun v57 =>
        bn (oLd 0 v57 x4.1) fun v61 =>
        bn (oSt 0 v52 x4.2 v61) fun _ =>
        bn (oGetR t 6 2) fun v64 =>
        bn (oGetR t 6 2) fun v69 =>
        bn (oLd 0 v69 ((x4.1 + y28) - 1)) fun v78 =>
        bn (oSt 0 v64 x4.2 v78) fun _ =>
        rec ((x4.1 + y28), (x4.2 + 1))
      )
    )
noncomputable def f6_unwrapOnce (t : Option Nat) : Cm (Unit) :=
  bn (fx (l6_unwrapOnce_4 t) FUEL (0, 0)) (fun y91 =>
    bn (oPutI t 6 3 y91) fun _ =>
    rt (())
  )
theorem k6_unwrapOnce_4 (t : Option Nat) (n : Nat) (x : Int32 × Int32) : Mn (fx (l6_unwrapOnce_4 t) n x) := by
  refine mn_fx (fun rec hrec x => ?_) n x
  unfold l6_unwrapOnce_4
  repeat' first | with_reducible exact mn_rt | with_reducible exact mn_getI | with_reducible exact mn_getR | with_reducible exact mn_getL | with_reducible exact mn_putI | with_reducible exact mn_putR | with_reducible exact mn_putL | with_reducible exact mn_ld | with_reducible exact mn_ldR | with_reducible exact mn_st | with_reducible exact mn_stZ | with_reducible exact mn_stR | with_reducible exact mn_len | with_reducible exact mn_newO | with_reducible exact mn_newA | with_reducible exact mn_newR | with_reducible exact mn_clone | with_reducible exact mn_copy | with_reducible exact mn_obj | with_reducible exact mn_z | with_reducible exact n6_wrappedAt _ _ | with_reducible exact hrec _ | with_reducible refine mn_ite ?_ ?_ | with_reducible refine mn_bn ?_ (fun _ => ?_) | with_reducible refine mn_sum (fun _ => ?_) (fun _ => ?_) _
theorem n6_unwrapOnce (t : Option Nat) : Mn (f6_unwrapOnce t) := by
  unfold f6_unwrapOnce
  repeat' first | with_reducible exact mn_rt | with_reducible exact mn_getI | with_reducible exact mn_getR | with_reducible exact mn_getL | with_reducible exact mn_putI | with_reducible exact mn_putR | with_reducible exact mn_putL | with_reducible exact mn_ld | with_reducible exact mn_ldR | with_reducible exact mn_st | with_reducible exact mn_stZ | with_reducible exact mn_stR | with_reducible exact mn_len | with_reducible exact mn_newO | with_reducible exact mn_newA | with_reducible exact mn_newR | with_reducible exact mn_clone | with_reducible exact mn_copy | with_reducible exact mn_obj | with_reducible exact mn_z | with_reducible exact n6_wrappedAt _ _ | with_reducible exact hrec _ | with_reducible exact k6_unwrapOnce_4 _ _ _ | with_reducible refine mn_ite ?_ ?_ | with_reducible refine mn_bn ?_ (fun _ => ?_) | with_reducible refine mn_sum (fun _ => ?_) (fun _ => ?_) _
abbrev m6_read : MI := (yX6_read, cX6_read, 4, none, 4, 87)
noncomputable def l6_read_20 (t : Option Nat) (p1 : Option Nat) (rec : Int32 → Cm (Unit)) (x20 : Int32) : Cm (Unit) :=
  bn (oGetI t 6 3) fun v22 =>
  if v22 ≤ x20 then
    rt ()
  else
    bn (oGetR t 6 0) fun v29 =>
    bn (oLd 0 p1 x20) fun v35 =>
    bn (oSt 0 v29 x20 v35) fun _ =>
    bn (oGetR t 6 1) fun v38 =>
    bn (oSt 0 v38 x20 x20) fun _ =>
    bn (oGetR t 6 2) fun v45 =>
    bn (oSt 0 v45 x20 x20) fun _ =>
    rec (x20 + 1)
noncomputable def l6_read_59 (t : Option Nat) (rec : Int32 → Cm (Unit)) (x59 : Int32) : Cm (Unit) :=
  if 3 ≤ x59 then
    rt ()
  else
    bn (oObj t 6) fun _ =>
    bn (f6_unwrapOnce t ) fun _ =>
    rec (x59 + 1)
noncomputable def f6_read (t : Option Nat) (a1 : Option Nat) (a2 : Int32) : Cm (Unit) :=
  bn (oLen 0 a1) fun v3 =>
  bn (oGetR t 6 0) fun v8 =>
  bn (oLen 0 v8) fun v11 =>
  bn (oPutI t 6 3 (jmin (jmin a2 v3) v11)) fun _ =>
  bn (fx (l6_read_20 t a1) FUEL 0) (fun y57 =>
    bn (fx (l6_read_59 t) FUEL 0) (fun y74 =>
      bn (oObj t 6) fun _ =>
      bn (f6_makeSmall t ) fun _ =>
      bn (oObj t 6) fun _ =>
      bn (f6_splitWords t ) fun _ =>
      rt (())
    )
  )
theorem k6_read_20 (t : Option Nat) (p1 : Option Nat) (n : Nat) (x : Int32) : Mn (fx (l6_read_20 t p1) n x) := by
  refine mn_fx (fun rec hrec x => ?_) n x
  unfold l6_read_20
  repeat' first | with_reducible exact mn_rt | with_reducible exact mn_getI | with_reducible exact mn_getR | with_reducible exact mn_getL | with_reducible exact mn_putI | with_reducible exact mn_putR | with_reducible exact mn_putL | with_reducible exact mn_ld | with_reducible exact mn_ldR | with_reducible exact mn_st | with_reducible exact mn_stZ | with_reducible exact mn_stR | with_reducible exact mn_len | with_reducible exact mn_newO | with_reducible exact mn_newA | with_reducible exact mn_newR | with_reducible exact mn_clone | with_reducible exact mn_copy | with_reducible exact mn_obj | with_reducible exact mn_z | with_reducible exact n6_makeSmall _ | with_reducible exact n6_splitWords _ | with_reducible exact n6_unwrapOnce _ | with_reducible exact hrec _ | with_reducible refine mn_ite ?_ ?_ | with_reducible refine mn_bn ?_ (fun _ => ?_) | with_reducible refine mn_sum (fun _ => ?_) (fun _ => ?_) _
theorem k6_read_59 (t : Option Nat) (n : Nat) (x : Int32) : Mn (fx (l6_read_59 t) n x) := by
  refine mn_fx (fun rec hrec x => ?_) n x
  unfold l6_read_59
  repeat' first | with_reducible exact mn_rt | with_reducible exact mn_getI | with_reducible exact mn_getR | with_reducible exact mn_getL | with_reducible exact mn_putI | with_reducible exact mn_putR | with_reducible exact mn_putL | with_reducible exact mn_ld | with_reducible exact mn_ldR | with_reducible exact mn_st | with_reducible exact mn_stZ | with_reducible exact mn_stR | with_reducible exact mn_len | with_reducible exact mn_newO | with_reducible exact mn_newA | with_reducible exact mn_newR | with_reducible exact mn_clone | with_reducible exact mn_copy | with_reducible exact mn_obj | with_reducible exact mn_z | with_reducible exact n6_makeSmall _ | with_reducible exact n6_splitWords _ | with_reducible exact n6_unwrapOnce _ | with_reducible exact hrec _ | with_reducible exact k6_read_20 _ _ _ _ | with_reducible refine mn_ite ?_ ?_ | with_reducible refine mn_bn ?_ (fun _ => ?_) | with_reducible refine mn_sum (fun _ => ?_) (fun _ => ?_) _
theorem n6_read (t : Option Nat) (a1 : Option Nat) (a2 : Int32) : Mn (f6_read t a1 a2) := by
  unfold f6_read
  repeat' first | with_reducible exact mn_rt | with_reducible exact mn_getI | with_reducible exact mn_getR | with_reducible exact mn_getL | with_reducible exact mn_putI | with_reducible exact mn_putR | with_reducible exact mn_putL | with_reducible exact mn_ld | with_reducible exact mn_ldR | with_reducible exact mn_st | with_reducible exact mn_stZ | with_reducible exact mn_stR | with_reducible exact mn_len | with_reducible exact mn_newO | with_reducible exact mn_newA | with_reducible exact mn_newR | with_reducible exact mn_clone | with_reducible exact mn_copy | with_reducible exact mn_obj | with_reducible exact mn_z | with_reducible exact n6_makeSmall _ | with_reducible exact n6_splitWords _ | with_reducible exact n6_unwrapOnce _ | with_reducible exact hrec _ | with_reducible exact k6_read_20 _ _ _ _ | with_reducible exact k6_read_59 _ _ _ | with_reducible refine mn_ite ?_ ?_ | with_reducible refine mn_bn ?_ (fun _ => ?_) | with_reducible refine mn_sum (fun _ => ?_) (fun _ => ?_) _
abbrev m7_takeTape : MI := (yX7_takeTape, cX7_takeTape, 2, (some (.object "DoorGuard$Text")), 5, 110)
noncomputable def f7_takeTape (t : Option Nat) : Cm (Option Nat) :=
  bn (oNewO 6 [.null, .null, .null, .int 0, .null, .null, .null, .int 0]) fun v0 =>
  bn (oGetI t 7 2) fun v5 =>
  bn (oObj v0 6) fun _ =>
  bn (f6_init v0 v5) fun _ =>
  bn (oGetR t 7 1) fun v14 =>
  bn (oGetI t 7 2) fun v18 =>
  bn (oObj v0 6) fun _ =>
  bn (f6_read v0 v14 v18) fun _ =>
  bn (oPutI t 7 2 0) fun _ =>
  rt (v0)
theorem n7_takeTape (t : Option Nat) : Mn (f7_takeTape t) := by
  unfold f7_takeTape
  repeat' first | with_reducible exact mn_rt | with_reducible exact mn_getI | with_reducible exact mn_getR | with_reducible exact mn_getL | with_reducible exact mn_putI | with_reducible exact mn_putR | with_reducible exact mn_putL | with_reducible exact mn_ld | with_reducible exact mn_ldR | with_reducible exact mn_st | with_reducible exact mn_stZ | with_reducible exact mn_stR | with_reducible exact mn_len | with_reducible exact mn_newO | with_reducible exact mn_newA | with_reducible exact mn_newR | with_reducible exact mn_clone | with_reducible exact mn_copy | with_reducible exact mn_obj | with_reducible exact mn_z | with_reducible exact n6_init _ _ | with_reducible exact n6_read _ _ _ | with_reducible exact hrec _ | with_reducible refine mn_ite ?_ ?_ | with_reducible refine mn_bn ?_ (fun _ => ?_) | with_reducible refine mn_sum (fun _ => ?_) (fun _ => ?_) _
abbrev m7_keep : MI := (yX7_keep, cX7_keep, 3, (some .int), 6, 131)
noncomputable def f7_keep (t : Option Nat) (a1 : Int32) : Cm (Int32) :=
  bn (f7_isText a1) fun v1 =>
  if v1 = 0 then
    rt ((-1))
  else
    bn (oObj t 7) fun _ =>
    bn (f7_takeTape t ) fun v10 =>
    bn (oGetR t 7 3) fun v15 =>
    bn (oStR 2 6 v15 a1 v10) fun _ =>
    bn (oObj t 7) fun _ =>
    bn (f7_forgetKindsOver t a1) fun _ =>
    bn (oGetI v10 6 7) fun v27 =>
    rt (v27)
theorem n7_keep (t : Option Nat) (a1 : Int32) : Mn (f7_keep t a1) := by
  unfold f7_keep
  repeat' first | with_reducible exact mn_rt | with_reducible exact mn_getI | with_reducible exact mn_getR | with_reducible exact mn_getL | with_reducible exact mn_putI | with_reducible exact mn_putR | with_reducible exact mn_putL | with_reducible exact mn_ld | with_reducible exact mn_ldR | with_reducible exact mn_st | with_reducible exact mn_stZ | with_reducible exact mn_stR | with_reducible exact mn_len | with_reducible exact mn_newO | with_reducible exact mn_newA | with_reducible exact mn_newR | with_reducible exact mn_clone | with_reducible exact mn_copy | with_reducible exact mn_obj | with_reducible exact mn_z | with_reducible exact n7_forgetKindsOver _ _ | with_reducible exact n7_isText _ | with_reducible exact n7_takeTape _ | with_reducible exact hrec _ | with_reducible refine mn_ite ?_ ?_ | with_reducible refine mn_bn ?_ (fun _ => ?_) | with_reducible refine mn_sum (fun _ => ?_) (fun _ => ?_) _
abbrev m7_leastShared : MI := (yX7_leastShared, cX7_leastShared, 2, (some .int), 1, 21)
noncomputable def f7_leastShared (a1 : Int32) (a2 : Int32) : Cm (Int32) :=
  if a1 = (-1) then
    rt ((jmax a2 0))
  else
    if a2 = (-1) then
      rt (a1)
    else
      if a2 = a1 then
        rt (a1)
      else
        rt ((-1))
theorem n7_leastShared (a1 : Int32) (a2 : Int32) : Mn (f7_leastShared a1 a2) := by
  unfold f7_leastShared
  repeat' first | with_reducible exact mn_rt | with_reducible exact mn_getI | with_reducible exact mn_getR | with_reducible exact mn_getL | with_reducible exact mn_putI | with_reducible exact mn_putR | with_reducible exact mn_putL | with_reducible exact mn_ld | with_reducible exact mn_ldR | with_reducible exact mn_st | with_reducible exact mn_stZ | with_reducible exact mn_stR | with_reducible exact mn_len | with_reducible exact mn_newO | with_reducible exact mn_newA | with_reducible exact mn_newR | with_reducible exact mn_clone | with_reducible exact mn_copy | with_reducible exact mn_obj | with_reducible exact mn_z | with_reducible exact hrec _ | with_reducible refine mn_ite ?_ ?_ | with_reducible refine mn_bn ?_ (fun _ => ?_) | with_reducible refine mn_sum (fun _ => ?_) (fun _ => ?_) _
abbrev m7_lettersOfFate : MI := (yX7_lettersOfFate, cX7_lettersOfFate, 4, (some .int), 0, 0)
noncomputable def l7_lettersOfFate_4 (t : Option Nat) (p1 : Int32) (rec : (Int32 × Int32) → Cm (Int32)) (x4 : Int32 × Int32) : Cm (Int32) :=
  bn (oGetI t 7 8) fun v6 =>
  if v6 ≤ x4.2 then
    rt x4.1
  else
    bn (oGetR t 7 7) fun v13 =>
    bn (oLdR 4 v13 x4.2) fun v17 =>
    bn (oGetI v17 2 8) fun v18 =>
    if v18 = p1 then
      rec ((x4.1 + 1), (x4.2 + 1))
    else
      rec (x4.1, (x4.2 + 1))
noncomputable def f7_lettersOfFate (t : Option Nat) (a1 : Int32) : Cm (Int32) :=
  bn (fx (l7_lettersOfFate_4 t a1) FUEL (0, 0)) (fun y34 =>
    rt (y34)
  )
theorem k7_lettersOfFate_4 (t : Option Nat) (p1 : Int32) (n : Nat) (x : Int32 × Int32) : Mn (fx (l7_lettersOfFate_4 t p1) n x) := by
  refine mn_fx (fun rec hrec x => ?_) n x
  unfold l7_lettersOfFate_4
  repeat' first | with_reducible exact mn_rt | with_reducible exact mn_getI | with_reducible exact mn_getR | with_reducible exact mn_getL | with_reducible exact mn_putI | with_reducible exact mn_putR | with_reducible exact mn_putL | with_reducible exact mn_ld | with_reducible exact mn_ldR | with_reducible exact mn_st | with_reducible exact mn_stZ | with_reducible exact mn_stR | with_reducible exact mn_len | with_reducible exact mn_newO | with_reducible exact mn_newA | with_reducible exact mn_newR | with_reducible exact mn_clone | with_reducible exact mn_copy | with_reducible exact mn_obj | with_reducible exact mn_z | with_reducible exact hrec _ | with_reducible refine mn_ite ?_ ?_ | with_reducible refine mn_bn ?_ (fun _ => ?_) | with_reducible refine mn_sum (fun _ => ?_) (fun _ => ?_) _
theorem n7_lettersOfFate (t : Option Nat) (a1 : Int32) : Mn (f7_lettersOfFate t a1) := by
  unfold f7_lettersOfFate
  repeat' first | with_reducible exact mn_rt | with_reducible exact mn_getI | with_reducible exact mn_getR | with_reducible exact mn_getL | with_reducible exact mn_putI | with_reducible exact mn_putR | with_reducible exact mn_putL | with_reducible exact mn_ld | with_reducible exact mn_ldR | with_reducible exact mn_st | with_reducible exact mn_stZ | with_reducible exact mn_stR | with_reducible exact mn_len | with_reducible exact mn_newO | with_reducible exact mn_newA | with_reducible exact mn_newR | with_reducible exact mn_clone | with_reducible exact mn_copy | with_reducible exact mn_obj | with_reducible exact mn_z | with_reducible exact hrec _ | with_reducible exact k7_lettersOfFate_4 _ _ _ _ | with_reducible refine mn_ite ?_ ?_ | with_reducible refine mn_bn ?_ (fun _ => ?_) | with_reducible refine mn_sum (fun _ => ?_) (fun _ => ?_) _
abbrev m7_lettersThatWereTold : MI := (yX7_lettersThatWereTold, cX7_lettersThatWereTold, 3, (some .int), 0, 0)
noncomputable def l7_lettersThatWereTold_4 (t : Option Nat) (rec : (Int32 × Int32) → Cm (Int32)) (x4 : Int32 × Int32) : Cm (Int32) :=
  bn (oGetI t 7 8) fun v6 =>
  if v6 ≤ x4.2 then
    rt x4.1
  else
    bn (oGetR t 7 7) fun v13 =>
    bn (oLdR 4 v13 x4.2) fun v17 =>
    bn (oGetI v17 2 6) fun v18 =>
    if v18 = 1 then
      rec ((x4.1 + 1), (x4.2 + 1))
    else
      rec (x4.1, (x4.2 + 1))
noncomputable def f7_lettersThatWereTold (t : Option Nat) : Cm (Int32) :=
  bn (fx (l7_lettersThatWereTold_4 t) FUEL (0, 0)) (fun y34 =>
    rt (y34)
  )
theorem k7_lettersThatWereTold_4 (t : Option Nat) (n : Nat) (x : Int32 × Int32) : Mn (fx (l7_lettersThatWereTold_4 t) n x) := by
  refine mn_fx (fun rec hrec x => ?_) n x
  unfold l7_lettersThatWereTold_4
  repeat' first | with_reducible exact mn_rt | with_reducible exact mn_getI | with_reducible exact mn_getR | with_reducible exact mn_getL | with_reducible exact mn_putI | with_reducible exact mn_putR | with_reducible exact mn_putL | with_reducible exact mn_ld | with_reducible exact mn_ldR | with_reducible exact mn_st | with_reducible exact mn_stZ | with_reducible exact mn_stR | with_reducible exact mn_len | with_reducible exact mn_newO | with_reducible exact mn_newA | with_reducible exact mn_newR | with_reducible exact mn_clone | with_reducible exact mn_copy | with_reducible exact mn_obj | with_reducible exact mn_z | with_reducible exact hrec _ | with_reducible refine mn_ite ?_ ?_ | with_reducible refine mn_bn ?_ (fun _ => ?_) | with_reducible refine mn_sum (fun _ => ?_) (fun _ => ?_) _
theorem n7_lettersThatWereTold (t : Option Nat) : Mn (f7_lettersThatWereTold t) := by
  unfold f7_lettersThatWereTold
  repeat' first | with_reducible exact mn_rt | with_reducible exact mn_getI | with_reducible exact mn_getR | with_reducible exact mn_getL | with_reducible exact mn_putI | with_reducible exact mn_putR | with_reducible exact mn_putL | with_reducible exact mn_ld | with_reducible exact mn_ldR | with_reducible exact mn_st | with_reducible exact mn_stZ | with_reducible exact mn_stR | with_reducible exact mn_len | with_reducible exact mn_newO | with_reducible exact mn_newA | with_reducible exact mn_newR | with_reducible exact mn_clone | with_reducible exact mn_copy | with_reducible exact mn_obj | with_reducible exact mn_z | with_reducible exact hrec _ | with_reducible exact k7_lettersThatWereTold_4 _ _ _ | with_reducible refine mn_ite ?_ ?_ | with_reducible refine mn_bn ?_ (fun _ => ?_) | with_reducible refine mn_sum (fun _ => ?_) (fun _ => ?_) _
abbrev m7_readTape : MI := (yX7_readTape, cX7_readTape, 1, (some (.object "DoorGuard$Text")), 5, 110)
noncomputable def f7_readTape (t : Option Nat) : Cm (Option Nat) :=
  bn (oGetR t 7 9) fun v1 =>
  bn (oGetR t 7 1) fun v5 =>
  bn (oGetI t 7 2) fun v9 =>
  bn (oObj v1 6) fun _ =>
  bn (f6_read v1 v5 v9) fun _ =>
  bn (oGetR t 7 9) fun v16 =>
  rt (v16)
theorem n7_readTape (t : Option Nat) : Mn (f7_readTape t) := by
  unfold f7_readTape
  repeat' first | with_reducible exact mn_rt | with_reducible exact mn_getI | with_reducible exact mn_getR | with_reducible exact mn_getL | with_reducible exact mn_putI | with_reducible exact mn_putR | with_reducible exact mn_putL | with_reducible exact mn_ld | with_reducible exact mn_ldR | with_reducible exact mn_st | with_reducible exact mn_stZ | with_reducible exact mn_stR | with_reducible exact mn_len | with_reducible exact mn_newO | with_reducible exact mn_newA | with_reducible exact mn_newR | with_reducible exact mn_clone | with_reducible exact mn_copy | with_reducible exact mn_obj | with_reducible exact mn_z | with_reducible exact n6_read _ _ _ | with_reducible exact hrec _ | with_reducible refine mn_ite ?_ ?_ | with_reducible refine mn_bn ?_ (fun _ => ?_) | with_reducible refine mn_sum (fun _ => ?_) (fun _ => ?_) _
abbrev m7_mark : MI := (yX7_mark, cX7_mark, 2, (some .boolean), 6, 131)
noncomputable def f7_mark (t : Option Nat) (a1 : Int32) : Cm (Int32) :=
  bn (f7_isKind a1) fun v1 =>
  if v1 = 0 then
    rt (0)
  else
    bn (oObj t 7) fun _ =>
    bn (f7_readTape t ) fun v8 =>
    bn (oGetI v8 6 7) fun v11 =>
    if v11 = 0 then
      rt (0)
    else
      bn (oNewO 1 [.int 0, .null, .int 0, .int 0, .int 0, .int 0]) fun v21 =>
      bn (oObj t 7) fun _ =>
      bn (f7_takeTape t ) fun v27 =>
      bn (oObj v21 1) fun _ =>
      bn (f1_init v21 1 v27 0 2 1 0) fun _ =>
      bn (oObj t 7) fun _ =>
      bn (f7_setKind t a1 v21) fun _ =>
      rt (1)
theorem n7_mark (t : Option Nat) (a1 : Int32) : Mn (f7_mark t a1) := by
  unfold f7_mark
  repeat' first | with_reducible exact mn_rt | with_reducible exact mn_getI | with_reducible exact mn_getR | with_reducible exact mn_getL | with_reducible exact mn_putI | with_reducible exact mn_putR | with_reducible exact mn_putL | with_reducible exact mn_ld | with_reducible exact mn_ldR | with_reducible exact mn_st | with_reducible exact mn_stZ | with_reducible exact mn_stR | with_reducible exact mn_len | with_reducible exact mn_newO | with_reducible exact mn_newA | with_reducible exact mn_newR | with_reducible exact mn_clone | with_reducible exact mn_copy | with_reducible exact mn_obj | with_reducible exact mn_z | with_reducible exact n7_isKind _ | with_reducible exact n7_readTape _ | with_reducible exact n7_setKind _ _ _ | with_reducible exact n7_takeTape _ | with_reducible exact n1_init _ _ _ _ _ _ _ | with_reducible exact hrec _ | with_reducible refine mn_ite ?_ ?_ | with_reducible refine mn_bn ?_ (fun _ => ?_) | with_reducible refine mn_sum (fun _ => ?_) (fun _ => ?_) _
abbrev m7_near : MI := (yX7_near, cX7_near, 4, (some .boolean), 2, 46)
noncomputable def f7_near (t : Option Nat) (a1 : Int32) (a2 : Int32) (a3 : Int32) : Cm (Int32) :=
  bn (f7_isKind a1) fun v1 =>
  if v1 = 0 then
    rt (0)
  else
    bn (f7_isText a2) fun v8 =>
    if v8 = 0 then
      rt (0)
    else
      bn (f7_isRow a3) fun v15 =>
      if v15 = 0 then
        rt (0)
      else
        bn (oNewO 1 [.int 0, .null, .int 0, .int 0, .int 0, .int 0]) fun v25 =>
        bn (oObj v25 1) fun _ =>
        bn (f1_init v25 2 none a2 a3 1 0) fun _ =>
        bn (oObj t 7) fun _ =>
        bn (f7_setKind t a1 v25) fun _ =>
        rt (1)
theorem n7_near (t : Option Nat) (a1 : Int32) (a2 : Int32) (a3 : Int32) : Mn (f7_near t a1 a2 a3) := by
  unfold f7_near
  repeat' first | with_reducible exact mn_rt | with_reducible exact mn_getI | with_reducible exact mn_getR | with_reducible exact mn_getL | with_reducible exact mn_putI | with_reducible exact mn_putR | with_reducible exact mn_putL | with_reducible exact mn_ld | with_reducible exact mn_ldR | with_reducible exact mn_st | with_reducible exact mn_stZ | with_reducible exact mn_stR | with_reducible exact mn_len | with_reducible exact mn_newO | with_reducible exact mn_newA | with_reducible exact mn_newR | with_reducible exact mn_clone | with_reducible exact mn_copy | with_reducible exact mn_obj | with_reducible exact mn_z | with_reducible exact n7_isKind _ | with_reducible exact n7_isRow _ | with_reducible exact n7_isText _ | with_reducible exact n7_setKind _ _ _ | with_reducible exact n1_init _ _ _ _ _ _ _ | with_reducible exact hrec _ | with_reducible refine mn_ite ?_ ?_ | with_reducible refine mn_bn ?_ (fun _ => ?_) | with_reducible refine mn_sum (fun _ => ?_) (fun _ => ?_) _
abbrev m0_clear : MI := (yX0_clear, cX0_clear, 1, none, 1, 20)
noncomputable def f0_clear (t : Option Nat) : Cm (Unit) :=
  bn (oPutI t 0 4 0) fun _ =>
  bn (oGetR t 0 3) fun v6 =>
  bn (oObj v6 3) fun _ =>
  bn (f3_clear v6 ) fun _ =>
  rt (())
theorem n0_clear (t : Option Nat) : Mn (f0_clear t) := by
  unfold f0_clear
  repeat' first | with_reducible exact mn_rt | with_reducible exact mn_getI | with_reducible exact mn_getR | with_reducible exact mn_getL | with_reducible exact mn_putI | with_reducible exact mn_putR | with_reducible exact mn_putL | with_reducible exact mn_ld | with_reducible exact mn_ldR | with_reducible exact mn_st | with_reducible exact mn_stZ | with_reducible exact mn_stR | with_reducible exact mn_len | with_reducible exact mn_newO | with_reducible exact mn_newA | with_reducible exact mn_newR | with_reducible exact mn_clone | with_reducible exact mn_copy | with_reducible exact mn_obj | with_reducible exact mn_z | with_reducible exact n3_clear _ | with_reducible exact hrec _ | with_reducible refine mn_ite ?_ ?_ | with_reducible refine mn_bn ?_ (fun _ => ?_) | with_reducible refine mn_sum (fun _ => ?_) (fun _ => ?_) _
abbrev m7_numbers : MI := (yX7_numbers, cX7_numbers, 1, (some .int), 6, 130)
noncomputable def f7_numbers (t : Option Nat) : Cm (Int32) :=
  bn (oGetR t 7 10) fun v1 =>
  bn (oObj v1 0) fun _ =>
  bn (f0_clear v1 ) fun _ =>
  bn (oObj t 7) fun _ =>
  bn (f7_readTape t ) fun v8 =>
  bn (oGetR t 7 10) fun v12 =>
  bn (oObj v8 6) fun _ =>
  bn (f6_collectNumbers v8 v12) fun _ =>
  bn (oGetR t 7 10) fun v19 =>
  bn (oGetI v19 0 4) fun v22 =>
  rt (v22)
theorem n7_numbers (t : Option Nat) : Mn (f7_numbers t) := by
  unfold f7_numbers
  repeat' first | with_reducible exact mn_rt | with_reducible exact mn_getI | with_reducible exact mn_getR | with_reducible exact mn_getL | with_reducible exact mn_putI | with_reducible exact mn_putR | with_reducible exact mn_putL | with_reducible exact mn_ld | with_reducible exact mn_ldR | with_reducible exact mn_st | with_reducible exact mn_stZ | with_reducible exact mn_stR | with_reducible exact mn_len | with_reducible exact mn_newO | with_reducible exact mn_newA | with_reducible exact mn_newR | with_reducible exact mn_clone | with_reducible exact mn_copy | with_reducible exact mn_obj | with_reducible exact mn_z | with_reducible exact n7_readTape _ | with_reducible exact n0_clear _ | with_reducible exact n6_collectNumbers _ _ | with_reducible exact hrec _ | with_reducible refine mn_ite ?_ ?_ | with_reducible refine mn_bn ?_ (fun _ => ?_) | with_reducible refine mn_sum (fun _ => ?_) (fun _ => ?_) _
abbrev m7_parts : MI := (yX7_parts, cX7_parts, 3, (some .int), 6, 130)
noncomputable def f7_parts (t : Option Nat) (a1 : Int32) (a2 : Int32) : Cm (Int32) :=
  bn (f7_isText a1) fun v1 =>
  if v1 = 0 then
    rt ((-1))
  else
    bn (f7_isRow a2) fun v8 =>
    if v8 = 0 then
      rt ((-1))
    else
      bn (oGetR t 7 10) fun v17 =>
      bn (oObj v17 0) fun _ =>
      bn (f0_clear v17 ) fun _ =>
      bn (oObj t 7) fun _ =>
      bn (f7_readTape t ) fun v24 =>
      bn (oGetR t 7 3) fun v28 =>
      bn (oLdR 2 v28 a1) fun v32 =>
      bn (oGetR t 7 10) fun v35 =>
      bn (oObj v24 6) fun _ =>
      bn (f6_collectParts v24 v32 a2 v35) fun _ =>
      bn (oGetR t 7 10) fun v42 =>
      bn (oGetR v42 0 3) fun v45 =>
      bn (oObj v45 3) fun _ =>
      bn (f3_size v45 ) fun v48 =>
      rt (v48)
theorem n7_parts (t : Option Nat) (a1 : Int32) (a2 : Int32) : Mn (f7_parts t a1 a2) := by
  unfold f7_parts
  repeat' first | with_reducible exact mn_rt | with_reducible exact mn_getI | with_reducible exact mn_getR | with_reducible exact mn_getL | with_reducible exact mn_putI | with_reducible exact mn_putR | with_reducible exact mn_putL | with_reducible exact mn_ld | with_reducible exact mn_ldR | with_reducible exact mn_st | with_reducible exact mn_stZ | with_reducible exact mn_stR | with_reducible exact mn_len | with_reducible exact mn_newO | with_reducible exact mn_newA | with_reducible exact mn_newR | with_reducible exact mn_clone | with_reducible exact mn_copy | with_reducible exact mn_obj | with_reducible exact mn_z | with_reducible exact n7_isRow _ | with_reducible exact n7_isText _ | with_reducible exact n7_readTape _ | with_reducible exact n0_clear _ | with_reducible exact n3_size _ | with_reducible exact n6_collectParts _ _ _ _ | with_reducible exact hrec _ | with_reducible refine mn_ite ?_ ?_ | with_reducible refine mn_bn ?_ (fun _ => ?_) | with_reducible refine mn_sum (fun _ => ?_) (fun _ => ?_) _
abbrev m7_pieces : MI := (yX7_pieces, cX7_pieces, 6, (some .boolean), 2, 46)
noncomputable def f7_pieces (t : Option Nat) (a1 : Int32) (a2 : Int32) (a3 : Int32) (a4 : Int32) (a5 : Int32) : Cm (Int32) :=
  bn (f7_isKind a1) fun v1 =>
  if v1 = 0 then
    rt (0)
  else
    bn (f7_isText a2) fun v8 =>
    if v8 = 0 then
      rt (0)
    else
      bn (f7_isRow a3) fun v15 =>
      if v15 = 0 then
        rt (0)
      else
        bn (f7_within a4 1 50) fun v28 =>
        if v28 = 0 then
          rt (0)
        else
          bn (f7_within a5 0 30) fun v39 =>
          if v39 = 0 then
            rt (0)
          else
            bn (oNewO 1 [.int 0, .null, .int 0, .int 0, .int 0, .int 0]) fun v49 =>
            bn (oObj v49 1) fun _ =>
            bn (f1_init v49 4 none a2 a3 a4 a5) fun _ =>
            bn (oObj t 7) fun _ =>
            bn (f7_setKind t a1 v49) fun _ =>
            rt (1)
theorem n7_pieces (t : Option Nat) (a1 : Int32) (a2 : Int32) (a3 : Int32) (a4 : Int32) (a5 : Int32) : Mn (f7_pieces t a1 a2 a3 a4 a5) := by
  unfold f7_pieces
  repeat' first | with_reducible exact mn_rt | with_reducible exact mn_getI | with_reducible exact mn_getR | with_reducible exact mn_getL | with_reducible exact mn_putI | with_reducible exact mn_putR | with_reducible exact mn_putL | with_reducible exact mn_ld | with_reducible exact mn_ldR | with_reducible exact mn_st | with_reducible exact mn_stZ | with_reducible exact mn_stR | with_reducible exact mn_len | with_reducible exact mn_newO | with_reducible exact mn_newA | with_reducible exact mn_newR | with_reducible exact mn_clone | with_reducible exact mn_copy | with_reducible exact mn_obj | with_reducible exact mn_z | with_reducible exact n7_isKind _ | with_reducible exact n7_isRow _ | with_reducible exact n7_isText _ | with_reducible exact n7_setKind _ _ _ | with_reducible exact n7_within _ _ _ | with_reducible exact n1_init _ _ _ _ _ _ _ | with_reducible exact hrec _ | with_reducible refine mn_ite ?_ ?_ | with_reducible refine mn_bn ?_ (fun _ => ?_) | with_reducible refine mn_sum (fun _ => ?_) (fun _ => ?_) _
abbrev m7_quarrel : MI := (yX7_quarrel, cX7_quarrel, 7, (some .int), 2, 43)
noncomputable def f7_quarrel (t : Option Nat) (a1 : Int32) (a2 : Int32) : Cm (Int32) :=
  bn (oGetR t 7 6) fun v1 =>
  bn (oObj v1 5) fun _ =>
  bn (f5_get v1 a1) fun v5 =>
  bn (oGetR t 7 6) fun v10 =>
  bn (oObj v10 5) fun _ =>
  bn (f5_get v10 a2) fun v14 =>
  if v5 = none then
    rt ((-1))
  else
    if v14 = none then
      rt ((-1))
    else
      bn (oGetI v5 4 3) fun v29 =>
      bn (oGetI v14 4 3) fun v34 =>
      if v29 = v34 then
        rt ((-1))
      else
        bn (oGetI v5 4 2) fun v41 =>
        bn (oGetI v14 4 2) fun v46 =>
        if v41 = v46 then
          bn (oGetI v5 4 0) fun v55 =>
          bn (oGetI v14 4 0) fun v60 =>
          bn (f7_leastShared v55 v60) fun v63 =>
          bn (oGetI v5 4 1) fun v69 =>
          bn (oGetI v14 4 1) fun v74 =>
          bn (f7_leastShared v69 v74) fun v77 =>
          if v63 = (-1) then
            rt ((-1))
          else
            if v77 = (-1) then
              rt ((-1))
            else
              rt (((10 * v63) + v77))
        else
          rt ((-1))
theorem n7_quarrel (t : Option Nat) (a1 : Int32) (a2 : Int32) : Mn (f7_quarrel t a1 a2) := by
  unfold f7_quarrel
  repeat' first | with_reducible exact mn_rt | with_reducible exact mn_getI | with_reducible exact mn_getR | with_reducible exact mn_getL | with_reducible exact mn_putI | with_reducible exact mn_putR | with_reducible exact mn_putL | with_reducible exact mn_ld | with_reducible exact mn_ldR | with_reducible exact mn_st | with_reducible exact mn_stZ | with_reducible exact mn_stR | with_reducible exact mn_len | with_reducible exact mn_newO | with_reducible exact mn_newA | with_reducible exact mn_newR | with_reducible exact mn_clone | with_reducible exact mn_copy | with_reducible exact mn_obj | with_reducible exact mn_z | with_reducible exact n7_leastShared _ _ | with_reducible exact n5_get _ _ | with_reducible exact hrec _ | with_reducible refine mn_ite ?_ ?_ | with_reducible refine mn_bn ?_ (fun _ => ?_) | with_reducible refine mn_sum (fun _ => ?_) (fun _ => ?_) _
abbrev m4_init : MI := (yX4_init, cX4_init, 5, none, 1, 20)
noncomputable def f4_init (t : Option Nat) (a1 : Int32) (a2 : Int32) (a3 : Int32) (a4 : Int32) : Cm (Unit) :=
  bn (oObj t 4) fun _ =>
  bn (oPutI t 4 0 a1) fun _ =>
  bn (oPutI t 4 1 a2) fun _ =>
  bn (oPutI t 4 2 a3) fun _ =>
  bn (oPutI t 4 3 a4) fun _ =>
  rt (())
theorem n4_init (t : Option Nat) (a1 : Int32) (a2 : Int32) (a3 : Int32) (a4 : Int32) : Mn (f4_init t a1 a2 a3 a4) := by
  unfold f4_init
  repeat' first | with_reducible exact mn_rt | with_reducible exact mn_getI | with_reducible exact mn_getR | with_reducible exact mn_getL | with_reducible exact mn_putI | with_reducible exact mn_putR | with_reducible exact mn_putL | with_reducible exact mn_ld | with_reducible exact mn_ldR | with_reducible exact mn_st | with_reducible exact mn_stZ | with_reducible exact mn_stR | with_reducible exact mn_len | with_reducible exact mn_newO | with_reducible exact mn_newA | with_reducible exact mn_newR | with_reducible exact mn_clone | with_reducible exact mn_copy | with_reducible exact mn_obj | with_reducible exact mn_z | with_reducible exact hrec _ | with_reducible refine mn_ite ?_ ?_ | with_reducible refine mn_bn ?_ (fun _ => ?_) | with_reducible refine mn_sum (fun _ => ?_) (fun _ => ?_) _
abbrev m5_insert : MI := (yX5_insert, cX5_insert, 4, none, 1, 22)
noncomputable def l5_insert_30 (t : Option Nat) (p1 : Int32) (p2 : Option Nat) (rec : Int32 → Cm (Unit)) (x30 : Int32) : Cm (Unit) :=
  if x30 ≤ p1 then
    rt ()
  else
    bn (oGetR t 5 0) fun v36 =>
    bn (oGetR t 5 0) fun v41 =>
    bn (oLdR 5 v41 (x30 - 1)) fun v47 =>
    bn (oStR 5 4 v36 x30 v47) fun _ =>
    rec (x30 + (-1))
noncomputable def f5_insert (t : Option Nat) (a1 : Int32) (a2 : Option Nat) : Cm (Unit) :=
  bn (oGetI t 5 1) fun v1 =>
  bn (oGetR t 5 0) fun v5 =>
  bn (oLen 5 v5) fun v8 =>
  if v8 ≤ v1 then
    rt (())
  else
    bn (oGetI t 5 1) fun v15 =>
    bn (f7_within a1 0 v15) fun v18 =>
    if v18 = 0 then
      rt (())
    else
      bn (oGetI t 5 1) fun v26 =>
      bn (fx (l5_insert_30 t a1 a2) FUEL v26) (fun y55 =>
        bn (oGetR t 5 0) fun v56 =>
        bn (oStR 5 4 v56 a1 a2) fun _ =>
        bn (oGetI t 5 1) fun v64 =>
        bn (oPutI t 5 1 (v64 + 1)) fun _ =>
        rt (())
      )
theorem k5_insert_30 (t : Option Nat) (p1 : Int32) (p2 : Option Nat) (n : Nat) (x : Int32) : Mn (fx (l5_insert_30 t p1 p2) n x) := by
  refine mn_fx (fun rec hrec x => ?_) n x
  unfold l5_insert_30
  repeat' first | with_reducible exact mn_rt | with_reducible exact mn_getI | with_reducible exact mn_getR | with_reducible exact mn_getL | with_reducible exact mn_putI | with_reducible exact mn_putR | with_reducible exact mn_putL | with_reducible exact mn_ld | with_reducible exact mn_ldR | with_reducible exact mn_st | with_reducible exact mn_stZ | with_reducible exact mn_stR | with_reducible exact mn_len | with_reducible exact mn_newO | with_reducible exact mn_newA | with_reducible exact mn_newR | with_reducible exact mn_clone | with_reducible exact mn_copy | with_reducible exact mn_obj | with_reducible exact mn_z | with_reducible exact n7_within _ _ _ | with_reducible exact hrec _ | with_reducible refine mn_ite ?_ ?_ | with_reducible refine mn_bn ?_ (fun _ => ?_) | with_reducible refine mn_sum (fun _ => ?_) (fun _ => ?_) _
theorem n5_insert (t : Option Nat) (a1 : Int32) (a2 : Option Nat) : Mn (f5_insert t a1 a2) := by
  unfold f5_insert
  repeat' first | with_reducible exact mn_rt | with_reducible exact mn_getI | with_reducible exact mn_getR | with_reducible exact mn_getL | with_reducible exact mn_putI | with_reducible exact mn_putR | with_reducible exact mn_putL | with_reducible exact mn_ld | with_reducible exact mn_ldR | with_reducible exact mn_st | with_reducible exact mn_stZ | with_reducible exact mn_stR | with_reducible exact mn_len | with_reducible exact mn_newO | with_reducible exact mn_newA | with_reducible exact mn_newR | with_reducible exact mn_clone | with_reducible exact mn_copy | with_reducible exact mn_obj | with_reducible exact mn_z | with_reducible exact n7_within _ _ _ | with_reducible exact hrec _ | with_reducible exact k5_insert_30 _ _ _ _ _ | with_reducible refine mn_ite ?_ ?_ | with_reducible refine mn_bn ?_ (fun _ => ?_) | with_reducible refine mn_sum (fun _ => ?_) (fun _ => ?_) _
abbrev m7_rule : MI := (yX7_rule, cX7_rule, 6, (some .int), 3, 67)
noncomputable def f7_rule (t : Option Nat) (a1 : Int32) (a2 : Int32) (a3 : Int32) (a4 : Int32) (a5 : Int32) : Cm (Int32) :=
  bn (oGetR t 7 6) fun v1 =>
  bn (oGetI v1 5 1) fun v4 =>
  if 20 ≤ v4 then
    rt ((-1))
  else
    bn (oObj t 7) fun _ =>
    bn (f7_isRule t a1 a2 a3 a4 a5) fun v20 =>
    if v20 = 0 then
      rt ((-1))
    else
      bn (oGetR t 7 6) fun v29 =>
      bn (oNewO 4 [.int 0, .int 0, .int 0, .int 0]) fun v33 =>
      bn (oObj v33 4) fun _ =>
      bn (f4_init v33 a2 a3 a4 a5) fun _ =>
      bn (oObj v29 5) fun _ =>
      bn (f5_insert v29 a1 v33) fun _ =>
      bn (oGetR t 7 6) fun v50 =>
      bn (oGetI v50 5 1) fun v53 =>
      rt (v53)
theorem n7_rule (t : Option Nat) (a1 : Int32) (a2 : Int32) (a3 : Int32) (a4 : Int32) (a5 : Int32) : Mn (f7_rule t a1 a2 a3 a4 a5) := by
  unfold f7_rule
  repeat' first | with_reducible exact mn_rt | with_reducible exact mn_getI | with_reducible exact mn_getR | with_reducible exact mn_getL | with_reducible exact mn_putI | with_reducible exact mn_putR | with_reducible exact mn_putL | with_reducible exact mn_ld | with_reducible exact mn_ldR | with_reducible exact mn_st | with_reducible exact mn_stZ | with_reducible exact mn_stR | with_reducible exact mn_len | with_reducible exact mn_newO | with_reducible exact mn_newA | with_reducible exact mn_newR | with_reducible exact mn_clone | with_reducible exact mn_copy | with_reducible exact mn_obj | with_reducible exact mn_z | with_reducible exact n7_isRule _ _ _ _ _ _ | with_reducible exact n4_init _ _ _ _ _ | with_reducible exact n5_insert _ _ _ | with_reducible exact hrec _ | with_reducible refine mn_ite ?_ ?_ | with_reducible refine mn_bn ?_ (fun _ => ?_) | with_reducible refine mn_sum (fun _ => ?_) (fun _ => ?_) _
abbrev m7_sightAll : MI := (yX7_sightAll, cX7_sightAll, 4, none, 4, 100)
noncomputable def l7_sightAll_19 (t : Option Nat) (p1 : Int32) (p2 : Option Nat) (rec : Int32 → Cm (Unit)) (x19 : Int32) : Cm (Unit) :=
  if 8 ≤ x19 then
    rt ()
  else
    bn (oGetR p2 2 12) fun v26 =>
    bn (oLd 1 v26 x19) fun v30 =>
    if v30 = 0 then
      bn (oGetR p2 2 11) fun v35 =>
      bn (oLdR 6 v35 x19) fun v39 =>
      bn (oObj v39 0) fun _ =>
      bn (f0_clear v39 ) fun _ =>
      bn (oGetR t 7 4) fun v45 =>
      bn (oLdR 3 v45 x19) fun v49 =>
      bn (oGetR p2 2 5) fun v51 =>
      bn (oGetR p2 2 11) fun v55 =>
      bn (oLdR 6 v55 x19) fun v59 =>
      bn (oObj t 7) fun _ =>
      bn (f7_collect t v49 v51 v59) fun _ =>
      bn (oGetR p2 2 12) fun v64 =>
      bn (oStZ v64 x19 1) fun _ =>
      rec (x19 + 1)
    else
      rec (x19 + 1)
noncomputable def l7_sightAll_2 (t : Option Nat) (rec : Int32 → Cm (Unit)) (x2 : Int32) : Cm (Unit) :=
  bn (oGetI t 7 8) fun v4 =>
  if v4 ≤ x2 then
    rt ()
  else
    bn (oGetR t 7 7) fun v11 =>
    bn (oLdR 4 v11 x2) fun v15 =>
    bn (fx (l7_sightAll_19 t x2 v15) FUEL 0) (fun y76 =>
      rec (x2 + 1)
    )
noncomputable def f7_sightAll (t : Option Nat) : Cm (Unit) :=
  bn (fx (l7_sightAll_2 t) FUEL 0) (fun y82 =>
    rt (())
  )
theorem k7_sightAll_19 (t : Option Nat) (p1 : Int32) (p2 : Option Nat) (n : Nat) (x : Int32) : Mn (fx (l7_sightAll_19 t p1 p2) n x) := by
  refine mn_fx (fun rec hrec x => ?_) n x
  unfold l7_sightAll_19
  repeat' first | with_reducible exact mn_rt | with_reducible exact mn_getI | with_reducible exact mn_getR | with_reducible exact mn_getL | with_reducible exact mn_putI | with_reducible exact mn_putR | with_reducible exact mn_putL | with_reducible exact mn_ld | with_reducible exact mn_ldR | with_reducible exact mn_st | with_reducible exact mn_stZ | with_reducible exact mn_stR | with_reducible exact mn_len | with_reducible exact mn_newO | with_reducible exact mn_newA | with_reducible exact mn_newR | with_reducible exact mn_clone | with_reducible exact mn_copy | with_reducible exact mn_obj | with_reducible exact mn_z | with_reducible exact n7_collect _ _ _ _ | with_reducible exact n0_clear _ | with_reducible exact hrec _ | with_reducible refine mn_ite ?_ ?_ | with_reducible refine mn_bn ?_ (fun _ => ?_) | with_reducible refine mn_sum (fun _ => ?_) (fun _ => ?_) _
theorem k7_sightAll_2 (t : Option Nat) (n : Nat) (x : Int32) : Mn (fx (l7_sightAll_2 t) n x) := by
  refine mn_fx (fun rec hrec x => ?_) n x
  unfold l7_sightAll_2
  repeat' first | with_reducible exact mn_rt | with_reducible exact mn_getI | with_reducible exact mn_getR | with_reducible exact mn_getL | with_reducible exact mn_putI | with_reducible exact mn_putR | with_reducible exact mn_putL | with_reducible exact mn_ld | with_reducible exact mn_ldR | with_reducible exact mn_st | with_reducible exact mn_stZ | with_reducible exact mn_stR | with_reducible exact mn_len | with_reducible exact mn_newO | with_reducible exact mn_newA | with_reducible exact mn_newR | with_reducible exact mn_clone | with_reducible exact mn_copy | with_reducible exact mn_obj | with_reducible exact mn_z | with_reducible exact n7_collect _ _ _ _ | with_reducible exact n0_clear _ | with_reducible exact hrec _ | with_reducible exact k7_sightAll_19 _ _ _ _ _ | with_reducible refine mn_ite ?_ ?_ | with_reducible refine mn_bn ?_ (fun _ => ?_) | with_reducible refine mn_sum (fun _ => ?_) (fun _ => ?_) _
theorem n7_sightAll (t : Option Nat) : Mn (f7_sightAll t) := by
  unfold f7_sightAll
  repeat' first | with_reducible exact mn_rt | with_reducible exact mn_getI | with_reducible exact mn_getR | with_reducible exact mn_getL | with_reducible exact mn_putI | with_reducible exact mn_putR | with_reducible exact mn_putL | with_reducible exact mn_ld | with_reducible exact mn_ldR | with_reducible exact mn_st | with_reducible exact mn_stZ | with_reducible exact mn_stR | with_reducible exact mn_len | with_reducible exact mn_newO | with_reducible exact mn_newA | with_reducible exact mn_newR | with_reducible exact mn_clone | with_reducible exact mn_copy | with_reducible exact mn_obj | with_reducible exact mn_z | with_reducible exact n7_collect _ _ _ _ | with_reducible exact n0_clear _ | with_reducible exact hrec _ | with_reducible exact k7_sightAll_19 _ _ _ _ _ | with_reducible exact k7_sightAll_2 _ _ _ | with_reducible refine mn_ite ?_ ?_ | with_reducible refine mn_bn ?_ (fun _ => ?_) | with_reducible refine mn_sum (fun _ => ?_) (fun _ => ?_) _
abbrev m2_init : MI := (yX2_init, cX2_init, 8, none, 3, 62)
noncomputable def l2_init_83 (t : Option Nat) (rec : Int32 → Cm (Unit)) (x83 : Int32) : Cm (Unit) :=
  if 8 ≤ x83 then
    rt ()
  else
    bn (oGetR t 2 11) fun v91 =>
    bn (oNewO 0 [.null, .null, .null, .null, .int 0]) fun v96 =>
    bn (oObj v96 0) fun _ =>
    bn (f0_init v96 0) fun _ =>
    bn (oStR 6 0 v91 x83 v96) fun _ =>
    rec (x83 + 1)
noncomputable def f2_init (t : Option Nat) (a1 : Int32) (a2 : Int32) (a3 : Int32) (a4 : Int32) (a5 : Option Nat) (a6 : Option Nat) : Cm (Unit) :=
  bn (oObj t 2) fun _ =>
  bn (oPutI t 2 6 0) fun _ =>
  bn (oPutI t 2 7 (-1)) fun _ =>
  bn (oPutI t 2 8 0) fun _ =>
  bn (oPutR t 2 9 none) fun _ =>
  bn (oNewR 6 8) fun v27 =>
  bn (oPutR t 2 11 v27) fun _ =>
  bn (oNewA 1 8) fun v36 =>
  bn (oPutR t 2 12 v36) fun _ =>
  bn (oPutI t 2 0 a1) fun _ =>
  bn (oPutI t 2 1 a2) fun _ =>
  bn (oPutI t 2 2 a3) fun _ =>
  bn (oPutI t 2 3 a4) fun _ =>
  bn (oPutR t 2 4 a5) fun _ =>
  bn (oPutR t 2 5 a6) fun _ =>
  bn (oPutR t 2 10 a5) fun _ =>
  bn (fx (l2_init_83 t) FUEL 0) (fun y111 =>
    rt (())
  )
theorem k2_init_83 (t : Option Nat) (n : Nat) (x : Int32) : Mn (fx (l2_init_83 t) n x) := by
  refine mn_fx (fun rec hrec x => ?_) n x
  unfold l2_init_83
  repeat' first | with_reducible exact mn_rt | with_reducible exact mn_getI | with_reducible exact mn_getR | with_reducible exact mn_getL | with_reducible exact mn_putI | with_reducible exact mn_putR | with_reducible exact mn_putL | with_reducible exact mn_ld | with_reducible exact mn_ldR | with_reducible exact mn_st | with_reducible exact mn_stZ | with_reducible exact mn_stR | with_reducible exact mn_len | with_reducible exact mn_newO | with_reducible exact mn_newA | with_reducible exact mn_newR | with_reducible exact mn_clone | with_reducible exact mn_copy | with_reducible exact mn_obj | with_reducible exact mn_z | with_reducible exact n0_init _ _ | with_reducible exact hrec _ | with_reducible refine mn_ite ?_ ?_ | with_reducible refine mn_bn ?_ (fun _ => ?_) | with_reducible refine mn_sum (fun _ => ?_) (fun _ => ?_) _
theorem n2_init (t : Option Nat) (a1 : Int32) (a2 : Int32) (a3 : Int32) (a4 : Int32) (a5 : Option Nat) (a6 : Option Nat) : Mn (f2_init t a1 a2 a3 a4 a5 a6) := by
  unfold f2_init
  repeat' first | with_reducible exact mn_rt | with_reducible exact mn_getI | with_reducible exact mn_getR | with_reducible exact mn_getL | with_reducible exact mn_putI | with_reducible exact mn_putR | with_reducible exact mn_putL | with_reducible exact mn_ld | with_reducible exact mn_ldR | with_reducible exact mn_st | with_reducible exact mn_stZ | with_reducible exact mn_stR | with_reducible exact mn_len | with_reducible exact mn_newO | with_reducible exact mn_newA | with_reducible exact mn_newR | with_reducible exact mn_clone | with_reducible exact mn_copy | with_reducible exact mn_obj | with_reducible exact mn_z | with_reducible exact n0_init _ _ | with_reducible exact hrec _ | with_reducible exact k2_init_83 _ _ _ | with_reducible refine mn_ite ?_ ?_ | with_reducible refine mn_bn ?_ (fun _ => ?_) | with_reducible refine mn_sum (fun _ => ?_) (fun _ => ?_) _
abbrev m7_send : MI := (yX7_send, cX7_send, 7, (some .int), 6, 131)
noncomputable def f7_send (t : Option Nat) (a1 : Int32) (a2 : Int32) (a3 : Int32) : Cm (Int32) :=
  bn (f7_isPerson a1) fun v1 =>
  if v1 = 0 then
    rt ((-1))
  else
    bn (f7_isPerson a2) fun v8 =>
    if v8 = 0 then
      rt ((-1))
    else
      bn (f7_within a3 0 2) fun v17 =>
      if v17 = 0 then
        rt ((-1))
      else
        bn (oGetI t 7 8) fun v26 =>
        if v26 < 60 then
          bn (oGetI t 7 8) fun v37 =>
          bn (oObj t 7) fun _ =>
          bn (f7_copyOfTape t ) fun v43 =>
          bn (oNewO 2 [.int 0, .int 0, .int 0, .int 0, .null, .null, .int 0, .int 0, .int 0, .null, .null, .null, .null]) fun v48 =>
          bn (oGetI t 7 0) fun v56 =>
          bn (oObj t 7) fun _ =>
          bn (f7_takeTape t ) fun v62 =>
          bn (oObj v48 2) fun _ =>
          bn (f2_init v48 a1 a2 a3 v56 v43 v62) fun _ =>
          bn (oGetR t 7 7) fun v71 =>
          bn (oStR 4 2 v71 v37 v48) fun _ =>
          bn (oGetI t 7 8) fun v81 =>
          bn (oPutI t 7 8 (v81 + 1)) fun _ =>
          bn (oObj t 7) fun _ =>
          bn (f7_sightAll t ) fun _ =>
          bn (oGetR t 7 6) fun v98 =>
          bn (oObj t 7) fun _ =>
          bn (f7_firstRule t v98 v37) fun v103 =>
          bn (oObj t 7) fun _ =>
          bn (f7_deal t v48 v103) fun _ =>
          rt (v37)
        else
          rt ((-1))
theorem n7_send (t : Option Nat) (a1 : Int32) (a2 : Int32) (a3 : Int32) : Mn (f7_send t a1 a2 a3) := by
  unfold f7_send
  repeat' first | with_reducible exact mn_rt | with_reducible exact mn_getI | with_reducible exact mn_getR | with_reducible exact mn_getL | with_reducible exact mn_putI | with_reducible exact mn_putR | with_reducible exact mn_putL | with_reducible exact mn_ld | with_reducible exact mn_ldR | with_reducible exact mn_st | with_reducible exact mn_stZ | with_reducible exact mn_stR | with_reducible exact mn_len | with_reducible exact mn_newO | with_reducible exact mn_newA | with_reducible exact mn_newR | with_reducible exact mn_clone | with_reducible exact mn_copy | with_reducible exact mn_obj | with_reducible exact mn_z | with_reducible exact n7_copyOfTape _ | with_reducible exact n7_deal _ _ _ | with_reducible exact n7_firstRule _ _ _ | with_reducible exact n7_isPerson _ | with_reducible exact n7_sightAll _ | with_reducible exact n7_takeTape _ | with_reducible exact n7_within _ _ _ | with_reducible exact n2_init _ _ _ _ _ _ _ | with_reducible exact hrec _ | with_reducible refine mn_ite ?_ ?_ | with_reducible refine mn_bn ?_ (fun _ => ?_) | with_reducible refine mn_sum (fun _ => ?_) (fun _ => ?_) _
abbrev m5_copyWith : MI := (yX5_copyWith, cX5_copyWith, 5, none, 2, 45)
noncomputable def l5_copyWith_8 (t : Option Nat) (p1 : Option Nat) (p2 : Int32) (p3 : Option Nat) (rec : Int32 → Cm (Unit)) (x8 : Int32) : Cm (Unit) :=
  bn (oGetI p1 5 1) fun v11 =>
  if v11 ≤ x8 then
    rt ()
  else
    bn (oGetR p1 5 0) fun v21 =>
    bn (oLdR 5 v21 x8) fun v26 =>
    bn (oObj t 5) fun _ =>
    bn (f5_insert t x8 v26) fun _ =>
    rec (x8 + 1)
noncomputable def f5_copyWith (t : Option Nat) (a1 : Option Nat) (a2 : Int32) (a3 : Option Nat) : Cm (Unit) :=
  bn (oPutI t 5 1 0) fun _ =>
  bn (fx (l5_copyWith_8 t a1 a2 a3) FUEL 0) (fun y36 =>
    bn (oObj t 5) fun _ =>
    bn (f5_insert t a2 a3) fun _ =>
    rt (())
  )
theorem k5_copyWith_8 (t : Option Nat) (p1 : Option Nat) (p2 : Int32) (p3 : Option Nat) (n : Nat) (x : Int32) : Mn (fx (l5_copyWith_8 t p1 p2 p3) n x) := by
  refine mn_fx (fun rec hrec x => ?_) n x
  unfold l5_copyWith_8
  repeat' first | with_reducible exact mn_rt | with_reducible exact mn_getI | with_reducible exact mn_getR | with_reducible exact mn_getL | with_reducible exact mn_putI | with_reducible exact mn_putR | with_reducible exact mn_putL | with_reducible exact mn_ld | with_reducible exact mn_ldR | with_reducible exact mn_st | with_reducible exact mn_stZ | with_reducible exact mn_stR | with_reducible exact mn_len | with_reducible exact mn_newO | with_reducible exact mn_newA | with_reducible exact mn_newR | with_reducible exact mn_clone | with_reducible exact mn_copy | with_reducible exact mn_obj | with_reducible exact mn_z | with_reducible exact n5_insert _ _ _ | with_reducible exact hrec _ | with_reducible refine mn_ite ?_ ?_ | with_reducible refine mn_bn ?_ (fun _ => ?_) | with_reducible refine mn_sum (fun _ => ?_) (fun _ => ?_) _
theorem n5_copyWith (t : Option Nat) (a1 : Option Nat) (a2 : Int32) (a3 : Option Nat) : Mn (f5_copyWith t a1 a2 a3) := by
  unfold f5_copyWith
  repeat' first | with_reducible exact mn_rt | with_reducible exact mn_getI | with_reducible exact mn_getR | with_reducible exact mn_getL | with_reducible exact mn_putI | with_reducible exact mn_putR | with_reducible exact mn_putL | with_reducible exact mn_ld | with_reducible exact mn_ldR | with_reducible exact mn_st | with_reducible exact mn_stZ | with_reducible exact mn_stR | with_reducible exact mn_len | with_reducible exact mn_newO | with_reducible exact mn_newA | with_reducible exact mn_newR | with_reducible exact mn_clone | with_reducible exact mn_copy | with_reducible exact mn_obj | with_reducible exact mn_z | with_reducible exact n5_insert _ _ _ | with_reducible exact hrec _ | with_reducible exact k5_copyWith_8 _ _ _ _ _ _ | with_reducible refine mn_ite ?_ ?_ | with_reducible refine mn_bn ?_ (fun _ => ?_) | with_reducible refine mn_sum (fun _ => ?_) (fun _ => ?_) _
abbrev m7_setTrial : MI := (yX7_setTrial, cX7_setTrial, 6, (some .boolean), 5, 123)
noncomputable def f7_setTrial (t : Option Nat) (a1 : Int32) (a2 : Int32) (a3 : Int32) (a4 : Int32) (a5 : Int32) : Cm (Int32) :=
  bn (oObj t 7) fun _ =>
  bn (f7_isRule t a1 a2 a3 a4 a5) fun v8 =>
  if v8 = 0 then
    rt (0)
  else
    bn (oObj t 7) fun _ =>
    bn (f7_sightAll t ) fun _ =>
    bn (oGetR t 7 12) fun v21 =>
    bn (oGetR t 7 6) fun v25 =>
    bn (oNewO 4 [.int 0, .int 0, .int 0, .int 0]) fun v29 =>
    bn (oObj v29 4) fun _ =>
    bn (f4_init v29 a2 a3 a4 a5) fun _ =>
    bn (oObj v21 5) fun _ =>
    bn (f5_copyWith v21 v25 a1 v29) fun _ =>
    rt (1)
theorem n7_setTrial (t : Option Nat) (a1 : Int32) (a2 : Int32) (a3 : Int32) (a4 : Int32) (a5 : Int32) : Mn (f7_setTrial t a1 a2 a3 a4 a5) := by
  unfold f7_setTrial
  repeat' first | with_reducible exact mn_rt | with_reducible exact mn_getI | with_reducible exact mn_getR | with_reducible exact mn_getL | with_reducible exact mn_putI | with_reducible exact mn_putR | with_reducible exact mn_putL | with_reducible exact mn_ld | with_reducible exact mn_ldR | with_reducible exact mn_st | with_reducible exact mn_stZ | with_reducible exact mn_stR | with_reducible exact mn_len | with_reducible exact mn_newO | with_reducible exact mn_newA | with_reducible exact mn_newR | with_reducible exact mn_clone | with_reducible exact mn_copy | with_reducible exact mn_obj | with_reducible exact mn_z | with_reducible exact n7_isRule _ _ _ _ _ _ | with_reducible exact n7_sightAll _ | with_reducible exact n4_init _ _ _ _ _ | with_reducible exact n5_copyWith _ _ _ _ | with_reducible exact hrec _ | with_reducible refine mn_ite ?_ ?_ | with_reducible refine mn_bn ?_ (fun _ => ?_) | with_reducible refine mn_sum (fun _ => ?_) (fun _ => ?_) _
abbrev m7_state : MI := (yX7_state, cX7_state, 2, (some .int), 1, 23)
noncomputable def f7_state (t : Option Nat) (a1 : Int32) : Cm (Int32) :=
  if a1 = 0 then
    bn (oGetI t 7 0) fun v45 =>
    rt (v45)
  else
    if a1 = 1 then
      bn (oGetI t 7 8) fun v50 =>
      rt (v50)
    else
      if a1 = 2 then
        bn (oGetR t 7 6) fun v55 =>
        bn (oGetI v55 5 1) fun v58 =>
        rt (v58)
      else
        if a1 = 3 then
          bn (oGetI t 7 2) fun v63 =>
          rt (v63)
        else
          if a1 = 4 then
            bn (oObj t 7) fun _ =>
            bn (f7_lettersOfFate t 1) fun v69 =>
            rt (v69)
          else
            if a1 = 5 then
              bn (oObj t 7) fun _ =>
              bn (f7_lettersThatWereTold t ) fun v74 =>
              rt (v74)
            else
              if a1 = 6 then
                bn (oObj t 7) fun _ =>
                bn (f7_lettersOfFate t 2) fun v80 =>
                rt (v80)
              else
                rt ((-1))
theorem n7_state (t : Option Nat) (a1 : Int32) : Mn (f7_state t a1) := by
  unfold f7_state
  repeat' first | with_reducible exact mn_rt | with_reducible exact mn_getI | with_reducible exact mn_getR | with_reducible exact mn_getL | with_reducible exact mn_putI | with_reducible exact mn_putR | with_reducible exact mn_putL | with_reducible exact mn_ld | with_reducible exact mn_ldR | with_reducible exact mn_st | with_reducible exact mn_stZ | with_reducible exact mn_stR | with_reducible exact mn_len | with_reducible exact mn_newO | with_reducible exact mn_newA | with_reducible exact mn_newR | with_reducible exact mn_clone | with_reducible exact mn_copy | with_reducible exact mn_obj | with_reducible exact mn_z | with_reducible exact n7_lettersOfFate _ _ | with_reducible exact n7_lettersThatWereTold _ | with_reducible exact hrec _ | with_reducible refine mn_ite ?_ ?_ | with_reducible refine mn_bn ?_ (fun _ => ?_) | with_reducible refine mn_sum (fun _ => ?_) (fun _ => ?_) _
abbrev m7_told : MI := (yX7_told, cX7_told, 4, (some .int), 2, 43)
noncomputable def f7_told (t : Option Nat) (a1 : Int32) (a2 : Int32) : Cm (Int32) :=
  bn (oObj t 7) fun _ =>
  bn (f7_letterAt t a1) fun v2 =>
  if v2 = none then
    rt ((-1))
  else
    if a2 = 0 then
      bn (oGetI v2 2 0) fun v65 =>
      rt (v65)
    else
      if a2 = 1 then
        bn (oGetI v2 2 1) fun v70 =>
        rt (v70)
      else
        if a2 = 2 then
          bn (oGetI v2 2 2) fun v75 =>
          rt (v75)
        else
          if a2 = 3 then
            bn (oGetI v2 2 3) fun v80 =>
            rt (v80)
          else
            if a2 = 4 then
              bn (oGetI v2 2 6) fun v85 =>
              rt (v85)
            else
              if a2 = 5 then
                bn (oGetI v2 2 7) fun v90 =>
                rt (v90)
              else
                if a2 = 6 then
                  bn (oGetI v2 2 8) fun v95 =>
                  rt (v95)
                else
                  if a2 = 7 then
                    bn (oGetR v2 2 4) fun v100 =>
                    bn (oLen 0 v100) fun v103 =>
                    rt (v103)
                  else
                    if a2 = 8 then
                      bn (oGetR v2 2 9) fun v106 =>
                      if v106 = none then
                        rt (0)
                      else
                        bn (oGetR v2 2 9) fun v117 =>
                        bn (oGetI v117 0 4) fun v120 =>
                        rt (v120)
                    else
                      rt ((-1))
theorem n7_told (t : Option Nat) (a1 : Int32) (a2 : Int32) : Mn (f7_told t a1 a2) := by
  unfold f7_told
  repeat' first | with_reducible exact mn_rt | with_reducible exact mn_getI | with_reducible exact mn_getR | with_reducible exact mn_getL | with_reducible exact mn_putI | with_reducible exact mn_putR | with_reducible exact mn_putL | with_reducible exact mn_ld | with_reducible exact mn_ldR | with_reducible exact mn_st | with_reducible exact mn_stZ | with_reducible exact mn_stR | with_reducible exact mn_len | with_reducible exact mn_newO | with_reducible exact mn_newA | with_reducible exact mn_newR | with_reducible exact mn_clone | with_reducible exact mn_copy | with_reducible exact mn_obj | with_reducible exact mn_z | with_reducible exact n7_letterAt _ _ | with_reducible exact hrec _ | with_reducible refine mn_ite ?_ ?_ | with_reducible refine mn_bn ?_ (fun _ => ?_) | with_reducible refine mn_sum (fun _ => ?_) (fun _ => ?_) _
abbrev m7_trial : MI := (yX7_trial, cX7_trial, 8, (some .int), 6, 148)
noncomputable def l7_trial_22 (t : Option Nat) (rec : (Int32 × Int32) → Cm (Int32)) (x22 : Int32 × Int32) : Cm (Int32) :=
  bn (oGetI t 7 8) fun v25 =>
  if v25 ≤ x22.2 then
    rt x22.1
  else
    bn (oObj t 7) fun _ =>
    bn (f7_isOtherByTrial t x22.2) fun v34 =>
    if v34 = 0 then
      rec (x22.1, (x22.2 + 1))
    else
      rec ((x22.1 + 1), (x22.2 + 1))
noncomputable def f7_trial (t : Option Nat) (a1 : Int32) (a2 : Int32) (a3 : Int32) (a4 : Int32) (a5 : Int32) : Cm (Int32) :=
  bn (oObj t 7) fun _ =>
  bn (f7_setTrial t a1 a2 a3 a4 a5) fun v8 =>
  if v8 = 0 then
    rt ((-1))
  else
    bn (fx (l7_trial_22 t) FUEL (0, 0)) (fun y49 =>
      rt (y49)
    )
theorem k7_trial_22 (t : Option Nat) (n : Nat) (x : Int32 × Int32) : Mn (fx (l7_trial_22 t) n x) := by
  refine mn_fx (fun rec hrec x => ?_) n x
  unfold l7_trial_22
  repeat' first | with_reducible exact mn_rt | with_reducible exact mn_getI | with_reducible exact mn_getR | with_reducible exact mn_getL | with_reducible exact mn_putI | with_reducible exact mn_putR | with_reducible exact mn_putL | with_reducible exact mn_ld | with_reducible exact mn_ldR | with_reducible exact mn_st | with_reducible exact mn_stZ | with_reducible exact mn_stR | with_reducible exact mn_len | with_reducible exact mn_newO | with_reducible exact mn_newA | with_reducible exact mn_newR | with_reducible exact mn_clone | with_reducible exact mn_copy | with_reducible exact mn_obj | with_reducible exact mn_z | with_reducible exact n7_isOtherByTrial _ _ | with_reducible exact n7_setTrial _ _ _ _ _ _ | with_reducible exact hrec _ | with_reducible refine mn_ite ?_ ?_ | with_reducible refine mn_bn ?_ (fun _ => ?_) | with_reducible refine mn_sum (fun _ => ?_) (fun _ => ?_) _
theorem n7_trial (t : Option Nat) (a1 : Int32) (a2 : Int32) (a3 : Int32) (a4 : Int32) (a5 : Int32) : Mn (f7_trial t a1 a2 a3 a4 a5) := by
  unfold f7_trial
  repeat' first | with_reducible exact mn_rt | with_reducible exact mn_getI | with_reducible exact mn_getR | with_reducible exact mn_getL | with_reducible exact mn_putI | with_reducible exact mn_putR | with_reducible exact mn_putL | with_reducible exact mn_ld | with_reducible exact mn_ldR | with_reducible exact mn_st | with_reducible exact mn_stZ | with_reducible exact mn_stR | with_reducible exact mn_len | with_reducible exact mn_newO | with_reducible exact mn_newA | with_reducible exact mn_newR | with_reducible exact mn_clone | with_reducible exact mn_copy | with_reducible exact mn_obj | with_reducible exact mn_z | with_reducible exact n7_isOtherByTrial _ _ | with_reducible exact n7_setTrial _ _ _ _ _ _ | with_reducible exact hrec _ | with_reducible exact k7_trial_22 _ _ _ | with_reducible refine mn_ite ?_ ?_ | with_reducible refine mn_bn ?_ (fun _ => ?_) | with_reducible refine mn_sum (fun _ => ?_) (fun _ => ?_) _
abbrev m7_tried : MI := (yX7_tried, cX7_tried, 9, (some .int), 6, 148)
noncomputable def l7_tried_22 (t : Option Nat) (p6 : Int32) (rec : (Int32 × Int32) → Cm ((Int32) ⊕ (Unit))) (x22 : Int32 × Int32) : Cm ((Int32) ⊕ (Unit)) :=
  bn (oGetI t 7 8) fun v25 =>
  if v25 ≤ x22.2 then
    rt (.inr ())
  else
    bn (oObj t 7) fun _ =>
    bn (f7_isOtherByTrial t x22.2) fun v34 =>
    if v34 = 0 then
      rec (x22.1, (x22.2 + 1))
    else
      if x22.1 = p6 then
        rt (.inl (x22.2))
      else
        rec ((x22.1 + 1), (x22.2 + 1))
noncomputable def f7_tried (t : Option Nat) (a1 : Int32) (a2 : Int32) (a3 : Int32) (a4 : Int32) (a5 : Int32) (a6 : Int32) : Cm (Int32) :=
  bn (oObj t 7) fun _ =>
  bn (f7_setTrial t a1 a2 a3 a4 a5) fun v8 =>
  if v8 = 0 then
    rt ((-1))
  else
    bn (fx (l7_tried_22 t a6) FUEL (0, 0)) (Sum.elim (fun r => rt r) fun y59 =>
      rt ((-1))
    )
theorem k7_tried_22 (t : Option Nat) (p6 : Int32) (n : Nat) (x : Int32 × Int32) : Mn (fx (l7_tried_22 t p6) n x) := by
  refine mn_fx (fun rec hrec x => ?_) n x
  unfold l7_tried_22
  repeat' first | with_reducible exact mn_rt | with_reducible exact mn_getI | with_reducible exact mn_getR | with_reducible exact mn_getL | with_reducible exact mn_putI | with_reducible exact mn_putR | with_reducible exact mn_putL | with_reducible exact mn_ld | with_reducible exact mn_ldR | with_reducible exact mn_st | with_reducible exact mn_stZ | with_reducible exact mn_stR | with_reducible exact mn_len | with_reducible exact mn_newO | with_reducible exact mn_newA | with_reducible exact mn_newR | with_reducible exact mn_clone | with_reducible exact mn_copy | with_reducible exact mn_obj | with_reducible exact mn_z | with_reducible exact n7_isOtherByTrial _ _ | with_reducible exact n7_setTrial _ _ _ _ _ _ | with_reducible exact hrec _ | with_reducible refine mn_ite ?_ ?_ | with_reducible refine mn_bn ?_ (fun _ => ?_) | with_reducible refine mn_sum (fun _ => ?_) (fun _ => ?_) _
theorem n7_tried (t : Option Nat) (a1 : Int32) (a2 : Int32) (a3 : Int32) (a4 : Int32) (a5 : Int32) (a6 : Int32) : Mn (f7_tried t a1 a2 a3 a4 a5 a6) := by
  unfold f7_tried
  repeat' first | with_reducible exact mn_rt | with_reducible exact mn_getI | with_reducible exact mn_getR | with_reducible exact mn_getL | with_reducible exact mn_putI | with_reducible exact mn_putR | with_reducible exact mn_putL | with_reducible exact mn_ld | with_reducible exact mn_ldR | with_reducible exact mn_st | with_reducible exact mn_stZ | with_reducible exact mn_stR | with_reducible exact mn_len | with_reducible exact mn_newO | with_reducible exact mn_newA | with_reducible exact mn_newR | with_reducible exact mn_clone | with_reducible exact mn_copy | with_reducible exact mn_obj | with_reducible exact mn_z | with_reducible exact n7_isOtherByTrial _ _ | with_reducible exact n7_setTrial _ _ _ _ _ _ | with_reducible exact hrec _ | with_reducible exact k7_tried_22 _ _ _ _ | with_reducible refine mn_ite ?_ ?_ | with_reducible refine mn_bn ?_ (fun _ => ?_) | with_reducible refine mn_sum (fun _ => ?_) (fun _ => ?_) _
abbrev m7_words : MI := (yX7_words, cX7_words, 1, (some .int), 6, 130)
noncomputable def f7_words (t : Option Nat) : Cm (Int32) :=
  bn (oObj t 7) fun _ =>
  bn (f7_readTape t ) fun v1 =>
  bn (oGetI v1 6 7) fun v4 =>
  rt (v4)
theorem n7_words (t : Option Nat) : Mn (f7_words t) := by
  unfold f7_words
  repeat' first | with_reducible exact mn_rt | with_reducible exact mn_getI | with_reducible exact mn_getR | with_reducible exact mn_getL | with_reducible exact mn_putI | with_reducible exact mn_putR | with_reducible exact mn_putL | with_reducible exact mn_ld | with_reducible exact mn_ldR | with_reducible exact mn_st | with_reducible exact mn_stZ | with_reducible exact mn_stR | with_reducible exact mn_len | with_reducible exact mn_newO | with_reducible exact mn_newA | with_reducible exact mn_newR | with_reducible exact mn_clone | with_reducible exact mn_copy | with_reducible exact mn_obj | with_reducible exact mn_z | with_reducible exact n7_readTape _ | with_reducible exact hrec _ | with_reducible refine mn_ite ?_ ?_ | with_reducible refine mn_bn ?_ (fun _ => ?_) | with_reducible refine mn_sum (fun _ => ?_) (fun _ => ?_) _
abbrev m8_init : MI := (yX8_init, cX8_init, 1, none, 1, 20)
noncomputable def f8_init (t : Option Nat) : Cm (Unit) :=
  bn (oObj t 8) fun _ =>
  bn (oNewA 0 300) fun v8 =>
  bn (oPutR t 8 3 v8) fun _ =>
  bn (oNewA 0 300) fun v17 =>
  bn (oPutR t 8 5 v17) fun _ =>
  bn (oNewA 0 300) fun v26 =>
  bn (oPutR t 8 6 v26) fun _ =>
  bn (oNewA 0 300) fun v35 =>
  bn (oPutR t 8 7 v35) fun _ =>
  bn (oNewA 0 300) fun v44 =>
  bn (oPutR t 8 9 v44) fun _ =>
  bn (oNewA 0 300) fun v53 =>
  bn (oPutR t 8 10 v53) fun _ =>
  bn (oNewA 0 300) fun v62 =>
  bn (oPutR t 8 12 v62) fun _ =>
  bn (oNewA 0 300) fun v71 =>
  bn (oPutR t 8 13 v71) fun _ =>
  bn (oNewA 0 2400) fun v80 =>
  bn (oPutR t 8 15 v80) fun _ =>
  bn (oNewA 0 2400) fun v89 =>
  bn (oPutR t 8 16 v89) fun _ =>
  bn (oNewA 0 2400) fun v98 =>
  bn (oPutR t 8 17 v98) fun _ =>
  bn (oNewA 0 8) fun v106 =>
  bn (oPutR t 8 18 v106) fun _ =>
  bn (oNewA 1 300) fun v115 =>
  bn (oPutR t 8 19 v115) fun _ =>
  bn (oNewA 0 8) fun v123 =>
  bn (oPutR t 8 20 v123) fun _ =>
  bn (oNewA 0 2400) fun v132 =>
  bn (oPutR t 8 21 v132) fun _ =>
  bn (oNewA 0 8) fun v140 =>
  bn (oPutR t 8 22 v140) fun _ =>
  bn (oNewA 0 8) fun v148 =>
  bn (oPutR t 8 23 v148) fun _ =>
  bn (oNewA 0 8) fun v156 =>
  bn (oPutR t 8 24 v156) fun _ =>
  bn (oNewA 0 8) fun v164 =>
  bn (oPutR t 8 25 v164) fun _ =>
  bn (oNewA 0 8) fun v172 =>
  bn (oPutR t 8 26 v172) fun _ =>
  bn (oNewA 1 800) fun v181 =>
  bn (oPutR t 8 27 v181) fun _ =>
  bn (oNewA 0 18000) fun v190 =>
  bn (oPutR t 8 28 v190) fun _ =>
  bn (oNewA 0 60) fun v198 =>
  bn (oPutR t 8 29 v198) fun _ =>
  bn (oNewA 0 60) fun v206 =>
  bn (oPutR t 8 30 v206) fun _ =>
  bn (oNewA 0 60) fun v214 =>
  bn (oPutR t 8 31 v214) fun _ =>
  bn (oNewA 0 60) fun v222 =>
  bn (oPutR t 8 32 v222) fun _ =>
  bn (oNewA 0 60) fun v230 =>
  bn (oPutR t 8 33 v230) fun _ =>
  bn (oNewA 0 60) fun v238 =>
  bn (oPutR t 8 34 v238) fun _ =>
  bn (oNewA 0 60) fun v246 =>
  bn (oPutR t 8 35 v246) fun _ =>
  bn (oNewA 0 60) fun v254 =>
  bn (oPutR t 8 36 v254) fun _ =>
  bn (oNewA 0 60) fun v262 =>
  bn (oPutR t 8 37 v262) fun _ =>
  bn (oNewA 0 60) fun v270 =>
  bn (oPutR t 8 38 v270) fun _ =>
  bn (oNewA 0 1024) fun v279 =>
  bn (oPutR t 8 39 v279) fun _ =>
  bn (oNewA 0 1024) fun v288 =>
  bn (oPutR t 8 40 v288) fun _ =>
  bn (oNewA 0 1024) fun v297 =>
  bn (oPutR t 8 41 v297) fun _ =>
  bn (oNewA 0 21) fun v305 =>
  bn (oPutR t 8 43 v305) fun _ =>
  bn (oNewA 0 21) fun v313 =>
  bn (oPutR t 8 44 v313) fun _ =>
  bn (oNewA 0 21) fun v321 =>
  bn (oPutR t 8 45 v321) fun _ =>
  bn (oNewA 0 21) fun v329 =>
  bn (oPutR t 8 46 v329) fun _ =>
  rt (())
theorem n8_init (t : Option Nat) : Mn (f8_init t) := by
  unfold f8_init
  repeat' first | with_reducible exact mn_rt | with_reducible exact mn_getI | with_reducible exact mn_getR | with_reducible exact mn_getL | with_reducible exact mn_putI | with_reducible exact mn_putR | with_reducible exact mn_putL | with_reducible exact mn_ld | with_reducible exact mn_ldR | with_reducible exact mn_st | with_reducible exact mn_stZ | with_reducible exact mn_stR | with_reducible exact mn_len | with_reducible exact mn_newO | with_reducible exact mn_newA | with_reducible exact mn_newR | with_reducible exact mn_clone | with_reducible exact mn_copy | with_reducible exact mn_obj | with_reducible exact mn_z | with_reducible exact hrec _ | with_reducible refine mn_ite ?_ ?_ | with_reducible refine mn_bn ?_ (fun _ => ?_) | with_reducible refine mn_sum (fun _ => ?_) (fun _ => ?_) _
abbrev m8_in : MI := (yX8_in, cX8_in, 3, (some .boolean), 0, 0)
noncomputable def f8_in (a1 : Int32) (a2 : Int32) (a3 : Int32) : Cm (Int32) :=
  if a1 < a2 then
    rt (0)
  else
    if a3 < a1 then
      rt (0)
    else
      rt (1)
theorem n8_in (a1 : Int32) (a2 : Int32) (a3 : Int32) : Mn (f8_in a1 a2 a3) := by
  unfold f8_in
  repeat' first | with_reducible exact mn_rt | with_reducible exact mn_getI | with_reducible exact mn_getR | with_reducible exact mn_getL | with_reducible exact mn_putI | with_reducible exact mn_putR | with_reducible exact mn_putL | with_reducible exact mn_ld | with_reducible exact mn_ldR | with_reducible exact mn_st | with_reducible exact mn_stZ | with_reducible exact mn_stR | with_reducible exact mn_len | with_reducible exact mn_newO | with_reducible exact mn_newA | with_reducible exact mn_newR | with_reducible exact mn_clone | with_reducible exact mn_copy | with_reducible exact mn_obj | with_reducible exact mn_z | with_reducible exact hrec _ | with_reducible refine mn_ite ?_ ?_ | with_reducible refine mn_bn ?_ (fun _ => ?_) | with_reducible refine mn_sum (fun _ => ?_) (fun _ => ?_) _
abbrev m8_allow : MI := (yX8_allow, cX8_allow, 6, (some .boolean), 1, 22)
noncomputable def f8_allow (t : Option Nat) (a1 : Int32) (a2 : Int32) (a3 : Int32) (a4 : Int32) : Cm (Int32) :=
  bn (f8_in a1 0 7) fun v4 =>
  if v4 = 0 then
    rt (0)
  else
    bn (f8_in a2 0 9) fun v14 =>
    if v14 = 0 then
      rt (0)
    else
      bn (f8_in a3 0 9) fun v24 =>
      if v24 = 0 then
        rt (0)
      else
        bn (oGetR t 8 27) fun v46 =>
        bn (oLd 1 v46 ((((10 * a1) + a2) * 10) + a3)) fun v51 =>
        if v51 = a4 then
          rt (0)
        else
          bn (oGetR t 8 27) fun v60 =>
          bn (oStZ v60 ((((10 * a1) + a2) * 10) + a3) a4) fun _ =>
          rt (1)
theorem n8_allow (t : Option Nat) (a1 : Int32) (a2 : Int32) (a3 : Int32) (a4 : Int32) : Mn (f8_allow t a1 a2 a3 a4) := by
  unfold f8_allow
  repeat' first | with_reducible exact mn_rt | with_reducible exact mn_getI | with_reducible exact mn_getR | with_reducible exact mn_getL | with_reducible exact mn_putI | with_reducible exact mn_putR | with_reducible exact mn_putL | with_reducible exact mn_ld | with_reducible exact mn_ldR | with_reducible exact mn_st | with_reducible exact mn_stZ | with_reducible exact mn_stR | with_reducible exact mn_len | with_reducible exact mn_newO | with_reducible exact mn_newA | with_reducible exact mn_newR | with_reducible exact mn_clone | with_reducible exact mn_copy | with_reducible exact mn_obj | with_reducible exact mn_z | with_reducible exact n8_in _ _ _ | with_reducible exact hrec _ | with_reducible refine mn_ite ?_ ?_ | with_reducible refine mn_bn ?_ (fun _ => ?_) | with_reducible refine mn_sum (fun _ => ?_) (fun _ => ?_) _
abbrev m8_isLetter : MI := (yX8_isLetter, cX8_isLetter, 2, (some .boolean), 1, 22)
noncomputable def f8_isLetter (t : Option Nat) (a1 : Int32) : Cm (Int32) :=
  bn (oGetI t 8 1) fun v3 =>
  bn (f8_in a1 0 (v3 - 1)) fun v8 =>
  bn (oZ v8) fun _ =>
  rt (v8)
theorem n8_isLetter (t : Option Nat) (a1 : Int32) : Mn (f8_isLetter t a1) := by
  unfold f8_isLetter
  repeat' first | with_reducible exact mn_rt | with_reducible exact mn_getI | with_reducible exact mn_getR | with_reducible exact mn_getL | with_reducible exact mn_putI | with_reducible exact mn_putR | with_reducible exact mn_putL | with_reducible exact mn_ld | with_reducible exact mn_ldR | with_reducible exact mn_st | with_reducible exact mn_stZ | with_reducible exact mn_stR | with_reducible exact mn_len | with_reducible exact mn_newO | with_reducible exact mn_newA | with_reducible exact mn_newR | with_reducible exact mn_clone | with_reducible exact mn_copy | with_reducible exact mn_obj | with_reducible exact mn_z | with_reducible exact n8_in _ _ _ | with_reducible exact hrec _ | with_reducible refine mn_ite ?_ ?_ | with_reducible refine mn_bn ?_ (fun _ => ?_) | with_reducible refine mn_sum (fun _ => ?_) (fun _ => ?_) _
abbrev m8_answer : MI := (yX8_answer, cX8_answer, 3, (some .boolean), 2, 43)
noncomputable def f8_answer (t : Option Nat) (a1 : Int32) (a2 : Int32) : Cm (Int32) :=
  bn (oObj t 8) fun _ =>
  bn (f8_isLetter t a1) fun v2 =>
  if v2 = 0 then
    rt (0)
  else
    bn (oGetR t 8 36) fun v9 =>
    bn (oLd 0 v9 a1) fun v13 =>
    if v13 = 1 then
      bn (oGetR t 8 36) fun v21 =>
      if a2 = 0 then
        bn (oSt 0 v21 a1 2) fun _ =>
        rt (1)
      else
        bn (oSt 0 v21 a1 0) fun _ =>
        rt (1)
    else
      rt (0)
theorem n8_answer (t : Option Nat) (a1 : Int32) (a2 : Int32) : Mn (f8_answer t a1 a2) := by
  unfold f8_answer
  repeat' first | with_reducible exact mn_rt | with_reducible exact mn_getI | with_reducible exact mn_getR | with_reducible exact mn_getL | with_reducible exact mn_putI | with_reducible exact mn_putR | with_reducible exact mn_putL | with_reducible exact mn_ld | with_reducible exact mn_ldR | with_reducible exact mn_st | with_reducible exact mn_stZ | with_reducible exact mn_stR | with_reducible exact mn_len | with_reducible exact mn_newO | with_reducible exact mn_newA | with_reducible exact mn_newR | with_reducible exact mn_clone | with_reducible exact mn_copy | with_reducible exact mn_obj | with_reducible exact mn_z | with_reducible exact n8_isLetter _ _ | with_reducible exact hrec _ | with_reducible refine mn_ite ?_ ?_ | with_reducible refine mn_bn ?_ (fun _ => ?_) | with_reducible refine mn_sum (fun _ => ?_) (fun _ => ?_) _
abbrev m8_at : MI := (yX8_at, cX8_at, 6, (some .int), 2, 43)
noncomputable def l8_at_37 (t : Option Nat) (p1 : Int32) (p2 : Int32) (p3 : Int32) (rec : (Int32 × Int32) → Cm (Int32)) (x37 : Int32 × Int32) : Cm (Int32) :=
  if p3 = 0 then
    rt x37.1
  else
    bn (oGetR t 8 34) fun v42 =>
    bn (oLd 0 v42 p1) fun v46 =>
    if v46 = 2 then
      bn (oGetR t 8 37) fun v54 =>
      bn (oLd 0 v54 p1) fun v58 =>
      bn (oGetR t 8 38) fun v60 =>
      bn (oLd 0 v60 p1) fun v64 =>
      if (v58 + v64) ≤ x37.2 then
        rt x37.1
      else
        if x37.1 = 0 then
          bn (oGetR t 8 39) fun v76 =>
          bn (oLd 0 v76 x37.2) fun v81 =>
          if p2 < v81 then
            rec (0, (x37.2 + 1))
          else
            bn (oGetR t 8 40) fun v87 =>
            bn (oLd 0 v87 x37.2) fun v92 =>
            if v92 < p2 then
              rec (0, (x37.2 + 1))
            else
              rec (1, (x37.2 + 1))
        else
          rec (1, (x37.2 + 1))
    else
      rt x37.1
noncomputable def f8_at (t : Option Nat) (a1 : Int32) (a2 : Int32) (a3 : Int32) : Cm (Int32) :=
  bn (oObj t 8) fun _ =>
  bn (f8_isLetter t a1) fun v2 =>
  if v2 = 0 then
    rt ((-1))
  else
    bn (oGetR t 8 29) fun v11 =>
    bn (oLd 0 v11 a1) fun v15 =>
    bn (f8_in a2 0 (v15 - 1)) fun v18 =>
    if v18 = 0 then
      rt ((-1))
    else
      bn (oGetR t 8 37) fun v30 =>
      bn (oLd 0 v30 a1) fun v34 =>
      bn (fx (l8_at_37 t a1 a2 a3) FUEL (0, v34)) (fun y109 =>
        if y109 = 0 then
          bn (oGetR t 8 28) fun v120 =>
          bn (oLd 0 v120 ((300 * a1) + a2)) fun v130 =>
          rt (v130)
        else
          rt (42)
      )
theorem k8_at_37 (t : Option Nat) (p1 : Int32) (p2 : Int32) (p3 : Int32) (n : Nat) (x : Int32 × Int32) : Mn (fx (l8_at_37 t p1 p2 p3) n x) := by
  refine mn_fx (fun rec hrec x => ?_) n x
  unfold l8_at_37
  repeat' first | with_reducible exact mn_rt | with_reducible exact mn_getI | with_reducible exact mn_getR | with_reducible exact mn_getL | with_reducible exact mn_putI | with_reducible exact mn_putR | with_reducible exact mn_putL | with_reducible exact mn_ld | with_reducible exact mn_ldR | with_reducible exact mn_st | with_reducible exact mn_stZ | with_reducible exact mn_stR | with_reducible exact mn_len | with_reducible exact mn_newO | with_reducible exact mn_newA | with_reducible exact mn_newR | with_reducible exact mn_clone | with_reducible exact mn_copy | with_reducible exact mn_obj | with_reducible exact mn_z | with_reducible exact n8_in _ _ _ | with_reducible exact n8_isLetter _ _ | with_reducible exact hrec _ | with_reducible refine mn_ite ?_ ?_ | with_reducible refine mn_bn ?_ (fun _ => ?_) | with_reducible refine mn_sum (fun _ => ?_) (fun _ => ?_) _
theorem n8_at (t : Option Nat) (a1 : Int32) (a2 : Int32) (a3 : Int32) : Mn (f8_at t a1 a2 a3) := by
  unfold f8_at
  repeat' first | with_reducible exact mn_rt | with_reducible exact mn_getI | with_reducible exact mn_getR | with_reducible exact mn_getL | with_reducible exact mn_putI | with_reducible exact mn_putR | with_reducible exact mn_putL | with_reducible exact mn_ld | with_reducible exact mn_ldR | with_reducible exact mn_st | with_reducible exact mn_stZ | with_reducible exact mn_stR | with_reducible exact mn_len | with_reducible exact mn_newO | with_reducible exact mn_newA | with_reducible exact mn_newR | with_reducible exact mn_clone | with_reducible exact mn_copy | with_reducible exact mn_obj | with_reducible exact mn_z | with_reducible exact n8_in _ _ _ | with_reducible exact n8_isLetter _ _ | with_reducible exact hrec _ | with_reducible exact k8_at_37 _ _ _ _ _ _ | with_reducible refine mn_ite ?_ ?_ | with_reducible refine mn_bn ?_ (fun _ => ?_) | with_reducible refine mn_sum (fun _ => ?_) (fun _ => ?_) _
abbrev m8_count : MI := (yX8_count, cX8_count, 3, (some .boolean), 1, 22)
noncomputable def f8_count (t : Option Nat) (a1 : Int32) (a2 : Int32) : Cm (Int32) :=
  bn (f8_in a1 0 7) fun v4 =>
  if v4 = 0 then
    rt (0)
  else
    bn (f8_in a2 1 20) fun v14 =>
    if v14 = 0 then
      rt (0)
    else
      bn (oGetR t 8 20) fun v23 =>
      bn (oSt 0 v23 a1 3) fun _ =>
      bn (oGetR t 8 25) fun v30 =>
      bn (oSt 0 v30 a1 a2) fun _ =>
      rt (1)
theorem n8_count (t : Option Nat) (a1 : Int32) (a2 : Int32) : Mn (f8_count t a1 a2) := by
  unfold f8_count
  repeat' first | with_reducible exact mn_rt | with_reducible exact mn_getI | with_reducible exact mn_getR | with_reducible exact mn_getL | with_reducible exact mn_putI | with_reducible exact mn_putR | with_reducible exact mn_putL | with_reducible exact mn_ld | with_reducible exact mn_ldR | with_reducible exact mn_st | with_reducible exact mn_stZ | with_reducible exact mn_stR | with_reducible exact mn_len | with_reducible exact mn_newO | with_reducible exact mn_newA | with_reducible exact mn_newR | with_reducible exact mn_clone | with_reducible exact mn_copy | with_reducible exact mn_obj | with_reducible exact mn_z | with_reducible exact n8_in _ _ _ | with_reducible exact hrec _ | with_reducible refine mn_ite ?_ ?_ | with_reducible refine mn_bn ?_ (fun _ => ?_) | with_reducible refine mn_sum (fun _ => ?_) (fun _ => ?_) _
abbrev m8_days : MI := (yX8_days, cX8_days, 2, (some .int), 1, 22)
noncomputable def f8_days (t : Option Nat) (a1 : Int32) : Cm (Int32) :=
  bn (f8_in a1 0 100) fun v4 =>
  if v4 = 0 then
    rt ((-1))
  else
    bn (oGetI t 8 0) fun v11 =>
    if (v11 + a1) ≤ 1000 then
      bn (oGetI t 8 0) fun v26 =>
      bn (oPutI t 8 0 (v26 + a1)) fun _ =>
      bn (oGetI t 8 0) fun v35 =>
      rt (v35)
    else
      rt ((-1))
theorem n8_days (t : Option Nat) (a1 : Int32) : Mn (f8_days t a1) := by
  unfold f8_days
  repeat' first | with_reducible exact mn_rt | with_reducible exact mn_getI | with_reducible exact mn_getR | with_reducible exact mn_getL | with_reducible exact mn_putI | with_reducible exact mn_putR | with_reducible exact mn_putL | with_reducible exact mn_ld | with_reducible exact mn_ldR | with_reducible exact mn_st | with_reducible exact mn_stZ | with_reducible exact mn_stR | with_reducible exact mn_len | with_reducible exact mn_newO | with_reducible exact mn_newA | with_reducible exact mn_newR | with_reducible exact mn_clone | with_reducible exact mn_copy | with_reducible exact mn_obj | with_reducible exact mn_z | with_reducible exact n8_in _ _ _ | with_reducible exact hrec _ | with_reducible refine mn_ite ?_ ?_ | with_reducible refine mn_bn ?_ (fun _ => ?_) | with_reducible refine mn_sum (fun _ => ?_) (fun _ => ?_) _
abbrev m8_remove : MI := (yX8_remove, cX8_remove, 3, none, 0, 0)
noncomputable def l8_remove_12 (t : Option Nat) (rec : Int32 → Cm (Unit)) (x12 : Int32) : Cm (Unit) :=
  bn (oGetI t 8 2) fun v14 =>
  if v14 ≤ x12 then
    rt ()
  else
    bn (oGetR t 8 43) fun v21 =>
    bn (oGetR t 8 43) fun v26 =>
    bn (oLd 0 v26 (x12 + 1)) fun v32 =>
    bn (oSt 0 v21 x12 v32) fun _ =>
    bn (oGetR t 8 44) fun v35 =>
    bn (oGetR t 8 44) fun v40 =>
    bn (oLd 0 v40 (x12 + 1)) fun v46 =>
    bn (oSt 0 v35 x12 v46) fun _ =>
    bn (oGetR t 8 45) fun v49 =>
    bn (oGetR t 8 45) fun v54 =>
    bn (oLd 0 v54 (x12 + 1)) fun v60 =>
    bn (oSt 0 v49 x12 v60) fun _ =>
    bn (oGetR t 8 46) fun v63 =>
    bn (oGetR t 8 46) fun v68 =>
    bn (oLd 0 v68 (x12 + 1)) fun v74 =>
    bn (oSt 0 v63 x12 v74) fun _ =>
    rec (x12 + 1)
noncomputable def f8_remove (t : Option Nat) (a1 : Int32) : Cm (Unit) :=
  bn (oGetI t 8 2) fun v2 =>
  bn (oPutI t 8 2 (v2 - 1)) fun _ =>
  bn (fx (l8_remove_12 t) FUEL a1) (fun y82 =>
    rt (())
  )
theorem k8_remove_12 (t : Option Nat) (n : Nat) (x : Int32) : Mn (fx (l8_remove_12 t) n x) := by
  refine mn_fx (fun rec hrec x => ?_) n x
  unfold l8_remove_12
  repeat' first | with_reducible exact mn_rt | with_reducible exact mn_getI | with_reducible exact mn_getR | with_reducible exact mn_getL | with_reducible exact mn_putI | with_reducible exact mn_putR | with_reducible exact mn_putL | with_reducible exact mn_ld | with_reducible exact mn_ldR | with_reducible exact mn_st | with_reducible exact mn_stZ | with_reducible exact mn_stR | with_reducible exact mn_len | with_reducible exact mn_newO | with_reducible exact mn_newA | with_reducible exact mn_newR | with_reducible exact mn_clone | with_reducible exact mn_copy | with_reducible exact mn_obj | with_reducible exact mn_z | with_reducible exact hrec _ | with_reducible refine mn_ite ?_ ?_ | with_reducible refine mn_bn ?_ (fun _ => ?_) | with_reducible refine mn_sum (fun _ => ?_) (fun _ => ?_) _
theorem n8_remove (t : Option Nat) (a1 : Int32) : Mn (f8_remove t a1) := by
  unfold f8_remove
  repeat' first | with_reducible exact mn_rt | with_reducible exact mn_getI | with_reducible exact mn_getR | with_reducible exact mn_getL | with_reducible exact mn_putI | with_reducible exact mn_putR | with_reducible exact mn_putL | with_reducible exact mn_ld | with_reducible exact mn_ldR | with_reducible exact mn_st | with_reducible exact mn_stZ | with_reducible exact mn_stR | with_reducible exact mn_len | with_reducible exact mn_newO | with_reducible exact mn_newA | with_reducible exact mn_newR | with_reducible exact mn_clone | with_reducible exact mn_copy | with_reducible exact mn_obj | with_reducible exact mn_z | with_reducible exact hrec _ | with_reducible exact k8_remove_12 _ _ _ | with_reducible refine mn_ite ?_ ?_ | with_reducible refine mn_bn ?_ (fun _ => ?_) | with_reducible refine mn_sum (fun _ => ?_) (fun _ => ?_) _
abbrev m8_drop : MI := (yX8_drop, cX8_drop, 2, (some .boolean), 1, 22)
noncomputable def f8_drop (t : Option Nat) (a1 : Int32) : Cm (Int32) :=
  bn (oGetI t 8 2) fun v3 =>
  bn (f8_in a1 0 (v3 - 1)) fun v8 =>
  if v8 = 0 then
    rt (0)
  else
    bn (oObj t 8) fun _ =>
    bn (f8_remove t a1) fun _ =>
    rt (1)
theorem n8_drop (t : Option Nat) (a1 : Int32) : Mn (f8_drop t a1) := by
  unfold f8_drop
  repeat' first | with_reducible exact mn_rt | with_reducible exact mn_getI | with_reducible exact mn_getR | with_reducible exact mn_getL | with_reducible exact mn_putI | with_reducible exact mn_putR | with_reducible exact mn_putL | with_reducible exact mn_ld | with_reducible exact mn_ldR | with_reducible exact mn_st | with_reducible exact mn_stZ | with_reducible exact mn_stR | with_reducible exact mn_len | with_reducible exact mn_newO | with_reducible exact mn_newA | with_reducible exact mn_newR | with_reducible exact mn_clone | with_reducible exact mn_copy | with_reducible exact mn_obj | with_reducible exact mn_z | with_reducible exact n8_in _ _ _ | with_reducible exact n8_remove _ _ | with_reducible exact hrec _ | with_reducible refine mn_ite ?_ ?_ | with_reducible refine mn_bn ?_ (fun _ => ?_) | with_reducible refine mn_sum (fun _ => ?_) (fun _ => ?_) _
abbrev m8_end : MI := (yX8_end, cX8_end, 2, (some .boolean), 0, 0)
noncomputable def f8_end (t : Option Nat) (a1 : Int32) : Cm (Int32) :=
  if a1 < 0 then
    rt (0)
  else
    bn (oGetI t 8 4) fun v6 =>
    if a1 ≤ v6 then
      bn (oPutI t 8 4 a1) fun _ =>
      rt (1)
    else
      rt (0)
theorem n8_end (t : Option Nat) (a1 : Int32) : Mn (f8_end t a1) := by
  unfold f8_end
  repeat' first | with_reducible exact mn_rt | with_reducible exact mn_getI | with_reducible exact mn_getR | with_reducible exact mn_getL | with_reducible exact mn_putI | with_reducible exact mn_putR | with_reducible exact mn_putL | with_reducible exact mn_ld | with_reducible exact mn_ldR | with_reducible exact mn_st | with_reducible exact mn_stZ | with_reducible exact mn_stR | with_reducible exact mn_len | with_reducible exact mn_newO | with_reducible exact mn_newA | with_reducible exact mn_newR | with_reducible exact mn_clone | with_reducible exact mn_copy | with_reducible exact mn_obj | with_reducible exact mn_z | with_reducible exact hrec _ | with_reducible refine mn_ite ?_ ?_ | with_reducible refine mn_bn ?_ (fun _ => ?_) | with_reducible refine mn_sum (fun _ => ?_) (fun _ => ?_) _
abbrev m8_byteOf : MI := (yX8_byteOf, cX8_byteOf, 7, (some .int), 0, 0)
noncomputable def f8_byteOf (a1 : Int32) (a2 : Int32) (a3 : Int32) (a4 : Int32) (a5 : Int32) (a6 : Int32) : Cm (Int32) :=
  bn (α := Int32) (
    if 4 ≤ a6 then
      if 8 ≤ a6 then
        if 12 ≤ a6 then
          if 16 ≤ a6 then
            rt a5
          else
            rt a4
        else
          rt a3
      else
        rt a2
    else
      rt a1
  ) (fun y45 =>
    rt (((jshr y45 (24 - (8 * (jrem a6 4)))) &&& 255))
  )
theorem n8_byteOf (a1 : Int32) (a2 : Int32) (a3 : Int32) (a4 : Int32) (a5 : Int32) (a6 : Int32) : Mn (f8_byteOf a1 a2 a3 a4 a5 a6) := by
  unfold f8_byteOf
  repeat' first | with_reducible exact mn_rt | with_reducible exact mn_getI | with_reducible exact mn_getR | with_reducible exact mn_getL | with_reducible exact mn_putI | with_reducible exact mn_putR | with_reducible exact mn_putL | with_reducible exact mn_ld | with_reducible exact mn_ldR | with_reducible exact mn_st | with_reducible exact mn_stZ | with_reducible exact mn_stR | with_reducible exact mn_len | with_reducible exact mn_newO | with_reducible exact mn_newA | with_reducible exact mn_newR | with_reducible exact mn_clone | with_reducible exact mn_copy | with_reducible exact mn_obj | with_reducible exact mn_z | with_reducible exact hrec _ | with_reducible refine mn_ite ?_ ?_ | with_reducible refine mn_bn ?_ (fun _ => ?_) | with_reducible refine mn_sum (fun _ => ?_) (fun _ => ?_) _
abbrev m8_feed : MI := (yX8_feed, cX8_feed, 9, (some .int), 1, 26)
noncomputable def l8_feed_6 (t : Option Nat) (p1 : Int32) (p2 : Int32) (p3 : Int32) (p4 : Int32) (p5 : Int32) (rec : (Int32 × Int32) → Cm (Int32)) (x6 : Int32 × Int32) : Cm (Int32) :=
  if 20 ≤ x6.2 then
    rt x6.1
  else
    bn (f8_byteOf p1 p2 p3 p4 p5 x6.2) fun v24 =>
    if v24 = 0 then
      rec ((x6.1 + 0), (x6.2 + 1))
    else
      rec ((x6.1 + 1), (x6.2 + 1))
noncomputable def l8_feed_62 (t : Option Nat) (p1 : Int32) (p2 : Int32) (p3 : Int32) (p4 : Int32) (p5 : Int32) (rec : Int32 → Cm (Unit)) (x62 : Int32) : Cm (Unit) :=
  if 20 ≤ x62 then
    rt ()
  else
    bn (f8_byteOf p1 p2 p3 p4 p5 x62) fun v78 =>
    if v78 = 0 then
      rec (x62 + 1)
    else
      bn (oGetR t 8 3) fun v89 =>
      bn (oGetI t 8 4) fun v93 =>
      bn (oSt 0 v89 v93 v78) fun _ =>
      bn (oGetI t 8 4) fun v101 =>
      bn (oPutI t 8 4 (v101 + 1)) fun _ =>
      rec (x62 + 1)
noncomputable def f8_feed (t : Option Nat) (a1 : Int32) (a2 : Int32) (a3 : Int32) (a4 : Int32) (a5 : Int32) : Cm (Int32) :=
  bn (fx (l8_feed_6 t a1 a2 a3 a4 a5) FUEL (0, 0)) (fun y44 =>
    bn (oGetI t 8 4) fun v45 =>
    if (v45 + y44) ≤ 300 then
      bn (fx (l8_feed_62 t a1 a2 a3 a4 a5) FUEL 0) (fun y115 =>
        bn (oGetI t 8 4) fun v116 =>
        rt (v116)
      )
    else
      rt ((-1))
  )
theorem k8_feed_6 (t : Option Nat) (p1 : Int32) (p2 : Int32) (p3 : Int32) (p4 : Int32) (p5 : Int32) (n : Nat) (x : Int32 × Int32) : Mn (fx (l8_feed_6 t p1 p2 p3 p4 p5) n x) := by
  refine mn_fx (fun rec hrec x => ?_) n x
  unfold l8_feed_6
  repeat' first | with_reducible exact mn_rt | with_reducible exact mn_getI | with_reducible exact mn_getR | with_reducible exact mn_getL | with_reducible exact mn_putI | with_reducible exact mn_putR | with_reducible exact mn_putL | with_reducible exact mn_ld | with_reducible exact mn_ldR | with_reducible exact mn_st | with_reducible exact mn_stZ | with_reducible exact mn_stR | with_reducible exact mn_len | with_reducible exact mn_newO | with_reducible exact mn_newA | with_reducible exact mn_newR | with_reducible exact mn_clone | with_reducible exact mn_copy | with_reducible exact mn_obj | with_reducible exact mn_z | with_reducible exact n8_byteOf _ _ _ _ _ _ | with_reducible exact hrec _ | with_reducible refine mn_ite ?_ ?_ | with_reducible refine mn_bn ?_ (fun _ => ?_) | with_reducible refine mn_sum (fun _ => ?_) (fun _ => ?_) _
theorem k8_feed_62 (t : Option Nat) (p1 : Int32) (p2 : Int32) (p3 : Int32) (p4 : Int32) (p5 : Int32) (n : Nat) (x : Int32) : Mn (fx (l8_feed_62 t p1 p2 p3 p4 p5) n x) := by
  refine mn_fx (fun rec hrec x => ?_) n x
  unfold l8_feed_62
  repeat' first | with_reducible exact mn_rt | with_reducible exact mn_getI | with_reducible exact mn_getR | with_reducible exact mn_getL | with_reducible exact mn_putI | with_reducible exact mn_putR | with_reducible exact mn_putL | with_reducible exact mn_ld | with_reducible exact mn_ldR | with_reducible exact mn_st | with_reducible exact mn_stZ | with_reducible exact mn_stR | with_reducible exact mn_len | with_reducible exact mn_newO | with_reducible exact mn_newA | with_reducible exact mn_newR | with_reducible exact mn_clone | with_reducible exact mn_copy | with_reducible exact mn_obj | with_reducible exact mn_z | with_reducible exact n8_byteOf _ _ _ _ _ _ | with_reducible exact hrec _ | with_reducible exact k8_feed_6 _ _ _ _ _ _ _ _ | with_reducible refine mn_ite ?_ ?_ | with_reducible refine mn_bn ?_ (fun _ => ?_) | with_reducible refine mn_sum (fun _ => ?_) (fun _ => ?_) _
theorem n8_feed (t : Option Nat) (a1 : Int32) (a2 : Int32) (a3 : Int32) (a4 : Int32) (a5 : Int32) : Mn (f8_feed t a1 a2 a3 a4 a5) := by
  unfold f8_feed
  repeat' first | with_reducible exact mn_rt | with_reducible exact mn_getI | with_reducible exact mn_getR | with_reducible exact mn_getL | with_reducible exact mn_putI | with_reducible exact mn_putR | with_reducible exact mn_putL | with_reducible exact mn_ld | with_reducible exact mn_ldR | with_reducible exact mn_st | with_reducible exact mn_stZ | with_reducible exact mn_stR | with_reducible exact mn_len | with_reducible exact mn_newO | with_reducible exact mn_newA | with_reducible exact mn_newR | with_reducible exact mn_clone | with_reducible exact mn_copy | with_reducible exact mn_obj | with_reducible exact mn_z | with_reducible exact n8_byteOf _ _ _ _ _ _ | with_reducible exact hrec _ | with_reducible exact k8_feed_6 _ _ _ _ _ _ _ _ | with_reducible exact k8_feed_62 _ _ _ _ _ _ _ _ | with_reducible refine mn_ite ?_ ?_ | with_reducible refine mn_bn ?_ (fun _ => ?_) | with_reducible refine mn_sum (fun _ => ?_) (fun _ => ?_) _
abbrev m8_found_ : MI := (yX8_found_, cX8_found_, 5, (some .int), 2, 43)
noncomputable def f8_found_ (t : Option Nat) (a1 : Int32) (a2 : Int32) (a3 : Int32) : Cm (Int32) :=
  bn (oObj t 8) fun _ =>
  bn (f8_isLetter t a1) fun v2 =>
  if v2 = 0 then
    rt ((-1))
  else
    bn (oGetR t 8 38) fun v11 =>
    bn (oLd 0 v11 a1) fun v15 =>
    bn (f8_in a2 0 (v15 - 1)) fun v18 =>
    if v18 = 0 then
      rt ((-1))
    else
      bn (oGetR t 8 37) fun v27 =>
      bn (oLd 0 v27 a1) fun v31 =>
      if a3 = 0 then
        bn (oGetR t 8 39) fun v41 =>
        bn (oLd 0 v41 (v31 + a2)) fun v46 =>
        rt (v46)
      else
        if a3 = 1 then
          bn (oGetR t 8 40) fun v56 =>
          bn (oLd 0 v56 (v31 + a2)) fun v61 =>
          rt (v61)
        else
          if a3 = 2 then
            bn (oGetR t 8 41) fun v71 =>
            bn (oLd 0 v71 (v31 + a2)) fun v76 =>
            rt (v76)
          else
            rt ((-1))
theorem n8_found_ (t : Option Nat) (a1 : Int32) (a2 : Int32) (a3 : Int32) : Mn (f8_found_ t a1 a2 a3) := by
  unfold f8_found_
  repeat' first | with_reducible exact mn_rt | with_reducible exact mn_getI | with_reducible exact mn_getR | with_reducible exact mn_getL | with_reducible exact mn_putI | with_reducible exact mn_putR | with_reducible exact mn_putL | with_reducible exact mn_ld | with_reducible exact mn_ldR | with_reducible exact mn_st | with_reducible exact mn_stZ | with_reducible exact mn_stR | with_reducible exact mn_len | with_reducible exact mn_newO | with_reducible exact mn_newA | with_reducible exact mn_newR | with_reducible exact mn_clone | with_reducible exact mn_copy | with_reducible exact mn_obj | with_reducible exact mn_z | with_reducible exact n8_in _ _ _ | with_reducible exact n8_isLetter _ _ | with_reducible exact hrec _ | with_reducible refine mn_ite ?_ ?_ | with_reducible refine mn_bn ?_ (fun _ => ?_) | with_reducible refine mn_sum (fun _ => ?_) (fun _ => ?_) _
abbrev m8_isDigit : MI := (yX8_isDigit, cX8_isDigit, 1, (some .boolean), 0, 0)
noncomputable def f8_isDigit (a1 : Int32) : Cm (Int32) :=
  if a1 < 48 then
    rt (0)
  else
    if 57 < a1 then
      rt (0)
    else
      rt (1)
theorem n8_isDigit (a1 : Int32) : Mn (f8_isDigit a1) := by
  unfold f8_isDigit
  repeat' first | with_reducible exact mn_rt | with_reducible exact mn_getI | with_reducible exact mn_getR | with_reducible exact mn_getL | with_reducible exact mn_putI | with_reducible exact mn_putR | with_reducible exact mn_putL | with_reducible exact mn_ld | with_reducible exact mn_ldR | with_reducible exact mn_st | with_reducible exact mn_stZ | with_reducible exact mn_stR | with_reducible exact mn_len | with_reducible exact mn_newO | with_reducible exact mn_newA | with_reducible exact mn_newR | with_reducible exact mn_clone | with_reducible exact mn_copy | with_reducible exact mn_obj | with_reducible exact mn_z | with_reducible exact hrec _ | with_reducible refine mn_ite ?_ ?_ | with_reducible refine mn_bn ?_ (fun _ => ?_) | with_reducible refine mn_sum (fun _ => ?_) (fun _ => ?_) _
abbrev m8_small : MI := (yX8_small, cX8_small, 1, (some .int), 0, 0)
noncomputable def f8_small (a1 : Int32) : Cm (Int32) :=
  if a1 < 65 then
    rt (a1)
  else
    if 90 < a1 then
      rt (a1)
    else
      rt (((a1 - 65) + 97))
theorem n8_small (a1 : Int32) : Mn (f8_small a1) := by
  unfold f8_small
  repeat' first | with_reducible exact mn_rt | with_reducible exact mn_getI | with_reducible exact mn_getR | with_reducible exact mn_getL | with_reducible exact mn_putI | with_reducible exact mn_putR | with_reducible exact mn_putL | with_reducible exact mn_ld | with_reducible exact mn_ldR | with_reducible exact mn_st | with_reducible exact mn_stZ | with_reducible exact mn_stR | with_reducible exact mn_len | with_reducible exact mn_newO | with_reducible exact mn_newA | with_reducible exact mn_newR | with_reducible exact mn_clone | with_reducible exact mn_copy | with_reducible exact mn_obj | with_reducible exact mn_z | with_reducible exact hrec _ | with_reducible refine mn_ite ?_ ?_ | with_reducible refine mn_bn ?_ (fun _ => ?_) | with_reducible refine mn_sum (fun _ => ?_) (fun _ => ?_) _
abbrev m8_isSign : MI := (yX8_isSign, cX8_isSign, 2, (some .boolean), 1, 20)
noncomputable def f8_isSign (a1 : Int32) : Cm (Int32) :=
  bn (f8_small a1) fun v1 =>
  bn (α := (Int32) ⊕ (Unit)) (
    if v1 < 97 then
      rt (.inr ())
    else
      if v1 ≤ 122 then
        rt (.inl (1))
      else
        rt (.inr ())
  ) (Sum.elim (fun r => rt r) fun y17 =>
    bn (f8_isDigit a1) fun v18 =>
    if v18 = 0 then
      rt (0)
    else
      rt (1)
  )
theorem n8_isSign (a1 : Int32) : Mn (f8_isSign a1) := by
  unfold f8_isSign
  repeat' first | with_reducible exact mn_rt | with_reducible exact mn_getI | with_reducible exact mn_getR | with_reducible exact mn_getL | with_reducible exact mn_putI | with_reducible exact mn_putR | with_reducible exact mn_putL | with_reducible exact mn_ld | with_reducible exact mn_ldR | with_reducible exact mn_st | with_reducible exact mn_stZ | with_reducible exact mn_stR | with_reducible exact mn_len | with_reducible exact mn_newO | with_reducible exact mn_newA | with_reducible exact mn_newR | with_reducible exact mn_clone | with_reducible exact mn_copy | with_reducible exact mn_obj | with_reducible exact mn_z | with_reducible exact n8_isDigit _ | with_reducible exact n8_small _ | with_reducible exact hrec _ | with_reducible refine mn_ite ?_ ?_ | with_reducible refine mn_bn ?_ (fun _ => ?_) | with_reducible refine mn_sum (fun _ => ?_) (fun _ => ?_) _
abbrev m8_hex : MI := (yX8_hex, cX8_hex, 1, (some .int), 0, 0)
noncomputable def f8_hex (a1 : Int32) : Cm (Int32) :=
  bn (α := (Int32) ⊕ (Unit)) (
    if a1 < 48 then
      rt (.inr ())
    else
      if 57 < a1 then
        rt (.inr ())
      else
        rt (.inl ((a1 - 48)))
  ) (Sum.elim (fun r => rt r) fun y17 =>
    bn (α := (Int32) ⊕ (Unit)) (
      if a1 < 97 then
        rt (.inr ())
      else
        if 102 < a1 then
          rt (.inr ())
        else
          rt (.inl (((a1 - 97) + 10)))
    ) (Sum.elim (fun r => rt r) fun y37 =>
      if a1 < 65 then
        rt ((-1))
      else
        if 70 < a1 then
          rt ((-1))
        else
          rt (((a1 - 65) + 10))
    )
  )
theorem n8_hex (a1 : Int32) : Mn (f8_hex a1) := by
  unfold f8_hex
  repeat' first | with_reducible exact mn_rt | with_reducible exact mn_getI | with_reducible exact mn_getR | with_reducible exact mn_getL | with_reducible exact mn_putI | with_reducible exact mn_putR | with_reducible exact mn_putL | with_reducible exact mn_ld | with_reducible exact mn_ldR | with_reducible exact mn_st | with_reducible exact mn_stZ | with_reducible exact mn_stR | with_reducible exact mn_len | with_reducible exact mn_newO | with_reducible exact mn_newA | with_reducible exact mn_newR | with_reducible exact mn_clone | with_reducible exact mn_copy | with_reducible exact mn_obj | with_reducible exact mn_z | with_reducible exact hrec _ | with_reducible refine mn_ite ?_ ?_ | with_reducible refine mn_bn ?_ (fun _ => ?_) | with_reducible refine mn_sum (fun _ => ?_) (fun _ => ?_) _
abbrev m8_pass : MI := (yX8_pass, cX8_pass, 7, none, 1, 20)
noncomputable def l8_pass_4 (t : Option Nat) (rec : (Int32 × Int32) → Cm (Int32)) (x4 : Int32 × Int32) : Cm (Int32) :=
  bn (oGetI t 8 8) fun v6 =>
  if v6 ≤ x4.2 then
    rt x4.1
  else
    bn (oGetR t 8 5) fun v13 =>
    bn (oLd 0 v13 x4.2) fun v17 =>
    bn (α := Int32) (
      if v17 = 37 then
        bn (oGetI t 8 8) fun v27 =>
        if v27 ≤ (x4.2 + 2) then
          rt 0
        else
          bn (oGetR t 8 5) fun v34 =>
          bn (oLd 0 v34 (x4.2 + 1)) fun v40 =>
          bn (f8_hex v40) fun v41 =>
          if v41 = (-1) then
            rt 0
          else
            bn (oGetR t 8 5) fun v49 =>
            bn (oLd 0 v49 (x4.2 + 2)) fun v55 =>
            bn (f8_hex v55) fun v56 =>
            if v56 = (-1) then
              rt 0
            else
              rt 1
      else
        rt 0
    ) (fun y68 =>
      bn (α := Int32) (
        if y68 = 0 then
          bn (oGetR t 8 5) fun v103 =>
          bn (oLd 0 v103 x4.2) fun v107 =>
          rt v107
        else
          bn (oGetR t 8 5) fun v76 =>
          bn (oLd 0 v76 (x4.2 + 1)) fun v82 =>
          bn (f8_hex v82) fun v83 =>
          bn (oGetR t 8 5) fun v88 =>
          bn (oLd 0 v88 (x4.2 + 2)) fun v94 =>
          bn (f8_hex v94) fun v95 =>
          rt ((16 * v83) + v95)
      ) (fun y108 =>
        bn (oGetR t 8 6) fun v111 =>
        bn (oLd 0 v111 x4.2) fun v115 =>
        bn (α := Int32) (
          if y68 = 0 then
            bn (oGetR t 8 7) fun v134 =>
            bn (oLd 0 v134 x4.2) fun v138 =>
            rt v138
          else
            bn (oGetR t 8 7) fun v123 =>
            bn (oLd 0 v123 (x4.2 + 2)) fun v129 =>
            rt v129
        ) (fun y139 =>
          bn (oGetR t 8 5) fun v142 =>
          bn (oSt 0 v142 x4.1 y108) fun _ =>
          bn (oGetR t 8 6) fun v150 =>
          bn (oSt 0 v150 x4.1 v115) fun _ =>
          bn (oGetR t 8 7) fun v158 =>
          bn (oSt 0 v158 x4.1 y139) fun _ =>
          if y68 = 0 then
            rec ((x4.1 + 1), (x4.2 + 1))
          else
            rec ((x4.1 + 1), (x4.2 + 3))
        )
      )
    )
noncomputable def f8_pass (t : Option Nat) : Cm (Unit) :=
  bn (fx (l8_pass_4 t) FUEL (0, 0)) (fun y183 =>
    bn (oPutI t 8 8 y183) fun _ =>
    rt (())
  )
theorem k8_pass_4 (t : Option Nat) (n : Nat) (x : Int32 × Int32) : Mn (fx (l8_pass_4 t) n x) := by
  refine mn_fx (fun rec hrec x => ?_) n x
  unfold l8_pass_4
  repeat' first | with_reducible exact mn_rt | with_reducible exact mn_getI | with_reducible exact mn_getR | with_reducible exact mn_getL | with_reducible exact mn_putI | with_reducible exact mn_putR | with_reducible exact mn_putL | with_reducible exact mn_ld | with_reducible exact mn_ldR | with_reducible exact mn_st | with_reducible exact mn_stZ | with_reducible exact mn_stR | with_reducible exact mn_len | with_reducible exact mn_newO | with_reducible exact mn_newA | with_reducible exact mn_newR | with_reducible exact mn_clone | with_reducible exact mn_copy | with_reducible exact mn_obj | with_reducible exact mn_z | with_reducible exact n8_hex _ | with_reducible exact hrec _ | with_reducible refine mn_ite ?_ ?_ | with_reducible refine mn_bn ?_ (fun _ => ?_) | with_reducible refine mn_sum (fun _ => ?_) (fun _ => ?_) _
theorem n8_pass (t : Option Nat) : Mn (f8_pass t) := by
  unfold f8_pass
  repeat' first | with_reducible exact mn_rt | with_reducible exact mn_getI | with_reducible exact mn_getR | with_reducible exact mn_getL | with_reducible exact mn_putI | with_reducible exact mn_putR | with_reducible exact mn_putL | with_reducible exact mn_ld | with_reducible exact mn_ldR | with_reducible exact mn_st | with_reducible exact mn_stZ | with_reducible exact mn_stR | with_reducible exact mn_len | with_reducible exact mn_newO | with_reducible exact mn_newA | with_reducible exact mn_newR | with_reducible exact mn_clone | with_reducible exact mn_copy | with_reducible exact mn_obj | with_reducible exact mn_z | with_reducible exact n8_hex _ | with_reducible exact hrec _ | with_reducible exact k8_pass_4 _ _ _ | with_reducible refine mn_ite ?_ ?_ | with_reducible refine mn_bn ?_ (fun _ => ?_) | with_reducible refine mn_sum (fun _ => ?_) (fun _ => ?_) _
abbrev m8_isDigitAt : MI := (yX8_isDigitAt, cX8_isDigitAt, 2, (some .boolean), 1, 20)
noncomputable def f8_isDigitAt (t : Option Nat) (a1 : Int32) : Cm (Int32) :=
  bn (oGetI t 8 8) fun v2 =>
  if v2 ≤ a1 then
    rt (0)
  else
    bn (oGetR t 8 5) fun v9 =>
    bn (oLd 0 v9 a1) fun v13 =>
    bn (f8_isDigit v13) fun v14 =>
    if v14 = 0 then
      rt (0)
    else
      rt (1)
theorem n8_isDigitAt (t : Option Nat) (a1 : Int32) : Mn (f8_isDigitAt t a1) := by
  unfold f8_isDigitAt
  repeat' first | with_reducible exact mn_rt | with_reducible exact mn_getI | with_reducible exact mn_getR | with_reducible exact mn_getL | with_reducible exact mn_putI | with_reducible exact mn_putR | with_reducible exact mn_putL | with_reducible exact mn_ld | with_reducible exact mn_ldR | with_reducible exact mn_st | with_reducible exact mn_stZ | with_reducible exact mn_stR | with_reducible exact mn_len | with_reducible exact mn_newO | with_reducible exact mn_newA | with_reducible exact mn_newR | with_reducible exact mn_clone | with_reducible exact mn_copy | with_reducible exact mn_obj | with_reducible exact mn_z | with_reducible exact n8_isDigit _ | with_reducible exact hrec _ | with_reducible refine mn_ite ?_ ?_ | with_reducible refine mn_bn ?_ (fun _ => ?_) | with_reducible refine mn_sum (fun _ => ?_) (fun _ => ?_) _
abbrev m8_isNumber : MI := (yX8_isNumber, cX8_isNumber, 7, (some .boolean), 1, 20)
noncomputable def l8_isNumber_8 (t : Option Nat) (p1 : Int32) (rec : (Int32 × Int32 × Int32) → Cm (Int32 × Int32)) (x8 : Int32 × Int32 × Int32) : Cm (Int32 × Int32) :=
  if x8.2.2 < p1 then
    rt (x8.1, x8.2.1)
  else
    bn (oGetR t 8 5) fun v15 =>
    bn (oLd 0 v15 x8.2.2) fun v20 =>
    bn (f8_isDigit v20) fun v21 =>
    if v21 = 0 then
      rec (x8.1, x8.2.1, (x8.2.2 + (-1)))
    else
      bn (oGetR t 8 5) fun v28 =>
      bn (oLd 0 v28 x8.2.2) fun v33 =>
      if (jrem x8.1 2) = 1 then
        if (2 * (v33 - 48)) ≤ 9 then
          rec ((x8.1 + 1), (x8.2.1 + (2 * (v33 - 48))), (x8.2.2 + (-1)))
        else
          rec ((x8.1 + 1), (x8.2.1 + ((2 * (v33 - 48)) - 9)), (x8.2.2 + (-1)))
      else
        rec ((x8.1 + 1), (x8.2.1 + (v33 - 48)), (x8.2.2 + (-1)))
noncomputable def f8_isNumber (t : Option Nat) (a1 : Int32) (a2 : Int32) : Cm (Int32) :=
  bn (fx (l8_isNumber_8 t a1) FUEL (0, 0, a2)) (fun y87 =>
    if y87.1 < 8 then
      rt (0)
    else
      if 16 < y87.1 then
        rt (0)
      else
        if (jrem y87.2 10) = 0 then
          rt (1)
        else
          rt (0)
  )
theorem k8_isNumber_8 (t : Option Nat) (p1 : Int32) (n : Nat) (x : Int32 × Int32 × Int32) : Mn (fx (l8_isNumber_8 t p1) n x) := by
  refine mn_fx (fun rec hrec x => ?_) n x
  unfold l8_isNumber_8
  repeat' first | with_reducible exact mn_rt | with_reducible exact mn_getI | with_reducible exact mn_getR | with_reducible exact mn_getL | with_reducible exact mn_putI | with_reducible exact mn_putR | with_reducible exact mn_putL | with_reducible exact mn_ld | with_reducible exact mn_ldR | with_reducible exact mn_st | with_reducible exact mn_stZ | with_reducible exact mn_stR | with_reducible exact mn_len | with_reducible exact mn_newO | with_reducible exact mn_newA | with_reducible exact mn_newR | with_reducible exact mn_clone | with_reducible exact mn_copy | with_reducible exact mn_obj | with_reducible exact mn_z | with_reducible exact n8_isDigit _ | with_reducible exact hrec _ | with_reducible refine mn_ite ?_ ?_ | with_reducible refine mn_bn ?_ (fun _ => ?_) | with_reducible refine mn_sum (fun _ => ?_) (fun _ => ?_) _
theorem n8_isNumber (t : Option Nat) (a1 : Int32) (a2 : Int32) : Mn (f8_isNumber t a1 a2) := by
  unfold f8_isNumber
  repeat' first | with_reducible exact mn_rt | with_reducible exact mn_getI | with_reducible exact mn_getR | with_reducible exact mn_getL | with_reducible exact mn_putI | with_reducible exact mn_putR | with_reducible exact mn_putL | with_reducible exact mn_ld | with_reducible exact mn_ldR | with_reducible exact mn_st | with_reducible exact mn_stZ | with_reducible exact mn_stR | with_reducible exact mn_len | with_reducible exact mn_newO | with_reducible exact mn_newA | with_reducible exact mn_newR | with_reducible exact mn_clone | with_reducible exact mn_copy | with_reducible exact mn_obj | with_reducible exact mn_z | with_reducible exact n8_isDigit _ | with_reducible exact hrec _ | with_reducible exact k8_isNumber_8 _ _ _ _ | with_reducible refine mn_ite ?_ ?_ | with_reducible refine mn_bn ?_ (fun _ => ?_) | with_reducible refine mn_sum (fun _ => ?_) (fun _ => ?_) _
abbrev m8_readNumbers : MI := (yX8_readNumbers, cX8_readNumbers, 5, none, 2, 46)
noncomputable def l8_readNumbers_36 (t : Option Nat) (p2 : Int32) (rec : (Int32 × Int32) → Cm (Int32)) (x36 : Int32 × Int32) : Cm (Int32) :=
  if x36.2 = 0 then
    rt x36.1
  else
    bn (oObj t 8) fun _ =>
    bn (f8_isDigitAt t (x36.1 + 1)) fun v45 =>
    if v45 = 0 then
      bn (oGetI t 8 8) fun v61 =>
      if v61 ≤ (x36.1 + 1) then
        rec (x36.1, 0)
      else
        bn (oGetR t 8 5) fun v68 =>
        bn (oLd 0 v68 (x36.1 + 1)) fun v74 =>
        if v74 = 32 then
          bn (oObj t 8) fun _ =>
          bn (f8_isDigitAt t (x36.1 + 2)) fun v97 =>
          if v97 = 0 then
            rec (x36.1, 0)
          else
            rec ((x36.1 + 2), x36.2)
        else
          bn (oGetR t 8 5) fun v81 =>
          bn (oLd 0 v81 (x36.1 + 1)) fun v87 =>
          if v87 = 45 then
            bn (oObj t 8) fun _ =>
            bn (f8_isDigitAt t (x36.1 + 2)) fun v97 =>
            if v97 = 0 then
              rec (x36.1, 0)
            else
              rec ((x36.1 + 2), x36.2)
          else
            rec (x36.1, 0)
    else
      rec ((x36.1 + 1), x36.2)
noncomputable def l8_readNumbers_7 (t : Option Nat) (rec : Int32 → Cm (Unit)) (x7 : Int32) : Cm (Unit) :=
  bn (oGetI t 8 8) fun v9 =>
  if v9 ≤ x7 then
    rt ()
  else
    bn (oObj t 8) fun _ =>
    bn (f8_isDigitAt t x7) fun v17 =>
    if v17 = 0 then
      rec (x7 + 1)
    else
      bn (fx (l8_readNumbers_36 t x7) FUEL (x7, 1)) (fun y115 =>
        bn (oObj t 8) fun _ =>
        bn (f8_isNumber t x7 y115) fun v118 =>
        if v118 = 0 then
          rec (y115 + 1)
        else
          bn (oGetR t 8 12) fun v125 =>
          bn (oGetI t 8 14) fun v129 =>
          bn (oSt 0 v125 v129 x7) fun _ =>
          bn (oGetR t 8 13) fun v135 =>
          bn (oGetI t 8 14) fun v139 =>
          bn (oSt 0 v135 v139 y115) fun _ =>
          bn (oGetI t 8 14) fun v146 =>
          bn (oPutI t 8 14 (v146 + 1)) fun _ =>
          rec (y115 + 1)
      )
noncomputable def f8_readNumbers (t : Option Nat) : Cm (Unit) :=
  bn (oPutI t 8 14 0) fun _ =>
  bn (fx (l8_readNumbers_7 t) FUEL 0) (fun y161 =>
    rt (())
  )
theorem k8_readNumbers_36 (t : Option Nat) (p2 : Int32) (n : Nat) (x : Int32 × Int32) : Mn (fx (l8_readNumbers_36 t p2) n x) := by
  refine mn_fx (fun rec hrec x => ?_) n x
  unfold l8_readNumbers_36
  repeat' first | with_reducible exact mn_rt | with_reducible exact mn_getI | with_reducible exact mn_getR | with_reducible exact mn_getL | with_reducible exact mn_putI | with_reducible exact mn_putR | with_reducible exact mn_putL | with_reducible exact mn_ld | with_reducible exact mn_ldR | with_reducible exact mn_st | with_reducible exact mn_stZ | with_reducible exact mn_stR | with_reducible exact mn_len | with_reducible exact mn_newO | with_reducible exact mn_newA | with_reducible exact mn_newR | with_reducible exact mn_clone | with_reducible exact mn_copy | with_reducible exact mn_obj | with_reducible exact mn_z | with_reducible exact n8_isDigitAt _ _ | with_reducible exact n8_isNumber _ _ _ | with_reducible exact hrec _ | with_reducible refine mn_ite ?_ ?_ | with_reducible refine mn_bn ?_ (fun _ => ?_) | with_reducible refine mn_sum (fun _ => ?_) (fun _ => ?_) _
theorem k8_readNumbers_7 (t : Option Nat) (n : Nat) (x : Int32) : Mn (fx (l8_readNumbers_7 t) n x) := by
  refine mn_fx (fun rec hrec x => ?_) n x
  unfold l8_readNumbers_7
  repeat' first | with_reducible exact mn_rt | with_reducible exact mn_getI | with_reducible exact mn_getR | with_reducible exact mn_getL | with_reducible exact mn_putI | with_reducible exact mn_putR | with_reducible exact mn_putL | with_reducible exact mn_ld | with_reducible exact mn_ldR | with_reducible exact mn_st | with_reducible exact mn_stZ | with_reducible exact mn_stR | with_reducible exact mn_len | with_reducible exact mn_newO | with_reducible exact mn_newA | with_reducible exact mn_newR | with_reducible exact mn_clone | with_reducible exact mn_copy | with_reducible exact mn_obj | with_reducible exact mn_z | with_reducible exact n8_isDigitAt _ _ | with_reducible exact n8_isNumber _ _ _ | with_reducible exact hrec _ | with_reducible exact k8_readNumbers_36 _ _ _ _ | with_reducible refine mn_ite ?_ ?_ | with_reducible refine mn_bn ?_ (fun _ => ?_) | with_reducible refine mn_sum (fun _ => ?_) (fun _ => ?_) _
theorem n8_readNumbers (t : Option Nat) : Mn (f8_readNumbers t) := by
  unfold f8_readNumbers
  repeat' first | with_reducible exact mn_rt | with_reducible exact mn_getI | with_reducible exact mn_getR | with_reducible exact mn_getL | with_reducible exact mn_putI | with_reducible exact mn_putR | with_reducible exact mn_putL | with_reducible exact mn_ld | with_reducible exact mn_ldR | with_reducible exact mn_st | with_reducible exact mn_stZ | with_reducible exact mn_stR | with_reducible exact mn_len | with_reducible exact mn_newO | with_reducible exact mn_newA | with_reducible exact mn_newR | with_reducible exact mn_clone | with_reducible exact mn_copy | with_reducible exact mn_obj | with_reducible exact mn_z | with_reducible exact n8_isDigitAt _ _ | with_reducible exact n8_isNumber _ _ _ | with_reducible exact hrec _ | with_reducible exact k8_readNumbers_36 _ _ _ _ | with_reducible exact k8_readNumbers_7 _ _ _ | with_reducible refine mn_ite ?_ ?_ | with_reducible refine mn_bn ?_ (fun _ => ?_) | with_reducible refine mn_sum (fun _ => ?_) (fun _ => ?_) _
abbrev m8_read : MI := (yX8_read, cX8_read, 5, none, 3, 70)
noncomputable def l8_read_8 (t : Option Nat) (p1 : Option Nat) (p2 : Int32) (p3 : Int32) (rec : Int32 → Cm (Unit)) (x8 : Int32) : Cm (Unit) :=
  if p3 ≤ x8 then
    rt ()
  else
    bn (oGetR t 8 5) fun v15 =>
    bn (oLd 0 p1 (p2 + x8)) fun v25 =>
    bn (oSt 0 v15 x8 v25) fun _ =>
    bn (oGetR t 8 6) fun v28 =>
    bn (oSt 0 v28 x8 x8) fun _ =>
    bn (oGetR t 8 7) fun v37 =>
    bn (oSt 0 v37 x8 x8) fun _ =>
    rec (x8 + 1)
noncomputable def l8_read_110 (t : Option Nat) (rec : Int32 → Cm (Int32)) (x110 : Int32) : Cm (Int32) :=
  bn (oGetI t 8 8) fun v113 =>
  if v113 ≤ x110 then
    rt x110
  else
    bn (oGetR t 8 5) fun v120 =>
    bn (oLd 0 v120 x110) fun v125 =>
    bn (f8_isSign v125) fun v126 =>
    if v126 = 0 then
      rt x110
    else
      rec (x110 + 1)
noncomputable def l8_read_71 (t : Option Nat) (rec : Int32 → Cm (Unit)) (x71 : Int32) : Cm (Unit) :=
  bn (oGetI t 8 8) fun v74 =>
  if v74 ≤ x71 then
    rt ()
  else
    bn (oGetR t 8 5) fun v81 =>
    bn (oLd 0 v81 x71) fun v86 =>
    bn (f8_isSign v86) fun v87 =>
    if v87 = 0 then
      rec (x71 + 1)
    else
      bn (oGetR t 8 9) fun v100 =>
      bn (oGetI t 8 11) fun v104 =>
      bn (oSt 0 v100 v104 x71) fun _ =>
      bn (fx (l8_read_110 t) FUEL x71) (fun y138 =>
        bn (oGetR t 8 10) fun v139 =>
        bn (oGetI t 8 11) fun v143 =>
        bn (oSt 0 v139 v143 (y138 - 1)) fun _ =>
        bn (oGetI t 8 11) fun v153 =>
        bn (oPutI t 8 11 (v153 + 1)) fun _ =>
        rec y138
      )
noncomputable def f8_read (t : Option Nat) (a1 : Option Nat) (a2 : Int32) (a3 : Int32) : Cm (Unit) :=
  bn (oPutI t 8 8 a3) fun _ =>
  bn (fx (l8_read_8 t a1 a2 a3) FUEL 0) (fun y51 =>
    bn (oObj t 8) fun _ =>
    bn (f8_pass t ) fun _ =>
    bn (oObj t 8) fun _ =>
    bn (f8_pass t ) fun _ =>
    bn (oObj t 8) fun _ =>
    bn (f8_pass t ) fun _ =>
    bn (oPutI t 8 11 0) fun _ =>
    bn (fx (l8_read_71 t) FUEL 0) (fun y164 =>
      bn (oObj t 8) fun _ =>
      bn (f8_readNumbers t ) fun _ =>
      rt (())
    )
  )
theorem k8_read_8 (t : Option Nat) (p1 : Option Nat) (p2 : Int32) (p3 : Int32) (n : Nat) (x : Int32) : Mn (fx (l8_read_8 t p1 p2 p3) n x) := by
  refine mn_fx (fun rec hrec x => ?_) n x
  unfold l8_read_8
  repeat' first | with_reducible exact mn_rt | with_reducible exact mn_getI | with_reducible exact mn_getR | with_reducible exact mn_getL | with_reducible exact mn_putI | with_reducible exact mn_putR | with_reducible exact mn_putL | with_reducible exact mn_ld | with_reducible exact mn_ldR | with_reducible exact mn_st | with_reducible exact mn_stZ | with_reducible exact mn_stR | with_reducible exact mn_len | with_reducible exact mn_newO | with_reducible exact mn_newA | with_reducible exact mn_newR | with_reducible exact mn_clone | with_reducible exact mn_copy | with_reducible exact mn_obj | with_reducible exact mn_z | with_reducible exact n8_isSign _ | with_reducible exact n8_pass _ | with_reducible exact n8_readNumbers _ | with_reducible exact hrec _ | with_reducible refine mn_ite ?_ ?_ | with_reducible refine mn_bn ?_ (fun _ => ?_) | with_reducible refine mn_sum (fun _ => ?_) (fun _ => ?_) _
theorem k8_read_110 (t : Option Nat) (n : Nat) (x : Int32) : Mn (fx (l8_read_110 t) n x) := by
  refine mn_fx (fun rec hrec x => ?_) n x
  unfold l8_read_110
  repeat' first | with_reducible exact mn_rt | with_reducible exact mn_getI | with_reducible exact mn_getR | with_reducible exact mn_getL | with_reducible exact mn_putI | with_reducible exact mn_putR | with_reducible exact mn_putL | with_reducible exact mn_ld | with_reducible exact mn_ldR | with_reducible exact mn_st | with_reducible exact mn_stZ | with_reducible exact mn_stR | with_reducible exact mn_len | with_reducible exact mn_newO | with_reducible exact mn_newA | with_reducible exact mn_newR | with_reducible exact mn_clone | with_reducible exact mn_copy | with_reducible exact mn_obj | with_reducible exact mn_z | with_reducible exact n8_isSign _ | with_reducible exact n8_pass _ | with_reducible exact n8_readNumbers _ | with_reducible exact hrec _ | with_reducible exact k8_read_8 _ _ _ _ _ _ | with_reducible refine mn_ite ?_ ?_ | with_reducible refine mn_bn ?_ (fun _ => ?_) | with_reducible refine mn_sum (fun _ => ?_) (fun _ => ?_) _
theorem k8_read_71 (t : Option Nat) (n : Nat) (x : Int32) : Mn (fx (l8_read_71 t) n x) := by
  refine mn_fx (fun rec hrec x => ?_) n x
  unfold l8_read_71
  repeat' first | with_reducible exact mn_rt | with_reducible exact mn_getI | with_reducible exact mn_getR | with_reducible exact mn_getL | with_reducible exact mn_putI | with_reducible exact mn_putR | with_reducible exact mn_putL | with_reducible exact mn_ld | with_reducible exact mn_ldR | with_reducible exact mn_st | with_reducible exact mn_stZ | with_reducible exact mn_stR | with_reducible exact mn_len | with_reducible exact mn_newO | with_reducible exact mn_newA | with_reducible exact mn_newR | with_reducible exact mn_clone | with_reducible exact mn_copy | with_reducible exact mn_obj | with_reducible exact mn_z | with_reducible exact n8_isSign _ | with_reducible exact n8_pass _ | with_reducible exact n8_readNumbers _ | with_reducible exact hrec _ | with_reducible exact k8_read_8 _ _ _ _ _ _ | with_reducible exact k8_read_110 _ _ _ | with_reducible refine mn_ite ?_ ?_ | with_reducible refine mn_bn ?_ (fun _ => ?_) | with_reducible refine mn_sum (fun _ => ?_) (fun _ => ?_) _
theorem n8_read (t : Option Nat) (a1 : Option Nat) (a2 : Int32) (a3 : Int32) : Mn (f8_read t a1 a2 a3) := by
  unfold f8_read
  repeat' first | with_reducible exact mn_rt | with_reducible exact mn_getI | with_reducible exact mn_getR | with_reducible exact mn_getL | with_reducible exact mn_putI | with_reducible exact mn_putR | with_reducible exact mn_putL | with_reducible exact mn_ld | with_reducible exact mn_ldR | with_reducible exact mn_st | with_reducible exact mn_stZ | with_reducible exact mn_stR | with_reducible exact mn_len | with_reducible exact mn_newO | with_reducible exact mn_newA | with_reducible exact mn_newR | with_reducible exact mn_clone | with_reducible exact mn_copy | with_reducible exact mn_obj | with_reducible exact mn_z | with_reducible exact n8_isSign _ | with_reducible exact n8_pass _ | with_reducible exact n8_readNumbers _ | with_reducible exact hrec _ | with_reducible exact k8_read_8 _ _ _ _ _ _ | with_reducible exact k8_read_110 _ _ _ | with_reducible exact k8_read_71 _ _ _ | with_reducible refine mn_ite ?_ ?_ | with_reducible refine mn_bn ?_ (fun _ => ?_) | with_reducible refine mn_sum (fun _ => ?_) (fun _ => ?_) _
abbrev m8_keep : MI := (yX8_keep, cX8_keep, 3, (some .int), 4, 94)
noncomputable def l8_keep_32 (t : Option Nat) (p1 : Int32) (rec : Int32 → Cm (Unit)) (x32 : Int32) : Cm (Unit) :=
  bn (oGetI t 8 8) fun v34 =>
  if v34 ≤ x32 then
    rt ()
  else
    bn (oGetR t 8 15) fun v41 =>
    bn (oGetR t 8 5) fun v52 =>
    bn (oLd 0 v52 x32) fun v56 =>
    bn (f8_small v56) fun v57 =>
    bn (oSt 0 v41 ((300 * p1) + x32) v57) fun _ =>
    rec (x32 + 1)
noncomputable def l8_keep_69 (t : Option Nat) (p1 : Int32) (rec : Int32 → Cm (Unit)) (x69 : Int32) : Cm (Unit) :=
  bn (oGetI t 8 11) fun v71 =>
  if v71 ≤ x69 then
    rt ()
  else
    bn (oGetR t 8 16) fun v78 =>
    bn (oGetR t 8 9) fun v89 =>
    bn (oLd 0 v89 x69) fun v93 =>
    bn (oSt 0 v78 ((300 * p1) + x69) v93) fun _ =>
    bn (oGetR t 8 17) fun v96 =>
    bn (oGetR t 8 10) fun v107 =>
    bn (oLd 0 v107 x69) fun v111 =>
    bn (oSt 0 v96 ((300 * p1) + x69) v111) fun _ =>
    rec (x69 + 1)
noncomputable def f8_keep (t : Option Nat) (a1 : Int32) : Cm (Int32) :=
  bn (f8_in a1 0 7) fun v4 =>
  if v4 = 0 then
    rt ((-1))
  else
    bn (oGetR t 8 3) fun v14 =>
    bn (oGetI t 8 4) fun v19 =>
    bn (oObj t 8) fun _ =>
    bn (f8_read t v14 0 v19) fun _ =>
    bn (oPutI t 8 4 0) fun _ =>
    bn (fx (l8_keep_32 t a1) FUEL 0) (fun y67 =>
      bn (fx (l8_keep_69 t a1) FUEL 0) (fun y119 =>
        bn (oGetR t 8 18) fun v120 =>
        bn (oGetI t 8 11) fun v125 =>
        bn (oSt 0 v120 a1 v125) fun _ =>
        bn (oGetI t 8 11) fun v130 =>
        rt (v130)
      )
    )
theorem k8_keep_32 (t : Option Nat) (p1 : Int32) (n : Nat) (x : Int32) : Mn (fx (l8_keep_32 t p1) n x) := by
  refine mn_fx (fun rec hrec x => ?_) n x
  unfold l8_keep_32
  repeat' first | with_reducible exact mn_rt | with_reducible exact mn_getI | with_reducible exact mn_getR | with_reducible exact mn_getL | with_reducible exact mn_putI | with_reducible exact mn_putR | with_reducible exact mn_putL | with_reducible exact mn_ld | with_reducible exact mn_ldR | with_reducible exact mn_st | with_reducible exact mn_stZ | with_reducible exact mn_stR | with_reducible exact mn_len | with_reducible exact mn_newO | with_reducible exact mn_newA | with_reducible exact mn_newR | with_reducible exact mn_clone | with_reducible exact mn_copy | with_reducible exact mn_obj | with_reducible exact mn_z | with_reducible exact n8_in _ _ _ | with_reducible exact n8_read _ _ _ _ | with_reducible exact n8_small _ | with_reducible exact hrec _ | with_reducible refine mn_ite ?_ ?_ | with_reducible refine mn_bn ?_ (fun _ => ?_) | with_reducible refine mn_sum (fun _ => ?_) (fun _ => ?_) _
theorem k8_keep_69 (t : Option Nat) (p1 : Int32) (n : Nat) (x : Int32) : Mn (fx (l8_keep_69 t p1) n x) := by
  refine mn_fx (fun rec hrec x => ?_) n x
  unfold l8_keep_69
  repeat' first | with_reducible exact mn_rt | with_reducible exact mn_getI | with_reducible exact mn_getR | with_reducible exact mn_getL | with_reducible exact mn_putI | with_reducible exact mn_putR | with_reducible exact mn_putL | with_reducible exact mn_ld | with_reducible exact mn_ldR | with_reducible exact mn_st | with_reducible exact mn_stZ | with_reducible exact mn_stR | with_reducible exact mn_len | with_reducible exact mn_newO | with_reducible exact mn_newA | with_reducible exact mn_newR | with_reducible exact mn_clone | with_reducible exact mn_copy | with_reducible exact mn_obj | with_reducible exact mn_z | with_reducible exact n8_in _ _ _ | with_reducible exact n8_read _ _ _ _ | with_reducible exact n8_small _ | with_reducible exact hrec _ | with_reducible exact k8_keep_32 _ _ _ _ | with_reducible refine mn_ite ?_ ?_ | with_reducible refine mn_bn ?_ (fun _ => ?_) | with_reducible refine mn_sum (fun _ => ?_) (fun _ => ?_) _
theorem n8_keep (t : Option Nat) (a1 : Int32) : Mn (f8_keep t a1) := by
  unfold f8_keep
  repeat' first | with_reducible exact mn_rt | with_reducible exact mn_getI | with_reducible exact mn_getR | with_reducible exact mn_getL | with_reducible exact mn_putI | with_reducible exact mn_putR | with_reducible exact mn_putL | with_reducible exact mn_ld | with_reducible exact mn_ldR | with_reducible exact mn_st | with_reducible exact mn_stZ | with_reducible exact mn_stR | with_reducible exact mn_len | with_reducible exact mn_newO | with_reducible exact mn_newA | with_reducible exact mn_newR | with_reducible exact mn_clone | with_reducible exact mn_copy | with_reducible exact mn_obj | with_reducible exact mn_z | with_reducible exact n8_in _ _ _ | with_reducible exact n8_read _ _ _ _ | with_reducible exact n8_small _ | with_reducible exact hrec _ | with_reducible exact k8_keep_32 _ _ _ _ | with_reducible exact k8_keep_69 _ _ _ _ | with_reducible refine mn_ite ?_ ?_ | with_reducible refine mn_bn ?_ (fun _ => ?_) | with_reducible refine mn_sum (fun _ => ?_) (fun _ => ?_) _
abbrev m8_mark : MI := (yX8_mark, cX8_mark, 3, (some .boolean), 4, 94)
noncomputable def l8_mark_64 (t : Option Nat) (p1 : Int32) (rec : Int32 → Cm (Unit)) (x64 : Int32) : Cm (Unit) :=
  bn (oGetR t 8 22) fun v66 =>
  bn (oLd 0 v66 p1) fun v70 =>
  if v70 ≤ x64 then
    rt ()
  else
    bn (oGetR t 8 21) fun v75 =>
    bn (oGetR t 8 5) fun v86 =>
    bn (oGetR t 8 9) fun v90 =>
    bn (oLd 0 v90 0) fun v94 =>
    bn (oLd 0 v86 (v94 + x64)) fun v97 =>
    bn (f8_small v97) fun v98 =>
    bn (oSt 0 v75 ((300 * p1) + x64) v98) fun _ =>
    rec (x64 + 1)
noncomputable def f8_mark (t : Option Nat) (a1 : Int32) : Cm (Int32) :=
  bn (f8_in a1 0 7) fun v4 =>
  if v4 = 0 then
    rt (0)
  else
    bn (oGetR t 8 3) fun v14 =>
    bn (oGetI t 8 4) fun v19 =>
    bn (oObj t 8) fun _ =>
    bn (f8_read t v14 0 v19) fun _ =>
    bn (oGetI t 8 11) fun v26 =>
    if v26 = 0 then
      rt (0)
    else
      bn (oGetR t 8 20) fun v35 =>
      bn (oSt 0 v35 a1 1) fun _ =>
      bn (oGetR t 8 22) fun v42 =>
      bn (oGetR t 8 10) fun v47 =>
      bn (oLd 0 v47 0) fun v51 =>
      bn (oGetR t 8 9) fun v53 =>
      bn (oLd 0 v53 0) fun v57 =>
      bn (oSt 0 v42 a1 ((v51 - v57) + 1)) fun _ =>
      bn (fx (l8_mark_64 t a1) FUEL 0) (fun y108 =>
        bn (oPutI t 8 4 0) fun _ =>
        rt (1)
      )
theorem k8_mark_64 (t : Option Nat) (p1 : Int32) (n : Nat) (x : Int32) : Mn (fx (l8_mark_64 t p1) n x) := by
  refine mn_fx (fun rec hrec x => ?_) n x
  unfold l8_mark_64
  repeat' first | with_reducible exact mn_rt | with_reducible exact mn_getI | with_reducible exact mn_getR | with_reducible exact mn_getL | with_reducible exact mn_putI | with_reducible exact mn_putR | with_reducible exact mn_putL | with_reducible exact mn_ld | with_reducible exact mn_ldR | with_reducible exact mn_st | with_reducible exact mn_stZ | with_reducible exact mn_stR | with_reducible exact mn_len | with_reducible exact mn_newO | with_reducible exact mn_newA | with_reducible exact mn_newR | with_reducible exact mn_clone | with_reducible exact mn_copy | with_reducible exact mn_obj | with_reducible exact mn_z | with_reducible exact n8_in _ _ _ | with_reducible exact n8_read _ _ _ _ | with_reducible exact n8_small _ | with_reducible exact hrec _ | with_reducible refine mn_ite ?_ ?_ | with_reducible refine mn_bn ?_ (fun _ => ?_) | with_reducible refine mn_sum (fun _ => ?_) (fun _ => ?_) _
theorem n8_mark (t : Option Nat) (a1 : Int32) : Mn (f8_mark t a1) := by
  unfold f8_mark
  repeat' first | with_reducible exact mn_rt | with_reducible exact mn_getI | with_reducible exact mn_getR | with_reducible exact mn_getL | with_reducible exact mn_putI | with_reducible exact mn_putR | with_reducible exact mn_putL | with_reducible exact mn_ld | with_reducible exact mn_ldR | with_reducible exact mn_st | with_reducible exact mn_stZ | with_reducible exact mn_stR | with_reducible exact mn_len | with_reducible exact mn_newO | with_reducible exact mn_newA | with_reducible exact mn_newR | with_reducible exact mn_clone | with_reducible exact mn_copy | with_reducible exact mn_obj | with_reducible exact mn_z | with_reducible exact n8_in _ _ _ | with_reducible exact n8_read _ _ _ _ | with_reducible exact n8_small _ | with_reducible exact hrec _ | with_reducible exact k8_mark_64 _ _ _ _ | with_reducible refine mn_ite ?_ ?_ | with_reducible refine mn_bn ?_ (fun _ => ?_) | with_reducible refine mn_sum (fun _ => ?_) (fun _ => ?_) _
abbrev m8_near : MI := (yX8_near, cX8_near, 4, (some .boolean), 1, 22)
noncomputable def f8_near (t : Option Nat) (a1 : Int32) (a2 : Int32) (a3 : Int32) : Cm (Int32) :=
  bn (f8_in a1 0 7) fun v4 =>
  if v4 = 0 then
    rt (0)
  else
    bn (f8_in a2 0 7) fun v14 =>
    if v14 = 0 then
      rt (0)
    else
      bn (f8_in a3 2 8) fun v24 =>
      if v24 = 0 then
        rt (0)
      else
        bn (oGetR t 8 20) fun v33 =>
        bn (oSt 0 v33 a1 2) fun _ =>
        bn (oGetR t 8 23) fun v40 =>
        bn (oSt 0 v40 a1 a2) fun _ =>
        bn (oGetR t 8 24) fun v47 =>
        bn (oSt 0 v47 a1 a3) fun _ =>
        rt (1)
theorem n8_near (t : Option Nat) (a1 : Int32) (a2 : Int32) (a3 : Int32) : Mn (f8_near t a1 a2 a3) := by
  unfold f8_near
  repeat' first | with_reducible exact mn_rt | with_reducible exact mn_getI | with_reducible exact mn_getR | with_reducible exact mn_getL | with_reducible exact mn_putI | with_reducible exact mn_putR | with_reducible exact mn_putL | with_reducible exact mn_ld | with_reducible exact mn_ldR | with_reducible exact mn_st | with_reducible exact mn_stZ | with_reducible exact mn_stR | with_reducible exact mn_len | with_reducible exact mn_newO | with_reducible exact mn_newA | with_reducible exact mn_newR | with_reducible exact mn_clone | with_reducible exact mn_copy | with_reducible exact mn_obj | with_reducible exact mn_z | with_reducible exact n8_in _ _ _ | with_reducible exact hrec _ | with_reducible refine mn_ite ?_ ?_ | with_reducible refine mn_bn ?_ (fun _ => ?_) | with_reducible refine mn_sum (fun _ => ?_) (fun _ => ?_) _
abbrev m8_numbers : MI := (yX8_numbers, cX8_numbers, 1, (some .int), 4, 94)
noncomputable def f8_numbers (t : Option Nat) : Cm (Int32) :=
  bn (oGetR t 8 3) fun v2 =>
  bn (oGetI t 8 4) fun v7 =>
  bn (oObj t 8) fun _ =>
  bn (f8_read t v2 0 v7) fun _ =>
  bn (oGetI t 8 14) fun v14 =>
  rt (v14)
theorem n8_numbers (t : Option Nat) : Mn (f8_numbers t) := by
  unfold f8_numbers
  repeat' first | with_reducible exact mn_rt | with_reducible exact mn_getI | with_reducible exact mn_getR | with_reducible exact mn_getL | with_reducible exact mn_putI | with_reducible exact mn_putR | with_reducible exact mn_putL | with_reducible exact mn_ld | with_reducible exact mn_ldR | with_reducible exact mn_st | with_reducible exact mn_stZ | with_reducible exact mn_stR | with_reducible exact mn_len | with_reducible exact mn_newO | with_reducible exact mn_newA | with_reducible exact mn_newR | with_reducible exact mn_clone | with_reducible exact mn_copy | with_reducible exact mn_obj | with_reducible exact mn_z | with_reducible exact n8_read _ _ _ _ | with_reducible exact hrec _ | with_reducible refine mn_ite ?_ ?_ | with_reducible refine mn_bn ?_ (fun _ => ?_) | with_reducible refine mn_sum (fun _ => ?_) (fun _ => ?_) _
abbrev m8_isPart : MI := (yX8_isPart, cX8_isPart, 5, (some .boolean), 0, 0)
noncomputable def l8_isPart_17 (t : Option Nat) (p1 : Int32) (p2 : Int32) (p3 : Int32) (rec : Int32 → Cm ((Int32) ⊕ (Unit))) (x17 : Int32) : Cm ((Int32) ⊕ (Unit)) :=
  if (p2 + p3) ≤ x17 then
    rt (.inr ())
  else
    bn (oGetR t 8 17) fun v26 =>
    bn (oLd 0 v26 ((300 * p1) + x17)) fun v37 =>
    bn (oGetR t 8 16) fun v39 =>
    bn (oLd 0 v39 ((300 * p1) + x17)) fun v50 =>
    if (v37 - v50) < 3 then
      rec (x17 + 1)
    else
      rt (.inl (1))
noncomputable def f8_isPart (t : Option Nat) (a1 : Int32) (a2 : Int32) (a3 : Int32) : Cm (Int32) :=
  bn (oGetR t 8 18) fun v4 =>
  bn (oLd 0 v4 a1) fun v8 =>
  if (a2 + a3) ≤ v8 then
    bn (fx (l8_isPart_17 t a1 a2 a3) FUEL a2) (Sum.elim (fun r => rt r) fun y64 =>
      rt (0)
    )
  else
    rt (0)
theorem k8_isPart_17 (t : Option Nat) (p1 : Int32) (p2 : Int32) (p3 : Int32) (n : Nat) (x : Int32) : Mn (fx (l8_isPart_17 t p1 p2 p3) n x) := by
  refine mn_fx (fun rec hrec x => ?_) n x
  unfold l8_isPart_17
  repeat' first | with_reducible exact mn_rt | with_reducible exact mn_getI | with_reducible exact mn_getR | with_reducible exact mn_getL | with_reducible exact mn_putI | with_reducible exact mn_putR | with_reducible exact mn_putL | with_reducible exact mn_ld | with_reducible exact mn_ldR | with_reducible exact mn_st | with_reducible exact mn_stZ | with_reducible exact mn_stR | with_reducible exact mn_len | with_reducible exact mn_newO | with_reducible exact mn_newA | with_reducible exact mn_newR | with_reducible exact mn_clone | with_reducible exact mn_copy | with_reducible exact mn_obj | with_reducible exact mn_z | with_reducible exact hrec _ | with_reducible refine mn_ite ?_ ?_ | with_reducible refine mn_bn ?_ (fun _ => ?_) | with_reducible refine mn_sum (fun _ => ?_) (fun _ => ?_) _
theorem n8_isPart (t : Option Nat) (a1 : Int32) (a2 : Int32) (a3 : Int32) : Mn (f8_isPart t a1 a2 a3) := by
  unfold f8_isPart
  repeat' first | with_reducible exact mn_rt | with_reducible exact mn_getI | with_reducible exact mn_getR | with_reducible exact mn_getL | with_reducible exact mn_putI | with_reducible exact mn_putR | with_reducible exact mn_putL | with_reducible exact mn_ld | with_reducible exact mn_ldR | with_reducible exact mn_st | with_reducible exact mn_stZ | with_reducible exact mn_stR | with_reducible exact mn_len | with_reducible exact mn_newO | with_reducible exact mn_newA | with_reducible exact mn_newR | with_reducible exact mn_clone | with_reducible exact mn_copy | with_reducible exact mn_obj | with_reducible exact mn_z | with_reducible exact hrec _ | with_reducible exact k8_isPart_17 _ _ _ _ _ _ | with_reducible refine mn_ite ?_ ?_ | with_reducible refine mn_bn ?_ (fun _ => ?_) | with_reducible refine mn_sum (fun _ => ?_) (fun _ => ?_) _
abbrev m8_isWord : MI := (yX8_isWord, cX8_isWord, 7, (some .boolean), 1, 20)
noncomputable def l8_isWord_54 (t : Option Nat) (p1 : Int32) (p3 : Int32) (p4 : Int32) (p5 : Int32) (rec : Int32 → Cm ((Int32) ⊕ (Unit))) (x54 : Int32) : Cm ((Int32) ⊕ (Unit)) :=
  if p5 < x54 then
    rt (.inr ())
  else
    bn (oGetR t 8 15) fun v62 =>
    bn (oLd 0 v62 (((300 * p1) + p4) + x54)) fun v76 =>
    bn (oGetR t 8 5) fun v78 =>
    bn (oGetR t 8 9) fun v82 =>
    bn (oLd 0 v82 p3) fun v86 =>
    bn (oLd 0 v78 (v86 + x54)) fun v90 =>
    bn (f8_small v90) fun v91 =>
    if v76 = v91 then
      rec (x54 + 1)
    else
      rt (.inl (0))
noncomputable def f8_isWord (t : Option Nat) (a1 : Int32) (a2 : Int32) (a3 : Int32) : Cm (Int32) :=
  bn (oGetR t 8 16) fun v1 =>
  bn (oLd 0 v1 ((300 * a1) + a2)) fun v11 =>
  bn (oGetR t 8 17) fun v15 =>
  bn (oLd 0 v15 ((300 * a1) + a2)) fun v25 =>
  bn (oGetR t 8 10) fun v32 =>
  bn (oLd 0 v32 a3) fun v36 =>
  bn (oGetR t 8 9) fun v38 =>
  bn (oLd 0 v38 a3) fun v42 =>
  if (v36 - v42) = (v25 - v11) then
    bn (fx (l8_isWord_54 t a1 a3 v11 ((v25 - v11))) FUEL 0) (Sum.elim (fun r => rt r) fun y105 =>
      rt (1)
    )
  else
    rt (0)
theorem k8_isWord_54 (t : Option Nat) (p1 : Int32) (p3 : Int32) (p4 : Int32) (p5 : Int32) (n : Nat) (x : Int32) : Mn (fx (l8_isWord_54 t p1 p3 p4 p5) n x) := by
  refine mn_fx (fun rec hrec x => ?_) n x
  unfold l8_isWord_54
  repeat' first | with_reducible exact mn_rt | with_reducible exact mn_getI | with_reducible exact mn_getR | with_reducible exact mn_getL | with_reducible exact mn_putI | with_reducible exact mn_putR | with_reducible exact mn_putL | with_reducible exact mn_ld | with_reducible exact mn_ldR | with_reducible exact mn_st | with_reducible exact mn_stZ | with_reducible exact mn_stR | with_reducible exact mn_len | with_reducible exact mn_newO | with_reducible exact mn_newA | with_reducible exact mn_newR | with_reducible exact mn_clone | with_reducible exact mn_copy | with_reducible exact mn_obj | with_reducible exact mn_z | with_reducible exact n8_small _ | with_reducible exact hrec _ | with_reducible refine mn_ite ?_ ?_ | with_reducible refine mn_bn ?_ (fun _ => ?_) | with_reducible refine mn_sum (fun _ => ?_) (fun _ => ?_) _
theorem n8_isWord (t : Option Nat) (a1 : Int32) (a2 : Int32) (a3 : Int32) : Mn (f8_isWord t a1 a2 a3) := by
  unfold f8_isWord
  repeat' first | with_reducible exact mn_rt | with_reducible exact mn_getI | with_reducible exact mn_getR | with_reducible exact mn_getL | with_reducible exact mn_putI | with_reducible exact mn_putR | with_reducible exact mn_putL | with_reducible exact mn_ld | with_reducible exact mn_ldR | with_reducible exact mn_st | with_reducible exact mn_stZ | with_reducible exact mn_stR | with_reducible exact mn_len | with_reducible exact mn_newO | with_reducible exact mn_newA | with_reducible exact mn_newR | with_reducible exact mn_clone | with_reducible exact mn_copy | with_reducible exact mn_obj | with_reducible exact mn_z | with_reducible exact n8_small _ | with_reducible exact hrec _ | with_reducible exact k8_isWord_54 _ _ _ _ _ _ _ | with_reducible refine mn_ite ?_ ?_ | with_reducible refine mn_bn ?_ (fun _ => ?_) | with_reducible refine mn_sum (fun _ => ?_) (fun _ => ?_) _
abbrev m8_stands : MI := (yX8_stands, cX8_stands, 6, (some .boolean), 2, 46)
noncomputable def l8_stands_26 (t : Option Nat) (p1 : Int32) (p2 : Int32) (p3 : Int32) (p4 : Int32) (rec : Int32 → Cm ((Int32) ⊕ (Unit))) (x26 : Int32) : Cm ((Int32) ⊕ (Unit)) :=
  if p3 ≤ x26 then
    rt (.inr ())
  else
    bn (oObj t 8) fun _ =>
    bn (f8_isWord t p1 (p2 + x26) (p4 + x26)) fun v43 =>
    if v43 = 0 then
      rt (.inl (0))
    else
      rec (x26 + 1)
noncomputable def f8_stands (t : Option Nat) (a1 : Int32) (a2 : Int32) (a3 : Int32) (a4 : Int32) : Cm (Int32) :=
  bn (oGetI t 8 11) fun v5 =>
  if v5 < (a4 + a3) then
    rt (0)
  else
    bn (oObj t 8) fun _ =>
    bn (f8_isPart t a1 a2 a3) fun v15 =>
    if v15 = 0 then
      rt (0)
    else
      bn (fx (l8_stands_26 t a1 a2 a3 a4) FUEL 0) (Sum.elim (fun r => rt r) fun y57 =>
        rt (1)
      )
theorem k8_stands_26 (t : Option Nat) (p1 : Int32) (p2 : Int32) (p3 : Int32) (p4 : Int32) (n : Nat) (x : Int32) : Mn (fx (l8_stands_26 t p1 p2 p3 p4) n x) := by
  refine mn_fx (fun rec hrec x => ?_) n x
  unfold l8_stands_26
  repeat' first | with_reducible exact mn_rt | with_reducible exact mn_getI | with_reducible exact mn_getR | with_reducible exact mn_getL | with_reducible exact mn_putI | with_reducible exact mn_putR | with_reducible exact mn_putL | with_reducible exact mn_ld | with_reducible exact mn_ldR | with_reducible exact mn_st | with_reducible exact mn_stZ | with_reducible exact mn_stR | with_reducible exact mn_len | with_reducible exact mn_newO | with_reducible exact mn_newA | with_reducible exact mn_newR | with_reducible exact mn_clone | with_reducible exact mn_copy | with_reducible exact mn_obj | with_reducible exact mn_z | with_reducible exact n8_isPart _ _ _ _ | with_reducible exact n8_isWord _ _ _ _ | with_reducible exact hrec _ | with_reducible refine mn_ite ?_ ?_ | with_reducible refine mn_bn ?_ (fun _ => ?_) | with_reducible refine mn_sum (fun _ => ?_) (fun _ => ?_) _
theorem n8_stands (t : Option Nat) (a1 : Int32) (a2 : Int32) (a3 : Int32) (a4 : Int32) : Mn (f8_stands t a1 a2 a3 a4) := by
  unfold f8_stands
  repeat' first | with_reducible exact mn_rt | with_reducible exact mn_getI | with_reducible exact mn_getR | with_reducible exact mn_getL | with_reducible exact mn_putI | with_reducible exact mn_putR | with_reducible exact mn_putL | with_reducible exact mn_ld | with_reducible exact mn_ldR | with_reducible exact mn_st | with_reducible exact mn_stZ | with_reducible exact mn_stR | with_reducible exact mn_len | with_reducible exact mn_newO | with_reducible exact mn_newA | with_reducible exact mn_newR | with_reducible exact mn_clone | with_reducible exact mn_copy | with_reducible exact mn_obj | with_reducible exact mn_z | with_reducible exact n8_isPart _ _ _ _ | with_reducible exact n8_isWord _ _ _ _ | with_reducible exact hrec _ | with_reducible exact k8_stands_26 _ _ _ _ _ _ _ | with_reducible refine mn_ite ?_ ?_ | with_reducible refine mn_bn ?_ (fun _ => ?_) | with_reducible refine mn_sum (fun _ => ?_) (fun _ => ?_) _
abbrev m8_addParts : MI := (yX8_addParts, cX8_addParts, 5, none, 3, 71)
noncomputable def l8_addParts_17 (t : Option Nat) (p1 : Int32) (p2 : Int32) (p3 : Int32) (rec : Int32 → Cm (Unit)) (x17 : Int32) : Cm (Unit) :=
  bn (oGetI t 8 11) fun v22 =>
  if v22 < (x17 + p2) then
    rt ()
  else
    bn (oGetR t 8 19) fun v29 =>
    bn (oLd 1 v29 p3) fun v33 =>
    if v33 = 0 then
      bn (oGetR t 8 19) fun v38 =>
      bn (oObj t 8) fun _ =>
      bn (f8_stands t p1 p3 p2 x17) fun v48 =>
      bn (oStZ v38 p3 v48) fun _ =>
      rec (x17 + 1)
    else
      rt ()
noncomputable def l8_addParts_2 (t : Option Nat) (p1 : Int32) (p2 : Int32) (rec : Int32 → Cm (Unit)) (x2 : Int32) : Cm (Unit) :=
  bn (oGetR t 8 18) fun v6 =>
  bn (oLd 0 v6 p1) fun v10 =>
  if v10 < (x2 + p2) then
    rt ()
  else
    bn (fx (l8_addParts_17 t p1 p2 x2) FUEL 0) (fun y58 =>
      rec (x2 + 1)
    )
noncomputable def f8_addParts (t : Option Nat) (a1 : Int32) (a2 : Int32) : Cm (Unit) :=
  bn (fx (l8_addParts_2 t a1 a2) FUEL 0) (fun y64 =>
    rt (())
  )
theorem k8_addParts_17 (t : Option Nat) (p1 : Int32) (p2 : Int32) (p3 : Int32) (n : Nat) (x : Int32) : Mn (fx (l8_addParts_17 t p1 p2 p3) n x) := by
  refine mn_fx (fun rec hrec x => ?_) n x
  unfold l8_addParts_17
  repeat' first | with_reducible exact mn_rt | with_reducible exact mn_getI | with_reducible exact mn_getR | with_reducible exact mn_getL | with_reducible exact mn_putI | with_reducible exact mn_putR | with_reducible exact mn_putL | with_reducible exact mn_ld | with_reducible exact mn_ldR | with_reducible exact mn_st | with_reducible exact mn_stZ | with_reducible exact mn_stR | with_reducible exact mn_len | with_reducible exact mn_newO | with_reducible exact mn_newA | with_reducible exact mn_newR | with_reducible exact mn_clone | with_reducible exact mn_copy | with_reducible exact mn_obj | with_reducible exact mn_z | with_reducible exact n8_stands _ _ _ _ _ | with_reducible exact hrec _ | with_reducible refine mn_ite ?_ ?_ | with_reducible refine mn_bn ?_ (fun _ => ?_) | with_reducible refine mn_sum (fun _ => ?_) (fun _ => ?_) _
theorem k8_addParts_2 (t : Option Nat) (p1 : Int32) (p2 : Int32) (n : Nat) (x : Int32) : Mn (fx (l8_addParts_2 t p1 p2) n x) := by
  refine mn_fx (fun rec hrec x => ?_) n x
  unfold l8_addParts_2
  repeat' first | with_reducible exact mn_rt | with_reducible exact mn_getI | with_reducible exact mn_getR | with_reducible exact mn_getL | with_reducible exact mn_putI | with_reducible exact mn_putR | with_reducible exact mn_putL | with_reducible exact mn_ld | with_reducible exact mn_ldR | with_reducible exact mn_st | with_reducible exact mn_stZ | with_reducible exact mn_stR | with_reducible exact mn_len | with_reducible exact mn_newO | with_reducible exact mn_newA | with_reducible exact mn_newR | with_reducible exact mn_clone | with_reducible exact mn_copy | with_reducible exact mn_obj | with_reducible exact mn_z | with_reducible exact n8_stands _ _ _ _ _ | with_reducible exact hrec _ | with_reducible exact k8_addParts_17 _ _ _ _ _ _ | with_reducible refine mn_ite ?_ ?_ | with_reducible refine mn_bn ?_ (fun _ => ?_) | with_reducible refine mn_sum (fun _ => ?_) (fun _ => ?_) _
theorem n8_addParts (t : Option Nat) (a1 : Int32) (a2 : Int32) : Mn (f8_addParts t a1 a2) := by
  unfold f8_addParts
  repeat' first | with_reducible exact mn_rt | with_reducible exact mn_getI | with_reducible exact mn_getR | with_reducible exact mn_getL | with_reducible exact mn_putI | with_reducible exact mn_putR | with_reducible exact mn_putL | with_reducible exact mn_ld | with_reducible exact mn_ldR | with_reducible exact mn_st | with_reducible exact mn_stZ | with_reducible exact mn_stR | with_reducible exact mn_len | with_reducible exact mn_newO | with_reducible exact mn_newA | with_reducible exact mn_newR | with_reducible exact mn_clone | with_reducible exact mn_copy | with_reducible exact mn_obj | with_reducible exact mn_z | with_reducible exact n8_stands _ _ _ _ _ | with_reducible exact hrec _ | with_reducible exact k8_addParts_17 _ _ _ _ _ _ | with_reducible exact k8_addParts_2 _ _ _ _ _ | with_reducible refine mn_ite ?_ ?_ | with_reducible refine mn_bn ?_ (fun _ => ?_) | with_reducible refine mn_sum (fun _ => ?_) (fun _ => ?_) _
abbrev m8_noParts : MI := (yX8_noParts, cX8_noParts, 2, none, 0, 0)
noncomputable def l8_noParts_2 (t : Option Nat) (rec : Int32 → Cm (Unit)) (x2 : Int32) : Cm (Unit) :=
  if 300 ≤ x2 then
    rt ()
  else
    bn (oGetR t 8 19) fun v10 =>
    bn (oStZ v10 x2 0) fun _ =>
    rec (x2 + 1)
noncomputable def f8_noParts (t : Option Nat) : Cm (Unit) :=
  bn (fx (l8_noParts_2 t) FUEL 0) (fun y22 =>
    rt (())
  )
theorem k8_noParts_2 (t : Option Nat) (n : Nat) (x : Int32) : Mn (fx (l8_noParts_2 t) n x) := by
  refine mn_fx (fun rec hrec x => ?_) n x
  unfold l8_noParts_2
  repeat' first | with_reducible exact mn_rt | with_reducible exact mn_getI | with_reducible exact mn_getR | with_reducible exact mn_getL | with_reducible exact mn_putI | with_reducible exact mn_putR | with_reducible exact mn_putL | with_reducible exact mn_ld | with_reducible exact mn_ldR | with_reducible exact mn_st | with_reducible exact mn_stZ | with_reducible exact mn_stR | with_reducible exact mn_len | with_reducible exact mn_newO | with_reducible exact mn_newA | with_reducible exact mn_newR | with_reducible exact mn_clone | with_reducible exact mn_copy | with_reducible exact mn_obj | with_reducible exact mn_z | with_reducible exact hrec _ | with_reducible refine mn_ite ?_ ?_ | with_reducible refine mn_bn ?_ (fun _ => ?_) | with_reducible refine mn_sum (fun _ => ?_) (fun _ => ?_) _
theorem n8_noParts (t : Option Nat) : Mn (f8_noParts t) := by
  unfold f8_noParts
  repeat' first | with_reducible exact mn_rt | with_reducible exact mn_getI | with_reducible exact mn_getR | with_reducible exact mn_getL | with_reducible exact mn_putI | with_reducible exact mn_putR | with_reducible exact mn_putL | with_reducible exact mn_ld | with_reducible exact mn_ldR | with_reducible exact mn_st | with_reducible exact mn_stZ | with_reducible exact mn_stR | with_reducible exact mn_len | with_reducible exact mn_newO | with_reducible exact mn_newA | with_reducible exact mn_newR | with_reducible exact mn_clone | with_reducible exact mn_copy | with_reducible exact mn_obj | with_reducible exact mn_z | with_reducible exact hrec _ | with_reducible exact k8_noParts_2 _ _ _ | with_reducible refine mn_ite ?_ ?_ | with_reducible refine mn_bn ?_ (fun _ => ?_) | with_reducible refine mn_sum (fun _ => ?_) (fun _ => ?_) _
abbrev m8_partsHad : MI := (yX8_partsHad, cX8_partsHad, 4, (some .int), 0, 0)
noncomputable def l8_partsHad_4 (t : Option Nat) (p1 : Int32) (rec : (Int32 × Int32) → Cm (Int32)) (x4 : Int32 × Int32) : Cm (Int32) :=
  bn (oGetR t 8 18) fun v6 =>
  bn (oLd 0 v6 p1) fun v10 =>
  if v10 ≤ x4.2 then
    rt x4.1
  else
    bn (oGetR t 8 19) fun v16 =>
    bn (oLd 1 v16 x4.2) fun v20 =>
    if v20 = 0 then
      rec ((x4.1 + 0), (x4.2 + 1))
    else
      rec ((x4.1 + 1), (x4.2 + 1))
noncomputable def f8_partsHad (t : Option Nat) (a1 : Int32) : Cm (Int32) :=
  bn (fx (l8_partsHad_4 t a1) FUEL (0, 0)) (fun y37 =>
    rt (y37)
  )
theorem k8_partsHad_4 (t : Option Nat) (p1 : Int32) (n : Nat) (x : Int32 × Int32) : Mn (fx (l8_partsHad_4 t p1) n x) := by
  refine mn_fx (fun rec hrec x => ?_) n x
  unfold l8_partsHad_4
  repeat' first | with_reducible exact mn_rt | with_reducible exact mn_getI | with_reducible exact mn_getR | with_reducible exact mn_getL | with_reducible exact mn_putI | with_reducible exact mn_putR | with_reducible exact mn_putL | with_reducible exact mn_ld | with_reducible exact mn_ldR | with_reducible exact mn_st | with_reducible exact mn_stZ | with_reducible exact mn_stR | with_reducible exact mn_len | with_reducible exact mn_newO | with_reducible exact mn_newA | with_reducible exact mn_newR | with_reducible exact mn_clone | with_reducible exact mn_copy | with_reducible exact mn_obj | with_reducible exact mn_z | with_reducible exact hrec _ | with_reducible refine mn_ite ?_ ?_ | with_reducible refine mn_bn ?_ (fun _ => ?_) | with_reducible refine mn_sum (fun _ => ?_) (fun _ => ?_) _
theorem n8_partsHad (t : Option Nat) (a1 : Int32) : Mn (f8_partsHad t a1) := by
  unfold f8_partsHad
  repeat' first | with_reducible exact mn_rt | with_reducible exact mn_getI | with_reducible exact mn_getR | with_reducible exact mn_getL | with_reducible exact mn_putI | with_reducible exact mn_putR | with_reducible exact mn_putL | with_reducible exact mn_ld | with_reducible exact mn_ldR | with_reducible exact mn_st | with_reducible exact mn_stZ | with_reducible exact mn_stR | with_reducible exact mn_len | with_reducible exact mn_newO | with_reducible exact mn_newA | with_reducible exact mn_newR | with_reducible exact mn_clone | with_reducible exact mn_copy | with_reducible exact mn_obj | with_reducible exact mn_z | with_reducible exact hrec _ | with_reducible exact k8_partsHad_4 _ _ _ _ | with_reducible refine mn_ite ?_ ?_ | with_reducible refine mn_bn ?_ (fun _ => ?_) | with_reducible refine mn_sum (fun _ => ?_) (fun _ => ?_) _
abbrev m8_parts : MI := (yX8_parts, cX8_parts, 3, (some .int), 4, 95)
noncomputable def f8_parts (t : Option Nat) (a1 : Int32) (a2 : Int32) : Cm (Int32) :=
  bn (f8_in a1 0 7) fun v4 =>
  if v4 = 0 then
    rt ((-1))
  else
    bn (f8_in a2 2 8) fun v14 =>
    if v14 = 0 then
      rt ((-1))
    else
      bn (oGetR t 8 3) fun v24 =>
      bn (oGetI t 8 4) fun v29 =>
      bn (oObj t 8) fun _ =>
      bn (f8_read t v24 0 v29) fun _ =>
      bn (oObj t 8) fun _ =>
      bn (f8_noParts t ) fun _ =>
      bn (oObj t 8) fun _ =>
      bn (f8_addParts t a1 a2) fun _ =>
      bn (oObj t 8) fun _ =>
      bn (f8_partsHad t a1) fun v47 =>
      rt (v47)
theorem n8_parts (t : Option Nat) (a1 : Int32) (a2 : Int32) : Mn (f8_parts t a1 a2) := by
  unfold f8_parts
  repeat' first | with_reducible exact mn_rt | with_reducible exact mn_getI | with_reducible exact mn_getR | with_reducible exact mn_getL | with_reducible exact mn_putI | with_reducible exact mn_putR | with_reducible exact mn_putL | with_reducible exact mn_ld | with_reducible exact mn_ldR | with_reducible exact mn_st | with_reducible exact mn_stZ | with_reducible exact mn_stR | with_reducible exact mn_len | with_reducible exact mn_newO | with_reducible exact mn_newA | with_reducible exact mn_newR | with_reducible exact mn_clone | with_reducible exact mn_copy | with_reducible exact mn_obj | with_reducible exact mn_z | with_reducible exact n8_addParts _ _ _ | with_reducible exact n8_in _ _ _ | with_reducible exact n8_noParts _ | with_reducible exact n8_partsHad _ _ | with_reducible exact n8_read _ _ _ _ | with_reducible exact hrec _ | with_reducible refine mn_ite ?_ ?_ | with_reducible refine mn_bn ?_ (fun _ => ?_) | with_reducible refine mn_sum (fun _ => ?_) (fun _ => ?_) _
abbrev m8_pieces : MI := (yX8_pieces, cX8_pieces, 6, (some .boolean), 1, 22)
noncomputable def f8_pieces (t : Option Nat) (a1 : Int32) (a2 : Int32) (a3 : Int32) (a4 : Int32) (a5 : Int32) : Cm (Int32) :=
  bn (f8_in a1 0 7) fun v4 =>
  if v4 = 0 then
    rt (0)
  else
    bn (f8_in a2 0 7) fun v14 =>
    if v14 = 0 then
      rt (0)
    else
      bn (f8_in a3 2 8) fun v24 =>
      if v24 = 0 then
        rt (0)
      else
        bn (f8_in a4 1 50) fun v35 =>
        if v35 = 0 then
          rt (0)
        else
          bn (f8_in a5 0 30) fun v46 =>
          if v46 = 0 then
            rt (0)
          else
            bn (oGetR t 8 20) fun v55 =>
            bn (oSt 0 v55 a1 4) fun _ =>
            bn (oGetR t 8 23) fun v62 =>
            bn (oSt 0 v62 a1 a2) fun _ =>
            bn (oGetR t 8 24) fun v69 =>
            bn (oSt 0 v69 a1 a3) fun _ =>
            bn (oGetR t 8 25) fun v76 =>
            bn (oSt 0 v76 a1 a4) fun _ =>
            bn (oGetR t 8 26) fun v84 =>
            bn (oSt 0 v84 a1 a5) fun _ =>
            rt (1)
theorem n8_pieces (t : Option Nat) (a1 : Int32) (a2 : Int32) (a3 : Int32) (a4 : Int32) (a5 : Int32) : Mn (f8_pieces t a1 a2 a3 a4 a5) := by
  unfold f8_pieces
  repeat' first | with_reducible exact mn_rt | with_reducible exact mn_getI | with_reducible exact mn_getR | with_reducible exact mn_getL | with_reducible exact mn_putI | with_reducible exact mn_putR | with_reducible exact mn_putL | with_reducible exact mn_ld | with_reducible exact mn_ldR | with_reducible exact mn_st | with_reducible exact mn_stZ | with_reducible exact mn_stR | with_reducible exact mn_len | with_reducible exact mn_newO | with_reducible exact mn_newA | with_reducible exact mn_newR | with_reducible exact mn_clone | with_reducible exact mn_copy | with_reducible exact mn_obj | with_reducible exact mn_z | with_reducible exact n8_in _ _ _ | with_reducible exact hrec _ | with_reducible refine mn_ite ?_ ?_ | with_reducible refine mn_bn ?_ (fun _ => ?_) | with_reducible refine mn_sum (fun _ => ?_) (fun _ => ?_) _
abbrev m8_isFor : MI := (yX8_isFor, cX8_isFor, 4, (some .boolean), 0, 0)
noncomputable def f8_isFor (t : Option Nat) (a1 : Int32) (a2 : Int32) (a3 : Int32) : Cm (Int32) :=
  bn (oGetR t 8 43) fun v1 =>
  bn (oLd 0 v1 a1) fun v5 =>
  bn (α := (Int32) ⊕ (Unit)) (
    if v5 = (-1) then
      rt (.inr ())
    else
      bn (oGetR t 8 43) fun v11 =>
      bn (oLd 0 v11 a1) fun v15 =>
      if v15 = a2 then
        rt (.inr ())
      else
        rt (.inl (0))
  ) (Sum.elim (fun r => rt r) fun y20 =>
    bn (oGetR t 8 44) fun v21 =>
    bn (oLd 0 v21 a1) fun v25 =>
    if v25 = (-1) then
      rt (1)
    else
      bn (oGetR t 8 44) fun v31 =>
      bn (oLd 0 v31 a1) fun v35 =>
      if v35 = a3 then
        rt (1)
      else
        rt (0)
  )
theorem n8_isFor (t : Option Nat) (a1 : Int32) (a2 : Int32) (a3 : Int32) : Mn (f8_isFor t a1 a2 a3) := by
  unfold f8_isFor
  repeat' first | with_reducible exact mn_rt | with_reducible exact mn_getI | with_reducible exact mn_getR | with_reducible exact mn_getL | with_reducible exact mn_putI | with_reducible exact mn_putR | with_reducible exact mn_putL | with_reducible exact mn_ld | with_reducible exact mn_ldR | with_reducible exact mn_st | with_reducible exact mn_stZ | with_reducible exact mn_stR | with_reducible exact mn_len | with_reducible exact mn_newO | with_reducible exact mn_newA | with_reducible exact mn_newR | with_reducible exact mn_clone | with_reducible exact mn_copy | with_reducible exact mn_obj | with_reducible exact mn_z | with_reducible exact hrec _ | with_reducible refine mn_ite ?_ ?_ | with_reducible refine mn_bn ?_ (fun _ => ?_) | with_reducible refine mn_sum (fun _ => ?_) (fun _ => ?_) _
abbrev m8_quarrel : MI := (yX8_quarrel, cX8_quarrel, 5, (some .int), 1, 23)
noncomputable def l8_quarrel_78 (t : Option Nat) (p1 : Int32) (p2 : Int32) (p3 : Int32) (rec : Int32 → Cm (((Int32) ⊕ (Unit)) ⊕ (Unit))) (x78 : Int32) : Cm (((Int32) ⊕ (Unit)) ⊕ (Unit)) :=
  if 3 ≤ x78 then
    rt (.inr ())
  else
    bn (oObj t 8) fun _ =>
    bn (f8_isFor t p1 p3 x78) fun v89 =>
    if v89 = 0 then
      rec (x78 + 1)
    else
      bn (oObj t 8) fun _ =>
      bn (f8_isFor t p2 p3 x78) fun v100 =>
      if v100 = 0 then
        rec (x78 + 1)
      else
        rt (.inl (.inl (((10 * p3) + x78))))
noncomputable def l8_quarrel_69 (t : Option Nat) (p1 : Int32) (p2 : Int32) (rec : Int32 → Cm ((Int32) ⊕ (Unit))) (x69 : Int32) : Cm ((Int32) ⊕ (Unit)) :=
  if 10 ≤ x69 then
    rt (.inr ())
  else
    bn (fx (l8_quarrel_78 t p1 p2 x69) FUEL 0) (Sum.elim (fun r => rt r) fun y120 =>
      rec (x69 + 1)
    )
noncomputable def f8_quarrel (t : Option Nat) (a1 : Int32) (a2 : Int32) : Cm (Int32) :=
  bn (oGetI t 8 2) fun v3 =>
  bn (f8_in a1 0 (v3 - 1)) fun v8 =>
  if v8 = 0 then
    rt ((-1))
  else
    bn (oGetI t 8 2) fun v17 =>
    bn (f8_in a2 0 (v17 - 1)) fun v22 =>
    if v22 = 0 then
      rt ((-1))
    else
      if a1 = a2 then
        rt ((-1))
      else
        bn (oGetR t 8 45) fun v36 =>
        bn (oLd 0 v36 a1) fun v40 =>
        bn (oGetR t 8 45) fun v42 =>
        bn (oLd 0 v42 a2) fun v46 =>
        if v40 = v46 then
          bn (oGetR t 8 46) fun v51 =>
          bn (oLd 0 v51 a1) fun v55 =>
          bn (oGetR t 8 46) fun v57 =>
          bn (oLd 0 v57 a2) fun v61 =>
          if v55 = v61 then
            rt ((-1))
          else
            bn (fx (l8_quarrel_69 t a1 a2) FUEL 0) (Sum.elim (fun r => rt r) fun y126 =>
              rt ((-1))
            )
        else
          rt ((-1))
theorem k8_quarrel_78 (t : Option Nat) (p1 : Int32) (p2 : Int32) (p3 : Int32) (n : Nat) (x : Int32) : Mn (fx (l8_quarrel_78 t p1 p2 p3) n x) := by
  refine mn_fx (fun rec hrec x => ?_) n x
  unfold l8_quarrel_78
  repeat' first | with_reducible exact mn_rt | with_reducible exact mn_getI | with_reducible exact mn_getR | with_reducible exact mn_getL | with_reducible exact mn_putI | with_reducible exact mn_putR | with_reducible exact mn_putL | with_reducible exact mn_ld | with_reducible exact mn_ldR | with_reducible exact mn_st | with_reducible exact mn_stZ | with_reducible exact mn_stR | with_reducible exact mn_len | with_reducible exact mn_newO | with_reducible exact mn_newA | with_reducible exact mn_newR | with_reducible exact mn_clone | with_reducible exact mn_copy | with_reducible exact mn_obj | with_reducible exact mn_z | with_reducible exact n8_in _ _ _ | with_reducible exact n8_isFor _ _ _ _ | with_reducible exact hrec _ | with_reducible refine mn_ite ?_ ?_ | with_reducible refine mn_bn ?_ (fun _ => ?_) | with_reducible refine mn_sum (fun _ => ?_) (fun _ => ?_) _
theorem k8_quarrel_69 (t : Option Nat) (p1 : Int32) (p2 : Int32) (n : Nat) (x : Int32) : Mn (fx (l8_quarrel_69 t p1 p2) n x) := by
  refine mn_fx (fun rec hrec x => ?_) n x
  unfold l8_quarrel_69
  repeat' first | with_reducible exact mn_rt | with_reducible exact mn_getI | with_reducible exact mn_getR | with_reducible exact mn_getL | with_reducible exact mn_putI | with_reducible exact mn_putR | with_reducible exact mn_putL | with_reducible exact mn_ld | with_reducible exact mn_ldR | with_reducible exact mn_st | with_reducible exact mn_stZ | with_reducible exact mn_stR | with_reducible exact mn_len | with_reducible exact mn_newO | with_reducible exact mn_newA | with_reducible exact mn_newR | with_reducible exact mn_clone | with_reducible exact mn_copy | with_reducible exact mn_obj | with_reducible exact mn_z | with_reducible exact n8_in _ _ _ | with_reducible exact n8_isFor _ _ _ _ | with_reducible exact hrec _ | with_reducible exact k8_quarrel_78 _ _ _ _ _ _ | with_reducible refine mn_ite ?_ ?_ | with_reducible refine mn_bn ?_ (fun _ => ?_) | with_reducible refine mn_sum (fun _ => ?_) (fun _ => ?_) _
theorem n8_quarrel (t : Option Nat) (a1 : Int32) (a2 : Int32) : Mn (f8_quarrel t a1 a2) := by
  unfold f8_quarrel
  repeat' first | with_reducible exact mn_rt | with_reducible exact mn_getI | with_reducible exact mn_getR | with_reducible exact mn_getL | with_reducible exact mn_putI | with_reducible exact mn_putR | with_reducible exact mn_putL | with_reducible exact mn_ld | with_reducible exact mn_ldR | with_reducible exact mn_st | with_reducible exact mn_stZ | with_reducible exact mn_stR | with_reducible exact mn_len | with_reducible exact mn_newO | with_reducible exact mn_newA | with_reducible exact mn_newR | with_reducible exact mn_clone | with_reducible exact mn_copy | with_reducible exact mn_obj | with_reducible exact mn_z | with_reducible exact n8_in _ _ _ | with_reducible exact n8_isFor _ _ _ _ | with_reducible exact hrec _ | with_reducible exact k8_quarrel_78 _ _ _ _ _ _ | with_reducible exact k8_quarrel_69 _ _ _ _ _ | with_reducible refine mn_ite ?_ ?_ | with_reducible refine mn_bn ?_ (fun _ => ?_) | with_reducible refine mn_sum (fun _ => ?_) (fun _ => ?_) _
abbrev m8_insert : MI := (yX8_insert, cX8_insert, 7, none, 0, 0)
noncomputable def l8_insert_6 (t : Option Nat) (p1 : Int32) (p2 : Int32) (p3 : Int32) (p4 : Int32) (p5 : Int32) (rec : Int32 → Cm (Unit)) (x6 : Int32) : Cm (Unit) :=
  if x6 ≤ p1 then
    rt ()
  else
    bn (oGetR t 8 43) fun v13 =>
    bn (oGetR t 8 43) fun v19 =>
    bn (oLd 0 v19 (x6 - 1)) fun v26 =>
    bn (oSt 0 v13 x6 v26) fun _ =>
    bn (oGetR t 8 44) fun v29 =>
    bn (oGetR t 8 44) fun v35 =>
    bn (oLd 0 v35 (x6 - 1)) fun v42 =>
    bn (oSt 0 v29 x6 v42) fun _ =>
    bn (oGetR t 8 45) fun v45 =>
    bn (oGetR t 8 45) fun v51 =>
    bn (oLd 0 v51 (x6 - 1)) fun v58 =>
    bn (oSt 0 v45 x6 v58) fun _ =>
    bn (oGetR t 8 46) fun v61 =>
    bn (oGetR t 8 46) fun v67 =>
    bn (oLd 0 v67 (x6 - 1)) fun v74 =>
    bn (oSt 0 v61 x6 v74) fun _ =>
    rec (x6 + (-1))
noncomputable def f8_insert (t : Option Nat) (a1 : Int32) (a2 : Int32) (a3 : Int32) (a4 : Int32) (a5 : Int32) : Cm (Unit) :=
  bn (oGetI t 8 2) fun v1 =>
  bn (fx (l8_insert_6 t a1 a2 a3 a4 a5) FUEL v1) (fun y82 =>
    bn (oGetR t 8 43) fun v83 =>
    bn (oSt 0 v83 a1 a2) fun _ =>
    bn (oGetR t 8 44) fun v90 =>
    bn (oSt 0 v90 a1 a3) fun _ =>
    bn (oGetR t 8 45) fun v97 =>
    bn (oSt 0 v97 a1 a4) fun _ =>
    bn (oGetR t 8 46) fun v105 =>
    bn (oSt 0 v105 a1 a5) fun _ =>
    bn (oGetI t 8 2) fun v114 =>
    bn (oPutI t 8 2 (v114 + 1)) fun _ =>
    rt (())
  )
theorem k8_insert_6 (t : Option Nat) (p1 : Int32) (p2 : Int32) (p3 : Int32) (p4 : Int32) (p5 : Int32) (n : Nat) (x : Int32) : Mn (fx (l8_insert_6 t p1 p2 p3 p4 p5) n x) := by
  refine mn_fx (fun rec hrec x => ?_) n x
  unfold l8_insert_6
  repeat' first | with_reducible exact mn_rt | with_reducible exact mn_getI | with_reducible exact mn_getR | with_reducible exact mn_getL | with_reducible exact mn_putI | with_reducible exact mn_putR | with_reducible exact mn_putL | with_reducible exact mn_ld | with_reducible exact mn_ldR | with_reducible exact mn_st | with_reducible exact mn_stZ | with_reducible exact mn_stR | with_reducible exact mn_len | with_reducible exact mn_newO | with_reducible exact mn_newA | with_reducible exact mn_newR | with_reducible exact mn_clone | with_reducible exact mn_copy | with_reducible exact mn_obj | with_reducible exact mn_z | with_reducible exact hrec _ | with_reducible refine mn_ite ?_ ?_ | with_reducible refine mn_bn ?_ (fun _ => ?_) | with_reducible refine mn_sum (fun _ => ?_) (fun _ => ?_) _
theorem n8_insert (t : Option Nat) (a1 : Int32) (a2 : Int32) (a3 : Int32) (a4 : Int32) (a5 : Int32) : Mn (f8_insert t a1 a2 a3 a4 a5) := by
  unfold f8_insert
  repeat' first | with_reducible exact mn_rt | with_reducible exact mn_getI | with_reducible exact mn_getR | with_reducible exact mn_getL | with_reducible exact mn_putI | with_reducible exact mn_putR | with_reducible exact mn_putL | with_reducible exact mn_ld | with_reducible exact mn_ldR | with_reducible exact mn_st | with_reducible exact mn_stZ | with_reducible exact mn_stR | with_reducible exact mn_len | with_reducible exact mn_newO | with_reducible exact mn_newA | with_reducible exact mn_newR | with_reducible exact mn_clone | with_reducible exact mn_copy | with_reducible exact mn_obj | with_reducible exact mn_z | with_reducible exact hrec _ | with_reducible exact k8_insert_6 _ _ _ _ _ _ _ _ | with_reducible refine mn_ite ?_ ?_ | with_reducible refine mn_bn ?_ (fun _ => ?_) | with_reducible refine mn_sum (fun _ => ?_) (fun _ => ?_) _
abbrev m8_isRule : MI := (yX8_isRule, cX8_isRule, 6, (some .boolean), 1, 22)
noncomputable def f8_isRule (t : Option Nat) (a1 : Int32) (a2 : Int32) (a3 : Int32) (a4 : Int32) (a5 : Int32) : Cm (Int32) :=
  bn (oGetI t 8 2) fun v3 =>
  bn (f8_in a1 0 v3) fun v6 =>
  if v6 = 0 then
    rt (0)
  else
    bn (f8_in a2 (-1) 9) fun v16 =>
    if v16 = 0 then
      rt (0)
    else
      bn (f8_in a3 (-1) 2) fun v25 =>
      if v25 = 0 then
        rt (0)
      else
        bn (f8_in a4 0 7) fun v36 =>
        if v36 = 0 then
          rt (0)
        else
          bn (f8_in a5 0 4) fun v46 =>
          if v46 = 0 then
            rt (0)
          else
            rt (1)
theorem n8_isRule (t : Option Nat) (a1 : Int32) (a2 : Int32) (a3 : Int32) (a4 : Int32) (a5 : Int32) : Mn (f8_isRule t a1 a2 a3 a4 a5) := by
  unfold f8_isRule
  repeat' first | with_reducible exact mn_rt | with_reducible exact mn_getI | with_reducible exact mn_getR | with_reducible exact mn_getL | with_reducible exact mn_putI | with_reducible exact mn_putR | with_reducible exact mn_putL | with_reducible exact mn_ld | with_reducible exact mn_ldR | with_reducible exact mn_st | with_reducible exact mn_stZ | with_reducible exact mn_stR | with_reducible exact mn_len | with_reducible exact mn_newO | with_reducible exact mn_newA | with_reducible exact mn_newR | with_reducible exact mn_clone | with_reducible exact mn_copy | with_reducible exact mn_obj | with_reducible exact mn_z | with_reducible exact n8_in _ _ _ | with_reducible exact hrec _ | with_reducible refine mn_ite ?_ ?_ | with_reducible refine mn_bn ?_ (fun _ => ?_) | with_reducible refine mn_sum (fun _ => ?_) (fun _ => ?_) _
abbrev m8_rule : MI := (yX8_rule, cX8_rule, 6, (some .int), 2, 47)
noncomputable def f8_rule (t : Option Nat) (a1 : Int32) (a2 : Int32) (a3 : Int32) (a4 : Int32) (a5 : Int32) : Cm (Int32) :=
  bn (oObj t 8) fun _ =>
  bn (f8_isRule t a1 a2 a3 a4 a5) fun v8 =>
  if v8 = 0 then
    rt ((-1))
  else
    bn (oGetI t 8 2) fun v15 =>
    if v15 = 20 then
      rt ((-1))
    else
      bn (oObj t 8) fun _ =>
      bn (f8_insert t a1 a2 a3 a4 a5) fun _ =>
      bn (oGetI t 8 2) fun v37 =>
      rt (v37)
theorem n8_rule (t : Option Nat) (a1 : Int32) (a2 : Int32) (a3 : Int32) (a4 : Int32) (a5 : Int32) : Mn (f8_rule t a1 a2 a3 a4 a5) := by
  unfold f8_rule
  repeat' first | with_reducible exact mn_rt | with_reducible exact mn_getI | with_reducible exact mn_getR | with_reducible exact mn_getL | with_reducible exact mn_putI | with_reducible exact mn_putR | with_reducible exact mn_putL | with_reducible exact mn_ld | with_reducible exact mn_ldR | with_reducible exact mn_st | with_reducible exact mn_stZ | with_reducible exact mn_stR | with_reducible exact mn_len | with_reducible exact mn_newO | with_reducible exact mn_newA | with_reducible exact mn_newR | with_reducible exact mn_clone | with_reducible exact mn_copy | with_reducible exact mn_obj | with_reducible exact mn_z | with_reducible exact n8_insert _ _ _ _ _ _ | with_reducible exact n8_isRule _ _ _ _ _ _ | with_reducible exact hrec _ | with_reducible refine mn_ite ?_ ?_ | with_reducible refine mn_bn ?_ (fun _ => ?_) | with_reducible refine mn_sum (fun _ => ?_) (fun _ => ?_) _
abbrev m8_longer : MI := (yX8_longer, cX8_longer, 3, (some (.array .int)), 0, 0)
noncomputable def l8_longer_9 (p0 : Option Nat) (p1 : Option Nat) (rec : Int32 → Cm (Unit)) (x9 : Int32) : Cm (Unit) :=
  bn (oLen 0 p0) fun v11 =>
  if v11 ≤ x9 then
    rt ()
  else
    bn (oLd 0 p0 x9) fun v19 =>
    bn (oSt 0 p1 x9 v19) fun _ =>
    rec (x9 + 1)
noncomputable def f8_longer (a1 : Option Nat) : Cm (Option Nat) :=
  bn (oLen 0 a1) fun v2 =>
  bn (oNewA 0 (2 * v2)) fun v4 =>
  bn (fx (l8_longer_9 a1 v4) FUEL 0) (fun y27 =>
    rt (v4)
  )
theorem k8_longer_9 (p0 : Option Nat) (p1 : Option Nat) (n : Nat) (x : Int32) : Mn (fx (l8_longer_9 p0 p1) n x) := by
  refine mn_fx (fun rec hrec x => ?_) n x
  unfold l8_longer_9
  repeat' first | with_reducible exact mn_rt | with_reducible exact mn_getI | with_reducible exact mn_getR | with_reducible exact mn_getL | with_reducible exact mn_putI | with_reducible exact mn_putR | with_reducible exact mn_putL | with_reducible exact mn_ld | with_reducible exact mn_ldR | with_reducible exact mn_st | with_reducible exact mn_stZ | with_reducible exact mn_stR | with_reducible exact mn_len | with_reducible exact mn_newO | with_reducible exact mn_newA | with_reducible exact mn_newR | with_reducible exact mn_clone | with_reducible exact mn_copy | with_reducible exact mn_obj | with_reducible exact mn_z | with_reducible exact hrec _ | with_reducible refine mn_ite ?_ ?_ | with_reducible refine mn_bn ?_ (fun _ => ?_) | with_reducible refine mn_sum (fun _ => ?_) (fun _ => ?_) _
theorem n8_longer (a1 : Option Nat) : Mn (f8_longer a1) := by
  unfold f8_longer
  repeat' first | with_reducible exact mn_rt | with_reducible exact mn_getI | with_reducible exact mn_getR | with_reducible exact mn_getL | with_reducible exact mn_putI | with_reducible exact mn_putR | with_reducible exact mn_putL | with_reducible exact mn_ld | with_reducible exact mn_ldR | with_reducible exact mn_st | with_reducible exact mn_stZ | with_reducible exact mn_stR | with_reducible exact mn_len | with_reducible exact mn_newO | with_reducible exact mn_newA | with_reducible exact mn_newR | with_reducible exact mn_clone | with_reducible exact mn_copy | with_reducible exact mn_obj | with_reducible exact mn_z | with_reducible exact hrec _ | with_reducible exact k8_longer_9 _ _ _ _ | with_reducible refine mn_ite ?_ ?_ | with_reducible refine mn_bn ?_ (fun _ => ?_) | with_reducible refine mn_sum (fun _ => ?_) (fun _ => ?_) _
abbrev m8_found : MI := (yX8_found, cX8_found, 5, none, 1, 22)
noncomputable def f8_found (t : Option Nat) (a1 : Int32) (a2 : Int32) (a3 : Int32) (a4 : Int32) : Cm (Unit) :=
  if a4 = 0 then
    rt (())
  else
    bn (oGetI t 8 42) fun v6 =>
    bn (oGetR t 8 39) fun v10 =>
    bn (oLen 0 v10) fun v13 =>
    bn (α := Unit) (
      if v6 = v13 then
        bn (oGetR t 8 39) fun v19 =>
        bn (f8_longer v19) fun v22 =>
        bn (oPutR t 8 39 v22) fun _ =>
        bn (oGetR t 8 40) fun v30 =>
        bn (f8_longer v30) fun v33 =>
        bn (oPutR t 8 40 v33) fun _ =>
        bn (oGetR t 8 41) fun v41 =>
        bn (f8_longer v41) fun v44 =>
        bn (oPutR t 8 41 v44) fun _ =>
        rt ()
      else
        rt ()
    ) (fun y50 =>
      bn (oGetR t 8 39) fun v51 =>
      bn (oGetI t 8 42) fun v55 =>
      bn (oGetR t 8 6) fun v59 =>
      bn (oLd 0 v59 a1) fun v63 =>
      bn (oSt 0 v51 v55 v63) fun _ =>
      bn (oGetR t 8 40) fun v66 =>
      bn (oGetI t 8 42) fun v70 =>
      bn (oGetR t 8 7) fun v74 =>
      bn (oLd 0 v74 a2) fun v78 =>
      bn (oSt 0 v66 v70 v78) fun _ =>
      bn (oGetR t 8 41) fun v81 =>
      bn (oGetI t 8 42) fun v85 =>
      bn (oSt 0 v81 v85 a3) fun _ =>
      bn (oGetI t 8 42) fun v92 =>
      bn (oPutI t 8 42 (v92 + 1)) fun _ =>
      rt (())
    )
theorem n8_found (t : Option Nat) (a1 : Int32) (a2 : Int32) (a3 : Int32) (a4 : Int32) : Mn (f8_found t a1 a2 a3 a4) := by
  unfold f8_found
  repeat' first | with_reducible exact mn_rt | with_reducible exact mn_getI | with_reducible exact mn_getR | with_reducible exact mn_getL | with_reducible exact mn_putI | with_reducible exact mn_putR | with_reducible exact mn_putL | with_reducible exact mn_ld | with_reducible exact mn_ldR | with_reducible exact mn_st | with_reducible exact mn_stZ | with_reducible exact mn_stR | with_reducible exact mn_len | with_reducible exact mn_newO | with_reducible exact mn_newA | with_reducible exact mn_newR | with_reducible exact mn_clone | with_reducible exact mn_copy | with_reducible exact mn_obj | with_reducible exact mn_z | with_reducible exact n8_longer _ | with_reducible exact hrec _ | with_reducible refine mn_ite ?_ ?_ | with_reducible refine mn_bn ?_ (fun _ => ?_) | with_reducible refine mn_sum (fun _ => ?_) (fun _ => ?_) _
abbrev m8_findParts : MI := (yX8_findParts, cX8_findParts, 8, (some .int), 3, 71)
noncomputable def l8_findParts_36 (t : Option Nat) (p2 : Int32) (p3 : Int32) (p4 : Int32) (p6 : Int32) (rec : (Int32 × Int32) → Cm (Int32)) (x36 : Int32 × Int32) : Cm (Int32) :=
  bn (oGetR t 8 18) fun v42 =>
  bn (oLd 0 v42 p3) fun v46 =>
  if v46 < (x36.2 + p4) then
    rt x36.1
  else
    bn (oObj t 8) fun _ =>
    bn (f8_stands t p3 x36.2 p4 p6) fun v58 =>
    if v58 = 0 then
      rec (x36.1, (x36.2 + 1))
    else
      bn (oGetR t 8 9) fun v66 =>
      bn (oLd 0 v66 p6) fun v71 =>
      bn (oGetR t 8 10) fun v73 =>
      bn (oLd 0 v73 ((p6 + p4) - 1)) fun v83 =>
      bn (oObj t 8) fun _ =>
      bn (f8_found t v71 v83 x36.2 p2) fun _ =>
      rec ((x36.1 + 1), (x36.2 + 1))
noncomputable def l8_findParts_21 (t : Option Nat) (p2 : Int32) (p3 : Int32) (p4 : Int32) (rec : (Int32 × Int32) → Cm (Int32)) (x21 : Int32 × Int32) : Cm (Int32) :=
  bn (oGetI t 8 11) fun v27 =>
  if v27 < (x21.2 + p4) then
    rt x21.1
  else
    bn (fx (l8_findParts_36 t p2 p3 p4 x21.2) FUEL (x21.1, 0)) (fun y99 =>
      rec (y99, (x21.2 + 1))
    )
noncomputable def f8_findParts (t : Option Nat) (a1 : Int32) (a2 : Int32) : Cm (Int32) :=
  bn (oGetR t 8 23) fun v1 =>
  bn (oLd 0 v1 a1) fun v5 =>
  bn (oGetR t 8 24) fun v8 =>
  bn (oLd 0 v8 a1) fun v12 =>
  bn (fx (l8_findParts_21 t a2 v5 v12) FUEL (0, 0)) (fun y105 =>
    rt (y105)
  )
theorem k8_findParts_36 (t : Option Nat) (p2 : Int32) (p3 : Int32) (p4 : Int32) (p6 : Int32) (n : Nat) (x : Int32 × Int32) : Mn (fx (l8_findParts_36 t p2 p3 p4 p6) n x) := by
  refine mn_fx (fun rec hrec x => ?_) n x
  unfold l8_findParts_36
  repeat' first | with_reducible exact mn_rt | with_reducible exact mn_getI | with_reducible exact mn_getR | with_reducible exact mn_getL | with_reducible exact mn_putI | with_reducible exact mn_putR | with_reducible exact mn_putL | with_reducible exact mn_ld | with_reducible exact mn_ldR | with_reducible exact mn_st | with_reducible exact mn_stZ | with_reducible exact mn_stR | with_reducible exact mn_len | with_reducible exact mn_newO | with_reducible exact mn_newA | with_reducible exact mn_newR | with_reducible exact mn_clone | with_reducible exact mn_copy | with_reducible exact mn_obj | with_reducible exact mn_z | with_reducible exact n8_found _ _ _ _ _ | with_reducible exact n8_stands _ _ _ _ _ | with_reducible exact hrec _ | with_reducible refine mn_ite ?_ ?_ | with_reducible refine mn_bn ?_ (fun _ => ?_) | with_reducible refine mn_sum (fun _ => ?_) (fun _ => ?_) _
theorem k8_findParts_21 (t : Option Nat) (p2 : Int32) (p3 : Int32) (p4 : Int32) (n : Nat) (x : Int32 × Int32) : Mn (fx (l8_findParts_21 t p2 p3 p4) n x) := by
  refine mn_fx (fun rec hrec x => ?_) n x
  unfold l8_findParts_21
  repeat' first | with_reducible exact mn_rt | with_reducible exact mn_getI | with_reducible exact mn_getR | with_reducible exact mn_getL | with_reducible exact mn_putI | with_reducible exact mn_putR | with_reducible exact mn_putL | with_reducible exact mn_ld | with_reducible exact mn_ldR | with_reducible exact mn_st | with_reducible exact mn_stZ | with_reducible exact mn_stR | with_reducible exact mn_len | with_reducible exact mn_newO | with_reducible exact mn_newA | with_reducible exact mn_newR | with_reducible exact mn_clone | with_reducible exact mn_copy | with_reducible exact mn_obj | with_reducible exact mn_z | with_reducible exact n8_found _ _ _ _ _ | with_reducible exact n8_stands _ _ _ _ _ | with_reducible exact hrec _ | with_reducible exact k8_findParts_36 _ _ _ _ _ _ _ | with_reducible refine mn_ite ?_ ?_ | with_reducible refine mn_bn ?_ (fun _ => ?_) | with_reducible refine mn_sum (fun _ => ?_) (fun _ => ?_) _
theorem n8_findParts (t : Option Nat) (a1 : Int32) (a2 : Int32) : Mn (f8_findParts t a1 a2) := by
  unfold f8_findParts
  repeat' first | with_reducible exact mn_rt | with_reducible exact mn_getI | with_reducible exact mn_getR | with_reducible exact mn_getL | with_reducible exact mn_putI | with_reducible exact mn_putR | with_reducible exact mn_putL | with_reducible exact mn_ld | with_reducible exact mn_ldR | with_reducible exact mn_st | with_reducible exact mn_stZ | with_reducible exact mn_stR | with_reducible exact mn_len | with_reducible exact mn_newO | with_reducible exact mn_newA | with_reducible exact mn_newR | with_reducible exact mn_clone | with_reducible exact mn_copy | with_reducible exact mn_obj | with_reducible exact mn_z | with_reducible exact n8_found _ _ _ _ _ | with_reducible exact n8_stands _ _ _ _ _ | with_reducible exact hrec _ | with_reducible exact k8_findParts_36 _ _ _ _ _ _ _ | with_reducible exact k8_findParts_21 _ _ _ _ _ _ | with_reducible refine mn_ite ?_ ?_ | with_reducible refine mn_bn ?_ (fun _ => ?_) | with_reducible refine mn_sum (fun _ => ?_) (fun _ => ?_) _
abbrev m8_readLetter : MI := (yX8_readLetter, cX8_readLetter, 2, none, 4, 94)
noncomputable def f8_readLetter (t : Option Nat) (a1 : Int32) : Cm (Unit) :=
  bn (oGetR t 8 28) fun v2 =>
  bn (oGetR t 8 29) fun v11 =>
  bn (oLd 0 v11 a1) fun v15 =>
  bn (oObj t 8) fun _ =>
  bn (f8_read t v2 (300 * a1) v15) fun _ =>
  rt (())
theorem n8_readLetter (t : Option Nat) (a1 : Int32) : Mn (f8_readLetter t a1) := by
  unfold f8_readLetter
  repeat' first | with_reducible exact mn_rt | with_reducible exact mn_getI | with_reducible exact mn_getR | with_reducible exact mn_getL | with_reducible exact mn_putI | with_reducible exact mn_putR | with_reducible exact mn_putL | with_reducible exact mn_ld | with_reducible exact mn_ldR | with_reducible exact mn_st | with_reducible exact mn_stZ | with_reducible exact mn_stR | with_reducible exact mn_len | with_reducible exact mn_newO | with_reducible exact mn_newA | with_reducible exact mn_newR | with_reducible exact mn_clone | with_reducible exact mn_copy | with_reducible exact mn_obj | with_reducible exact mn_z | with_reducible exact n8_read _ _ _ _ | with_reducible exact hrec _ | with_reducible refine mn_ite ?_ ?_ | with_reducible refine mn_bn ?_ (fun _ => ?_) | with_reducible refine mn_sum (fun _ => ?_) (fun _ => ?_) _
abbrev m8_isEnough : MI := (yX8_isEnough, cX8_isEnough, 4, (some .boolean), 5, 115)
noncomputable def l8_isEnough_6 (t : Option Nat) (p1 : Int32) (p2 : Int32) (rec : Int32 → Cm (Unit)) (x6 : Int32) : Cm (Unit) :=
  if p2 < x6 then
    rt ()
  else
    bn (oGetR t 8 30) fun v12 =>
    bn (oLd 0 v12 x6) fun v16 =>
    bn (oGetR t 8 30) fun v18 =>
    bn (oLd 0 v18 p2) fun v22 =>
    if v16 = v22 then
      bn (oGetR t 8 33) fun v27 =>
      bn (oLd 0 v27 p2) fun v31 =>
      bn (oGetR t 8 33) fun v33 =>
      bn (oLd 0 v33 x6) fun v37 =>
      bn (oGetR t 8 26) fun v40 =>
      bn (oLd 0 v40 p1) fun v44 =>
      if v44 < (v31 - v37) then
        rec (x6 + 1)
      else
        bn (oObj t 8) fun _ =>
        bn (f8_readLetter t x6) fun _ =>
        bn (oGetR t 8 23) fun v55 =>
        bn (oLd 0 v55 p1) fun v59 =>
        bn (oGetR t 8 24) fun v61 =>
        bn (oLd 0 v61 p1) fun v65 =>
        bn (oObj t 8) fun _ =>
        bn (f8_addParts t v59 v65) fun _ =>
        rec (x6 + 1)
    else
      rec (x6 + 1)
noncomputable def f8_isEnough (t : Option Nat) (a1 : Int32) (a2 : Int32) : Cm (Int32) :=
  bn (oObj t 8) fun _ =>
  bn (f8_noParts t ) fun _ =>
  bn (fx (l8_isEnough_6 t a1 a2) FUEL 0) (fun y75 =>
    bn (oObj t 8) fun _ =>
    bn (f8_readLetter t a2) fun _ =>
    bn (oGetR t 8 23) fun v82 =>
    bn (oLd 0 v82 a1) fun v86 =>
    bn (oObj t 8) fun _ =>
    bn (f8_partsHad t v86) fun v87 =>
    bn (oGetR t 8 25) fun v91 =>
    bn (oLd 0 v91 a1) fun v95 =>
    if v87 < v95 then
      rt (0)
    else
      rt (1)
  )
theorem k8_isEnough_6 (t : Option Nat) (p1 : Int32) (p2 : Int32) (n : Nat) (x : Int32) : Mn (fx (l8_isEnough_6 t p1 p2) n x) := by
  refine mn_fx (fun rec hrec x => ?_) n x
  unfold l8_isEnough_6
  repeat' first | with_reducible exact mn_rt | with_reducible exact mn_getI | with_reducible exact mn_getR | with_reducible exact mn_getL | with_reducible exact mn_putI | with_reducible exact mn_putR | with_reducible exact mn_putL | with_reducible exact mn_ld | with_reducible exact mn_ldR | with_reducible exact mn_st | with_reducible exact mn_stZ | with_reducible exact mn_stR | with_reducible exact mn_len | with_reducible exact mn_newO | with_reducible exact mn_newA | with_reducible exact mn_newR | with_reducible exact mn_clone | with_reducible exact mn_copy | with_reducible exact mn_obj | with_reducible exact mn_z | with_reducible exact n8_addParts _ _ _ | with_reducible exact n8_noParts _ | with_reducible exact n8_partsHad _ _ | with_reducible exact n8_readLetter _ _ | with_reducible exact hrec _ | with_reducible refine mn_ite ?_ ?_ | with_reducible refine mn_bn ?_ (fun _ => ?_) | with_reducible refine mn_sum (fun _ => ?_) (fun _ => ?_) _
theorem n8_isEnough (t : Option Nat) (a1 : Int32) (a2 : Int32) : Mn (f8_isEnough t a1 a2) := by
  unfold f8_isEnough
  repeat' first | with_reducible exact mn_rt | with_reducible exact mn_getI | with_reducible exact mn_getR | with_reducible exact mn_getL | with_reducible exact mn_putI | with_reducible exact mn_putR | with_reducible exact mn_putL | with_reducible exact mn_ld | with_reducible exact mn_ldR | with_reducible exact mn_st | with_reducible exact mn_stZ | with_reducible exact mn_stR | with_reducible exact mn_len | with_reducible exact mn_newO | with_reducible exact mn_newA | with_reducible exact mn_newR | with_reducible exact mn_clone | with_reducible exact mn_copy | with_reducible exact mn_obj | with_reducible exact mn_z | with_reducible exact n8_addParts _ _ _ | with_reducible exact n8_noParts _ | with_reducible exact n8_partsHad _ _ | with_reducible exact n8_readLetter _ _ | with_reducible exact hrec _ | with_reducible exact k8_isEnough_6 _ _ _ _ _ | with_reducible refine mn_ite ?_ ?_ | with_reducible refine mn_bn ?_ (fun _ => ?_) | with_reducible refine mn_sum (fun _ => ?_) (fun _ => ?_) _
abbrev m8_isMark : MI := (yX8_isMark, cX8_isMark, 4, (some .boolean), 1, 20)
noncomputable def l8_isMark_28 (t : Option Nat) (p1 : Int32) (p2 : Int32) (rec : Int32 → Cm ((Int32) ⊕ (Unit))) (x28 : Int32) : Cm ((Int32) ⊕ (Unit)) :=
  bn (oGetR t 8 22) fun v30 =>
  bn (oLd 0 v30 p1) fun v34 =>
  if v34 ≤ x28 then
    rt (.inr ())
  else
    bn (oGetR t 8 21) fun v39 =>
    bn (oLd 0 v39 ((300 * p1) + x28)) fun v49 =>
    bn (oGetR t 8 5) fun v51 =>
    bn (oGetR t 8 9) fun v55 =>
    bn (oLd 0 v55 p2) fun v59 =>
    bn (oLd 0 v51 (v59 + x28)) fun v62 =>
    bn (f8_small v62) fun v63 =>
    if v49 = v63 then
      rec (x28 + 1)
    else
      rt (.inl (0))
noncomputable def f8_isMark (t : Option Nat) (a1 : Int32) (a2 : Int32) : Cm (Int32) :=
  bn (oGetR t 8 10) fun v1 =>
  bn (oLd 0 v1 a2) fun v5 =>
  bn (oGetR t 8 9) fun v7 =>
  bn (oLd 0 v7 a2) fun v11 =>
  bn (oGetR t 8 22) fun v16 =>
  bn (oLd 0 v16 a1) fun v20 =>
  if ((v5 - v11) + 1) = v20 then
    bn (fx (l8_isMark_28 t a1 a2) FUEL 0) (Sum.elim (fun r => rt r) fun y77 =>
      rt (1)
    )
  else
    rt (0)
theorem k8_isMark_28 (t : Option Nat) (p1 : Int32) (p2 : Int32) (n : Nat) (x : Int32) : Mn (fx (l8_isMark_28 t p1 p2) n x) := by
  refine mn_fx (fun rec hrec x => ?_) n x
  unfold l8_isMark_28
  repeat' first | with_reducible exact mn_rt | with_reducible exact mn_getI | with_reducible exact mn_getR | with_reducible exact mn_getL | with_reducible exact mn_putI | with_reducible exact mn_putR | with_reducible exact mn_putL | with_reducible exact mn_ld | with_reducible exact mn_ldR | with_reducible exact mn_st | with_reducible exact mn_stZ | with_reducible exact mn_stR | with_reducible exact mn_len | with_reducible exact mn_newO | with_reducible exact mn_newA | with_reducible exact mn_newR | with_reducible exact mn_clone | with_reducible exact mn_copy | with_reducible exact mn_obj | with_reducible exact mn_z | with_reducible exact n8_small _ | with_reducible exact hrec _ | with_reducible refine mn_ite ?_ ?_ | with_reducible refine mn_bn ?_ (fun _ => ?_) | with_reducible refine mn_sum (fun _ => ?_) (fun _ => ?_) _
theorem n8_isMark (t : Option Nat) (a1 : Int32) (a2 : Int32) : Mn (f8_isMark t a1 a2) := by
  unfold f8_isMark
  repeat' first | with_reducible exact mn_rt | with_reducible exact mn_getI | with_reducible exact mn_getR | with_reducible exact mn_getL | with_reducible exact mn_putI | with_reducible exact mn_putR | with_reducible exact mn_putL | with_reducible exact mn_ld | with_reducible exact mn_ldR | with_reducible exact mn_st | with_reducible exact mn_stZ | with_reducible exact mn_stR | with_reducible exact mn_len | with_reducible exact mn_newO | with_reducible exact mn_newA | with_reducible exact mn_newR | with_reducible exact mn_clone | with_reducible exact mn_copy | with_reducible exact mn_obj | with_reducible exact mn_z | with_reducible exact n8_small _ | with_reducible exact hrec _ | with_reducible exact k8_isMark_28 _ _ _ _ _ | with_reducible refine mn_ite ?_ ?_ | with_reducible refine mn_bn ?_ (fun _ => ?_) | with_reducible refine mn_sum (fun _ => ?_) (fun _ => ?_) _
abbrev m8_find : MI := (yX8_find, cX8_find, 6, (some .int), 6, 138)
noncomputable def l8_find_16 (t : Option Nat) (p1 : Int32) (p3 : Int32) (rec : (Int32 × Int32) → Cm (Int32)) (x16 : Int32 × Int32) : Cm (Int32) :=
  bn (oGetI t 8 11) fun v19 =>
  if v19 ≤ x16.2 then
    rt x16.1
  else
    bn (oObj t 8) fun _ =>
    bn (f8_isMark t p1 x16.2) fun v29 =>
    if v29 = 0 then
      rec (x16.1, (x16.2 + 1))
    else
      bn (oGetR t 8 9) fun v37 =>
      bn (oLd 0 v37 x16.2) fun v42 =>
      bn (oGetR t 8 10) fun v44 =>
      bn (oLd 0 v44 x16.2) fun v49 =>
      bn (oObj t 8) fun _ =>
      bn (f8_found t v42 v49 (-1) p3) fun _ =>
      rec ((x16.1 + 1), (x16.2 + 1))
noncomputable def l8_find_80 (t : Option Nat) (p1 : Int32) (p3 : Int32) (rec : Int32 → Cm (Unit)) (x80 : Int32) : Cm (Unit) :=
  bn (oGetI t 8 14) fun v83 =>
  if v83 ≤ x80 then
    rt ()
  else
    bn (oGetI t 8 14) fun v90 =>
    bn (oGetR t 8 25) fun v94 =>
    bn (oLd 0 v94 p1) fun v98 =>
    if v90 < v98 then
      rt ()
    else
      bn (oGetR t 8 12) fun v104 =>
      bn (oLd 0 v104 x80) fun v109 =>
      bn (oGetR t 8 13) fun v111 =>
      bn (oLd 0 v111 x80) fun v116 =>
      bn (oObj t 8) fun _ =>
      bn (f8_found t v109 v116 (-1) p3) fun _ =>
      rec (x80 + 1)
noncomputable def f8_find (t : Option Nat) (a1 : Int32) (a2 : Int32) (a3 : Int32) : Cm (Int32) :=
  bn (oGetR t 8 20) fun v1 =>
  bn (oLd 0 v1 a1) fun v5 =>
  if v5 = 1 then
    bn (fx (l8_find_16 t a1 a3) FUEL (0, 0)) (fun y64 =>
      rt (y64)
    )
  else
    bn (oGetR t 8 20) fun v68 =>
    bn (oLd 0 v68 a1) fun v72 =>
    if v72 = 3 then
      bn (fx (l8_find_80 t a1 a3) FUEL 0) (fun y128 =>
        bn (oGetI t 8 14) fun v129 =>
        bn (oGetR t 8 25) fun v133 =>
        bn (oLd 0 v133 a1) fun v137 =>
        if v129 < v137 then
          rt (0)
        else
          bn (oGetI t 8 14) fun v142 =>
          rt (v142)
      )
    else
      bn (oGetR t 8 20) fun v151 =>
      bn (oLd 0 v151 a1) fun v155 =>
      bn (α := (Int32) ⊕ (Unit)) (
        if v155 = 4 then
          bn (oObj t 8) fun _ =>
          bn (f8_isEnough t a1 a2) fun v163 =>
          if v163 = 0 then
            rt (.inl (0))
          else
            rt (.inr ())
        else
          rt (.inr ())
      ) (Sum.elim (fun r => rt r) fun y171 =>
        bn (oGetR t 8 20) fun v172 =>
        bn (oLd 0 v172 a1) fun v176 =>
        bn (α := (Int32) ⊕ (Unit)) (
          if v176 = 2 then
            rt (.inr ())
          else
            bn (oGetR t 8 20) fun v182 =>
            bn (oLd 0 v182 a1) fun v186 =>
            if v186 = 4 then
              rt (.inr ())
            else
              rt (.inl (0))
        ) (Sum.elim (fun r => rt r) fun y191 =>
          bn (oObj t 8) fun _ =>
          bn (f8_findParts t a1 a3) fun v194 =>
          rt (v194)
        )
      )
theorem k8_find_16 (t : Option Nat) (p1 : Int32) (p3 : Int32) (n : Nat) (x : Int32 × Int32) : Mn (fx (l8_find_16 t p1 p3) n x) := by
  refine mn_fx (fun rec hrec x => ?_) n x
  unfold l8_find_16
  repeat' first | with_reducible exact mn_rt | with_reducible exact mn_getI | with_reducible exact mn_getR | with_reducible exact mn_getL | with_reducible exact mn_putI | with_reducible exact mn_putR | with_reducible exact mn_putL | with_reducible exact mn_ld | with_reducible exact mn_ldR | with_reducible exact mn_st | with_reducible exact mn_stZ | with_reducible exact mn_stR | with_reducible exact mn_len | with_reducible exact mn_newO | with_reducible exact mn_newA | with_reducible exact mn_newR | with_reducible exact mn_clone | with_reducible exact mn_copy | with_reducible exact mn_obj | with_reducible exact mn_z | with_reducible exact n8_findParts _ _ _ | with_reducible exact n8_found _ _ _ _ _ | with_reducible exact n8_isEnough _ _ _ | with_reducible exact n8_isMark _ _ _ | with_reducible exact hrec _ | with_reducible refine mn_ite ?_ ?_ | with_reducible refine mn_bn ?_ (fun _ => ?_) | with_reducible refine mn_sum (fun _ => ?_) (fun _ => ?_) _
theorem k8_find_80 (t : Option Nat) (p1 : Int32) (p3 : Int32) (n : Nat) (x : Int32) : Mn (fx (l8_find_80 t p1 p3) n x) := by
  refine mn_fx (fun rec hrec x => ?_) n x
  unfold l8_find_80
  repeat' first | with_reducible exact mn_rt | with_reducible exact mn_getI | with_reducible exact mn_getR | with_reducible exact mn_getL | with_reducible exact mn_putI | with_reducible exact mn_putR | with_reducible exact mn_putL | with_reducible exact mn_ld | with_reducible exact mn_ldR | with_reducible exact mn_st | with_reducible exact mn_stZ | with_reducible exact mn_stR | with_reducible exact mn_len | with_reducible exact mn_newO | with_reducible exact mn_newA | with_reducible exact mn_newR | with_reducible exact mn_clone | with_reducible exact mn_copy | with_reducible exact mn_obj | with_reducible exact mn_z | with_reducible exact n8_findParts _ _ _ | with_reducible exact n8_found _ _ _ _ _ | with_reducible exact n8_isEnough _ _ _ | with_reducible exact n8_isMark _ _ _ | with_reducible exact hrec _ | with_reducible exact k8_find_16 _ _ _ _ _ | with_reducible refine mn_ite ?_ ?_ | with_reducible refine mn_bn ?_ (fun _ => ?_) | with_reducible refine mn_sum (fun _ => ?_) (fun _ => ?_) _
theorem n8_find (t : Option Nat) (a1 : Int32) (a2 : Int32) (a3 : Int32) : Mn (f8_find t a1 a2 a3) := by
  unfold f8_find
  repeat' first | with_reducible exact mn_rt | with_reducible exact mn_getI | with_reducible exact mn_getR | with_reducible exact mn_getL | with_reducible exact mn_putI | with_reducible exact mn_putR | with_reducible exact mn_putL | with_reducible exact mn_ld | with_reducible exact mn_ldR | with_reducible exact mn_st | with_reducible exact mn_stZ | with_reducible exact mn_stR | with_reducible exact mn_len | with_reducible exact mn_newO | with_reducible exact mn_newA | with_reducible exact mn_newR | with_reducible exact mn_clone | with_reducible exact mn_copy | with_reducible exact mn_obj | with_reducible exact mn_z | with_reducible exact n8_findParts _ _ _ | with_reducible exact n8_found _ _ _ _ _ | with_reducible exact n8_isEnough _ _ _ | with_reducible exact n8_isMark _ _ _ | with_reducible exact hrec _ | with_reducible exact k8_find_16 _ _ _ _ _ | with_reducible exact k8_find_80 _ _ _ _ _ | with_reducible refine mn_ite ?_ ?_ | with_reducible refine mn_bn ?_ (fun _ => ?_) | with_reducible refine mn_sum (fun _ => ?_) (fun _ => ?_) _
abbrev m8_isHad : MI := (yX8_isHad, cX8_isHad, 3, (some .boolean), 7, 163)
noncomputable def f8_isHad (t : Option Nat) (a1 : Int32) (a2 : Int32) : Cm (Int32) :=
  bn (oGetR t 8 27) fun v1 =>
  bn (oGetR t 8 30) fun v9 =>
  bn (oLd 0 v9 a2) fun v13 =>
  bn (oGetR t 8 31) fun v19 =>
  bn (oLd 0 v19 a2) fun v23 =>
  bn (oLd 1 v1 ((((10 * a1) + v13) * 10) + v23)) fun v25 =>
  if v25 = 0 then
    bn (oObj t 8) fun _ =>
    bn (f8_find t a1 a2 0) fun v33 =>
    if v33 ≤ 0 then
      rt (0)
    else
      rt (1)
  else
    rt (0)
theorem n8_isHad (t : Option Nat) (a1 : Int32) (a2 : Int32) : Mn (f8_isHad t a1 a2) := by
  unfold f8_isHad
  repeat' first | with_reducible exact mn_rt | with_reducible exact mn_getI | with_reducible exact mn_getR | with_reducible exact mn_getL | with_reducible exact mn_putI | with_reducible exact mn_putR | with_reducible exact mn_putL | with_reducible exact mn_ld | with_reducible exact mn_ldR | with_reducible exact mn_st | with_reducible exact mn_stZ | with_reducible exact mn_stR | with_reducible exact mn_len | with_reducible exact mn_newO | with_reducible exact mn_newA | with_reducible exact mn_newR | with_reducible exact mn_clone | with_reducible exact mn_copy | with_reducible exact mn_obj | with_reducible exact mn_z | with_reducible exact n8_find _ _ _ _ | with_reducible exact hrec _ | with_reducible refine mn_ite ?_ ?_ | with_reducible refine mn_bn ?_ (fun _ => ?_) | with_reducible refine mn_sum (fun _ => ?_) (fun _ => ?_) _
abbrev m8_ruleFor : MI := (yX8_ruleFor, cX8_ruleFor, 5, (some .int), 8, 185)
noncomputable def l8_ruleFor_2 (t : Option Nat) (p1 : Int32) (rec : Int32 → Cm ((Int32) ⊕ (Unit))) (x2 : Int32) : Cm ((Int32) ⊕ (Unit)) :=
  bn (oGetI t 8 2) fun v4 =>
  if v4 ≤ x2 then
    rt (.inr ())
  else
    bn (oGetR t 8 43) fun v11 =>
    bn (oLd 0 v11 x2) fun v15 =>
    bn (α := Int32) (
      if v15 = (-1) then
        rt 1
      else
        bn (oGetR t 8 43) fun v21 =>
        bn (oLd 0 v21 x2) fun v25 =>
        bn (oGetR t 8 30) fun v27 =>
        bn (oLd 0 v27 p1) fun v31 =>
        if v25 = v31 then
          rt 1
        else
          rt 0
    ) (fun y40 =>
      bn (oGetR t 8 44) fun v42 =>
      bn (oLd 0 v42 x2) fun v46 =>
      bn (α := Int32) (
        if v46 = (-1) then
          rt 1
        else
          bn (oGetR t 8 44) fun v52 =>
          bn (oLd 0 v52 x2) fun v56 =>
          bn (oGetR t 8 32) fun v58 =>
          bn (oLd 0 v58 p1) fun v62 =>
          if v56 = v62 then
            rt 1
          else
            rt 0
      ) (fun y71 =>
        if y40 = 0 then
          rec (x2 + 1)
        else
          if y71 = 0 then
            rec (x2 + 1)
          else
            bn (oGetR t 8 45) fun v84 =>
            bn (oLd 0 v84 x2) fun v88 =>
            bn (oObj t 8) fun _ =>
            bn (f8_isHad t v88 p1) fun v90 =>
            if v90 = 0 then
              rec (x2 + 1)
            else
              rt (.inl (x2))
      )
    )
noncomputable def f8_ruleFor (t : Option Nat) (a1 : Int32) : Cm (Int32) :=
  bn (fx (l8_ruleFor_2 t a1) FUEL 0) (Sum.elim (fun r => rt r) fun y104 =>
    rt ((-1))
  )
theorem k8_ruleFor_2 (t : Option Nat) (p1 : Int32) (n : Nat) (x : Int32) : Mn (fx (l8_ruleFor_2 t p1) n x) := by
  refine mn_fx (fun rec hrec x => ?_) n x
  unfold l8_ruleFor_2
  repeat' first | with_reducible exact mn_rt | with_reducible exact mn_getI | with_reducible exact mn_getR | with_reducible exact mn_getL | with_reducible exact mn_putI | with_reducible exact mn_putR | with_reducible exact mn_putL | with_reducible exact mn_ld | with_reducible exact mn_ldR | with_reducible exact mn_st | with_reducible exact mn_stZ | with_reducible exact mn_stR | with_reducible exact mn_len | with_reducible exact mn_newO | with_reducible exact mn_newA | with_reducible exact mn_newR | with_reducible exact mn_clone | with_reducible exact mn_copy | with_reducible exact mn_obj | with_reducible exact mn_z | with_reducible exact n8_isHad _ _ _ | with_reducible exact hrec _ | with_reducible refine mn_ite ?_ ?_ | with_reducible refine mn_bn ?_ (fun _ => ?_) | with_reducible refine mn_sum (fun _ => ?_) (fun _ => ?_) _
theorem n8_ruleFor (t : Option Nat) (a1 : Int32) : Mn (f8_ruleFor t a1) := by
  unfold f8_ruleFor
  repeat' first | with_reducible exact mn_rt | with_reducible exact mn_getI | with_reducible exact mn_getR | with_reducible exact mn_getL | with_reducible exact mn_putI | with_reducible exact mn_putR | with_reducible exact mn_putL | with_reducible exact mn_ld | with_reducible exact mn_ldR | with_reducible exact mn_st | with_reducible exact mn_stZ | with_reducible exact mn_stR | with_reducible exact mn_len | with_reducible exact mn_newO | with_reducible exact mn_newA | with_reducible exact mn_newR | with_reducible exact mn_clone | with_reducible exact mn_copy | with_reducible exact mn_obj | with_reducible exact mn_z | with_reducible exact n8_isHad _ _ _ | with_reducible exact hrec _ | with_reducible exact k8_ruleFor_2 _ _ _ _ | with_reducible refine mn_ite ?_ ?_ | with_reducible refine mn_bn ?_ (fun _ => ?_) | with_reducible refine mn_sum (fun _ => ?_) (fun _ => ?_) _
abbrev m8_send : MI := (yX8_send, cX8_send, 6, (some .int), 9, 209)
noncomputable def l8_send_59 (t : Option Nat) (p1 : Int32) (p2 : Int32) (p3 : Int32) (p4 : Int32) (rec : Int32 → Cm (Unit)) (x59 : Int32) : Cm (Unit) :=
  bn (oGetI t 8 4) fun v62 =>
  if v62 ≤ x59 then
    rt ()
  else
    bn (oGetR t 8 28) fun v69 =>
    bn (oGetR t 8 3) fun v82 =>
    bn (oLd 0 v82 x59) fun v87 =>
    bn (oSt 0 v69 ((300 * p4) + x59) v87) fun _ =>
    rec (x59 + 1)
noncomputable def f8_send (t : Option Nat) (a1 : Int32) (a2 : Int32) (a3 : Int32) : Cm (Int32) :=
  bn (f8_in a1 0 9) fun v4 =>
  if v4 = 0 then
    rt ((-1))
  else
    bn (f8_in a2 0 9) fun v14 =>
    if v14 = 0 then
      rt ((-1))
    else
      bn (f8_in a3 0 2) fun v23 =>
      if v23 = 0 then
        rt ((-1))
      else
        bn (oGetI t 8 1) fun v30 =>
        if v30 = 60 then
          rt ((-1))
        else
          bn (oGetI t 8 1) fun v41 =>
          bn (oGetI t 8 1) fun v48 =>
          bn (oPutI t 8 1 (v48 + 1)) fun _ =>
          bn (fx (l8_send_59 t a1 a2 a3 v41) FUEL 0) (fun y95 =>
            bn (oGetR t 8 29) fun v96 =>
            bn (oGetI t 8 4) fun v102 =>
            bn (oSt 0 v96 v41 v102) fun _ =>
            bn (oPutI t 8 4 0) fun _ =>
            bn (oGetR t 8 30) fun v112 =>
            bn (oSt 0 v112 v41 a1) fun _ =>
            bn (oGetR t 8 31) fun v120 =>
            bn (oSt 0 v120 v41 a2) fun _ =>
            bn (oGetR t 8 32) fun v128 =>
            bn (oSt 0 v128 v41 a3) fun _ =>
            bn (oGetR t 8 33) fun v136 =>
            bn (oGetI t 8 0) fun v142 =>
            bn (oSt 0 v136 v41 v142) fun _ =>
            bn (oObj t 8) fun _ =>
            bn (f8_readLetter t v41) fun _ =>
            bn (oObj t 8) fun _ =>
            bn (f8_ruleFor t v41) fun v155 =>
            bn (oGetR t 8 34) fun v161 =>
            bn (α := Int32) (
              if v155 = (-1) then
                rt 0
              else
                bn (oGetR t 8 46) fun v177 =>
                bn (oLd 0 v177 v155) fun v182 =>
                rt v182
            ) (fun y183 =>
              bn (oSt 0 v161 v41 y183) fun _ =>
              bn (oGetR t 8 35) fun v185 =>
              bn (α := Int32) (
                if v155 = (-1) then
                  rt (-1)
                else
                  bn (oGetR t 8 45) fun v201 =>
                  bn (oLd 0 v201 v155) fun v206 =>
                  rt v206
              ) (fun y207 =>
                bn (oSt 0 v185 v41 y207) fun _ =>
                bn (oGetR t 8 36) fun v209 =>
                bn (oGetR t 8 34) fun v215 =>
                bn (oLd 0 v215 v41) fun v220 =>
                bn (α := Int32) (
                  if v220 ≤ 2 then
                    rt 0
                  else
                    rt 1
                ) (fun y230 =>
                  bn (oSt 0 v209 v41 y230) fun _ =>
                  bn (oGetR t 8 37) fun v232 =>
                  bn (oGetI t 8 42) fun v238 =>
                  bn (oSt 0 v232 v41 v238) fun _ =>
                  bn (oGetR t 8 38) fun v243 =>
                  if v155 = (-1) then
                    bn (oSt 0 v243 v41 0) fun _ =>
                    rt (v41)
                  else
                    bn (oGetR t 8 45) fun v260 =>
                    bn (oLd 0 v260 v155) fun v265 =>
                    bn (oObj t 8) fun _ =>
                    bn (f8_find t v265 v41 1) fun v269 =>
                    bn (oSt 0 v243 v41 v269) fun _ =>
                    rt (v41)
                )
              )
            )
          )
theorem k8_send_59 (t : Option Nat) (p1 : Int32) (p2 : Int32) (p3 : Int32) (p4 : Int32) (n : Nat) (x : Int32) : Mn (fx (l8_send_59 t p1 p2 p3 p4) n x) := by
  refine mn_fx (fun rec hrec x => ?_) n x
  unfold l8_send_59
  repeat' first | with_reducible exact mn_rt | with_reducible exact mn_getI | with_reducible exact mn_getR | with_reducible exact mn_getL | with_reducible exact mn_putI | with_reducible exact mn_putR | with_reducible exact mn_putL | with_reducible exact mn_ld | with_reducible exact mn_ldR | with_reducible exact mn_st | with_reducible exact mn_stZ | with_reducible exact mn_stR | with_reducible exact mn_len | with_reducible exact mn_newO | with_reducible exact mn_newA | with_reducible exact mn_newR | with_reducible exact mn_clone | with_reducible exact mn_copy | with_reducible exact mn_obj | with_reducible exact mn_z | with_reducible exact n8_find _ _ _ _ | with_reducible exact n8_in _ _ _ | with_reducible exact n8_readLetter _ _ | with_reducible exact n8_ruleFor _ _ | with_reducible exact hrec _ | with_reducible refine mn_ite ?_ ?_ | with_reducible refine mn_bn ?_ (fun _ => ?_) | with_reducible refine mn_sum (fun _ => ?_) (fun _ => ?_) _
theorem n8_send (t : Option Nat) (a1 : Int32) (a2 : Int32) (a3 : Int32) : Mn (f8_send t a1 a2 a3) := by
  unfold f8_send
  repeat' first | with_reducible exact mn_rt | with_reducible exact mn_getI | with_reducible exact mn_getR | with_reducible exact mn_getL | with_reducible exact mn_putI | with_reducible exact mn_putR | with_reducible exact mn_putL | with_reducible exact mn_ld | with_reducible exact mn_ldR | with_reducible exact mn_st | with_reducible exact mn_stZ | with_reducible exact mn_stR | with_reducible exact mn_len | with_reducible exact mn_newO | with_reducible exact mn_newA | with_reducible exact mn_newR | with_reducible exact mn_clone | with_reducible exact mn_copy | with_reducible exact mn_obj | with_reducible exact mn_z | with_reducible exact n8_find _ _ _ _ | with_reducible exact n8_in _ _ _ | with_reducible exact n8_readLetter _ _ | with_reducible exact n8_ruleFor _ _ | with_reducible exact hrec _ | with_reducible exact k8_send_59 _ _ _ _ _ _ _ | with_reducible refine mn_ite ?_ ?_ | with_reducible refine mn_bn ?_ (fun _ => ?_) | with_reducible refine mn_sum (fun _ => ?_) (fun _ => ?_) _
abbrev m8_state : MI := (yX8_state, cX8_state, 6, (some .int), 0, 0)
noncomputable def l8_state_10 (t : Option Nat) (p1 : Int32) (rec : (Int32 × Int32 × Int32 × Int32) → Cm (Int32 × Int32 × Int32)) (x10 : Int32 × Int32 × Int32 × Int32) : Cm (Int32 × Int32 × Int32) :=
  bn (oGetI t 8 1) fun v13 =>
  if v13 ≤ x10.2.2.2 then
    rt (x10.1, x10.2.1, x10.2.2.1)
  else
    bn (oGetR t 8 36) fun v21 =>
    bn (oLd 0 v21 x10.2.2.2) fun v26 =>
    bn (α := Int32) (
      if v26 = 1 then
        rt 1
      else
        rt 0
    ) (fun y36 =>
      bn (oGetR t 8 34) fun v40 =>
      bn (oLd 0 v40 x10.2.2.2) fun v45 =>
      bn (α := Int32) (
        if v45 = 1 then
          rt 1
        else
          rt 0
      ) (fun y55 =>
        bn (oGetR t 8 36) fun v60 =>
        bn (oLd 0 v60 x10.2.2.2) fun v65 =>
        if v65 = 2 then
          rec ((x10.1 + y36), (x10.2.1 + y55), (x10.2.2.1 + 1), (x10.2.2.2 + 1))
        else
          rec ((x10.1 + y36), (x10.2.1 + y55), (x10.2.2.1 + 0), (x10.2.2.2 + 1))
      )
    )
noncomputable def f8_state (t : Option Nat) (a1 : Int32) : Cm (Int32) :=
  bn (fx (l8_state_10 t a1) FUEL (0, 0, 0, 0)) (fun y84 =>
    if a1 = 0 then
      bn (oGetI t 8 0) fun v129 =>
      rt (v129)
    else
      if a1 = 1 then
        bn (oGetI t 8 1) fun v134 =>
        rt (v134)
      else
        if a1 = 2 then
          bn (oGetI t 8 2) fun v139 =>
          rt (v139)
        else
          if a1 = 3 then
            bn (oGetI t 8 4) fun v144 =>
            rt (v144)
          else
            if a1 = 4 then
              rt (y84.1)
            else
              if a1 = 5 then
                rt (y84.2.1)
              else
                if a1 = 6 then
                  rt (y84.2.2)
                else
                  rt ((-1))
  )
theorem k8_state_10 (t : Option Nat) (p1 : Int32) (n : Nat) (x : Int32 × Int32 × Int32 × Int32) : Mn (fx (l8_state_10 t p1) n x) := by
  refine mn_fx (fun rec hrec x => ?_) n x
  unfold l8_state_10
  repeat' first | with_reducible exact mn_rt | with_reducible exact mn_getI | with_reducible exact mn_getR | with_reducible exact mn_getL | with_reducible exact mn_putI | with_reducible exact mn_putR | with_reducible exact mn_putL | with_reducible exact mn_ld | with_reducible exact mn_ldR | with_reducible exact mn_st | with_reducible exact mn_stZ | with_reducible exact mn_stR | with_reducible exact mn_len | with_reducible exact mn_newO | with_reducible exact mn_newA | with_reducible exact mn_newR | with_reducible exact mn_clone | with_reducible exact mn_copy | with_reducible exact mn_obj | with_reducible exact mn_z | with_reducible exact hrec _ | with_reducible refine mn_ite ?_ ?_ | with_reducible refine mn_bn ?_ (fun _ => ?_) | with_reducible refine mn_sum (fun _ => ?_) (fun _ => ?_) _
theorem n8_state (t : Option Nat) (a1 : Int32) : Mn (f8_state t a1) := by
  unfold f8_state
  repeat' first | with_reducible exact mn_rt | with_reducible exact mn_getI | with_reducible exact mn_getR | with_reducible exact mn_getL | with_reducible exact mn_putI | with_reducible exact mn_putR | with_reducible exact mn_putL | with_reducible exact mn_ld | with_reducible exact mn_ldR | with_reducible exact mn_st | with_reducible exact mn_stZ | with_reducible exact mn_stR | with_reducible exact mn_len | with_reducible exact mn_newO | with_reducible exact mn_newA | with_reducible exact mn_newR | with_reducible exact mn_clone | with_reducible exact mn_copy | with_reducible exact mn_obj | with_reducible exact mn_z | with_reducible exact hrec _ | with_reducible exact k8_state_10 _ _ _ _ | with_reducible refine mn_ite ?_ ?_ | with_reducible refine mn_bn ?_ (fun _ => ?_) | with_reducible refine mn_sum (fun _ => ?_) (fun _ => ?_) _
abbrev m8_told : MI := (yX8_told, cX8_told, 3, (some .int), 2, 43)
noncomputable def f8_told (t : Option Nat) (a1 : Int32) (a2 : Int32) : Cm (Int32) :=
  bn (oObj t 8) fun _ =>
  bn (f8_isLetter t a1) fun v2 =>
  if v2 = 0 then
    rt ((-1))
  else
    if a2 = 0 then
      bn (oGetR t 8 30) fun v61 =>
      bn (oLd 0 v61 a1) fun v65 =>
      rt (v65)
    else
      if a2 = 1 then
        bn (oGetR t 8 31) fun v68 =>
        bn (oLd 0 v68 a1) fun v72 =>
        rt (v72)
      else
        if a2 = 2 then
          bn (oGetR t 8 32) fun v75 =>
          bn (oLd 0 v75 a1) fun v79 =>
          rt (v79)
        else
          if a2 = 3 then
            bn (oGetR t 8 33) fun v82 =>
            bn (oLd 0 v82 a1) fun v86 =>
            rt (v86)
          else
            if a2 = 4 then
              bn (oGetR t 8 34) fun v89 =>
              bn (oLd 0 v89 a1) fun v93 =>
              rt (v93)
            else
              if a2 = 5 then
                bn (oGetR t 8 35) fun v96 =>
                bn (oLd 0 v96 a1) fun v100 =>
                rt (v100)
              else
                if a2 = 6 then
                  bn (oGetR t 8 36) fun v103 =>
                  bn (oLd 0 v103 a1) fun v107 =>
                  rt (v107)
                else
                  if a2 = 7 then
                    bn (oGetR t 8 29) fun v110 =>
                    bn (oLd 0 v110 a1) fun v114 =>
                    rt (v114)
                  else
                    if a2 = 8 then
                      bn (oGetR t 8 38) fun v117 =>
                      bn (oLd 0 v117 a1) fun v121 =>
                      rt (v121)
                    else
                      rt ((-1))
theorem n8_told (t : Option Nat) (a1 : Int32) (a2 : Int32) : Mn (f8_told t a1 a2) := by
  unfold f8_told
  repeat' first | with_reducible exact mn_rt | with_reducible exact mn_getI | with_reducible exact mn_getR | with_reducible exact mn_getL | with_reducible exact mn_putI | with_reducible exact mn_putR | with_reducible exact mn_putL | with_reducible exact mn_ld | with_reducible exact mn_ldR | with_reducible exact mn_st | with_reducible exact mn_stZ | with_reducible exact mn_stR | with_reducible exact mn_len | with_reducible exact mn_newO | with_reducible exact mn_newA | with_reducible exact mn_newR | with_reducible exact mn_clone | with_reducible exact mn_copy | with_reducible exact mn_obj | with_reducible exact mn_z | with_reducible exact n8_isLetter _ _ | with_reducible exact hrec _ | with_reducible refine mn_ite ?_ ?_ | with_reducible refine mn_bn ?_ (fun _ => ?_) | with_reducible refine mn_sum (fun _ => ?_) (fun _ => ?_) _
abbrev m8_isOther : MI := (yX8_isOther, cX8_isOther, 3, (some .boolean), 9, 209)
noncomputable def f8_isOther (t : Option Nat) (a1 : Int32) : Cm (Int32) :=
  bn (oObj t 8) fun _ =>
  bn (f8_readLetter t a1) fun _ =>
  bn (oObj t 8) fun _ =>
  bn (f8_ruleFor t a1) fun v7 =>
  bn (α := Int32) (
    if v7 = (-1) then
      rt 0
    else
      bn (oGetR t 8 46) fun v21 =>
      bn (oLd 0 v21 v7) fun v25 =>
      rt v25
  ) (fun y26 =>
    bn (oGetR t 8 34) fun v27 =>
    bn (oLd 0 v27 a1) fun v31 =>
    if y26 = v31 then
      rt (0)
    else
      rt (1)
  )
theorem n8_isOther (t : Option Nat) (a1 : Int32) : Mn (f8_isOther t a1) := by
  unfold f8_isOther
  repeat' first | with_reducible exact mn_rt | with_reducible exact mn_getI | with_reducible exact mn_getR | with_reducible exact mn_getL | with_reducible exact mn_putI | with_reducible exact mn_putR | with_reducible exact mn_putL | with_reducible exact mn_ld | with_reducible exact mn_ldR | with_reducible exact mn_st | with_reducible exact mn_stZ | with_reducible exact mn_stR | with_reducible exact mn_len | with_reducible exact mn_newO | with_reducible exact mn_newA | with_reducible exact mn_newR | with_reducible exact mn_clone | with_reducible exact mn_copy | with_reducible exact mn_obj | with_reducible exact mn_z | with_reducible exact n8_readLetter _ _ | with_reducible exact n8_ruleFor _ _ | with_reducible exact hrec _ | with_reducible refine mn_ite ?_ ?_ | with_reducible refine mn_bn ?_ (fun _ => ?_) | with_reducible refine mn_sum (fun _ => ?_) (fun _ => ?_) _
abbrev m8_triedAt : MI := (yX8_triedAt, cX8_triedAt, 4, (some .int), 10, 231)
noncomputable def l8_triedAt_4 (t : Option Nat) (p1 : Int32) (rec : (Int32 × Int32) → Cm ((Int32) ⊕ (Int32))) (x4 : Int32 × Int32) : Cm ((Int32) ⊕ (Int32)) :=
  bn (oGetI t 8 1) fun v6 =>
  if v6 ≤ x4.2 then
    rt (.inr x4.1)
  else
    bn (oObj t 8) fun _ =>
    bn (f8_isOther t x4.2) fun v14 =>
    if v14 = 0 then
      rec (x4.1, (x4.2 + 1))
    else
      if x4.1 = p1 then
        rt (.inl (x4.2))
      else
        rec ((x4.1 + 1), (x4.2 + 1))
noncomputable def f8_triedAt (t : Option Nat) (a1 : Int32) : Cm (Int32) :=
  bn (fx (l8_triedAt_4 t a1) FUEL (0, 0)) (Sum.elim (fun r => rt r) fun y36 =>
    rt (((-1) - y36))
  )
theorem k8_triedAt_4 (t : Option Nat) (p1 : Int32) (n : Nat) (x : Int32 × Int32) : Mn (fx (l8_triedAt_4 t p1) n x) := by
  refine mn_fx (fun rec hrec x => ?_) n x
  unfold l8_triedAt_4
  repeat' first | with_reducible exact mn_rt | with_reducible exact mn_getI | with_reducible exact mn_getR | with_reducible exact mn_getL | with_reducible exact mn_putI | with_reducible exact mn_putR | with_reducible exact mn_putL | with_reducible exact mn_ld | with_reducible exact mn_ldR | with_reducible exact mn_st | with_reducible exact mn_stZ | with_reducible exact mn_stR | with_reducible exact mn_len | with_reducible exact mn_newO | with_reducible exact mn_newA | with_reducible exact mn_newR | with_reducible exact mn_clone | with_reducible exact mn_copy | with_reducible exact mn_obj | with_reducible exact mn_z | with_reducible exact n8_isOther _ _ | with_reducible exact hrec _ | with_reducible refine mn_ite ?_ ?_ | with_reducible refine mn_bn ?_ (fun _ => ?_) | with_reducible refine mn_sum (fun _ => ?_) (fun _ => ?_) _
theorem n8_triedAt (t : Option Nat) (a1 : Int32) : Mn (f8_triedAt t a1) := by
  unfold f8_triedAt
  repeat' first | with_reducible exact mn_rt | with_reducible exact mn_getI | with_reducible exact mn_getR | with_reducible exact mn_getL | with_reducible exact mn_putI | with_reducible exact mn_putR | with_reducible exact mn_putL | with_reducible exact mn_ld | with_reducible exact mn_ldR | with_reducible exact mn_st | with_reducible exact mn_stZ | with_reducible exact mn_stR | with_reducible exact mn_len | with_reducible exact mn_newO | with_reducible exact mn_newA | with_reducible exact mn_newR | with_reducible exact mn_clone | with_reducible exact mn_copy | with_reducible exact mn_obj | with_reducible exact mn_z | with_reducible exact n8_isOther _ _ | with_reducible exact hrec _ | with_reducible exact k8_triedAt_4 _ _ _ _ | with_reducible refine mn_ite ?_ ?_ | with_reducible refine mn_bn ?_ (fun _ => ?_) | with_reducible refine mn_sum (fun _ => ?_) (fun _ => ?_) _
abbrev m8_trial : MI := (yX8_trial, cX8_trial, 7, (some .int), 11, 254)
noncomputable def f8_trial (t : Option Nat) (a1 : Int32) (a2 : Int32) (a3 : Int32) (a4 : Int32) (a5 : Int32) : Cm (Int32) :=
  bn (oObj t 8) fun _ =>
  bn (f8_isRule t a1 a2 a3 a4 a5) fun v8 =>
  if v8 = 0 then
    rt ((-1))
  else
    bn (oObj t 8) fun _ =>
    bn (f8_insert t a1 a2 a3 a4 a5) fun _ =>
    bn (oObj t 8) fun _ =>
    bn (f8_triedAt t 60) fun v31 =>
    bn (oObj t 8) fun _ =>
    bn (f8_remove t a1) fun _ =>
    rt (((-1) - v31))
theorem n8_trial (t : Option Nat) (a1 : Int32) (a2 : Int32) (a3 : Int32) (a4 : Int32) (a5 : Int32) : Mn (f8_trial t a1 a2 a3 a4 a5) := by
  unfold f8_trial
  repeat' first | with_reducible exact mn_rt | with_reducible exact mn_getI | with_reducible exact mn_getR | with_reducible exact mn_getL | with_reducible exact mn_putI | with_reducible exact mn_putR | with_reducible exact mn_putL | with_reducible exact mn_ld | with_reducible exact mn_ldR | with_reducible exact mn_st | with_reducible exact mn_stZ | with_reducible exact mn_stR | with_reducible exact mn_len | with_reducible exact mn_newO | with_reducible exact mn_newA | with_reducible exact mn_newR | with_reducible exact mn_clone | with_reducible exact mn_copy | with_reducible exact mn_obj | with_reducible exact mn_z | with_reducible exact n8_insert _ _ _ _ _ _ | with_reducible exact n8_isRule _ _ _ _ _ _ | with_reducible exact n8_remove _ _ | with_reducible exact n8_triedAt _ _ | with_reducible exact hrec _ | with_reducible refine mn_ite ?_ ?_ | with_reducible refine mn_bn ?_ (fun _ => ?_) | with_reducible refine mn_sum (fun _ => ?_) (fun _ => ?_) _
abbrev m8_tried : MI := (yX8_tried, cX8_tried, 8, (some .int), 11, 254)
noncomputable def f8_tried (t : Option Nat) (a1 : Int32) (a2 : Int32) (a3 : Int32) (a4 : Int32) (a5 : Int32) (a6 : Int32) : Cm (Int32) :=
  bn (oObj t 8) fun _ =>
  bn (f8_isRule t a1 a2 a3 a4 a5) fun v8 =>
  if v8 = 0 then
    rt ((-1))
  else
    if 0 ≤ a6 then
      bn (oObj t 8) fun _ =>
      bn (f8_insert t a1 a2 a3 a4 a5) fun _ =>
      bn (oObj t 8) fun _ =>
      bn (f8_triedAt t a6) fun v35 =>
      bn (oObj t 8) fun _ =>
      bn (f8_remove t a1) fun _ =>
      rt ((jmax (-1) v35))
    else
      rt ((-1))
theorem n8_tried (t : Option Nat) (a1 : Int32) (a2 : Int32) (a3 : Int32) (a4 : Int32) (a5 : Int32) (a6 : Int32) : Mn (f8_tried t a1 a2 a3 a4 a5 a6) := by
  unfold f8_tried
  repeat' first | with_reducible exact mn_rt | with_reducible exact mn_getI | with_reducible exact mn_getR | with_reducible exact mn_getL | with_reducible exact mn_putI | with_reducible exact mn_putR | with_reducible exact mn_putL | with_reducible exact mn_ld | with_reducible exact mn_ldR | with_reducible exact mn_st | with_reducible exact mn_stZ | with_reducible exact mn_stR | with_reducible exact mn_len | with_reducible exact mn_newO | with_reducible exact mn_newA | with_reducible exact mn_newR | with_reducible exact mn_clone | with_reducible exact mn_copy | with_reducible exact mn_obj | with_reducible exact mn_z | with_reducible exact n8_insert _ _ _ _ _ _ | with_reducible exact n8_isRule _ _ _ _ _ _ | with_reducible exact n8_remove _ _ | with_reducible exact n8_triedAt _ _ | with_reducible exact hrec _ | with_reducible refine mn_ite ?_ ?_ | with_reducible refine mn_bn ?_ (fun _ => ?_) | with_reducible refine mn_sum (fun _ => ?_) (fun _ => ?_) _
abbrev m8_words : MI := (yX8_words, cX8_words, 1, (some .int), 4, 94)
noncomputable def f8_words (t : Option Nat) : Cm (Int32) :=
  bn (oGetR t 8 3) fun v2 =>
  bn (oGetI t 8 4) fun v7 =>
  bn (oObj t 8) fun _ =>
  bn (f8_read t v2 0 v7) fun _ =>
  bn (oGetI t 8 11) fun v14 =>
  rt (v14)
theorem n8_words (t : Option Nat) : Mn (f8_words t) := by
  unfold f8_words
  repeat' first | with_reducible exact mn_rt | with_reducible exact mn_getI | with_reducible exact mn_getR | with_reducible exact mn_getL | with_reducible exact mn_putI | with_reducible exact mn_putR | with_reducible exact mn_putL | with_reducible exact mn_ld | with_reducible exact mn_ldR | with_reducible exact mn_st | with_reducible exact mn_stZ | with_reducible exact mn_stR | with_reducible exact mn_len | with_reducible exact mn_newO | with_reducible exact mn_newA | with_reducible exact mn_newR | with_reducible exact mn_clone | with_reducible exact mn_copy | with_reducible exact mn_obj | with_reducible exact mn_z | with_reducible exact n8_read _ _ _ _ | with_reducible exact hrec _ | with_reducible refine mn_ite ?_ ?_ | with_reducible refine mn_bn ?_ (fun _ => ?_) | with_reducible refine mn_sum (fun _ => ?_) (fun _ => ?_) _
