theorem oi_RX0_3 : Cond.methodLink RX0 3 objectInit ∈ TB ∧ Cond.instanceMethod objectInit ∈ TB ∧ Cond.code objectInit ⟨#[0xb1]⟩ 1 none ∈ TB := ⟨tb_in (by decide +kernel) rfl, tb_in (by decide +kernel) rfl, tb_in (by decide +kernel) rfl⟩
theorem fl_RX0_9 : Cond.fieldLink RX0 9 (TF 0 1).1 (TF 0 1).2.1 (TF 0 1).2.2.1 ∈ TB := tb_in (by decide +kernel) rfl
theorem fl_RX0_15 : Cond.fieldLink RX0 15 (TF 0 2).1 (TF 0 2).2.1 (TF 0 2).2.2.1 ∈ TB := tb_in (by decide +kernel) rfl
theorem fl_RX0_18 : Cond.fieldLink RX0 18 (TF 0 3).1 (TF 0 3).2.1 (TF 0 3).2.2.1 ∈ TB := tb_in (by decide +kernel) rfl
theorem fl_RX0_21 : Cond.fieldLink RX0 21 (TF 0 4).1 (TF 0 4).2.1 (TF 0 4).2.2.1 ∈ TB := tb_in (by decide +kernel) rfl
def rm_X0_init : Room := { frames := 1, cells := 4, slots := 48, locals := 12 }
def f_X0_init (fu : Nat) (x0 : Nat) (h : Hp) : Option (Unit × Hp) :=
  if h.K x0 = 0 then
    (pR (newC h 8 12) 0 x0 1 (some (Hp.N h))).bind fun h9 =>
    (pR (newC h9 8 12) 0 x0 2 (some (Hp.N h9))).bind fun h17 =>
    (pR (newC h17 8 12) 0 x0 3 (some (Hp.N h17))).bind fun h25 =>
    (pR (newC h25 8 12) 0 x0 4 (some (Hp.N h25))).bind fun h33 =>
    some ((), h33)
  else none
set_option maxHeartbeats 4000000 in
set_option maxRecDepth 100000 in
theorem c_X0_init (l : Launch) (D : Dx) (fu : Nat) (x0 : Nat) (h : Hp) (out : Unit × Hp) (ho : f_X0_init fu x0 h = some out) : Ct l D yX0_init cX0_init 1 none rm_X0_init [.ref x0] h (evU out.1) out.2 := by
  refine Ct.of (o := f_X0_init fu x0 h) (lv := [some (.ref x0)]) (by decide) (Nat.le_of_ble_eq_true rfl) rfl ?_ out ho
  intro X hXl hE hin
  replace hE : En X D cX0_init 1 RX0 none rm_X0_init := hE
  subst hXl
  replace hin : X.meth.name = "<init>" := hin
  unfold f_X0_init
  refine Wo_grd (fun _ => ?_)
  refine r_aload_n (pc := 0) hE dX0_init_0 rfl ?_
  refine r_objInit (pc := 1) hE oi_RX0_3 ⟨Nat.le_of_ble_eq_true rfl, Nat.le_of_ble_eq_true rfl⟩ dX0_init_1 ?_
  refine r_aload_n (pc := 4) hE dX0_init_4 rfl ?_
  refine r_bipush (v := 12) (pc := 5) hE dX0_init_5 (by decide) ?_
  refine r_newI (pc := 7) hE 12 (by decide) (by decide) (by decide) ar8 ⟨Nat.le_of_ble_eq_true rfl, Nat.le_of_ble_eq_true rfl⟩ dX0_init_7 ?_
  refine r_putF (pc := 9) hE hin 0 1 (by decide) (by decide) rfl (fun _ _ _ => rfl) fl_RX0_9 rfl rfl rfl dX0_init_9 (fun h9 _ => ?_)
  refine r_aload_n (pc := 12) hE dX0_init_12 rfl ?_
  refine r_bipush (v := 12) (pc := 13) hE dX0_init_13 (by decide) ?_
  refine r_newI (pc := 15) hE 12 (by decide) (by decide) (by decide) ar8 ⟨Nat.le_of_ble_eq_true rfl, Nat.le_of_ble_eq_true rfl⟩ dX0_init_15 ?_
  refine r_putF (pc := 17) hE hin 0 2 (by decide) (by decide) rfl (fun _ _ _ => rfl) fl_RX0_15 rfl rfl rfl dX0_init_17 (fun h17 _ => ?_)
  refine r_aload_n (pc := 20) hE dX0_init_20 rfl ?_
  refine r_bipush (v := 12) (pc := 21) hE dX0_init_21 (by decide) ?_
  refine r_newI (pc := 23) hE 12 (by decide) (by decide) (by decide) ar8 ⟨Nat.le_of_ble_eq_true rfl, Nat.le_of_ble_eq_true rfl⟩ dX0_init_23 ?_
  refine r_putF (pc := 25) hE hin 0 3 (by decide) (by decide) rfl (fun _ _ _ => rfl) fl_RX0_18 rfl rfl rfl dX0_init_25 (fun h25 _ => ?_)
  refine r_aload_n (pc := 28) hE dX0_init_28 rfl ?_
  refine r_bipush (v := 12) (pc := 29) hE dX0_init_29 (by decide) ?_
  refine r_newI (pc := 31) hE 12 (by decide) (by decide) (by decide) ar8 ⟨Nat.le_of_ble_eq_true rfl, Nat.le_of_ble_eq_true rfl⟩ dX0_init_31 ?_
  refine r_putF (pc := 33) hE hin 0 4 (by decide) (by decide) rfl (fun _ _ _ => rfl) fl_RX0_21 rfl rfl rfl dX0_init_33 (fun h33 _ => ?_)
  exact r_vret (pc := 36) hE dX0_init_36
theorem k_X0_init {fu : Nat} {x0 : Nat} {h : Hp} {out : Unit × Hp} (ho : f_X0_init fu x0 h = some out) : h.K x0 = 0 := (gi_k ho).1
theorem fl_RX0_24 : Cond.fieldLink RX0 24 (TF 0 0).1 (TF 0 0).2.1 (TF 0 0).2.2.1 ∈ TB := tb_in (by decide +kernel) rfl
def rm_X0_add : Room := { frames := 0, cells := 0, slots := 0, locals := 0 }
def f_X0_add (fu : Nat) (x0 : Nat) (x1 : Int32) (x2 : Int32) (x3 : Int32) (x4 : Int32) (h : Hp) : Option (Unit × Hp) :=
  if h.K x0 = 0 then
    (gI h 0 x0 0).bind fun v1 =>
    if v1 < 12 then
      (gR h 0 x0 1).bind fun v11 =>
      (gI h 0 x0 0).bind fun v15 =>
      (sI h 8 v11 v15 x1).bind fun h19 =>
      (gR h19 0 x0 2).bind fun v21 =>
      (gI h19 0 x0 0).bind fun v25 =>
      (sI h19 8 v21 v25 x2).bind fun h29 =>
      (gR h29 0 x0 3).bind fun v31 =>
      (gI h29 0 x0 0).bind fun v35 =>
      (sI h29 8 v31 v35 x3).bind fun h39 =>
      (gR h39 0 x0 4).bind fun v41 =>
      (gI h39 0 x0 0).bind fun v45 =>
      (sI h39 8 v41 v45 x4).bind fun h50 =>
      (gI h50 0 x0 0).bind fun v53 =>
      (pI h50 0 x0 0 (v53 + 1)).bind fun h58 =>
      some ((), h58)
    else
      some ((), h)
  else none
set_option maxHeartbeats 4000000 in
set_option maxRecDepth 100000 in
theorem c_X0_add (l : Launch) (D : Dx) (fu : Nat) (x0 : Nat) (x1 : Int32) (x2 : Int32) (x3 : Int32) (x4 : Int32) (h : Hp) (out : Unit × Hp) (ho : f_X0_add fu x0 x1 x2 x3 x4 h = some out) : Ct l D yX0_add cX0_add 5 none rm_X0_add [.ref x0, .int x1, .int x2, .int x3, .int x4] h (evU out.1) out.2 := by
  refine Ct.of (o := f_X0_add fu x0 x1 x2 x3 x4 h) (lv := [some (.ref x0), some (.int x1), some (.int x2), some (.int x3), some (.int x4)]) (by decide) (Nat.le_of_ble_eq_true rfl) rfl ?_ out ho
  intro X hXl hE hin
  replace hE : En X D cX0_add 5 RX0 none rm_X0_add := hE
  subst hXl
  unfold f_X0_add
  refine Wo_grd (fun _ => ?_)
  refine r_aload_n (pc := 0) hE dX0_add_0 rfl ?_
  refine r_getI (pc := 1) hE 0 0 (by decide) (by decide) (fun _ _ _ => rfl) fl_RX0_24 dX0_add_1 (fun v1 _ => ?_)
  refine r_bipush (v := 12) (pc := 4) hE dX0_add_4 (by decide) ?_
  refine r_icmp_lt (pc := 6) hE 10 dX0_add_6 (by decide) (fun _ => ?_) (fun _ => ?_)
  · refine r_aload_n (pc := 10) hE dX0_add_10 rfl ?_
    refine r_getR (pc := 11) hE 0 1 (by decide) (by decide) (fun _ _ _ => rfl) fl_RX0_9 dX0_add_11 (fun v11 _ => ?_)
    refine r_aload_n (pc := 14) hE dX0_add_14 rfl ?_
    refine r_getI (pc := 15) hE 0 0 (by decide) (by decide) (fun _ _ _ => rfl) fl_RX0_24 dX0_add_15 (fun v15 _ => ?_)
    refine r_iload_n (pc := 18) hE dX0_add_18 rfl ?_
    refine r_astI (pc := 19) hE dX0_add_19 (fun h19 _ => ?_)
    refine r_aload_n (pc := 20) hE dX0_add_20 rfl ?_
    refine r_getR (pc := 21) hE 0 2 (by decide) (by decide) (fun _ _ _ => rfl) fl_RX0_15 dX0_add_21 (fun v21 _ => ?_)
    refine r_aload_n (pc := 24) hE dX0_add_24 rfl ?_
    refine r_getI (pc := 25) hE 0 0 (by decide) (by decide) (fun _ _ _ => rfl) fl_RX0_24 dX0_add_25 (fun v25 _ => ?_)
    refine r_iload_n (pc := 28) hE dX0_add_28 rfl ?_
    refine r_astI (pc := 29) hE dX0_add_29 (fun h29 _ => ?_)
    refine r_aload_n (pc := 30) hE dX0_add_30 rfl ?_
    refine r_getR (pc := 31) hE 0 3 (by decide) (by decide) (fun _ _ _ => rfl) fl_RX0_18 dX0_add_31 (fun v31 _ => ?_)
    refine r_aload_n (pc := 34) hE dX0_add_34 rfl ?_
    refine r_getI (pc := 35) hE 0 0 (by decide) (by decide) (fun _ _ _ => rfl) fl_RX0_24 dX0_add_35 (fun v35 _ => ?_)
    refine r_iload_n (pc := 38) hE dX0_add_38 rfl ?_
    refine r_astI (pc := 39) hE dX0_add_39 (fun h39 _ => ?_)
    refine r_aload_n (pc := 40) hE dX0_add_40 rfl ?_
    refine r_getR (pc := 41) hE 0 4 (by decide) (by decide) (fun _ _ _ => rfl) fl_RX0_21 dX0_add_41 (fun v41 _ => ?_)
    refine r_aload_n (pc := 44) hE dX0_add_44 rfl ?_
    refine r_getI (pc := 45) hE 0 0 (by decide) (by decide) (fun _ _ _ => rfl) fl_RX0_24 dX0_add_45 (fun v45 _ => ?_)
    refine r_iload (pc := 48) hE dX0_add_48 rfl ?_
    refine r_astI (pc := 50) hE dX0_add_50 (fun h50 _ => ?_)
    refine r_aload_n (pc := 51) hE dX0_add_51 rfl ?_
    refine r_dup (pc := 52) hE dX0_add_52 rfl ?_
    refine r_getI (pc := 53) hE 0 0 (by decide) (by decide) (fun _ _ _ => rfl) fl_RX0_24 dX0_add_53 (fun v53 _ => ?_)
    refine r_iconst (v := 1) (pc := 56) hE dX0_add_56 (by decide) ?_
    refine r_iadd (pc := 57) hE dX0_add_57 ?_
    refine r_putI (pc := 58) hE 0 0 (by decide) (by decide) (fun _ _ _ => rfl) fl_RX0_24 rfl rfl rfl dX0_add_58 (fun h58 _ => ?_)
    exact r_vret (pc := 61) hE dX0_add_61
  · exact r_vret (pc := 9) hE dX0_add_9
theorem k_X0_add {fu : Nat} {x0 : Nat} {x1 : Int32} {x2 : Int32} {x3 : Int32} {x4 : Int32} {h : Hp} {out : Unit × Hp} (ho : f_X0_add fu x0 x1 x2 x3 x4 h = some out) : h.K x0 = 0 := (gi_k ho).1
def rm_X6_has : Room := { frames := 0, cells := 0, slots := 0, locals := 0 }
def f_X6_has (fu : Nat) (x0 : Int64) (x2 : Int32) (h : Hp) : Option (Int32 × Hp) :=
  if (lg_cmp ((lush x0 x2) &&& 1) 0) = 0 then
    some (0, h)
  else
    some (1, h)
set_option maxHeartbeats 4000000 in
set_option maxRecDepth 100000 in
theorem c_X6_has (l : Launch) (D : Dx) (fu : Nat) (x0 : Int64) (x2 : Int32) (h : Hp) (out : Int32 × Hp) (ho : f_X6_has fu x0 x2 h = some out) : Ct l D yX6_has cX6_has 3 (some .boolean) rm_X6_has [.long x0, .int x2] h (evI out.1) out.2 := by
  refine Ct.of (o := f_X6_has fu x0 x2 h) (lv := [some (.long x0), none, some (.int x2)]) (by decide) (Nat.le_of_ble_eq_true rfl) rfl ?_ out ho
  intro X hXl hE hin
  replace hE : En X D cX6_has 3 RX6 (some .boolean) rm_X6_has := hE
  subst hXl
  unfold f_X6_has
  refine r_lload_n (pc := 0) hE dX6_has_0 rfl ?_
  refine r_iload_n (pc := 1) hE dX6_has_1 rfl ?_
  refine r_lushr (pc := 2) hE dX6_has_2 ?_
  refine r_lconst (v := 1) (pc := 3) hE dX6_has_3 rfl ?_
  refine r_land (pc := 4) hE dX6_has_4 ?_
  refine r_lconst (v := 0) (pc := 5) hE dX6_has_5 rfl ?_
  refine r_lcmp (pc := 6) hE dX6_has_6 ?_
  refine r_if_eq (pc := 7) hE 14 dX6_has_7 (by decide) (fun _ => ?_) (fun _ => ?_)
  · refine r_iconst (v := 0) (pc := 14) hE dX6_has_14 (by decide) ?_
    exact r_zret (pc := 15) hE (by decide) dX6_has_15
  · refine r_iconst (v := 1) (pc := 10) hE dX6_has_10 (by decide) ?_
    refine r_goto (pc := 11) hE 15 dX6_has_11 (by decide) ?_
    exact r_zret (pc := 15) hE (by decide) dX6_has_15
theorem oi_RX2_3 : Cond.methodLink RX2 3 objectInit ∈ TB ∧ Cond.instanceMethod objectInit ∈ TB ∧ Cond.code objectInit ⟨#[0xb1]⟩ 1 none ∈ TB := ⟨tb_in (by decide +kernel) rfl, tb_in (by decide +kernel) rfl, tb_in (by decide +kernel) rfl⟩
theorem fl_RX2_9 : Cond.fieldLink RX2 9 (TF 2 0).1 (TF 2 0).2.1 (TF 2 0).2.2.1 ∈ TB := tb_in (by decide +kernel) rfl
theorem fl_RX2_15 : Cond.fieldLink RX2 15 (TF 2 1).1 (TF 2 1).2.1 (TF 2 1).2.2.1 ∈ TB := tb_in (by decide +kernel) rfl
def rm_X2_init : Room := { frames := 1, cells := 2, slots := 768, locals := 12 }
def f_X2_init (fu : Nat) (x0 : Nat) (h : Hp) : Option (Unit × Hp) :=
  if h.K x0 = 2 then
    (pR (newC h 8 384) 2 x0 0 (some (Hp.N h))).bind fun h10 =>
    (pR (newC h10 8 384) 2 x0 1 (some (Hp.N h10))).bind fun h19 =>
    some ((), h19)
  else none
set_option maxHeartbeats 4000000 in
set_option maxRecDepth 100000 in
theorem c_X2_init (l : Launch) (D : Dx) (fu : Nat) (x0 : Nat) (h : Hp) (out : Unit × Hp) (ho : f_X2_init fu x0 h = some out) : Ct l D yX2_init cX2_init 1 none rm_X2_init [.ref x0] h (evU out.1) out.2 := by
  refine Ct.of (o := f_X2_init fu x0 h) (lv := [some (.ref x0)]) (by decide) (Nat.le_of_ble_eq_true rfl) rfl ?_ out ho
  intro X hXl hE hin
  replace hE : En X D cX2_init 1 RX2 none rm_X2_init := hE
  subst hXl
  replace hin : X.meth.name = "<init>" := hin
  unfold f_X2_init
  refine Wo_grd (fun _ => ?_)
  refine r_aload_n (pc := 0) hE dX2_init_0 rfl ?_
  refine r_objInit (pc := 1) hE oi_RX2_3 ⟨Nat.le_of_ble_eq_true rfl, Nat.le_of_ble_eq_true rfl⟩ dX2_init_1 ?_
  refine r_aload_n (pc := 4) hE dX2_init_4 rfl ?_
  refine r_sipush (v := 384) (pc := 5) hE dX2_init_5 (by decide) ?_
  refine r_newI (pc := 8) hE 384 (by decide) (by decide) (by decide) ar8 ⟨Nat.le_of_ble_eq_true rfl, Nat.le_of_ble_eq_true rfl⟩ dX2_init_8 ?_
  refine r_putF (pc := 10) hE hin 2 0 (by decide) (by decide) rfl (fun _ _ _ => rfl) fl_RX2_9 rfl rfl rfl dX2_init_10 (fun h10 _ => ?_)
  refine r_aload_n (pc := 13) hE dX2_init_13 rfl ?_
  refine r_sipush (v := 384) (pc := 14) hE dX2_init_14 (by decide) ?_
  refine r_newI (pc := 17) hE 384 (by decide) (by decide) (by decide) ar8 ⟨Nat.le_of_ble_eq_true rfl, Nat.le_of_ble_eq_true rfl⟩ dX2_init_17 ?_
  refine r_putF (pc := 19) hE hin 2 1 (by decide) (by decide) rfl (fun _ _ _ => rfl) fl_RX2_15 rfl rfl rfl dX2_init_19 (fun h19 _ => ?_)
  exact r_vret (pc := 22) hE dX2_init_22
theorem k_X2_init {fu : Nat} {x0 : Nat} {h : Hp} {out : Unit × Hp} (ho : f_X2_init fu x0 h = some out) : h.K x0 = 2 := (gi_k ho).1
def rm_X2_set : Room := { frames := 0, cells := 0, slots := 0, locals := 0 }
def f_X2_set (fu : Nat) (x0 : Nat) (x1 : Int32) (x2 : Int32) (x3 : Int32) (h : Hp) : Option (Unit × Hp) :=
  if h.K x0 = 2 then
    (gR h 2 x0 0).bind fun v1 =>
    (sI h 8 v1 x1 x2).bind fun h6 =>
    (gR h6 2 x0 1).bind fun v8 =>
    (sI h6 8 v8 x1 x3).bind fun h13 =>
    some ((), h13)
  else none
set_option maxHeartbeats 4000000 in
set_option maxRecDepth 100000 in
theorem c_X2_set (l : Launch) (D : Dx) (fu : Nat) (x0 : Nat) (x1 : Int32) (x2 : Int32) (x3 : Int32) (h : Hp) (out : Unit × Hp) (ho : f_X2_set fu x0 x1 x2 x3 h = some out) : Ct l D yX2_set cX2_set 4 none rm_X2_set [.ref x0, .int x1, .int x2, .int x3] h (evU out.1) out.2 := by
  refine Ct.of (o := f_X2_set fu x0 x1 x2 x3 h) (lv := [some (.ref x0), some (.int x1), some (.int x2), some (.int x3)]) (by decide) (Nat.le_of_ble_eq_true rfl) rfl ?_ out ho
  intro X hXl hE hin
  replace hE : En X D cX2_set 4 RX2 none rm_X2_set := hE
  subst hXl
  unfold f_X2_set
  refine Wo_grd (fun _ => ?_)
  refine r_aload_n (pc := 0) hE dX2_set_0 rfl ?_
  refine r_getR (pc := 1) hE 2 0 (by decide) (by decide) (fun _ _ _ => rfl) fl_RX2_9 dX2_set_1 (fun v1 _ => ?_)
  refine r_iload_n (pc := 4) hE dX2_set_4 rfl ?_
  refine r_iload_n (pc := 5) hE dX2_set_5 rfl ?_
  refine r_astI (pc := 6) hE dX2_set_6 (fun h6 _ => ?_)
  refine r_aload_n (pc := 7) hE dX2_set_7 rfl ?_
  refine r_getR (pc := 8) hE 2 1 (by decide) (by decide) (fun _ _ _ => rfl) fl_RX2_15 dX2_set_8 (fun v8 _ => ?_)
  refine r_iload_n (pc := 11) hE dX2_set_11 rfl ?_
  refine r_iload_n (pc := 12) hE dX2_set_12 rfl ?_
  refine r_astI (pc := 13) hE dX2_set_13 (fun h13 _ => ?_)
  exact r_vret (pc := 14) hE dX2_set_14
theorem k_X2_set {fu : Nat} {x0 : Nat} {x1 : Int32} {x2 : Int32} {x3 : Int32} {h : Hp} {out : Unit × Hp} (ho : f_X2_set fu x0 x1 x2 x3 h = some out) : h.K x0 = 2 := (gi_k ho).1
theorem ac_RX2_18 : inT [.methodLink RX2 18 arraycopyName, .native arraycopyName, .static arraycopyName, .initialized "java/lang/System"] = true := by decide +kernel
def rm_X2_copyOf : Room := { frames := 1, cells := 0, slots := 0, locals := 40 }
def f_X2_copyOf (fu : Nat) (x0 : Nat) (x1 : Nat) (h : Hp) : Option (Unit × Hp) :=
  if h.K x0 = 2 then
    (gR h 2 x1 0).bind fun v1 =>
    (gR h 2 x0 0).bind fun v6 =>
    (gR h 2 x0 0).bind fun v11 =>
    (aN h v11).bind fun v14 =>
    (cpI h v1 0 v6 0 v14).bind fun h15 =>
    (gR h15 2 x1 1).bind fun v19 =>
    (gR h15 2 x0 1).bind fun v24 =>
    (gR h15 2 x0 1).bind fun v29 =>
    (aN h15 v29).bind fun v32 =>
    (cpI h15 v19 0 v24 0 v32).bind fun h33 =>
    some ((), h33)
  else none
set_option maxHeartbeats 4000000 in
set_option maxRecDepth 100000 in
theorem c_X2_copyOf (l : Launch) (D : Dx) (fu : Nat) (x0 : Nat) (x1 : Nat) (h : Hp) (out : Unit × Hp) (ho : f_X2_copyOf fu x0 x1 h = some out) : Ct l D yX2_copyOf cX2_copyOf 2 none rm_X2_copyOf [.ref x0, .ref x1] h (evU out.1) out.2 := by
  refine Ct.of (o := f_X2_copyOf fu x0 x1 h) (lv := [some (.ref x0), some (.ref x1)]) (by decide) (Nat.le_of_ble_eq_true rfl) rfl ?_ out ho
  intro X hXl hE hin
  replace hE : En X D cX2_copyOf 2 RX2 none rm_X2_copyOf := hE
  subst hXl
  unfold f_X2_copyOf
  refine Wo_grd (fun _ => ?_)
  refine r_aload_n (pc := 0) hE dX2_copyOf_0 rfl ?_
  refine r_getR (pc := 1) hE 2 0 (by decide) (by decide) (fun _ _ _ => rfl) fl_RX2_9 dX2_copyOf_1 (fun v1 _ => ?_)
  refine r_iconst (v := 0) (pc := 4) hE dX2_copyOf_4 (by decide) ?_
  refine r_aload_n (pc := 5) hE dX2_copyOf_5 rfl ?_
  refine r_getR (pc := 6) hE 2 0 (by decide) (by decide) (fun _ _ _ => rfl) fl_RX2_9 dX2_copyOf_6 (fun v6 _ => ?_)
  refine r_iconst (v := 0) (pc := 9) hE dX2_copyOf_9 (by decide) ?_
  refine r_aload_n (pc := 10) hE dX2_copyOf_10 rfl ?_
  refine r_getR (pc := 11) hE 2 0 (by decide) (by decide) (fun _ _ _ => rfl) fl_RX2_9 dX2_copyOf_11 (fun v11 _ => ?_)
  refine r_alen (pc := 14) hE dX2_copyOf_14 (fun v14 _ => ?_)
  refine r_copyI (pc := 15) hE ac_RX2_18 (Nat.le_of_ble_eq_true rfl) (Nat.le_of_ble_eq_true rfl) dX2_copyOf_15 (fun h15 _ => ?_)
  refine r_aload_n (pc := 18) hE dX2_copyOf_18 rfl ?_
  refine r_getR (pc := 19) hE 2 1 (by decide) (by decide) (fun _ _ _ => rfl) fl_RX2_15 dX2_copyOf_19 (fun v19 _ => ?_)
  refine r_iconst (v := 0) (pc := 22) hE dX2_copyOf_22 (by decide) ?_
  refine r_aload_n (pc := 23) hE dX2_copyOf_23 rfl ?_
  refine r_getR (pc := 24) hE 2 1 (by decide) (by decide) (fun _ _ _ => rfl) fl_RX2_15 dX2_copyOf_24 (fun v24 _ => ?_)
  refine r_iconst (v := 0) (pc := 27) hE dX2_copyOf_27 (by decide) ?_
  refine r_aload_n (pc := 28) hE dX2_copyOf_28 rfl ?_
  refine r_getR (pc := 29) hE 2 1 (by decide) (by decide) (fun _ _ _ => rfl) fl_RX2_15 dX2_copyOf_29 (fun v29 _ => ?_)
  refine r_alen (pc := 32) hE dX2_copyOf_32 (fun v32 _ => ?_)
  refine r_copyI (pc := 33) hE ac_RX2_18 (Nat.le_of_ble_eq_true rfl) (Nat.le_of_ble_eq_true rfl) dX2_copyOf_33 (fun h33 _ => ?_)
  exact r_vret (pc := 36) hE dX2_copyOf_36
theorem k_X2_copyOf {fu : Nat} {x0 : Nat} {x1 : Nat} {h : Hp} {out : Unit × Hp} (ho : f_X2_copyOf fu x0 x1 h = some out) : h.K x0 = 2 := (gi_k ho).1
theorem fl_RX6_52 : Cond.fieldLink RX6 52 (TF 6 5).1 (TF 6 5).2.1 (TF 6 5).2.2.1 ∈ TB := tb_in (by decide +kernel) rfl
def rm_X6_watchNow : Room := { frames := 0, cells := 0, slots := 0, locals := 0 }
def f_X6_watchNow (fu : Nat) (x0 : Nat) (h : Hp) : Option (Int32 × Hp) :=
  if h.K x0 = 6 then
    (gI h 6 x0 5).bind fun v1 =>
    some ((rem v1 6), h)
  else none
set_option maxHeartbeats 4000000 in
set_option maxRecDepth 100000 in
theorem c_X6_watchNow (l : Launch) (D : Dx) (fu : Nat) (x0 : Nat) (h : Hp) (out : Int32 × Hp) (ho : f_X6_watchNow fu x0 h = some out) : Ct l D yX6_watchNow cX6_watchNow 1 (some .int) rm_X6_watchNow [.ref x0] h (evI out.1) out.2 := by
  refine Ct.of (o := f_X6_watchNow fu x0 h) (lv := [some (.ref x0)]) (by decide) (Nat.le_of_ble_eq_true rfl) rfl ?_ out ho
  intro X hXl hE hin
  replace hE : En X D cX6_watchNow 1 RX6 (some .int) rm_X6_watchNow := hE
  subst hXl
  unfold f_X6_watchNow
  refine Wo_grd (fun _ => ?_)
  refine r_aload_n (pc := 0) hE dX6_watchNow_0 rfl ?_
  refine r_getI (pc := 1) hE 6 5 (by decide) (by decide) (fun _ _ _ => rfl) fl_RX6_52 dX6_watchNow_1 (fun v1 _ => ?_)
  refine r_bipush (v := 6) (pc := 4) hE dX6_watchNow_4 (by decide) ?_
  refine r_irem (pc := 6) hE dX6_watchNow_6 (by decide) ?_
  exact r_iret (pc := 7) hE dX6_watchNow_7
theorem k_X6_watchNow {fu : Nat} {x0 : Nat} {h : Hp} {out : Int32 × Hp} (ho : f_X6_watchNow fu x0 h = some out) : h.K x0 = 6 := (gi_k ho).1
def rm_X6_isWatch : Room := { frames := 0, cells := 0, slots := 0, locals := 0 }
def f_X6_isWatch (fu : Nat) (x0 : Int32) (h : Hp) : Option (Int32 × Hp) :=
  if x0 < 0 then
    some (0, h)
  else
    if 6 ≤ x0 then
      some (0, h)
    else
      some (1, h)
set_option maxHeartbeats 4000000 in
set_option maxRecDepth 100000 in
theorem c_X6_isWatch (l : Launch) (D : Dx) (fu : Nat) (x0 : Int32) (h : Hp) (out : Int32 × Hp) (ho : f_X6_isWatch fu x0 h = some out) : Ct l D yX6_isWatch cX6_isWatch 1 (some .boolean) rm_X6_isWatch [.int x0] h (evI out.1) out.2 := by
  refine Ct.of (o := f_X6_isWatch fu x0 h) (lv := [some (.int x0)]) (by decide) (Nat.le_of_ble_eq_true rfl) rfl ?_ out ho
  intro X hXl hE hin
  replace hE : En X D cX6_isWatch 1 RX6 (some .boolean) rm_X6_isWatch := hE
  subst hXl
  unfold f_X6_isWatch
  refine r_iload_n (pc := 0) hE dX6_isWatch_0 rfl ?_
  refine r_if_lt (pc := 1) hE 14 dX6_isWatch_1 (by decide) (fun _ => ?_) (fun _ => ?_)
  · refine r_iconst (v := 0) (pc := 14) hE dX6_isWatch_14 (by decide) ?_
    exact r_zret (pc := 15) hE (by decide) dX6_isWatch_15
  · refine r_iload_n (pc := 4) hE dX6_isWatch_4 rfl ?_
    refine r_bipush (v := 6) (pc := 5) hE dX6_isWatch_5 (by decide) ?_
    refine r_icmp_ge (pc := 7) hE 14 dX6_isWatch_7 (by decide) (fun _ => ?_) (fun _ => ?_)
    · refine r_iconst (v := 0) (pc := 14) hE dX6_isWatch_14 (by decide) ?_
      exact r_zret (pc := 15) hE (by decide) dX6_isWatch_15
    · refine r_iconst (v := 1) (pc := 10) hE dX6_isWatch_10 (by decide) ?_
      refine r_goto (pc := 11) hE 15 dX6_isWatch_11 (by decide) ?_
      exact r_zret (pc := 15) hE (by decide) dX6_isWatch_15
def rm_X6_isWatchSet : Room := { frames := 0, cells := 0, slots := 0, locals := 0 }
def f_X6_isWatchSet (fu : Nat) (x0 : Int32) (h : Hp) : Option (Int32 × Hp) :=
  if x0 < 0 then
    some (0, h)
  else
    if 64 ≤ x0 then
      some (0, h)
    else
      some (1, h)
set_option maxHeartbeats 4000000 in
set_option maxRecDepth 100000 in
theorem c_X6_isWatchSet (l : Launch) (D : Dx) (fu : Nat) (x0 : Int32) (h : Hp) (out : Int32 × Hp) (ho : f_X6_isWatchSet fu x0 h = some out) : Ct l D yX6_isWatchSet cX6_isWatchSet 1 (some .boolean) rm_X6_isWatchSet [.int x0] h (evI out.1) out.2 := by
  refine Ct.of (o := f_X6_isWatchSet fu x0 h) (lv := [some (.int x0)]) (by decide) (Nat.le_of_ble_eq_true rfl) rfl ?_ out ho
  intro X hXl hE hin
  replace hE : En X D cX6_isWatchSet 1 RX6 (some .boolean) rm_X6_isWatchSet := hE
  subst hXl
  unfold f_X6_isWatchSet
  refine r_iload_n (pc := 0) hE dX6_isWatchSet_0 rfl ?_
  refine r_if_lt (pc := 1) hE 14 dX6_isWatchSet_1 (by decide) (fun _ => ?_) (fun _ => ?_)
  · refine r_iconst (v := 0) (pc := 14) hE dX6_isWatchSet_14 (by decide) ?_
    exact r_zret (pc := 15) hE (by decide) dX6_isWatchSet_15
  · refine r_iload_n (pc := 4) hE dX6_isWatchSet_4 rfl ?_
    refine r_bipush (v := 64) (pc := 5) hE dX6_isWatchSet_5 (by decide) ?_
    refine r_icmp_ge (pc := 7) hE 14 dX6_isWatchSet_7 (by decide) (fun _ => ?_) (fun _ => ?_)
    · refine r_iconst (v := 0) (pc := 14) hE dX6_isWatchSet_14 (by decide) ?_
      exact r_zret (pc := 15) hE (by decide) dX6_isWatchSet_15
    · refine r_iconst (v := 1) (pc := 10) hE dX6_isWatchSet_10 (by decide) ?_
      refine r_goto (pc := 11) hE 15 dX6_isWatchSet_11 (by decide) ?_
      exact r_zret (pc := 15) hE (by decide) dX6_isWatchSet_15
def rm_X6_isWay : Room := { frames := 0, cells := 0, slots := 0, locals := 0 }
def f_X6_isWay (fu : Nat) (x0 : Int32) (h : Hp) : Option (Int32 × Hp) :=
  if x0 < 0 then
    some (0, h)
  else
    if 9 ≤ x0 then
      some (0, h)
    else
      some (1, h)
set_option maxHeartbeats 4000000 in
set_option maxRecDepth 100000 in
theorem c_X6_isWay (l : Launch) (D : Dx) (fu : Nat) (x0 : Int32) (h : Hp) (out : Int32 × Hp) (ho : f_X6_isWay fu x0 h = some out) : Ct l D yX6_isWay cX6_isWay 1 (some .boolean) rm_X6_isWay [.int x0] h (evI out.1) out.2 := by
  refine Ct.of (o := f_X6_isWay fu x0 h) (lv := [some (.int x0)]) (by decide) (Nat.le_of_ble_eq_true rfl) rfl ?_ out ho
  intro X hXl hE hin
  replace hE : En X D cX6_isWay 1 RX6 (some .boolean) rm_X6_isWay := hE
  subst hXl
  unfold f_X6_isWay
  refine r_iload_n (pc := 0) hE dX6_isWay_0 rfl ?_
  refine r_if_lt (pc := 1) hE 14 dX6_isWay_1 (by decide) (fun _ => ?_) (fun _ => ?_)
  · refine r_iconst (v := 0) (pc := 14) hE dX6_isWay_14 (by decide) ?_
    exact r_zret (pc := 15) hE (by decide) dX6_isWay_15
  · refine r_iload_n (pc := 4) hE dX6_isWay_4 rfl ?_
    refine r_bipush (v := 9) (pc := 5) hE dX6_isWay_5 (by decide) ?_
    refine r_icmp_ge (pc := 7) hE 14 dX6_isWay_7 (by decide) (fun _ => ?_) (fun _ => ?_)
    · refine r_iconst (v := 0) (pc := 14) hE dX6_isWay_14 (by decide) ?_
      exact r_zret (pc := 15) hE (by decide) dX6_isWay_15
    · refine r_iconst (v := 1) (pc := 10) hE dX6_isWay_10 (by decide) ?_
      refine r_goto (pc := 11) hE 15 dX6_isWay_11 (by decide) ?_
      exact r_zret (pc := 15) hE (by decide) dX6_isWay_15
def rm_X6_isSign : Room := { frames := 0, cells := 0, slots := 0, locals := 0 }
def f_X6_isSign (fu : Nat) (x0 : Int32) (h : Hp) : Option (Int32 × Hp) :=
  if x0 < 0 then
    some (0, h)
  else
    if 2 < x0 then
      some (0, h)
    else
      some (1, h)
set_option maxHeartbeats 4000000 in
set_option maxRecDepth 100000 in
theorem c_X6_isSign (l : Launch) (D : Dx) (fu : Nat) (x0 : Int32) (h : Hp) (out : Int32 × Hp) (ho : f_X6_isSign fu x0 h = some out) : Ct l D yX6_isSign cX6_isSign 1 (some .boolean) rm_X6_isSign [.int x0] h (evI out.1) out.2 := by
  refine Ct.of (o := f_X6_isSign fu x0 h) (lv := [some (.int x0)]) (by decide) (Nat.le_of_ble_eq_true rfl) rfl ?_ out ho
  intro X hXl hE hin
  replace hE : En X D cX6_isSign 1 RX6 (some .boolean) rm_X6_isSign := hE
  subst hXl
  unfold f_X6_isSign
  refine r_iload_n (pc := 0) hE dX6_isSign_0 rfl ?_
  refine r_if_lt (pc := 1) hE 13 dX6_isSign_1 (by decide) (fun _ => ?_) (fun _ => ?_)
  · refine r_iconst (v := 0) (pc := 13) hE dX6_isSign_13 (by decide) ?_
    exact r_zret (pc := 14) hE (by decide) dX6_isSign_14
  · refine r_iload_n (pc := 4) hE dX6_isSign_4 rfl ?_
    refine r_iconst (v := 2) (pc := 5) hE dX6_isSign_5 (by decide) ?_
    refine r_icmp_gt (pc := 6) hE 13 dX6_isSign_6 (by decide) (fun _ => ?_) (fun _ => ?_)
    · refine r_iconst (v := 0) (pc := 13) hE dX6_isSign_13 (by decide) ?_
      exact r_zret (pc := 14) hE (by decide) dX6_isSign_14
    · refine r_iconst (v := 1) (pc := 9) hE dX6_isSign_9 (by decide) ?_
      refine r_goto (pc := 10) hE 14 dX6_isSign_10 (by decide) ?_
      exact r_zret (pc := 14) hE (by decide) dX6_isSign_14
