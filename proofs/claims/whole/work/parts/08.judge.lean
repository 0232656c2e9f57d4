theorem oi_RX1_3 : Cond.methodLink RX1 3 objectInit ∈ TB ∧ Cond.instanceMethod objectInit ∈ TB ∧ Cond.code objectInit ⟨#[0xb1]⟩ 1 none ∈ TB := ⟨tb_in (by decide +kernel) rfl, tb_in (by decide +kernel) rfl, tb_in (by decide +kernel) rfl⟩
theorem nw_RX1_9 : Cond.classLink RX1 9 (RF 2) ∈ TB ∧ Cond.instantiable (RF 2) (nF 2) ∈ TB ∧ Cond.initialized (RF 2) ∈ TB := ⟨tb_in (by decide +kernel) rfl, tb_in (by decide +kernel) rfl, tb_in (by decide +kernel) rfl⟩
theorem cs_RX1_11 : csIN RX1 11 yX2_init cX2_init 1 0 = true := by decide +kernel
theorem fl_RX1_12 : Cond.fieldLink RX1 12 (TF 1 2).1 (TF 1 2).2.1 (TF 1 2).2.2.1 ∈ TB := tb_in (by decide +kernel) rfl
theorem fl_RX1_18 : Cond.fieldLink RX1 18 (TF 1 3).1 (TF 1 3).2.1 (TF 1 3).2.2.1 ∈ TB := tb_in (by decide +kernel) rfl
theorem fl_RX1_21 : Cond.fieldLink RX1 21 (TF 1 4).1 (TF 1 4).2.1 (TF 1 4).2.2.1 ∈ TB := tb_in (by decide +kernel) rfl
theorem fl_RX1_24 : Cond.fieldLink RX1 24 (TF 1 5).1 (TF 1 5).2.1 (TF 1 5).2.2.1 ∈ TB := tb_in (by decide +kernel) rfl
theorem fl_RX1_28 : Cond.fieldLink RX1 28 (TF 1 6).1 (TF 1 6).2.1 (TF 1 6).2.2.1 ∈ TB := tb_in (by decide +kernel) rfl
def rm_X1_init : Room := { frames := 2, cells := 11, slots := 2892, locals := 32 }
def f_X1_init (fu : Nat) (x0 : Nat) (h : Hp) : Option (Unit × Hp) :=
  if h.K x0 = 1 then
    (f_X2_init fu (Hp.N h) (newC h 2 0)).bind fun r9 =>
    (pR r9.2 1 x0 2 (some (Hp.N h))).bind fun h12 =>
    (f_X2_init fu (Hp.N h12) (newC h12 2 0)).bind fun r20 =>
    (pR r20.2 1 x0 3 (some (Hp.N h12))).bind fun h23 =>
    (f_X2_init fu (Hp.N h23) (newC h23 2 0)).bind fun r31 =>
    (pR r31.2 1 x0 4 (some (Hp.N h23))).bind fun h34 =>
    (pR (newC h34 8 576) 1 x0 5 (some (Hp.N h34))).bind fun h43 =>
    (pR (newC h43 9 6) 1 x0 6 (some (Hp.N h43))).bind fun h51 =>
    some ((), h51)
  else none
set_option maxHeartbeats 4000000 in
set_option maxRecDepth 100000 in
theorem c_X1_init (l : Launch) (D : Dx) (fu : Nat) (x0 : Nat) (h : Hp) (out : Unit × Hp) (ho : f_X1_init fu x0 h = some out) : Ct l D yX1_init cX1_init 1 none rm_X1_init [.ref x0] h (evU out.1) out.2 := by
  refine Ct.of (o := f_X1_init fu x0 h) (lv := [some (.ref x0)]) (by decide) (Nat.le_of_ble_eq_true rfl) rfl ?_ out ho
  intro X hXl hE hin
  replace hE : En X D cX1_init 1 RX1 none rm_X1_init := hE
  subst hXl
  replace hin : X.meth.name = "<init>" := hin
  unfold f_X1_init
  refine Wo_grd (fun _ => ?_)
  refine r_aload_n (pc := 0) hE dX1_init_0 rfl ?_
  refine r_objInit (pc := 1) hE oi_RX1_3 ⟨Nat.le_of_ble_eq_true rfl, Nat.le_of_ble_eq_true rfl⟩ dX1_init_1 ?_
  refine r_aload_n (pc := 4) hE dX1_init_4 rfl ?_
  refine r_new (pc := 5) hE 2 (by decide) nw_RX1_9 ⟨Nat.le_of_ble_eq_true rfl, Nat.le_of_ble_eq_true rfl⟩ dX1_init_5 ?_
  refine r_dup (pc := 8) hE dX1_init_8 rfl ?_
  refine r_callIN (pc := 9) hE (As := []) (fun out ho => c_X2_init _ _ fu _ _ out ho) cs_RX1_11 ⟨Nat.le_of_ble_eq_true rfl, Nat.le_of_ble_eq_true rfl, Nat.le_of_ble_eq_true rfl, Nat.le_of_ble_eq_true rfl⟩ (Nat.le_of_ble_eq_true rfl) rfl dX1_init_9 (fun r9 _ => ?_)
  refine r_putR (pc := 12) hE 1 2 (by decide) (by decide) (fun _ _ _ => rfl) fl_RX1_12 rfl rfl rfl dX1_init_12 (fun h12 _ => ?_)
  refine r_aload_n (pc := 15) hE dX1_init_15 rfl ?_
  refine r_new (pc := 16) hE 2 (by decide) nw_RX1_9 ⟨Nat.le_of_ble_eq_true rfl, Nat.le_of_ble_eq_true rfl⟩ dX1_init_16 ?_
  refine r_dup (pc := 19) hE dX1_init_19 rfl ?_
  refine r_callIN (pc := 20) hE (As := []) (fun out ho => c_X2_init _ _ fu _ _ out ho) cs_RX1_11 ⟨Nat.le_of_ble_eq_true rfl, Nat.le_of_ble_eq_true rfl, Nat.le_of_ble_eq_true rfl, Nat.le_of_ble_eq_true rfl⟩ (Nat.le_of_ble_eq_true rfl) rfl dX1_init_20 (fun r20 _ => ?_)
  refine r_putR (pc := 23) hE 1 3 (by decide) (by decide) (fun _ _ _ => rfl) fl_RX1_18 rfl rfl rfl dX1_init_23 (fun h23 _ => ?_)
  refine r_aload_n (pc := 26) hE dX1_init_26 rfl ?_
  refine r_new (pc := 27) hE 2 (by decide) nw_RX1_9 ⟨Nat.le_of_ble_eq_true rfl, Nat.le_of_ble_eq_true rfl⟩ dX1_init_27 ?_
  refine r_dup (pc := 30) hE dX1_init_30 rfl ?_
  refine r_callIN (pc := 31) hE (As := []) (fun out ho => c_X2_init _ _ fu _ _ out ho) cs_RX1_11 ⟨Nat.le_of_ble_eq_true rfl, Nat.le_of_ble_eq_true rfl, Nat.le_of_ble_eq_true rfl, Nat.le_of_ble_eq_true rfl⟩ (Nat.le_of_ble_eq_true rfl) rfl dX1_init_31 (fun r31 _ => ?_)
  refine r_putR (pc := 34) hE 1 4 (by decide) (by decide) (fun _ _ _ => rfl) fl_RX1_21 rfl rfl rfl dX1_init_34 (fun h34 _ => ?_)
  refine r_aload_n (pc := 37) hE dX1_init_37 rfl ?_
  refine r_sipush (v := 576) (pc := 38) hE dX1_init_38 (by decide) ?_
  refine r_newI (pc := 41) hE 576 (by decide) (by decide) (by decide) ar8 ⟨Nat.le_of_ble_eq_true rfl, Nat.le_of_ble_eq_true rfl⟩ dX1_init_41 ?_
  refine r_putF (pc := 43) hE hin 1 5 (by decide) (by decide) rfl (fun _ _ _ => rfl) fl_RX1_24 rfl rfl rfl dX1_init_43 (fun h43 _ => ?_)
  refine r_aload_n (pc := 46) hE dX1_init_46 rfl ?_
  refine r_bipush (v := 6) (pc := 47) hE dX1_init_47 (by decide) ?_
  refine r_newJ (pc := 49) hE 6 (by decide) (by decide) (by decide) ar9 ⟨Nat.le_of_ble_eq_true rfl, Nat.le_of_ble_eq_true rfl⟩ dX1_init_49 ?_
  refine r_putF (pc := 51) hE hin 1 6 (by decide) (by decide) rfl (fun _ _ _ => rfl) fl_RX1_28 rfl rfl rfl dX1_init_51 (fun h51 _ => ?_)
  exact r_vret (pc := 54) hE dX1_init_54
theorem k_X1_init {fu : Nat} {x0 : Nat} {h : Hp} {out : Unit × Hp} (ho : f_X1_init fu x0 h = some out) : h.K x0 = 1 := (gi_k ho).1
theorem fl_RX1_32 : Cond.fieldLink RX1 32 (TF 1 0).1 (TF 1 0).2.1 (TF 1 0).2.2.1 ∈ TB := tb_in (by decide +kernel) rfl
def rm_X1_forget : Room := { frames := 0, cells := 0, slots := 0, locals := 0 }
def f_X1_forget (fu : Nat) (x0 : Nat) (h : Hp) : Option (Unit × Hp) :=
  if h.K x0 = 1 then
    (pI h 1 x0 0 0).bind fun h2 =>
    some ((), h2)
  else none
set_option maxHeartbeats 4000000 in
set_option maxRecDepth 100000 in
theorem c_X1_forget (l : Launch) (D : Dx) (fu : Nat) (x0 : Nat) (h : Hp) (out : Unit × Hp) (ho : f_X1_forget fu x0 h = some out) : Ct l D yX1_forget cX1_forget 1 none rm_X1_forget [.ref x0] h (evU out.1) out.2 := by
  refine Ct.of (o := f_X1_forget fu x0 h) (lv := [some (.ref x0)]) (by decide) (Nat.le_of_ble_eq_true rfl) rfl ?_ out ho
  intro X hXl hE hin
  replace hE : En X D cX1_forget 1 RX1 none rm_X1_forget := hE
  subst hXl
  unfold f_X1_forget
  refine Wo_grd (fun _ => ?_)
  refine r_aload_n (pc := 0) hE dX1_forget_0 rfl ?_
  refine r_iconst (v := 0) (pc := 1) hE dX1_forget_1 (by decide) ?_
  refine r_putI (pc := 2) hE 1 0 (by decide) (by decide) (fun _ _ _ => rfl) fl_RX1_32 rfl (by decide) (by decide) dX1_forget_2 (fun h2 _ => ?_)
  exact r_vret (pc := 5) hE dX1_forget_5
theorem k_X1_forget {fu : Nat} {x0 : Nat} {h : Hp} {out : Unit × Hp} (ho : f_X1_forget fu x0 h = some out) : h.K x0 = 1 := (gi_k ho).1
theorem fl_RX1_91 : Cond.fieldLink RX1 91 (TF 4 2).1 (TF 4 2).2.1 (TF 4 2).2.2.1 ∈ TB := tb_in (by decide +kernel) rfl
theorem cs_RX1_94 : csV RX1 94 yX4_target cX4_target 6 (some .int) 3 = true := by decide +kernel
def rm_X1_findTargets : Room := { frames := 3, cells := 0, slots := 0, locals := 60 }
def f_X1_findTargets_13 (fu : Nat) (k2 : Nat → Nat → Int32 → Int32 → Hp → Option (Unit × Hp)) : Nat → Nat → Nat → Int32 → Int32 → Int32 → Hp → Option (Unit × Hp)
  | 0, _, _, _, _, _, _ => none
  | n + 1, x0, x1, x2, x3, x4, h =>
    if 9 ≤ x4 then
      k2 x0 x1 x2 ((x3 + 1)) h
    else
      (gR h 1 x0 5).bind fun v21 =>
      (f_X4_target fu x1 x3 x2 x4 h).bind fun r36 =>
      (sI r36.2 8 v21 ((x3 * 9) + x4) r36.1).bind fun h39 =>
      f_X1_findTargets_13 fu k2 n x0 x1 x2 x3 ((x4 + 1)) h39
set_option maxHeartbeats 4000000 in
set_option maxRecDepth 100000 in
theorem w_X1_findTargets_13 {X : Cx} {D : Dx} (hE : En X D cX1_findTargets 5 RX1 none rm_X1_findTargets) {fu : Nat} {k2 : Nat → Nat → Int32 → Int32 → Hp → Option (Unit × Hp)} (hk2 : ∀ (x0 : Nat) (x1 : Nat) (x2 : Int32) (x3 : Int32) (h : Hp) (lv : List (Option Value)), lvLe [some (.ref x0), some (.ref x1), some (.int x2), some (.int x3), none] lv → Wo X D 5 (Qr X D 0 0 evU) 0 0 (k2 x0 x1 x2 x3 h) 2 lv [] h) : ∀ (n : Nat) (x0 : Nat) (x1 : Nat) (x2 : Int32) (x3 : Int32) (x4 : Int32) (h : Hp) (lv : List (Option Value)), lvLe [some (.ref x0), some (.ref x1), some (.int x2), some (.int x3), some (.int x4)] lv → Wo X D 5 (Qr X D 0 0 evU) 0 0 (f_X1_findTargets_13 fu k2 n x0 x1 x2 x3 x4 h) 13 lv [] h := by
  intro n
  induction n with
  | zero => intros; exact Wo_none
  | succ n ih =>
    intro x0 x1 x2 x3 x4 h lv hlv
    refine Wo_sub hlv ?_
    rw [f_X1_findTargets_13]
    refine r_iload (pc := 13) hE dX1_findTargets_13 rfl ?_
    refine r_bipush (v := 9) (pc := 15) hE dX1_findTargets_15 (by decide) ?_
    refine r_icmp_ge (pc := 17) hE 46 dX1_findTargets_17 (by decide) (fun _ => ?_) (fun _ => ?_)
    · refine r_iinc (v := (x3 + 1)) (pc := 46) hE dX1_findTargets_46 rfl rfl (by decide) ?_
      refine r_goto (pc := 49) hE 2 dX1_findTargets_49 (by decide) ?_
      exact hk2 _ _ _ _ _ _ ⟨rfl, ⟨rfl, ⟨rfl, ⟨rfl, trivial⟩⟩⟩⟩
    · refine r_aload_n (pc := 20) hE dX1_findTargets_20 rfl ?_
      refine r_getR (pc := 21) hE 1 5 (by decide) (by decide) (fun _ _ _ => rfl) fl_RX1_24 dX1_findTargets_21 (fun v21 _ => ?_)
      refine r_iload_n (pc := 24) hE dX1_findTargets_24 rfl ?_
      refine r_bipush (v := 9) (pc := 25) hE dX1_findTargets_25 (by decide) ?_
      refine r_imul (pc := 27) hE dX1_findTargets_27 ?_
      refine r_iload (pc := 28) hE dX1_findTargets_28 rfl ?_
      refine r_iadd (pc := 30) hE dX1_findTargets_30 ?_
      refine r_aload_n (pc := 31) hE dX1_findTargets_31 rfl ?_
      refine r_iload_n (pc := 32) hE dX1_findTargets_32 rfl ?_
      refine r_iload_n (pc := 33) hE dX1_findTargets_33 rfl ?_
      refine r_iload (pc := 34) hE dX1_findTargets_34 rfl ?_
      refine r_callV (pc := 36) hE 4 (As := [.int x3, .int x2, .int x4]) (fun out ho => c_X4_target _ _ fu _ _ _ _ _ out ho) (fun out ho => k_X4_target ho) (by decide) rfl cs_RX1_94 ⟨Nat.le_of_ble_eq_true rfl, Nat.le_of_ble_eq_true rfl, Nat.le_of_ble_eq_true rfl, Nat.le_of_ble_eq_true rfl⟩ (Nat.le_of_ble_eq_true rfl) rfl dX1_findTargets_36 (fun r36 _ => ?_)
      refine r_astI (pc := 39) hE dX1_findTargets_39 (fun h39 _ => ?_)
      refine r_iinc (v := (x4 + 1)) (pc := 40) hE dX1_findTargets_40 rfl rfl (by decide) ?_
      refine r_goto (pc := 43) hE 13 dX1_findTargets_43 (by decide) ?_
      exact ih _ _ _ _ _ _ _ ⟨rfl, ⟨rfl, ⟨rfl, ⟨rfl, ⟨rfl, trivial⟩⟩⟩⟩⟩
def f_X1_findTargets_2 (fu : Nat) : Nat → Nat → Nat → Int32 → Int32 → Hp → Option (Unit × Hp)
  | 0, _, _, _, _, _ => none
  | n + 1, x0, x1, x2, x3, h =>
    (gI h 4 x1 2).bind fun v4 =>
    if v4 ≤ x3 then
      some ((), h)
    else
      f_X1_findTargets_13 fu (fun y0 y1 y2 y3 hy => f_X1_findTargets_2 fu n y0 y1 y2 y3 hy) fu x0 x1 x2 x3 0 h
set_option maxHeartbeats 4000000 in
set_option maxRecDepth 100000 in
theorem w_X1_findTargets_2 {X : Cx} {D : Dx} (hE : En X D cX1_findTargets 5 RX1 none rm_X1_findTargets) {fu : Nat} : ∀ (n : Nat) (x0 : Nat) (x1 : Nat) (x2 : Int32) (x3 : Int32) (h : Hp) (lv : List (Option Value)), lvLe [some (.ref x0), some (.ref x1), some (.int x2), some (.int x3), none] lv → Wo X D 5 (Qr X D 0 0 evU) 0 0 (f_X1_findTargets_2 fu n x0 x1 x2 x3 h) 2 lv [] h := by
  intro n
  induction n with
  | zero => intros; exact Wo_none
  | succ n ih =>
    intro x0 x1 x2 x3 h lv hlv
    refine Wo_sub hlv ?_
    rw [f_X1_findTargets_2]
    refine r_iload_n (pc := 2) hE dX1_findTargets_2 rfl ?_
    refine r_aload_n (pc := 3) hE dX1_findTargets_3 rfl ?_
    refine r_getI (pc := 4) hE 4 2 (by decide) (by decide) (fun _ _ _ => rfl) fl_RX1_91 dX1_findTargets_4 (fun v4 _ => ?_)
    refine r_icmp_ge (pc := 7) hE 52 dX1_findTargets_7 (by decide) (fun _ => ?_) (fun _ => ?_)
    · exact r_vret (pc := 52) hE dX1_findTargets_52
    · refine r_iconst (v := 0) (pc := 10) hE dX1_findTargets_10 (by decide) ?_
      refine r_istore (pc := 11) hE dX1_findTargets_11 (by decide) ?_
      exact w_X1_findTargets_13 hE (fun y0 y1 y2 y3 hy lvy hly => ih y0 y1 y2 y3 hy lvy hly) fu _ _ _ _ _ _ _ ⟨rfl, ⟨rfl, ⟨rfl, ⟨rfl, ⟨rfl, trivial⟩⟩⟩⟩⟩
def f_X1_findTargets (fu : Nat) (x0 : Nat) (x1 : Nat) (x2 : Int32) (h : Hp) : Option (Unit × Hp) :=
  if h.K x0 = 1 then
    f_X1_findTargets_2 fu fu x0 x1 x2 0 h
  else none
set_option maxHeartbeats 4000000 in
set_option maxRecDepth 100000 in
theorem c_X1_findTargets (l : Launch) (D : Dx) (fu : Nat) (x0 : Nat) (x1 : Nat) (x2 : Int32) (h : Hp) (out : Unit × Hp) (ho : f_X1_findTargets fu x0 x1 x2 h = some out) : Ct l D yX1_findTargets cX1_findTargets 5 none rm_X1_findTargets [.ref x0, .ref x1, .int x2] h (evU out.1) out.2 := by
  refine Ct.of (o := f_X1_findTargets fu x0 x1 x2 h) (lv := [some (.ref x0), some (.ref x1), some (.int x2), none, none]) (by decide) (Nat.le_of_ble_eq_true rfl) rfl ?_ out ho
  intro X hXl hE hin
  replace hE : En X D cX1_findTargets 5 RX1 none rm_X1_findTargets := hE
  subst hXl
  unfold f_X1_findTargets
  refine Wo_grd (fun _ => ?_)
  refine r_iconst (v := 0) (pc := 0) hE dX1_findTargets_0 (by decide) ?_
  refine r_istore_n (pc := 1) hE dX1_findTargets_1 (by decide) ?_
  exact w_X1_findTargets_2 hE fu _ _ _ _ _ _ ⟨rfl, ⟨rfl, ⟨rfl, ⟨rfl, trivial⟩⟩⟩⟩
theorem k_X1_findTargets {fu : Nat} {x0 : Nat} {x1 : Nat} {x2 : Int32} {h : Hp} {out : Unit × Hp} (ho : f_X1_findTargets fu x0 x1 x2 h = some out) : h.K x0 = 1 := (gi_k ho).1
theorem ct_RX1_66 : Cond.constant RX1 66 (1000000) ∈ TB := tb_in (by decide +kernel) rfl
theorem cs_RX1_67 : csV RX1 67 yX2_set cX2_set 4 none 3 = true := by decide +kernel
theorem cs_RX1_62 : csSN RX1 62 yX6_has cX6_has 3 (some .boolean) 2 = true := by decide +kernel
theorem fl_RX1_98 : Cond.fieldLink RX1 98 (TF 2 0).1 (TF 2 0).2.1 (TF 2 0).2.2.1 ∈ TB := tb_in (by decide +kernel) rfl
theorem mx_RX1_111 : inT [.methodLink RX1 111 Lib.Math.max.name, .static Lib.Math.max.name, .initialized "java/lang/Math", .code Lib.Math.max.name Lib.Math.max.code 2 (some .int)] = true := by decide +kernel
theorem fl_RX1_101 : Cond.fieldLink RX1 101 (TF 2 1).1 (TF 2 1).2.1 (TF 2 1).2.2.1 ∈ TB := tb_in (by decide +kernel) rfl
theorem mx_RX1_117 : inT [.methodLink RX1 117 Lib.Math.min.name, .static Lib.Math.min.name, .initialized "java/lang/Math", .code Lib.Math.min.name Lib.Math.min.code 2 (some .int)] = true := by decide +kernel
def rm_X1_steerOn : Room := { frames := 1, cells := 0, slots := 0, locals := 23 }
def f_X1_steerOn_78 (fu : Nat) (k10 : Nat → Int32 → Int32 → Int32 → Int32 → Int32 → Int32 → Int32 → Hp → Option (Unit × Hp)) (x0 : Nat) (x1 : Int32) (x2 : Int32) (x3 : Int32) (x4 : Int32) (x5 : Int32) (x6 : Int32) (x7 : Int32) (h : Hp) : Option (Unit × Hp) :=
  k10 x0 x1 x2 x3 x4 x5 x6 ((x7 + 1)) h
set_option maxHeartbeats 4000000 in
set_option maxRecDepth 100000 in
theorem w_X1_steerOn_78 {X : Cx} {D : Dx} (hE : En X D cX1_steerOn 9 RX1 none rm_X1_steerOn) {fu : Nat} {k10 : Nat → Int32 → Int32 → Int32 → Int32 → Int32 → Int32 → Int32 → Hp → Option (Unit × Hp)} (hk10 : ∀ (x0 : Nat) (x1 : Int32) (x2 : Int32) (x3 : Int32) (x4 : Int32) (x5 : Int32) (x6 : Int32) (x7 : Int32) (h : Hp) (lv : List (Option Value)), lvLe [some (.ref x0), some (.int x1), some (.int x2), some (.int x3), some (.int x4), some (.int x5), some (.int x6), some (.int x7), none] lv → Wo X D 9 (Qr X D 0 0 evU) 0 0 (k10 x0 x1 x2 x3 x4 x5 x6 x7 h) 10 lv [] h) (x0 : Nat) (x1 : Int32) (x2 : Int32) (x3 : Int32) (x4 : Int32) (x5 : Int32) (x6 : Int32) (x7 : Int32) (h : Hp) {lv : List (Option Value)} (hlv : lvLe [some (.ref x0), some (.int x1), some (.int x2), some (.int x3), some (.int x4), some (.int x5), some (.int x6), some (.int x7), none] lv) : Wo X D 9 (Qr X D 0 0 evU) 0 0 (f_X1_steerOn_78 fu k10 x0 x1 x2 x3 x4 x5 x6 x7 h) 78 lv [] h := by
  refine Wo_sub hlv ?_
  unfold f_X1_steerOn_78
  refine r_iinc (v := (x7 + 1)) (pc := 78) hE dX1_steerOn_78 rfl rfl (by decide) ?_
  refine r_goto (pc := 81) hE 10 dX1_steerOn_81 (by decide) ?_
  exact hk10 _ _ _ _ _ _ _ _ _ _ ⟨rfl, ⟨rfl, ⟨rfl, ⟨rfl, ⟨rfl, ⟨rfl, ⟨rfl, ⟨rfl, trivial⟩⟩⟩⟩⟩⟩⟩⟩
def f_X1_steerOn_10 (fu : Nat) : Nat → Nat → Int32 → Int32 → Int32 → Int32 → Int32 → Int32 → Int32 → Hp → Option (Unit × Hp)
  | 0, _, _, _, _, _, _, _, _, _ => none
  | n + 1, x0, x1, x2, x3, x4, x5, x6, x7, h =>
    if 9 ≤ x7 then
      (gR h 1 x0 4).bind fun v85 =>
      (f_X2_set fu v85 x2 (x5 + 1) (x6 + 1) h).bind fun r97 =>
      some ((), r97.2)
    else
      (f_X6_has fu (Int32.toInt64 x4) x7 h).bind fun r22 =>
      if r22.1 = 0 then
        f_X1_steerOn_78 fu (fun y0 y1 y2 y3 y4 y5 y6 y7 hy => f_X1_steerOn_10 fu n y0 y1 y2 y3 y4 y5 y6 y7 hy) x0 x1 x2 x3 x4 x5 x6 x7 r22.2
      else
        (gR r22.2 1 x0 5).bind fun v30 =>
        (aI r22.2 8 v30 ((x1 * 9) + x7)).bind fun v40 =>
        (gR r22.2 1 x0 3).bind fun v47 =>
        (gR r22.2 2 v47 0).bind fun v50 =>
        (aI r22.2 8 v50 (x3 + v40)).bind fun v55 =>
        (gR r22.2 1 x0 3).bind fun v64 =>
        (gR r22.2 2 v64 1).bind fun v67 =>
        (aI r22.2 8 v67 (x3 + v40)).bind fun v72 =>
        f_X1_steerOn_78 fu (fun y0 y1 y2 y3 y4 y5 y6 y7 hy => f_X1_steerOn_10 fu n y0 y1 y2 y3 y4 y5 y6 y7 hy) x0 x1 x2 x3 x4 ((mmax x5 v55)) ((mmin x6 v72)) x7 r22.2
set_option maxHeartbeats 4000000 in
set_option maxRecDepth 100000 in
theorem w_X1_steerOn_10 {X : Cx} {D : Dx} (hE : En X D cX1_steerOn 9 RX1 none rm_X1_steerOn) {fu : Nat} : ∀ (n : Nat) (x0 : Nat) (x1 : Int32) (x2 : Int32) (x3 : Int32) (x4 : Int32) (x5 : Int32) (x6 : Int32) (x7 : Int32) (h : Hp) (lv : List (Option Value)), lvLe [some (.ref x0), some (.int x1), some (.int x2), some (.int x3), some (.int x4), some (.int x5), some (.int x6), some (.int x7), none] lv → Wo X D 9 (Qr X D 0 0 evU) 0 0 (f_X1_steerOn_10 fu n x0 x1 x2 x3 x4 x5 x6 x7 h) 10 lv [] h := by
  intro n
  induction n with
  | zero => intros; exact Wo_none
  | succ n ih =>
    intro x0 x1 x2 x3 x4 x5 x6 x7 h lv hlv
    refine Wo_sub hlv ?_
    rw [f_X1_steerOn_10]
    refine r_iload (pc := 10) hE dX1_steerOn_10 rfl ?_
    refine r_bipush (v := 9) (pc := 12) hE dX1_steerOn_12 (by decide) ?_
    refine r_icmp_ge (pc := 14) hE 84 dX1_steerOn_14 (by decide) (fun _ => ?_) (fun _ => ?_)
    · refine r_aload_n (pc := 84) hE dX1_steerOn_84 rfl ?_
      refine r_getR (pc := 85) hE 1 4 (by decide) (by decide) (fun _ _ _ => rfl) fl_RX1_21 dX1_steerOn_85 (fun v85 _ => ?_)
      refine r_iload_n (pc := 88) hE dX1_steerOn_88 rfl ?_
      refine r_iload (pc := 89) hE dX1_steerOn_89 rfl ?_
      refine r_iconst (v := 1) (pc := 91) hE dX1_steerOn_91 (by decide) ?_
      refine r_iadd (pc := 92) hE dX1_steerOn_92 ?_
      refine r_iload (pc := 93) hE dX1_steerOn_93 rfl ?_
      refine r_iconst (v := 1) (pc := 95) hE dX1_steerOn_95 (by decide) ?_
      refine r_iadd (pc := 96) hE dX1_steerOn_96 ?_
      refine r_callV (pc := 97) hE 2 (As := [.int x2, .int (x5 + 1), .int (x6 + 1)]) (fun out ho => c_X2_set _ _ fu _ _ _ _ _ out ho) (fun out ho => k_X2_set ho) (by decide) rfl cs_RX1_67 ⟨Nat.le_of_ble_eq_true rfl, Nat.le_of_ble_eq_true rfl, Nat.le_of_ble_eq_true rfl, Nat.le_of_ble_eq_true rfl⟩ (Nat.le_of_ble_eq_true rfl) rfl dX1_steerOn_97 (fun r97 _ => ?_)
      exact r_vret (pc := 100) hE dX1_steerOn_100
    · refine r_iload (pc := 17) hE dX1_steerOn_17 rfl ?_
      refine r_i2l (pc := 19) hE dX1_steerOn_19 ?_
      refine r_iload (pc := 20) hE dX1_steerOn_20 rfl ?_
      refine r_callSN (pc := 22) hE (As := [.long (Int32.toInt64 x4), .int x7]) (fun out ho => c_X6_has _ _ fu _ _ _ out ho) cs_RX1_62 ⟨Nat.le_of_ble_eq_true rfl, Nat.le_of_ble_eq_true rfl, Nat.le_of_ble_eq_true rfl, Nat.le_of_ble_eq_true rfl⟩ (Nat.le_of_ble_eq_true rfl) rfl dX1_steerOn_22 (fun r22 _ => ?_)
      refine r_if_eq (pc := 25) hE 78 dX1_steerOn_25 (by decide) (fun _ => ?_) (fun _ => ?_)
      · exact w_X1_steerOn_78 hE (fun y0 y1 y2 y3 y4 y5 y6 y7 hy lvy hly => ih y0 y1 y2 y3 y4 y5 y6 y7 hy lvy hly) _ _ _ _ _ _ _ _ _ ⟨rfl, ⟨rfl, ⟨rfl, ⟨rfl, ⟨rfl, ⟨rfl, ⟨rfl, ⟨rfl, trivial⟩⟩⟩⟩⟩⟩⟩⟩
      · refine r_iload_n (pc := 28) hE dX1_steerOn_28 rfl ?_
        refine r_aload_n (pc := 29) hE dX1_steerOn_29 rfl ?_
        refine r_getR (pc := 30) hE 1 5 (by decide) (by decide) (fun _ _ _ => rfl) fl_RX1_24 dX1_steerOn_30 (fun v30 _ => ?_)
        refine r_iload_n (pc := 33) hE dX1_steerOn_33 rfl ?_
        refine r_bipush (v := 9) (pc := 34) hE dX1_steerOn_34 (by decide) ?_
        refine r_imul (pc := 36) hE dX1_steerOn_36 ?_
        refine r_iload (pc := 37) hE dX1_steerOn_37 rfl ?_
        refine r_iadd (pc := 39) hE dX1_steerOn_39 ?_
        refine r_aldI (pc := 40) hE dX1_steerOn_40 (fun v40 _ => ?_)
        refine r_iadd (pc := 41) hE dX1_steerOn_41 ?_
        refine r_istore (pc := 42) hE dX1_steerOn_42 (by decide) ?_
        refine r_iload (pc := 44) hE dX1_steerOn_44 rfl ?_
        refine r_aload_n (pc := 46) hE dX1_steerOn_46 rfl ?_
        refine r_getR (pc := 47) hE 1 3 (by decide) (by decide) (fun _ _ _ => rfl) fl_RX1_18 dX1_steerOn_47 (fun v47 _ => ?_)
        refine r_getR (pc := 50) hE 2 0 (by decide) (by decide) (fun _ _ _ => rfl) fl_RX1_98 dX1_steerOn_50 (fun v50 _ => ?_)
        refine r_iload (pc := 53) hE dX1_steerOn_53 rfl ?_
        refine r_aldI (pc := 55) hE dX1_steerOn_55 (fun v55 _ => ?_)
        refine r_mmax (pc := 56) hE mx_RX1_111 (Nat.le_of_ble_eq_true rfl) (Nat.le_of_ble_eq_true rfl) (Nat.le_of_ble_eq_true rfl) (Nat.le_of_ble_eq_true rfl) dX1_steerOn_56 ?_
        refine r_istore (pc := 59) hE dX1_steerOn_59 (by decide) ?_
        refine r_iload (pc := 61) hE dX1_steerOn_61 rfl ?_
        refine r_aload_n (pc := 63) hE dX1_steerOn_63 rfl ?_
        refine r_getR (pc := 64) hE 1 3 (by decide) (by decide) (fun _ _ _ => rfl) fl_RX1_18 dX1_steerOn_64 (fun v64 _ => ?_)
        refine r_getR (pc := 67) hE 2 1 (by decide) (by decide) (fun _ _ _ => rfl) fl_RX1_101 dX1_steerOn_67 (fun v67 _ => ?_)
        refine r_iload (pc := 70) hE dX1_steerOn_70 rfl ?_
        refine r_aldI (pc := 72) hE dX1_steerOn_72 (fun v72 _ => ?_)
        refine r_mmin (pc := 73) hE mx_RX1_117 (Nat.le_of_ble_eq_true rfl) (Nat.le_of_ble_eq_true rfl) (Nat.le_of_ble_eq_true rfl) (Nat.le_of_ble_eq_true rfl) dX1_steerOn_73 ?_
        refine r_istore (pc := 76) hE dX1_steerOn_76 (by decide) ?_
        exact w_X1_steerOn_78 hE (fun y0 y1 y2 y3 y4 y5 y6 y7 hy lvy hly => ih y0 y1 y2 y3 y4 y5 y6 y7 hy lvy hly) _ _ _ _ _ _ _ _ _ ⟨rfl, ⟨rfl, ⟨rfl, ⟨rfl, ⟨rfl, ⟨rfl, ⟨rfl, ⟨rfl, trivial⟩⟩⟩⟩⟩⟩⟩⟩
def f_X1_steerOn (fu : Nat) (x0 : Nat) (x1 : Int32) (x2 : Int32) (x3 : Int32) (x4 : Int32) (h : Hp) : Option (Unit × Hp) :=
  if h.K x0 = 1 then
    f_X1_steerOn_10 fu fu x0 x1 x2 x3 x4 0 1000000 0 h
  else none
set_option maxHeartbeats 4000000 in
set_option maxRecDepth 100000 in
theorem c_X1_steerOn (l : Launch) (D : Dx) (fu : Nat) (x0 : Nat) (x1 : Int32) (x2 : Int32) (x3 : Int32) (x4 : Int32) (h : Hp) (out : Unit × Hp) (ho : f_X1_steerOn fu x0 x1 x2 x3 x4 h = some out) : Ct l D yX1_steerOn cX1_steerOn 9 none rm_X1_steerOn [.ref x0, .int x1, .int x2, .int x3, .int x4] h (evU out.1) out.2 := by
  refine Ct.of (o := f_X1_steerOn fu x0 x1 x2 x3 x4 h) (lv := [some (.ref x0), some (.int x1), some (.int x2), some (.int x3), some (.int x4), none, none, none, none]) (by decide) (Nat.le_of_ble_eq_true rfl) rfl ?_ out ho
  intro X hXl hE hin
  replace hE : En X D cX1_steerOn 9 RX1 none rm_X1_steerOn := hE
  subst hXl
  unfold f_X1_steerOn
  refine Wo_grd (fun _ => ?_)
  refine r_iconst (v := 0) (pc := 0) hE dX1_steerOn_0 (by decide) ?_
  refine r_istore (pc := 1) hE dX1_steerOn_1 (by decide) ?_
  refine r_ldc (v := 1000000) (pc := 3) hE ct_RX1_66 dX1_steerOn_3 ?_
  refine r_istore (pc := 5) hE dX1_steerOn_5 (by decide) ?_
  refine r_iconst (v := 0) (pc := 7) hE dX1_steerOn_7 (by decide) ?_
  refine r_istore (pc := 8) hE dX1_steerOn_8 (by decide) ?_
  exact w_X1_steerOn_10 hE fu _ _ _ _ _ _ _ _ _ _ ⟨rfl, ⟨rfl, ⟨rfl, ⟨rfl, ⟨rfl, ⟨rfl, ⟨rfl, ⟨rfl, trivial⟩⟩⟩⟩⟩⟩⟩⟩
theorem k_X1_steerOn {fu : Nat} {x0 : Nat} {x1 : Int32} {x2 : Int32} {x3 : Int32} {x4 : Int32} {h : Hp} {out : Unit × Hp} (ho : f_X1_steerOn fu x0 x1 x2 x3 x4 h = some out) : h.K x0 = 1 := (gi_k ho).1
theorem fl_RX1_58 : Cond.fieldLink RX1 58 (TF 4 5).1 (TF 4 5).2.1 (TF 4 5).2.2.1 ∈ TB := tb_in (by decide +kernel) rfl
theorem fl_RX1_104 : Cond.fieldLink RX1 104 (TF 4 10).1 (TF 4 10).2.1 (TF 4 10).2.2.1 ∈ TB := tb_in (by decide +kernel) rfl
theorem cs_RX1_107 : csV RX1 107 yX1_steerOn cX1_steerOn 9 none 4 = true := by decide +kernel
def rm_X1_goThroughHour : Room := { frames := 2, cells := 0, slots := 0, locals := 51 }
def f_X1_goThroughHour_118 (fu : Nat) (k13 : Nat → Nat → Int32 → Int32 → Int32 → Hp → Option (Unit × Hp)) (x0 : Nat) (x1 : Nat) (x2 : Int32) (x3 : Int32) (x4 : Int32) (h : Hp) : Option (Unit × Hp) :=
  k13 x0 x1 x2 x3 ((x4 + 1)) h
set_option maxHeartbeats 4000000 in
set_option maxRecDepth 100000 in
theorem w_X1_goThroughHour_118 {X : Cx} {D : Dx} (hE : En X D cX1_goThroughHour 6 RX1 none rm_X1_goThroughHour) {fu : Nat} {k13 : Nat → Nat → Int32 → Int32 → Int32 → Hp → Option (Unit × Hp)} (hk13 : ∀ (x0 : Nat) (x1 : Nat) (x2 : Int32) (x3 : Int32) (x4 : Int32) (h : Hp) (lv : List (Option Value)), lvLe [some (.ref x0), some (.ref x1), some (.int x2), some (.int x3), some (.int x4), none] lv → Wo X D 6 (Qr X D 0 0 evU) 0 0 (k13 x0 x1 x2 x3 x4 h) 13 lv [] h) (x0 : Nat) (x1 : Nat) (x2 : Int32) (x3 : Int32) (x4 : Int32) (h : Hp) {lv : List (Option Value)} (hlv : lvLe [some (.ref x0), some (.ref x1), some (.int x2), some (.int x3), some (.int x4), none] lv) : Wo X D 6 (Qr X D 0 0 evU) 0 0 (f_X1_goThroughHour_118 fu k13 x0 x1 x2 x3 x4 h) 118 lv [] h := by
  refine Wo_sub hlv ?_
  unfold f_X1_goThroughHour_118
  refine r_iinc (v := (x4 + 1)) (pc := 118) hE dX1_goThroughHour_118 rfl rfl (by decide) ?_
  refine r_goto (pc := 121) hE 13 dX1_goThroughHour_121 (by decide) ?_
  exact hk13 _ _ _ _ _ _ _ ⟨rfl, ⟨rfl, ⟨rfl, ⟨rfl, ⟨rfl, trivial⟩⟩⟩⟩⟩
def f_X1_goThroughHour_13 (fu : Nat) : Nat → Nat → Nat → Int32 → Int32 → Int32 → Hp → Option (Unit × Hp)
  | 0, _, _, _, _, _, _ => none
  | n + 1, x0, x1, x2, x3, x4, h =>
    (gI h 4 x1 2).bind fun v16 =>
    if v16 ≤ x4 then
      some ((), h)
    else
      (gJ h 4 x1 5).bind fun v32 =>
      (f_X6_has fu v32 x4 h).bind fun r37 =>
      if r37.1 = 0 then
        (gR r37.2 1 x0 6).bind fun v58 =>
        (aJ r37.2 9 v58 x2).bind fun v62 =>
        (f_X6_has fu v62 x4 r37.2).bind fun r65 =>
        if r65.1 = 0 then
          (gR r65.2 4 x1 10).bind fun v110 =>
          (aI r65.2 8 v110 x2).bind fun v114 =>
          (f_X1_steerOn fu x0 x4 ((x2 * 64) + x4) x3 v114 r65.2).bind fun r115 =>
          f_X1_goThroughHour_118 fu (fun y0 y1 y2 y3 y4 hy => f_X1_goThroughHour_13 fu n y0 y1 y2 y3 y4 hy) x0 x1 x2 x3 x4 r115.2
        else
          (gR r65.2 1 x0 4).bind fun v72 =>
          (gR r65.2 1 x0 2).bind fun v78 =>
          (gR r65.2 2 v78 0).bind fun v81 =>
          (aI r65.2 8 v81 ((x2 * 64) + x4)).bind fun v86 =>
          (gR r65.2 1 x0 2).bind fun v88 =>
          (gR r65.2 2 v88 1).bind fun v91 =>
          (aI r65.2 8 v91 ((x2 * 64) + x4)).bind fun v96 =>
          (f_X2_set fu v72 ((x2 * 64) + x4) v86 v96 r65.2).bind fun r97 =>
          f_X1_goThroughHour_118 fu (fun y0 y1 y2 y3 y4 hy => f_X1_goThroughHour_13 fu n y0 y1 y2 y3 y4 hy) x0 x1 x2 x3 x4 r97.2
      else
        (gR r37.2 1 x0 4).bind fun v44 =>
        (f_X2_set fu v44 ((x2 * 64) + x4) 0 0 r37.2).bind fun r51 =>
        f_X1_goThroughHour_118 fu (fun y0 y1 y2 y3 y4 hy => f_X1_goThroughHour_13 fu n y0 y1 y2 y3 y4 hy) x0 x1 x2 x3 x4 r51.2
set_option maxHeartbeats 4000000 in
set_option maxRecDepth 100000 in
theorem w_X1_goThroughHour_13 {X : Cx} {D : Dx} (hE : En X D cX1_goThroughHour 6 RX1 none rm_X1_goThroughHour) {fu : Nat} : ∀ (n : Nat) (x0 : Nat) (x1 : Nat) (x2 : Int32) (x3 : Int32) (x4 : Int32) (h : Hp) (lv : List (Option Value)), lvLe [some (.ref x0), some (.ref x1), some (.int x2), some (.int x3), some (.int x4), none] lv → Wo X D 6 (Qr X D 0 0 evU) 0 0 (f_X1_goThroughHour_13 fu n x0 x1 x2 x3 x4 h) 13 lv [] h := by
  intro n
  induction n with
  | zero => intros; exact Wo_none
  | succ n ih =>
    intro x0 x1 x2 x3 x4 h lv hlv
    refine Wo_sub hlv ?_
    rw [f_X1_goThroughHour_13]
    refine r_iload (pc := 13) hE dX1_goThroughHour_13 rfl ?_
    refine r_aload_n (pc := 15) hE dX1_goThroughHour_15 rfl ?_
    refine r_getI (pc := 16) hE 4 2 (by decide) (by decide) (fun _ _ _ => rfl) fl_RX1_91 dX1_goThroughHour_16 (fun v16 _ => ?_)
    refine r_icmp_ge (pc := 19) hE 124 dX1_goThroughHour_19 (by decide) (fun _ => ?_) (fun _ => ?_)
    · exact r_vret (pc := 124) hE dX1_goThroughHour_124
    · refine r_iload_n (pc := 22) hE dX1_goThroughHour_22 rfl ?_
      refine r_bipush (v := 64) (pc := 23) hE dX1_goThroughHour_23 (by decide) ?_
      refine r_imul (pc := 25) hE dX1_goThroughHour_25 ?_
      refine r_iload (pc := 26) hE dX1_goThroughHour_26 rfl ?_
      refine r_iadd (pc := 28) hE dX1_goThroughHour_28 ?_
      refine r_istore (pc := 29) hE dX1_goThroughHour_29 (by decide) ?_
      refine r_aload_n (pc := 31) hE dX1_goThroughHour_31 rfl ?_
      refine r_getJ (pc := 32) hE 4 5 (by decide) (by decide) (fun _ _ _ => rfl) fl_RX1_58 dX1_goThroughHour_32 (fun v32 _ => ?_)
      refine r_iload (pc := 35) hE dX1_goThroughHour_35 rfl ?_
      refine r_callSN (pc := 37) hE (As := [.long v32, .int x4]) (fun out ho => c_X6_has _ _ fu _ _ _ out ho) cs_RX1_62 ⟨Nat.le_of_ble_eq_true rfl, Nat.le_of_ble_eq_true rfl, Nat.le_of_ble_eq_true rfl, Nat.le_of_ble_eq_true rfl⟩ (Nat.le_of_ble_eq_true rfl) rfl dX1_goThroughHour_37 (fun r37 _ => ?_)
      refine r_if_eq (pc := 40) hE 57 dX1_goThroughHour_40 (by decide) (fun _ => ?_) (fun _ => ?_)
      · refine r_aload_n (pc := 57) hE dX1_goThroughHour_57 rfl ?_
        refine r_getR (pc := 58) hE 1 6 (by decide) (by decide) (fun _ _ _ => rfl) fl_RX1_28 dX1_goThroughHour_58 (fun v58 _ => ?_)
        refine r_iload_n (pc := 61) hE dX1_goThroughHour_61 rfl ?_
        refine r_aldJ (pc := 62) hE dX1_goThroughHour_62 (fun v62 _ => ?_)
        refine r_iload (pc := 63) hE dX1_goThroughHour_63 rfl ?_
        refine r_callSN (pc := 65) hE (As := [.long v62, .int x4]) (fun out ho => c_X6_has _ _ fu _ _ _ out ho) cs_RX1_62 ⟨Nat.le_of_ble_eq_true rfl, Nat.le_of_ble_eq_true rfl, Nat.le_of_ble_eq_true rfl, Nat.le_of_ble_eq_true rfl⟩ (Nat.le_of_ble_eq_true rfl) rfl dX1_goThroughHour_65 (fun r65 _ => ?_)
        refine r_if_eq (pc := 68) hE 103 dX1_goThroughHour_68 (by decide) (fun _ => ?_) (fun _ => ?_)
        · refine r_aload_n (pc := 103) hE dX1_goThroughHour_103 rfl ?_
          refine r_iload (pc := 104) hE dX1_goThroughHour_104 rfl ?_
          refine r_iload (pc := 106) hE dX1_goThroughHour_106 rfl ?_
          refine r_iload_n (pc := 108) hE dX1_goThroughHour_108 rfl ?_
          refine r_aload_n (pc := 109) hE dX1_goThroughHour_109 rfl ?_
          refine r_getR (pc := 110) hE 4 10 (by decide) (by decide) (fun _ _ _ => rfl) fl_RX1_104 dX1_goThroughHour_110 (fun v110 _ => ?_)
          refine r_iload_n (pc := 113) hE dX1_goThroughHour_113 rfl ?_
          refine r_aldI (pc := 114) hE dX1_goThroughHour_114 (fun v114 _ => ?_)
          refine r_callV (pc := 115) hE 1 (As := [.int x4, .int ((x2 * 64) + x4), .int x3, .int v114]) (fun out ho => c_X1_steerOn _ _ fu _ _ _ _ _ _ out ho) (fun out ho => k_X1_steerOn ho) (by decide) rfl cs_RX1_107 ⟨Nat.le_of_ble_eq_true rfl, Nat.le_of_ble_eq_true rfl, Nat.le_of_ble_eq_true rfl, Nat.le_of_ble_eq_true rfl⟩ (Nat.le_of_ble_eq_true rfl) rfl dX1_goThroughHour_115 (fun r115 _ => ?_)
          exact w_X1_goThroughHour_118 hE (fun y0 y1 y2 y3 y4 hy lvy hly => ih y0 y1 y2 y3 y4 hy lvy hly) _ _ _ _ _ _ ⟨rfl, ⟨rfl, ⟨rfl, ⟨rfl, ⟨rfl, trivial⟩⟩⟩⟩⟩
        · refine r_aload_n (pc := 71) hE dX1_goThroughHour_71 rfl ?_
          refine r_getR (pc := 72) hE 1 4 (by decide) (by decide) (fun _ _ _ => rfl) fl_RX1_21 dX1_goThroughHour_72 (fun v72 _ => ?_)
          refine r_iload (pc := 75) hE dX1_goThroughHour_75 rfl ?_
          refine r_aload_n (pc := 77) hE dX1_goThroughHour_77 rfl ?_
          refine r_getR (pc := 78) hE 1 2 (by decide) (by decide) (fun _ _ _ => rfl) fl_RX1_12 dX1_goThroughHour_78 (fun v78 _ => ?_)
          refine r_getR (pc := 81) hE 2 0 (by decide) (by decide) (fun _ _ _ => rfl) fl_RX1_98 dX1_goThroughHour_81 (fun v81 _ => ?_)
          refine r_iload (pc := 84) hE dX1_goThroughHour_84 rfl ?_
          refine r_aldI (pc := 86) hE dX1_goThroughHour_86 (fun v86 _ => ?_)
          refine r_aload_n (pc := 87) hE dX1_goThroughHour_87 rfl ?_
          refine r_getR (pc := 88) hE 1 2 (by decide) (by decide) (fun _ _ _ => rfl) fl_RX1_12 dX1_goThroughHour_88 (fun v88 _ => ?_)
          refine r_getR (pc := 91) hE 2 1 (by decide) (by decide) (fun _ _ _ => rfl) fl_RX1_101 dX1_goThroughHour_91 (fun v91 _ => ?_)
          refine r_iload (pc := 94) hE dX1_goThroughHour_94 rfl ?_
          refine r_aldI (pc := 96) hE dX1_goThroughHour_96 (fun v96 _ => ?_)
          refine r_callV (pc := 97) hE 2 (As := [.int ((x2 * 64) + x4), .int v86, .int v96]) (fun out ho => c_X2_set _ _ fu _ _ _ _ _ out ho) (fun out ho => k_X2_set ho) (by decide) rfl cs_RX1_67 ⟨Nat.le_of_ble_eq_true rfl, Nat.le_of_ble_eq_true rfl, Nat.le_of_ble_eq_true rfl, Nat.le_of_ble_eq_true rfl⟩ (Nat.le_of_ble_eq_true rfl) rfl dX1_goThroughHour_97 (fun r97 _ => ?_)
          refine r_goto (pc := 100) hE 118 dX1_goThroughHour_100 (by decide) ?_
          exact w_X1_goThroughHour_118 hE (fun y0 y1 y2 y3 y4 hy lvy hly => ih y0 y1 y2 y3 y4 hy lvy hly) _ _ _ _ _ _ ⟨rfl, ⟨rfl, ⟨rfl, ⟨rfl, ⟨rfl, trivial⟩⟩⟩⟩⟩
      · refine r_aload_n (pc := 43) hE dX1_goThroughHour_43 rfl ?_
        refine r_getR (pc := 44) hE 1 4 (by decide) (by decide) (fun _ _ _ => rfl) fl_RX1_21 dX1_goThroughHour_44 (fun v44 _ => ?_)
        refine r_iload (pc := 47) hE dX1_goThroughHour_47 rfl ?_
        refine r_iconst (v := 0) (pc := 49) hE dX1_goThroughHour_49 (by decide) ?_
        refine r_iconst (v := 0) (pc := 50) hE dX1_goThroughHour_50 (by decide) ?_
        refine r_callV (pc := 51) hE 2 (As := [.int ((x2 * 64) + x4), .int 0, .int 0]) (fun out ho => c_X2_set _ _ fu _ _ _ _ _ out ho) (fun out ho => k_X2_set ho) (by decide) rfl cs_RX1_67 ⟨Nat.le_of_ble_eq_true rfl, Nat.le_of_ble_eq_true rfl, Nat.le_of_ble_eq_true rfl, Nat.le_of_ble_eq_true rfl⟩ (Nat.le_of_ble_eq_true rfl) rfl dX1_goThroughHour_51 (fun r51 _ => ?_)
        refine r_goto (pc := 54) hE 118 dX1_goThroughHour_54 (by decide) ?_
        exact w_X1_goThroughHour_118 hE (fun y0 y1 y2 y3 y4 hy lvy hly => ih y0 y1 y2 y3 y4 hy lvy hly) _ _ _ _ _ _ ⟨rfl, ⟨rfl, ⟨rfl, ⟨rfl, ⟨rfl, trivial⟩⟩⟩⟩⟩
def f_X1_goThroughHour (fu : Nat) (x0 : Nat) (x1 : Nat) (x2 : Int32) (h : Hp) : Option (Unit × Hp) :=
  if h.K x0 = 1 then
    f_X1_goThroughHour_13 fu fu x0 x1 x2 (((rem (x2 + 1) 6) * 64)) 0 h
  else none
set_option maxHeartbeats 4000000 in
set_option maxRecDepth 100000 in
theorem c_X1_goThroughHour (l : Launch) (D : Dx) (fu : Nat) (x0 : Nat) (x1 : Nat) (x2 : Int32) (h : Hp) (out : Unit × Hp) (ho : f_X1_goThroughHour fu x0 x1 x2 h = some out) : Ct l D yX1_goThroughHour cX1_goThroughHour 6 none rm_X1_goThroughHour [.ref x0, .ref x1, .int x2] h (evU out.1) out.2 := by
  refine Ct.of (o := f_X1_goThroughHour fu x0 x1 x2 h) (lv := [some (.ref x0), some (.ref x1), some (.int x2), none, none, none]) (by decide) (Nat.le_of_ble_eq_true rfl) rfl ?_ out ho
  intro X hXl hE hin
  replace hE : En X D cX1_goThroughHour 6 RX1 none rm_X1_goThroughHour := hE
  subst hXl
  unfold f_X1_goThroughHour
  refine Wo_grd (fun _ => ?_)
  refine r_iload_n (pc := 0) hE dX1_goThroughHour_0 rfl ?_
  refine r_iconst (v := 1) (pc := 1) hE dX1_goThroughHour_1 (by decide) ?_
  refine r_iadd (pc := 2) hE dX1_goThroughHour_2 ?_
  refine r_bipush (v := 6) (pc := 3) hE dX1_goThroughHour_3 (by decide) ?_
  refine r_irem (pc := 5) hE dX1_goThroughHour_5 (by decide) ?_
  refine r_bipush (v := 64) (pc := 6) hE dX1_goThroughHour_6 (by decide) ?_
  refine r_imul (pc := 8) hE dX1_goThroughHour_8 ?_
  refine r_istore_n (pc := 9) hE dX1_goThroughHour_9 (by decide) ?_
  refine r_iconst (v := 0) (pc := 10) hE dX1_goThroughHour_10 (by decide) ?_
  refine r_istore (pc := 11) hE dX1_goThroughHour_11 (by decide) ?_
  exact w_X1_goThroughHour_13 hE fu _ _ _ _ _ _ _ ⟨rfl, ⟨rfl, ⟨rfl, ⟨rfl, ⟨rfl, trivial⟩⟩⟩⟩⟩
theorem k_X1_goThroughHour {fu : Nat} {x0 : Nat} {x1 : Nat} {x2 : Int32} {h : Hp} {out : Unit × Hp} (ho : f_X1_goThroughHour fu x0 x1 x2 h = some out) : h.K x0 = 1 := (gi_k ho).1
theorem fl_RX1_71 : Cond.fieldLink RX1 71 (TF 0 1).1 (TF 0 1).2.1 (TF 0 1).2.2.1 ∈ TB := tb_in (by decide +kernel) rfl
theorem cs_RX1_74 : csV RX1 74 yX1_findTargets cX1_findTargets 5 none 2 = true := by decide +kernel
theorem cs_RX1_81 : csV RX1 81 yX2_copyOf cX2_copyOf 2 none 1 = true := by decide +kernel
theorem fl_RX1_85 : Cond.fieldLink RX1 85 (TF 0 4).1 (TF 0 4).2.1 (TF 0 4).2.2.1 ∈ TB := tb_in (by decide +kernel) rfl
theorem cs_RX1_78 : csV RX1 78 yX0_stops cX0_stops 4 (some .long) 3 = true := by decide +kernel
theorem cs_RX1_88 : csV RX1 88 yX1_goThroughHour cX1_goThroughHour 6 none 2 = true := by decide +kernel
def rm_X1_goThroughLine : Room := { frames := 4, cells := 0, slots := 0, locals := 94 }
def f_X1_goThroughLine_69 (fu : Nat) (k61 : Nat → Nat → Int32 → Hp → Option (Unit × Hp)) : Nat → Nat → Nat → Int32 → Int32 → Hp → Option (Unit × Hp)
  | 0, _, _, _, _, _ => none
  | n + 1, x0, x1, x4, x5, h =>
    if 6 ≤ x5 then
      (gR h 1 x0 4).bind fun v90 =>
      (gR h 1 x0 3).bind fun v97 =>
      (pR h 1 x0 4 (some v97)).bind fun h100 =>
      (pR h100 1 x0 3 (some v90)).bind fun h106 =>
      k61 x0 x1 ((x4 + (-1))) h106
    else
      (f_X1_goThroughHour fu x0 x1 x5 h).bind fun r80 =>
      f_X1_goThroughLine_69 fu k61 n x0 x1 x4 ((x5 + 1)) r80.2
set_option maxHeartbeats 4000000 in
set_option maxRecDepth 100000 in
theorem w_X1_goThroughLine_69 {X : Cx} {D : Dx} (hE : En X D cX1_goThroughLine 6 RX1 none rm_X1_goThroughLine) {fu : Nat} {k61 : Nat → Nat → Int32 → Hp → Option (Unit × Hp)} (hk61 : ∀ (x0 : Nat) (x1 : Nat) (x4 : Int32) (h : Hp) (lv : List (Option Value)), lvLe [some (.ref x0), some (.ref x1), none, none, some (.int x4), none] lv → Wo X D 6 (Qr X D 0 0 evU) 0 0 (k61 x0 x1 x4 h) 61 lv [] h) : ∀ (n : Nat) (x0 : Nat) (x1 : Nat) (x4 : Int32) (x5 : Int32) (h : Hp) (lv : List (Option Value)), lvLe [some (.ref x0), some (.ref x1), none, none, some (.int x4), some (.int x5)] lv → Wo X D 6 (Qr X D 0 0 evU) 0 0 (f_X1_goThroughLine_69 fu k61 n x0 x1 x4 x5 h) 69 lv [] h := by
  intro n
  induction n with
  | zero => intros; exact Wo_none
  | succ n ih =>
    intro x0 x1 x4 x5 h lv hlv
    refine Wo_sub hlv ?_
    rw [f_X1_goThroughLine_69]
    refine r_iload (pc := 69) hE dX1_goThroughLine_69 rfl ?_
    refine r_bipush (v := 6) (pc := 71) hE dX1_goThroughLine_71 (by decide) ?_
    refine r_icmp_ge (pc := 73) hE 89 dX1_goThroughLine_73 (by decide) (fun _ => ?_) (fun _ => ?_)
    · refine r_aload_n (pc := 89) hE dX1_goThroughLine_89 rfl ?_
      refine r_getR (pc := 90) hE 1 4 (by decide) (by decide) (fun _ _ _ => rfl) fl_RX1_21 dX1_goThroughLine_90 (fun v90 _ => ?_)
      refine r_astore (pc := 93) hE dX1_goThroughLine_93 (by decide) ?_
      refine r_aload_n (pc := 95) hE dX1_goThroughLine_95 rfl ?_
      refine r_aload_n (pc := 96) hE dX1_goThroughLine_96 rfl ?_
      refine r_getR (pc := 97) hE 1 3 (by decide) (by decide) (fun _ _ _ => rfl) fl_RX1_18 dX1_goThroughLine_97 (fun v97 _ => ?_)
      refine r_putR (pc := 100) hE 1 4 (by decide) (by decide) (fun _ _ _ => rfl) fl_RX1_21 rfl rfl rfl dX1_goThroughLine_100 (fun h100 _ => ?_)
      refine r_aload_n (pc := 103) hE dX1_goThroughLine_103 rfl ?_
      refine r_aload (pc := 104) hE dX1_goThroughLine_104 rfl ?_
      refine r_putR (pc := 106) hE 1 3 (by decide) (by decide) (fun _ _ _ => rfl) fl_RX1_18 rfl rfl rfl dX1_goThroughLine_106 (fun h106 _ => ?_)
      refine r_iinc (v := (x4 + (-1))) (pc := 109) hE dX1_goThroughLine_109 rfl rfl (by decide) ?_
      refine r_goto (pc := 112) hE 61 dX1_goThroughLine_112 (by decide) ?_
      exact hk61 _ _ _ _ _ ⟨rfl, ⟨rfl, ⟨rfl, trivial⟩⟩⟩
    · refine r_aload_n (pc := 76) hE dX1_goThroughLine_76 rfl ?_
      refine r_aload_n (pc := 77) hE dX1_goThroughLine_77 rfl ?_
      refine r_iload (pc := 78) hE dX1_goThroughLine_78 rfl ?_
      refine r_callV (pc := 80) hE 1 (As := [.ref x1, .int x5]) (fun out ho => c_X1_goThroughHour _ _ fu _ _ _ _ out ho) (fun out ho => k_X1_goThroughHour ho) (by decide) rfl cs_RX1_88 ⟨Nat.le_of_ble_eq_true rfl, Nat.le_of_ble_eq_true rfl, Nat.le_of_ble_eq_true rfl, Nat.le_of_ble_eq_true rfl⟩ (Nat.le_of_ble_eq_true rfl) rfl dX1_goThroughLine_80 (fun r80 _ => ?_)
      refine r_iinc (v := (x5 + 1)) (pc := 83) hE dX1_goThroughLine_83 rfl rfl (by decide) ?_
      refine r_goto (pc := 86) hE 69 dX1_goThroughLine_86 (by decide) ?_
      exact ih _ _ _ _ _ _ ⟨rfl, ⟨rfl, ⟨rfl, ⟨rfl, trivial⟩⟩⟩⟩
def f_X1_goThroughLine_61 (fu : Nat) : Nat → Nat → Nat → Int32 → Hp → Option (Unit × Hp)
  | 0, _, _, _, _ => none
  | n + 1, x0, x1, x4, h =>
    if x4 ≤ 0 then
      (gR h 1 x0 3).bind fun v116 =>
      (gR h 1 x0 2).bind fun v123 =>
      (pR h 1 x0 3 (some v123)).bind fun h126 =>
      (pR h126 1 x0 2 (some v116)).bind fun h132 =>
      some ((), h132)
    else
      f_X1_goThroughLine_69 fu (fun y0 y1 y2 hy => f_X1_goThroughLine_61 fu n y0 y1 y2 hy) fu x0 x1 x4 0 h
set_option maxHeartbeats 4000000 in
set_option maxRecDepth 100000 in
theorem w_X1_goThroughLine_61 {X : Cx} {D : Dx} (hE : En X D cX1_goThroughLine 6 RX1 none rm_X1_goThroughLine) {fu : Nat} : ∀ (n : Nat) (x0 : Nat) (x1 : Nat) (x4 : Int32) (h : Hp) (lv : List (Option Value)), lvLe [some (.ref x0), some (.ref x1), none, none, some (.int x4), none] lv → Wo X D 6 (Qr X D 0 0 evU) 0 0 (f_X1_goThroughLine_61 fu n x0 x1 x4 h) 61 lv [] h := by
  intro n
  induction n with
  | zero => intros; exact Wo_none
  | succ n ih =>
    intro x0 x1 x4 h lv hlv
    refine Wo_sub hlv ?_
    rw [f_X1_goThroughLine_61]
    refine r_iload (pc := 61) hE dX1_goThroughLine_61 rfl ?_
    refine r_if_le (pc := 63) hE 115 dX1_goThroughLine_63 (by decide) (fun _ => ?_) (fun _ => ?_)
    · refine r_aload_n (pc := 115) hE dX1_goThroughLine_115 rfl ?_
      refine r_getR (pc := 116) hE 1 3 (by decide) (by decide) (fun _ _ _ => rfl) fl_RX1_18 dX1_goThroughLine_116 (fun v116 _ => ?_)
      refine r_astore (pc := 119) hE dX1_goThroughLine_119 (by decide) ?_
      refine r_aload_n (pc := 121) hE dX1_goThroughLine_121 rfl ?_
      refine r_aload_n (pc := 122) hE dX1_goThroughLine_122 rfl ?_
      refine r_getR (pc := 123) hE 1 2 (by decide) (by decide) (fun _ _ _ => rfl) fl_RX1_12 dX1_goThroughLine_123 (fun v123 _ => ?_)
      refine r_putR (pc := 126) hE 1 3 (by decide) (by decide) (fun _ _ _ => rfl) fl_RX1_18 rfl rfl rfl dX1_goThroughLine_126 (fun h126 _ => ?_)
      refine r_aload_n (pc := 129) hE dX1_goThroughLine_129 rfl ?_
      refine r_aload (pc := 130) hE dX1_goThroughLine_130 rfl ?_
      refine r_putR (pc := 132) hE 1 2 (by decide) (by decide) (fun _ _ _ => rfl) fl_RX1_12 rfl rfl rfl dX1_goThroughLine_132 (fun h132 _ => ?_)
      exact r_vret (pc := 135) hE dX1_goThroughLine_135
    · refine r_iconst (v := 0) (pc := 66) hE dX1_goThroughLine_66 (by decide) ?_
      refine r_istore (pc := 67) hE dX1_goThroughLine_67 (by decide) ?_
      exact w_X1_goThroughLine_69 hE (fun y0 y1 y2 hy lvy hly => ih y0 y1 y2 hy lvy hly) fu _ _ _ _ _ _ ⟨rfl, ⟨rfl, ⟨rfl, ⟨rfl, trivial⟩⟩⟩⟩
def f_X1_goThroughLine_14 (fu : Nat) : Nat → Nat → Nat → Nat → Int32 → Int32 → Hp → Option (Unit × Hp)
  | 0, _, _, _, _, _, _ => none
  | n + 1, x0, x1, x2, x3, x4, h =>
    if 6 ≤ x4 then
      (gR h 1 x0 3).bind fun v43 =>
      (gR h 1 x0 2).bind fun v47 =>
      (f_X2_copyOf fu v43 v47 h).bind fun r50 =>
      (gR r50.2 0 x2 4).bind fun v54 =>
      (aI r50.2 8 v54 x3).bind fun v58 =>
      f_X1_goThroughLine_61 fu fu x0 x1 v58 r50.2
    else
      (gR h 1 x0 6).bind fun v22 =>
      (f_X0_stops fu x2 x3 x1 x4 h).bind fun r32 =>
      (sJ r32.2 9 v22 x4 r32.1).bind fun h35 =>
      f_X1_goThroughLine_14 fu n x0 x1 x2 x3 ((x4 + 1)) h35
set_option maxHeartbeats 4000000 in
set_option maxRecDepth 100000 in
theorem w_X1_goThroughLine_14 {X : Cx} {D : Dx} (hE : En X D cX1_goThroughLine 6 RX1 none rm_X1_goThroughLine) {fu : Nat} : ∀ (n : Nat) (x0 : Nat) (x1 : Nat) (x2 : Nat) (x3 : Int32) (x4 : Int32) (h : Hp) (lv : List (Option Value)), lvLe [some (.ref x0), some (.ref x1), some (.ref x2), some (.int x3), some (.int x4), none] lv → Wo X D 6 (Qr X D 0 0 evU) 0 0 (f_X1_goThroughLine_14 fu n x0 x1 x2 x3 x4 h) 14 lv [] h := by
  intro n
  induction n with
  | zero => intros; exact Wo_none
  | succ n ih =>
    intro x0 x1 x2 x3 x4 h lv hlv
    refine Wo_sub hlv ?_
    rw [f_X1_goThroughLine_14]
    refine r_iload (pc := 14) hE dX1_goThroughLine_14 rfl ?_
    refine r_bipush (v := 6) (pc := 16) hE dX1_goThroughLine_16 (by decide) ?_
    refine r_icmp_ge (pc := 18) hE 42 dX1_goThroughLine_18 (by decide) (fun _ => ?_) (fun _ => ?_)
    · refine r_aload_n (pc := 42) hE dX1_goThroughLine_42 rfl ?_
      refine r_getR (pc := 43) hE 1 3 (by decide) (by decide) (fun _ _ _ => rfl) fl_RX1_18 dX1_goThroughLine_43 (fun v43 _ => ?_)
      refine r_aload_n (pc := 46) hE dX1_goThroughLine_46 rfl ?_
      refine r_getR (pc := 47) hE 1 2 (by decide) (by decide) (fun _ _ _ => rfl) fl_RX1_12 dX1_goThroughLine_47 (fun v47 _ => ?_)
      refine r_callV (pc := 50) hE 2 (As := [.ref v47]) (fun out ho => c_X2_copyOf _ _ fu _ _ _ out ho) (fun out ho => k_X2_copyOf ho) (by decide) rfl cs_RX1_81 ⟨Nat.le_of_ble_eq_true rfl, Nat.le_of_ble_eq_true rfl, Nat.le_of_ble_eq_true rfl, Nat.le_of_ble_eq_true rfl⟩ (Nat.le_of_ble_eq_true rfl) rfl dX1_goThroughLine_50 (fun r50 _ => ?_)
      refine r_aload_n (pc := 53) hE dX1_goThroughLine_53 rfl ?_
      refine r_getR (pc := 54) hE 0 4 (by decide) (by decide) (fun _ _ _ => rfl) fl_RX1_85 dX1_goThroughLine_54 (fun v54 _ => ?_)
      refine r_iload_n (pc := 57) hE dX1_goThroughLine_57 rfl ?_
      refine r_aldI (pc := 58) hE dX1_goThroughLine_58 (fun v58 _ => ?_)
      refine r_istore (pc := 59) hE dX1_goThroughLine_59 (by decide) ?_
      exact w_X1_goThroughLine_61 hE fu _ _ _ _ _ ⟨rfl, ⟨rfl, ⟨rfl, trivial⟩⟩⟩
    · refine r_aload_n (pc := 21) hE dX1_goThroughLine_21 rfl ?_
      refine r_getR (pc := 22) hE 1 6 (by decide) (by decide) (fun _ _ _ => rfl) fl_RX1_28 dX1_goThroughLine_22 (fun v22 _ => ?_)
      refine r_iload (pc := 25) hE dX1_goThroughLine_25 rfl ?_
      refine r_aload_n (pc := 27) hE dX1_goThroughLine_27 rfl ?_
      refine r_iload_n (pc := 28) hE dX1_goThroughLine_28 rfl ?_
      refine r_aload_n (pc := 29) hE dX1_goThroughLine_29 rfl ?_
      refine r_iload (pc := 30) hE dX1_goThroughLine_30 rfl ?_
      refine r_callV (pc := 32) hE 0 (As := [.int x3, .ref x1, .int x4]) (fun out ho => c_X0_stops _ _ fu _ _ _ _ _ out ho) (fun out ho => k_X0_stops ho) (by decide) rfl cs_RX1_78 ⟨Nat.le_of_ble_eq_true rfl, Nat.le_of_ble_eq_true rfl, Nat.le_of_ble_eq_true rfl, Nat.le_of_ble_eq_true rfl⟩ (Nat.le_of_ble_eq_true rfl) rfl dX1_goThroughLine_32 (fun r32 _ => ?_)
      refine r_astJ (pc := 35) hE dX1_goThroughLine_35 (fun h35 _ => ?_)
      refine r_iinc (v := (x4 + 1)) (pc := 36) hE dX1_goThroughLine_36 rfl rfl (by decide) ?_
      refine r_goto (pc := 39) hE 14 dX1_goThroughLine_39 (by decide) ?_
      exact ih _ _ _ _ _ _ _ ⟨rfl, ⟨rfl, ⟨rfl, ⟨rfl, ⟨rfl, trivial⟩⟩⟩⟩⟩
def f_X1_goThroughLine (fu : Nat) (x0 : Nat) (x1 : Nat) (x2 : Nat) (x3 : Int32) (h : Hp) : Option (Unit × Hp) :=
  if h.K x0 = 1 then
    (gR h 0 x2 1).bind fun v3 =>
    (aI h 8 v3 x3).bind fun v7 =>
    (f_X1_findTargets fu x0 x1 v7 h).bind fun r8 =>
    f_X1_goThroughLine_14 fu fu x0 x1 x2 x3 0 r8.2
  else none
set_option maxHeartbeats 4000000 in
set_option maxRecDepth 100000 in
theorem c_X1_goThroughLine (l : Launch) (D : Dx) (fu : Nat) (x0 : Nat) (x1 : Nat) (x2 : Nat) (x3 : Int32) (h : Hp) (out : Unit × Hp) (ho : f_X1_goThroughLine fu x0 x1 x2 x3 h = some out) : Ct l D yX1_goThroughLine cX1_goThroughLine 6 none rm_X1_goThroughLine [.ref x0, .ref x1, .ref x2, .int x3] h (evU out.1) out.2 := by
  refine Ct.of (o := f_X1_goThroughLine fu x0 x1 x2 x3 h) (lv := [some (.ref x0), some (.ref x1), some (.ref x2), some (.int x3), none, none]) (by decide) (Nat.le_of_ble_eq_true rfl) rfl ?_ out ho
  intro X hXl hE hin
  replace hE : En X D cX1_goThroughLine 6 RX1 none rm_X1_goThroughLine := hE
  subst hXl
  unfold f_X1_goThroughLine
  refine Wo_grd (fun _ => ?_)
  refine r_aload_n (pc := 0) hE dX1_goThroughLine_0 rfl ?_
  refine r_aload_n (pc := 1) hE dX1_goThroughLine_1 rfl ?_
  refine r_aload_n (pc := 2) hE dX1_goThroughLine_2 rfl ?_
  refine r_getR (pc := 3) hE 0 1 (by decide) (by decide) (fun _ _ _ => rfl) fl_RX1_71 dX1_goThroughLine_3 (fun v3 _ => ?_)
  refine r_iload_n (pc := 6) hE dX1_goThroughLine_6 rfl ?_
  refine r_aldI (pc := 7) hE dX1_goThroughLine_7 (fun v7 _ => ?_)
  refine r_callV (pc := 8) hE 1 (As := [.ref x1, .int v7]) (fun out ho => c_X1_findTargets _ _ fu _ _ _ _ out ho) (fun out ho => k_X1_findTargets ho) (by decide) rfl cs_RX1_74 ⟨Nat.le_of_ble_eq_true rfl, Nat.le_of_ble_eq_true rfl, Nat.le_of_ble_eq_true rfl, Nat.le_of_ble_eq_true rfl⟩ (Nat.le_of_ble_eq_true rfl) rfl dX1_goThroughLine_8 (fun r8 _ => ?_)
  refine r_iconst (v := 0) (pc := 11) hE dX1_goThroughLine_11 (by decide) ?_
  refine r_istore (pc := 12) hE dX1_goThroughLine_12 (by decide) ?_
  exact w_X1_goThroughLine_14 hE fu _ _ _ _ _ _ _ ⟨rfl, ⟨rfl, ⟨rfl, ⟨rfl, ⟨rfl, trivial⟩⟩⟩⟩⟩
theorem k_X1_goThroughLine {fu : Nat} {x0 : Nat} {x1 : Nat} {x2 : Nat} {x3 : Int32} {h : Hp} {out : Unit × Hp} (ho : f_X1_goThroughLine fu x0 x1 x2 x3 h = some out) : h.K x0 = 1 := (gi_k ho).1
def rm_X1_standAtEnd : Room := { frames := 1, cells := 0, slots := 0, locals := 23 }
def f_X1_standAtEnd_33 (fu : Nat) (k2 : Nat → Nat → Int32 → Hp → Option (Unit × Hp)) (k10 : Nat → Nat → Int32 → Int32 → Hp → Option (Unit × Hp)) (x0 : Nat) (x1 : Nat) (x2 : Int32) (x3 : Int32) (s0 : Int32) (h : Hp) : Option (Unit × Hp) :=
  (gR h 1 x0 2).bind fun v36 =>
  (f_X2_set fu v36 ((x2 * 64) + x3) s0 s0 h).bind fun r49 =>
  k10 x0 x1 x2 ((x3 + 1)) r49.2
set_option maxHeartbeats 4000000 in
set_option maxRecDepth 100000 in
theorem w_X1_standAtEnd_33 {X : Cx} {D : Dx} (hE : En X D cX1_standAtEnd 5 RX1 none rm_X1_standAtEnd) {fu : Nat} {k2 : Nat → Nat → Int32 → Hp → Option (Unit × Hp)} {k10 : Nat → Nat → Int32 → Int32 → Hp → Option (Unit × Hp)} (hk2 : ∀ (x0 : Nat) (x1 : Nat) (x2 : Int32) (h : Hp) (lv : List (Option Value)), lvLe [some (.ref x0), some (.ref x1), some (.int x2), none, none] lv → Wo X D 5 (Qr X D 0 0 evU) 0 0 (k2 x0 x1 x2 h) 2 lv [] h) (hk10 : ∀ (x0 : Nat) (x1 : Nat) (x2 : Int32) (x3 : Int32) (h : Hp) (lv : List (Option Value)), lvLe [some (.ref x0), some (.ref x1), some (.int x2), some (.int x3), none] lv → Wo X D 5 (Qr X D 0 0 evU) 0 0 (k10 x0 x1 x2 x3 h) 10 lv [] h) (x0 : Nat) (x1 : Nat) (x2 : Int32) (x3 : Int32) (s0 : Int32) (h : Hp) {lv : List (Option Value)} (hlv : lvLe [some (.ref x0), some (.ref x1), some (.int x2), some (.int x3), none] lv) : Wo X D 5 (Qr X D 0 0 evU) 0 0 (f_X1_standAtEnd_33 fu k2 k10 x0 x1 x2 x3 s0 h) 33 lv [.int s0] h := by
  refine Wo_sub hlv ?_
  unfold f_X1_standAtEnd_33
  refine r_istore (pc := 33) hE dX1_standAtEnd_33 (by decide) ?_
  refine r_aload_n (pc := 35) hE dX1_standAtEnd_35 rfl ?_
  refine r_getR (pc := 36) hE 1 2 (by decide) (by decide) (fun _ _ _ => rfl) fl_RX1_12 dX1_standAtEnd_36 (fun v36 _ => ?_)
  refine r_iload_n (pc := 39) hE dX1_standAtEnd_39 rfl ?_
  refine r_bipush (v := 64) (pc := 40) hE dX1_standAtEnd_40 (by decide) ?_
  refine r_imul (pc := 42) hE dX1_standAtEnd_42 ?_
  refine r_iload_n (pc := 43) hE dX1_standAtEnd_43 rfl ?_
  refine r_iadd (pc := 44) hE dX1_standAtEnd_44 ?_
  refine r_iload (pc := 45) hE dX1_standAtEnd_45 rfl ?_
  refine r_iload (pc := 47) hE dX1_standAtEnd_47 rfl ?_
  refine r_callV (pc := 49) hE 2 (As := [.int ((x2 * 64) + x3), .int s0, .int s0]) (fun out ho => c_X2_set _ _ fu _ _ _ _ _ out ho) (fun out ho => k_X2_set ho) (by decide) rfl cs_RX1_67 ⟨Nat.le_of_ble_eq_true rfl, Nat.le_of_ble_eq_true rfl, Nat.le_of_ble_eq_true rfl, Nat.le_of_ble_eq_true rfl⟩ (Nat.le_of_ble_eq_true rfl) rfl dX1_standAtEnd_49 (fun r49 _ => ?_)
  refine r_iinc (v := (x3 + 1)) (pc := 52) hE dX1_standAtEnd_52 rfl rfl (by decide) ?_
  refine r_goto (pc := 55) hE 10 dX1_standAtEnd_55 (by decide) ?_
  exact hk10 _ _ _ _ _ _ ⟨rfl, ⟨rfl, ⟨rfl, ⟨rfl, trivial⟩⟩⟩⟩
def f_X1_standAtEnd_10 (fu : Nat) (k2 : Nat → Nat → Int32 → Hp → Option (Unit × Hp)) : Nat → Nat → Nat → Int32 → Int32 → Hp → Option (Unit × Hp)
  | 0, _, _, _, _, _ => none
  | n + 1, x0, x1, x2, x3, h =>
    if 64 ≤ x3 then
      k2 x0 x1 ((x2 + 1)) h
    else
      (gJ h 4 x1 5).bind fun v17 =>
      (f_X6_has fu v17 x3 h).bind fun r21 =>
      if r21.1 = 0 then
        f_X1_standAtEnd_33 fu k2 (fun y0 y1 y2 y3 hy => f_X1_standAtEnd_10 fu k2 n y0 y1 y2 y3 hy) x0 x1 x2 x3 1000000 r21.2
      else
        f_X1_standAtEnd_33 fu k2 (fun y0 y1 y2 y3 hy => f_X1_standAtEnd_10 fu k2 n y0 y1 y2 y3 hy) x0 x1 x2 x3 0 r21.2
set_option maxHeartbeats 4000000 in
set_option maxRecDepth 100000 in
theorem w_X1_standAtEnd_10 {X : Cx} {D : Dx} (hE : En X D cX1_standAtEnd 5 RX1 none rm_X1_standAtEnd) {fu : Nat} {k2 : Nat → Nat → Int32 → Hp → Option (Unit × Hp)} (hk2 : ∀ (x0 : Nat) (x1 : Nat) (x2 : Int32) (h : Hp) (lv : List (Option Value)), lvLe [some (.ref x0), some (.ref x1), some (.int x2), none, none] lv → Wo X D 5 (Qr X D 0 0 evU) 0 0 (k2 x0 x1 x2 h) 2 lv [] h) : ∀ (n : Nat) (x0 : Nat) (x1 : Nat) (x2 : Int32) (x3 : Int32) (h : Hp) (lv : List (Option Value)), lvLe [some (.ref x0), some (.ref x1), some (.int x2), some (.int x3), none] lv → Wo X D 5 (Qr X D 0 0 evU) 0 0 (f_X1_standAtEnd_10 fu k2 n x0 x1 x2 x3 h) 10 lv [] h := by
  intro n
  induction n with
  | zero => intros; exact Wo_none
  | succ n ih =>
    intro x0 x1 x2 x3 h lv hlv
    refine Wo_sub hlv ?_
    rw [f_X1_standAtEnd_10]
    refine r_iload_n (pc := 10) hE dX1_standAtEnd_10 rfl ?_
    refine r_bipush (v := 64) (pc := 11) hE dX1_standAtEnd_11 (by decide) ?_
    refine r_icmp_ge (pc := 13) hE 58 dX1_standAtEnd_13 (by decide) (fun _ => ?_) (fun _ => ?_)
    · refine r_iinc (v := (x2 + 1)) (pc := 58) hE dX1_standAtEnd_58 rfl rfl (by decide) ?_
      refine r_goto (pc := 61) hE 2 dX1_standAtEnd_61 (by decide) ?_
      exact hk2 _ _ _ _ _ ⟨rfl, ⟨rfl, ⟨rfl, trivial⟩⟩⟩
    · refine r_aload_n (pc := 16) hE dX1_standAtEnd_16 rfl ?_
      refine r_getJ (pc := 17) hE 4 5 (by decide) (by decide) (fun _ _ _ => rfl) fl_RX1_58 dX1_standAtEnd_17 (fun v17 _ => ?_)
      refine r_iload_n (pc := 20) hE dX1_standAtEnd_20 rfl ?_
      refine r_callSN (pc := 21) hE (As := [.long v17, .int x3]) (fun out ho => c_X6_has _ _ fu _ _ _ out ho) cs_RX1_62 ⟨Nat.le_of_ble_eq_true rfl, Nat.le_of_ble_eq_true rfl, Nat.le_of_ble_eq_true rfl, Nat.le_of_ble_eq_true rfl⟩ (Nat.le_of_ble_eq_true rfl) rfl dX1_standAtEnd_21 (fun r21 _ => ?_)
      refine r_if_eq (pc := 24) hE 31 dX1_standAtEnd_24 (by decide) (fun _ => ?_) (fun _ => ?_)
      · refine r_ldc (v := 1000000) (pc := 31) hE ct_RX1_66 dX1_standAtEnd_31 ?_
        exact w_X1_standAtEnd_33 hE hk2 (fun y0 y1 y2 y3 hy lvy hly => ih y0 y1 y2 y3 hy lvy hly) _ _ _ _ _ _ ⟨rfl, ⟨rfl, ⟨rfl, ⟨rfl, trivial⟩⟩⟩⟩
      · refine r_iconst (v := 0) (pc := 27) hE dX1_standAtEnd_27 (by decide) ?_
        refine r_goto (pc := 28) hE 33 dX1_standAtEnd_28 (by decide) ?_
        exact w_X1_standAtEnd_33 hE hk2 (fun y0 y1 y2 y3 hy lvy hly => ih y0 y1 y2 y3 hy lvy hly) _ _ _ _ _ _ ⟨rfl, ⟨rfl, ⟨rfl, ⟨rfl, trivial⟩⟩⟩⟩
def f_X1_standAtEnd_2 (fu : Nat) : Nat → Nat → Nat → Int32 → Hp → Option (Unit × Hp)
  | 0, _, _, _, _ => none
  | n + 1, x0, x1, x2, h =>
    if 6 ≤ x2 then
      some ((), h)
    else
      f_X1_standAtEnd_10 fu (fun y0 y1 y2 hy => f_X1_standAtEnd_2 fu n y0 y1 y2 hy) fu x0 x1 x2 0 h
set_option maxHeartbeats 4000000 in
set_option maxRecDepth 100000 in
theorem w_X1_standAtEnd_2 {X : Cx} {D : Dx} (hE : En X D cX1_standAtEnd 5 RX1 none rm_X1_standAtEnd) {fu : Nat} : ∀ (n : Nat) (x0 : Nat) (x1 : Nat) (x2 : Int32) (h : Hp) (lv : List (Option Value)), lvLe [some (.ref x0), some (.ref x1), some (.int x2), none, none] lv → Wo X D 5 (Qr X D 0 0 evU) 0 0 (f_X1_standAtEnd_2 fu n x0 x1 x2 h) 2 lv [] h := by
  intro n
  induction n with
  | zero => intros; exact Wo_none
  | succ n ih =>
    intro x0 x1 x2 h lv hlv
    refine Wo_sub hlv ?_
    rw [f_X1_standAtEnd_2]
    refine r_iload_n (pc := 2) hE dX1_standAtEnd_2 rfl ?_
    refine r_bipush (v := 6) (pc := 3) hE dX1_standAtEnd_3 (by decide) ?_
    refine r_icmp_ge (pc := 5) hE 64 dX1_standAtEnd_5 (by decide) (fun _ => ?_) (fun _ => ?_)
    · exact r_vret (pc := 64) hE dX1_standAtEnd_64
    · refine r_iconst (v := 0) (pc := 8) hE dX1_standAtEnd_8 (by decide) ?_
      refine r_istore_n (pc := 9) hE dX1_standAtEnd_9 (by decide) ?_
      exact w_X1_standAtEnd_10 hE (fun y0 y1 y2 hy lvy hly => ih y0 y1 y2 hy lvy hly) fu _ _ _ _ _ _ ⟨rfl, ⟨rfl, ⟨rfl, ⟨rfl, trivial⟩⟩⟩⟩
def f_X1_standAtEnd (fu : Nat) (x0 : Nat) (x1 : Nat) (h : Hp) : Option (Unit × Hp) :=
  if h.K x0 = 1 then
    f_X1_standAtEnd_2 fu fu x0 x1 0 h
  else none
set_option maxHeartbeats 4000000 in
set_option maxRecDepth 100000 in
theorem c_X1_standAtEnd (l : Launch) (D : Dx) (fu : Nat) (x0 : Nat) (x1 : Nat) (h : Hp) (out : Unit × Hp) (ho : f_X1_standAtEnd fu x0 x1 h = some out) : Ct l D yX1_standAtEnd cX1_standAtEnd 5 none rm_X1_standAtEnd [.ref x0, .ref x1] h (evU out.1) out.2 := by
  refine Ct.of (o := f_X1_standAtEnd fu x0 x1 h) (lv := [some (.ref x0), some (.ref x1), none, none, none]) (by decide) (Nat.le_of_ble_eq_true rfl) rfl ?_ out ho
  intro X hXl hE hin
  replace hE : En X D cX1_standAtEnd 5 RX1 none rm_X1_standAtEnd := hE
  subst hXl
  unfold f_X1_standAtEnd
  refine Wo_grd (fun _ => ?_)
  refine r_iconst (v := 0) (pc := 0) hE dX1_standAtEnd_0 (by decide) ?_
  refine r_istore_n (pc := 1) hE dX1_standAtEnd_1 (by decide) ?_
  exact w_X1_standAtEnd_2 hE fu _ _ _ _ _ ⟨rfl, ⟨rfl, ⟨rfl, trivial⟩⟩⟩
theorem k_X1_standAtEnd {fu : Nat} {x0 : Nat} {x1 : Nat} {h : Hp} {out : Unit × Hp} (ho : f_X1_standAtEnd fu x0 x1 h = some out) : h.K x0 = 1 := (gi_k ho).1
theorem fl_RX1_36 : Cond.fieldLink RX1 36 (TF 1 1).1 (TF 1 1).2.1 (TF 1 1).2.2.1 ∈ TB := tb_in (by decide +kernel) rfl
theorem fl_RX1_40 : Cond.fieldLink RX1 40 (TF 4 3).1 (TF 4 3).2.1 (TF 4 3).2.2.1 ∈ TB := tb_in (by decide +kernel) rfl
theorem cs_RX1_45 : csV RX1 45 yX1_standAtEnd cX1_standAtEnd 5 none 1 = true := by decide +kernel
theorem fl_RX1_49 : Cond.fieldLink RX1 49 (TF 0 0).1 (TF 0 0).2.1 (TF 0 0).2.2.1 ∈ TB := tb_in (by decide +kernel) rfl
theorem cs_RX1_54 : csV RX1 54 yX1_goThroughLine cX1_goThroughLine 6 none 3 = true := by decide +kernel
def rm_X1_hear : Room := { frames := 5, cells := 0, slots := 0, locals := 119 }
def f_X1_hear_44 (fu : Nat) : Nat → Nat → Nat → Nat → Int32 → Hp → Option (Unit × Hp)
  | 0, _, _, _, _, _ => none
  | n + 1, x0, x1, x2, x3, h =>
    if x3 < 0 then
      some ((), h)
    else
      (f_X1_goThroughLine fu x0 x1 x2 x3 h).bind fun r52 =>
      f_X1_hear_44 fu n x0 x1 x2 ((x3 + (-1))) r52.2
set_option maxHeartbeats 4000000 in
set_option maxRecDepth 100000 in
theorem w_X1_hear_44 {X : Cx} {D : Dx} (hE : En X D cX1_hear 4 RX1 none rm_X1_hear) {fu : Nat} : ∀ (n : Nat) (x0 : Nat) (x1 : Nat) (x2 : Nat) (x3 : Int32) (h : Hp) (lv : List (Option Value)), lvLe [some (.ref x0), some (.ref x1), some (.ref x2), some (.int x3)] lv → Wo X D 4 (Qr X D 0 0 evU) 0 0 (f_X1_hear_44 fu n x0 x1 x2 x3 h) 44 lv [] h := by
  intro n
  induction n with
  | zero => intros; exact Wo_none
  | succ n ih =>
    intro x0 x1 x2 x3 h lv hlv
    refine Wo_sub hlv ?_
    rw [f_X1_hear_44]
    refine r_iload_n (pc := 44) hE dX1_hear_44 rfl ?_
    refine r_if_lt (pc := 45) hE 61 dX1_hear_45 (by decide) (fun _ => ?_) (fun _ => ?_)
    · exact r_vret (pc := 61) hE dX1_hear_61
    · refine r_aload_n (pc := 48) hE dX1_hear_48 rfl ?_
      refine r_aload_n (pc := 49) hE dX1_hear_49 rfl ?_
      refine r_aload_n (pc := 50) hE dX1_hear_50 rfl ?_
      refine r_iload_n (pc := 51) hE dX1_hear_51 rfl ?_
      refine r_callV (pc := 52) hE 1 (As := [.ref x1, .ref x2, .int x3]) (fun out ho => c_X1_goThroughLine _ _ fu _ _ _ _ _ out ho) (fun out ho => k_X1_goThroughLine ho) (by decide) rfl cs_RX1_54 ⟨Nat.le_of_ble_eq_true rfl, Nat.le_of_ble_eq_true rfl, Nat.le_of_ble_eq_true rfl, Nat.le_of_ble_eq_true rfl⟩ (Nat.le_of_ble_eq_true rfl) rfl dX1_hear_52 (fun r52 _ => ?_)
      refine r_iinc (v := (x3 + (-1))) (pc := 55) hE dX1_hear_55 rfl rfl (by decide) ?_
      refine r_goto (pc := 58) hE 44 dX1_hear_58 (by decide) ?_
      exact ih _ _ _ _ _ _ ⟨rfl, ⟨rfl, ⟨rfl, ⟨rfl, trivial⟩⟩⟩⟩
def f_X1_hear_19 (fu : Nat) (x0 : Nat) (x1 : Nat) (x2 : Nat) (h : Hp) : Option (Unit × Hp) :=
  (pI h 1 x0 0 1).bind fun h21 =>
  (gI h21 4 x1 3).bind fun v26 =>
  (pI h21 1 x0 1 v26).bind fun h29 =>
  (f_X1_standAtEnd fu x0 x1 h29).bind fun r34 =>
  (gI r34.2 0 x2 0).bind fun v38 =>
  f_X1_hear_44 fu fu x0 x1 x2 ((v38 - 1)) r34.2
set_option maxHeartbeats 4000000 in
set_option maxRecDepth 100000 in
theorem w_X1_hear_19 {X : Cx} {D : Dx} (hE : En X D cX1_hear 4 RX1 none rm_X1_hear) {fu : Nat} (x0 : Nat) (x1 : Nat) (x2 : Nat) (h : Hp) {lv : List (Option Value)} (hlv : lvLe [some (.ref x0), some (.ref x1), some (.ref x2), none] lv) : Wo X D 4 (Qr X D 0 0 evU) 0 0 (f_X1_hear_19 fu x0 x1 x2 h) 19 lv [] h := by
  refine Wo_sub hlv ?_
  unfold f_X1_hear_19
  refine r_aload_n (pc := 19) hE dX1_hear_19 rfl ?_
  refine r_iconst (v := 1) (pc := 20) hE dX1_hear_20 (by decide) ?_
  refine r_putI (pc := 21) hE 1 0 (by decide) (by decide) (fun _ _ _ => rfl) fl_RX1_32 rfl (by decide) (by decide) dX1_hear_21 (fun h21 _ => ?_)
  refine r_aload_n (pc := 24) hE dX1_hear_24 rfl ?_
  refine r_aload_n (pc := 25) hE dX1_hear_25 rfl ?_
  refine r_getI (pc := 26) hE 4 3 (by decide) (by decide) (fun _ _ _ => rfl) fl_RX1_40 dX1_hear_26 (fun v26 _ => ?_)
  refine r_putI (pc := 29) hE 1 1 (by decide) (by decide) (fun _ _ _ => rfl) fl_RX1_36 rfl rfl rfl dX1_hear_29 (fun h29 _ => ?_)
  refine r_aload_n (pc := 32) hE dX1_hear_32 rfl ?_
  refine r_aload_n (pc := 33) hE dX1_hear_33 rfl ?_
  refine r_callV (pc := 34) hE 1 (As := [.ref x1]) (fun out ho => c_X1_standAtEnd _ _ fu _ _ _ out ho) (fun out ho => k_X1_standAtEnd ho) (by decide) rfl cs_RX1_45 ⟨Nat.le_of_ble_eq_true rfl, Nat.le_of_ble_eq_true rfl, Nat.le_of_ble_eq_true rfl, Nat.le_of_ble_eq_true rfl⟩ (Nat.le_of_ble_eq_true rfl) rfl dX1_hear_34 (fun r34 _ => ?_)
  refine r_aload_n (pc := 37) hE dX1_hear_37 rfl ?_
  refine r_getI (pc := 38) hE 0 0 (by decide) (by decide) (fun _ _ _ => rfl) fl_RX1_49 dX1_hear_38 (fun v38 _ => ?_)
  refine r_iconst (v := 1) (pc := 41) hE dX1_hear_41 (by decide) ?_
  refine r_isub (pc := 42) hE dX1_hear_42 ?_
  refine r_istore_n (pc := 43) hE dX1_hear_43 (by decide) ?_
  exact w_X1_hear_44 hE fu _ _ _ _ _ _ ⟨rfl, ⟨rfl, ⟨rfl, ⟨rfl, trivial⟩⟩⟩⟩
def f_X1_hear (fu : Nat) (x0 : Nat) (x1 : Nat) (x2 : Nat) (h : Hp) : Option (Unit × Hp) :=
  if h.K x0 = 1 then
    (gI h 1 x0 0).bind fun v1 =>
    if v1 = 0 then
      f_X1_hear_19 fu x0 x1 x2 h
    else
      (gI h 1 x0 1).bind fun v8 =>
      (gI h 4 x1 3).bind fun v12 =>
      if v8 = v12 then
        some ((), h)
      else
        f_X1_hear_19 fu x0 x1 x2 h
  else none
set_option maxHeartbeats 4000000 in
set_option maxRecDepth 100000 in
theorem c_X1_hear (l : Launch) (D : Dx) (fu : Nat) (x0 : Nat) (x1 : Nat) (x2 : Nat) (h : Hp) (out : Unit × Hp) (ho : f_X1_hear fu x0 x1 x2 h = some out) : Ct l D yX1_hear cX1_hear 4 none rm_X1_hear [.ref x0, .ref x1, .ref x2] h (evU out.1) out.2 := by
  refine Ct.of (o := f_X1_hear fu x0 x1 x2 h) (lv := [some (.ref x0), some (.ref x1), some (.ref x2), none]) (by decide) (Nat.le_of_ble_eq_true rfl) rfl ?_ out ho
  intro X hXl hE hin
  replace hE : En X D cX1_hear 4 RX1 none rm_X1_hear := hE
  subst hXl
  unfold f_X1_hear
  refine Wo_grd (fun _ => ?_)
  refine r_aload_n (pc := 0) hE dX1_hear_0 rfl ?_
  refine r_getI (pc := 1) hE 1 0 (by decide) (by decide) (fun _ _ _ => rfl) fl_RX1_32 dX1_hear_1 (fun v1 _ => ?_)
  refine r_if_eq (pc := 4) hE 19 dX1_hear_4 (by decide) (fun _ => ?_) (fun _ => ?_)
  · exact w_X1_hear_19 hE _ _ _ _ ⟨rfl, ⟨rfl, ⟨rfl, trivial⟩⟩⟩
  · refine r_aload_n (pc := 7) hE dX1_hear_7 rfl ?_
    refine r_getI (pc := 8) hE 1 1 (by decide) (by decide) (fun _ _ _ => rfl) fl_RX1_36 dX1_hear_8 (fun v8 _ => ?_)
    refine r_aload_n (pc := 11) hE dX1_hear_11 rfl ?_
    refine r_getI (pc := 12) hE 4 3 (by decide) (by decide) (fun _ _ _ => rfl) fl_RX1_40 dX1_hear_12 (fun v12 _ => ?_)
    refine r_icmp_ne (pc := 15) hE 19 dX1_hear_15 (by decide) (fun _ => ?_) (fun _ => ?_)
    · exact w_X1_hear_19 hE _ _ _ _ ⟨rfl, ⟨rfl, ⟨rfl, trivial⟩⟩⟩
    · exact r_vret (pc := 18) hE dX1_hear_18
theorem k_X1_hear {fu : Nat} {x0 : Nat} {x1 : Nat} {x2 : Nat} {h : Hp} {out : Unit × Hp} (ho : f_X1_hear fu x0 x1 x2 h = some out) : h.K x0 = 1 := (gi_k ho).1
def rm_X1_longestOf : Room := { frames := 1, cells := 0, slots := 0, locals := 22 }
def f_X1_longestOf_44 (fu : Nat) (k6 : Nat → Int64 → Int32 → Int32 → Int32 → Hp → Option (Int32 × Hp)) (x0 : Nat) (x1 : Int64) (x3 : Int32) (x4 : Int32) (x5 : Int32) (h : Hp) : Option (Int32 × Hp) :=
  k6 x0 x1 x3 x4 ((x5 + 1)) h
set_option maxHeartbeats 4000000 in
set_option maxRecDepth 100000 in
theorem w_X1_longestOf_44 {X : Cx} {D : Dx} (hE : En X D cX1_longestOf 6 RX1 (some .int) rm_X1_longestOf) {fu : Nat} {k6 : Nat → Int64 → Int32 → Int32 → Int32 → Hp → Option (Int32 × Hp)} (hk6 : ∀ (x0 : Nat) (x1 : Int64) (x3 : Int32) (x4 : Int32) (x5 : Int32) (h : Hp) (lv : List (Option Value)), lvLe [some (.ref x0), some (.long x1), none, some (.int x3), some (.int x4), some (.int x5)] lv → Wo X D 6 (Qr X D 0 0 evI) 0 0 (k6 x0 x1 x3 x4 x5 h) 6 lv [] h) (x0 : Nat) (x1 : Int64) (x3 : Int32) (x4 : Int32) (x5 : Int32) (h : Hp) {lv : List (Option Value)} (hlv : lvLe [some (.ref x0), some (.long x1), none, some (.int x3), some (.int x4), some (.int x5)] lv) : Wo X D 6 (Qr X D 0 0 evI) 0 0 (f_X1_longestOf_44 fu k6 x0 x1 x3 x4 x5 h) 44 lv [] h := by
  refine Wo_sub hlv ?_
  unfold f_X1_longestOf_44
  refine r_iinc (v := (x5 + 1)) (pc := 44) hE dX1_longestOf_44 rfl rfl (by decide) ?_
  refine r_goto (pc := 47) hE 6 dX1_longestOf_47 (by decide) ?_
  exact hk6 _ _ _ _ _ _ _ ⟨rfl, ⟨rfl, ⟨rfl, ⟨rfl, ⟨rfl, trivial⟩⟩⟩⟩⟩
def f_X1_longestOf_6 (fu : Nat) : Nat → Nat → Int64 → Int32 → Int32 → Int32 → Hp → Option (Int32 × Hp)
  | 0, _, _, _, _, _, _ => none
  | n + 1, x0, x1, x3, x4, x5, h =>
    if 64 ≤ x5 then
      if 1000000 ≤ x4 then
        some ((-1), h)
      else
        some (x4, h)
    else
      (f_X6_has fu x1 x5 h).bind fun r16 =>
      if r16.1 = 0 then
        f_X1_longestOf_44 fu (fun y0 y1 y2 y3 y4 hy => f_X1_longestOf_6 fu n y0 y1 y2 y3 y4 hy) x0 x1 x3 x4 x5 r16.2
      else
        (gR r16.2 1 x0 2).bind fun v25 =>
        (gR r16.2 2 v25 0).bind fun v28 =>
        (aI r16.2 8 v28 ((x3 * 64) + x5)).bind fun v38 =>
        f_X1_longestOf_44 fu (fun y0 y1 y2 y3 y4 hy => f_X1_longestOf_6 fu n y0 y1 y2 y3 y4 hy) x0 x1 x3 ((mmax x4 v38)) x5 r16.2
set_option maxHeartbeats 4000000 in
set_option maxRecDepth 100000 in
theorem w_X1_longestOf_6 {X : Cx} {D : Dx} (hE : En X D cX1_longestOf 6 RX1 (some .int) rm_X1_longestOf) {fu : Nat} : ∀ (n : Nat) (x0 : Nat) (x1 : Int64) (x3 : Int32) (x4 : Int32) (x5 : Int32) (h : Hp) (lv : List (Option Value)), lvLe [some (.ref x0), some (.long x1), none, some (.int x3), some (.int x4), some (.int x5)] lv → Wo X D 6 (Qr X D 0 0 evI) 0 0 (f_X1_longestOf_6 fu n x0 x1 x3 x4 x5 h) 6 lv [] h := by
  intro n
  induction n with
  | zero => intros; exact Wo_none
  | succ n ih =>
    intro x0 x1 x3 x4 x5 h lv hlv
    refine Wo_sub hlv ?_
    rw [f_X1_longestOf_6]
    refine r_iload (pc := 6) hE dX1_longestOf_6 rfl ?_
    refine r_bipush (v := 64) (pc := 8) hE dX1_longestOf_8 (by decide) ?_
    refine r_icmp_ge (pc := 10) hE 50 dX1_longestOf_10 (by decide) (fun _ => ?_) (fun _ => ?_)
    · refine r_iload (pc := 50) hE dX1_longestOf_50 rfl ?_
      refine r_ldc (v := 1000000) (pc := 52) hE ct_RX1_66 dX1_longestOf_52 ?_
      refine r_icmp_ge (pc := 54) hE 62 dX1_longestOf_54 (by decide) (fun _ => ?_) (fun _ => ?_)
      · refine r_iconst (v := -1) (pc := 62) hE dX1_longestOf_62 (by decide) ?_
        exact r_iret (pc := 63) hE dX1_longestOf_63
      · refine r_iload (pc := 57) hE dX1_longestOf_57 rfl ?_
        refine r_goto (pc := 59) hE 63 dX1_longestOf_59 (by decide) ?_
        exact r_iret (pc := 63) hE dX1_longestOf_63
    · refine r_lload_n (pc := 13) hE dX1_longestOf_13 rfl ?_
      refine r_iload (pc := 14) hE dX1_longestOf_14 rfl ?_
      refine r_callSN (pc := 16) hE (As := [.long x1, .int x5]) (fun out ho => c_X6_has _ _ fu _ _ _ out ho) cs_RX1_62 ⟨Nat.le_of_ble_eq_true rfl, Nat.le_of_ble_eq_true rfl, Nat.le_of_ble_eq_true rfl, Nat.le_of_ble_eq_true rfl⟩ (Nat.le_of_ble_eq_true rfl) rfl dX1_longestOf_16 (fun r16 _ => ?_)
      refine r_if_eq (pc := 19) hE 44 dX1_longestOf_19 (by decide) (fun _ => ?_) (fun _ => ?_)
      · exact w_X1_longestOf_44 hE (fun y0 y1 y2 y3 y4 hy lvy hly => ih y0 y1 y2 y3 y4 hy lvy hly) _ _ _ _ _ _ ⟨rfl, ⟨rfl, ⟨rfl, ⟨rfl, ⟨rfl, trivial⟩⟩⟩⟩⟩
      · refine r_iload (pc := 22) hE dX1_longestOf_22 rfl ?_
        refine r_aload_n (pc := 24) hE dX1_longestOf_24 rfl ?_
        refine r_getR (pc := 25) hE 1 2 (by decide) (by decide) (fun _ _ _ => rfl) fl_RX1_12 dX1_longestOf_25 (fun v25 _ => ?_)
        refine r_getR (pc := 28) hE 2 0 (by decide) (by decide) (fun _ _ _ => rfl) fl_RX1_98 dX1_longestOf_28 (fun v28 _ => ?_)
        refine r_iload_n (pc := 31) hE dX1_longestOf_31 rfl ?_
        refine r_bipush (v := 64) (pc := 32) hE dX1_longestOf_32 (by decide) ?_
        refine r_imul (pc := 34) hE dX1_longestOf_34 ?_
        refine r_iload (pc := 35) hE dX1_longestOf_35 rfl ?_
        refine r_iadd (pc := 37) hE dX1_longestOf_37 ?_
        refine r_aldI (pc := 38) hE dX1_longestOf_38 (fun v38 _ => ?_)
        refine r_mmax (pc := 39) hE mx_RX1_111 (Nat.le_of_ble_eq_true rfl) (Nat.le_of_ble_eq_true rfl) (Nat.le_of_ble_eq_true rfl) (Nat.le_of_ble_eq_true rfl) dX1_longestOf_39 ?_
        refine r_istore (pc := 42) hE dX1_longestOf_42 (by decide) ?_
        exact w_X1_longestOf_44 hE (fun y0 y1 y2 y3 y4 hy lvy hly => ih y0 y1 y2 y3 y4 hy lvy hly) _ _ _ _ _ _ ⟨rfl, ⟨rfl, ⟨rfl, ⟨rfl, ⟨rfl, trivial⟩⟩⟩⟩⟩
def f_X1_longestOf (fu : Nat) (x0 : Nat) (x1 : Int64) (x3 : Int32) (h : Hp) : Option (Int32 × Hp) :=
  if h.K x0 = 1 then
    f_X1_longestOf_6 fu fu x0 x1 x3 0 0 h
  else none
set_option maxHeartbeats 4000000 in
set_option maxRecDepth 100000 in
theorem c_X1_longestOf (l : Launch) (D : Dx) (fu : Nat) (x0 : Nat) (x1 : Int64) (x3 : Int32) (h : Hp) (out : Int32 × Hp) (ho : f_X1_longestOf fu x0 x1 x3 h = some out) : Ct l D yX1_longestOf cX1_longestOf 6 (some .int) rm_X1_longestOf [.ref x0, .long x1, .int x3] h (evI out.1) out.2 := by
  refine Ct.of (o := f_X1_longestOf fu x0 x1 x3 h) (lv := [some (.ref x0), some (.long x1), none, some (.int x3), none, none]) (by decide) (Nat.le_of_ble_eq_true rfl) rfl ?_ out ho
  intro X hXl hE hin
  replace hE : En X D cX1_longestOf 6 RX1 (some .int) rm_X1_longestOf := hE
  subst hXl
  unfold f_X1_longestOf
  refine Wo_grd (fun _ => ?_)
  refine r_iconst (v := 0) (pc := 0) hE dX1_longestOf_0 (by decide) ?_
  refine r_istore (pc := 1) hE dX1_longestOf_1 (by decide) ?_
  refine r_iconst (v := 0) (pc := 3) hE dX1_longestOf_3 (by decide) ?_
  refine r_istore (pc := 4) hE dX1_longestOf_4 (by decide) ?_
  exact w_X1_longestOf_6 hE fu _ _ _ _ _ _ _ ⟨rfl, ⟨rfl, ⟨rfl, ⟨rfl, ⟨rfl, trivial⟩⟩⟩⟩⟩
theorem k_X1_longestOf {fu : Nat} {x0 : Nat} {x1 : Int64} {x3 : Int32} {h : Hp} {out : Int32 × Hp} (ho : f_X1_longestOf fu x0 x1 x3 h = some out) : h.K x0 = 1 := (gi_k ho).1
def rm_X1_shortestOf : Room := { frames := 1, cells := 0, slots := 0, locals := 22 }
def f_X1_shortestOf_45 (fu : Nat) (k7 : Nat → Int64 → Int32 → Int32 → Int32 → Hp → Option (Int32 × Hp)) (x0 : Nat) (x1 : Int64) (x3 : Int32) (x4 : Int32) (x5 : Int32) (h : Hp) : Option (Int32 × Hp) :=
  k7 x0 x1 x3 x4 ((x5 + 1)) h
set_option maxHeartbeats 4000000 in
set_option maxRecDepth 100000 in
theorem w_X1_shortestOf_45 {X : Cx} {D : Dx} (hE : En X D cX1_shortestOf 6 RX1 (some .int) rm_X1_shortestOf) {fu : Nat} {k7 : Nat → Int64 → Int32 → Int32 → Int32 → Hp → Option (Int32 × Hp)} (hk7 : ∀ (x0 : Nat) (x1 : Int64) (x3 : Int32) (x4 : Int32) (x5 : Int32) (h : Hp) (lv : List (Option Value)), lvLe [some (.ref x0), some (.long x1), none, some (.int x3), some (.int x4), some (.int x5)] lv → Wo X D 6 (Qr X D 0 0 evI) 0 0 (k7 x0 x1 x3 x4 x5 h) 7 lv [] h) (x0 : Nat) (x1 : Int64) (x3 : Int32) (x4 : Int32) (x5 : Int32) (h : Hp) {lv : List (Option Value)} (hlv : lvLe [some (.ref x0), some (.long x1), none, some (.int x3), some (.int x4), some (.int x5)] lv) : Wo X D 6 (Qr X D 0 0 evI) 0 0 (f_X1_shortestOf_45 fu k7 x0 x1 x3 x4 x5 h) 45 lv [] h := by
  refine Wo_sub hlv ?_
  unfold f_X1_shortestOf_45
  refine r_iinc (v := (x5 + 1)) (pc := 45) hE dX1_shortestOf_45 rfl rfl (by decide) ?_
  refine r_goto (pc := 48) hE 7 dX1_shortestOf_48 (by decide) ?_
  exact hk7 _ _ _ _ _ _ _ ⟨rfl, ⟨rfl, ⟨rfl, ⟨rfl, ⟨rfl, trivial⟩⟩⟩⟩⟩
def f_X1_shortestOf_7 (fu : Nat) : Nat → Nat → Int64 → Int32 → Int32 → Int32 → Hp → Option (Int32 × Hp)
  | 0, _, _, _, _, _, _ => none
  | n + 1, x0, x1, x3, x4, x5, h =>
    if 64 ≤ x5 then
      if 1000000 ≤ x4 then
        some ((-1), h)
      else
        some (x4, h)
    else
      (f_X6_has fu x1 x5 h).bind fun r17 =>
      if r17.1 = 0 then
        f_X1_shortestOf_45 fu (fun y0 y1 y2 y3 y4 hy => f_X1_shortestOf_7 fu n y0 y1 y2 y3 y4 hy) x0 x1 x3 x4 x5 r17.2
      else
        (gR r17.2 1 x0 2).bind fun v26 =>
        (gR r17.2 2 v26 1).bind fun v29 =>
        (aI r17.2 8 v29 ((x3 * 64) + x5)).bind fun v39 =>
        f_X1_shortestOf_45 fu (fun y0 y1 y2 y3 y4 hy => f_X1_shortestOf_7 fu n y0 y1 y2 y3 y4 hy) x0 x1 x3 ((mmin x4 v39)) x5 r17.2
set_option maxHeartbeats 4000000 in
set_option maxRecDepth 100000 in
theorem w_X1_shortestOf_7 {X : Cx} {D : Dx} (hE : En X D cX1_shortestOf 6 RX1 (some .int) rm_X1_shortestOf) {fu : Nat} : ∀ (n : Nat) (x0 : Nat) (x1 : Int64) (x3 : Int32) (x4 : Int32) (x5 : Int32) (h : Hp) (lv : List (Option Value)), lvLe [some (.ref x0), some (.long x1), none, some (.int x3), some (.int x4), some (.int x5)] lv → Wo X D 6 (Qr X D 0 0 evI) 0 0 (f_X1_shortestOf_7 fu n x0 x1 x3 x4 x5 h) 7 lv [] h := by
  intro n
  induction n with
  | zero => intros; exact Wo_none
  | succ n ih =>
    intro x0 x1 x3 x4 x5 h lv hlv
    refine Wo_sub hlv ?_
    rw [f_X1_shortestOf_7]
    refine r_iload (pc := 7) hE dX1_shortestOf_7 rfl ?_
    refine r_bipush (v := 64) (pc := 9) hE dX1_shortestOf_9 (by decide) ?_
    refine r_icmp_ge (pc := 11) hE 51 dX1_shortestOf_11 (by decide) (fun _ => ?_) (fun _ => ?_)
    · refine r_iload (pc := 51) hE dX1_shortestOf_51 rfl ?_
      refine r_ldc (v := 1000000) (pc := 53) hE ct_RX1_66 dX1_shortestOf_53 ?_
      refine r_icmp_ge (pc := 55) hE 63 dX1_shortestOf_55 (by decide) (fun _ => ?_) (fun _ => ?_)
      · refine r_iconst (v := -1) (pc := 63) hE dX1_shortestOf_63 (by decide) ?_
        exact r_iret (pc := 64) hE dX1_shortestOf_64
      · refine r_iload (pc := 58) hE dX1_shortestOf_58 rfl ?_
        refine r_goto (pc := 60) hE 64 dX1_shortestOf_60 (by decide) ?_
        exact r_iret (pc := 64) hE dX1_shortestOf_64
    · refine r_lload_n (pc := 14) hE dX1_shortestOf_14 rfl ?_
      refine r_iload (pc := 15) hE dX1_shortestOf_15 rfl ?_
      refine r_callSN (pc := 17) hE (As := [.long x1, .int x5]) (fun out ho => c_X6_has _ _ fu _ _ _ out ho) cs_RX1_62 ⟨Nat.le_of_ble_eq_true rfl, Nat.le_of_ble_eq_true rfl, Nat.le_of_ble_eq_true rfl, Nat.le_of_ble_eq_true rfl⟩ (Nat.le_of_ble_eq_true rfl) rfl dX1_shortestOf_17 (fun r17 _ => ?_)
      refine r_if_eq (pc := 20) hE 45 dX1_shortestOf_20 (by decide) (fun _ => ?_) (fun _ => ?_)
      · exact w_X1_shortestOf_45 hE (fun y0 y1 y2 y3 y4 hy lvy hly => ih y0 y1 y2 y3 y4 hy lvy hly) _ _ _ _ _ _ ⟨rfl, ⟨rfl, ⟨rfl, ⟨rfl, ⟨rfl, trivial⟩⟩⟩⟩⟩
      · refine r_iload (pc := 23) hE dX1_shortestOf_23 rfl ?_
        refine r_aload_n (pc := 25) hE dX1_shortestOf_25 rfl ?_
        refine r_getR (pc := 26) hE 1 2 (by decide) (by decide) (fun _ _ _ => rfl) fl_RX1_12 dX1_shortestOf_26 (fun v26 _ => ?_)
        refine r_getR (pc := 29) hE 2 1 (by decide) (by decide) (fun _ _ _ => rfl) fl_RX1_101 dX1_shortestOf_29 (fun v29 _ => ?_)
        refine r_iload_n (pc := 32) hE dX1_shortestOf_32 rfl ?_
        refine r_bipush (v := 64) (pc := 33) hE dX1_shortestOf_33 (by decide) ?_
        refine r_imul (pc := 35) hE dX1_shortestOf_35 ?_
        refine r_iload (pc := 36) hE dX1_shortestOf_36 rfl ?_
        refine r_iadd (pc := 38) hE dX1_shortestOf_38 ?_
        refine r_aldI (pc := 39) hE dX1_shortestOf_39 (fun v39 _ => ?_)
        refine r_mmin (pc := 40) hE mx_RX1_117 (Nat.le_of_ble_eq_true rfl) (Nat.le_of_ble_eq_true rfl) (Nat.le_of_ble_eq_true rfl) (Nat.le_of_ble_eq_true rfl) dX1_shortestOf_40 ?_
        refine r_istore (pc := 43) hE dX1_shortestOf_43 (by decide) ?_
        exact w_X1_shortestOf_45 hE (fun y0 y1 y2 y3 y4 hy lvy hly => ih y0 y1 y2 y3 y4 hy lvy hly) _ _ _ _ _ _ ⟨rfl, ⟨rfl, ⟨rfl, ⟨rfl, ⟨rfl, trivial⟩⟩⟩⟩⟩
def f_X1_shortestOf (fu : Nat) (x0 : Nat) (x1 : Int64) (x3 : Int32) (h : Hp) : Option (Int32 × Hp) :=
  if h.K x0 = 1 then
    f_X1_shortestOf_7 fu fu x0 x1 x3 1000000 0 h
  else none
set_option maxHeartbeats 4000000 in
set_option maxRecDepth 100000 in
theorem c_X1_shortestOf (l : Launch) (D : Dx) (fu : Nat) (x0 : Nat) (x1 : Int64) (x3 : Int32) (h : Hp) (out : Int32 × Hp) (ho : f_X1_shortestOf fu x0 x1 x3 h = some out) : Ct l D yX1_shortestOf cX1_shortestOf 6 (some .int) rm_X1_shortestOf [.ref x0, .long x1, .int x3] h (evI out.1) out.2 := by
  refine Ct.of (o := f_X1_shortestOf fu x0 x1 x3 h) (lv := [some (.ref x0), some (.long x1), none, some (.int x3), none, none]) (by decide) (Nat.le_of_ble_eq_true rfl) rfl ?_ out ho
  intro X hXl hE hin
  replace hE : En X D cX1_shortestOf 6 RX1 (some .int) rm_X1_shortestOf := hE
  subst hXl
  unfold f_X1_shortestOf
  refine Wo_grd (fun _ => ?_)
  refine r_ldc (v := 1000000) (pc := 0) hE ct_RX1_66 dX1_shortestOf_0 ?_
  refine r_istore (pc := 2) hE dX1_shortestOf_2 (by decide) ?_
  refine r_iconst (v := 0) (pc := 4) hE dX1_shortestOf_4 (by decide) ?_
  refine r_istore (pc := 5) hE dX1_shortestOf_5 (by decide) ?_
  exact w_X1_shortestOf_7 hE fu _ _ _ _ _ _ _ ⟨rfl, ⟨rfl, ⟨rfl, ⟨rfl, ⟨rfl, trivial⟩⟩⟩⟩⟩
theorem k_X1_shortestOf {fu : Nat} {x0 : Nat} {x1 : Int64} {x3 : Int32} {h : Hp} {out : Int32 × Hp} (ho : f_X1_shortestOf fu x0 x1 x3 h = some out) : h.K x0 = 1 := (gi_k ho).1
def rm_X1_unsureOf : Room := { frames := 1, cells := 0, slots := 0, locals := 22 }
def f_X1_unsureOf_45 (fu : Nat) (k6 : Nat → Int64 → Int32 → Int32 → Int32 → Hp → Option (Int32 × Hp)) (x0 : Nat) (x1 : Int64) (x3 : Int32) (x4 : Int32) (x5 : Int32) (h : Hp) : Option (Int32 × Hp) :=
  k6 x0 x1 x3 x4 ((x5 + 1)) h
set_option maxHeartbeats 4000000 in
set_option maxRecDepth 100000 in
theorem w_X1_unsureOf_45 {X : Cx} {D : Dx} (hE : En X D cX1_unsureOf 6 RX1 (some .int) rm_X1_unsureOf) {fu : Nat} {k6 : Nat → Int64 → Int32 → Int32 → Int32 → Hp → Option (Int32 × Hp)} (hk6 : ∀ (x0 : Nat) (x1 : Int64) (x3 : Int32) (x4 : Int32) (x5 : Int32) (h : Hp) (lv : List (Option Value)), lvLe [some (.ref x0), some (.long x1), none, some (.int x3), some (.int x4), some (.int x5)] lv → Wo X D 6 (Qr X D 0 0 evI) 0 0 (k6 x0 x1 x3 x4 x5 h) 6 lv [] h) (x0 : Nat) (x1 : Int64) (x3 : Int32) (x4 : Int32) (x5 : Int32) (h : Hp) {lv : List (Option Value)} (hlv : lvLe [some (.ref x0), some (.long x1), none, some (.int x3), some (.int x4), some (.int x5)] lv) : Wo X D 6 (Qr X D 0 0 evI) 0 0 (f_X1_unsureOf_45 fu k6 x0 x1 x3 x4 x5 h) 45 lv [] h := by
  refine Wo_sub hlv ?_
  unfold f_X1_unsureOf_45
  refine r_iinc (v := (x5 + 1)) (pc := 45) hE dX1_unsureOf_45 rfl rfl (by decide) ?_
  refine r_goto (pc := 48) hE 6 dX1_unsureOf_48 (by decide) ?_
  exact hk6 _ _ _ _ _ _ _ ⟨rfl, ⟨rfl, ⟨rfl, ⟨rfl, ⟨rfl, trivial⟩⟩⟩⟩⟩
def f_X1_unsureOf_6 (fu : Nat) : Nat → Nat → Int64 → Int32 → Int32 → Int32 → Hp → Option (Int32 × Hp)
  | 0, _, _, _, _, _, _ => none
  | n + 1, x0, x1, x3, x4, x5, h =>
    if 64 ≤ x5 then
      some (x4, h)
    else
      (f_X6_has fu x1 x5 h).bind fun r16 =>
      if r16.1 = 0 then
        f_X1_unsureOf_45 fu (fun y0 y1 y2 y3 y4 hy => f_X1_unsureOf_6 fu n y0 y1 y2 y3 y4 hy) x0 x1 x3 x4 x5 r16.2
      else
        (gR r16.2 1 x0 2).bind fun v23 =>
        (gR r16.2 2 v23 0).bind fun v26 =>
        (aI r16.2 8 v26 ((x3 * 64) + x5)).bind fun v36 =>
        if v36 < 1000000 then
          f_X1_unsureOf_45 fu (fun y0 y1 y2 y3 y4 hy => f_X1_unsureOf_6 fu n y0 y1 y2 y3 y4 hy) x0 x1 x3 x4 x5 r16.2
        else
          f_X1_unsureOf_45 fu (fun y0 y1 y2 y3 y4 hy => f_X1_unsureOf_6 fu n y0 y1 y2 y3 y4 hy) x0 x1 x3 ((x4 + 1)) x5 r16.2
set_option maxHeartbeats 4000000 in
set_option maxRecDepth 100000 in
theorem w_X1_unsureOf_6 {X : Cx} {D : Dx} (hE : En X D cX1_unsureOf 6 RX1 (some .int) rm_X1_unsureOf) {fu : Nat} : ∀ (n : Nat) (x0 : Nat) (x1 : Int64) (x3 : Int32) (x4 : Int32) (x5 : Int32) (h : Hp) (lv : List (Option Value)), lvLe [some (.ref x0), some (.long x1), none, some (.int x3), some (.int x4), some (.int x5)] lv → Wo X D 6 (Qr X D 0 0 evI) 0 0 (f_X1_unsureOf_6 fu n x0 x1 x3 x4 x5 h) 6 lv [] h := by
  intro n
  induction n with
  | zero => intros; exact Wo_none
  | succ n ih =>
    intro x0 x1 x3 x4 x5 h lv hlv
    refine Wo_sub hlv ?_
    rw [f_X1_unsureOf_6]
    refine r_iload (pc := 6) hE dX1_unsureOf_6 rfl ?_
    refine r_bipush (v := 64) (pc := 8) hE dX1_unsureOf_8 (by decide) ?_
    refine r_icmp_ge (pc := 10) hE 51 dX1_unsureOf_10 (by decide) (fun _ => ?_) (fun _ => ?_)
    · refine r_iload (pc := 51) hE dX1_unsureOf_51 rfl ?_
      exact r_iret (pc := 53) hE dX1_unsureOf_53
    · refine r_lload_n (pc := 13) hE dX1_unsureOf_13 rfl ?_
      refine r_iload (pc := 14) hE dX1_unsureOf_14 rfl ?_
      refine r_callSN (pc := 16) hE (As := [.long x1, .int x5]) (fun out ho => c_X6_has _ _ fu _ _ _ out ho) cs_RX1_62 ⟨Nat.le_of_ble_eq_true rfl, Nat.le_of_ble_eq_true rfl, Nat.le_of_ble_eq_true rfl, Nat.le_of_ble_eq_true rfl⟩ (Nat.le_of_ble_eq_true rfl) rfl dX1_unsureOf_16 (fun r16 _ => ?_)
      refine r_if_eq (pc := 19) hE 45 dX1_unsureOf_19 (by decide) (fun _ => ?_) (fun _ => ?_)
      · exact w_X1_unsureOf_45 hE (fun y0 y1 y2 y3 y4 hy lvy hly => ih y0 y1 y2 y3 y4 hy lvy hly) _ _ _ _ _ _ ⟨rfl, ⟨rfl, ⟨rfl, ⟨rfl, ⟨rfl, trivial⟩⟩⟩⟩⟩
      · refine r_aload_n (pc := 22) hE dX1_unsureOf_22 rfl ?_
        refine r_getR (pc := 23) hE 1 2 (by decide) (by decide) (fun _ _ _ => rfl) fl_RX1_12 dX1_unsureOf_23 (fun v23 _ => ?_)
        refine r_getR (pc := 26) hE 2 0 (by decide) (by decide) (fun _ _ _ => rfl) fl_RX1_98 dX1_unsureOf_26 (fun v26 _ => ?_)
        refine r_iload_n (pc := 29) hE dX1_unsureOf_29 rfl ?_
        refine r_bipush (v := 64) (pc := 30) hE dX1_unsureOf_30 (by decide) ?_
        refine r_imul (pc := 32) hE dX1_unsureOf_32 ?_
        refine r_iload (pc := 33) hE dX1_unsureOf_33 rfl ?_
        refine r_iadd (pc := 35) hE dX1_unsureOf_35 ?_
        refine r_aldI (pc := 36) hE dX1_unsureOf_36 (fun v36 _ => ?_)
        refine r_ldc (v := 1000000) (pc := 37) hE ct_RX1_66 dX1_unsureOf_37 ?_
        refine r_icmp_lt (pc := 39) hE 45 dX1_unsureOf_39 (by decide) (fun _ => ?_) (fun _ => ?_)
        · exact w_X1_unsureOf_45 hE (fun y0 y1 y2 y3 y4 hy lvy hly => ih y0 y1 y2 y3 y4 hy lvy hly) _ _ _ _ _ _ ⟨rfl, ⟨rfl, ⟨rfl, ⟨rfl, ⟨rfl, trivial⟩⟩⟩⟩⟩
        · refine r_iinc (v := (x4 + 1)) (pc := 42) hE dX1_unsureOf_42 rfl rfl (by decide) ?_
          exact w_X1_unsureOf_45 hE (fun y0 y1 y2 y3 y4 hy lvy hly => ih y0 y1 y2 y3 y4 hy lvy hly) _ _ _ _ _ _ ⟨rfl, ⟨rfl, ⟨rfl, ⟨rfl, ⟨rfl, trivial⟩⟩⟩⟩⟩
def f_X1_unsureOf (fu : Nat) (x0 : Nat) (x1 : Int64) (x3 : Int32) (h : Hp) : Option (Int32 × Hp) :=
  if h.K x0 = 1 then
    f_X1_unsureOf_6 fu fu x0 x1 x3 0 0 h
  else none
set_option maxHeartbeats 4000000 in
set_option maxRecDepth 100000 in
theorem c_X1_unsureOf (l : Launch) (D : Dx) (fu : Nat) (x0 : Nat) (x1 : Int64) (x3 : Int32) (h : Hp) (out : Int32 × Hp) (ho : f_X1_unsureOf fu x0 x1 x3 h = some out) : Ct l D yX1_unsureOf cX1_unsureOf 6 (some .int) rm_X1_unsureOf [.ref x0, .long x1, .int x3] h (evI out.1) out.2 := by
  refine Ct.of (o := f_X1_unsureOf fu x0 x1 x3 h) (lv := [some (.ref x0), some (.long x1), none, some (.int x3), none, none]) (by decide) (Nat.le_of_ble_eq_true rfl) rfl ?_ out ho
  intro X hXl hE hin
  replace hE : En X D cX1_unsureOf 6 RX1 (some .int) rm_X1_unsureOf := hE
  subst hXl
  unfold f_X1_unsureOf
  refine Wo_grd (fun _ => ?_)
  refine r_iconst (v := 0) (pc := 0) hE dX1_unsureOf_0 (by decide) ?_
  refine r_istore (pc := 1) hE dX1_unsureOf_1 (by decide) ?_
  refine r_iconst (v := 0) (pc := 3) hE dX1_unsureOf_3 (by decide) ?_
  refine r_istore (pc := 4) hE dX1_unsureOf_4 (by decide) ?_
  exact w_X1_unsureOf_6 hE fu _ _ _ _ _ _ _ ⟨rfl, ⟨rfl, ⟨rfl, ⟨rfl, ⟨rfl, trivial⟩⟩⟩⟩⟩
theorem k_X1_unsureOf {fu : Nat} {x0 : Nat} {x1 : Int64} {x3 : Int32} {h : Hp} {out : Int32 × Hp} (ho : f_X1_unsureOf fu x0 x1 x3 h = some out) : h.K x0 = 1 := (gi_k ho).1
