theorem oi_RX5_5 : Cond.methodLink RX5 5 objectInit ∈ TB ∧ Cond.instanceMethod objectInit ∈ TB ∧ Cond.code objectInit ⟨#[0xb1]⟩ 1 none ∈ TB := ⟨tb_in (by decide +kernel) rfl, tb_in (by decide +kernel) rfl, tb_in (by decide +kernel) rfl⟩
theorem fl_RX5_11 : Cond.fieldLink RX5 11 (TF 5 0).1 (TF 5 0).2.1 (TF 5 0).2.2.1 ∈ TB := tb_in (by decide +kernel) rfl
theorem fl_RX5_15 : Cond.fieldLink RX5 15 (TF 5 1).1 (TF 5 1).2.1 (TF 5 1).2.2.1 ∈ TB := tb_in (by decide +kernel) rfl
theorem fl_RX5_19 : Cond.fieldLink RX5 19 (TF 5 2).1 (TF 5 2).2.1 (TF 5 2).2.2.1 ∈ TB := tb_in (by decide +kernel) rfl
theorem fl_RX5_22 : Cond.fieldLink RX5 22 (TF 5 3).1 (TF 5 3).2.1 (TF 5 3).2.2.1 ∈ TB := tb_in (by decide +kernel) rfl
theorem fl_RX5_25 : Cond.fieldLink RX5 25 (TF 5 4).1 (TF 5 4).2.1 (TF 5 4).2.2.1 ∈ TB := tb_in (by decide +kernel) rfl
def rm_X5_init : Room := { frames := 1, cells := 5, slots := 13108, locals := 12 }
def f_X5_init (fu : Nat) (x0 : Nat) (h : Hp) : Option (Unit × Hp) :=
  if h.K x0 = 5 then
    (pR (newC h 8 12) 5 x0 0 (some (Hp.N h))).bind fun h9 =>
    (pR (newC h9 9 3000) 5 x0 1 (some (Hp.N h9))).bind fun h18 =>
    (pR (newC h18 8 3000) 5 x0 2 (some (Hp.N h18))).bind fun h27 =>
    (pR (newC h27 8 3000) 5 x0 3 (some (Hp.N h27))).bind fun h36 =>
    (pR (newC h36 8 4096) 5 x0 4 (some (Hp.N h36))).bind fun h45 =>
    some ((), h45)
  else none
set_option maxHeartbeats 4000000 in
set_option maxRecDepth 100000 in
theorem c_X5_init (l : Launch) (D : Dx) (fu : Nat) (x0 : Nat) (h : Hp) (out : Unit × Hp) (ho : f_X5_init fu x0 h = some out) : Ct l D yX5_init cX5_init 1 none rm_X5_init [.ref x0] h (evU out.1) out.2 := by
  refine Ct.of (o := f_X5_init fu x0 h) (lv := [some (.ref x0)]) (by decide) (Nat.le_of_ble_eq_true rfl) rfl ?_ out ho
  intro X hXl hE hin
  replace hE : En X D cX5_init 1 RX5 none rm_X5_init := hE
  subst hXl
  replace hin : X.meth.name = "<init>" := hin
  unfold f_X5_init
  refine Wo_grd (fun _ => ?_)
  refine r_aload_n (pc := 0) hE dX5_init_0 rfl ?_
  refine r_objInit (pc := 1) hE oi_RX5_5 ⟨Nat.le_of_ble_eq_true rfl, Nat.le_of_ble_eq_true rfl⟩ dX5_init_1 ?_
  refine r_aload_n (pc := 4) hE dX5_init_4 rfl ?_
  refine r_bipush (v := 12) (pc := 5) hE dX5_init_5 (by decide) ?_
  refine r_newI (pc := 7) hE 12 (by decide) (by decide) (by decide) ar8 ⟨Nat.le_of_ble_eq_true rfl, Nat.le_of_ble_eq_true rfl⟩ dX5_init_7 ?_
  refine r_putF (pc := 9) hE hin 5 0 (by decide) (by decide) rfl (fun _ _ _ => rfl) fl_RX5_11 rfl rfl rfl dX5_init_9 (fun h9 _ => ?_)
  refine r_aload_n (pc := 12) hE dX5_init_12 rfl ?_
  refine r_sipush (v := 3000) (pc := 13) hE dX5_init_13 (by decide) ?_
  refine r_newJ (pc := 16) hE 3000 (by decide) (by decide) (by decide) ar9 ⟨Nat.le_of_ble_eq_true rfl, Nat.le_of_ble_eq_true rfl⟩ dX5_init_16 ?_
  refine r_putF (pc := 18) hE hin 5 1 (by decide) (by decide) rfl (fun _ _ _ => rfl) fl_RX5_15 rfl rfl rfl dX5_init_18 (fun h18 _ => ?_)
  refine r_aload_n (pc := 21) hE dX5_init_21 rfl ?_
  refine r_sipush (v := 3000) (pc := 22) hE dX5_init_22 (by decide) ?_
  refine r_newI (pc := 25) hE 3000 (by decide) (by decide) (by decide) ar8 ⟨Nat.le_of_ble_eq_true rfl, Nat.le_of_ble_eq_true rfl⟩ dX5_init_25 ?_
  refine r_putF (pc := 27) hE hin 5 2 (by decide) (by decide) rfl (fun _ _ _ => rfl) fl_RX5_19 rfl rfl rfl dX5_init_27 (fun h27 _ => ?_)
  refine r_aload_n (pc := 30) hE dX5_init_30 rfl ?_
  refine r_sipush (v := 3000) (pc := 31) hE dX5_init_31 (by decide) ?_
  refine r_newI (pc := 34) hE 3000 (by decide) (by decide) (by decide) ar8 ⟨Nat.le_of_ble_eq_true rfl, Nat.le_of_ble_eq_true rfl⟩ dX5_init_34 ?_
  refine r_putF (pc := 36) hE hin 5 3 (by decide) (by decide) rfl (fun _ _ _ => rfl) fl_RX5_22 rfl rfl rfl dX5_init_36 (fun h36 _ => ?_)
  refine r_aload_n (pc := 39) hE dX5_init_39 rfl ?_
  refine r_sipush (v := 4096) (pc := 40) hE dX5_init_40 (by decide) ?_
  refine r_newI (pc := 43) hE 4096 (by decide) (by decide) (by decide) ar8 ⟨Nat.le_of_ble_eq_true rfl, Nat.le_of_ble_eq_true rfl⟩ dX5_init_43 ?_
  refine r_putF (pc := 45) hE hin 5 4 (by decide) (by decide) rfl (fun _ _ _ => rfl) fl_RX5_25 rfl rfl rfl dX5_init_45 (fun h45 _ => ?_)
  exact r_vret (pc := 48) hE dX5_init_48
theorem k_X5_init {fu : Nat} {x0 : Nat} {h : Hp} {out : Unit × Hp} (ho : f_X5_init fu x0 h = some out) : h.K x0 = 5 := (gi_k ho).1
theorem fl_RX5_65 : Cond.fieldLink RX5 65 (TF 5 5).1 (TF 5 5).2.1 (TF 5 5).2.2.1 ∈ TB := tb_in (by decide +kernel) rfl
def rm_X5_keepAt : Room := { frames := 0, cells := 0, slots := 0, locals := 0 }
def f_X5_keepAt (fu : Nat) (x0 : Nat) (x1 : Int32) (x2 : Int64) (x4 : Int32) (x5 : Int32) (h : Hp) : Option (Int32 × Hp) :=
  if h.K x0 = 5 then
    (gI h 5 x0 5).bind fun v1 =>
    if v1 < 3000 then
      (gR h 5 x0 1).bind fun v13 =>
      (gI h 5 x0 5).bind fun v17 =>
      (sJ h 9 v13 v17 x2).bind fun h21 =>
      (gR h21 5 x0 2).bind fun v23 =>
      (gI h21 5 x0 5).bind fun v27 =>
      (sI h21 8 v23 v27 x4).bind fun h32 =>
      (gR h32 5 x0 3).bind fun v34 =>
      (gI h32 5 x0 5).bind fun v38 =>
      (sI h32 8 v34 v38 x5).bind fun h43 =>
      (gI h43 5 x0 5).bind fun v46 =>
      (pI h43 5 x0 5 (v46 + 1)).bind fun h51 =>
      (gR h51 5 x0 4).bind fun v55 =>
      (gI h51 5 x0 5).bind fun v60 =>
      (sI h51 8 v55 x1 v60).bind fun h63 =>
      some (1, h63)
    else
      some (0, h)
  else none
set_option maxHeartbeats 4000000 in
set_option maxRecDepth 100000 in
theorem c_X5_keepAt (l : Launch) (D : Dx) (fu : Nat) (x0 : Nat) (x1 : Int32) (x2 : Int64) (x4 : Int32) (x5 : Int32) (h : Hp) (out : Int32 × Hp) (ho : f_X5_keepAt fu x0 x1 x2 x4 x5 h = some out) : Ct l D yX5_keepAt cX5_keepAt 6 (some .boolean) rm_X5_keepAt [.ref x0, .int x1, .long x2, .int x4, .int x5] h (evI out.1) out.2 := by
  refine Ct.of (o := f_X5_keepAt fu x0 x1 x2 x4 x5 h) (lv := [some (.ref x0), some (.int x1), some (.long x2), none, some (.int x4), some (.int x5)]) (by decide) (Nat.le_of_ble_eq_true rfl) rfl ?_ out ho
  intro X hXl hE hin
  replace hE : En X D cX5_keepAt 6 RX5 (some .boolean) rm_X5_keepAt := hE
  subst hXl
  unfold f_X5_keepAt
  refine Wo_grd (fun _ => ?_)
  refine r_aload_n (pc := 0) hE dX5_keepAt_0 rfl ?_
  refine r_getI (pc := 1) hE 5 5 (by decide) (by decide) (fun _ _ _ => rfl) fl_RX5_65 dX5_keepAt_1 (fun v1 _ => ?_)
  refine r_sipush (v := 3000) (pc := 4) hE dX5_keepAt_4 (by decide) ?_
  refine r_icmp_lt (pc := 7) hE 12 dX5_keepAt_7 (by decide) (fun _ => ?_) (fun _ => ?_)
  · refine r_aload_n (pc := 12) hE dX5_keepAt_12 rfl ?_
    refine r_getR (pc := 13) hE 5 1 (by decide) (by decide) (fun _ _ _ => rfl) fl_RX5_15 dX5_keepAt_13 (fun v13 _ => ?_)
    refine r_aload_n (pc := 16) hE dX5_keepAt_16 rfl ?_
    refine r_getI (pc := 17) hE 5 5 (by decide) (by decide) (fun _ _ _ => rfl) fl_RX5_65 dX5_keepAt_17 (fun v17 _ => ?_)
    refine r_lload_n (pc := 20) hE dX5_keepAt_20 rfl ?_
    refine r_astJ (pc := 21) hE dX5_keepAt_21 (fun h21 _ => ?_)
    refine r_aload_n (pc := 22) hE dX5_keepAt_22 rfl ?_
    refine r_getR (pc := 23) hE 5 2 (by decide) (by decide) (fun _ _ _ => rfl) fl_RX5_19 dX5_keepAt_23 (fun v23 _ => ?_)
    refine r_aload_n (pc := 26) hE dX5_keepAt_26 rfl ?_
    refine r_getI (pc := 27) hE 5 5 (by decide) (by decide) (fun _ _ _ => rfl) fl_RX5_65 dX5_keepAt_27 (fun v27 _ => ?_)
    refine r_iload (pc := 30) hE dX5_keepAt_30 rfl ?_
    refine r_astI (pc := 32) hE dX5_keepAt_32 (fun h32 _ => ?_)
    refine r_aload_n (pc := 33) hE dX5_keepAt_33 rfl ?_
    refine r_getR (pc := 34) hE 5 3 (by decide) (by decide) (fun _ _ _ => rfl) fl_RX5_22 dX5_keepAt_34 (fun v34 _ => ?_)
    refine r_aload_n (pc := 37) hE dX5_keepAt_37 rfl ?_
    refine r_getI (pc := 38) hE 5 5 (by decide) (by decide) (fun _ _ _ => rfl) fl_RX5_65 dX5_keepAt_38 (fun v38 _ => ?_)
    refine r_iload (pc := 41) hE dX5_keepAt_41 rfl ?_
    refine r_astI (pc := 43) hE dX5_keepAt_43 (fun h43 _ => ?_)
    refine r_aload_n (pc := 44) hE dX5_keepAt_44 rfl ?_
    refine r_dup (pc := 45) hE dX5_keepAt_45 rfl ?_
    refine r_getI (pc := 46) hE 5 5 (by decide) (by decide) (fun _ _ _ => rfl) fl_RX5_65 dX5_keepAt_46 (fun v46 _ => ?_)
    refine r_iconst (v := 1) (pc := 49) hE dX5_keepAt_49 (by decide) ?_
    refine r_iadd (pc := 50) hE dX5_keepAt_50 ?_
    refine r_putI (pc := 51) hE 5 5 (by decide) (by decide) (fun _ _ _ => rfl) fl_RX5_65 rfl rfl rfl dX5_keepAt_51 (fun h51 _ => ?_)
    refine r_aload_n (pc := 54) hE dX5_keepAt_54 rfl ?_
    refine r_getR (pc := 55) hE 5 4 (by decide) (by decide) (fun _ _ _ => rfl) fl_RX5_25 dX5_keepAt_55 (fun v55 _ => ?_)
    refine r_iload_n (pc := 58) hE dX5_keepAt_58 rfl ?_
    refine r_aload_n (pc := 59) hE dX5_keepAt_59 rfl ?_
    refine r_getI (pc := 60) hE 5 5 (by decide) (by decide) (fun _ _ _ => rfl) fl_RX5_65 dX5_keepAt_60 (fun v60 _ => ?_)
    refine r_astI (pc := 63) hE dX5_keepAt_63 (fun h63 _ => ?_)
    refine r_iconst (v := 1) (pc := 64) hE dX5_keepAt_64 (by decide) ?_
    exact r_zret (pc := 65) hE (by decide) dX5_keepAt_65
  · refine r_iconst (v := 0) (pc := 10) hE dX5_keepAt_10 (by decide) ?_
    exact r_zret (pc := 11) hE (by decide) dX5_keepAt_11
theorem k_X5_keepAt {fu : Nat} {x0 : Nat} {x1 : Int32} {x2 : Int64} {x4 : Int32} {x5 : Int32} {h : Hp} {out : Int32 × Hp} (ho : f_X5_keepAt fu x0 x1 x2 x4 x5 h = some out) : h.K x0 = 5 := (gi_k ho).1
theorem ct_RX5_88 : Cond.constantLong RX5 88 (-7046029254386353131) ∈ TB := tb_in (by decide +kernel) rfl
theorem cs_RX5_90 : csV RX5 90 yX5_keepAt cX5_keepAt 6 (some .boolean) 4 = true := by decide +kernel
def rm_X5_keepNew : Room := { frames := 1, cells := 0, slots := 0, locals := 25 }
def f_X5_keepNew_88 (fu : Nat) (k17 : Nat → Int64 → Int32 → Int32 → Int32 → Int32 → Hp → Option (Int32 × Hp)) (x0 : Nat) (x1 : Int64) (x3 : Int32) (x4 : Int32) (x5 : Int32) (x6 : Int32) (h : Hp) : Option (Int32 × Hp) :=
  k17 x0 x1 x3 x4 x5 ((x6 + 1)) h
set_option maxHeartbeats 4000000 in
set_option maxRecDepth 100000 in
theorem w_X5_keepNew_88 {X : Cx} {D : Dx} (hE : En X D cX5_keepNew 9 RX5 (some .boolean) rm_X5_keepNew) {fu : Nat} {k17 : Nat → Int64 → Int32 → Int32 → Int32 → Int32 → Hp → Option (Int32 × Hp)} (hk17 : ∀ (x0 : Nat) (x1 : Int64) (x3 : Int32) (x4 : Int32) (x5 : Int32) (x6 : Int32) (h : Hp) (lv : List (Option Value)), lvLe [some (.ref x0), some (.long x1), none, some (.int x3), some (.int x4), some (.int x5), some (.int x6), none, none] lv → Wo X D 9 (Qr X D 0 0 evI) 0 0 (k17 x0 x1 x3 x4 x5 x6 h) 17 lv [] h) (x0 : Nat) (x1 : Int64) (x3 : Int32) (x4 : Int32) (x5 : Int32) (x6 : Int32) (h : Hp) {lv : List (Option Value)} (hlv : lvLe [some (.ref x0), some (.long x1), none, some (.int x3), some (.int x4), some (.int x5), some (.int x6), none, none] lv) : Wo X D 9 (Qr X D 0 0 evI) 0 0 (f_X5_keepNew_88 fu k17 x0 x1 x3 x4 x5 x6 h) 88 lv [] h := by
  refine Wo_sub hlv ?_
  unfold f_X5_keepNew_88
  refine r_iinc (v := (x6 + 1)) (pc := 88) hE dX5_keepNew_88 rfl rfl (by decide) ?_
  refine r_goto (pc := 91) hE 17 dX5_keepNew_91 (by decide) ?_
  exact hk17 _ _ _ _ _ _ _ _ ⟨rfl, ⟨rfl, ⟨rfl, ⟨rfl, ⟨rfl, ⟨rfl, trivial⟩⟩⟩⟩⟩⟩
def f_X5_keepNew_17 (fu : Nat) : Nat → Nat → Int64 → Int32 → Int32 → Int32 → Int32 → Hp → Option (Int32 × Hp)
  | 0, _, _, _, _, _, _, _ => none
  | n + 1, x0, x1, x3, x4, x5, x6, h =>
    if 4096 ≤ x6 then
      some (0, h)
    else
      (gR h 5 x0 4).bind fun v37 =>
      (aI h 8 v37 ((x5 + x6) &&& 4095)).bind fun v42 =>
      if 0 ≤ (v42 - 1) then
        (gR h 5 x0 1).bind fun v64 =>
        (aJ h 9 v64 (v42 - 1)).bind fun v69 =>
        if (lg_cmp v69 x1) = 0 then
          (gR h 5 x0 2).bind fun v76 =>
          (aI h 8 v76 (v42 - 1)).bind fun v81 =>
          if v81 = x3 then
            some (1, h)
          else
            f_X5_keepNew_88 fu (fun y0 y1 y2 y3 y4 y5 hy => f_X5_keepNew_17 fu n y0 y1 y2 y3 y4 y5 hy) x0 x1 x3 x4 x5 x6 h
        else
          f_X5_keepNew_88 fu (fun y0 y1 y2 y3 y4 y5 hy => f_X5_keepNew_17 fu n y0 y1 y2 y3 y4 y5 hy) x0 x1 x3 x4 x5 x6 h
      else
        (f_X5_keepAt fu x0 ((x5 + x6) &&& 4095) x1 x3 x4 h).bind fun r59 =>
        if r59.1 = 0 ∨ r59.1 = 1 then some (r59.1, r59.2) else none
set_option maxHeartbeats 4000000 in
set_option maxRecDepth 100000 in
theorem w_X5_keepNew_17 {X : Cx} {D : Dx} (hE : En X D cX5_keepNew 9 RX5 (some .boolean) rm_X5_keepNew) {fu : Nat} : ∀ (n : Nat) (x0 : Nat) (x1 : Int64) (x3 : Int32) (x4 : Int32) (x5 : Int32) (x6 : Int32) (h : Hp) (lv : List (Option Value)), lvLe [some (.ref x0), some (.long x1), none, some (.int x3), some (.int x4), some (.int x5), some (.int x6), none, none] lv → Wo X D 9 (Qr X D 0 0 evI) 0 0 (f_X5_keepNew_17 fu n x0 x1 x3 x4 x5 x6 h) 17 lv [] h := by
  intro n
  induction n with
  | zero => intros; exact Wo_none
  | succ n ih =>
    intro x0 x1 x3 x4 x5 x6 h lv hlv
    refine Wo_sub hlv ?_
    rw [f_X5_keepNew_17]
    refine r_iload (pc := 17) hE dX5_keepNew_17 rfl ?_
    refine r_sipush (v := 4096) (pc := 19) hE dX5_keepNew_19 (by decide) ?_
    refine r_icmp_ge (pc := 22) hE 94 dX5_keepNew_22 (by decide) (fun _ => ?_) (fun _ => ?_)
    · refine r_iconst (v := 0) (pc := 94) hE dX5_keepNew_94 (by decide) ?_
      exact r_zret (pc := 95) hE (by decide) dX5_keepNew_95
    · refine r_iload (pc := 25) hE dX5_keepNew_25 rfl ?_
      refine r_iload (pc := 27) hE dX5_keepNew_27 rfl ?_
      refine r_iadd (pc := 29) hE dX5_keepNew_29 ?_
      refine r_sipush (v := 4095) (pc := 30) hE dX5_keepNew_30 (by decide) ?_
      refine r_iand (pc := 33) hE dX5_keepNew_33 ?_
      refine r_istore (pc := 34) hE dX5_keepNew_34 (by decide) ?_
      refine r_aload_n (pc := 36) hE dX5_keepNew_36 rfl ?_
      refine r_getR (pc := 37) hE 5 4 (by decide) (by decide) (fun _ _ _ => rfl) fl_RX5_25 dX5_keepNew_37 (fun v37 _ => ?_)
      refine r_iload (pc := 40) hE dX5_keepNew_40 rfl ?_
      refine r_aldI (pc := 42) hE dX5_keepNew_42 (fun v42 _ => ?_)
      refine r_iconst (v := 1) (pc := 43) hE dX5_keepNew_43 (by decide) ?_
      refine r_isub (pc := 44) hE dX5_keepNew_44 ?_
      refine r_istore (pc := 45) hE dX5_keepNew_45 (by decide) ?_
      refine r_iload (pc := 47) hE dX5_keepNew_47 rfl ?_
      refine r_if_ge (pc := 49) hE 63 dX5_keepNew_49 (by decide) (fun _ => ?_) (fun _ => ?_)
      · refine r_aload_n (pc := 63) hE dX5_keepNew_63 rfl ?_
        refine r_getR (pc := 64) hE 5 1 (by decide) (by decide) (fun _ _ _ => rfl) fl_RX5_15 dX5_keepNew_64 (fun v64 _ => ?_)
        refine r_iload (pc := 67) hE dX5_keepNew_67 rfl ?_
        refine r_aldJ (pc := 69) hE dX5_keepNew_69 (fun v69 _ => ?_)
        refine r_lload_n (pc := 70) hE dX5_keepNew_70 rfl ?_
        refine r_lcmp (pc := 71) hE dX5_keepNew_71 ?_
        refine r_if_ne (pc := 72) hE 88 dX5_keepNew_72 (by decide) (fun _ => ?_) (fun _ => ?_)
        · exact w_X5_keepNew_88 hE (fun y0 y1 y2 y3 y4 y5 hy lvy hly => ih y0 y1 y2 y3 y4 y5 hy lvy hly) _ _ _ _ _ _ _ ⟨rfl, ⟨rfl, ⟨rfl, ⟨rfl, ⟨rfl, ⟨rfl, trivial⟩⟩⟩⟩⟩⟩
        · refine r_aload_n (pc := 75) hE dX5_keepNew_75 rfl ?_
          refine r_getR (pc := 76) hE 5 2 (by decide) (by decide) (fun _ _ _ => rfl) fl_RX5_19 dX5_keepNew_76 (fun v76 _ => ?_)
          refine r_iload (pc := 79) hE dX5_keepNew_79 rfl ?_
          refine r_aldI (pc := 81) hE dX5_keepNew_81 (fun v81 _ => ?_)
          refine r_iload_n (pc := 82) hE dX5_keepNew_82 rfl ?_
          refine r_icmp_ne (pc := 83) hE 88 dX5_keepNew_83 (by decide) (fun _ => ?_) (fun _ => ?_)
          · exact w_X5_keepNew_88 hE (fun y0 y1 y2 y3 y4 y5 hy lvy hly => ih y0 y1 y2 y3 y4 y5 hy lvy hly) _ _ _ _ _ _ _ ⟨rfl, ⟨rfl, ⟨rfl, ⟨rfl, ⟨rfl, ⟨rfl, trivial⟩⟩⟩⟩⟩⟩
          · refine r_iconst (v := 1) (pc := 86) hE dX5_keepNew_86 (by decide) ?_
            exact r_zret (pc := 87) hE (by decide) dX5_keepNew_87
      · refine r_aload_n (pc := 52) hE dX5_keepNew_52 rfl ?_
        refine r_iload (pc := 53) hE dX5_keepNew_53 rfl ?_
        refine r_lload_n (pc := 55) hE dX5_keepNew_55 rfl ?_
        refine r_iload_n (pc := 56) hE dX5_keepNew_56 rfl ?_
        refine r_iload (pc := 57) hE dX5_keepNew_57 rfl ?_
        refine r_callV (pc := 59) hE 5 (As := [.int ((x5 + x6) &&& 4095), .long x1, .int x3, .int x4]) (fun out ho => c_X5_keepAt _ _ fu _ _ _ _ _ _ out ho) (fun out ho => k_X5_keepAt ho) (by decide) rfl cs_RX5_90 ⟨Nat.le_of_ble_eq_true rfl, Nat.le_of_ble_eq_true rfl, Nat.le_of_ble_eq_true rfl, Nat.le_of_ble_eq_true rfl⟩ (Nat.le_of_ble_eq_true rfl) rfl dX5_keepNew_59 (fun r59 _ => ?_)
        exact r_zretQ (pc := 62) hE dX5_keepNew_62
def f_X5_keepNew (fu : Nat) (x0 : Nat) (x1 : Int64) (x3 : Int32) (x4 : Int32) (h : Hp) : Option (Int32 × Hp) :=
  if h.K x0 = 5 then
    f_X5_keepNew_17 fu fu x0 x1 x3 x4 ((Int64.toInt32 (lush ((x1 + (Int32.toInt64 x3)) * (-7046029254386353131)) 52))) 0 h
  else none
set_option maxHeartbeats 4000000 in
set_option maxRecDepth 100000 in
theorem c_X5_keepNew (l : Launch) (D : Dx) (fu : Nat) (x0 : Nat) (x1 : Int64) (x3 : Int32) (x4 : Int32) (h : Hp) (out : Int32 × Hp) (ho : f_X5_keepNew fu x0 x1 x3 x4 h = some out) : Ct l D yX5_keepNew cX5_keepNew 9 (some .boolean) rm_X5_keepNew [.ref x0, .long x1, .int x3, .int x4] h (evI out.1) out.2 := by
  refine Ct.of (o := f_X5_keepNew fu x0 x1 x3 x4 h) (lv := [some (.ref x0), some (.long x1), none, some (.int x3), some (.int x4), none, none, none, none]) (by decide) (Nat.le_of_ble_eq_true rfl) rfl ?_ out ho
  intro X hXl hE hin
  replace hE : En X D cX5_keepNew 9 RX5 (some .boolean) rm_X5_keepNew := hE
  subst hXl
  unfold f_X5_keepNew
  refine Wo_grd (fun _ => ?_)
  refine r_lload_n (pc := 0) hE dX5_keepNew_0 rfl ?_
  refine r_iload_n (pc := 1) hE dX5_keepNew_1 rfl ?_
  refine r_i2l (pc := 2) hE dX5_keepNew_2 ?_
  refine r_ladd (pc := 3) hE dX5_keepNew_3 ?_
  refine r_ldc2 (v := -7046029254386353131) (pc := 4) hE ct_RX5_88 dX5_keepNew_4 ?_
  refine r_lmul (pc := 7) hE dX5_keepNew_7 ?_
  refine r_bipush (v := 52) (pc := 8) hE dX5_keepNew_8 (by decide) ?_
  refine r_lushr (pc := 10) hE dX5_keepNew_10 ?_
  refine r_l2i (pc := 11) hE dX5_keepNew_11 ?_
  refine r_istore (pc := 12) hE dX5_keepNew_12 (by decide) ?_
  refine r_iconst (v := 0) (pc := 14) hE dX5_keepNew_14 (by decide) ?_
  refine r_istore (pc := 15) hE dX5_keepNew_15 (by decide) ?_
  exact w_X5_keepNew_17 hE fu _ _ _ _ _ _ _ _ ⟨rfl, ⟨rfl, ⟨rfl, ⟨rfl, ⟨rfl, ⟨rfl, trivial⟩⟩⟩⟩⟩⟩
theorem k_X5_keepNew {fu : Nat} {x0 : Nat} {x1 : Int64} {x3 : Int32} {x4 : Int32} {h : Hp} {out : Int32 × Hp} (ho : f_X5_keepNew fu x0 x1 x3 x4 h = some out) : h.K x0 = 5 := (gi_k ho).1
def rm_X5_writeRow : Room := { frames := 0, cells := 0, slots := 0, locals := 0 }
def f_X5_writeRow_15 (fu : Nat) : Nat → Nat → Int32 → Int32 → Hp → Option (Unit × Hp)
  | 0, _, _, _, _ => none
  | n + 1, x0, x4, x5, h =>
    if x5 < 0 then
      some ((), h)
    else
      (gR h 5 x0 0).bind fun v21 =>
      (gR h 5 x0 3).bind fun v27 =>
      (aI h 8 v27 x4).bind fun v32 =>
      (sI h 8 v21 x5 (rem v32 9)).bind fun h36 =>
      (gR h36 5 x0 3).bind fun v38 =>
      (aI h36 8 v38 x4).bind fun v43 =>
      f_X5_writeRow_15 fu n x0 ((v43 / 9)) ((x5 + (-1))) h36
set_option maxHeartbeats 4000000 in
set_option maxRecDepth 100000 in
theorem w_X5_writeRow_15 {X : Cx} {D : Dx} (hE : En X D cX5_writeRow 6 RX5 none rm_X5_writeRow) {fu : Nat} : ∀ (n : Nat) (x0 : Nat) (x4 : Int32) (x5 : Int32) (h : Hp) (lv : List (Option Value)), lvLe [some (.ref x0), none, none, none, some (.int x4), some (.int x5)] lv → Wo X D 6 (Qr X D 0 0 evU) 0 0 (f_X5_writeRow_15 fu n x0 x4 x5 h) 15 lv [] h := by
  intro n
  induction n with
  | zero => intros; exact Wo_none
  | succ n ih =>
    intro x0 x4 x5 h lv hlv
    refine Wo_sub hlv ?_
    rw [f_X5_writeRow_15]
    refine r_iload (pc := 15) hE dX5_writeRow_15 rfl ?_
    refine r_if_lt (pc := 17) hE 55 dX5_writeRow_17 (by decide) (fun _ => ?_) (fun _ => ?_)
    · exact r_vret (pc := 55) hE dX5_writeRow_55
    · refine r_aload_n (pc := 20) hE dX5_writeRow_20 rfl ?_
      refine r_getR (pc := 21) hE 5 0 (by decide) (by decide) (fun _ _ _ => rfl) fl_RX5_11 dX5_writeRow_21 (fun v21 _ => ?_)
      refine r_iload (pc := 24) hE dX5_writeRow_24 rfl ?_
      refine r_aload_n (pc := 26) hE dX5_writeRow_26 rfl ?_
      refine r_getR (pc := 27) hE 5 3 (by decide) (by decide) (fun _ _ _ => rfl) fl_RX5_22 dX5_writeRow_27 (fun v27 _ => ?_)
      refine r_iload (pc := 30) hE dX5_writeRow_30 rfl ?_
      refine r_aldI (pc := 32) hE dX5_writeRow_32 (fun v32 _ => ?_)
      refine r_bipush (v := 9) (pc := 33) hE dX5_writeRow_33 (by decide) ?_
      refine r_irem (pc := 35) hE dX5_writeRow_35 (by decide) ?_
      refine r_astI (pc := 36) hE dX5_writeRow_36 (fun h36 _ => ?_)
      refine r_aload_n (pc := 37) hE dX5_writeRow_37 rfl ?_
      refine r_getR (pc := 38) hE 5 3 (by decide) (by decide) (fun _ _ _ => rfl) fl_RX5_22 dX5_writeRow_38 (fun v38 _ => ?_)
      refine r_iload (pc := 41) hE dX5_writeRow_41 rfl ?_
      refine r_aldI (pc := 43) hE dX5_writeRow_43 (fun v43 _ => ?_)
      refine r_bipush (v := 9) (pc := 44) hE dX5_writeRow_44 (by decide) ?_
      refine r_idiv (pc := 46) hE dX5_writeRow_46 (by decide) ?_
      refine r_istore (pc := 47) hE dX5_writeRow_47 (by decide) ?_
      refine r_iinc (v := (x5 + (-1))) (pc := 49) hE dX5_writeRow_49 rfl rfl (by decide) ?_
      refine r_goto (pc := 52) hE 15 dX5_writeRow_52 (by decide) ?_
      exact ih _ _ _ _ _ ⟨rfl, ⟨rfl, ⟨rfl, trivial⟩⟩⟩
def f_X5_writeRow (fu : Nat) (x0 : Nat) (x1 : Int32) (x2 : Int32) (x3 : Int32) (h : Hp) : Option (Unit × Hp) :=
  if h.K x0 = 5 then
    (gR h 5 x0 0).bind fun v1 =>
    (sI h 8 v1 x3 x2).bind fun h6 =>
    f_X5_writeRow_15 fu fu x0 x1 ((x3 - 1)) h6
  else none
set_option maxHeartbeats 4000000 in
set_option maxRecDepth 100000 in
theorem c_X5_writeRow (l : Launch) (D : Dx) (fu : Nat) (x0 : Nat) (x1 : Int32) (x2 : Int32) (x3 : Int32) (h : Hp) (out : Unit × Hp) (ho : f_X5_writeRow fu x0 x1 x2 x3 h = some out) : Ct l D yX5_writeRow cX5_writeRow 6 none rm_X5_writeRow [.ref x0, .int x1, .int x2, .int x3] h (evU out.1) out.2 := by
  refine Ct.of (o := f_X5_writeRow fu x0 x1 x2 x3 h) (lv := [some (.ref x0), some (.int x1), some (.int x2), some (.int x3), none, none]) (by decide) (Nat.le_of_ble_eq_true rfl) rfl ?_ out ho
  intro X hXl hE hin
  replace hE : En X D cX5_writeRow 6 RX5 none rm_X5_writeRow := hE
  subst hXl
  unfold f_X5_writeRow
  refine Wo_grd (fun _ => ?_)
  refine r_aload_n (pc := 0) hE dX5_writeRow_0 rfl ?_
  refine r_getR (pc := 1) hE 5 0 (by decide) (by decide) (fun _ _ _ => rfl) fl_RX5_11 dX5_writeRow_1 (fun v1 _ => ?_)
  refine r_iload_n (pc := 4) hE dX5_writeRow_4 rfl ?_
  refine r_iload_n (pc := 5) hE dX5_writeRow_5 rfl ?_
  refine r_astI (pc := 6) hE dX5_writeRow_6 (fun h6 _ => ?_)
  refine r_iload_n (pc := 7) hE dX5_writeRow_7 rfl ?_
  refine r_istore (pc := 8) hE dX5_writeRow_8 (by decide) ?_
  refine r_iload_n (pc := 10) hE dX5_writeRow_10 rfl ?_
  refine r_iconst (v := 1) (pc := 11) hE dX5_writeRow_11 (by decide) ?_
  refine r_isub (pc := 12) hE dX5_writeRow_12 ?_
  refine r_istore (pc := 13) hE dX5_writeRow_13 (by decide) ?_
  exact w_X5_writeRow_15 hE fu _ _ _ _ _ ⟨rfl, ⟨rfl, ⟨rfl, trivial⟩⟩⟩
theorem k_X5_writeRow {fu : Nat} {x0 : Nat} {x1 : Int32} {x2 : Int32} {x3 : Int32} {h : Hp} {out : Unit × Hp} (ho : f_X5_writeRow fu x0 x1 x2 x3 h = some out) : h.K x0 = 5 := (gi_k ho).1
theorem cs_RX5_76 : csV RX5 76 yX4_spread cX4_spread 9 none 1 = true := by decide +kernel
theorem cs_RX5_80 : csV RX5 80 yX4_spreadBy cX4_spreadBy 7 (some .long) 2 = true := by decide +kernel
theorem cs_RX5_51 : csV RX5 51 yX4_isAllLand cX4_isAllLand 3 (some .boolean) 1 = true := by decide +kernel
theorem cs_RX5_68 : csV RX5 68 yX5_keepNew cX5_keepNew 9 (some .boolean) 3 = true := by decide +kernel
theorem cs_RX5_84 : csV RX5 84 yX5_writeRow cX5_writeRow 6 none 3 = true := by decide +kernel
def rm_X5_goOn : Room := { frames := 3, cells := 0, slots := 0, locals := 78 }
def f_X5_goOn_107 (fu : Nat) (k45 : Nat → Nat → Int32 → Int32 → Int32 → Int32 → Int32 → Int32 → Hp → Option (Int32 × Hp)) (x0 : Nat) (x1 : Nat) (x2 : Int32) (x3 : Int32) (x4 : Int32) (x5 : Int32) (x6 : Int32) (x7 : Int32) (h : Hp) : Option (Int32 × Hp) :=
  k45 x0 x1 x2 x3 x4 x5 x6 ((x7 + 1)) h
set_option maxHeartbeats 4000000 in
set_option maxRecDepth 100000 in
theorem w_X5_goOn_107 {X : Cx} {D : Dx} (hE : En X D cX5_goOn 10 RX5 (some .int) rm_X5_goOn) {fu : Nat} {k45 : Nat → Nat → Int32 → Int32 → Int32 → Int32 → Int32 → Int32 → Hp → Option (Int32 × Hp)} (hk45 : ∀ (x0 : Nat) (x1 : Nat) (x2 : Int32) (x3 : Int32) (x4 : Int32) (x5 : Int32) (x6 : Int32) (x7 : Int32) (h : Hp) (lv : List (Option Value)), lvLe [some (.ref x0), some (.ref x1), some (.int x2), some (.int x3), some (.int x4), some (.int x5), some (.int x6), some (.int x7), none, none] lv → Wo X D 10 (Qr X D 0 0 evI) 0 0 (k45 x0 x1 x2 x3 x4 x5 x6 x7 h) 45 lv [] h) (x0 : Nat) (x1 : Nat) (x2 : Int32) (x3 : Int32) (x4 : Int32) (x5 : Int32) (x6 : Int32) (x7 : Int32) (h : Hp) {lv : List (Option Value)} (hlv : lvLe [some (.ref x0), some (.ref x1), some (.int x2), some (.int x3), some (.int x4), some (.int x5), some (.int x6), some (.int x7), none, none] lv) : Wo X D 10 (Qr X D 0 0 evI) 0 0 (f_X5_goOn_107 fu k45 x0 x1 x2 x3 x4 x5 x6 x7 h) 107 lv [] h := by
  refine Wo_sub hlv ?_
  unfold f_X5_goOn_107
  refine r_iinc (v := (x7 + 1)) (pc := 107) hE dX5_goOn_107 rfl rfl (by decide) ?_
  refine r_goto (pc := 110) hE 45 dX5_goOn_110 (by decide) ?_
  exact hk45 _ _ _ _ _ _ _ _ _ _ ⟨rfl, ⟨rfl, ⟨rfl, ⟨rfl, ⟨rfl, ⟨rfl, ⟨rfl, ⟨rfl, trivial⟩⟩⟩⟩⟩⟩⟩⟩
def f_X5_goOn_45 (fu : Nat) : Nat → Nat → Nat → Int32 → Int32 → Int32 → Int32 → Int32 → Int32 → Hp → Option (Int32 × Hp)
  | 0, _, _, _, _, _, _, _, _, _ => none
  | n + 1, x0, x1, x2, x3, x4, x5, x6, x7, h =>
    if 9 ≤ x7 then
      some (0, h)
    else
      (f_X4_spreadBy fu x1 x7 x4 h).bind fun r57 =>
      (f_X4_isAllLand fu x1 r57.1 r57.2).bind fun r65 =>
      if r65.1 = 0 then
        if x6 = 0 then
          f_X5_goOn_107 fu (fun y0 y1 y2 y3 y4 y5 y6 y7 hy => f_X5_goOn_45 fu n y0 y1 y2 y3 y4 y5 y6 y7 hy) x0 x1 x2 x3 x4 x5 x6 x7 r65.2
        else
          (f_X5_keepNew fu x0 r57.1 x5 ((x2 * 9) + x7) r65.2).bind fun r98 =>
          if r98.1 = 0 then
            some ((-2), r98.2)
          else
            f_X5_goOn_107 fu (fun y0 y1 y2 y3 y4 y5 y6 y7 hy => f_X5_goOn_45 fu n y0 y1 y2 y3 y4 y5 y6 y7 hy) x0 x1 x2 x3 x4 x5 x6 x7 r98.2
      else
        (f_X5_writeRow fu x0 x2 x7 x3 r65.2).bind fun r76 =>
        some (1, r76.2)
set_option maxHeartbeats 4000000 in
set_option maxRecDepth 100000 in
theorem w_X5_goOn_45 {X : Cx} {D : Dx} (hE : En X D cX5_goOn 10 RX5 (some .int) rm_X5_goOn) {fu : Nat} : ∀ (n : Nat) (x0 : Nat) (x1 : Nat) (x2 : Int32) (x3 : Int32) (x4 : Int32) (x5 : Int32) (x6 : Int32) (x7 : Int32) (h : Hp) (lv : List (Option Value)), lvLe [some (.ref x0), some (.ref x1), some (.int x2), some (.int x3), some (.int x4), some (.int x5), some (.int x6), some (.int x7), none, none] lv → Wo X D 10 (Qr X D 0 0 evI) 0 0 (f_X5_goOn_45 fu n x0 x1 x2 x3 x4 x5 x6 x7 h) 45 lv [] h := by
  intro n
  induction n with
  | zero => intros; exact Wo_none
  | succ n ih =>
    intro x0 x1 x2 x3 x4 x5 x6 x7 h lv hlv
    refine Wo_sub hlv ?_
    rw [f_X5_goOn_45]
    refine r_iload (pc := 45) hE dX5_goOn_45 rfl ?_
    refine r_bipush (v := 9) (pc := 47) hE dX5_goOn_47 (by decide) ?_
    refine r_icmp_ge (pc := 49) hE 113 dX5_goOn_49 (by decide) (fun _ => ?_) (fun _ => ?_)
    · refine r_iconst (v := 0) (pc := 113) hE dX5_goOn_113 (by decide) ?_
      exact r_iret (pc := 114) hE dX5_goOn_114
    · refine r_aload_n (pc := 52) hE dX5_goOn_52 rfl ?_
      refine r_iload (pc := 53) hE dX5_goOn_53 rfl ?_
      refine r_iload (pc := 55) hE dX5_goOn_55 rfl ?_
      refine r_callV (pc := 57) hE 4 (As := [.int x7, .int x4]) (fun out ho => c_X4_spreadBy _ _ fu _ _ _ _ out ho) (fun out ho => k_X4_spreadBy ho) (by decide) rfl cs_RX5_80 ⟨Nat.le_of_ble_eq_true rfl, Nat.le_of_ble_eq_true rfl, Nat.le_of_ble_eq_true rfl, Nat.le_of_ble_eq_true rfl⟩ (Nat.le_of_ble_eq_true rfl) rfl dX5_goOn_57 (fun r57 _ => ?_)
      refine r_lstore (pc := 60) hE dX5_goOn_60 (by decide) ?_
      refine r_aload_n (pc := 62) hE dX5_goOn_62 rfl ?_
      refine r_lload (pc := 63) hE dX5_goOn_63 rfl ?_
      refine r_callV (pc := 65) hE 4 (As := [.long r57.1]) (fun out ho => c_X4_isAllLand _ _ fu _ _ _ out ho) (fun out ho => k_X4_isAllLand ho) (by decide) rfl cs_RX5_51 ⟨Nat.le_of_ble_eq_true rfl, Nat.le_of_ble_eq_true rfl, Nat.le_of_ble_eq_true rfl, Nat.le_of_ble_eq_true rfl⟩ (Nat.le_of_ble_eq_true rfl) rfl dX5_goOn_65 (fun r65 _ => ?_)
      refine r_if_eq (pc := 68) hE 81 dX5_goOn_68 (by decide) (fun _ => ?_) (fun _ => ?_)
      · refine r_iload (pc := 81) hE dX5_goOn_81 rfl ?_
        refine r_if_eq (pc := 83) hE 107 dX5_goOn_83 (by decide) (fun _ => ?_) (fun _ => ?_)
        · exact w_X5_goOn_107 hE (fun y0 y1 y2 y3 y4 y5 y6 y7 hy lvy hly => ih y0 y1 y2 y3 y4 y5 y6 y7 hy lvy hly) _ _ _ _ _ _ _ _ _ ⟨rfl, ⟨rfl, ⟨rfl, ⟨rfl, ⟨rfl, ⟨rfl, ⟨rfl, ⟨rfl, trivial⟩⟩⟩⟩⟩⟩⟩⟩
        · refine r_aload_n (pc := 86) hE dX5_goOn_86 rfl ?_
          refine r_lload (pc := 87) hE dX5_goOn_87 rfl ?_
          refine r_iload (pc := 89) hE dX5_goOn_89 rfl ?_
          refine r_iload_n (pc := 91) hE dX5_goOn_91 rfl ?_
          refine r_bipush (v := 9) (pc := 92) hE dX5_goOn_92 (by decide) ?_
          refine r_imul (pc := 94) hE dX5_goOn_94 ?_
          refine r_iload (pc := 95) hE dX5_goOn_95 rfl ?_
          refine r_iadd (pc := 97) hE dX5_goOn_97 ?_
          refine r_callV (pc := 98) hE 5 (As := [.long r57.1, .int x5, .int ((x2 * 9) + x7)]) (fun out ho => c_X5_keepNew _ _ fu _ _ _ _ _ out ho) (fun out ho => k_X5_keepNew ho) (by decide) rfl cs_RX5_68 ⟨Nat.le_of_ble_eq_true rfl, Nat.le_of_ble_eq_true rfl, Nat.le_of_ble_eq_true rfl, Nat.le_of_ble_eq_true rfl⟩ (Nat.le_of_ble_eq_true rfl) rfl dX5_goOn_98 (fun r98 _ => ?_)
          refine r_if_ne (pc := 101) hE 107 dX5_goOn_101 (by decide) (fun _ => ?_) (fun _ => ?_)
          · exact w_X5_goOn_107 hE (fun y0 y1 y2 y3 y4 y5 y6 y7 hy lvy hly => ih y0 y1 y2 y3 y4 y5 y6 y7 hy lvy hly) _ _ _ _ _ _ _ _ _ ⟨rfl, ⟨rfl, ⟨rfl, ⟨rfl, ⟨rfl, ⟨rfl, ⟨rfl, ⟨rfl, trivial⟩⟩⟩⟩⟩⟩⟩⟩
          · refine r_bipush (v := -2) (pc := 104) hE dX5_goOn_104 (by decide) ?_
            exact r_iret (pc := 106) hE dX5_goOn_106
      · refine r_aload_n (pc := 71) hE dX5_goOn_71 rfl ?_
        refine r_iload_n (pc := 72) hE dX5_goOn_72 rfl ?_
        refine r_iload (pc := 73) hE dX5_goOn_73 rfl ?_
        refine r_iload_n (pc := 75) hE dX5_goOn_75 rfl ?_
        refine r_callV (pc := 76) hE 5 (As := [.int x2, .int x7, .int x3]) (fun out ho => c_X5_writeRow _ _ fu _ _ _ _ _ out ho) (fun out ho => k_X5_writeRow ho) (by decide) rfl cs_RX5_84 ⟨Nat.le_of_ble_eq_true rfl, Nat.le_of_ble_eq_true rfl, Nat.le_of_ble_eq_true rfl, Nat.le_of_ble_eq_true rfl⟩ (Nat.le_of_ble_eq_true rfl) rfl dX5_goOn_76 (fun r76 _ => ?_)
        refine r_iconst (v := 1) (pc := 79) hE dX5_goOn_79 (by decide) ?_
        exact r_iret (pc := 80) hE dX5_goOn_80
def f_X5_goOn_30 (fu : Nat) (x0 : Nat) (x1 : Nat) (x2 : Int32) (x3 : Int32) (x4 : Int32) (x5 : Int32) (s0 : Int32) (h : Hp) : Option (Int32 × Hp) :=
  (gR h 5 x0 1).bind fun v34 =>
  (aJ h 9 v34 x2).bind fun v38 =>
  (f_X4_spread fu x1 v38 h).bind fun r39 =>
  f_X5_goOn_45 fu fu x0 x1 x2 x3 x4 x5 s0 0 r39.2
set_option maxHeartbeats 4000000 in
set_option maxRecDepth 100000 in
theorem w_X5_goOn_30 {X : Cx} {D : Dx} (hE : En X D cX5_goOn 10 RX5 (some .int) rm_X5_goOn) {fu : Nat} (x0 : Nat) (x1 : Nat) (x2 : Int32) (x3 : Int32) (x4 : Int32) (x5 : Int32) (s0 : Int32) (h : Hp) {lv : List (Option Value)} (hlv : lvLe [some (.ref x0), some (.ref x1), some (.int x2), some (.int x3), some (.int x4), some (.int x5), none, none, none, none] lv) : Wo X D 10 (Qr X D 0 0 evI) 0 0 (f_X5_goOn_30 fu x0 x1 x2 x3 x4 x5 s0 h) 30 lv [.int s0] h := by
  refine Wo_sub hlv ?_
  unfold f_X5_goOn_30
  refine r_istore (pc := 30) hE dX5_goOn_30 (by decide) ?_
  refine r_aload_n (pc := 32) hE dX5_goOn_32 rfl ?_
  refine r_aload_n (pc := 33) hE dX5_goOn_33 rfl ?_
  refine r_getR (pc := 34) hE 5 1 (by decide) (by decide) (fun _ _ _ => rfl) fl_RX5_15 dX5_goOn_34 (fun v34 _ => ?_)
  refine r_iload_n (pc := 37) hE dX5_goOn_37 rfl ?_
  refine r_aldJ (pc := 38) hE dX5_goOn_38 (fun v38 _ => ?_)
  refine r_callV (pc := 39) hE 4 (As := [.long v38]) (fun out ho => c_X4_spread _ _ fu _ _ _ out ho) (fun out ho => k_X4_spread ho) (by decide) rfl cs_RX5_76 ⟨Nat.le_of_ble_eq_true rfl, Nat.le_of_ble_eq_true rfl, Nat.le_of_ble_eq_true rfl, Nat.le_of_ble_eq_true rfl⟩ (Nat.le_of_ble_eq_true rfl) rfl dX5_goOn_39 (fun r39 _ => ?_)
  refine r_iconst (v := 0) (pc := 42) hE dX5_goOn_42 (by decide) ?_
  refine r_istore (pc := 43) hE dX5_goOn_43 (by decide) ?_
  exact w_X5_goOn_45 hE fu _ _ _ _ _ _ _ _ _ _ ⟨rfl, ⟨rfl, ⟨rfl, ⟨rfl, ⟨rfl, ⟨rfl, ⟨rfl, ⟨rfl, trivial⟩⟩⟩⟩⟩⟩⟩⟩
def f_X5_goOn (fu : Nat) (x0 : Nat) (x1 : Nat) (x2 : Int32) (x3 : Int32) (h : Hp) : Option (Int32 × Hp) :=
  if h.K x0 = 5 then
    (gR h 5 x0 2).bind fun v1 =>
    (aI h 8 v1 x2).bind fun v5 =>
    if 12 ≤ (x3 + 1) then
      f_X5_goOn_30 fu x0 x1 x2 x3 v5 ((rem (v5 + 1) 6)) 0 h
    else
      f_X5_goOn_30 fu x0 x1 x2 x3 v5 ((rem (v5 + 1) 6)) 1 h
  else none
set_option maxHeartbeats 4000000 in
set_option maxRecDepth 100000 in
theorem c_X5_goOn (l : Launch) (D : Dx) (fu : Nat) (x0 : Nat) (x1 : Nat) (x2 : Int32) (x3 : Int32) (h : Hp) (out : Int32 × Hp) (ho : f_X5_goOn fu x0 x1 x2 x3 h = some out) : Ct l D yX5_goOn cX5_goOn 10 (some .int) rm_X5_goOn [.ref x0, .ref x1, .int x2, .int x3] h (evI out.1) out.2 := by
  refine Ct.of (o := f_X5_goOn fu x0 x1 x2 x3 h) (lv := [some (.ref x0), some (.ref x1), some (.int x2), some (.int x3), none, none, none, none, none, none]) (by decide) (Nat.le_of_ble_eq_true rfl) rfl ?_ out ho
  intro X hXl hE hin
  replace hE : En X D cX5_goOn 10 RX5 (some .int) rm_X5_goOn := hE
  subst hXl
  unfold f_X5_goOn
  refine Wo_grd (fun _ => ?_)
  refine r_aload_n (pc := 0) hE dX5_goOn_0 rfl ?_
  refine r_getR (pc := 1) hE 5 2 (by decide) (by decide) (fun _ _ _ => rfl) fl_RX5_19 dX5_goOn_1 (fun v1 _ => ?_)
  refine r_iload_n (pc := 4) hE dX5_goOn_4 rfl ?_
  refine r_aldI (pc := 5) hE dX5_goOn_5 (fun v5 _ => ?_)
  refine r_istore (pc := 6) hE dX5_goOn_6 (by decide) ?_
  refine r_iload (pc := 8) hE dX5_goOn_8 rfl ?_
  refine r_iconst (v := 1) (pc := 10) hE dX5_goOn_10 (by decide) ?_
  refine r_iadd (pc := 11) hE dX5_goOn_11 ?_
  refine r_bipush (v := 6) (pc := 12) hE dX5_goOn_12 (by decide) ?_
  refine r_irem (pc := 14) hE dX5_goOn_14 (by decide) ?_
  refine r_istore (pc := 15) hE dX5_goOn_15 (by decide) ?_
  refine r_iload_n (pc := 17) hE dX5_goOn_17 rfl ?_
  refine r_iconst (v := 1) (pc := 18) hE dX5_goOn_18 (by decide) ?_
  refine r_iadd (pc := 19) hE dX5_goOn_19 ?_
  refine r_bipush (v := 12) (pc := 20) hE dX5_goOn_20 (by decide) ?_
  refine r_icmp_ge (pc := 22) hE 29 dX5_goOn_22 (by decide) (fun _ => ?_) (fun _ => ?_)
  · refine r_iconst (v := 0) (pc := 29) hE dX5_goOn_29 (by decide) ?_
    exact w_X5_goOn_30 hE _ _ _ _ _ _ _ _ ⟨rfl, ⟨rfl, ⟨rfl, ⟨rfl, ⟨rfl, ⟨rfl, trivial⟩⟩⟩⟩⟩⟩
  · refine r_iconst (v := 1) (pc := 25) hE dX5_goOn_25 (by decide) ?_
    refine r_goto (pc := 26) hE 30 dX5_goOn_26 (by decide) ?_
    exact w_X5_goOn_30 hE _ _ _ _ _ _ _ _ ⟨rfl, ⟨rfl, ⟨rfl, ⟨rfl, ⟨rfl, ⟨rfl, trivial⟩⟩⟩⟩⟩⟩
theorem k_X5_goOn {fu : Nat} {x0 : Nat} {x1 : Nat} {x2 : Int32} {x3 : Int32} {h : Hp} {out : Int32 × Hp} (ho : f_X5_goOn fu x0 x1 x2 x3 h = some out) : h.K x0 = 5 := (gi_k ho).1
theorem cs_RX5_59 : csS RX5 59 yJ7_fill_53178 cJ7_fill_53178 4 none 2 = true := by decide +kernel
theorem cs_RX5_72 : csV RX5 72 yX5_goOn cX5_goOn 10 (some .int) 3 = true := by decide +kernel
def rm_X5_lookThrough : Room := { frames := 4, cells := 0, slots := 0, locals := 107 }
def f_X5_lookThrough_45 (fu : Nat) (k28 : Nat → Nat → Int32 → Int32 → Hp → Option (Int32 × Hp)) : Nat → Nat → Nat → Int32 → Int32 → Int32 → Hp → Option (Int32 × Hp)
  | 0, _, _, _, _, _, _ => none
  | n + 1, x0, x1, x6, x7, x8, h =>
    if x7 ≤ x8 then
      k28 x0 x1 x7 ((x6 + 1)) h
    else
      (f_X5_goOn fu x0 x1 x8 x6 h).bind fun r58 =>
      if r58.1 = 0 then
        f_X5_lookThrough_45 fu k28 n x0 x1 x6 x7 ((x8 + 1)) r58.2
      else
        if r58.1 = 1 then
          some ((x6 + 1), r58.2)
        else
          some ((-2), r58.2)
set_option maxHeartbeats 4000000 in
set_option maxRecDepth 100000 in
theorem w_X5_lookThrough_45 {X : Cx} {D : Dx} (hE : En X D cX5_lookThrough 10 RX5 (some .int) rm_X5_lookThrough) {fu : Nat} {k28 : Nat → Nat → Int32 → Int32 → Hp → Option (Int32 × Hp)} (hk28 : ∀ (x0 : Nat) (x1 : Nat) (x5 : Int32) (x6 : Int32) (h : Hp) (lv : List (Option Value)), lvLe [some (.ref x0), some (.ref x1), none, none, none, some (.int x5), some (.int x6), none, none, none] lv → Wo X D 10 (Qr X D 0 0 evI) 0 0 (k28 x0 x1 x5 x6 h) 28 lv [] h) : ∀ (n : Nat) (x0 : Nat) (x1 : Nat) (x6 : Int32) (x7 : Int32) (x8 : Int32) (h : Hp) (lv : List (Option Value)), lvLe [some (.ref x0), some (.ref x1), none, none, none, none, some (.int x6), some (.int x7), some (.int x8), none] lv → Wo X D 10 (Qr X D 0 0 evI) 0 0 (f_X5_lookThrough_45 fu k28 n x0 x1 x6 x7 x8 h) 45 lv [] h := by
  intro n
  induction n with
  | zero => intros; exact Wo_none
  | succ n ih =>
    intro x0 x1 x6 x7 x8 h lv hlv
    refine Wo_sub hlv ?_
    rw [f_X5_lookThrough_45]
    refine r_iload (pc := 45) hE dX5_lookThrough_45 rfl ?_
    refine r_iload (pc := 47) hE dX5_lookThrough_47 rfl ?_
    refine r_icmp_ge (pc := 49) hE 90 dX5_lookThrough_49 (by decide) (fun _ => ?_) (fun _ => ?_)
    · refine r_iload (pc := 90) hE dX5_lookThrough_90 rfl ?_
      refine r_istore (pc := 92) hE dX5_lookThrough_92 (by decide) ?_
      refine r_iinc (v := (x6 + 1)) (pc := 94) hE dX5_lookThrough_94 rfl rfl (by decide) ?_
      refine r_goto (pc := 97) hE 28 dX5_lookThrough_97 (by decide) ?_
      exact hk28 _ _ _ _ _ _ ⟨rfl, ⟨rfl, ⟨rfl, ⟨rfl, trivial⟩⟩⟩⟩
    · refine r_aload_n (pc := 52) hE dX5_lookThrough_52 rfl ?_
      refine r_aload_n (pc := 53) hE dX5_lookThrough_53 rfl ?_
      refine r_iload (pc := 54) hE dX5_lookThrough_54 rfl ?_
      refine r_iload (pc := 56) hE dX5_lookThrough_56 rfl ?_
      refine r_callV (pc := 58) hE 5 (As := [.ref x1, .int x8, .int x6]) (fun out ho => c_X5_goOn _ _ fu _ _ _ _ _ out ho) (fun out ho => k_X5_goOn ho) (by decide) rfl cs_RX5_72 ⟨Nat.le_of_ble_eq_true rfl, Nat.le_of_ble_eq_true rfl, Nat.le_of_ble_eq_true rfl, Nat.le_of_ble_eq_true rfl⟩ (Nat.le_of_ble_eq_true rfl) rfl dX5_lookThrough_58 (fun r58 _ => ?_)
      refine r_istore (pc := 61) hE dX5_lookThrough_61 (by decide) ?_
      refine r_iload (pc := 63) hE dX5_lookThrough_63 rfl ?_
      refine r_if_eq (pc := 65) hE 84 dX5_lookThrough_65 (by decide) (fun _ => ?_) (fun _ => ?_)
      · refine r_iinc (v := (x8 + 1)) (pc := 84) hE dX5_lookThrough_84 rfl rfl (by decide) ?_
        refine r_goto (pc := 87) hE 45 dX5_lookThrough_87 (by decide) ?_
        exact ih _ _ _ _ _ _ _ ⟨rfl, ⟨rfl, ⟨rfl, ⟨rfl, ⟨rfl, trivial⟩⟩⟩⟩⟩
      · refine r_iload (pc := 68) hE dX5_lookThrough_68 rfl ?_
        refine r_iconst (v := 1) (pc := 70) hE dX5_lookThrough_70 (by decide) ?_
        refine r_icmp_ne (pc := 71) hE 81 dX5_lookThrough_71 (by decide) (fun _ => ?_) (fun _ => ?_)
        · refine r_bipush (v := -2) (pc := 81) hE dX5_lookThrough_81 (by decide) ?_
          exact r_iret (pc := 83) hE dX5_lookThrough_83
        · refine r_iload (pc := 74) hE dX5_lookThrough_74 rfl ?_
          refine r_iconst (v := 1) (pc := 76) hE dX5_lookThrough_76 (by decide) ?_
          refine r_iadd (pc := 77) hE dX5_lookThrough_77 ?_
          refine r_goto (pc := 78) hE 83 dX5_lookThrough_78 (by decide) ?_
          exact r_iret (pc := 83) hE dX5_lookThrough_83
def f_X5_lookThrough_28 (fu : Nat) : Nat → Nat → Nat → Int32 → Int32 → Hp → Option (Int32 × Hp)
  | 0, _, _, _, _, _ => none
  | n + 1, x0, x1, x5, x6, h =>
    if 12 ≤ x6 then
      some ((-1), h)
    else
      (gI h 5 x0 5).bind fun v36 =>
      f_X5_lookThrough_45 fu (fun y0 y1 y2 y3 hy => f_X5_lookThrough_28 fu n y0 y1 y2 y3 hy) fu x0 x1 x6 v36 x5 h
set_option maxHeartbeats 4000000 in
set_option maxRecDepth 100000 in
theorem w_X5_lookThrough_28 {X : Cx} {D : Dx} (hE : En X D cX5_lookThrough 10 RX5 (some .int) rm_X5_lookThrough) {fu : Nat} : ∀ (n : Nat) (x0 : Nat) (x1 : Nat) (x5 : Int32) (x6 : Int32) (h : Hp) (lv : List (Option Value)), lvLe [some (.ref x0), some (.ref x1), none, none, none, some (.int x5), some (.int x6), none, none, none] lv → Wo X D 10 (Qr X D 0 0 evI) 0 0 (f_X5_lookThrough_28 fu n x0 x1 x5 x6 h) 28 lv [] h := by
  intro n
  induction n with
  | zero => intros; exact Wo_none
  | succ n ih =>
    intro x0 x1 x5 x6 h lv hlv
    refine Wo_sub hlv ?_
    rw [f_X5_lookThrough_28]
    refine r_iload (pc := 28) hE dX5_lookThrough_28 rfl ?_
    refine r_bipush (v := 12) (pc := 30) hE dX5_lookThrough_30 (by decide) ?_
    refine r_icmp_ge (pc := 32) hE 100 dX5_lookThrough_32 (by decide) (fun _ => ?_) (fun _ => ?_)
    · refine r_iconst (v := -1) (pc := 100) hE dX5_lookThrough_100 (by decide) ?_
      exact r_iret (pc := 101) hE dX5_lookThrough_101
    · refine r_aload_n (pc := 35) hE dX5_lookThrough_35 rfl ?_
      refine r_getI (pc := 36) hE 5 5 (by decide) (by decide) (fun _ _ _ => rfl) fl_RX5_65 dX5_lookThrough_36 (fun v36 _ => ?_)
      refine r_istore (pc := 39) hE dX5_lookThrough_39 (by decide) ?_
      refine r_iload (pc := 41) hE dX5_lookThrough_41 rfl ?_
      refine r_istore (pc := 43) hE dX5_lookThrough_43 (by decide) ?_
      exact w_X5_lookThrough_45 hE (fun y0 y1 y2 y3 hy lvy hly => ih y0 y1 y2 y3 hy lvy hly) fu _ _ _ _ _ _ _ ⟨rfl, ⟨rfl, ⟨rfl, ⟨rfl, ⟨rfl, trivial⟩⟩⟩⟩⟩
def f_X5_lookThrough (fu : Nat) (x0 : Nat) (x1 : Nat) (x2 : Int64) (x4 : Int32) (h : Hp) : Option (Int32 × Hp) :=
  if h.K x0 = 5 then
    (gR h 5 x0 4).bind fun v1 =>
    (f_J7_fill_53178 fu v1 0 h).bind fun r5 =>
    (pI r5.2 5 x0 5 0).bind fun h10 =>
    (f_X5_keepNew fu x0 x2 x4 0 h10).bind fun r18 =>
    f_X5_lookThrough_28 fu fu x0 x1 0 0 r18.2
  else none
set_option maxHeartbeats 4000000 in
set_option maxRecDepth 100000 in
theorem c_X5_lookThrough (l : Launch) (D : Dx) (fu : Nat) (x0 : Nat) (x1 : Nat) (x2 : Int64) (x4 : Int32) (h : Hp) (out : Int32 × Hp) (ho : f_X5_lookThrough fu x0 x1 x2 x4 h = some out) : Ct l D yX5_lookThrough cX5_lookThrough 10 (some .int) rm_X5_lookThrough [.ref x0, .ref x1, .long x2, .int x4] h (evI out.1) out.2 := by
  refine Ct.of (o := f_X5_lookThrough fu x0 x1 x2 x4 h) (lv := [some (.ref x0), some (.ref x1), some (.long x2), none, some (.int x4), none, none, none, none, none]) (by decide) (Nat.le_of_ble_eq_true rfl) rfl ?_ out ho
  intro X hXl hE hin
  replace hE : En X D cX5_lookThrough 10 RX5 (some .int) rm_X5_lookThrough := hE
  subst hXl
  unfold f_X5_lookThrough
  refine Wo_grd (fun _ => ?_)
  refine r_aload_n (pc := 0) hE dX5_lookThrough_0 rfl ?_
  refine r_getR (pc := 1) hE 5 4 (by decide) (by decide) (fun _ _ _ => rfl) fl_RX5_25 dX5_lookThrough_1 (fun v1 _ => ?_)
  refine r_iconst (v := 0) (pc := 4) hE dX5_lookThrough_4 (by decide) ?_
  refine r_callS (pc := 5) hE (As := [.ref v1, .int 0]) (fun out ho => c_J7_fill_53178 _ _ fu _ _ _ out ho) cs_RX5_59 ⟨Nat.le_of_ble_eq_true rfl, Nat.le_of_ble_eq_true rfl, Nat.le_of_ble_eq_true rfl, Nat.le_of_ble_eq_true rfl⟩ (Nat.le_of_ble_eq_true rfl) rfl dX5_lookThrough_5 (fun r5 _ => ?_)
  refine r_aload_n (pc := 8) hE dX5_lookThrough_8 rfl ?_
  refine r_iconst (v := 0) (pc := 9) hE dX5_lookThrough_9 (by decide) ?_
  refine r_putI (pc := 10) hE 5 5 (by decide) (by decide) (fun _ _ _ => rfl) fl_RX5_65 rfl rfl rfl dX5_lookThrough_10 (fun h10 _ => ?_)
  refine r_aload_n (pc := 13) hE dX5_lookThrough_13 rfl ?_
  refine r_lload_n (pc := 14) hE dX5_lookThrough_14 rfl ?_
  refine r_iload (pc := 15) hE dX5_lookThrough_15 rfl ?_
  refine r_iconst (v := 0) (pc := 17) hE dX5_lookThrough_17 (by decide) ?_
  refine r_callV (pc := 18) hE 5 (As := [.long x2, .int x4, .int 0]) (fun out ho => c_X5_keepNew _ _ fu _ _ _ _ _ out ho) (fun out ho => k_X5_keepNew ho) (by decide) rfl cs_RX5_68 ⟨Nat.le_of_ble_eq_true rfl, Nat.le_of_ble_eq_true rfl, Nat.le_of_ble_eq_true rfl, Nat.le_of_ble_eq_true rfl⟩ (Nat.le_of_ble_eq_true rfl) rfl dX5_lookThrough_18 (fun r18 _ => ?_)
  refine r_pop (pc := 21) hE dX5_lookThrough_21 rfl ?_
  refine r_iconst (v := 0) (pc := 22) hE dX5_lookThrough_22 (by decide) ?_
  refine r_istore (pc := 23) hE dX5_lookThrough_23 (by decide) ?_
  refine r_iconst (v := 0) (pc := 25) hE dX5_lookThrough_25 (by decide) ?_
  refine r_istore (pc := 26) hE dX5_lookThrough_26 (by decide) ?_
  exact w_X5_lookThrough_28 hE fu _ _ _ _ _ _ ⟨rfl, ⟨rfl, ⟨rfl, ⟨rfl, trivial⟩⟩⟩⟩
theorem k_X5_lookThrough {fu : Nat} {x0 : Nat} {x1 : Nat} {x2 : Int64} {x4 : Int32} {h : Hp} {out : Int32 × Hp} (ho : f_X5_lookThrough fu x0 x1 x2 x4 h = some out) : h.K x0 = 5 := (gi_k ho).1
theorem fl_RX5_28 : Cond.fieldLink RX5 28 (TF 5 6).1 (TF 5 6).2.1 (TF 5 6).2.2.1 ∈ TB := tb_in (by decide +kernel) rfl
theorem fl_RX5_32 : Cond.fieldLink RX5 32 (TF 5 7).1 (TF 5 7).2.1 (TF 5 7).2.2.1 ∈ TB := tb_in (by decide +kernel) rfl
theorem fl_RX5_36 : Cond.fieldLink RX5 36 (TF 5 8).1 (TF 5 8).2.1 (TF 5 8).2.2.1 ∈ TB := tb_in (by decide +kernel) rfl
theorem fl_RX5_40 : Cond.fieldLink RX5 40 (TF 5 9).1 (TF 5 9).2.1 (TF 5 9).2.2.1 ∈ TB := tb_in (by decide +kernel) rfl
theorem fl_RX5_43 : Cond.fieldLink RX5 43 (TF 4 3).1 (TF 4 3).2.1 (TF 4 3).2.2.1 ∈ TB := tb_in (by decide +kernel) rfl
theorem fl_RX5_48 : Cond.fieldLink RX5 48 (TF 5 10).1 (TF 5 10).2.1 (TF 5 10).2.2.1 ∈ TB := tb_in (by decide +kernel) rfl
theorem cs_RX5_55 : csV RX5 55 yX5_lookThrough cX5_lookThrough 10 (some .int) 3 = true := by decide +kernel
def rm_X5_shortest : Room := { frames := 5, cells := 0, slots := 0, locals := 136 }
def f_X5_shortest_86 (fu : Nat) (x0 : Nat) (s0 : Nat) (s1 : Int32) (h : Hp) : Option (Int32 × Hp) :=
  (pI h 5 s0 10 s1).bind fun h86 =>
  (gI h86 5 x0 10).bind fun v90 =>
  some (v90, h86)
set_option maxHeartbeats 4000000 in
set_option maxRecDepth 100000 in
theorem w_X5_shortest_86 {X : Cx} {D : Dx} (hE : En X D cX5_shortest 5 RX5 (some .int) rm_X5_shortest) {fu : Nat} (x0 : Nat) (s0 : Nat) (s1 : Int32) (h : Hp) {lv : List (Option Value)} (hlv : lvLe [some (.ref x0), none, none, none, none] lv) : Wo X D 5 (Qr X D 0 0 evI) 0 0 (f_X5_shortest_86 fu x0 s0 s1 h) 86 lv [.int s1, .ref s0] h := by
  refine Wo_sub hlv ?_
  unfold f_X5_shortest_86
  refine r_putI (pc := 86) hE 5 10 (by decide) (by decide) (fun _ _ _ => rfl) fl_RX5_48 rfl rfl rfl dX5_shortest_86 (fun h86 _ => ?_)
  refine r_aload_n (pc := 89) hE dX5_shortest_89 rfl ?_
  refine r_getI (pc := 90) hE 5 10 (by decide) (by decide) (fun _ _ _ => rfl) fl_RX5_48 dX5_shortest_90 (fun v90 _ => ?_)
  exact r_iret (pc := 93) hE dX5_shortest_93
def f_X5_shortest_41 (fu : Nat) (x0 : Nat) (x1 : Nat) (x2 : Int64) (x4 : Int32) (h : Hp) : Option (Int32 × Hp) :=
  (pI h 5 x0 6 1).bind fun h43 =>
  (pJ h43 5 x0 7 x2).bind fun h48 =>
  (pI h48 5 x0 8 x4).bind fun h54 =>
  (gI h54 4 x1 3).bind fun v59 =>
  (pI h54 5 x0 9 v59).bind fun h62 =>
  (f_X4_isAllLand fu x1 x2 h62).bind fun r68 =>
  if r68.1 = 0 then
    (f_X5_lookThrough fu x0 x1 x2 x4 r68.2).bind fun r83 =>
    f_X5_shortest_86 fu x0 x0 r83.1 r83.2
  else
    f_X5_shortest_86 fu x0 x0 0 r68.2
set_option maxHeartbeats 4000000 in
set_option maxRecDepth 100000 in
theorem w_X5_shortest_41 {X : Cx} {D : Dx} (hE : En X D cX5_shortest 5 RX5 (some .int) rm_X5_shortest) {fu : Nat} (x0 : Nat) (x1 : Nat) (x2 : Int64) (x4 : Int32) (h : Hp) {lv : List (Option Value)} (hlv : lvLe [some (.ref x0), some (.ref x1), some (.long x2), none, some (.int x4)] lv) : Wo X D 5 (Qr X D 0 0 evI) 0 0 (f_X5_shortest_41 fu x0 x1 x2 x4 h) 41 lv [] h := by
  refine Wo_sub hlv ?_
  unfold f_X5_shortest_41
  refine r_aload_n (pc := 41) hE dX5_shortest_41 rfl ?_
  refine r_iconst (v := 1) (pc := 42) hE dX5_shortest_42 (by decide) ?_
  refine r_putI (pc := 43) hE 5 6 (by decide) (by decide) (fun _ _ _ => rfl) fl_RX5_28 rfl (by decide) (by decide) dX5_shortest_43 (fun h43 _ => ?_)
  refine r_aload_n (pc := 46) hE dX5_shortest_46 rfl ?_
  refine r_lload_n (pc := 47) hE dX5_shortest_47 rfl ?_
  refine r_putJ (pc := 48) hE 5 7 (by decide) (by decide) (fun _ _ _ => rfl) fl_RX5_32 rfl rfl rfl dX5_shortest_48 (fun h48 _ => ?_)
  refine r_aload_n (pc := 51) hE dX5_shortest_51 rfl ?_
  refine r_iload (pc := 52) hE dX5_shortest_52 rfl ?_
  refine r_putI (pc := 54) hE 5 8 (by decide) (by decide) (fun _ _ _ => rfl) fl_RX5_36 rfl rfl rfl dX5_shortest_54 (fun h54 _ => ?_)
  refine r_aload_n (pc := 57) hE dX5_shortest_57 rfl ?_
  refine r_aload_n (pc := 58) hE dX5_shortest_58 rfl ?_
  refine r_getI (pc := 59) hE 4 3 (by decide) (by decide) (fun _ _ _ => rfl) fl_RX5_43 dX5_shortest_59 (fun v59 _ => ?_)
  refine r_putI (pc := 62) hE 5 9 (by decide) (by decide) (fun _ _ _ => rfl) fl_RX5_40 rfl rfl rfl dX5_shortest_62 (fun h62 _ => ?_)
  refine r_aload_n (pc := 65) hE dX5_shortest_65 rfl ?_
  refine r_aload_n (pc := 66) hE dX5_shortest_66 rfl ?_
  refine r_lload_n (pc := 67) hE dX5_shortest_67 rfl ?_
  refine r_callV (pc := 68) hE 4 (As := [.long x2]) (fun out ho => c_X4_isAllLand _ _ fu _ _ _ out ho) (fun out ho => k_X4_isAllLand ho) (by decide) rfl cs_RX5_51 ⟨Nat.le_of_ble_eq_true rfl, Nat.le_of_ble_eq_true rfl, Nat.le_of_ble_eq_true rfl, Nat.le_of_ble_eq_true rfl⟩ (Nat.le_of_ble_eq_true rfl) rfl dX5_shortest_68 (fun r68 _ => ?_)
  refine r_if_eq (pc := 71) hE 78 dX5_shortest_71 (by decide) (fun _ => ?_) (fun _ => ?_)
  · refine r_aload_n (pc := 78) hE dX5_shortest_78 rfl ?_
    refine r_aload_n (pc := 79) hE dX5_shortest_79 rfl ?_
    refine r_lload_n (pc := 80) hE dX5_shortest_80 rfl ?_
    refine r_iload (pc := 81) hE dX5_shortest_81 rfl ?_
    refine r_callV (pc := 83) hE 5 (As := [.ref x1, .long x2, .int x4]) (fun out ho => c_X5_lookThrough _ _ fu _ _ _ _ _ out ho) (fun out ho => k_X5_lookThrough ho) (by decide) rfl cs_RX5_55 ⟨Nat.le_of_ble_eq_true rfl, Nat.le_of_ble_eq_true rfl, Nat.le_of_ble_eq_true rfl, Nat.le_of_ble_eq_true rfl⟩ (Nat.le_of_ble_eq_true rfl) rfl dX5_shortest_83 (fun r83 _ => ?_)
    exact w_X5_shortest_86 hE _ _ _ _ ⟨rfl, trivial⟩
  · refine r_iconst (v := 0) (pc := 74) hE dX5_shortest_74 (by decide) ?_
    refine r_goto (pc := 75) hE 86 dX5_shortest_75 (by decide) ?_
    exact w_X5_shortest_86 hE _ _ _ _ ⟨rfl, trivial⟩
def f_X5_shortest (fu : Nat) (x0 : Nat) (x1 : Nat) (x2 : Int64) (x4 : Int32) (h : Hp) : Option (Int32 × Hp) :=
  if h.K x0 = 5 then
    (gI h 5 x0 6).bind fun v1 =>
    if v1 = 0 then
      f_X5_shortest_41 fu x0 x1 x2 x4 h
    else
      (gJ h 5 x0 7).bind fun v8 =>
      if (lg_cmp v8 x2) = 0 then
        (gI h 5 x0 8).bind fun v17 =>
        if v17 = x4 then
          (gI h 5 x0 9).bind fun v26 =>
          (gI h 4 x1 3).bind fun v30 =>
          if v26 = v30 then
            (gI h 5 x0 10).bind fun v37 =>
            some (v37, h)
          else
            f_X5_shortest_41 fu x0 x1 x2 x4 h
        else
          f_X5_shortest_41 fu x0 x1 x2 x4 h
      else
        f_X5_shortest_41 fu x0 x1 x2 x4 h
  else none
set_option maxHeartbeats 4000000 in
set_option maxRecDepth 100000 in
theorem c_X5_shortest (l : Launch) (D : Dx) (fu : Nat) (x0 : Nat) (x1 : Nat) (x2 : Int64) (x4 : Int32) (h : Hp) (out : Int32 × Hp) (ho : f_X5_shortest fu x0 x1 x2 x4 h = some out) : Ct l D yX5_shortest cX5_shortest 5 (some .int) rm_X5_shortest [.ref x0, .ref x1, .long x2, .int x4] h (evI out.1) out.2 := by
  refine Ct.of (o := f_X5_shortest fu x0 x1 x2 x4 h) (lv := [some (.ref x0), some (.ref x1), some (.long x2), none, some (.int x4)]) (by decide) (Nat.le_of_ble_eq_true rfl) rfl ?_ out ho
  intro X hXl hE hin
  replace hE : En X D cX5_shortest 5 RX5 (some .int) rm_X5_shortest := hE
  subst hXl
  unfold f_X5_shortest
  refine Wo_grd (fun _ => ?_)
  refine r_aload_n (pc := 0) hE dX5_shortest_0 rfl ?_
  refine r_getI (pc := 1) hE 5 6 (by decide) (by decide) (fun _ _ _ => rfl) fl_RX5_28 dX5_shortest_1 (fun v1 _ => ?_)
  refine r_if_eq (pc := 4) hE 41 dX5_shortest_4 (by decide) (fun _ => ?_) (fun _ => ?_)
  · exact w_X5_shortest_41 hE _ _ _ _ _ ⟨rfl, ⟨rfl, ⟨rfl, ⟨rfl, trivial⟩⟩⟩⟩
  · refine r_aload_n (pc := 7) hE dX5_shortest_7 rfl ?_
    refine r_getJ (pc := 8) hE 5 7 (by decide) (by decide) (fun _ _ _ => rfl) fl_RX5_32 dX5_shortest_8 (fun v8 _ => ?_)
    refine r_lload_n (pc := 11) hE dX5_shortest_11 rfl ?_
    refine r_lcmp (pc := 12) hE dX5_shortest_12 ?_
    refine r_if_ne (pc := 13) hE 41 dX5_shortest_13 (by decide) (fun _ => ?_) (fun _ => ?_)
    · exact w_X5_shortest_41 hE _ _ _ _ _ ⟨rfl, ⟨rfl, ⟨rfl, ⟨rfl, trivial⟩⟩⟩⟩
    · refine r_aload_n (pc := 16) hE dX5_shortest_16 rfl ?_
      refine r_getI (pc := 17) hE 5 8 (by decide) (by decide) (fun _ _ _ => rfl) fl_RX5_36 dX5_shortest_17 (fun v17 _ => ?_)
      refine r_iload (pc := 20) hE dX5_shortest_20 rfl ?_
      refine r_icmp_ne (pc := 22) hE 41 dX5_shortest_22 (by decide) (fun _ => ?_) (fun _ => ?_)
      · exact w_X5_shortest_41 hE _ _ _ _ _ ⟨rfl, ⟨rfl, ⟨rfl, ⟨rfl, trivial⟩⟩⟩⟩
      · refine r_aload_n (pc := 25) hE dX5_shortest_25 rfl ?_
        refine r_getI (pc := 26) hE 5 9 (by decide) (by decide) (fun _ _ _ => rfl) fl_RX5_40 dX5_shortest_26 (fun v26 _ => ?_)
        refine r_aload_n (pc := 29) hE dX5_shortest_29 rfl ?_
        refine r_getI (pc := 30) hE 4 3 (by decide) (by decide) (fun _ _ _ => rfl) fl_RX5_43 dX5_shortest_30 (fun v30 _ => ?_)
        refine r_icmp_ne (pc := 33) hE 41 dX5_shortest_33 (by decide) (fun _ => ?_) (fun _ => ?_)
        · exact w_X5_shortest_41 hE _ _ _ _ _ ⟨rfl, ⟨rfl, ⟨rfl, ⟨rfl, trivial⟩⟩⟩⟩
        · refine r_aload_n (pc := 36) hE dX5_shortest_36 rfl ?_
          refine r_getI (pc := 37) hE 5 10 (by decide) (by decide) (fun _ _ _ => rfl) fl_RX5_48 dX5_shortest_37 (fun v37 _ => ?_)
          exact r_iret (pc := 40) hE dX5_shortest_40
theorem k_X5_shortest {fu : Nat} {x0 : Nat} {x1 : Nat} {x2 : Int64} {x4 : Int32} {h : Hp} {out : Int32 × Hp} (ho : f_X5_shortest fu x0 x1 x2 x4 h = some out) : h.K x0 = 5 := (gi_k ho).1
