theorem oi_RX6_3 : Cond.methodLink RX6 3 objectInit ∈ TB ∧ Cond.instanceMethod objectInit ∈ TB ∧ Cond.code objectInit ⟨#[0xb1]⟩ 1 none ∈ TB := ⟨tb_in (by decide +kernel) rfl, tb_in (by decide +kernel) rfl, tb_in (by decide +kernel) rfl⟩
theorem nw_RX6_9 : Cond.classLink RX6 9 (RF 4) ∈ TB ∧ Cond.instantiable (RF 4) (nF 4) ∈ TB ∧ Cond.initialized (RF 4) ∈ TB := ⟨tb_in (by decide +kernel) rfl, tb_in (by decide +kernel) rfl, tb_in (by decide +kernel) rfl⟩
theorem cs_RX6_11 : csIN RX6 11 yX4_init cX4_init 1 0 = true := by decide +kernel
theorem fl_RX6_12 : Cond.fieldLink RX6 12 (TF 6 0).1 (TF 6 0).2.1 (TF 6 0).2.2.1 ∈ TB := tb_in (by decide +kernel) rfl
theorem nw_RX6_16 : Cond.classLink RX6 16 (RF 3) ∈ TB ∧ Cond.instantiable (RF 3) (nF 3) ∈ TB ∧ Cond.initialized (RF 3) ∈ TB := ⟨tb_in (by decide +kernel) rfl, tb_in (by decide +kernel) rfl, tb_in (by decide +kernel) rfl⟩
theorem cs_RX6_18 : csIN RX6 18 yX3_init cX3_init 1 0 = true := by decide +kernel
theorem fl_RX6_19 : Cond.fieldLink RX6 19 (TF 6 1).1 (TF 6 1).2.1 (TF 6 1).2.2.1 ∈ TB := tb_in (by decide +kernel) rfl
theorem nw_RX6_23 : Cond.classLink RX6 23 (RF 0) ∈ TB ∧ Cond.instantiable (RF 0) (nF 0) ∈ TB ∧ Cond.initialized (RF 0) ∈ TB := ⟨tb_in (by decide +kernel) rfl, tb_in (by decide +kernel) rfl, tb_in (by decide +kernel) rfl⟩
theorem cs_RX6_25 : csIN RX6 25 yX0_init cX0_init 1 0 = true := by decide +kernel
theorem fl_RX6_26 : Cond.fieldLink RX6 26 (TF 6 2).1 (TF 6 2).2.1 (TF 6 2).2.2.1 ∈ TB := tb_in (by decide +kernel) rfl
theorem fl_RX6_30 : Cond.fieldLink RX6 30 (TF 6 3).1 (TF 6 3).2.1 (TF 6 3).2.2.1 ∈ TB := tb_in (by decide +kernel) rfl
theorem fl_RX6_33 : Cond.fieldLink RX6 33 (TF 6 7).1 (TF 6 7).2.1 (TF 6 7).2.2.1 ∈ TB := tb_in (by decide +kernel) rfl
theorem fl_RX6_37 : Cond.fieldLink RX6 37 (TF 6 8).1 (TF 6 8).2.1 (TF 6 8).2.2.1 ∈ TB := tb_in (by decide +kernel) rfl
theorem cs_RX6_41 : csV RX6 41 yX4_lay cX4_lay 3 none 2 = true := by decide +kernel
theorem fl_RX6_45 : Cond.fieldLink RX6 45 (TF 4 4).1 (TF 4 4).2.1 (TF 4 4).2.2.1 ∈ TB := tb_in (by decide +kernel) rfl
theorem fl_RX6_49 : Cond.fieldLink RX6 49 (TF 6 4).1 (TF 6 4).2.1 (TF 6 4).2.2.1 ∈ TB := tb_in (by decide +kernel) rfl
theorem fl_RX6_56 : Cond.fieldLink RX6 56 (TF 6 6).1 (TF 6 6).2.1 (TF 6 6).2.2.1 ∈ TB := tb_in (by decide +kernel) rfl
def rm_X6_init : Room := { frames := 3, cells := 19, slots := 821, locals := 69 }
def f_X6_init (fu : Nat) (x0 : Nat) (h : Hp) : Option (Unit × Hp) :=
  if h.K x0 = 6 then
    (f_X4_init fu (Hp.N h) (newC h 4 0)).bind fun r9 =>
    (pR r9.2 6 x0 0 (some (Hp.N h))).bind fun h12 =>
    (f_X3_init fu (Hp.N h12) (newC h12 3 0)).bind fun r20 =>
    (pR r20.2 6 x0 1 (some (Hp.N h12))).bind fun h23 =>
    (f_X0_init fu (Hp.N h23) (newC h23 0 0)).bind fun r31 =>
    (pR r31.2 6 x0 2 (some (Hp.N h23))).bind fun h34 =>
    (f_X0_init fu (Hp.N h34) (newC h34 0 0)).bind fun r42 =>
    (pR r42.2 6 x0 3 (some (Hp.N h34))).bind fun h45 =>
    (pR h45 6 x0 7 none).bind fun h50 =>
    (pR h50 6 x0 8 none).bind fun h55 =>
    (gR h55 6 x0 0).bind fun v59 =>
    (f_X4_lay fu v59 4 4 h55).bind fun r64 =>
    (gR r64.2 6 x0 0).bind fun v69 =>
    (gJ r64.2 4 v69 4).bind fun v72 =>
    (pJ r64.2 6 x0 4 v72).bind fun h75 =>
    (pI h75 6 x0 5 0).bind fun h80 =>
    (pI h80 6 x0 6 (-1)).bind fun h85 =>
    some ((), h85)
  else none
set_option maxHeartbeats 4000000 in
set_option maxRecDepth 100000 in
theorem c_X6_init (l : Launch) (D : Dx) (fu : Nat) (x0 : Nat) (h : Hp) (out : Unit × Hp) (ho : f_X6_init fu x0 h = some out) : Ct l D yX6_init cX6_init 1 none rm_X6_init [.ref x0] h (evU out.1) out.2 := by
  refine Ct.of (o := f_X6_init fu x0 h) (lv := [some (.ref x0)]) (by decide) (Nat.le_of_ble_eq_true rfl) rfl ?_ out ho
  intro X hXl hE hin
  replace hE : En X D cX6_init 1 RX6 none rm_X6_init := hE
  subst hXl
  replace hin : X.meth.name = "<init>" := hin
  unfold f_X6_init
  refine Wo_grd (fun _ => ?_)
  refine r_aload_n (pc := 0) hE dX6_init_0 rfl ?_
  refine r_objInit (pc := 1) hE oi_RX6_3 ⟨Nat.le_of_ble_eq_true rfl, Nat.le_of_ble_eq_true rfl⟩ dX6_init_1 ?_
  refine r_aload_n (pc := 4) hE dX6_init_4 rfl ?_
  refine r_new (pc := 5) hE 4 (by decide) nw_RX6_9 ⟨Nat.le_of_ble_eq_true rfl, Nat.le_of_ble_eq_true rfl⟩ dX6_init_5 ?_
  refine r_dup (pc := 8) hE dX6_init_8 rfl ?_
  refine r_callIN (pc := 9) hE (As := []) (fun out ho => c_X4_init _ _ fu _ _ out ho) cs_RX6_11 ⟨Nat.le_of_ble_eq_true rfl, Nat.le_of_ble_eq_true rfl, Nat.le_of_ble_eq_true rfl, Nat.le_of_ble_eq_true rfl⟩ (Nat.le_of_ble_eq_true rfl) rfl dX6_init_9 (fun r9 _ => ?_)
  refine r_putF (pc := 12) hE hin 6 0 (by decide) (by decide) rfl (fun _ _ _ => rfl) fl_RX6_12 rfl rfl rfl dX6_init_12 (fun h12 _ => ?_)
  refine r_aload_n (pc := 15) hE dX6_init_15 rfl ?_
  refine r_new (pc := 16) hE 3 (by decide) nw_RX6_16 ⟨Nat.le_of_ble_eq_true rfl, Nat.le_of_ble_eq_true rfl⟩ dX6_init_16 ?_
  refine r_dup (pc := 19) hE dX6_init_19 rfl ?_
  refine r_callIN (pc := 20) hE (As := []) (fun out ho => c_X3_init _ _ fu _ _ out ho) cs_RX6_18 ⟨Nat.le_of_ble_eq_true rfl, Nat.le_of_ble_eq_true rfl, Nat.le_of_ble_eq_true rfl, Nat.le_of_ble_eq_true rfl⟩ (Nat.le_of_ble_eq_true rfl) rfl dX6_init_20 (fun r20 _ => ?_)
  refine r_putF (pc := 23) hE hin 6 1 (by decide) (by decide) rfl (fun _ _ _ => rfl) fl_RX6_19 rfl rfl rfl dX6_init_23 (fun h23 _ => ?_)
  refine r_aload_n (pc := 26) hE dX6_init_26 rfl ?_
  refine r_new (pc := 27) hE 0 (by decide) nw_RX6_23 ⟨Nat.le_of_ble_eq_true rfl, Nat.le_of_ble_eq_true rfl⟩ dX6_init_27 ?_
  refine r_dup (pc := 30) hE dX6_init_30 rfl ?_
  refine r_callIN (pc := 31) hE (As := []) (fun out ho => c_X0_init _ _ fu _ _ out ho) cs_RX6_25 ⟨Nat.le_of_ble_eq_true rfl, Nat.le_of_ble_eq_true rfl, Nat.le_of_ble_eq_true rfl, Nat.le_of_ble_eq_true rfl⟩ (Nat.le_of_ble_eq_true rfl) rfl dX6_init_31 (fun r31 _ => ?_)
  refine r_putR (pc := 34) hE 6 2 (by decide) (by decide) (fun _ _ _ => rfl) fl_RX6_26 rfl rfl rfl dX6_init_34 (fun h34 _ => ?_)
  refine r_aload_n (pc := 37) hE dX6_init_37 rfl ?_
  refine r_new (pc := 38) hE 0 (by decide) nw_RX6_23 ⟨Nat.le_of_ble_eq_true rfl, Nat.le_of_ble_eq_true rfl⟩ dX6_init_38 ?_
  refine r_dup (pc := 41) hE dX6_init_41 rfl ?_
  refine r_callIN (pc := 42) hE (As := []) (fun out ho => c_X0_init _ _ fu _ _ out ho) cs_RX6_25 ⟨Nat.le_of_ble_eq_true rfl, Nat.le_of_ble_eq_true rfl, Nat.le_of_ble_eq_true rfl, Nat.le_of_ble_eq_true rfl⟩ (Nat.le_of_ble_eq_true rfl) rfl dX6_init_42 (fun r42 _ => ?_)
  refine r_putR (pc := 45) hE 6 3 (by decide) (by decide) (fun _ _ _ => rfl) fl_RX6_30 rfl rfl rfl dX6_init_45 (fun h45 _ => ?_)
  refine r_aload_n (pc := 48) hE dX6_init_48 rfl ?_
  refine r_null (pc := 49) hE dX6_init_49 ?_
  refine r_putN (pc := 50) hE 6 7 (by decide) (by decide) (fun _ _ _ => rfl) fl_RX6_33 rfl rfl rfl dX6_init_50 (fun h50 _ => ?_)
  refine r_aload_n (pc := 53) hE dX6_init_53 rfl ?_
  refine r_null (pc := 54) hE dX6_init_54 ?_
  refine r_putN (pc := 55) hE 6 8 (by decide) (by decide) (fun _ _ _ => rfl) fl_RX6_37 rfl rfl rfl dX6_init_55 (fun h55 _ => ?_)
  refine r_aload_n (pc := 58) hE dX6_init_58 rfl ?_
  refine r_getR (pc := 59) hE 6 0 (by decide) (by decide) (fun _ _ _ => rfl) fl_RX6_12 dX6_init_59 (fun v59 _ => ?_)
  refine r_iconst (v := 4) (pc := 62) hE dX6_init_62 (by decide) ?_
  refine r_iconst (v := 4) (pc := 63) hE dX6_init_63 (by decide) ?_
  refine r_callV (pc := 64) hE 4 (As := [.int 4, .int 4]) (fun out ho => c_X4_lay _ _ fu _ _ _ _ out ho) (fun out ho => k_X4_lay ho) (by decide) rfl cs_RX6_41 ⟨Nat.le_of_ble_eq_true rfl, Nat.le_of_ble_eq_true rfl, Nat.le_of_ble_eq_true rfl, Nat.le_of_ble_eq_true rfl⟩ (Nat.le_of_ble_eq_true rfl) rfl dX6_init_64 (fun r64 _ => ?_)
  refine r_aload_n (pc := 67) hE dX6_init_67 rfl ?_
  refine r_aload_n (pc := 68) hE dX6_init_68 rfl ?_
  refine r_getR (pc := 69) hE 6 0 (by decide) (by decide) (fun _ _ _ => rfl) fl_RX6_12 dX6_init_69 (fun v69 _ => ?_)
  refine r_getJ (pc := 72) hE 4 4 (by decide) (by decide) (fun _ _ _ => rfl) fl_RX6_45 dX6_init_72 (fun v72 _ => ?_)
  refine r_putJ (pc := 75) hE 6 4 (by decide) (by decide) (fun _ _ _ => rfl) fl_RX6_49 rfl rfl rfl dX6_init_75 (fun h75 _ => ?_)
  refine r_aload_n (pc := 78) hE dX6_init_78 rfl ?_
  refine r_iconst (v := 0) (pc := 79) hE dX6_init_79 (by decide) ?_
  refine r_putI (pc := 80) hE 6 5 (by decide) (by decide) (fun _ _ _ => rfl) fl_RX6_52 rfl rfl rfl dX6_init_80 (fun h80 _ => ?_)
  refine r_aload_n (pc := 83) hE dX6_init_83 rfl ?_
  refine r_iconst (v := -1) (pc := 84) hE dX6_init_84 (by decide) ?_
  refine r_putI (pc := 85) hE 6 6 (by decide) (by decide) (fun _ _ _ => rfl) fl_RX6_56 rfl rfl rfl dX6_init_85 (fun h85 _ => ?_)
  exact r_vret (pc := 88) hE dX6_init_88
theorem k_X6_init {fu : Nat} {x0 : Nat} {h : Hp} {out : Unit × Hp} (ho : f_X6_init fu x0 h = some out) : h.K x0 = 6 := (gi_k ho).1
def rm_X6_startWith : Room := { frames := 0, cells := 0, slots := 0, locals := 0 }
def f_X6_startWith (fu : Nat) (x0 : Nat) (x1 : Int64) (h : Hp) : Option (Unit × Hp) :=
  if h.K x0 = 6 then
    (pJ h 6 x0 4 x1).bind fun h2 =>
    (pI h2 6 x0 5 0).bind fun h7 =>
    (pI h7 6 x0 6 (-1)).bind fun h12 =>
    some ((), h12)
  else none
set_option maxHeartbeats 4000000 in
set_option maxRecDepth 100000 in
theorem c_X6_startWith (l : Launch) (D : Dx) (fu : Nat) (x0 : Nat) (x1 : Int64) (h : Hp) (out : Unit × Hp) (ho : f_X6_startWith fu x0 x1 h = some out) : Ct l D yX6_startWith cX6_startWith 3 none rm_X6_startWith [.ref x0, .long x1] h (evU out.1) out.2 := by
  refine Ct.of (o := f_X6_startWith fu x0 x1 h) (lv := [some (.ref x0), some (.long x1), none]) (by decide) (Nat.le_of_ble_eq_true rfl) rfl ?_ out ho
  intro X hXl hE hin
  replace hE : En X D cX6_startWith 3 RX6 none rm_X6_startWith := hE
  subst hXl
  unfold f_X6_startWith
  refine Wo_grd (fun _ => ?_)
  refine r_aload_n (pc := 0) hE dX6_startWith_0 rfl ?_
  refine r_lload_n (pc := 1) hE dX6_startWith_1 rfl ?_
  refine r_putJ (pc := 2) hE 6 4 (by decide) (by decide) (fun _ _ _ => rfl) fl_RX6_49 rfl rfl rfl dX6_startWith_2 (fun h2 _ => ?_)
  refine r_aload_n (pc := 5) hE dX6_startWith_5 rfl ?_
  refine r_iconst (v := 0) (pc := 6) hE dX6_startWith_6 (by decide) ?_
  refine r_putI (pc := 7) hE 6 5 (by decide) (by decide) (fun _ _ _ => rfl) fl_RX6_52 rfl rfl rfl dX6_startWith_7 (fun h7 _ => ?_)
  refine r_aload_n (pc := 10) hE dX6_startWith_10 rfl ?_
  refine r_iconst (v := -1) (pc := 11) hE dX6_startWith_11 (by decide) ?_
  refine r_putI (pc := 12) hE 6 6 (by decide) (by decide) (fun _ _ _ => rfl) fl_RX6_56 rfl rfl rfl dX6_startWith_12 (fun h12 _ => ?_)
  exact r_vret (pc := 15) hE dX6_startWith_15
theorem k_X6_startWith {fu : Nat} {x0 : Nat} {x1 : Int64} {h : Hp} {out : Unit × Hp} (ho : f_X6_startWith fu x0 x1 h = some out) : h.K x0 = 6 := (gi_k ho).1
theorem cs_RX6_59 : csV RX6 59 yX6_startWith cX6_startWith 3 none 1 = true := by decide +kernel
def rm_X6_sea : Room := { frames := 3, cells := 0, slots := 0, locals := 69 }
def f_X6_sea (fu : Nat) (x0 : Nat) (x1 : Int32) (x2 : Int32) (h : Hp) : Option (Int32 × Hp) :=
  if h.K x0 = 6 then
    if x1 < 2 then
      some (0, h)
    else
      if 8 < x1 then
        some (0, h)
      else
        if x2 < 2 then
          some (0, h)
        else
          if x2 ≤ 8 then
            (gR h 6 x0 0).bind fun v25 =>
            (f_X4_lay fu v25 x1 x2 h).bind fun r30 =>
            (gR r30.2 6 x0 0).bind fun v35 =>
            (gJ r30.2 4 v35 4).bind fun v38 =>
            (f_X6_startWith fu x0 v38 r30.2).bind fun r41 =>
            some (1, r41.2)
          else
            some (0, h)
  else none
set_option maxHeartbeats 4000000 in
set_option maxRecDepth 100000 in
theorem c_X6_sea (l : Launch) (D : Dx) (fu : Nat) (x0 : Nat) (x1 : Int32) (x2 : Int32) (h : Hp) (out : Int32 × Hp) (ho : f_X6_sea fu x0 x1 x2 h = some out) : Ct l D yX6_sea cX6_sea 3 (some .boolean) rm_X6_sea [.ref x0, .int x1, .int x2] h (evI out.1) out.2 := by
  refine Ct.of (o := f_X6_sea fu x0 x1 x2 h) (lv := [some (.ref x0), some (.int x1), some (.int x2)]) (by decide) (Nat.le_of_ble_eq_true rfl) rfl ?_ out ho
  intro X hXl hE hin
  replace hE : En X D cX6_sea 3 RX6 (some .boolean) rm_X6_sea := hE
  subst hXl
  unfold f_X6_sea
  refine Wo_grd (fun _ => ?_)
  refine r_iload_n (pc := 0) hE dX6_sea_0 rfl ?_
  refine r_iconst (v := 2) (pc := 1) hE dX6_sea_1 (by decide) ?_
  refine r_icmp_lt (pc := 2) hE 22 dX6_sea_2 (by decide) (fun _ => ?_) (fun _ => ?_)
  · refine r_iconst (v := 0) (pc := 22) hE dX6_sea_22 (by decide) ?_
    exact r_zret (pc := 23) hE (by decide) dX6_sea_23
  · refine r_iload_n (pc := 5) hE dX6_sea_5 rfl ?_
    refine r_bipush (v := 8) (pc := 6) hE dX6_sea_6 (by decide) ?_
    refine r_icmp_gt (pc := 8) hE 22 dX6_sea_8 (by decide) (fun _ => ?_) (fun _ => ?_)
    · refine r_iconst (v := 0) (pc := 22) hE dX6_sea_22 (by decide) ?_
      exact r_zret (pc := 23) hE (by decide) dX6_sea_23
    · refine r_iload_n (pc := 11) hE dX6_sea_11 rfl ?_
      refine r_iconst (v := 2) (pc := 12) hE dX6_sea_12 (by decide) ?_
      refine r_icmp_lt (pc := 13) hE 22 dX6_sea_13 (by decide) (fun _ => ?_) (fun _ => ?_)
      · refine r_iconst (v := 0) (pc := 22) hE dX6_sea_22 (by decide) ?_
        exact r_zret (pc := 23) hE (by decide) dX6_sea_23
      · refine r_iload_n (pc := 16) hE dX6_sea_16 rfl ?_
        refine r_bipush (v := 8) (pc := 17) hE dX6_sea_17 (by decide) ?_
        refine r_icmp_le (pc := 19) hE 24 dX6_sea_19 (by decide) (fun _ => ?_) (fun _ => ?_)
        · refine r_aload_n (pc := 24) hE dX6_sea_24 rfl ?_
          refine r_getR (pc := 25) hE 6 0 (by decide) (by decide) (fun _ _ _ => rfl) fl_RX6_12 dX6_sea_25 (fun v25 _ => ?_)
          refine r_iload_n (pc := 28) hE dX6_sea_28 rfl ?_
          refine r_iload_n (pc := 29) hE dX6_sea_29 rfl ?_
          refine r_callV (pc := 30) hE 4 (As := [.int x1, .int x2]) (fun out ho => c_X4_lay _ _ fu _ _ _ _ out ho) (fun out ho => k_X4_lay ho) (by decide) rfl cs_RX6_41 ⟨Nat.le_of_ble_eq_true rfl, Nat.le_of_ble_eq_true rfl, Nat.le_of_ble_eq_true rfl, Nat.le_of_ble_eq_true rfl⟩ (Nat.le_of_ble_eq_true rfl) rfl dX6_sea_30 (fun r30 _ => ?_)
          refine r_aload_n (pc := 33) hE dX6_sea_33 rfl ?_
          refine r_aload_n (pc := 34) hE dX6_sea_34 rfl ?_
          refine r_getR (pc := 35) hE 6 0 (by decide) (by decide) (fun _ _ _ => rfl) fl_RX6_12 dX6_sea_35 (fun v35 _ => ?_)
          refine r_getJ (pc := 38) hE 4 4 (by decide) (by decide) (fun _ _ _ => rfl) fl_RX6_45 dX6_sea_38 (fun v38 _ => ?_)
          refine r_callV (pc := 41) hE 6 (As := [.long v38]) (fun out ho => c_X6_startWith _ _ fu _ _ _ out ho) (fun out ho => k_X6_startWith ho) (by decide) rfl cs_RX6_59 ⟨Nat.le_of_ble_eq_true rfl, Nat.le_of_ble_eq_true rfl, Nat.le_of_ble_eq_true rfl, Nat.le_of_ble_eq_true rfl⟩ (Nat.le_of_ble_eq_true rfl) rfl dX6_sea_41 (fun r41 _ => ?_)
          refine r_iconst (v := 1) (pc := 44) hE dX6_sea_44 (by decide) ?_
          exact r_zret (pc := 45) hE (by decide) dX6_sea_45
        · refine r_iconst (v := 0) (pc := 22) hE dX6_sea_22 (by decide) ?_
          exact r_zret (pc := 23) hE (by decide) dX6_sea_23
theorem k_X6_sea {fu : Nat} {x0 : Nat} {x1 : Int32} {x2 : Int32} {h : Hp} {out : Int32 × Hp} (ho : f_X6_sea fu x0 x1 x2 h = some out) : h.K x0 = 6 := (gi_k ho).1
theorem cs_RX6_63 : csV RX6 63 yX4_hasCell cX4_hasCell 2 (some .boolean) 1 = true := by decide +kernel
theorem cs_RX6_67 : csV RX6 67 yX4_setReach cX4_setReach 6 none 2 = true := by decide +kernel
def rm_X6_land : Room := { frames := 3, cells := 0, slots := 0, locals := 71 }
def f_X6_land (fu : Nat) (x0 : Nat) (x1 : Int32) (x2 : Int32) (h : Hp) : Option (Int32 × Hp) :=
  if h.K x0 = 6 then
    (gR h 6 x0 0).bind fun v1 =>
    (f_X4_hasCell fu v1 x1 h).bind fun r5 =>
    if r5.1 = 0 then
      some (0, r5.2)
    else
      if x2 < (-1) then
        some (0, r5.2)
      else
        if x2 ≤ 3 then
          (gR r5.2 6 x0 0).bind fun v24 =>
          (f_X4_setReach fu v24 x1 x2 r5.2).bind fun r29 =>
          some (1, r29.2)
        else
          some (0, r5.2)
  else none
set_option maxHeartbeats 4000000 in
set_option maxRecDepth 100000 in
theorem c_X6_land (l : Launch) (D : Dx) (fu : Nat) (x0 : Nat) (x1 : Int32) (x2 : Int32) (h : Hp) (out : Int32 × Hp) (ho : f_X6_land fu x0 x1 x2 h = some out) : Ct l D yX6_land cX6_land 3 (some .boolean) rm_X6_land [.ref x0, .int x1, .int x2] h (evI out.1) out.2 := by
  refine Ct.of (o := f_X6_land fu x0 x1 x2 h) (lv := [some (.ref x0), some (.int x1), some (.int x2)]) (by decide) (Nat.le_of_ble_eq_true rfl) rfl ?_ out ho
  intro X hXl hE hin
  replace hE : En X D cX6_land 3 RX6 (some .boolean) rm_X6_land := hE
  subst hXl
  unfold f_X6_land
  refine Wo_grd (fun _ => ?_)
  refine r_aload_n (pc := 0) hE dX6_land_0 rfl ?_
  refine r_getR (pc := 1) hE 6 0 (by decide) (by decide) (fun _ _ _ => rfl) fl_RX6_12 dX6_land_1 (fun v1 _ => ?_)
  refine r_iload_n (pc := 4) hE dX6_land_4 rfl ?_
  refine r_callV (pc := 5) hE 4 (As := [.int x1]) (fun out ho => c_X4_hasCell _ _ fu _ _ _ out ho) (fun out ho => k_X4_hasCell ho) (by decide) rfl cs_RX6_63 ⟨Nat.le_of_ble_eq_true rfl, Nat.le_of_ble_eq_true rfl, Nat.le_of_ble_eq_true rfl, Nat.le_of_ble_eq_true rfl⟩ (Nat.le_of_ble_eq_true rfl) rfl dX6_land_5 (fun r5 _ => ?_)
  refine r_if_eq (pc := 8) hE 21 dX6_land_8 (by decide) (fun _ => ?_) (fun _ => ?_)
  · refine r_iconst (v := 0) (pc := 21) hE dX6_land_21 (by decide) ?_
    exact r_zret (pc := 22) hE (by decide) dX6_land_22
  · refine r_iload_n (pc := 11) hE dX6_land_11 rfl ?_
    refine r_iconst (v := -1) (pc := 12) hE dX6_land_12 (by decide) ?_
    refine r_icmp_lt (pc := 13) hE 21 dX6_land_13 (by decide) (fun _ => ?_) (fun _ => ?_)
    · refine r_iconst (v := 0) (pc := 21) hE dX6_land_21 (by decide) ?_
      exact r_zret (pc := 22) hE (by decide) dX6_land_22
    · refine r_iload_n (pc := 16) hE dX6_land_16 rfl ?_
      refine r_iconst (v := 3) (pc := 17) hE dX6_land_17 (by decide) ?_
      refine r_icmp_le (pc := 18) hE 23 dX6_land_18 (by decide) (fun _ => ?_) (fun _ => ?_)
      · refine r_aload_n (pc := 23) hE dX6_land_23 rfl ?_
        refine r_getR (pc := 24) hE 6 0 (by decide) (by decide) (fun _ _ _ => rfl) fl_RX6_12 dX6_land_24 (fun v24 _ => ?_)
        refine r_iload_n (pc := 27) hE dX6_land_27 rfl ?_
        refine r_iload_n (pc := 28) hE dX6_land_28 rfl ?_
        refine r_callV (pc := 29) hE 4 (As := [.int x1, .int x2]) (fun out ho => c_X4_setReach _ _ fu _ _ _ _ out ho) (fun out ho => k_X4_setReach ho) (by decide) rfl cs_RX6_67 ⟨Nat.le_of_ble_eq_true rfl, Nat.le_of_ble_eq_true rfl, Nat.le_of_ble_eq_true rfl, Nat.le_of_ble_eq_true rfl⟩ (Nat.le_of_ble_eq_true rfl) rfl dX6_land_29 (fun r29 _ => ?_)
        refine r_iconst (v := 1) (pc := 32) hE dX6_land_32 (by decide) ?_
        exact r_zret (pc := 33) hE (by decide) dX6_land_33
      · refine r_iconst (v := 0) (pc := 21) hE dX6_land_21 (by decide) ?_
        exact r_zret (pc := 22) hE (by decide) dX6_land_22
theorem k_X6_land {fu : Nat} {x0 : Nat} {x1 : Int32} {x2 : Int32} {h : Hp} {out : Int32 × Hp} (ho : f_X6_land fu x0 x1 x2 h = some out) : h.K x0 = 6 := (gi_k ho).1
theorem cs_RX6_70 : csV RX6 70 yX4_setSwell cX4_setSwell 3 none 2 = true := by decide +kernel
def rm_X6_swell : Room := { frames := 1, cells := 0, slots := 0, locals := 22 }
def f_X6_swell (fu : Nat) (x0 : Nat) (x1 : Int32) (x2 : Int32) (h : Hp) : Option (Int32 × Hp) :=
  if h.K x0 = 6 then
    (gR h 6 x0 0).bind fun v1 =>
    (f_X4_hasCell fu v1 x1 h).bind fun r5 =>
    if r5.1 = 0 then
      some (0, r5.2)
    else
      if x2 < 0 then
        some (0, r5.2)
      else
        if x2 ≤ 3 then
          (gR r5.2 6 x0 0).bind fun v23 =>
          (f_X4_setSwell fu v23 x1 x2 r5.2).bind fun r28 =>
          some (1, r28.2)
        else
          some (0, r5.2)
  else none
set_option maxHeartbeats 4000000 in
set_option maxRecDepth 100000 in
theorem c_X6_swell (l : Launch) (D : Dx) (fu : Nat) (x0 : Nat) (x1 : Int32) (x2 : Int32) (h : Hp) (out : Int32 × Hp) (ho : f_X6_swell fu x0 x1 x2 h = some out) : Ct l D yX6_swell cX6_swell 3 (some .boolean) rm_X6_swell [.ref x0, .int x1, .int x2] h (evI out.1) out.2 := by
  refine Ct.of (o := f_X6_swell fu x0 x1 x2 h) (lv := [some (.ref x0), some (.int x1), some (.int x2)]) (by decide) (Nat.le_of_ble_eq_true rfl) rfl ?_ out ho
  intro X hXl hE hin
  replace hE : En X D cX6_swell 3 RX6 (some .boolean) rm_X6_swell := hE
  subst hXl
  unfold f_X6_swell
  refine Wo_grd (fun _ => ?_)
  refine r_aload_n (pc := 0) hE dX6_swell_0 rfl ?_
  refine r_getR (pc := 1) hE 6 0 (by decide) (by decide) (fun _ _ _ => rfl) fl_RX6_12 dX6_swell_1 (fun v1 _ => ?_)
  refine r_iload_n (pc := 4) hE dX6_swell_4 rfl ?_
  refine r_callV (pc := 5) hE 4 (As := [.int x1]) (fun out ho => c_X4_hasCell _ _ fu _ _ _ out ho) (fun out ho => k_X4_hasCell ho) (by decide) rfl cs_RX6_63 ⟨Nat.le_of_ble_eq_true rfl, Nat.le_of_ble_eq_true rfl, Nat.le_of_ble_eq_true rfl, Nat.le_of_ble_eq_true rfl⟩ (Nat.le_of_ble_eq_true rfl) rfl dX6_swell_5 (fun r5 _ => ?_)
  refine r_if_eq (pc := 8) hE 20 dX6_swell_8 (by decide) (fun _ => ?_) (fun _ => ?_)
  · refine r_iconst (v := 0) (pc := 20) hE dX6_swell_20 (by decide) ?_
    exact r_zret (pc := 21) hE (by decide) dX6_swell_21
  · refine r_iload_n (pc := 11) hE dX6_swell_11 rfl ?_
    refine r_if_lt (pc := 12) hE 20 dX6_swell_12 (by decide) (fun _ => ?_) (fun _ => ?_)
    · refine r_iconst (v := 0) (pc := 20) hE dX6_swell_20 (by decide) ?_
      exact r_zret (pc := 21) hE (by decide) dX6_swell_21
    · refine r_iload_n (pc := 15) hE dX6_swell_15 rfl ?_
      refine r_iconst (v := 3) (pc := 16) hE dX6_swell_16 (by decide) ?_
      refine r_icmp_le (pc := 17) hE 22 dX6_swell_17 (by decide) (fun _ => ?_) (fun _ => ?_)
      · refine r_aload_n (pc := 22) hE dX6_swell_22 rfl ?_
        refine r_getR (pc := 23) hE 6 0 (by decide) (by decide) (fun _ _ _ => rfl) fl_RX6_12 dX6_swell_23 (fun v23 _ => ?_)
        refine r_iload_n (pc := 26) hE dX6_swell_26 rfl ?_
        refine r_iload_n (pc := 27) hE dX6_swell_27 rfl ?_
        refine r_callV (pc := 28) hE 4 (As := [.int x1, .int x2]) (fun out ho => c_X4_setSwell _ _ fu _ _ _ _ out ho) (fun out ho => k_X4_setSwell ho) (by decide) rfl cs_RX6_70 ⟨Nat.le_of_ble_eq_true rfl, Nat.le_of_ble_eq_true rfl, Nat.le_of_ble_eq_true rfl, Nat.le_of_ble_eq_true rfl⟩ (Nat.le_of_ble_eq_true rfl) rfl dX6_swell_28 (fun r28 _ => ?_)
        refine r_iconst (v := 1) (pc := 31) hE dX6_swell_31 (by decide) ?_
        exact r_zret (pc := 32) hE (by decide) dX6_swell_32
      · refine r_iconst (v := 0) (pc := 20) hE dX6_swell_20 (by decide) ?_
        exact r_zret (pc := 21) hE (by decide) dX6_swell_21
theorem k_X6_swell {fu : Nat} {x0 : Nat} {x1 : Int32} {x2 : Int32} {h : Hp} {out : Int32 × Hp} (ho : f_X6_swell fu x0 x1 x2 h = some out) : h.K x0 = 6 := (gi_k ho).1
theorem cs_RX6_73 : csS RX6 73 yX6_isWatch cX6_isWatch 1 (some .boolean) 1 = true := by decide +kernel
theorem cs_RX6_76 : csV RX6 76 yX4_setDrifts cX4_setDrifts 3 none 2 = true := by decide +kernel
def rm_X6_drifts : Room := { frames := 1, cells := 0, slots := 0, locals := 22 }
def f_X6_drifts (fu : Nat) (x0 : Nat) (x1 : Int32) (x2 : Int32) (h : Hp) : Option (Int32 × Hp) :=
  if h.K x0 = 6 then
    (f_X6_isWatch fu x1 h).bind fun r1 =>
    if r1.1 = 0 then
      some (0, r1.2)
    else
      if x2 ≤ 0 then
        some (0, r1.2)
      else
        if x2 < 512 then
          (gR r1.2 6 x0 0).bind fun v21 =>
          (f_X4_setDrifts fu v21 x1 x2 r1.2).bind fun r26 =>
          some (1, r26.2)
        else
          some (0, r1.2)
  else none
set_option maxHeartbeats 4000000 in
set_option maxRecDepth 100000 in
theorem c_X6_drifts (l : Launch) (D : Dx) (fu : Nat) (x0 : Nat) (x1 : Int32) (x2 : Int32) (h : Hp) (out : Int32 × Hp) (ho : f_X6_drifts fu x0 x1 x2 h = some out) : Ct l D yX6_drifts cX6_drifts 3 (some .boolean) rm_X6_drifts [.ref x0, .int x1, .int x2] h (evI out.1) out.2 := by
  refine Ct.of (o := f_X6_drifts fu x0 x1 x2 h) (lv := [some (.ref x0), some (.int x1), some (.int x2)]) (by decide) (Nat.le_of_ble_eq_true rfl) rfl ?_ out ho
  intro X hXl hE hin
  replace hE : En X D cX6_drifts 3 RX6 (some .boolean) rm_X6_drifts := hE
  subst hXl
  unfold f_X6_drifts
  refine Wo_grd (fun _ => ?_)
  refine r_iload_n (pc := 0) hE dX6_drifts_0 rfl ?_
  refine r_callS (pc := 1) hE (As := [.int x1]) (fun out ho => c_X6_isWatch _ _ fu _ _ out ho) cs_RX6_73 ⟨Nat.le_of_ble_eq_true rfl, Nat.le_of_ble_eq_true rfl, Nat.le_of_ble_eq_true rfl, Nat.le_of_ble_eq_true rfl⟩ (Nat.le_of_ble_eq_true rfl) rfl dX6_drifts_1 (fun r1 _ => ?_)
  refine r_if_eq (pc := 4) hE 18 dX6_drifts_4 (by decide) (fun _ => ?_) (fun _ => ?_)
  · refine r_iconst (v := 0) (pc := 18) hE dX6_drifts_18 (by decide) ?_
    exact r_zret (pc := 19) hE (by decide) dX6_drifts_19
  · refine r_iload_n (pc := 7) hE dX6_drifts_7 rfl ?_
    refine r_if_le (pc := 8) hE 18 dX6_drifts_8 (by decide) (fun _ => ?_) (fun _ => ?_)
    · refine r_iconst (v := 0) (pc := 18) hE dX6_drifts_18 (by decide) ?_
      exact r_zret (pc := 19) hE (by decide) dX6_drifts_19
    · refine r_iload_n (pc := 11) hE dX6_drifts_11 rfl ?_
      refine r_sipush (v := 512) (pc := 12) hE dX6_drifts_12 (by decide) ?_
      refine r_icmp_lt (pc := 15) hE 20 dX6_drifts_15 (by decide) (fun _ => ?_) (fun _ => ?_)
      · refine r_aload_n (pc := 20) hE dX6_drifts_20 rfl ?_
        refine r_getR (pc := 21) hE 6 0 (by decide) (by decide) (fun _ _ _ => rfl) fl_RX6_12 dX6_drifts_21 (fun v21 _ => ?_)
        refine r_iload_n (pc := 24) hE dX6_drifts_24 rfl ?_
        refine r_iload_n (pc := 25) hE dX6_drifts_25 rfl ?_
        refine r_callV (pc := 26) hE 4 (As := [.int x1, .int x2]) (fun out ho => c_X4_setDrifts _ _ fu _ _ _ _ out ho) (fun out ho => k_X4_setDrifts ho) (by decide) rfl cs_RX6_76 ⟨Nat.le_of_ble_eq_true rfl, Nat.le_of_ble_eq_true rfl, Nat.le_of_ble_eq_true rfl, Nat.le_of_ble_eq_true rfl⟩ (Nat.le_of_ble_eq_true rfl) rfl dX6_drifts_26 (fun r26 _ => ?_)
        refine r_iconst (v := 1) (pc := 29) hE dX6_drifts_29 (by decide) ?_
        exact r_zret (pc := 30) hE (by decide) dX6_drifts_30
      · refine r_iconst (v := 0) (pc := 18) hE dX6_drifts_18 (by decide) ?_
        exact r_zret (pc := 19) hE (by decide) dX6_drifts_19
theorem k_X6_drifts {fu : Nat} {x0 : Nat} {x1 : Int32} {x2 : Int32} {h : Hp} {out : Int32 × Hp} (ho : f_X6_drifts fu x0 x1 x2 h = some out) : h.K x0 = 6 := (gi_k ho).1
theorem cs_RX6_79 : csS RX6 79 yX6_isWatchSet cX6_isWatchSet 1 (some .boolean) 1 = true := by decide +kernel
theorem cs_RX6_82 : csV RX6 82 yX4_setWatches cX4_setWatches 3 none 2 = true := by decide +kernel
def rm_X6_watches : Room := { frames := 1, cells := 0, slots := 0, locals := 22 }
def f_X6_watches (fu : Nat) (x0 : Nat) (x1 : Int32) (x2 : Int32) (h : Hp) : Option (Int32 × Hp) :=
  if h.K x0 = 6 then
    (f_X6_isWatchSet fu x1 h).bind fun r1 =>
    if r1.1 = 0 then
      some (0, r1.2)
    else
      (f_X6_isWatchSet fu x2 r1.2).bind fun r8 =>
      if r8.1 = 0 then
        some (0, r8.2)
      else
        (gR r8.2 6 x0 0).bind fun v17 =>
        (f_X4_setWatches fu v17 x1 x2 r8.2).bind fun r22 =>
        some (1, r22.2)
  else none
set_option maxHeartbeats 4000000 in
set_option maxRecDepth 100000 in
theorem c_X6_watches (l : Launch) (D : Dx) (fu : Nat) (x0 : Nat) (x1 : Int32) (x2 : Int32) (h : Hp) (out : Int32 × Hp) (ho : f_X6_watches fu x0 x1 x2 h = some out) : Ct l D yX6_watches cX6_watches 3 (some .boolean) rm_X6_watches [.ref x0, .int x1, .int x2] h (evI out.1) out.2 := by
  refine Ct.of (o := f_X6_watches fu x0 x1 x2 h) (lv := [some (.ref x0), some (.int x1), some (.int x2)]) (by decide) (Nat.le_of_ble_eq_true rfl) rfl ?_ out ho
  intro X hXl hE hin
  replace hE : En X D cX6_watches 3 RX6 (some .boolean) rm_X6_watches := hE
  subst hXl
  unfold f_X6_watches
  refine Wo_grd (fun _ => ?_)
  refine r_iload_n (pc := 0) hE dX6_watches_0 rfl ?_
  refine r_callS (pc := 1) hE (As := [.int x1]) (fun out ho => c_X6_isWatchSet _ _ fu _ _ out ho) cs_RX6_79 ⟨Nat.le_of_ble_eq_true rfl, Nat.le_of_ble_eq_true rfl, Nat.le_of_ble_eq_true rfl, Nat.le_of_ble_eq_true rfl⟩ (Nat.le_of_ble_eq_true rfl) rfl dX6_watches_1 (fun r1 _ => ?_)
  refine r_if_eq (pc := 4) hE 14 dX6_watches_4 (by decide) (fun _ => ?_) (fun _ => ?_)
  · refine r_iconst (v := 0) (pc := 14) hE dX6_watches_14 (by decide) ?_
    exact r_zret (pc := 15) hE (by decide) dX6_watches_15
  · refine r_iload_n (pc := 7) hE dX6_watches_7 rfl ?_
    refine r_callS (pc := 8) hE (As := [.int x2]) (fun out ho => c_X6_isWatchSet _ _ fu _ _ out ho) cs_RX6_79 ⟨Nat.le_of_ble_eq_true rfl, Nat.le_of_ble_eq_true rfl, Nat.le_of_ble_eq_true rfl, Nat.le_of_ble_eq_true rfl⟩ (Nat.le_of_ble_eq_true rfl) rfl dX6_watches_8 (fun r8 _ => ?_)
    refine r_if_ne (pc := 11) hE 16 dX6_watches_11 (by decide) (fun _ => ?_) (fun _ => ?_)
    · refine r_aload_n (pc := 16) hE dX6_watches_16 rfl ?_
      refine r_getR (pc := 17) hE 6 0 (by decide) (by decide) (fun _ _ _ => rfl) fl_RX6_12 dX6_watches_17 (fun v17 _ => ?_)
      refine r_iload_n (pc := 20) hE dX6_watches_20 rfl ?_
      refine r_iload_n (pc := 21) hE dX6_watches_21 rfl ?_
      refine r_callV (pc := 22) hE 4 (As := [.int x1, .int x2]) (fun out ho => c_X4_setWatches _ _ fu _ _ _ _ out ho) (fun out ho => k_X4_setWatches ho) (by decide) rfl cs_RX6_82 ⟨Nat.le_of_ble_eq_true rfl, Nat.le_of_ble_eq_true rfl, Nat.le_of_ble_eq_true rfl, Nat.le_of_ble_eq_true rfl⟩ (Nat.le_of_ble_eq_true rfl) rfl dX6_watches_22 (fun r22 _ => ?_)
      refine r_iconst (v := 1) (pc := 25) hE dX6_watches_25 (by decide) ?_
      exact r_zret (pc := 26) hE (by decide) dX6_watches_26
    · refine r_iconst (v := 0) (pc := 14) hE dX6_watches_14 (by decide) ?_
      exact r_zret (pc := 15) hE (by decide) dX6_watches_15
theorem k_X6_watches {fu : Nat} {x0 : Nat} {x1 : Int32} {x2 : Int32} {h : Hp} {out : Int32 × Hp} (ho : f_X6_watches fu x0 x1 x2 h = some out) : h.K x0 = 6 := (gi_k ho).1
theorem fl_RX6_120 : Cond.fieldLink RX6 120 (TF 4 10).1 (TF 4 10).2.1 (TF 4 10).2.2.1 ∈ TB := tb_in (by decide +kernel) rfl
theorem fl_RX6_117 : Cond.fieldLink RX6 117 (TF 4 8).1 (TF 4 8).2.1 (TF 4 8).2.2.1 ∈ TB := tb_in (by decide +kernel) rfl
theorem fl_RX6_113 : Cond.fieldLink RX6 113 (TF 4 9).1 (TF 4 9).2.1 (TF 4 9).2.2.1 ∈ TB := tb_in (by decide +kernel) rfl
def rm_X6_lookAtRows : Room := { frames := 1, cells := 0, slots := 0, locals := 21 }
def f_X6_lookAtRows (fu : Nat) (x0 : Nat) (x1 : Int32) (h : Hp) : Option (Int32 × Hp) :=
  if h.K x0 = 6 then
    if x1 < 200 then
      if x1 < 100 then
        if x1 < 10 then
          some ((-2), h)
        else
          (f_X6_isWatch fu (x1 - 10) h).bind fun r89 =>
          if r89.1 = 0 then
            some ((-2), r89.2)
          else
            (gR r89.2 6 x0 0).bind fun v96 =>
            (gR r89.2 4 v96 10).bind fun v99 =>
            (aI r89.2 8 v99 (x1 - 10)).bind fun v106 =>
            some (v106, r89.2)
      else
        (gR h 6 x0 0).bind fun v48 =>
        (f_X4_hasCell fu v48 (x1 - 100) h).bind fun r55 =>
        if r55.1 = 0 then
          some ((-2), r55.2)
        else
          (gR r55.2 6 x0 0).bind fun v62 =>
          (gR r55.2 4 v62 8).bind fun v65 =>
          (aI r55.2 8 v65 (x1 - 100)).bind fun v72 =>
          some (v72, r55.2)
    else
      (gR h 6 x0 0).bind fun v8 =>
      (f_X4_hasCell fu v8 (x1 - 200) h).bind fun r16 =>
      if r16.1 = 0 then
        some ((-2), r16.2)
      else
        (gR r16.2 6 x0 0).bind fun v23 =>
        (gR r16.2 4 v23 9).bind fun v26 =>
        (aI r16.2 8 v26 (x1 - 200)).bind fun v34 =>
        some (v34, r16.2)
  else none
set_option maxHeartbeats 4000000 in
set_option maxRecDepth 100000 in
theorem c_X6_lookAtRows (l : Launch) (D : Dx) (fu : Nat) (x0 : Nat) (x1 : Int32) (h : Hp) (out : Int32 × Hp) (ho : f_X6_lookAtRows fu x0 x1 h = some out) : Ct l D yX6_lookAtRows cX6_lookAtRows 2 (some .int) rm_X6_lookAtRows [.ref x0, .int x1] h (evI out.1) out.2 := by
  refine Ct.of (o := f_X6_lookAtRows fu x0 x1 h) (lv := [some (.ref x0), some (.int x1)]) (by decide) (Nat.le_of_ble_eq_true rfl) rfl ?_ out ho
  intro X hXl hE hin
  replace hE : En X D cX6_lookAtRows 2 RX6 (some .int) rm_X6_lookAtRows := hE
  subst hXl
  unfold f_X6_lookAtRows
  refine Wo_grd (fun _ => ?_)
  refine r_iload_n (pc := 0) hE dX6_lookAtRows_0 rfl ?_
  refine r_sipush (v := 200) (pc := 1) hE dX6_lookAtRows_1 (by decide) ?_
  refine r_icmp_lt (pc := 4) hE 41 dX6_lookAtRows_4 (by decide) (fun _ => ?_) (fun _ => ?_)
  · refine r_iload_n (pc := 41) hE dX6_lookAtRows_41 rfl ?_
    refine r_bipush (v := 100) (pc := 42) hE dX6_lookAtRows_42 (by decide) ?_
    refine r_icmp_lt (pc := 44) hE 79 dX6_lookAtRows_44 (by decide) (fun _ => ?_) (fun _ => ?_)
    · refine r_iload_n (pc := 79) hE dX6_lookAtRows_79 rfl ?_
      refine r_bipush (v := 10) (pc := 80) hE dX6_lookAtRows_80 (by decide) ?_
      refine r_icmp_lt (pc := 82) hE 113 dX6_lookAtRows_82 (by decide) (fun _ => ?_) (fun _ => ?_)
      · refine r_bipush (v := -2) (pc := 113) hE dX6_lookAtRows_113 (by decide) ?_
        exact r_iret (pc := 115) hE dX6_lookAtRows_115
      · refine r_iload_n (pc := 85) hE dX6_lookAtRows_85 rfl ?_
        refine r_bipush (v := 10) (pc := 86) hE dX6_lookAtRows_86 (by decide) ?_
        refine r_isub (pc := 88) hE dX6_lookAtRows_88 ?_
        refine r_callS (pc := 89) hE (As := [.int (x1 - 10)]) (fun out ho => c_X6_isWatch _ _ fu _ _ out ho) cs_RX6_73 ⟨Nat.le_of_ble_eq_true rfl, Nat.le_of_ble_eq_true rfl, Nat.le_of_ble_eq_true rfl, Nat.le_of_ble_eq_true rfl⟩ (Nat.le_of_ble_eq_true rfl) rfl dX6_lookAtRows_89 (fun r89 _ => ?_)
        refine r_if_eq (pc := 92) hE 110 dX6_lookAtRows_92 (by decide) (fun _ => ?_) (fun _ => ?_)
        · refine r_bipush (v := -2) (pc := 110) hE dX6_lookAtRows_110 (by decide) ?_
          exact r_iret (pc := 112) hE dX6_lookAtRows_112
        · refine r_aload_n (pc := 95) hE dX6_lookAtRows_95 rfl ?_
          refine r_getR (pc := 96) hE 6 0 (by decide) (by decide) (fun _ _ _ => rfl) fl_RX6_12 dX6_lookAtRows_96 (fun v96 _ => ?_)
          refine r_getR (pc := 99) hE 4 10 (by decide) (by decide) (fun _ _ _ => rfl) fl_RX6_120 dX6_lookAtRows_99 (fun v99 _ => ?_)
          refine r_iload_n (pc := 102) hE dX6_lookAtRows_102 rfl ?_
          refine r_bipush (v := 10) (pc := 103) hE dX6_lookAtRows_103 (by decide) ?_
          refine r_isub (pc := 105) hE dX6_lookAtRows_105 ?_
          refine r_aldI (pc := 106) hE dX6_lookAtRows_106 (fun v106 _ => ?_)
          refine r_goto (pc := 107) hE 112 dX6_lookAtRows_107 (by decide) ?_
          exact r_iret (pc := 112) hE dX6_lookAtRows_112
    · refine r_aload_n (pc := 47) hE dX6_lookAtRows_47 rfl ?_
      refine r_getR (pc := 48) hE 6 0 (by decide) (by decide) (fun _ _ _ => rfl) fl_RX6_12 dX6_lookAtRows_48 (fun v48 _ => ?_)
      refine r_iload_n (pc := 51) hE dX6_lookAtRows_51 rfl ?_
      refine r_bipush (v := 100) (pc := 52) hE dX6_lookAtRows_52 (by decide) ?_
      refine r_isub (pc := 54) hE dX6_lookAtRows_54 ?_
      refine r_callV (pc := 55) hE 4 (As := [.int (x1 - 100)]) (fun out ho => c_X4_hasCell _ _ fu _ _ _ out ho) (fun out ho => k_X4_hasCell ho) (by decide) rfl cs_RX6_63 ⟨Nat.le_of_ble_eq_true rfl, Nat.le_of_ble_eq_true rfl, Nat.le_of_ble_eq_true rfl, Nat.le_of_ble_eq_true rfl⟩ (Nat.le_of_ble_eq_true rfl) rfl dX6_lookAtRows_55 (fun r55 _ => ?_)
      refine r_if_eq (pc := 58) hE 76 dX6_lookAtRows_58 (by decide) (fun _ => ?_) (fun _ => ?_)
      · refine r_bipush (v := -2) (pc := 76) hE dX6_lookAtRows_76 (by decide) ?_
        exact r_iret (pc := 78) hE dX6_lookAtRows_78
      · refine r_aload_n (pc := 61) hE dX6_lookAtRows_61 rfl ?_
        refine r_getR (pc := 62) hE 6 0 (by decide) (by decide) (fun _ _ _ => rfl) fl_RX6_12 dX6_lookAtRows_62 (fun v62 _ => ?_)
        refine r_getR (pc := 65) hE 4 8 (by decide) (by decide) (fun _ _ _ => rfl) fl_RX6_117 dX6_lookAtRows_65 (fun v65 _ => ?_)
        refine r_iload_n (pc := 68) hE dX6_lookAtRows_68 rfl ?_
        refine r_bipush (v := 100) (pc := 69) hE dX6_lookAtRows_69 (by decide) ?_
        refine r_isub (pc := 71) hE dX6_lookAtRows_71 ?_
        refine r_aldI (pc := 72) hE dX6_lookAtRows_72 (fun v72 _ => ?_)
        refine r_goto (pc := 73) hE 78 dX6_lookAtRows_73 (by decide) ?_
        exact r_iret (pc := 78) hE dX6_lookAtRows_78
  · refine r_aload_n (pc := 7) hE dX6_lookAtRows_7 rfl ?_
    refine r_getR (pc := 8) hE 6 0 (by decide) (by decide) (fun _ _ _ => rfl) fl_RX6_12 dX6_lookAtRows_8 (fun v8 _ => ?_)
    refine r_iload_n (pc := 11) hE dX6_lookAtRows_11 rfl ?_
    refine r_sipush (v := 200) (pc := 12) hE dX6_lookAtRows_12 (by decide) ?_
    refine r_isub (pc := 15) hE dX6_lookAtRows_15 ?_
    refine r_callV (pc := 16) hE 4 (As := [.int (x1 - 200)]) (fun out ho => c_X4_hasCell _ _ fu _ _ _ out ho) (fun out ho => k_X4_hasCell ho) (by decide) rfl cs_RX6_63 ⟨Nat.le_of_ble_eq_true rfl, Nat.le_of_ble_eq_true rfl, Nat.le_of_ble_eq_true rfl, Nat.le_of_ble_eq_true rfl⟩ (Nat.le_of_ble_eq_true rfl) rfl dX6_lookAtRows_16 (fun r16 _ => ?_)
    refine r_if_eq (pc := 19) hE 38 dX6_lookAtRows_19 (by decide) (fun _ => ?_) (fun _ => ?_)
    · refine r_bipush (v := -2) (pc := 38) hE dX6_lookAtRows_38 (by decide) ?_
      exact r_iret (pc := 40) hE dX6_lookAtRows_40
    · refine r_aload_n (pc := 22) hE dX6_lookAtRows_22 rfl ?_
      refine r_getR (pc := 23) hE 6 0 (by decide) (by decide) (fun _ _ _ => rfl) fl_RX6_12 dX6_lookAtRows_23 (fun v23 _ => ?_)
      refine r_getR (pc := 26) hE 4 9 (by decide) (by decide) (fun _ _ _ => rfl) fl_RX6_113 dX6_lookAtRows_26 (fun v26 _ => ?_)
      refine r_iload_n (pc := 29) hE dX6_lookAtRows_29 rfl ?_
      refine r_sipush (v := 200) (pc := 30) hE dX6_lookAtRows_30 (by decide) ?_
      refine r_isub (pc := 33) hE dX6_lookAtRows_33 ?_
      refine r_aldI (pc := 34) hE dX6_lookAtRows_34 (fun v34 _ => ?_)
      refine r_goto (pc := 35) hE 40 dX6_lookAtRows_35 (by decide) ?_
      exact r_iret (pc := 40) hE dX6_lookAtRows_40
theorem k_X6_lookAtRows {fu : Nat} {x0 : Nat} {x1 : Int32} {h : Hp} {out : Int32 × Hp} (ho : f_X6_lookAtRows fu x0 x1 h = some out) : h.K x0 = 6 := (gi_k ho).1
theorem cs_RX6_109 : csV RX6 109 yX6_lookAtRows cX6_lookAtRows 2 (some .int) 1 = true := by decide +kernel
theorem fl_RX6_85 : Cond.fieldLink RX6 85 (TF 4 0).1 (TF 4 0).2.1 (TF 4 0).2.2.1 ∈ TB := tb_in (by decide +kernel) rfl
theorem fl_RX6_88 : Cond.fieldLink RX6 88 (TF 4 1).1 (TF 4 1).2.1 (TF 4 1).2.2.1 ∈ TB := tb_in (by decide +kernel) rfl
theorem cs_RX6_91 : csS RX6 91 yJ13_bitCount_95d88 cJ13_bitCount_95d88 2 (some .int) 1 = true := by decide +kernel
theorem fl_RX6_97 : Cond.fieldLink RX6 97 (TF 4 5).1 (TF 4 5).2.1 (TF 4 5).2.2.1 ∈ TB := tb_in (by decide +kernel) rfl
theorem fl_RX6_100 : Cond.fieldLink RX6 100 (TF 0 0).1 (TF 0 0).2.1 (TF 0 0).2.2.1 ∈ TB := tb_in (by decide +kernel) rfl
theorem fl_RX6_103 : Cond.fieldLink RX6 103 (TF 4 6).1 (TF 4 6).2.1 (TF 4 6).2.2.1 ∈ TB := tb_in (by decide +kernel) rfl
theorem fl_RX6_106 : Cond.fieldLink RX6 106 (TF 4 7).1 (TF 4 7).2.1 (TF 4 7).2.2.1 ∈ TB := tb_in (by decide +kernel) rfl
def rm_X6_look : Room := { frames := 2, cells := 0, slots := 0, locals := 42 }
def f_X6_look (fu : Nat) (x0 : Nat) (x1 : Int32) (h : Hp) : Option (Int32 × Hp) :=
  if h.K x0 = 6 then
    swt x1 0 [
      (gR h 6 x0 0).bind fun v53 =>
      (gI h 4 v53 0).bind fun v56 =>
      some (v56, h)
    ,
      (gR h 6 x0 0).bind fun v61 =>
      (gI h 4 v61 1).bind fun v64 =>
      some (v64, h)
    ,
      (gI h 6 x0 5).bind fun v69 =>
      some (v69, h)
    ,
      (gJ h 6 x0 4).bind fun v74 =>
      (f_J13_bitCount_95d88 fu v74 h).bind fun r77 =>
      some (r77.1, r77.2)
    ,
      (gJ h 6 x0 4).bind fun v82 =>
      (gR h 6 x0 0).bind fun v86 =>
      (gJ h 4 v86 5).bind fun v89 =>
      (f_J13_bitCount_95d88 fu (v82 &&& v89) h).bind fun r93 =>
      some (r93.1, r93.2)
    ,
      (gI h 6 x0 6).bind fun v98 =>
      some (v98, h)
    ,
      (gR h 6 x0 2).bind fun v103 =>
      (gI h 0 v103 0).bind fun v106 =>
      some (v106, h)
    ,
      (gR h 6 x0 0).bind fun v111 =>
      (gI h 4 v111 6).bind fun v114 =>
      some (v114, h)
    ,
      (gR h 6 x0 0).bind fun v119 =>
      (gI h 4 v119 7).bind fun v122 =>
      some (v122, h)
    ] (
      (f_X6_lookAtRows fu x0 x1 h).bind fun r128 =>
      some (r128.1, r128.2)
    )
  else none
set_option maxHeartbeats 4000000 in
set_option maxRecDepth 100000 in
theorem c_X6_look (l : Launch) (D : Dx) (fu : Nat) (x0 : Nat) (x1 : Int32) (h : Hp) (out : Int32 × Hp) (ho : f_X6_look fu x0 x1 h = some out) : Ct l D yX6_look cX6_look 2 (some .int) rm_X6_look [.ref x0, .int x1] h (evI out.1) out.2 := by
  refine Ct.of (o := f_X6_look fu x0 x1 h) (lv := [some (.ref x0), some (.int x1)]) (by decide) (Nat.le_of_ble_eq_true rfl) rfl ?_ out ho
  intro X hXl hE hin
  replace hE : En X D cX6_look 2 RX6 (some .int) rm_X6_look := hE
  subst hXl
  unfold f_X6_look
  refine Wo_grd (fun _ => ?_)
  refine r_iload_n (pc := 0) hE dX6_look_0 rfl ?_
  refine r_tsw (pc := 1) hE 126 dX6_look_1 (by decide) (by decide) ⟨⟨52, by decide, ?_⟩, ⟨⟨60, by decide, ?_⟩, ⟨⟨68, by decide, ?_⟩, ⟨⟨73, by decide, ?_⟩, ⟨⟨81, by decide, ?_⟩, ⟨⟨97, by decide, ?_⟩, ⟨⟨102, by decide, ?_⟩, ⟨⟨110, by decide, ?_⟩, ⟨⟨118, by decide, ?_⟩, trivial⟩⟩⟩⟩⟩⟩⟩⟩⟩ ?_
  · refine r_aload_n (pc := 52) hE dX6_look_52 rfl ?_
    refine r_getR (pc := 53) hE 6 0 (by decide) (by decide) (fun _ _ _ => rfl) fl_RX6_12 dX6_look_53 (fun v53 _ => ?_)
    refine r_getI (pc := 56) hE 4 0 (by decide) (by decide) (fun _ _ _ => rfl) fl_RX6_85 dX6_look_56 (fun v56 _ => ?_)
    exact r_iret (pc := 59) hE dX6_look_59
  · refine r_aload_n (pc := 60) hE dX6_look_60 rfl ?_
    refine r_getR (pc := 61) hE 6 0 (by decide) (by decide) (fun _ _ _ => rfl) fl_RX6_12 dX6_look_61 (fun v61 _ => ?_)
    refine r_getI (pc := 64) hE 4 1 (by decide) (by decide) (fun _ _ _ => rfl) fl_RX6_88 dX6_look_64 (fun v64 _ => ?_)
    exact r_iret (pc := 67) hE dX6_look_67
  · refine r_aload_n (pc := 68) hE dX6_look_68 rfl ?_
    refine r_getI (pc := 69) hE 6 5 (by decide) (by decide) (fun _ _ _ => rfl) fl_RX6_52 dX6_look_69 (fun v69 _ => ?_)
    exact r_iret (pc := 72) hE dX6_look_72
  · refine r_aload_n (pc := 73) hE dX6_look_73 rfl ?_
    refine r_getJ (pc := 74) hE 6 4 (by decide) (by decide) (fun _ _ _ => rfl) fl_RX6_49 dX6_look_74 (fun v74 _ => ?_)
    refine r_callS (pc := 77) hE (As := [.long v74]) (fun out ho => c_J13_bitCount_95d88 _ _ fu _ _ out ho) cs_RX6_91 ⟨Nat.le_of_ble_eq_true rfl, Nat.le_of_ble_eq_true rfl, Nat.le_of_ble_eq_true rfl, Nat.le_of_ble_eq_true rfl⟩ (Nat.le_of_ble_eq_true rfl) rfl dX6_look_77 (fun r77 _ => ?_)
    exact r_iret (pc := 80) hE dX6_look_80
  · refine r_aload_n (pc := 81) hE dX6_look_81 rfl ?_
    refine r_getJ (pc := 82) hE 6 4 (by decide) (by decide) (fun _ _ _ => rfl) fl_RX6_49 dX6_look_82 (fun v82 _ => ?_)
    refine r_aload_n (pc := 85) hE dX6_look_85 rfl ?_
    refine r_getR (pc := 86) hE 6 0 (by decide) (by decide) (fun _ _ _ => rfl) fl_RX6_12 dX6_look_86 (fun v86 _ => ?_)
    refine r_getJ (pc := 89) hE 4 5 (by decide) (by decide) (fun _ _ _ => rfl) fl_RX6_97 dX6_look_89 (fun v89 _ => ?_)
    refine r_land (pc := 92) hE dX6_look_92 ?_
    refine r_callS (pc := 93) hE (As := [.long (v82 &&& v89)]) (fun out ho => c_J13_bitCount_95d88 _ _ fu _ _ out ho) cs_RX6_91 ⟨Nat.le_of_ble_eq_true rfl, Nat.le_of_ble_eq_true rfl, Nat.le_of_ble_eq_true rfl, Nat.le_of_ble_eq_true rfl⟩ (Nat.le_of_ble_eq_true rfl) rfl dX6_look_93 (fun r93 _ => ?_)
    exact r_iret (pc := 96) hE dX6_look_96
  · refine r_aload_n (pc := 97) hE dX6_look_97 rfl ?_
    refine r_getI (pc := 98) hE 6 6 (by decide) (by decide) (fun _ _ _ => rfl) fl_RX6_56 dX6_look_98 (fun v98 _ => ?_)
    exact r_iret (pc := 101) hE dX6_look_101
  · refine r_aload_n (pc := 102) hE dX6_look_102 rfl ?_
    refine r_getR (pc := 103) hE 6 2 (by decide) (by decide) (fun _ _ _ => rfl) fl_RX6_26 dX6_look_103 (fun v103 _ => ?_)
    refine r_getI (pc := 106) hE 0 0 (by decide) (by decide) (fun _ _ _ => rfl) fl_RX6_100 dX6_look_106 (fun v106 _ => ?_)
    exact r_iret (pc := 109) hE dX6_look_109
  · refine r_aload_n (pc := 110) hE dX6_look_110 rfl ?_
    refine r_getR (pc := 111) hE 6 0 (by decide) (by decide) (fun _ _ _ => rfl) fl_RX6_12 dX6_look_111 (fun v111 _ => ?_)
    refine r_getI (pc := 114) hE 4 6 (by decide) (by decide) (fun _ _ _ => rfl) fl_RX6_103 dX6_look_114 (fun v114 _ => ?_)
    exact r_iret (pc := 117) hE dX6_look_117
  · refine r_aload_n (pc := 118) hE dX6_look_118 rfl ?_
    refine r_getR (pc := 119) hE 6 0 (by decide) (by decide) (fun _ _ _ => rfl) fl_RX6_12 dX6_look_119 (fun v119 _ => ?_)
    refine r_getI (pc := 122) hE 4 7 (by decide) (by decide) (fun _ _ _ => rfl) fl_RX6_106 dX6_look_122 (fun v122 _ => ?_)
    exact r_iret (pc := 125) hE dX6_look_125
  · refine r_aload_n (pc := 126) hE dX6_look_126 rfl ?_
    refine r_iload_n (pc := 127) hE dX6_look_127 rfl ?_
    refine r_callV (pc := 128) hE 6 (As := [.int x1]) (fun out ho => c_X6_lookAtRows _ _ fu _ _ _ out ho) (fun out ho => k_X6_lookAtRows ho) (by decide) rfl cs_RX6_109 ⟨Nat.le_of_ble_eq_true rfl, Nat.le_of_ble_eq_true rfl, Nat.le_of_ble_eq_true rfl, Nat.le_of_ble_eq_true rfl⟩ (Nat.le_of_ble_eq_true rfl) rfl dX6_look_128 (fun r128 _ => ?_)
    exact r_iret (pc := 131) hE dX6_look_131
theorem k_X6_look {fu : Nat} {x0 : Nat} {x1 : Int32} {h : Hp} {out : Int32 × Hp} (ho : f_X6_look fu x0 x1 h = some out) : h.K x0 = 6 := (gi_k ho).1
def rm_X6_reckoned : Room := { frames := 0, cells := 0, slots := 0, locals := 0 }
def f_X6_reckoned (fu : Nat) (x0 : Nat) (h : Hp) : Option (Int64 × Hp) :=
  if h.K x0 = 6 then
    (gJ h 6 x0 4).bind fun v1 =>
    some (v1, h)
  else none
set_option maxHeartbeats 4000000 in
set_option maxRecDepth 100000 in
theorem c_X6_reckoned (l : Launch) (D : Dx) (fu : Nat) (x0 : Nat) (h : Hp) (out : Int64 × Hp) (ho : f_X6_reckoned fu x0 h = some out) : Ct l D yX6_reckoned cX6_reckoned 1 (some .long) rm_X6_reckoned [.ref x0] h (evJ out.1) out.2 := by
  refine Ct.of (o := f_X6_reckoned fu x0 h) (lv := [some (.ref x0)]) (by decide) (Nat.le_of_ble_eq_true rfl) rfl ?_ out ho
  intro X hXl hE hin
  replace hE : En X D cX6_reckoned 1 RX6 (some .long) rm_X6_reckoned := hE
  subst hXl
  unfold f_X6_reckoned
  refine Wo_grd (fun _ => ?_)
  refine r_aload_n (pc := 0) hE dX6_reckoned_0 rfl ?_
  refine r_getJ (pc := 1) hE 6 4 (by decide) (by decide) (fun _ _ _ => rfl) fl_RX6_49 dX6_reckoned_1 (fun v1 _ => ?_)
  exact r_lret (pc := 4) hE dX6_reckoned_4
theorem k_X6_reckoned {fu : Nat} {x0 : Nat} {h : Hp} {out : Int64 × Hp} (ho : f_X6_reckoned fu x0 h = some out) : h.K x0 = 6 := (gi_k ho).1
theorem ct_RX6_123 : Cond.constantLong RX6 123 (-1) ∈ TB := tb_in (by decide +kernel) rfl
def rm_X6_begin : Room := { frames := 1, cells := 0, slots := 0, locals := 22 }
def f_X6_begin (fu : Nat) (x0 : Nat) (x1 : Int64) (h : Hp) : Option (Int32 × Hp) :=
  if h.K x0 = 6 then
    if (lg_cmp x1 0) = 0 then
      some (0, h)
    else
      (gR h 6 x0 0).bind fun v8 =>
      (gJ h 4 v8 4).bind fun v11 =>
      if (lg_cmp (x1 &&& (v11 ^^^ (-1))) 0) = 0 then
        (f_X6_startWith fu x0 x1 h).bind fun r28 =>
        some (1, r28.2)
      else
        some (0, h)
  else none
set_option maxHeartbeats 4000000 in
set_option maxRecDepth 100000 in
theorem c_X6_begin (l : Launch) (D : Dx) (fu : Nat) (x0 : Nat) (x1 : Int64) (h : Hp) (out : Int32 × Hp) (ho : f_X6_begin fu x0 x1 h = some out) : Ct l D yX6_begin cX6_begin 3 (some .boolean) rm_X6_begin [.ref x0, .long x1] h (evI out.1) out.2 := by
  refine Ct.of (o := f_X6_begin fu x0 x1 h) (lv := [some (.ref x0), some (.long x1), none]) (by decide) (Nat.le_of_ble_eq_true rfl) rfl ?_ out ho
  intro X hXl hE hin
  replace hE : En X D cX6_begin 3 RX6 (some .boolean) rm_X6_begin := hE
  subst hXl
  unfold f_X6_begin
  refine Wo_grd (fun _ => ?_)
  refine r_lload_n (pc := 0) hE dX6_begin_0 rfl ?_
  refine r_lconst (v := 0) (pc := 1) hE dX6_begin_1 rfl ?_
  refine r_lcmp (pc := 2) hE dX6_begin_2 ?_
  refine r_if_eq (pc := 3) hE 24 dX6_begin_3 (by decide) (fun _ => ?_) (fun _ => ?_)
  · refine r_iconst (v := 0) (pc := 24) hE dX6_begin_24 (by decide) ?_
    exact r_zret (pc := 25) hE (by decide) dX6_begin_25
  · refine r_lload_n (pc := 6) hE dX6_begin_6 rfl ?_
    refine r_aload_n (pc := 7) hE dX6_begin_7 rfl ?_
    refine r_getR (pc := 8) hE 6 0 (by decide) (by decide) (fun _ _ _ => rfl) fl_RX6_12 dX6_begin_8 (fun v8 _ => ?_)
    refine r_getJ (pc := 11) hE 4 4 (by decide) (by decide) (fun _ _ _ => rfl) fl_RX6_45 dX6_begin_11 (fun v11 _ => ?_)
    refine r_ldc2 (v := -1) (pc := 14) hE ct_RX6_123 dX6_begin_14 ?_
    refine r_lxor (pc := 17) hE dX6_begin_17 ?_
    refine r_land (pc := 18) hE dX6_begin_18 ?_
    refine r_lconst (v := 0) (pc := 19) hE dX6_begin_19 rfl ?_
    refine r_lcmp (pc := 20) hE dX6_begin_20 ?_
    refine r_if_eq (pc := 21) hE 26 dX6_begin_21 (by decide) (fun _ => ?_) (fun _ => ?_)
    · refine r_aload_n (pc := 26) hE dX6_begin_26 rfl ?_
      refine r_lload_n (pc := 27) hE dX6_begin_27 rfl ?_
      refine r_callV (pc := 28) hE 6 (As := [.long x1]) (fun out ho => c_X6_startWith _ _ fu _ _ _ out ho) (fun out ho => k_X6_startWith ho) (by decide) rfl cs_RX6_59 ⟨Nat.le_of_ble_eq_true rfl, Nat.le_of_ble_eq_true rfl, Nat.le_of_ble_eq_true rfl, Nat.le_of_ble_eq_true rfl⟩ (Nat.le_of_ble_eq_true rfl) rfl dX6_begin_28 (fun r28 _ => ?_)
      refine r_iconst (v := 1) (pc := 31) hE dX6_begin_31 (by decide) ?_
      exact r_zret (pc := 32) hE (by decide) dX6_begin_32
    · refine r_iconst (v := 0) (pc := 24) hE dX6_begin_24 (by decide) ?_
      exact r_zret (pc := 25) hE (by decide) dX6_begin_25
theorem k_X6_begin {fu : Nat} {x0 : Nat} {x1 : Int64} {h : Hp} {out : Int32 × Hp} (ho : f_X6_begin fu x0 x1 h = some out) : h.K x0 = 6 := (gi_k ho).1
theorem cs_RX6_125 : csS RX6 125 yX6_has cX6_has 3 (some .boolean) 2 = true := by decide +kernel
def rm_X6_put : Room := { frames := 1, cells := 0, slots := 0, locals := 22 }
def f_X6_put (fu : Nat) (x0 : Nat) (x1 : Int32) (h : Hp) : Option (Int32 × Hp) :=
  if h.K x0 = 6 then
    (gR h 6 x0 0).bind fun v1 =>
    (f_X4_hasCell fu v1 x1 h).bind fun r5 =>
    if r5.1 = 0 then
      some (0, r5.2)
    else
      (gJ r5.2 6 x0 4).bind fun v12 =>
      (f_X6_has fu v12 x1 r5.2).bind fun r16 =>
      if r16.1 = 0 then
        some (0, r16.2)
      else
        (pI r16.2 6 x0 6 x1).bind fun h26 =>
        some (1, h26)
  else none
set_option maxHeartbeats 4000000 in
set_option maxRecDepth 100000 in
theorem c_X6_put (l : Launch) (D : Dx) (fu : Nat) (x0 : Nat) (x1 : Int32) (h : Hp) (out : Int32 × Hp) (ho : f_X6_put fu x0 x1 h = some out) : Ct l D yX6_put cX6_put 2 (some .boolean) rm_X6_put [.ref x0, .int x1] h (evI out.1) out.2 := by
  refine Ct.of (o := f_X6_put fu x0 x1 h) (lv := [some (.ref x0), some (.int x1)]) (by decide) (Nat.le_of_ble_eq_true rfl) rfl ?_ out ho
  intro X hXl hE hin
  replace hE : En X D cX6_put 2 RX6 (some .boolean) rm_X6_put := hE
  subst hXl
  unfold f_X6_put
  refine Wo_grd (fun _ => ?_)
  refine r_aload_n (pc := 0) hE dX6_put_0 rfl ?_
  refine r_getR (pc := 1) hE 6 0 (by decide) (by decide) (fun _ _ _ => rfl) fl_RX6_12 dX6_put_1 (fun v1 _ => ?_)
  refine r_iload_n (pc := 4) hE dX6_put_4 rfl ?_
  refine r_callV (pc := 5) hE 4 (As := [.int x1]) (fun out ho => c_X4_hasCell _ _ fu _ _ _ out ho) (fun out ho => k_X4_hasCell ho) (by decide) rfl cs_RX6_63 ⟨Nat.le_of_ble_eq_true rfl, Nat.le_of_ble_eq_true rfl, Nat.le_of_ble_eq_true rfl, Nat.le_of_ble_eq_true rfl⟩ (Nat.le_of_ble_eq_true rfl) rfl dX6_put_5 (fun r5 _ => ?_)
  refine r_if_eq (pc := 8) hE 22 dX6_put_8 (by decide) (fun _ => ?_) (fun _ => ?_)
  · refine r_iconst (v := 0) (pc := 22) hE dX6_put_22 (by decide) ?_
    exact r_zret (pc := 23) hE (by decide) dX6_put_23
  · refine r_aload_n (pc := 11) hE dX6_put_11 rfl ?_
    refine r_getJ (pc := 12) hE 6 4 (by decide) (by decide) (fun _ _ _ => rfl) fl_RX6_49 dX6_put_12 (fun v12 _ => ?_)
    refine r_iload_n (pc := 15) hE dX6_put_15 rfl ?_
    refine r_callS (pc := 16) hE (As := [.long v12, .int x1]) (fun out ho => c_X6_has _ _ fu _ _ _ out ho) cs_RX6_125 ⟨Nat.le_of_ble_eq_true rfl, Nat.le_of_ble_eq_true rfl, Nat.le_of_ble_eq_true rfl, Nat.le_of_ble_eq_true rfl⟩ (Nat.le_of_ble_eq_true rfl) rfl dX6_put_16 (fun r16 _ => ?_)
    refine r_if_ne (pc := 19) hE 24 dX6_put_19 (by decide) (fun _ => ?_) (fun _ => ?_)
    · refine r_aload_n (pc := 24) hE dX6_put_24 rfl ?_
      refine r_iload_n (pc := 25) hE dX6_put_25 rfl ?_
      refine r_putI (pc := 26) hE 6 6 (by decide) (by decide) (fun _ _ _ => rfl) fl_RX6_56 rfl rfl rfl dX6_put_26 (fun h26 _ => ?_)
      refine r_iconst (v := 1) (pc := 29) hE dX6_put_29 (by decide) ?_
      exact r_zret (pc := 30) hE (by decide) dX6_put_30
    · refine r_iconst (v := 0) (pc := 22) hE dX6_put_22 (by decide) ?_
      exact r_zret (pc := 23) hE (by decide) dX6_put_23
theorem k_X6_put {fu : Nat} {x0 : Nat} {x1 : Int32} {h : Hp} {out : Int32 × Hp} (ho : f_X6_put fu x0 x1 h = some out) : h.K x0 = 6 := (gi_k ho).1
theorem cs_RX6_129 : csV RX6 129 yX6_watchNow cX6_watchNow 1 (some .int) 0 = true := by decide +kernel
theorem cs_RX6_133 : csS RX6 133 yX6_isWay cX6_isWay 1 (some .boolean) 1 = true := by decide +kernel
theorem cs_RX6_136 : csV RX6 136 yX4_driftsBy cX4_driftsBy 3 (some .boolean) 2 = true := by decide +kernel
theorem cs_RX6_140 : csV RX6 140 yX4_spread cX4_spread 9 none 1 = true := by decide +kernel
theorem cs_RX6_143 : csV RX6 143 yX4_spreadBy cX4_spreadBy 7 (some .long) 2 = true := by decide +kernel
theorem cs_RX6_147 : csV RX6 147 yX4_target cX4_target 6 (some .int) 3 = true := by decide +kernel
def rm_X6_steer : Room := { frames := 3, cells := 0, slots := 0, locals := 78 }
def f_X6_steer_115 (fu : Nat) (x0 : Nat) (h : Hp) : Option (Int32 × Hp) :=
  (gI h 6 x0 5).bind fun v117 =>
  (pI h 6 x0 5 (v117 + 1)).bind fun h122 =>
  (gJ h122 6 x0 4).bind fun v126 =>
  (f_J13_bitCount_95d88 fu v126 h122).bind fun r129 =>
  some (r129.1, r129.2)
set_option maxHeartbeats 4000000 in
set_option maxRecDepth 100000 in
theorem w_X6_steer_115 {X : Cx} {D : Dx} (hE : En X D cX6_steer 4 RX6 (some .int) rm_X6_steer) {fu : Nat} (x0 : Nat) (h : Hp) {lv : List (Option Value)} (hlv : lvLe [some (.ref x0), none, none, none] lv) : Wo X D 4 (Qr X D 0 0 evI) 0 0 (f_X6_steer_115 fu x0 h) 115 lv [] h := by
  refine Wo_sub hlv ?_
  unfold f_X6_steer_115
  refine r_aload_n (pc := 115) hE dX6_steer_115 rfl ?_
  refine r_dup (pc := 116) hE dX6_steer_116 rfl ?_
  refine r_getI (pc := 117) hE 6 5 (by decide) (by decide) (fun _ _ _ => rfl) fl_RX6_52 dX6_steer_117 (fun v117 _ => ?_)
  refine r_iconst (v := 1) (pc := 120) hE dX6_steer_120 (by decide) ?_
  refine r_iadd (pc := 121) hE dX6_steer_121 ?_
  refine r_putI (pc := 122) hE 6 5 (by decide) (by decide) (fun _ _ _ => rfl) fl_RX6_52 rfl rfl rfl dX6_steer_122 (fun h122 _ => ?_)
  refine r_aload_n (pc := 125) hE dX6_steer_125 rfl ?_
  refine r_getJ (pc := 126) hE 6 4 (by decide) (by decide) (fun _ _ _ => rfl) fl_RX6_49 dX6_steer_126 (fun v126 _ => ?_)
  refine r_callS (pc := 129) hE (As := [.long v126]) (fun out ho => c_J13_bitCount_95d88 _ _ fu _ _ out ho) cs_RX6_91 ⟨Nat.le_of_ble_eq_true rfl, Nat.le_of_ble_eq_true rfl, Nat.le_of_ble_eq_true rfl, Nat.le_of_ble_eq_true rfl⟩ (Nat.le_of_ble_eq_true rfl) rfl dX6_steer_129 (fun r129 _ => ?_)
  exact r_iret (pc := 132) hE dX6_steer_132
def f_X6_steer (fu : Nat) (x0 : Nat) (x1 : Int32) (x2 : Int32) (h : Hp) : Option (Int32 × Hp) :=
  if h.K x0 = 6 then
    (f_X6_watchNow fu x0 h).bind fun r1 =>
    (f_X6_isWay fu x1 r1.2).bind fun r6 =>
    if r6.1 = 0 then
      some ((-1), r6.2)
    else
      (f_X6_isWay fu x2 r6.2).bind fun r13 =>
      if r13.1 = 0 then
        some ((-1), r13.2)
      else
        (gR r13.2 6 x0 0).bind fun v20 =>
        (f_X4_driftsBy fu v20 r1.1 x2 r13.2).bind fun r25 =>
        if r25.1 = 0 then
          some ((-1), r25.2)
        else
          (gI r25.2 6 x0 5).bind fun v32 =>
          if v32 < 9999 then
            (gR r25.2 6 x0 0).bind fun v44 =>
            (gJ r25.2 6 x0 4).bind fun v48 =>
            (f_X4_spread fu v44 v48 r25.2).bind fun r51 =>
            (gR r51.2 6 x0 0).bind fun v56 =>
            (f_X4_spreadBy fu v56 x1 r1.1 r51.2).bind fun r61 =>
            (pJ r61.2 6 x0 4 r61.1).bind fun h64 =>
            (gR h64 6 x0 0).bind fun v68 =>
            (gI h64 6 x0 6).bind fun v72 =>
            (f_X4_hasCell fu v68 v72 h64).bind fun r75 =>
            if r75.1 = 0 then
              f_X6_steer_115 fu x0 r75.2
            else
              (gR r75.2 6 x0 0).bind fun v82 =>
              (gJ r75.2 4 v82 5).bind fun v85 =>
              (gI r75.2 6 x0 6).bind fun v89 =>
              (f_X6_has fu v85 v89 r75.2).bind fun r92 =>
              if r92.1 = 0 then
                (gR r92.2 6 x0 0).bind fun v100 =>
                (gI r92.2 6 x0 6).bind fun v104 =>
                (f_X4_target fu v100 v104 x1 x2 r92.2).bind fun r109 =>
                (pI r109.2 6 x0 6 r109.1).bind fun h112 =>
                f_X6_steer_115 fu x0 h112
              else
                f_X6_steer_115 fu x0 r92.2
          else
            some ((-1), r25.2)
  else none
set_option maxHeartbeats 4000000 in
set_option maxRecDepth 100000 in
theorem c_X6_steer (l : Launch) (D : Dx) (fu : Nat) (x0 : Nat) (x1 : Int32) (x2 : Int32) (h : Hp) (out : Int32 × Hp) (ho : f_X6_steer fu x0 x1 x2 h = some out) : Ct l D yX6_steer cX6_steer 4 (some .int) rm_X6_steer [.ref x0, .int x1, .int x2] h (evI out.1) out.2 := by
  refine Ct.of (o := f_X6_steer fu x0 x1 x2 h) (lv := [some (.ref x0), some (.int x1), some (.int x2), none]) (by decide) (Nat.le_of_ble_eq_true rfl) rfl ?_ out ho
  intro X hXl hE hin
  replace hE : En X D cX6_steer 4 RX6 (some .int) rm_X6_steer := hE
  subst hXl
  unfold f_X6_steer
  refine Wo_grd (fun _ => ?_)
  refine r_aload_n (pc := 0) hE dX6_steer_0 rfl ?_
  refine r_callV (pc := 1) hE 6 (As := []) (fun out ho => c_X6_watchNow _ _ fu _ _ out ho) (fun out ho => k_X6_watchNow ho) (by decide) rfl cs_RX6_129 ⟨Nat.le_of_ble_eq_true rfl, Nat.le_of_ble_eq_true rfl, Nat.le_of_ble_eq_true rfl, Nat.le_of_ble_eq_true rfl⟩ (Nat.le_of_ble_eq_true rfl) rfl dX6_steer_1 (fun r1 _ => ?_)
  refine r_istore_n (pc := 4) hE dX6_steer_4 (by decide) ?_
  refine r_iload_n (pc := 5) hE dX6_steer_5 rfl ?_
  refine r_callS (pc := 6) hE (As := [.int x1]) (fun out ho => c_X6_isWay _ _ fu _ _ out ho) cs_RX6_133 ⟨Nat.le_of_ble_eq_true rfl, Nat.le_of_ble_eq_true rfl, Nat.le_of_ble_eq_true rfl, Nat.le_of_ble_eq_true rfl⟩ (Nat.le_of_ble_eq_true rfl) rfl dX6_steer_6 (fun r6 _ => ?_)
  refine r_if_eq (pc := 9) hE 41 dX6_steer_9 (by decide) (fun _ => ?_) (fun _ => ?_)
  · refine r_iconst (v := -1) (pc := 41) hE dX6_steer_41 (by decide) ?_
    exact r_iret (pc := 42) hE dX6_steer_42
  · refine r_iload_n (pc := 12) hE dX6_steer_12 rfl ?_
    refine r_callS (pc := 13) hE (As := [.int x2]) (fun out ho => c_X6_isWay _ _ fu _ _ out ho) cs_RX6_133 ⟨Nat.le_of_ble_eq_true rfl, Nat.le_of_ble_eq_true rfl, Nat.le_of_ble_eq_true rfl, Nat.le_of_ble_eq_true rfl⟩ (Nat.le_of_ble_eq_true rfl) rfl dX6_steer_13 (fun r13 _ => ?_)
    refine r_if_eq (pc := 16) hE 41 dX6_steer_16 (by decide) (fun _ => ?_) (fun _ => ?_)
    · refine r_iconst (v := -1) (pc := 41) hE dX6_steer_41 (by decide) ?_
      exact r_iret (pc := 42) hE dX6_steer_42
    · refine r_aload_n (pc := 19) hE dX6_steer_19 rfl ?_
      refine r_getR (pc := 20) hE 6 0 (by decide) (by decide) (fun _ _ _ => rfl) fl_RX6_12 dX6_steer_20 (fun v20 _ => ?_)
      refine r_iload_n (pc := 23) hE dX6_steer_23 rfl ?_
      refine r_iload_n (pc := 24) hE dX6_steer_24 rfl ?_
      refine r_callV (pc := 25) hE 4 (As := [.int r1.1, .int x2]) (fun out ho => c_X4_driftsBy _ _ fu _ _ _ _ out ho) (fun out ho => k_X4_driftsBy ho) (by decide) rfl cs_RX6_136 ⟨Nat.le_of_ble_eq_true rfl, Nat.le_of_ble_eq_true rfl, Nat.le_of_ble_eq_true rfl, Nat.le_of_ble_eq_true rfl⟩ (Nat.le_of_ble_eq_true rfl) rfl dX6_steer_25 (fun r25 _ => ?_)
      refine r_if_eq (pc := 28) hE 41 dX6_steer_28 (by decide) (fun _ => ?_) (fun _ => ?_)
      · refine r_iconst (v := -1) (pc := 41) hE dX6_steer_41 (by decide) ?_
        exact r_iret (pc := 42) hE dX6_steer_42
      · refine r_aload_n (pc := 31) hE dX6_steer_31 rfl ?_
        refine r_getI (pc := 32) hE 6 5 (by decide) (by decide) (fun _ _ _ => rfl) fl_RX6_52 dX6_steer_32 (fun v32 _ => ?_)
        refine r_sipush (v := 9999) (pc := 35) hE dX6_steer_35 (by decide) ?_
        refine r_icmp_lt (pc := 38) hE 43 dX6_steer_38 (by decide) (fun _ => ?_) (fun _ => ?_)
        · refine r_aload_n (pc := 43) hE dX6_steer_43 rfl ?_
          refine r_getR (pc := 44) hE 6 0 (by decide) (by decide) (fun _ _ _ => rfl) fl_RX6_12 dX6_steer_44 (fun v44 _ => ?_)
          refine r_aload_n (pc := 47) hE dX6_steer_47 rfl ?_
          refine r_getJ (pc := 48) hE 6 4 (by decide) (by decide) (fun _ _ _ => rfl) fl_RX6_49 dX6_steer_48 (fun v48 _ => ?_)
          refine r_callV (pc := 51) hE 4 (As := [.long v48]) (fun out ho => c_X4_spread _ _ fu _ _ _ out ho) (fun out ho => k_X4_spread ho) (by decide) rfl cs_RX6_140 ⟨Nat.le_of_ble_eq_true rfl, Nat.le_of_ble_eq_true rfl, Nat.le_of_ble_eq_true rfl, Nat.le_of_ble_eq_true rfl⟩ (Nat.le_of_ble_eq_true rfl) rfl dX6_steer_51 (fun r51 _ => ?_)
          refine r_aload_n (pc := 54) hE dX6_steer_54 rfl ?_
          refine r_aload_n (pc := 55) hE dX6_steer_55 rfl ?_
          refine r_getR (pc := 56) hE 6 0 (by decide) (by decide) (fun _ _ _ => rfl) fl_RX6_12 dX6_steer_56 (fun v56 _ => ?_)
          refine r_iload_n (pc := 59) hE dX6_steer_59 rfl ?_
          refine r_iload_n (pc := 60) hE dX6_steer_60 rfl ?_
          refine r_callV (pc := 61) hE 4 (As := [.int x1, .int r1.1]) (fun out ho => c_X4_spreadBy _ _ fu _ _ _ _ out ho) (fun out ho => k_X4_spreadBy ho) (by decide) rfl cs_RX6_143 ⟨Nat.le_of_ble_eq_true rfl, Nat.le_of_ble_eq_true rfl, Nat.le_of_ble_eq_true rfl, Nat.le_of_ble_eq_true rfl⟩ (Nat.le_of_ble_eq_true rfl) rfl dX6_steer_61 (fun r61 _ => ?_)
          refine r_putJ (pc := 64) hE 6 4 (by decide) (by decide) (fun _ _ _ => rfl) fl_RX6_49 rfl rfl rfl dX6_steer_64 (fun h64 _ => ?_)
          refine r_aload_n (pc := 67) hE dX6_steer_67 rfl ?_
          refine r_getR (pc := 68) hE 6 0 (by decide) (by decide) (fun _ _ _ => rfl) fl_RX6_12 dX6_steer_68 (fun v68 _ => ?_)
          refine r_aload_n (pc := 71) hE dX6_steer_71 rfl ?_
          refine r_getI (pc := 72) hE 6 6 (by decide) (by decide) (fun _ _ _ => rfl) fl_RX6_56 dX6_steer_72 (fun v72 _ => ?_)
          refine r_callV (pc := 75) hE 4 (As := [.int v72]) (fun out ho => c_X4_hasCell _ _ fu _ _ _ out ho) (fun out ho => k_X4_hasCell ho) (by decide) rfl cs_RX6_63 ⟨Nat.le_of_ble_eq_true rfl, Nat.le_of_ble_eq_true rfl, Nat.le_of_ble_eq_true rfl, Nat.le_of_ble_eq_true rfl⟩ (Nat.le_of_ble_eq_true rfl) rfl dX6_steer_75 (fun r75 _ => ?_)
          refine r_if_eq (pc := 78) hE 115 dX6_steer_78 (by decide) (fun _ => ?_) (fun _ => ?_)
          · exact w_X6_steer_115 hE _ _ ⟨rfl, trivial⟩
          · refine r_aload_n (pc := 81) hE dX6_steer_81 rfl ?_
            refine r_getR (pc := 82) hE 6 0 (by decide) (by decide) (fun _ _ _ => rfl) fl_RX6_12 dX6_steer_82 (fun v82 _ => ?_)
            refine r_getJ (pc := 85) hE 4 5 (by decide) (by decide) (fun _ _ _ => rfl) fl_RX6_97 dX6_steer_85 (fun v85 _ => ?_)
            refine r_aload_n (pc := 88) hE dX6_steer_88 rfl ?_
            refine r_getI (pc := 89) hE 6 6 (by decide) (by decide) (fun _ _ _ => rfl) fl_RX6_56 dX6_steer_89 (fun v89 _ => ?_)
            refine r_callS (pc := 92) hE (As := [.long v85, .int v89]) (fun out ho => c_X6_has _ _ fu _ _ _ out ho) cs_RX6_125 ⟨Nat.le_of_ble_eq_true rfl, Nat.le_of_ble_eq_true rfl, Nat.le_of_ble_eq_true rfl, Nat.le_of_ble_eq_true rfl⟩ (Nat.le_of_ble_eq_true rfl) rfl dX6_steer_92 (fun r92 _ => ?_)
            refine r_if_ne (pc := 95) hE 115 dX6_steer_95 (by decide) (fun _ => ?_) (fun _ => ?_)
            · exact w_X6_steer_115 hE _ _ ⟨rfl, trivial⟩
            · refine r_aload_n (pc := 98) hE dX6_steer_98 rfl ?_
              refine r_aload_n (pc := 99) hE dX6_steer_99 rfl ?_
              refine r_getR (pc := 100) hE 6 0 (by decide) (by decide) (fun _ _ _ => rfl) fl_RX6_12 dX6_steer_100 (fun v100 _ => ?_)
              refine r_aload_n (pc := 103) hE dX6_steer_103 rfl ?_
              refine r_getI (pc := 104) hE 6 6 (by decide) (by decide) (fun _ _ _ => rfl) fl_RX6_56 dX6_steer_104 (fun v104 _ => ?_)
              refine r_iload_n (pc := 107) hE dX6_steer_107 rfl ?_
              refine r_iload_n (pc := 108) hE dX6_steer_108 rfl ?_
              refine r_callV (pc := 109) hE 4 (As := [.int v104, .int x1, .int x2]) (fun out ho => c_X4_target _ _ fu _ _ _ _ _ out ho) (fun out ho => k_X4_target ho) (by decide) rfl cs_RX6_147 ⟨Nat.le_of_ble_eq_true rfl, Nat.le_of_ble_eq_true rfl, Nat.le_of_ble_eq_true rfl, Nat.le_of_ble_eq_true rfl⟩ (Nat.le_of_ble_eq_true rfl) rfl dX6_steer_109 (fun r109 _ => ?_)
              refine r_putI (pc := 112) hE 6 6 (by decide) (by decide) (fun _ _ _ => rfl) fl_RX6_56 rfl rfl rfl dX6_steer_112 (fun h112 _ => ?_)
              exact w_X6_steer_115 hE _ _ ⟨rfl, trivial⟩
        · refine r_iconst (v := -1) (pc := 41) hE dX6_steer_41 (by decide) ?_
          exact r_iret (pc := 42) hE dX6_steer_42
theorem k_X6_steer {fu : Nat} {x0 : Nat} {x1 : Int32} {x2 : Int32} {h : Hp} {out : Int32 × Hp} (ho : f_X6_steer fu x0 x1 x2 h = some out) : h.K x0 = 6 := (gi_k ho).1
theorem cs_RX6_151 : csS RX6 151 yX6_isSign cX6_isSign 1 (some .boolean) 1 = true := by decide +kernel
theorem cs_RX6_154 : csV RX6 154 yX4_signAt cX4_signAt 4 (some .int) 3 = true := by decide +kernel
def rm_X6_sign : Room := { frames := 2, cells := 0, slots := 0, locals := 45 }
def f_X6_sign (fu : Nat) (x0 : Nat) (x1 : Int32) (x2 : Int32) (x3 : Int32) (h : Hp) : Option (Int32 × Hp) :=
  if h.K x0 = 6 then
    (gR h 6 x0 0).bind fun v1 =>
    (f_X4_hasCell fu v1 x1 h).bind fun r5 =>
    if r5.1 = 0 then
      some ((-2), r5.2)
    else
      (f_X6_isWatch fu x2 r5.2).bind fun r12 =>
      if r12.1 = 0 then
        some ((-2), r12.2)
      else
        (f_X6_isSign fu x3 r12.2).bind fun r19 =>
        if r19.1 = 0 then
          some ((-2), r19.2)
        else
          (gR r19.2 6 x0 0).bind fun v29 =>
          (f_X4_signAt fu v29 x1 x2 x3 r19.2).bind fun r35 =>
          some (r35.1, r35.2)
  else none
set_option maxHeartbeats 4000000 in
set_option maxRecDepth 100000 in
theorem c_X6_sign (l : Launch) (D : Dx) (fu : Nat) (x0 : Nat) (x1 : Int32) (x2 : Int32) (x3 : Int32) (h : Hp) (out : Int32 × Hp) (ho : f_X6_sign fu x0 x1 x2 x3 h = some out) : Ct l D yX6_sign cX6_sign 4 (some .int) rm_X6_sign [.ref x0, .int x1, .int x2, .int x3] h (evI out.1) out.2 := by
  refine Ct.of (o := f_X6_sign fu x0 x1 x2 x3 h) (lv := [some (.ref x0), some (.int x1), some (.int x2), some (.int x3)]) (by decide) (Nat.le_of_ble_eq_true rfl) rfl ?_ out ho
  intro X hXl hE hin
  replace hE : En X D cX6_sign 4 RX6 (some .int) rm_X6_sign := hE
  subst hXl
  unfold f_X6_sign
  refine Wo_grd (fun _ => ?_)
  refine r_aload_n (pc := 0) hE dX6_sign_0 rfl ?_
  refine r_getR (pc := 1) hE 6 0 (by decide) (by decide) (fun _ _ _ => rfl) fl_RX6_12 dX6_sign_1 (fun v1 _ => ?_)
  refine r_iload_n (pc := 4) hE dX6_sign_4 rfl ?_
  refine r_callV (pc := 5) hE 4 (As := [.int x1]) (fun out ho => c_X4_hasCell _ _ fu _ _ _ out ho) (fun out ho => k_X4_hasCell ho) (by decide) rfl cs_RX6_63 ⟨Nat.le_of_ble_eq_true rfl, Nat.le_of_ble_eq_true rfl, Nat.le_of_ble_eq_true rfl, Nat.le_of_ble_eq_true rfl⟩ (Nat.le_of_ble_eq_true rfl) rfl dX6_sign_5 (fun r5 _ => ?_)
  refine r_if_eq (pc := 8) hE 25 dX6_sign_8 (by decide) (fun _ => ?_) (fun _ => ?_)
  · refine r_bipush (v := -2) (pc := 25) hE dX6_sign_25 (by decide) ?_
    exact r_iret (pc := 27) hE dX6_sign_27
  · refine r_iload_n (pc := 11) hE dX6_sign_11 rfl ?_
    refine r_callS (pc := 12) hE (As := [.int x2]) (fun out ho => c_X6_isWatch _ _ fu _ _ out ho) cs_RX6_73 ⟨Nat.le_of_ble_eq_true rfl, Nat.le_of_ble_eq_true rfl, Nat.le_of_ble_eq_true rfl, Nat.le_of_ble_eq_true rfl⟩ (Nat.le_of_ble_eq_true rfl) rfl dX6_sign_12 (fun r12 _ => ?_)
    refine r_if_eq (pc := 15) hE 25 dX6_sign_15 (by decide) (fun _ => ?_) (fun _ => ?_)
    · refine r_bipush (v := -2) (pc := 25) hE dX6_sign_25 (by decide) ?_
      exact r_iret (pc := 27) hE dX6_sign_27
    · refine r_iload_n (pc := 18) hE dX6_sign_18 rfl ?_
      refine r_callS (pc := 19) hE (As := [.int x3]) (fun out ho => c_X6_isSign _ _ fu _ _ out ho) cs_RX6_151 ⟨Nat.le_of_ble_eq_true rfl, Nat.le_of_ble_eq_true rfl, Nat.le_of_ble_eq_true rfl, Nat.le_of_ble_eq_true rfl⟩ (Nat.le_of_ble_eq_true rfl) rfl dX6_sign_19 (fun r19 _ => ?_)
      refine r_if_ne (pc := 22) hE 28 dX6_sign_22 (by decide) (fun _ => ?_) (fun _ => ?_)
      · refine r_aload_n (pc := 28) hE dX6_sign_28 rfl ?_
        refine r_getR (pc := 29) hE 6 0 (by decide) (by decide) (fun _ _ _ => rfl) fl_RX6_12 dX6_sign_29 (fun v29 _ => ?_)
        refine r_iload_n (pc := 32) hE dX6_sign_32 rfl ?_
        refine r_iload_n (pc := 33) hE dX6_sign_33 rfl ?_
        refine r_iload_n (pc := 34) hE dX6_sign_34 rfl ?_
        refine r_callV (pc := 35) hE 4 (As := [.int x1, .int x2, .int x3]) (fun out ho => c_X4_signAt _ _ fu _ _ _ _ _ out ho) (fun out ho => k_X4_signAt ho) (by decide) rfl cs_RX6_154 ⟨Nat.le_of_ble_eq_true rfl, Nat.le_of_ble_eq_true rfl, Nat.le_of_ble_eq_true rfl, Nat.le_of_ble_eq_true rfl⟩ (Nat.le_of_ble_eq_true rfl) rfl dX6_sign_35 (fun r35 _ => ?_)
        exact r_iret (pc := 38) hE dX6_sign_38
      · refine r_bipush (v := -2) (pc := 25) hE dX6_sign_25 (by decide) ?_
        exact r_iret (pc := 27) hE dX6_sign_27
theorem k_X6_sign {fu : Nat} {x0 : Nat} {x1 : Int32} {x2 : Int32} {x3 : Int32} {h : Hp} {out : Int32 × Hp} (ho : f_X6_sign fu x0 x1 x2 x3 h = some out) : h.K x0 = 6 := (gi_k ho).1
theorem cs_RX6_157 : csV RX6 157 yX4_having cX4_having 7 (some .long) 3 = true := by decide +kernel
def rm_X6_see : Room := { frames := 3, cells := 0, slots := 0, locals := 71 }
def f_X6_see_61 (fu : Nat) (x0 : Nat) (x3 : Int64) (h : Hp) : Option (Int32 × Hp) :=
  (pJ h 6 x0 4 x3).bind fun h63 =>
  (gJ h63 6 x0 4).bind fun v67 =>
  (f_J13_bitCount_95d88 fu v67 h63).bind fun r70 =>
  some (r70.1, r70.2)
set_option maxHeartbeats 4000000 in
set_option maxRecDepth 100000 in
theorem w_X6_see_61 {X : Cx} {D : Dx} (hE : En X D cX6_see 5 RX6 (some .int) rm_X6_see) {fu : Nat} (x0 : Nat) (x3 : Int64) (h : Hp) {lv : List (Option Value)} (hlv : lvLe [some (.ref x0), none, none, some (.long x3), none] lv) : Wo X D 5 (Qr X D 0 0 evI) 0 0 (f_X6_see_61 fu x0 x3 h) 61 lv [] h := by
  refine Wo_sub hlv ?_
  unfold f_X6_see_61
  refine r_aload_n (pc := 61) hE dX6_see_61 rfl ?_
  refine r_lload_n (pc := 62) hE dX6_see_62 rfl ?_
  refine r_putJ (pc := 63) hE 6 4 (by decide) (by decide) (fun _ _ _ => rfl) fl_RX6_49 rfl rfl rfl dX6_see_63 (fun h63 _ => ?_)
  refine r_aload_n (pc := 66) hE dX6_see_66 rfl ?_
  refine r_getJ (pc := 67) hE 6 4 (by decide) (by decide) (fun _ _ _ => rfl) fl_RX6_49 dX6_see_67 (fun v67 _ => ?_)
  refine r_callS (pc := 70) hE (As := [.long v67]) (fun out ho => c_J13_bitCount_95d88 _ _ fu _ _ out ho) cs_RX6_91 ⟨Nat.le_of_ble_eq_true rfl, Nat.le_of_ble_eq_true rfl, Nat.le_of_ble_eq_true rfl, Nat.le_of_ble_eq_true rfl⟩ (Nat.le_of_ble_eq_true rfl) rfl dX6_see_70 (fun r70 _ => ?_)
  exact r_iret (pc := 73) hE dX6_see_73
def f_X6_see (fu : Nat) (x0 : Nat) (x1 : Int32) (x2 : Int32) (h : Hp) : Option (Int32 × Hp) :=
  if h.K x0 = 6 then
    (f_X6_isSign fu x1 h).bind fun r1 =>
    if r1.1 = 0 then
      some ((-1), r1.2)
    else
      (gJ r1.2 6 x0 4).bind fun v10 =>
      (gR r1.2 6 x0 0).bind fun v14 =>
      (f_X6_watchNow fu x0 r1.2).bind fun r20 =>
      (f_X4_having fu v14 x1 x2 r20.1 r20.2).bind fun r23 =>
      if (lg_cmp (v10 &&& r23.1) 0) = 0 then
        some ((-1), r23.2)
      else
        (gR r23.2 6 x0 0).bind fun v35 =>
        (gI r23.2 6 x0 6).bind fun v39 =>
        (f_X4_hasCell fu v35 v39 r23.2).bind fun r42 =>
        if r42.1 = 0 then
          f_X6_see_61 fu x0 ((v10 &&& r23.1)) r42.2
        else
          (gI r42.2 6 x0 6).bind fun v50 =>
          (f_X6_has fu (v10 &&& r23.1) v50 r42.2).bind fun r53 =>
          if r53.1 = 0 then
            some ((-1), r53.2)
          else
            f_X6_see_61 fu x0 ((v10 &&& r23.1)) r53.2
  else none
set_option maxHeartbeats 4000000 in
set_option maxRecDepth 100000 in
theorem c_X6_see (l : Launch) (D : Dx) (fu : Nat) (x0 : Nat) (x1 : Int32) (x2 : Int32) (h : Hp) (out : Int32 × Hp) (ho : f_X6_see fu x0 x1 x2 h = some out) : Ct l D yX6_see cX6_see 5 (some .int) rm_X6_see [.ref x0, .int x1, .int x2] h (evI out.1) out.2 := by
  refine Ct.of (o := f_X6_see fu x0 x1 x2 h) (lv := [some (.ref x0), some (.int x1), some (.int x2), none, none]) (by decide) (Nat.le_of_ble_eq_true rfl) rfl ?_ out ho
  intro X hXl hE hin
  replace hE : En X D cX6_see 5 RX6 (some .int) rm_X6_see := hE
  subst hXl
  unfold f_X6_see
  refine Wo_grd (fun _ => ?_)
  refine r_iload_n (pc := 0) hE dX6_see_0 rfl ?_
  refine r_callS (pc := 1) hE (As := [.int x1]) (fun out ho => c_X6_isSign _ _ fu _ _ out ho) cs_RX6_151 ⟨Nat.le_of_ble_eq_true rfl, Nat.le_of_ble_eq_true rfl, Nat.le_of_ble_eq_true rfl, Nat.le_of_ble_eq_true rfl⟩ (Nat.le_of_ble_eq_true rfl) rfl dX6_see_1 (fun r1 _ => ?_)
  refine r_if_ne (pc := 4) hE 9 dX6_see_4 (by decide) (fun _ => ?_) (fun _ => ?_)
  · refine r_aload_n (pc := 9) hE dX6_see_9 rfl ?_
    refine r_getJ (pc := 10) hE 6 4 (by decide) (by decide) (fun _ _ _ => rfl) fl_RX6_49 dX6_see_10 (fun v10 _ => ?_)
    refine r_aload_n (pc := 13) hE dX6_see_13 rfl ?_
    refine r_getR (pc := 14) hE 6 0 (by decide) (by decide) (fun _ _ _ => rfl) fl_RX6_12 dX6_see_14 (fun v14 _ => ?_)
    refine r_iload_n (pc := 17) hE dX6_see_17 rfl ?_
    refine r_iload_n (pc := 18) hE dX6_see_18 rfl ?_
    refine r_aload_n (pc := 19) hE dX6_see_19 rfl ?_
    refine r_callV (pc := 20) hE 6 (As := []) (fun out ho => c_X6_watchNow _ _ fu _ _ out ho) (fun out ho => k_X6_watchNow ho) (by decide) rfl cs_RX6_129 ⟨Nat.le_of_ble_eq_true rfl, Nat.le_of_ble_eq_true rfl, Nat.le_of_ble_eq_true rfl, Nat.le_of_ble_eq_true rfl⟩ (Nat.le_of_ble_eq_true rfl) rfl dX6_see_20 (fun r20 _ => ?_)
    refine r_callV (pc := 23) hE 4 (As := [.int x1, .int x2, .int r20.1]) (fun out ho => c_X4_having _ _ fu _ _ _ _ _ out ho) (fun out ho => k_X4_having ho) (by decide) rfl cs_RX6_157 ⟨Nat.le_of_ble_eq_true rfl, Nat.le_of_ble_eq_true rfl, Nat.le_of_ble_eq_true rfl, Nat.le_of_ble_eq_true rfl⟩ (Nat.le_of_ble_eq_true rfl) rfl dX6_see_23 (fun r23 _ => ?_)
    refine r_land (pc := 26) hE dX6_see_26 ?_
    refine r_lstore_n (pc := 27) hE dX6_see_27 (by decide) ?_
    refine r_lload_n (pc := 28) hE dX6_see_28 rfl ?_
    refine r_lconst (v := 0) (pc := 29) hE dX6_see_29 rfl ?_
    refine r_lcmp (pc := 30) hE dX6_see_30 ?_
    refine r_if_eq (pc := 31) hE 59 dX6_see_31 (by decide) (fun _ => ?_) (fun _ => ?_)
    · refine r_iconst (v := -1) (pc := 59) hE dX6_see_59 (by decide) ?_
      exact r_iret (pc := 60) hE dX6_see_60
    · refine r_aload_n (pc := 34) hE dX6_see_34 rfl ?_
      refine r_getR (pc := 35) hE 6 0 (by decide) (by decide) (fun _ _ _ => rfl) fl_RX6_12 dX6_see_35 (fun v35 _ => ?_)
      refine r_aload_n (pc := 38) hE dX6_see_38 rfl ?_
      refine r_getI (pc := 39) hE 6 6 (by decide) (by decide) (fun _ _ _ => rfl) fl_RX6_56 dX6_see_39 (fun v39 _ => ?_)
      refine r_callV (pc := 42) hE 4 (As := [.int v39]) (fun out ho => c_X4_hasCell _ _ fu _ _ _ out ho) (fun out ho => k_X4_hasCell ho) (by decide) rfl cs_RX6_63 ⟨Nat.le_of_ble_eq_true rfl, Nat.le_of_ble_eq_true rfl, Nat.le_of_ble_eq_true rfl, Nat.le_of_ble_eq_true rfl⟩ (Nat.le_of_ble_eq_true rfl) rfl dX6_see_42 (fun r42 _ => ?_)
      refine r_if_eq (pc := 45) hE 61 dX6_see_45 (by decide) (fun _ => ?_) (fun _ => ?_)
      · exact w_X6_see_61 hE _ _ _ ⟨rfl, ⟨rfl, trivial⟩⟩
      · refine r_lload_n (pc := 48) hE dX6_see_48 rfl ?_
        refine r_aload_n (pc := 49) hE dX6_see_49 rfl ?_
        refine r_getI (pc := 50) hE 6 6 (by decide) (by decide) (fun _ _ _ => rfl) fl_RX6_56 dX6_see_50 (fun v50 _ => ?_)
        refine r_callS (pc := 53) hE (As := [.long (v10 &&& r23.1), .int v50]) (fun out ho => c_X6_has _ _ fu _ _ _ out ho) cs_RX6_125 ⟨Nat.le_of_ble_eq_true rfl, Nat.le_of_ble_eq_true rfl, Nat.le_of_ble_eq_true rfl, Nat.le_of_ble_eq_true rfl⟩ (Nat.le_of_ble_eq_true rfl) rfl dX6_see_53 (fun r53 _ => ?_)
        refine r_if_ne (pc := 56) hE 61 dX6_see_56 (by decide) (fun _ => ?_) (fun _ => ?_)
        · exact w_X6_see_61 hE _ _ _ ⟨rfl, ⟨rfl, trivial⟩⟩
        · refine r_iconst (v := -1) (pc := 59) hE dX6_see_59 (by decide) ?_
          exact r_iret (pc := 60) hE dX6_see_60
  · refine r_iconst (v := -1) (pc := 7) hE dX6_see_7 (by decide) ?_
    exact r_iret (pc := 8) hE dX6_see_8
theorem k_X6_see {fu : Nat} {x0 : Nat} {x1 : Int32} {x2 : Int32} {h : Hp} {out : Int32 × Hp} (ho : f_X6_see fu x0 x1 x2 h = some out) : h.K x0 = 6 := (gi_k ho).1
def rm_X6_sights : Room := { frames := 3, cells := 0, slots := 0, locals := 71 }
def f_X6_sights_23 (fu : Nat) : Nat → Nat → Int32 → Int32 → Hp → Option (Int32 × Hp)
  | 0, _, _, _, _ => none
  | n + 1, x0, x1, x2, h =>
    if 2 < x2 then
      (gJ h 6 x0 4).bind fun v66 =>
      (f_J13_bitCount_95d88 fu v66 h).bind fun r69 =>
      some (r69.1, r69.2)
    else
      (gJ h 6 x0 4).bind fun v30 =>
      (gR h 6 x0 0).bind fun v34 =>
      (gR h 6 x0 0).bind fun v39 =>
      (gI h 6 x0 6).bind fun v43 =>
      (f_X4_signAt fu v39 v43 x1 x2 h).bind fun r48 =>
      (f_X4_having fu v34 x2 r48.1 x1 r48.2).bind fun r52 =>
      (pJ r52.2 6 x0 4 (v30 &&& r52.1)).bind fun h56 =>
      f_X6_sights_23 fu n x0 x1 ((x2 + 1)) h56
set_option maxHeartbeats 4000000 in
set_option maxRecDepth 100000 in
theorem w_X6_sights_23 {X : Cx} {D : Dx} (hE : En X D cX6_sights 3 RX6 (some .int) rm_X6_sights) {fu : Nat} : ∀ (n : Nat) (x0 : Nat) (x1 : Int32) (x2 : Int32) (h : Hp) (lv : List (Option Value)), lvLe [some (.ref x0), some (.int x1), some (.int x2)] lv → Wo X D 3 (Qr X D 0 0 evI) 0 0 (f_X6_sights_23 fu n x0 x1 x2 h) 23 lv [] h := by
  intro n
  induction n with
  | zero => intros; exact Wo_none
  | succ n ih =>
    intro x0 x1 x2 h lv hlv
    refine Wo_sub hlv ?_
    rw [f_X6_sights_23]
    refine r_iload_n (pc := 23) hE dX6_sights_23 rfl ?_
    refine r_iconst (v := 2) (pc := 24) hE dX6_sights_24 (by decide) ?_
    refine r_icmp_gt (pc := 25) hE 65 dX6_sights_25 (by decide) (fun _ => ?_) (fun _ => ?_)
    · refine r_aload_n (pc := 65) hE dX6_sights_65 rfl ?_
      refine r_getJ (pc := 66) hE 6 4 (by decide) (by decide) (fun _ _ _ => rfl) fl_RX6_49 dX6_sights_66 (fun v66 _ => ?_)
      refine r_callS (pc := 69) hE (As := [.long v66]) (fun out ho => c_J13_bitCount_95d88 _ _ fu _ _ out ho) cs_RX6_91 ⟨Nat.le_of_ble_eq_true rfl, Nat.le_of_ble_eq_true rfl, Nat.le_of_ble_eq_true rfl, Nat.le_of_ble_eq_true rfl⟩ (Nat.le_of_ble_eq_true rfl) rfl dX6_sights_69 (fun r69 _ => ?_)
      exact r_iret (pc := 72) hE dX6_sights_72
    · refine r_aload_n (pc := 28) hE dX6_sights_28 rfl ?_
      refine r_dup (pc := 29) hE dX6_sights_29 rfl ?_
      refine r_getJ (pc := 30) hE 6 4 (by decide) (by decide) (fun _ _ _ => rfl) fl_RX6_49 dX6_sights_30 (fun v30 _ => ?_)
      refine r_aload_n (pc := 33) hE dX6_sights_33 rfl ?_
      refine r_getR (pc := 34) hE 6 0 (by decide) (by decide) (fun _ _ _ => rfl) fl_RX6_12 dX6_sights_34 (fun v34 _ => ?_)
      refine r_iload_n (pc := 37) hE dX6_sights_37 rfl ?_
      refine r_aload_n (pc := 38) hE dX6_sights_38 rfl ?_
      refine r_getR (pc := 39) hE 6 0 (by decide) (by decide) (fun _ _ _ => rfl) fl_RX6_12 dX6_sights_39 (fun v39 _ => ?_)
      refine r_aload_n (pc := 42) hE dX6_sights_42 rfl ?_
      refine r_getI (pc := 43) hE 6 6 (by decide) (by decide) (fun _ _ _ => rfl) fl_RX6_56 dX6_sights_43 (fun v43 _ => ?_)
      refine r_iload_n (pc := 46) hE dX6_sights_46 rfl ?_
      refine r_iload_n (pc := 47) hE dX6_sights_47 rfl ?_
      refine r_callV (pc := 48) hE 4 (As := [.int v43, .int x1, .int x2]) (fun out ho => c_X4_signAt _ _ fu _ _ _ _ _ out ho) (fun out ho => k_X4_signAt ho) (by decide) rfl cs_RX6_154 ⟨Nat.le_of_ble_eq_true rfl, Nat.le_of_ble_eq_true rfl, Nat.le_of_ble_eq_true rfl, Nat.le_of_ble_eq_true rfl⟩ (Nat.le_of_ble_eq_true rfl) rfl dX6_sights_48 (fun r48 _ => ?_)
      refine r_iload_n (pc := 51) hE dX6_sights_51 rfl ?_
      refine r_callV (pc := 52) hE 4 (As := [.int x2, .int r48.1, .int x1]) (fun out ho => c_X4_having _ _ fu _ _ _ _ _ out ho) (fun out ho => k_X4_having ho) (by decide) rfl cs_RX6_157 ⟨Nat.le_of_ble_eq_true rfl, Nat.le_of_ble_eq_true rfl, Nat.le_of_ble_eq_true rfl, Nat.le_of_ble_eq_true rfl⟩ (Nat.le_of_ble_eq_true rfl) rfl dX6_sights_52 (fun r52 _ => ?_)
      refine r_land (pc := 55) hE dX6_sights_55 ?_
      refine r_putJ (pc := 56) hE 6 4 (by decide) (by decide) (fun _ _ _ => rfl) fl_RX6_49 rfl rfl rfl dX6_sights_56 (fun h56 _ => ?_)
      refine r_iinc (v := (x2 + 1)) (pc := 59) hE dX6_sights_59 rfl rfl (by decide) ?_
      refine r_goto (pc := 62) hE 23 dX6_sights_62 (by decide) ?_
      exact ih _ _ _ _ _ ⟨rfl, ⟨rfl, ⟨rfl, trivial⟩⟩⟩
def f_X6_sights (fu : Nat) (x0 : Nat) (h : Hp) : Option (Int32 × Hp) :=
  if h.K x0 = 6 then
    (gR h 6 x0 0).bind fun v1 =>
    (gI h 6 x0 6).bind fun v5 =>
    (f_X4_hasCell fu v1 v5 h).bind fun r8 =>
    if r8.1 = 0 then
      some ((-1), r8.2)
    else
      (f_X6_watchNow fu x0 r8.2).bind fun r17 =>
      f_X6_sights_23 fu fu x0 r17.1 0 r17.2
  else none
set_option maxHeartbeats 4000000 in
set_option maxRecDepth 100000 in
theorem c_X6_sights (l : Launch) (D : Dx) (fu : Nat) (x0 : Nat) (h : Hp) (out : Int32 × Hp) (ho : f_X6_sights fu x0 h = some out) : Ct l D yX6_sights cX6_sights 3 (some .int) rm_X6_sights [.ref x0] h (evI out.1) out.2 := by
  refine Ct.of (o := f_X6_sights fu x0 h) (lv := [some (.ref x0), none, none]) (by decide) (Nat.le_of_ble_eq_true rfl) rfl ?_ out ho
  intro X hXl hE hin
  replace hE : En X D cX6_sights 3 RX6 (some .int) rm_X6_sights := hE
  subst hXl
  unfold f_X6_sights
  refine Wo_grd (fun _ => ?_)
  refine r_aload_n (pc := 0) hE dX6_sights_0 rfl ?_
  refine r_getR (pc := 1) hE 6 0 (by decide) (by decide) (fun _ _ _ => rfl) fl_RX6_12 dX6_sights_1 (fun v1 _ => ?_)
  refine r_aload_n (pc := 4) hE dX6_sights_4 rfl ?_
  refine r_getI (pc := 5) hE 6 6 (by decide) (by decide) (fun _ _ _ => rfl) fl_RX6_56 dX6_sights_5 (fun v5 _ => ?_)
  refine r_callV (pc := 8) hE 4 (As := [.int v5]) (fun out ho => c_X4_hasCell _ _ fu _ _ _ out ho) (fun out ho => k_X4_hasCell ho) (by decide) rfl cs_RX6_63 ⟨Nat.le_of_ble_eq_true rfl, Nat.le_of_ble_eq_true rfl, Nat.le_of_ble_eq_true rfl, Nat.le_of_ble_eq_true rfl⟩ (Nat.le_of_ble_eq_true rfl) rfl dX6_sights_8 (fun r8 _ => ?_)
  refine r_if_ne (pc := 11) hE 16 dX6_sights_11 (by decide) (fun _ => ?_) (fun _ => ?_)
  · refine r_aload_n (pc := 16) hE dX6_sights_16 rfl ?_
    refine r_callV (pc := 17) hE 6 (As := []) (fun out ho => c_X6_watchNow _ _ fu _ _ out ho) (fun out ho => k_X6_watchNow ho) (by decide) rfl cs_RX6_129 ⟨Nat.le_of_ble_eq_true rfl, Nat.le_of_ble_eq_true rfl, Nat.le_of_ble_eq_true rfl, Nat.le_of_ble_eq_true rfl⟩ (Nat.le_of_ble_eq_true rfl) rfl dX6_sights_17 (fun r17 _ => ?_)
    refine r_istore_n (pc := 20) hE dX6_sights_20 (by decide) ?_
    refine r_iconst (v := 0) (pc := 21) hE dX6_sights_21 (by decide) ?_
    refine r_istore_n (pc := 22) hE dX6_sights_22 (by decide) ?_
    exact w_X6_sights_23 hE fu _ _ _ _ _ ⟨rfl, ⟨rfl, ⟨rfl, trivial⟩⟩⟩
  · refine r_iconst (v := -1) (pc := 14) hE dX6_sights_14 (by decide) ?_
    exact r_iret (pc := 15) hE dX6_sights_15
theorem k_X6_sights {fu : Nat} {x0 : Nat} {h : Hp} {out : Int32 × Hp} (ho : f_X6_sights fu x0 h = some out) : h.K x0 = 6 := (gi_k ho).1
theorem fl_RX6_161 : Cond.fieldLink RX6 161 (TF 3 0).1 (TF 3 0).2.1 (TF 3 0).2.2.1 ∈ TB := tb_in (by decide +kernel) rfl
theorem cs_RX6_164 : csV RX6 164 yX3_append cX3_append 3 none 1 = true := by decide +kernel
def rm_X6_feed : Room := { frames := 1, cells := 0, slots := 0, locals := 22 }
def f_X6_feed (fu : Nat) (x0 : Nat) (x1 : Int32) (x2 : Int32) (x3 : Int32) (x4 : Int32) (x5 : Int32) (h : Hp) : Option (Int32 × Hp) :=
  if h.K x0 = 6 then
    (gR h 6 x0 1).bind fun v1 =>
    (gI h 3 v1 0).bind fun v4 =>
    if (v4 + 20) ≤ 400 then
      (gR h 6 x0 1).bind fun v19 =>
      (f_X3_append fu v19 x1 h).bind fun r23 =>
      (gR r23.2 6 x0 1).bind fun v27 =>
      (f_X3_append fu v27 x2 r23.2).bind fun r31 =>
      (gR r31.2 6 x0 1).bind fun v35 =>
      (f_X3_append fu v35 x3 r31.2).bind fun r39 =>
      (gR r39.2 6 x0 1).bind fun v43 =>
      (f_X3_append fu v43 x4 r39.2).bind fun r48 =>
      (gR r48.2 6 x0 1).bind fun v52 =>
      (f_X3_append fu v52 x5 r48.2).bind fun r57 =>
      (gR r57.2 6 x0 1).bind fun v61 =>
      (gI r57.2 3 v61 0).bind fun v64 =>
      some (v64, r57.2)
    else
      some ((-1), h)
  else none
set_option maxHeartbeats 4000000 in
set_option maxRecDepth 100000 in
theorem c_X6_feed (l : Launch) (D : Dx) (fu : Nat) (x0 : Nat) (x1 : Int32) (x2 : Int32) (x3 : Int32) (x4 : Int32) (x5 : Int32) (h : Hp) (out : Int32 × Hp) (ho : f_X6_feed fu x0 x1 x2 x3 x4 x5 h = some out) : Ct l D yX6_feed cX6_feed 6 (some .int) rm_X6_feed [.ref x0, .int x1, .int x2, .int x3, .int x4, .int x5] h (evI out.1) out.2 := by
  refine Ct.of (o := f_X6_feed fu x0 x1 x2 x3 x4 x5 h) (lv := [some (.ref x0), some (.int x1), some (.int x2), some (.int x3), some (.int x4), some (.int x5)]) (by decide) (Nat.le_of_ble_eq_true rfl) rfl ?_ out ho
  intro X hXl hE hin
  replace hE : En X D cX6_feed 6 RX6 (some .int) rm_X6_feed := hE
  subst hXl
  unfold f_X6_feed
  refine Wo_grd (fun _ => ?_)
  refine r_aload_n (pc := 0) hE dX6_feed_0 rfl ?_
  refine r_getR (pc := 1) hE 6 1 (by decide) (by decide) (fun _ _ _ => rfl) fl_RX6_19 dX6_feed_1 (fun v1 _ => ?_)
  refine r_getI (pc := 4) hE 3 0 (by decide) (by decide) (fun _ _ _ => rfl) fl_RX6_161 dX6_feed_4 (fun v4 _ => ?_)
  refine r_bipush (v := 20) (pc := 7) hE dX6_feed_7 (by decide) ?_
  refine r_iadd (pc := 9) hE dX6_feed_9 ?_
  refine r_sipush (v := 400) (pc := 10) hE dX6_feed_10 (by decide) ?_
  refine r_icmp_le (pc := 13) hE 18 dX6_feed_13 (by decide) (fun _ => ?_) (fun _ => ?_)
  · refine r_aload_n (pc := 18) hE dX6_feed_18 rfl ?_
    refine r_getR (pc := 19) hE 6 1 (by decide) (by decide) (fun _ _ _ => rfl) fl_RX6_19 dX6_feed_19 (fun v19 _ => ?_)
    refine r_iload_n (pc := 22) hE dX6_feed_22 rfl ?_
    refine r_callV (pc := 23) hE 3 (As := [.int x1]) (fun out ho => c_X3_append _ _ fu _ _ _ out ho) (fun out ho => k_X3_append ho) (by decide) rfl cs_RX6_164 ⟨Nat.le_of_ble_eq_true rfl, Nat.le_of_ble_eq_true rfl, Nat.le_of_ble_eq_true rfl, Nat.le_of_ble_eq_true rfl⟩ (Nat.le_of_ble_eq_true rfl) rfl dX6_feed_23 (fun r23 _ => ?_)
    refine r_aload_n (pc := 26) hE dX6_feed_26 rfl ?_
    refine r_getR (pc := 27) hE 6 1 (by decide) (by decide) (fun _ _ _ => rfl) fl_RX6_19 dX6_feed_27 (fun v27 _ => ?_)
    refine r_iload_n (pc := 30) hE dX6_feed_30 rfl ?_
    refine r_callV (pc := 31) hE 3 (As := [.int x2]) (fun out ho => c_X3_append _ _ fu _ _ _ out ho) (fun out ho => k_X3_append ho) (by decide) rfl cs_RX6_164 ⟨Nat.le_of_ble_eq_true rfl, Nat.le_of_ble_eq_true rfl, Nat.le_of_ble_eq_true rfl, Nat.le_of_ble_eq_true rfl⟩ (Nat.le_of_ble_eq_true rfl) rfl dX6_feed_31 (fun r31 _ => ?_)
    refine r_aload_n (pc := 34) hE dX6_feed_34 rfl ?_
    refine r_getR (pc := 35) hE 6 1 (by decide) (by decide) (fun _ _ _ => rfl) fl_RX6_19 dX6_feed_35 (fun v35 _ => ?_)
    refine r_iload_n (pc := 38) hE dX6_feed_38 rfl ?_
    refine r_callV (pc := 39) hE 3 (As := [.int x3]) (fun out ho => c_X3_append _ _ fu _ _ _ out ho) (fun out ho => k_X3_append ho) (by decide) rfl cs_RX6_164 ⟨Nat.le_of_ble_eq_true rfl, Nat.le_of_ble_eq_true rfl, Nat.le_of_ble_eq_true rfl, Nat.le_of_ble_eq_true rfl⟩ (Nat.le_of_ble_eq_true rfl) rfl dX6_feed_39 (fun r39 _ => ?_)
    refine r_aload_n (pc := 42) hE dX6_feed_42 rfl ?_
    refine r_getR (pc := 43) hE 6 1 (by decide) (by decide) (fun _ _ _ => rfl) fl_RX6_19 dX6_feed_43 (fun v43 _ => ?_)
    refine r_iload (pc := 46) hE dX6_feed_46 rfl ?_
    refine r_callV (pc := 48) hE 3 (As := [.int x4]) (fun out ho => c_X3_append _ _ fu _ _ _ out ho) (fun out ho => k_X3_append ho) (by decide) rfl cs_RX6_164 ⟨Nat.le_of_ble_eq_true rfl, Nat.le_of_ble_eq_true rfl, Nat.le_of_ble_eq_true rfl, Nat.le_of_ble_eq_true rfl⟩ (Nat.le_of_ble_eq_true rfl) rfl dX6_feed_48 (fun r48 _ => ?_)
    refine r_aload_n (pc := 51) hE dX6_feed_51 rfl ?_
    refine r_getR (pc := 52) hE 6 1 (by decide) (by decide) (fun _ _ _ => rfl) fl_RX6_19 dX6_feed_52 (fun v52 _ => ?_)
    refine r_iload (pc := 55) hE dX6_feed_55 rfl ?_
    refine r_callV (pc := 57) hE 3 (As := [.int x5]) (fun out ho => c_X3_append _ _ fu _ _ _ out ho) (fun out ho => k_X3_append ho) (by decide) rfl cs_RX6_164 ⟨Nat.le_of_ble_eq_true rfl, Nat.le_of_ble_eq_true rfl, Nat.le_of_ble_eq_true rfl, Nat.le_of_ble_eq_true rfl⟩ (Nat.le_of_ble_eq_true rfl) rfl dX6_feed_57 (fun r57 _ => ?_)
    refine r_aload_n (pc := 60) hE dX6_feed_60 rfl ?_
    refine r_getR (pc := 61) hE 6 1 (by decide) (by decide) (fun _ _ _ => rfl) fl_RX6_19 dX6_feed_61 (fun v61 _ => ?_)
    refine r_getI (pc := 64) hE 3 0 (by decide) (by decide) (fun _ _ _ => rfl) fl_RX6_161 dX6_feed_64 (fun v64 _ => ?_)
    exact r_iret (pc := 67) hE dX6_feed_67
  · refine r_iconst (v := -1) (pc := 16) hE dX6_feed_16 (by decide) ?_
    exact r_iret (pc := 17) hE dX6_feed_17
theorem k_X6_feed {fu : Nat} {x0 : Nat} {x1 : Int32} {x2 : Int32} {x3 : Int32} {x4 : Int32} {x5 : Int32} {h : Hp} {out : Int32 × Hp} (ho : f_X6_feed fu x0 x1 x2 x3 x4 x5 h = some out) : h.K x0 = 6 := (gi_k ho).1
def rm_X6_end : Room := { frames := 0, cells := 0, slots := 0, locals := 0 }
def f_X6_end (fu : Nat) (x0 : Nat) (x1 : Int32) (h : Hp) : Option (Int32 × Hp) :=
  if h.K x0 = 6 then
    if x1 < 0 then
      some ((-1), h)
    else
      (gR h 6 x0 1).bind fun v6 =>
      (gI h 3 v6 0).bind fun v9 =>
      if x1 ≤ v9 then
        (gR h 6 x0 1).bind fun v18 =>
        (pI h 3 v18 0 x1).bind fun h22 =>
        some (x1, h22)
      else
        some ((-1), h)
  else none
set_option maxHeartbeats 4000000 in
set_option maxRecDepth 100000 in
theorem c_X6_end (l : Launch) (D : Dx) (fu : Nat) (x0 : Nat) (x1 : Int32) (h : Hp) (out : Int32 × Hp) (ho : f_X6_end fu x0 x1 h = some out) : Ct l D yX6_end cX6_end 2 (some .int) rm_X6_end [.ref x0, .int x1] h (evI out.1) out.2 := by
  refine Ct.of (o := f_X6_end fu x0 x1 h) (lv := [some (.ref x0), some (.int x1)]) (by decide) (Nat.le_of_ble_eq_true rfl) rfl ?_ out ho
  intro X hXl hE hin
  replace hE : En X D cX6_end 2 RX6 (some .int) rm_X6_end := hE
  subst hXl
  unfold f_X6_end
  refine Wo_grd (fun _ => ?_)
  refine r_iload_n (pc := 0) hE dX6_end_0 rfl ?_
  refine r_if_lt (pc := 1) hE 15 dX6_end_1 (by decide) (fun _ => ?_) (fun _ => ?_)
  · refine r_iconst (v := -1) (pc := 15) hE dX6_end_15 (by decide) ?_
    exact r_iret (pc := 16) hE dX6_end_16
  · refine r_iload_n (pc := 4) hE dX6_end_4 rfl ?_
    refine r_aload_n (pc := 5) hE dX6_end_5 rfl ?_
    refine r_getR (pc := 6) hE 6 1 (by decide) (by decide) (fun _ _ _ => rfl) fl_RX6_19 dX6_end_6 (fun v6 _ => ?_)
    refine r_getI (pc := 9) hE 3 0 (by decide) (by decide) (fun _ _ _ => rfl) fl_RX6_161 dX6_end_9 (fun v9 _ => ?_)
    refine r_icmp_le (pc := 12) hE 17 dX6_end_12 (by decide) (fun _ => ?_) (fun _ => ?_)
    · refine r_aload_n (pc := 17) hE dX6_end_17 rfl ?_
      refine r_getR (pc := 18) hE 6 1 (by decide) (by decide) (fun _ _ _ => rfl) fl_RX6_19 dX6_end_18 (fun v18 _ => ?_)
      refine r_iload_n (pc := 21) hE dX6_end_21 rfl ?_
      refine r_putI (pc := 22) hE 3 0 (by decide) (by decide) (fun _ _ _ => rfl) fl_RX6_161 rfl rfl rfl dX6_end_22 (fun h22 _ => ?_)
      refine r_iload_n (pc := 25) hE dX6_end_25 rfl ?_
      exact r_iret (pc := 26) hE dX6_end_26
    · refine r_iconst (v := -1) (pc := 15) hE dX6_end_15 (by decide) ?_
      exact r_iret (pc := 16) hE dX6_end_16
theorem k_X6_end {fu : Nat} {x0 : Nat} {x1 : Int32} {h : Hp} {out : Int32 × Hp} (ho : f_X6_end fu x0 x1 h = some out) : h.K x0 = 6 := (gi_k ho).1
theorem cs_RX6_168 : csV RX6 168 yX3_readInto cX3_readInto 3 (some .boolean) 1 = true := by decide +kernel
theorem cs_RX6_172 : csV RX6 172 yX1_forget cX1_forget 1 none 0 = true := by decide +kernel
def rm_X6_chant : Room := { frames := 10, cells := 0, slots := 0, locals := 241 }
def f_X6_chant_58 (fu : Nat) (x0 : Nat) (h : Hp) : Option (Int32 × Hp) :=
  (gR h 6 x0 2).bind fun v59 =>
  (gI h 0 v59 0).bind fun v62 =>
  some (v62, h)
set_option maxHeartbeats 4000000 in
set_option maxRecDepth 100000 in
theorem w_X6_chant_58 {X : Cx} {D : Dx} (hE : En X D cX6_chant 3 RX6 (some .int) rm_X6_chant) {fu : Nat} (x0 : Nat) (h : Hp) {lv : List (Option Value)} (hlv : lvLe [some (.ref x0), none, none] lv) : Wo X D 3 (Qr X D 0 0 evI) 0 0 (f_X6_chant_58 fu x0 h) 58 lv [] h := by
  refine Wo_sub hlv ?_
  unfold f_X6_chant_58
  refine r_aload_n (pc := 58) hE dX6_chant_58 rfl ?_
  refine r_getR (pc := 59) hE 6 2 (by decide) (by decide) (fun _ _ _ => rfl) fl_RX6_26 dX6_chant_59 (fun v59 _ => ?_)
  refine r_getI (pc := 62) hE 0 0 (by decide) (by decide) (fun _ _ _ => rfl) fl_RX6_100 dX6_chant_62 (fun v62 _ => ?_)
  exact r_iret (pc := 65) hE dX6_chant_65
def f_X6_chant (fu : Nat) (x0 : Nat) (h : Hp) : Option (Int32 × Hp) :=
  if h.K x0 = 6 then
    (gR h 6 x0 1).bind fun v1 =>
    (gR h 6 x0 3).bind fun v5 =>
    (f_X3_readInto fu v1 v5 h).bind fun r8 =>
    (gR r8.2 6 x0 1).bind fun v13 =>
    (pI r8.2 3 v13 0 0).bind fun h17 =>
    if r8.1 = 0 then
      some ((-1), h17)
    else
      (gR h17 6 x0 2).bind fun v27 =>
      (gR h17 6 x0 3).bind fun v33 =>
      (pR h17 6 x0 2 (some v33)).bind fun h36 =>
      (pR h36 6 x0 3 (some v27)).bind fun h41 =>
      (gQ h41 6 x0 7).bind fun v45 =>
      Option.elim v45
        (
        f_X6_chant_58 fu x0 h41
        )
        (fun _ =>
        (gR h41 6 x0 7).bind fun v52 =>
        (f_X1_forget fu v52 h41).bind fun r55 =>
        f_X6_chant_58 fu x0 r55.2
        )
  else none
set_option maxHeartbeats 4000000 in
set_option maxRecDepth 100000 in
theorem c_X6_chant (l : Launch) (D : Dx) (fu : Nat) (x0 : Nat) (h : Hp) (out : Int32 × Hp) (ho : f_X6_chant fu x0 h = some out) : Ct l D yX6_chant cX6_chant 3 (some .int) rm_X6_chant [.ref x0] h (evI out.1) out.2 := by
  refine Ct.of (o := f_X6_chant fu x0 h) (lv := [some (.ref x0), none, none]) (by decide) (Nat.le_of_ble_eq_true rfl) rfl ?_ out ho
  intro X hXl hE hin
  replace hE : En X D cX6_chant 3 RX6 (some .int) rm_X6_chant := hE
  subst hXl
  unfold f_X6_chant
  refine Wo_grd (fun _ => ?_)
  refine r_aload_n (pc := 0) hE dX6_chant_0 rfl ?_
  refine r_getR (pc := 1) hE 6 1 (by decide) (by decide) (fun _ _ _ => rfl) fl_RX6_19 dX6_chant_1 (fun v1 _ => ?_)
  refine r_aload_n (pc := 4) hE dX6_chant_4 rfl ?_
  refine r_getR (pc := 5) hE 6 3 (by decide) (by decide) (fun _ _ _ => rfl) fl_RX6_30 dX6_chant_5 (fun v5 _ => ?_)
  refine r_callV (pc := 8) hE 3 (As := [.ref v5]) (fun out ho => c_X3_readInto _ _ fu _ _ _ out ho) (fun out ho => k_X3_readInto ho) (by decide) rfl cs_RX6_168 ⟨Nat.le_of_ble_eq_true rfl, Nat.le_of_ble_eq_true rfl, Nat.le_of_ble_eq_true rfl, Nat.le_of_ble_eq_true rfl⟩ (Nat.le_of_ble_eq_true rfl) rfl dX6_chant_8 (fun r8 _ => ?_)
  refine r_istore_n (pc := 11) hE dX6_chant_11 (by decide) ?_
  refine r_aload_n (pc := 12) hE dX6_chant_12 rfl ?_
  refine r_getR (pc := 13) hE 6 1 (by decide) (by decide) (fun _ _ _ => rfl) fl_RX6_19 dX6_chant_13 (fun v13 _ => ?_)
  refine r_iconst (v := 0) (pc := 16) hE dX6_chant_16 (by decide) ?_
  refine r_putI (pc := 17) hE 3 0 (by decide) (by decide) (fun _ _ _ => rfl) fl_RX6_161 rfl rfl rfl dX6_chant_17 (fun h17 _ => ?_)
  refine r_iload_n (pc := 20) hE dX6_chant_20 rfl ?_
  refine r_if_ne (pc := 21) hE 26 dX6_chant_21 (by decide) (fun _ => ?_) (fun _ => ?_)
  · refine r_aload_n (pc := 26) hE dX6_chant_26 rfl ?_
    refine r_getR (pc := 27) hE 6 2 (by decide) (by decide) (fun _ _ _ => rfl) fl_RX6_26 dX6_chant_27 (fun v27 _ => ?_)
    refine r_astore_n (pc := 30) hE dX6_chant_30 (by decide) ?_
    refine r_aload_n (pc := 31) hE dX6_chant_31 rfl ?_
    refine r_aload_n (pc := 32) hE dX6_chant_32 rfl ?_
    refine r_getR (pc := 33) hE 6 3 (by decide) (by decide) (fun _ _ _ => rfl) fl_RX6_30 dX6_chant_33 (fun v33 _ => ?_)
    refine r_putR (pc := 36) hE 6 2 (by decide) (by decide) (fun _ _ _ => rfl) fl_RX6_26 rfl rfl rfl dX6_chant_36 (fun h36 _ => ?_)
    refine r_aload_n (pc := 39) hE dX6_chant_39 rfl ?_
    refine r_aload_n (pc := 40) hE dX6_chant_40 rfl ?_
    refine r_putR (pc := 41) hE 6 3 (by decide) (by decide) (fun _ _ _ => rfl) fl_RX6_30 rfl rfl rfl dX6_chant_41 (fun h41 _ => ?_)
    refine r_aload_n (pc := 44) hE dX6_chant_44 rfl ?_
    refine r_getQ (pc := 45) hE 6 7 (by decide) (by decide) (fun _ _ _ => rfl) fl_RX6_33 dX6_chant_45 (fun v45 _ => ?_)
    refine r_ifnull (pc := 48) hE 58 dX6_chant_48 (by decide) (fun _ => ?_) (fun _ _ => ?_)
    · exact w_X6_chant_58 hE _ _ ⟨rfl, trivial⟩
    · refine r_aload_n (pc := 51) hE dX6_chant_51 rfl ?_
      refine r_getR (pc := 52) hE 6 7 (by decide) (by decide) (fun _ _ _ => rfl) fl_RX6_33 dX6_chant_52 (fun v52 _ => ?_)
      refine r_callV (pc := 55) hE 1 (As := []) (fun out ho => c_X1_forget _ _ fu _ _ out ho) (fun out ho => k_X1_forget ho) (by decide) rfl cs_RX6_172 ⟨Nat.le_of_ble_eq_true rfl, Nat.le_of_ble_eq_true rfl, Nat.le_of_ble_eq_true rfl, Nat.le_of_ble_eq_true rfl⟩ (Nat.le_of_ble_eq_true rfl) rfl dX6_chant_55 (fun r55 _ => ?_)
      exact w_X6_chant_58 hE _ _ ⟨rfl, trivial⟩
  · refine r_iconst (v := -1) (pc := 24) hE dX6_chant_24 (by decide) ?_
    exact r_iret (pc := 25) hE dX6_chant_25
theorem k_X6_chant {fu : Nat} {x0 : Nat} {h : Hp} {out : Int32 × Hp} (ho : f_X6_chant fu x0 h = some out) : h.K x0 = 6 := (gi_k ho).1
theorem fl_RX6_180 : Cond.fieldLink RX6 180 (TF 3 2).1 (TF 3 2).2.1 (TF 3 2).2.2.1 ∈ TB := tb_in (by decide +kernel) rfl
theorem fl_RX6_177 : Cond.fieldLink RX6 177 (TF 3 1).1 (TF 3 1).2.1 (TF 3 1).2.2.1 ∈ TB := tb_in (by decide +kernel) rfl
def rm_X6_fault : Room := { frames := 0, cells := 0, slots := 0, locals := 0 }
def f_X6_fault (fu : Nat) (x0 : Nat) (x1 : Int32) (h : Hp) : Option (Int32 × Hp) :=
  if h.K x0 = 6 then
    if x1 = 0 then
      (gR h 6 x0 1).bind fun v5 =>
      (gI h 3 v5 1).bind fun v8 =>
      some (v8, h)
    else
      if x1 = 1 then
        (gR h 6 x0 1).bind fun v18 =>
        (gI h 3 v18 2).bind fun v21 =>
        some (v21, h)
      else
        some ((-1), h)
  else none
set_option maxHeartbeats 4000000 in
set_option maxRecDepth 100000 in
theorem c_X6_fault (l : Launch) (D : Dx) (fu : Nat) (x0 : Nat) (x1 : Int32) (h : Hp) (out : Int32 × Hp) (ho : f_X6_fault fu x0 x1 h = some out) : Ct l D yX6_fault cX6_fault 2 (some .int) rm_X6_fault [.ref x0, .int x1] h (evI out.1) out.2 := by
  refine Ct.of (o := f_X6_fault fu x0 x1 h) (lv := [some (.ref x0), some (.int x1)]) (by decide) (Nat.le_of_ble_eq_true rfl) rfl ?_ out ho
  intro X hXl hE hin
  replace hE : En X D cX6_fault 2 RX6 (some .int) rm_X6_fault := hE
  subst hXl
  unfold f_X6_fault
  refine Wo_grd (fun _ => ?_)
  refine r_iload_n (pc := 0) hE dX6_fault_0 rfl ?_
  refine r_if_ne (pc := 1) hE 12 dX6_fault_1 (by decide) (fun _ => ?_) (fun _ => ?_)
  · refine r_iload_n (pc := 12) hE dX6_fault_12 rfl ?_
    refine r_iconst (v := 1) (pc := 13) hE dX6_fault_13 (by decide) ?_
    refine r_icmp_ne (pc := 14) hE 27 dX6_fault_14 (by decide) (fun _ => ?_) (fun _ => ?_)
    · refine r_iconst (v := -1) (pc := 27) hE dX6_fault_27 (by decide) ?_
      exact r_iret (pc := 28) hE dX6_fault_28
    · refine r_aload_n (pc := 17) hE dX6_fault_17 rfl ?_
      refine r_getR (pc := 18) hE 6 1 (by decide) (by decide) (fun _ _ _ => rfl) fl_RX6_19 dX6_fault_18 (fun v18 _ => ?_)
      refine r_getI (pc := 21) hE 3 2 (by decide) (by decide) (fun _ _ _ => rfl) fl_RX6_180 dX6_fault_21 (fun v21 _ => ?_)
      refine r_goto (pc := 24) hE 28 dX6_fault_24 (by decide) ?_
      exact r_iret (pc := 28) hE dX6_fault_28
  · refine r_aload_n (pc := 4) hE dX6_fault_4 rfl ?_
    refine r_getR (pc := 5) hE 6 1 (by decide) (by decide) (fun _ _ _ => rfl) fl_RX6_19 dX6_fault_5 (fun v5 _ => ?_)
    refine r_getI (pc := 8) hE 3 1 (by decide) (by decide) (fun _ _ _ => rfl) fl_RX6_177 dX6_fault_8 (fun v8 _ => ?_)
    exact r_iret (pc := 11) hE dX6_fault_11
theorem k_X6_fault {fu : Nat} {x0 : Nat} {x1 : Int32} {h : Hp} {out : Int32 × Hp} (ho : f_X6_fault fu x0 x1 h = some out) : h.K x0 = 6 := (gi_k ho).1
theorem nw_RX6_173 : Cond.classLink RX6 173 (RF 1) ∈ TB ∧ Cond.instantiable (RF 1) (nF 1) ∈ TB ∧ Cond.initialized (RF 1) ∈ TB := ⟨tb_in (by decide +kernel) rfl, tb_in (by decide +kernel) rfl, tb_in (by decide +kernel) rfl⟩
theorem cs_RX6_197 : csIN RX6 197 yX1_init cX1_init 1 0 = true := by decide +kernel
theorem cs_RX6_198 : csV RX6 198 yX1_hear cX1_hear 4 none 2 = true := by decide +kernel
def rm_X6_judgeOfNow : Room := { frames := 6, cells := 12, slots := 2899, locals := 142 }
def f_X6_judgeOfNow_18 (fu : Nat) (x0 : Nat) (h : Hp) : Option (Nat × Hp) :=
  (gR h 6 x0 7).bind fun v19 =>
  (gR h 6 x0 0).bind fun v23 =>
  (gR h 6 x0 2).bind fun v27 =>
  (f_X1_hear fu v19 v23 v27 h).bind fun r30 =>
  (gR r30.2 6 x0 7).bind fun v34 =>
  some (v34, r30.2)
set_option maxHeartbeats 4000000 in
set_option maxRecDepth 100000 in
theorem w_X6_judgeOfNow_18 {X : Cx} {D : Dx} (hE : En X D cX6_judgeOfNow 1 RX6 (some (.object "CanoeMaster$Judge")) rm_X6_judgeOfNow) {fu : Nat} (x0 : Nat) (h : Hp) {lv : List (Option Value)} (hlv : lvLe [some (.ref x0)] lv) : Wo X D 1 (Qr X D 12 2899 evR) 12 2899 (f_X6_judgeOfNow_18 fu x0 h) 18 lv [] h := by
  refine Wo_sub hlv ?_
  unfold f_X6_judgeOfNow_18
  refine r_aload_n (pc := 18) hE dX6_judgeOfNow_18 rfl ?_
  refine r_getR (pc := 19) hE 6 7 (by decide) (by decide) (fun _ _ _ => rfl) fl_RX6_33 dX6_judgeOfNow_19 (fun v19 _ => ?_)
  refine r_aload_n (pc := 22) hE dX6_judgeOfNow_22 rfl ?_
  refine r_getR (pc := 23) hE 6 0 (by decide) (by decide) (fun _ _ _ => rfl) fl_RX6_12 dX6_judgeOfNow_23 (fun v23 _ => ?_)
  refine r_aload_n (pc := 26) hE dX6_judgeOfNow_26 rfl ?_
  refine r_getR (pc := 27) hE 6 2 (by decide) (by decide) (fun _ _ _ => rfl) fl_RX6_26 dX6_judgeOfNow_27 (fun v27 _ => ?_)
  refine r_callV (pc := 30) hE 1 (As := [.ref v23, .ref v27]) (fun out ho => c_X1_hear _ _ fu _ _ _ _ out ho) (fun out ho => k_X1_hear ho) (by decide) rfl cs_RX6_198 ⟨Nat.le_of_ble_eq_true rfl, Nat.le_of_ble_eq_true rfl, Nat.le_of_ble_eq_true rfl, Nat.le_of_ble_eq_true rfl⟩ (Nat.le_of_ble_eq_true rfl) rfl dX6_judgeOfNow_30 (fun r30 _ => ?_)
  refine r_aload_n (pc := 33) hE dX6_judgeOfNow_33 rfl ?_
  refine r_getR (pc := 34) hE 6 7 (by decide) (by decide) (fun _ _ _ => rfl) fl_RX6_33 dX6_judgeOfNow_34 (fun v34 _ => ?_)
  exact r_aret (pc := 37) hE dX6_judgeOfNow_37
def f_X6_judgeOfNow (fu : Nat) (x0 : Nat) (h : Hp) : Option (Nat × Hp) :=
  if h.K x0 = 6 then
    (gQ h 6 x0 7).bind fun v1 =>
    Option.elim v1
      (
      (f_X1_init fu (Hp.N h) (newC h 1 0)).bind fun r12 =>
      (pR r12.2 6 x0 7 (some (Hp.N h))).bind fun h15 =>
      f_X6_judgeOfNow_18 fu x0 h15
      )
      (fun _ =>
      f_X6_judgeOfNow_18 fu x0 h
      )
  else none
set_option maxHeartbeats 4000000 in
set_option maxRecDepth 100000 in
theorem c_X6_judgeOfNow (l : Launch) (D : Dx) (fu : Nat) (x0 : Nat) (h : Hp) (out : Nat × Hp) (ho : f_X6_judgeOfNow fu x0 h = some out) : Ct l D yX6_judgeOfNow cX6_judgeOfNow 1 (some (.object "CanoeMaster$Judge")) rm_X6_judgeOfNow [.ref x0] h (evR out.1) out.2 := by
  refine Ct.of (o := f_X6_judgeOfNow fu x0 h) (lv := [some (.ref x0)]) (by decide) (Nat.le_of_ble_eq_true rfl) rfl ?_ out ho
  intro X hXl hE hin
  replace hE : En X D cX6_judgeOfNow 1 RX6 (some (.object "CanoeMaster$Judge")) rm_X6_judgeOfNow := hE
  subst hXl
  unfold f_X6_judgeOfNow
  refine Wo_grd (fun _ => ?_)
  refine r_aload_n (pc := 0) hE dX6_judgeOfNow_0 rfl ?_
  refine r_getQ (pc := 1) hE 6 7 (by decide) (by decide) (fun _ _ _ => rfl) fl_RX6_33 dX6_judgeOfNow_1 (fun v1 _ => ?_)
  refine r_ifnonnull (pc := 4) hE 18 dX6_judgeOfNow_4 (by decide) (fun _ => ?_) (fun _ _ => ?_)
  · refine r_aload_n (pc := 7) hE dX6_judgeOfNow_7 rfl ?_
    refine r_new (pc := 8) hE 1 (by decide) nw_RX6_173 ⟨Nat.le_of_ble_eq_true rfl, Nat.le_of_ble_eq_true rfl⟩ dX6_judgeOfNow_8 ?_
    refine r_dup (pc := 11) hE dX6_judgeOfNow_11 rfl ?_
    refine r_callIN (pc := 12) hE (As := []) (fun out ho => c_X1_init _ _ fu _ _ out ho) cs_RX6_197 ⟨Nat.le_of_ble_eq_true rfl, Nat.le_of_ble_eq_true rfl, Nat.le_of_ble_eq_true rfl, Nat.le_of_ble_eq_true rfl⟩ (Nat.le_of_ble_eq_true rfl) rfl dX6_judgeOfNow_12 (fun r12 _ => ?_)
    refine r_putR (pc := 15) hE 6 7 (by decide) (by decide) (fun _ _ _ => rfl) fl_RX6_33 rfl rfl rfl dX6_judgeOfNow_15 (fun h15 _ => ?_)
    exact w_X6_judgeOfNow_18 hE _ _ ⟨rfl, trivial⟩
  · refine Wo_widen (c2 := 12) (s2 := 2899) (Nat.le_of_ble_eq_true rfl) (Nat.le_of_ble_eq_true rfl) ?_
    exact w_X6_judgeOfNow_18 hE _ _ ⟨rfl, trivial⟩
theorem k_X6_judgeOfNow {fu : Nat} {x0 : Nat} {h : Hp} {out : Nat × Hp} (ho : f_X6_judgeOfNow fu x0 h = some out) : h.K x0 = 6 := (gi_k ho).1
theorem cs_RX6_183 : csV RX6 183 yX6_judgeOfNow cX6_judgeOfNow 1 (some (.object "CanoeMaster$Judge")) 0 = true := by decide +kernel
theorem cs_RX6_194 : csV RX6 194 yX1_unsureOf cX1_unsureOf 6 (some .int) 2 = true := by decide +kernel
theorem cs_RX6_191 : csV RX6 191 yX1_shortestOf cX1_shortestOf 6 (some .int) 2 = true := by decide +kernel
theorem cs_RX6_187 : csV RX6 187 yX1_longestOf cX1_longestOf 6 (some .int) 2 = true := by decide +kernel
def rm_X6_sure : Room := { frames := 7, cells := 12, slots := 2899, locals := 162 }
def f_X6_sure (fu : Nat) (x0 : Nat) (x1 : Int32) (h : Hp) : Option (Int32 × Hp) :=
  if h.K x0 = 6 then
    if x1 < 0 then
      some ((-2), h)
    else
      if x1 ≤ 2 then
        (f_X6_judgeOfNow fu x0 h).bind fun r13 =>
        if x1 = 0 then
          (gJ r13.2 6 x0 4).bind fun v23 =>
          (f_X6_watchNow fu x0 r13.2).bind fun r27 =>
          (f_X1_longestOf fu r13.1 v23 r27.1 r27.2).bind fun r30 =>
          some (r30.1, r30.2)
        else
          if x1 = 1 then
            (gJ r13.2 6 x0 4).bind fun v41 =>
            (f_X6_watchNow fu x0 r13.2).bind fun r45 =>
            (f_X1_shortestOf fu r13.1 v41 r45.1 r45.2).bind fun r48 =>
            some (r48.1, r48.2)
          else
            (gJ r13.2 6 x0 4).bind fun v56 =>
            (f_X6_watchNow fu x0 r13.2).bind fun r60 =>
            (f_X1_unsureOf fu r13.1 v56 r60.1 r60.2).bind fun r63 =>
            some (r63.1, r63.2)
      else
        some ((-2), h)
  else none
set_option maxHeartbeats 4000000 in
set_option maxRecDepth 100000 in
theorem c_X6_sure (l : Launch) (D : Dx) (fu : Nat) (x0 : Nat) (x1 : Int32) (h : Hp) (out : Int32 × Hp) (ho : f_X6_sure fu x0 x1 h = some out) : Ct l D yX6_sure cX6_sure 3 (some .int) rm_X6_sure [.ref x0, .int x1] h (evI out.1) out.2 := by
  refine Ct.of (o := f_X6_sure fu x0 x1 h) (lv := [some (.ref x0), some (.int x1), none]) (by decide) (Nat.le_of_ble_eq_true rfl) rfl ?_ out ho
  intro X hXl hE hin
  replace hE : En X D cX6_sure 3 RX6 (some .int) rm_X6_sure := hE
  subst hXl
  unfold f_X6_sure
  refine Wo_grd (fun _ => ?_)
  refine r_iload_n (pc := 0) hE dX6_sure_0 rfl ?_
  refine r_if_lt (pc := 1) hE 9 dX6_sure_1 (by decide) (fun _ => ?_) (fun _ => ?_)
  · refine r_bipush (v := -2) (pc := 9) hE dX6_sure_9 (by decide) ?_
    refine Wo_widen (c2 := 12) (s2 := 2899) (Nat.le_of_ble_eq_true rfl) (Nat.le_of_ble_eq_true rfl) ?_
    exact r_iret (pc := 11) hE dX6_sure_11
  · refine r_iload_n (pc := 4) hE dX6_sure_4 rfl ?_
    refine r_iconst (v := 2) (pc := 5) hE dX6_sure_5 (by decide) ?_
    refine r_icmp_le (pc := 6) hE 12 dX6_sure_6 (by decide) (fun _ => ?_) (fun _ => ?_)
    · refine r_aload_n (pc := 12) hE dX6_sure_12 rfl ?_
      refine r_callV (pc := 13) hE 6 (As := []) (fun out ho => c_X6_judgeOfNow _ _ fu _ _ out ho) (fun out ho => k_X6_judgeOfNow ho) (by decide) rfl cs_RX6_183 ⟨Nat.le_of_ble_eq_true rfl, Nat.le_of_ble_eq_true rfl, Nat.le_of_ble_eq_true rfl, Nat.le_of_ble_eq_true rfl⟩ (Nat.le_of_ble_eq_true rfl) rfl dX6_sure_13 (fun r13 _ => ?_)
      refine r_astore_n (pc := 16) hE dX6_sure_16 (by decide) ?_
      refine r_iload_n (pc := 17) hE dX6_sure_17 rfl ?_
      refine r_if_ne (pc := 18) hE 34 dX6_sure_18 (by decide) (fun _ => ?_) (fun _ => ?_)
      · refine r_iload_n (pc := 34) hE dX6_sure_34 rfl ?_
        refine r_iconst (v := 1) (pc := 35) hE dX6_sure_35 (by decide) ?_
        refine r_icmp_ne (pc := 36) hE 54 dX6_sure_36 (by decide) (fun _ => ?_) (fun _ => ?_)
        · refine r_aload_n (pc := 54) hE dX6_sure_54 rfl ?_
          refine r_aload_n (pc := 55) hE dX6_sure_55 rfl ?_
          refine r_getJ (pc := 56) hE 6 4 (by decide) (by decide) (fun _ _ _ => rfl) fl_RX6_49 dX6_sure_56 (fun v56 _ => ?_)
          refine r_aload_n (pc := 59) hE dX6_sure_59 rfl ?_
          refine r_callV (pc := 60) hE 6 (As := []) (fun out ho => c_X6_watchNow _ _ fu _ _ out ho) (fun out ho => k_X6_watchNow ho) (by decide) rfl cs_RX6_129 ⟨Nat.le_of_ble_eq_true rfl, Nat.le_of_ble_eq_true rfl, Nat.le_of_ble_eq_true rfl, Nat.le_of_ble_eq_true rfl⟩ (Nat.le_of_ble_eq_true rfl) rfl dX6_sure_60 (fun r60 _ => ?_)
          refine r_callV (pc := 63) hE 1 (As := [.long v56, .int r60.1]) (fun out ho => c_X1_unsureOf _ _ fu _ _ _ _ out ho) (fun out ho => k_X1_unsureOf ho) (by decide) rfl cs_RX6_194 ⟨Nat.le_of_ble_eq_true rfl, Nat.le_of_ble_eq_true rfl, Nat.le_of_ble_eq_true rfl, Nat.le_of_ble_eq_true rfl⟩ (Nat.le_of_ble_eq_true rfl) rfl dX6_sure_63 (fun r63 _ => ?_)
          exact r_iret (pc := 66) hE dX6_sure_66
        · refine r_aload_n (pc := 39) hE dX6_sure_39 rfl ?_
          refine r_aload_n (pc := 40) hE dX6_sure_40 rfl ?_
          refine r_getJ (pc := 41) hE 6 4 (by decide) (by decide) (fun _ _ _ => rfl) fl_RX6_49 dX6_sure_41 (fun v41 _ => ?_)
          refine r_aload_n (pc := 44) hE dX6_sure_44 rfl ?_
          refine r_callV (pc := 45) hE 6 (As := []) (fun out ho => c_X6_watchNow _ _ fu _ _ out ho) (fun out ho => k_X6_watchNow ho) (by decide) rfl cs_RX6_129 ⟨Nat.le_of_ble_eq_true rfl, Nat.le_of_ble_eq_true rfl, Nat.le_of_ble_eq_true rfl, Nat.le_of_ble_eq_true rfl⟩ (Nat.le_of_ble_eq_true rfl) rfl dX6_sure_45 (fun r45 _ => ?_)
          refine r_callV (pc := 48) hE 1 (As := [.long v41, .int r45.1]) (fun out ho => c_X1_shortestOf _ _ fu _ _ _ _ out ho) (fun out ho => k_X1_shortestOf ho) (by decide) rfl cs_RX6_191 ⟨Nat.le_of_ble_eq_true rfl, Nat.le_of_ble_eq_true rfl, Nat.le_of_ble_eq_true rfl, Nat.le_of_ble_eq_true rfl⟩ (Nat.le_of_ble_eq_true rfl) rfl dX6_sure_48 (fun r48 _ => ?_)
          refine r_goto (pc := 51) hE 66 dX6_sure_51 (by decide) ?_
          exact r_iret (pc := 66) hE dX6_sure_66
      · refine r_aload_n (pc := 21) hE dX6_sure_21 rfl ?_
        refine r_aload_n (pc := 22) hE dX6_sure_22 rfl ?_
        refine r_getJ (pc := 23) hE 6 4 (by decide) (by decide) (fun _ _ _ => rfl) fl_RX6_49 dX6_sure_23 (fun v23 _ => ?_)
        refine r_aload_n (pc := 26) hE dX6_sure_26 rfl ?_
        refine r_callV (pc := 27) hE 6 (As := []) (fun out ho => c_X6_watchNow _ _ fu _ _ out ho) (fun out ho => k_X6_watchNow ho) (by decide) rfl cs_RX6_129 ⟨Nat.le_of_ble_eq_true rfl, Nat.le_of_ble_eq_true rfl, Nat.le_of_ble_eq_true rfl, Nat.le_of_ble_eq_true rfl⟩ (Nat.le_of_ble_eq_true rfl) rfl dX6_sure_27 (fun r27 _ => ?_)
        refine r_callV (pc := 30) hE 1 (As := [.long v23, .int r27.1]) (fun out ho => c_X1_longestOf _ _ fu _ _ _ _ out ho) (fun out ho => k_X1_longestOf ho) (by decide) rfl cs_RX6_187 ⟨Nat.le_of_ble_eq_true rfl, Nat.le_of_ble_eq_true rfl, Nat.le_of_ble_eq_true rfl, Nat.le_of_ble_eq_true rfl⟩ (Nat.le_of_ble_eq_true rfl) rfl dX6_sure_30 (fun r30 _ => ?_)
        exact r_iret (pc := 33) hE dX6_sure_33
    · refine r_bipush (v := -2) (pc := 9) hE dX6_sure_9 (by decide) ?_
      refine Wo_widen (c2 := 12) (s2 := 2899) (Nat.le_of_ble_eq_true rfl) (Nat.le_of_ble_eq_true rfl) ?_
      exact r_iret (pc := 11) hE dX6_sure_11
theorem k_X6_sure {fu : Nat} {x0 : Nat} {x1 : Int32} {h : Hp} {out : Int32 × Hp} (ho : f_X6_sure fu x0 x1 h = some out) : h.K x0 = 6 := (gi_k ho).1
def rm_X6_from : Room := { frames := 7, cells := 12, slots := 2899, locals := 162 }
def f_X6_from (fu : Nat) (x0 : Nat) (x1 : Int32) (h : Hp) : Option (Int32 × Hp) :=
  if h.K x0 = 6 then
    (gR h 6 x0 0).bind fun v1 =>
    (f_X4_hasCell fu v1 x1 h).bind fun r5 =>
    if r5.1 = 0 then
      some ((-2), r5.2)
    else
      (f_X6_judgeOfNow fu x0 r5.2).bind fun r15 =>
      (f_X6_watchNow fu x0 r15.2).bind fun r22 =>
      (f_X1_longestOf fu r15.1 (lsh 1 x1) r22.1 r22.2).bind fun r25 =>
      some (r25.1, r25.2)
  else none
set_option maxHeartbeats 4000000 in
set_option maxRecDepth 100000 in
theorem c_X6_from (l : Launch) (D : Dx) (fu : Nat) (x0 : Nat) (x1 : Int32) (h : Hp) (out : Int32 × Hp) (ho : f_X6_from fu x0 x1 h = some out) : Ct l D yX6_from cX6_from 2 (some .int) rm_X6_from [.ref x0, .int x1] h (evI out.1) out.2 := by
  refine Ct.of (o := f_X6_from fu x0 x1 h) (lv := [some (.ref x0), some (.int x1)]) (by decide) (Nat.le_of_ble_eq_true rfl) rfl ?_ out ho
  intro X hXl hE hin
  replace hE : En X D cX6_from 2 RX6 (some .int) rm_X6_from := hE
  subst hXl
  unfold f_X6_from
  refine Wo_grd (fun _ => ?_)
  refine r_aload_n (pc := 0) hE dX6_from_0 rfl ?_
  refine r_getR (pc := 1) hE 6 0 (by decide) (by decide) (fun _ _ _ => rfl) fl_RX6_12 dX6_from_1 (fun v1 _ => ?_)
  refine r_iload_n (pc := 4) hE dX6_from_4 rfl ?_
  refine r_callV (pc := 5) hE 4 (As := [.int x1]) (fun out ho => c_X4_hasCell _ _ fu _ _ _ out ho) (fun out ho => k_X4_hasCell ho) (by decide) rfl cs_RX6_63 ⟨Nat.le_of_ble_eq_true rfl, Nat.le_of_ble_eq_true rfl, Nat.le_of_ble_eq_true rfl, Nat.le_of_ble_eq_true rfl⟩ (Nat.le_of_ble_eq_true rfl) rfl dX6_from_5 (fun r5 _ => ?_)
  refine r_if_ne (pc := 8) hE 14 dX6_from_8 (by decide) (fun _ => ?_) (fun _ => ?_)
  · refine r_aload_n (pc := 14) hE dX6_from_14 rfl ?_
    refine r_callV (pc := 15) hE 6 (As := []) (fun out ho => c_X6_judgeOfNow _ _ fu _ _ out ho) (fun out ho => k_X6_judgeOfNow ho) (by decide) rfl cs_RX6_183 ⟨Nat.le_of_ble_eq_true rfl, Nat.le_of_ble_eq_true rfl, Nat.le_of_ble_eq_true rfl, Nat.le_of_ble_eq_true rfl⟩ (Nat.le_of_ble_eq_true rfl) rfl dX6_from_15 (fun r15 _ => ?_)
    refine r_lconst (v := 1) (pc := 18) hE dX6_from_18 rfl ?_
    refine r_iload_n (pc := 19) hE dX6_from_19 rfl ?_
    refine r_lshl (pc := 20) hE dX6_from_20 ?_
    refine r_aload_n (pc := 21) hE dX6_from_21 rfl ?_
    refine r_callV (pc := 22) hE 6 (As := []) (fun out ho => c_X6_watchNow _ _ fu _ _ out ho) (fun out ho => k_X6_watchNow ho) (by decide) rfl cs_RX6_129 ⟨Nat.le_of_ble_eq_true rfl, Nat.le_of_ble_eq_true rfl, Nat.le_of_ble_eq_true rfl, Nat.le_of_ble_eq_true rfl⟩ (Nat.le_of_ble_eq_true rfl) rfl dX6_from_22 (fun r22 _ => ?_)
    refine r_callV (pc := 25) hE 1 (As := [.long (lsh 1 x1), .int r22.1]) (fun out ho => c_X1_longestOf _ _ fu _ _ _ _ out ho) (fun out ho => k_X1_longestOf ho) (by decide) rfl cs_RX6_187 ⟨Nat.le_of_ble_eq_true rfl, Nat.le_of_ble_eq_true rfl, Nat.le_of_ble_eq_true rfl, Nat.le_of_ble_eq_true rfl⟩ (Nat.le_of_ble_eq_true rfl) rfl dX6_from_25 (fun r25 _ => ?_)
    exact r_iret (pc := 28) hE dX6_from_28
  · refine r_bipush (v := -2) (pc := 11) hE dX6_from_11 (by decide) ?_
    refine Wo_widen (c2 := 12) (s2 := 2899) (Nat.le_of_ble_eq_true rfl) (Nat.le_of_ble_eq_true rfl) ?_
    exact r_iret (pc := 13) hE dX6_from_13
theorem k_X6_from {fu : Nat} {x0 : Nat} {x1 : Int32} {h : Hp} {out : Int32 × Hp} (ho : f_X6_from fu x0 x1 h = some out) : h.K x0 = 6 := (gi_k ho).1
theorem cs_RX6_202 : csV RX6 202 yX0_stops cX0_stops 4 (some .long) 3 = true := by decide +kernel
theorem fl_RX6_206 : Cond.fieldLink RX6 206 (TF 0 1).1 (TF 0 1).2.1 (TF 0 1).2.2.1 ∈ TB := tb_in (by decide +kernel) rfl
def rm_X6_sings : Room := { frames := 4, cells := 0, slots := 0, locals := 94 }
def f_X6_sings_53 (fu : Nat) : Nat → Nat → Int32 → Hp → Option (Int32 × Hp)
  | 0, _, _, _ => none
  | n + 1, x0, x2, h =>
    (gR h 6 x0 2).bind fun v55 =>
    (gI h 0 v55 0).bind fun v58 =>
    if v58 ≤ x2 then
      some (10, h)
    else
      (gR h 6 x0 2).bind fun v65 =>
      (gR h 6 x0 0).bind fun v70 =>
      (f_X6_watchNow fu x0 h).bind fun r74 =>
      (f_X0_stops fu v65 x2 v70 r74.1 r74.2).bind fun r77 =>
      (gI r77.2 6 x0 6).bind fun v81 =>
      (f_X6_has fu r77.1 v81 r77.2).bind fun r84 =>
      if r84.1 = 0 then
        (gR r84.2 6 x0 2).bind fun v91 =>
        (gR r84.2 0 v91 1).bind fun v94 =>
        (aI r84.2 8 v94 x2).bind fun v98 =>
        some (v98, r84.2)
      else
        f_X6_sings_53 fu n x0 ((x2 + 1)) r84.2
set_option maxHeartbeats 4000000 in
set_option maxRecDepth 100000 in
theorem w_X6_sings_53 {X : Cx} {D : Dx} (hE : En X D cX6_sings 3 RX6 (some .int) rm_X6_sings) {fu : Nat} : ∀ (n : Nat) (x0 : Nat) (x2 : Int32) (h : Hp) (lv : List (Option Value)), lvLe [some (.ref x0), none, some (.int x2)] lv → Wo X D 3 (Qr X D 0 0 evI) 0 0 (f_X6_sings_53 fu n x0 x2 h) 53 lv [] h := by
  intro n
  induction n with
  | zero => intros; exact Wo_none
  | succ n ih =>
    intro x0 x2 h lv hlv
    refine Wo_sub hlv ?_
    rw [f_X6_sings_53]
    refine r_iload_n (pc := 53) hE dX6_sings_53 rfl ?_
    refine r_aload_n (pc := 54) hE dX6_sings_54 rfl ?_
    refine r_getR (pc := 55) hE 6 2 (by decide) (by decide) (fun _ _ _ => rfl) fl_RX6_26 dX6_sings_55 (fun v55 _ => ?_)
    refine r_getI (pc := 58) hE 0 0 (by decide) (by decide) (fun _ _ _ => rfl) fl_RX6_100 dX6_sings_58 (fun v58 _ => ?_)
    refine r_icmp_ge (pc := 61) hE 106 dX6_sings_61 (by decide) (fun _ => ?_) (fun _ => ?_)
    · refine r_bipush (v := 10) (pc := 106) hE dX6_sings_106 (by decide) ?_
      exact r_iret (pc := 108) hE dX6_sings_108
    · refine r_aload_n (pc := 64) hE dX6_sings_64 rfl ?_
      refine r_getR (pc := 65) hE 6 2 (by decide) (by decide) (fun _ _ _ => rfl) fl_RX6_26 dX6_sings_65 (fun v65 _ => ?_)
      refine r_iload_n (pc := 68) hE dX6_sings_68 rfl ?_
      refine r_aload_n (pc := 69) hE dX6_sings_69 rfl ?_
      refine r_getR (pc := 70) hE 6 0 (by decide) (by decide) (fun _ _ _ => rfl) fl_RX6_12 dX6_sings_70 (fun v70 _ => ?_)
      refine r_aload_n (pc := 73) hE dX6_sings_73 rfl ?_
      refine r_callV (pc := 74) hE 6 (As := []) (fun out ho => c_X6_watchNow _ _ fu _ _ out ho) (fun out ho => k_X6_watchNow ho) (by decide) rfl cs_RX6_129 ⟨Nat.le_of_ble_eq_true rfl, Nat.le_of_ble_eq_true rfl, Nat.le_of_ble_eq_true rfl, Nat.le_of_ble_eq_true rfl⟩ (Nat.le_of_ble_eq_true rfl) rfl dX6_sings_74 (fun r74 _ => ?_)
      refine r_callV (pc := 77) hE 0 (As := [.int x2, .ref v70, .int r74.1]) (fun out ho => c_X0_stops _ _ fu _ _ _ _ _ out ho) (fun out ho => k_X0_stops ho) (by decide) rfl cs_RX6_202 ⟨Nat.le_of_ble_eq_true rfl, Nat.le_of_ble_eq_true rfl, Nat.le_of_ble_eq_true rfl, Nat.le_of_ble_eq_true rfl⟩ (Nat.le_of_ble_eq_true rfl) rfl dX6_sings_77 (fun r77 _ => ?_)
      refine r_aload_n (pc := 80) hE dX6_sings_80 rfl ?_
      refine r_getI (pc := 81) hE 6 6 (by decide) (by decide) (fun _ _ _ => rfl) fl_RX6_56 dX6_sings_81 (fun v81 _ => ?_)
      refine r_callS (pc := 84) hE (As := [.long r77.1, .int v81]) (fun out ho => c_X6_has _ _ fu _ _ _ out ho) cs_RX6_125 ⟨Nat.le_of_ble_eq_true rfl, Nat.le_of_ble_eq_true rfl, Nat.le_of_ble_eq_true rfl, Nat.le_of_ble_eq_true rfl⟩ (Nat.le_of_ble_eq_true rfl) rfl dX6_sings_84 (fun r84 _ => ?_)
      refine r_if_ne (pc := 87) hE 100 dX6_sings_87 (by decide) (fun _ => ?_) (fun _ => ?_)
      · refine r_iinc (v := (x2 + 1)) (pc := 100) hE dX6_sings_100 rfl rfl (by decide) ?_
        refine r_goto (pc := 103) hE 53 dX6_sings_103 (by decide) ?_
        exact ih _ _ _ _ ⟨rfl, ⟨rfl, trivial⟩⟩
      · refine r_aload_n (pc := 90) hE dX6_sings_90 rfl ?_
        refine r_getR (pc := 91) hE 6 2 (by decide) (by decide) (fun _ _ _ => rfl) fl_RX6_26 dX6_sings_91 (fun v91 _ => ?_)
        refine r_getR (pc := 94) hE 0 1 (by decide) (by decide) (fun _ _ _ => rfl) fl_RX6_206 dX6_sings_94 (fun v94 _ => ?_)
        refine r_iload_n (pc := 97) hE dX6_sings_97 rfl ?_
        refine r_aldI (pc := 98) hE dX6_sings_98 (fun v98 _ => ?_)
        exact r_iret (pc := 99) hE dX6_sings_99
def f_X6_sings (fu : Nat) (x0 : Nat) (x1 : Int32) (h : Hp) : Option (Int32 × Hp) :=
  if h.K x0 = 6 then
    (gR h 6 x0 0).bind fun v1 =>
    (gI h 6 x0 6).bind fun v5 =>
    (f_X4_hasCell fu v1 v5 h).bind fun r8 =>
    if r8.1 = 0 then
      some ((-1), r8.2)
    else
      if x1 < 0 then
        some ((-1), r8.2)
      else
        (gR r8.2 6 x0 2).bind fun v20 =>
        (gI r8.2 0 v20 0).bind fun v23 =>
        if x1 < v23 then
          (gR r8.2 6 x0 0).bind fun v32 =>
          (gJ r8.2 4 v32 5).bind fun v35 =>
          (gI r8.2 6 x0 6).bind fun v39 =>
          (f_X6_has fu v35 v39 r8.2).bind fun r42 =>
          if r42.1 = 0 then
            f_X6_sings_53 fu fu x0 x1 r42.2
          else
            some (9, r42.2)
        else
          some ((-1), r8.2)
  else none
set_option maxHeartbeats 4000000 in
set_option maxRecDepth 100000 in
theorem c_X6_sings (l : Launch) (D : Dx) (fu : Nat) (x0 : Nat) (x1 : Int32) (h : Hp) (out : Int32 × Hp) (ho : f_X6_sings fu x0 x1 h = some out) : Ct l D yX6_sings cX6_sings 3 (some .int) rm_X6_sings [.ref x0, .int x1] h (evI out.1) out.2 := by
  refine Ct.of (o := f_X6_sings fu x0 x1 h) (lv := [some (.ref x0), some (.int x1), none]) (by decide) (Nat.le_of_ble_eq_true rfl) rfl ?_ out ho
  intro X hXl hE hin
  replace hE : En X D cX6_sings 3 RX6 (some .int) rm_X6_sings := hE
  subst hXl
  unfold f_X6_sings
  refine Wo_grd (fun _ => ?_)
  refine r_aload_n (pc := 0) hE dX6_sings_0 rfl ?_
  refine r_getR (pc := 1) hE 6 0 (by decide) (by decide) (fun _ _ _ => rfl) fl_RX6_12 dX6_sings_1 (fun v1 _ => ?_)
  refine r_aload_n (pc := 4) hE dX6_sings_4 rfl ?_
  refine r_getI (pc := 5) hE 6 6 (by decide) (by decide) (fun _ _ _ => rfl) fl_RX6_56 dX6_sings_5 (fun v5 _ => ?_)
  refine r_callV (pc := 8) hE 4 (As := [.int v5]) (fun out ho => c_X4_hasCell _ _ fu _ _ _ out ho) (fun out ho => k_X4_hasCell ho) (by decide) rfl cs_RX6_63 ⟨Nat.le_of_ble_eq_true rfl, Nat.le_of_ble_eq_true rfl, Nat.le_of_ble_eq_true rfl, Nat.le_of_ble_eq_true rfl⟩ (Nat.le_of_ble_eq_true rfl) rfl dX6_sings_8 (fun r8 _ => ?_)
  refine r_if_eq (pc := 11) hE 29 dX6_sings_11 (by decide) (fun _ => ?_) (fun _ => ?_)
  · refine r_iconst (v := -1) (pc := 29) hE dX6_sings_29 (by decide) ?_
    exact r_iret (pc := 30) hE dX6_sings_30
  · refine r_iload_n (pc := 14) hE dX6_sings_14 rfl ?_
    refine r_if_lt (pc := 15) hE 29 dX6_sings_15 (by decide) (fun _ => ?_) (fun _ => ?_)
    · refine r_iconst (v := -1) (pc := 29) hE dX6_sings_29 (by decide) ?_
      exact r_iret (pc := 30) hE dX6_sings_30
    · refine r_iload_n (pc := 18) hE dX6_sings_18 rfl ?_
      refine r_aload_n (pc := 19) hE dX6_sings_19 rfl ?_
      refine r_getR (pc := 20) hE 6 2 (by decide) (by decide) (fun _ _ _ => rfl) fl_RX6_26 dX6_sings_20 (fun v20 _ => ?_)
      refine r_getI (pc := 23) hE 0 0 (by decide) (by decide) (fun _ _ _ => rfl) fl_RX6_100 dX6_sings_23 (fun v23 _ => ?_)
      refine r_icmp_lt (pc := 26) hE 31 dX6_sings_26 (by decide) (fun _ => ?_) (fun _ => ?_)
      · refine r_aload_n (pc := 31) hE dX6_sings_31 rfl ?_
        refine r_getR (pc := 32) hE 6 0 (by decide) (by decide) (fun _ _ _ => rfl) fl_RX6_12 dX6_sings_32 (fun v32 _ => ?_)
        refine r_getJ (pc := 35) hE 4 5 (by decide) (by decide) (fun _ _ _ => rfl) fl_RX6_97 dX6_sings_35 (fun v35 _ => ?_)
        refine r_aload_n (pc := 38) hE dX6_sings_38 rfl ?_
        refine r_getI (pc := 39) hE 6 6 (by decide) (by decide) (fun _ _ _ => rfl) fl_RX6_56 dX6_sings_39 (fun v39 _ => ?_)
        refine r_callS (pc := 42) hE (As := [.long v35, .int v39]) (fun out ho => c_X6_has _ _ fu _ _ _ out ho) cs_RX6_125 ⟨Nat.le_of_ble_eq_true rfl, Nat.le_of_ble_eq_true rfl, Nat.le_of_ble_eq_true rfl, Nat.le_of_ble_eq_true rfl⟩ (Nat.le_of_ble_eq_true rfl) rfl dX6_sings_42 (fun r42 _ => ?_)
        refine r_if_eq (pc := 45) hE 51 dX6_sings_45 (by decide) (fun _ => ?_) (fun _ => ?_)
        · refine r_iload_n (pc := 51) hE dX6_sings_51 rfl ?_
          refine r_istore_n (pc := 52) hE dX6_sings_52 (by decide) ?_
          exact w_X6_sings_53 hE fu _ _ _ _ ⟨rfl, ⟨rfl, trivial⟩⟩
        · refine r_bipush (v := 9) (pc := 48) hE dX6_sings_48 (by decide) ?_
          exact r_iret (pc := 50) hE dX6_sings_50
      · refine r_iconst (v := -1) (pc := 29) hE dX6_sings_29 (by decide) ?_
        exact r_iret (pc := 30) hE dX6_sings_30
theorem k_X6_sings {fu : Nat} {x0 : Nat} {x1 : Int32} {h : Hp} {out : Int32 × Hp} (ho : f_X6_sings fu x0 x1 h = some out) : h.K x0 = 6 := (gi_k ho).1
theorem nw_RX6_209 : Cond.classLink RX6 209 (RF 5) ∈ TB ∧ Cond.instantiable (RF 5) (nF 5) ∈ TB ∧ Cond.initialized (RF 5) ∈ TB := ⟨tb_in (by decide +kernel) rfl, tb_in (by decide +kernel) rfl, tb_in (by decide +kernel) rfl⟩
theorem cs_RX6_211 : csIN RX6 211 yX5_init cX5_init 1 0 = true := by decide +kernel
theorem cs_RX6_212 : csV RX6 212 yX5_shortest cX5_shortest 5 (some .int) 3 = true := by decide +kernel
theorem fl_RX6_216 : Cond.fieldLink RX6 216 (TF 5 0).1 (TF 5 0).2.1 (TF 5 0).2.2.1 ∈ TB := tb_in (by decide +kernel) rfl
def rm_X6_blind : Room := { frames := 6, cells := 6, slots := 13119, locals := 160 }
def f_X6_blind_52 (fu : Nat) (x0 : Nat) (x1 : Int32) (x2 : Int32) (h : Hp) : Option (Int32 × Hp) :=
  (gR h 6 x0 8).bind fun v53 =>
  (gR h 6 x0 0).bind fun v57 =>
  (gJ h 6 x0 4).bind fun v61 =>
  (f_X6_watchNow fu x0 h).bind fun r65 =>
  (f_X5_shortest fu v53 v57 v61 r65.1 r65.2).bind fun r68 =>
  if r68.1 < 0 then
    some (r68.1, r68.2)
  else
    if x1 = 0 then
      some (r68.1, r68.2)
    else
      if r68.1 ≤ x2 then
        some ((-2), r68.2)
      else
        (gR r68.2 6 x0 8).bind fun v92 =>
        (gR r68.2 5 v92 0).bind fun v95 =>
        (aI r68.2 8 v95 x2).bind fun v99 =>
        some (v99, r68.2)
set_option maxHeartbeats 4000000 in
set_option maxRecDepth 100000 in
theorem w_X6_blind_52 {X : Cx} {D : Dx} (hE : En X D cX6_blind 5 RX6 (some .int) rm_X6_blind) {fu : Nat} (x0 : Nat) (x1 : Int32) (x2 : Int32) (h : Hp) {lv : List (Option Value)} (hlv : lvLe [some (.ref x0), some (.int x1), some (.int x2), none, none] lv) : Wo X D 5 (Qr X D 6 13119 evI) 6 13119 (f_X6_blind_52 fu x0 x1 x2 h) 52 lv [] h := by
  refine Wo_sub hlv ?_
  unfold f_X6_blind_52
  refine r_aload_n (pc := 52) hE dX6_blind_52 rfl ?_
  refine r_getR (pc := 53) hE 6 8 (by decide) (by decide) (fun _ _ _ => rfl) fl_RX6_37 dX6_blind_53 (fun v53 _ => ?_)
  refine r_aload_n (pc := 56) hE dX6_blind_56 rfl ?_
  refine r_getR (pc := 57) hE 6 0 (by decide) (by decide) (fun _ _ _ => rfl) fl_RX6_12 dX6_blind_57 (fun v57 _ => ?_)
  refine r_aload_n (pc := 60) hE dX6_blind_60 rfl ?_
  refine r_getJ (pc := 61) hE 6 4 (by decide) (by decide) (fun _ _ _ => rfl) fl_RX6_49 dX6_blind_61 (fun v61 _ => ?_)
  refine r_aload_n (pc := 64) hE dX6_blind_64 rfl ?_
  refine r_callV (pc := 65) hE 6 (As := []) (fun out ho => c_X6_watchNow _ _ fu _ _ out ho) (fun out ho => k_X6_watchNow ho) (by decide) rfl cs_RX6_129 ⟨Nat.le_of_ble_eq_true rfl, Nat.le_of_ble_eq_true rfl, Nat.le_of_ble_eq_true rfl, Nat.le_of_ble_eq_true rfl⟩ (Nat.le_of_ble_eq_true rfl) rfl dX6_blind_65 (fun r65 _ => ?_)
  refine r_callV (pc := 68) hE 5 (As := [.ref v57, .long v61, .int r65.1]) (fun out ho => c_X5_shortest _ _ fu _ _ _ _ _ out ho) (fun out ho => k_X5_shortest ho) (by decide) rfl cs_RX6_212 ⟨Nat.le_of_ble_eq_true rfl, Nat.le_of_ble_eq_true rfl, Nat.le_of_ble_eq_true rfl, Nat.le_of_ble_eq_true rfl⟩ (Nat.le_of_ble_eq_true rfl) rfl dX6_blind_68 (fun r68 _ => ?_)
  refine r_istore (pc := 71) hE dX6_blind_71 (by decide) ?_
  refine r_iload (pc := 73) hE dX6_blind_73 rfl ?_
  refine r_if_lt (pc := 75) hE 82 dX6_blind_75 (by decide) (fun _ => ?_) (fun _ => ?_)
  · refine r_iload (pc := 82) hE dX6_blind_82 rfl ?_
    exact r_iret (pc := 84) hE dX6_blind_84
  · refine r_iload_n (pc := 78) hE dX6_blind_78 rfl ?_
    refine r_if_ne (pc := 79) hE 85 dX6_blind_79 (by decide) (fun _ => ?_) (fun _ => ?_)
    · refine r_iload_n (pc := 85) hE dX6_blind_85 rfl ?_
      refine r_iload (pc := 86) hE dX6_blind_86 rfl ?_
      refine r_icmp_ge (pc := 88) hE 103 dX6_blind_88 (by decide) (fun _ => ?_) (fun _ => ?_)
      · refine r_bipush (v := -2) (pc := 103) hE dX6_blind_103 (by decide) ?_
        exact r_iret (pc := 105) hE dX6_blind_105
      · refine r_aload_n (pc := 91) hE dX6_blind_91 rfl ?_
        refine r_getR (pc := 92) hE 6 8 (by decide) (by decide) (fun _ _ _ => rfl) fl_RX6_37 dX6_blind_92 (fun v92 _ => ?_)
        refine r_getR (pc := 95) hE 5 0 (by decide) (by decide) (fun _ _ _ => rfl) fl_RX6_216 dX6_blind_95 (fun v95 _ => ?_)
        refine r_iload_n (pc := 98) hE dX6_blind_98 rfl ?_
        refine r_aldI (pc := 99) hE dX6_blind_99 (fun v99 _ => ?_)
        refine r_goto (pc := 100) hE 105 dX6_blind_100 (by decide) ?_
        exact r_iret (pc := 105) hE dX6_blind_105
    · refine r_iload (pc := 82) hE dX6_blind_82 rfl ?_
      exact r_iret (pc := 84) hE dX6_blind_84
def f_X6_blind_34 (fu : Nat) (x0 : Nat) (x1 : Int32) (x2 : Int32) (h : Hp) : Option (Int32 × Hp) :=
  (gQ h 6 x0 8).bind fun v35 =>
  Option.elim v35
    (
    (f_X5_init fu (Hp.N h) (newC h 5 0)).bind fun r46 =>
    (pR r46.2 6 x0 8 (some (Hp.N h))).bind fun h49 =>
    f_X6_blind_52 fu x0 x1 x2 h49
    )
    (fun _ =>
    f_X6_blind_52 fu x0 x1 x2 h
    )
set_option maxHeartbeats 4000000 in
set_option maxRecDepth 100000 in
theorem w_X6_blind_34 {X : Cx} {D : Dx} (hE : En X D cX6_blind 5 RX6 (some .int) rm_X6_blind) {fu : Nat} (x0 : Nat) (x1 : Int32) (x2 : Int32) (h : Hp) {lv : List (Option Value)} (hlv : lvLe [some (.ref x0), some (.int x1), some (.int x2), none, none] lv) : Wo X D 5 (Qr X D 6 13119 evI) 0 0 (f_X6_blind_34 fu x0 x1 x2 h) 34 lv [] h := by
  refine Wo_sub hlv ?_
  unfold f_X6_blind_34
  refine r_aload_n (pc := 34) hE dX6_blind_34 rfl ?_
  refine r_getQ (pc := 35) hE 6 8 (by decide) (by decide) (fun _ _ _ => rfl) fl_RX6_37 dX6_blind_35 (fun v35 _ => ?_)
  refine r_ifnonnull (pc := 38) hE 52 dX6_blind_38 (by decide) (fun _ => ?_) (fun _ _ => ?_)
  · refine r_aload_n (pc := 41) hE dX6_blind_41 rfl ?_
    refine r_new (pc := 42) hE 5 (by decide) nw_RX6_209 ⟨Nat.le_of_ble_eq_true rfl, Nat.le_of_ble_eq_true rfl⟩ dX6_blind_42 ?_
    refine r_dup (pc := 45) hE dX6_blind_45 rfl ?_
    refine r_callIN (pc := 46) hE (As := []) (fun out ho => c_X5_init _ _ fu _ _ out ho) cs_RX6_211 ⟨Nat.le_of_ble_eq_true rfl, Nat.le_of_ble_eq_true rfl, Nat.le_of_ble_eq_true rfl, Nat.le_of_ble_eq_true rfl⟩ (Nat.le_of_ble_eq_true rfl) rfl dX6_blind_46 (fun r46 _ => ?_)
    refine r_putR (pc := 49) hE 6 8 (by decide) (by decide) (fun _ _ _ => rfl) fl_RX6_37 rfl rfl rfl dX6_blind_49 (fun h49 _ => ?_)
    exact w_X6_blind_52 hE _ _ _ _ ⟨rfl, ⟨rfl, ⟨rfl, trivial⟩⟩⟩
  · refine Wo_widen (c2 := 6) (s2 := 13119) (Nat.le_of_ble_eq_true rfl) (Nat.le_of_ble_eq_true rfl) ?_
    exact w_X6_blind_52 hE _ _ _ _ ⟨rfl, ⟨rfl, ⟨rfl, trivial⟩⟩⟩
def f_X6_blind_22 (fu : Nat) (x0 : Nat) (x1 : Int32) (x2 : Int32) (s0 : Int32) (h : Hp) : Option (Int32 × Hp) :=
  if x1 = 0 then
    f_X6_blind_34 fu x0 x1 x2 h
  else
    if s0 = 0 then
      some ((-2), h)
    else
      f_X6_blind_34 fu x0 x1 x2 h
set_option maxHeartbeats 4000000 in
set_option maxRecDepth 100000 in
theorem w_X6_blind_22 {X : Cx} {D : Dx} (hE : En X D cX6_blind 5 RX6 (some .int) rm_X6_blind) {fu : Nat} (x0 : Nat) (x1 : Int32) (x2 : Int32) (s0 : Int32) (h : Hp) {lv : List (Option Value)} (hlv : lvLe [some (.ref x0), some (.int x1), some (.int x2), none, none] lv) : Wo X D 5 (Qr X D 6 13119 evI) 0 0 (f_X6_blind_22 fu x0 x1 x2 s0 h) 22 lv [.int s0] h := by
  refine Wo_sub hlv ?_
  unfold f_X6_blind_22
  refine r_istore_n (pc := 22) hE dX6_blind_22 (by decide) ?_
  refine r_iload_n (pc := 23) hE dX6_blind_23 rfl ?_
  refine r_if_eq (pc := 24) hE 34 dX6_blind_24 (by decide) (fun _ => ?_) (fun _ => ?_)
  · exact w_X6_blind_34 hE _ _ _ _ ⟨rfl, ⟨rfl, ⟨rfl, trivial⟩⟩⟩
  · refine r_iload_n (pc := 27) hE dX6_blind_27 rfl ?_
    refine r_if_ne (pc := 28) hE 34 dX6_blind_28 (by decide) (fun _ => ?_) (fun _ => ?_)
    · exact w_X6_blind_34 hE _ _ _ _ ⟨rfl, ⟨rfl, ⟨rfl, trivial⟩⟩⟩
    · refine r_bipush (v := -2) (pc := 31) hE dX6_blind_31 (by decide) ?_
      refine Wo_widen (c2 := 6) (s2 := 13119) (Nat.le_of_ble_eq_true rfl) (Nat.le_of_ble_eq_true rfl) ?_
      exact r_iret (pc := 33) hE dX6_blind_33
def f_X6_blind_21 (fu : Nat) (x0 : Nat) (x1 : Int32) (x2 : Int32) (h : Hp) : Option (Int32 × Hp) :=
  f_X6_blind_22 fu x0 x1 x2 0 h
set_option maxHeartbeats 4000000 in
set_option maxRecDepth 100000 in
theorem w_X6_blind_21 {X : Cx} {D : Dx} (hE : En X D cX6_blind 5 RX6 (some .int) rm_X6_blind) {fu : Nat} (x0 : Nat) (x1 : Int32) (x2 : Int32) (h : Hp) {lv : List (Option Value)} (hlv : lvLe [some (.ref x0), some (.int x1), some (.int x2), none, none] lv) : Wo X D 5 (Qr X D 6 13119 evI) 0 0 (f_X6_blind_21 fu x0 x1 x2 h) 21 lv [] h := by
  refine Wo_sub hlv ?_
  unfold f_X6_blind_21
  refine r_iconst (v := 0) (pc := 21) hE dX6_blind_21 (by decide) ?_
  exact w_X6_blind_22 hE _ _ _ _ _ ⟨rfl, ⟨rfl, ⟨rfl, trivial⟩⟩⟩
def f_X6_blind (fu : Nat) (x0 : Nat) (x1 : Int32) (h : Hp) : Option (Int32 × Hp) :=
  if h.K x0 = 6 then
    if x1 < 10 then
      f_X6_blind_21 fu x0 x1 ((x1 - 10)) h
    else
      if 12 ≤ (x1 - 10) then
        f_X6_blind_21 fu x0 x1 ((x1 - 10)) h
      else
        f_X6_blind_22 fu x0 x1 ((x1 - 10)) 1 h
  else none
set_option maxHeartbeats 4000000 in
set_option maxRecDepth 100000 in
theorem c_X6_blind (l : Launch) (D : Dx) (fu : Nat) (x0 : Nat) (x1 : Int32) (h : Hp) (out : Int32 × Hp) (ho : f_X6_blind fu x0 x1 h = some out) : Ct l D yX6_blind cX6_blind 5 (some .int) rm_X6_blind [.ref x0, .int x1] h (evI out.1) out.2 := by
  refine Ct.of (o := f_X6_blind fu x0 x1 h) (lv := [some (.ref x0), some (.int x1), none, none, none]) (by decide) (Nat.le_of_ble_eq_true rfl) rfl ?_ out ho
  intro X hXl hE hin
  replace hE : En X D cX6_blind 5 RX6 (some .int) rm_X6_blind := hE
  subst hXl
  unfold f_X6_blind
  refine Wo_grd (fun _ => ?_)
  refine r_iload_n (pc := 0) hE dX6_blind_0 rfl ?_
  refine r_bipush (v := 10) (pc := 1) hE dX6_blind_1 (by decide) ?_
  refine r_isub (pc := 3) hE dX6_blind_3 ?_
  refine r_istore_n (pc := 4) hE dX6_blind_4 (by decide) ?_
  refine r_iload_n (pc := 5) hE dX6_blind_5 rfl ?_
  refine r_bipush (v := 10) (pc := 6) hE dX6_blind_6 (by decide) ?_
  refine r_icmp_lt (pc := 8) hE 21 dX6_blind_8 (by decide) (fun _ => ?_) (fun _ => ?_)
  · exact w_X6_blind_21 hE _ _ _ _ ⟨rfl, ⟨rfl, ⟨rfl, trivial⟩⟩⟩
  · refine r_iload_n (pc := 11) hE dX6_blind_11 rfl ?_
    refine r_bipush (v := 12) (pc := 12) hE dX6_blind_12 (by decide) ?_
    refine r_icmp_ge (pc := 14) hE 21 dX6_blind_14 (by decide) (fun _ => ?_) (fun _ => ?_)
    · exact w_X6_blind_21 hE _ _ _ _ ⟨rfl, ⟨rfl, ⟨rfl, trivial⟩⟩⟩
    · refine r_iconst (v := 1) (pc := 17) hE dX6_blind_17 (by decide) ?_
      refine r_goto (pc := 18) hE 22 dX6_blind_18 (by decide) ?_
      exact w_X6_blind_22 hE _ _ _ _ _ ⟨rfl, ⟨rfl, ⟨rfl, trivial⟩⟩⟩
theorem k_X6_blind {fu : Nat} {x0 : Nat} {x1 : Int32} {h : Hp} {out : Int32 × Hp} (ho : f_X6_blind fu x0 x1 h = some out) : h.K x0 = 6 := (gi_k ho).1
