theorem oi_RX7_1 : Cond.methodLink RX7 1 objectInit ∈ TB ∧ Cond.instanceMethod objectInit ∈ TB ∧ Cond.code objectInit ⟨#[0xb1]⟩ 1 none ∈ TB := ⟨tb_in (by decide +kernel) rfl, tb_in (by decide +kernel) rfl, tb_in (by decide +kernel) rfl⟩
theorem fl_RX7_7 : Cond.fieldLink RX7 7 (TF 7 1).1 (TF 7 1).2.1 (TF 7 1).2.2.1 ∈ TB := tb_in (by decide +kernel) rfl
theorem fl_RX7_13 : Cond.fieldLink RX7 13 (TF 7 2).1 (TF 7 2).2.1 (TF 7 2).2.2.1 ∈ TB := tb_in (by decide +kernel) rfl
theorem ct_RX7_16 : Cond.constantLong RX7 16 (65535) ∈ TB := tb_in (by decide +kernel) rfl
theorem fl_RX7_18 : Cond.fieldLink RX7 18 (TF 7 4).1 (TF 7 4).2.1 (TF 7 4).2.2.1 ∈ TB := tb_in (by decide +kernel) rfl
theorem fl_RX7_22 : Cond.fieldLink RX7 22 (TF 7 5).1 (TF 7 5).2.1 (TF 7 5).2.2.1 ∈ TB := tb_in (by decide +kernel) rfl
theorem fl_RX7_25 : Cond.fieldLink RX7 25 (TF 7 8).1 (TF 7 8).2.1 (TF 7 8).2.2.1 ∈ TB := tb_in (by decide +kernel) rfl
theorem fl_RX7_29 : Cond.fieldLink RX7 29 (TF 7 9).1 (TF 7 9).2.1 (TF 7 9).2.2.1 ∈ TB := tb_in (by decide +kernel) rfl
theorem fl_RX7_32 : Cond.fieldLink RX7 32 (TF 7 10).1 (TF 7 10).2.1 (TF 7 10).2.2.1 ∈ TB := tb_in (by decide +kernel) rfl
theorem fl_RX7_35 : Cond.fieldLink RX7 35 (TF 7 12).1 (TF 7 12).2.1 (TF 7 12).2.2.1 ∈ TB := tb_in (by decide +kernel) rfl
theorem fl_RX7_38 : Cond.fieldLink RX7 38 (TF 7 13).1 (TF 7 13).2.1 (TF 7 13).2.2.1 ∈ TB := tb_in (by decide +kernel) rfl
theorem fl_RX7_41 : Cond.fieldLink RX7 41 (TF 7 14).1 (TF 7 14).2.1 (TF 7 14).2.2.1 ∈ TB := tb_in (by decide +kernel) rfl
theorem fl_RX7_44 : Cond.fieldLink RX7 44 (TF 7 15).1 (TF 7 15).2.1 (TF 7 15).2.2.1 ∈ TB := tb_in (by decide +kernel) rfl
theorem fl_RX7_47 : Cond.fieldLink RX7 47 (TF 7 17).1 (TF 7 17).2.1 (TF 7 17).2.2.1 ∈ TB := tb_in (by decide +kernel) rfl
theorem fl_RX7_50 : Cond.fieldLink RX7 50 (TF 7 18).1 (TF 7 18).2.1 (TF 7 18).2.2.1 ∈ TB := tb_in (by decide +kernel) rfl
theorem fl_RX7_53 : Cond.fieldLink RX7 53 (TF 7 19).1 (TF 7 19).2.1 (TF 7 19).2.2.1 ∈ TB := tb_in (by decide +kernel) rfl
theorem fl_RX7_56 : Cond.fieldLink RX7 56 (TF 7 20).1 (TF 7 20).2.1 (TF 7 20).2.2.1 ∈ TB := tb_in (by decide +kernel) rfl
theorem fl_RX7_59 : Cond.fieldLink RX7 59 (TF 7 21).1 (TF 7 21).2.1 (TF 7 21).2.2.1 ∈ TB := tb_in (by decide +kernel) rfl
theorem fl_RX7_62 : Cond.fieldLink RX7 62 (TF 7 28).1 (TF 7 28).2.1 (TF 7 28).2.2.1 ∈ TB := tb_in (by decide +kernel) rfl
theorem fl_RX7_65 : Cond.fieldLink RX7 65 (TF 7 29).1 (TF 7 29).2.1 (TF 7 29).2.2.1 ∈ TB := tb_in (by decide +kernel) rfl
theorem fl_RX7_68 : Cond.fieldLink RX7 68 (TF 7 30).1 (TF 7 30).2.1 (TF 7 30).2.2.1 ∈ TB := tb_in (by decide +kernel) rfl
theorem fl_RX7_71 : Cond.fieldLink RX7 71 (TF 7 32).1 (TF 7 32).2.1 (TF 7 32).2.2.1 ∈ TB := tb_in (by decide +kernel) rfl
theorem fl_RX7_75 : Cond.fieldLink RX7 75 (TF 7 33).1 (TF 7 33).2.1 (TF 7 33).2.2.1 ∈ TB := tb_in (by decide +kernel) rfl
theorem fl_RX7_78 : Cond.fieldLink RX7 78 (TF 7 34).1 (TF 7 34).2.1 (TF 7 34).2.2.1 ∈ TB := tb_in (by decide +kernel) rfl
theorem fl_RX7_81 : Cond.fieldLink RX7 81 (TF 7 35).1 (TF 7 35).2.1 (TF 7 35).2.2.1 ∈ TB := tb_in (by decide +kernel) rfl
theorem fl_RX7_84 : Cond.fieldLink RX7 84 (TF 7 37).1 (TF 7 37).2.1 (TF 7 37).2.2.1 ∈ TB := tb_in (by decide +kernel) rfl
def rm_X7_init : Room := { frames := 1, cells := 19, slots := 45410, locals := 12 }
def f_X7_init (fu : Nat) (x0 : Nat) (h : Hp) : Option (Unit × Hp) :=
  if h.K x0 = 7 then
    (pI h 7 x0 1 4).bind fun h6 =>
    (pI h6 7 x0 2 4).bind fun h11 =>
    (pJ h11 7 x0 4 65535).bind fun h18 =>
    (pI h18 7 x0 5 (-1)).bind fun h23 =>
    (pR (newC h23 8 64) 7 x0 8 (some (Hp.N h23))).bind fun h31 =>
    (pR (newC h31 8 64) 7 x0 9 (some (Hp.N h31))).bind fun h39 =>
    (sI (newC h39 8 6) 8 (Hp.N h39) 0 16).bind fun h51 =>
    (sI h51 8 (Hp.N h39) 1 16).bind fun h56 =>
    (sI h56 8 (Hp.N h39) 2 16).bind fun h61 =>
    (sI h61 8 (Hp.N h39) 3 16).bind fun h66 =>
    (sI h66 8 (Hp.N h39) 4 16).bind fun h71 =>
    (sI h71 8 (Hp.N h39) 5 16).bind fun h76 =>
    (pR h76 7 x0 10 (some (Hp.N h39))).bind fun h77 =>
    (pR (newC h77 8 12) 7 x0 12 (some (Hp.N h77))).bind fun h85 =>
    (pR (newC h85 8 12) 7 x0 13 (some (Hp.N h85))).bind fun h93 =>
    (pR (newC h93 8 12) 7 x0 14 (some (Hp.N h93))).bind fun h101 =>
    (pR (newC h101 8 12) 7 x0 15 (some (Hp.N h101))).bind fun h109 =>
    (pR (newC h109 8 12) 7 x0 17 (some (Hp.N h109))).bind fun h117 =>
    (pR (newC h117 8 12) 7 x0 18 (some (Hp.N h117))).bind fun h125 =>
    (pR (newC h125 8 12) 7 x0 19 (some (Hp.N h125))).bind fun h133 =>
    (pR (newC h133 8 12) 7 x0 20 (some (Hp.N h133))).bind fun h141 =>
    (pR (newC h141 8 400) 7 x0 21 (some (Hp.N h141))).bind fun h150 =>
    (pI h150 7 x0 28 (-1)).bind fun h155 =>
    (pR (newC h155 8 16384) 7 x0 29 (some (Hp.N h155))).bind fun h164 =>
    (pR (newC h164 8 16384) 7 x0 30 (some (Hp.N h164))).bind fun h173 =>
    (pR (newC h173 9 3000) 7 x0 32 (some (Hp.N h173))).bind fun h182 =>
    (pR (newC h182 8 3000) 7 x0 33 (some (Hp.N h182))).bind fun h191 =>
    (pR (newC h191 8 3000) 7 x0 34 (some (Hp.N h191))).bind fun h200 =>
    (pR (newC h200 8 3000) 7 x0 35 (some (Hp.N h200))).bind fun h209 =>
    (pR (newC h209 8 12) 7 x0 37 (some (Hp.N h209))).bind fun h217 =>
    some ((), h217)
  else none
set_option maxHeartbeats 4000000 in
set_option maxRecDepth 100000 in
theorem c_X7_init (l : Launch) (D : Dx) (fu : Nat) (x0 : Nat) (h : Hp) (out : Unit × Hp) (ho : f_X7_init fu x0 h = some out) : Ct l D yX7_init cX7_init 1 none rm_X7_init [.ref x0] h (evU out.1) out.2 := by
  refine Ct.of (o := f_X7_init fu x0 h) (lv := [some (.ref x0)]) (by decide) (Nat.le_of_ble_eq_true rfl) rfl ?_ out ho
  intro X hXl hE hin
  replace hE : En X D cX7_init 1 RX7 none rm_X7_init := hE
  subst hXl
  replace hin : X.meth.name = "<init>" := hin
  unfold f_X7_init
  refine Wo_grd (fun _ => ?_)
  refine r_aload_n (pc := 0) hE dX7_init_0 rfl ?_
  refine r_objInit (pc := 1) hE oi_RX7_1 ⟨Nat.le_of_ble_eq_true rfl, Nat.le_of_ble_eq_true rfl⟩ dX7_init_1 ?_
  refine r_aload_n (pc := 4) hE dX7_init_4 rfl ?_
  refine r_iconst (v := 4) (pc := 5) hE dX7_init_5 (by decide) ?_
  refine r_putI (pc := 6) hE 7 1 (by decide) (by decide) (fun _ _ _ => rfl) fl_RX7_7 rfl rfl rfl dX7_init_6 (fun h6 _ => ?_)
  refine r_aload_n (pc := 9) hE dX7_init_9 rfl ?_
  refine r_iconst (v := 4) (pc := 10) hE dX7_init_10 (by decide) ?_
  refine r_putI (pc := 11) hE 7 2 (by decide) (by decide) (fun _ _ _ => rfl) fl_RX7_13 rfl rfl rfl dX7_init_11 (fun h11 _ => ?_)
  refine r_aload_n (pc := 14) hE dX7_init_14 rfl ?_
  refine r_ldc2 (v := 65535) (pc := 15) hE ct_RX7_16 dX7_init_15 ?_
  refine r_putJ (pc := 18) hE 7 4 (by decide) (by decide) (fun _ _ _ => rfl) fl_RX7_18 rfl rfl rfl dX7_init_18 (fun h18 _ => ?_)
  refine r_aload_n (pc := 21) hE dX7_init_21 rfl ?_
  refine r_iconst (v := -1) (pc := 22) hE dX7_init_22 (by decide) ?_
  refine r_putI (pc := 23) hE 7 5 (by decide) (by decide) (fun _ _ _ => rfl) fl_RX7_22 rfl rfl rfl dX7_init_23 (fun h23 _ => ?_)
  refine r_aload_n (pc := 26) hE dX7_init_26 rfl ?_
  refine r_bipush (v := 64) (pc := 27) hE dX7_init_27 (by decide) ?_
  refine r_newI (pc := 29) hE 64 (by decide) (by decide) (by decide) ar8 ⟨Nat.le_of_ble_eq_true rfl, Nat.le_of_ble_eq_true rfl⟩ dX7_init_29 ?_
  refine r_putF (pc := 31) hE hin 7 8 (by decide) (by decide) rfl (fun _ _ _ => rfl) fl_RX7_25 rfl rfl rfl dX7_init_31 (fun h31 _ => ?_)
  refine r_aload_n (pc := 34) hE dX7_init_34 rfl ?_
  refine r_bipush (v := 64) (pc := 35) hE dX7_init_35 (by decide) ?_
  refine r_newI (pc := 37) hE 64 (by decide) (by decide) (by decide) ar8 ⟨Nat.le_of_ble_eq_true rfl, Nat.le_of_ble_eq_true rfl⟩ dX7_init_37 ?_
  refine r_putF (pc := 39) hE hin 7 9 (by decide) (by decide) rfl (fun _ _ _ => rfl) fl_RX7_29 rfl rfl rfl dX7_init_39 (fun h39 _ => ?_)
  refine r_aload_n (pc := 42) hE dX7_init_42 rfl ?_
  refine r_bipush (v := 6) (pc := 43) hE dX7_init_43 (by decide) ?_
  refine r_newI (pc := 45) hE 6 (by decide) (by decide) (by decide) ar8 ⟨Nat.le_of_ble_eq_true rfl, Nat.le_of_ble_eq_true rfl⟩ dX7_init_45 ?_
  refine r_dup (pc := 47) hE dX7_init_47 rfl ?_
  refine r_iconst (v := 0) (pc := 48) hE dX7_init_48 (by decide) ?_
  refine r_bipush (v := 16) (pc := 49) hE dX7_init_49 (by decide) ?_
  refine r_astI (pc := 51) hE dX7_init_51 (fun h51 _ => ?_)
  refine r_dup (pc := 52) hE dX7_init_52 rfl ?_
  refine r_iconst (v := 1) (pc := 53) hE dX7_init_53 (by decide) ?_
  refine r_bipush (v := 16) (pc := 54) hE dX7_init_54 (by decide) ?_
  refine r_astI (pc := 56) hE dX7_init_56 (fun h56 _ => ?_)
  refine r_dup (pc := 57) hE dX7_init_57 rfl ?_
  refine r_iconst (v := 2) (pc := 58) hE dX7_init_58 (by decide) ?_
  refine r_bipush (v := 16) (pc := 59) hE dX7_init_59 (by decide) ?_
  refine r_astI (pc := 61) hE dX7_init_61 (fun h61 _ => ?_)
  refine r_dup (pc := 62) hE dX7_init_62 rfl ?_
  refine r_iconst (v := 3) (pc := 63) hE dX7_init_63 (by decide) ?_
  refine r_bipush (v := 16) (pc := 64) hE dX7_init_64 (by decide) ?_
  refine r_astI (pc := 66) hE dX7_init_66 (fun h66 _ => ?_)
  refine r_dup (pc := 67) hE dX7_init_67 rfl ?_
  refine r_iconst (v := 4) (pc := 68) hE dX7_init_68 (by decide) ?_
  refine r_bipush (v := 16) (pc := 69) hE dX7_init_69 (by decide) ?_
  refine r_astI (pc := 71) hE dX7_init_71 (fun h71 _ => ?_)
  refine r_dup (pc := 72) hE dX7_init_72 rfl ?_
  refine r_iconst (v := 5) (pc := 73) hE dX7_init_73 (by decide) ?_
  refine r_bipush (v := 16) (pc := 74) hE dX7_init_74 (by decide) ?_
  refine r_astI (pc := 76) hE dX7_init_76 (fun h76 _ => ?_)
  refine r_putF (pc := 77) hE hin 7 10 (by decide) (by decide) rfl (fun _ _ _ => rfl) fl_RX7_32 rfl rfl rfl dX7_init_77 (fun h77 _ => ?_)
  refine r_aload_n (pc := 80) hE dX7_init_80 rfl ?_
  refine r_bipush (v := 12) (pc := 81) hE dX7_init_81 (by decide) ?_
  refine r_newI (pc := 83) hE 12 (by decide) (by decide) (by decide) ar8 ⟨Nat.le_of_ble_eq_true rfl, Nat.le_of_ble_eq_true rfl⟩ dX7_init_83 ?_
  refine r_putF (pc := 85) hE hin 7 12 (by decide) (by decide) rfl (fun _ _ _ => rfl) fl_RX7_35 rfl rfl rfl dX7_init_85 (fun h85 _ => ?_)
  refine r_aload_n (pc := 88) hE dX7_init_88 rfl ?_
  refine r_bipush (v := 12) (pc := 89) hE dX7_init_89 (by decide) ?_
  refine r_newI (pc := 91) hE 12 (by decide) (by decide) (by decide) ar8 ⟨Nat.le_of_ble_eq_true rfl, Nat.le_of_ble_eq_true rfl⟩ dX7_init_91 ?_
  refine r_putF (pc := 93) hE hin 7 13 (by decide) (by decide) rfl (fun _ _ _ => rfl) fl_RX7_38 rfl rfl rfl dX7_init_93 (fun h93 _ => ?_)
  refine r_aload_n (pc := 96) hE dX7_init_96 rfl ?_
  refine r_bipush (v := 12) (pc := 97) hE dX7_init_97 (by decide) ?_
  refine r_newI (pc := 99) hE 12 (by decide) (by decide) (by decide) ar8 ⟨Nat.le_of_ble_eq_true rfl, Nat.le_of_ble_eq_true rfl⟩ dX7_init_99 ?_
  refine r_putF (pc := 101) hE hin 7 14 (by decide) (by decide) rfl (fun _ _ _ => rfl) fl_RX7_41 rfl rfl rfl dX7_init_101 (fun h101 _ => ?_)
  refine r_aload_n (pc := 104) hE dX7_init_104 rfl ?_
  refine r_bipush (v := 12) (pc := 105) hE dX7_init_105 (by decide) ?_
  refine r_newI (pc := 107) hE 12 (by decide) (by decide) (by decide) ar8 ⟨Nat.le_of_ble_eq_true rfl, Nat.le_of_ble_eq_true rfl⟩ dX7_init_107 ?_
  refine r_putF (pc := 109) hE hin 7 15 (by decide) (by decide) rfl (fun _ _ _ => rfl) fl_RX7_44 rfl rfl rfl dX7_init_109 (fun h109 _ => ?_)
  refine r_aload_n (pc := 112) hE dX7_init_112 rfl ?_
  refine r_bipush (v := 12) (pc := 113) hE dX7_init_113 (by decide) ?_
  refine r_newI (pc := 115) hE 12 (by decide) (by decide) (by decide) ar8 ⟨Nat.le_of_ble_eq_true rfl, Nat.le_of_ble_eq_true rfl⟩ dX7_init_115 ?_
  refine r_putF (pc := 117) hE hin 7 17 (by decide) (by decide) rfl (fun _ _ _ => rfl) fl_RX7_47 rfl rfl rfl dX7_init_117 (fun h117 _ => ?_)
  refine r_aload_n (pc := 120) hE dX7_init_120 rfl ?_
  refine r_bipush (v := 12) (pc := 121) hE dX7_init_121 (by decide) ?_
  refine r_newI (pc := 123) hE 12 (by decide) (by decide) (by decide) ar8 ⟨Nat.le_of_ble_eq_true rfl, Nat.le_of_ble_eq_true rfl⟩ dX7_init_123 ?_
  refine r_putF (pc := 125) hE hin 7 18 (by decide) (by decide) rfl (fun _ _ _ => rfl) fl_RX7_50 rfl rfl rfl dX7_init_125 (fun h125 _ => ?_)
  refine r_aload_n (pc := 128) hE dX7_init_128 rfl ?_
  refine r_bipush (v := 12) (pc := 129) hE dX7_init_129 (by decide) ?_
  refine r_newI (pc := 131) hE 12 (by decide) (by decide) (by decide) ar8 ⟨Nat.le_of_ble_eq_true rfl, Nat.le_of_ble_eq_true rfl⟩ dX7_init_131 ?_
  refine r_putF (pc := 133) hE hin 7 19 (by decide) (by decide) rfl (fun _ _ _ => rfl) fl_RX7_53 rfl rfl rfl dX7_init_133 (fun h133 _ => ?_)
  refine r_aload_n (pc := 136) hE dX7_init_136 rfl ?_
  refine r_bipush (v := 12) (pc := 137) hE dX7_init_137 (by decide) ?_
  refine r_newI (pc := 139) hE 12 (by decide) (by decide) (by decide) ar8 ⟨Nat.le_of_ble_eq_true rfl, Nat.le_of_ble_eq_true rfl⟩ dX7_init_139 ?_
  refine r_putF (pc := 141) hE hin 7 20 (by decide) (by decide) rfl (fun _ _ _ => rfl) fl_RX7_56 rfl rfl rfl dX7_init_141 (fun h141 _ => ?_)
  refine r_aload_n (pc := 144) hE dX7_init_144 rfl ?_
  refine r_sipush (v := 400) (pc := 145) hE dX7_init_145 (by decide) ?_
  refine r_newI (pc := 148) hE 400 (by decide) (by decide) (by decide) ar8 ⟨Nat.le_of_ble_eq_true rfl, Nat.le_of_ble_eq_true rfl⟩ dX7_init_148 ?_
  refine r_putF (pc := 150) hE hin 7 21 (by decide) (by decide) rfl (fun _ _ _ => rfl) fl_RX7_59 rfl rfl rfl dX7_init_150 (fun h150 _ => ?_)
  refine r_aload_n (pc := 153) hE dX7_init_153 rfl ?_
  refine r_iconst (v := -1) (pc := 154) hE dX7_init_154 (by decide) ?_
  refine r_putI (pc := 155) hE 7 28 (by decide) (by decide) (fun _ _ _ => rfl) fl_RX7_62 rfl rfl rfl dX7_init_155 (fun h155 _ => ?_)
  refine r_aload_n (pc := 158) hE dX7_init_158 rfl ?_
  refine r_sipush (v := 16384) (pc := 159) hE dX7_init_159 (by decide) ?_
  refine r_newI (pc := 162) hE 16384 (by decide) (by decide) (by decide) ar8 ⟨Nat.le_of_ble_eq_true rfl, Nat.le_of_ble_eq_true rfl⟩ dX7_init_162 ?_
  refine r_putF (pc := 164) hE hin 7 29 (by decide) (by decide) rfl (fun _ _ _ => rfl) fl_RX7_65 rfl rfl rfl dX7_init_164 (fun h164 _ => ?_)
  refine r_aload_n (pc := 167) hE dX7_init_167 rfl ?_
  refine r_sipush (v := 16384) (pc := 168) hE dX7_init_168 (by decide) ?_
  refine r_newI (pc := 171) hE 16384 (by decide) (by decide) (by decide) ar8 ⟨Nat.le_of_ble_eq_true rfl, Nat.le_of_ble_eq_true rfl⟩ dX7_init_171 ?_
  refine r_putF (pc := 173) hE hin 7 30 (by decide) (by decide) rfl (fun _ _ _ => rfl) fl_RX7_68 rfl rfl rfl dX7_init_173 (fun h173 _ => ?_)
  refine r_aload_n (pc := 176) hE dX7_init_176 rfl ?_
  refine r_sipush (v := 3000) (pc := 177) hE dX7_init_177 (by decide) ?_
  refine r_newJ (pc := 180) hE 3000 (by decide) (by decide) (by decide) ar9 ⟨Nat.le_of_ble_eq_true rfl, Nat.le_of_ble_eq_true rfl⟩ dX7_init_180 ?_
  refine r_putF (pc := 182) hE hin 7 32 (by decide) (by decide) rfl (fun _ _ _ => rfl) fl_RX7_71 rfl rfl rfl dX7_init_182 (fun h182 _ => ?_)
  refine r_aload_n (pc := 185) hE dX7_init_185 rfl ?_
  refine r_sipush (v := 3000) (pc := 186) hE dX7_init_186 (by decide) ?_
  refine r_newI (pc := 189) hE 3000 (by decide) (by decide) (by decide) ar8 ⟨Nat.le_of_ble_eq_true rfl, Nat.le_of_ble_eq_true rfl⟩ dX7_init_189 ?_
  refine r_putF (pc := 191) hE hin 7 33 (by decide) (by decide) rfl (fun _ _ _ => rfl) fl_RX7_75 rfl rfl rfl dX7_init_191 (fun h191 _ => ?_)
  refine r_aload_n (pc := 194) hE dX7_init_194 rfl ?_
  refine r_sipush (v := 3000) (pc := 195) hE dX7_init_195 (by decide) ?_
  refine r_newI (pc := 198) hE 3000 (by decide) (by decide) (by decide) ar8 ⟨Nat.le_of_ble_eq_true rfl, Nat.le_of_ble_eq_true rfl⟩ dX7_init_198 ?_
  refine r_putF (pc := 200) hE hin 7 34 (by decide) (by decide) rfl (fun _ _ _ => rfl) fl_RX7_78 rfl rfl rfl dX7_init_200 (fun h200 _ => ?_)
  refine r_aload_n (pc := 203) hE dX7_init_203 rfl ?_
  refine r_sipush (v := 3000) (pc := 204) hE dX7_init_204 (by decide) ?_
  refine r_newI (pc := 207) hE 3000 (by decide) (by decide) (by decide) ar8 ⟨Nat.le_of_ble_eq_true rfl, Nat.le_of_ble_eq_true rfl⟩ dX7_init_207 ?_
  refine r_putF (pc := 209) hE hin 7 35 (by decide) (by decide) rfl (fun _ _ _ => rfl) fl_RX7_81 rfl rfl rfl dX7_init_209 (fun h209 _ => ?_)
  refine r_aload_n (pc := 212) hE dX7_init_212 rfl ?_
  refine r_bipush (v := 12) (pc := 213) hE dX7_init_213 (by decide) ?_
  refine r_newI (pc := 215) hE 12 (by decide) (by decide) (by decide) ar8 ⟨Nat.le_of_ble_eq_true rfl, Nat.le_of_ble_eq_true rfl⟩ dX7_init_215 ?_
  refine r_putF (pc := 217) hE hin 7 37 (by decide) (by decide) rfl (fun _ _ _ => rfl) fl_RX7_84 rfl rfl rfl dX7_init_217 (fun h217 _ => ?_)
  exact r_vret (pc := 220) hE dX7_init_220
theorem k_X7_init {fu : Nat} {x0 : Nat} {h : Hp} {out : Unit × Hp} (ho : f_X7_init fu x0 h = some out) : h.K x0 = 7 := (gi_k ho).1
def rm_X7_cells : Room := { frames := 0, cells := 0, slots := 0, locals := 0 }
def f_X7_cells (fu : Nat) (x0 : Nat) (h : Hp) : Option (Int32 × Hp) :=
  if h.K x0 = 7 then
    (gI h 7 x0 1).bind fun v1 =>
    (gI h 7 x0 2).bind fun v5 =>
    some ((v1 * v5), h)
  else none
set_option maxHeartbeats 4000000 in
set_option maxRecDepth 100000 in
theorem c_X7_cells (l : Launch) (D : Dx) (fu : Nat) (x0 : Nat) (h : Hp) (out : Int32 × Hp) (ho : f_X7_cells fu x0 h = some out) : Ct l D yX7_cells cX7_cells 1 (some .int) rm_X7_cells [.ref x0] h (evI out.1) out.2 := by
  refine Ct.of (o := f_X7_cells fu x0 h) (lv := [some (.ref x0)]) (by decide) (Nat.le_of_ble_eq_true rfl) rfl ?_ out ho
  intro X hXl hE hin
  replace hE : En X D cX7_cells 1 RX7 (some .int) rm_X7_cells := hE
  subst hXl
  unfold f_X7_cells
  refine Wo_grd (fun _ => ?_)
  refine r_aload_n (pc := 0) hE dX7_cells_0 rfl ?_
  refine r_getI (pc := 1) hE 7 1 (by decide) (by decide) (fun _ _ _ => rfl) fl_RX7_7 dX7_cells_1 (fun v1 _ => ?_)
  refine r_aload_n (pc := 4) hE dX7_cells_4 rfl ?_
  refine r_getI (pc := 5) hE 7 2 (by decide) (by decide) (fun _ _ _ => rfl) fl_RX7_13 dX7_cells_5 (fun v5 _ => ?_)
  refine r_imul (pc := 8) hE dX7_cells_8 ?_
  exact r_iret (pc := 9) hE dX7_cells_9
theorem k_X7_cells {fu : Nat} {x0 : Nat} {h : Hp} {out : Int32 × Hp} (ho : f_X7_cells fu x0 h = some out) : h.K x0 = 7 := (gi_k ho).1
theorem cs_RX7_90 : csV RX7 90 yX7_cells cX7_cells 1 (some .int) 0 = true := by decide +kernel
def rm_X7_isCell : Room := { frames := 1, cells := 0, slots := 0, locals := 20 }
def f_X7_isCell (fu : Nat) (x0 : Nat) (x1 : Int32) (h : Hp) : Option (Int32 × Hp) :=
  if h.K x0 = 7 then
    if x1 < 0 then
      some (0, h)
    else
      (f_X7_cells fu x0 h).bind fun r6 =>
      if r6.1 ≤ x1 then
        some (0, r6.2)
      else
        some (1, r6.2)
  else none
set_option maxHeartbeats 4000000 in
set_option maxRecDepth 100000 in
theorem c_X7_isCell (l : Launch) (D : Dx) (fu : Nat) (x0 : Nat) (x1 : Int32) (h : Hp) (out : Int32 × Hp) (ho : f_X7_isCell fu x0 x1 h = some out) : Ct l D yX7_isCell cX7_isCell 2 (some .boolean) rm_X7_isCell [.ref x0, .int x1] h (evI out.1) out.2 := by
  refine Ct.of (o := f_X7_isCell fu x0 x1 h) (lv := [some (.ref x0), some (.int x1)]) (by decide) (Nat.le_of_ble_eq_true rfl) rfl ?_ out ho
  intro X hXl hE hin
  replace hE : En X D cX7_isCell 2 RX7 (some .boolean) rm_X7_isCell := hE
  subst hXl
  unfold f_X7_isCell
  refine Wo_grd (fun _ => ?_)
  refine r_iload_n (pc := 0) hE dX7_isCell_0 rfl ?_
  refine r_if_lt (pc := 1) hE 16 dX7_isCell_1 (by decide) (fun _ => ?_) (fun _ => ?_)
  · refine r_iconst (v := 0) (pc := 16) hE dX7_isCell_16 (by decide) ?_
    exact r_zret (pc := 17) hE (by decide) dX7_isCell_17
  · refine r_iload_n (pc := 4) hE dX7_isCell_4 rfl ?_
    refine r_aload_n (pc := 5) hE dX7_isCell_5 rfl ?_
    refine r_callV (pc := 6) hE 7 (As := []) (fun out ho => c_X7_cells _ _ fu _ _ out ho) (fun out ho => k_X7_cells ho) (by decide) rfl cs_RX7_90 ⟨Nat.le_of_ble_eq_true rfl, Nat.le_of_ble_eq_true rfl, Nat.le_of_ble_eq_true rfl, Nat.le_of_ble_eq_true rfl⟩ (Nat.le_of_ble_eq_true rfl) rfl dX7_isCell_6 (fun r6 _ => ?_)
    refine r_icmp_ge (pc := 9) hE 16 dX7_isCell_9 (by decide) (fun _ => ?_) (fun _ => ?_)
    · refine r_iconst (v := 0) (pc := 16) hE dX7_isCell_16 (by decide) ?_
      exact r_zret (pc := 17) hE (by decide) dX7_isCell_17
    · refine r_iconst (v := 1) (pc := 12) hE dX7_isCell_12 (by decide) ?_
      refine r_goto (pc := 13) hE 17 dX7_isCell_13 (by decide) ?_
      exact r_zret (pc := 17) hE (by decide) dX7_isCell_17
theorem k_X7_isCell {fu : Nat} {x0 : Nat} {x1 : Int32} {h : Hp} {out : Int32 × Hp} (ho : f_X7_isCell fu x0 x1 h = some out) : h.K x0 = 7 := (gi_k ho).1
def rm_X7_isLand : Room := { frames := 0, cells := 0, slots := 0, locals := 0 }
def f_X7_isLand (fu : Nat) (x0 : Nat) (x1 : Int32) (h : Hp) : Option (Int32 × Hp) :=
  if h.K x0 = 7 then
    (gR h 7 x0 8).bind fun v1 =>
    (aI h 8 v1 x1).bind fun v5 =>
    if v5 ≤ 0 then
      some (0, h)
    else
      some (1, h)
  else none
set_option maxHeartbeats 4000000 in
set_option maxRecDepth 100000 in
theorem c_X7_isLand (l : Launch) (D : Dx) (fu : Nat) (x0 : Nat) (x1 : Int32) (h : Hp) (out : Int32 × Hp) (ho : f_X7_isLand fu x0 x1 h = some out) : Ct l D yX7_isLand cX7_isLand 2 (some .boolean) rm_X7_isLand [.ref x0, .int x1] h (evI out.1) out.2 := by
  refine Ct.of (o := f_X7_isLand fu x0 x1 h) (lv := [some (.ref x0), some (.int x1)]) (by decide) (Nat.le_of_ble_eq_true rfl) rfl ?_ out ho
  intro X hXl hE hin
  replace hE : En X D cX7_isLand 2 RX7 (some .boolean) rm_X7_isLand := hE
  subst hXl
  unfold f_X7_isLand
  refine Wo_grd (fun _ => ?_)
  refine r_aload_n (pc := 0) hE dX7_isLand_0 rfl ?_
  refine r_getR (pc := 1) hE 7 8 (by decide) (by decide) (fun _ _ _ => rfl) fl_RX7_25 dX7_isLand_1 (fun v1 _ => ?_)
  refine r_iload_n (pc := 4) hE dX7_isLand_4 rfl ?_
  refine r_aldI (pc := 5) hE dX7_isLand_5 (fun v5 _ => ?_)
  refine r_if_le (pc := 6) hE 13 dX7_isLand_6 (by decide) (fun _ => ?_) (fun _ => ?_)
  · refine r_iconst (v := 0) (pc := 13) hE dX7_isLand_13 (by decide) ?_
    exact r_zret (pc := 14) hE (by decide) dX7_isLand_14
  · refine r_iconst (v := 1) (pc := 9) hE dX7_isLand_9 (by decide) ?_
    refine r_goto (pc := 10) hE 14 dX7_isLand_10 (by decide) ?_
    exact r_zret (pc := 14) hE (by decide) dX7_isLand_14
theorem k_X7_isLand {fu : Nat} {x0 : Nat} {x1 : Int32} {h : Hp} {out : Int32 × Hp} (ho : f_X7_isLand fu x0 x1 h = some out) : h.K x0 = 7 := (gi_k ho).1
theorem ct_RX7_94 : Cond.constantLong RX7 94 (-1) ∈ TB := tb_in (by decide +kernel) rfl
def rm_X7_all : Room := { frames := 1, cells := 0, slots := 0, locals := 20 }
def f_X7_all (fu : Nat) (x0 : Nat) (h : Hp) : Option (Int64 × Hp) :=
  if h.K x0 = 7 then
    (f_X7_cells fu x0 h).bind fun r1 =>
    if r1.1 = 64 then
      some ((-1), r1.2)
    else
      (f_X7_cells fu x0 r1.2).bind fun r17 =>
      some (((lsh 1 r17.1) - 1), r17.2)
  else none
set_option maxHeartbeats 4000000 in
set_option maxRecDepth 100000 in
theorem c_X7_all (l : Launch) (D : Dx) (fu : Nat) (x0 : Nat) (h : Hp) (out : Int64 × Hp) (ho : f_X7_all fu x0 h = some out) : Ct l D yX7_all cX7_all 1 (some .long) rm_X7_all [.ref x0] h (evJ out.1) out.2 := by
  refine Ct.of (o := f_X7_all fu x0 h) (lv := [some (.ref x0)]) (by decide) (Nat.le_of_ble_eq_true rfl) rfl ?_ out ho
  intro X hXl hE hin
  replace hE : En X D cX7_all 1 RX7 (some .long) rm_X7_all := hE
  subst hXl
  unfold f_X7_all
  refine Wo_grd (fun _ => ?_)
  refine r_aload_n (pc := 0) hE dX7_all_0 rfl ?_
  refine r_callV (pc := 1) hE 7 (As := []) (fun out ho => c_X7_cells _ _ fu _ _ out ho) (fun out ho => k_X7_cells ho) (by decide) rfl cs_RX7_90 ⟨Nat.le_of_ble_eq_true rfl, Nat.le_of_ble_eq_true rfl, Nat.le_of_ble_eq_true rfl, Nat.le_of_ble_eq_true rfl⟩ (Nat.le_of_ble_eq_true rfl) rfl dX7_all_1 (fun r1 _ => ?_)
  refine r_bipush (v := 64) (pc := 4) hE dX7_all_4 (by decide) ?_
  refine r_icmp_ne (pc := 6) hE 15 dX7_all_6 (by decide) (fun _ => ?_) (fun _ => ?_)
  · refine r_lconst (v := 1) (pc := 15) hE dX7_all_15 rfl ?_
    refine r_aload_n (pc := 16) hE dX7_all_16 rfl ?_
    refine r_callV (pc := 17) hE 7 (As := []) (fun out ho => c_X7_cells _ _ fu _ _ out ho) (fun out ho => k_X7_cells ho) (by decide) rfl cs_RX7_90 ⟨Nat.le_of_ble_eq_true rfl, Nat.le_of_ble_eq_true rfl, Nat.le_of_ble_eq_true rfl, Nat.le_of_ble_eq_true rfl⟩ (Nat.le_of_ble_eq_true rfl) rfl dX7_all_17 (fun r17 _ => ?_)
    refine r_lshl (pc := 20) hE dX7_all_20 ?_
    refine r_lconst (v := 1) (pc := 21) hE dX7_all_21 rfl ?_
    refine r_lsub (pc := 22) hE dX7_all_22 ?_
    exact r_lret (pc := 23) hE dX7_all_23
  · refine r_ldc2 (v := -1) (pc := 9) hE ct_RX7_94 dX7_all_9 ?_
    refine r_goto (pc := 12) hE 23 dX7_all_12 (by decide) ?_
    exact r_lret (pc := 23) hE dX7_all_23
theorem k_X7_all {fu : Nat} {x0 : Nat} {h : Hp} {out : Int64 × Hp} (ho : f_X7_all fu x0 h = some out) : h.K x0 = 7 := (gi_k ho).1
def rm_X7_has : Room := { frames := 0, cells := 0, slots := 0, locals := 0 }
def f_X7_has (fu : Nat) (x0 : Nat) (x1 : Int64) (x3 : Int32) (h : Hp) : Option (Int32 × Hp) :=
  if h.K x0 = 7 then
    if (lg_cmp ((lush x1 x3) &&& 1) 1) = 0 then
      some (1, h)
    else
      some (0, h)
  else none
set_option maxHeartbeats 4000000 in
set_option maxRecDepth 100000 in
theorem c_X7_has (l : Launch) (D : Dx) (fu : Nat) (x0 : Nat) (x1 : Int64) (x3 : Int32) (h : Hp) (out : Int32 × Hp) (ho : f_X7_has fu x0 x1 x3 h = some out) : Ct l D yX7_has cX7_has 4 (some .boolean) rm_X7_has [.ref x0, .long x1, .int x3] h (evI out.1) out.2 := by
  refine Ct.of (o := f_X7_has fu x0 x1 x3 h) (lv := [some (.ref x0), some (.long x1), none, some (.int x3)]) (by decide) (Nat.le_of_ble_eq_true rfl) rfl ?_ out ho
  intro X hXl hE hin
  replace hE : En X D cX7_has 4 RX7 (some .boolean) rm_X7_has := hE
  subst hXl
  unfold f_X7_has
  refine Wo_grd (fun _ => ?_)
  refine r_lload_n (pc := 0) hE dX7_has_0 rfl ?_
  refine r_iload_n (pc := 1) hE dX7_has_1 rfl ?_
  refine r_lushr (pc := 2) hE dX7_has_2 ?_
  refine r_lconst (v := 1) (pc := 3) hE dX7_has_3 rfl ?_
  refine r_land (pc := 4) hE dX7_has_4 ?_
  refine r_lconst (v := 1) (pc := 5) hE dX7_has_5 rfl ?_
  refine r_lcmp (pc := 6) hE dX7_has_6 ?_
  refine r_if_ne (pc := 7) hE 14 dX7_has_7 (by decide) (fun _ => ?_) (fun _ => ?_)
  · refine r_iconst (v := 0) (pc := 14) hE dX7_has_14 (by decide) ?_
    exact r_zret (pc := 15) hE (by decide) dX7_has_15
  · refine r_iconst (v := 1) (pc := 10) hE dX7_has_10 (by decide) ?_
    refine r_goto (pc := 11) hE 15 dX7_has_11 (by decide) ?_
    exact r_zret (pc := 15) hE (by decide) dX7_has_15
theorem k_X7_has {fu : Nat} {x0 : Nat} {x1 : Int64} {x3 : Int32} {h : Hp} {out : Int32 × Hp} (ho : f_X7_has fu x0 x1 x3 h = some out) : h.K x0 = 7 := (gi_k ho).1
theorem cs_RX7_96 : csV RX7 96 yX7_has cX7_has 4 (some .boolean) 2 = true := by decide +kernel
def rm_X7_count : Room := { frames := 1, cells := 0, slots := 0, locals := 23 }
def f_X7_count_26 (fu : Nat) (k5 : Nat → Int64 → Int32 → Int32 → Hp → Option (Int32 × Hp)) (x0 : Nat) (x1 : Int64) (x3 : Int32) (x4 : Int32) (h : Hp) : Option (Int32 × Hp) :=
  k5 x0 x1 x3 ((x4 + 1)) h
set_option maxHeartbeats 4000000 in
set_option maxRecDepth 100000 in
theorem w_X7_count_26 {X : Cx} {D : Dx} (hE : En X D cX7_count 5 RX7 (some .int) rm_X7_count) {fu : Nat} {k5 : Nat → Int64 → Int32 → Int32 → Hp → Option (Int32 × Hp)} (hk5 : ∀ (x0 : Nat) (x1 : Int64) (x3 : Int32) (x4 : Int32) (h : Hp) (lv : List (Option Value)), lvLe [some (.ref x0), some (.long x1), none, some (.int x3), some (.int x4)] lv → Wo X D 5 (Qr X D 0 0 evI) 0 0 (k5 x0 x1 x3 x4 h) 5 lv [] h) (x0 : Nat) (x1 : Int64) (x3 : Int32) (x4 : Int32) (h : Hp) {lv : List (Option Value)} (hlv : lvLe [some (.ref x0), some (.long x1), none, some (.int x3), some (.int x4)] lv) : Wo X D 5 (Qr X D 0 0 evI) 0 0 (f_X7_count_26 fu k5 x0 x1 x3 x4 h) 26 lv [] h := by
  refine Wo_sub hlv ?_
  unfold f_X7_count_26
  refine r_iinc (v := (x4 + 1)) (pc := 26) hE dX7_count_26 rfl rfl (by decide) ?_
  refine r_goto (pc := 29) hE 5 dX7_count_29 (by decide) ?_
  exact hk5 _ _ _ _ _ _ ⟨rfl, ⟨rfl, ⟨rfl, ⟨rfl, trivial⟩⟩⟩⟩
def f_X7_count_5 (fu : Nat) : Nat → Nat → Int64 → Int32 → Int32 → Hp → Option (Int32 × Hp)
  | 0, _, _, _, _, _ => none
  | n + 1, x0, x1, x3, x4, h =>
    if 64 ≤ x4 then
      some (x3, h)
    else
      (f_X7_has fu x0 x1 x4 h).bind fun r16 =>
      if r16.1 = 0 then
        f_X7_count_26 fu (fun y0 y1 y2 y3 hy => f_X7_count_5 fu n y0 y1 y2 y3 hy) x0 x1 x3 x4 r16.2
      else
        f_X7_count_26 fu (fun y0 y1 y2 y3 hy => f_X7_count_5 fu n y0 y1 y2 y3 hy) x0 x1 ((x3 + 1)) x4 r16.2
set_option maxHeartbeats 4000000 in
set_option maxRecDepth 100000 in
theorem w_X7_count_5 {X : Cx} {D : Dx} (hE : En X D cX7_count 5 RX7 (some .int) rm_X7_count) {fu : Nat} : ∀ (n : Nat) (x0 : Nat) (x1 : Int64) (x3 : Int32) (x4 : Int32) (h : Hp) (lv : List (Option Value)), lvLe [some (.ref x0), some (.long x1), none, some (.int x3), some (.int x4)] lv → Wo X D 5 (Qr X D 0 0 evI) 0 0 (f_X7_count_5 fu n x0 x1 x3 x4 h) 5 lv [] h := by
  intro n
  induction n with
  | zero => intros; exact Wo_none
  | succ n ih =>
    intro x0 x1 x3 x4 h lv hlv
    refine Wo_sub hlv ?_
    rw [f_X7_count_5]
    refine r_iload (pc := 5) hE dX7_count_5 rfl ?_
    refine r_bipush (v := 64) (pc := 7) hE dX7_count_7 (by decide) ?_
    refine r_icmp_ge (pc := 9) hE 32 dX7_count_9 (by decide) (fun _ => ?_) (fun _ => ?_)
    · refine r_iload_n (pc := 32) hE dX7_count_32 rfl ?_
      exact r_iret (pc := 33) hE dX7_count_33
    · refine r_aload_n (pc := 12) hE dX7_count_12 rfl ?_
      refine r_lload_n (pc := 13) hE dX7_count_13 rfl ?_
      refine r_iload (pc := 14) hE dX7_count_14 rfl ?_
      refine r_callV (pc := 16) hE 7 (As := [.long x1, .int x4]) (fun out ho => c_X7_has _ _ fu _ _ _ _ out ho) (fun out ho => k_X7_has ho) (by decide) rfl cs_RX7_96 ⟨Nat.le_of_ble_eq_true rfl, Nat.le_of_ble_eq_true rfl, Nat.le_of_ble_eq_true rfl, Nat.le_of_ble_eq_true rfl⟩ (Nat.le_of_ble_eq_true rfl) rfl dX7_count_16 (fun r16 _ => ?_)
      refine r_if_eq (pc := 19) hE 26 dX7_count_19 (by decide) (fun _ => ?_) (fun _ => ?_)
      · exact w_X7_count_26 hE (fun y0 y1 y2 y3 hy lvy hly => ih y0 y1 y2 y3 hy lvy hly) _ _ _ _ _ ⟨rfl, ⟨rfl, ⟨rfl, ⟨rfl, trivial⟩⟩⟩⟩
      · refine r_iload_n (pc := 22) hE dX7_count_22 rfl ?_
        refine r_iconst (v := 1) (pc := 23) hE dX7_count_23 (by decide) ?_
        refine r_iadd (pc := 24) hE dX7_count_24 ?_
        refine r_istore_n (pc := 25) hE dX7_count_25 (by decide) ?_
        exact w_X7_count_26 hE (fun y0 y1 y2 y3 hy lvy hly => ih y0 y1 y2 y3 hy lvy hly) _ _ _ _ _ ⟨rfl, ⟨rfl, ⟨rfl, ⟨rfl, trivial⟩⟩⟩⟩
def f_X7_count (fu : Nat) (x0 : Nat) (x1 : Int64) (h : Hp) : Option (Int32 × Hp) :=
  if h.K x0 = 7 then
    f_X7_count_5 fu fu x0 x1 0 0 h
  else none
set_option maxHeartbeats 4000000 in
set_option maxRecDepth 100000 in
theorem c_X7_count (l : Launch) (D : Dx) (fu : Nat) (x0 : Nat) (x1 : Int64) (h : Hp) (out : Int32 × Hp) (ho : f_X7_count fu x0 x1 h = some out) : Ct l D yX7_count cX7_count 5 (some .int) rm_X7_count [.ref x0, .long x1] h (evI out.1) out.2 := by
  refine Ct.of (o := f_X7_count fu x0 x1 h) (lv := [some (.ref x0), some (.long x1), none, none, none]) (by decide) (Nat.le_of_ble_eq_true rfl) rfl ?_ out ho
  intro X hXl hE hin
  replace hE : En X D cX7_count 5 RX7 (some .int) rm_X7_count := hE
  subst hXl
  unfold f_X7_count
  refine Wo_grd (fun _ => ?_)
  refine r_iconst (v := 0) (pc := 0) hE dX7_count_0 (by decide) ?_
  refine r_istore_n (pc := 1) hE dX7_count_1 (by decide) ?_
  refine r_iconst (v := 0) (pc := 2) hE dX7_count_2 (by decide) ?_
  refine r_istore (pc := 3) hE dX7_count_3 (by decide) ?_
  exact w_X7_count_5 hE fu _ _ _ _ _ _ ⟨rfl, ⟨rfl, ⟨rfl, ⟨rfl, trivial⟩⟩⟩⟩
theorem k_X7_count {fu : Nat} {x0 : Nat} {x1 : Int64} {h : Hp} {out : Int32 × Hp} (ho : f_X7_count fu x0 x1 h = some out) : h.K x0 = 7 := (gi_k ho).1
theorem fl_RX7_87 : Cond.fieldLink RX7 87 (TF 7 0).1 (TF 7 0).2.1 (TF 7 0).2.2.1 ∈ TB := tb_in (by decide +kernel) rfl
theorem fl_RX7_100 : Cond.fieldLink RX7 100 (TF 7 3).1 (TF 7 3).2.1 (TF 7 3).2.2.1 ∈ TB := tb_in (by decide +kernel) rfl
theorem fl_RX7_103 : Cond.fieldLink RX7 103 (TF 7 6).1 (TF 7 6).2.1 (TF 7 6).2.2.1 ∈ TB := tb_in (by decide +kernel) rfl
theorem fl_RX7_106 : Cond.fieldLink RX7 106 (TF 7 7).1 (TF 7 7).2.1 (TF 7 7).2.2.1 ∈ TB := tb_in (by decide +kernel) rfl
theorem cs_RX7_109 : csV RX7 109 yX7_all cX7_all 1 (some .long) 0 = true := by decide +kernel
def rm_X7_sea : Room := { frames := 2, cells := 0, slots := 0, locals := 40 }
def f_X7_sea_97 (fu : Nat) : Nat → Nat → Int32 → Hp → Option (Int32 × Hp)
  | 0, _, _, _ => none
  | n + 1, x0, x3, h =>
    if 6 ≤ x3 then
      some (1, h)
    else
      (gR h 7 x0 10).bind fun v104 =>
      (sI h 8 v104 x3 16).bind fun h110 =>
      f_X7_sea_97 fu n x0 ((x3 + 1)) h110
set_option maxHeartbeats 4000000 in
set_option maxRecDepth 100000 in
theorem w_X7_sea_97 {X : Cx} {D : Dx} (hE : En X D cX7_sea 4 RX7 (some .boolean) rm_X7_sea) {fu : Nat} : ∀ (n : Nat) (x0 : Nat) (x3 : Int32) (h : Hp) (lv : List (Option Value)), lvLe [some (.ref x0), none, none, some (.int x3)] lv → Wo X D 4 (Qr X D 0 0 evI) 0 0 (f_X7_sea_97 fu n x0 x3 h) 97 lv [] h := by
  intro n
  induction n with
  | zero => intros; exact Wo_none
  | succ n ih =>
    intro x0 x3 h lv hlv
    refine Wo_sub hlv ?_
    rw [f_X7_sea_97]
    refine r_iload_n (pc := 97) hE dX7_sea_97 rfl ?_
    refine r_bipush (v := 6) (pc := 98) hE dX7_sea_98 (by decide) ?_
    refine r_icmp_ge (pc := 100) hE 117 dX7_sea_100 (by decide) (fun _ => ?_) (fun _ => ?_)
    · refine r_iconst (v := 1) (pc := 117) hE dX7_sea_117 (by decide) ?_
      exact r_zret (pc := 118) hE (by decide) dX7_sea_118
    · refine r_aload_n (pc := 103) hE dX7_sea_103 rfl ?_
      refine r_getR (pc := 104) hE 7 10 (by decide) (by decide) (fun _ _ _ => rfl) fl_RX7_32 dX7_sea_104 (fun v104 _ => ?_)
      refine r_iload_n (pc := 107) hE dX7_sea_107 rfl ?_
      refine r_bipush (v := 16) (pc := 108) hE dX7_sea_108 (by decide) ?_
      refine r_astI (pc := 110) hE dX7_sea_110 (fun h110 _ => ?_)
      refine r_iinc (v := (x3 + 1)) (pc := 111) hE dX7_sea_111 rfl rfl (by decide) ?_
      refine r_goto (pc := 114) hE 97 dX7_sea_114 (by decide) ?_
      exact ih _ _ _ _ ⟨rfl, ⟨rfl, trivial⟩⟩
def f_X7_sea_69 (fu : Nat) : Nat → Nat → Int32 → Hp → Option (Int32 × Hp)
  | 0, _, _, _ => none
  | n + 1, x0, x3, h =>
    if 64 ≤ x3 then
      f_X7_sea_97 fu fu x0 0 h
    else
      (gR h 7 x0 8).bind fun v76 =>
      (sI h 8 v76 x3 0).bind fun h81 =>
      (gR h81 7 x0 9).bind fun v83 =>
      (sI h81 8 v83 x3 0).bind fun h88 =>
      f_X7_sea_69 fu n x0 ((x3 + 1)) h88
set_option maxHeartbeats 4000000 in
set_option maxRecDepth 100000 in
theorem w_X7_sea_69 {X : Cx} {D : Dx} (hE : En X D cX7_sea 4 RX7 (some .boolean) rm_X7_sea) {fu : Nat} : ∀ (n : Nat) (x0 : Nat) (x3 : Int32) (h : Hp) (lv : List (Option Value)), lvLe [some (.ref x0), none, none, some (.int x3)] lv → Wo X D 4 (Qr X D 0 0 evI) 0 0 (f_X7_sea_69 fu n x0 x3 h) 69 lv [] h := by
  intro n
  induction n with
  | zero => intros; exact Wo_none
  | succ n ih =>
    intro x0 x3 h lv hlv
    refine Wo_sub hlv ?_
    rw [f_X7_sea_69]
    refine r_iload_n (pc := 69) hE dX7_sea_69 rfl ?_
    refine r_bipush (v := 64) (pc := 70) hE dX7_sea_70 (by decide) ?_
    refine r_icmp_ge (pc := 72) hE 95 dX7_sea_72 (by decide) (fun _ => ?_) (fun _ => ?_)
    · refine r_iconst (v := 0) (pc := 95) hE dX7_sea_95 (by decide) ?_
      refine r_istore_n (pc := 96) hE dX7_sea_96 (by decide) ?_
      exact w_X7_sea_97 hE fu _ _ _ _ ⟨rfl, ⟨rfl, trivial⟩⟩
    · refine r_aload_n (pc := 75) hE dX7_sea_75 rfl ?_
      refine r_getR (pc := 76) hE 7 8 (by decide) (by decide) (fun _ _ _ => rfl) fl_RX7_25 dX7_sea_76 (fun v76 _ => ?_)
      refine r_iload_n (pc := 79) hE dX7_sea_79 rfl ?_
      refine r_iconst (v := 0) (pc := 80) hE dX7_sea_80 (by decide) ?_
      refine r_astI (pc := 81) hE dX7_sea_81 (fun h81 _ => ?_)
      refine r_aload_n (pc := 82) hE dX7_sea_82 rfl ?_
      refine r_getR (pc := 83) hE 7 9 (by decide) (by decide) (fun _ _ _ => rfl) fl_RX7_29 dX7_sea_83 (fun v83 _ => ?_)
      refine r_iload_n (pc := 86) hE dX7_sea_86 rfl ?_
      refine r_iconst (v := 0) (pc := 87) hE dX7_sea_87 (by decide) ?_
      refine r_astI (pc := 88) hE dX7_sea_88 (fun h88 _ => ?_)
      refine r_iinc (v := (x3 + 1)) (pc := 89) hE dX7_sea_89 rfl rfl (by decide) ?_
      refine r_goto (pc := 92) hE 69 dX7_sea_92 (by decide) ?_
      exact ih _ _ _ _ ⟨rfl, ⟨rfl, trivial⟩⟩
def f_X7_sea (fu : Nat) (x0 : Nat) (x1 : Int32) (x2 : Int32) (h : Hp) : Option (Int32 × Hp) :=
  if h.K x0 = 7 then
    (pI h 7 x0 0 0).bind fun h2 =>
    if x1 < 2 then
      some (0, h2)
    else
      if 8 < x1 then
        some (0, h2)
      else
        if x2 < 2 then
          some (0, h2)
        else
          if x2 ≤ 8 then
            (pI h2 7 x0 1 x1).bind fun h31 =>
            (pI h31 7 x0 2 x2).bind fun h36 =>
            (pI h36 7 x0 3 0).bind fun h41 =>
            (pI h41 7 x0 5 (-1)).bind fun h46 =>
            (pI h46 7 x0 6 0).bind fun h51 =>
            (pI h51 7 x0 7 0).bind fun h56 =>
            (f_X7_all fu x0 h56).bind fun r61 =>
            (pJ r61.2 7 x0 4 r61.1).bind fun h64 =>
            f_X7_sea_69 fu fu x0 0 h64
          else
            some (0, h2)
  else none
set_option maxHeartbeats 4000000 in
set_option maxRecDepth 100000 in
theorem c_X7_sea (l : Launch) (D : Dx) (fu : Nat) (x0 : Nat) (x1 : Int32) (x2 : Int32) (h : Hp) (out : Int32 × Hp) (ho : f_X7_sea fu x0 x1 x2 h = some out) : Ct l D yX7_sea cX7_sea 4 (some .boolean) rm_X7_sea [.ref x0, .int x1, .int x2] h (evI out.1) out.2 := by
  refine Ct.of (o := f_X7_sea fu x0 x1 x2 h) (lv := [some (.ref x0), some (.int x1), some (.int x2), none]) (by decide) (Nat.le_of_ble_eq_true rfl) rfl ?_ out ho
  intro X hXl hE hin
  replace hE : En X D cX7_sea 4 RX7 (some .boolean) rm_X7_sea := hE
  subst hXl
  unfold f_X7_sea
  refine Wo_grd (fun _ => ?_)
  refine r_aload_n (pc := 0) hE dX7_sea_0 rfl ?_
  refine r_iconst (v := 0) (pc := 1) hE dX7_sea_1 (by decide) ?_
  refine r_putI (pc := 2) hE 7 0 (by decide) (by decide) (fun _ _ _ => rfl) fl_RX7_87 rfl rfl rfl dX7_sea_2 (fun h2 _ => ?_)
  refine r_iload_n (pc := 5) hE dX7_sea_5 rfl ?_
  refine r_iconst (v := 2) (pc := 6) hE dX7_sea_6 (by decide) ?_
  refine r_icmp_lt (pc := 7) hE 27 dX7_sea_7 (by decide) (fun _ => ?_) (fun _ => ?_)
  · refine r_iconst (v := 0) (pc := 27) hE dX7_sea_27 (by decide) ?_
    exact r_zret (pc := 28) hE (by decide) dX7_sea_28
  · refine r_iload_n (pc := 10) hE dX7_sea_10 rfl ?_
    refine r_bipush (v := 8) (pc := 11) hE dX7_sea_11 (by decide) ?_
    refine r_icmp_gt (pc := 13) hE 27 dX7_sea_13 (by decide) (fun _ => ?_) (fun _ => ?_)
    · refine r_iconst (v := 0) (pc := 27) hE dX7_sea_27 (by decide) ?_
      exact r_zret (pc := 28) hE (by decide) dX7_sea_28
    · refine r_iload_n (pc := 16) hE dX7_sea_16 rfl ?_
      refine r_iconst (v := 2) (pc := 17) hE dX7_sea_17 (by decide) ?_
      refine r_icmp_lt (pc := 18) hE 27 dX7_sea_18 (by decide) (fun _ => ?_) (fun _ => ?_)
      · refine r_iconst (v := 0) (pc := 27) hE dX7_sea_27 (by decide) ?_
        exact r_zret (pc := 28) hE (by decide) dX7_sea_28
      · refine r_iload_n (pc := 21) hE dX7_sea_21 rfl ?_
        refine r_bipush (v := 8) (pc := 22) hE dX7_sea_22 (by decide) ?_
        refine r_icmp_le (pc := 24) hE 29 dX7_sea_24 (by decide) (fun _ => ?_) (fun _ => ?_)
        · refine r_aload_n (pc := 29) hE dX7_sea_29 rfl ?_
          refine r_iload_n (pc := 30) hE dX7_sea_30 rfl ?_
          refine r_putI (pc := 31) hE 7 1 (by decide) (by decide) (fun _ _ _ => rfl) fl_RX7_7 rfl rfl rfl dX7_sea_31 (fun h31 _ => ?_)
          refine r_aload_n (pc := 34) hE dX7_sea_34 rfl ?_
          refine r_iload_n (pc := 35) hE dX7_sea_35 rfl ?_
          refine r_putI (pc := 36) hE 7 2 (by decide) (by decide) (fun _ _ _ => rfl) fl_RX7_13 rfl rfl rfl dX7_sea_36 (fun h36 _ => ?_)
          refine r_aload_n (pc := 39) hE dX7_sea_39 rfl ?_
          refine r_iconst (v := 0) (pc := 40) hE dX7_sea_40 (by decide) ?_
          refine r_putI (pc := 41) hE 7 3 (by decide) (by decide) (fun _ _ _ => rfl) fl_RX7_100 rfl rfl rfl dX7_sea_41 (fun h41 _ => ?_)
          refine r_aload_n (pc := 44) hE dX7_sea_44 rfl ?_
          refine r_iconst (v := -1) (pc := 45) hE dX7_sea_45 (by decide) ?_
          refine r_putI (pc := 46) hE 7 5 (by decide) (by decide) (fun _ _ _ => rfl) fl_RX7_22 rfl rfl rfl dX7_sea_46 (fun h46 _ => ?_)
          refine r_aload_n (pc := 49) hE dX7_sea_49 rfl ?_
          refine r_iconst (v := 0) (pc := 50) hE dX7_sea_50 (by decide) ?_
          refine r_putI (pc := 51) hE 7 6 (by decide) (by decide) (fun _ _ _ => rfl) fl_RX7_103 rfl rfl rfl dX7_sea_51 (fun h51 _ => ?_)
          refine r_aload_n (pc := 54) hE dX7_sea_54 rfl ?_
          refine r_iconst (v := 0) (pc := 55) hE dX7_sea_55 (by decide) ?_
          refine r_putI (pc := 56) hE 7 7 (by decide) (by decide) (fun _ _ _ => rfl) fl_RX7_106 rfl rfl rfl dX7_sea_56 (fun h56 _ => ?_)
          refine r_aload_n (pc := 59) hE dX7_sea_59 rfl ?_
          refine r_aload_n (pc := 60) hE dX7_sea_60 rfl ?_
          refine r_callV (pc := 61) hE 7 (As := []) (fun out ho => c_X7_all _ _ fu _ _ out ho) (fun out ho => k_X7_all ho) (by decide) rfl cs_RX7_109 ⟨Nat.le_of_ble_eq_true rfl, Nat.le_of_ble_eq_true rfl, Nat.le_of_ble_eq_true rfl, Nat.le_of_ble_eq_true rfl⟩ (Nat.le_of_ble_eq_true rfl) rfl dX7_sea_61 (fun r61 _ => ?_)
          refine r_putJ (pc := 64) hE 7 4 (by decide) (by decide) (fun _ _ _ => rfl) fl_RX7_18 rfl rfl rfl dX7_sea_64 (fun h64 _ => ?_)
          refine r_iconst (v := 0) (pc := 67) hE dX7_sea_67 (by decide) ?_
          refine r_istore_n (pc := 68) hE dX7_sea_68 (by decide) ?_
          exact w_X7_sea_69 hE fu _ _ _ _ ⟨rfl, ⟨rfl, trivial⟩⟩
        · refine r_iconst (v := 0) (pc := 27) hE dX7_sea_27 (by decide) ?_
          exact r_zret (pc := 28) hE (by decide) dX7_sea_28
theorem k_X7_sea {fu : Nat} {x0 : Nat} {x1 : Int32} {x2 : Int32} {h : Hp} {out : Int32 × Hp} (ho : f_X7_sea fu x0 x1 x2 h = some out) : h.K x0 = 7 := (gi_k ho).1
theorem cs_RX7_113 : csV RX7 113 yX7_isCell cX7_isCell 2 (some .boolean) 1 = true := by decide +kernel
def rm_X7_land : Room := { frames := 2, cells := 0, slots := 0, locals := 41 }
def f_X7_land (fu : Nat) (x0 : Nat) (x1 : Int32) (x2 : Int32) (h : Hp) : Option (Int32 × Hp) :=
  if h.K x0 = 7 then
    (pI h 7 x0 0 0).bind fun h2 =>
    (f_X7_isCell fu x0 x1 h2).bind fun r7 =>
    if r7.1 = 0 then
      some (0, r7.2)
    else
      if x2 < (-1) then
        some (0, r7.2)
      else
        if x2 ≤ 3 then
          (gR r7.2 7 x0 8).bind fun v26 =>
          (sI r7.2 8 v26 x1 (x2 + 1)).bind fun h33 =>
          some (1, h33)
        else
          some (0, r7.2)
  else none
set_option maxHeartbeats 4000000 in
set_option maxRecDepth 100000 in
theorem c_X7_land (l : Launch) (D : Dx) (fu : Nat) (x0 : Nat) (x1 : Int32) (x2 : Int32) (h : Hp) (out : Int32 × Hp) (ho : f_X7_land fu x0 x1 x2 h = some out) : Ct l D yX7_land cX7_land 3 (some .boolean) rm_X7_land [.ref x0, .int x1, .int x2] h (evI out.1) out.2 := by
  refine Ct.of (o := f_X7_land fu x0 x1 x2 h) (lv := [some (.ref x0), some (.int x1), some (.int x2)]) (by decide) (Nat.le_of_ble_eq_true rfl) rfl ?_ out ho
  intro X hXl hE hin
  replace hE : En X D cX7_land 3 RX7 (some .boolean) rm_X7_land := hE
  subst hXl
  unfold f_X7_land
  refine Wo_grd (fun _ => ?_)
  refine r_aload_n (pc := 0) hE dX7_land_0 rfl ?_
  refine r_iconst (v := 0) (pc := 1) hE dX7_land_1 (by decide) ?_
  refine r_putI (pc := 2) hE 7 0 (by decide) (by decide) (fun _ _ _ => rfl) fl_RX7_87 rfl rfl rfl dX7_land_2 (fun h2 _ => ?_)
  refine r_aload_n (pc := 5) hE dX7_land_5 rfl ?_
  refine r_iload_n (pc := 6) hE dX7_land_6 rfl ?_
  refine r_callV (pc := 7) hE 7 (As := [.int x1]) (fun out ho => c_X7_isCell _ _ fu _ _ _ out ho) (fun out ho => k_X7_isCell ho) (by decide) rfl cs_RX7_113 ⟨Nat.le_of_ble_eq_true rfl, Nat.le_of_ble_eq_true rfl, Nat.le_of_ble_eq_true rfl, Nat.le_of_ble_eq_true rfl⟩ (Nat.le_of_ble_eq_true rfl) rfl dX7_land_7 (fun r7 _ => ?_)
  refine r_if_eq (pc := 10) hE 23 dX7_land_10 (by decide) (fun _ => ?_) (fun _ => ?_)
  · refine r_iconst (v := 0) (pc := 23) hE dX7_land_23 (by decide) ?_
    exact r_zret (pc := 24) hE (by decide) dX7_land_24
  · refine r_iload_n (pc := 13) hE dX7_land_13 rfl ?_
    refine r_iconst (v := -1) (pc := 14) hE dX7_land_14 (by decide) ?_
    refine r_icmp_lt (pc := 15) hE 23 dX7_land_15 (by decide) (fun _ => ?_) (fun _ => ?_)
    · refine r_iconst (v := 0) (pc := 23) hE dX7_land_23 (by decide) ?_
      exact r_zret (pc := 24) hE (by decide) dX7_land_24
    · refine r_iload_n (pc := 18) hE dX7_land_18 rfl ?_
      refine r_iconst (v := 3) (pc := 19) hE dX7_land_19 (by decide) ?_
      refine r_icmp_le (pc := 20) hE 25 dX7_land_20 (by decide) (fun _ => ?_) (fun _ => ?_)
      · refine r_aload_n (pc := 25) hE dX7_land_25 rfl ?_
        refine r_getR (pc := 26) hE 7 8 (by decide) (by decide) (fun _ _ _ => rfl) fl_RX7_25 dX7_land_26 (fun v26 _ => ?_)
        refine r_iload_n (pc := 29) hE dX7_land_29 rfl ?_
        refine r_iload_n (pc := 30) hE dX7_land_30 rfl ?_
        refine r_iconst (v := 1) (pc := 31) hE dX7_land_31 (by decide) ?_
        refine r_iadd (pc := 32) hE dX7_land_32 ?_
        refine r_astI (pc := 33) hE dX7_land_33 (fun h33 _ => ?_)
        refine r_iconst (v := 1) (pc := 34) hE dX7_land_34 (by decide) ?_
        exact r_zret (pc := 35) hE (by decide) dX7_land_35
      · refine r_iconst (v := 0) (pc := 23) hE dX7_land_23 (by decide) ?_
        exact r_zret (pc := 24) hE (by decide) dX7_land_24
theorem k_X7_land {fu : Nat} {x0 : Nat} {x1 : Int32} {x2 : Int32} {h : Hp} {out : Int32 × Hp} (ho : f_X7_land fu x0 x1 x2 h = some out) : h.K x0 = 7 := (gi_k ho).1
def rm_X7_swell : Room := { frames := 2, cells := 0, slots := 0, locals := 41 }
def f_X7_swell (fu : Nat) (x0 : Nat) (x1 : Int32) (x2 : Int32) (h : Hp) : Option (Int32 × Hp) :=
  if h.K x0 = 7 then
    (pI h 7 x0 0 0).bind fun h2 =>
    (f_X7_isCell fu x0 x1 h2).bind fun r7 =>
    if r7.1 = 0 then
      some (0, r7.2)
    else
      if x2 < 0 then
        some (0, r7.2)
      else
        if x2 ≤ 3 then
          (gR r7.2 7 x0 9).bind fun v25 =>
          (sI r7.2 8 v25 x1 x2).bind fun h30 =>
          some (1, h30)
        else
          some (0, r7.2)
  else none
set_option maxHeartbeats 4000000 in
set_option maxRecDepth 100000 in
theorem c_X7_swell (l : Launch) (D : Dx) (fu : Nat) (x0 : Nat) (x1 : Int32) (x2 : Int32) (h : Hp) (out : Int32 × Hp) (ho : f_X7_swell fu x0 x1 x2 h = some out) : Ct l D yX7_swell cX7_swell 3 (some .boolean) rm_X7_swell [.ref x0, .int x1, .int x2] h (evI out.1) out.2 := by
  refine Ct.of (o := f_X7_swell fu x0 x1 x2 h) (lv := [some (.ref x0), some (.int x1), some (.int x2)]) (by decide) (Nat.le_of_ble_eq_true rfl) rfl ?_ out ho
  intro X hXl hE hin
  replace hE : En X D cX7_swell 3 RX7 (some .boolean) rm_X7_swell := hE
  subst hXl
  unfold f_X7_swell
  refine Wo_grd (fun _ => ?_)
  refine r_aload_n (pc := 0) hE dX7_swell_0 rfl ?_
  refine r_iconst (v := 0) (pc := 1) hE dX7_swell_1 (by decide) ?_
  refine r_putI (pc := 2) hE 7 0 (by decide) (by decide) (fun _ _ _ => rfl) fl_RX7_87 rfl rfl rfl dX7_swell_2 (fun h2 _ => ?_)
  refine r_aload_n (pc := 5) hE dX7_swell_5 rfl ?_
  refine r_iload_n (pc := 6) hE dX7_swell_6 rfl ?_
  refine r_callV (pc := 7) hE 7 (As := [.int x1]) (fun out ho => c_X7_isCell _ _ fu _ _ _ out ho) (fun out ho => k_X7_isCell ho) (by decide) rfl cs_RX7_113 ⟨Nat.le_of_ble_eq_true rfl, Nat.le_of_ble_eq_true rfl, Nat.le_of_ble_eq_true rfl, Nat.le_of_ble_eq_true rfl⟩ (Nat.le_of_ble_eq_true rfl) rfl dX7_swell_7 (fun r7 _ => ?_)
  refine r_if_eq (pc := 10) hE 22 dX7_swell_10 (by decide) (fun _ => ?_) (fun _ => ?_)
  · refine r_iconst (v := 0) (pc := 22) hE dX7_swell_22 (by decide) ?_
    exact r_zret (pc := 23) hE (by decide) dX7_swell_23
  · refine r_iload_n (pc := 13) hE dX7_swell_13 rfl ?_
    refine r_if_lt (pc := 14) hE 22 dX7_swell_14 (by decide) (fun _ => ?_) (fun _ => ?_)
    · refine r_iconst (v := 0) (pc := 22) hE dX7_swell_22 (by decide) ?_
      exact r_zret (pc := 23) hE (by decide) dX7_swell_23
    · refine r_iload_n (pc := 17) hE dX7_swell_17 rfl ?_
      refine r_iconst (v := 3) (pc := 18) hE dX7_swell_18 (by decide) ?_
      refine r_icmp_le (pc := 19) hE 24 dX7_swell_19 (by decide) (fun _ => ?_) (fun _ => ?_)
      · refine r_aload_n (pc := 24) hE dX7_swell_24 rfl ?_
        refine r_getR (pc := 25) hE 7 9 (by decide) (by decide) (fun _ _ _ => rfl) fl_RX7_29 dX7_swell_25 (fun v25 _ => ?_)
        refine r_iload_n (pc := 28) hE dX7_swell_28 rfl ?_
        refine r_iload_n (pc := 29) hE dX7_swell_29 rfl ?_
        refine r_astI (pc := 30) hE dX7_swell_30 (fun h30 _ => ?_)
        refine r_iconst (v := 1) (pc := 31) hE dX7_swell_31 (by decide) ?_
        exact r_zret (pc := 32) hE (by decide) dX7_swell_32
      · refine r_iconst (v := 0) (pc := 22) hE dX7_swell_22 (by decide) ?_
        exact r_zret (pc := 23) hE (by decide) dX7_swell_23
theorem k_X7_swell {fu : Nat} {x0 : Nat} {x1 : Int32} {x2 : Int32} {h : Hp} {out : Int32 × Hp} (ho : f_X7_swell fu x0 x1 x2 h = some out) : h.K x0 = 7 := (gi_k ho).1
def rm_X7_drifts : Room := { frames := 0, cells := 0, slots := 0, locals := 0 }
def f_X7_drifts (fu : Nat) (x0 : Nat) (x1 : Int32) (x2 : Int32) (h : Hp) : Option (Int32 × Hp) :=
  if h.K x0 = 7 then
    (pI h 7 x0 0 0).bind fun h2 =>
    if x1 < 0 then
      some (0, h2)
    else
      if 5 < x1 then
        some (0, h2)
      else
        if x2 < 1 then
          some (0, h2)
        else
          if x2 ≤ 511 then
            (gR h2 7 x0 10).bind fun v29 =>
            (sI h2 8 v29 x1 x2).bind fun h34 =>
            some (1, h34)
          else
            some (0, h2)
  else none
set_option maxHeartbeats 4000000 in
set_option maxRecDepth 100000 in
theorem c_X7_drifts (l : Launch) (D : Dx) (fu : Nat) (x0 : Nat) (x1 : Int32) (x2 : Int32) (h : Hp) (out : Int32 × Hp) (ho : f_X7_drifts fu x0 x1 x2 h = some out) : Ct l D yX7_drifts cX7_drifts 3 (some .boolean) rm_X7_drifts [.ref x0, .int x1, .int x2] h (evI out.1) out.2 := by
  refine Ct.of (o := f_X7_drifts fu x0 x1 x2 h) (lv := [some (.ref x0), some (.int x1), some (.int x2)]) (by decide) (Nat.le_of_ble_eq_true rfl) rfl ?_ out ho
  intro X hXl hE hin
  replace hE : En X D cX7_drifts 3 RX7 (some .boolean) rm_X7_drifts := hE
  subst hXl
  unfold f_X7_drifts
  refine Wo_grd (fun _ => ?_)
  refine r_aload_n (pc := 0) hE dX7_drifts_0 rfl ?_
  refine r_iconst (v := 0) (pc := 1) hE dX7_drifts_1 (by decide) ?_
  refine r_putI (pc := 2) hE 7 0 (by decide) (by decide) (fun _ _ _ => rfl) fl_RX7_87 rfl rfl rfl dX7_drifts_2 (fun h2 _ => ?_)
  refine r_iload_n (pc := 5) hE dX7_drifts_5 rfl ?_
  refine r_if_lt (pc := 6) hE 26 dX7_drifts_6 (by decide) (fun _ => ?_) (fun _ => ?_)
  · refine r_iconst (v := 0) (pc := 26) hE dX7_drifts_26 (by decide) ?_
    exact r_zret (pc := 27) hE (by decide) dX7_drifts_27
  · refine r_iload_n (pc := 9) hE dX7_drifts_9 rfl ?_
    refine r_iconst (v := 5) (pc := 10) hE dX7_drifts_10 (by decide) ?_
    refine r_icmp_gt (pc := 11) hE 26 dX7_drifts_11 (by decide) (fun _ => ?_) (fun _ => ?_)
    · refine r_iconst (v := 0) (pc := 26) hE dX7_drifts_26 (by decide) ?_
      exact r_zret (pc := 27) hE (by decide) dX7_drifts_27
    · refine r_iload_n (pc := 14) hE dX7_drifts_14 rfl ?_
      refine r_iconst (v := 1) (pc := 15) hE dX7_drifts_15 (by decide) ?_
      refine r_icmp_lt (pc := 16) hE 26 dX7_drifts_16 (by decide) (fun _ => ?_) (fun _ => ?_)
      · refine r_iconst (v := 0) (pc := 26) hE dX7_drifts_26 (by decide) ?_
        exact r_zret (pc := 27) hE (by decide) dX7_drifts_27
      · refine r_iload_n (pc := 19) hE dX7_drifts_19 rfl ?_
        refine r_sipush (v := 511) (pc := 20) hE dX7_drifts_20 (by decide) ?_
        refine r_icmp_le (pc := 23) hE 28 dX7_drifts_23 (by decide) (fun _ => ?_) (fun _ => ?_)
        · refine r_aload_n (pc := 28) hE dX7_drifts_28 rfl ?_
          refine r_getR (pc := 29) hE 7 10 (by decide) (by decide) (fun _ _ _ => rfl) fl_RX7_32 dX7_drifts_29 (fun v29 _ => ?_)
          refine r_iload_n (pc := 32) hE dX7_drifts_32 rfl ?_
          refine r_iload_n (pc := 33) hE dX7_drifts_33 rfl ?_
          refine r_astI (pc := 34) hE dX7_drifts_34 (fun h34 _ => ?_)
          refine r_iconst (v := 1) (pc := 35) hE dX7_drifts_35 (by decide) ?_
          exact r_zret (pc := 36) hE (by decide) dX7_drifts_36
        · refine r_iconst (v := 0) (pc := 26) hE dX7_drifts_26 (by decide) ?_
          exact r_zret (pc := 27) hE (by decide) dX7_drifts_27
theorem k_X7_drifts {fu : Nat} {x0 : Nat} {x1 : Int32} {x2 : Int32} {h : Hp} {out : Int32 × Hp} (ho : f_X7_drifts fu x0 x1 x2 h = some out) : h.K x0 = 7 := (gi_k ho).1
def rm_X7_watches : Room := { frames := 0, cells := 0, slots := 0, locals := 0 }
def f_X7_watches (fu : Nat) (x0 : Nat) (x1 : Int32) (x2 : Int32) (h : Hp) : Option (Int32 × Hp) :=
  if h.K x0 = 7 then
    (pI h 7 x0 0 0).bind fun h2 =>
    if x1 < 0 then
      some (0, h2)
    else
      if 63 < x1 then
        some (0, h2)
      else
        if x2 < 0 then
          some (0, h2)
        else
          if x2 ≤ 63 then
            (pI h2 7 x0 6 x1).bind fun h29 =>
            (pI h29 7 x0 7 x2).bind fun h34 =>
            some (1, h34)
          else
            some (0, h2)
  else none
set_option maxHeartbeats 4000000 in
set_option maxRecDepth 100000 in
theorem c_X7_watches (l : Launch) (D : Dx) (fu : Nat) (x0 : Nat) (x1 : Int32) (x2 : Int32) (h : Hp) (out : Int32 × Hp) (ho : f_X7_watches fu x0 x1 x2 h = some out) : Ct l D yX7_watches cX7_watches 3 (some .boolean) rm_X7_watches [.ref x0, .int x1, .int x2] h (evI out.1) out.2 := by
  refine Ct.of (o := f_X7_watches fu x0 x1 x2 h) (lv := [some (.ref x0), some (.int x1), some (.int x2)]) (by decide) (Nat.le_of_ble_eq_true rfl) rfl ?_ out ho
  intro X hXl hE hin
  replace hE : En X D cX7_watches 3 RX7 (some .boolean) rm_X7_watches := hE
  subst hXl
  unfold f_X7_watches
  refine Wo_grd (fun _ => ?_)
  refine r_aload_n (pc := 0) hE dX7_watches_0 rfl ?_
  refine r_iconst (v := 0) (pc := 1) hE dX7_watches_1 (by decide) ?_
  refine r_putI (pc := 2) hE 7 0 (by decide) (by decide) (fun _ _ _ => rfl) fl_RX7_87 rfl rfl rfl dX7_watches_2 (fun h2 _ => ?_)
  refine r_iload_n (pc := 5) hE dX7_watches_5 rfl ?_
  refine r_if_lt (pc := 6) hE 25 dX7_watches_6 (by decide) (fun _ => ?_) (fun _ => ?_)
  · refine r_iconst (v := 0) (pc := 25) hE dX7_watches_25 (by decide) ?_
    exact r_zret (pc := 26) hE (by decide) dX7_watches_26
  · refine r_iload_n (pc := 9) hE dX7_watches_9 rfl ?_
    refine r_bipush (v := 63) (pc := 10) hE dX7_watches_10 (by decide) ?_
    refine r_icmp_gt (pc := 12) hE 25 dX7_watches_12 (by decide) (fun _ => ?_) (fun _ => ?_)
    · refine r_iconst (v := 0) (pc := 25) hE dX7_watches_25 (by decide) ?_
      exact r_zret (pc := 26) hE (by decide) dX7_watches_26
    · refine r_iload_n (pc := 15) hE dX7_watches_15 rfl ?_
      refine r_if_lt (pc := 16) hE 25 dX7_watches_16 (by decide) (fun _ => ?_) (fun _ => ?_)
      · refine r_iconst (v := 0) (pc := 25) hE dX7_watches_25 (by decide) ?_
        exact r_zret (pc := 26) hE (by decide) dX7_watches_26
      · refine r_iload_n (pc := 19) hE dX7_watches_19 rfl ?_
        refine r_bipush (v := 63) (pc := 20) hE dX7_watches_20 (by decide) ?_
        refine r_icmp_le (pc := 22) hE 27 dX7_watches_22 (by decide) (fun _ => ?_) (fun _ => ?_)
        · refine r_aload_n (pc := 27) hE dX7_watches_27 rfl ?_
          refine r_iload_n (pc := 28) hE dX7_watches_28 rfl ?_
          refine r_putI (pc := 29) hE 7 6 (by decide) (by decide) (fun _ _ _ => rfl) fl_RX7_103 rfl rfl rfl dX7_watches_29 (fun h29 _ => ?_)
          refine r_aload_n (pc := 32) hE dX7_watches_32 rfl ?_
          refine r_iload_n (pc := 33) hE dX7_watches_33 rfl ?_
          refine r_putI (pc := 34) hE 7 7 (by decide) (by decide) (fun _ _ _ => rfl) fl_RX7_106 rfl rfl rfl dX7_watches_34 (fun h34 _ => ?_)
          refine r_iconst (v := 1) (pc := 37) hE dX7_watches_37 (by decide) ?_
          exact r_zret (pc := 38) hE (by decide) dX7_watches_38
        · refine r_iconst (v := 0) (pc := 25) hE dX7_watches_25 (by decide) ?_
          exact r_zret (pc := 26) hE (by decide) dX7_watches_26
theorem k_X7_watches {fu : Nat} {x0 : Nat} {x1 : Int32} {x2 : Int32} {h : Hp} {out : Int32 × Hp} (ho : f_X7_watches fu x0 x1 x2 h = some out) : h.K x0 = 7 := (gi_k ho).1
theorem cs_RX7_117 : csV RX7 117 yX7_isLand cX7_isLand 2 (some .boolean) 1 = true := by decide +kernel
def rm_X7_landsIn : Room := { frames := 1, cells := 0, slots := 0, locals := 23 }
def f_X7_landsIn_37 (fu : Nat) (k5 : Nat → Int64 → Int32 → Int32 → Hp → Option (Int32 × Hp)) (x0 : Nat) (x1 : Int64) (x3 : Int32) (x4 : Int32) (h : Hp) : Option (Int32 × Hp) :=
  k5 x0 x1 x3 ((x4 + 1)) h
set_option maxHeartbeats 4000000 in
set_option maxRecDepth 100000 in
theorem w_X7_landsIn_37 {X : Cx} {D : Dx} (hE : En X D cX7_landsIn 5 RX7 (some .int) rm_X7_landsIn) {fu : Nat} {k5 : Nat → Int64 → Int32 → Int32 → Hp → Option (Int32 × Hp)} (hk5 : ∀ (x0 : Nat) (x1 : Int64) (x3 : Int32) (x4 : Int32) (h : Hp) (lv : List (Option Value)), lvLe [some (.ref x0), some (.long x1), none, some (.int x3), some (.int x4)] lv → Wo X D 5 (Qr X D 0 0 evI) 0 0 (k5 x0 x1 x3 x4 h) 5 lv [] h) (x0 : Nat) (x1 : Int64) (x3 : Int32) (x4 : Int32) (h : Hp) {lv : List (Option Value)} (hlv : lvLe [some (.ref x0), some (.long x1), none, some (.int x3), some (.int x4)] lv) : Wo X D 5 (Qr X D 0 0 evI) 0 0 (f_X7_landsIn_37 fu k5 x0 x1 x3 x4 h) 37 lv [] h := by
  refine Wo_sub hlv ?_
  unfold f_X7_landsIn_37
  refine r_iinc (v := (x4 + 1)) (pc := 37) hE dX7_landsIn_37 rfl rfl (by decide) ?_
  refine r_goto (pc := 40) hE 5 dX7_landsIn_40 (by decide) ?_
  exact hk5 _ _ _ _ _ _ ⟨rfl, ⟨rfl, ⟨rfl, ⟨rfl, trivial⟩⟩⟩⟩
def f_X7_landsIn_5 (fu : Nat) : Nat → Nat → Int64 → Int32 → Int32 → Hp → Option (Int32 × Hp)
  | 0, _, _, _, _, _ => none
  | n + 1, x0, x1, x3, x4, h =>
    (f_X7_cells fu x0 h).bind fun r8 =>
    if r8.1 ≤ x4 then
      some (x3, r8.2)
    else
      (f_X7_has fu x0 x1 x4 r8.2).bind fun r18 =>
      if r18.1 = 0 then
        f_X7_landsIn_37 fu (fun y0 y1 y2 y3 hy => f_X7_landsIn_5 fu n y0 y1 y2 y3 hy) x0 x1 x3 x4 r18.2
      else
        (f_X7_isLand fu x0 x4 r18.2).bind fun r27 =>
        if r27.1 = 0 then
          f_X7_landsIn_37 fu (fun y0 y1 y2 y3 hy => f_X7_landsIn_5 fu n y0 y1 y2 y3 hy) x0 x1 x3 x4 r27.2
        else
          f_X7_landsIn_37 fu (fun y0 y1 y2 y3 hy => f_X7_landsIn_5 fu n y0 y1 y2 y3 hy) x0 x1 ((x3 + 1)) x4 r27.2
set_option maxHeartbeats 4000000 in
set_option maxRecDepth 100000 in
theorem w_X7_landsIn_5 {X : Cx} {D : Dx} (hE : En X D cX7_landsIn 5 RX7 (some .int) rm_X7_landsIn) {fu : Nat} : ∀ (n : Nat) (x0 : Nat) (x1 : Int64) (x3 : Int32) (x4 : Int32) (h : Hp) (lv : List (Option Value)), lvLe [some (.ref x0), some (.long x1), none, some (.int x3), some (.int x4)] lv → Wo X D 5 (Qr X D 0 0 evI) 0 0 (f_X7_landsIn_5 fu n x0 x1 x3 x4 h) 5 lv [] h := by
  intro n
  induction n with
  | zero => intros; exact Wo_none
  | succ n ih =>
    intro x0 x1 x3 x4 h lv hlv
    refine Wo_sub hlv ?_
    rw [f_X7_landsIn_5]
    refine r_iload (pc := 5) hE dX7_landsIn_5 rfl ?_
    refine r_aload_n (pc := 7) hE dX7_landsIn_7 rfl ?_
    refine r_callV (pc := 8) hE 7 (As := []) (fun out ho => c_X7_cells _ _ fu _ _ out ho) (fun out ho => k_X7_cells ho) (by decide) rfl cs_RX7_90 ⟨Nat.le_of_ble_eq_true rfl, Nat.le_of_ble_eq_true rfl, Nat.le_of_ble_eq_true rfl, Nat.le_of_ble_eq_true rfl⟩ (Nat.le_of_ble_eq_true rfl) rfl dX7_landsIn_8 (fun r8 _ => ?_)
    refine r_icmp_ge (pc := 11) hE 43 dX7_landsIn_11 (by decide) (fun _ => ?_) (fun _ => ?_)
    · refine r_iload_n (pc := 43) hE dX7_landsIn_43 rfl ?_
      exact r_iret (pc := 44) hE dX7_landsIn_44
    · refine r_aload_n (pc := 14) hE dX7_landsIn_14 rfl ?_
      refine r_lload_n (pc := 15) hE dX7_landsIn_15 rfl ?_
      refine r_iload (pc := 16) hE dX7_landsIn_16 rfl ?_
      refine r_callV (pc := 18) hE 7 (As := [.long x1, .int x4]) (fun out ho => c_X7_has _ _ fu _ _ _ _ out ho) (fun out ho => k_X7_has ho) (by decide) rfl cs_RX7_96 ⟨Nat.le_of_ble_eq_true rfl, Nat.le_of_ble_eq_true rfl, Nat.le_of_ble_eq_true rfl, Nat.le_of_ble_eq_true rfl⟩ (Nat.le_of_ble_eq_true rfl) rfl dX7_landsIn_18 (fun r18 _ => ?_)
      refine r_if_eq (pc := 21) hE 37 dX7_landsIn_21 (by decide) (fun _ => ?_) (fun _ => ?_)
      · exact w_X7_landsIn_37 hE (fun y0 y1 y2 y3 hy lvy hly => ih y0 y1 y2 y3 hy lvy hly) _ _ _ _ _ ⟨rfl, ⟨rfl, ⟨rfl, ⟨rfl, trivial⟩⟩⟩⟩
      · refine r_aload_n (pc := 24) hE dX7_landsIn_24 rfl ?_
        refine r_iload (pc := 25) hE dX7_landsIn_25 rfl ?_
        refine r_callV (pc := 27) hE 7 (As := [.int x4]) (fun out ho => c_X7_isLand _ _ fu _ _ _ out ho) (fun out ho => k_X7_isLand ho) (by decide) rfl cs_RX7_117 ⟨Nat.le_of_ble_eq_true rfl, Nat.le_of_ble_eq_true rfl, Nat.le_of_ble_eq_true rfl, Nat.le_of_ble_eq_true rfl⟩ (Nat.le_of_ble_eq_true rfl) rfl dX7_landsIn_27 (fun r27 _ => ?_)
        refine r_if_eq (pc := 30) hE 37 dX7_landsIn_30 (by decide) (fun _ => ?_) (fun _ => ?_)
        · exact w_X7_landsIn_37 hE (fun y0 y1 y2 y3 hy lvy hly => ih y0 y1 y2 y3 hy lvy hly) _ _ _ _ _ ⟨rfl, ⟨rfl, ⟨rfl, ⟨rfl, trivial⟩⟩⟩⟩
        · refine r_iload_n (pc := 33) hE dX7_landsIn_33 rfl ?_
          refine r_iconst (v := 1) (pc := 34) hE dX7_landsIn_34 (by decide) ?_
          refine r_iadd (pc := 35) hE dX7_landsIn_35 ?_
          refine r_istore_n (pc := 36) hE dX7_landsIn_36 (by decide) ?_
          exact w_X7_landsIn_37 hE (fun y0 y1 y2 y3 hy lvy hly => ih y0 y1 y2 y3 hy lvy hly) _ _ _ _ _ ⟨rfl, ⟨rfl, ⟨rfl, ⟨rfl, trivial⟩⟩⟩⟩
def f_X7_landsIn (fu : Nat) (x0 : Nat) (x1 : Int64) (h : Hp) : Option (Int32 × Hp) :=
  if h.K x0 = 7 then
    f_X7_landsIn_5 fu fu x0 x1 0 0 h
  else none
set_option maxHeartbeats 4000000 in
set_option maxRecDepth 100000 in
theorem c_X7_landsIn (l : Launch) (D : Dx) (fu : Nat) (x0 : Nat) (x1 : Int64) (h : Hp) (out : Int32 × Hp) (ho : f_X7_landsIn fu x0 x1 h = some out) : Ct l D yX7_landsIn cX7_landsIn 5 (some .int) rm_X7_landsIn [.ref x0, .long x1] h (evI out.1) out.2 := by
  refine Ct.of (o := f_X7_landsIn fu x0 x1 h) (lv := [some (.ref x0), some (.long x1), none, none, none]) (by decide) (Nat.le_of_ble_eq_true rfl) rfl ?_ out ho
  intro X hXl hE hin
  replace hE : En X D cX7_landsIn 5 RX7 (some .int) rm_X7_landsIn := hE
  subst hXl
  unfold f_X7_landsIn
  refine Wo_grd (fun _ => ?_)
  refine r_iconst (v := 0) (pc := 0) hE dX7_landsIn_0 (by decide) ?_
  refine r_istore_n (pc := 1) hE dX7_landsIn_1 (by decide) ?_
  refine r_iconst (v := 0) (pc := 2) hE dX7_landsIn_2 (by decide) ?_
  refine r_istore (pc := 3) hE dX7_landsIn_3 (by decide) ?_
  exact w_X7_landsIn_5 hE fu _ _ _ _ _ _ ⟨rfl, ⟨rfl, ⟨rfl, ⟨rfl, trivial⟩⟩⟩⟩
theorem k_X7_landsIn {fu : Nat} {x0 : Nat} {x1 : Int64} {h : Hp} {out : Int32 × Hp} (ho : f_X7_landsIn fu x0 x1 h = some out) : h.K x0 = 7 := (gi_k ho).1
theorem fl_RX7_127 : Cond.fieldLink RX7 127 (TF 7 11).1 (TF 7 11).2.1 (TF 7 11).2.2.1 ∈ TB := tb_in (by decide +kernel) rfl
theorem cs_RX7_124 : csV RX7 124 yX7_landsIn cX7_landsIn 5 (some .int) 1 = true := by decide +kernel
theorem cs_RX7_120 : csV RX7 120 yX7_count cX7_count 5 (some .int) 1 = true := by decide +kernel
def rm_X7_look : Room := { frames := 2, cells := 0, slots := 0, locals := 47 }
def f_X7_look_156 (fu : Nat) (x0 : Nat) (x1 : Int32) (h : Hp) : Option (Int32 × Hp) :=
  if x1 < 200 then
    some ((-2), h)
  else
    (f_X7_isCell fu x0 (x1 - 200) h).bind fun r169 =>
    if r169.1 = 0 then
      some ((-2), r169.2)
    else
      (gR r169.2 7 x0 9).bind fun v176 =>
      (aI r169.2 8 v176 (x1 - 200)).bind fun v184 =>
      some (v184, r169.2)
set_option maxHeartbeats 4000000 in
set_option maxRecDepth 100000 in
theorem w_X7_look_156 {X : Cx} {D : Dx} (hE : En X D cX7_look 2 RX7 (some .int) rm_X7_look) {fu : Nat} (x0 : Nat) (x1 : Int32) (h : Hp) {lv : List (Option Value)} (hlv : lvLe [some (.ref x0), some (.int x1)] lv) : Wo X D 2 (Qr X D 0 0 evI) 0 0 (f_X7_look_156 fu x0 x1 h) 156 lv [] h := by
  refine Wo_sub hlv ?_
  unfold f_X7_look_156
  refine r_iload_n (pc := 156) hE dX7_look_156 rfl ?_
  refine r_sipush (v := 200) (pc := 157) hE dX7_look_157 (by decide) ?_
  refine r_icmp_lt (pc := 160) hE 188 dX7_look_160 (by decide) (fun _ => ?_) (fun _ => ?_)
  · refine r_bipush (v := -2) (pc := 188) hE dX7_look_188 (by decide) ?_
    exact r_iret (pc := 190) hE dX7_look_190
  · refine r_aload_n (pc := 163) hE dX7_look_163 rfl ?_
    refine r_iload_n (pc := 164) hE dX7_look_164 rfl ?_
    refine r_sipush (v := 200) (pc := 165) hE dX7_look_165 (by decide) ?_
    refine r_isub (pc := 168) hE dX7_look_168 ?_
    refine r_callV (pc := 169) hE 7 (As := [.int (x1 - 200)]) (fun out ho => c_X7_isCell _ _ fu _ _ _ out ho) (fun out ho => k_X7_isCell ho) (by decide) rfl cs_RX7_113 ⟨Nat.le_of_ble_eq_true rfl, Nat.le_of_ble_eq_true rfl, Nat.le_of_ble_eq_true rfl, Nat.le_of_ble_eq_true rfl⟩ (Nat.le_of_ble_eq_true rfl) rfl dX7_look_169 (fun r169 _ => ?_)
    refine r_if_eq (pc := 172) hE 188 dX7_look_172 (by decide) (fun _ => ?_) (fun _ => ?_)
    · refine r_bipush (v := -2) (pc := 188) hE dX7_look_188 (by decide) ?_
      exact r_iret (pc := 190) hE dX7_look_190
    · refine r_aload_n (pc := 175) hE dX7_look_175 rfl ?_
      refine r_getR (pc := 176) hE 7 9 (by decide) (by decide) (fun _ _ _ => rfl) fl_RX7_29 dX7_look_176 (fun v176 _ => ?_)
      refine r_iload_n (pc := 179) hE dX7_look_179 rfl ?_
      refine r_sipush (v := 200) (pc := 180) hE dX7_look_180 (by decide) ?_
      refine r_isub (pc := 183) hE dX7_look_183 ?_
      refine r_aldI (pc := 184) hE dX7_look_184 (fun v184 _ => ?_)
      refine r_goto (pc := 185) hE 190 dX7_look_185 (by decide) ?_
      exact r_iret (pc := 190) hE dX7_look_190
def f_X7_look_127 (fu : Nat) (x0 : Nat) (x1 : Int32) (h : Hp) : Option (Int32 × Hp) :=
  if x1 < 100 then
    f_X7_look_156 fu x0 x1 h
  else
    (f_X7_isCell fu x0 (x1 - 100) h).bind fun r138 =>
    if r138.1 = 0 then
      f_X7_look_156 fu x0 x1 r138.2
    else
      (gR r138.2 7 x0 8).bind fun v145 =>
      (aI r138.2 8 v145 (x1 - 100)).bind fun v152 =>
      some ((v152 - 1), r138.2)
set_option maxHeartbeats 4000000 in
set_option maxRecDepth 100000 in
theorem w_X7_look_127 {X : Cx} {D : Dx} (hE : En X D cX7_look 2 RX7 (some .int) rm_X7_look) {fu : Nat} (x0 : Nat) (x1 : Int32) (h : Hp) {lv : List (Option Value)} (hlv : lvLe [some (.ref x0), some (.int x1)] lv) : Wo X D 2 (Qr X D 0 0 evI) 0 0 (f_X7_look_127 fu x0 x1 h) 127 lv [] h := by
  refine Wo_sub hlv ?_
  unfold f_X7_look_127
  refine r_iload_n (pc := 127) hE dX7_look_127 rfl ?_
  refine r_bipush (v := 100) (pc := 128) hE dX7_look_128 (by decide) ?_
  refine r_icmp_lt (pc := 130) hE 156 dX7_look_130 (by decide) (fun _ => ?_) (fun _ => ?_)
  · exact w_X7_look_156 hE _ _ _ ⟨rfl, ⟨rfl, trivial⟩⟩
  · refine r_aload_n (pc := 133) hE dX7_look_133 rfl ?_
    refine r_iload_n (pc := 134) hE dX7_look_134 rfl ?_
    refine r_bipush (v := 100) (pc := 135) hE dX7_look_135 (by decide) ?_
    refine r_isub (pc := 137) hE dX7_look_137 ?_
    refine r_callV (pc := 138) hE 7 (As := [.int (x1 - 100)]) (fun out ho => c_X7_isCell _ _ fu _ _ _ out ho) (fun out ho => k_X7_isCell ho) (by decide) rfl cs_RX7_113 ⟨Nat.le_of_ble_eq_true rfl, Nat.le_of_ble_eq_true rfl, Nat.le_of_ble_eq_true rfl, Nat.le_of_ble_eq_true rfl⟩ (Nat.le_of_ble_eq_true rfl) rfl dX7_look_138 (fun r138 _ => ?_)
    refine r_if_eq (pc := 141) hE 156 dX7_look_141 (by decide) (fun _ => ?_) (fun _ => ?_)
    · exact w_X7_look_156 hE _ _ _ ⟨rfl, ⟨rfl, trivial⟩⟩
    · refine r_aload_n (pc := 144) hE dX7_look_144 rfl ?_
      refine r_getR (pc := 145) hE 7 8 (by decide) (by decide) (fun _ _ _ => rfl) fl_RX7_25 dX7_look_145 (fun v145 _ => ?_)
      refine r_iload_n (pc := 148) hE dX7_look_148 rfl ?_
      refine r_bipush (v := 100) (pc := 149) hE dX7_look_149 (by decide) ?_
      refine r_isub (pc := 151) hE dX7_look_151 ?_
      refine r_aldI (pc := 152) hE dX7_look_152 (fun v152 _ => ?_)
      refine r_iconst (v := 1) (pc := 153) hE dX7_look_153 (by decide) ?_
      refine r_isub (pc := 154) hE dX7_look_154 ?_
      exact r_iret (pc := 155) hE dX7_look_155
def f_X7_look (fu : Nat) (x0 : Nat) (x1 : Int32) (h : Hp) : Option (Int32 × Hp) :=
  if h.K x0 = 7 then
    (pI h 7 x0 0 0).bind fun h2 =>
    if x1 = 0 then
      (gI h2 7 x0 1).bind fun v10 =>
      some (v10, h2)
    else
      if x1 = 1 then
        (gI h2 7 x0 2).bind fun v20 =>
        some (v20, h2)
      else
        if x1 = 2 then
          (gI h2 7 x0 3).bind fun v30 =>
          some (v30, h2)
        else
          if x1 = 3 then
            (gJ h2 7 x0 4).bind fun v41 =>
            (f_X7_count fu x0 v41 h2).bind fun r44 =>
            some (r44.1, r44.2)
          else
            if x1 = 4 then
              (gJ h2 7 x0 4).bind fun v55 =>
              (f_X7_landsIn fu x0 v55 h2).bind fun r58 =>
              some (r58.1, r58.2)
            else
              if x1 = 5 then
                (gI h2 7 x0 5).bind fun v68 =>
                some (v68, h2)
              else
                if x1 = 6 then
                  (gI h2 7 x0 11).bind fun v79 =>
                  some (v79, h2)
                else
                  if x1 = 7 then
                    (gI h2 7 x0 6).bind fun v90 =>
                    some (v90, h2)
                  else
                    if x1 = 8 then
                      (gI h2 7 x0 7).bind fun v101 =>
                      some (v101, h2)
                    else
                      if x1 < 10 then
                        f_X7_look_127 fu x0 x1 h2
                      else
                        if 16 ≤ x1 then
                          f_X7_look_127 fu x0 x1 h2
                        else
                          (gR h2 7 x0 10).bind fun v118 =>
                          (aI h2 8 v118 (x1 - 10)).bind fun v125 =>
                          some (v125, h2)
  else none
set_option maxHeartbeats 4000000 in
set_option maxRecDepth 100000 in
theorem c_X7_look (l : Launch) (D : Dx) (fu : Nat) (x0 : Nat) (x1 : Int32) (h : Hp) (out : Int32 × Hp) (ho : f_X7_look fu x0 x1 h = some out) : Ct l D yX7_look cX7_look 2 (some .int) rm_X7_look [.ref x0, .int x1] h (evI out.1) out.2 := by
  refine Ct.of (o := f_X7_look fu x0 x1 h) (lv := [some (.ref x0), some (.int x1)]) (by decide) (Nat.le_of_ble_eq_true rfl) rfl ?_ out ho
  intro X hXl hE hin
  replace hE : En X D cX7_look 2 RX7 (some .int) rm_X7_look := hE
  subst hXl
  unfold f_X7_look
  refine Wo_grd (fun _ => ?_)
  refine r_aload_n (pc := 0) hE dX7_look_0 rfl ?_
  refine r_iconst (v := 0) (pc := 1) hE dX7_look_1 (by decide) ?_
  refine r_putI (pc := 2) hE 7 0 (by decide) (by decide) (fun _ _ _ => rfl) fl_RX7_87 rfl rfl rfl dX7_look_2 (fun h2 _ => ?_)
  refine r_iload_n (pc := 5) hE dX7_look_5 rfl ?_
  refine r_if_ne (pc := 6) hE 14 dX7_look_6 (by decide) (fun _ => ?_) (fun _ => ?_)
  · refine r_iload_n (pc := 14) hE dX7_look_14 rfl ?_
    refine r_iconst (v := 1) (pc := 15) hE dX7_look_15 (by decide) ?_
    refine r_icmp_ne (pc := 16) hE 24 dX7_look_16 (by decide) (fun _ => ?_) (fun _ => ?_)
    · refine r_iload_n (pc := 24) hE dX7_look_24 rfl ?_
      refine r_iconst (v := 2) (pc := 25) hE dX7_look_25 (by decide) ?_
      refine r_icmp_ne (pc := 26) hE 34 dX7_look_26 (by decide) (fun _ => ?_) (fun _ => ?_)
      · refine r_iload_n (pc := 34) hE dX7_look_34 rfl ?_
        refine r_iconst (v := 3) (pc := 35) hE dX7_look_35 (by decide) ?_
        refine r_icmp_ne (pc := 36) hE 48 dX7_look_36 (by decide) (fun _ => ?_) (fun _ => ?_)
        · refine r_iload_n (pc := 48) hE dX7_look_48 rfl ?_
          refine r_iconst (v := 4) (pc := 49) hE dX7_look_49 (by decide) ?_
          refine r_icmp_ne (pc := 50) hE 62 dX7_look_50 (by decide) (fun _ => ?_) (fun _ => ?_)
          · refine r_iload_n (pc := 62) hE dX7_look_62 rfl ?_
            refine r_iconst (v := 5) (pc := 63) hE dX7_look_63 (by decide) ?_
            refine r_icmp_ne (pc := 64) hE 72 dX7_look_64 (by decide) (fun _ => ?_) (fun _ => ?_)
            · refine r_iload_n (pc := 72) hE dX7_look_72 rfl ?_
              refine r_bipush (v := 6) (pc := 73) hE dX7_look_73 (by decide) ?_
              refine r_icmp_ne (pc := 75) hE 83 dX7_look_75 (by decide) (fun _ => ?_) (fun _ => ?_)
              · refine r_iload_n (pc := 83) hE dX7_look_83 rfl ?_
                refine r_bipush (v := 7) (pc := 84) hE dX7_look_84 (by decide) ?_
                refine r_icmp_ne (pc := 86) hE 94 dX7_look_86 (by decide) (fun _ => ?_) (fun _ => ?_)
                · refine r_iload_n (pc := 94) hE dX7_look_94 rfl ?_
                  refine r_bipush (v := 8) (pc := 95) hE dX7_look_95 (by decide) ?_
                  refine r_icmp_ne (pc := 97) hE 105 dX7_look_97 (by decide) (fun _ => ?_) (fun _ => ?_)
                  · refine r_iload_n (pc := 105) hE dX7_look_105 rfl ?_
                    refine r_bipush (v := 10) (pc := 106) hE dX7_look_106 (by decide) ?_
                    refine r_icmp_lt (pc := 108) hE 127 dX7_look_108 (by decide) (fun _ => ?_) (fun _ => ?_)
                    · exact w_X7_look_127 hE _ _ _ ⟨rfl, ⟨rfl, trivial⟩⟩
                    · refine r_iload_n (pc := 111) hE dX7_look_111 rfl ?_
                      refine r_bipush (v := 16) (pc := 112) hE dX7_look_112 (by decide) ?_
                      refine r_icmp_ge (pc := 114) hE 127 dX7_look_114 (by decide) (fun _ => ?_) (fun _ => ?_)
                      · exact w_X7_look_127 hE _ _ _ ⟨rfl, ⟨rfl, trivial⟩⟩
                      · refine r_aload_n (pc := 117) hE dX7_look_117 rfl ?_
                        refine r_getR (pc := 118) hE 7 10 (by decide) (by decide) (fun _ _ _ => rfl) fl_RX7_32 dX7_look_118 (fun v118 _ => ?_)
                        refine r_iload_n (pc := 121) hE dX7_look_121 rfl ?_
                        refine r_bipush (v := 10) (pc := 122) hE dX7_look_122 (by decide) ?_
                        refine r_isub (pc := 124) hE dX7_look_124 ?_
                        refine r_aldI (pc := 125) hE dX7_look_125 (fun v125 _ => ?_)
                        exact r_iret (pc := 126) hE dX7_look_126
                  · refine r_aload_n (pc := 100) hE dX7_look_100 rfl ?_
                    refine r_getI (pc := 101) hE 7 7 (by decide) (by decide) (fun _ _ _ => rfl) fl_RX7_106 dX7_look_101 (fun v101 _ => ?_)
                    exact r_iret (pc := 104) hE dX7_look_104
                · refine r_aload_n (pc := 89) hE dX7_look_89 rfl ?_
                  refine r_getI (pc := 90) hE 7 6 (by decide) (by decide) (fun _ _ _ => rfl) fl_RX7_103 dX7_look_90 (fun v90 _ => ?_)
                  exact r_iret (pc := 93) hE dX7_look_93
              · refine r_aload_n (pc := 78) hE dX7_look_78 rfl ?_
                refine r_getI (pc := 79) hE 7 11 (by decide) (by decide) (fun _ _ _ => rfl) fl_RX7_127 dX7_look_79 (fun v79 _ => ?_)
                exact r_iret (pc := 82) hE dX7_look_82
            · refine r_aload_n (pc := 67) hE dX7_look_67 rfl ?_
              refine r_getI (pc := 68) hE 7 5 (by decide) (by decide) (fun _ _ _ => rfl) fl_RX7_22 dX7_look_68 (fun v68 _ => ?_)
              exact r_iret (pc := 71) hE dX7_look_71
          · refine r_aload_n (pc := 53) hE dX7_look_53 rfl ?_
            refine r_aload_n (pc := 54) hE dX7_look_54 rfl ?_
            refine r_getJ (pc := 55) hE 7 4 (by decide) (by decide) (fun _ _ _ => rfl) fl_RX7_18 dX7_look_55 (fun v55 _ => ?_)
            refine r_callV (pc := 58) hE 7 (As := [.long v55]) (fun out ho => c_X7_landsIn _ _ fu _ _ _ out ho) (fun out ho => k_X7_landsIn ho) (by decide) rfl cs_RX7_124 ⟨Nat.le_of_ble_eq_true rfl, Nat.le_of_ble_eq_true rfl, Nat.le_of_ble_eq_true rfl, Nat.le_of_ble_eq_true rfl⟩ (Nat.le_of_ble_eq_true rfl) rfl dX7_look_58 (fun r58 _ => ?_)
            exact r_iret (pc := 61) hE dX7_look_61
        · refine r_aload_n (pc := 39) hE dX7_look_39 rfl ?_
          refine r_aload_n (pc := 40) hE dX7_look_40 rfl ?_
          refine r_getJ (pc := 41) hE 7 4 (by decide) (by decide) (fun _ _ _ => rfl) fl_RX7_18 dX7_look_41 (fun v41 _ => ?_)
          refine r_callV (pc := 44) hE 7 (As := [.long v41]) (fun out ho => c_X7_count _ _ fu _ _ _ out ho) (fun out ho => k_X7_count ho) (by decide) rfl cs_RX7_120 ⟨Nat.le_of_ble_eq_true rfl, Nat.le_of_ble_eq_true rfl, Nat.le_of_ble_eq_true rfl, Nat.le_of_ble_eq_true rfl⟩ (Nat.le_of_ble_eq_true rfl) rfl dX7_look_44 (fun r44 _ => ?_)
          exact r_iret (pc := 47) hE dX7_look_47
      · refine r_aload_n (pc := 29) hE dX7_look_29 rfl ?_
        refine r_getI (pc := 30) hE 7 3 (by decide) (by decide) (fun _ _ _ => rfl) fl_RX7_100 dX7_look_30 (fun v30 _ => ?_)
        exact r_iret (pc := 33) hE dX7_look_33
    · refine r_aload_n (pc := 19) hE dX7_look_19 rfl ?_
      refine r_getI (pc := 20) hE 7 2 (by decide) (by decide) (fun _ _ _ => rfl) fl_RX7_13 dX7_look_20 (fun v20 _ => ?_)
      exact r_iret (pc := 23) hE dX7_look_23
  · refine r_aload_n (pc := 9) hE dX7_look_9 rfl ?_
    refine r_getI (pc := 10) hE 7 1 (by decide) (by decide) (fun _ _ _ => rfl) fl_RX7_7 dX7_look_10 (fun v10 _ => ?_)
    exact r_iret (pc := 13) hE dX7_look_13
theorem k_X7_look {fu : Nat} {x0 : Nat} {x1 : Int32} {h : Hp} {out : Int32 × Hp} (ho : f_X7_look fu x0 x1 h = some out) : h.K x0 = 7 := (gi_k ho).1
def rm_X7_reckoned : Room := { frames := 0, cells := 0, slots := 0, locals := 0 }
def f_X7_reckoned (fu : Nat) (x0 : Nat) (h : Hp) : Option (Int64 × Hp) :=
  if h.K x0 = 7 then
    (pI h 7 x0 0 0).bind fun h2 =>
    (gJ h2 7 x0 4).bind fun v6 =>
    some (v6, h2)
  else none
set_option maxHeartbeats 4000000 in
set_option maxRecDepth 100000 in
theorem c_X7_reckoned (l : Launch) (D : Dx) (fu : Nat) (x0 : Nat) (h : Hp) (out : Int64 × Hp) (ho : f_X7_reckoned fu x0 h = some out) : Ct l D yX7_reckoned cX7_reckoned 1 (some .long) rm_X7_reckoned [.ref x0] h (evJ out.1) out.2 := by
  refine Ct.of (o := f_X7_reckoned fu x0 h) (lv := [some (.ref x0)]) (by decide) (Nat.le_of_ble_eq_true rfl) rfl ?_ out ho
  intro X hXl hE hin
  replace hE : En X D cX7_reckoned 1 RX7 (some .long) rm_X7_reckoned := hE
  subst hXl
  unfold f_X7_reckoned
  refine Wo_grd (fun _ => ?_)
  refine r_aload_n (pc := 0) hE dX7_reckoned_0 rfl ?_
  refine r_iconst (v := 0) (pc := 1) hE dX7_reckoned_1 (by decide) ?_
  refine r_putI (pc := 2) hE 7 0 (by decide) (by decide) (fun _ _ _ => rfl) fl_RX7_87 rfl rfl rfl dX7_reckoned_2 (fun h2 _ => ?_)
  refine r_aload_n (pc := 5) hE dX7_reckoned_5 rfl ?_
  refine r_getJ (pc := 6) hE 7 4 (by decide) (by decide) (fun _ _ _ => rfl) fl_RX7_18 dX7_reckoned_6 (fun v6 _ => ?_)
  exact r_lret (pc := 9) hE dX7_reckoned_9
theorem k_X7_reckoned {fu : Nat} {x0 : Nat} {h : Hp} {out : Int64 × Hp} (ho : f_X7_reckoned fu x0 h = some out) : h.K x0 = 7 := (gi_k ho).1
def rm_X7_begin : Room := { frames := 2, cells := 0, slots := 0, locals := 40 }
def f_X7_begin (fu : Nat) (x0 : Nat) (x1 : Int64) (h : Hp) : Option (Int32 × Hp) :=
  if h.K x0 = 7 then
    (pI h 7 x0 0 0).bind fun h2 =>
    if (lg_cmp x1 0) = 0 then
      some (0, h2)
    else
      (f_X7_all fu x0 h2).bind fun r13 =>
      if (lg_cmp (x1 &&& (r13.1 ^^^ (-1))) 0) = 0 then
        (pJ r13.2 7 x0 4 x1).bind fun h30 =>
        (pI h30 7 x0 3 0).bind fun h35 =>
        (pI h35 7 x0 5 (-1)).bind fun h40 =>
        some (1, h40)
      else
        some (0, r13.2)
  else none
set_option maxHeartbeats 4000000 in
set_option maxRecDepth 100000 in
theorem c_X7_begin (l : Launch) (D : Dx) (fu : Nat) (x0 : Nat) (x1 : Int64) (h : Hp) (out : Int32 × Hp) (ho : f_X7_begin fu x0 x1 h = some out) : Ct l D yX7_begin cX7_begin 3 (some .boolean) rm_X7_begin [.ref x0, .long x1] h (evI out.1) out.2 := by
  refine Ct.of (o := f_X7_begin fu x0 x1 h) (lv := [some (.ref x0), some (.long x1), none]) (by decide) (Nat.le_of_ble_eq_true rfl) rfl ?_ out ho
  intro X hXl hE hin
  replace hE : En X D cX7_begin 3 RX7 (some .boolean) rm_X7_begin := hE
  subst hXl
  unfold f_X7_begin
  refine Wo_grd (fun _ => ?_)
  refine r_aload_n (pc := 0) hE dX7_begin_0 rfl ?_
  refine r_iconst (v := 0) (pc := 1) hE dX7_begin_1 (by decide) ?_
  refine r_putI (pc := 2) hE 7 0 (by decide) (by decide) (fun _ _ _ => rfl) fl_RX7_87 rfl rfl rfl dX7_begin_2 (fun h2 _ => ?_)
  refine r_lload_n (pc := 5) hE dX7_begin_5 rfl ?_
  refine r_lconst (v := 0) (pc := 6) hE dX7_begin_6 rfl ?_
  refine r_lcmp (pc := 7) hE dX7_begin_7 ?_
  refine r_if_eq (pc := 8) hE 26 dX7_begin_8 (by decide) (fun _ => ?_) (fun _ => ?_)
  · refine r_iconst (v := 0) (pc := 26) hE dX7_begin_26 (by decide) ?_
    exact r_zret (pc := 27) hE (by decide) dX7_begin_27
  · refine r_lload_n (pc := 11) hE dX7_begin_11 rfl ?_
    refine r_aload_n (pc := 12) hE dX7_begin_12 rfl ?_
    refine r_callV (pc := 13) hE 7 (As := []) (fun out ho => c_X7_all _ _ fu _ _ out ho) (fun out ho => k_X7_all ho) (by decide) rfl cs_RX7_109 ⟨Nat.le_of_ble_eq_true rfl, Nat.le_of_ble_eq_true rfl, Nat.le_of_ble_eq_true rfl, Nat.le_of_ble_eq_true rfl⟩ (Nat.le_of_ble_eq_true rfl) rfl dX7_begin_13 (fun r13 _ => ?_)
    refine r_ldc2 (v := -1) (pc := 16) hE ct_RX7_94 dX7_begin_16 ?_
    refine r_lxor (pc := 19) hE dX7_begin_19 ?_
    refine r_land (pc := 20) hE dX7_begin_20 ?_
    refine r_lconst (v := 0) (pc := 21) hE dX7_begin_21 rfl ?_
    refine r_lcmp (pc := 22) hE dX7_begin_22 ?_
    refine r_if_eq (pc := 23) hE 28 dX7_begin_23 (by decide) (fun _ => ?_) (fun _ => ?_)
    · refine r_aload_n (pc := 28) hE dX7_begin_28 rfl ?_
      refine r_lload_n (pc := 29) hE dX7_begin_29 rfl ?_
      refine r_putJ (pc := 30) hE 7 4 (by decide) (by decide) (fun _ _ _ => rfl) fl_RX7_18 rfl rfl rfl dX7_begin_30 (fun h30 _ => ?_)
      refine r_aload_n (pc := 33) hE dX7_begin_33 rfl ?_
      refine r_iconst (v := 0) (pc := 34) hE dX7_begin_34 (by decide) ?_
      refine r_putI (pc := 35) hE 7 3 (by decide) (by decide) (fun _ _ _ => rfl) fl_RX7_100 rfl rfl rfl dX7_begin_35 (fun h35 _ => ?_)
      refine r_aload_n (pc := 38) hE dX7_begin_38 rfl ?_
      refine r_iconst (v := -1) (pc := 39) hE dX7_begin_39 (by decide) ?_
      refine r_putI (pc := 40) hE 7 5 (by decide) (by decide) (fun _ _ _ => rfl) fl_RX7_22 rfl rfl rfl dX7_begin_40 (fun h40 _ => ?_)
      refine r_iconst (v := 1) (pc := 43) hE dX7_begin_43 (by decide) ?_
      exact r_zret (pc := 44) hE (by decide) dX7_begin_44
    · refine r_iconst (v := 0) (pc := 26) hE dX7_begin_26 (by decide) ?_
      exact r_zret (pc := 27) hE (by decide) dX7_begin_27
theorem k_X7_begin {fu : Nat} {x0 : Nat} {x1 : Int64} {h : Hp} {out : Int32 × Hp} (ho : f_X7_begin fu x0 x1 h = some out) : h.K x0 = 7 := (gi_k ho).1
def rm_X7_put : Room := { frames := 2, cells := 0, slots := 0, locals := 41 }
def f_X7_put (fu : Nat) (x0 : Nat) (x1 : Int32) (h : Hp) : Option (Int32 × Hp) :=
  if h.K x0 = 7 then
    (pI h 7 x0 0 0).bind fun h2 =>
    (f_X7_isCell fu x0 x1 h2).bind fun r7 =>
    if r7.1 = 0 then
      some (0, r7.2)
    else
      (gJ r7.2 7 x0 4).bind fun v15 =>
      (f_X7_has fu x0 v15 x1 r7.2).bind fun r19 =>
      if r19.1 = 0 then
        some (0, r19.2)
      else
        (pI r19.2 7 x0 5 x1).bind fun h29 =>
        some (1, h29)
  else none
set_option maxHeartbeats 4000000 in
set_option maxRecDepth 100000 in
theorem c_X7_put (l : Launch) (D : Dx) (fu : Nat) (x0 : Nat) (x1 : Int32) (h : Hp) (out : Int32 × Hp) (ho : f_X7_put fu x0 x1 h = some out) : Ct l D yX7_put cX7_put 2 (some .boolean) rm_X7_put [.ref x0, .int x1] h (evI out.1) out.2 := by
  refine Ct.of (o := f_X7_put fu x0 x1 h) (lv := [some (.ref x0), some (.int x1)]) (by decide) (Nat.le_of_ble_eq_true rfl) rfl ?_ out ho
  intro X hXl hE hin
  replace hE : En X D cX7_put 2 RX7 (some .boolean) rm_X7_put := hE
  subst hXl
  unfold f_X7_put
  refine Wo_grd (fun _ => ?_)
  refine r_aload_n (pc := 0) hE dX7_put_0 rfl ?_
  refine r_iconst (v := 0) (pc := 1) hE dX7_put_1 (by decide) ?_
  refine r_putI (pc := 2) hE 7 0 (by decide) (by decide) (fun _ _ _ => rfl) fl_RX7_87 rfl rfl rfl dX7_put_2 (fun h2 _ => ?_)
  refine r_aload_n (pc := 5) hE dX7_put_5 rfl ?_
  refine r_iload_n (pc := 6) hE dX7_put_6 rfl ?_
  refine r_callV (pc := 7) hE 7 (As := [.int x1]) (fun out ho => c_X7_isCell _ _ fu _ _ _ out ho) (fun out ho => k_X7_isCell ho) (by decide) rfl cs_RX7_113 ⟨Nat.le_of_ble_eq_true rfl, Nat.le_of_ble_eq_true rfl, Nat.le_of_ble_eq_true rfl, Nat.le_of_ble_eq_true rfl⟩ (Nat.le_of_ble_eq_true rfl) rfl dX7_put_7 (fun r7 _ => ?_)
  refine r_if_eq (pc := 10) hE 25 dX7_put_10 (by decide) (fun _ => ?_) (fun _ => ?_)
  · refine r_iconst (v := 0) (pc := 25) hE dX7_put_25 (by decide) ?_
    exact r_zret (pc := 26) hE (by decide) dX7_put_26
  · refine r_aload_n (pc := 13) hE dX7_put_13 rfl ?_
    refine r_aload_n (pc := 14) hE dX7_put_14 rfl ?_
    refine r_getJ (pc := 15) hE 7 4 (by decide) (by decide) (fun _ _ _ => rfl) fl_RX7_18 dX7_put_15 (fun v15 _ => ?_)
    refine r_iload_n (pc := 18) hE dX7_put_18 rfl ?_
    refine r_callV (pc := 19) hE 7 (As := [.long v15, .int x1]) (fun out ho => c_X7_has _ _ fu _ _ _ _ out ho) (fun out ho => k_X7_has ho) (by decide) rfl cs_RX7_96 ⟨Nat.le_of_ble_eq_true rfl, Nat.le_of_ble_eq_true rfl, Nat.le_of_ble_eq_true rfl, Nat.le_of_ble_eq_true rfl⟩ (Nat.le_of_ble_eq_true rfl) rfl dX7_put_19 (fun r19 _ => ?_)
    refine r_if_ne (pc := 22) hE 27 dX7_put_22 (by decide) (fun _ => ?_) (fun _ => ?_)
    · refine r_aload_n (pc := 27) hE dX7_put_27 rfl ?_
      refine r_iload_n (pc := 28) hE dX7_put_28 rfl ?_
      refine r_putI (pc := 29) hE 7 5 (by decide) (by decide) (fun _ _ _ => rfl) fl_RX7_22 rfl rfl rfl dX7_put_29 (fun h29 _ => ?_)
      refine r_iconst (v := 1) (pc := 32) hE dX7_put_32 (by decide) ?_
      exact r_zret (pc := 33) hE (by decide) dX7_put_33
    · refine r_iconst (v := 0) (pc := 25) hE dX7_put_25 (by decide) ?_
      exact r_zret (pc := 26) hE (by decide) dX7_put_26
theorem k_X7_put {fu : Nat} {x0 : Nat} {x1 : Int32} {h : Hp} {out : Int32 × Hp} (ho : f_X7_put fu x0 x1 h = some out) : h.K x0 = 7 := (gi_k ho).1
def rm_X7_bound : Room := { frames := 0, cells := 0, slots := 0, locals := 0 }
def f_X7_bound (fu : Nat) (x0 : Nat) (x1 : Int32) (x2 : Int32) (h : Hp) : Option (Int32 × Hp) :=
  if h.K x0 = 7 then
    if 0 ≤ x1 then
      if x1 ≤ x2 then
        some (x1, h)
      else
        some (x2, h)
    else
      some (0, h)
  else none
set_option maxHeartbeats 4000000 in
set_option maxRecDepth 100000 in
theorem c_X7_bound (l : Launch) (D : Dx) (fu : Nat) (x0 : Nat) (x1 : Int32) (x2 : Int32) (h : Hp) (out : Int32 × Hp) (ho : f_X7_bound fu x0 x1 x2 h = some out) : Ct l D yX7_bound cX7_bound 3 (some .int) rm_X7_bound [.ref x0, .int x1, .int x2] h (evI out.1) out.2 := by
  refine Ct.of (o := f_X7_bound fu x0 x1 x2 h) (lv := [some (.ref x0), some (.int x1), some (.int x2)]) (by decide) (Nat.le_of_ble_eq_true rfl) rfl ?_ out ho
  intro X hXl hE hin
  replace hE : En X D cX7_bound 3 RX7 (some .int) rm_X7_bound := hE
  subst hXl
  unfold f_X7_bound
  refine Wo_grd (fun _ => ?_)
  refine r_iload_n (pc := 0) hE dX7_bound_0 rfl ?_
  refine r_if_ge (pc := 1) hE 8 dX7_bound_1 (by decide) (fun _ => ?_) (fun _ => ?_)
  · refine r_iload_n (pc := 8) hE dX7_bound_8 rfl ?_
    refine r_iload_n (pc := 9) hE dX7_bound_9 rfl ?_
    refine r_icmp_le (pc := 10) hE 17 dX7_bound_10 (by decide) (fun _ => ?_) (fun _ => ?_)
    · refine r_iload_n (pc := 17) hE dX7_bound_17 rfl ?_
      exact r_iret (pc := 18) hE dX7_bound_18
    · refine r_iload_n (pc := 13) hE dX7_bound_13 rfl ?_
      refine r_goto (pc := 14) hE 18 dX7_bound_14 (by decide) ?_
      exact r_iret (pc := 18) hE dX7_bound_18
  · refine r_iconst (v := 0) (pc := 4) hE dX7_bound_4 (by decide) ?_
    refine r_goto (pc := 5) hE 18 dX7_bound_5 (by decide) ?_
    exact r_iret (pc := 18) hE dX7_bound_18
theorem k_X7_bound {fu : Nat} {x0 : Nat} {x1 : Int32} {x2 : Int32} {h : Hp} {out : Int32 × Hp} (ho : f_X7_bound fu x0 x1 x2 h = some out) : h.K x0 = 7 := (gi_k ho).1
theorem cs_RX7_130 : csV RX7 130 yX7_bound cX7_bound 3 (some .int) 2 = true := by decide +kernel
def rm_X7_goes : Room := { frames := 1, cells := 0, slots := 0, locals := 22 }
def f_X7_goes (fu : Nat) (x0 : Nat) (x1 : Int32) (x2 : Int32) (x3 : Int32) (h : Hp) : Option (Int32 × Hp) :=
  if h.K x0 = 7 then
    (f_X7_isLand fu x0 x1 h).bind fun r2 =>
    if r2.1 = 0 then
      (gI r2.2 7 x0 1).bind fun v13 =>
      if v13 = 0 then none else
      (gI r2.2 7 x0 1).bind fun v30 =>
      (f_X7_bound fu x0 (((((rem x1 v13) + (rem x2 3)) - 1) + (rem x3 3)) - 1) (v30 - 1) r2.2).bind fun r35 =>
      (gI r35.2 7 x0 1).bind fun v43 =>
      if v43 = 0 then none else
      (gI r35.2 7 x0 2).bind fun v60 =>
      (f_X7_bound fu x0 (((((x1 / v43) + (x2 / 3)) - 1) + (x3 / 3)) - 1) (v60 - 1) r35.2).bind fun r65 =>
      (gI r65.2 7 x0 1).bind fun v71 =>
      some (((v71 * r65.1) + r35.1), r65.2)
    else
      some (x1, r2.2)
  else none
set_option maxHeartbeats 4000000 in
set_option maxRecDepth 100000 in
theorem c_X7_goes (l : Launch) (D : Dx) (fu : Nat) (x0 : Nat) (x1 : Int32) (x2 : Int32) (x3 : Int32) (h : Hp) (out : Int32 × Hp) (ho : f_X7_goes fu x0 x1 x2 x3 h = some out) : Ct l D yX7_goes cX7_goes 6 (some .int) rm_X7_goes [.ref x0, .int x1, .int x2, .int x3] h (evI out.1) out.2 := by
  refine Ct.of (o := f_X7_goes fu x0 x1 x2 x3 h) (lv := [some (.ref x0), some (.int x1), some (.int x2), some (.int x3), none, none]) (by decide) (Nat.le_of_ble_eq_true rfl) rfl ?_ out ho
  intro X hXl hE hin
  replace hE : En X D cX7_goes 6 RX7 (some .int) rm_X7_goes := hE
  subst hXl
  unfold f_X7_goes
  refine Wo_grd (fun _ => ?_)
  refine r_aload_n (pc := 0) hE dX7_goes_0 rfl ?_
  refine r_iload_n (pc := 1) hE dX7_goes_1 rfl ?_
  refine r_callV (pc := 2) hE 7 (As := [.int x1]) (fun out ho => c_X7_isLand _ _ fu _ _ _ out ho) (fun out ho => k_X7_isLand ho) (by decide) rfl cs_RX7_117 ⟨Nat.le_of_ble_eq_true rfl, Nat.le_of_ble_eq_true rfl, Nat.le_of_ble_eq_true rfl, Nat.le_of_ble_eq_true rfl⟩ (Nat.le_of_ble_eq_true rfl) rfl dX7_goes_2 (fun r2 _ => ?_)
  refine r_if_eq (pc := 5) hE 10 dX7_goes_5 (by decide) (fun _ => ?_) (fun _ => ?_)
  · refine r_aload_n (pc := 10) hE dX7_goes_10 rfl ?_
    refine r_iload_n (pc := 11) hE dX7_goes_11 rfl ?_
    refine r_aload_n (pc := 12) hE dX7_goes_12 rfl ?_
    refine r_getI (pc := 13) hE 7 1 (by decide) (by decide) (fun _ _ _ => rfl) fl_RX7_7 dX7_goes_13 (fun v13 _ => ?_)
    refine r_iremQ (pc := 16) hE dX7_goes_16 (fun _ => ?_)
    refine r_iload_n (pc := 17) hE dX7_goes_17 rfl ?_
    refine r_iconst (v := 3) (pc := 18) hE dX7_goes_18 (by decide) ?_
    refine r_irem (pc := 19) hE dX7_goes_19 (by decide) ?_
    refine r_iadd (pc := 20) hE dX7_goes_20 ?_
    refine r_iconst (v := 1) (pc := 21) hE dX7_goes_21 (by decide) ?_
    refine r_isub (pc := 22) hE dX7_goes_22 ?_
    refine r_iload_n (pc := 23) hE dX7_goes_23 rfl ?_
    refine r_iconst (v := 3) (pc := 24) hE dX7_goes_24 (by decide) ?_
    refine r_irem (pc := 25) hE dX7_goes_25 (by decide) ?_
    refine r_iadd (pc := 26) hE dX7_goes_26 ?_
    refine r_iconst (v := 1) (pc := 27) hE dX7_goes_27 (by decide) ?_
    refine r_isub (pc := 28) hE dX7_goes_28 ?_
    refine r_aload_n (pc := 29) hE dX7_goes_29 rfl ?_
    refine r_getI (pc := 30) hE 7 1 (by decide) (by decide) (fun _ _ _ => rfl) fl_RX7_7 dX7_goes_30 (fun v30 _ => ?_)
    refine r_iconst (v := 1) (pc := 33) hE dX7_goes_33 (by decide) ?_
    refine r_isub (pc := 34) hE dX7_goes_34 ?_
    refine r_callV (pc := 35) hE 7 (As := [.int (((((rem x1 v13) + (rem x2 3)) - 1) + (rem x3 3)) - 1), .int (v30 - 1)]) (fun out ho => c_X7_bound _ _ fu _ _ _ _ out ho) (fun out ho => k_X7_bound ho) (by decide) rfl cs_RX7_130 ⟨Nat.le_of_ble_eq_true rfl, Nat.le_of_ble_eq_true rfl, Nat.le_of_ble_eq_true rfl, Nat.le_of_ble_eq_true rfl⟩ (Nat.le_of_ble_eq_true rfl) rfl dX7_goes_35 (fun r35 _ => ?_)
    refine r_istore (pc := 38) hE dX7_goes_38 (by decide) ?_
    refine r_aload_n (pc := 40) hE dX7_goes_40 rfl ?_
    refine r_iload_n (pc := 41) hE dX7_goes_41 rfl ?_
    refine r_aload_n (pc := 42) hE dX7_goes_42 rfl ?_
    refine r_getI (pc := 43) hE 7 1 (by decide) (by decide) (fun _ _ _ => rfl) fl_RX7_7 dX7_goes_43 (fun v43 _ => ?_)
    refine r_idivQ (pc := 46) hE dX7_goes_46 (fun _ => ?_)
    refine r_iload_n (pc := 47) hE dX7_goes_47 rfl ?_
    refine r_iconst (v := 3) (pc := 48) hE dX7_goes_48 (by decide) ?_
    refine r_idiv (pc := 49) hE dX7_goes_49 (by decide) ?_
    refine r_iadd (pc := 50) hE dX7_goes_50 ?_
    refine r_iconst (v := 1) (pc := 51) hE dX7_goes_51 (by decide) ?_
    refine r_isub (pc := 52) hE dX7_goes_52 ?_
    refine r_iload_n (pc := 53) hE dX7_goes_53 rfl ?_
    refine r_iconst (v := 3) (pc := 54) hE dX7_goes_54 (by decide) ?_
    refine r_idiv (pc := 55) hE dX7_goes_55 (by decide) ?_
    refine r_iadd (pc := 56) hE dX7_goes_56 ?_
    refine r_iconst (v := 1) (pc := 57) hE dX7_goes_57 (by decide) ?_
    refine r_isub (pc := 58) hE dX7_goes_58 ?_
    refine r_aload_n (pc := 59) hE dX7_goes_59 rfl ?_
    refine r_getI (pc := 60) hE 7 2 (by decide) (by decide) (fun _ _ _ => rfl) fl_RX7_13 dX7_goes_60 (fun v60 _ => ?_)
    refine r_iconst (v := 1) (pc := 63) hE dX7_goes_63 (by decide) ?_
    refine r_isub (pc := 64) hE dX7_goes_64 ?_
    refine r_callV (pc := 65) hE 7 (As := [.int (((((x1 / v43) + (x2 / 3)) - 1) + (x3 / 3)) - 1), .int (v60 - 1)]) (fun out ho => c_X7_bound _ _ fu _ _ _ _ out ho) (fun out ho => k_X7_bound ho) (by decide) rfl cs_RX7_130 ⟨Nat.le_of_ble_eq_true rfl, Nat.le_of_ble_eq_true rfl, Nat.le_of_ble_eq_true rfl, Nat.le_of_ble_eq_true rfl⟩ (Nat.le_of_ble_eq_true rfl) rfl dX7_goes_65 (fun r65 _ => ?_)
    refine r_istore (pc := 68) hE dX7_goes_68 (by decide) ?_
    refine r_aload_n (pc := 70) hE dX7_goes_70 rfl ?_
    refine r_getI (pc := 71) hE 7 1 (by decide) (by decide) (fun _ _ _ => rfl) fl_RX7_7 dX7_goes_71 (fun v71 _ => ?_)
    refine r_iload (pc := 74) hE dX7_goes_74 rfl ?_
    refine r_imul (pc := 76) hE dX7_goes_76 ?_
    refine r_iload (pc := 77) hE dX7_goes_77 rfl ?_
    refine r_iadd (pc := 79) hE dX7_goes_79 ?_
    exact r_iret (pc := 80) hE dX7_goes_80
  · refine r_iload_n (pc := 8) hE dX7_goes_8 rfl ?_
    exact r_iret (pc := 9) hE dX7_goes_9
theorem k_X7_goes {fu : Nat} {x0 : Nat} {x1 : Int32} {x2 : Int32} {x3 : Int32} {h : Hp} {out : Int32 × Hp} (ho : f_X7_goes fu x0 x1 x2 x3 h = some out) : h.K x0 = 7 := (gi_k ho).1
theorem cs_RX7_134 : csV RX7 134 yX7_goes cX7_goes 6 (some .int) 3 = true := by decide +kernel
def rm_X7_goesAll : Room := { frames := 2, cells := 0, slots := 0, locals := 47 }
def f_X7_goesAll_76 (fu : Nat) (k6 : Nat → Int64 → Int32 → Int32 → Int64 → Int32 → Hp → Option (Int64 × Hp)) (x0 : Nat) (x1 : Int64) (x3 : Int32) (x4 : Int32) (x5 : Int64) (x7 : Int32) (h : Hp) : Option (Int64 × Hp) :=
  k6 x0 x1 x3 x4 x5 ((x7 + 1)) h
set_option maxHeartbeats 4000000 in
set_option maxRecDepth 100000 in
theorem w_X7_goesAll_76 {X : Cx} {D : Dx} (hE : En X D cX7_goesAll 9 RX7 (some .long) rm_X7_goesAll) {fu : Nat} {k6 : Nat → Int64 → Int32 → Int32 → Int64 → Int32 → Hp → Option (Int64 × Hp)} (hk6 : ∀ (x0 : Nat) (x1 : Int64) (x3 : Int32) (x4 : Int32) (x5 : Int64) (x7 : Int32) (h : Hp) (lv : List (Option Value)), lvLe [some (.ref x0), some (.long x1), none, some (.int x3), some (.int x4), some (.long x5), none, some (.int x7), none] lv → Wo X D 9 (Qr X D 0 0 evJ) 0 0 (k6 x0 x1 x3 x4 x5 x7 h) 6 lv [] h) (x0 : Nat) (x1 : Int64) (x3 : Int32) (x4 : Int32) (x5 : Int64) (x7 : Int32) (h : Hp) {lv : List (Option Value)} (hlv : lvLe [some (.ref x0), some (.long x1), none, some (.int x3), some (.int x4), some (.long x5), none, some (.int x7), none] lv) : Wo X D 9 (Qr X D 0 0 evJ) 0 0 (f_X7_goesAll_76 fu k6 x0 x1 x3 x4 x5 x7 h) 76 lv [] h := by
  refine Wo_sub hlv ?_
  unfold f_X7_goesAll_76
  refine r_iinc (v := (x7 + 1)) (pc := 76) hE dX7_goesAll_76 rfl rfl (by decide) ?_
  refine r_goto (pc := 79) hE 6 dX7_goesAll_79 (by decide) ?_
  exact hk6 _ _ _ _ _ _ _ _ ⟨rfl, ⟨rfl, ⟨rfl, ⟨rfl, ⟨rfl, ⟨rfl, trivial⟩⟩⟩⟩⟩⟩
def f_X7_goesAll_70 (fu : Nat) (k6 : Nat → Int64 → Int32 → Int32 → Int64 → Int32 → Hp → Option (Int64 × Hp)) (k31 : Nat → Int64 → Int32 → Int32 → Int64 → Int32 → Int32 → Hp → Option (Int64 × Hp)) (x0 : Nat) (x1 : Int64) (x3 : Int32) (x4 : Int32) (x5 : Int64) (x7 : Int32) (x8 : Int32) (h : Hp) : Option (Int64 × Hp) :=
  k31 x0 x1 x3 x4 x5 x7 ((x8 + 1)) h
set_option maxHeartbeats 4000000 in
set_option maxRecDepth 100000 in
theorem w_X7_goesAll_70 {X : Cx} {D : Dx} (hE : En X D cX7_goesAll 9 RX7 (some .long) rm_X7_goesAll) {fu : Nat} {k6 : Nat → Int64 → Int32 → Int32 → Int64 → Int32 → Hp → Option (Int64 × Hp)} {k31 : Nat → Int64 → Int32 → Int32 → Int64 → Int32 → Int32 → Hp → Option (Int64 × Hp)} (hk6 : ∀ (x0 : Nat) (x1 : Int64) (x3 : Int32) (x4 : Int32) (x5 : Int64) (x7 : Int32) (h : Hp) (lv : List (Option Value)), lvLe [some (.ref x0), some (.long x1), none, some (.int x3), some (.int x4), some (.long x5), none, some (.int x7), none] lv → Wo X D 9 (Qr X D 0 0 evJ) 0 0 (k6 x0 x1 x3 x4 x5 x7 h) 6 lv [] h) (hk31 : ∀ (x0 : Nat) (x1 : Int64) (x3 : Int32) (x4 : Int32) (x5 : Int64) (x7 : Int32) (x8 : Int32) (h : Hp) (lv : List (Option Value)), lvLe [some (.ref x0), some (.long x1), none, some (.int x3), some (.int x4), some (.long x5), none, some (.int x7), some (.int x8)] lv → Wo X D 9 (Qr X D 0 0 evJ) 0 0 (k31 x0 x1 x3 x4 x5 x7 x8 h) 31 lv [] h) (x0 : Nat) (x1 : Int64) (x3 : Int32) (x4 : Int32) (x5 : Int64) (x7 : Int32) (x8 : Int32) (h : Hp) {lv : List (Option Value)} (hlv : lvLe [some (.ref x0), some (.long x1), none, some (.int x3), some (.int x4), some (.long x5), none, some (.int x7), some (.int x8)] lv) : Wo X D 9 (Qr X D 0 0 evJ) 0 0 (f_X7_goesAll_70 fu k6 k31 x0 x1 x3 x4 x5 x7 x8 h) 70 lv [] h := by
  refine Wo_sub hlv ?_
  unfold f_X7_goesAll_70
  refine r_iinc (v := (x8 + 1)) (pc := 70) hE dX7_goesAll_70 rfl rfl (by decide) ?_
  refine r_goto (pc := 73) hE 31 dX7_goesAll_73 (by decide) ?_
  exact hk31 _ _ _ _ _ _ _ _ _ ⟨rfl, ⟨rfl, ⟨rfl, ⟨rfl, ⟨rfl, ⟨rfl, ⟨rfl, trivial⟩⟩⟩⟩⟩⟩⟩
def f_X7_goesAll_31 (fu : Nat) (k6 : Nat → Int64 → Int32 → Int32 → Int64 → Int32 → Hp → Option (Int64 × Hp)) : Nat → Nat → Int64 → Int32 → Int32 → Int64 → Int32 → Int32 → Hp → Option (Int64 × Hp)
  | 0, _, _, _, _, _, _, _, _ => none
  | n + 1, x0, x1, x3, x4, x5, x7, x8, h =>
    if 9 ≤ x8 then
      f_X7_goesAll_76 fu k6 x0 x1 x3 x4 x5 x7 h
    else
      (gR h 7 x0 10).bind fun v39 =>
      (aI h 8 v39 x4).bind fun v44 =>
      if ((v44 >>> (x8 &&& 31)) &&& 1) = 1 then
        (f_X7_goes fu x0 x7 x3 x8 h).bind fun r63 =>
        f_X7_goesAll_70 fu k6 (fun y0 y1 y2 y3 y4 y5 y6 hy => f_X7_goesAll_31 fu k6 n y0 y1 y2 y3 y4 y5 y6 hy) x0 x1 x3 x4 ((x5 ||| (lsh 1 r63.1))) x7 x8 r63.2
      else
        f_X7_goesAll_70 fu k6 (fun y0 y1 y2 y3 y4 y5 y6 hy => f_X7_goesAll_31 fu k6 n y0 y1 y2 y3 y4 y5 y6 hy) x0 x1 x3 x4 x5 x7 x8 h
set_option maxHeartbeats 4000000 in
set_option maxRecDepth 100000 in
theorem w_X7_goesAll_31 {X : Cx} {D : Dx} (hE : En X D cX7_goesAll 9 RX7 (some .long) rm_X7_goesAll) {fu : Nat} {k6 : Nat → Int64 → Int32 → Int32 → Int64 → Int32 → Hp → Option (Int64 × Hp)} (hk6 : ∀ (x0 : Nat) (x1 : Int64) (x3 : Int32) (x4 : Int32) (x5 : Int64) (x7 : Int32) (h : Hp) (lv : List (Option Value)), lvLe [some (.ref x0), some (.long x1), none, some (.int x3), some (.int x4), some (.long x5), none, some (.int x7), none] lv → Wo X D 9 (Qr X D 0 0 evJ) 0 0 (k6 x0 x1 x3 x4 x5 x7 h) 6 lv [] h) : ∀ (n : Nat) (x0 : Nat) (x1 : Int64) (x3 : Int32) (x4 : Int32) (x5 : Int64) (x7 : Int32) (x8 : Int32) (h : Hp) (lv : List (Option Value)), lvLe [some (.ref x0), some (.long x1), none, some (.int x3), some (.int x4), some (.long x5), none, some (.int x7), some (.int x8)] lv → Wo X D 9 (Qr X D 0 0 evJ) 0 0 (f_X7_goesAll_31 fu k6 n x0 x1 x3 x4 x5 x7 x8 h) 31 lv [] h := by
  intro n
  induction n with
  | zero => intros; exact Wo_none
  | succ n ih =>
    intro x0 x1 x3 x4 x5 x7 x8 h lv hlv
    refine Wo_sub hlv ?_
    rw [f_X7_goesAll_31]
    refine r_iload (pc := 31) hE dX7_goesAll_31 rfl ?_
    refine r_bipush (v := 9) (pc := 33) hE dX7_goesAll_33 (by decide) ?_
    refine r_icmp_ge (pc := 35) hE 76 dX7_goesAll_35 (by decide) (fun _ => ?_) (fun _ => ?_)
    · exact w_X7_goesAll_76 hE hk6 _ _ _ _ _ _ _ ⟨rfl, ⟨rfl, ⟨rfl, ⟨rfl, ⟨rfl, ⟨rfl, trivial⟩⟩⟩⟩⟩⟩
    · refine r_aload_n (pc := 38) hE dX7_goesAll_38 rfl ?_
      refine r_getR (pc := 39) hE 7 10 (by decide) (by decide) (fun _ _ _ => rfl) fl_RX7_32 dX7_goesAll_39 (fun v39 _ => ?_)
      refine r_iload (pc := 42) hE dX7_goesAll_42 rfl ?_
      refine r_aldI (pc := 44) hE dX7_goesAll_44 (fun v44 _ => ?_)
      refine r_iload (pc := 45) hE dX7_goesAll_45 rfl ?_
      refine r_ishr (pc := 47) hE dX7_goesAll_47 ?_
      refine r_iconst (v := 1) (pc := 48) hE dX7_goesAll_48 (by decide) ?_
      refine r_iand (pc := 49) hE dX7_goesAll_49 ?_
      refine r_iconst (v := 1) (pc := 50) hE dX7_goesAll_50 (by decide) ?_
      refine r_icmp_ne (pc := 51) hE 70 dX7_goesAll_51 (by decide) (fun _ => ?_) (fun _ => ?_)
      · exact w_X7_goesAll_70 hE hk6 (fun y0 y1 y2 y3 y4 y5 y6 hy lvy hly => ih y0 y1 y2 y3 y4 y5 y6 hy lvy hly) _ _ _ _ _ _ _ _ ⟨rfl, ⟨rfl, ⟨rfl, ⟨rfl, ⟨rfl, ⟨rfl, ⟨rfl, trivial⟩⟩⟩⟩⟩⟩⟩
      · refine r_lload (pc := 54) hE dX7_goesAll_54 rfl ?_
        refine r_lconst (v := 1) (pc := 56) hE dX7_goesAll_56 rfl ?_
        refine r_aload_n (pc := 57) hE dX7_goesAll_57 rfl ?_
        refine r_iload (pc := 58) hE dX7_goesAll_58 rfl ?_
        refine r_iload_n (pc := 60) hE dX7_goesAll_60 rfl ?_
        refine r_iload (pc := 61) hE dX7_goesAll_61 rfl ?_
        refine r_callV (pc := 63) hE 7 (As := [.int x7, .int x3, .int x8]) (fun out ho => c_X7_goes _ _ fu _ _ _ _ _ out ho) (fun out ho => k_X7_goes ho) (by decide) rfl cs_RX7_134 ⟨Nat.le_of_ble_eq_true rfl, Nat.le_of_ble_eq_true rfl, Nat.le_of_ble_eq_true rfl, Nat.le_of_ble_eq_true rfl⟩ (Nat.le_of_ble_eq_true rfl) rfl dX7_goesAll_63 (fun r63 _ => ?_)
        refine r_lshl (pc := 66) hE dX7_goesAll_66 ?_
        refine r_lor (pc := 67) hE dX7_goesAll_67 ?_
        refine r_lstore (pc := 68) hE dX7_goesAll_68 (by decide) ?_
        exact w_X7_goesAll_70 hE hk6 (fun y0 y1 y2 y3 y4 y5 y6 hy lvy hly => ih y0 y1 y2 y3 y4 y5 y6 hy lvy hly) _ _ _ _ _ _ _ _ ⟨rfl, ⟨rfl, ⟨rfl, ⟨rfl, ⟨rfl, ⟨rfl, ⟨rfl, trivial⟩⟩⟩⟩⟩⟩⟩
def f_X7_goesAll_6 (fu : Nat) : Nat → Nat → Int64 → Int32 → Int32 → Int64 → Int32 → Hp → Option (Int64 × Hp)
  | 0, _, _, _, _, _, _, _ => none
  | n + 1, x0, x1, x3, x4, x5, x7, h =>
    (f_X7_cells fu x0 h).bind fun r9 =>
    if r9.1 ≤ x7 then
      some (x5, r9.2)
    else
      (f_X7_has fu x0 x1 x7 r9.2).bind fun r19 =>
      if r19.1 = 0 then
        f_X7_goesAll_76 fu (fun y0 y1 y2 y3 y4 y5 hy => f_X7_goesAll_6 fu n y0 y1 y2 y3 y4 y5 hy) x0 x1 x3 x4 x5 x7 r19.2
      else
        f_X7_goesAll_31 fu (fun y0 y1 y2 y3 y4 y5 hy => f_X7_goesAll_6 fu n y0 y1 y2 y3 y4 y5 hy) fu x0 x1 x3 x4 x5 x7 0 r19.2
set_option maxHeartbeats 4000000 in
set_option maxRecDepth 100000 in
theorem w_X7_goesAll_6 {X : Cx} {D : Dx} (hE : En X D cX7_goesAll 9 RX7 (some .long) rm_X7_goesAll) {fu : Nat} : ∀ (n : Nat) (x0 : Nat) (x1 : Int64) (x3 : Int32) (x4 : Int32) (x5 : Int64) (x7 : Int32) (h : Hp) (lv : List (Option Value)), lvLe [some (.ref x0), some (.long x1), none, some (.int x3), some (.int x4), some (.long x5), none, some (.int x7), none] lv → Wo X D 9 (Qr X D 0 0 evJ) 0 0 (f_X7_goesAll_6 fu n x0 x1 x3 x4 x5 x7 h) 6 lv [] h := by
  intro n
  induction n with
  | zero => intros; exact Wo_none
  | succ n ih =>
    intro x0 x1 x3 x4 x5 x7 h lv hlv
    refine Wo_sub hlv ?_
    rw [f_X7_goesAll_6]
    refine r_iload (pc := 6) hE dX7_goesAll_6 rfl ?_
    refine r_aload_n (pc := 8) hE dX7_goesAll_8 rfl ?_
    refine r_callV (pc := 9) hE 7 (As := []) (fun out ho => c_X7_cells _ _ fu _ _ out ho) (fun out ho => k_X7_cells ho) (by decide) rfl cs_RX7_90 ⟨Nat.le_of_ble_eq_true rfl, Nat.le_of_ble_eq_true rfl, Nat.le_of_ble_eq_true rfl, Nat.le_of_ble_eq_true rfl⟩ (Nat.le_of_ble_eq_true rfl) rfl dX7_goesAll_9 (fun r9 _ => ?_)
    refine r_icmp_ge (pc := 12) hE 82 dX7_goesAll_12 (by decide) (fun _ => ?_) (fun _ => ?_)
    · refine r_lload (pc := 82) hE dX7_goesAll_82 rfl ?_
      exact r_lret (pc := 84) hE dX7_goesAll_84
    · refine r_aload_n (pc := 15) hE dX7_goesAll_15 rfl ?_
      refine r_lload_n (pc := 16) hE dX7_goesAll_16 rfl ?_
      refine r_iload (pc := 17) hE dX7_goesAll_17 rfl ?_
      refine r_callV (pc := 19) hE 7 (As := [.long x1, .int x7]) (fun out ho => c_X7_has _ _ fu _ _ _ _ out ho) (fun out ho => k_X7_has ho) (by decide) rfl cs_RX7_96 ⟨Nat.le_of_ble_eq_true rfl, Nat.le_of_ble_eq_true rfl, Nat.le_of_ble_eq_true rfl, Nat.le_of_ble_eq_true rfl⟩ (Nat.le_of_ble_eq_true rfl) rfl dX7_goesAll_19 (fun r19 _ => ?_)
      refine r_if_ne (pc := 22) hE 28 dX7_goesAll_22 (by decide) (fun _ => ?_) (fun _ => ?_)
      · refine r_iconst (v := 0) (pc := 28) hE dX7_goesAll_28 (by decide) ?_
        refine r_istore (pc := 29) hE dX7_goesAll_29 (by decide) ?_
        exact w_X7_goesAll_31 hE (fun y0 y1 y2 y3 y4 y5 hy lvy hly => ih y0 y1 y2 y3 y4 y5 hy lvy hly) fu _ _ _ _ _ _ _ _ _ ⟨rfl, ⟨rfl, ⟨rfl, ⟨rfl, ⟨rfl, ⟨rfl, ⟨rfl, trivial⟩⟩⟩⟩⟩⟩⟩
      · refine r_goto (pc := 25) hE 76 dX7_goesAll_25 (by decide) ?_
        exact w_X7_goesAll_76 hE (fun y0 y1 y2 y3 y4 y5 hy lvy hly => ih y0 y1 y2 y3 y4 y5 hy lvy hly) _ _ _ _ _ _ _ ⟨rfl, ⟨rfl, ⟨rfl, ⟨rfl, ⟨rfl, ⟨rfl, trivial⟩⟩⟩⟩⟩⟩
def f_X7_goesAll (fu : Nat) (x0 : Nat) (x1 : Int64) (x3 : Int32) (x4 : Int32) (h : Hp) : Option (Int64 × Hp) :=
  if h.K x0 = 7 then
    f_X7_goesAll_6 fu fu x0 x1 x3 x4 0 0 h
  else none
set_option maxHeartbeats 4000000 in
set_option maxRecDepth 100000 in
theorem c_X7_goesAll (l : Launch) (D : Dx) (fu : Nat) (x0 : Nat) (x1 : Int64) (x3 : Int32) (x4 : Int32) (h : Hp) (out : Int64 × Hp) (ho : f_X7_goesAll fu x0 x1 x3 x4 h = some out) : Ct l D yX7_goesAll cX7_goesAll 9 (some .long) rm_X7_goesAll [.ref x0, .long x1, .int x3, .int x4] h (evJ out.1) out.2 := by
  refine Ct.of (o := f_X7_goesAll fu x0 x1 x3 x4 h) (lv := [some (.ref x0), some (.long x1), none, some (.int x3), some (.int x4), none, none, none, none]) (by decide) (Nat.le_of_ble_eq_true rfl) rfl ?_ out ho
  intro X hXl hE hin
  replace hE : En X D cX7_goesAll 9 RX7 (some .long) rm_X7_goesAll := hE
  subst hXl
  unfold f_X7_goesAll
  refine Wo_grd (fun _ => ?_)
  refine r_lconst (v := 0) (pc := 0) hE dX7_goesAll_0 rfl ?_
  refine r_lstore (pc := 1) hE dX7_goesAll_1 (by decide) ?_
  refine r_iconst (v := 0) (pc := 3) hE dX7_goesAll_3 (by decide) ?_
  refine r_istore (pc := 4) hE dX7_goesAll_4 (by decide) ?_
  exact w_X7_goesAll_6 hE fu _ _ _ _ _ _ _ _ ⟨rfl, ⟨rfl, ⟨rfl, ⟨rfl, ⟨rfl, ⟨rfl, trivial⟩⟩⟩⟩⟩⟩
theorem k_X7_goesAll {fu : Nat} {x0 : Nat} {x1 : Int64} {x3 : Int32} {x4 : Int32} {h : Hp} {out : Int64 × Hp} (ho : f_X7_goesAll fu x0 x1 x3 x4 h = some out) : h.K x0 = 7 := (gi_k ho).1
theorem cs_RX7_138 : csV RX7 138 yX7_goesAll cX7_goesAll 9 (some .long) 3 = true := by decide +kernel
def rm_X7_steer : Room := { frames := 3, cells := 0, slots := 0, locals := 75 }
def f_X7_steer_98 (fu : Nat) (x0 : Nat) (h : Hp) : Option (Int32 × Hp) :=
  (gI h 7 x0 3).bind fun v100 =>
  (pI h 7 x0 3 (v100 + 1)).bind fun h105 =>
  (gJ h105 7 x0 4).bind fun v110 =>
  (f_X7_count fu x0 v110 h105).bind fun r113 =>
  some (r113.1, r113.2)
set_option maxHeartbeats 4000000 in
set_option maxRecDepth 100000 in
theorem w_X7_steer_98 {X : Cx} {D : Dx} (hE : En X D cX7_steer 3 RX7 (some .int) rm_X7_steer) {fu : Nat} (x0 : Nat) (h : Hp) {lv : List (Option Value)} (hlv : lvLe [some (.ref x0), none, none] lv) : Wo X D 3 (Qr X D 0 0 evI) 0 0 (f_X7_steer_98 fu x0 h) 98 lv [] h := by
  refine Wo_sub hlv ?_
  unfold f_X7_steer_98
  refine r_aload_n (pc := 98) hE dX7_steer_98 rfl ?_
  refine r_aload_n (pc := 99) hE dX7_steer_99 rfl ?_
  refine r_getI (pc := 100) hE 7 3 (by decide) (by decide) (fun _ _ _ => rfl) fl_RX7_100 dX7_steer_100 (fun v100 _ => ?_)
  refine r_iconst (v := 1) (pc := 103) hE dX7_steer_103 (by decide) ?_
  refine r_iadd (pc := 104) hE dX7_steer_104 ?_
  refine r_putI (pc := 105) hE 7 3 (by decide) (by decide) (fun _ _ _ => rfl) fl_RX7_100 rfl rfl rfl dX7_steer_105 (fun h105 _ => ?_)
  refine r_aload_n (pc := 108) hE dX7_steer_108 rfl ?_
  refine r_aload_n (pc := 109) hE dX7_steer_109 rfl ?_
  refine r_getJ (pc := 110) hE 7 4 (by decide) (by decide) (fun _ _ _ => rfl) fl_RX7_18 dX7_steer_110 (fun v110 _ => ?_)
  refine r_callV (pc := 113) hE 7 (As := [.long v110]) (fun out ho => c_X7_count _ _ fu _ _ _ out ho) (fun out ho => k_X7_count ho) (by decide) rfl cs_RX7_120 ⟨Nat.le_of_ble_eq_true rfl, Nat.le_of_ble_eq_true rfl, Nat.le_of_ble_eq_true rfl, Nat.le_of_ble_eq_true rfl⟩ (Nat.le_of_ble_eq_true rfl) rfl dX7_steer_113 (fun r113 _ => ?_)
  exact r_iret (pc := 116) hE dX7_steer_116
def f_X7_steer (fu : Nat) (x0 : Nat) (x1 : Int32) (x2 : Int32) (h : Hp) : Option (Int32 × Hp) :=
  if h.K x0 = 7 then
    (pI h 7 x0 0 0).bind fun h2 =>
    if x1 < 0 then
      some ((-1), h2)
    else
      if 8 < x1 then
        some ((-1), h2)
      else
        if x2 < 0 then
          some ((-1), h2)
        else
          if 8 < x2 then
            some ((-1), h2)
          else
            (gR h2 7 x0 10).bind fun v26 =>
            (gI h2 7 x0 3).bind fun v30 =>
            (aI h2 8 v26 (rem v30 6)).bind fun v36 =>
            if ((v36 >>> (x2 &&& 31)) &&& 1) = 0 then
              some ((-1), h2)
            else
              (gI h2 7 x0 3).bind fun v45 =>
              if v45 = 9999 then
                some ((-1), h2)
              else
                (gJ h2 7 x0 4).bind fun v59 =>
                (gI h2 7 x0 3).bind fun v64 =>
                (f_X7_goesAll fu x0 v59 x1 (rem v64 6) h2).bind fun r70 =>
                (pJ r70.2 7 x0 4 r70.1).bind fun h73 =>
                (gI h73 7 x0 5).bind fun v77 =>
                if v77 = (-1) then
                  f_X7_steer_98 fu x0 h73
                else
                  (gI h73 7 x0 5).bind fun v87 =>
                  (f_X7_goes fu x0 v87 x1 x2 h73).bind fun r92 =>
                  (pI r92.2 7 x0 5 r92.1).bind fun h95 =>
                  f_X7_steer_98 fu x0 h95
  else none
set_option maxHeartbeats 4000000 in
set_option maxRecDepth 100000 in
theorem c_X7_steer (l : Launch) (D : Dx) (fu : Nat) (x0 : Nat) (x1 : Int32) (x2 : Int32) (h : Hp) (out : Int32 × Hp) (ho : f_X7_steer fu x0 x1 x2 h = some out) : Ct l D yX7_steer cX7_steer 3 (some .int) rm_X7_steer [.ref x0, .int x1, .int x2] h (evI out.1) out.2 := by
  refine Ct.of (o := f_X7_steer fu x0 x1 x2 h) (lv := [some (.ref x0), some (.int x1), some (.int x2)]) (by decide) (Nat.le_of_ble_eq_true rfl) rfl ?_ out ho
  intro X hXl hE hin
  replace hE : En X D cX7_steer 3 RX7 (some .int) rm_X7_steer := hE
  subst hXl
  unfold f_X7_steer
  refine Wo_grd (fun _ => ?_)
  refine r_aload_n (pc := 0) hE dX7_steer_0 rfl ?_
  refine r_iconst (v := 0) (pc := 1) hE dX7_steer_1 (by decide) ?_
  refine r_putI (pc := 2) hE 7 0 (by decide) (by decide) (fun _ _ _ => rfl) fl_RX7_87 rfl rfl rfl dX7_steer_2 (fun h2 _ => ?_)
  refine r_iload_n (pc := 5) hE dX7_steer_5 rfl ?_
  refine r_if_lt (pc := 6) hE 54 dX7_steer_6 (by decide) (fun _ => ?_) (fun _ => ?_)
  · refine r_iconst (v := -1) (pc := 54) hE dX7_steer_54 (by decide) ?_
    exact r_iret (pc := 55) hE dX7_steer_55
  · refine r_iload_n (pc := 9) hE dX7_steer_9 rfl ?_
    refine r_bipush (v := 8) (pc := 10) hE dX7_steer_10 (by decide) ?_
    refine r_icmp_gt (pc := 12) hE 54 dX7_steer_12 (by decide) (fun _ => ?_) (fun _ => ?_)
    · refine r_iconst (v := -1) (pc := 54) hE dX7_steer_54 (by decide) ?_
      exact r_iret (pc := 55) hE dX7_steer_55
    · refine r_iload_n (pc := 15) hE dX7_steer_15 rfl ?_
      refine r_if_lt (pc := 16) hE 54 dX7_steer_16 (by decide) (fun _ => ?_) (fun _ => ?_)
      · refine r_iconst (v := -1) (pc := 54) hE dX7_steer_54 (by decide) ?_
        exact r_iret (pc := 55) hE dX7_steer_55
      · refine r_iload_n (pc := 19) hE dX7_steer_19 rfl ?_
        refine r_bipush (v := 8) (pc := 20) hE dX7_steer_20 (by decide) ?_
        refine r_icmp_gt (pc := 22) hE 54 dX7_steer_22 (by decide) (fun _ => ?_) (fun _ => ?_)
        · refine r_iconst (v := -1) (pc := 54) hE dX7_steer_54 (by decide) ?_
          exact r_iret (pc := 55) hE dX7_steer_55
        · refine r_aload_n (pc := 25) hE dX7_steer_25 rfl ?_
          refine r_getR (pc := 26) hE 7 10 (by decide) (by decide) (fun _ _ _ => rfl) fl_RX7_32 dX7_steer_26 (fun v26 _ => ?_)
          refine r_aload_n (pc := 29) hE dX7_steer_29 rfl ?_
          refine r_getI (pc := 30) hE 7 3 (by decide) (by decide) (fun _ _ _ => rfl) fl_RX7_100 dX7_steer_30 (fun v30 _ => ?_)
          refine r_bipush (v := 6) (pc := 33) hE dX7_steer_33 (by decide) ?_
          refine r_irem (pc := 35) hE dX7_steer_35 (by decide) ?_
          refine r_aldI (pc := 36) hE dX7_steer_36 (fun v36 _ => ?_)
          refine r_iload_n (pc := 37) hE dX7_steer_37 rfl ?_
          refine r_ishr (pc := 38) hE dX7_steer_38 ?_
          refine r_iconst (v := 1) (pc := 39) hE dX7_steer_39 (by decide) ?_
          refine r_iand (pc := 40) hE dX7_steer_40 ?_
          refine r_if_eq (pc := 41) hE 54 dX7_steer_41 (by decide) (fun _ => ?_) (fun _ => ?_)
          · refine r_iconst (v := -1) (pc := 54) hE dX7_steer_54 (by decide) ?_
            exact r_iret (pc := 55) hE dX7_steer_55
          · refine r_aload_n (pc := 44) hE dX7_steer_44 rfl ?_
            refine r_getI (pc := 45) hE 7 3 (by decide) (by decide) (fun _ _ _ => rfl) fl_RX7_100 dX7_steer_45 (fun v45 _ => ?_)
            refine r_sipush (v := 9999) (pc := 48) hE dX7_steer_48 (by decide) ?_
            refine r_icmp_ne (pc := 51) hE 56 dX7_steer_51 (by decide) (fun _ => ?_) (fun _ => ?_)
            · refine r_aload_n (pc := 56) hE dX7_steer_56 rfl ?_
              refine r_aload_n (pc := 57) hE dX7_steer_57 rfl ?_
              refine r_aload_n (pc := 58) hE dX7_steer_58 rfl ?_
              refine r_getJ (pc := 59) hE 7 4 (by decide) (by decide) (fun _ _ _ => rfl) fl_RX7_18 dX7_steer_59 (fun v59 _ => ?_)
              refine r_iload_n (pc := 62) hE dX7_steer_62 rfl ?_
              refine r_aload_n (pc := 63) hE dX7_steer_63 rfl ?_
              refine r_getI (pc := 64) hE 7 3 (by decide) (by decide) (fun _ _ _ => rfl) fl_RX7_100 dX7_steer_64 (fun v64 _ => ?_)
              refine r_bipush (v := 6) (pc := 67) hE dX7_steer_67 (by decide) ?_
              refine r_irem (pc := 69) hE dX7_steer_69 (by decide) ?_
              refine r_callV (pc := 70) hE 7 (As := [.long v59, .int x1, .int (rem v64 6)]) (fun out ho => c_X7_goesAll _ _ fu _ _ _ _ _ out ho) (fun out ho => k_X7_goesAll ho) (by decide) rfl cs_RX7_138 ⟨Nat.le_of_ble_eq_true rfl, Nat.le_of_ble_eq_true rfl, Nat.le_of_ble_eq_true rfl, Nat.le_of_ble_eq_true rfl⟩ (Nat.le_of_ble_eq_true rfl) rfl dX7_steer_70 (fun r70 _ => ?_)
              refine r_putJ (pc := 73) hE 7 4 (by decide) (by decide) (fun _ _ _ => rfl) fl_RX7_18 rfl rfl rfl dX7_steer_73 (fun h73 _ => ?_)
              refine r_aload_n (pc := 76) hE dX7_steer_76 rfl ?_
              refine r_getI (pc := 77) hE 7 5 (by decide) (by decide) (fun _ _ _ => rfl) fl_RX7_22 dX7_steer_77 (fun v77 _ => ?_)
              refine r_iconst (v := -1) (pc := 80) hE dX7_steer_80 (by decide) ?_
              refine r_icmp_eq (pc := 81) hE 98 dX7_steer_81 (by decide) (fun _ => ?_) (fun _ => ?_)
              · exact w_X7_steer_98 hE _ _ ⟨rfl, trivial⟩
              · refine r_aload_n (pc := 84) hE dX7_steer_84 rfl ?_
                refine r_aload_n (pc := 85) hE dX7_steer_85 rfl ?_
                refine r_aload_n (pc := 86) hE dX7_steer_86 rfl ?_
                refine r_getI (pc := 87) hE 7 5 (by decide) (by decide) (fun _ _ _ => rfl) fl_RX7_22 dX7_steer_87 (fun v87 _ => ?_)
                refine r_iload_n (pc := 90) hE dX7_steer_90 rfl ?_
                refine r_iload_n (pc := 91) hE dX7_steer_91 rfl ?_
                refine r_callV (pc := 92) hE 7 (As := [.int v87, .int x1, .int x2]) (fun out ho => c_X7_goes _ _ fu _ _ _ _ _ out ho) (fun out ho => k_X7_goes ho) (by decide) rfl cs_RX7_134 ⟨Nat.le_of_ble_eq_true rfl, Nat.le_of_ble_eq_true rfl, Nat.le_of_ble_eq_true rfl, Nat.le_of_ble_eq_true rfl⟩ (Nat.le_of_ble_eq_true rfl) rfl dX7_steer_92 (fun r92 _ => ?_)
                refine r_putI (pc := 95) hE 7 5 (by decide) (by decide) (fun _ _ _ => rfl) fl_RX7_22 rfl rfl rfl dX7_steer_95 (fun h95 _ => ?_)
                exact w_X7_steer_98 hE _ _ ⟨rfl, trivial⟩
            · refine r_iconst (v := -1) (pc := 54) hE dX7_steer_54 (by decide) ?_
              exact r_iret (pc := 55) hE dX7_steer_55
theorem k_X7_steer {fu : Nat} {x0 : Nat} {x1 : Int32} {x2 : Int32} {h : Hp} {out : Int32 × Hp} (ho : f_X7_steer fu x0 x1 x2 h = some out) : h.K x0 = 7 := (gi_k ho).1
def rm_X7_far : Room := { frames := 0, cells := 0, slots := 0, locals := 0 }
def f_X7_far (fu : Nat) (x0 : Nat) (x1 : Int32) (x2 : Int32) (h : Hp) : Option (Int32 × Hp) :=
  if h.K x0 = 7 then
    if x2 ≤ x1 then
      some ((x1 - x2), h)
    else
      some ((x2 - x1), h)
  else none
set_option maxHeartbeats 4000000 in
set_option maxRecDepth 100000 in
theorem c_X7_far (l : Launch) (D : Dx) (fu : Nat) (x0 : Nat) (x1 : Int32) (x2 : Int32) (h : Hp) (out : Int32 × Hp) (ho : f_X7_far fu x0 x1 x2 h = some out) : Ct l D yX7_far cX7_far 3 (some .int) rm_X7_far [.ref x0, .int x1, .int x2] h (evI out.1) out.2 := by
  refine Ct.of (o := f_X7_far fu x0 x1 x2 h) (lv := [some (.ref x0), some (.int x1), some (.int x2)]) (by decide) (Nat.le_of_ble_eq_true rfl) rfl ?_ out ho
  intro X hXl hE hin
  replace hE : En X D cX7_far 3 RX7 (some .int) rm_X7_far := hE
  subst hXl
  unfold f_X7_far
  refine Wo_grd (fun _ => ?_)
  refine r_iload_n (pc := 0) hE dX7_far_0 rfl ?_
  refine r_iload_n (pc := 1) hE dX7_far_1 rfl ?_
  refine r_icmp_ge (pc := 2) hE 11 dX7_far_2 (by decide) (fun _ => ?_) (fun _ => ?_)
  · refine r_iload_n (pc := 11) hE dX7_far_11 rfl ?_
    refine r_iload_n (pc := 12) hE dX7_far_12 rfl ?_
    refine r_isub (pc := 13) hE dX7_far_13 ?_
    exact r_iret (pc := 14) hE dX7_far_14
  · refine r_iload_n (pc := 5) hE dX7_far_5 rfl ?_
    refine r_iload_n (pc := 6) hE dX7_far_6 rfl ?_
    refine r_isub (pc := 7) hE dX7_far_7 ?_
    refine r_goto (pc := 8) hE 14 dX7_far_8 (by decide) ?_
    exact r_iret (pc := 14) hE dX7_far_14
theorem k_X7_far {fu : Nat} {x0 : Nat} {x1 : Int32} {x2 : Int32} {h : Hp} {out : Int32 × Hp} (ho : f_X7_far fu x0 x1 x2 h = some out) : h.K x0 = 7 := (gi_k ho).1
theorem cs_RX7_142 : csV RX7 142 yX7_far cX7_far 3 (some .int) 2 = true := by decide +kernel
def rm_X7_signOf : Room := { frames := 1, cells := 0, slots := 0, locals := 22 }
def f_X7_signOf_131 (fu : Nat) (k57 : Nat → Int32 → Int32 → Hp → Option (Int32 × Hp)) (x0 : Nat) (x1 : Int32) (x4 : Int32) (h : Hp) : Option (Int32 × Hp) :=
  k57 x0 x1 ((x4 + 1)) h
set_option maxHeartbeats 4000000 in
set_option maxRecDepth 100000 in
theorem w_X7_signOf_131 {X : Cx} {D : Dx} (hE : En X D cX7_signOf 5 RX7 (some .int) rm_X7_signOf) {fu : Nat} {k57 : Nat → Int32 → Int32 → Hp → Option (Int32 × Hp)} (hk57 : ∀ (x0 : Nat) (x1 : Int32) (x4 : Int32) (h : Hp) (lv : List (Option Value)), lvLe [some (.ref x0), some (.int x1), none, none, some (.int x4)] lv → Wo X D 5 (Qr X D 0 0 evI) 0 0 (k57 x0 x1 x4 h) 57 lv [] h) (x0 : Nat) (x1 : Int32) (x4 : Int32) (h : Hp) {lv : List (Option Value)} (hlv : lvLe [some (.ref x0), some (.int x1), none, none, some (.int x4)] lv) : Wo X D 5 (Qr X D 0 0 evI) 0 0 (f_X7_signOf_131 fu k57 x0 x1 x4 h) 131 lv [] h := by
  refine Wo_sub hlv ?_
  unfold f_X7_signOf_131
  refine r_iinc (v := (x4 + 1)) (pc := 131) hE dX7_signOf_131 rfl rfl (by decide) ?_
  refine r_goto (pc := 134) hE 57 dX7_signOf_134 (by decide) ?_
  exact hk57 _ _ _ _ _ ⟨rfl, ⟨rfl, ⟨rfl, trivial⟩⟩⟩
def f_X7_signOf_57 (fu : Nat) : Nat → Nat → Int32 → Int32 → Hp → Option (Int32 × Hp)
  | 0, _, _, _, _ => none
  | n + 1, x0, x1, x4, h =>
    (f_X7_cells fu x0 h).bind fun r60 =>
    if r60.1 ≤ x4 then
      some (0, r60.2)
    else
      (f_X7_isLand fu x0 x4 r60.2).bind fun r69 =>
      if r69.1 = 0 then
        f_X7_signOf_131 fu (fun y0 y1 y2 hy => f_X7_signOf_57 fu n y0 y1 y2 hy) x0 x1 x4 r69.2
      else
        (gI r69.2 7 x0 1).bind fun v79 =>
        if v79 = 0 then none else
        (gI r69.2 7 x0 1).bind fun v85 =>
        if v85 = 0 then none else
        (f_X7_far fu x0 (rem x4 v79) (rem x1 v85) r69.2).bind fun r89 =>
        (gR r89.2 7 x0 8).bind fun v93 =>
        (aI r89.2 8 v93 x4).bind fun v98 =>
        if v98 ≤ r89.1 then
          f_X7_signOf_131 fu (fun y0 y1 y2 hy => f_X7_signOf_57 fu n y0 y1 y2 hy) x0 x1 x4 r89.2
        else
          (gI r89.2 7 x0 1).bind fun v106 =>
          if v106 = 0 then none else
          (gI r89.2 7 x0 1).bind fun v112 =>
          if v112 = 0 then none else
          (f_X7_far fu x0 (x4 / v106) (x1 / v112) r89.2).bind fun r116 =>
          (gR r116.2 7 x0 8).bind fun v120 =>
          (aI r116.2 8 v120 x4).bind fun v125 =>
          if v125 ≤ r116.1 then
            f_X7_signOf_131 fu (fun y0 y1 y2 hy => f_X7_signOf_57 fu n y0 y1 y2 hy) x0 x1 x4 r116.2
          else
            some (1, r116.2)
set_option maxHeartbeats 4000000 in
set_option maxRecDepth 100000 in
theorem w_X7_signOf_57 {X : Cx} {D : Dx} (hE : En X D cX7_signOf 5 RX7 (some .int) rm_X7_signOf) {fu : Nat} : ∀ (n : Nat) (x0 : Nat) (x1 : Int32) (x4 : Int32) (h : Hp) (lv : List (Option Value)), lvLe [some (.ref x0), some (.int x1), none, none, some (.int x4)] lv → Wo X D 5 (Qr X D 0 0 evI) 0 0 (f_X7_signOf_57 fu n x0 x1 x4 h) 57 lv [] h := by
  intro n
  induction n with
  | zero => intros; exact Wo_none
  | succ n ih =>
    intro x0 x1 x4 h lv hlv
    refine Wo_sub hlv ?_
    rw [f_X7_signOf_57]
    refine r_iload (pc := 57) hE dX7_signOf_57 rfl ?_
    refine r_aload_n (pc := 59) hE dX7_signOf_59 rfl ?_
    refine r_callV (pc := 60) hE 7 (As := []) (fun out ho => c_X7_cells _ _ fu _ _ out ho) (fun out ho => k_X7_cells ho) (by decide) rfl cs_RX7_90 ⟨Nat.le_of_ble_eq_true rfl, Nat.le_of_ble_eq_true rfl, Nat.le_of_ble_eq_true rfl, Nat.le_of_ble_eq_true rfl⟩ (Nat.le_of_ble_eq_true rfl) rfl dX7_signOf_60 (fun r60 _ => ?_)
    refine r_icmp_ge (pc := 63) hE 137 dX7_signOf_63 (by decide) (fun _ => ?_) (fun _ => ?_)
    · refine r_iconst (v := 0) (pc := 137) hE dX7_signOf_137 (by decide) ?_
      exact r_iret (pc := 138) hE dX7_signOf_138
    · refine r_aload_n (pc := 66) hE dX7_signOf_66 rfl ?_
      refine r_iload (pc := 67) hE dX7_signOf_67 rfl ?_
      refine r_callV (pc := 69) hE 7 (As := [.int x4]) (fun out ho => c_X7_isLand _ _ fu _ _ _ out ho) (fun out ho => k_X7_isLand ho) (by decide) rfl cs_RX7_117 ⟨Nat.le_of_ble_eq_true rfl, Nat.le_of_ble_eq_true rfl, Nat.le_of_ble_eq_true rfl, Nat.le_of_ble_eq_true rfl⟩ (Nat.le_of_ble_eq_true rfl) rfl dX7_signOf_69 (fun r69 _ => ?_)
      refine r_if_eq (pc := 72) hE 131 dX7_signOf_72 (by decide) (fun _ => ?_) (fun _ => ?_)
      · exact w_X7_signOf_131 hE (fun y0 y1 y2 hy lvy hly => ih y0 y1 y2 hy lvy hly) _ _ _ _ ⟨rfl, ⟨rfl, ⟨rfl, trivial⟩⟩⟩
      · refine r_aload_n (pc := 75) hE dX7_signOf_75 rfl ?_
        refine r_iload (pc := 76) hE dX7_signOf_76 rfl ?_
        refine r_aload_n (pc := 78) hE dX7_signOf_78 rfl ?_
        refine r_getI (pc := 79) hE 7 1 (by decide) (by decide) (fun _ _ _ => rfl) fl_RX7_7 dX7_signOf_79 (fun v79 _ => ?_)
        refine r_iremQ (pc := 82) hE dX7_signOf_82 (fun _ => ?_)
        refine r_iload_n (pc := 83) hE dX7_signOf_83 rfl ?_
        refine r_aload_n (pc := 84) hE dX7_signOf_84 rfl ?_
        refine r_getI (pc := 85) hE 7 1 (by decide) (by decide) (fun _ _ _ => rfl) fl_RX7_7 dX7_signOf_85 (fun v85 _ => ?_)
        refine r_iremQ (pc := 88) hE dX7_signOf_88 (fun _ => ?_)
        refine r_callV (pc := 89) hE 7 (As := [.int (rem x4 v79), .int (rem x1 v85)]) (fun out ho => c_X7_far _ _ fu _ _ _ _ out ho) (fun out ho => k_X7_far ho) (by decide) rfl cs_RX7_142 ⟨Nat.le_of_ble_eq_true rfl, Nat.le_of_ble_eq_true rfl, Nat.le_of_ble_eq_true rfl, Nat.le_of_ble_eq_true rfl⟩ (Nat.le_of_ble_eq_true rfl) rfl dX7_signOf_89 (fun r89 _ => ?_)
        refine r_aload_n (pc := 92) hE dX7_signOf_92 rfl ?_
        refine r_getR (pc := 93) hE 7 8 (by decide) (by decide) (fun _ _ _ => rfl) fl_RX7_25 dX7_signOf_93 (fun v93 _ => ?_)
        refine r_iload (pc := 96) hE dX7_signOf_96 rfl ?_
        refine r_aldI (pc := 98) hE dX7_signOf_98 (fun v98 _ => ?_)
        refine r_icmp_ge (pc := 99) hE 131 dX7_signOf_99 (by decide) (fun _ => ?_) (fun _ => ?_)
        · exact w_X7_signOf_131 hE (fun y0 y1 y2 hy lvy hly => ih y0 y1 y2 hy lvy hly) _ _ _ _ ⟨rfl, ⟨rfl, ⟨rfl, trivial⟩⟩⟩
        · refine r_aload_n (pc := 102) hE dX7_signOf_102 rfl ?_
          refine r_iload (pc := 103) hE dX7_signOf_103 rfl ?_
          refine r_aload_n (pc := 105) hE dX7_signOf_105 rfl ?_
          refine r_getI (pc := 106) hE 7 1 (by decide) (by decide) (fun _ _ _ => rfl) fl_RX7_7 dX7_signOf_106 (fun v106 _ => ?_)
          refine r_idivQ (pc := 109) hE dX7_signOf_109 (fun _ => ?_)
          refine r_iload_n (pc := 110) hE dX7_signOf_110 rfl ?_
          refine r_aload_n (pc := 111) hE dX7_signOf_111 rfl ?_
          refine r_getI (pc := 112) hE 7 1 (by decide) (by decide) (fun _ _ _ => rfl) fl_RX7_7 dX7_signOf_112 (fun v112 _ => ?_)
          refine r_idivQ (pc := 115) hE dX7_signOf_115 (fun _ => ?_)
          refine r_callV (pc := 116) hE 7 (As := [.int (x4 / v106), .int (x1 / v112)]) (fun out ho => c_X7_far _ _ fu _ _ _ _ out ho) (fun out ho => k_X7_far ho) (by decide) rfl cs_RX7_142 ⟨Nat.le_of_ble_eq_true rfl, Nat.le_of_ble_eq_true rfl, Nat.le_of_ble_eq_true rfl, Nat.le_of_ble_eq_true rfl⟩ (Nat.le_of_ble_eq_true rfl) rfl dX7_signOf_116 (fun r116 _ => ?_)
          refine r_aload_n (pc := 119) hE dX7_signOf_119 rfl ?_
          refine r_getR (pc := 120) hE 7 8 (by decide) (by decide) (fun _ _ _ => rfl) fl_RX7_25 dX7_signOf_120 (fun v120 _ => ?_)
          refine r_iload (pc := 123) hE dX7_signOf_123 rfl ?_
          refine r_aldI (pc := 125) hE dX7_signOf_125 (fun v125 _ => ?_)
          refine r_icmp_ge (pc := 126) hE 131 dX7_signOf_126 (by decide) (fun _ => ?_) (fun _ => ?_)
          · exact w_X7_signOf_131 hE (fun y0 y1 y2 hy lvy hly => ih y0 y1 y2 hy lvy hly) _ _ _ _ ⟨rfl, ⟨rfl, ⟨rfl, trivial⟩⟩⟩
          · refine r_iconst (v := 1) (pc := 129) hE dX7_signOf_129 (by decide) ?_
            exact r_iret (pc := 130) hE dX7_signOf_130
def f_X7_signOf (fu : Nat) (x0 : Nat) (x1 : Int32) (x2 : Int32) (x3 : Int32) (h : Hp) : Option (Int32 × Hp) :=
  if h.K x0 = 7 then
    if x3 = 0 then
      (gR h 7 x0 9).bind fun v5 =>
      (aI h 8 v5 x1).bind fun v9 =>
      some (v9, h)
    else
      if x3 = 1 then
        (gI h 7 x0 6).bind fun v17 =>
        if ((v17 >>> (x2 &&& 31)) &&& 1) = 1 then
          (gI h 7 x0 1).bind fun v30 =>
          if v30 = 0 then none else
          some (((x1 / v30) / 2), h)
        else
          some ((-1), h)
      else
        (gI h 7 x0 7).bind fun v42 =>
        if ((v42 >>> (x2 &&& 31)) &&& 1) = 0 then
          some (0, h)
        else
          f_X7_signOf_57 fu fu x0 x1 0 h
  else none
set_option maxHeartbeats 4000000 in
set_option maxRecDepth 100000 in
theorem c_X7_signOf (l : Launch) (D : Dx) (fu : Nat) (x0 : Nat) (x1 : Int32) (x2 : Int32) (x3 : Int32) (h : Hp) (out : Int32 × Hp) (ho : f_X7_signOf fu x0 x1 x2 x3 h = some out) : Ct l D yX7_signOf cX7_signOf 5 (some .int) rm_X7_signOf [.ref x0, .int x1, .int x2, .int x3] h (evI out.1) out.2 := by
  refine Ct.of (o := f_X7_signOf fu x0 x1 x2 x3 h) (lv := [some (.ref x0), some (.int x1), some (.int x2), some (.int x3), none]) (by decide) (Nat.le_of_ble_eq_true rfl) rfl ?_ out ho
  intro X hXl hE hin
  replace hE : En X D cX7_signOf 5 RX7 (some .int) rm_X7_signOf := hE
  subst hXl
  unfold f_X7_signOf
  refine Wo_grd (fun _ => ?_)
  refine r_iload_n (pc := 0) hE dX7_signOf_0 rfl ?_
  refine r_if_ne (pc := 1) hE 11 dX7_signOf_1 (by decide) (fun _ => ?_) (fun _ => ?_)
  · refine r_iload_n (pc := 11) hE dX7_signOf_11 rfl ?_
    refine r_iconst (v := 1) (pc := 12) hE dX7_signOf_12 (by decide) ?_
    refine r_icmp_ne (pc := 13) hE 41 dX7_signOf_13 (by decide) (fun _ => ?_) (fun _ => ?_)
    · refine r_aload_n (pc := 41) hE dX7_signOf_41 rfl ?_
      refine r_getI (pc := 42) hE 7 7 (by decide) (by decide) (fun _ _ _ => rfl) fl_RX7_106 dX7_signOf_42 (fun v42 _ => ?_)
      refine r_iload_n (pc := 45) hE dX7_signOf_45 rfl ?_
      refine r_ishr (pc := 46) hE dX7_signOf_46 ?_
      refine r_iconst (v := 1) (pc := 47) hE dX7_signOf_47 (by decide) ?_
      refine r_iand (pc := 48) hE dX7_signOf_48 ?_
      refine r_if_ne (pc := 49) hE 54 dX7_signOf_49 (by decide) (fun _ => ?_) (fun _ => ?_)
      · refine r_iconst (v := 0) (pc := 54) hE dX7_signOf_54 (by decide) ?_
        refine r_istore (pc := 55) hE dX7_signOf_55 (by decide) ?_
        exact w_X7_signOf_57 hE fu _ _ _ _ _ ⟨rfl, ⟨rfl, ⟨rfl, trivial⟩⟩⟩
      · refine r_iconst (v := 0) (pc := 52) hE dX7_signOf_52 (by decide) ?_
        exact r_iret (pc := 53) hE dX7_signOf_53
    · refine r_aload_n (pc := 16) hE dX7_signOf_16 rfl ?_
      refine r_getI (pc := 17) hE 7 6 (by decide) (by decide) (fun _ _ _ => rfl) fl_RX7_103 dX7_signOf_17 (fun v17 _ => ?_)
      refine r_iload_n (pc := 20) hE dX7_signOf_20 rfl ?_
      refine r_ishr (pc := 21) hE dX7_signOf_21 ?_
      refine r_iconst (v := 1) (pc := 22) hE dX7_signOf_22 (by decide) ?_
      refine r_iand (pc := 23) hE dX7_signOf_23 ?_
      refine r_iconst (v := 1) (pc := 24) hE dX7_signOf_24 (by decide) ?_
      refine r_icmp_ne (pc := 25) hE 39 dX7_signOf_25 (by decide) (fun _ => ?_) (fun _ => ?_)
      · refine r_iconst (v := -1) (pc := 39) hE dX7_signOf_39 (by decide) ?_
        exact r_iret (pc := 40) hE dX7_signOf_40
      · refine r_iload_n (pc := 28) hE dX7_signOf_28 rfl ?_
        refine r_aload_n (pc := 29) hE dX7_signOf_29 rfl ?_
        refine r_getI (pc := 30) hE 7 1 (by decide) (by decide) (fun _ _ _ => rfl) fl_RX7_7 dX7_signOf_30 (fun v30 _ => ?_)
        refine r_idivQ (pc := 33) hE dX7_signOf_33 (fun _ => ?_)
        refine r_iconst (v := 2) (pc := 34) hE dX7_signOf_34 (by decide) ?_
        refine r_idiv (pc := 35) hE dX7_signOf_35 (by decide) ?_
        refine r_goto (pc := 36) hE 40 dX7_signOf_36 (by decide) ?_
        exact r_iret (pc := 40) hE dX7_signOf_40
  · refine r_aload_n (pc := 4) hE dX7_signOf_4 rfl ?_
    refine r_getR (pc := 5) hE 7 9 (by decide) (by decide) (fun _ _ _ => rfl) fl_RX7_29 dX7_signOf_5 (fun v5 _ => ?_)
    refine r_iload_n (pc := 8) hE dX7_signOf_8 rfl ?_
    refine r_aldI (pc := 9) hE dX7_signOf_9 (fun v9 _ => ?_)
    exact r_iret (pc := 10) hE dX7_signOf_10
theorem k_X7_signOf {fu : Nat} {x0 : Nat} {x1 : Int32} {x2 : Int32} {x3 : Int32} {h : Hp} {out : Int32 × Hp} (ho : f_X7_signOf fu x0 x1 x2 x3 h = some out) : h.K x0 = 7 := (gi_k ho).1
theorem cs_RX7_145 : csV RX7 145 yX7_signOf cX7_signOf 5 (some .int) 3 = true := by decide +kernel
def rm_X7_sign : Room := { frames := 2, cells := 0, slots := 0, locals := 46 }
def f_X7_sign (fu : Nat) (x0 : Nat) (x1 : Int32) (x2 : Int32) (x3 : Int32) (h : Hp) : Option (Int32 × Hp) :=
  if h.K x0 = 7 then
    (pI h 7 x0 0 0).bind fun h2 =>
    (f_X7_isCell fu x0 x1 h2).bind fun r7 =>
    if r7.1 = 0 then
      some ((-2), r7.2)
    else
      if x2 < 0 then
        some ((-2), r7.2)
      else
        if 6 ≤ x2 then
          some ((-2), r7.2)
        else
          if x3 < 0 then
            some ((-2), r7.2)
          else
            if 3 ≤ x3 then
              some ((-2), r7.2)
            else
              (f_X7_signOf fu x0 x1 x2 x3 r7.2).bind fun r36 =>
              some (r36.1, r36.2)
  else none
set_option maxHeartbeats 4000000 in
set_option maxRecDepth 100000 in
theorem c_X7_sign (l : Launch) (D : Dx) (fu : Nat) (x0 : Nat) (x1 : Int32) (x2 : Int32) (x3 : Int32) (h : Hp) (out : Int32 × Hp) (ho : f_X7_sign fu x0 x1 x2 x3 h = some out) : Ct l D yX7_sign cX7_sign 4 (some .int) rm_X7_sign [.ref x0, .int x1, .int x2, .int x3] h (evI out.1) out.2 := by
  refine Ct.of (o := f_X7_sign fu x0 x1 x2 x3 h) (lv := [some (.ref x0), some (.int x1), some (.int x2), some (.int x3)]) (by decide) (Nat.le_of_ble_eq_true rfl) rfl ?_ out ho
  intro X hXl hE hin
  replace hE : En X D cX7_sign 4 RX7 (some .int) rm_X7_sign := hE
  subst hXl
  unfold f_X7_sign
  refine Wo_grd (fun _ => ?_)
  refine r_aload_n (pc := 0) hE dX7_sign_0 rfl ?_
  refine r_iconst (v := 0) (pc := 1) hE dX7_sign_1 (by decide) ?_
  refine r_putI (pc := 2) hE 7 0 (by decide) (by decide) (fun _ _ _ => rfl) fl_RX7_87 rfl rfl rfl dX7_sign_2 (fun h2 _ => ?_)
  refine r_aload_n (pc := 5) hE dX7_sign_5 rfl ?_
  refine r_iload_n (pc := 6) hE dX7_sign_6 rfl ?_
  refine r_callV (pc := 7) hE 7 (As := [.int x1]) (fun out ho => c_X7_isCell _ _ fu _ _ _ out ho) (fun out ho => k_X7_isCell ho) (by decide) rfl cs_RX7_113 ⟨Nat.le_of_ble_eq_true rfl, Nat.le_of_ble_eq_true rfl, Nat.le_of_ble_eq_true rfl, Nat.le_of_ble_eq_true rfl⟩ (Nat.le_of_ble_eq_true rfl) rfl dX7_sign_7 (fun r7 _ => ?_)
  refine r_if_eq (pc := 10) hE 42 dX7_sign_10 (by decide) (fun _ => ?_) (fun _ => ?_)
  · refine r_bipush (v := -2) (pc := 42) hE dX7_sign_42 (by decide) ?_
    exact r_iret (pc := 44) hE dX7_sign_44
  · refine r_iload_n (pc := 13) hE dX7_sign_13 rfl ?_
    refine r_if_lt (pc := 14) hE 42 dX7_sign_14 (by decide) (fun _ => ?_) (fun _ => ?_)
    · refine r_bipush (v := -2) (pc := 42) hE dX7_sign_42 (by decide) ?_
      exact r_iret (pc := 44) hE dX7_sign_44
    · refine r_iload_n (pc := 17) hE dX7_sign_17 rfl ?_
      refine r_bipush (v := 6) (pc := 18) hE dX7_sign_18 (by decide) ?_
      refine r_icmp_ge (pc := 20) hE 42 dX7_sign_20 (by decide) (fun _ => ?_) (fun _ => ?_)
      · refine r_bipush (v := -2) (pc := 42) hE dX7_sign_42 (by decide) ?_
        exact r_iret (pc := 44) hE dX7_sign_44
      · refine r_iload_n (pc := 23) hE dX7_sign_23 rfl ?_
        refine r_if_lt (pc := 24) hE 42 dX7_sign_24 (by decide) (fun _ => ?_) (fun _ => ?_)
        · refine r_bipush (v := -2) (pc := 42) hE dX7_sign_42 (by decide) ?_
          exact r_iret (pc := 44) hE dX7_sign_44
        · refine r_iload_n (pc := 27) hE dX7_sign_27 rfl ?_
          refine r_iconst (v := 3) (pc := 28) hE dX7_sign_28 (by decide) ?_
          refine r_icmp_ge (pc := 29) hE 42 dX7_sign_29 (by decide) (fun _ => ?_) (fun _ => ?_)
          · refine r_bipush (v := -2) (pc := 42) hE dX7_sign_42 (by decide) ?_
            exact r_iret (pc := 44) hE dX7_sign_44
          · refine r_aload_n (pc := 32) hE dX7_sign_32 rfl ?_
            refine r_iload_n (pc := 33) hE dX7_sign_33 rfl ?_
            refine r_iload_n (pc := 34) hE dX7_sign_34 rfl ?_
            refine r_iload_n (pc := 35) hE dX7_sign_35 rfl ?_
            refine r_callV (pc := 36) hE 7 (As := [.int x1, .int x2, .int x3]) (fun out ho => c_X7_signOf _ _ fu _ _ _ _ _ out ho) (fun out ho => k_X7_signOf ho) (by decide) rfl cs_RX7_145 ⟨Nat.le_of_ble_eq_true rfl, Nat.le_of_ble_eq_true rfl, Nat.le_of_ble_eq_true rfl, Nat.le_of_ble_eq_true rfl⟩ (Nat.le_of_ble_eq_true rfl) rfl dX7_sign_36 (fun r36 _ => ?_)
            refine r_goto (pc := 39) hE 44 dX7_sign_39 (by decide) ?_
            exact r_iret (pc := 44) hE dX7_sign_44
theorem k_X7_sign {fu : Nat} {x0 : Nat} {x1 : Int32} {x2 : Int32} {x3 : Int32} {h : Hp} {out : Int32 × Hp} (ho : f_X7_sign fu x0 x1 x2 x3 h = some out) : h.K x0 = 7 := (gi_k ho).1
def rm_X7_seen : Room := { frames := 2, cells := 0, slots := 0, locals := 46 }
def f_X7_seen_52 (fu : Nat) (k5 : Nat → Int32 → Int32 → Int64 → Int32 → Hp → Option (Int64 × Hp)) (x0 : Nat) (x1 : Int32) (x2 : Int32) (x3 : Int64) (x5 : Int32) (h : Hp) : Option (Int64 × Hp) :=
  k5 x0 x1 x2 x3 ((x5 + 1)) h
set_option maxHeartbeats 4000000 in
set_option maxRecDepth 100000 in
theorem w_X7_seen_52 {X : Cx} {D : Dx} (hE : En X D cX7_seen 6 RX7 (some .long) rm_X7_seen) {fu : Nat} {k5 : Nat → Int32 → Int32 → Int64 → Int32 → Hp → Option (Int64 × Hp)} (hk5 : ∀ (x0 : Nat) (x1 : Int32) (x2 : Int32) (x3 : Int64) (x5 : Int32) (h : Hp) (lv : List (Option Value)), lvLe [some (.ref x0), some (.int x1), some (.int x2), some (.long x3), none, some (.int x5)] lv → Wo X D 6 (Qr X D 0 0 evJ) 0 0 (k5 x0 x1 x2 x3 x5 h) 5 lv [] h) (x0 : Nat) (x1 : Int32) (x2 : Int32) (x3 : Int64) (x5 : Int32) (h : Hp) {lv : List (Option Value)} (hlv : lvLe [some (.ref x0), some (.int x1), some (.int x2), some (.long x3), none, some (.int x5)] lv) : Wo X D 6 (Qr X D 0 0 evJ) 0 0 (f_X7_seen_52 fu k5 x0 x1 x2 x3 x5 h) 52 lv [] h := by
  refine Wo_sub hlv ?_
  unfold f_X7_seen_52
  refine r_iinc (v := (x5 + 1)) (pc := 52) hE dX7_seen_52 rfl rfl (by decide) ?_
  refine r_goto (pc := 55) hE 5 dX7_seen_55 (by decide) ?_
  exact hk5 _ _ _ _ _ _ _ ⟨rfl, ⟨rfl, ⟨rfl, ⟨rfl, ⟨rfl, trivial⟩⟩⟩⟩⟩
def f_X7_seen_5 (fu : Nat) : Nat → Nat → Int32 → Int32 → Int64 → Int32 → Hp → Option (Int64 × Hp)
  | 0, _, _, _, _, _, _ => none
  | n + 1, x0, x1, x2, x3, x5, h =>
    (f_X7_cells fu x0 h).bind fun r8 =>
    if r8.1 ≤ x5 then
      some (x3, r8.2)
    else
      (gJ r8.2 7 x0 4).bind fun v16 =>
      (f_X7_has fu x0 v16 x5 r8.2).bind fun r21 =>
      if r21.1 = 0 then
        f_X7_seen_52 fu (fun y0 y1 y2 y3 y4 hy => f_X7_seen_5 fu n y0 y1 y2 y3 y4 hy) x0 x1 x2 x3 x5 r21.2
      else
        (gI r21.2 7 x0 3).bind fun v31 =>
        (f_X7_signOf fu x0 x5 (rem v31 6) x1 r21.2).bind fun r38 =>
        if r38.1 = x2 then
          f_X7_seen_52 fu (fun y0 y1 y2 y3 y4 hy => f_X7_seen_5 fu n y0 y1 y2 y3 y4 hy) x0 x1 x2 ((x3 ||| (lsh 1 x5))) x5 r38.2
        else
          f_X7_seen_52 fu (fun y0 y1 y2 y3 y4 hy => f_X7_seen_5 fu n y0 y1 y2 y3 y4 hy) x0 x1 x2 x3 x5 r38.2
set_option maxHeartbeats 4000000 in
set_option maxRecDepth 100000 in
theorem w_X7_seen_5 {X : Cx} {D : Dx} (hE : En X D cX7_seen 6 RX7 (some .long) rm_X7_seen) {fu : Nat} : ∀ (n : Nat) (x0 : Nat) (x1 : Int32) (x2 : Int32) (x3 : Int64) (x5 : Int32) (h : Hp) (lv : List (Option Value)), lvLe [some (.ref x0), some (.int x1), some (.int x2), some (.long x3), none, some (.int x5)] lv → Wo X D 6 (Qr X D 0 0 evJ) 0 0 (f_X7_seen_5 fu n x0 x1 x2 x3 x5 h) 5 lv [] h := by
  intro n
  induction n with
  | zero => intros; exact Wo_none
  | succ n ih =>
    intro x0 x1 x2 x3 x5 h lv hlv
    refine Wo_sub hlv ?_
    rw [f_X7_seen_5]
    refine r_iload (pc := 5) hE dX7_seen_5 rfl ?_
    refine r_aload_n (pc := 7) hE dX7_seen_7 rfl ?_
    refine r_callV (pc := 8) hE 7 (As := []) (fun out ho => c_X7_cells _ _ fu _ _ out ho) (fun out ho => k_X7_cells ho) (by decide) rfl cs_RX7_90 ⟨Nat.le_of_ble_eq_true rfl, Nat.le_of_ble_eq_true rfl, Nat.le_of_ble_eq_true rfl, Nat.le_of_ble_eq_true rfl⟩ (Nat.le_of_ble_eq_true rfl) rfl dX7_seen_8 (fun r8 _ => ?_)
    refine r_icmp_ge (pc := 11) hE 58 dX7_seen_11 (by decide) (fun _ => ?_) (fun _ => ?_)
    · refine r_lload_n (pc := 58) hE dX7_seen_58 rfl ?_
      exact r_lret (pc := 59) hE dX7_seen_59
    · refine r_aload_n (pc := 14) hE dX7_seen_14 rfl ?_
      refine r_aload_n (pc := 15) hE dX7_seen_15 rfl ?_
      refine r_getJ (pc := 16) hE 7 4 (by decide) (by decide) (fun _ _ _ => rfl) fl_RX7_18 dX7_seen_16 (fun v16 _ => ?_)
      refine r_iload (pc := 19) hE dX7_seen_19 rfl ?_
      refine r_callV (pc := 21) hE 7 (As := [.long v16, .int x5]) (fun out ho => c_X7_has _ _ fu _ _ _ _ out ho) (fun out ho => k_X7_has ho) (by decide) rfl cs_RX7_96 ⟨Nat.le_of_ble_eq_true rfl, Nat.le_of_ble_eq_true rfl, Nat.le_of_ble_eq_true rfl, Nat.le_of_ble_eq_true rfl⟩ (Nat.le_of_ble_eq_true rfl) rfl dX7_seen_21 (fun r21 _ => ?_)
      refine r_if_eq (pc := 24) hE 52 dX7_seen_24 (by decide) (fun _ => ?_) (fun _ => ?_)
      · exact w_X7_seen_52 hE (fun y0 y1 y2 y3 y4 hy lvy hly => ih y0 y1 y2 y3 y4 hy lvy hly) _ _ _ _ _ _ ⟨rfl, ⟨rfl, ⟨rfl, ⟨rfl, ⟨rfl, trivial⟩⟩⟩⟩⟩
      · refine r_aload_n (pc := 27) hE dX7_seen_27 rfl ?_
        refine r_iload (pc := 28) hE dX7_seen_28 rfl ?_
        refine r_aload_n (pc := 30) hE dX7_seen_30 rfl ?_
        refine r_getI (pc := 31) hE 7 3 (by decide) (by decide) (fun _ _ _ => rfl) fl_RX7_100 dX7_seen_31 (fun v31 _ => ?_)
        refine r_bipush (v := 6) (pc := 34) hE dX7_seen_34 (by decide) ?_
        refine r_irem (pc := 36) hE dX7_seen_36 (by decide) ?_
        refine r_iload_n (pc := 37) hE dX7_seen_37 rfl ?_
        refine r_callV (pc := 38) hE 7 (As := [.int x5, .int (rem v31 6), .int x1]) (fun out ho => c_X7_signOf _ _ fu _ _ _ _ _ out ho) (fun out ho => k_X7_signOf ho) (by decide) rfl cs_RX7_145 ⟨Nat.le_of_ble_eq_true rfl, Nat.le_of_ble_eq_true rfl, Nat.le_of_ble_eq_true rfl, Nat.le_of_ble_eq_true rfl⟩ (Nat.le_of_ble_eq_true rfl) rfl dX7_seen_38 (fun r38 _ => ?_)
        refine r_iload_n (pc := 41) hE dX7_seen_41 rfl ?_
        refine r_icmp_ne (pc := 42) hE 52 dX7_seen_42 (by decide) (fun _ => ?_) (fun _ => ?_)
        · exact w_X7_seen_52 hE (fun y0 y1 y2 y3 y4 hy lvy hly => ih y0 y1 y2 y3 y4 hy lvy hly) _ _ _ _ _ _ ⟨rfl, ⟨rfl, ⟨rfl, ⟨rfl, ⟨rfl, trivial⟩⟩⟩⟩⟩
        · refine r_lload_n (pc := 45) hE dX7_seen_45 rfl ?_
          refine r_lconst (v := 1) (pc := 46) hE dX7_seen_46 rfl ?_
          refine r_iload (pc := 47) hE dX7_seen_47 rfl ?_
          refine r_lshl (pc := 49) hE dX7_seen_49 ?_
          refine r_lor (pc := 50) hE dX7_seen_50 ?_
          refine r_lstore_n (pc := 51) hE dX7_seen_51 (by decide) ?_
          exact w_X7_seen_52 hE (fun y0 y1 y2 y3 y4 hy lvy hly => ih y0 y1 y2 y3 y4 hy lvy hly) _ _ _ _ _ _ ⟨rfl, ⟨rfl, ⟨rfl, ⟨rfl, ⟨rfl, trivial⟩⟩⟩⟩⟩
def f_X7_seen (fu : Nat) (x0 : Nat) (x1 : Int32) (x2 : Int32) (h : Hp) : Option (Int64 × Hp) :=
  if h.K x0 = 7 then
    f_X7_seen_5 fu fu x0 x1 x2 0 0 h
  else none
set_option maxHeartbeats 4000000 in
set_option maxRecDepth 100000 in
theorem c_X7_seen (l : Launch) (D : Dx) (fu : Nat) (x0 : Nat) (x1 : Int32) (x2 : Int32) (h : Hp) (out : Int64 × Hp) (ho : f_X7_seen fu x0 x1 x2 h = some out) : Ct l D yX7_seen cX7_seen 6 (some .long) rm_X7_seen [.ref x0, .int x1, .int x2] h (evJ out.1) out.2 := by
  refine Ct.of (o := f_X7_seen fu x0 x1 x2 h) (lv := [some (.ref x0), some (.int x1), some (.int x2), none, none, none]) (by decide) (Nat.le_of_ble_eq_true rfl) rfl ?_ out ho
  intro X hXl hE hin
  replace hE : En X D cX7_seen 6 RX7 (some .long) rm_X7_seen := hE
  subst hXl
  unfold f_X7_seen
  refine Wo_grd (fun _ => ?_)
  refine r_lconst (v := 0) (pc := 0) hE dX7_seen_0 rfl ?_
  refine r_lstore_n (pc := 1) hE dX7_seen_1 (by decide) ?_
  refine r_iconst (v := 0) (pc := 2) hE dX7_seen_2 (by decide) ?_
  refine r_istore (pc := 3) hE dX7_seen_3 (by decide) ?_
  exact w_X7_seen_5 hE fu _ _ _ _ _ _ _ ⟨rfl, ⟨rfl, ⟨rfl, ⟨rfl, ⟨rfl, trivial⟩⟩⟩⟩⟩
theorem k_X7_seen {fu : Nat} {x0 : Nat} {x1 : Int32} {x2 : Int32} {h : Hp} {out : Int64 × Hp} (ho : f_X7_seen fu x0 x1 x2 h = some out) : h.K x0 = 7 := (gi_k ho).1
theorem cs_RX7_148 : csV RX7 148 yX7_seen cX7_seen 6 (some .long) 2 = true := by decide +kernel
def rm_X7_see : Room := { frames := 3, cells := 0, slots := 0, locals := 71 }
def f_X7_see_51 (fu : Nat) (x0 : Nat) (x3 : Int64) (h : Hp) : Option (Int32 × Hp) :=
  (pJ h 7 x0 4 x3).bind fun h53 =>
  (gJ h53 7 x0 4).bind fun v58 =>
  (f_X7_count fu x0 v58 h53).bind fun r61 =>
  some (r61.1, r61.2)
set_option maxHeartbeats 4000000 in
set_option maxRecDepth 100000 in
theorem w_X7_see_51 {X : Cx} {D : Dx} (hE : En X D cX7_see 5 RX7 (some .int) rm_X7_see) {fu : Nat} (x0 : Nat) (x3 : Int64) (h : Hp) {lv : List (Option Value)} (hlv : lvLe [some (.ref x0), none, none, some (.long x3), none] lv) : Wo X D 5 (Qr X D 0 0 evI) 0 0 (f_X7_see_51 fu x0 x3 h) 51 lv [] h := by
  refine Wo_sub hlv ?_
  unfold f_X7_see_51
  refine r_aload_n (pc := 51) hE dX7_see_51 rfl ?_
  refine r_lload_n (pc := 52) hE dX7_see_52 rfl ?_
  refine r_putJ (pc := 53) hE 7 4 (by decide) (by decide) (fun _ _ _ => rfl) fl_RX7_18 rfl rfl rfl dX7_see_53 (fun h53 _ => ?_)
  refine r_aload_n (pc := 56) hE dX7_see_56 rfl ?_
  refine r_aload_n (pc := 57) hE dX7_see_57 rfl ?_
  refine r_getJ (pc := 58) hE 7 4 (by decide) (by decide) (fun _ _ _ => rfl) fl_RX7_18 dX7_see_58 (fun v58 _ => ?_)
  refine r_callV (pc := 61) hE 7 (As := [.long v58]) (fun out ho => c_X7_count _ _ fu _ _ _ out ho) (fun out ho => k_X7_count ho) (by decide) rfl cs_RX7_120 ⟨Nat.le_of_ble_eq_true rfl, Nat.le_of_ble_eq_true rfl, Nat.le_of_ble_eq_true rfl, Nat.le_of_ble_eq_true rfl⟩ (Nat.le_of_ble_eq_true rfl) rfl dX7_see_61 (fun r61 _ => ?_)
  exact r_iret (pc := 64) hE dX7_see_64
def f_X7_see (fu : Nat) (x0 : Nat) (x1 : Int32) (x2 : Int32) (h : Hp) : Option (Int32 × Hp) :=
  if h.K x0 = 7 then
    (pI h 7 x0 0 0).bind fun h2 =>
    if x1 < 0 then
      some ((-1), h2)
    else
      if x1 ≤ 2 then
        (f_X7_seen fu x0 x1 x2 h2).bind fun r19 =>
        if (lg_cmp r19.1 0) = 0 then
          some ((-1), r19.2)
        else
          (gI r19.2 7 x0 5).bind fun v30 =>
          if v30 = (-1) then
            f_X7_see_51 fu x0 r19.1 r19.2
          else
            (gI r19.2 7 x0 5).bind fun v40 =>
            (f_X7_has fu x0 r19.1 v40 r19.2).bind fun r43 =>
            if r43.1 = 0 then
              some ((-1), r43.2)
            else
              f_X7_see_51 fu x0 r19.1 r43.2
      else
        some ((-1), h2)
  else none
set_option maxHeartbeats 4000000 in
set_option maxRecDepth 100000 in
theorem c_X7_see (l : Launch) (D : Dx) (fu : Nat) (x0 : Nat) (x1 : Int32) (x2 : Int32) (h : Hp) (out : Int32 × Hp) (ho : f_X7_see fu x0 x1 x2 h = some out) : Ct l D yX7_see cX7_see 5 (some .int) rm_X7_see [.ref x0, .int x1, .int x2] h (evI out.1) out.2 := by
  refine Ct.of (o := f_X7_see fu x0 x1 x2 h) (lv := [some (.ref x0), some (.int x1), some (.int x2), none, none]) (by decide) (Nat.le_of_ble_eq_true rfl) rfl ?_ out ho
  intro X hXl hE hin
  replace hE : En X D cX7_see 5 RX7 (some .int) rm_X7_see := hE
  subst hXl
  unfold f_X7_see
  refine Wo_grd (fun _ => ?_)
  refine r_aload_n (pc := 0) hE dX7_see_0 rfl ?_
  refine r_iconst (v := 0) (pc := 1) hE dX7_see_1 (by decide) ?_
  refine r_putI (pc := 2) hE 7 0 (by decide) (by decide) (fun _ _ _ => rfl) fl_RX7_87 rfl rfl rfl dX7_see_2 (fun h2 _ => ?_)
  refine r_iload_n (pc := 5) hE dX7_see_5 rfl ?_
  refine r_if_lt (pc := 6) hE 14 dX7_see_6 (by decide) (fun _ => ?_) (fun _ => ?_)
  · refine r_iconst (v := -1) (pc := 14) hE dX7_see_14 (by decide) ?_
    exact r_iret (pc := 15) hE dX7_see_15
  · refine r_iload_n (pc := 9) hE dX7_see_9 rfl ?_
    refine r_iconst (v := 2) (pc := 10) hE dX7_see_10 (by decide) ?_
    refine r_icmp_le (pc := 11) hE 16 dX7_see_11 (by decide) (fun _ => ?_) (fun _ => ?_)
    · refine r_aload_n (pc := 16) hE dX7_see_16 rfl ?_
      refine r_iload_n (pc := 17) hE dX7_see_17 rfl ?_
      refine r_iload_n (pc := 18) hE dX7_see_18 rfl ?_
      refine r_callV (pc := 19) hE 7 (As := [.int x1, .int x2]) (fun out ho => c_X7_seen _ _ fu _ _ _ _ out ho) (fun out ho => k_X7_seen ho) (by decide) rfl cs_RX7_148 ⟨Nat.le_of_ble_eq_true rfl, Nat.le_of_ble_eq_true rfl, Nat.le_of_ble_eq_true rfl, Nat.le_of_ble_eq_true rfl⟩ (Nat.le_of_ble_eq_true rfl) rfl dX7_see_19 (fun r19 _ => ?_)
      refine r_lstore_n (pc := 22) hE dX7_see_22 (by decide) ?_
      refine r_lload_n (pc := 23) hE dX7_see_23 rfl ?_
      refine r_lconst (v := 0) (pc := 24) hE dX7_see_24 rfl ?_
      refine r_lcmp (pc := 25) hE dX7_see_25 ?_
      refine r_if_eq (pc := 26) hE 49 dX7_see_26 (by decide) (fun _ => ?_) (fun _ => ?_)
      · refine r_iconst (v := -1) (pc := 49) hE dX7_see_49 (by decide) ?_
        exact r_iret (pc := 50) hE dX7_see_50
      · refine r_aload_n (pc := 29) hE dX7_see_29 rfl ?_
        refine r_getI (pc := 30) hE 7 5 (by decide) (by decide) (fun _ _ _ => rfl) fl_RX7_22 dX7_see_30 (fun v30 _ => ?_)
        refine r_iconst (v := -1) (pc := 33) hE dX7_see_33 (by decide) ?_
        refine r_icmp_eq (pc := 34) hE 51 dX7_see_34 (by decide) (fun _ => ?_) (fun _ => ?_)
        · exact w_X7_see_51 hE _ _ _ ⟨rfl, ⟨rfl, trivial⟩⟩
        · refine r_aload_n (pc := 37) hE dX7_see_37 rfl ?_
          refine r_lload_n (pc := 38) hE dX7_see_38 rfl ?_
          refine r_aload_n (pc := 39) hE dX7_see_39 rfl ?_
          refine r_getI (pc := 40) hE 7 5 (by decide) (by decide) (fun _ _ _ => rfl) fl_RX7_22 dX7_see_40 (fun v40 _ => ?_)
          refine r_callV (pc := 43) hE 7 (As := [.long r19.1, .int v40]) (fun out ho => c_X7_has _ _ fu _ _ _ _ out ho) (fun out ho => k_X7_has ho) (by decide) rfl cs_RX7_96 ⟨Nat.le_of_ble_eq_true rfl, Nat.le_of_ble_eq_true rfl, Nat.le_of_ble_eq_true rfl, Nat.le_of_ble_eq_true rfl⟩ (Nat.le_of_ble_eq_true rfl) rfl dX7_see_43 (fun r43 _ => ?_)
          refine r_if_ne (pc := 46) hE 51 dX7_see_46 (by decide) (fun _ => ?_) (fun _ => ?_)
          · exact w_X7_see_51 hE _ _ _ ⟨rfl, ⟨rfl, trivial⟩⟩
          · refine r_iconst (v := -1) (pc := 49) hE dX7_see_49 (by decide) ?_
            exact r_iret (pc := 50) hE dX7_see_50
    · refine r_iconst (v := -1) (pc := 14) hE dX7_see_14 (by decide) ?_
      exact r_iret (pc := 15) hE dX7_see_15
theorem k_X7_see {fu : Nat} {x0 : Nat} {x1 : Int32} {x2 : Int32} {h : Hp} {out : Int32 × Hp} (ho : f_X7_see fu x0 x1 x2 h = some out) : h.K x0 = 7 := (gi_k ho).1
def rm_X7_sights : Room := { frames := 3, cells := 0, slots := 0, locals := 71 }
def f_X7_sights_17 (fu : Nat) : Nat → Nat → Int32 → Hp → Option (Int32 × Hp)
  | 0, _, _, _ => none
  | n + 1, x0, x1, h =>
    if 3 ≤ x1 then
      (gJ h 7 x0 4).bind fun v55 =>
      (f_X7_count fu x0 v55 h).bind fun r58 =>
      some (r58.1, r58.2)
    else
      (gI h 7 x0 5).bind fun v27 =>
      (gI h 7 x0 3).bind fun v31 =>
      (f_X7_signOf fu x0 v27 (rem v31 6) x1 h).bind fun r38 =>
      (f_X7_seen fu x0 x1 r38.1 r38.2).bind fun r41 =>
      (pJ r41.2 7 x0 4 r41.1).bind fun h44 =>
      f_X7_sights_17 fu n x0 ((x1 + 1)) h44
set_option maxHeartbeats 4000000 in
set_option maxRecDepth 100000 in
theorem w_X7_sights_17 {X : Cx} {D : Dx} (hE : En X D cX7_sights 2 RX7 (some .int) rm_X7_sights) {fu : Nat} : ∀ (n : Nat) (x0 : Nat) (x1 : Int32) (h : Hp) (lv : List (Option Value)), lvLe [some (.ref x0), some (.int x1)] lv → Wo X D 2 (Qr X D 0 0 evI) 0 0 (f_X7_sights_17 fu n x0 x1 h) 17 lv [] h := by
  intro n
  induction n with
  | zero => intros; exact Wo_none
  | succ n ih =>
    intro x0 x1 h lv hlv
    refine Wo_sub hlv ?_
    rw [f_X7_sights_17]
    refine r_iload_n (pc := 17) hE dX7_sights_17 rfl ?_
    refine r_iconst (v := 3) (pc := 18) hE dX7_sights_18 (by decide) ?_
    refine r_icmp_ge (pc := 19) hE 53 dX7_sights_19 (by decide) (fun _ => ?_) (fun _ => ?_)
    · refine r_aload_n (pc := 53) hE dX7_sights_53 rfl ?_
      refine r_aload_n (pc := 54) hE dX7_sights_54 rfl ?_
      refine r_getJ (pc := 55) hE 7 4 (by decide) (by decide) (fun _ _ _ => rfl) fl_RX7_18 dX7_sights_55 (fun v55 _ => ?_)
      refine r_callV (pc := 58) hE 7 (As := [.long v55]) (fun out ho => c_X7_count _ _ fu _ _ _ out ho) (fun out ho => k_X7_count ho) (by decide) rfl cs_RX7_120 ⟨Nat.le_of_ble_eq_true rfl, Nat.le_of_ble_eq_true rfl, Nat.le_of_ble_eq_true rfl, Nat.le_of_ble_eq_true rfl⟩ (Nat.le_of_ble_eq_true rfl) rfl dX7_sights_58 (fun r58 _ => ?_)
      exact r_iret (pc := 61) hE dX7_sights_61
    · refine r_aload_n (pc := 22) hE dX7_sights_22 rfl ?_
      refine r_aload_n (pc := 23) hE dX7_sights_23 rfl ?_
      refine r_iload_n (pc := 24) hE dX7_sights_24 rfl ?_
      refine r_aload_n (pc := 25) hE dX7_sights_25 rfl ?_
      refine r_aload_n (pc := 26) hE dX7_sights_26 rfl ?_
      refine r_getI (pc := 27) hE 7 5 (by decide) (by decide) (fun _ _ _ => rfl) fl_RX7_22 dX7_sights_27 (fun v27 _ => ?_)
      refine r_aload_n (pc := 30) hE dX7_sights_30 rfl ?_
      refine r_getI (pc := 31) hE 7 3 (by decide) (by decide) (fun _ _ _ => rfl) fl_RX7_100 dX7_sights_31 (fun v31 _ => ?_)
      refine r_bipush (v := 6) (pc := 34) hE dX7_sights_34 (by decide) ?_
      refine r_irem (pc := 36) hE dX7_sights_36 (by decide) ?_
      refine r_iload_n (pc := 37) hE dX7_sights_37 rfl ?_
      refine r_callV (pc := 38) hE 7 (As := [.int v27, .int (rem v31 6), .int x1]) (fun out ho => c_X7_signOf _ _ fu _ _ _ _ _ out ho) (fun out ho => k_X7_signOf ho) (by decide) rfl cs_RX7_145 ⟨Nat.le_of_ble_eq_true rfl, Nat.le_of_ble_eq_true rfl, Nat.le_of_ble_eq_true rfl, Nat.le_of_ble_eq_true rfl⟩ (Nat.le_of_ble_eq_true rfl) rfl dX7_sights_38 (fun r38 _ => ?_)
      refine r_callV (pc := 41) hE 7 (As := [.int x1, .int r38.1]) (fun out ho => c_X7_seen _ _ fu _ _ _ _ out ho) (fun out ho => k_X7_seen ho) (by decide) rfl cs_RX7_148 ⟨Nat.le_of_ble_eq_true rfl, Nat.le_of_ble_eq_true rfl, Nat.le_of_ble_eq_true rfl, Nat.le_of_ble_eq_true rfl⟩ (Nat.le_of_ble_eq_true rfl) rfl dX7_sights_41 (fun r41 _ => ?_)
      refine r_putJ (pc := 44) hE 7 4 (by decide) (by decide) (fun _ _ _ => rfl) fl_RX7_18 rfl rfl rfl dX7_sights_44 (fun h44 _ => ?_)
      refine r_iinc (v := (x1 + 1)) (pc := 47) hE dX7_sights_47 rfl rfl (by decide) ?_
      refine r_goto (pc := 50) hE 17 dX7_sights_50 (by decide) ?_
      exact ih _ _ _ _ ⟨rfl, ⟨rfl, trivial⟩⟩
def f_X7_sights (fu : Nat) (x0 : Nat) (h : Hp) : Option (Int32 × Hp) :=
  if h.K x0 = 7 then
    (pI h 7 x0 0 0).bind fun h2 =>
    (gI h2 7 x0 5).bind fun v6 =>
    if v6 = (-1) then
      some ((-1), h2)
    else
      f_X7_sights_17 fu fu x0 0 h2
  else none
set_option maxHeartbeats 4000000 in
set_option maxRecDepth 100000 in
theorem c_X7_sights (l : Launch) (D : Dx) (fu : Nat) (x0 : Nat) (h : Hp) (out : Int32 × Hp) (ho : f_X7_sights fu x0 h = some out) : Ct l D yX7_sights cX7_sights 2 (some .int) rm_X7_sights [.ref x0] h (evI out.1) out.2 := by
  refine Ct.of (o := f_X7_sights fu x0 h) (lv := [some (.ref x0), none]) (by decide) (Nat.le_of_ble_eq_true rfl) rfl ?_ out ho
  intro X hXl hE hin
  replace hE : En X D cX7_sights 2 RX7 (some .int) rm_X7_sights := hE
  subst hXl
  unfold f_X7_sights
  refine Wo_grd (fun _ => ?_)
  refine r_aload_n (pc := 0) hE dX7_sights_0 rfl ?_
  refine r_iconst (v := 0) (pc := 1) hE dX7_sights_1 (by decide) ?_
  refine r_putI (pc := 2) hE 7 0 (by decide) (by decide) (fun _ _ _ => rfl) fl_RX7_87 rfl rfl rfl dX7_sights_2 (fun h2 _ => ?_)
  refine r_aload_n (pc := 5) hE dX7_sights_5 rfl ?_
  refine r_getI (pc := 6) hE 7 5 (by decide) (by decide) (fun _ _ _ => rfl) fl_RX7_22 dX7_sights_6 (fun v6 _ => ?_)
  refine r_iconst (v := -1) (pc := 9) hE dX7_sights_9 (by decide) ?_
  refine r_icmp_ne (pc := 10) hE 15 dX7_sights_10 (by decide) (fun _ => ?_) (fun _ => ?_)
  · refine r_iconst (v := 0) (pc := 15) hE dX7_sights_15 (by decide) ?_
    refine r_istore_n (pc := 16) hE dX7_sights_16 (by decide) ?_
    exact w_X7_sights_17 hE fu _ _ _ _ ⟨rfl, ⟨rfl, trivial⟩⟩
  · refine r_iconst (v := -1) (pc := 13) hE dX7_sights_13 (by decide) ?_
    exact r_iret (pc := 14) hE dX7_sights_14
theorem k_X7_sights {fu : Nat} {x0 : Nat} {h : Hp} {out : Int32 × Hp} (ho : f_X7_sights fu x0 h = some out) : h.K x0 = 7 := (gi_k ho).1
theorem fl_RX7_152 : Cond.fieldLink RX7 152 (TF 7 22).1 (TF 7 22).2.1 (TF 7 22).2.2.1 ∈ TB := tb_in (by decide +kernel) rfl
def rm_X7_lay : Room := { frames := 0, cells := 0, slots := 0, locals := 0 }
def f_X7_lay_3 (fu : Nat) : Nat → Nat → Int32 → Int32 → Hp → Option (Unit × Hp)
  | 0, _, _, _, _ => none
  | n + 1, x0, x1, x2, h =>
    if x2 < 0 then
      some ((), h)
    else
      (gR h 7 x0 21).bind fun v8 =>
      (gI h 7 x0 22).bind fun v12 =>
      (sI h 8 v8 v12 ((x1 >>> (x2 &&& 31)) &&& 255)).bind fun h22 =>
      (gI h22 7 x0 22).bind fun v25 =>
      (pI h22 7 x0 22 (v25 + 1)).bind fun h30 =>
      f_X7_lay_3 fu n x0 x1 ((x2 + (-8))) h30
set_option maxHeartbeats 4000000 in
set_option maxRecDepth 100000 in
theorem w_X7_lay_3 {X : Cx} {D : Dx} (hE : En X D cX7_lay 3 RX7 none rm_X7_lay) {fu : Nat} : ∀ (n : Nat) (x0 : Nat) (x1 : Int32) (x2 : Int32) (h : Hp) (lv : List (Option Value)), lvLe [some (.ref x0), some (.int x1), some (.int x2)] lv → Wo X D 3 (Qr X D 0 0 evU) 0 0 (f_X7_lay_3 fu n x0 x1 x2 h) 3 lv [] h := by
  intro n
  induction n with
  | zero => intros; exact Wo_none
  | succ n ih =>
    intro x0 x1 x2 h lv hlv
    refine Wo_sub hlv ?_
    rw [f_X7_lay_3]
    refine r_iload_n (pc := 3) hE dX7_lay_3 rfl ?_
    refine r_if_lt (pc := 4) hE 39 dX7_lay_4 (by decide) (fun _ => ?_) (fun _ => ?_)
    · exact r_vret (pc := 39) hE dX7_lay_39
    · refine r_aload_n (pc := 7) hE dX7_lay_7 rfl ?_
      refine r_getR (pc := 8) hE 7 21 (by decide) (by decide) (fun _ _ _ => rfl) fl_RX7_59 dX7_lay_8 (fun v8 _ => ?_)
      refine r_aload_n (pc := 11) hE dX7_lay_11 rfl ?_
      refine r_getI (pc := 12) hE 7 22 (by decide) (by decide) (fun _ _ _ => rfl) fl_RX7_152 dX7_lay_12 (fun v12 _ => ?_)
      refine r_iload_n (pc := 15) hE dX7_lay_15 rfl ?_
      refine r_iload_n (pc := 16) hE dX7_lay_16 rfl ?_
      refine r_ishr (pc := 17) hE dX7_lay_17 ?_
      refine r_sipush (v := 255) (pc := 18) hE dX7_lay_18 (by decide) ?_
      refine r_iand (pc := 21) hE dX7_lay_21 ?_
      refine r_astI (pc := 22) hE dX7_lay_22 (fun h22 _ => ?_)
      refine r_aload_n (pc := 23) hE dX7_lay_23 rfl ?_
      refine r_aload_n (pc := 24) hE dX7_lay_24 rfl ?_
      refine r_getI (pc := 25) hE 7 22 (by decide) (by decide) (fun _ _ _ => rfl) fl_RX7_152 dX7_lay_25 (fun v25 _ => ?_)
      refine r_iconst (v := 1) (pc := 28) hE dX7_lay_28 (by decide) ?_
      refine r_iadd (pc := 29) hE dX7_lay_29 ?_
      refine r_putI (pc := 30) hE 7 22 (by decide) (by decide) (fun _ _ _ => rfl) fl_RX7_152 rfl rfl rfl dX7_lay_30 (fun h30 _ => ?_)
      refine r_iinc (v := (x2 + (-8))) (pc := 33) hE dX7_lay_33 rfl rfl (by decide) ?_
      refine r_goto (pc := 36) hE 3 dX7_lay_36 (by decide) ?_
      exact ih _ _ _ _ _ ⟨rfl, ⟨rfl, ⟨rfl, trivial⟩⟩⟩
def f_X7_lay (fu : Nat) (x0 : Nat) (x1 : Int32) (h : Hp) : Option (Unit × Hp) :=
  if h.K x0 = 7 then
    f_X7_lay_3 fu fu x0 x1 24 h
  else none
set_option maxHeartbeats 4000000 in
set_option maxRecDepth 100000 in
theorem c_X7_lay (l : Launch) (D : Dx) (fu : Nat) (x0 : Nat) (x1 : Int32) (h : Hp) (out : Unit × Hp) (ho : f_X7_lay fu x0 x1 h = some out) : Ct l D yX7_lay cX7_lay 3 none rm_X7_lay [.ref x0, .int x1] h (evU out.1) out.2 := by
  refine Ct.of (o := f_X7_lay fu x0 x1 h) (lv := [some (.ref x0), some (.int x1), none]) (by decide) (Nat.le_of_ble_eq_true rfl) rfl ?_ out ho
  intro X hXl hE hin
  replace hE : En X D cX7_lay 3 RX7 none rm_X7_lay := hE
  subst hXl
  unfold f_X7_lay
  refine Wo_grd (fun _ => ?_)
  refine r_bipush (v := 24) (pc := 0) hE dX7_lay_0 (by decide) ?_
  refine r_istore_n (pc := 2) hE dX7_lay_2 (by decide) ?_
  exact w_X7_lay_3 hE fu _ _ _ _ _ ⟨rfl, ⟨rfl, ⟨rfl, trivial⟩⟩⟩
theorem k_X7_lay {fu : Nat} {x0 : Nat} {x1 : Int32} {h : Hp} {out : Unit × Hp} (ho : f_X7_lay fu x0 x1 h = some out) : h.K x0 = 7 := (gi_k ho).1
theorem cs_RX7_155 : csV RX7 155 yX7_lay cX7_lay 3 none 1 = true := by decide +kernel
def rm_X7_feed : Room := { frames := 1, cells := 0, slots := 0, locals := 22 }
def f_X7_feed (fu : Nat) (x0 : Nat) (x1 : Int32) (x2 : Int32) (x3 : Int32) (x4 : Int32) (x5 : Int32) (h : Hp) : Option (Int32 × Hp) :=
  if h.K x0 = 7 then
    (pI h 7 x0 0 0).bind fun h2 =>
    (gI h2 7 x0 22).bind fun v6 =>
    if (v6 + 20) ≤ 400 then
      (f_X7_lay fu x0 x1 h2).bind fun r22 =>
      (f_X7_lay fu x0 x2 r22.2).bind fun r27 =>
      (f_X7_lay fu x0 x3 r27.2).bind fun r32 =>
      (f_X7_lay fu x0 x4 r32.2).bind fun r38 =>
      (f_X7_lay fu x0 x5 r38.2).bind fun r44 =>
      (gI r44.2 7 x0 22).bind fun v48 =>
      some (v48, r44.2)
    else
      some ((-1), h2)
  else none
set_option maxHeartbeats 4000000 in
set_option maxRecDepth 100000 in
theorem c_X7_feed (l : Launch) (D : Dx) (fu : Nat) (x0 : Nat) (x1 : Int32) (x2 : Int32) (x3 : Int32) (x4 : Int32) (x5 : Int32) (h : Hp) (out : Int32 × Hp) (ho : f_X7_feed fu x0 x1 x2 x3 x4 x5 h = some out) : Ct l D yX7_feed cX7_feed 6 (some .int) rm_X7_feed [.ref x0, .int x1, .int x2, .int x3, .int x4, .int x5] h (evI out.1) out.2 := by
  refine Ct.of (o := f_X7_feed fu x0 x1 x2 x3 x4 x5 h) (lv := [some (.ref x0), some (.int x1), some (.int x2), some (.int x3), some (.int x4), some (.int x5)]) (by decide) (Nat.le_of_ble_eq_true rfl) rfl ?_ out ho
  intro X hXl hE hin
  replace hE : En X D cX7_feed 6 RX7 (some .int) rm_X7_feed := hE
  subst hXl
  unfold f_X7_feed
  refine Wo_grd (fun _ => ?_)
  refine r_aload_n (pc := 0) hE dX7_feed_0 rfl ?_
  refine r_iconst (v := 0) (pc := 1) hE dX7_feed_1 (by decide) ?_
  refine r_putI (pc := 2) hE 7 0 (by decide) (by decide) (fun _ _ _ => rfl) fl_RX7_87 rfl rfl rfl dX7_feed_2 (fun h2 _ => ?_)
  refine r_aload_n (pc := 5) hE dX7_feed_5 rfl ?_
  refine r_getI (pc := 6) hE 7 22 (by decide) (by decide) (fun _ _ _ => rfl) fl_RX7_152 dX7_feed_6 (fun v6 _ => ?_)
  refine r_bipush (v := 20) (pc := 9) hE dX7_feed_9 (by decide) ?_
  refine r_iadd (pc := 11) hE dX7_feed_11 ?_
  refine r_sipush (v := 400) (pc := 12) hE dX7_feed_12 (by decide) ?_
  refine r_icmp_le (pc := 15) hE 20 dX7_feed_15 (by decide) (fun _ => ?_) (fun _ => ?_)
  · refine r_aload_n (pc := 20) hE dX7_feed_20 rfl ?_
    refine r_iload_n (pc := 21) hE dX7_feed_21 rfl ?_
    refine r_callV (pc := 22) hE 7 (As := [.int x1]) (fun out ho => c_X7_lay _ _ fu _ _ _ out ho) (fun out ho => k_X7_lay ho) (by decide) rfl cs_RX7_155 ⟨Nat.le_of_ble_eq_true rfl, Nat.le_of_ble_eq_true rfl, Nat.le_of_ble_eq_true rfl, Nat.le_of_ble_eq_true rfl⟩ (Nat.le_of_ble_eq_true rfl) rfl dX7_feed_22 (fun r22 _ => ?_)
    refine r_aload_n (pc := 25) hE dX7_feed_25 rfl ?_
    refine r_iload_n (pc := 26) hE dX7_feed_26 rfl ?_
    refine r_callV (pc := 27) hE 7 (As := [.int x2]) (fun out ho => c_X7_lay _ _ fu _ _ _ out ho) (fun out ho => k_X7_lay ho) (by decide) rfl cs_RX7_155 ⟨Nat.le_of_ble_eq_true rfl, Nat.le_of_ble_eq_true rfl, Nat.le_of_ble_eq_true rfl, Nat.le_of_ble_eq_true rfl⟩ (Nat.le_of_ble_eq_true rfl) rfl dX7_feed_27 (fun r27 _ => ?_)
    refine r_aload_n (pc := 30) hE dX7_feed_30 rfl ?_
    refine r_iload_n (pc := 31) hE dX7_feed_31 rfl ?_
    refine r_callV (pc := 32) hE 7 (As := [.int x3]) (fun out ho => c_X7_lay _ _ fu _ _ _ out ho) (fun out ho => k_X7_lay ho) (by decide) rfl cs_RX7_155 ⟨Nat.le_of_ble_eq_true rfl, Nat.le_of_ble_eq_true rfl, Nat.le_of_ble_eq_true rfl, Nat.le_of_ble_eq_true rfl⟩ (Nat.le_of_ble_eq_true rfl) rfl dX7_feed_32 (fun r32 _ => ?_)
    refine r_aload_n (pc := 35) hE dX7_feed_35 rfl ?_
    refine r_iload (pc := 36) hE dX7_feed_36 rfl ?_
    refine r_callV (pc := 38) hE 7 (As := [.int x4]) (fun out ho => c_X7_lay _ _ fu _ _ _ out ho) (fun out ho => k_X7_lay ho) (by decide) rfl cs_RX7_155 ⟨Nat.le_of_ble_eq_true rfl, Nat.le_of_ble_eq_true rfl, Nat.le_of_ble_eq_true rfl, Nat.le_of_ble_eq_true rfl⟩ (Nat.le_of_ble_eq_true rfl) rfl dX7_feed_38 (fun r38 _ => ?_)
    refine r_aload_n (pc := 41) hE dX7_feed_41 rfl ?_
    refine r_iload (pc := 42) hE dX7_feed_42 rfl ?_
    refine r_callV (pc := 44) hE 7 (As := [.int x5]) (fun out ho => c_X7_lay _ _ fu _ _ _ out ho) (fun out ho => k_X7_lay ho) (by decide) rfl cs_RX7_155 ⟨Nat.le_of_ble_eq_true rfl, Nat.le_of_ble_eq_true rfl, Nat.le_of_ble_eq_true rfl, Nat.le_of_ble_eq_true rfl⟩ (Nat.le_of_ble_eq_true rfl) rfl dX7_feed_44 (fun r44 _ => ?_)
    refine r_aload_n (pc := 47) hE dX7_feed_47 rfl ?_
    refine r_getI (pc := 48) hE 7 22 (by decide) (by decide) (fun _ _ _ => rfl) fl_RX7_152 dX7_feed_48 (fun v48 _ => ?_)
    exact r_iret (pc := 51) hE dX7_feed_51
  · refine r_iconst (v := -1) (pc := 18) hE dX7_feed_18 (by decide) ?_
    exact r_iret (pc := 19) hE dX7_feed_19
theorem k_X7_feed {fu : Nat} {x0 : Nat} {x1 : Int32} {x2 : Int32} {x3 : Int32} {x4 : Int32} {x5 : Int32} {h : Hp} {out : Int32 × Hp} (ho : f_X7_feed fu x0 x1 x2 x3 x4 x5 h = some out) : h.K x0 = 7 := (gi_k ho).1
def rm_X7_end : Room := { frames := 0, cells := 0, slots := 0, locals := 0 }
def f_X7_end (fu : Nat) (x0 : Nat) (x1 : Int32) (h : Hp) : Option (Int32 × Hp) :=
  if h.K x0 = 7 then
    (pI h 7 x0 0 0).bind fun h2 =>
    if x1 < 0 then
      some ((-1), h2)
    else
      (gI h2 7 x0 22).bind fun v11 =>
      if x1 ≤ v11 then
        (pI h2 7 x0 22 x1).bind fun h21 =>
        some (x1, h21)
      else
        some ((-1), h2)
  else none
set_option maxHeartbeats 4000000 in
set_option maxRecDepth 100000 in
theorem c_X7_end (l : Launch) (D : Dx) (fu : Nat) (x0 : Nat) (x1 : Int32) (h : Hp) (out : Int32 × Hp) (ho : f_X7_end fu x0 x1 h = some out) : Ct l D yX7_end cX7_end 2 (some .int) rm_X7_end [.ref x0, .int x1] h (evI out.1) out.2 := by
  refine Ct.of (o := f_X7_end fu x0 x1 h) (lv := [some (.ref x0), some (.int x1)]) (by decide) (Nat.le_of_ble_eq_true rfl) rfl ?_ out ho
  intro X hXl hE hin
  replace hE : En X D cX7_end 2 RX7 (some .int) rm_X7_end := hE
  subst hXl
  unfold f_X7_end
  refine Wo_grd (fun _ => ?_)
  refine r_aload_n (pc := 0) hE dX7_end_0 rfl ?_
  refine r_iconst (v := 0) (pc := 1) hE dX7_end_1 (by decide) ?_
  refine r_putI (pc := 2) hE 7 0 (by decide) (by decide) (fun _ _ _ => rfl) fl_RX7_87 rfl rfl rfl dX7_end_2 (fun h2 _ => ?_)
  refine r_iload_n (pc := 5) hE dX7_end_5 rfl ?_
  refine r_if_lt (pc := 6) hE 17 dX7_end_6 (by decide) (fun _ => ?_) (fun _ => ?_)
  · refine r_iconst (v := -1) (pc := 17) hE dX7_end_17 (by decide) ?_
    exact r_iret (pc := 18) hE dX7_end_18
  · refine r_iload_n (pc := 9) hE dX7_end_9 rfl ?_
    refine r_aload_n (pc := 10) hE dX7_end_10 rfl ?_
    refine r_getI (pc := 11) hE 7 22 (by decide) (by decide) (fun _ _ _ => rfl) fl_RX7_152 dX7_end_11 (fun v11 _ => ?_)
    refine r_icmp_le (pc := 14) hE 19 dX7_end_14 (by decide) (fun _ => ?_) (fun _ => ?_)
    · refine r_aload_n (pc := 19) hE dX7_end_19 rfl ?_
      refine r_iload_n (pc := 20) hE dX7_end_20 rfl ?_
      refine r_putI (pc := 21) hE 7 22 (by decide) (by decide) (fun _ _ _ => rfl) fl_RX7_152 rfl rfl rfl dX7_end_21 (fun h21 _ => ?_)
      refine r_iload_n (pc := 24) hE dX7_end_24 rfl ?_
      exact r_iret (pc := 25) hE dX7_end_25
    · refine r_iconst (v := -1) (pc := 17) hE dX7_end_17 (by decide) ?_
      exact r_iret (pc := 18) hE dX7_end_18
theorem k_X7_end {fu : Nat} {x0 : Nat} {x1 : Int32} {h : Hp} {out : Int32 × Hp} (ho : f_X7_end fu x0 x1 h = some out) : h.K x0 = 7 := (gi_k ho).1
theorem fl_RX7_159 : Cond.fieldLink RX7 159 (TF 7 27).1 (TF 7 27).2.1 (TF 7 27).2.2.1 ∈ TB := tb_in (by decide +kernel) rfl
def rm_X7_fault : Room := { frames := 0, cells := 0, slots := 0, locals := 0 }
def f_X7_fault (fu : Nat) (x0 : Nat) (x1 : Int32) (h : Hp) : Option (Int32 × Hp) :=
  if h.K x0 = 7 then
    (pI h 7 x0 0 0).bind fun h2 =>
    if x1 = 0 then
      (gI h2 7 x0 27).bind fun v10 =>
      some (v10, h2)
    else
      if x1 = 1 then
        (gI h2 7 x0 28).bind fun v22 =>
        some (v22, h2)
      else
        some ((-1), h2)
  else none
set_option maxHeartbeats 4000000 in
set_option maxRecDepth 100000 in
theorem c_X7_fault (l : Launch) (D : Dx) (fu : Nat) (x0 : Nat) (x1 : Int32) (h : Hp) (out : Int32 × Hp) (ho : f_X7_fault fu x0 x1 h = some out) : Ct l D yX7_fault cX7_fault 2 (some .int) rm_X7_fault [.ref x0, .int x1] h (evI out.1) out.2 := by
  refine Ct.of (o := f_X7_fault fu x0 x1 h) (lv := [some (.ref x0), some (.int x1)]) (by decide) (Nat.le_of_ble_eq_true rfl) rfl ?_ out ho
  intro X hXl hE hin
  replace hE : En X D cX7_fault 2 RX7 (some .int) rm_X7_fault := hE
  subst hXl
  unfold f_X7_fault
  refine Wo_grd (fun _ => ?_)
  refine r_aload_n (pc := 0) hE dX7_fault_0 rfl ?_
  refine r_iconst (v := 0) (pc := 1) hE dX7_fault_1 (by decide) ?_
  refine r_putI (pc := 2) hE 7 0 (by decide) (by decide) (fun _ _ _ => rfl) fl_RX7_87 rfl rfl rfl dX7_fault_2 (fun h2 _ => ?_)
  refine r_iload_n (pc := 5) hE dX7_fault_5 rfl ?_
  refine r_if_ne (pc := 6) hE 16 dX7_fault_6 (by decide) (fun _ => ?_) (fun _ => ?_)
  · refine r_iload_n (pc := 16) hE dX7_fault_16 rfl ?_
    refine r_iconst (v := 1) (pc := 17) hE dX7_fault_17 (by decide) ?_
    refine r_icmp_ne (pc := 18) hE 28 dX7_fault_18 (by decide) (fun _ => ?_) (fun _ => ?_)
    · refine r_iconst (v := -1) (pc := 28) hE dX7_fault_28 (by decide) ?_
      exact r_iret (pc := 29) hE dX7_fault_29
    · refine r_aload_n (pc := 21) hE dX7_fault_21 rfl ?_
      refine r_getI (pc := 22) hE 7 28 (by decide) (by decide) (fun _ _ _ => rfl) fl_RX7_62 dX7_fault_22 (fun v22 _ => ?_)
      refine r_goto (pc := 25) hE 29 dX7_fault_25 (by decide) ?_
      exact r_iret (pc := 29) hE dX7_fault_29
  · refine r_aload_n (pc := 9) hE dX7_fault_9 rfl ?_
    refine r_getI (pc := 10) hE 7 27 (by decide) (by decide) (fun _ _ _ => rfl) fl_RX7_159 dX7_fault_10 (fun v10 _ => ?_)
    refine r_goto (pc := 13) hE 29 dX7_fault_13 (by decide) ?_
    exact r_iret (pc := 29) hE dX7_fault_29
theorem k_X7_fault {fu : Nat} {x0 : Nat} {x1 : Int32} {h : Hp} {out : Int32 × Hp} (ho : f_X7_fault fu x0 x1 h = some out) : h.K x0 = 7 := (gi_k ho).1
theorem fl_RX7_162 : Cond.fieldLink RX7 162 (TF 7 23).1 (TF 7 23).2.1 (TF 7 23).2.2.1 ∈ TB := tb_in (by decide +kernel) rfl
def rm_X7_raw : Room := { frames := 0, cells := 0, slots := 0, locals := 0 }
def f_X7_raw (fu : Nat) (x0 : Nat) (x1 : Int32) (h : Hp) : Option (Int32 × Hp) :=
  if h.K x0 = 7 then
    (gI h 7 x0 23).bind fun v1 =>
    (gI h 7 x0 22).bind fun v7 =>
    if v7 ≤ (v1 + x1) then
      some ((-1), h)
    else
      (gR h 7 x0 21).bind fun v14 =>
      (gI h 7 x0 23).bind fun v18 =>
      (aI h 8 v14 (v18 + x1)).bind fun v23 =>
      some (v23, h)
  else none
set_option maxHeartbeats 4000000 in
set_option maxRecDepth 100000 in
theorem c_X7_raw (l : Launch) (D : Dx) (fu : Nat) (x0 : Nat) (x1 : Int32) (h : Hp) (out : Int32 × Hp) (ho : f_X7_raw fu x0 x1 h = some out) : Ct l D yX7_raw cX7_raw 2 (some .int) rm_X7_raw [.ref x0, .int x1] h (evI out.1) out.2 := by
  refine Ct.of (o := f_X7_raw fu x0 x1 h) (lv := [some (.ref x0), some (.int x1)]) (by decide) (Nat.le_of_ble_eq_true rfl) rfl ?_ out ho
  intro X hXl hE hin
  replace hE : En X D cX7_raw 2 RX7 (some .int) rm_X7_raw := hE
  subst hXl
  unfold f_X7_raw
  refine Wo_grd (fun _ => ?_)
  refine r_aload_n (pc := 0) hE dX7_raw_0 rfl ?_
  refine r_getI (pc := 1) hE 7 23 (by decide) (by decide) (fun _ _ _ => rfl) fl_RX7_162 dX7_raw_1 (fun v1 _ => ?_)
  refine r_iload_n (pc := 4) hE dX7_raw_4 rfl ?_
  refine r_iadd (pc := 5) hE dX7_raw_5 ?_
  refine r_aload_n (pc := 6) hE dX7_raw_6 rfl ?_
  refine r_getI (pc := 7) hE 7 22 (by decide) (by decide) (fun _ _ _ => rfl) fl_RX7_152 dX7_raw_7 (fun v7 _ => ?_)
  refine r_icmp_ge (pc := 10) hE 27 dX7_raw_10 (by decide) (fun _ => ?_) (fun _ => ?_)
  · refine r_iconst (v := -1) (pc := 27) hE dX7_raw_27 (by decide) ?_
    exact r_iret (pc := 28) hE dX7_raw_28
  · refine r_aload_n (pc := 13) hE dX7_raw_13 rfl ?_
    refine r_getR (pc := 14) hE 7 21 (by decide) (by decide) (fun _ _ _ => rfl) fl_RX7_59 dX7_raw_14 (fun v14 _ => ?_)
    refine r_aload_n (pc := 17) hE dX7_raw_17 rfl ?_
    refine r_getI (pc := 18) hE 7 23 (by decide) (by decide) (fun _ _ _ => rfl) fl_RX7_162 dX7_raw_18 (fun v18 _ => ?_)
    refine r_iload_n (pc := 21) hE dX7_raw_21 rfl ?_
    refine r_iadd (pc := 22) hE dX7_raw_22 ?_
    refine r_aldI (pc := 23) hE dX7_raw_23 (fun v23 _ => ?_)
    refine r_goto (pc := 24) hE 28 dX7_raw_24 (by decide) ?_
    exact r_iret (pc := 28) hE dX7_raw_28
theorem k_X7_raw {fu : Nat} {x0 : Nat} {x1 : Int32} {h : Hp} {out : Int32 × Hp} (ho : f_X7_raw fu x0 x1 h = some out) : h.K x0 = 7 := (gi_k ho).1
def rm_X7_isLetter : Room := { frames := 0, cells := 0, slots := 0, locals := 0 }
def f_X7_isLetter_24 (fu : Nat) (h : Hp) : Option (Int32 × Hp) :=
  some (1, h)
set_option maxHeartbeats 4000000 in
set_option maxRecDepth 100000 in
theorem w_X7_isLetter_24 {X : Cx} {D : Dx} (hE : En X D cX7_isLetter 2 RX7 (some .boolean) rm_X7_isLetter) {fu : Nat} (h : Hp) {lv : List (Option Value)} (hlv : lvLe [none, none] lv) : Wo X D 2 (Qr X D 0 0 evI) 0 0 (f_X7_isLetter_24 fu  h) 24 lv [] h := by
  refine Wo_sub hlv ?_
  unfold f_X7_isLetter_24
  refine r_iconst (v := 1) (pc := 24) hE dX7_isLetter_24 (by decide) ?_
  refine r_goto (pc := 25) hE 29 dX7_isLetter_25 (by decide) ?_
  exact r_zret (pc := 29) hE (by decide) dX7_isLetter_29
def f_X7_isLetter_12 (fu : Nat) (x1 : Int32) (h : Hp) : Option (Int32 × Hp) :=
  if x1 < 65 then
    some (0, h)
  else
    if 90 < x1 then
      some (0, h)
    else
      f_X7_isLetter_24 fu h
set_option maxHeartbeats 4000000 in
set_option maxRecDepth 100000 in
theorem w_X7_isLetter_12 {X : Cx} {D : Dx} (hE : En X D cX7_isLetter 2 RX7 (some .boolean) rm_X7_isLetter) {fu : Nat} (x1 : Int32) (h : Hp) {lv : List (Option Value)} (hlv : lvLe [none, some (.int x1)] lv) : Wo X D 2 (Qr X D 0 0 evI) 0 0 (f_X7_isLetter_12 fu x1 h) 12 lv [] h := by
  refine Wo_sub hlv ?_
  unfold f_X7_isLetter_12
  refine r_iload_n (pc := 12) hE dX7_isLetter_12 rfl ?_
  refine r_bipush (v := 65) (pc := 13) hE dX7_isLetter_13 (by decide) ?_
  refine r_icmp_lt (pc := 15) hE 28 dX7_isLetter_15 (by decide) (fun _ => ?_) (fun _ => ?_)
  · refine r_iconst (v := 0) (pc := 28) hE dX7_isLetter_28 (by decide) ?_
    exact r_zret (pc := 29) hE (by decide) dX7_isLetter_29
  · refine r_iload_n (pc := 18) hE dX7_isLetter_18 rfl ?_
    refine r_bipush (v := 90) (pc := 19) hE dX7_isLetter_19 (by decide) ?_
    refine r_icmp_gt (pc := 21) hE 28 dX7_isLetter_21 (by decide) (fun _ => ?_) (fun _ => ?_)
    · refine r_iconst (v := 0) (pc := 28) hE dX7_isLetter_28 (by decide) ?_
      exact r_zret (pc := 29) hE (by decide) dX7_isLetter_29
    · exact w_X7_isLetter_24 hE  _ trivial
def f_X7_isLetter (fu : Nat) (x0 : Nat) (x1 : Int32) (h : Hp) : Option (Int32 × Hp) :=
  if h.K x0 = 7 then
    if x1 < 97 then
      f_X7_isLetter_12 fu x1 h
    else
      if x1 ≤ 122 then
        f_X7_isLetter_24 fu h
      else
        f_X7_isLetter_12 fu x1 h
  else none
set_option maxHeartbeats 4000000 in
set_option maxRecDepth 100000 in
theorem c_X7_isLetter (l : Launch) (D : Dx) (fu : Nat) (x0 : Nat) (x1 : Int32) (h : Hp) (out : Int32 × Hp) (ho : f_X7_isLetter fu x0 x1 h = some out) : Ct l D yX7_isLetter cX7_isLetter 2 (some .boolean) rm_X7_isLetter [.ref x0, .int x1] h (evI out.1) out.2 := by
  refine Ct.of (o := f_X7_isLetter fu x0 x1 h) (lv := [some (.ref x0), some (.int x1)]) (by decide) (Nat.le_of_ble_eq_true rfl) rfl ?_ out ho
  intro X hXl hE hin
  replace hE : En X D cX7_isLetter 2 RX7 (some .boolean) rm_X7_isLetter := hE
  subst hXl
  unfold f_X7_isLetter
  refine Wo_grd (fun _ => ?_)
  refine r_iload_n (pc := 0) hE dX7_isLetter_0 rfl ?_
  refine r_bipush (v := 97) (pc := 1) hE dX7_isLetter_1 (by decide) ?_
  refine r_icmp_lt (pc := 3) hE 12 dX7_isLetter_3 (by decide) (fun _ => ?_) (fun _ => ?_)
  · exact w_X7_isLetter_12 hE _ _ ⟨rfl, trivial⟩
  · refine r_iload_n (pc := 6) hE dX7_isLetter_6 rfl ?_
    refine r_bipush (v := 122) (pc := 7) hE dX7_isLetter_7 (by decide) ?_
    refine r_icmp_le (pc := 9) hE 24 dX7_isLetter_9 (by decide) (fun _ => ?_) (fun _ => ?_)
    · exact w_X7_isLetter_24 hE  _ trivial
    · exact w_X7_isLetter_12 hE _ _ ⟨rfl, trivial⟩
theorem k_X7_isLetter {fu : Nat} {x0 : Nat} {x1 : Int32} {h : Hp} {out : Int32 × Hp} (ho : f_X7_isLetter fu x0 x1 h = some out) : h.K x0 = 7 := (gi_k ho).1
def rm_X7_isDigit : Room := { frames := 0, cells := 0, slots := 0, locals := 0 }
def f_X7_isDigit (fu : Nat) (x0 : Nat) (x1 : Int32) (h : Hp) : Option (Int32 × Hp) :=
  if h.K x0 = 7 then
    if x1 < 48 then
      some (0, h)
    else
      if 57 < x1 then
        some (0, h)
      else
        some (1, h)
  else none
set_option maxHeartbeats 4000000 in
set_option maxRecDepth 100000 in
theorem c_X7_isDigit (l : Launch) (D : Dx) (fu : Nat) (x0 : Nat) (x1 : Int32) (h : Hp) (out : Int32 × Hp) (ho : f_X7_isDigit fu x0 x1 h = some out) : Ct l D yX7_isDigit cX7_isDigit 2 (some .boolean) rm_X7_isDigit [.ref x0, .int x1] h (evI out.1) out.2 := by
  refine Ct.of (o := f_X7_isDigit fu x0 x1 h) (lv := [some (.ref x0), some (.int x1)]) (by decide) (Nat.le_of_ble_eq_true rfl) rfl ?_ out ho
  intro X hXl hE hin
  replace hE : En X D cX7_isDigit 2 RX7 (some .boolean) rm_X7_isDigit := hE
  subst hXl
  unfold f_X7_isDigit
  refine Wo_grd (fun _ => ?_)
  refine r_iload_n (pc := 0) hE dX7_isDigit_0 rfl ?_
  refine r_bipush (v := 48) (pc := 1) hE dX7_isDigit_1 (by decide) ?_
  refine r_icmp_lt (pc := 3) hE 16 dX7_isDigit_3 (by decide) (fun _ => ?_) (fun _ => ?_)
  · refine r_iconst (v := 0) (pc := 16) hE dX7_isDigit_16 (by decide) ?_
    exact r_zret (pc := 17) hE (by decide) dX7_isDigit_17
  · refine r_iload_n (pc := 6) hE dX7_isDigit_6 rfl ?_
    refine r_bipush (v := 57) (pc := 7) hE dX7_isDigit_7 (by decide) ?_
    refine r_icmp_gt (pc := 9) hE 16 dX7_isDigit_9 (by decide) (fun _ => ?_) (fun _ => ?_)
    · refine r_iconst (v := 0) (pc := 16) hE dX7_isDigit_16 (by decide) ?_
      exact r_zret (pc := 17) hE (by decide) dX7_isDigit_17
    · refine r_iconst (v := 1) (pc := 12) hE dX7_isDigit_12 (by decide) ?_
      refine r_goto (pc := 13) hE 17 dX7_isDigit_13 (by decide) ?_
      exact r_zret (pc := 17) hE (by decide) dX7_isDigit_17
theorem k_X7_isDigit {fu : Nat} {x0 : Nat} {x1 : Int32} {h : Hp} {out : Int32 × Hp} (ho : f_X7_isDigit fu x0 x1 h = some out) : h.K x0 = 7 := (gi_k ho).1
theorem cs_RX7_165 : csV RX7 165 yX7_raw cX7_raw 2 (some .int) 1 = true := by decide +kernel
def rm_X7_isWord : Room := { frames := 1, cells := 0, slots := 0, locals := 21 }
def f_X7_isWord_62 (fu : Nat) (h : Hp) : Option (Int32 × Hp) :=
  some (1, h)
set_option maxHeartbeats 4000000 in
set_option maxRecDepth 100000 in
theorem w_X7_isWord_62 {X : Cx} {D : Dx} (hE : En X D cX7_isWord 7 RX7 (some .boolean) rm_X7_isWord) {fu : Nat} (h : Hp) {lv : List (Option Value)} (hlv : lvLe [none, none, none, none, none, none, none] lv) : Wo X D 7 (Qr X D 0 0 evI) 0 0 (f_X7_isWord_62 fu  h) 62 lv [] h := by
  refine Wo_sub hlv ?_
  unfold f_X7_isWord_62
  refine r_iconst (v := 1) (pc := 62) hE dX7_isWord_62 (by decide) ?_
  refine r_goto (pc := 63) hE 67 dX7_isWord_63 (by decide) ?_
  exact r_zret (pc := 67) hE (by decide) dX7_isWord_67
def f_X7_isWord_47 (fu : Nat) (x0 : Nat) (x1 : Int32) (x6 : Int32) (h : Hp) : Option (Int32 × Hp) :=
  if x1 < 5 then
    f_X7_isWord_62 fu h
  else
    (f_X7_raw fu x0 4 h).bind fun r54 =>
    if r54.1 = x6 then
      f_X7_isWord_62 fu r54.2
    else
      some (0, r54.2)
set_option maxHeartbeats 4000000 in
set_option maxRecDepth 100000 in
theorem w_X7_isWord_47 {X : Cx} {D : Dx} (hE : En X D cX7_isWord 7 RX7 (some .boolean) rm_X7_isWord) {fu : Nat} (x0 : Nat) (x1 : Int32) (x6 : Int32) (h : Hp) {lv : List (Option Value)} (hlv : lvLe [some (.ref x0), some (.int x1), none, none, none, none, some (.int x6)] lv) : Wo X D 7 (Qr X D 0 0 evI) 0 0 (f_X7_isWord_47 fu x0 x1 x6 h) 47 lv [] h := by
  refine Wo_sub hlv ?_
  unfold f_X7_isWord_47
  refine r_iload_n (pc := 47) hE dX7_isWord_47 rfl ?_
  refine r_iconst (v := 5) (pc := 48) hE dX7_isWord_48 (by decide) ?_
  refine r_icmp_lt (pc := 49) hE 62 dX7_isWord_49 (by decide) (fun _ => ?_) (fun _ => ?_)
  · exact w_X7_isWord_62 hE  _ trivial
  · refine r_aload_n (pc := 52) hE dX7_isWord_52 rfl ?_
    refine r_iconst (v := 4) (pc := 53) hE dX7_isWord_53 (by decide) ?_
    refine r_callV (pc := 54) hE 7 (As := [.int 4]) (fun out ho => c_X7_raw _ _ fu _ _ _ out ho) (fun out ho => k_X7_raw ho) (by decide) rfl cs_RX7_165 ⟨Nat.le_of_ble_eq_true rfl, Nat.le_of_ble_eq_true rfl, Nat.le_of_ble_eq_true rfl, Nat.le_of_ble_eq_true rfl⟩ (Nat.le_of_ble_eq_true rfl) rfl dX7_isWord_54 (fun r54 _ => ?_)
    refine r_iload (pc := 57) hE dX7_isWord_57 rfl ?_
    refine r_icmp_ne (pc := 59) hE 66 dX7_isWord_59 (by decide) (fun _ => ?_) (fun _ => ?_)
    · refine r_iconst (v := 0) (pc := 66) hE dX7_isWord_66 (by decide) ?_
      exact r_zret (pc := 67) hE (by decide) dX7_isWord_67
    · exact w_X7_isWord_62 hE  _ trivial
def f_X7_isWord (fu : Nat) (x0 : Nat) (x1 : Int32) (x2 : Int32) (x3 : Int32) (x4 : Int32) (x5 : Int32) (x6 : Int32) (h : Hp) : Option (Int32 × Hp) :=
  if h.K x0 = 7 then
    (f_X7_raw fu x0 0 h).bind fun r2 =>
    if r2.1 = x2 then
      (f_X7_raw fu x0 1 r2.2).bind fun r11 =>
      if r11.1 = x3 then
        (f_X7_raw fu x0 2 r11.2).bind fun r20 =>
        if r20.1 = x4 then
          if x1 ≤ 3 then
            f_X7_isWord_47 fu x0 x1 x6 r20.2
          else
            (f_X7_raw fu x0 3 r20.2).bind fun r37 =>
            if r37.1 = x5 then
              f_X7_isWord_47 fu x0 x1 x6 r37.2
            else
              some (0, r37.2)
        else
          some (0, r20.2)
      else
        some (0, r11.2)
    else
      some (0, r2.2)
  else none
set_option maxHeartbeats 4000000 in
set_option maxRecDepth 100000 in
theorem c_X7_isWord (l : Launch) (D : Dx) (fu : Nat) (x0 : Nat) (x1 : Int32) (x2 : Int32) (x3 : Int32) (x4 : Int32) (x5 : Int32) (x6 : Int32) (h : Hp) (out : Int32 × Hp) (ho : f_X7_isWord fu x0 x1 x2 x3 x4 x5 x6 h = some out) : Ct l D yX7_isWord cX7_isWord 7 (some .boolean) rm_X7_isWord [.ref x0, .int x1, .int x2, .int x3, .int x4, .int x5, .int x6] h (evI out.1) out.2 := by
  refine Ct.of (o := f_X7_isWord fu x0 x1 x2 x3 x4 x5 x6 h) (lv := [some (.ref x0), some (.int x1), some (.int x2), some (.int x3), some (.int x4), some (.int x5), some (.int x6)]) (by decide) (Nat.le_of_ble_eq_true rfl) rfl ?_ out ho
  intro X hXl hE hin
  replace hE : En X D cX7_isWord 7 RX7 (some .boolean) rm_X7_isWord := hE
  subst hXl
  unfold f_X7_isWord
  refine Wo_grd (fun _ => ?_)
  refine r_aload_n (pc := 0) hE dX7_isWord_0 rfl ?_
  refine r_iconst (v := 0) (pc := 1) hE dX7_isWord_1 (by decide) ?_
  refine r_callV (pc := 2) hE 7 (As := [.int 0]) (fun out ho => c_X7_raw _ _ fu _ _ _ out ho) (fun out ho => k_X7_raw ho) (by decide) rfl cs_RX7_165 ⟨Nat.le_of_ble_eq_true rfl, Nat.le_of_ble_eq_true rfl, Nat.le_of_ble_eq_true rfl, Nat.le_of_ble_eq_true rfl⟩ (Nat.le_of_ble_eq_true rfl) rfl dX7_isWord_2 (fun r2 _ => ?_)
  refine r_iload_n (pc := 5) hE dX7_isWord_5 rfl ?_
  refine r_icmp_ne (pc := 6) hE 28 dX7_isWord_6 (by decide) (fun _ => ?_) (fun _ => ?_)
  · refine r_iconst (v := 0) (pc := 28) hE dX7_isWord_28 (by decide) ?_
    exact r_zret (pc := 29) hE (by decide) dX7_isWord_29
  · refine r_aload_n (pc := 9) hE dX7_isWord_9 rfl ?_
    refine r_iconst (v := 1) (pc := 10) hE dX7_isWord_10 (by decide) ?_
    refine r_callV (pc := 11) hE 7 (As := [.int 1]) (fun out ho => c_X7_raw _ _ fu _ _ _ out ho) (fun out ho => k_X7_raw ho) (by decide) rfl cs_RX7_165 ⟨Nat.le_of_ble_eq_true rfl, Nat.le_of_ble_eq_true rfl, Nat.le_of_ble_eq_true rfl, Nat.le_of_ble_eq_true rfl⟩ (Nat.le_of_ble_eq_true rfl) rfl dX7_isWord_11 (fun r11 _ => ?_)
    refine r_iload_n (pc := 14) hE dX7_isWord_14 rfl ?_
    refine r_icmp_ne (pc := 15) hE 28 dX7_isWord_15 (by decide) (fun _ => ?_) (fun _ => ?_)
    · refine r_iconst (v := 0) (pc := 28) hE dX7_isWord_28 (by decide) ?_
      exact r_zret (pc := 29) hE (by decide) dX7_isWord_29
    · refine r_aload_n (pc := 18) hE dX7_isWord_18 rfl ?_
      refine r_iconst (v := 2) (pc := 19) hE dX7_isWord_19 (by decide) ?_
      refine r_callV (pc := 20) hE 7 (As := [.int 2]) (fun out ho => c_X7_raw _ _ fu _ _ _ out ho) (fun out ho => k_X7_raw ho) (by decide) rfl cs_RX7_165 ⟨Nat.le_of_ble_eq_true rfl, Nat.le_of_ble_eq_true rfl, Nat.le_of_ble_eq_true rfl, Nat.le_of_ble_eq_true rfl⟩ (Nat.le_of_ble_eq_true rfl) rfl dX7_isWord_20 (fun r20 _ => ?_)
      refine r_iload (pc := 23) hE dX7_isWord_23 rfl ?_
      refine r_icmp_eq (pc := 25) hE 30 dX7_isWord_25 (by decide) (fun _ => ?_) (fun _ => ?_)
      · refine r_iload_n (pc := 30) hE dX7_isWord_30 rfl ?_
        refine r_iconst (v := 3) (pc := 31) hE dX7_isWord_31 (by decide) ?_
        refine r_icmp_le (pc := 32) hE 47 dX7_isWord_32 (by decide) (fun _ => ?_) (fun _ => ?_)
        · exact w_X7_isWord_47 hE _ _ _ _ ⟨rfl, ⟨rfl, ⟨rfl, trivial⟩⟩⟩
        · refine r_aload_n (pc := 35) hE dX7_isWord_35 rfl ?_
          refine r_iconst (v := 3) (pc := 36) hE dX7_isWord_36 (by decide) ?_
          refine r_callV (pc := 37) hE 7 (As := [.int 3]) (fun out ho => c_X7_raw _ _ fu _ _ _ out ho) (fun out ho => k_X7_raw ho) (by decide) rfl cs_RX7_165 ⟨Nat.le_of_ble_eq_true rfl, Nat.le_of_ble_eq_true rfl, Nat.le_of_ble_eq_true rfl, Nat.le_of_ble_eq_true rfl⟩ (Nat.le_of_ble_eq_true rfl) rfl dX7_isWord_37 (fun r37 _ => ?_)
          refine r_iload (pc := 40) hE dX7_isWord_40 rfl ?_
          refine r_icmp_eq (pc := 42) hE 47 dX7_isWord_42 (by decide) (fun _ => ?_) (fun _ => ?_)
          · exact w_X7_isWord_47 hE _ _ _ _ ⟨rfl, ⟨rfl, ⟨rfl, trivial⟩⟩⟩
          · refine r_iconst (v := 0) (pc := 45) hE dX7_isWord_45 (by decide) ?_
            exact r_zret (pc := 46) hE (by decide) dX7_isWord_46
      · refine r_iconst (v := 0) (pc := 28) hE dX7_isWord_28 (by decide) ?_
        exact r_zret (pc := 29) hE (by decide) dX7_isWord_29
theorem k_X7_isWord {fu : Nat} {x0 : Nat} {x1 : Int32} {x2 : Int32} {x3 : Int32} {x4 : Int32} {x5 : Int32} {x6 : Int32} {h : Hp} {out : Int32 × Hp} (ho : f_X7_isWord fu x0 x1 x2 x3 x4 x5 x6 h = some out) : h.K x0 = 7 := (gi_k ho).1
theorem fl_RX7_169 : Cond.fieldLink RX7 169 (TF 7 24).1 (TF 7 24).2.1 (TF 7 24).2.2.1 ∈ TB := tb_in (by decide +kernel) rfl
theorem fl_RX7_172 : Cond.fieldLink RX7 172 (TF 7 25).1 (TF 7 25).2.1 (TF 7 25).2.2.1 ∈ TB := tb_in (by decide +kernel) rfl
theorem cs_RX7_175 : csV RX7 175 yX7_isLetter cX7_isLetter 2 (some .boolean) 1 = true := by decide +kernel
theorem cs_RX7_182 : csV RX7 182 yX7_isDigit cX7_isDigit 2 (some .boolean) 1 = true := by decide +kernel
theorem fl_RX7_185 : Cond.fieldLink RX7 185 (TF 7 26).1 (TF 7 26).2.1 (TF 7 26).2.2.1 ∈ TB := tb_in (by decide +kernel) rfl
theorem cs_RX7_178 : csV RX7 178 yX7_isWord cX7_isWord 7 (some .boolean) 6 = true := by decide +kernel
def rm_X7_next : Room := { frames := 2, cells := 0, slots := 0, locals := 47 }
def f_X7_next_369 (fu : Nat) (x0 : Nat) (h : Hp) : Option (Unit × Hp) :=
  (gI h 7 x0 23).bind fun v371 =>
  (pI h 7 x0 23 (v371 + 1)).bind fun h376 =>
  some ((), h376)
set_option maxHeartbeats 4000000 in
set_option maxRecDepth 100000 in
theorem w_X7_next_369 {X : Cx} {D : Dx} (hE : En X D cX7_next 3 RX7 none rm_X7_next) {fu : Nat} (x0 : Nat) (h : Hp) {lv : List (Option Value)} (hlv : lvLe [some (.ref x0), none, none] lv) : Wo X D 3 (Qr X D 0 0 evU) 0 0 (f_X7_next_369 fu x0 h) 369 lv [] h := by
  refine Wo_sub hlv ?_
  unfold f_X7_next_369
  refine r_aload_n (pc := 369) hE dX7_next_369 rfl ?_
  refine r_aload_n (pc := 370) hE dX7_next_370 rfl ?_
  refine r_getI (pc := 371) hE 7 23 (by decide) (by decide) (fun _ _ _ => rfl) fl_RX7_162 dX7_next_371 (fun v371 _ => ?_)
  refine r_iconst (v := 1) (pc := 374) hE dX7_next_374 (by decide) ?_
  refine r_iadd (pc := 375) hE dX7_next_375 ?_
  refine r_putI (pc := 376) hE 7 23 (by decide) (by decide) (fun _ _ _ => rfl) fl_RX7_162 rfl rfl rfl dX7_next_376 (fun h376 _ => ?_)
  exact r_vret (pc := 379) hE dX7_next_379
def f_X7_next_261 (fu : Nat) (x0 : Nat) (x2 : Int32) (h : Hp) : Option (Unit × Hp) :=
  (gI h 7 x0 23).bind fun v263 =>
  (pI h 7 x0 23 (v263 + x2)).bind fun h268 =>
  some ((), h268)
set_option maxHeartbeats 4000000 in
set_option maxRecDepth 100000 in
theorem w_X7_next_261 {X : Cx} {D : Dx} (hE : En X D cX7_next 3 RX7 none rm_X7_next) {fu : Nat} (x0 : Nat) (x2 : Int32) (h : Hp) {lv : List (Option Value)} (hlv : lvLe [some (.ref x0), none, some (.int x2)] lv) : Wo X D 3 (Qr X D 0 0 evU) 0 0 (f_X7_next_261 fu x0 x2 h) 261 lv [] h := by
  refine Wo_sub hlv ?_
  unfold f_X7_next_261
  refine r_aload_n (pc := 261) hE dX7_next_261 rfl ?_
  refine r_aload_n (pc := 262) hE dX7_next_262 rfl ?_
  refine r_getI (pc := 263) hE 7 23 (by decide) (by decide) (fun _ _ _ => rfl) fl_RX7_162 dX7_next_263 (fun v263 _ => ?_)
  refine r_iload_n (pc := 266) hE dX7_next_266 rfl ?_
  refine r_iadd (pc := 267) hE dX7_next_267 ?_
  refine r_putI (pc := 268) hE 7 23 (by decide) (by decide) (fun _ _ _ => rfl) fl_RX7_162 rfl rfl rfl dX7_next_268 (fun h268 _ => ?_)
  refine r_goto (pc := 271) hE 379 dX7_next_271 (by decide) ?_
  exact r_vret (pc := 379) hE dX7_next_379
def f_X7_next_233 (fu : Nat) (x0 : Nat) (x2 : Int32) (h : Hp) : Option (Unit × Hp) :=
  if x2 = 4 then
    (f_X7_isWord fu x0 4 115 116 97 114 0 h).bind fun r249 =>
    if r249.1 = 0 then
      f_X7_next_261 fu x0 x2 r249.2
    else
      (pI r249.2 7 x0 25 7).bind fun h258 =>
      f_X7_next_261 fu x0 x2 h258
  else
    f_X7_next_261 fu x0 x2 h
set_option maxHeartbeats 4000000 in
set_option maxRecDepth 100000 in
theorem w_X7_next_233 {X : Cx} {D : Dx} (hE : En X D cX7_next 3 RX7 none rm_X7_next) {fu : Nat} (x0 : Nat) (x2 : Int32) (h : Hp) {lv : List (Option Value)} (hlv : lvLe [some (.ref x0), none, some (.int x2)] lv) : Wo X D 3 (Qr X D 0 0 evU) 0 0 (f_X7_next_233 fu x0 x2 h) 233 lv [] h := by
  refine Wo_sub hlv ?_
  unfold f_X7_next_233
  refine r_iload_n (pc := 233) hE dX7_next_233 rfl ?_
  refine r_iconst (v := 4) (pc := 234) hE dX7_next_234 (by decide) ?_
  refine r_icmp_ne (pc := 235) hE 261 dX7_next_235 (by decide) (fun _ => ?_) (fun _ => ?_)
  · exact w_X7_next_261 hE _ _ _ ⟨rfl, ⟨rfl, trivial⟩⟩
  · refine r_aload_n (pc := 238) hE dX7_next_238 rfl ?_
    refine r_iconst (v := 4) (pc := 239) hE dX7_next_239 (by decide) ?_
    refine r_bipush (v := 115) (pc := 240) hE dX7_next_240 (by decide) ?_
    refine r_bipush (v := 116) (pc := 242) hE dX7_next_242 (by decide) ?_
    refine r_bipush (v := 97) (pc := 244) hE dX7_next_244 (by decide) ?_
    refine r_bipush (v := 114) (pc := 246) hE dX7_next_246 (by decide) ?_
    refine r_iconst (v := 0) (pc := 248) hE dX7_next_248 (by decide) ?_
    refine r_callV (pc := 249) hE 7 (As := [.int 4, .int 115, .int 116, .int 97, .int 114, .int 0]) (fun out ho => c_X7_isWord _ _ fu _ _ _ _ _ _ _ _ out ho) (fun out ho => k_X7_isWord ho) (by decide) rfl cs_RX7_178 ⟨Nat.le_of_ble_eq_true rfl, Nat.le_of_ble_eq_true rfl, Nat.le_of_ble_eq_true rfl, Nat.le_of_ble_eq_true rfl⟩ (Nat.le_of_ble_eq_true rfl) rfl dX7_next_249 (fun r249 _ => ?_)
    refine r_if_eq (pc := 252) hE 261 dX7_next_252 (by decide) (fun _ => ?_) (fun _ => ?_)
    · exact w_X7_next_261 hE _ _ _ ⟨rfl, ⟨rfl, trivial⟩⟩
    · refine r_aload_n (pc := 255) hE dX7_next_255 rfl ?_
      refine r_bipush (v := 7) (pc := 256) hE dX7_next_256 (by decide) ?_
      refine r_putI (pc := 258) hE 7 25 (by decide) (by decide) (fun _ _ _ => rfl) fl_RX7_172 rfl rfl rfl dX7_next_258 (fun h258 _ => ?_)
      exact w_X7_next_261 hE _ _ _ ⟨rfl, ⟨rfl, trivial⟩⟩
def f_X7_next_204 (fu : Nat) (x0 : Nat) (x2 : Int32) (h : Hp) : Option (Unit × Hp) :=
  if x2 = 5 then
    (f_X7_isWord fu x0 5 115 119 101 108 108 h).bind fun r221 =>
    if r221.1 = 0 then
      f_X7_next_233 fu x0 x2 r221.2
    else
      (pI r221.2 7 x0 25 6).bind fun h230 =>
      f_X7_next_233 fu x0 x2 h230
  else
    f_X7_next_233 fu x0 x2 h
set_option maxHeartbeats 4000000 in
set_option maxRecDepth 100000 in
theorem w_X7_next_204 {X : Cx} {D : Dx} (hE : En X D cX7_next 3 RX7 none rm_X7_next) {fu : Nat} (x0 : Nat) (x2 : Int32) (h : Hp) {lv : List (Option Value)} (hlv : lvLe [some (.ref x0), none, some (.int x2)] lv) : Wo X D 3 (Qr X D 0 0 evU) 0 0 (f_X7_next_204 fu x0 x2 h) 204 lv [] h := by
  refine Wo_sub hlv ?_
  unfold f_X7_next_204
  refine r_iload_n (pc := 204) hE dX7_next_204 rfl ?_
  refine r_iconst (v := 5) (pc := 205) hE dX7_next_205 (by decide) ?_
  refine r_icmp_ne (pc := 206) hE 233 dX7_next_206 (by decide) (fun _ => ?_) (fun _ => ?_)
  · exact w_X7_next_233 hE _ _ _ ⟨rfl, ⟨rfl, trivial⟩⟩
  · refine r_aload_n (pc := 209) hE dX7_next_209 rfl ?_
    refine r_iconst (v := 5) (pc := 210) hE dX7_next_210 (by decide) ?_
    refine r_bipush (v := 115) (pc := 211) hE dX7_next_211 (by decide) ?_
    refine r_bipush (v := 119) (pc := 213) hE dX7_next_213 (by decide) ?_
    refine r_bipush (v := 101) (pc := 215) hE dX7_next_215 (by decide) ?_
    refine r_bipush (v := 108) (pc := 217) hE dX7_next_217 (by decide) ?_
    refine r_bipush (v := 108) (pc := 219) hE dX7_next_219 (by decide) ?_
    refine r_callV (pc := 221) hE 7 (As := [.int 5, .int 115, .int 119, .int 101, .int 108, .int 108]) (fun out ho => c_X7_isWord _ _ fu _ _ _ _ _ _ _ _ out ho) (fun out ho => k_X7_isWord ho) (by decide) rfl cs_RX7_178 ⟨Nat.le_of_ble_eq_true rfl, Nat.le_of_ble_eq_true rfl, Nat.le_of_ble_eq_true rfl, Nat.le_of_ble_eq_true rfl⟩ (Nat.le_of_ble_eq_true rfl) rfl dX7_next_221 (fun r221 _ => ?_)
    refine r_if_eq (pc := 224) hE 233 dX7_next_224 (by decide) (fun _ => ?_) (fun _ => ?_)
    · exact w_X7_next_233 hE _ _ _ ⟨rfl, ⟨rfl, trivial⟩⟩
    · refine r_aload_n (pc := 227) hE dX7_next_227 rfl ?_
      refine r_bipush (v := 6) (pc := 228) hE dX7_next_228 (by decide) ?_
      refine r_putI (pc := 230) hE 7 25 (by decide) (by decide) (fun _ _ _ => rfl) fl_RX7_172 rfl rfl rfl dX7_next_230 (fun h230 _ => ?_)
      exact w_X7_next_233 hE _ _ _ ⟨rfl, ⟨rfl, trivial⟩⟩
def f_X7_next_176 (fu : Nat) (x0 : Nat) (x2 : Int32) (h : Hp) : Option (Unit × Hp) :=
  if x2 = 5 then
    (f_X7_isWord fu x0 5 98 105 114 100 115 h).bind fun r193 =>
    if r193.1 = 0 then
      f_X7_next_204 fu x0 x2 r193.2
    else
      (pI r193.2 7 x0 25 5).bind fun h201 =>
      f_X7_next_204 fu x0 x2 h201
  else
    f_X7_next_204 fu x0 x2 h
set_option maxHeartbeats 4000000 in
set_option maxRecDepth 100000 in
theorem w_X7_next_176 {X : Cx} {D : Dx} (hE : En X D cX7_next 3 RX7 none rm_X7_next) {fu : Nat} (x0 : Nat) (x2 : Int32) (h : Hp) {lv : List (Option Value)} (hlv : lvLe [some (.ref x0), none, some (.int x2)] lv) : Wo X D 3 (Qr X D 0 0 evU) 0 0 (f_X7_next_176 fu x0 x2 h) 176 lv [] h := by
  refine Wo_sub hlv ?_
  unfold f_X7_next_176
  refine r_iload_n (pc := 176) hE dX7_next_176 rfl ?_
  refine r_iconst (v := 5) (pc := 177) hE dX7_next_177 (by decide) ?_
  refine r_icmp_ne (pc := 178) hE 204 dX7_next_178 (by decide) (fun _ => ?_) (fun _ => ?_)
  · exact w_X7_next_204 hE _ _ _ ⟨rfl, ⟨rfl, trivial⟩⟩
  · refine r_aload_n (pc := 181) hE dX7_next_181 rfl ?_
    refine r_iconst (v := 5) (pc := 182) hE dX7_next_182 (by decide) ?_
    refine r_bipush (v := 98) (pc := 183) hE dX7_next_183 (by decide) ?_
    refine r_bipush (v := 105) (pc := 185) hE dX7_next_185 (by decide) ?_
    refine r_bipush (v := 114) (pc := 187) hE dX7_next_187 (by decide) ?_
    refine r_bipush (v := 100) (pc := 189) hE dX7_next_189 (by decide) ?_
    refine r_bipush (v := 115) (pc := 191) hE dX7_next_191 (by decide) ?_
    refine r_callV (pc := 193) hE 7 (As := [.int 5, .int 98, .int 105, .int 114, .int 100, .int 115]) (fun out ho => c_X7_isWord _ _ fu _ _ _ _ _ _ _ _ out ho) (fun out ho => k_X7_isWord ho) (by decide) rfl cs_RX7_178 ⟨Nat.le_of_ble_eq_true rfl, Nat.le_of_ble_eq_true rfl, Nat.le_of_ble_eq_true rfl, Nat.le_of_ble_eq_true rfl⟩ (Nat.le_of_ble_eq_true rfl) rfl dX7_next_193 (fun r193 _ => ?_)
    refine r_if_eq (pc := 196) hE 204 dX7_next_196 (by decide) (fun _ => ?_) (fun _ => ?_)
    · exact w_X7_next_204 hE _ _ _ ⟨rfl, ⟨rfl, trivial⟩⟩
    · refine r_aload_n (pc := 199) hE dX7_next_199 rfl ?_
      refine r_iconst (v := 5) (pc := 200) hE dX7_next_200 (by decide) ?_
      refine r_putI (pc := 201) hE 7 25 (by decide) (by decide) (fun _ _ _ => rfl) fl_RX7_172 rfl rfl rfl dX7_next_201 (fun h201 _ => ?_)
      exact w_X7_next_204 hE _ _ _ ⟨rfl, ⟨rfl, trivial⟩⟩
def f_X7_next_150 (fu : Nat) (x0 : Nat) (x2 : Int32) (h : Hp) : Option (Unit × Hp) :=
  if x2 = 3 then
    (f_X7_isWord fu x0 3 102 111 114 0 0 h).bind fun r165 =>
    if r165.1 = 0 then
      f_X7_next_176 fu x0 x2 r165.2
    else
      (pI r165.2 7 x0 25 4).bind fun h173 =>
      f_X7_next_176 fu x0 x2 h173
  else
    f_X7_next_176 fu x0 x2 h
set_option maxHeartbeats 4000000 in
set_option maxRecDepth 100000 in
theorem w_X7_next_150 {X : Cx} {D : Dx} (hE : En X D cX7_next 3 RX7 none rm_X7_next) {fu : Nat} (x0 : Nat) (x2 : Int32) (h : Hp) {lv : List (Option Value)} (hlv : lvLe [some (.ref x0), none, some (.int x2)] lv) : Wo X D 3 (Qr X D 0 0 evU) 0 0 (f_X7_next_150 fu x0 x2 h) 150 lv [] h := by
  refine Wo_sub hlv ?_
  unfold f_X7_next_150
  refine r_iload_n (pc := 150) hE dX7_next_150 rfl ?_
  refine r_iconst (v := 3) (pc := 151) hE dX7_next_151 (by decide) ?_
  refine r_icmp_ne (pc := 152) hE 176 dX7_next_152 (by decide) (fun _ => ?_) (fun _ => ?_)
  · exact w_X7_next_176 hE _ _ _ ⟨rfl, ⟨rfl, trivial⟩⟩
  · refine r_aload_n (pc := 155) hE dX7_next_155 rfl ?_
    refine r_iconst (v := 3) (pc := 156) hE dX7_next_156 (by decide) ?_
    refine r_bipush (v := 102) (pc := 157) hE dX7_next_157 (by decide) ?_
    refine r_bipush (v := 111) (pc := 159) hE dX7_next_159 (by decide) ?_
    refine r_bipush (v := 114) (pc := 161) hE dX7_next_161 (by decide) ?_
    refine r_iconst (v := 0) (pc := 163) hE dX7_next_163 (by decide) ?_
    refine r_iconst (v := 0) (pc := 164) hE dX7_next_164 (by decide) ?_
    refine r_callV (pc := 165) hE 7 (As := [.int 3, .int 102, .int 111, .int 114, .int 0, .int 0]) (fun out ho => c_X7_isWord _ _ fu _ _ _ _ _ _ _ _ out ho) (fun out ho => k_X7_isWord ho) (by decide) rfl cs_RX7_178 ⟨Nat.le_of_ble_eq_true rfl, Nat.le_of_ble_eq_true rfl, Nat.le_of_ble_eq_true rfl, Nat.le_of_ble_eq_true rfl⟩ (Nat.le_of_ble_eq_true rfl) rfl dX7_next_165 (fun r165 _ => ?_)
    refine r_if_eq (pc := 168) hE 176 dX7_next_168 (by decide) (fun _ => ?_) (fun _ => ?_)
    · exact w_X7_next_176 hE _ _ _ ⟨rfl, ⟨rfl, trivial⟩⟩
    · refine r_aload_n (pc := 171) hE dX7_next_171 rfl ?_
      refine r_iconst (v := 4) (pc := 172) hE dX7_next_172 (by decide) ?_
      refine r_putI (pc := 173) hE 7 25 (by decide) (by decide) (fun _ _ _ => rfl) fl_RX7_172 rfl rfl rfl dX7_next_173 (fun h173 _ => ?_)
      exact w_X7_next_176 hE _ _ _ ⟨rfl, ⟨rfl, trivial⟩⟩
def f_X7_next_122 (fu : Nat) (x0 : Nat) (x2 : Int32) (h : Hp) : Option (Unit × Hp) :=
  if x2 = 5 then
    (f_X7_isWord fu x0 5 117 110 116 105 108 h).bind fun r139 =>
    if r139.1 = 0 then
      f_X7_next_150 fu x0 x2 r139.2
    else
      (pI r139.2 7 x0 25 3).bind fun h147 =>
      f_X7_next_150 fu x0 x2 h147
  else
    f_X7_next_150 fu x0 x2 h
set_option maxHeartbeats 4000000 in
set_option maxRecDepth 100000 in
theorem w_X7_next_122 {X : Cx} {D : Dx} (hE : En X D cX7_next 3 RX7 none rm_X7_next) {fu : Nat} (x0 : Nat) (x2 : Int32) (h : Hp) {lv : List (Option Value)} (hlv : lvLe [some (.ref x0), none, some (.int x2)] lv) : Wo X D 3 (Qr X D 0 0 evU) 0 0 (f_X7_next_122 fu x0 x2 h) 122 lv [] h := by
  refine Wo_sub hlv ?_
  unfold f_X7_next_122
  refine r_iload_n (pc := 122) hE dX7_next_122 rfl ?_
  refine r_iconst (v := 5) (pc := 123) hE dX7_next_123 (by decide) ?_
  refine r_icmp_ne (pc := 124) hE 150 dX7_next_124 (by decide) (fun _ => ?_) (fun _ => ?_)
  · exact w_X7_next_150 hE _ _ _ ⟨rfl, ⟨rfl, trivial⟩⟩
  · refine r_aload_n (pc := 127) hE dX7_next_127 rfl ?_
    refine r_iconst (v := 5) (pc := 128) hE dX7_next_128 (by decide) ?_
    refine r_bipush (v := 117) (pc := 129) hE dX7_next_129 (by decide) ?_
    refine r_bipush (v := 110) (pc := 131) hE dX7_next_131 (by decide) ?_
    refine r_bipush (v := 116) (pc := 133) hE dX7_next_133 (by decide) ?_
    refine r_bipush (v := 105) (pc := 135) hE dX7_next_135 (by decide) ?_
    refine r_bipush (v := 108) (pc := 137) hE dX7_next_137 (by decide) ?_
    refine r_callV (pc := 139) hE 7 (As := [.int 5, .int 117, .int 110, .int 116, .int 105, .int 108]) (fun out ho => c_X7_isWord _ _ fu _ _ _ _ _ _ _ _ out ho) (fun out ho => k_X7_isWord ho) (by decide) rfl cs_RX7_178 ⟨Nat.le_of_ble_eq_true rfl, Nat.le_of_ble_eq_true rfl, Nat.le_of_ble_eq_true rfl, Nat.le_of_ble_eq_true rfl⟩ (Nat.le_of_ble_eq_true rfl) rfl dX7_next_139 (fun r139 _ => ?_)
    refine r_if_eq (pc := 142) hE 150 dX7_next_142 (by decide) (fun _ => ?_) (fun _ => ?_)
    · exact w_X7_next_150 hE _ _ _ ⟨rfl, ⟨rfl, trivial⟩⟩
    · refine r_aload_n (pc := 145) hE dX7_next_145 rfl ?_
      refine r_iconst (v := 3) (pc := 146) hE dX7_next_146 (by decide) ?_
      refine r_putI (pc := 147) hE 7 25 (by decide) (by decide) (fun _ _ _ => rfl) fl_RX7_172 rfl rfl rfl dX7_next_147 (fun h147 _ => ?_)
      exact w_X7_next_150 hE _ _ _ ⟨rfl, ⟨rfl, trivial⟩⟩
def f_X7_next_75 (fu : Nat) : Nat → Nat → Int32 → Hp → Option (Unit × Hp)
  | 0, _, _, _ => none
  | n + 1, x0, x2, h =>
    (f_X7_raw fu x0 x2 h).bind fun r78 =>
    (f_X7_isLetter fu x0 r78.1 r78.2).bind fun r81 =>
    if r81.1 = 0 then
      if x2 = 5 then
        (f_X7_isWord fu x0 5 115 116 101 101 114 r81.2).bind fun r111 =>
        if r111.1 = 0 then
          f_X7_next_122 fu x0 x2 r111.2
        else
          (pI r111.2 7 x0 25 2).bind fun h119 =>
          f_X7_next_122 fu x0 x2 h119
      else
        f_X7_next_122 fu x0 x2 r81.2
    else
      f_X7_next_75 fu n x0 ((x2 + 1)) r81.2
set_option maxHeartbeats 4000000 in
set_option maxRecDepth 100000 in
theorem w_X7_next_75 {X : Cx} {D : Dx} (hE : En X D cX7_next 3 RX7 none rm_X7_next) {fu : Nat} : ∀ (n : Nat) (x0 : Nat) (x2 : Int32) (h : Hp) (lv : List (Option Value)), lvLe [some (.ref x0), none, some (.int x2)] lv → Wo X D 3 (Qr X D 0 0 evU) 0 0 (f_X7_next_75 fu n x0 x2 h) 75 lv [] h := by
  intro n
  induction n with
  | zero => intros; exact Wo_none
  | succ n ih =>
    intro x0 x2 h lv hlv
    refine Wo_sub hlv ?_
    rw [f_X7_next_75]
    refine r_aload_n (pc := 75) hE dX7_next_75 rfl ?_
    refine r_aload_n (pc := 76) hE dX7_next_76 rfl ?_
    refine r_iload_n (pc := 77) hE dX7_next_77 rfl ?_
    refine r_callV (pc := 78) hE 7 (As := [.int x2]) (fun out ho => c_X7_raw _ _ fu _ _ _ out ho) (fun out ho => k_X7_raw ho) (by decide) rfl cs_RX7_165 ⟨Nat.le_of_ble_eq_true rfl, Nat.le_of_ble_eq_true rfl, Nat.le_of_ble_eq_true rfl, Nat.le_of_ble_eq_true rfl⟩ (Nat.le_of_ble_eq_true rfl) rfl dX7_next_78 (fun r78 _ => ?_)
    refine r_callV (pc := 81) hE 7 (As := [.int r78.1]) (fun out ho => c_X7_isLetter _ _ fu _ _ _ out ho) (fun out ho => k_X7_isLetter ho) (by decide) rfl cs_RX7_175 ⟨Nat.le_of_ble_eq_true rfl, Nat.le_of_ble_eq_true rfl, Nat.le_of_ble_eq_true rfl, Nat.le_of_ble_eq_true rfl⟩ (Nat.le_of_ble_eq_true rfl) rfl dX7_next_81 (fun r81 _ => ?_)
    refine r_if_eq (pc := 84) hE 94 dX7_next_84 (by decide) (fun _ => ?_) (fun _ => ?_)
    · refine r_iload_n (pc := 94) hE dX7_next_94 rfl ?_
      refine r_iconst (v := 5) (pc := 95) hE dX7_next_95 (by decide) ?_
      refine r_icmp_ne (pc := 96) hE 122 dX7_next_96 (by decide) (fun _ => ?_) (fun _ => ?_)
      · exact w_X7_next_122 hE _ _ _ ⟨rfl, ⟨rfl, trivial⟩⟩
      · refine r_aload_n (pc := 99) hE dX7_next_99 rfl ?_
        refine r_iconst (v := 5) (pc := 100) hE dX7_next_100 (by decide) ?_
        refine r_bipush (v := 115) (pc := 101) hE dX7_next_101 (by decide) ?_
        refine r_bipush (v := 116) (pc := 103) hE dX7_next_103 (by decide) ?_
        refine r_bipush (v := 101) (pc := 105) hE dX7_next_105 (by decide) ?_
        refine r_bipush (v := 101) (pc := 107) hE dX7_next_107 (by decide) ?_
        refine r_bipush (v := 114) (pc := 109) hE dX7_next_109 (by decide) ?_
        refine r_callV (pc := 111) hE 7 (As := [.int 5, .int 115, .int 116, .int 101, .int 101, .int 114]) (fun out ho => c_X7_isWord _ _ fu _ _ _ _ _ _ _ _ out ho) (fun out ho => k_X7_isWord ho) (by decide) rfl cs_RX7_178 ⟨Nat.le_of_ble_eq_true rfl, Nat.le_of_ble_eq_true rfl, Nat.le_of_ble_eq_true rfl, Nat.le_of_ble_eq_true rfl⟩ (Nat.le_of_ble_eq_true rfl) rfl dX7_next_111 (fun r111 _ => ?_)
        refine r_if_eq (pc := 114) hE 122 dX7_next_114 (by decide) (fun _ => ?_) (fun _ => ?_)
        · exact w_X7_next_122 hE _ _ _ ⟨rfl, ⟨rfl, trivial⟩⟩
        · refine r_aload_n (pc := 117) hE dX7_next_117 rfl ?_
          refine r_iconst (v := 2) (pc := 118) hE dX7_next_118 (by decide) ?_
          refine r_putI (pc := 119) hE 7 25 (by decide) (by decide) (fun _ _ _ => rfl) fl_RX7_172 rfl rfl rfl dX7_next_119 (fun h119 _ => ?_)
          exact w_X7_next_122 hE _ _ _ ⟨rfl, ⟨rfl, trivial⟩⟩
    · refine r_iload_n (pc := 87) hE dX7_next_87 rfl ?_
      refine r_iconst (v := 1) (pc := 88) hE dX7_next_88 (by decide) ?_
      refine r_iadd (pc := 89) hE dX7_next_89 ?_
      refine r_istore_n (pc := 90) hE dX7_next_90 (by decide) ?_
      refine r_goto (pc := 91) hE 75 dX7_next_91 (by decide) ?_
      exact ih _ _ _ _ ⟨rfl, ⟨rfl, trivial⟩⟩
def f_X7_next_20 (fu : Nat) (k0 : Nat → Hp → Option (Unit × Hp)) (x0 : Nat) (h : Hp) : Option (Unit × Hp) :=
  (gI h 7 x0 23).bind fun v22 =>
  (pI h 7 x0 23 (v22 + 1)).bind fun h27 =>
  k0 x0 h27
set_option maxHeartbeats 4000000 in
set_option maxRecDepth 100000 in
theorem w_X7_next_20 {X : Cx} {D : Dx} (hE : En X D cX7_next 3 RX7 none rm_X7_next) {fu : Nat} {k0 : Nat → Hp → Option (Unit × Hp)} (hk0 : ∀ (x0 : Nat) (h : Hp) (lv : List (Option Value)), lvLe [some (.ref x0), none, none] lv → Wo X D 3 (Qr X D 0 0 evU) 0 0 (k0 x0 h) 0 lv [] h) (x0 : Nat) (h : Hp) {lv : List (Option Value)} (hlv : lvLe [some (.ref x0), none, none] lv) : Wo X D 3 (Qr X D 0 0 evU) 0 0 (f_X7_next_20 fu k0 x0 h) 20 lv [] h := by
  refine Wo_sub hlv ?_
  unfold f_X7_next_20
  refine r_aload_n (pc := 20) hE dX7_next_20 rfl ?_
  refine r_aload_n (pc := 21) hE dX7_next_21 rfl ?_
  refine r_getI (pc := 22) hE 7 23 (by decide) (by decide) (fun _ _ _ => rfl) fl_RX7_162 dX7_next_22 (fun v22 _ => ?_)
  refine r_iconst (v := 1) (pc := 25) hE dX7_next_25 (by decide) ?_
  refine r_iadd (pc := 26) hE dX7_next_26 ?_
  refine r_putI (pc := 27) hE 7 23 (by decide) (by decide) (fun _ _ _ => rfl) fl_RX7_162 rfl rfl rfl dX7_next_27 (fun h27 _ => ?_)
  refine r_goto (pc := 30) hE 0 dX7_next_30 (by decide) ?_
  exact hk0 _ _ _ ⟨rfl, trivial⟩
def f_X7_next_354 (fu : Nat) (h : Hp) : Option (Unit × Hp) :=
  some ((), h)
set_option maxHeartbeats 4000000 in
set_option maxRecDepth 100000 in
theorem w_X7_next_354 {X : Cx} {D : Dx} (hE : En X D cX7_next 3 RX7 none rm_X7_next) {fu : Nat} (h : Hp) {lv : List (Option Value)} (hlv : lvLe [none, none, none] lv) : Wo X D 3 (Qr X D 0 0 evU) 0 0 (f_X7_next_354 fu  h) 354 lv [] h := by
  refine Wo_sub hlv ?_
  unfold f_X7_next_354
  refine r_goto (pc := 354) hE 379 dX7_next_354 (by decide) ?_
  exact r_vret (pc := 379) hE dX7_next_379
def f_X7_next_326 (fu : Nat) (k289 : Nat → Int32 → Hp → Option (Unit × Hp)) (x0 : Nat) (x2 : Int32) (h : Hp) : Option (Unit × Hp) :=
  (gI h 7 x0 23).bind fun v332 =>
  (pI h 7 x0 23 (v332 + 1)).bind fun h337 =>
  k289 x0 ((x2 + 1)) h337
set_option maxHeartbeats 4000000 in
set_option maxRecDepth 100000 in
theorem w_X7_next_326 {X : Cx} {D : Dx} (hE : En X D cX7_next 3 RX7 none rm_X7_next) {fu : Nat} {k289 : Nat → Int32 → Hp → Option (Unit × Hp)} (hk289 : ∀ (x0 : Nat) (x2 : Int32) (h : Hp) (lv : List (Option Value)), lvLe [some (.ref x0), none, some (.int x2)] lv → Wo X D 3 (Qr X D 0 0 evU) 0 0 (k289 x0 x2 h) 289 lv [] h) (x0 : Nat) (x2 : Int32) (h : Hp) {lv : List (Option Value)} (hlv : lvLe [some (.ref x0), none, some (.int x2)] lv) : Wo X D 3 (Qr X D 0 0 evU) 0 0 (f_X7_next_326 fu k289 x0 x2 h) 326 lv [] h := by
  refine Wo_sub hlv ?_
  unfold f_X7_next_326
  refine r_iload_n (pc := 326) hE dX7_next_326 rfl ?_
  refine r_iconst (v := 1) (pc := 327) hE dX7_next_327 (by decide) ?_
  refine r_iadd (pc := 328) hE dX7_next_328 ?_
  refine r_istore_n (pc := 329) hE dX7_next_329 (by decide) ?_
  refine r_aload_n (pc := 330) hE dX7_next_330 rfl ?_
  refine r_aload_n (pc := 331) hE dX7_next_331 rfl ?_
  refine r_getI (pc := 332) hE 7 23 (by decide) (by decide) (fun _ _ _ => rfl) fl_RX7_162 dX7_next_332 (fun v332 _ => ?_)
  refine r_iconst (v := 1) (pc := 335) hE dX7_next_335 (by decide) ?_
  refine r_iadd (pc := 336) hE dX7_next_336 ?_
  refine r_putI (pc := 337) hE 7 23 (by decide) (by decide) (fun _ _ _ => rfl) fl_RX7_162 rfl rfl rfl dX7_next_337 (fun h337 _ => ?_)
  refine r_goto (pc := 340) hE 289 dX7_next_340 (by decide) ?_
  exact hk289 _ _ _ _ ⟨rfl, ⟨rfl, trivial⟩⟩
def f_X7_next_289 (fu : Nat) : Nat → Nat → Int32 → Hp → Option (Unit × Hp)
  | 0, _, _, _ => none
  | n + 1, x0, x2, h =>
    (f_X7_raw fu x0 0 h).bind fun r292 =>
    (f_X7_isDigit fu x0 r292.1 r292.2).bind fun r295 =>
    if r295.1 = 0 then
      if 3 ≤ x2 then
        f_X7_next_354 fu r295.2
      else
        (pI r295.2 7 x0 25 8).bind fun h351 =>
        f_X7_next_354 fu h351
    else
      if 2 ≤ x2 then
        f_X7_next_326 fu (fun y0 y1 hy => f_X7_next_289 fu n y0 y1 hy) x0 x2 r295.2
      else
        (gI r295.2 7 x0 26).bind fun v310 =>
        (f_X7_raw fu x0 0 r295.2).bind fun r316 =>
        (pI r316.2 7 x0 26 (((10 * v310) + r316.1) - 48)).bind fun h323 =>
        f_X7_next_326 fu (fun y0 y1 hy => f_X7_next_289 fu n y0 y1 hy) x0 x2 h323
set_option maxHeartbeats 4000000 in
set_option maxRecDepth 100000 in
theorem w_X7_next_289 {X : Cx} {D : Dx} (hE : En X D cX7_next 3 RX7 none rm_X7_next) {fu : Nat} : ∀ (n : Nat) (x0 : Nat) (x2 : Int32) (h : Hp) (lv : List (Option Value)), lvLe [some (.ref x0), none, some (.int x2)] lv → Wo X D 3 (Qr X D 0 0 evU) 0 0 (f_X7_next_289 fu n x0 x2 h) 289 lv [] h := by
  intro n
  induction n with
  | zero => intros; exact Wo_none
  | succ n ih =>
    intro x0 x2 h lv hlv
    refine Wo_sub hlv ?_
    rw [f_X7_next_289]
    refine r_aload_n (pc := 289) hE dX7_next_289 rfl ?_
    refine r_aload_n (pc := 290) hE dX7_next_290 rfl ?_
    refine r_iconst (v := 0) (pc := 291) hE dX7_next_291 (by decide) ?_
    refine r_callV (pc := 292) hE 7 (As := [.int 0]) (fun out ho => c_X7_raw _ _ fu _ _ _ out ho) (fun out ho => k_X7_raw ho) (by decide) rfl cs_RX7_165 ⟨Nat.le_of_ble_eq_true rfl, Nat.le_of_ble_eq_true rfl, Nat.le_of_ble_eq_true rfl, Nat.le_of_ble_eq_true rfl⟩ (Nat.le_of_ble_eq_true rfl) rfl dX7_next_292 (fun r292 _ => ?_)
    refine r_callV (pc := 295) hE 7 (As := [.int r292.1]) (fun out ho => c_X7_isDigit _ _ fu _ _ _ out ho) (fun out ho => k_X7_isDigit ho) (by decide) rfl cs_RX7_182 ⟨Nat.le_of_ble_eq_true rfl, Nat.le_of_ble_eq_true rfl, Nat.le_of_ble_eq_true rfl, Nat.le_of_ble_eq_true rfl⟩ (Nat.le_of_ble_eq_true rfl) rfl dX7_next_295 (fun r295 _ => ?_)
    refine r_if_eq (pc := 298) hE 343 dX7_next_298 (by decide) (fun _ => ?_) (fun _ => ?_)
    · refine r_iload_n (pc := 343) hE dX7_next_343 rfl ?_
      refine r_iconst (v := 3) (pc := 344) hE dX7_next_344 (by decide) ?_
      refine r_icmp_ge (pc := 345) hE 354 dX7_next_345 (by decide) (fun _ => ?_) (fun _ => ?_)
      · exact w_X7_next_354 hE  _ trivial
      · refine r_aload_n (pc := 348) hE dX7_next_348 rfl ?_
        refine r_bipush (v := 8) (pc := 349) hE dX7_next_349 (by decide) ?_
        refine r_putI (pc := 351) hE 7 25 (by decide) (by decide) (fun _ _ _ => rfl) fl_RX7_172 rfl rfl rfl dX7_next_351 (fun h351 _ => ?_)
        exact w_X7_next_354 hE  _ trivial
    · refine r_iload_n (pc := 301) hE dX7_next_301 rfl ?_
      refine r_iconst (v := 2) (pc := 302) hE dX7_next_302 (by decide) ?_
      refine r_icmp_ge (pc := 303) hE 326 dX7_next_303 (by decide) (fun _ => ?_) (fun _ => ?_)
      · exact w_X7_next_326 hE (fun y0 y1 hy lvy hly => ih y0 y1 hy lvy hly) _ _ _ ⟨rfl, ⟨rfl, trivial⟩⟩
      · refine r_aload_n (pc := 306) hE dX7_next_306 rfl ?_
        refine r_bipush (v := 10) (pc := 307) hE dX7_next_307 (by decide) ?_
        refine r_aload_n (pc := 309) hE dX7_next_309 rfl ?_
        refine r_getI (pc := 310) hE 7 26 (by decide) (by decide) (fun _ _ _ => rfl) fl_RX7_185 dX7_next_310 (fun v310 _ => ?_)
        refine r_imul (pc := 313) hE dX7_next_313 ?_
        refine r_aload_n (pc := 314) hE dX7_next_314 rfl ?_
        refine r_iconst (v := 0) (pc := 315) hE dX7_next_315 (by decide) ?_
        refine r_callV (pc := 316) hE 7 (As := [.int 0]) (fun out ho => c_X7_raw _ _ fu _ _ _ out ho) (fun out ho => k_X7_raw ho) (by decide) rfl cs_RX7_165 ⟨Nat.le_of_ble_eq_true rfl, Nat.le_of_ble_eq_true rfl, Nat.le_of_ble_eq_true rfl, Nat.le_of_ble_eq_true rfl⟩ (Nat.le_of_ble_eq_true rfl) rfl dX7_next_316 (fun r316 _ => ?_)
        refine r_iadd (pc := 319) hE dX7_next_319 ?_
        refine r_bipush (v := 48) (pc := 320) hE dX7_next_320 (by decide) ?_
        refine r_isub (pc := 322) hE dX7_next_322 ?_
        refine r_putI (pc := 323) hE 7 26 (by decide) (by decide) (fun _ _ _ => rfl) fl_RX7_185 rfl rfl rfl dX7_next_323 (fun h323 _ => ?_)
        exact w_X7_next_326 hE (fun y0 y1 hy lvy hly => ih y0 y1 hy lvy hly) _ _ _ ⟨rfl, ⟨rfl, trivial⟩⟩
def f_X7_next_0 (fu : Nat) : Nat → Nat → Hp → Option (Unit × Hp)
  | 0, _, _ => none
  | n + 1, x0, h =>
    (f_X7_raw fu x0 0 h).bind fun r2 =>
    if r2.1 = 32 then
      f_X7_next_20 fu (fun y0 hy => f_X7_next_0 fu n y0 hy) x0 r2.2
    else
      (f_X7_raw fu x0 0 r2.2).bind fun r12 =>
      if r12.1 = 10 then
        f_X7_next_20 fu (fun y0 hy => f_X7_next_0 fu n y0 hy) x0 r12.2
      else
        (gI r12.2 7 x0 23).bind fun v35 =>
        (pI r12.2 7 x0 24 v35).bind fun h38 =>
        (pI h38 7 x0 25 1).bind fun h43 =>
        (f_X7_raw fu x0 0 h43).bind fun r48 =>
        if r48.1 = (-1) then
          (pI r48.2 7 x0 25 0).bind fun h59 =>
          some ((), h59)
        else
          (f_X7_isLetter fu x0 r48.1 r48.2).bind fun r67 =>
          if r67.1 = 0 then
            (f_X7_isDigit fu x0 r48.1 r67.2).bind fun r276 =>
            if r276.1 = 0 then
              if r48.1 = 59 then
                (pI r276.2 7 x0 25 9).bind fun h366 =>
                f_X7_next_369 fu x0 h366
              else
                f_X7_next_369 fu x0 r276.2
            else
              (pI r276.2 7 x0 26 0).bind fun h286 =>
              f_X7_next_289 fu fu x0 0 h286
          else
            f_X7_next_75 fu fu x0 0 r67.2
set_option maxHeartbeats 4000000 in
set_option maxRecDepth 100000 in
theorem w_X7_next_0 {X : Cx} {D : Dx} (hE : En X D cX7_next 3 RX7 none rm_X7_next) {fu : Nat} : ∀ (n : Nat) (x0 : Nat) (h : Hp) (lv : List (Option Value)), lvLe [some (.ref x0), none, none] lv → Wo X D 3 (Qr X D 0 0 evU) 0 0 (f_X7_next_0 fu n x0 h) 0 lv [] h := by
  intro n
  induction n with
  | zero => intros; exact Wo_none
  | succ n ih =>
    intro x0 h lv hlv
    refine Wo_sub hlv ?_
    rw [f_X7_next_0]
    refine r_aload_n (pc := 0) hE dX7_next_0 rfl ?_
    refine r_iconst (v := 0) (pc := 1) hE dX7_next_1 (by decide) ?_
    refine r_callV (pc := 2) hE 7 (As := [.int 0]) (fun out ho => c_X7_raw _ _ fu _ _ _ out ho) (fun out ho => k_X7_raw ho) (by decide) rfl cs_RX7_165 ⟨Nat.le_of_ble_eq_true rfl, Nat.le_of_ble_eq_true rfl, Nat.le_of_ble_eq_true rfl, Nat.le_of_ble_eq_true rfl⟩ (Nat.le_of_ble_eq_true rfl) rfl dX7_next_2 (fun r2 _ => ?_)
    refine r_bipush (v := 32) (pc := 5) hE dX7_next_5 (by decide) ?_
    refine r_icmp_eq (pc := 7) hE 20 dX7_next_7 (by decide) (fun _ => ?_) (fun _ => ?_)
    · exact w_X7_next_20 hE (fun y0 hy lvy hly => ih y0 hy lvy hly) _ _ ⟨rfl, trivial⟩
    · refine r_aload_n (pc := 10) hE dX7_next_10 rfl ?_
      refine r_iconst (v := 0) (pc := 11) hE dX7_next_11 (by decide) ?_
      refine r_callV (pc := 12) hE 7 (As := [.int 0]) (fun out ho => c_X7_raw _ _ fu _ _ _ out ho) (fun out ho => k_X7_raw ho) (by decide) rfl cs_RX7_165 ⟨Nat.le_of_ble_eq_true rfl, Nat.le_of_ble_eq_true rfl, Nat.le_of_ble_eq_true rfl, Nat.le_of_ble_eq_true rfl⟩ (Nat.le_of_ble_eq_true rfl) rfl dX7_next_12 (fun r12 _ => ?_)
      refine r_bipush (v := 10) (pc := 15) hE dX7_next_15 (by decide) ?_
      refine r_icmp_ne (pc := 17) hE 33 dX7_next_17 (by decide) (fun _ => ?_) (fun _ => ?_)
      · refine r_aload_n (pc := 33) hE dX7_next_33 rfl ?_
        refine r_aload_n (pc := 34) hE dX7_next_34 rfl ?_
        refine r_getI (pc := 35) hE 7 23 (by decide) (by decide) (fun _ _ _ => rfl) fl_RX7_162 dX7_next_35 (fun v35 _ => ?_)
        refine r_putI (pc := 38) hE 7 24 (by decide) (by decide) (fun _ _ _ => rfl) fl_RX7_169 rfl rfl rfl dX7_next_38 (fun h38 _ => ?_)
        refine r_aload_n (pc := 41) hE dX7_next_41 rfl ?_
        refine r_iconst (v := 1) (pc := 42) hE dX7_next_42 (by decide) ?_
        refine r_putI (pc := 43) hE 7 25 (by decide) (by decide) (fun _ _ _ => rfl) fl_RX7_172 rfl rfl rfl dX7_next_43 (fun h43 _ => ?_)
        refine r_aload_n (pc := 46) hE dX7_next_46 rfl ?_
        refine r_iconst (v := 0) (pc := 47) hE dX7_next_47 (by decide) ?_
        refine r_callV (pc := 48) hE 7 (As := [.int 0]) (fun out ho => c_X7_raw _ _ fu _ _ _ out ho) (fun out ho => k_X7_raw ho) (by decide) rfl cs_RX7_165 ⟨Nat.le_of_ble_eq_true rfl, Nat.le_of_ble_eq_true rfl, Nat.le_of_ble_eq_true rfl, Nat.le_of_ble_eq_true rfl⟩ (Nat.le_of_ble_eq_true rfl) rfl dX7_next_48 (fun r48 _ => ?_)
        refine r_istore_n (pc := 51) hE dX7_next_51 (by decide) ?_
        refine r_iload_n (pc := 52) hE dX7_next_52 rfl ?_
        refine r_iconst (v := -1) (pc := 53) hE dX7_next_53 (by decide) ?_
        refine r_icmp_ne (pc := 54) hE 65 dX7_next_54 (by decide) (fun _ => ?_) (fun _ => ?_)
        · refine r_aload_n (pc := 65) hE dX7_next_65 rfl ?_
          refine r_iload_n (pc := 66) hE dX7_next_66 rfl ?_
          refine r_callV (pc := 67) hE 7 (As := [.int r48.1]) (fun out ho => c_X7_isLetter _ _ fu _ _ _ out ho) (fun out ho => k_X7_isLetter ho) (by decide) rfl cs_RX7_175 ⟨Nat.le_of_ble_eq_true rfl, Nat.le_of_ble_eq_true rfl, Nat.le_of_ble_eq_true rfl, Nat.le_of_ble_eq_true rfl⟩ (Nat.le_of_ble_eq_true rfl) rfl dX7_next_67 (fun r67 _ => ?_)
          refine r_if_eq (pc := 70) hE 274 dX7_next_70 (by decide) (fun _ => ?_) (fun _ => ?_)
          · refine r_aload_n (pc := 274) hE dX7_next_274 rfl ?_
            refine r_iload_n (pc := 275) hE dX7_next_275 rfl ?_
            refine r_callV (pc := 276) hE 7 (As := [.int r48.1]) (fun out ho => c_X7_isDigit _ _ fu _ _ _ out ho) (fun out ho => k_X7_isDigit ho) (by decide) rfl cs_RX7_182 ⟨Nat.le_of_ble_eq_true rfl, Nat.le_of_ble_eq_true rfl, Nat.le_of_ble_eq_true rfl, Nat.le_of_ble_eq_true rfl⟩ (Nat.le_of_ble_eq_true rfl) rfl dX7_next_276 (fun r276 _ => ?_)
            refine r_if_eq (pc := 279) hE 357 dX7_next_279 (by decide) (fun _ => ?_) (fun _ => ?_)
            · refine r_iload_n (pc := 357) hE dX7_next_357 rfl ?_
              refine r_bipush (v := 59) (pc := 358) hE dX7_next_358 (by decide) ?_
              refine r_icmp_ne (pc := 360) hE 369 dX7_next_360 (by decide) (fun _ => ?_) (fun _ => ?_)
              · exact w_X7_next_369 hE _ _ ⟨rfl, trivial⟩
              · refine r_aload_n (pc := 363) hE dX7_next_363 rfl ?_
                refine r_bipush (v := 9) (pc := 364) hE dX7_next_364 (by decide) ?_
                refine r_putI (pc := 366) hE 7 25 (by decide) (by decide) (fun _ _ _ => rfl) fl_RX7_172 rfl rfl rfl dX7_next_366 (fun h366 _ => ?_)
                exact w_X7_next_369 hE _ _ ⟨rfl, trivial⟩
            · refine r_iconst (v := 0) (pc := 282) hE dX7_next_282 (by decide) ?_
              refine r_istore_n (pc := 283) hE dX7_next_283 (by decide) ?_
              refine r_aload_n (pc := 284) hE dX7_next_284 rfl ?_
              refine r_iconst (v := 0) (pc := 285) hE dX7_next_285 (by decide) ?_
              refine r_putI (pc := 286) hE 7 26 (by decide) (by decide) (fun _ _ _ => rfl) fl_RX7_185 rfl rfl rfl dX7_next_286 (fun h286 _ => ?_)
              exact w_X7_next_289 hE fu _ _ _ _ ⟨rfl, ⟨rfl, trivial⟩⟩
          · refine r_iconst (v := 0) (pc := 73) hE dX7_next_73 (by decide) ?_
            refine r_istore_n (pc := 74) hE dX7_next_74 (by decide) ?_
            exact w_X7_next_75 hE fu _ _ _ _ ⟨rfl, ⟨rfl, trivial⟩⟩
        · refine r_aload_n (pc := 57) hE dX7_next_57 rfl ?_
          refine r_iconst (v := 0) (pc := 58) hE dX7_next_58 (by decide) ?_
          refine r_putI (pc := 59) hE 7 25 (by decide) (by decide) (fun _ _ _ => rfl) fl_RX7_172 rfl rfl rfl dX7_next_59 (fun h59 _ => ?_)
          refine r_goto (pc := 62) hE 379 dX7_next_62 (by decide) ?_
          exact r_vret (pc := 379) hE dX7_next_379
      · exact w_X7_next_20 hE (fun y0 hy lvy hly => ih y0 hy lvy hly) _ _ ⟨rfl, trivial⟩
def f_X7_next (fu : Nat) (x0 : Nat) (h : Hp) : Option (Unit × Hp) :=
  if h.K x0 = 7 then
    f_X7_next_0 fu fu x0 h
  else none
set_option maxHeartbeats 4000000 in
set_option maxRecDepth 100000 in
theorem c_X7_next (l : Launch) (D : Dx) (fu : Nat) (x0 : Nat) (h : Hp) (out : Unit × Hp) (ho : f_X7_next fu x0 h = some out) : Ct l D yX7_next cX7_next 3 none rm_X7_next [.ref x0] h (evU out.1) out.2 := by
  refine Ct.of (o := f_X7_next fu x0 h) (lv := [some (.ref x0), none, none]) (by decide) (Nat.le_of_ble_eq_true rfl) rfl ?_ out ho
  intro X hXl hE hin
  replace hE : En X D cX7_next 3 RX7 none rm_X7_next := hE
  subst hXl
  unfold f_X7_next
  refine Wo_grd (fun _ => ?_)
  exact w_X7_next_0 hE fu _ _ _ ⟨rfl, trivial⟩
theorem k_X7_next {fu : Nat} {x0 : Nat} {h : Hp} {out : Unit × Hp} (ho : f_X7_next fu x0 h = some out) : h.K x0 = 7 := (gi_k ho).1
def rm_X7_fails : Room := { frames := 0, cells := 0, slots := 0, locals := 0 }
def f_X7_fails (fu : Nat) (x0 : Nat) (x1 : Int32) (h : Hp) : Option (Int32 × Hp) :=
  if h.K x0 = 7 then
    (pI h 7 x0 27 x1).bind fun h2 =>
    (gI h2 7 x0 24).bind fun v7 =>
    (pI h2 7 x0 28 v7).bind fun h10 =>
    some (0, h10)
  else none
set_option maxHeartbeats 4000000 in
set_option maxRecDepth 100000 in
theorem c_X7_fails (l : Launch) (D : Dx) (fu : Nat) (x0 : Nat) (x1 : Int32) (h : Hp) (out : Int32 × Hp) (ho : f_X7_fails fu x0 x1 h = some out) : Ct l D yX7_fails cX7_fails 2 (some .boolean) rm_X7_fails [.ref x0, .int x1] h (evI out.1) out.2 := by
  refine Ct.of (o := f_X7_fails fu x0 x1 h) (lv := [some (.ref x0), some (.int x1)]) (by decide) (Nat.le_of_ble_eq_true rfl) rfl ?_ out ho
  intro X hXl hE hin
  replace hE : En X D cX7_fails 2 RX7 (some .boolean) rm_X7_fails := hE
  subst hXl
  unfold f_X7_fails
  refine Wo_grd (fun _ => ?_)
  refine r_aload_n (pc := 0) hE dX7_fails_0 rfl ?_
  refine r_iload_n (pc := 1) hE dX7_fails_1 rfl ?_
  refine r_putI (pc := 2) hE 7 27 (by decide) (by decide) (fun _ _ _ => rfl) fl_RX7_159 rfl rfl rfl dX7_fails_2 (fun h2 _ => ?_)
  refine r_aload_n (pc := 5) hE dX7_fails_5 rfl ?_
  refine r_aload_n (pc := 6) hE dX7_fails_6 rfl ?_
  refine r_getI (pc := 7) hE 7 24 (by decide) (by decide) (fun _ _ _ => rfl) fl_RX7_169 dX7_fails_7 (fun v7 _ => ?_)
  refine r_putI (pc := 10) hE 7 28 (by decide) (by decide) (fun _ _ _ => rfl) fl_RX7_62 rfl rfl rfl dX7_fails_10 (fun h10 _ => ?_)
  refine r_iconst (v := 0) (pc := 13) hE dX7_fails_13 (by decide) ?_
  exact r_zret (pc := 14) hE (by decide) dX7_fails_14
theorem k_X7_fails {fu : Nat} {x0 : Nat} {x1 : Int32} {h : Hp} {out : Int32 × Hp} (ho : f_X7_fails fu x0 x1 h = some out) : h.K x0 = 7 := (gi_k ho).1
theorem cs_RX7_188 : csV RX7 188 yX7_fails cX7_fails 2 (some .boolean) 1 = true := by decide +kernel
def rm_X7_takes : Room := { frames := 1, cells := 0, slots := 0, locals := 21 }
def f_X7_takes_31 (fu : Nat) (x0 : Nat) (h : Hp) : Option (Int32 × Hp) :=
  (f_X7_fails fu x0 2 h).bind fun r33 =>
  if r33.1 = 0 ∨ r33.1 = 1 then some (r33.1, r33.2) else none
set_option maxHeartbeats 4000000 in
set_option maxRecDepth 100000 in
theorem w_X7_takes_31 {X : Cx} {D : Dx} (hE : En X D cX7_takes 3 RX7 (some .boolean) rm_X7_takes) {fu : Nat} (x0 : Nat) (h : Hp) {lv : List (Option Value)} (hlv : lvLe [some (.ref x0), none, none] lv) : Wo X D 3 (Qr X D 0 0 evI) 0 0 (f_X7_takes_31 fu x0 h) 31 lv [] h := by
  refine Wo_sub hlv ?_
  unfold f_X7_takes_31
  refine r_aload_n (pc := 31) hE dX7_takes_31 rfl ?_
  refine r_iconst (v := 2) (pc := 32) hE dX7_takes_32 (by decide) ?_
  refine r_callV (pc := 33) hE 7 (As := [.int 2]) (fun out ho => c_X7_fails _ _ fu _ _ _ out ho) (fun out ho => k_X7_fails ho) (by decide) rfl cs_RX7_188 ⟨Nat.le_of_ble_eq_true rfl, Nat.le_of_ble_eq_true rfl, Nat.le_of_ble_eq_true rfl, Nat.le_of_ble_eq_true rfl⟩ (Nat.le_of_ble_eq_true rfl) rfl dX7_takes_33 (fun r33 _ => ?_)
  exact r_zretQ (pc := 36) hE dX7_takes_36
def f_X7_takes (fu : Nat) (x0 : Nat) (x1 : Int32) (x2 : Int32) (h : Hp) : Option (Int32 × Hp) :=
  if h.K x0 = 7 then
    (gI h 7 x0 25).bind fun v1 =>
    if v1 = 8 then
      (gI h 7 x0 26).bind fun v16 =>
      if v16 < x1 then
        f_X7_takes_31 fu x0 h
      else
        (gI h 7 x0 26).bind fun v24 =>
        if v24 ≤ x2 then
          some (1, h)
        else
          f_X7_takes_31 fu x0 h
    else
      (f_X7_fails fu x0 1 h).bind fun r11 =>
      if r11.1 = 0 ∨ r11.1 = 1 then some (r11.1, r11.2) else none
  else none
set_option maxHeartbeats 4000000 in
set_option maxRecDepth 100000 in
theorem c_X7_takes (l : Launch) (D : Dx) (fu : Nat) (x0 : Nat) (x1 : Int32) (x2 : Int32) (h : Hp) (out : Int32 × Hp) (ho : f_X7_takes fu x0 x1 x2 h = some out) : Ct l D yX7_takes cX7_takes 3 (some .boolean) rm_X7_takes [.ref x0, .int x1, .int x2] h (evI out.1) out.2 := by
  refine Ct.of (o := f_X7_takes fu x0 x1 x2 h) (lv := [some (.ref x0), some (.int x1), some (.int x2)]) (by decide) (Nat.le_of_ble_eq_true rfl) rfl ?_ out ho
  intro X hXl hE hin
  replace hE : En X D cX7_takes 3 RX7 (some .boolean) rm_X7_takes := hE
  subst hXl
  unfold f_X7_takes
  refine Wo_grd (fun _ => ?_)
  refine r_aload_n (pc := 0) hE dX7_takes_0 rfl ?_
  refine r_getI (pc := 1) hE 7 25 (by decide) (by decide) (fun _ _ _ => rfl) fl_RX7_172 dX7_takes_1 (fun v1 _ => ?_)
  refine r_bipush (v := 8) (pc := 4) hE dX7_takes_4 (by decide) ?_
  refine r_icmp_eq (pc := 6) hE 15 dX7_takes_6 (by decide) (fun _ => ?_) (fun _ => ?_)
  · refine r_aload_n (pc := 15) hE dX7_takes_15 rfl ?_
    refine r_getI (pc := 16) hE 7 26 (by decide) (by decide) (fun _ _ _ => rfl) fl_RX7_185 dX7_takes_16 (fun v16 _ => ?_)
    refine r_iload_n (pc := 19) hE dX7_takes_19 rfl ?_
    refine r_icmp_lt (pc := 20) hE 31 dX7_takes_20 (by decide) (fun _ => ?_) (fun _ => ?_)
    · exact w_X7_takes_31 hE _ _ ⟨rfl, trivial⟩
    · refine r_aload_n (pc := 23) hE dX7_takes_23 rfl ?_
      refine r_getI (pc := 24) hE 7 26 (by decide) (by decide) (fun _ _ _ => rfl) fl_RX7_185 dX7_takes_24 (fun v24 _ => ?_)
      refine r_iload_n (pc := 27) hE dX7_takes_27 rfl ?_
      refine r_icmp_le (pc := 28) hE 37 dX7_takes_28 (by decide) (fun _ => ?_) (fun _ => ?_)
      · refine r_iconst (v := 1) (pc := 37) hE dX7_takes_37 (by decide) ?_
        exact r_zret (pc := 38) hE (by decide) dX7_takes_38
      · exact w_X7_takes_31 hE _ _ ⟨rfl, trivial⟩
  · refine r_aload_n (pc := 9) hE dX7_takes_9 rfl ?_
    refine r_iconst (v := 1) (pc := 10) hE dX7_takes_10 (by decide) ?_
    refine r_callV (pc := 11) hE 7 (As := [.int 1]) (fun out ho => c_X7_fails _ _ fu _ _ _ out ho) (fun out ho => k_X7_fails ho) (by decide) rfl cs_RX7_188 ⟨Nat.le_of_ble_eq_true rfl, Nat.le_of_ble_eq_true rfl, Nat.le_of_ble_eq_true rfl, Nat.le_of_ble_eq_true rfl⟩ (Nat.le_of_ble_eq_true rfl) rfl dX7_takes_11 (fun r11 _ => ?_)
    exact r_zretQ (pc := 14) hE dX7_takes_14
theorem k_X7_takes {fu : Nat} {x0 : Nat} {x1 : Int32} {x2 : Int32} {h : Hp} {out : Int32 × Hp} (ho : f_X7_takes fu x0 x1 x2 h = some out) : h.K x0 = 7 := (gi_k ho).1
theorem fl_RX7_191 : Cond.fieldLink RX7 191 (TF 7 16).1 (TF 7 16).2.1 (TF 7 16).2.2.1 ∈ TB := tb_in (by decide +kernel) rfl
theorem cs_RX7_194 : csV RX7 194 yX7_next cX7_next 3 none 0 = true := by decide +kernel
theorem cs_RX7_197 : csV RX7 197 yX7_takes cX7_takes 3 (some .boolean) 2 = true := by decide +kernel
def rm_X7_readLine : Room := { frames := 3, cells := 0, slots := 0, locals := 69 }
def f_X7_readLine_164 (fu : Nat) (x0 : Nat) (h : Hp) : Option (Int32 × Hp) :=
  (gI h 7 x0 25).bind fun v165 =>
  if v165 = 4 then
    (f_X7_next fu x0 h).bind fun r179 =>
    (f_X7_takes fu x0 1 20 r179.2).bind fun r186 =>
    if r186.1 = 0 then
      some (0, r186.2)
    else
      (gR r186.2 7 x0 20).bind fun v195 =>
      (gI r186.2 7 x0 16).bind fun v199 =>
      (gI r186.2 7 x0 26).bind fun v203 =>
      (sI r186.2 8 v195 v199 v203).bind fun h206 =>
      (f_X7_next fu x0 h206).bind fun r208 =>
      (gI r208.2 7 x0 25).bind fun v212 =>
      if v212 = 9 then
        (gI r208.2 7 x0 16).bind fun v228 =>
        (pI r208.2 7 x0 16 (v228 + 1)).bind fun h233 =>
        (f_X7_next fu x0 h233).bind fun r237 =>
        some (1, r237.2)
      else
        (f_X7_fails fu x0 1 r208.2).bind fun r222 =>
        if r222.1 = 0 ∨ r222.1 = 1 then some (r222.1, r222.2) else none
  else
    (f_X7_fails fu x0 1 h).bind fun r174 =>
    if r174.1 = 0 ∨ r174.1 = 1 then some (r174.1, r174.2) else none
set_option maxHeartbeats 4000000 in
set_option maxRecDepth 100000 in
theorem w_X7_readLine_164 {X : Cx} {D : Dx} (hE : En X D cX7_readLine 2 RX7 (some .boolean) rm_X7_readLine) {fu : Nat} (x0 : Nat) (h : Hp) {lv : List (Option Value)} (hlv : lvLe [some (.ref x0), none] lv) : Wo X D 2 (Qr X D 0 0 evI) 0 0 (f_X7_readLine_164 fu x0 h) 164 lv [] h := by
  refine Wo_sub hlv ?_
  unfold f_X7_readLine_164
  refine r_aload_n (pc := 164) hE dX7_readLine_164 rfl ?_
  refine r_getI (pc := 165) hE 7 25 (by decide) (by decide) (fun _ _ _ => rfl) fl_RX7_172 dX7_readLine_165 (fun v165 _ => ?_)
  refine r_iconst (v := 4) (pc := 168) hE dX7_readLine_168 (by decide) ?_
  refine r_icmp_eq (pc := 169) hE 178 dX7_readLine_169 (by decide) (fun _ => ?_) (fun _ => ?_)
  · refine r_aload_n (pc := 178) hE dX7_readLine_178 rfl ?_
    refine r_callV (pc := 179) hE 7 (As := []) (fun out ho => c_X7_next _ _ fu _ _ out ho) (fun out ho => k_X7_next ho) (by decide) rfl cs_RX7_194 ⟨Nat.le_of_ble_eq_true rfl, Nat.le_of_ble_eq_true rfl, Nat.le_of_ble_eq_true rfl, Nat.le_of_ble_eq_true rfl⟩ (Nat.le_of_ble_eq_true rfl) rfl dX7_readLine_179 (fun r179 _ => ?_)
    refine r_aload_n (pc := 182) hE dX7_readLine_182 rfl ?_
    refine r_iconst (v := 1) (pc := 183) hE dX7_readLine_183 (by decide) ?_
    refine r_bipush (v := 20) (pc := 184) hE dX7_readLine_184 (by decide) ?_
    refine r_callV (pc := 186) hE 7 (As := [.int 1, .int 20]) (fun out ho => c_X7_takes _ _ fu _ _ _ _ out ho) (fun out ho => k_X7_takes ho) (by decide) rfl cs_RX7_197 ⟨Nat.le_of_ble_eq_true rfl, Nat.le_of_ble_eq_true rfl, Nat.le_of_ble_eq_true rfl, Nat.le_of_ble_eq_true rfl⟩ (Nat.le_of_ble_eq_true rfl) rfl dX7_readLine_186 (fun r186 _ => ?_)
    refine r_if_ne (pc := 189) hE 194 dX7_readLine_189 (by decide) (fun _ => ?_) (fun _ => ?_)
    · refine r_aload_n (pc := 194) hE dX7_readLine_194 rfl ?_
      refine r_getR (pc := 195) hE 7 20 (by decide) (by decide) (fun _ _ _ => rfl) fl_RX7_56 dX7_readLine_195 (fun v195 _ => ?_)
      refine r_aload_n (pc := 198) hE dX7_readLine_198 rfl ?_
      refine r_getI (pc := 199) hE 7 16 (by decide) (by decide) (fun _ _ _ => rfl) fl_RX7_191 dX7_readLine_199 (fun v199 _ => ?_)
      refine r_aload_n (pc := 202) hE dX7_readLine_202 rfl ?_
      refine r_getI (pc := 203) hE 7 26 (by decide) (by decide) (fun _ _ _ => rfl) fl_RX7_185 dX7_readLine_203 (fun v203 _ => ?_)
      refine r_astI (pc := 206) hE dX7_readLine_206 (fun h206 _ => ?_)
      refine r_aload_n (pc := 207) hE dX7_readLine_207 rfl ?_
      refine r_callV (pc := 208) hE 7 (As := []) (fun out ho => c_X7_next _ _ fu _ _ out ho) (fun out ho => k_X7_next ho) (by decide) rfl cs_RX7_194 ⟨Nat.le_of_ble_eq_true rfl, Nat.le_of_ble_eq_true rfl, Nat.le_of_ble_eq_true rfl, Nat.le_of_ble_eq_true rfl⟩ (Nat.le_of_ble_eq_true rfl) rfl dX7_readLine_208 (fun r208 _ => ?_)
      refine r_aload_n (pc := 211) hE dX7_readLine_211 rfl ?_
      refine r_getI (pc := 212) hE 7 25 (by decide) (by decide) (fun _ _ _ => rfl) fl_RX7_172 dX7_readLine_212 (fun v212 _ => ?_)
      refine r_bipush (v := 9) (pc := 215) hE dX7_readLine_215 (by decide) ?_
      refine r_icmp_eq (pc := 217) hE 226 dX7_readLine_217 (by decide) (fun _ => ?_) (fun _ => ?_)
      · refine r_aload_n (pc := 226) hE dX7_readLine_226 rfl ?_
        refine r_aload_n (pc := 227) hE dX7_readLine_227 rfl ?_
        refine r_getI (pc := 228) hE 7 16 (by decide) (by decide) (fun _ _ _ => rfl) fl_RX7_191 dX7_readLine_228 (fun v228 _ => ?_)
        refine r_iconst (v := 1) (pc := 231) hE dX7_readLine_231 (by decide) ?_
        refine r_iadd (pc := 232) hE dX7_readLine_232 ?_
        refine r_putI (pc := 233) hE 7 16 (by decide) (by decide) (fun _ _ _ => rfl) fl_RX7_191 rfl rfl rfl dX7_readLine_233 (fun h233 _ => ?_)
        refine r_aload_n (pc := 236) hE dX7_readLine_236 rfl ?_
        refine r_callV (pc := 237) hE 7 (As := []) (fun out ho => c_X7_next _ _ fu _ _ out ho) (fun out ho => k_X7_next ho) (by decide) rfl cs_RX7_194 ⟨Nat.le_of_ble_eq_true rfl, Nat.le_of_ble_eq_true rfl, Nat.le_of_ble_eq_true rfl, Nat.le_of_ble_eq_true rfl⟩ (Nat.le_of_ble_eq_true rfl) rfl dX7_readLine_237 (fun r237 _ => ?_)
        refine r_iconst (v := 1) (pc := 240) hE dX7_readLine_240 (by decide) ?_
        exact r_zret (pc := 241) hE (by decide) dX7_readLine_241
      · refine r_aload_n (pc := 220) hE dX7_readLine_220 rfl ?_
        refine r_iconst (v := 1) (pc := 221) hE dX7_readLine_221 (by decide) ?_
        refine r_callV (pc := 222) hE 7 (As := [.int 1]) (fun out ho => c_X7_fails _ _ fu _ _ _ out ho) (fun out ho => k_X7_fails ho) (by decide) rfl cs_RX7_188 ⟨Nat.le_of_ble_eq_true rfl, Nat.le_of_ble_eq_true rfl, Nat.le_of_ble_eq_true rfl, Nat.le_of_ble_eq_true rfl⟩ (Nat.le_of_ble_eq_true rfl) rfl dX7_readLine_222 (fun r222 _ => ?_)
        exact r_zretQ (pc := 225) hE dX7_readLine_225
    · refine r_iconst (v := 0) (pc := 192) hE dX7_readLine_192 (by decide) ?_
      exact r_zret (pc := 193) hE (by decide) dX7_readLine_193
  · refine r_aload_n (pc := 172) hE dX7_readLine_172 rfl ?_
    refine r_iconst (v := 1) (pc := 173) hE dX7_readLine_173 (by decide) ?_
    refine r_callV (pc := 174) hE 7 (As := [.int 1]) (fun out ho => c_X7_fails _ _ fu _ _ _ out ho) (fun out ho => k_X7_fails ho) (by decide) rfl cs_RX7_188 ⟨Nat.le_of_ble_eq_true rfl, Nat.le_of_ble_eq_true rfl, Nat.le_of_ble_eq_true rfl, Nat.le_of_ble_eq_true rfl⟩ (Nat.le_of_ble_eq_true rfl) rfl dX7_readLine_174 (fun r174 _ => ?_)
    exact r_zretQ (pc := 177) hE dX7_readLine_177
def f_X7_readLine_112 (fu : Nat) (x0 : Nat) (h : Hp) : Option (Int32 × Hp) :=
  (gI h 7 x0 25).bind fun v113 =>
  (gR h 7 x0 18).bind fun v118 =>
  (gI h 7 x0 16).bind fun v122 =>
  (sI h 8 v118 v122 v113).bind fun h126 =>
  (f_X7_next fu x0 h126).bind fun r128 =>
  if v113 = 5 then
    f_X7_readLine_164 fu x0 r128.2
  else
    (f_X7_takes fu x0 0 3 r128.2).bind fun r139 =>
    if r139.1 = 0 then
      some (0, r139.2)
    else
      (gR r139.2 7 x0 19).bind fun v148 =>
      (gI r139.2 7 x0 16).bind fun v152 =>
      (gI r139.2 7 x0 26).bind fun v156 =>
      (sI r139.2 8 v148 v152 v156).bind fun h159 =>
      (f_X7_next fu x0 h159).bind fun r161 =>
      f_X7_readLine_164 fu x0 r161.2
set_option maxHeartbeats 4000000 in
set_option maxRecDepth 100000 in
theorem w_X7_readLine_112 {X : Cx} {D : Dx} (hE : En X D cX7_readLine 2 RX7 (some .boolean) rm_X7_readLine) {fu : Nat} (x0 : Nat) (h : Hp) {lv : List (Option Value)} (hlv : lvLe [some (.ref x0), none] lv) : Wo X D 2 (Qr X D 0 0 evI) 0 0 (f_X7_readLine_112 fu x0 h) 112 lv [] h := by
  refine Wo_sub hlv ?_
  unfold f_X7_readLine_112
  refine r_aload_n (pc := 112) hE dX7_readLine_112 rfl ?_
  refine r_getI (pc := 113) hE 7 25 (by decide) (by decide) (fun _ _ _ => rfl) fl_RX7_172 dX7_readLine_113 (fun v113 _ => ?_)
  refine r_istore_n (pc := 116) hE dX7_readLine_116 (by decide) ?_
  refine r_aload_n (pc := 117) hE dX7_readLine_117 rfl ?_
  refine r_getR (pc := 118) hE 7 18 (by decide) (by decide) (fun _ _ _ => rfl) fl_RX7_50 dX7_readLine_118 (fun v118 _ => ?_)
  refine r_aload_n (pc := 121) hE dX7_readLine_121 rfl ?_
  refine r_getI (pc := 122) hE 7 16 (by decide) (by decide) (fun _ _ _ => rfl) fl_RX7_191 dX7_readLine_122 (fun v122 _ => ?_)
  refine r_iload_n (pc := 125) hE dX7_readLine_125 rfl ?_
  refine r_astI (pc := 126) hE dX7_readLine_126 (fun h126 _ => ?_)
  refine r_aload_n (pc := 127) hE dX7_readLine_127 rfl ?_
  refine r_callV (pc := 128) hE 7 (As := []) (fun out ho => c_X7_next _ _ fu _ _ out ho) (fun out ho => k_X7_next ho) (by decide) rfl cs_RX7_194 ⟨Nat.le_of_ble_eq_true rfl, Nat.le_of_ble_eq_true rfl, Nat.le_of_ble_eq_true rfl, Nat.le_of_ble_eq_true rfl⟩ (Nat.le_of_ble_eq_true rfl) rfl dX7_readLine_128 (fun r128 _ => ?_)
  refine r_iload_n (pc := 131) hE dX7_readLine_131 rfl ?_
  refine r_iconst (v := 5) (pc := 132) hE dX7_readLine_132 (by decide) ?_
  refine r_icmp_eq (pc := 133) hE 164 dX7_readLine_133 (by decide) (fun _ => ?_) (fun _ => ?_)
  · exact w_X7_readLine_164 hE _ _ ⟨rfl, trivial⟩
  · refine r_aload_n (pc := 136) hE dX7_readLine_136 rfl ?_
    refine r_iconst (v := 0) (pc := 137) hE dX7_readLine_137 (by decide) ?_
    refine r_iconst (v := 3) (pc := 138) hE dX7_readLine_138 (by decide) ?_
    refine r_callV (pc := 139) hE 7 (As := [.int 0, .int 3]) (fun out ho => c_X7_takes _ _ fu _ _ _ _ out ho) (fun out ho => k_X7_takes ho) (by decide) rfl cs_RX7_197 ⟨Nat.le_of_ble_eq_true rfl, Nat.le_of_ble_eq_true rfl, Nat.le_of_ble_eq_true rfl, Nat.le_of_ble_eq_true rfl⟩ (Nat.le_of_ble_eq_true rfl) rfl dX7_readLine_139 (fun r139 _ => ?_)
    refine r_if_ne (pc := 142) hE 147 dX7_readLine_142 (by decide) (fun _ => ?_) (fun _ => ?_)
    · refine r_aload_n (pc := 147) hE dX7_readLine_147 rfl ?_
      refine r_getR (pc := 148) hE 7 19 (by decide) (by decide) (fun _ _ _ => rfl) fl_RX7_53 dX7_readLine_148 (fun v148 _ => ?_)
      refine r_aload_n (pc := 151) hE dX7_readLine_151 rfl ?_
      refine r_getI (pc := 152) hE 7 16 (by decide) (by decide) (fun _ _ _ => rfl) fl_RX7_191 dX7_readLine_152 (fun v152 _ => ?_)
      refine r_aload_n (pc := 155) hE dX7_readLine_155 rfl ?_
      refine r_getI (pc := 156) hE 7 26 (by decide) (by decide) (fun _ _ _ => rfl) fl_RX7_185 dX7_readLine_156 (fun v156 _ => ?_)
      refine r_astI (pc := 159) hE dX7_readLine_159 (fun h159 _ => ?_)
      refine r_aload_n (pc := 160) hE dX7_readLine_160 rfl ?_
      refine r_callV (pc := 161) hE 7 (As := []) (fun out ho => c_X7_next _ _ fu _ _ out ho) (fun out ho => k_X7_next ho) (by decide) rfl cs_RX7_194 ⟨Nat.le_of_ble_eq_true rfl, Nat.le_of_ble_eq_true rfl, Nat.le_of_ble_eq_true rfl, Nat.le_of_ble_eq_true rfl⟩ (Nat.le_of_ble_eq_true rfl) rfl dX7_readLine_161 (fun r161 _ => ?_)
      exact w_X7_readLine_164 hE _ _ ⟨rfl, trivial⟩
    · refine r_iconst (v := 0) (pc := 145) hE dX7_readLine_145 (by decide) ?_
      exact r_zret (pc := 146) hE (by decide) dX7_readLine_146
def f_X7_readLine (fu : Nat) (x0 : Nat) (h : Hp) : Option (Int32 × Hp) :=
  if h.K x0 = 7 then
    (gI h 7 x0 16).bind fun v1 =>
    if v1 = 12 then
      (f_X7_fails fu x0 3 h).bind fun r11 =>
      if r11.1 = 0 ∨ r11.1 = 1 then some (r11.1, r11.2) else none
    else
      (f_X7_next fu x0 h).bind fun r16 =>
      (f_X7_takes fu x0 0 8 r16.2).bind fun r23 =>
      if r23.1 = 0 then
        some (0, r23.2)
      else
        (gR r23.2 7 x0 17).bind fun v32 =>
        (gI r23.2 7 x0 16).bind fun v36 =>
        (gI r23.2 7 x0 26).bind fun v40 =>
        (sI r23.2 8 v32 v36 v40).bind fun h43 =>
        (gR h43 7 x0 18).bind fun v45 =>
        (gI h43 7 x0 16).bind fun v49 =>
        (sI h43 8 v45 v49 0).bind fun h53 =>
        (gR h53 7 x0 19).bind fun v55 =>
        (gI h53 7 x0 16).bind fun v59 =>
        (sI h53 8 v55 v59 0).bind fun h63 =>
        (f_X7_next fu x0 h63).bind fun r65 =>
        (gI r65.2 7 x0 25).bind fun v69 =>
        if v69 = 3 then
          (f_X7_next fu x0 r65.2).bind fun r77 =>
          (gI r77.2 7 x0 25).bind fun v81 =>
          if v81 = 5 then
            f_X7_readLine_112 fu x0 r77.2
          else
            (gI r77.2 7 x0 25).bind fun v89 =>
            if v89 = 6 then
              f_X7_readLine_112 fu x0 r77.2
            else
              (gI r77.2 7 x0 25).bind fun v98 =>
              if v98 = 7 then
                f_X7_readLine_112 fu x0 r77.2
              else
                (f_X7_fails fu x0 1 r77.2).bind fun r108 =>
                if r108.1 = 0 ∨ r108.1 = 1 then some (r108.1, r108.2) else none
        else
          f_X7_readLine_164 fu x0 r65.2
  else none
set_option maxHeartbeats 4000000 in
set_option maxRecDepth 100000 in
theorem c_X7_readLine (l : Launch) (D : Dx) (fu : Nat) (x0 : Nat) (h : Hp) (out : Int32 × Hp) (ho : f_X7_readLine fu x0 h = some out) : Ct l D yX7_readLine cX7_readLine 2 (some .boolean) rm_X7_readLine [.ref x0] h (evI out.1) out.2 := by
  refine Ct.of (o := f_X7_readLine fu x0 h) (lv := [some (.ref x0), none]) (by decide) (Nat.le_of_ble_eq_true rfl) rfl ?_ out ho
  intro X hXl hE hin
  replace hE : En X D cX7_readLine 2 RX7 (some .boolean) rm_X7_readLine := hE
  subst hXl
  unfold f_X7_readLine
  refine Wo_grd (fun _ => ?_)
  refine r_aload_n (pc := 0) hE dX7_readLine_0 rfl ?_
  refine r_getI (pc := 1) hE 7 16 (by decide) (by decide) (fun _ _ _ => rfl) fl_RX7_191 dX7_readLine_1 (fun v1 _ => ?_)
  refine r_bipush (v := 12) (pc := 4) hE dX7_readLine_4 (by decide) ?_
  refine r_icmp_ne (pc := 6) hE 15 dX7_readLine_6 (by decide) (fun _ => ?_) (fun _ => ?_)
  · refine r_aload_n (pc := 15) hE dX7_readLine_15 rfl ?_
    refine r_callV (pc := 16) hE 7 (As := []) (fun out ho => c_X7_next _ _ fu _ _ out ho) (fun out ho => k_X7_next ho) (by decide) rfl cs_RX7_194 ⟨Nat.le_of_ble_eq_true rfl, Nat.le_of_ble_eq_true rfl, Nat.le_of_ble_eq_true rfl, Nat.le_of_ble_eq_true rfl⟩ (Nat.le_of_ble_eq_true rfl) rfl dX7_readLine_16 (fun r16 _ => ?_)
    refine r_aload_n (pc := 19) hE dX7_readLine_19 rfl ?_
    refine r_iconst (v := 0) (pc := 20) hE dX7_readLine_20 (by decide) ?_
    refine r_bipush (v := 8) (pc := 21) hE dX7_readLine_21 (by decide) ?_
    refine r_callV (pc := 23) hE 7 (As := [.int 0, .int 8]) (fun out ho => c_X7_takes _ _ fu _ _ _ _ out ho) (fun out ho => k_X7_takes ho) (by decide) rfl cs_RX7_197 ⟨Nat.le_of_ble_eq_true rfl, Nat.le_of_ble_eq_true rfl, Nat.le_of_ble_eq_true rfl, Nat.le_of_ble_eq_true rfl⟩ (Nat.le_of_ble_eq_true rfl) rfl dX7_readLine_23 (fun r23 _ => ?_)
    refine r_if_ne (pc := 26) hE 31 dX7_readLine_26 (by decide) (fun _ => ?_) (fun _ => ?_)
    · refine r_aload_n (pc := 31) hE dX7_readLine_31 rfl ?_
      refine r_getR (pc := 32) hE 7 17 (by decide) (by decide) (fun _ _ _ => rfl) fl_RX7_47 dX7_readLine_32 (fun v32 _ => ?_)
      refine r_aload_n (pc := 35) hE dX7_readLine_35 rfl ?_
      refine r_getI (pc := 36) hE 7 16 (by decide) (by decide) (fun _ _ _ => rfl) fl_RX7_191 dX7_readLine_36 (fun v36 _ => ?_)
      refine r_aload_n (pc := 39) hE dX7_readLine_39 rfl ?_
      refine r_getI (pc := 40) hE 7 26 (by decide) (by decide) (fun _ _ _ => rfl) fl_RX7_185 dX7_readLine_40 (fun v40 _ => ?_)
      refine r_astI (pc := 43) hE dX7_readLine_43 (fun h43 _ => ?_)
      refine r_aload_n (pc := 44) hE dX7_readLine_44 rfl ?_
      refine r_getR (pc := 45) hE 7 18 (by decide) (by decide) (fun _ _ _ => rfl) fl_RX7_50 dX7_readLine_45 (fun v45 _ => ?_)
      refine r_aload_n (pc := 48) hE dX7_readLine_48 rfl ?_
      refine r_getI (pc := 49) hE 7 16 (by decide) (by decide) (fun _ _ _ => rfl) fl_RX7_191 dX7_readLine_49 (fun v49 _ => ?_)
      refine r_iconst (v := 0) (pc := 52) hE dX7_readLine_52 (by decide) ?_
      refine r_astI (pc := 53) hE dX7_readLine_53 (fun h53 _ => ?_)
      refine r_aload_n (pc := 54) hE dX7_readLine_54 rfl ?_
      refine r_getR (pc := 55) hE 7 19 (by decide) (by decide) (fun _ _ _ => rfl) fl_RX7_53 dX7_readLine_55 (fun v55 _ => ?_)
      refine r_aload_n (pc := 58) hE dX7_readLine_58 rfl ?_
      refine r_getI (pc := 59) hE 7 16 (by decide) (by decide) (fun _ _ _ => rfl) fl_RX7_191 dX7_readLine_59 (fun v59 _ => ?_)
      refine r_iconst (v := 0) (pc := 62) hE dX7_readLine_62 (by decide) ?_
      refine r_astI (pc := 63) hE dX7_readLine_63 (fun h63 _ => ?_)
      refine r_aload_n (pc := 64) hE dX7_readLine_64 rfl ?_
      refine r_callV (pc := 65) hE 7 (As := []) (fun out ho => c_X7_next _ _ fu _ _ out ho) (fun out ho => k_X7_next ho) (by decide) rfl cs_RX7_194 ⟨Nat.le_of_ble_eq_true rfl, Nat.le_of_ble_eq_true rfl, Nat.le_of_ble_eq_true rfl, Nat.le_of_ble_eq_true rfl⟩ (Nat.le_of_ble_eq_true rfl) rfl dX7_readLine_65 (fun r65 _ => ?_)
      refine r_aload_n (pc := 68) hE dX7_readLine_68 rfl ?_
      refine r_getI (pc := 69) hE 7 25 (by decide) (by decide) (fun _ _ _ => rfl) fl_RX7_172 dX7_readLine_69 (fun v69 _ => ?_)
      refine r_iconst (v := 3) (pc := 72) hE dX7_readLine_72 (by decide) ?_
      refine r_icmp_ne (pc := 73) hE 164 dX7_readLine_73 (by decide) (fun _ => ?_) (fun _ => ?_)
      · exact w_X7_readLine_164 hE _ _ ⟨rfl, trivial⟩
      · refine r_aload_n (pc := 76) hE dX7_readLine_76 rfl ?_
        refine r_callV (pc := 77) hE 7 (As := []) (fun out ho => c_X7_next _ _ fu _ _ out ho) (fun out ho => k_X7_next ho) (by decide) rfl cs_RX7_194 ⟨Nat.le_of_ble_eq_true rfl, Nat.le_of_ble_eq_true rfl, Nat.le_of_ble_eq_true rfl, Nat.le_of_ble_eq_true rfl⟩ (Nat.le_of_ble_eq_true rfl) rfl dX7_readLine_77 (fun r77 _ => ?_)
        refine r_aload_n (pc := 80) hE dX7_readLine_80 rfl ?_
        refine r_getI (pc := 81) hE 7 25 (by decide) (by decide) (fun _ _ _ => rfl) fl_RX7_172 dX7_readLine_81 (fun v81 _ => ?_)
        refine r_iconst (v := 5) (pc := 84) hE dX7_readLine_84 (by decide) ?_
        refine r_icmp_eq (pc := 85) hE 112 dX7_readLine_85 (by decide) (fun _ => ?_) (fun _ => ?_)
        · exact w_X7_readLine_112 hE _ _ ⟨rfl, trivial⟩
        · refine r_aload_n (pc := 88) hE dX7_readLine_88 rfl ?_
          refine r_getI (pc := 89) hE 7 25 (by decide) (by decide) (fun _ _ _ => rfl) fl_RX7_172 dX7_readLine_89 (fun v89 _ => ?_)
          refine r_bipush (v := 6) (pc := 92) hE dX7_readLine_92 (by decide) ?_
          refine r_icmp_eq (pc := 94) hE 112 dX7_readLine_94 (by decide) (fun _ => ?_) (fun _ => ?_)
          · exact w_X7_readLine_112 hE _ _ ⟨rfl, trivial⟩
          · refine r_aload_n (pc := 97) hE dX7_readLine_97 rfl ?_
            refine r_getI (pc := 98) hE 7 25 (by decide) (by decide) (fun _ _ _ => rfl) fl_RX7_172 dX7_readLine_98 (fun v98 _ => ?_)
            refine r_bipush (v := 7) (pc := 101) hE dX7_readLine_101 (by decide) ?_
            refine r_icmp_eq (pc := 103) hE 112 dX7_readLine_103 (by decide) (fun _ => ?_) (fun _ => ?_)
            · exact w_X7_readLine_112 hE _ _ ⟨rfl, trivial⟩
            · refine r_aload_n (pc := 106) hE dX7_readLine_106 rfl ?_
              refine r_iconst (v := 1) (pc := 107) hE dX7_readLine_107 (by decide) ?_
              refine r_callV (pc := 108) hE 7 (As := [.int 1]) (fun out ho => c_X7_fails _ _ fu _ _ _ out ho) (fun out ho => k_X7_fails ho) (by decide) rfl cs_RX7_188 ⟨Nat.le_of_ble_eq_true rfl, Nat.le_of_ble_eq_true rfl, Nat.le_of_ble_eq_true rfl, Nat.le_of_ble_eq_true rfl⟩ (Nat.le_of_ble_eq_true rfl) rfl dX7_readLine_108 (fun r108 _ => ?_)
              exact r_zretQ (pc := 111) hE dX7_readLine_111
    · refine r_iconst (v := 0) (pc := 29) hE dX7_readLine_29 (by decide) ?_
      exact r_zret (pc := 30) hE (by decide) dX7_readLine_30
  · refine r_aload_n (pc := 9) hE dX7_readLine_9 rfl ?_
    refine r_iconst (v := 3) (pc := 10) hE dX7_readLine_10 (by decide) ?_
    refine r_callV (pc := 11) hE 7 (As := [.int 3]) (fun out ho => c_X7_fails _ _ fu _ _ _ out ho) (fun out ho => k_X7_fails ho) (by decide) rfl cs_RX7_188 ⟨Nat.le_of_ble_eq_true rfl, Nat.le_of_ble_eq_true rfl, Nat.le_of_ble_eq_true rfl, Nat.le_of_ble_eq_true rfl⟩ (Nat.le_of_ble_eq_true rfl) rfl dX7_readLine_11 (fun r11 _ => ?_)
    exact r_zretQ (pc := 14) hE dX7_readLine_14
theorem k_X7_readLine {fu : Nat} {x0 : Nat} {h : Hp} {out : Int32 × Hp} (ho : f_X7_readLine fu x0 h = some out) : h.K x0 = 7 := (gi_k ho).1
theorem cs_RX7_201 : csV RX7 201 yX7_readLine cX7_readLine 2 (some .boolean) 0 = true := by decide +kernel
def rm_X7_readText : Room := { frames := 4, cells := 0, slots := 0, locals := 90 }
def f_X7_readText_46 (fu : Nat) (h : Hp) : Option (Int32 × Hp) :=
  some (1, h)
set_option maxHeartbeats 4000000 in
set_option maxRecDepth 100000 in
theorem w_X7_readText_46 {X : Cx} {D : Dx} (hE : En X D cX7_readText 1 RX7 (some .boolean) rm_X7_readText) {fu : Nat} (h : Hp) {lv : List (Option Value)} (hlv : lvLe [none] lv) : Wo X D 1 (Qr X D 0 0 evI) 0 0 (f_X7_readText_46 fu  h) 46 lv [] h := by
  refine Wo_sub hlv ?_
  unfold f_X7_readText_46
  refine r_iconst (v := 1) (pc := 46) hE dX7_readText_46 (by decide) ?_
  refine r_goto (pc := 47) hE 51 dX7_readText_47 (by decide) ?_
  exact r_zret (pc := 51) hE (by decide) dX7_readText_51
def f_X7_readText_14 (fu : Nat) : Nat → Nat → Hp → Option (Int32 × Hp)
  | 0, _, _ => none
  | n + 1, x0, h =>
    (gI h 7 x0 25).bind fun v15 =>
    if v15 = 2 then
      (f_X7_readLine fu x0 h).bind fun r23 =>
      if r23.1 = 0 then
        some (0, r23.2)
      else
        f_X7_readText_14 fu n x0 r23.2
    else
      (gI h 7 x0 25).bind fun v32 =>
      if v32 = 0 then
        f_X7_readText_46 fu h
      else
        (f_X7_fails fu x0 1 h).bind fun r40 =>
        if r40.1 = 0 then
          some (0, r40.2)
        else
          f_X7_readText_46 fu r40.2
set_option maxHeartbeats 4000000 in
set_option maxRecDepth 100000 in
theorem w_X7_readText_14 {X : Cx} {D : Dx} (hE : En X D cX7_readText 1 RX7 (some .boolean) rm_X7_readText) {fu : Nat} : ∀ (n : Nat) (x0 : Nat) (h : Hp) (lv : List (Option Value)), lvLe [some (.ref x0)] lv → Wo X D 1 (Qr X D 0 0 evI) 0 0 (f_X7_readText_14 fu n x0 h) 14 lv [] h := by
  intro n
  induction n with
  | zero => intros; exact Wo_none
  | succ n ih =>
    intro x0 h lv hlv
    refine Wo_sub hlv ?_
    rw [f_X7_readText_14]
    refine r_aload_n (pc := 14) hE dX7_readText_14 rfl ?_
    refine r_getI (pc := 15) hE 7 25 (by decide) (by decide) (fun _ _ _ => rfl) fl_RX7_172 dX7_readText_15 (fun v15 _ => ?_)
    refine r_iconst (v := 2) (pc := 18) hE dX7_readText_18 (by decide) ?_
    refine r_icmp_ne (pc := 19) hE 31 dX7_readText_19 (by decide) (fun _ => ?_) (fun _ => ?_)
    · refine r_aload_n (pc := 31) hE dX7_readText_31 rfl ?_
      refine r_getI (pc := 32) hE 7 25 (by decide) (by decide) (fun _ _ _ => rfl) fl_RX7_172 dX7_readText_32 (fun v32 _ => ?_)
      refine r_if_eq (pc := 35) hE 46 dX7_readText_35 (by decide) (fun _ => ?_) (fun _ => ?_)
      · exact w_X7_readText_46 hE  _ trivial
      · refine r_aload_n (pc := 38) hE dX7_readText_38 rfl ?_
        refine r_iconst (v := 1) (pc := 39) hE dX7_readText_39 (by decide) ?_
        refine r_callV (pc := 40) hE 7 (As := [.int 1]) (fun out ho => c_X7_fails _ _ fu _ _ _ out ho) (fun out ho => k_X7_fails ho) (by decide) rfl cs_RX7_188 ⟨Nat.le_of_ble_eq_true rfl, Nat.le_of_ble_eq_true rfl, Nat.le_of_ble_eq_true rfl, Nat.le_of_ble_eq_true rfl⟩ (Nat.le_of_ble_eq_true rfl) rfl dX7_readText_40 (fun r40 _ => ?_)
        refine r_if_eq (pc := 43) hE 50 dX7_readText_43 (by decide) (fun _ => ?_) (fun _ => ?_)
        · refine r_iconst (v := 0) (pc := 50) hE dX7_readText_50 (by decide) ?_
          exact r_zret (pc := 51) hE (by decide) dX7_readText_51
        · exact w_X7_readText_46 hE  _ trivial
    · refine r_aload_n (pc := 22) hE dX7_readText_22 rfl ?_
      refine r_callV (pc := 23) hE 7 (As := []) (fun out ho => c_X7_readLine _ _ fu _ _ out ho) (fun out ho => k_X7_readLine ho) (by decide) rfl cs_RX7_201 ⟨Nat.le_of_ble_eq_true rfl, Nat.le_of_ble_eq_true rfl, Nat.le_of_ble_eq_true rfl, Nat.le_of_ble_eq_true rfl⟩ (Nat.le_of_ble_eq_true rfl) rfl dX7_readText_23 (fun r23 _ => ?_)
      refine r_if_ne (pc := 26) hE 14 dX7_readText_26 (by decide) (fun _ => ?_) (fun _ => ?_)
      · exact ih _ _ _ ⟨rfl, trivial⟩
      · refine r_iconst (v := 0) (pc := 29) hE dX7_readText_29 (by decide) ?_
        exact r_zret (pc := 30) hE (by decide) dX7_readText_30
def f_X7_readText (fu : Nat) (x0 : Nat) (h : Hp) : Option (Int32 × Hp) :=
  if h.K x0 = 7 then
    (pI h 7 x0 23 0).bind fun h2 =>
    (pI h2 7 x0 16 0).bind fun h7 =>
    (f_X7_next fu x0 h7).bind fun r11 =>
    f_X7_readText_14 fu fu x0 r11.2
  else none
set_option maxHeartbeats 4000000 in
set_option maxRecDepth 100000 in
theorem c_X7_readText (l : Launch) (D : Dx) (fu : Nat) (x0 : Nat) (h : Hp) (out : Int32 × Hp) (ho : f_X7_readText fu x0 h = some out) : Ct l D yX7_readText cX7_readText 1 (some .boolean) rm_X7_readText [.ref x0] h (evI out.1) out.2 := by
  refine Ct.of (o := f_X7_readText fu x0 h) (lv := [some (.ref x0)]) (by decide) (Nat.le_of_ble_eq_true rfl) rfl ?_ out ho
  intro X hXl hE hin
  replace hE : En X D cX7_readText 1 RX7 (some .boolean) rm_X7_readText := hE
  subst hXl
  unfold f_X7_readText
  refine Wo_grd (fun _ => ?_)
  refine r_aload_n (pc := 0) hE dX7_readText_0 rfl ?_
  refine r_iconst (v := 0) (pc := 1) hE dX7_readText_1 (by decide) ?_
  refine r_putI (pc := 2) hE 7 23 (by decide) (by decide) (fun _ _ _ => rfl) fl_RX7_162 rfl rfl rfl dX7_readText_2 (fun h2 _ => ?_)
  refine r_aload_n (pc := 5) hE dX7_readText_5 rfl ?_
  refine r_iconst (v := 0) (pc := 6) hE dX7_readText_6 (by decide) ?_
  refine r_putI (pc := 7) hE 7 16 (by decide) (by decide) (fun _ _ _ => rfl) fl_RX7_191 rfl rfl rfl dX7_readText_7 (fun h7 _ => ?_)
  refine r_aload_n (pc := 10) hE dX7_readText_10 rfl ?_
  refine r_callV (pc := 11) hE 7 (As := []) (fun out ho => c_X7_next _ _ fu _ _ out ho) (fun out ho => k_X7_next ho) (by decide) rfl cs_RX7_194 ⟨Nat.le_of_ble_eq_true rfl, Nat.le_of_ble_eq_true rfl, Nat.le_of_ble_eq_true rfl, Nat.le_of_ble_eq_true rfl⟩ (Nat.le_of_ble_eq_true rfl) rfl dX7_readText_11 (fun r11 _ => ?_)
  exact w_X7_readText_14 hE fu _ _ _ ⟨rfl, trivial⟩
theorem k_X7_readText {fu : Nat} {x0 : Nat} {h : Hp} {out : Int32 × Hp} (ho : f_X7_readText fu x0 h = some out) : h.K x0 = 7 := (gi_k ho).1
theorem cs_RX7_205 : csV RX7 205 yX7_readText cX7_readText 1 (some .boolean) 0 = true := by decide +kernel
def rm_X7_chant : Room := { frames := 5, cells := 0, slots := 0, locals := 110 }
def f_X7_chant_41 (fu : Nat) : Nat → Nat → Int32 → Hp → Option (Int32 × Hp)
  | 0, _, _, _ => none
  | n + 1, x0, x2, h =>
    (gI h 7 x0 11).bind fun v43 =>
    if v43 ≤ x2 then
      (gI h 7 x0 11).bind fun v104 =>
      some (v104, h)
    else
      (gR h 7 x0 12).bind fun v50 =>
      (gR h 7 x0 17).bind fun v55 =>
      (aI h 8 v55 x2).bind fun v59 =>
      (sI h 8 v50 x2 v59).bind fun h60 =>
      (gR h60 7 x0 13).bind fun v62 =>
      (gR h60 7 x0 18).bind fun v67 =>
      (aI h60 8 v67 x2).bind fun v71 =>
      (sI h60 8 v62 x2 v71).bind fun h72 =>
      (gR h72 7 x0 14).bind fun v74 =>
      (gR h72 7 x0 19).bind fun v79 =>
      (aI h72 8 v79 x2).bind fun v83 =>
      (sI h72 8 v74 x2 v83).bind fun h84 =>
      (gR h84 7 x0 15).bind fun v86 =>
      (gR h84 7 x0 20).bind fun v91 =>
      (aI h84 8 v91 x2).bind fun v95 =>
      (sI h84 8 v86 x2 v95).bind fun h96 =>
      f_X7_chant_41 fu n x0 ((x2 + 1)) h96
set_option maxHeartbeats 4000000 in
set_option maxRecDepth 100000 in
theorem w_X7_chant_41 {X : Cx} {D : Dx} (hE : En X D cX7_chant 3 RX7 (some .int) rm_X7_chant) {fu : Nat} : ∀ (n : Nat) (x0 : Nat) (x2 : Int32) (h : Hp) (lv : List (Option Value)), lvLe [some (.ref x0), none, some (.int x2)] lv → Wo X D 3 (Qr X D 0 0 evI) 0 0 (f_X7_chant_41 fu n x0 x2 h) 41 lv [] h := by
  intro n
  induction n with
  | zero => intros; exact Wo_none
  | succ n ih =>
    intro x0 x2 h lv hlv
    refine Wo_sub hlv ?_
    rw [f_X7_chant_41]
    refine r_iload_n (pc := 41) hE dX7_chant_41 rfl ?_
    refine r_aload_n (pc := 42) hE dX7_chant_42 rfl ?_
    refine r_getI (pc := 43) hE 7 11 (by decide) (by decide) (fun _ _ _ => rfl) fl_RX7_127 dX7_chant_43 (fun v43 _ => ?_)
    refine r_icmp_ge (pc := 46) hE 103 dX7_chant_46 (by decide) (fun _ => ?_) (fun _ => ?_)
    · refine r_aload_n (pc := 103) hE dX7_chant_103 rfl ?_
      refine r_getI (pc := 104) hE 7 11 (by decide) (by decide) (fun _ _ _ => rfl) fl_RX7_127 dX7_chant_104 (fun v104 _ => ?_)
      exact r_iret (pc := 107) hE dX7_chant_107
    · refine r_aload_n (pc := 49) hE dX7_chant_49 rfl ?_
      refine r_getR (pc := 50) hE 7 12 (by decide) (by decide) (fun _ _ _ => rfl) fl_RX7_35 dX7_chant_50 (fun v50 _ => ?_)
      refine r_iload_n (pc := 53) hE dX7_chant_53 rfl ?_
      refine r_aload_n (pc := 54) hE dX7_chant_54 rfl ?_
      refine r_getR (pc := 55) hE 7 17 (by decide) (by decide) (fun _ _ _ => rfl) fl_RX7_47 dX7_chant_55 (fun v55 _ => ?_)
      refine r_iload_n (pc := 58) hE dX7_chant_58 rfl ?_
      refine r_aldI (pc := 59) hE dX7_chant_59 (fun v59 _ => ?_)
      refine r_astI (pc := 60) hE dX7_chant_60 (fun h60 _ => ?_)
      refine r_aload_n (pc := 61) hE dX7_chant_61 rfl ?_
      refine r_getR (pc := 62) hE 7 13 (by decide) (by decide) (fun _ _ _ => rfl) fl_RX7_38 dX7_chant_62 (fun v62 _ => ?_)
      refine r_iload_n (pc := 65) hE dX7_chant_65 rfl ?_
      refine r_aload_n (pc := 66) hE dX7_chant_66 rfl ?_
      refine r_getR (pc := 67) hE 7 18 (by decide) (by decide) (fun _ _ _ => rfl) fl_RX7_50 dX7_chant_67 (fun v67 _ => ?_)
      refine r_iload_n (pc := 70) hE dX7_chant_70 rfl ?_
      refine r_aldI (pc := 71) hE dX7_chant_71 (fun v71 _ => ?_)
      refine r_astI (pc := 72) hE dX7_chant_72 (fun h72 _ => ?_)
      refine r_aload_n (pc := 73) hE dX7_chant_73 rfl ?_
      refine r_getR (pc := 74) hE 7 14 (by decide) (by decide) (fun _ _ _ => rfl) fl_RX7_41 dX7_chant_74 (fun v74 _ => ?_)
      refine r_iload_n (pc := 77) hE dX7_chant_77 rfl ?_
      refine r_aload_n (pc := 78) hE dX7_chant_78 rfl ?_
      refine r_getR (pc := 79) hE 7 19 (by decide) (by decide) (fun _ _ _ => rfl) fl_RX7_53 dX7_chant_79 (fun v79 _ => ?_)
      refine r_iload_n (pc := 82) hE dX7_chant_82 rfl ?_
      refine r_aldI (pc := 83) hE dX7_chant_83 (fun v83 _ => ?_)
      refine r_astI (pc := 84) hE dX7_chant_84 (fun h84 _ => ?_)
      refine r_aload_n (pc := 85) hE dX7_chant_85 rfl ?_
      refine r_getR (pc := 86) hE 7 15 (by decide) (by decide) (fun _ _ _ => rfl) fl_RX7_44 dX7_chant_86 (fun v86 _ => ?_)
      refine r_iload_n (pc := 89) hE dX7_chant_89 rfl ?_
      refine r_aload_n (pc := 90) hE dX7_chant_90 rfl ?_
      refine r_getR (pc := 91) hE 7 20 (by decide) (by decide) (fun _ _ _ => rfl) fl_RX7_56 dX7_chant_91 (fun v91 _ => ?_)
      refine r_iload_n (pc := 94) hE dX7_chant_94 rfl ?_
      refine r_aldI (pc := 95) hE dX7_chant_95 (fun v95 _ => ?_)
      refine r_astI (pc := 96) hE dX7_chant_96 (fun h96 _ => ?_)
      refine r_iinc (v := (x2 + 1)) (pc := 97) hE dX7_chant_97 rfl rfl (by decide) ?_
      refine r_goto (pc := 100) hE 41 dX7_chant_100 (by decide) ?_
      exact ih _ _ _ _ ⟨rfl, ⟨rfl, trivial⟩⟩
def f_X7_chant (fu : Nat) (x0 : Nat) (h : Hp) : Option (Int32 × Hp) :=
  if h.K x0 = 7 then
    (pI h 7 x0 0 0).bind fun h2 =>
    (f_X7_readText fu x0 h2).bind fun r6 =>
    (pI r6.2 7 x0 22 0).bind fun h12 =>
    if r6.1 = 0 then
      some ((-1), h12)
    else
      (pI h12 7 x0 27 0).bind fun h23 =>
      (pI h23 7 x0 28 (-1)).bind fun h28 =>
      (gI h28 7 x0 16).bind fun v33 =>
      (pI h28 7 x0 11 v33).bind fun h36 =>
      f_X7_chant_41 fu fu x0 0 h36
  else none
set_option maxHeartbeats 4000000 in
set_option maxRecDepth 100000 in
theorem c_X7_chant (l : Launch) (D : Dx) (fu : Nat) (x0 : Nat) (h : Hp) (out : Int32 × Hp) (ho : f_X7_chant fu x0 h = some out) : Ct l D yX7_chant cX7_chant 3 (some .int) rm_X7_chant [.ref x0] h (evI out.1) out.2 := by
  refine Ct.of (o := f_X7_chant fu x0 h) (lv := [some (.ref x0), none, none]) (by decide) (Nat.le_of_ble_eq_true rfl) rfl ?_ out ho
  intro X hXl hE hin
  replace hE : En X D cX7_chant 3 RX7 (some .int) rm_X7_chant := hE
  subst hXl
  unfold f_X7_chant
  refine Wo_grd (fun _ => ?_)
  refine r_aload_n (pc := 0) hE dX7_chant_0 rfl ?_
  refine r_iconst (v := 0) (pc := 1) hE dX7_chant_1 (by decide) ?_
  refine r_putI (pc := 2) hE 7 0 (by decide) (by decide) (fun _ _ _ => rfl) fl_RX7_87 rfl rfl rfl dX7_chant_2 (fun h2 _ => ?_)
  refine r_aload_n (pc := 5) hE dX7_chant_5 rfl ?_
  refine r_callV (pc := 6) hE 7 (As := []) (fun out ho => c_X7_readText _ _ fu _ _ out ho) (fun out ho => k_X7_readText ho) (by decide) rfl cs_RX7_205 ⟨Nat.le_of_ble_eq_true rfl, Nat.le_of_ble_eq_true rfl, Nat.le_of_ble_eq_true rfl, Nat.le_of_ble_eq_true rfl⟩ (Nat.le_of_ble_eq_true rfl) rfl dX7_chant_6 (fun r6 _ => ?_)
  refine r_istore_n (pc := 9) hE dX7_chant_9 (by decide) ?_
  refine r_aload_n (pc := 10) hE dX7_chant_10 rfl ?_
  refine r_iconst (v := 0) (pc := 11) hE dX7_chant_11 (by decide) ?_
  refine r_putI (pc := 12) hE 7 22 (by decide) (by decide) (fun _ _ _ => rfl) fl_RX7_152 rfl rfl rfl dX7_chant_12 (fun h12 _ => ?_)
  refine r_iload_n (pc := 15) hE dX7_chant_15 rfl ?_
  refine r_if_ne (pc := 16) hE 21 dX7_chant_16 (by decide) (fun _ => ?_) (fun _ => ?_)
  · refine r_aload_n (pc := 21) hE dX7_chant_21 rfl ?_
    refine r_iconst (v := 0) (pc := 22) hE dX7_chant_22 (by decide) ?_
    refine r_putI (pc := 23) hE 7 27 (by decide) (by decide) (fun _ _ _ => rfl) fl_RX7_159 rfl rfl rfl dX7_chant_23 (fun h23 _ => ?_)
    refine r_aload_n (pc := 26) hE dX7_chant_26 rfl ?_
    refine r_iconst (v := -1) (pc := 27) hE dX7_chant_27 (by decide) ?_
    refine r_putI (pc := 28) hE 7 28 (by decide) (by decide) (fun _ _ _ => rfl) fl_RX7_62 rfl rfl rfl dX7_chant_28 (fun h28 _ => ?_)
    refine r_aload_n (pc := 31) hE dX7_chant_31 rfl ?_
    refine r_aload_n (pc := 32) hE dX7_chant_32 rfl ?_
    refine r_getI (pc := 33) hE 7 16 (by decide) (by decide) (fun _ _ _ => rfl) fl_RX7_191 dX7_chant_33 (fun v33 _ => ?_)
    refine r_putI (pc := 36) hE 7 11 (by decide) (by decide) (fun _ _ _ => rfl) fl_RX7_127 rfl rfl rfl dX7_chant_36 (fun h36 _ => ?_)
    refine r_iconst (v := 0) (pc := 39) hE dX7_chant_39 (by decide) ?_
    refine r_istore_n (pc := 40) hE dX7_chant_40 (by decide) ?_
    exact w_X7_chant_41 hE fu _ _ _ _ ⟨rfl, ⟨rfl, trivial⟩⟩
  · refine r_iconst (v := -1) (pc := 19) hE dX7_chant_19 (by decide) ?_
    exact r_iret (pc := 20) hE dX7_chant_20
theorem k_X7_chant {fu : Nat} {x0 : Nat} {h : Hp} {out : Int32 × Hp} (ho : f_X7_chant fu x0 h = some out) : h.K x0 = 7 := (gi_k ho).1
def rm_X7_isThere : Room := { frames := 2, cells := 0, slots := 0, locals := 46 }
def f_X7_isThere (fu : Nat) (x0 : Nat) (x1 : Int32) (x2 : Int32) (x3 : Int32) (h : Hp) : Option (Int32 × Hp) :=
  if h.K x0 = 7 then
    (gR h 7 x0 13).bind fun v1 =>
    (aI h 8 v1 x1).bind fun v5 =>
    if v5 = 5 then
      (f_X7_signOf fu x0 x2 x3 2 h).bind fun r14 =>
      if r14.1 = 1 then
        some (1, r14.2)
      else
        some (0, r14.2)
    else
      (gR h 7 x0 13).bind fun v28 =>
      (aI h 8 v28 x1).bind fun v32 =>
      if v32 = 6 then
        (f_X7_signOf fu x0 x2 x3 0 h).bind fun r42 =>
        (gR r42.2 7 x0 14).bind fun v46 =>
        (aI r42.2 8 v46 x1).bind fun v50 =>
        if r42.1 = v50 then
          some (1, r42.2)
        else
          some (0, r42.2)
      else
        (gR h 7 x0 13).bind fun v61 =>
        (aI h 8 v61 x1).bind fun v65 =>
        if v65 = 7 then
          (f_X7_signOf fu x0 x2 x3 1 h).bind fun r75 =>
          (gR r75.2 7 x0 14).bind fun v79 =>
          (aI r75.2 8 v79 x1).bind fun v83 =>
          if r75.1 = v83 then
            some (1, r75.2)
          else
            some (0, r75.2)
        else
          some (0, h)
  else none
set_option maxHeartbeats 4000000 in
set_option maxRecDepth 100000 in
theorem c_X7_isThere (l : Launch) (D : Dx) (fu : Nat) (x0 : Nat) (x1 : Int32) (x2 : Int32) (x3 : Int32) (h : Hp) (out : Int32 × Hp) (ho : f_X7_isThere fu x0 x1 x2 x3 h = some out) : Ct l D yX7_isThere cX7_isThere 4 (some .boolean) rm_X7_isThere [.ref x0, .int x1, .int x2, .int x3] h (evI out.1) out.2 := by
  refine Ct.of (o := f_X7_isThere fu x0 x1 x2 x3 h) (lv := [some (.ref x0), some (.int x1), some (.int x2), some (.int x3)]) (by decide) (Nat.le_of_ble_eq_true rfl) rfl ?_ out ho
  intro X hXl hE hin
  replace hE : En X D cX7_isThere 4 RX7 (some .boolean) rm_X7_isThere := hE
  subst hXl
  unfold f_X7_isThere
  refine Wo_grd (fun _ => ?_)
  refine r_aload_n (pc := 0) hE dX7_isThere_0 rfl ?_
  refine r_getR (pc := 1) hE 7 13 (by decide) (by decide) (fun _ _ _ => rfl) fl_RX7_38 dX7_isThere_1 (fun v1 _ => ?_)
  refine r_iload_n (pc := 4) hE dX7_isThere_4 rfl ?_
  refine r_aldI (pc := 5) hE dX7_isThere_5 (fun v5 _ => ?_)
  refine r_iconst (v := 5) (pc := 6) hE dX7_isThere_6 (by decide) ?_
  refine r_icmp_ne (pc := 7) hE 27 dX7_isThere_7 (by decide) (fun _ => ?_) (fun _ => ?_)
  · refine r_aload_n (pc := 27) hE dX7_isThere_27 rfl ?_
    refine r_getR (pc := 28) hE 7 13 (by decide) (by decide) (fun _ _ _ => rfl) fl_RX7_38 dX7_isThere_28 (fun v28 _ => ?_)
    refine r_iload_n (pc := 31) hE dX7_isThere_31 rfl ?_
    refine r_aldI (pc := 32) hE dX7_isThere_32 (fun v32 _ => ?_)
    refine r_bipush (v := 6) (pc := 33) hE dX7_isThere_33 (by decide) ?_
    refine r_icmp_ne (pc := 35) hE 60 dX7_isThere_35 (by decide) (fun _ => ?_) (fun _ => ?_)
    · refine r_aload_n (pc := 60) hE dX7_isThere_60 rfl ?_
      refine r_getR (pc := 61) hE 7 13 (by decide) (by decide) (fun _ _ _ => rfl) fl_RX7_38 dX7_isThere_61 (fun v61 _ => ?_)
      refine r_iload_n (pc := 64) hE dX7_isThere_64 rfl ?_
      refine r_aldI (pc := 65) hE dX7_isThere_65 (fun v65 _ => ?_)
      refine r_bipush (v := 7) (pc := 66) hE dX7_isThere_66 (by decide) ?_
      refine r_icmp_ne (pc := 68) hE 91 dX7_isThere_68 (by decide) (fun _ => ?_) (fun _ => ?_)
      · refine r_iconst (v := 0) (pc := 91) hE dX7_isThere_91 (by decide) ?_
        exact r_zret (pc := 92) hE (by decide) dX7_isThere_92
      · refine r_aload_n (pc := 71) hE dX7_isThere_71 rfl ?_
        refine r_iload_n (pc := 72) hE dX7_isThere_72 rfl ?_
        refine r_iload_n (pc := 73) hE dX7_isThere_73 rfl ?_
        refine r_iconst (v := 1) (pc := 74) hE dX7_isThere_74 (by decide) ?_
        refine r_callV (pc := 75) hE 7 (As := [.int x2, .int x3, .int 1]) (fun out ho => c_X7_signOf _ _ fu _ _ _ _ _ out ho) (fun out ho => k_X7_signOf ho) (by decide) rfl cs_RX7_145 ⟨Nat.le_of_ble_eq_true rfl, Nat.le_of_ble_eq_true rfl, Nat.le_of_ble_eq_true rfl, Nat.le_of_ble_eq_true rfl⟩ (Nat.le_of_ble_eq_true rfl) rfl dX7_isThere_75 (fun r75 _ => ?_)
        refine r_aload_n (pc := 78) hE dX7_isThere_78 rfl ?_
        refine r_getR (pc := 79) hE 7 14 (by decide) (by decide) (fun _ _ _ => rfl) fl_RX7_41 dX7_isThere_79 (fun v79 _ => ?_)
        refine r_iload_n (pc := 82) hE dX7_isThere_82 rfl ?_
        refine r_aldI (pc := 83) hE dX7_isThere_83 (fun v83 _ => ?_)
        refine r_icmp_ne (pc := 84) hE 91 dX7_isThere_84 (by decide) (fun _ => ?_) (fun _ => ?_)
        · refine r_iconst (v := 0) (pc := 91) hE dX7_isThere_91 (by decide) ?_
          exact r_zret (pc := 92) hE (by decide) dX7_isThere_92
        · refine r_iconst (v := 1) (pc := 87) hE dX7_isThere_87 (by decide) ?_
          refine r_goto (pc := 88) hE 92 dX7_isThere_88 (by decide) ?_
          exact r_zret (pc := 92) hE (by decide) dX7_isThere_92
    · refine r_aload_n (pc := 38) hE dX7_isThere_38 rfl ?_
      refine r_iload_n (pc := 39) hE dX7_isThere_39 rfl ?_
      refine r_iload_n (pc := 40) hE dX7_isThere_40 rfl ?_
      refine r_iconst (v := 0) (pc := 41) hE dX7_isThere_41 (by decide) ?_
      refine r_callV (pc := 42) hE 7 (As := [.int x2, .int x3, .int 0]) (fun out ho => c_X7_signOf _ _ fu _ _ _ _ _ out ho) (fun out ho => k_X7_signOf ho) (by decide) rfl cs_RX7_145 ⟨Nat.le_of_ble_eq_true rfl, Nat.le_of_ble_eq_true rfl, Nat.le_of_ble_eq_true rfl, Nat.le_of_ble_eq_true rfl⟩ (Nat.le_of_ble_eq_true rfl) rfl dX7_isThere_42 (fun r42 _ => ?_)
      refine r_aload_n (pc := 45) hE dX7_isThere_45 rfl ?_
      refine r_getR (pc := 46) hE 7 14 (by decide) (by decide) (fun _ _ _ => rfl) fl_RX7_41 dX7_isThere_46 (fun v46 _ => ?_)
      refine r_iload_n (pc := 49) hE dX7_isThere_49 rfl ?_
      refine r_aldI (pc := 50) hE dX7_isThere_50 (fun v50 _ => ?_)
      refine r_icmp_ne (pc := 51) hE 58 dX7_isThere_51 (by decide) (fun _ => ?_) (fun _ => ?_)
      · refine r_iconst (v := 0) (pc := 58) hE dX7_isThere_58 (by decide) ?_
        exact r_zret (pc := 59) hE (by decide) dX7_isThere_59
      · refine r_iconst (v := 1) (pc := 54) hE dX7_isThere_54 (by decide) ?_
        refine r_goto (pc := 55) hE 59 dX7_isThere_55 (by decide) ?_
        exact r_zret (pc := 59) hE (by decide) dX7_isThere_59
  · refine r_aload_n (pc := 10) hE dX7_isThere_10 rfl ?_
    refine r_iload_n (pc := 11) hE dX7_isThere_11 rfl ?_
    refine r_iload_n (pc := 12) hE dX7_isThere_12 rfl ?_
    refine r_iconst (v := 2) (pc := 13) hE dX7_isThere_13 (by decide) ?_
    refine r_callV (pc := 14) hE 7 (As := [.int x2, .int x3, .int 2]) (fun out ho => c_X7_signOf _ _ fu _ _ _ _ _ out ho) (fun out ho => k_X7_signOf ho) (by decide) rfl cs_RX7_145 ⟨Nat.le_of_ble_eq_true rfl, Nat.le_of_ble_eq_true rfl, Nat.le_of_ble_eq_true rfl, Nat.le_of_ble_eq_true rfl⟩ (Nat.le_of_ble_eq_true rfl) rfl dX7_isThere_14 (fun r14 _ => ?_)
    refine r_iconst (v := 1) (pc := 17) hE dX7_isThere_17 (by decide) ?_
    refine r_icmp_ne (pc := 18) hE 25 dX7_isThere_18 (by decide) (fun _ => ?_) (fun _ => ?_)
    · refine r_iconst (v := 0) (pc := 25) hE dX7_isThere_25 (by decide) ?_
      exact r_zret (pc := 26) hE (by decide) dX7_isThere_26
    · refine r_iconst (v := 1) (pc := 21) hE dX7_isThere_21 (by decide) ?_
      refine r_goto (pc := 22) hE 26 dX7_isThere_22 (by decide) ?_
      exact r_zret (pc := 26) hE (by decide) dX7_isThere_26
theorem k_X7_isThere {fu : Nat} {x0 : Nat} {x1 : Int32} {x2 : Int32} {x3 : Int32} {h : Hp} {out : Int32 × Hp} (ho : f_X7_isThere fu x0 x1 x2 x3 h = some out) : h.K x0 = 7 := (gi_k ho).1
def rm_X7_at : Room := { frames := 0, cells := 0, slots := 0, locals := 0 }
def f_X7_at (fu : Nat) (x0 : Nat) (x1 : Int32) (x2 : Int32) (x3 : Int32) (h : Hp) : Option (Int32 × Hp) :=
  if h.K x0 = 7 then
    some ((((384 * x1) + (6 * x2)) + x3), h)
  else none
set_option maxHeartbeats 4000000 in
set_option maxRecDepth 100000 in
theorem c_X7_at (l : Launch) (D : Dx) (fu : Nat) (x0 : Nat) (x1 : Int32) (x2 : Int32) (x3 : Int32) (h : Hp) (out : Int32 × Hp) (ho : f_X7_at fu x0 x1 x2 x3 h = some out) : Ct l D yX7_at cX7_at 4 (some .int) rm_X7_at [.ref x0, .int x1, .int x2, .int x3] h (evI out.1) out.2 := by
  refine Ct.of (o := f_X7_at fu x0 x1 x2 x3 h) (lv := [some (.ref x0), some (.int x1), some (.int x2), some (.int x3)]) (by decide) (Nat.le_of_ble_eq_true rfl) rfl ?_ out ho
  intro X hXl hE hin
  replace hE : En X D cX7_at 4 RX7 (some .int) rm_X7_at := hE
  subst hXl
  unfold f_X7_at
  refine Wo_grd (fun _ => ?_)
  refine r_sipush (v := 384) (pc := 0) hE dX7_at_0 (by decide) ?_
  refine r_iload_n (pc := 3) hE dX7_at_3 rfl ?_
  refine r_imul (pc := 4) hE dX7_at_4 ?_
  refine r_bipush (v := 6) (pc := 5) hE dX7_at_5 (by decide) ?_
  refine r_iload_n (pc := 7) hE dX7_at_7 rfl ?_
  refine r_imul (pc := 8) hE dX7_at_8 ?_
  refine r_iadd (pc := 9) hE dX7_at_9 ?_
  refine r_iload_n (pc := 10) hE dX7_at_10 rfl ?_
  refine r_iadd (pc := 11) hE dX7_at_11 ?_
  exact r_iret (pc := 12) hE dX7_at_12
theorem k_X7_at {fu : Nat} {x0 : Nat} {x1 : Int32} {x2 : Int32} {x3 : Int32} {h : Hp} {out : Int32 × Hp} (ho : f_X7_at fu x0 x1 x2 x3 h = some out) : h.K x0 = 7 := (gi_k ho).1
theorem cs_RX7_208 : csV RX7 208 yX7_at cX7_at 4 (some .int) 3 = true := by decide +kernel
theorem cs_RX7_216 : csV RX7 216 yX7_isThere cX7_isThere 4 (some .boolean) 3 = true := by decide +kernel
theorem ct_RX7_211 : Cond.constant RX7 211 (100000) ∈ TB := tb_in (by decide +kernel) rfl
def rm_X7_step : Room := { frames := 3, cells := 0, slots := 0, locals := 69 }
def f_X7_step_58 (fu : Nat) (x0 : Nat) (x3 : Int32) (x4 : Int32) (x5 : Int32) (h : Hp) : Option (Unit × Hp) :=
  (gR h 7 x0 29).bind fun v59 =>
  (gR h 7 x0 29).bind fun v65 =>
  (f_X7_at fu x0 0 x3 x4 h).bind fun r73 =>
  (aI r73.2 8 v65 r73.1).bind fun v76 =>
  (sI r73.2 8 v59 x5 v76).bind fun h77 =>
  (gR h77 7 x0 30).bind fun v79 =>
  (gR h77 7 x0 30).bind fun v85 =>
  (f_X7_at fu x0 0 x3 x4 h77).bind fun r93 =>
  (aI r93.2 8 v85 r93.1).bind fun v96 =>
  (sI r93.2 8 v79 x5 v96).bind fun h97 =>
  some ((), h97)
set_option maxHeartbeats 4000000 in
set_option maxRecDepth 100000 in
theorem w_X7_step_58 {X : Cx} {D : Dx} (hE : En X D cX7_step 8 RX7 none rm_X7_step) {fu : Nat} (x0 : Nat) (x3 : Int32) (x4 : Int32) (x5 : Int32) (h : Hp) {lv : List (Option Value)} (hlv : lvLe [some (.ref x0), none, none, some (.int x3), some (.int x4), some (.int x5), none, none] lv) : Wo X D 8 (Qr X D 0 0 evU) 0 0 (f_X7_step_58 fu x0 x3 x4 x5 h) 58 lv [] h := by
  refine Wo_sub hlv ?_
  unfold f_X7_step_58
  refine r_aload_n (pc := 58) hE dX7_step_58 rfl ?_
  refine r_getR (pc := 59) hE 7 29 (by decide) (by decide) (fun _ _ _ => rfl) fl_RX7_65 dX7_step_59 (fun v59 _ => ?_)
  refine r_iload (pc := 62) hE dX7_step_62 rfl ?_
  refine r_aload_n (pc := 64) hE dX7_step_64 rfl ?_
  refine r_getR (pc := 65) hE 7 29 (by decide) (by decide) (fun _ _ _ => rfl) fl_RX7_65 dX7_step_65 (fun v65 _ => ?_)
  refine r_aload_n (pc := 68) hE dX7_step_68 rfl ?_
  refine r_iconst (v := 0) (pc := 69) hE dX7_step_69 (by decide) ?_
  refine r_iload_n (pc := 70) hE dX7_step_70 rfl ?_
  refine r_iload (pc := 71) hE dX7_step_71 rfl ?_
  refine r_callV (pc := 73) hE 7 (As := [.int 0, .int x3, .int x4]) (fun out ho => c_X7_at _ _ fu _ _ _ _ _ out ho) (fun out ho => k_X7_at ho) (by decide) rfl cs_RX7_208 ⟨Nat.le_of_ble_eq_true rfl, Nat.le_of_ble_eq_true rfl, Nat.le_of_ble_eq_true rfl, Nat.le_of_ble_eq_true rfl⟩ (Nat.le_of_ble_eq_true rfl) rfl dX7_step_73 (fun r73 _ => ?_)
  refine r_aldI (pc := 76) hE dX7_step_76 (fun v76 _ => ?_)
  refine r_astI (pc := 77) hE dX7_step_77 (fun h77 _ => ?_)
  refine r_aload_n (pc := 78) hE dX7_step_78 rfl ?_
  refine r_getR (pc := 79) hE 7 30 (by decide) (by decide) (fun _ _ _ => rfl) fl_RX7_68 dX7_step_79 (fun v79 _ => ?_)
  refine r_iload (pc := 82) hE dX7_step_82 rfl ?_
  refine r_aload_n (pc := 84) hE dX7_step_84 rfl ?_
  refine r_getR (pc := 85) hE 7 30 (by decide) (by decide) (fun _ _ _ => rfl) fl_RX7_68 dX7_step_85 (fun v85 _ => ?_)
  refine r_aload_n (pc := 88) hE dX7_step_88 rfl ?_
  refine r_iconst (v := 0) (pc := 89) hE dX7_step_89 (by decide) ?_
  refine r_iload_n (pc := 90) hE dX7_step_90 rfl ?_
  refine r_iload (pc := 91) hE dX7_step_91 rfl ?_
  refine r_callV (pc := 93) hE 7 (As := [.int 0, .int x3, .int x4]) (fun out ho => c_X7_at _ _ fu _ _ _ _ _ out ho) (fun out ho => k_X7_at ho) (by decide) rfl cs_RX7_208 ⟨Nat.le_of_ble_eq_true rfl, Nat.le_of_ble_eq_true rfl, Nat.le_of_ble_eq_true rfl, Nat.le_of_ble_eq_true rfl⟩ (Nat.le_of_ble_eq_true rfl) rfl dX7_step_93 (fun r93 _ => ?_)
  refine r_aldI (pc := 96) hE dX7_step_96 (fun v96 _ => ?_)
  refine r_astI (pc := 97) hE dX7_step_97 (fun h97 _ => ?_)
  exact r_vret (pc := 98) hE dX7_step_98
def f_X7_step_243 (fu : Nat) (k119 : Nat → Int32 → Int32 → Int32 → Int32 → Int32 → Int32 → Hp → Option (Unit × Hp)) (x0 : Nat) (x1 : Int32) (x2 : Int32) (x3 : Int32) (x4 : Int32) (x5 : Int32) (x6 : Int32) (h : Hp) : Option (Unit × Hp) :=
  k119 x0 x1 x2 x3 x4 x5 ((x6 + 1)) h
set_option maxHeartbeats 4000000 in
set_option maxRecDepth 100000 in
theorem w_X7_step_243 {X : Cx} {D : Dx} (hE : En X D cX7_step 8 RX7 none rm_X7_step) {fu : Nat} {k119 : Nat → Int32 → Int32 → Int32 → Int32 → Int32 → Int32 → Hp → Option (Unit × Hp)} (hk119 : ∀ (x0 : Nat) (x1 : Int32) (x2 : Int32) (x3 : Int32) (x4 : Int32) (x5 : Int32) (x6 : Int32) (h : Hp) (lv : List (Option Value)), lvLe [some (.ref x0), some (.int x1), some (.int x2), some (.int x3), some (.int x4), some (.int x5), some (.int x6), none] lv → Wo X D 8 (Qr X D 0 0 evU) 0 0 (k119 x0 x1 x2 x3 x4 x5 x6 h) 119 lv [] h) (x0 : Nat) (x1 : Int32) (x2 : Int32) (x3 : Int32) (x4 : Int32) (x5 : Int32) (x6 : Int32) (h : Hp) {lv : List (Option Value)} (hlv : lvLe [some (.ref x0), some (.int x1), some (.int x2), some (.int x3), some (.int x4), some (.int x5), some (.int x6), none] lv) : Wo X D 8 (Qr X D 0 0 evU) 0 0 (f_X7_step_243 fu k119 x0 x1 x2 x3 x4 x5 x6 h) 243 lv [] h := by
  refine Wo_sub hlv ?_
  unfold f_X7_step_243
  refine r_iinc (v := (x6 + 1)) (pc := 243) hE dX7_step_243 rfl rfl (by decide) ?_
  refine r_goto (pc := 246) hE 119 dX7_step_246 (by decide) ?_
  exact hk119 _ _ _ _ _ _ _ _ _ ⟨rfl, ⟨rfl, ⟨rfl, ⟨rfl, ⟨rfl, ⟨rfl, ⟨rfl, trivial⟩⟩⟩⟩⟩⟩⟩
def f_X7_step_208 (fu : Nat) (k119 : Nat → Int32 → Int32 → Int32 → Int32 → Int32 → Int32 → Hp → Option (Unit × Hp)) (x0 : Nat) (x1 : Int32) (x2 : Int32) (x3 : Int32) (x4 : Int32) (x5 : Int32) (x6 : Int32) (x7 : Int32) (h : Hp) : Option (Unit × Hp) :=
  (gR h 7 x0 30).bind fun v209 =>
  (aI h 8 v209 x7).bind fun v214 =>
  (gR h 7 x0 30).bind fun v218 =>
  (aI h 8 v218 x5).bind fun v223 =>
  if v223 ≤ (v214 + 1) then
    f_X7_step_243 fu k119 x0 x1 x2 x3 x4 x5 x6 h
  else
    (gR h 7 x0 30).bind fun v228 =>
    (gR h 7 x0 30).bind fun v234 =>
    (aI h 8 v234 x7).bind fun v239 =>
    (sI h 8 v228 x5 (v239 + 1)).bind fun h242 =>
    f_X7_step_243 fu k119 x0 x1 x2 x3 x4 x5 x6 h242
set_option maxHeartbeats 4000000 in
set_option maxRecDepth 100000 in
theorem w_X7_step_208 {X : Cx} {D : Dx} (hE : En X D cX7_step 8 RX7 none rm_X7_step) {fu : Nat} {k119 : Nat → Int32 → Int32 → Int32 → Int32 → Int32 → Int32 → Hp → Option (Unit × Hp)} (hk119 : ∀ (x0 : Nat) (x1 : Int32) (x2 : Int32) (x3 : Int32) (x4 : Int32) (x5 : Int32) (x6 : Int32) (h : Hp) (lv : List (Option Value)), lvLe [some (.ref x0), some (.int x1), some (.int x2), some (.int x3), some (.int x4), some (.int x5), some (.int x6), none] lv → Wo X D 8 (Qr X D 0 0 evU) 0 0 (k119 x0 x1 x2 x3 x4 x5 x6 h) 119 lv [] h) (x0 : Nat) (x1 : Int32) (x2 : Int32) (x3 : Int32) (x4 : Int32) (x5 : Int32) (x6 : Int32) (x7 : Int32) (h : Hp) {lv : List (Option Value)} (hlv : lvLe [some (.ref x0), some (.int x1), some (.int x2), some (.int x3), some (.int x4), some (.int x5), some (.int x6), some (.int x7)] lv) : Wo X D 8 (Qr X D 0 0 evU) 0 0 (f_X7_step_208 fu k119 x0 x1 x2 x3 x4 x5 x6 x7 h) 208 lv [] h := by
  refine Wo_sub hlv ?_
  unfold f_X7_step_208
  refine r_aload_n (pc := 208) hE dX7_step_208 rfl ?_
  refine r_getR (pc := 209) hE 7 30 (by decide) (by decide) (fun _ _ _ => rfl) fl_RX7_68 dX7_step_209 (fun v209 _ => ?_)
  refine r_iload (pc := 212) hE dX7_step_212 rfl ?_
  refine r_aldI (pc := 214) hE dX7_step_214 (fun v214 _ => ?_)
  refine r_iconst (v := 1) (pc := 215) hE dX7_step_215 (by decide) ?_
  refine r_iadd (pc := 216) hE dX7_step_216 ?_
  refine r_aload_n (pc := 217) hE dX7_step_217 rfl ?_
  refine r_getR (pc := 218) hE 7 30 (by decide) (by decide) (fun _ _ _ => rfl) fl_RX7_68 dX7_step_218 (fun v218 _ => ?_)
  refine r_iload (pc := 221) hE dX7_step_221 rfl ?_
  refine r_aldI (pc := 223) hE dX7_step_223 (fun v223 _ => ?_)
  refine r_icmp_ge (pc := 224) hE 243 dX7_step_224 (by decide) (fun _ => ?_) (fun _ => ?_)
  · exact w_X7_step_243 hE hk119 _ _ _ _ _ _ _ _ ⟨rfl, ⟨rfl, ⟨rfl, ⟨rfl, ⟨rfl, ⟨rfl, ⟨rfl, trivial⟩⟩⟩⟩⟩⟩⟩
  · refine r_aload_n (pc := 227) hE dX7_step_227 rfl ?_
    refine r_getR (pc := 228) hE 7 30 (by decide) (by decide) (fun _ _ _ => rfl) fl_RX7_68 dX7_step_228 (fun v228 _ => ?_)
    refine r_iload (pc := 231) hE dX7_step_231 rfl ?_
    refine r_aload_n (pc := 233) hE dX7_step_233 rfl ?_
    refine r_getR (pc := 234) hE 7 30 (by decide) (by decide) (fun _ _ _ => rfl) fl_RX7_68 dX7_step_234 (fun v234 _ => ?_)
    refine r_iload (pc := 237) hE dX7_step_237 rfl ?_
    refine r_aldI (pc := 239) hE dX7_step_239 (fun v239 _ => ?_)
    refine r_iconst (v := 1) (pc := 240) hE dX7_step_240 (by decide) ?_
    refine r_iadd (pc := 241) hE dX7_step_241 ?_
    refine r_astI (pc := 242) hE dX7_step_242 (fun h242 _ => ?_)
    exact w_X7_step_243 hE hk119 _ _ _ _ _ _ _ _ ⟨rfl, ⟨rfl, ⟨rfl, ⟨rfl, ⟨rfl, ⟨rfl, ⟨rfl, trivial⟩⟩⟩⟩⟩⟩⟩
def f_X7_step_119 (fu : Nat) : Nat → Nat → Int32 → Int32 → Int32 → Int32 → Int32 → Int32 → Hp → Option (Unit × Hp)
  | 0, _, _, _, _, _, _, _, _ => none
  | n + 1, x0, x1, x2, x3, x4, x5, x6, h =>
    if 9 ≤ x6 then
      (gR h 7 x0 29).bind fun v250 =>
      (aI h 8 v250 x5).bind fun v255 =>
      if v255 ≤ 100000 then
        some ((), h)
      else
        (gR h 7 x0 29).bind fun v262 =>
        (sI h 8 v262 x5 100000).bind fun h269 =>
        some ((), h269)
    else
      (gR h 7 x0 10).bind fun v127 =>
      (aI h 8 v127 x4).bind fun v132 =>
      if ((v132 >>> (x6 &&& 31)) &&& 1) = 0 then
        f_X7_step_243 fu (fun y0 y1 y2 y3 y4 y5 y6 hy => f_X7_step_119 fu n y0 y1 y2 y3 y4 y5 y6 hy) x0 x1 x2 x3 x4 x5 x6 h
      else
        (gR h 7 x0 12).bind fun v151 =>
        (aI h 8 v151 x1).bind fun v155 =>
        (f_X7_goes fu x0 x3 v155 x6 h).bind fun r158 =>
        (f_X7_at fu x0 (x2 + 2) r158.1 (rem (x4 + 1) 6) r158.2).bind fun r168 =>
        (gR r168.2 7 x0 29).bind fun v174 =>
        (aI r168.2 8 v174 r168.1).bind fun v179 =>
        (gR r168.2 7 x0 29).bind fun v183 =>
        (aI r168.2 8 v183 x5).bind fun v188 =>
        if (v179 + 1) ≤ v188 then
          f_X7_step_208 fu (fun y0 y1 y2 y3 y4 y5 y6 hy => f_X7_step_119 fu n y0 y1 y2 y3 y4 y5 y6 hy) x0 x1 x2 x3 x4 x5 x6 r168.1 r168.2
        else
          (gR r168.2 7 x0 29).bind fun v193 =>
          (gR r168.2 7 x0 29).bind fun v199 =>
          (aI r168.2 8 v199 r168.1).bind fun v204 =>
          (sI r168.2 8 v193 x5 (v204 + 1)).bind fun h207 =>
          f_X7_step_208 fu (fun y0 y1 y2 y3 y4 y5 y6 hy => f_X7_step_119 fu n y0 y1 y2 y3 y4 y5 y6 hy) x0 x1 x2 x3 x4 x5 x6 r168.1 h207
set_option maxHeartbeats 4000000 in
set_option maxRecDepth 100000 in
theorem w_X7_step_119 {X : Cx} {D : Dx} (hE : En X D cX7_step 8 RX7 none rm_X7_step) {fu : Nat} : ∀ (n : Nat) (x0 : Nat) (x1 : Int32) (x2 : Int32) (x3 : Int32) (x4 : Int32) (x5 : Int32) (x6 : Int32) (h : Hp) (lv : List (Option Value)), lvLe [some (.ref x0), some (.int x1), some (.int x2), some (.int x3), some (.int x4), some (.int x5), some (.int x6), none] lv → Wo X D 8 (Qr X D 0 0 evU) 0 0 (f_X7_step_119 fu n x0 x1 x2 x3 x4 x5 x6 h) 119 lv [] h := by
  intro n
  induction n with
  | zero => intros; exact Wo_none
  | succ n ih =>
    intro x0 x1 x2 x3 x4 x5 x6 h lv hlv
    refine Wo_sub hlv ?_
    rw [f_X7_step_119]
    refine r_iload (pc := 119) hE dX7_step_119 rfl ?_
    refine r_bipush (v := 9) (pc := 121) hE dX7_step_121 (by decide) ?_
    refine r_icmp_ge (pc := 123) hE 249 dX7_step_123 (by decide) (fun _ => ?_) (fun _ => ?_)
    · refine r_aload_n (pc := 249) hE dX7_step_249 rfl ?_
      refine r_getR (pc := 250) hE 7 29 (by decide) (by decide) (fun _ _ _ => rfl) fl_RX7_65 dX7_step_250 (fun v250 _ => ?_)
      refine r_iload (pc := 253) hE dX7_step_253 rfl ?_
      refine r_aldI (pc := 255) hE dX7_step_255 (fun v255 _ => ?_)
      refine r_ldc (v := 100000) (pc := 256) hE ct_RX7_211 dX7_step_256 ?_
      refine r_icmp_le (pc := 258) hE 270 dX7_step_258 (by decide) (fun _ => ?_) (fun _ => ?_)
      · exact r_vret (pc := 270) hE dX7_step_270
      · refine r_aload_n (pc := 261) hE dX7_step_261 rfl ?_
        refine r_getR (pc := 262) hE 7 29 (by decide) (by decide) (fun _ _ _ => rfl) fl_RX7_65 dX7_step_262 (fun v262 _ => ?_)
        refine r_iload (pc := 265) hE dX7_step_265 rfl ?_
        refine r_ldc (v := 100000) (pc := 267) hE ct_RX7_211 dX7_step_267 ?_
        refine r_astI (pc := 269) hE dX7_step_269 (fun h269 _ => ?_)
        exact r_vret (pc := 270) hE dX7_step_270
    · refine r_aload_n (pc := 126) hE dX7_step_126 rfl ?_
      refine r_getR (pc := 127) hE 7 10 (by decide) (by decide) (fun _ _ _ => rfl) fl_RX7_32 dX7_step_127 (fun v127 _ => ?_)
      refine r_iload (pc := 130) hE dX7_step_130 rfl ?_
      refine r_aldI (pc := 132) hE dX7_step_132 (fun v132 _ => ?_)
      refine r_iload (pc := 133) hE dX7_step_133 rfl ?_
      refine r_ishr (pc := 135) hE dX7_step_135 ?_
      refine r_iconst (v := 1) (pc := 136) hE dX7_step_136 (by decide) ?_
      refine r_iand (pc := 137) hE dX7_step_137 ?_
      refine r_if_ne (pc := 138) hE 144 dX7_step_138 (by decide) (fun _ => ?_) (fun _ => ?_)
      · refine r_aload_n (pc := 144) hE dX7_step_144 rfl ?_
        refine r_iload_n (pc := 145) hE dX7_step_145 rfl ?_
        refine r_iconst (v := 2) (pc := 146) hE dX7_step_146 (by decide) ?_
        refine r_iadd (pc := 147) hE dX7_step_147 ?_
        refine r_aload_n (pc := 148) hE dX7_step_148 rfl ?_
        refine r_iload_n (pc := 149) hE dX7_step_149 rfl ?_
        refine r_aload_n (pc := 150) hE dX7_step_150 rfl ?_
        refine r_getR (pc := 151) hE 7 12 (by decide) (by decide) (fun _ _ _ => rfl) fl_RX7_35 dX7_step_151 (fun v151 _ => ?_)
        refine r_iload_n (pc := 154) hE dX7_step_154 rfl ?_
        refine r_aldI (pc := 155) hE dX7_step_155 (fun v155 _ => ?_)
        refine r_iload (pc := 156) hE dX7_step_156 rfl ?_
        refine r_callV (pc := 158) hE 7 (As := [.int x3, .int v155, .int x6]) (fun out ho => c_X7_goes _ _ fu _ _ _ _ _ out ho) (fun out ho => k_X7_goes ho) (by decide) rfl cs_RX7_134 ⟨Nat.le_of_ble_eq_true rfl, Nat.le_of_ble_eq_true rfl, Nat.le_of_ble_eq_true rfl, Nat.le_of_ble_eq_true rfl⟩ (Nat.le_of_ble_eq_true rfl) rfl dX7_step_158 (fun r158 _ => ?_)
        refine r_iload (pc := 161) hE dX7_step_161 rfl ?_
        refine r_iconst (v := 1) (pc := 163) hE dX7_step_163 (by decide) ?_
        refine r_iadd (pc := 164) hE dX7_step_164 ?_
        refine r_bipush (v := 6) (pc := 165) hE dX7_step_165 (by decide) ?_
        refine r_irem (pc := 167) hE dX7_step_167 (by decide) ?_
        refine r_callV (pc := 168) hE 7 (As := [.int (x2 + 2), .int r158.1, .int (rem (x4 + 1) 6)]) (fun out ho => c_X7_at _ _ fu _ _ _ _ _ out ho) (fun out ho => k_X7_at ho) (by decide) rfl cs_RX7_208 ⟨Nat.le_of_ble_eq_true rfl, Nat.le_of_ble_eq_true rfl, Nat.le_of_ble_eq_true rfl, Nat.le_of_ble_eq_true rfl⟩ (Nat.le_of_ble_eq_true rfl) rfl dX7_step_168 (fun r168 _ => ?_)
        refine r_istore (pc := 171) hE dX7_step_171 (by decide) ?_
        refine r_aload_n (pc := 173) hE dX7_step_173 rfl ?_
        refine r_getR (pc := 174) hE 7 29 (by decide) (by decide) (fun _ _ _ => rfl) fl_RX7_65 dX7_step_174 (fun v174 _ => ?_)
        refine r_iload (pc := 177) hE dX7_step_177 rfl ?_
        refine r_aldI (pc := 179) hE dX7_step_179 (fun v179 _ => ?_)
        refine r_iconst (v := 1) (pc := 180) hE dX7_step_180 (by decide) ?_
        refine r_iadd (pc := 181) hE dX7_step_181 ?_
        refine r_aload_n (pc := 182) hE dX7_step_182 rfl ?_
        refine r_getR (pc := 183) hE 7 29 (by decide) (by decide) (fun _ _ _ => rfl) fl_RX7_65 dX7_step_183 (fun v183 _ => ?_)
        refine r_iload (pc := 186) hE dX7_step_186 rfl ?_
        refine r_aldI (pc := 188) hE dX7_step_188 (fun v188 _ => ?_)
        refine r_icmp_le (pc := 189) hE 208 dX7_step_189 (by decide) (fun _ => ?_) (fun _ => ?_)
        · exact w_X7_step_208 hE (fun y0 y1 y2 y3 y4 y5 y6 hy lvy hly => ih y0 y1 y2 y3 y4 y5 y6 hy lvy hly) _ _ _ _ _ _ _ _ _ ⟨rfl, ⟨rfl, ⟨rfl, ⟨rfl, ⟨rfl, ⟨rfl, ⟨rfl, ⟨rfl, trivial⟩⟩⟩⟩⟩⟩⟩⟩
        · refine r_aload_n (pc := 192) hE dX7_step_192 rfl ?_
          refine r_getR (pc := 193) hE 7 29 (by decide) (by decide) (fun _ _ _ => rfl) fl_RX7_65 dX7_step_193 (fun v193 _ => ?_)
          refine r_iload (pc := 196) hE dX7_step_196 rfl ?_
          refine r_aload_n (pc := 198) hE dX7_step_198 rfl ?_
          refine r_getR (pc := 199) hE 7 29 (by decide) (by decide) (fun _ _ _ => rfl) fl_RX7_65 dX7_step_199 (fun v199 _ => ?_)
          refine r_iload (pc := 202) hE dX7_step_202 rfl ?_
          refine r_aldI (pc := 204) hE dX7_step_204 (fun v204 _ => ?_)
          refine r_iconst (v := 1) (pc := 205) hE dX7_step_205 (by decide) ?_
          refine r_iadd (pc := 206) hE dX7_step_206 ?_
          refine r_astI (pc := 207) hE dX7_step_207 (fun h207 _ => ?_)
          exact w_X7_step_208 hE (fun y0 y1 y2 y3 y4 y5 y6 hy lvy hly => ih y0 y1 y2 y3 y4 y5 y6 hy lvy hly) _ _ _ _ _ _ _ _ _ ⟨rfl, ⟨rfl, ⟨rfl, ⟨rfl, ⟨rfl, ⟨rfl, ⟨rfl, ⟨rfl, trivial⟩⟩⟩⟩⟩⟩⟩⟩
      · refine r_goto (pc := 141) hE 243 dX7_step_141 (by decide) ?_
        exact w_X7_step_243 hE (fun y0 y1 y2 y3 y4 y5 y6 hy lvy hly => ih y0 y1 y2 y3 y4 y5 y6 hy lvy hly) _ _ _ _ _ _ _ _ ⟨rfl, ⟨rfl, ⟨rfl, ⟨rfl, ⟨rfl, ⟨rfl, ⟨rfl, trivial⟩⟩⟩⟩⟩⟩⟩
def f_X7_step (fu : Nat) (x0 : Nat) (x1 : Int32) (x2 : Int32) (x3 : Int32) (x4 : Int32) (h : Hp) : Option (Unit × Hp) :=
  if h.K x0 = 7 then
    (f_X7_at fu x0 (x2 + 1) x3 x4 h).bind fun r7 =>
    (f_X7_isLand fu x0 x3 r7.2).bind fun r14 =>
    if r14.1 = 0 then
      (gR r14.2 7 x0 15).bind fun v39 =>
      (aI r14.2 8 v39 x1).bind fun v43 =>
      if x2 = v43 then
        f_X7_step_58 fu x0 x3 x4 r7.1 r14.2
      else
        (f_X7_isThere fu x0 x1 x3 x4 r14.2).bind fun r52 =>
        if r52.1 = 0 then
          (gR r52.2 7 x0 29).bind fun v100 =>
          (sI r52.2 8 v100 r7.1 0).bind fun h106 =>
          (gR h106 7 x0 30).bind fun v108 =>
          (sI h106 8 v108 r7.1 100000).bind fun h115 =>
          f_X7_step_119 fu fu x0 x1 x2 x3 x4 r7.1 0 h115
        else
          f_X7_step_58 fu x0 x3 x4 r7.1 r52.2
    else
      (gR r14.2 7 x0 29).bind fun v21 =>
      (sI r14.2 8 v21 r7.1 0).bind fun h27 =>
      (gR h27 7 x0 30).bind fun v29 =>
      (sI h27 8 v29 r7.1 0).bind fun h35 =>
      some ((), h35)
  else none
set_option maxHeartbeats 4000000 in
set_option maxRecDepth 100000 in
theorem c_X7_step (l : Launch) (D : Dx) (fu : Nat) (x0 : Nat) (x1 : Int32) (x2 : Int32) (x3 : Int32) (x4 : Int32) (h : Hp) (out : Unit × Hp) (ho : f_X7_step fu x0 x1 x2 x3 x4 h = some out) : Ct l D yX7_step cX7_step 8 none rm_X7_step [.ref x0, .int x1, .int x2, .int x3, .int x4] h (evU out.1) out.2 := by
  refine Ct.of (o := f_X7_step fu x0 x1 x2 x3 x4 h) (lv := [some (.ref x0), some (.int x1), some (.int x2), some (.int x3), some (.int x4), none, none, none]) (by decide) (Nat.le_of_ble_eq_true rfl) rfl ?_ out ho
  intro X hXl hE hin
  replace hE : En X D cX7_step 8 RX7 none rm_X7_step := hE
  subst hXl
  unfold f_X7_step
  refine Wo_grd (fun _ => ?_)
  refine r_aload_n (pc := 0) hE dX7_step_0 rfl ?_
  refine r_iload_n (pc := 1) hE dX7_step_1 rfl ?_
  refine r_iconst (v := 1) (pc := 2) hE dX7_step_2 (by decide) ?_
  refine r_iadd (pc := 3) hE dX7_step_3 ?_
  refine r_iload_n (pc := 4) hE dX7_step_4 rfl ?_
  refine r_iload (pc := 5) hE dX7_step_5 rfl ?_
  refine r_callV (pc := 7) hE 7 (As := [.int (x2 + 1), .int x3, .int x4]) (fun out ho => c_X7_at _ _ fu _ _ _ _ _ out ho) (fun out ho => k_X7_at ho) (by decide) rfl cs_RX7_208 ⟨Nat.le_of_ble_eq_true rfl, Nat.le_of_ble_eq_true rfl, Nat.le_of_ble_eq_true rfl, Nat.le_of_ble_eq_true rfl⟩ (Nat.le_of_ble_eq_true rfl) rfl dX7_step_7 (fun r7 _ => ?_)
  refine r_istore (pc := 10) hE dX7_step_10 (by decide) ?_
  refine r_aload_n (pc := 12) hE dX7_step_12 rfl ?_
  refine r_iload_n (pc := 13) hE dX7_step_13 rfl ?_
  refine r_callV (pc := 14) hE 7 (As := [.int x3]) (fun out ho => c_X7_isLand _ _ fu _ _ _ out ho) (fun out ho => k_X7_isLand ho) (by decide) rfl cs_RX7_117 ⟨Nat.le_of_ble_eq_true rfl, Nat.le_of_ble_eq_true rfl, Nat.le_of_ble_eq_true rfl, Nat.le_of_ble_eq_true rfl⟩ (Nat.le_of_ble_eq_true rfl) rfl dX7_step_14 (fun r14 _ => ?_)
  refine r_if_eq (pc := 17) hE 37 dX7_step_17 (by decide) (fun _ => ?_) (fun _ => ?_)
  · refine r_iload_n (pc := 37) hE dX7_step_37 rfl ?_
    refine r_aload_n (pc := 38) hE dX7_step_38 rfl ?_
    refine r_getR (pc := 39) hE 7 15 (by decide) (by decide) (fun _ _ _ => rfl) fl_RX7_44 dX7_step_39 (fun v39 _ => ?_)
    refine r_iload_n (pc := 42) hE dX7_step_42 rfl ?_
    refine r_aldI (pc := 43) hE dX7_step_43 (fun v43 _ => ?_)
    refine r_icmp_eq (pc := 44) hE 58 dX7_step_44 (by decide) (fun _ => ?_) (fun _ => ?_)
    · exact w_X7_step_58 hE _ _ _ _ _ ⟨rfl, ⟨rfl, ⟨rfl, ⟨rfl, trivial⟩⟩⟩⟩
    · refine r_aload_n (pc := 47) hE dX7_step_47 rfl ?_
      refine r_iload_n (pc := 48) hE dX7_step_48 rfl ?_
      refine r_iload_n (pc := 49) hE dX7_step_49 rfl ?_
      refine r_iload (pc := 50) hE dX7_step_50 rfl ?_
      refine r_callV (pc := 52) hE 7 (As := [.int x1, .int x3, .int x4]) (fun out ho => c_X7_isThere _ _ fu _ _ _ _ _ out ho) (fun out ho => k_X7_isThere ho) (by decide) rfl cs_RX7_216 ⟨Nat.le_of_ble_eq_true rfl, Nat.le_of_ble_eq_true rfl, Nat.le_of_ble_eq_true rfl, Nat.le_of_ble_eq_true rfl⟩ (Nat.le_of_ble_eq_true rfl) rfl dX7_step_52 (fun r52 _ => ?_)
      refine r_if_eq (pc := 55) hE 99 dX7_step_55 (by decide) (fun _ => ?_) (fun _ => ?_)
      · refine r_aload_n (pc := 99) hE dX7_step_99 rfl ?_
        refine r_getR (pc := 100) hE 7 29 (by decide) (by decide) (fun _ _ _ => rfl) fl_RX7_65 dX7_step_100 (fun v100 _ => ?_)
        refine r_iload (pc := 103) hE dX7_step_103 rfl ?_
        refine r_iconst (v := 0) (pc := 105) hE dX7_step_105 (by decide) ?_
        refine r_astI (pc := 106) hE dX7_step_106 (fun h106 _ => ?_)
        refine r_aload_n (pc := 107) hE dX7_step_107 rfl ?_
        refine r_getR (pc := 108) hE 7 30 (by decide) (by decide) (fun _ _ _ => rfl) fl_RX7_68 dX7_step_108 (fun v108 _ => ?_)
        refine r_iload (pc := 111) hE dX7_step_111 rfl ?_
        refine r_ldc (v := 100000) (pc := 113) hE ct_RX7_211 dX7_step_113 ?_
        refine r_astI (pc := 115) hE dX7_step_115 (fun h115 _ => ?_)
        refine r_iconst (v := 0) (pc := 116) hE dX7_step_116 (by decide) ?_
        refine r_istore (pc := 117) hE dX7_step_117 (by decide) ?_
        exact w_X7_step_119 hE fu _ _ _ _ _ _ _ _ _ ⟨rfl, ⟨rfl, ⟨rfl, ⟨rfl, ⟨rfl, ⟨rfl, ⟨rfl, trivial⟩⟩⟩⟩⟩⟩⟩
      · exact w_X7_step_58 hE _ _ _ _ _ ⟨rfl, ⟨rfl, ⟨rfl, ⟨rfl, trivial⟩⟩⟩⟩
  · refine r_aload_n (pc := 20) hE dX7_step_20 rfl ?_
    refine r_getR (pc := 21) hE 7 29 (by decide) (by decide) (fun _ _ _ => rfl) fl_RX7_65 dX7_step_21 (fun v21 _ => ?_)
    refine r_iload (pc := 24) hE dX7_step_24 rfl ?_
    refine r_iconst (v := 0) (pc := 26) hE dX7_step_26 (by decide) ?_
    refine r_astI (pc := 27) hE dX7_step_27 (fun h27 _ => ?_)
    refine r_aload_n (pc := 28) hE dX7_step_28 rfl ?_
    refine r_getR (pc := 29) hE 7 30 (by decide) (by decide) (fun _ _ _ => rfl) fl_RX7_68 dX7_step_29 (fun v29 _ => ?_)
    refine r_iload (pc := 32) hE dX7_step_32 rfl ?_
    refine r_iconst (v := 0) (pc := 34) hE dX7_step_34 (by decide) ?_
    refine r_astI (pc := 35) hE dX7_step_35 (fun h35 _ => ?_)
    exact r_vret (pc := 36) hE dX7_step_36
theorem k_X7_step {fu : Nat} {x0 : Nat} {x1 : Int32} {x2 : Int32} {x3 : Int32} {x4 : Int32} {h : Hp} {out : Unit × Hp} (ho : f_X7_step fu x0 x1 x2 x3 x4 h = some out) : h.K x0 = 7 := (gi_k ho).1
theorem cs_RX7_212 : csV RX7 212 yX7_step cX7_step 8 none 4 = true := by decide +kernel
def rm_X7_sing : Room := { frames := 4, cells := 0, slots := 0, locals := 96 }
def f_X7_sing_153 (fu : Nat) (k89 : Nat → Int32 → Hp → Option (Unit × Hp)) : Nat → Nat → Int32 → Int32 → Hp → Option (Unit × Hp)
  | 0, _, _, _, _ => none
  | n + 1, x0, x1, x2, h =>
    if 384 ≤ x2 then
      k89 x0 ((x1 + (-1))) h
    else
      (gR h 7 x0 29).bind fun v161 =>
      (gR h 7 x0 29).bind fun v166 =>
      (aI h 8 v166 (384 + x2)).bind fun v174 =>
      (sI h 8 v161 x2 v174).bind fun h175 =>
      (gR h175 7 x0 30).bind fun v177 =>
      (gR h175 7 x0 30).bind fun v182 =>
      (aI h175 8 v182 (384 + x2)).bind fun v190 =>
      (sI h175 8 v177 x2 v190).bind fun h191 =>
      f_X7_sing_153 fu k89 n x0 x1 ((x2 + 1)) h191
set_option maxHeartbeats 4000000 in
set_option maxRecDepth 100000 in
theorem w_X7_sing_153 {X : Cx} {D : Dx} (hE : En X D cX7_sing 5 RX7 none rm_X7_sing) {fu : Nat} {k89 : Nat → Int32 → Hp → Option (Unit × Hp)} (hk89 : ∀ (x0 : Nat) (x1 : Int32) (h : Hp) (lv : List (Option Value)), lvLe [some (.ref x0), some (.int x1), none, none, none] lv → Wo X D 5 (Qr X D 0 0 evU) 0 0 (k89 x0 x1 h) 89 lv [] h) : ∀ (n : Nat) (x0 : Nat) (x1 : Int32) (x2 : Int32) (h : Hp) (lv : List (Option Value)), lvLe [some (.ref x0), some (.int x1), some (.int x2), none, none] lv → Wo X D 5 (Qr X D 0 0 evU) 0 0 (f_X7_sing_153 fu k89 n x0 x1 x2 h) 153 lv [] h := by
  intro n
  induction n with
  | zero => intros; exact Wo_none
  | succ n ih =>
    intro x0 x1 x2 h lv hlv
    refine Wo_sub hlv ?_
    rw [f_X7_sing_153]
    refine r_iload_n (pc := 153) hE dX7_sing_153 rfl ?_
    refine r_sipush (v := 384) (pc := 154) hE dX7_sing_154 (by decide) ?_
    refine r_icmp_ge (pc := 157) hE 198 dX7_sing_157 (by decide) (fun _ => ?_) (fun _ => ?_)
    · refine r_iinc (v := (x1 + (-1))) (pc := 198) hE dX7_sing_198 rfl rfl (by decide) ?_
      refine r_goto (pc := 201) hE 89 dX7_sing_201 (by decide) ?_
      exact hk89 _ _ _ _ ⟨rfl, ⟨rfl, trivial⟩⟩
    · refine r_aload_n (pc := 160) hE dX7_sing_160 rfl ?_
      refine r_getR (pc := 161) hE 7 29 (by decide) (by decide) (fun _ _ _ => rfl) fl_RX7_65 dX7_sing_161 (fun v161 _ => ?_)
      refine r_iload_n (pc := 164) hE dX7_sing_164 rfl ?_
      refine r_aload_n (pc := 165) hE dX7_sing_165 rfl ?_
      refine r_getR (pc := 166) hE 7 29 (by decide) (by decide) (fun _ _ _ => rfl) fl_RX7_65 dX7_sing_166 (fun v166 _ => ?_)
      refine r_sipush (v := 384) (pc := 169) hE dX7_sing_169 (by decide) ?_
      refine r_iload_n (pc := 172) hE dX7_sing_172 rfl ?_
      refine r_iadd (pc := 173) hE dX7_sing_173 ?_
      refine r_aldI (pc := 174) hE dX7_sing_174 (fun v174 _ => ?_)
      refine r_astI (pc := 175) hE dX7_sing_175 (fun h175 _ => ?_)
      refine r_aload_n (pc := 176) hE dX7_sing_176 rfl ?_
      refine r_getR (pc := 177) hE 7 30 (by decide) (by decide) (fun _ _ _ => rfl) fl_RX7_68 dX7_sing_177 (fun v177 _ => ?_)
      refine r_iload_n (pc := 180) hE dX7_sing_180 rfl ?_
      refine r_aload_n (pc := 181) hE dX7_sing_181 rfl ?_
      refine r_getR (pc := 182) hE 7 30 (by decide) (by decide) (fun _ _ _ => rfl) fl_RX7_68 dX7_sing_182 (fun v182 _ => ?_)
      refine r_sipush (v := 384) (pc := 185) hE dX7_sing_185 (by decide) ?_
      refine r_iload_n (pc := 188) hE dX7_sing_188 rfl ?_
      refine r_iadd (pc := 189) hE dX7_sing_189 ?_
      refine r_aldI (pc := 190) hE dX7_sing_190 (fun v190 _ => ?_)
      refine r_astI (pc := 191) hE dX7_sing_191 (fun h191 _ => ?_)
      refine r_iinc (v := (x2 + 1)) (pc := 192) hE dX7_sing_192 rfl rfl (by decide) ?_
      refine r_goto (pc := 195) hE 153 dX7_sing_195 (by decide) ?_
      exact ih _ _ _ _ _ ⟨rfl, ⟨rfl, ⟨rfl, trivial⟩⟩⟩
def f_X7_sing_117 (fu : Nat) (k89 : Nat → Int32 → Hp → Option (Unit × Hp)) (k100 : Nat → Int32 → Int32 → Hp → Option (Unit × Hp)) (k106 : Nat → Int32 → Int32 → Int32 → Hp → Option (Unit × Hp)) : Nat → Nat → Int32 → Int32 → Int32 → Int32 → Hp → Option (Unit × Hp)
  | 0, _, _, _, _, _, _ => none
  | n + 1, x0, x1, x2, x3, x4, h =>
    if 6 ≤ x4 then
      k106 x0 x1 x2 ((x3 + 1)) h
    else
      (f_X7_step fu x0 x1 x2 x3 x4 h).bind fun r130 =>
      f_X7_sing_117 fu k89 k100 k106 n x0 x1 x2 x3 ((x4 + 1)) r130.2
set_option maxHeartbeats 4000000 in
set_option maxRecDepth 100000 in
theorem w_X7_sing_117 {X : Cx} {D : Dx} (hE : En X D cX7_sing 5 RX7 none rm_X7_sing) {fu : Nat} {k89 : Nat → Int32 → Hp → Option (Unit × Hp)} {k100 : Nat → Int32 → Int32 → Hp → Option (Unit × Hp)} {k106 : Nat → Int32 → Int32 → Int32 → Hp → Option (Unit × Hp)} (hk89 : ∀ (x0 : Nat) (x1 : Int32) (h : Hp) (lv : List (Option Value)), lvLe [some (.ref x0), some (.int x1), none, none, none] lv → Wo X D 5 (Qr X D 0 0 evU) 0 0 (k89 x0 x1 h) 89 lv [] h) (hk100 : ∀ (x0 : Nat) (x1 : Int32) (x2 : Int32) (h : Hp) (lv : List (Option Value)), lvLe [some (.ref x0), some (.int x1), some (.int x2), none, none] lv → Wo X D 5 (Qr X D 0 0 evU) 0 0 (k100 x0 x1 x2 h) 100 lv [] h) (hk106 : ∀ (x0 : Nat) (x1 : Int32) (x2 : Int32) (x3 : Int32) (h : Hp) (lv : List (Option Value)), lvLe [some (.ref x0), some (.int x1), some (.int x2), some (.int x3), none] lv → Wo X D 5 (Qr X D 0 0 evU) 0 0 (k106 x0 x1 x2 x3 h) 106 lv [] h) : ∀ (n : Nat) (x0 : Nat) (x1 : Int32) (x2 : Int32) (x3 : Int32) (x4 : Int32) (h : Hp) (lv : List (Option Value)), lvLe [some (.ref x0), some (.int x1), some (.int x2), some (.int x3), some (.int x4)] lv → Wo X D 5 (Qr X D 0 0 evU) 0 0 (f_X7_sing_117 fu k89 k100 k106 n x0 x1 x2 x3 x4 h) 117 lv [] h := by
  intro n
  induction n with
  | zero => intros; exact Wo_none
  | succ n ih =>
    intro x0 x1 x2 x3 x4 h lv hlv
    refine Wo_sub hlv ?_
    rw [f_X7_sing_117]
    refine r_iload (pc := 117) hE dX7_sing_117 rfl ?_
    refine r_bipush (v := 6) (pc := 119) hE dX7_sing_119 (by decide) ?_
    refine r_icmp_ge (pc := 121) hE 139 dX7_sing_121 (by decide) (fun _ => ?_) (fun _ => ?_)
    · refine r_iinc (v := (x3 + 1)) (pc := 139) hE dX7_sing_139 rfl rfl (by decide) ?_
      refine r_goto (pc := 142) hE 106 dX7_sing_142 (by decide) ?_
      exact hk106 _ _ _ _ _ _ ⟨rfl, ⟨rfl, ⟨rfl, ⟨rfl, trivial⟩⟩⟩⟩
    · refine r_aload_n (pc := 124) hE dX7_sing_124 rfl ?_
      refine r_iload_n (pc := 125) hE dX7_sing_125 rfl ?_
      refine r_iload_n (pc := 126) hE dX7_sing_126 rfl ?_
      refine r_iload_n (pc := 127) hE dX7_sing_127 rfl ?_
      refine r_iload (pc := 128) hE dX7_sing_128 rfl ?_
      refine r_callV (pc := 130) hE 7 (As := [.int x1, .int x2, .int x3, .int x4]) (fun out ho => c_X7_step _ _ fu _ _ _ _ _ _ out ho) (fun out ho => k_X7_step ho) (by decide) rfl cs_RX7_212 ⟨Nat.le_of_ble_eq_true rfl, Nat.le_of_ble_eq_true rfl, Nat.le_of_ble_eq_true rfl, Nat.le_of_ble_eq_true rfl⟩ (Nat.le_of_ble_eq_true rfl) rfl dX7_sing_130 (fun r130 _ => ?_)
      refine r_iinc (v := (x4 + 1)) (pc := 133) hE dX7_sing_133 rfl rfl (by decide) ?_
      refine r_goto (pc := 136) hE 117 dX7_sing_136 (by decide) ?_
      exact ih _ _ _ _ _ _ _ ⟨rfl, ⟨rfl, ⟨rfl, ⟨rfl, ⟨rfl, trivial⟩⟩⟩⟩⟩
def f_X7_sing_106 (fu : Nat) (k89 : Nat → Int32 → Hp → Option (Unit × Hp)) (k100 : Nat → Int32 → Int32 → Hp → Option (Unit × Hp)) : Nat → Nat → Int32 → Int32 → Int32 → Hp → Option (Unit × Hp)
  | 0, _, _, _, _, _ => none
  | n + 1, x0, x1, x2, x3, h =>
    (f_X7_cells fu x0 h).bind fun r108 =>
    if r108.1 ≤ x3 then
      k100 x0 x1 ((x2 + (-1))) r108.2
    else
      f_X7_sing_117 fu k89 k100 (fun y0 y1 y2 y3 hy => f_X7_sing_106 fu k89 k100 n y0 y1 y2 y3 hy) fu x0 x1 x2 x3 0 r108.2
set_option maxHeartbeats 4000000 in
set_option maxRecDepth 100000 in
theorem w_X7_sing_106 {X : Cx} {D : Dx} (hE : En X D cX7_sing 5 RX7 none rm_X7_sing) {fu : Nat} {k89 : Nat → Int32 → Hp → Option (Unit × Hp)} {k100 : Nat → Int32 → Int32 → Hp → Option (Unit × Hp)} (hk89 : ∀ (x0 : Nat) (x1 : Int32) (h : Hp) (lv : List (Option Value)), lvLe [some (.ref x0), some (.int x1), none, none, none] lv → Wo X D 5 (Qr X D 0 0 evU) 0 0 (k89 x0 x1 h) 89 lv [] h) (hk100 : ∀ (x0 : Nat) (x1 : Int32) (x2 : Int32) (h : Hp) (lv : List (Option Value)), lvLe [some (.ref x0), some (.int x1), some (.int x2), none, none] lv → Wo X D 5 (Qr X D 0 0 evU) 0 0 (k100 x0 x1 x2 h) 100 lv [] h) : ∀ (n : Nat) (x0 : Nat) (x1 : Int32) (x2 : Int32) (x3 : Int32) (h : Hp) (lv : List (Option Value)), lvLe [some (.ref x0), some (.int x1), some (.int x2), some (.int x3), none] lv → Wo X D 5 (Qr X D 0 0 evU) 0 0 (f_X7_sing_106 fu k89 k100 n x0 x1 x2 x3 h) 106 lv [] h := by
  intro n
  induction n with
  | zero => intros; exact Wo_none
  | succ n ih =>
    intro x0 x1 x2 x3 h lv hlv
    refine Wo_sub hlv ?_
    rw [f_X7_sing_106]
    refine r_iload_n (pc := 106) hE dX7_sing_106 rfl ?_
    refine r_aload_n (pc := 107) hE dX7_sing_107 rfl ?_
    refine r_callV (pc := 108) hE 7 (As := []) (fun out ho => c_X7_cells _ _ fu _ _ out ho) (fun out ho => k_X7_cells ho) (by decide) rfl cs_RX7_90 ⟨Nat.le_of_ble_eq_true rfl, Nat.le_of_ble_eq_true rfl, Nat.le_of_ble_eq_true rfl, Nat.le_of_ble_eq_true rfl⟩ (Nat.le_of_ble_eq_true rfl) rfl dX7_sing_108 (fun r108 _ => ?_)
    refine r_icmp_ge (pc := 111) hE 145 dX7_sing_111 (by decide) (fun _ => ?_) (fun _ => ?_)
    · refine r_iinc (v := (x2 + (-1))) (pc := 145) hE dX7_sing_145 rfl rfl (by decide) ?_
      refine r_goto (pc := 148) hE 100 dX7_sing_148 (by decide) ?_
      exact hk100 _ _ _ _ _ ⟨rfl, ⟨rfl, ⟨rfl, trivial⟩⟩⟩
    · refine r_iconst (v := 0) (pc := 114) hE dX7_sing_114 (by decide) ?_
      refine r_istore (pc := 115) hE dX7_sing_115 (by decide) ?_
      exact w_X7_sing_117 hE hk89 hk100 (fun y0 y1 y2 y3 hy lvy hly => ih y0 y1 y2 y3 hy lvy hly) fu _ _ _ _ _ _ _ ⟨rfl, ⟨rfl, ⟨rfl, ⟨rfl, ⟨rfl, trivial⟩⟩⟩⟩⟩
def f_X7_sing_100 (fu : Nat) (k89 : Nat → Int32 → Hp → Option (Unit × Hp)) : Nat → Nat → Int32 → Int32 → Hp → Option (Unit × Hp)
  | 0, _, _, _, _ => none
  | n + 1, x0, x1, x2, h =>
    if x2 < 0 then
      f_X7_sing_153 fu k89 fu x0 x1 0 h
    else
      f_X7_sing_106 fu k89 (fun y0 y1 y2 hy => f_X7_sing_100 fu k89 n y0 y1 y2 hy) fu x0 x1 x2 0 h
set_option maxHeartbeats 4000000 in
set_option maxRecDepth 100000 in
theorem w_X7_sing_100 {X : Cx} {D : Dx} (hE : En X D cX7_sing 5 RX7 none rm_X7_sing) {fu : Nat} {k89 : Nat → Int32 → Hp → Option (Unit × Hp)} (hk89 : ∀ (x0 : Nat) (x1 : Int32) (h : Hp) (lv : List (Option Value)), lvLe [some (.ref x0), some (.int x1), none, none, none] lv → Wo X D 5 (Qr X D 0 0 evU) 0 0 (k89 x0 x1 h) 89 lv [] h) : ∀ (n : Nat) (x0 : Nat) (x1 : Int32) (x2 : Int32) (h : Hp) (lv : List (Option Value)), lvLe [some (.ref x0), some (.int x1), some (.int x2), none, none] lv → Wo X D 5 (Qr X D 0 0 evU) 0 0 (f_X7_sing_100 fu k89 n x0 x1 x2 h) 100 lv [] h := by
  intro n
  induction n with
  | zero => intros; exact Wo_none
  | succ n ih =>
    intro x0 x1 x2 h lv hlv
    refine Wo_sub hlv ?_
    rw [f_X7_sing_100]
    refine r_iload_n (pc := 100) hE dX7_sing_100 rfl ?_
    refine r_if_lt (pc := 101) hE 151 dX7_sing_101 (by decide) (fun _ => ?_) (fun _ => ?_)
    · refine r_iconst (v := 0) (pc := 151) hE dX7_sing_151 (by decide) ?_
      refine r_istore_n (pc := 152) hE dX7_sing_152 (by decide) ?_
      exact w_X7_sing_153 hE hk89 fu _ _ _ _ _ ⟨rfl, ⟨rfl, ⟨rfl, trivial⟩⟩⟩
    · refine r_iconst (v := 0) (pc := 104) hE dX7_sing_104 (by decide) ?_
      refine r_istore_n (pc := 105) hE dX7_sing_105 (by decide) ?_
      exact w_X7_sing_106 hE hk89 (fun y0 y1 y2 hy lvy hly => ih y0 y1 y2 hy lvy hly) fu _ _ _ _ _ _ ⟨rfl, ⟨rfl, ⟨rfl, ⟨rfl, trivial⟩⟩⟩⟩
def f_X7_sing_89 (fu : Nat) : Nat → Nat → Int32 → Hp → Option (Unit × Hp)
  | 0, _, _, _ => none
  | n + 1, x0, x1, h =>
    if x1 < 0 then
      some ((), h)
    else
      (gR h 7 x0 15).bind fun v94 =>
      (aI h 8 v94 x1).bind fun v98 =>
      f_X7_sing_100 fu (fun y0 y1 hy => f_X7_sing_89 fu n y0 y1 hy) fu x0 x1 v98 h
set_option maxHeartbeats 4000000 in
set_option maxRecDepth 100000 in
theorem w_X7_sing_89 {X : Cx} {D : Dx} (hE : En X D cX7_sing 5 RX7 none rm_X7_sing) {fu : Nat} : ∀ (n : Nat) (x0 : Nat) (x1 : Int32) (h : Hp) (lv : List (Option Value)), lvLe [some (.ref x0), some (.int x1), none, none, none] lv → Wo X D 5 (Qr X D 0 0 evU) 0 0 (f_X7_sing_89 fu n x0 x1 h) 89 lv [] h := by
  intro n
  induction n with
  | zero => intros; exact Wo_none
  | succ n ih =>
    intro x0 x1 h lv hlv
    refine Wo_sub hlv ?_
    rw [f_X7_sing_89]
    refine r_iload_n (pc := 89) hE dX7_sing_89 rfl ?_
    refine r_if_lt (pc := 90) hE 204 dX7_sing_90 (by decide) (fun _ => ?_) (fun _ => ?_)
    · exact r_vret (pc := 204) hE dX7_sing_204
    · refine r_aload_n (pc := 93) hE dX7_sing_93 rfl ?_
      refine r_getR (pc := 94) hE 7 15 (by decide) (by decide) (fun _ _ _ => rfl) fl_RX7_44 dX7_sing_94 (fun v94 _ => ?_)
      refine r_iload_n (pc := 97) hE dX7_sing_97 rfl ?_
      refine r_aldI (pc := 98) hE dX7_sing_98 (fun v98 _ => ?_)
      refine r_istore_n (pc := 99) hE dX7_sing_99 (by decide) ?_
      exact w_X7_sing_100 hE (fun y0 y1 hy lvy hly => ih y0 y1 hy lvy hly) fu _ _ _ _ _ ⟨rfl, ⟨rfl, ⟨rfl, trivial⟩⟩⟩
def f_X7_sing_69 (fu : Nat) (k2 : Nat → Int32 → Hp → Option (Unit × Hp)) (k12 : Nat → Int32 → Int32 → Hp → Option (Unit × Hp)) (x0 : Nat) (x1 : Int32) (x2 : Int32) (s0 : Nat) (s1 : Int32) (s2 : Int32) (h : Hp) : Option (Unit × Hp) :=
  (sI h 8 s0 s1 s2).bind fun h69 =>
  k12 x0 x1 ((x2 + 1)) h69
set_option maxHeartbeats 4000000 in
set_option maxRecDepth 100000 in
theorem w_X7_sing_69 {X : Cx} {D : Dx} (hE : En X D cX7_sing 5 RX7 none rm_X7_sing) {fu : Nat} {k2 : Nat → Int32 → Hp → Option (Unit × Hp)} {k12 : Nat → Int32 → Int32 → Hp → Option (Unit × Hp)} (hk2 : ∀ (x0 : Nat) (x1 : Int32) (h : Hp) (lv : List (Option Value)), lvLe [some (.ref x0), some (.int x1), none, none, none] lv → Wo X D 5 (Qr X D 0 0 evU) 0 0 (k2 x0 x1 h) 2 lv [] h) (hk12 : ∀ (x0 : Nat) (x1 : Int32) (x2 : Int32) (h : Hp) (lv : List (Option Value)), lvLe [some (.ref x0), some (.int x1), some (.int x2), none, none] lv → Wo X D 5 (Qr X D 0 0 evU) 0 0 (k12 x0 x1 x2 h) 12 lv [] h) (x0 : Nat) (x1 : Int32) (x2 : Int32) (s0 : Nat) (s1 : Int32) (s2 : Int32) (h : Hp) {lv : List (Option Value)} (hlv : lvLe [some (.ref x0), some (.int x1), some (.int x2), none, none] lv) : Wo X D 5 (Qr X D 0 0 evU) 0 0 (f_X7_sing_69 fu k2 k12 x0 x1 x2 s0 s1 s2 h) 69 lv [.int s2, .int s1, .ref s0] h := by
  refine Wo_sub hlv ?_
  unfold f_X7_sing_69
  refine r_astI (pc := 69) hE dX7_sing_69 (fun h69 _ => ?_)
  refine r_iinc (v := (x2 + 1)) (pc := 70) hE dX7_sing_70 rfl rfl (by decide) ?_
  refine r_goto (pc := 73) hE 12 dX7_sing_73 (by decide) ?_
  exact hk12 _ _ _ _ _ ⟨rfl, ⟨rfl, ⟨rfl, trivial⟩⟩⟩
def f_X7_sing_43 (fu : Nat) (k2 : Nat → Int32 → Hp → Option (Unit × Hp)) (k12 : Nat → Int32 → Int32 → Hp → Option (Unit × Hp)) (x0 : Nat) (x1 : Int32) (x2 : Int32) (s0 : Nat) (s1 : Int32) (s2 : Int32) (h : Hp) : Option (Unit × Hp) :=
  (sI h 8 s0 s1 s2).bind fun h43 =>
  (gR h43 7 x0 30).bind fun v45 =>
  (f_X7_at fu x0 0 x1 x2 h43).bind fun r52 =>
  (f_X7_isLand fu x0 x1 r52.2).bind fun r57 =>
  if r57.1 = 0 then
    f_X7_sing_69 fu k2 k12 x0 x1 x2 v45 r52.1 100000 r57.2
  else
    f_X7_sing_69 fu k2 k12 x0 x1 x2 v45 r52.1 0 r57.2
set_option maxHeartbeats 4000000 in
set_option maxRecDepth 100000 in
theorem w_X7_sing_43 {X : Cx} {D : Dx} (hE : En X D cX7_sing 5 RX7 none rm_X7_sing) {fu : Nat} {k2 : Nat → Int32 → Hp → Option (Unit × Hp)} {k12 : Nat → Int32 → Int32 → Hp → Option (Unit × Hp)} (hk2 : ∀ (x0 : Nat) (x1 : Int32) (h : Hp) (lv : List (Option Value)), lvLe [some (.ref x0), some (.int x1), none, none, none] lv → Wo X D 5 (Qr X D 0 0 evU) 0 0 (k2 x0 x1 h) 2 lv [] h) (hk12 : ∀ (x0 : Nat) (x1 : Int32) (x2 : Int32) (h : Hp) (lv : List (Option Value)), lvLe [some (.ref x0), some (.int x1), some (.int x2), none, none] lv → Wo X D 5 (Qr X D 0 0 evU) 0 0 (k12 x0 x1 x2 h) 12 lv [] h) (x0 : Nat) (x1 : Int32) (x2 : Int32) (s0 : Nat) (s1 : Int32) (s2 : Int32) (h : Hp) {lv : List (Option Value)} (hlv : lvLe [some (.ref x0), some (.int x1), some (.int x2), none, none] lv) : Wo X D 5 (Qr X D 0 0 evU) 0 0 (f_X7_sing_43 fu k2 k12 x0 x1 x2 s0 s1 s2 h) 43 lv [.int s2, .int s1, .ref s0] h := by
  refine Wo_sub hlv ?_
  unfold f_X7_sing_43
  refine r_astI (pc := 43) hE dX7_sing_43 (fun h43 _ => ?_)
  refine r_aload_n (pc := 44) hE dX7_sing_44 rfl ?_
  refine r_getR (pc := 45) hE 7 30 (by decide) (by decide) (fun _ _ _ => rfl) fl_RX7_68 dX7_sing_45 (fun v45 _ => ?_)
  refine r_aload_n (pc := 48) hE dX7_sing_48 rfl ?_
  refine r_iconst (v := 0) (pc := 49) hE dX7_sing_49 (by decide) ?_
  refine r_iload_n (pc := 50) hE dX7_sing_50 rfl ?_
  refine r_iload_n (pc := 51) hE dX7_sing_51 rfl ?_
  refine r_callV (pc := 52) hE 7 (As := [.int 0, .int x1, .int x2]) (fun out ho => c_X7_at _ _ fu _ _ _ _ _ out ho) (fun out ho => k_X7_at ho) (by decide) rfl cs_RX7_208 ⟨Nat.le_of_ble_eq_true rfl, Nat.le_of_ble_eq_true rfl, Nat.le_of_ble_eq_true rfl, Nat.le_of_ble_eq_true rfl⟩ (Nat.le_of_ble_eq_true rfl) rfl dX7_sing_52 (fun r52 _ => ?_)
  refine r_aload_n (pc := 55) hE dX7_sing_55 rfl ?_
  refine r_iload_n (pc := 56) hE dX7_sing_56 rfl ?_
  refine r_callV (pc := 57) hE 7 (As := [.int x1]) (fun out ho => c_X7_isLand _ _ fu _ _ _ out ho) (fun out ho => k_X7_isLand ho) (by decide) rfl cs_RX7_117 ⟨Nat.le_of_ble_eq_true rfl, Nat.le_of_ble_eq_true rfl, Nat.le_of_ble_eq_true rfl, Nat.le_of_ble_eq_true rfl⟩ (Nat.le_of_ble_eq_true rfl) rfl dX7_sing_57 (fun r57 _ => ?_)
  refine r_if_eq (pc := 60) hE 67 dX7_sing_60 (by decide) (fun _ => ?_) (fun _ => ?_)
  · refine r_ldc (v := 100000) (pc := 67) hE ct_RX7_211 dX7_sing_67 ?_
    exact w_X7_sing_69 hE hk2 hk12 _ _ _ _ _ _ _ ⟨rfl, ⟨rfl, ⟨rfl, trivial⟩⟩⟩
  · refine r_iconst (v := 0) (pc := 63) hE dX7_sing_63 (by decide) ?_
    refine r_goto (pc := 64) hE 69 dX7_sing_64 (by decide) ?_
    exact w_X7_sing_69 hE hk2 hk12 _ _ _ _ _ _ _ ⟨rfl, ⟨rfl, ⟨rfl, trivial⟩⟩⟩
def f_X7_sing_12 (fu : Nat) (k2 : Nat → Int32 → Hp → Option (Unit × Hp)) : Nat → Nat → Int32 → Int32 → Hp → Option (Unit × Hp)
  | 0, _, _, _, _ => none
  | n + 1, x0, x1, x2, h =>
    if 6 ≤ x2 then
      k2 x0 ((x1 + 1)) h
    else
      (gR h 7 x0 29).bind fun v19 =>
      (f_X7_at fu x0 0 x1 x2 h).bind fun r26 =>
      (f_X7_isLand fu x0 x1 r26.2).bind fun r31 =>
      if r31.1 = 0 then
        f_X7_sing_43 fu k2 (fun y0 y1 y2 hy => f_X7_sing_12 fu k2 n y0 y1 y2 hy) x0 x1 x2 v19 r26.1 100000 r31.2
      else
        f_X7_sing_43 fu k2 (fun y0 y1 y2 hy => f_X7_sing_12 fu k2 n y0 y1 y2 hy) x0 x1 x2 v19 r26.1 0 r31.2
set_option maxHeartbeats 4000000 in
set_option maxRecDepth 100000 in
theorem w_X7_sing_12 {X : Cx} {D : Dx} (hE : En X D cX7_sing 5 RX7 none rm_X7_sing) {fu : Nat} {k2 : Nat → Int32 → Hp → Option (Unit × Hp)} (hk2 : ∀ (x0 : Nat) (x1 : Int32) (h : Hp) (lv : List (Option Value)), lvLe [some (.ref x0), some (.int x1), none, none, none] lv → Wo X D 5 (Qr X D 0 0 evU) 0 0 (k2 x0 x1 h) 2 lv [] h) : ∀ (n : Nat) (x0 : Nat) (x1 : Int32) (x2 : Int32) (h : Hp) (lv : List (Option Value)), lvLe [some (.ref x0), some (.int x1), some (.int x2), none, none] lv → Wo X D 5 (Qr X D 0 0 evU) 0 0 (f_X7_sing_12 fu k2 n x0 x1 x2 h) 12 lv [] h := by
  intro n
  induction n with
  | zero => intros; exact Wo_none
  | succ n ih =>
    intro x0 x1 x2 h lv hlv
    refine Wo_sub hlv ?_
    rw [f_X7_sing_12]
    refine r_iload_n (pc := 12) hE dX7_sing_12 rfl ?_
    refine r_bipush (v := 6) (pc := 13) hE dX7_sing_13 (by decide) ?_
    refine r_icmp_ge (pc := 15) hE 76 dX7_sing_15 (by decide) (fun _ => ?_) (fun _ => ?_)
    · refine r_iinc (v := (x1 + 1)) (pc := 76) hE dX7_sing_76 rfl rfl (by decide) ?_
      refine r_goto (pc := 79) hE 2 dX7_sing_79 (by decide) ?_
      exact hk2 _ _ _ _ ⟨rfl, ⟨rfl, trivial⟩⟩
    · refine r_aload_n (pc := 18) hE dX7_sing_18 rfl ?_
      refine r_getR (pc := 19) hE 7 29 (by decide) (by decide) (fun _ _ _ => rfl) fl_RX7_65 dX7_sing_19 (fun v19 _ => ?_)
      refine r_aload_n (pc := 22) hE dX7_sing_22 rfl ?_
      refine r_iconst (v := 0) (pc := 23) hE dX7_sing_23 (by decide) ?_
      refine r_iload_n (pc := 24) hE dX7_sing_24 rfl ?_
      refine r_iload_n (pc := 25) hE dX7_sing_25 rfl ?_
      refine r_callV (pc := 26) hE 7 (As := [.int 0, .int x1, .int x2]) (fun out ho => c_X7_at _ _ fu _ _ _ _ _ out ho) (fun out ho => k_X7_at ho) (by decide) rfl cs_RX7_208 ⟨Nat.le_of_ble_eq_true rfl, Nat.le_of_ble_eq_true rfl, Nat.le_of_ble_eq_true rfl, Nat.le_of_ble_eq_true rfl⟩ (Nat.le_of_ble_eq_true rfl) rfl dX7_sing_26 (fun r26 _ => ?_)
      refine r_aload_n (pc := 29) hE dX7_sing_29 rfl ?_
      refine r_iload_n (pc := 30) hE dX7_sing_30 rfl ?_
      refine r_callV (pc := 31) hE 7 (As := [.int x1]) (fun out ho => c_X7_isLand _ _ fu _ _ _ out ho) (fun out ho => k_X7_isLand ho) (by decide) rfl cs_RX7_117 ⟨Nat.le_of_ble_eq_true rfl, Nat.le_of_ble_eq_true rfl, Nat.le_of_ble_eq_true rfl, Nat.le_of_ble_eq_true rfl⟩ (Nat.le_of_ble_eq_true rfl) rfl dX7_sing_31 (fun r31 _ => ?_)
      refine r_if_eq (pc := 34) hE 41 dX7_sing_34 (by decide) (fun _ => ?_) (fun _ => ?_)
      · refine r_ldc (v := 100000) (pc := 41) hE ct_RX7_211 dX7_sing_41 ?_
        exact w_X7_sing_43 hE hk2 (fun y0 y1 y2 hy lvy hly => ih y0 y1 y2 hy lvy hly) _ _ _ _ _ _ _ ⟨rfl, ⟨rfl, ⟨rfl, trivial⟩⟩⟩
      · refine r_iconst (v := 0) (pc := 37) hE dX7_sing_37 (by decide) ?_
        refine r_goto (pc := 38) hE 43 dX7_sing_38 (by decide) ?_
        exact w_X7_sing_43 hE hk2 (fun y0 y1 y2 hy lvy hly => ih y0 y1 y2 hy lvy hly) _ _ _ _ _ _ _ ⟨rfl, ⟨rfl, ⟨rfl, trivial⟩⟩⟩
def f_X7_sing_2 (fu : Nat) : Nat → Nat → Int32 → Hp → Option (Unit × Hp)
  | 0, _, _, _ => none
  | n + 1, x0, x1, h =>
    (f_X7_cells fu x0 h).bind fun r4 =>
    if r4.1 ≤ x1 then
      (gI r4.2 7 x0 11).bind fun v83 =>
      f_X7_sing_89 fu fu x0 ((v83 - 1)) r4.2
    else
      f_X7_sing_12 fu (fun y0 y1 hy => f_X7_sing_2 fu n y0 y1 hy) fu x0 x1 0 r4.2
set_option maxHeartbeats 4000000 in
set_option maxRecDepth 100000 in
theorem w_X7_sing_2 {X : Cx} {D : Dx} (hE : En X D cX7_sing 5 RX7 none rm_X7_sing) {fu : Nat} : ∀ (n : Nat) (x0 : Nat) (x1 : Int32) (h : Hp) (lv : List (Option Value)), lvLe [some (.ref x0), some (.int x1), none, none, none] lv → Wo X D 5 (Qr X D 0 0 evU) 0 0 (f_X7_sing_2 fu n x0 x1 h) 2 lv [] h := by
  intro n
  induction n with
  | zero => intros; exact Wo_none
  | succ n ih =>
    intro x0 x1 h lv hlv
    refine Wo_sub hlv ?_
    rw [f_X7_sing_2]
    refine r_iload_n (pc := 2) hE dX7_sing_2 rfl ?_
    refine r_aload_n (pc := 3) hE dX7_sing_3 rfl ?_
    refine r_callV (pc := 4) hE 7 (As := []) (fun out ho => c_X7_cells _ _ fu _ _ out ho) (fun out ho => k_X7_cells ho) (by decide) rfl cs_RX7_90 ⟨Nat.le_of_ble_eq_true rfl, Nat.le_of_ble_eq_true rfl, Nat.le_of_ble_eq_true rfl, Nat.le_of_ble_eq_true rfl⟩ (Nat.le_of_ble_eq_true rfl) rfl dX7_sing_4 (fun r4 _ => ?_)
    refine r_icmp_ge (pc := 7) hE 82 dX7_sing_7 (by decide) (fun _ => ?_) (fun _ => ?_)
    · refine r_aload_n (pc := 82) hE dX7_sing_82 rfl ?_
      refine r_getI (pc := 83) hE 7 11 (by decide) (by decide) (fun _ _ _ => rfl) fl_RX7_127 dX7_sing_83 (fun v83 _ => ?_)
      refine r_iconst (v := 1) (pc := 86) hE dX7_sing_86 (by decide) ?_
      refine r_isub (pc := 87) hE dX7_sing_87 ?_
      refine r_istore_n (pc := 88) hE dX7_sing_88 (by decide) ?_
      exact w_X7_sing_89 hE fu _ _ _ _ ⟨rfl, ⟨rfl, trivial⟩⟩
    · refine r_iconst (v := 0) (pc := 10) hE dX7_sing_10 (by decide) ?_
      refine r_istore_n (pc := 11) hE dX7_sing_11 (by decide) ?_
      exact w_X7_sing_12 hE (fun y0 y1 hy lvy hly => ih y0 y1 hy lvy hly) fu _ _ _ _ _ ⟨rfl, ⟨rfl, ⟨rfl, trivial⟩⟩⟩
def f_X7_sing (fu : Nat) (x0 : Nat) (h : Hp) : Option (Unit × Hp) :=
  if h.K x0 = 7 then
    f_X7_sing_2 fu fu x0 0 h
  else none
set_option maxHeartbeats 4000000 in
set_option maxRecDepth 100000 in
theorem c_X7_sing (l : Launch) (D : Dx) (fu : Nat) (x0 : Nat) (h : Hp) (out : Unit × Hp) (ho : f_X7_sing fu x0 h = some out) : Ct l D yX7_sing cX7_sing 5 none rm_X7_sing [.ref x0] h (evU out.1) out.2 := by
  refine Ct.of (o := f_X7_sing fu x0 h) (lv := [some (.ref x0), none, none, none, none]) (by decide) (Nat.le_of_ble_eq_true rfl) rfl ?_ out ho
  intro X hXl hE hin
  replace hE : En X D cX7_sing 5 RX7 none rm_X7_sing := hE
  subst hXl
  unfold f_X7_sing
  refine Wo_grd (fun _ => ?_)
  refine r_iconst (v := 0) (pc := 0) hE dX7_sing_0 (by decide) ?_
  refine r_istore_n (pc := 1) hE dX7_sing_1 (by decide) ?_
  exact w_X7_sing_2 hE fu _ _ _ _ ⟨rfl, ⟨rfl, trivial⟩⟩
theorem k_X7_sing {fu : Nat} {x0 : Nat} {h : Hp} {out : Unit × Hp} (ho : f_X7_sing fu x0 h = some out) : h.K x0 = 7 := (gi_k ho).1
theorem cs_RX7_220 : csV RX7 220 yX7_sing cX7_sing 5 none 0 = true := by decide +kernel
def rm_X7_sure : Room := { frames := 5, cells := 0, slots := 0, locals := 120 }
def f_X7_sure_129 (fu : Nat) (k32 : Nat → Int32 → Int32 → Int32 → Int32 → Int32 → Hp → Option (Int32 × Hp)) (x0 : Nat) (x1 : Int32) (x2 : Int32) (x3 : Int32) (x4 : Int32) (x5 : Int32) (h : Hp) : Option (Int32 × Hp) :=
  k32 x0 x1 x2 x3 x4 ((x5 + 1)) h
set_option maxHeartbeats 4000000 in
set_option maxRecDepth 100000 in
theorem w_X7_sure_129 {X : Cx} {D : Dx} (hE : En X D cX7_sure 7 RX7 (some .int) rm_X7_sure) {fu : Nat} {k32 : Nat → Int32 → Int32 → Int32 → Int32 → Int32 → Hp → Option (Int32 × Hp)} (hk32 : ∀ (x0 : Nat) (x1 : Int32) (x2 : Int32) (x3 : Int32) (x4 : Int32) (x5 : Int32) (h : Hp) (lv : List (Option Value)), lvLe [some (.ref x0), some (.int x1), some (.int x2), some (.int x3), some (.int x4), some (.int x5), none] lv → Wo X D 7 (Qr X D 0 0 evI) 0 0 (k32 x0 x1 x2 x3 x4 x5 h) 32 lv [] h) (x0 : Nat) (x1 : Int32) (x2 : Int32) (x3 : Int32) (x4 : Int32) (x5 : Int32) (h : Hp) {lv : List (Option Value)} (hlv : lvLe [some (.ref x0), some (.int x1), some (.int x2), some (.int x3), some (.int x4), some (.int x5), none] lv) : Wo X D 7 (Qr X D 0 0 evI) 0 0 (f_X7_sure_129 fu k32 x0 x1 x2 x3 x4 x5 h) 129 lv [] h := by
  refine Wo_sub hlv ?_
  unfold f_X7_sure_129
  refine r_iinc (v := (x5 + 1)) (pc := 129) hE dX7_sure_129 rfl rfl (by decide) ?_
  refine r_goto (pc := 132) hE 32 dX7_sure_132 (by decide) ?_
  exact hk32 _ _ _ _ _ _ _ _ ⟨rfl, ⟨rfl, ⟨rfl, ⟨rfl, ⟨rfl, ⟨rfl, trivial⟩⟩⟩⟩⟩⟩
def f_X7_sure_110 (fu : Nat) (k32 : Nat → Int32 → Int32 → Int32 → Int32 → Int32 → Hp → Option (Int32 × Hp)) (x0 : Nat) (x1 : Int32) (x2 : Int32) (x3 : Int32) (x4 : Int32) (x5 : Int32) (x6 : Int32) (h : Hp) : Option (Int32 × Hp) :=
  (gR h 7 x0 30).bind fun v111 =>
  (aI h 8 v111 x6).bind fun v116 =>
  if x3 ≤ v116 then
    f_X7_sure_129 fu k32 x0 x1 x2 x3 x4 x5 h
  else
    (gR h 7 x0 30).bind fun v122 =>
    (aI h 8 v122 x6).bind fun v127 =>
    f_X7_sure_129 fu k32 x0 x1 x2 v127 x4 x5 h
set_option maxHeartbeats 4000000 in
set_option maxRecDepth 100000 in
theorem w_X7_sure_110 {X : Cx} {D : Dx} (hE : En X D cX7_sure 7 RX7 (some .int) rm_X7_sure) {fu : Nat} {k32 : Nat → Int32 → Int32 → Int32 → Int32 → Int32 → Hp → Option (Int32 × Hp)} (hk32 : ∀ (x0 : Nat) (x1 : Int32) (x2 : Int32) (x3 : Int32) (x4 : Int32) (x5 : Int32) (h : Hp) (lv : List (Option Value)), lvLe [some (.ref x0), some (.int x1), some (.int x2), some (.int x3), some (.int x4), some (.int x5), none] lv → Wo X D 7 (Qr X D 0 0 evI) 0 0 (k32 x0 x1 x2 x3 x4 x5 h) 32 lv [] h) (x0 : Nat) (x1 : Int32) (x2 : Int32) (x3 : Int32) (x4 : Int32) (x5 : Int32) (x6 : Int32) (h : Hp) {lv : List (Option Value)} (hlv : lvLe [some (.ref x0), some (.int x1), some (.int x2), some (.int x3), some (.int x4), some (.int x5), some (.int x6)] lv) : Wo X D 7 (Qr X D 0 0 evI) 0 0 (f_X7_sure_110 fu k32 x0 x1 x2 x3 x4 x5 x6 h) 110 lv [] h := by
  refine Wo_sub hlv ?_
  unfold f_X7_sure_110
  refine r_aload_n (pc := 110) hE dX7_sure_110 rfl ?_
  refine r_getR (pc := 111) hE 7 30 (by decide) (by decide) (fun _ _ _ => rfl) fl_RX7_68 dX7_sure_111 (fun v111 _ => ?_)
  refine r_iload (pc := 114) hE dX7_sure_114 rfl ?_
  refine r_aldI (pc := 116) hE dX7_sure_116 (fun v116 _ => ?_)
  refine r_iload_n (pc := 117) hE dX7_sure_117 rfl ?_
  refine r_icmp_ge (pc := 118) hE 129 dX7_sure_118 (by decide) (fun _ => ?_) (fun _ => ?_)
  · exact w_X7_sure_129 hE hk32 _ _ _ _ _ _ _ ⟨rfl, ⟨rfl, ⟨rfl, ⟨rfl, ⟨rfl, ⟨rfl, trivial⟩⟩⟩⟩⟩⟩
  · refine r_aload_n (pc := 121) hE dX7_sure_121 rfl ?_
    refine r_getR (pc := 122) hE 7 30 (by decide) (by decide) (fun _ _ _ => rfl) fl_RX7_68 dX7_sure_122 (fun v122 _ => ?_)
    refine r_iload (pc := 125) hE dX7_sure_125 rfl ?_
    refine r_aldI (pc := 127) hE dX7_sure_127 (fun v127 _ => ?_)
    refine r_istore_n (pc := 128) hE dX7_sure_128 (by decide) ?_
    exact w_X7_sure_129 hE hk32 _ _ _ _ _ _ _ ⟨rfl, ⟨rfl, ⟨rfl, ⟨rfl, ⟨rfl, ⟨rfl, trivial⟩⟩⟩⟩⟩⟩
def f_X7_sure_91 (fu : Nat) (k32 : Nat → Int32 → Int32 → Int32 → Int32 → Int32 → Hp → Option (Int32 × Hp)) (x0 : Nat) (x1 : Int32) (x2 : Int32) (x3 : Int32) (x4 : Int32) (x5 : Int32) (x6 : Int32) (h : Hp) : Option (Int32 × Hp) :=
  (gR h 7 x0 29).bind fun v92 =>
  (aI h 8 v92 x6).bind fun v97 =>
  if v97 ≤ x2 then
    f_X7_sure_110 fu k32 x0 x1 x2 x3 x4 x5 x6 h
  else
    (gR h 7 x0 29).bind fun v103 =>
    (aI h 8 v103 x6).bind fun v108 =>
    f_X7_sure_110 fu k32 x0 x1 v108 x3 x4 x5 x6 h
set_option maxHeartbeats 4000000 in
set_option maxRecDepth 100000 in
theorem w_X7_sure_91 {X : Cx} {D : Dx} (hE : En X D cX7_sure 7 RX7 (some .int) rm_X7_sure) {fu : Nat} {k32 : Nat → Int32 → Int32 → Int32 → Int32 → Int32 → Hp → Option (Int32 × Hp)} (hk32 : ∀ (x0 : Nat) (x1 : Int32) (x2 : Int32) (x3 : Int32) (x4 : Int32) (x5 : Int32) (h : Hp) (lv : List (Option Value)), lvLe [some (.ref x0), some (.int x1), some (.int x2), some (.int x3), some (.int x4), some (.int x5), none] lv → Wo X D 7 (Qr X D 0 0 evI) 0 0 (k32 x0 x1 x2 x3 x4 x5 h) 32 lv [] h) (x0 : Nat) (x1 : Int32) (x2 : Int32) (x3 : Int32) (x4 : Int32) (x5 : Int32) (x6 : Int32) (h : Hp) {lv : List (Option Value)} (hlv : lvLe [some (.ref x0), some (.int x1), some (.int x2), some (.int x3), some (.int x4), some (.int x5), some (.int x6)] lv) : Wo X D 7 (Qr X D 0 0 evI) 0 0 (f_X7_sure_91 fu k32 x0 x1 x2 x3 x4 x5 x6 h) 91 lv [] h := by
  refine Wo_sub hlv ?_
  unfold f_X7_sure_91
  refine r_aload_n (pc := 91) hE dX7_sure_91 rfl ?_
  refine r_getR (pc := 92) hE 7 29 (by decide) (by decide) (fun _ _ _ => rfl) fl_RX7_65 dX7_sure_92 (fun v92 _ => ?_)
  refine r_iload (pc := 95) hE dX7_sure_95 rfl ?_
  refine r_aldI (pc := 97) hE dX7_sure_97 (fun v97 _ => ?_)
  refine r_iload_n (pc := 98) hE dX7_sure_98 rfl ?_
  refine r_icmp_le (pc := 99) hE 110 dX7_sure_99 (by decide) (fun _ => ?_) (fun _ => ?_)
  · exact w_X7_sure_110 hE hk32 _ _ _ _ _ _ _ _ ⟨rfl, ⟨rfl, ⟨rfl, ⟨rfl, ⟨rfl, ⟨rfl, ⟨rfl, trivial⟩⟩⟩⟩⟩⟩⟩
  · refine r_aload_n (pc := 102) hE dX7_sure_102 rfl ?_
    refine r_getR (pc := 103) hE 7 29 (by decide) (by decide) (fun _ _ _ => rfl) fl_RX7_65 dX7_sure_103 (fun v103 _ => ?_)
    refine r_iload (pc := 106) hE dX7_sure_106 rfl ?_
    refine r_aldI (pc := 108) hE dX7_sure_108 (fun v108 _ => ?_)
    refine r_istore_n (pc := 109) hE dX7_sure_109 (by decide) ?_
    exact w_X7_sure_110 hE hk32 _ _ _ _ _ _ _ _ ⟨rfl, ⟨rfl, ⟨rfl, ⟨rfl, ⟨rfl, ⟨rfl, ⟨rfl, trivial⟩⟩⟩⟩⟩⟩⟩
def f_X7_sure_32 (fu : Nat) : Nat → Nat → Int32 → Int32 → Int32 → Int32 → Int32 → Hp → Option (Int32 × Hp)
  | 0, _, _, _, _, _, _, _ => none
  | n + 1, x0, x1, x2, x3, x4, x5, h =>
    (f_X7_cells fu x0 h).bind fun r35 =>
    if r35.1 ≤ x5 then
      if x1 = 0 then
        if x2 < 100000 then
          some (x2, r35.2)
        else
          some ((-1), r35.2)
      else
        if x1 = 1 then
          if x3 < 100000 then
            some (x3, r35.2)
          else
            some ((-1), r35.2)
        else
          some (x4, r35.2)
    else
      (gJ r35.2 7 x0 4).bind fun v43 =>
      (f_X7_has fu x0 v43 x5 r35.2).bind fun r48 =>
      if r48.1 = 0 then
        f_X7_sure_129 fu (fun y0 y1 y2 y3 y4 y5 hy => f_X7_sure_32 fu n y0 y1 y2 y3 y4 y5 hy) x0 x1 x2 x3 x4 x5 r48.2
      else
        (gI r48.2 7 x0 3).bind fun v62 =>
        (f_X7_at fu x0 0 x5 (rem v62 6) r48.2).bind fun r68 =>
        (gR r68.2 7 x0 29).bind fun v74 =>
        (aI r68.2 8 v74 r68.1).bind fun v79 =>
        if v79 < 100000 then
          f_X7_sure_91 fu (fun y0 y1 y2 y3 y4 y5 hy => f_X7_sure_32 fu n y0 y1 y2 y3 y4 y5 hy) x0 x1 x2 x3 x4 x5 r68.1 r68.2
        else
          f_X7_sure_91 fu (fun y0 y1 y2 y3 y4 y5 hy => f_X7_sure_32 fu n y0 y1 y2 y3 y4 y5 hy) x0 x1 x2 x3 ((x4 + 1)) x5 r68.1 r68.2
set_option maxHeartbeats 4000000 in
set_option maxRecDepth 100000 in
theorem w_X7_sure_32 {X : Cx} {D : Dx} (hE : En X D cX7_sure 7 RX7 (some .int) rm_X7_sure) {fu : Nat} : ∀ (n : Nat) (x0 : Nat) (x1 : Int32) (x2 : Int32) (x3 : Int32) (x4 : Int32) (x5 : Int32) (h : Hp) (lv : List (Option Value)), lvLe [some (.ref x0), some (.int x1), some (.int x2), some (.int x3), some (.int x4), some (.int x5), none] lv → Wo X D 7 (Qr X D 0 0 evI) 0 0 (f_X7_sure_32 fu n x0 x1 x2 x3 x4 x5 h) 32 lv [] h := by
  intro n
  induction n with
  | zero => intros; exact Wo_none
  | succ n ih =>
    intro x0 x1 x2 x3 x4 x5 h lv hlv
    refine Wo_sub hlv ?_
    rw [f_X7_sure_32]
    refine r_iload (pc := 32) hE dX7_sure_32 rfl ?_
    refine r_aload_n (pc := 34) hE dX7_sure_34 rfl ?_
    refine r_callV (pc := 35) hE 7 (As := []) (fun out ho => c_X7_cells _ _ fu _ _ out ho) (fun out ho => k_X7_cells ho) (by decide) rfl cs_RX7_90 ⟨Nat.le_of_ble_eq_true rfl, Nat.le_of_ble_eq_true rfl, Nat.le_of_ble_eq_true rfl, Nat.le_of_ble_eq_true rfl⟩ (Nat.le_of_ble_eq_true rfl) rfl dX7_sure_35 (fun r35 _ => ?_)
    refine r_icmp_ge (pc := 38) hE 135 dX7_sure_38 (by decide) (fun _ => ?_) (fun _ => ?_)
    · refine r_iload_n (pc := 135) hE dX7_sure_135 rfl ?_
      refine r_if_ne (pc := 136) hE 151 dX7_sure_136 (by decide) (fun _ => ?_) (fun _ => ?_)
      · refine r_iload_n (pc := 151) hE dX7_sure_151 rfl ?_
        refine r_iconst (v := 1) (pc := 152) hE dX7_sure_152 (by decide) ?_
        refine r_icmp_ne (pc := 153) hE 168 dX7_sure_153 (by decide) (fun _ => ?_) (fun _ => ?_)
        · refine r_iload (pc := 168) hE dX7_sure_168 rfl ?_
          exact r_iret (pc := 170) hE dX7_sure_170
        · refine r_iload_n (pc := 156) hE dX7_sure_156 rfl ?_
          refine r_ldc (v := 100000) (pc := 157) hE ct_RX7_211 dX7_sure_157 ?_
          refine r_icmp_lt (pc := 159) hE 166 dX7_sure_159 (by decide) (fun _ => ?_) (fun _ => ?_)
          · refine r_iload_n (pc := 166) hE dX7_sure_166 rfl ?_
            exact r_iret (pc := 167) hE dX7_sure_167
          · refine r_iconst (v := -1) (pc := 162) hE dX7_sure_162 (by decide) ?_
            refine r_goto (pc := 163) hE 167 dX7_sure_163 (by decide) ?_
            exact r_iret (pc := 167) hE dX7_sure_167
      · refine r_iload_n (pc := 139) hE dX7_sure_139 rfl ?_
        refine r_ldc (v := 100000) (pc := 140) hE ct_RX7_211 dX7_sure_140 ?_
        refine r_icmp_lt (pc := 142) hE 149 dX7_sure_142 (by decide) (fun _ => ?_) (fun _ => ?_)
        · refine r_iload_n (pc := 149) hE dX7_sure_149 rfl ?_
          exact r_iret (pc := 150) hE dX7_sure_150
        · refine r_iconst (v := -1) (pc := 145) hE dX7_sure_145 (by decide) ?_
          refine r_goto (pc := 146) hE 150 dX7_sure_146 (by decide) ?_
          exact r_iret (pc := 150) hE dX7_sure_150
    · refine r_aload_n (pc := 41) hE dX7_sure_41 rfl ?_
      refine r_aload_n (pc := 42) hE dX7_sure_42 rfl ?_
      refine r_getJ (pc := 43) hE 7 4 (by decide) (by decide) (fun _ _ _ => rfl) fl_RX7_18 dX7_sure_43 (fun v43 _ => ?_)
      refine r_iload (pc := 46) hE dX7_sure_46 rfl ?_
      refine r_callV (pc := 48) hE 7 (As := [.long v43, .int x5]) (fun out ho => c_X7_has _ _ fu _ _ _ _ out ho) (fun out ho => k_X7_has ho) (by decide) rfl cs_RX7_96 ⟨Nat.le_of_ble_eq_true rfl, Nat.le_of_ble_eq_true rfl, Nat.le_of_ble_eq_true rfl, Nat.le_of_ble_eq_true rfl⟩ (Nat.le_of_ble_eq_true rfl) rfl dX7_sure_48 (fun r48 _ => ?_)
      refine r_if_ne (pc := 51) hE 57 dX7_sure_51 (by decide) (fun _ => ?_) (fun _ => ?_)
      · refine r_aload_n (pc := 57) hE dX7_sure_57 rfl ?_
        refine r_iconst (v := 0) (pc := 58) hE dX7_sure_58 (by decide) ?_
        refine r_iload (pc := 59) hE dX7_sure_59 rfl ?_
        refine r_aload_n (pc := 61) hE dX7_sure_61 rfl ?_
        refine r_getI (pc := 62) hE 7 3 (by decide) (by decide) (fun _ _ _ => rfl) fl_RX7_100 dX7_sure_62 (fun v62 _ => ?_)
        refine r_bipush (v := 6) (pc := 65) hE dX7_sure_65 (by decide) ?_
        refine r_irem (pc := 67) hE dX7_sure_67 (by decide) ?_
        refine r_callV (pc := 68) hE 7 (As := [.int 0, .int x5, .int (rem v62 6)]) (fun out ho => c_X7_at _ _ fu _ _ _ _ _ out ho) (fun out ho => k_X7_at ho) (by decide) rfl cs_RX7_208 ⟨Nat.le_of_ble_eq_true rfl, Nat.le_of_ble_eq_true rfl, Nat.le_of_ble_eq_true rfl, Nat.le_of_ble_eq_true rfl⟩ (Nat.le_of_ble_eq_true rfl) rfl dX7_sure_68 (fun r68 _ => ?_)
        refine r_istore (pc := 71) hE dX7_sure_71 (by decide) ?_
        refine r_aload_n (pc := 73) hE dX7_sure_73 rfl ?_
        refine r_getR (pc := 74) hE 7 29 (by decide) (by decide) (fun _ _ _ => rfl) fl_RX7_65 dX7_sure_74 (fun v74 _ => ?_)
        refine r_iload (pc := 77) hE dX7_sure_77 rfl ?_
        refine r_aldI (pc := 79) hE dX7_sure_79 (fun v79 _ => ?_)
        refine r_ldc (v := 100000) (pc := 80) hE ct_RX7_211 dX7_sure_80 ?_
        refine r_icmp_lt (pc := 82) hE 91 dX7_sure_82 (by decide) (fun _ => ?_) (fun _ => ?_)
        · exact w_X7_sure_91 hE (fun y0 y1 y2 y3 y4 y5 hy lvy hly => ih y0 y1 y2 y3 y4 y5 hy lvy hly) _ _ _ _ _ _ _ _ ⟨rfl, ⟨rfl, ⟨rfl, ⟨rfl, ⟨rfl, ⟨rfl, ⟨rfl, trivial⟩⟩⟩⟩⟩⟩⟩
        · refine r_iload (pc := 85) hE dX7_sure_85 rfl ?_
          refine r_iconst (v := 1) (pc := 87) hE dX7_sure_87 (by decide) ?_
          refine r_iadd (pc := 88) hE dX7_sure_88 ?_
          refine r_istore (pc := 89) hE dX7_sure_89 (by decide) ?_
          exact w_X7_sure_91 hE (fun y0 y1 y2 y3 y4 y5 hy lvy hly => ih y0 y1 y2 y3 y4 y5 hy lvy hly) _ _ _ _ _ _ _ _ ⟨rfl, ⟨rfl, ⟨rfl, ⟨rfl, ⟨rfl, ⟨rfl, ⟨rfl, trivial⟩⟩⟩⟩⟩⟩⟩
      · refine r_goto (pc := 54) hE 129 dX7_sure_54 (by decide) ?_
        exact w_X7_sure_129 hE (fun y0 y1 y2 y3 y4 y5 hy lvy hly => ih y0 y1 y2 y3 y4 y5 hy lvy hly) _ _ _ _ _ _ _ ⟨rfl, ⟨rfl, ⟨rfl, ⟨rfl, ⟨rfl, ⟨rfl, trivial⟩⟩⟩⟩⟩⟩
def f_X7_sure (fu : Nat) (x0 : Nat) (x1 : Int32) (h : Hp) : Option (Int32 × Hp) :=
  if h.K x0 = 7 then
    (pI h 7 x0 0 0).bind fun h2 =>
    if x1 < 0 then
      some ((-2), h2)
    else
      if x1 ≤ 2 then
        (f_X7_sing fu x0 h2).bind fun r18 =>
        f_X7_sure_32 fu fu x0 x1 0 100000 0 0 r18.2
      else
        some ((-2), h2)
  else none
set_option maxHeartbeats 4000000 in
set_option maxRecDepth 100000 in
theorem c_X7_sure (l : Launch) (D : Dx) (fu : Nat) (x0 : Nat) (x1 : Int32) (h : Hp) (out : Int32 × Hp) (ho : f_X7_sure fu x0 x1 h = some out) : Ct l D yX7_sure cX7_sure 7 (some .int) rm_X7_sure [.ref x0, .int x1] h (evI out.1) out.2 := by
  refine Ct.of (o := f_X7_sure fu x0 x1 h) (lv := [some (.ref x0), some (.int x1), none, none, none, none, none]) (by decide) (Nat.le_of_ble_eq_true rfl) rfl ?_ out ho
  intro X hXl hE hin
  replace hE : En X D cX7_sure 7 RX7 (some .int) rm_X7_sure := hE
  subst hXl
  unfold f_X7_sure
  refine Wo_grd (fun _ => ?_)
  refine r_aload_n (pc := 0) hE dX7_sure_0 rfl ?_
  refine r_iconst (v := 0) (pc := 1) hE dX7_sure_1 (by decide) ?_
  refine r_putI (pc := 2) hE 7 0 (by decide) (by decide) (fun _ _ _ => rfl) fl_RX7_87 rfl rfl rfl dX7_sure_2 (fun h2 _ => ?_)
  refine r_iload_n (pc := 5) hE dX7_sure_5 rfl ?_
  refine r_if_lt (pc := 6) hE 14 dX7_sure_6 (by decide) (fun _ => ?_) (fun _ => ?_)
  · refine r_bipush (v := -2) (pc := 14) hE dX7_sure_14 (by decide) ?_
    exact r_iret (pc := 16) hE dX7_sure_16
  · refine r_iload_n (pc := 9) hE dX7_sure_9 rfl ?_
    refine r_iconst (v := 2) (pc := 10) hE dX7_sure_10 (by decide) ?_
    refine r_icmp_le (pc := 11) hE 17 dX7_sure_11 (by decide) (fun _ => ?_) (fun _ => ?_)
    · refine r_aload_n (pc := 17) hE dX7_sure_17 rfl ?_
      refine r_callV (pc := 18) hE 7 (As := []) (fun out ho => c_X7_sing _ _ fu _ _ out ho) (fun out ho => k_X7_sing ho) (by decide) rfl cs_RX7_220 ⟨Nat.le_of_ble_eq_true rfl, Nat.le_of_ble_eq_true rfl, Nat.le_of_ble_eq_true rfl, Nat.le_of_ble_eq_true rfl⟩ (Nat.le_of_ble_eq_true rfl) rfl dX7_sure_18 (fun r18 _ => ?_)
      refine r_iconst (v := 0) (pc := 21) hE dX7_sure_21 (by decide) ?_
      refine r_istore_n (pc := 22) hE dX7_sure_22 (by decide) ?_
      refine r_ldc (v := 100000) (pc := 23) hE ct_RX7_211 dX7_sure_23 ?_
      refine r_istore_n (pc := 25) hE dX7_sure_25 (by decide) ?_
      refine r_iconst (v := 0) (pc := 26) hE dX7_sure_26 (by decide) ?_
      refine r_istore (pc := 27) hE dX7_sure_27 (by decide) ?_
      refine r_iconst (v := 0) (pc := 29) hE dX7_sure_29 (by decide) ?_
      refine r_istore (pc := 30) hE dX7_sure_30 (by decide) ?_
      exact w_X7_sure_32 hE fu _ _ _ _ _ _ _ _ ⟨rfl, ⟨rfl, ⟨rfl, ⟨rfl, ⟨rfl, ⟨rfl, trivial⟩⟩⟩⟩⟩⟩
    · refine r_bipush (v := -2) (pc := 14) hE dX7_sure_14 (by decide) ?_
      exact r_iret (pc := 16) hE dX7_sure_16
theorem k_X7_sure {fu : Nat} {x0 : Nat} {x1 : Int32} {h : Hp} {out : Int32 × Hp} (ho : f_X7_sure fu x0 x1 h = some out) : h.K x0 = 7 := (gi_k ho).1
def rm_X7_from : Room := { frames := 5, cells := 0, slots := 0, locals := 120 }
def f_X7_from (fu : Nat) (x0 : Nat) (x1 : Int32) (h : Hp) : Option (Int32 × Hp) :=
  if h.K x0 = 7 then
    (pI h 7 x0 0 0).bind fun h2 =>
    (f_X7_isCell fu x0 x1 h2).bind fun r7 =>
    if r7.1 = 0 then
      some ((-2), r7.2)
    else
      (f_X7_sing fu x0 r7.2).bind fun r17 =>
      (gR r17.2 7 x0 29).bind fun v21 =>
      (gI r17.2 7 x0 3).bind fun v28 =>
      (f_X7_at fu x0 0 x1 (rem v28 6) r17.2).bind fun r34 =>
      (aI r34.2 8 v21 r34.1).bind fun v37 =>
      if v37 < 100000 then
        some (v37, r34.2)
      else
        some ((-1), r34.2)
  else none
set_option maxHeartbeats 4000000 in
set_option maxRecDepth 100000 in
theorem c_X7_from (l : Launch) (D : Dx) (fu : Nat) (x0 : Nat) (x1 : Int32) (h : Hp) (out : Int32 × Hp) (ho : f_X7_from fu x0 x1 h = some out) : Ct l D yX7_from cX7_from 3 (some .int) rm_X7_from [.ref x0, .int x1] h (evI out.1) out.2 := by
  refine Ct.of (o := f_X7_from fu x0 x1 h) (lv := [some (.ref x0), some (.int x1), none]) (by decide) (Nat.le_of_ble_eq_true rfl) rfl ?_ out ho
  intro X hXl hE hin
  replace hE : En X D cX7_from 3 RX7 (some .int) rm_X7_from := hE
  subst hXl
  unfold f_X7_from
  refine Wo_grd (fun _ => ?_)
  refine r_aload_n (pc := 0) hE dX7_from_0 rfl ?_
  refine r_iconst (v := 0) (pc := 1) hE dX7_from_1 (by decide) ?_
  refine r_putI (pc := 2) hE 7 0 (by decide) (by decide) (fun _ _ _ => rfl) fl_RX7_87 rfl rfl rfl dX7_from_2 (fun h2 _ => ?_)
  refine r_aload_n (pc := 5) hE dX7_from_5 rfl ?_
  refine r_iload_n (pc := 6) hE dX7_from_6 rfl ?_
  refine r_callV (pc := 7) hE 7 (As := [.int x1]) (fun out ho => c_X7_isCell _ _ fu _ _ _ out ho) (fun out ho => k_X7_isCell ho) (by decide) rfl cs_RX7_113 ⟨Nat.le_of_ble_eq_true rfl, Nat.le_of_ble_eq_true rfl, Nat.le_of_ble_eq_true rfl, Nat.le_of_ble_eq_true rfl⟩ (Nat.le_of_ble_eq_true rfl) rfl dX7_from_7 (fun r7 _ => ?_)
  refine r_if_ne (pc := 10) hE 16 dX7_from_10 (by decide) (fun _ => ?_) (fun _ => ?_)
  · refine r_aload_n (pc := 16) hE dX7_from_16 rfl ?_
    refine r_callV (pc := 17) hE 7 (As := []) (fun out ho => c_X7_sing _ _ fu _ _ out ho) (fun out ho => k_X7_sing ho) (by decide) rfl cs_RX7_220 ⟨Nat.le_of_ble_eq_true rfl, Nat.le_of_ble_eq_true rfl, Nat.le_of_ble_eq_true rfl, Nat.le_of_ble_eq_true rfl⟩ (Nat.le_of_ble_eq_true rfl) rfl dX7_from_17 (fun r17 _ => ?_)
    refine r_aload_n (pc := 20) hE dX7_from_20 rfl ?_
    refine r_getR (pc := 21) hE 7 29 (by decide) (by decide) (fun _ _ _ => rfl) fl_RX7_65 dX7_from_21 (fun v21 _ => ?_)
    refine r_aload_n (pc := 24) hE dX7_from_24 rfl ?_
    refine r_iconst (v := 0) (pc := 25) hE dX7_from_25 (by decide) ?_
    refine r_iload_n (pc := 26) hE dX7_from_26 rfl ?_
    refine r_aload_n (pc := 27) hE dX7_from_27 rfl ?_
    refine r_getI (pc := 28) hE 7 3 (by decide) (by decide) (fun _ _ _ => rfl) fl_RX7_100 dX7_from_28 (fun v28 _ => ?_)
    refine r_bipush (v := 6) (pc := 31) hE dX7_from_31 (by decide) ?_
    refine r_irem (pc := 33) hE dX7_from_33 (by decide) ?_
    refine r_callV (pc := 34) hE 7 (As := [.int 0, .int x1, .int (rem v28 6)]) (fun out ho => c_X7_at _ _ fu _ _ _ _ _ out ho) (fun out ho => k_X7_at ho) (by decide) rfl cs_RX7_208 ⟨Nat.le_of_ble_eq_true rfl, Nat.le_of_ble_eq_true rfl, Nat.le_of_ble_eq_true rfl, Nat.le_of_ble_eq_true rfl⟩ (Nat.le_of_ble_eq_true rfl) rfl dX7_from_34 (fun r34 _ => ?_)
    refine r_aldI (pc := 37) hE dX7_from_37 (fun v37 _ => ?_)
    refine r_istore_n (pc := 38) hE dX7_from_38 (by decide) ?_
    refine r_iload_n (pc := 39) hE dX7_from_39 rfl ?_
    refine r_ldc (v := 100000) (pc := 40) hE ct_RX7_211 dX7_from_40 ?_
    refine r_icmp_lt (pc := 42) hE 49 dX7_from_42 (by decide) (fun _ => ?_) (fun _ => ?_)
    · refine r_iload_n (pc := 49) hE dX7_from_49 rfl ?_
      exact r_iret (pc := 50) hE dX7_from_50
    · refine r_iconst (v := -1) (pc := 45) hE dX7_from_45 (by decide) ?_
      refine r_goto (pc := 46) hE 50 dX7_from_46 (by decide) ?_
      exact r_iret (pc := 50) hE dX7_from_50
  · refine r_bipush (v := -2) (pc := 13) hE dX7_from_13 (by decide) ?_
    exact r_iret (pc := 15) hE dX7_from_15
theorem k_X7_from {fu : Nat} {x0 : Nat} {x1 : Int32} {h : Hp} {out : Int32 × Hp} (ho : f_X7_from fu x0 x1 h = some out) : h.K x0 = 7 := (gi_k ho).1
def rm_X7_sings : Room := { frames := 3, cells := 0, slots := 0, locals := 69 }
def f_X7_sings_77 (fu : Nat) (x0 : Nat) (x2 : Int32) (h : Hp) : Option (Int32 × Hp) :=
  (gI h 7 x0 11).bind fun v79 =>
  if x2 = v79 then
    some (10, h)
  else
    (gR h 7 x0 12).bind fun v91 =>
    (aI h 8 v91 x2).bind fun v95 =>
    some (v95, h)
set_option maxHeartbeats 4000000 in
set_option maxRecDepth 100000 in
theorem w_X7_sings_77 {X : Cx} {D : Dx} (hE : En X D cX7_sings 3 RX7 (some .int) rm_X7_sings) {fu : Nat} (x0 : Nat) (x2 : Int32) (h : Hp) {lv : List (Option Value)} (hlv : lvLe [some (.ref x0), none, some (.int x2)] lv) : Wo X D 3 (Qr X D 0 0 evI) 0 0 (f_X7_sings_77 fu x0 x2 h) 77 lv [] h := by
  refine Wo_sub hlv ?_
  unfold f_X7_sings_77
  refine r_iload_n (pc := 77) hE dX7_sings_77 rfl ?_
  refine r_aload_n (pc := 78) hE dX7_sings_78 rfl ?_
  refine r_getI (pc := 79) hE 7 11 (by decide) (by decide) (fun _ _ _ => rfl) fl_RX7_127 dX7_sings_79 (fun v79 _ => ?_)
  refine r_icmp_ne (pc := 82) hE 90 dX7_sings_82 (by decide) (fun _ => ?_) (fun _ => ?_)
  · refine r_aload_n (pc := 90) hE dX7_sings_90 rfl ?_
    refine r_getR (pc := 91) hE 7 12 (by decide) (by decide) (fun _ _ _ => rfl) fl_RX7_35 dX7_sings_91 (fun v91 _ => ?_)
    refine r_iload_n (pc := 94) hE dX7_sings_94 rfl ?_
    refine r_aldI (pc := 95) hE dX7_sings_95 (fun v95 _ => ?_)
    exact r_iret (pc := 96) hE dX7_sings_96
  · refine r_bipush (v := 10) (pc := 85) hE dX7_sings_85 (by decide) ?_
    refine r_goto (pc := 87) hE 96 dX7_sings_87 (by decide) ?_
    exact r_iret (pc := 96) hE dX7_sings_96
def f_X7_sings_43 (fu : Nat) : Nat → Nat → Int32 → Hp → Option (Int32 × Hp)
  | 0, _, _, _ => none
  | n + 1, x0, x2, h =>
    (gI h 7 x0 11).bind fun v45 =>
    if v45 ≤ x2 then
      f_X7_sings_77 fu x0 x2 h
    else
      (gI h 7 x0 5).bind fun v54 =>
      (gI h 7 x0 3).bind fun v58 =>
      (f_X7_isThere fu x0 x2 v54 (rem v58 6) h).bind fun r64 =>
      if r64.1 = 0 then
        f_X7_sings_77 fu x0 x2 r64.2
      else
        f_X7_sings_43 fu n x0 ((x2 + 1)) r64.2
set_option maxHeartbeats 4000000 in
set_option maxRecDepth 100000 in
theorem w_X7_sings_43 {X : Cx} {D : Dx} (hE : En X D cX7_sings 3 RX7 (some .int) rm_X7_sings) {fu : Nat} : ∀ (n : Nat) (x0 : Nat) (x2 : Int32) (h : Hp) (lv : List (Option Value)), lvLe [some (.ref x0), none, some (.int x2)] lv → Wo X D 3 (Qr X D 0 0 evI) 0 0 (f_X7_sings_43 fu n x0 x2 h) 43 lv [] h := by
  intro n
  induction n with
  | zero => intros; exact Wo_none
  | succ n ih =>
    intro x0 x2 h lv hlv
    refine Wo_sub hlv ?_
    rw [f_X7_sings_43]
    refine r_iload_n (pc := 43) hE dX7_sings_43 rfl ?_
    refine r_aload_n (pc := 44) hE dX7_sings_44 rfl ?_
    refine r_getI (pc := 45) hE 7 11 (by decide) (by decide) (fun _ _ _ => rfl) fl_RX7_127 dX7_sings_45 (fun v45 _ => ?_)
    refine r_icmp_ge (pc := 48) hE 77 dX7_sings_48 (by decide) (fun _ => ?_) (fun _ => ?_)
    · exact w_X7_sings_77 hE _ _ _ ⟨rfl, ⟨rfl, trivial⟩⟩
    · refine r_aload_n (pc := 51) hE dX7_sings_51 rfl ?_
      refine r_iload_n (pc := 52) hE dX7_sings_52 rfl ?_
      refine r_aload_n (pc := 53) hE dX7_sings_53 rfl ?_
      refine r_getI (pc := 54) hE 7 5 (by decide) (by decide) (fun _ _ _ => rfl) fl_RX7_22 dX7_sings_54 (fun v54 _ => ?_)
      refine r_aload_n (pc := 57) hE dX7_sings_57 rfl ?_
      refine r_getI (pc := 58) hE 7 3 (by decide) (by decide) (fun _ _ _ => rfl) fl_RX7_100 dX7_sings_58 (fun v58 _ => ?_)
      refine r_bipush (v := 6) (pc := 61) hE dX7_sings_61 (by decide) ?_
      refine r_irem (pc := 63) hE dX7_sings_63 (by decide) ?_
      refine r_callV (pc := 64) hE 7 (As := [.int x2, .int v54, .int (rem v58 6)]) (fun out ho => c_X7_isThere _ _ fu _ _ _ _ _ out ho) (fun out ho => k_X7_isThere ho) (by decide) rfl cs_RX7_216 ⟨Nat.le_of_ble_eq_true rfl, Nat.le_of_ble_eq_true rfl, Nat.le_of_ble_eq_true rfl, Nat.le_of_ble_eq_true rfl⟩ (Nat.le_of_ble_eq_true rfl) rfl dX7_sings_64 (fun r64 _ => ?_)
      refine r_if_eq (pc := 67) hE 77 dX7_sings_67 (by decide) (fun _ => ?_) (fun _ => ?_)
      · exact w_X7_sings_77 hE _ _ _ ⟨rfl, ⟨rfl, trivial⟩⟩
      · refine r_iload_n (pc := 70) hE dX7_sings_70 rfl ?_
        refine r_iconst (v := 1) (pc := 71) hE dX7_sings_71 (by decide) ?_
        refine r_iadd (pc := 72) hE dX7_sings_72 ?_
        refine r_istore_n (pc := 73) hE dX7_sings_73 (by decide) ?_
        refine r_goto (pc := 74) hE 43 dX7_sings_74 (by decide) ?_
        exact ih _ _ _ _ ⟨rfl, ⟨rfl, trivial⟩⟩
def f_X7_sings (fu : Nat) (x0 : Nat) (x1 : Int32) (h : Hp) : Option (Int32 × Hp) :=
  if h.K x0 = 7 then
    (pI h 7 x0 0 0).bind fun h2 =>
    (gI h2 7 x0 5).bind fun v6 =>
    if v6 = (-1) then
      some ((-1), h2)
    else
      if x1 < 0 then
        some ((-1), h2)
      else
        (gI h2 7 x0 11).bind fun v19 =>
        if x1 < v19 then
          (gI h2 7 x0 5).bind fun v29 =>
          (f_X7_isLand fu x0 v29 h2).bind fun r32 =>
          if r32.1 = 0 then
            f_X7_sings_43 fu fu x0 x1 r32.2
          else
            some (9, r32.2)
        else
          some ((-1), h2)
  else none
set_option maxHeartbeats 4000000 in
set_option maxRecDepth 100000 in
theorem c_X7_sings (l : Launch) (D : Dx) (fu : Nat) (x0 : Nat) (x1 : Int32) (h : Hp) (out : Int32 × Hp) (ho : f_X7_sings fu x0 x1 h = some out) : Ct l D yX7_sings cX7_sings 3 (some .int) rm_X7_sings [.ref x0, .int x1] h (evI out.1) out.2 := by
  refine Ct.of (o := f_X7_sings fu x0 x1 h) (lv := [some (.ref x0), some (.int x1), none]) (by decide) (Nat.le_of_ble_eq_true rfl) rfl ?_ out ho
  intro X hXl hE hin
  replace hE : En X D cX7_sings 3 RX7 (some .int) rm_X7_sings := hE
  subst hXl
  unfold f_X7_sings
  refine Wo_grd (fun _ => ?_)
  refine r_aload_n (pc := 0) hE dX7_sings_0 rfl ?_
  refine r_iconst (v := 0) (pc := 1) hE dX7_sings_1 (by decide) ?_
  refine r_putI (pc := 2) hE 7 0 (by decide) (by decide) (fun _ _ _ => rfl) fl_RX7_87 rfl rfl rfl dX7_sings_2 (fun h2 _ => ?_)
  refine r_aload_n (pc := 5) hE dX7_sings_5 rfl ?_
  refine r_getI (pc := 6) hE 7 5 (by decide) (by decide) (fun _ _ _ => rfl) fl_RX7_22 dX7_sings_6 (fun v6 _ => ?_)
  refine r_iconst (v := -1) (pc := 9) hE dX7_sings_9 (by decide) ?_
  refine r_icmp_eq (pc := 10) hE 25 dX7_sings_10 (by decide) (fun _ => ?_) (fun _ => ?_)
  · refine r_iconst (v := -1) (pc := 25) hE dX7_sings_25 (by decide) ?_
    exact r_iret (pc := 26) hE dX7_sings_26
  · refine r_iload_n (pc := 13) hE dX7_sings_13 rfl ?_
    refine r_if_lt (pc := 14) hE 25 dX7_sings_14 (by decide) (fun _ => ?_) (fun _ => ?_)
    · refine r_iconst (v := -1) (pc := 25) hE dX7_sings_25 (by decide) ?_
      exact r_iret (pc := 26) hE dX7_sings_26
    · refine r_iload_n (pc := 17) hE dX7_sings_17 rfl ?_
      refine r_aload_n (pc := 18) hE dX7_sings_18 rfl ?_
      refine r_getI (pc := 19) hE 7 11 (by decide) (by decide) (fun _ _ _ => rfl) fl_RX7_127 dX7_sings_19 (fun v19 _ => ?_)
      refine r_icmp_lt (pc := 22) hE 27 dX7_sings_22 (by decide) (fun _ => ?_) (fun _ => ?_)
      · refine r_aload_n (pc := 27) hE dX7_sings_27 rfl ?_
        refine r_aload_n (pc := 28) hE dX7_sings_28 rfl ?_
        refine r_getI (pc := 29) hE 7 5 (by decide) (by decide) (fun _ _ _ => rfl) fl_RX7_22 dX7_sings_29 (fun v29 _ => ?_)
        refine r_callV (pc := 32) hE 7 (As := [.int v29]) (fun out ho => c_X7_isLand _ _ fu _ _ _ out ho) (fun out ho => k_X7_isLand ho) (by decide) rfl cs_RX7_117 ⟨Nat.le_of_ble_eq_true rfl, Nat.le_of_ble_eq_true rfl, Nat.le_of_ble_eq_true rfl, Nat.le_of_ble_eq_true rfl⟩ (Nat.le_of_ble_eq_true rfl) rfl dX7_sings_32 (fun r32 _ => ?_)
        refine r_if_eq (pc := 35) hE 41 dX7_sings_35 (by decide) (fun _ => ?_) (fun _ => ?_)
        · refine r_iload_n (pc := 41) hE dX7_sings_41 rfl ?_
          refine r_istore_n (pc := 42) hE dX7_sings_42 (by decide) ?_
          exact w_X7_sings_43 hE fu _ _ _ _ ⟨rfl, ⟨rfl, trivial⟩⟩
        · refine r_bipush (v := 9) (pc := 38) hE dX7_sings_38 (by decide) ?_
          exact r_iret (pc := 40) hE dX7_sings_40
      · refine r_iconst (v := -1) (pc := 25) hE dX7_sings_25 (by decide) ?_
        exact r_iret (pc := 26) hE dX7_sings_26
theorem k_X7_sings {fu : Nat} {x0 : Nat} {x1 : Int32} {h : Hp} {out : Int32 × Hp} (ho : f_X7_sings fu x0 x1 h = some out) : h.K x0 = 7 := (gi_k ho).1
def rm_X7_isAllLand : Room := { frames := 2, cells := 0, slots := 0, locals := 47 }
def f_X7_isAllLand (fu : Nat) (x0 : Nat) (x1 : Int64) (h : Hp) : Option (Int32 × Hp) :=
  if h.K x0 = 7 then
    (f_X7_landsIn fu x0 x1 h).bind fun r2 =>
    (f_X7_count fu x0 x1 r2.2).bind fun r7 =>
    if r2.1 = r7.1 then
      some (1, r7.2)
    else
      some (0, r7.2)
  else none
set_option maxHeartbeats 4000000 in
set_option maxRecDepth 100000 in
theorem c_X7_isAllLand (l : Launch) (D : Dx) (fu : Nat) (x0 : Nat) (x1 : Int64) (h : Hp) (out : Int32 × Hp) (ho : f_X7_isAllLand fu x0 x1 h = some out) : Ct l D yX7_isAllLand cX7_isAllLand 3 (some .boolean) rm_X7_isAllLand [.ref x0, .long x1] h (evI out.1) out.2 := by
  refine Ct.of (o := f_X7_isAllLand fu x0 x1 h) (lv := [some (.ref x0), some (.long x1), none]) (by decide) (Nat.le_of_ble_eq_true rfl) rfl ?_ out ho
  intro X hXl hE hin
  replace hE : En X D cX7_isAllLand 3 RX7 (some .boolean) rm_X7_isAllLand := hE
  subst hXl
  unfold f_X7_isAllLand
  refine Wo_grd (fun _ => ?_)
  refine r_aload_n (pc := 0) hE dX7_isAllLand_0 rfl ?_
  refine r_lload_n (pc := 1) hE dX7_isAllLand_1 rfl ?_
  refine r_callV (pc := 2) hE 7 (As := [.long x1]) (fun out ho => c_X7_landsIn _ _ fu _ _ _ out ho) (fun out ho => k_X7_landsIn ho) (by decide) rfl cs_RX7_124 ⟨Nat.le_of_ble_eq_true rfl, Nat.le_of_ble_eq_true rfl, Nat.le_of_ble_eq_true rfl, Nat.le_of_ble_eq_true rfl⟩ (Nat.le_of_ble_eq_true rfl) rfl dX7_isAllLand_2 (fun r2 _ => ?_)
  refine r_aload_n (pc := 5) hE dX7_isAllLand_5 rfl ?_
  refine r_lload_n (pc := 6) hE dX7_isAllLand_6 rfl ?_
  refine r_callV (pc := 7) hE 7 (As := [.long x1]) (fun out ho => c_X7_count _ _ fu _ _ _ out ho) (fun out ho => k_X7_count ho) (by decide) rfl cs_RX7_120 ⟨Nat.le_of_ble_eq_true rfl, Nat.le_of_ble_eq_true rfl, Nat.le_of_ble_eq_true rfl, Nat.le_of_ble_eq_true rfl⟩ (Nat.le_of_ble_eq_true rfl) rfl dX7_isAllLand_7 (fun r7 _ => ?_)
  refine r_icmp_ne (pc := 10) hE 17 dX7_isAllLand_10 (by decide) (fun _ => ?_) (fun _ => ?_)
  · refine r_iconst (v := 0) (pc := 17) hE dX7_isAllLand_17 (by decide) ?_
    exact r_zret (pc := 18) hE (by decide) dX7_isAllLand_18
  · refine r_iconst (v := 1) (pc := 13) hE dX7_isAllLand_13 (by decide) ?_
    refine r_goto (pc := 14) hE 18 dX7_isAllLand_14 (by decide) ?_
    exact r_zret (pc := 18) hE (by decide) dX7_isAllLand_18
theorem k_X7_isAllLand {fu : Nat} {x0 : Nat} {x1 : Int64} {h : Hp} {out : Int32 × Hp} (ho : f_X7_isAllLand fu x0 x1 h = some out) : h.K x0 = 7 := (gi_k ho).1
theorem fl_RX7_223 : Cond.fieldLink RX7 223 (TF 7 31).1 (TF 7 31).2.1 (TF 7 31).2.2.1 ∈ TB := tb_in (by decide +kernel) rfl
def rm_X7_came : Room := { frames := 0, cells := 0, slots := 0, locals := 0 }
def f_X7_came_41 (fu : Nat) (k3 : Nat → Int64 → Int32 → Int32 → Hp → Option (Int32 × Hp)) (x0 : Nat) (x1 : Int64) (x3 : Int32) (x4 : Int32) (h : Hp) : Option (Int32 × Hp) :=
  k3 x0 x1 x3 ((x4 + 1)) h
set_option maxHeartbeats 4000000 in
set_option maxRecDepth 100000 in
theorem w_X7_came_41 {X : Cx} {D : Dx} (hE : En X D cX7_came 5 RX7 (some .boolean) rm_X7_came) {fu : Nat} {k3 : Nat → Int64 → Int32 → Int32 → Hp → Option (Int32 × Hp)} (hk3 : ∀ (x0 : Nat) (x1 : Int64) (x3 : Int32) (x4 : Int32) (h : Hp) (lv : List (Option Value)), lvLe [some (.ref x0), some (.long x1), none, some (.int x3), some (.int x4)] lv → Wo X D 5 (Qr X D 0 0 evI) 0 0 (k3 x0 x1 x3 x4 h) 3 lv [] h) (x0 : Nat) (x1 : Int64) (x3 : Int32) (x4 : Int32) (h : Hp) {lv : List (Option Value)} (hlv : lvLe [some (.ref x0), some (.long x1), none, some (.int x3), some (.int x4)] lv) : Wo X D 5 (Qr X D 0 0 evI) 0 0 (f_X7_came_41 fu k3 x0 x1 x3 x4 h) 41 lv [] h := by
  refine Wo_sub hlv ?_
  unfold f_X7_came_41
  refine r_iinc (v := (x4 + 1)) (pc := 41) hE dX7_came_41 rfl rfl (by decide) ?_
  refine r_goto (pc := 44) hE 3 dX7_came_44 (by decide) ?_
  exact hk3 _ _ _ _ _ _ ⟨rfl, ⟨rfl, ⟨rfl, ⟨rfl, trivial⟩⟩⟩⟩
def f_X7_came_3 (fu : Nat) : Nat → Nat → Int64 → Int32 → Int32 → Hp → Option (Int32 × Hp)
  | 0, _, _, _, _, _ => none
  | n + 1, x0, x1, x3, x4, h =>
    (gI h 7 x0 31).bind fun v6 =>
    if v6 ≤ x4 then
      some (0, h)
    else
      (gR h 7 x0 32).bind fun v13 =>
      (aJ h 9 v13 x4).bind fun v18 =>
      if (lg_cmp v18 x1) = 0 then
        (gR h 7 x0 33).bind fun v25 =>
        (aI h 8 v25 x4).bind fun v30 =>
        if (rem (v30 - x3) 6) = 0 then
          some (1, h)
        else
          f_X7_came_41 fu (fun y0 y1 y2 y3 hy => f_X7_came_3 fu n y0 y1 y2 y3 hy) x0 x1 x3 x4 h
      else
        f_X7_came_41 fu (fun y0 y1 y2 y3 hy => f_X7_came_3 fu n y0 y1 y2 y3 hy) x0 x1 x3 x4 h
set_option maxHeartbeats 4000000 in
set_option maxRecDepth 100000 in
theorem w_X7_came_3 {X : Cx} {D : Dx} (hE : En X D cX7_came 5 RX7 (some .boolean) rm_X7_came) {fu : Nat} : ∀ (n : Nat) (x0 : Nat) (x1 : Int64) (x3 : Int32) (x4 : Int32) (h : Hp) (lv : List (Option Value)), lvLe [some (.ref x0), some (.long x1), none, some (.int x3), some (.int x4)] lv → Wo X D 5 (Qr X D 0 0 evI) 0 0 (f_X7_came_3 fu n x0 x1 x3 x4 h) 3 lv [] h := by
  intro n
  induction n with
  | zero => intros; exact Wo_none
  | succ n ih =>
    intro x0 x1 x3 x4 h lv hlv
    refine Wo_sub hlv ?_
    rw [f_X7_came_3]
    refine r_iload (pc := 3) hE dX7_came_3 rfl ?_
    refine r_aload_n (pc := 5) hE dX7_came_5 rfl ?_
    refine r_getI (pc := 6) hE 7 31 (by decide) (by decide) (fun _ _ _ => rfl) fl_RX7_223 dX7_came_6 (fun v6 _ => ?_)
    refine r_icmp_ge (pc := 9) hE 47 dX7_came_9 (by decide) (fun _ => ?_) (fun _ => ?_)
    · refine r_iconst (v := 0) (pc := 47) hE dX7_came_47 (by decide) ?_
      exact r_zret (pc := 48) hE (by decide) dX7_came_48
    · refine r_aload_n (pc := 12) hE dX7_came_12 rfl ?_
      refine r_getR (pc := 13) hE 7 32 (by decide) (by decide) (fun _ _ _ => rfl) fl_RX7_71 dX7_came_13 (fun v13 _ => ?_)
      refine r_iload (pc := 16) hE dX7_came_16 rfl ?_
      refine r_aldJ (pc := 18) hE dX7_came_18 (fun v18 _ => ?_)
      refine r_lload_n (pc := 19) hE dX7_came_19 rfl ?_
      refine r_lcmp (pc := 20) hE dX7_came_20 ?_
      refine r_if_ne (pc := 21) hE 41 dX7_came_21 (by decide) (fun _ => ?_) (fun _ => ?_)
      · exact w_X7_came_41 hE (fun y0 y1 y2 y3 hy lvy hly => ih y0 y1 y2 y3 hy lvy hly) _ _ _ _ _ ⟨rfl, ⟨rfl, ⟨rfl, ⟨rfl, trivial⟩⟩⟩⟩
      · refine r_aload_n (pc := 24) hE dX7_came_24 rfl ?_
        refine r_getR (pc := 25) hE 7 33 (by decide) (by decide) (fun _ _ _ => rfl) fl_RX7_75 dX7_came_25 (fun v25 _ => ?_)
        refine r_iload (pc := 28) hE dX7_came_28 rfl ?_
        refine r_aldI (pc := 30) hE dX7_came_30 (fun v30 _ => ?_)
        refine r_iload_n (pc := 31) hE dX7_came_31 rfl ?_
        refine r_isub (pc := 32) hE dX7_came_32 ?_
        refine r_bipush (v := 6) (pc := 33) hE dX7_came_33 (by decide) ?_
        refine r_irem (pc := 35) hE dX7_came_35 (by decide) ?_
        refine r_if_ne (pc := 36) hE 41 dX7_came_36 (by decide) (fun _ => ?_) (fun _ => ?_)
        · exact w_X7_came_41 hE (fun y0 y1 y2 y3 hy lvy hly => ih y0 y1 y2 y3 hy lvy hly) _ _ _ _ _ ⟨rfl, ⟨rfl, ⟨rfl, ⟨rfl, trivial⟩⟩⟩⟩
        · refine r_iconst (v := 1) (pc := 39) hE dX7_came_39 (by decide) ?_
          exact r_zret (pc := 40) hE (by decide) dX7_came_40
def f_X7_came (fu : Nat) (x0 : Nat) (x1 : Int64) (x3 : Int32) (h : Hp) : Option (Int32 × Hp) :=
  if h.K x0 = 7 then
    f_X7_came_3 fu fu x0 x1 x3 0 h
  else none
set_option maxHeartbeats 4000000 in
set_option maxRecDepth 100000 in
theorem c_X7_came (l : Launch) (D : Dx) (fu : Nat) (x0 : Nat) (x1 : Int64) (x3 : Int32) (h : Hp) (out : Int32 × Hp) (ho : f_X7_came fu x0 x1 x3 h = some out) : Ct l D yX7_came cX7_came 5 (some .boolean) rm_X7_came [.ref x0, .long x1, .int x3] h (evI out.1) out.2 := by
  refine Ct.of (o := f_X7_came fu x0 x1 x3 h) (lv := [some (.ref x0), some (.long x1), none, some (.int x3), none]) (by decide) (Nat.le_of_ble_eq_true rfl) rfl ?_ out ho
  intro X hXl hE hin
  replace hE : En X D cX7_came 5 RX7 (some .boolean) rm_X7_came := hE
  subst hXl
  unfold f_X7_came
  refine Wo_grd (fun _ => ?_)
  refine r_iconst (v := 0) (pc := 0) hE dX7_came_0 (by decide) ?_
  refine r_istore (pc := 1) hE dX7_came_1 (by decide) ?_
  exact w_X7_came_3 hE fu _ _ _ _ _ _ ⟨rfl, ⟨rfl, ⟨rfl, ⟨rfl, trivial⟩⟩⟩⟩
theorem k_X7_came {fu : Nat} {x0 : Nat} {x1 : Int64} {x3 : Int32} {h : Hp} {out : Int32 × Hp} (ho : f_X7_came fu x0 x1 x3 h = some out) : h.K x0 = 7 := (gi_k ho).1
theorem fl_RX7_226 : Cond.fieldLink RX7 226 (TF 7 36).1 (TF 7 36).2.1 (TF 7 36).2.2.1 ∈ TB := tb_in (by decide +kernel) rfl
def rm_X7_leads : Room := { frames := 0, cells := 0, slots := 0, locals := 0 }
def f_X7_leads_24 (fu : Nat) : Nat → Nat → Int32 → Int32 → Hp → Option (Unit × Hp)
  | 0, _, _, _, _ => none
  | n + 1, x0, x3, x4, h =>
    if x3 ≤ 0 then
      some ((), h)
    else
      (gR h 7 x0 37).bind fun v33 =>
      (gR h 7 x0 35).bind fun v38 =>
      (aI h 8 v38 x4).bind fun v43 =>
      (sI h 8 v33 (x3 - 1) v43).bind fun h44 =>
      (gR h44 7 x0 34).bind fun v46 =>
      (aI h44 8 v46 x4).bind fun v51 =>
      f_X7_leads_24 fu n x0 ((x3 - 1)) v51 h44
set_option maxHeartbeats 4000000 in
set_option maxRecDepth 100000 in
theorem w_X7_leads_24 {X : Cx} {D : Dx} (hE : En X D cX7_leads 5 RX7 none rm_X7_leads) {fu : Nat} : ∀ (n : Nat) (x0 : Nat) (x3 : Int32) (x4 : Int32) (h : Hp) (lv : List (Option Value)), lvLe [some (.ref x0), none, none, some (.int x3), some (.int x4)] lv → Wo X D 5 (Qr X D 0 0 evU) 0 0 (f_X7_leads_24 fu n x0 x3 x4 h) 24 lv [] h := by
  intro n
  induction n with
  | zero => intros; exact Wo_none
  | succ n ih =>
    intro x0 x3 x4 h lv hlv
    refine Wo_sub hlv ?_
    rw [f_X7_leads_24]
    refine r_iload_n (pc := 24) hE dX7_leads_24 rfl ?_
    refine r_if_le (pc := 25) hE 57 dX7_leads_25 (by decide) (fun _ => ?_) (fun _ => ?_)
    · exact r_vret (pc := 57) hE dX7_leads_57
    · refine r_iload_n (pc := 28) hE dX7_leads_28 rfl ?_
      refine r_iconst (v := 1) (pc := 29) hE dX7_leads_29 (by decide) ?_
      refine r_isub (pc := 30) hE dX7_leads_30 ?_
      refine r_istore_n (pc := 31) hE dX7_leads_31 (by decide) ?_
      refine r_aload_n (pc := 32) hE dX7_leads_32 rfl ?_
      refine r_getR (pc := 33) hE 7 37 (by decide) (by decide) (fun _ _ _ => rfl) fl_RX7_84 dX7_leads_33 (fun v33 _ => ?_)
      refine r_iload_n (pc := 36) hE dX7_leads_36 rfl ?_
      refine r_aload_n (pc := 37) hE dX7_leads_37 rfl ?_
      refine r_getR (pc := 38) hE 7 35 (by decide) (by decide) (fun _ _ _ => rfl) fl_RX7_81 dX7_leads_38 (fun v38 _ => ?_)
      refine r_iload (pc := 41) hE dX7_leads_41 rfl ?_
      refine r_aldI (pc := 43) hE dX7_leads_43 (fun v43 _ => ?_)
      refine r_astI (pc := 44) hE dX7_leads_44 (fun h44 _ => ?_)
      refine r_aload_n (pc := 45) hE dX7_leads_45 rfl ?_
      refine r_getR (pc := 46) hE 7 34 (by decide) (by decide) (fun _ _ _ => rfl) fl_RX7_78 dX7_leads_46 (fun v46 _ => ?_)
      refine r_iload (pc := 49) hE dX7_leads_49 rfl ?_
      refine r_aldI (pc := 51) hE dX7_leads_51 (fun v51 _ => ?_)
      refine r_istore (pc := 52) hE dX7_leads_52 (by decide) ?_
      refine r_goto (pc := 54) hE 24 dX7_leads_54 (by decide) ?_
      exact ih _ _ _ _ _ ⟨rfl, ⟨rfl, ⟨rfl, trivial⟩⟩⟩
def f_X7_leads (fu : Nat) (x0 : Nat) (x1 : Int32) (x2 : Int32) (h : Hp) : Option (Unit × Hp) :=
  if h.K x0 = 7 then
    (gR h 7 x0 33).bind fun v1 =>
    (aI h 8 v1 x1).bind fun v5 =>
    (pI h 7 x0 36 (v5 + 1)).bind fun h11 =>
    (gR h11 7 x0 37).bind fun v15 =>
    (sI h11 8 v15 v5 x2).bind fun h20 =>
    f_X7_leads_24 fu fu x0 v5 x1 h20
  else none
set_option maxHeartbeats 4000000 in
set_option maxRecDepth 100000 in
theorem c_X7_leads (l : Launch) (D : Dx) (fu : Nat) (x0 : Nat) (x1 : Int32) (x2 : Int32) (h : Hp) (out : Unit × Hp) (ho : f_X7_leads fu x0 x1 x2 h = some out) : Ct l D yX7_leads cX7_leads 5 none rm_X7_leads [.ref x0, .int x1, .int x2] h (evU out.1) out.2 := by
  refine Ct.of (o := f_X7_leads fu x0 x1 x2 h) (lv := [some (.ref x0), some (.int x1), some (.int x2), none, none]) (by decide) (Nat.le_of_ble_eq_true rfl) rfl ?_ out ho
  intro X hXl hE hin
  replace hE : En X D cX7_leads 5 RX7 none rm_X7_leads := hE
  subst hXl
  unfold f_X7_leads
  refine Wo_grd (fun _ => ?_)
  refine r_aload_n (pc := 0) hE dX7_leads_0 rfl ?_
  refine r_getR (pc := 1) hE 7 33 (by decide) (by decide) (fun _ _ _ => rfl) fl_RX7_75 dX7_leads_1 (fun v1 _ => ?_)
  refine r_iload_n (pc := 4) hE dX7_leads_4 rfl ?_
  refine r_aldI (pc := 5) hE dX7_leads_5 (fun v5 _ => ?_)
  refine r_istore_n (pc := 6) hE dX7_leads_6 (by decide) ?_
  refine r_aload_n (pc := 7) hE dX7_leads_7 rfl ?_
  refine r_iload_n (pc := 8) hE dX7_leads_8 rfl ?_
  refine r_iconst (v := 1) (pc := 9) hE dX7_leads_9 (by decide) ?_
  refine r_iadd (pc := 10) hE dX7_leads_10 ?_
  refine r_putI (pc := 11) hE 7 36 (by decide) (by decide) (fun _ _ _ => rfl) fl_RX7_226 rfl rfl rfl dX7_leads_11 (fun h11 _ => ?_)
  refine r_aload_n (pc := 14) hE dX7_leads_14 rfl ?_
  refine r_getR (pc := 15) hE 7 37 (by decide) (by decide) (fun _ _ _ => rfl) fl_RX7_84 dX7_leads_15 (fun v15 _ => ?_)
  refine r_iload_n (pc := 18) hE dX7_leads_18 rfl ?_
  refine r_iload_n (pc := 19) hE dX7_leads_19 rfl ?_
  refine r_astI (pc := 20) hE dX7_leads_20 (fun h20 _ => ?_)
  refine r_iload_n (pc := 21) hE dX7_leads_21 rfl ?_
  refine r_istore (pc := 22) hE dX7_leads_22 (by decide) ?_
  exact w_X7_leads_24 hE fu _ _ _ _ _ ⟨rfl, ⟨rfl, ⟨rfl, trivial⟩⟩⟩
theorem k_X7_leads {fu : Nat} {x0 : Nat} {x1 : Int32} {x2 : Int32} {h : Hp} {out : Unit × Hp} (ho : f_X7_leads fu x0 x1 x2 h = some out) : h.K x0 = 7 := (gi_k ho).1
theorem cs_RX7_229 : csV RX7 229 yX7_isAllLand cX7_isAllLand 3 (some .boolean) 1 = true := by decide +kernel
theorem cs_RX7_237 : csV RX7 237 yX7_came cX7_came 5 (some .boolean) 2 = true := by decide +kernel
theorem cs_RX7_233 : csV RX7 233 yX7_leads cX7_leads 5 none 2 = true := by decide +kernel
def rm_X7_findBlind : Room := { frames := 3, cells := 0, slots := 0, locals := 75 }
def f_X7_findBlind_219 (fu : Nat) (k42 : Nat → Int32 → Hp → Option (Int32 × Hp)) (x0 : Nat) (x1 : Int32) (h : Hp) : Option (Int32 × Hp) :=
  k42 x0 ((x1 + 1)) h
set_option maxHeartbeats 4000000 in
set_option maxRecDepth 100000 in
theorem w_X7_findBlind_219 {X : Cx} {D : Dx} (hE : En X D cX7_findBlind 5 RX7 (some .int) rm_X7_findBlind) {fu : Nat} {k42 : Nat → Int32 → Hp → Option (Int32 × Hp)} (hk42 : ∀ (x0 : Nat) (x1 : Int32) (h : Hp) (lv : List (Option Value)), lvLe [some (.ref x0), some (.int x1), none, none, none] lv → Wo X D 5 (Qr X D 0 0 evI) 0 0 (k42 x0 x1 h) 42 lv [] h) (x0 : Nat) (x1 : Int32) (h : Hp) {lv : List (Option Value)} (hlv : lvLe [some (.ref x0), some (.int x1), none, none, none] lv) : Wo X D 5 (Qr X D 0 0 evI) 0 0 (f_X7_findBlind_219 fu k42 x0 x1 h) 219 lv [] h := by
  refine Wo_sub hlv ?_
  unfold f_X7_findBlind_219
  refine r_iinc (v := (x1 + 1)) (pc := 219) hE dX7_findBlind_219 rfl rfl (by decide) ?_
  refine r_goto (pc := 222) hE 42 dX7_findBlind_222 (by decide) ?_
  exact hk42 _ _ _ _ ⟨rfl, ⟨rfl, trivial⟩⟩
def f_X7_findBlind_213 (fu : Nat) (k42 : Nat → Int32 → Hp → Option (Int32 × Hp)) (k66 : Nat → Int32 → Int32 → Hp → Option (Int32 × Hp)) (x0 : Nat) (x1 : Int32) (x2 : Int32) (h : Hp) : Option (Int32 × Hp) :=
  k66 x0 x1 ((x2 + 1)) h
set_option maxHeartbeats 4000000 in
set_option maxRecDepth 100000 in
theorem w_X7_findBlind_213 {X : Cx} {D : Dx} (hE : En X D cX7_findBlind 5 RX7 (some .int) rm_X7_findBlind) {fu : Nat} {k42 : Nat → Int32 → Hp → Option (Int32 × Hp)} {k66 : Nat → Int32 → Int32 → Hp → Option (Int32 × Hp)} (hk42 : ∀ (x0 : Nat) (x1 : Int32) (h : Hp) (lv : List (Option Value)), lvLe [some (.ref x0), some (.int x1), none, none, none] lv → Wo X D 5 (Qr X D 0 0 evI) 0 0 (k42 x0 x1 h) 42 lv [] h) (hk66 : ∀ (x0 : Nat) (x1 : Int32) (x2 : Int32) (h : Hp) (lv : List (Option Value)), lvLe [some (.ref x0), some (.int x1), some (.int x2), none, none] lv → Wo X D 5 (Qr X D 0 0 evI) 0 0 (k66 x0 x1 x2 h) 66 lv [] h) (x0 : Nat) (x1 : Int32) (x2 : Int32) (h : Hp) {lv : List (Option Value)} (hlv : lvLe [some (.ref x0), some (.int x1), some (.int x2), none, none] lv) : Wo X D 5 (Qr X D 0 0 evI) 0 0 (f_X7_findBlind_213 fu k42 k66 x0 x1 x2 h) 213 lv [] h := by
  refine Wo_sub hlv ?_
  unfold f_X7_findBlind_213
  refine r_iinc (v := (x2 + 1)) (pc := 213) hE dX7_findBlind_213 rfl rfl (by decide) ?_
  refine r_goto (pc := 216) hE 66 dX7_findBlind_216 (by decide) ?_
  exact hk66 _ _ _ _ _ ⟨rfl, ⟨rfl, ⟨rfl, trivial⟩⟩⟩
def f_X7_findBlind_66 (fu : Nat) (k42 : Nat → Int32 → Hp → Option (Int32 × Hp)) : Nat → Nat → Int32 → Int32 → Hp → Option (Int32 × Hp)
  | 0, _, _, _, _ => none
  | n + 1, x0, x1, x2, h =>
    if 9 ≤ x2 then
      f_X7_findBlind_219 fu k42 x0 x1 h
    else
      (gR h 7 x0 32).bind fun v74 =>
      (aJ h 9 v74 x1).bind fun v78 =>
      (gI h 7 x0 3).bind fun v81 =>
      (gR h 7 x0 33).bind fun v85 =>
      (aI h 8 v85 x1).bind fun v89 =>
      (f_X7_goesAll fu x0 v78 x2 (rem (v81 + v89) 6) h).bind fun r94 =>
      (f_X7_isAllLand fu x0 r94.1 r94.2).bind fun r100 =>
      if r100.1 = 0 then
        (gR r100.2 7 x0 33).bind fun v115 =>
        (aI r100.2 8 v115 x1).bind fun v119 =>
        if v119 = 11 then
          f_X7_findBlind_213 fu k42 (fun y0 y1 y2 hy => f_X7_findBlind_66 fu k42 n y0 y1 y2 hy) x0 x1 x2 r100.2
        else
          (gR r100.2 7 x0 33).bind fun v128 =>
          (aI r100.2 8 v128 x1).bind fun v132 =>
          (f_X7_came fu x0 r94.1 (v132 + 1) r100.2).bind fun r135 =>
          if r135.1 = 0 then
            (gI r135.2 7 x0 31).bind fun v145 =>
            if v145 = 3000 then
              some ((-1), r135.2)
            else
              (gR r135.2 7 x0 32).bind fun v157 =>
              (gI r135.2 7 x0 31).bind fun v161 =>
              (sJ r135.2 9 v157 v161 r94.1).bind fun h165 =>
              (gR h165 7 x0 33).bind fun v167 =>
              (gI h165 7 x0 31).bind fun v171 =>
              (gR h165 7 x0 33).bind fun v175 =>
              (aI h165 8 v175 x1).bind fun v179 =>
              (sI h165 8 v167 v171 (v179 + 1)).bind fun h182 =>
              (gR h182 7 x0 34).bind fun v184 =>
              (gI h182 7 x0 31).bind fun v188 =>
              (sI h182 8 v184 v188 x1).bind fun h192 =>
              (gR h192 7 x0 35).bind fun v194 =>
              (gI h192 7 x0 31).bind fun v198 =>
              (sI h192 8 v194 v198 x2).bind fun h202 =>
              (gI h202 7 x0 31).bind fun v205 =>
              (pI h202 7 x0 31 (v205 + 1)).bind fun h210 =>
              f_X7_findBlind_213 fu k42 (fun y0 y1 y2 hy => f_X7_findBlind_66 fu k42 n y0 y1 y2 hy) x0 x1 x2 h210
          else
            f_X7_findBlind_213 fu k42 (fun y0 y1 y2 hy => f_X7_findBlind_66 fu k42 n y0 y1 y2 hy) x0 x1 x2 r135.2
      else
        (f_X7_leads fu x0 x1 x2 r100.2).bind fun r109 =>
        some (1, r109.2)
set_option maxHeartbeats 4000000 in
set_option maxRecDepth 100000 in
theorem w_X7_findBlind_66 {X : Cx} {D : Dx} (hE : En X D cX7_findBlind 5 RX7 (some .int) rm_X7_findBlind) {fu : Nat} {k42 : Nat → Int32 → Hp → Option (Int32 × Hp)} (hk42 : ∀ (x0 : Nat) (x1 : Int32) (h : Hp) (lv : List (Option Value)), lvLe [some (.ref x0), some (.int x1), none, none, none] lv → Wo X D 5 (Qr X D 0 0 evI) 0 0 (k42 x0 x1 h) 42 lv [] h) : ∀ (n : Nat) (x0 : Nat) (x1 : Int32) (x2 : Int32) (h : Hp) (lv : List (Option Value)), lvLe [some (.ref x0), some (.int x1), some (.int x2), none, none] lv → Wo X D 5 (Qr X D 0 0 evI) 0 0 (f_X7_findBlind_66 fu k42 n x0 x1 x2 h) 66 lv [] h := by
  intro n
  induction n with
  | zero => intros; exact Wo_none
  | succ n ih =>
    intro x0 x1 x2 h lv hlv
    refine Wo_sub hlv ?_
    rw [f_X7_findBlind_66]
    refine r_iload_n (pc := 66) hE dX7_findBlind_66 rfl ?_
    refine r_bipush (v := 9) (pc := 67) hE dX7_findBlind_67 (by decide) ?_
    refine r_icmp_ge (pc := 69) hE 219 dX7_findBlind_69 (by decide) (fun _ => ?_) (fun _ => ?_)
    · exact w_X7_findBlind_219 hE hk42 _ _ _ ⟨rfl, ⟨rfl, trivial⟩⟩
    · refine r_aload_n (pc := 72) hE dX7_findBlind_72 rfl ?_
      refine r_aload_n (pc := 73) hE dX7_findBlind_73 rfl ?_
      refine r_getR (pc := 74) hE 7 32 (by decide) (by decide) (fun _ _ _ => rfl) fl_RX7_71 dX7_findBlind_74 (fun v74 _ => ?_)
      refine r_iload_n (pc := 77) hE dX7_findBlind_77 rfl ?_
      refine r_aldJ (pc := 78) hE dX7_findBlind_78 (fun v78 _ => ?_)
      refine r_iload_n (pc := 79) hE dX7_findBlind_79 rfl ?_
      refine r_aload_n (pc := 80) hE dX7_findBlind_80 rfl ?_
      refine r_getI (pc := 81) hE 7 3 (by decide) (by decide) (fun _ _ _ => rfl) fl_RX7_100 dX7_findBlind_81 (fun v81 _ => ?_)
      refine r_aload_n (pc := 84) hE dX7_findBlind_84 rfl ?_
      refine r_getR (pc := 85) hE 7 33 (by decide) (by decide) (fun _ _ _ => rfl) fl_RX7_75 dX7_findBlind_85 (fun v85 _ => ?_)
      refine r_iload_n (pc := 88) hE dX7_findBlind_88 rfl ?_
      refine r_aldI (pc := 89) hE dX7_findBlind_89 (fun v89 _ => ?_)
      refine r_iadd (pc := 90) hE dX7_findBlind_90 ?_
      refine r_bipush (v := 6) (pc := 91) hE dX7_findBlind_91 (by decide) ?_
      refine r_irem (pc := 93) hE dX7_findBlind_93 (by decide) ?_
      refine r_callV (pc := 94) hE 7 (As := [.long v78, .int x2, .int (rem (v81 + v89) 6)]) (fun out ho => c_X7_goesAll _ _ fu _ _ _ _ _ out ho) (fun out ho => k_X7_goesAll ho) (by decide) rfl cs_RX7_138 ⟨Nat.le_of_ble_eq_true rfl, Nat.le_of_ble_eq_true rfl, Nat.le_of_ble_eq_true rfl, Nat.le_of_ble_eq_true rfl⟩ (Nat.le_of_ble_eq_true rfl) rfl dX7_findBlind_94 (fun r94 _ => ?_)
      refine r_lstore_n (pc := 97) hE dX7_findBlind_97 (by decide) ?_
      refine r_aload_n (pc := 98) hE dX7_findBlind_98 rfl ?_
      refine r_lload_n (pc := 99) hE dX7_findBlind_99 rfl ?_
      refine r_callV (pc := 100) hE 7 (As := [.long r94.1]) (fun out ho => c_X7_isAllLand _ _ fu _ _ _ out ho) (fun out ho => k_X7_isAllLand ho) (by decide) rfl cs_RX7_229 ⟨Nat.le_of_ble_eq_true rfl, Nat.le_of_ble_eq_true rfl, Nat.le_of_ble_eq_true rfl, Nat.le_of_ble_eq_true rfl⟩ (Nat.le_of_ble_eq_true rfl) rfl dX7_findBlind_100 (fun r100 _ => ?_)
      refine r_if_eq (pc := 103) hE 114 dX7_findBlind_103 (by decide) (fun _ => ?_) (fun _ => ?_)
      · refine r_aload_n (pc := 114) hE dX7_findBlind_114 rfl ?_
        refine r_getR (pc := 115) hE 7 33 (by decide) (by decide) (fun _ _ _ => rfl) fl_RX7_75 dX7_findBlind_115 (fun v115 _ => ?_)
        refine r_iload_n (pc := 118) hE dX7_findBlind_118 rfl ?_
        refine r_aldI (pc := 119) hE dX7_findBlind_119 (fun v119 _ => ?_)
        refine r_bipush (v := 11) (pc := 120) hE dX7_findBlind_120 (by decide) ?_
        refine r_icmp_eq (pc := 122) hE 213 dX7_findBlind_122 (by decide) (fun _ => ?_) (fun _ => ?_)
        · exact w_X7_findBlind_213 hE hk42 (fun y0 y1 y2 hy lvy hly => ih y0 y1 y2 hy lvy hly) _ _ _ _ ⟨rfl, ⟨rfl, ⟨rfl, trivial⟩⟩⟩
        · refine r_aload_n (pc := 125) hE dX7_findBlind_125 rfl ?_
          refine r_lload_n (pc := 126) hE dX7_findBlind_126 rfl ?_
          refine r_aload_n (pc := 127) hE dX7_findBlind_127 rfl ?_
          refine r_getR (pc := 128) hE 7 33 (by decide) (by decide) (fun _ _ _ => rfl) fl_RX7_75 dX7_findBlind_128 (fun v128 _ => ?_)
          refine r_iload_n (pc := 131) hE dX7_findBlind_131 rfl ?_
          refine r_aldI (pc := 132) hE dX7_findBlind_132 (fun v132 _ => ?_)
          refine r_iconst (v := 1) (pc := 133) hE dX7_findBlind_133 (by decide) ?_
          refine r_iadd (pc := 134) hE dX7_findBlind_134 ?_
          refine r_callV (pc := 135) hE 7 (As := [.long r94.1, .int (v132 + 1)]) (fun out ho => c_X7_came _ _ fu _ _ _ _ out ho) (fun out ho => k_X7_came ho) (by decide) rfl cs_RX7_237 ⟨Nat.le_of_ble_eq_true rfl, Nat.le_of_ble_eq_true rfl, Nat.le_of_ble_eq_true rfl, Nat.le_of_ble_eq_true rfl⟩ (Nat.le_of_ble_eq_true rfl) rfl dX7_findBlind_135 (fun r135 _ => ?_)
          refine r_if_eq (pc := 138) hE 144 dX7_findBlind_138 (by decide) (fun _ => ?_) (fun _ => ?_)
          · refine r_aload_n (pc := 144) hE dX7_findBlind_144 rfl ?_
            refine r_getI (pc := 145) hE 7 31 (by decide) (by decide) (fun _ _ _ => rfl) fl_RX7_223 dX7_findBlind_145 (fun v145 _ => ?_)
            refine r_sipush (v := 3000) (pc := 148) hE dX7_findBlind_148 (by decide) ?_
            refine r_icmp_ne (pc := 151) hE 156 dX7_findBlind_151 (by decide) (fun _ => ?_) (fun _ => ?_)
            · refine r_aload_n (pc := 156) hE dX7_findBlind_156 rfl ?_
              refine r_getR (pc := 157) hE 7 32 (by decide) (by decide) (fun _ _ _ => rfl) fl_RX7_71 dX7_findBlind_157 (fun v157 _ => ?_)
              refine r_aload_n (pc := 160) hE dX7_findBlind_160 rfl ?_
              refine r_getI (pc := 161) hE 7 31 (by decide) (by decide) (fun _ _ _ => rfl) fl_RX7_223 dX7_findBlind_161 (fun v161 _ => ?_)
              refine r_lload_n (pc := 164) hE dX7_findBlind_164 rfl ?_
              refine r_astJ (pc := 165) hE dX7_findBlind_165 (fun h165 _ => ?_)
              refine r_aload_n (pc := 166) hE dX7_findBlind_166 rfl ?_
              refine r_getR (pc := 167) hE 7 33 (by decide) (by decide) (fun _ _ _ => rfl) fl_RX7_75 dX7_findBlind_167 (fun v167 _ => ?_)
              refine r_aload_n (pc := 170) hE dX7_findBlind_170 rfl ?_
              refine r_getI (pc := 171) hE 7 31 (by decide) (by decide) (fun _ _ _ => rfl) fl_RX7_223 dX7_findBlind_171 (fun v171 _ => ?_)
              refine r_aload_n (pc := 174) hE dX7_findBlind_174 rfl ?_
              refine r_getR (pc := 175) hE 7 33 (by decide) (by decide) (fun _ _ _ => rfl) fl_RX7_75 dX7_findBlind_175 (fun v175 _ => ?_)
              refine r_iload_n (pc := 178) hE dX7_findBlind_178 rfl ?_
              refine r_aldI (pc := 179) hE dX7_findBlind_179 (fun v179 _ => ?_)
              refine r_iconst (v := 1) (pc := 180) hE dX7_findBlind_180 (by decide) ?_
              refine r_iadd (pc := 181) hE dX7_findBlind_181 ?_
              refine r_astI (pc := 182) hE dX7_findBlind_182 (fun h182 _ => ?_)
              refine r_aload_n (pc := 183) hE dX7_findBlind_183 rfl ?_
              refine r_getR (pc := 184) hE 7 34 (by decide) (by decide) (fun _ _ _ => rfl) fl_RX7_78 dX7_findBlind_184 (fun v184 _ => ?_)
              refine r_aload_n (pc := 187) hE dX7_findBlind_187 rfl ?_
              refine r_getI (pc := 188) hE 7 31 (by decide) (by decide) (fun _ _ _ => rfl) fl_RX7_223 dX7_findBlind_188 (fun v188 _ => ?_)
              refine r_iload_n (pc := 191) hE dX7_findBlind_191 rfl ?_
              refine r_astI (pc := 192) hE dX7_findBlind_192 (fun h192 _ => ?_)
              refine r_aload_n (pc := 193) hE dX7_findBlind_193 rfl ?_
              refine r_getR (pc := 194) hE 7 35 (by decide) (by decide) (fun _ _ _ => rfl) fl_RX7_81 dX7_findBlind_194 (fun v194 _ => ?_)
              refine r_aload_n (pc := 197) hE dX7_findBlind_197 rfl ?_
              refine r_getI (pc := 198) hE 7 31 (by decide) (by decide) (fun _ _ _ => rfl) fl_RX7_223 dX7_findBlind_198 (fun v198 _ => ?_)
              refine r_iload_n (pc := 201) hE dX7_findBlind_201 rfl ?_
              refine r_astI (pc := 202) hE dX7_findBlind_202 (fun h202 _ => ?_)
              refine r_aload_n (pc := 203) hE dX7_findBlind_203 rfl ?_
              refine r_aload_n (pc := 204) hE dX7_findBlind_204 rfl ?_
              refine r_getI (pc := 205) hE 7 31 (by decide) (by decide) (fun _ _ _ => rfl) fl_RX7_223 dX7_findBlind_205 (fun v205 _ => ?_)
              refine r_iconst (v := 1) (pc := 208) hE dX7_findBlind_208 (by decide) ?_
              refine r_iadd (pc := 209) hE dX7_findBlind_209 ?_
              refine r_putI (pc := 210) hE 7 31 (by decide) (by decide) (fun _ _ _ => rfl) fl_RX7_223 rfl rfl rfl dX7_findBlind_210 (fun h210 _ => ?_)
              exact w_X7_findBlind_213 hE hk42 (fun y0 y1 y2 hy lvy hly => ih y0 y1 y2 hy lvy hly) _ _ _ _ ⟨rfl, ⟨rfl, ⟨rfl, trivial⟩⟩⟩
            · refine r_iconst (v := -1) (pc := 154) hE dX7_findBlind_154 (by decide) ?_
              exact r_iret (pc := 155) hE dX7_findBlind_155
          · refine r_goto (pc := 141) hE 213 dX7_findBlind_141 (by decide) ?_
            exact w_X7_findBlind_213 hE hk42 (fun y0 y1 y2 hy lvy hly => ih y0 y1 y2 hy lvy hly) _ _ _ _ ⟨rfl, ⟨rfl, ⟨rfl, trivial⟩⟩⟩
      · refine r_aload_n (pc := 106) hE dX7_findBlind_106 rfl ?_
        refine r_iload_n (pc := 107) hE dX7_findBlind_107 rfl ?_
        refine r_iload_n (pc := 108) hE dX7_findBlind_108 rfl ?_
        refine r_callV (pc := 109) hE 7 (As := [.int x1, .int x2]) (fun out ho => c_X7_leads _ _ fu _ _ _ _ out ho) (fun out ho => k_X7_leads ho) (by decide) rfl cs_RX7_233 ⟨Nat.le_of_ble_eq_true rfl, Nat.le_of_ble_eq_true rfl, Nat.le_of_ble_eq_true rfl, Nat.le_of_ble_eq_true rfl⟩ (Nat.le_of_ble_eq_true rfl) rfl dX7_findBlind_109 (fun r109 _ => ?_)
        refine r_iconst (v := 1) (pc := 112) hE dX7_findBlind_112 (by decide) ?_
        exact r_iret (pc := 113) hE dX7_findBlind_113
def f_X7_findBlind_42 (fu : Nat) : Nat → Nat → Int32 → Hp → Option (Int32 × Hp)
  | 0, _, _, _ => none
  | n + 1, x0, x1, h =>
    (gI h 7 x0 31).bind fun v44 =>
    if v44 ≤ x1 then
      some (0, h)
    else
      (gR h 7 x0 33).bind fun v51 =>
      (aI h 8 v51 x1).bind fun v55 =>
      if v55 = 12 then
        f_X7_findBlind_219 fu (fun y0 y1 hy => f_X7_findBlind_42 fu n y0 y1 hy) x0 x1 h
      else
        f_X7_findBlind_66 fu (fun y0 y1 hy => f_X7_findBlind_42 fu n y0 y1 hy) fu x0 x1 0 h
set_option maxHeartbeats 4000000 in
set_option maxRecDepth 100000 in
theorem w_X7_findBlind_42 {X : Cx} {D : Dx} (hE : En X D cX7_findBlind 5 RX7 (some .int) rm_X7_findBlind) {fu : Nat} : ∀ (n : Nat) (x0 : Nat) (x1 : Int32) (h : Hp) (lv : List (Option Value)), lvLe [some (.ref x0), some (.int x1), none, none, none] lv → Wo X D 5 (Qr X D 0 0 evI) 0 0 (f_X7_findBlind_42 fu n x0 x1 h) 42 lv [] h := by
  intro n
  induction n with
  | zero => intros; exact Wo_none
  | succ n ih =>
    intro x0 x1 h lv hlv
    refine Wo_sub hlv ?_
    rw [f_X7_findBlind_42]
    refine r_iload_n (pc := 42) hE dX7_findBlind_42 rfl ?_
    refine r_aload_n (pc := 43) hE dX7_findBlind_43 rfl ?_
    refine r_getI (pc := 44) hE 7 31 (by decide) (by decide) (fun _ _ _ => rfl) fl_RX7_223 dX7_findBlind_44 (fun v44 _ => ?_)
    refine r_icmp_ge (pc := 47) hE 225 dX7_findBlind_47 (by decide) (fun _ => ?_) (fun _ => ?_)
    · refine r_iconst (v := 0) (pc := 225) hE dX7_findBlind_225 (by decide) ?_
      exact r_iret (pc := 226) hE dX7_findBlind_226
    · refine r_aload_n (pc := 50) hE dX7_findBlind_50 rfl ?_
      refine r_getR (pc := 51) hE 7 33 (by decide) (by decide) (fun _ _ _ => rfl) fl_RX7_75 dX7_findBlind_51 (fun v51 _ => ?_)
      refine r_iload_n (pc := 54) hE dX7_findBlind_54 rfl ?_
      refine r_aldI (pc := 55) hE dX7_findBlind_55 (fun v55 _ => ?_)
      refine r_bipush (v := 12) (pc := 56) hE dX7_findBlind_56 (by decide) ?_
      refine r_icmp_ne (pc := 58) hE 64 dX7_findBlind_58 (by decide) (fun _ => ?_) (fun _ => ?_)
      · refine r_iconst (v := 0) (pc := 64) hE dX7_findBlind_64 (by decide) ?_
        refine r_istore_n (pc := 65) hE dX7_findBlind_65 (by decide) ?_
        exact w_X7_findBlind_66 hE (fun y0 y1 hy lvy hly => ih y0 y1 hy lvy hly) fu _ _ _ _ _ ⟨rfl, ⟨rfl, ⟨rfl, trivial⟩⟩⟩
      · refine r_goto (pc := 61) hE 219 dX7_findBlind_61 (by decide) ?_
        exact w_X7_findBlind_219 hE (fun y0 y1 hy lvy hly => ih y0 y1 hy lvy hly) _ _ _ ⟨rfl, ⟨rfl, trivial⟩⟩
def f_X7_findBlind (fu : Nat) (x0 : Nat) (h : Hp) : Option (Int32 × Hp) :=
  if h.K x0 = 7 then
    (pI h 7 x0 36 0).bind fun h2 =>
    (gJ h2 7 x0 4).bind fun v7 =>
    (f_X7_isAllLand fu x0 v7 h2).bind fun r10 =>
    if r10.1 = 0 then
      (pI r10.2 7 x0 31 1).bind fun h20 =>
      (gR h20 7 x0 32).bind fun v24 =>
      (gJ h20 7 x0 4).bind fun v29 =>
      (sJ h20 9 v24 0 v29).bind fun h32 =>
      (gR h32 7 x0 33).bind fun v34 =>
      (sI h32 8 v34 0 0).bind fun h39 =>
      f_X7_findBlind_42 fu fu x0 0 h39
    else
      some (1, r10.2)
  else none
set_option maxHeartbeats 4000000 in
set_option maxRecDepth 100000 in
theorem c_X7_findBlind (l : Launch) (D : Dx) (fu : Nat) (x0 : Nat) (h : Hp) (out : Int32 × Hp) (ho : f_X7_findBlind fu x0 h = some out) : Ct l D yX7_findBlind cX7_findBlind 5 (some .int) rm_X7_findBlind [.ref x0] h (evI out.1) out.2 := by
  refine Ct.of (o := f_X7_findBlind fu x0 h) (lv := [some (.ref x0), none, none, none, none]) (by decide) (Nat.le_of_ble_eq_true rfl) rfl ?_ out ho
  intro X hXl hE hin
  replace hE : En X D cX7_findBlind 5 RX7 (some .int) rm_X7_findBlind := hE
  subst hXl
  unfold f_X7_findBlind
  refine Wo_grd (fun _ => ?_)
  refine r_aload_n (pc := 0) hE dX7_findBlind_0 rfl ?_
  refine r_iconst (v := 0) (pc := 1) hE dX7_findBlind_1 (by decide) ?_
  refine r_putI (pc := 2) hE 7 36 (by decide) (by decide) (fun _ _ _ => rfl) fl_RX7_226 rfl rfl rfl dX7_findBlind_2 (fun h2 _ => ?_)
  refine r_aload_n (pc := 5) hE dX7_findBlind_5 rfl ?_
  refine r_aload_n (pc := 6) hE dX7_findBlind_6 rfl ?_
  refine r_getJ (pc := 7) hE 7 4 (by decide) (by decide) (fun _ _ _ => rfl) fl_RX7_18 dX7_findBlind_7 (fun v7 _ => ?_)
  refine r_callV (pc := 10) hE 7 (As := [.long v7]) (fun out ho => c_X7_isAllLand _ _ fu _ _ _ out ho) (fun out ho => k_X7_isAllLand ho) (by decide) rfl cs_RX7_229 ⟨Nat.le_of_ble_eq_true rfl, Nat.le_of_ble_eq_true rfl, Nat.le_of_ble_eq_true rfl, Nat.le_of_ble_eq_true rfl⟩ (Nat.le_of_ble_eq_true rfl) rfl dX7_findBlind_10 (fun r10 _ => ?_)
  refine r_if_eq (pc := 13) hE 18 dX7_findBlind_13 (by decide) (fun _ => ?_) (fun _ => ?_)
  · refine r_aload_n (pc := 18) hE dX7_findBlind_18 rfl ?_
    refine r_iconst (v := 1) (pc := 19) hE dX7_findBlind_19 (by decide) ?_
    refine r_putI (pc := 20) hE 7 31 (by decide) (by decide) (fun _ _ _ => rfl) fl_RX7_223 rfl rfl rfl dX7_findBlind_20 (fun h20 _ => ?_)
    refine r_aload_n (pc := 23) hE dX7_findBlind_23 rfl ?_
    refine r_getR (pc := 24) hE 7 32 (by decide) (by decide) (fun _ _ _ => rfl) fl_RX7_71 dX7_findBlind_24 (fun v24 _ => ?_)
    refine r_iconst (v := 0) (pc := 27) hE dX7_findBlind_27 (by decide) ?_
    refine r_aload_n (pc := 28) hE dX7_findBlind_28 rfl ?_
    refine r_getJ (pc := 29) hE 7 4 (by decide) (by decide) (fun _ _ _ => rfl) fl_RX7_18 dX7_findBlind_29 (fun v29 _ => ?_)
    refine r_astJ (pc := 32) hE dX7_findBlind_32 (fun h32 _ => ?_)
    refine r_aload_n (pc := 33) hE dX7_findBlind_33 rfl ?_
    refine r_getR (pc := 34) hE 7 33 (by decide) (by decide) (fun _ _ _ => rfl) fl_RX7_75 dX7_findBlind_34 (fun v34 _ => ?_)
    refine r_iconst (v := 0) (pc := 37) hE dX7_findBlind_37 (by decide) ?_
    refine r_iconst (v := 0) (pc := 38) hE dX7_findBlind_38 (by decide) ?_
    refine r_astI (pc := 39) hE dX7_findBlind_39 (fun h39 _ => ?_)
    refine r_iconst (v := 0) (pc := 40) hE dX7_findBlind_40 (by decide) ?_
    refine r_istore_n (pc := 41) hE dX7_findBlind_41 (by decide) ?_
    exact w_X7_findBlind_42 hE fu _ _ _ _ ⟨rfl, ⟨rfl, trivial⟩⟩
  · refine r_iconst (v := 1) (pc := 16) hE dX7_findBlind_16 (by decide) ?_
    exact r_iret (pc := 17) hE dX7_findBlind_17
theorem k_X7_findBlind {fu : Nat} {x0 : Nat} {h : Hp} {out : Int32 × Hp} (ho : f_X7_findBlind fu x0 h = some out) : h.K x0 = 7 := (gi_k ho).1
theorem cs_RX7_240 : csV RX7 240 yX7_findBlind cX7_findBlind 5 (some .int) 0 = true := by decide +kernel
def rm_X7_blind : Room := { frames := 4, cells := 0, slots := 0, locals := 99 }
def f_X7_blind_24 (fu : Nat) (x0 : Nat) (x1 : Int32) (h : Hp) : Option (Int32 × Hp) :=
  (f_X7_findBlind fu x0 h).bind fun r25 =>
  if r25.1 = 0 then
    some ((-1), r25.2)
  else
    if r25.1 = (-1) then
      some ((-2), r25.2)
    else
      if x1 = 0 then
        (gI r25.2 7 x0 36).bind fun v48 =>
        some (v48, r25.2)
      else
        (gI r25.2 7 x0 36).bind fun v57 =>
        if v57 ≤ (x1 - 10) then
          some ((-2), r25.2)
        else
          (gR r25.2 7 x0 37).bind fun v64 =>
          (aI r25.2 8 v64 (x1 - 10)).bind fun v71 =>
          some (v71, r25.2)
set_option maxHeartbeats 4000000 in
set_option maxRecDepth 100000 in
theorem w_X7_blind_24 {X : Cx} {D : Dx} (hE : En X D cX7_blind 3 RX7 (some .int) rm_X7_blind) {fu : Nat} (x0 : Nat) (x1 : Int32) (h : Hp) {lv : List (Option Value)} (hlv : lvLe [some (.ref x0), some (.int x1), none] lv) : Wo X D 3 (Qr X D 0 0 evI) 0 0 (f_X7_blind_24 fu x0 x1 h) 24 lv [] h := by
  refine Wo_sub hlv ?_
  unfold f_X7_blind_24
  refine r_aload_n (pc := 24) hE dX7_blind_24 rfl ?_
  refine r_callV (pc := 25) hE 7 (As := []) (fun out ho => c_X7_findBlind _ _ fu _ _ out ho) (fun out ho => k_X7_findBlind ho) (by decide) rfl cs_RX7_240 ⟨Nat.le_of_ble_eq_true rfl, Nat.le_of_ble_eq_true rfl, Nat.le_of_ble_eq_true rfl, Nat.le_of_ble_eq_true rfl⟩ (Nat.le_of_ble_eq_true rfl) rfl dX7_blind_25 (fun r25 _ => ?_)
  refine r_istore_n (pc := 28) hE dX7_blind_28 (by decide) ?_
  refine r_iload_n (pc := 29) hE dX7_blind_29 rfl ?_
  refine r_if_ne (pc := 30) hE 35 dX7_blind_30 (by decide) (fun _ => ?_) (fun _ => ?_)
  · refine r_iload_n (pc := 35) hE dX7_blind_35 rfl ?_
    refine r_iconst (v := -1) (pc := 36) hE dX7_blind_36 (by decide) ?_
    refine r_icmp_ne (pc := 37) hE 43 dX7_blind_37 (by decide) (fun _ => ?_) (fun _ => ?_)
    · refine r_iload_n (pc := 43) hE dX7_blind_43 rfl ?_
      refine r_if_ne (pc := 44) hE 52 dX7_blind_44 (by decide) (fun _ => ?_) (fun _ => ?_)
      · refine r_iload_n (pc := 52) hE dX7_blind_52 rfl ?_
        refine r_bipush (v := 10) (pc := 53) hE dX7_blind_53 (by decide) ?_
        refine r_isub (pc := 55) hE dX7_blind_55 ?_
        refine r_aload_n (pc := 56) hE dX7_blind_56 rfl ?_
        refine r_getI (pc := 57) hE 7 36 (by decide) (by decide) (fun _ _ _ => rfl) fl_RX7_226 dX7_blind_57 (fun v57 _ => ?_)
        refine r_icmp_ge (pc := 60) hE 75 dX7_blind_60 (by decide) (fun _ => ?_) (fun _ => ?_)
        · refine r_bipush (v := -2) (pc := 75) hE dX7_blind_75 (by decide) ?_
          exact r_iret (pc := 77) hE dX7_blind_77
        · refine r_aload_n (pc := 63) hE dX7_blind_63 rfl ?_
          refine r_getR (pc := 64) hE 7 37 (by decide) (by decide) (fun _ _ _ => rfl) fl_RX7_84 dX7_blind_64 (fun v64 _ => ?_)
          refine r_iload_n (pc := 67) hE dX7_blind_67 rfl ?_
          refine r_bipush (v := 10) (pc := 68) hE dX7_blind_68 (by decide) ?_
          refine r_isub (pc := 70) hE dX7_blind_70 ?_
          refine r_aldI (pc := 71) hE dX7_blind_71 (fun v71 _ => ?_)
          refine r_goto (pc := 72) hE 77 dX7_blind_72 (by decide) ?_
          exact r_iret (pc := 77) hE dX7_blind_77
      · refine r_aload_n (pc := 47) hE dX7_blind_47 rfl ?_
        refine r_getI (pc := 48) hE 7 36 (by decide) (by decide) (fun _ _ _ => rfl) fl_RX7_226 dX7_blind_48 (fun v48 _ => ?_)
        exact r_iret (pc := 51) hE dX7_blind_51
    · refine r_bipush (v := -2) (pc := 40) hE dX7_blind_40 (by decide) ?_
      exact r_iret (pc := 42) hE dX7_blind_42
  · refine r_iconst (v := -1) (pc := 33) hE dX7_blind_33 (by decide) ?_
    exact r_iret (pc := 34) hE dX7_blind_34
def f_X7_blind (fu : Nat) (x0 : Nat) (x1 : Int32) (h : Hp) : Option (Int32 × Hp) :=
  if h.K x0 = 7 then
    (pI h 7 x0 0 0).bind fun h2 =>
    if x1 = 0 then
      f_X7_blind_24 fu x0 x1 h2
    else
      if x1 < 10 then
        some ((-2), h2)
      else
        if x1 ≤ 21 then
          f_X7_blind_24 fu x0 x1 h2
        else
          some ((-2), h2)
  else none
set_option maxHeartbeats 4000000 in
set_option maxRecDepth 100000 in
theorem c_X7_blind (l : Launch) (D : Dx) (fu : Nat) (x0 : Nat) (x1 : Int32) (h : Hp) (out : Int32 × Hp) (ho : f_X7_blind fu x0 x1 h = some out) : Ct l D yX7_blind cX7_blind 3 (some .int) rm_X7_blind [.ref x0, .int x1] h (evI out.1) out.2 := by
  refine Ct.of (o := f_X7_blind fu x0 x1 h) (lv := [some (.ref x0), some (.int x1), none]) (by decide) (Nat.le_of_ble_eq_true rfl) rfl ?_ out ho
  intro X hXl hE hin
  replace hE : En X D cX7_blind 3 RX7 (some .int) rm_X7_blind := hE
  subst hXl
  unfold f_X7_blind
  refine Wo_grd (fun _ => ?_)
  refine r_aload_n (pc := 0) hE dX7_blind_0 rfl ?_
  refine r_iconst (v := 0) (pc := 1) hE dX7_blind_1 (by decide) ?_
  refine r_putI (pc := 2) hE 7 0 (by decide) (by decide) (fun _ _ _ => rfl) fl_RX7_87 rfl rfl rfl dX7_blind_2 (fun h2 _ => ?_)
  refine r_iload_n (pc := 5) hE dX7_blind_5 rfl ?_
  refine r_if_eq (pc := 6) hE 24 dX7_blind_6 (by decide) (fun _ => ?_) (fun _ => ?_)
  · exact w_X7_blind_24 hE _ _ _ ⟨rfl, ⟨rfl, trivial⟩⟩
  · refine r_iload_n (pc := 9) hE dX7_blind_9 rfl ?_
    refine r_bipush (v := 10) (pc := 10) hE dX7_blind_10 (by decide) ?_
    refine r_icmp_lt (pc := 12) hE 21 dX7_blind_12 (by decide) (fun _ => ?_) (fun _ => ?_)
    · refine r_bipush (v := -2) (pc := 21) hE dX7_blind_21 (by decide) ?_
      exact r_iret (pc := 23) hE dX7_blind_23
    · refine r_iload_n (pc := 15) hE dX7_blind_15 rfl ?_
      refine r_bipush (v := 21) (pc := 16) hE dX7_blind_16 (by decide) ?_
      refine r_icmp_le (pc := 18) hE 24 dX7_blind_18 (by decide) (fun _ => ?_) (fun _ => ?_)
      · exact w_X7_blind_24 hE _ _ _ ⟨rfl, ⟨rfl, trivial⟩⟩
      · refine r_bipush (v := -2) (pc := 21) hE dX7_blind_21 (by decide) ?_
        exact r_iret (pc := 23) hE dX7_blind_23
theorem k_X7_blind {fu : Nat} {x0 : Nat} {x1 : Int32} {h : Hp} {out : Int32 × Hp} (ho : f_X7_blind fu x0 x1 h = some out) : h.K x0 = 7 := (gi_k ho).1
