theorem oi_RX3_3 : Cond.methodLink RX3 3 objectInit ∈ TB ∧ Cond.instanceMethod objectInit ∈ TB ∧ Cond.code objectInit ⟨#[0xb1]⟩ 1 none ∈ TB := ⟨tb_in (by decide +kernel) rfl, tb_in (by decide +kernel) rfl, tb_in (by decide +kernel) rfl⟩
theorem fl_RX3_9 : Cond.fieldLink RX3 9 (TF 3 2).1 (TF 3 2).2.1 (TF 3 2).2.2.1 ∈ TB := tb_in (by decide +kernel) rfl
theorem fl_RX3_15 : Cond.fieldLink RX3 15 (TF 3 3).1 (TF 3 3).2.1 (TF 3 3).2.2.1 ∈ TB := tb_in (by decide +kernel) rfl
def rm_X3_init : Room := { frames := 1, cells := 1, slots := 400, locals := 12 }
def f_X3_init (fu : Nat) (x0 : Nat) (h : Hp) : Option (Unit × Hp) :=
  if h.K x0 = 3 then
    (pI h 3 x0 2 (-1)).bind fun h6 =>
    (pR (newC h6 10 400) 3 x0 3 (some (Hp.N h6))).bind fun h15 =>
    some ((), h15)
  else none
set_option maxHeartbeats 4000000 in
set_option maxRecDepth 100000 in
theorem c_X3_init (l : Launch) (D : Dx) (fu : Nat) (x0 : Nat) (h : Hp) (out : Unit × Hp) (ho : f_X3_init fu x0 h = some out) : Ct l D yX3_init cX3_init 1 none rm_X3_init [.ref x0] h (evU out.1) out.2 := by
  refine Ct.of (o := f_X3_init fu x0 h) (lv := [some (.ref x0)]) (by decide) (Nat.le_of_ble_eq_true rfl) rfl ?_ out ho
  intro X hXl hE hin
  replace hE : En X D cX3_init 1 RX3 none rm_X3_init := hE
  subst hXl
  replace hin : X.meth.name = "<init>" := hin
  unfold f_X3_init
  refine Wo_grd (fun _ => ?_)
  refine r_aload_n (pc := 0) hE dX3_init_0 rfl ?_
  refine r_objInit (pc := 1) hE oi_RX3_3 ⟨Nat.le_of_ble_eq_true rfl, Nat.le_of_ble_eq_true rfl⟩ dX3_init_1 ?_
  refine r_aload_n (pc := 4) hE dX3_init_4 rfl ?_
  refine r_iconst (v := -1) (pc := 5) hE dX3_init_5 (by decide) ?_
  refine r_putI (pc := 6) hE 3 2 (by decide) (by decide) (fun _ _ _ => rfl) fl_RX3_9 rfl rfl rfl dX3_init_6 (fun h6 _ => ?_)
  refine r_aload_n (pc := 9) hE dX3_init_9 rfl ?_
  refine r_sipush (v := 400) (pc := 10) hE dX3_init_10 (by decide) ?_
  refine r_newCh (pc := 13) hE 400 (by decide) (by decide) (by decide) ar10 ⟨Nat.le_of_ble_eq_true rfl, Nat.le_of_ble_eq_true rfl⟩ dX3_init_13 ?_
  refine r_putF (pc := 15) hE hin 3 3 (by decide) (by decide) rfl (fun _ _ _ => rfl) fl_RX3_15 rfl rfl rfl dX3_init_15 (fun h15 _ => ?_)
  exact r_vret (pc := 18) hE dX3_init_18
theorem k_X3_init {fu : Nat} {x0 : Nat} {h : Hp} {out : Unit × Hp} (ho : f_X3_init fu x0 h = some out) : h.K x0 = 3 := (gi_k ho).1
theorem fl_RX3_19 : Cond.fieldLink RX3 19 (TF 3 0).1 (TF 3 0).2.1 (TF 3 0).2.2.1 ∈ TB := tb_in (by decide +kernel) rfl
def rm_X3_append : Room := { frames := 0, cells := 0, slots := 0, locals := 0 }
def f_X3_append_3 (fu : Nat) : Nat → Nat → Int32 → Int32 → Hp → Option (Unit × Hp)
  | 0, _, _, _, _ => none
  | n + 1, x0, x1, x2, h =>
    if x2 < 0 then
      some ((), h)
    else
      (gI h 3 x0 0).bind fun v8 =>
      if 400 ≤ v8 then
        some ((), h)
      else
        (gR h 3 x0 3).bind fun v18 =>
        (gI h 3 x0 0).bind fun v22 =>
        (sI h 10 v18 v22 (vp_nar .char (i2ch ((iush x1 x2) &&& 255)))).bind fun h33 =>
        (gI h33 3 x0 0).bind fun v36 =>
        (pI h33 3 x0 0 (v36 + 1)).bind fun h41 =>
        f_X3_append_3 fu n x0 x1 ((x2 + (-8))) h41
set_option maxHeartbeats 4000000 in
set_option maxRecDepth 100000 in
theorem w_X3_append_3 {X : Cx} {D : Dx} (hE : En X D cX3_append 3 RX3 none rm_X3_append) {fu : Nat} : ∀ (n : Nat) (x0 : Nat) (x1 : Int32) (x2 : Int32) (h : Hp) (lv : List (Option Value)), lvLe [some (.ref x0), some (.int x1), some (.int x2)] lv → Wo X D 3 (Qr X D 0 0 evU) 0 0 (f_X3_append_3 fu n x0 x1 x2 h) 3 lv [] h := by
  intro n
  induction n with
  | zero => intros; exact Wo_none
  | succ n ih =>
    intro x0 x1 x2 h lv hlv
    refine Wo_sub hlv ?_
    rw [f_X3_append_3]
    refine r_iload_n (pc := 3) hE dX3_append_3 rfl ?_
    refine r_if_lt (pc := 4) hE 50 dX3_append_4 (by decide) (fun _ => ?_) (fun _ => ?_)
    · exact r_vret (pc := 50) hE dX3_append_50
    · refine r_aload_n (pc := 7) hE dX3_append_7 rfl ?_
      refine r_getI (pc := 8) hE 3 0 (by decide) (by decide) (fun _ _ _ => rfl) fl_RX3_19 dX3_append_8 (fun v8 _ => ?_)
      refine r_sipush (v := 400) (pc := 11) hE dX3_append_11 (by decide) ?_
      refine r_icmp_ge (pc := 14) hE 50 dX3_append_14 (by decide) (fun _ => ?_) (fun _ => ?_)
      · exact r_vret (pc := 50) hE dX3_append_50
      · refine r_aload_n (pc := 17) hE dX3_append_17 rfl ?_
        refine r_getR (pc := 18) hE 3 3 (by decide) (by decide) (fun _ _ _ => rfl) fl_RX3_15 dX3_append_18 (fun v18 _ => ?_)
        refine r_aload_n (pc := 21) hE dX3_append_21 rfl ?_
        refine r_getI (pc := 22) hE 3 0 (by decide) (by decide) (fun _ _ _ => rfl) fl_RX3_19 dX3_append_22 (fun v22 _ => ?_)
        refine r_iload_n (pc := 25) hE dX3_append_25 rfl ?_
        refine r_iload_n (pc := 26) hE dX3_append_26 rfl ?_
        refine r_iushr (pc := 27) hE dX3_append_27 ?_
        refine r_sipush (v := 255) (pc := 28) hE dX3_append_28 (by decide) ?_
        refine r_iand (pc := 31) hE dX3_append_31 ?_
        refine r_i2c (pc := 32) hE dX3_append_32 ?_
        refine r_astC (pc := 33) hE dX3_append_33 (fun h33 _ => ?_)
        refine r_aload_n (pc := 34) hE dX3_append_34 rfl ?_
        refine r_dup (pc := 35) hE dX3_append_35 rfl ?_
        refine r_getI (pc := 36) hE 3 0 (by decide) (by decide) (fun _ _ _ => rfl) fl_RX3_19 dX3_append_36 (fun v36 _ => ?_)
        refine r_iconst (v := 1) (pc := 39) hE dX3_append_39 (by decide) ?_
        refine r_iadd (pc := 40) hE dX3_append_40 ?_
        refine r_putI (pc := 41) hE 3 0 (by decide) (by decide) (fun _ _ _ => rfl) fl_RX3_19 rfl rfl rfl dX3_append_41 (fun h41 _ => ?_)
        refine r_iinc (v := (x2 + (-8))) (pc := 44) hE dX3_append_44 rfl rfl (by decide) ?_
        refine r_goto (pc := 47) hE 3 dX3_append_47 (by decide) ?_
        exact ih _ _ _ _ _ ⟨rfl, ⟨rfl, ⟨rfl, trivial⟩⟩⟩
def f_X3_append (fu : Nat) (x0 : Nat) (x1 : Int32) (h : Hp) : Option (Unit × Hp) :=
  if h.K x0 = 3 then
    f_X3_append_3 fu fu x0 x1 24 h
  else none
set_option maxHeartbeats 4000000 in
set_option maxRecDepth 100000 in
theorem c_X3_append (l : Launch) (D : Dx) (fu : Nat) (x0 : Nat) (x1 : Int32) (h : Hp) (out : Unit × Hp) (ho : f_X3_append fu x0 x1 h = some out) : Ct l D yX3_append cX3_append 3 none rm_X3_append [.ref x0, .int x1] h (evU out.1) out.2 := by
  refine Ct.of (o := f_X3_append fu x0 x1 h) (lv := [some (.ref x0), some (.int x1), none]) (by decide) (Nat.le_of_ble_eq_true rfl) rfl ?_ out ho
  intro X hXl hE hin
  replace hE : En X D cX3_append 3 RX3 none rm_X3_append := hE
  subst hXl
  unfold f_X3_append
  refine Wo_grd (fun _ => ?_)
  refine r_bipush (v := 24) (pc := 0) hE dX3_append_0 (by decide) ?_
  refine r_istore_n (pc := 2) hE dX3_append_2 (by decide) ?_
  exact w_X3_append_3 hE fu _ _ _ _ _ ⟨rfl, ⟨rfl, ⟨rfl, trivial⟩⟩⟩
theorem k_X3_append {fu : Nat} {x0 : Nat} {x1 : Int32} {h : Hp} {out : Unit × Hp} (ho : f_X3_append fu x0 x1 h = some out) : h.K x0 = 3 := (gi_k ho).1
theorem fl_RX3_27 : Cond.fieldLink RX3 27 (TF 3 1).1 (TF 3 1).2.1 (TF 3 1).2.2.1 ∈ TB := tb_in (by decide +kernel) rfl
theorem fl_RX3_66 : Cond.fieldLink RX3 66 (TF 3 6).1 (TF 3 6).2.1 (TF 3 6).2.2.1 ∈ TB := tb_in (by decide +kernel) rfl
def rm_X3_blame : Room := { frames := 0, cells := 0, slots := 0, locals := 0 }
def f_X3_blame (fu : Nat) (x0 : Nat) (x1 : Int32) (h : Hp) : Option (Unit × Hp) :=
  if h.K x0 = 3 then
    (gI h 3 x0 1).bind fun v1 =>
    if v1 = 0 then
      (pI h 3 x0 1 x1).bind fun h9 =>
      (gI h9 3 x0 6).bind fun v14 =>
      (pI h9 3 x0 2 v14).bind fun h17 =>
      some ((), h17)
    else
      some ((), h)
  else none
set_option maxHeartbeats 4000000 in
set_option maxRecDepth 100000 in
theorem c_X3_blame (l : Launch) (D : Dx) (fu : Nat) (x0 : Nat) (x1 : Int32) (h : Hp) (out : Unit × Hp) (ho : f_X3_blame fu x0 x1 h = some out) : Ct l D yX3_blame cX3_blame 2 none rm_X3_blame [.ref x0, .int x1] h (evU out.1) out.2 := by
  refine Ct.of (o := f_X3_blame fu x0 x1 h) (lv := [some (.ref x0), some (.int x1)]) (by decide) (Nat.le_of_ble_eq_true rfl) rfl ?_ out ho
  intro X hXl hE hin
  replace hE : En X D cX3_blame 2 RX3 none rm_X3_blame := hE
  subst hXl
  unfold f_X3_blame
  refine Wo_grd (fun _ => ?_)
  refine r_aload_n (pc := 0) hE dX3_blame_0 rfl ?_
  refine r_getI (pc := 1) hE 3 1 (by decide) (by decide) (fun _ _ _ => rfl) fl_RX3_27 dX3_blame_1 (fun v1 _ => ?_)
  refine r_if_ne (pc := 4) hE 20 dX3_blame_4 (by decide) (fun _ => ?_) (fun _ => ?_)
  · exact r_vret (pc := 20) hE dX3_blame_20
  · refine r_aload_n (pc := 7) hE dX3_blame_7 rfl ?_
    refine r_iload_n (pc := 8) hE dX3_blame_8 rfl ?_
    refine r_putI (pc := 9) hE 3 1 (by decide) (by decide) (fun _ _ _ => rfl) fl_RX3_27 rfl rfl rfl dX3_blame_9 (fun h9 _ => ?_)
    refine r_aload_n (pc := 12) hE dX3_blame_12 rfl ?_
    refine r_aload_n (pc := 13) hE dX3_blame_13 rfl ?_
    refine r_getI (pc := 14) hE 3 6 (by decide) (by decide) (fun _ _ _ => rfl) fl_RX3_66 dX3_blame_14 (fun v14 _ => ?_)
    refine r_putI (pc := 17) hE 3 2 (by decide) (by decide) (fun _ _ _ => rfl) fl_RX3_9 rfl rfl rfl dX3_blame_17 (fun h17 _ => ?_)
    exact r_vret (pc := 20) hE dX3_blame_20
theorem k_X3_blame {fu : Nat} {x0 : Nat} {x1 : Int32} {h : Hp} {out : Unit × Hp} (ho : f_X3_blame fu x0 x1 h = some out) : h.K x0 = 3 := (gi_k ho).1
theorem fl_RX3_36 : Cond.fieldLink RX3 36 (TF 3 5).1 (TF 3 5).2.1 (TF 3 5).2.2.1 ∈ TB := tb_in (by decide +kernel) rfl
theorem fl_RX3_63 : Cond.fieldLink RX3 63 (TF 3 7).1 (TF 3 7).2.1 (TF 3 7).2.2.1 ∈ TB := tb_in (by decide +kernel) rfl
theorem cs_RX3_43 : csV RX3 43 yX3_blame cX3_blame 2 none 1 = true := by decide +kernel
def rm_X3_numberWithin : Room := { frames := 1, cells := 0, slots := 0, locals := 21 }
def f_X3_numberWithin_29 (fu : Nat) (x0 : Nat) (h : Hp) : Option (Int32 × Hp) :=
  (gI h 3 x0 7).bind fun v30 =>
  some (v30, h)
set_option maxHeartbeats 4000000 in
set_option maxRecDepth 100000 in
theorem w_X3_numberWithin_29 {X : Cx} {D : Dx} (hE : En X D cX3_numberWithin 3 RX3 (some .int) rm_X3_numberWithin) {fu : Nat} (x0 : Nat) (h : Hp) {lv : List (Option Value)} (hlv : lvLe [some (.ref x0), none, none] lv) : Wo X D 3 (Qr X D 0 0 evI) 0 0 (f_X3_numberWithin_29 fu x0 h) 29 lv [] h := by
  refine Wo_sub hlv ?_
  unfold f_X3_numberWithin_29
  refine r_aload_n (pc := 29) hE dX3_numberWithin_29 rfl ?_
  refine r_getI (pc := 30) hE 3 7 (by decide) (by decide) (fun _ _ _ => rfl) fl_RX3_63 dX3_numberWithin_30 (fun v30 _ => ?_)
  exact r_iret (pc := 33) hE dX3_numberWithin_33
def f_X3_numberWithin_24 (fu : Nat) (x0 : Nat) (h : Hp) : Option (Int32 × Hp) :=
  (f_X3_blame fu x0 2 h).bind fun r26 =>
  f_X3_numberWithin_29 fu x0 r26.2
set_option maxHeartbeats 4000000 in
set_option maxRecDepth 100000 in
theorem w_X3_numberWithin_24 {X : Cx} {D : Dx} (hE : En X D cX3_numberWithin 3 RX3 (some .int) rm_X3_numberWithin) {fu : Nat} (x0 : Nat) (h : Hp) {lv : List (Option Value)} (hlv : lvLe [some (.ref x0), none, none] lv) : Wo X D 3 (Qr X D 0 0 evI) 0 0 (f_X3_numberWithin_24 fu x0 h) 24 lv [] h := by
  refine Wo_sub hlv ?_
  unfold f_X3_numberWithin_24
  refine r_aload_n (pc := 24) hE dX3_numberWithin_24 rfl ?_
  refine r_iconst (v := 2) (pc := 25) hE dX3_numberWithin_25 (by decide) ?_
  refine r_callV (pc := 26) hE 3 (As := [.int 2]) (fun out ho => c_X3_blame _ _ fu _ _ _ out ho) (fun out ho => k_X3_blame ho) (by decide) rfl cs_RX3_43 ⟨Nat.le_of_ble_eq_true rfl, Nat.le_of_ble_eq_true rfl, Nat.le_of_ble_eq_true rfl, Nat.le_of_ble_eq_true rfl⟩ (Nat.le_of_ble_eq_true rfl) rfl dX3_numberWithin_26 (fun r26 _ => ?_)
  exact w_X3_numberWithin_29 hE _ _ ⟨rfl, trivial⟩
def f_X3_numberWithin (fu : Nat) (x0 : Nat) (x1 : Int32) (x2 : Int32) (h : Hp) : Option (Int32 × Hp) :=
  if h.K x0 = 3 then
    (gI h 3 x0 5).bind fun v1 =>
    if v1 = 2 then
      (gI h 3 x0 7).bind fun v9 =>
      if v9 < x1 then
        f_X3_numberWithin_24 fu x0 h
      else
        (gI h 3 x0 7).bind fun v17 =>
        if v17 ≤ x2 then
          f_X3_numberWithin_29 fu x0 h
        else
          f_X3_numberWithin_24 fu x0 h
    else
      f_X3_numberWithin_29 fu x0 h
  else none
set_option maxHeartbeats 4000000 in
set_option maxRecDepth 100000 in
theorem c_X3_numberWithin (l : Launch) (D : Dx) (fu : Nat) (x0 : Nat) (x1 : Int32) (x2 : Int32) (h : Hp) (out : Int32 × Hp) (ho : f_X3_numberWithin fu x0 x1 x2 h = some out) : Ct l D yX3_numberWithin cX3_numberWithin 3 (some .int) rm_X3_numberWithin [.ref x0, .int x1, .int x2] h (evI out.1) out.2 := by
  refine Ct.of (o := f_X3_numberWithin fu x0 x1 x2 h) (lv := [some (.ref x0), some (.int x1), some (.int x2)]) (by decide) (Nat.le_of_ble_eq_true rfl) rfl ?_ out ho
  intro X hXl hE hin
  replace hE : En X D cX3_numberWithin 3 RX3 (some .int) rm_X3_numberWithin := hE
  subst hXl
  unfold f_X3_numberWithin
  refine Wo_grd (fun _ => ?_)
  refine r_aload_n (pc := 0) hE dX3_numberWithin_0 rfl ?_
  refine r_getI (pc := 1) hE 3 5 (by decide) (by decide) (fun _ _ _ => rfl) fl_RX3_36 dX3_numberWithin_1 (fun v1 _ => ?_)
  refine r_iconst (v := 2) (pc := 4) hE dX3_numberWithin_4 (by decide) ?_
  refine r_icmp_ne (pc := 5) hE 29 dX3_numberWithin_5 (by decide) (fun _ => ?_) (fun _ => ?_)
  · exact w_X3_numberWithin_29 hE _ _ ⟨rfl, trivial⟩
  · refine r_aload_n (pc := 8) hE dX3_numberWithin_8 rfl ?_
    refine r_getI (pc := 9) hE 3 7 (by decide) (by decide) (fun _ _ _ => rfl) fl_RX3_63 dX3_numberWithin_9 (fun v9 _ => ?_)
    refine r_iload_n (pc := 12) hE dX3_numberWithin_12 rfl ?_
    refine r_icmp_lt (pc := 13) hE 24 dX3_numberWithin_13 (by decide) (fun _ => ?_) (fun _ => ?_)
    · exact w_X3_numberWithin_24 hE _ _ ⟨rfl, trivial⟩
    · refine r_aload_n (pc := 16) hE dX3_numberWithin_16 rfl ?_
      refine r_getI (pc := 17) hE 3 7 (by decide) (by decide) (fun _ _ _ => rfl) fl_RX3_63 dX3_numberWithin_17 (fun v17 _ => ?_)
      refine r_iload_n (pc := 20) hE dX3_numberWithin_20 rfl ?_
      refine r_icmp_le (pc := 21) hE 29 dX3_numberWithin_21 (by decide) (fun _ => ?_) (fun _ => ?_)
      · exact w_X3_numberWithin_29 hE _ _ ⟨rfl, trivial⟩
      · exact w_X3_numberWithin_24 hE _ _ ⟨rfl, trivial⟩
theorem k_X3_numberWithin {fu : Nat} {x0 : Nat} {x1 : Int32} {x2 : Int32} {h : Hp} {out : Int32 × Hp} (ho : f_X3_numberWithin fu x0 x1 x2 h = some out) : h.K x0 = 3 := (gi_k ho).1
def rm_X3_signNamed : Room := { frames := 0, cells := 0, slots := 0, locals := 0 }
def f_X3_signNamed (fu : Nat) (x0 : Nat) (h : Hp) : Option (Int32 × Hp) :=
  if h.K x0 = 3 then
    (gI h 3 x0 5).bind fun v1 =>
    swt v1 7 [
      some (2, h)
    ,
      some (0, h)
    ,
      some (1, h)
    ] (
      some ((-1), h)
    )
  else none
set_option maxHeartbeats 4000000 in
set_option maxRecDepth 100000 in
theorem c_X3_signNamed (l : Launch) (D : Dx) (fu : Nat) (x0 : Nat) (h : Hp) (out : Int32 × Hp) (ho : f_X3_signNamed fu x0 h = some out) : Ct l D yX3_signNamed cX3_signNamed 1 (some .int) rm_X3_signNamed [.ref x0] h (evI out.1) out.2 := by
  refine Ct.of (o := f_X3_signNamed fu x0 h) (lv := [some (.ref x0)]) (by decide) (Nat.le_of_ble_eq_true rfl) rfl ?_ out ho
  intro X hXl hE hin
  replace hE : En X D cX3_signNamed 1 RX3 (some .int) rm_X3_signNamed := hE
  subst hXl
  unfold f_X3_signNamed
  refine Wo_grd (fun _ => ?_)
  refine r_aload_n (pc := 0) hE dX3_signNamed_0 rfl ?_
  refine r_getI (pc := 1) hE 3 5 (by decide) (by decide) (fun _ _ _ => rfl) fl_RX3_36 dX3_signNamed_1 (fun v1 _ => ?_)
  refine r_tsw (pc := 4) hE 38 dX3_signNamed_4 (by decide) (by decide) ⟨⟨36, by decide, ?_⟩, ⟨⟨32, by decide, ?_⟩, ⟨⟨34, by decide, ?_⟩, trivial⟩⟩⟩ ?_
  · refine r_iconst (v := 2) (pc := 36) hE dX3_signNamed_36 (by decide) ?_
    exact r_iret (pc := 37) hE dX3_signNamed_37
  · refine r_iconst (v := 0) (pc := 32) hE dX3_signNamed_32 (by decide) ?_
    exact r_iret (pc := 33) hE dX3_signNamed_33
  · refine r_iconst (v := 1) (pc := 34) hE dX3_signNamed_34 (by decide) ?_
    exact r_iret (pc := 35) hE dX3_signNamed_35
  · refine r_iconst (v := -1) (pc := 38) hE dX3_signNamed_38 (by decide) ?_
    exact r_iret (pc := 39) hE dX3_signNamed_39
theorem k_X3_signNamed {fu : Nat} {x0 : Nat} {h : Hp} {out : Int32 × Hp} (ho : f_X3_signNamed fu x0 h = some out) : h.K x0 = 3 := (gi_k ho).1
def rm_X3_isBlank : Room := { frames := 0, cells := 0, slots := 0, locals := 0 }
def f_X3_isBlank_12 (fu : Nat) (h : Hp) : Option (Int32 × Hp) :=
  some (1, h)
set_option maxHeartbeats 4000000 in
set_option maxRecDepth 100000 in
theorem w_X3_isBlank_12 {X : Cx} {D : Dx} (hE : En X D cX3_isBlank 1 RX3 (some .boolean) rm_X3_isBlank) {fu : Nat} (h : Hp) {lv : List (Option Value)} (hlv : lvLe [none] lv) : Wo X D 1 (Qr X D 0 0 evI) 0 0 (f_X3_isBlank_12 fu  h) 12 lv [] h := by
  refine Wo_sub hlv ?_
  unfold f_X3_isBlank_12
  refine r_iconst (v := 1) (pc := 12) hE dX3_isBlank_12 (by decide) ?_
  refine r_goto (pc := 13) hE 17 dX3_isBlank_13 (by decide) ?_
  exact r_zret (pc := 17) hE (by decide) dX3_isBlank_17
def f_X3_isBlank (fu : Nat) (x0 : Int32) (h : Hp) : Option (Int32 × Hp) :=
  if x0 = 32 then
    f_X3_isBlank_12 fu h
  else
    if x0 = 10 then
      f_X3_isBlank_12 fu h
    else
      some (0, h)
set_option maxHeartbeats 4000000 in
set_option maxRecDepth 100000 in
theorem c_X3_isBlank (l : Launch) (D : Dx) (fu : Nat) (x0 : Int32) (h : Hp) (out : Int32 × Hp) (ho : f_X3_isBlank fu x0 h = some out) : Ct l D yX3_isBlank cX3_isBlank 1 (some .boolean) rm_X3_isBlank [.int x0] h (evI out.1) out.2 := by
  refine Ct.of (o := f_X3_isBlank fu x0 h) (lv := [some (.int x0)]) (by decide) (Nat.le_of_ble_eq_true rfl) rfl ?_ out ho
  intro X hXl hE hin
  replace hE : En X D cX3_isBlank 1 RX3 (some .boolean) rm_X3_isBlank := hE
  subst hXl
  unfold f_X3_isBlank
  refine r_iload_n (pc := 0) hE dX3_isBlank_0 rfl ?_
  refine r_bipush (v := 32) (pc := 1) hE dX3_isBlank_1 (by decide) ?_
  refine r_icmp_eq (pc := 3) hE 12 dX3_isBlank_3 (by decide) (fun _ => ?_) (fun _ => ?_)
  · exact w_X3_isBlank_12 hE  _ trivial
  · refine r_iload_n (pc := 6) hE dX3_isBlank_6 rfl ?_
    refine r_bipush (v := 10) (pc := 7) hE dX3_isBlank_7 (by decide) ?_
    refine r_icmp_ne (pc := 9) hE 16 dX3_isBlank_9 (by decide) (fun _ => ?_) (fun _ => ?_)
    · refine r_iconst (v := 0) (pc := 16) hE dX3_isBlank_16 (by decide) ?_
      exact r_zret (pc := 17) hE (by decide) dX3_isBlank_17
    · exact w_X3_isBlank_12 hE  _ trivial
def rm_X3_isDigit : Room := { frames := 0, cells := 0, slots := 0, locals := 0 }
def f_X3_isDigit (fu : Nat) (x0 : Int32) (h : Hp) : Option (Int32 × Hp) :=
  if x0 < 48 then
    some (0, h)
  else
    if 57 < x0 then
      some (0, h)
    else
      some (1, h)
set_option maxHeartbeats 4000000 in
set_option maxRecDepth 100000 in
theorem c_X3_isDigit (l : Launch) (D : Dx) (fu : Nat) (x0 : Int32) (h : Hp) (out : Int32 × Hp) (ho : f_X3_isDigit fu x0 h = some out) : Ct l D yX3_isDigit cX3_isDigit 1 (some .boolean) rm_X3_isDigit [.int x0] h (evI out.1) out.2 := by
  refine Ct.of (o := f_X3_isDigit fu x0 h) (lv := [some (.int x0)]) (by decide) (Nat.le_of_ble_eq_true rfl) rfl ?_ out ho
  intro X hXl hE hin
  replace hE : En X D cX3_isDigit 1 RX3 (some .boolean) rm_X3_isDigit := hE
  subst hXl
  unfold f_X3_isDigit
  refine r_iload_n (pc := 0) hE dX3_isDigit_0 rfl ?_
  refine r_bipush (v := 48) (pc := 1) hE dX3_isDigit_1 (by decide) ?_
  refine r_icmp_lt (pc := 3) hE 16 dX3_isDigit_3 (by decide) (fun _ => ?_) (fun _ => ?_)
  · refine r_iconst (v := 0) (pc := 16) hE dX3_isDigit_16 (by decide) ?_
    exact r_zret (pc := 17) hE (by decide) dX3_isDigit_17
  · refine r_iload_n (pc := 6) hE dX3_isDigit_6 rfl ?_
    refine r_bipush (v := 57) (pc := 7) hE dX3_isDigit_7 (by decide) ?_
    refine r_icmp_gt (pc := 9) hE 16 dX3_isDigit_9 (by decide) (fun _ => ?_) (fun _ => ?_)
    · refine r_iconst (v := 0) (pc := 16) hE dX3_isDigit_16 (by decide) ?_
      exact r_zret (pc := 17) hE (by decide) dX3_isDigit_17
    · refine r_iconst (v := 1) (pc := 12) hE dX3_isDigit_12 (by decide) ?_
      refine r_goto (pc := 13) hE 17 dX3_isDigit_13 (by decide) ?_
      exact r_zret (pc := 17) hE (by decide) dX3_isDigit_17
def rm_X3_isLetter : Room := { frames := 0, cells := 0, slots := 0, locals := 0 }
def f_X3_isLetter_24 (fu : Nat) (h : Hp) : Option (Int32 × Hp) :=
  some (1, h)
set_option maxHeartbeats 4000000 in
set_option maxRecDepth 100000 in
theorem w_X3_isLetter_24 {X : Cx} {D : Dx} (hE : En X D cX3_isLetter 1 RX3 (some .boolean) rm_X3_isLetter) {fu : Nat} (h : Hp) {lv : List (Option Value)} (hlv : lvLe [none] lv) : Wo X D 1 (Qr X D 0 0 evI) 0 0 (f_X3_isLetter_24 fu  h) 24 lv [] h := by
  refine Wo_sub hlv ?_
  unfold f_X3_isLetter_24
  refine r_iconst (v := 1) (pc := 24) hE dX3_isLetter_24 (by decide) ?_
  refine r_goto (pc := 25) hE 29 dX3_isLetter_25 (by decide) ?_
  exact r_zret (pc := 29) hE (by decide) dX3_isLetter_29
def f_X3_isLetter_12 (fu : Nat) (x0 : Int32) (h : Hp) : Option (Int32 × Hp) :=
  if x0 < 65 then
    some (0, h)
  else
    if 90 < x0 then
      some (0, h)
    else
      f_X3_isLetter_24 fu h
set_option maxHeartbeats 4000000 in
set_option maxRecDepth 100000 in
theorem w_X3_isLetter_12 {X : Cx} {D : Dx} (hE : En X D cX3_isLetter 1 RX3 (some .boolean) rm_X3_isLetter) {fu : Nat} (x0 : Int32) (h : Hp) {lv : List (Option Value)} (hlv : lvLe [some (.int x0)] lv) : Wo X D 1 (Qr X D 0 0 evI) 0 0 (f_X3_isLetter_12 fu x0 h) 12 lv [] h := by
  refine Wo_sub hlv ?_
  unfold f_X3_isLetter_12
  refine r_iload_n (pc := 12) hE dX3_isLetter_12 rfl ?_
  refine r_bipush (v := 65) (pc := 13) hE dX3_isLetter_13 (by decide) ?_
  refine r_icmp_lt (pc := 15) hE 28 dX3_isLetter_15 (by decide) (fun _ => ?_) (fun _ => ?_)
  · refine r_iconst (v := 0) (pc := 28) hE dX3_isLetter_28 (by decide) ?_
    exact r_zret (pc := 29) hE (by decide) dX3_isLetter_29
  · refine r_iload_n (pc := 18) hE dX3_isLetter_18 rfl ?_
    refine r_bipush (v := 90) (pc := 19) hE dX3_isLetter_19 (by decide) ?_
    refine r_icmp_gt (pc := 21) hE 28 dX3_isLetter_21 (by decide) (fun _ => ?_) (fun _ => ?_)
    · refine r_iconst (v := 0) (pc := 28) hE dX3_isLetter_28 (by decide) ?_
      exact r_zret (pc := 29) hE (by decide) dX3_isLetter_29
    · exact w_X3_isLetter_24 hE  _ trivial
def f_X3_isLetter (fu : Nat) (x0 : Int32) (h : Hp) : Option (Int32 × Hp) :=
  if x0 < 97 then
    f_X3_isLetter_12 fu x0 h
  else
    if x0 ≤ 122 then
      f_X3_isLetter_24 fu h
    else
      f_X3_isLetter_12 fu x0 h
set_option maxHeartbeats 4000000 in
set_option maxRecDepth 100000 in
theorem c_X3_isLetter (l : Launch) (D : Dx) (fu : Nat) (x0 : Int32) (h : Hp) (out : Int32 × Hp) (ho : f_X3_isLetter fu x0 h = some out) : Ct l D yX3_isLetter cX3_isLetter 1 (some .boolean) rm_X3_isLetter [.int x0] h (evI out.1) out.2 := by
  refine Ct.of (o := f_X3_isLetter fu x0 h) (lv := [some (.int x0)]) (by decide) (Nat.le_of_ble_eq_true rfl) rfl ?_ out ho
  intro X hXl hE hin
  replace hE : En X D cX3_isLetter 1 RX3 (some .boolean) rm_X3_isLetter := hE
  subst hXl
  unfold f_X3_isLetter
  refine r_iload_n (pc := 0) hE dX3_isLetter_0 rfl ?_
  refine r_bipush (v := 97) (pc := 1) hE dX3_isLetter_1 (by decide) ?_
  refine r_icmp_lt (pc := 3) hE 12 dX3_isLetter_3 (by decide) (fun _ => ?_) (fun _ => ?_)
  · exact w_X3_isLetter_12 hE _ _ ⟨rfl, trivial⟩
  · refine r_iload_n (pc := 6) hE dX3_isLetter_6 rfl ?_
    refine r_bipush (v := 122) (pc := 7) hE dX3_isLetter_7 (by decide) ?_
    refine r_icmp_le (pc := 9) hE 24 dX3_isLetter_9 (by decide) (fun _ => ?_) (fun _ => ?_)
    · exact w_X3_isLetter_24 hE  _ trivial
    · exact w_X3_isLetter_12 hE _ _ ⟨rfl, trivial⟩
theorem fl_RX3_30 : Cond.fieldLink RX3 30 (TF 3 4).1 (TF 3 4).2.1 (TF 3 4).2.2.1 ∈ TB := tb_in (by decide +kernel) rfl
theorem cs_RX3_82 : csS RX3 82 yX3_isDigit cX3_isDigit 1 (some .boolean) 1 = true := by decide +kernel
def rm_X3_readNumber : Room := { frames := 1, cells := 0, slots := 0, locals := 20 }
def f_X3_readNumber_99 (fu : Nat) (s0 : Nat) (s1 : Int32) (h : Hp) : Option (Unit × Hp) :=
  (pI h 3 s0 5 s1).bind fun h99 =>
  some ((), h99)
set_option maxHeartbeats 4000000 in
set_option maxRecDepth 100000 in
theorem w_X3_readNumber_99 {X : Cx} {D : Dx} (hE : En X D cX3_readNumber 1 RX3 none rm_X3_readNumber) {fu : Nat} (s0 : Nat) (s1 : Int32) (h : Hp) {lv : List (Option Value)} (hlv : lvLe [none] lv) : Wo X D 1 (Qr X D 0 0 evU) 0 0 (f_X3_readNumber_99 fu s0 s1 h) 99 lv [.int s1, .ref s0] h := by
  refine Wo_sub hlv ?_
  unfold f_X3_readNumber_99
  refine r_putI (pc := 99) hE 3 5 (by decide) (by decide) (fun _ _ _ => rfl) fl_RX3_36 rfl rfl rfl dX3_readNumber_99 (fun h99 _ => ?_)
  exact r_vret (pc := 102) hE dX3_readNumber_102
def f_X3_readNumber_80 (fu : Nat) (x0 : Nat) (h : Hp) : Option (Unit × Hp) :=
  (gI h 3 x0 4).bind fun v82 =>
  (gI h 3 x0 6).bind fun v86 =>
  if 2 < (v82 - v86) then
    f_X3_readNumber_99 fu x0 1 h
  else
    f_X3_readNumber_99 fu x0 2 h
set_option maxHeartbeats 4000000 in
set_option maxRecDepth 100000 in
theorem w_X3_readNumber_80 {X : Cx} {D : Dx} (hE : En X D cX3_readNumber 1 RX3 none rm_X3_readNumber) {fu : Nat} (x0 : Nat) (h : Hp) {lv : List (Option Value)} (hlv : lvLe [some (.ref x0)] lv) : Wo X D 1 (Qr X D 0 0 evU) 0 0 (f_X3_readNumber_80 fu x0 h) 80 lv [] h := by
  refine Wo_sub hlv ?_
  unfold f_X3_readNumber_80
  refine r_aload_n (pc := 80) hE dX3_readNumber_80 rfl ?_
  refine r_aload_n (pc := 81) hE dX3_readNumber_81 rfl ?_
  refine r_getI (pc := 82) hE 3 4 (by decide) (by decide) (fun _ _ _ => rfl) fl_RX3_30 dX3_readNumber_82 (fun v82 _ => ?_)
  refine r_aload_n (pc := 85) hE dX3_readNumber_85 rfl ?_
  refine r_getI (pc := 86) hE 3 6 (by decide) (by decide) (fun _ _ _ => rfl) fl_RX3_66 dX3_readNumber_86 (fun v86 _ => ?_)
  refine r_isub (pc := 89) hE dX3_readNumber_89 ?_
  refine r_iconst (v := 2) (pc := 90) hE dX3_readNumber_90 (by decide) ?_
  refine r_icmp_gt (pc := 91) hE 98 dX3_readNumber_91 (by decide) (fun _ => ?_) (fun _ => ?_)
  · refine r_iconst (v := 1) (pc := 98) hE dX3_readNumber_98 (by decide) ?_
    exact w_X3_readNumber_99 hE _ _ _ trivial
  · refine r_iconst (v := 2) (pc := 94) hE dX3_readNumber_94 (by decide) ?_
    refine r_goto (pc := 95) hE 99 dX3_readNumber_95 (by decide) ?_
    exact w_X3_readNumber_99 hE _ _ _ trivial
def f_X3_readNumber_64 (fu : Nat) (k0 : Nat → Hp → Option (Unit × Hp)) (x0 : Nat) (s0 : Nat) (s1 : Int32) (h : Hp) : Option (Unit × Hp) :=
  (pI h 3 s0 7 s1).bind fun h64 =>
  (gI h64 3 x0 4).bind fun v69 =>
  (pI h64 3 x0 4 (v69 + 1)).bind fun h74 =>
  k0 x0 h74
set_option maxHeartbeats 4000000 in
set_option maxRecDepth 100000 in
theorem w_X3_readNumber_64 {X : Cx} {D : Dx} (hE : En X D cX3_readNumber 1 RX3 none rm_X3_readNumber) {fu : Nat} {k0 : Nat → Hp → Option (Unit × Hp)} (hk0 : ∀ (x0 : Nat) (h : Hp) (lv : List (Option Value)), lvLe [some (.ref x0)] lv → Wo X D 1 (Qr X D 0 0 evU) 0 0 (k0 x0 h) 0 lv [] h) (x0 : Nat) (s0 : Nat) (s1 : Int32) (h : Hp) {lv : List (Option Value)} (hlv : lvLe [some (.ref x0)] lv) : Wo X D 1 (Qr X D 0 0 evU) 0 0 (f_X3_readNumber_64 fu k0 x0 s0 s1 h) 64 lv [.int s1, .ref s0] h := by
  refine Wo_sub hlv ?_
  unfold f_X3_readNumber_64
  refine r_putI (pc := 64) hE 3 7 (by decide) (by decide) (fun _ _ _ => rfl) fl_RX3_63 rfl rfl rfl dX3_readNumber_64 (fun h64 _ => ?_)
  refine r_aload_n (pc := 67) hE dX3_readNumber_67 rfl ?_
  refine r_dup (pc := 68) hE dX3_readNumber_68 rfl ?_
  refine r_getI (pc := 69) hE 3 4 (by decide) (by decide) (fun _ _ _ => rfl) fl_RX3_30 dX3_readNumber_69 (fun v69 _ => ?_)
  refine r_iconst (v := 1) (pc := 72) hE dX3_readNumber_72 (by decide) ?_
  refine r_iadd (pc := 73) hE dX3_readNumber_73 ?_
  refine r_putI (pc := 74) hE 3 4 (by decide) (by decide) (fun _ _ _ => rfl) fl_RX3_30 rfl rfl rfl dX3_readNumber_74 (fun h74 _ => ?_)
  refine r_goto (pc := 77) hE 0 dX3_readNumber_77 (by decide) ?_
  exact hk0 _ _ _ ⟨rfl, trivial⟩
def f_X3_readNumber_0 (fu : Nat) : Nat → Nat → Hp → Option (Unit × Hp)
  | 0, _, _ => none
  | n + 1, x0, h =>
    (gI h 3 x0 4).bind fun v1 =>
    (gI h 3 x0 0).bind fun v5 =>
    if v5 ≤ v1 then
      f_X3_readNumber_80 fu x0 h
    else
      (gR h 3 x0 3).bind fun v12 =>
      (gI h 3 x0 4).bind fun v16 =>
      (aI h 10 v12 v16).bind fun v19 =>
      (f_X3_isDigit fu v19 h).bind fun r20 =>
      if r20.1 = 0 then
        f_X3_readNumber_80 fu x0 r20.2
      else
        (gI r20.2 3 x0 4).bind fun v28 =>
        (gI r20.2 3 x0 6).bind fun v32 =>
        if 2 ≤ (v28 - v32) then
          f_X3_readNumber_64 fu (fun y0 hy => f_X3_readNumber_0 fu n y0 hy) x0 x0 0 r20.2
        else
          (gI r20.2 3 x0 7).bind fun v43 =>
          (gR r20.2 3 x0 3).bind fun v48 =>
          (gI r20.2 3 x0 4).bind fun v52 =>
          (aI r20.2 10 v48 v52).bind fun v55 =>
          f_X3_readNumber_64 fu (fun y0 hy => f_X3_readNumber_0 fu n y0 hy) x0 x0 ((((10 * v43) + v55) - 48)) r20.2
set_option maxHeartbeats 4000000 in
set_option maxRecDepth 100000 in
theorem w_X3_readNumber_0 {X : Cx} {D : Dx} (hE : En X D cX3_readNumber 1 RX3 none rm_X3_readNumber) {fu : Nat} : ∀ (n : Nat) (x0 : Nat) (h : Hp) (lv : List (Option Value)), lvLe [some (.ref x0)] lv → Wo X D 1 (Qr X D 0 0 evU) 0 0 (f_X3_readNumber_0 fu n x0 h) 0 lv [] h := by
  intro n
  induction n with
  | zero => intros; exact Wo_none
  | succ n ih =>
    intro x0 h lv hlv
    refine Wo_sub hlv ?_
    rw [f_X3_readNumber_0]
    refine r_aload_n (pc := 0) hE dX3_readNumber_0 rfl ?_
    refine r_getI (pc := 1) hE 3 4 (by decide) (by decide) (fun _ _ _ => rfl) fl_RX3_30 dX3_readNumber_1 (fun v1 _ => ?_)
    refine r_aload_n (pc := 4) hE dX3_readNumber_4 rfl ?_
    refine r_getI (pc := 5) hE 3 0 (by decide) (by decide) (fun _ _ _ => rfl) fl_RX3_19 dX3_readNumber_5 (fun v5 _ => ?_)
    refine r_icmp_ge (pc := 8) hE 80 dX3_readNumber_8 (by decide) (fun _ => ?_) (fun _ => ?_)
    · exact w_X3_readNumber_80 hE _ _ ⟨rfl, trivial⟩
    · refine r_aload_n (pc := 11) hE dX3_readNumber_11 rfl ?_
      refine r_getR (pc := 12) hE 3 3 (by decide) (by decide) (fun _ _ _ => rfl) fl_RX3_15 dX3_readNumber_12 (fun v12 _ => ?_)
      refine r_aload_n (pc := 15) hE dX3_readNumber_15 rfl ?_
      refine r_getI (pc := 16) hE 3 4 (by decide) (by decide) (fun _ _ _ => rfl) fl_RX3_30 dX3_readNumber_16 (fun v16 _ => ?_)
      refine r_aldC (pc := 19) hE dX3_readNumber_19 (fun v19 _ => ?_)
      refine r_callS (pc := 20) hE (As := [.int v19]) (fun out ho => c_X3_isDigit _ _ fu _ _ out ho) cs_RX3_82 ⟨Nat.le_of_ble_eq_true rfl, Nat.le_of_ble_eq_true rfl, Nat.le_of_ble_eq_true rfl, Nat.le_of_ble_eq_true rfl⟩ (Nat.le_of_ble_eq_true rfl) rfl dX3_readNumber_20 (fun r20 _ => ?_)
      refine r_if_eq (pc := 23) hE 80 dX3_readNumber_23 (by decide) (fun _ => ?_) (fun _ => ?_)
      · exact w_X3_readNumber_80 hE _ _ ⟨rfl, trivial⟩
      · refine r_aload_n (pc := 26) hE dX3_readNumber_26 rfl ?_
        refine r_aload_n (pc := 27) hE dX3_readNumber_27 rfl ?_
        refine r_getI (pc := 28) hE 3 4 (by decide) (by decide) (fun _ _ _ => rfl) fl_RX3_30 dX3_readNumber_28 (fun v28 _ => ?_)
        refine r_aload_n (pc := 31) hE dX3_readNumber_31 rfl ?_
        refine r_getI (pc := 32) hE 3 6 (by decide) (by decide) (fun _ _ _ => rfl) fl_RX3_66 dX3_readNumber_32 (fun v32 _ => ?_)
        refine r_isub (pc := 35) hE dX3_readNumber_35 ?_
        refine r_iconst (v := 2) (pc := 36) hE dX3_readNumber_36 (by decide) ?_
        refine r_icmp_ge (pc := 37) hE 63 dX3_readNumber_37 (by decide) (fun _ => ?_) (fun _ => ?_)
        · refine r_iconst (v := 0) (pc := 63) hE dX3_readNumber_63 (by decide) ?_
          exact w_X3_readNumber_64 hE (fun y0 hy lvy hly => ih y0 hy lvy hly) _ _ _ _ ⟨rfl, trivial⟩
        · refine r_bipush (v := 10) (pc := 40) hE dX3_readNumber_40 (by decide) ?_
          refine r_aload_n (pc := 42) hE dX3_readNumber_42 rfl ?_
          refine r_getI (pc := 43) hE 3 7 (by decide) (by decide) (fun _ _ _ => rfl) fl_RX3_63 dX3_readNumber_43 (fun v43 _ => ?_)
          refine r_imul (pc := 46) hE dX3_readNumber_46 ?_
          refine r_aload_n (pc := 47) hE dX3_readNumber_47 rfl ?_
          refine r_getR (pc := 48) hE 3 3 (by decide) (by decide) (fun _ _ _ => rfl) fl_RX3_15 dX3_readNumber_48 (fun v48 _ => ?_)
          refine r_aload_n (pc := 51) hE dX3_readNumber_51 rfl ?_
          refine r_getI (pc := 52) hE 3 4 (by decide) (by decide) (fun _ _ _ => rfl) fl_RX3_30 dX3_readNumber_52 (fun v52 _ => ?_)
          refine r_aldC (pc := 55) hE dX3_readNumber_55 (fun v55 _ => ?_)
          refine r_iadd (pc := 56) hE dX3_readNumber_56 ?_
          refine r_bipush (v := 48) (pc := 57) hE dX3_readNumber_57 (by decide) ?_
          refine r_isub (pc := 59) hE dX3_readNumber_59 ?_
          refine r_goto (pc := 60) hE 64 dX3_readNumber_60 (by decide) ?_
          exact w_X3_readNumber_64 hE (fun y0 hy lvy hly => ih y0 hy lvy hly) _ _ _ _ ⟨rfl, trivial⟩
def f_X3_readNumber (fu : Nat) (x0 : Nat) (h : Hp) : Option (Unit × Hp) :=
  if h.K x0 = 3 then
    f_X3_readNumber_0 fu fu x0 h
  else none
set_option maxHeartbeats 4000000 in
set_option maxRecDepth 100000 in
theorem c_X3_readNumber (l : Launch) (D : Dx) (fu : Nat) (x0 : Nat) (h : Hp) (out : Unit × Hp) (ho : f_X3_readNumber fu x0 h = some out) : Ct l D yX3_readNumber cX3_readNumber 1 none rm_X3_readNumber [.ref x0] h (evU out.1) out.2 := by
  refine Ct.of (o := f_X3_readNumber fu x0 h) (lv := [some (.ref x0)]) (by decide) (Nat.le_of_ble_eq_true rfl) rfl ?_ out ho
  intro X hXl hE hin
  replace hE : En X D cX3_readNumber 1 RX3 none rm_X3_readNumber := hE
  subst hXl
  unfold f_X3_readNumber
  refine Wo_grd (fun _ => ?_)
  exact w_X3_readNumber_0 hE fu _ _ _ ⟨rfl, trivial⟩
theorem k_X3_readNumber {fu : Nat} {x0 : Nat} {h : Hp} {out : Unit × Hp} (ho : f_X3_readNumber fu x0 h = some out) : h.K x0 = 3 := (gi_k ho).1
theorem cs_RX3_73 : csS RX3 73 yX3_isLetter cX3_isLetter 1 (some .boolean) 1 = true := by decide +kernel
def rm_X3_skipLetters : Room := { frames := 1, cells := 0, slots := 0, locals := 20 }
def f_X3_skipLetters_0 (fu : Nat) : Nat → Nat → Hp → Option (Unit × Hp)
  | 0, _, _ => none
  | n + 1, x0, h =>
    (gI h 3 x0 4).bind fun v1 =>
    (gI h 3 x0 0).bind fun v5 =>
    if v5 ≤ v1 then
      some ((), h)
    else
      (gR h 3 x0 3).bind fun v12 =>
      (gI h 3 x0 4).bind fun v16 =>
      (aI h 10 v12 v16).bind fun v19 =>
      (f_X3_isLetter fu v19 h).bind fun r20 =>
      if r20.1 = 0 then
        some ((), r20.2)
      else
        (gI r20.2 3 x0 4).bind fun v28 =>
        (pI r20.2 3 x0 4 (v28 + 1)).bind fun h33 =>
        f_X3_skipLetters_0 fu n x0 h33
set_option maxHeartbeats 4000000 in
set_option maxRecDepth 100000 in
theorem w_X3_skipLetters_0 {X : Cx} {D : Dx} (hE : En X D cX3_skipLetters 1 RX3 none rm_X3_skipLetters) {fu : Nat} : ∀ (n : Nat) (x0 : Nat) (h : Hp) (lv : List (Option Value)), lvLe [some (.ref x0)] lv → Wo X D 1 (Qr X D 0 0 evU) 0 0 (f_X3_skipLetters_0 fu n x0 h) 0 lv [] h := by
  intro n
  induction n with
  | zero => intros; exact Wo_none
  | succ n ih =>
    intro x0 h lv hlv
    refine Wo_sub hlv ?_
    rw [f_X3_skipLetters_0]
    refine r_aload_n (pc := 0) hE dX3_skipLetters_0 rfl ?_
    refine r_getI (pc := 1) hE 3 4 (by decide) (by decide) (fun _ _ _ => rfl) fl_RX3_30 dX3_skipLetters_1 (fun v1 _ => ?_)
    refine r_aload_n (pc := 4) hE dX3_skipLetters_4 rfl ?_
    refine r_getI (pc := 5) hE 3 0 (by decide) (by decide) (fun _ _ _ => rfl) fl_RX3_19 dX3_skipLetters_5 (fun v5 _ => ?_)
    refine r_icmp_ge (pc := 8) hE 39 dX3_skipLetters_8 (by decide) (fun _ => ?_) (fun _ => ?_)
    · exact r_vret (pc := 39) hE dX3_skipLetters_39
    · refine r_aload_n (pc := 11) hE dX3_skipLetters_11 rfl ?_
      refine r_getR (pc := 12) hE 3 3 (by decide) (by decide) (fun _ _ _ => rfl) fl_RX3_15 dX3_skipLetters_12 (fun v12 _ => ?_)
      refine r_aload_n (pc := 15) hE dX3_skipLetters_15 rfl ?_
      refine r_getI (pc := 16) hE 3 4 (by decide) (by decide) (fun _ _ _ => rfl) fl_RX3_30 dX3_skipLetters_16 (fun v16 _ => ?_)
      refine r_aldC (pc := 19) hE dX3_skipLetters_19 (fun v19 _ => ?_)
      refine r_callS (pc := 20) hE (As := [.int v19]) (fun out ho => c_X3_isLetter _ _ fu _ _ out ho) cs_RX3_73 ⟨Nat.le_of_ble_eq_true rfl, Nat.le_of_ble_eq_true rfl, Nat.le_of_ble_eq_true rfl, Nat.le_of_ble_eq_true rfl⟩ (Nat.le_of_ble_eq_true rfl) rfl dX3_skipLetters_20 (fun r20 _ => ?_)
      refine r_if_eq (pc := 23) hE 39 dX3_skipLetters_23 (by decide) (fun _ => ?_) (fun _ => ?_)
      · exact r_vret (pc := 39) hE dX3_skipLetters_39
      · refine r_aload_n (pc := 26) hE dX3_skipLetters_26 rfl ?_
        refine r_dup (pc := 27) hE dX3_skipLetters_27 rfl ?_
        refine r_getI (pc := 28) hE 3 4 (by decide) (by decide) (fun _ _ _ => rfl) fl_RX3_30 dX3_skipLetters_28 (fun v28 _ => ?_)
        refine r_iconst (v := 1) (pc := 31) hE dX3_skipLetters_31 (by decide) ?_
        refine r_iadd (pc := 32) hE dX3_skipLetters_32 ?_
        refine r_putI (pc := 33) hE 3 4 (by decide) (by decide) (fun _ _ _ => rfl) fl_RX3_30 rfl rfl rfl dX3_skipLetters_33 (fun h33 _ => ?_)
        refine r_goto (pc := 36) hE 0 dX3_skipLetters_36 (by decide) ?_
        exact ih _ _ _ ⟨rfl, trivial⟩
def f_X3_skipLetters (fu : Nat) (x0 : Nat) (h : Hp) : Option (Unit × Hp) :=
  if h.K x0 = 3 then
    f_X3_skipLetters_0 fu fu x0 h
  else none
set_option maxHeartbeats 4000000 in
set_option maxRecDepth 100000 in
theorem c_X3_skipLetters (l : Launch) (D : Dx) (fu : Nat) (x0 : Nat) (h : Hp) (out : Unit × Hp) (ho : f_X3_skipLetters fu x0 h = some out) : Ct l D yX3_skipLetters cX3_skipLetters 1 none rm_X3_skipLetters [.ref x0] h (evU out.1) out.2 := by
  refine Ct.of (o := f_X3_skipLetters fu x0 h) (lv := [some (.ref x0)]) (by decide) (Nat.le_of_ble_eq_true rfl) rfl ?_ out ho
  intro X hXl hE hin
  replace hE : En X D cX3_skipLetters 1 RX3 none rm_X3_skipLetters := hE
  subst hXl
  unfold f_X3_skipLetters
  refine Wo_grd (fun _ => ?_)
  exact w_X3_skipLetters_0 hE fu _ _ _ ⟨rfl, trivial⟩
theorem k_X3_skipLetters {fu : Nat} {x0 : Nat} {h : Hp} {out : Unit × Hp} (ho : f_X3_skipLetters fu x0 h = some out) : h.K x0 = 3 := (gi_k ho).1
theorem cs_RX3_104 : csV RX3 104 yJ0_length_8abf5 cJ0_length_8abf5 1 (some .int) 0 = true := by decide +kernel
theorem cs_RX3_108 : csV RX3 108 yJ0_charAt_5068e cJ0_charAt_5068e 2 (some .char) 1 = true := by decide +kernel
def rm_X3_spells : Room := { frames := 4, cells := 0, slots := 0, locals := 111 }
def f_X3_spells_20 (fu : Nat) : Nat → Nat → Nat → Int32 → Hp → Option (Int32 × Hp)
  | 0, _, _, _, _ => none
  | n + 1, x0, x1, x2, h =>
    (f_J0_length_8abf5 fu x1 h).bind fun r22 =>
    if r22.1 ≤ x2 then
      some (1, r22.2)
    else
      (gR r22.2 3 x0 3).bind fun v29 =>
      (gI r22.2 3 x0 6).bind fun v33 =>
      (aI r22.2 10 v29 (v33 + x2)).bind fun v38 =>
      (f_J0_charAt_5068e fu x1 x2 r22.2).bind fun r41 =>
      if v38 = r41.1 then
        f_X3_spells_20 fu n x0 x1 ((x2 + 1)) r41.2
      else
        some (0, r41.2)
set_option maxHeartbeats 4000000 in
set_option maxRecDepth 100000 in
theorem w_X3_spells_20 {X : Cx} {D : Dx} (hE : En X D cX3_spells 3 RX3 (some .boolean) rm_X3_spells) {fu : Nat} : ∀ (n : Nat) (x0 : Nat) (x1 : Nat) (x2 : Int32) (h : Hp) (lv : List (Option Value)), lvLe [some (.ref x0), some (.ref (D.2.2.2.1 x1)), some (.int x2)] lv → Wo X D 3 (Qr X D 0 0 evI) 0 0 (f_X3_spells_20 fu n x0 x1 x2 h) 20 lv [] h := by
  intro n
  induction n with
  | zero => intros; exact Wo_none
  | succ n ih =>
    intro x0 x1 x2 h lv hlv
    refine Wo_sub hlv ?_
    rw [f_X3_spells_20]
    refine r_iload_n (pc := 20) hE dX3_spells_20 rfl ?_
    refine r_aload_n (pc := 21) hE dX3_spells_21 rfl ?_
    refine r_callVS (pc := 22) hE (As := []) (fun out ho => c_J0_length_8abf5 _ _ fu _ _ out ho) (fun out ho => k_J0_length_8abf5 ho) rfl cs_RX3_104 ⟨Nat.le_of_ble_eq_true rfl, Nat.le_of_ble_eq_true rfl, Nat.le_of_ble_eq_true rfl, Nat.le_of_ble_eq_true rfl⟩ (Nat.le_of_ble_eq_true rfl) rfl dX3_spells_22 (fun r22 _ => ?_)
    refine r_icmp_ge (pc := 25) hE 55 dX3_spells_25 (by decide) (fun _ => ?_) (fun _ => ?_)
    · refine r_iconst (v := 1) (pc := 55) hE dX3_spells_55 (by decide) ?_
      exact r_zret (pc := 56) hE (by decide) dX3_spells_56
    · refine r_aload_n (pc := 28) hE dX3_spells_28 rfl ?_
      refine r_getR (pc := 29) hE 3 3 (by decide) (by decide) (fun _ _ _ => rfl) fl_RX3_15 dX3_spells_29 (fun v29 _ => ?_)
      refine r_aload_n (pc := 32) hE dX3_spells_32 rfl ?_
      refine r_getI (pc := 33) hE 3 6 (by decide) (by decide) (fun _ _ _ => rfl) fl_RX3_66 dX3_spells_33 (fun v33 _ => ?_)
      refine r_iload_n (pc := 36) hE dX3_spells_36 rfl ?_
      refine r_iadd (pc := 37) hE dX3_spells_37 ?_
      refine r_aldC (pc := 38) hE dX3_spells_38 (fun v38 _ => ?_)
      refine r_aload_n (pc := 39) hE dX3_spells_39 rfl ?_
      refine r_iload_n (pc := 40) hE dX3_spells_40 rfl ?_
      refine r_callVS (pc := 41) hE (As := [.int x2]) (fun out ho => c_J0_charAt_5068e _ _ fu _ _ _ out ho) (fun out ho => k_J0_charAt_5068e ho) rfl cs_RX3_108 ⟨Nat.le_of_ble_eq_true rfl, Nat.le_of_ble_eq_true rfl, Nat.le_of_ble_eq_true rfl, Nat.le_of_ble_eq_true rfl⟩ (Nat.le_of_ble_eq_true rfl) rfl dX3_spells_41 (fun r41 _ => ?_)
      refine r_icmp_eq (pc := 44) hE 49 dX3_spells_44 (by decide) (fun _ => ?_) (fun _ => ?_)
      · refine r_iinc (v := (x2 + 1)) (pc := 49) hE dX3_spells_49 rfl rfl (by decide) ?_
        refine r_goto (pc := 52) hE 20 dX3_spells_52 (by decide) ?_
        exact ih _ _ _ _ _ ⟨rfl, ⟨rfl, ⟨rfl, trivial⟩⟩⟩
      · refine r_iconst (v := 0) (pc := 47) hE dX3_spells_47 (by decide) ?_
        exact r_zret (pc := 48) hE (by decide) dX3_spells_48
def f_X3_spells (fu : Nat) (x0 : Nat) (x1 : Nat) (h : Hp) : Option (Int32 × Hp) :=
  if h.K x0 = 3 then
    (gI h 3 x0 4).bind fun v1 =>
    (gI h 3 x0 6).bind fun v5 =>
    (f_J0_length_8abf5 fu x1 h).bind fun r10 =>
    if (v1 - v5) = r10.1 then
      f_X3_spells_20 fu fu x0 x1 0 r10.2
    else
      some (0, r10.2)
  else none
set_option maxHeartbeats 4000000 in
set_option maxRecDepth 100000 in
theorem c_X3_spells (l : Launch) (D : Dx) (fu : Nat) (x0 : Nat) (x1 : Nat) (h : Hp) (out : Int32 × Hp) (ho : f_X3_spells fu x0 x1 h = some out) : Ct l D yX3_spells cX3_spells 3 (some .boolean) rm_X3_spells [.ref x0, .ref (D.2.2.2.1 x1)] h (evI out.1) out.2 := by
  refine Ct.of (o := f_X3_spells fu x0 x1 h) (lv := [some (.ref x0), some (.ref (D.2.2.2.1 x1)), none]) (by decide) (Nat.le_of_ble_eq_true rfl) rfl ?_ out ho
  intro X hXl hE hin
  replace hE : En X D cX3_spells 3 RX3 (some .boolean) rm_X3_spells := hE
  subst hXl
  unfold f_X3_spells
  refine Wo_grd (fun _ => ?_)
  refine r_aload_n (pc := 0) hE dX3_spells_0 rfl ?_
  refine r_getI (pc := 1) hE 3 4 (by decide) (by decide) (fun _ _ _ => rfl) fl_RX3_30 dX3_spells_1 (fun v1 _ => ?_)
  refine r_aload_n (pc := 4) hE dX3_spells_4 rfl ?_
  refine r_getI (pc := 5) hE 3 6 (by decide) (by decide) (fun _ _ _ => rfl) fl_RX3_66 dX3_spells_5 (fun v5 _ => ?_)
  refine r_isub (pc := 8) hE dX3_spells_8 ?_
  refine r_aload_n (pc := 9) hE dX3_spells_9 rfl ?_
  refine r_callVS (pc := 10) hE (As := []) (fun out ho => c_J0_length_8abf5 _ _ fu _ _ out ho) (fun out ho => k_J0_length_8abf5 ho) rfl cs_RX3_104 ⟨Nat.le_of_ble_eq_true rfl, Nat.le_of_ble_eq_true rfl, Nat.le_of_ble_eq_true rfl, Nat.le_of_ble_eq_true rfl⟩ (Nat.le_of_ble_eq_true rfl) rfl dX3_spells_10 (fun r10 _ => ?_)
  refine r_icmp_eq (pc := 13) hE 18 dX3_spells_13 (by decide) (fun _ => ?_) (fun _ => ?_)
  · refine r_iconst (v := 0) (pc := 18) hE dX3_spells_18 (by decide) ?_
    refine r_istore_n (pc := 19) hE dX3_spells_19 (by decide) ?_
    exact w_X3_spells_20 hE fu _ _ _ _ _ ⟨rfl, ⟨rfl, ⟨rfl, trivial⟩⟩⟩
  · refine r_iconst (v := 0) (pc := 16) hE dX3_spells_16 (by decide) ?_
    exact r_zret (pc := 17) hE (by decide) dX3_spells_17
theorem k_X3_spells {fu : Nat} {x0 : Nat} {x1 : Nat} {h : Hp} {out : Int32 × Hp} (ho : f_X3_spells fu x0 x1 h = some out) : h.K x0 = 3 := (gi_k ho).1
theorem cs_RX3_90 : csV RX3 90 yX3_spells cX3_spells 3 (some .boolean) 1 = true := by decide +kernel
def rm_X3_wordRead : Room := { frames := 5, cells := 0, slots := 0, locals := 133 }
def f_X3_wordRead (fu : Nat) (x0 : Nat) (h : Hp) : Option (Int32 × Hp) :=
  if h.K x0 = 3 then
    (f_X3_spells fu x0 0 h).bind fun r3 =>
    if r3.1 = 0 then
      (f_X3_spells fu x0 1 r3.2).bind fun r14 =>
      if r14.1 = 0 then
        (f_X3_spells fu x0 2 r14.2).bind fun r25 =>
        if r25.1 = 0 then
          (f_X3_spells fu x0 3 r25.2).bind fun r37 =>
          if r37.1 = 0 then
            (f_X3_spells fu x0 4 r37.2).bind fun r49 =>
            if r49.1 = 0 then
              (f_X3_spells fu x0 5 r49.2).bind fun r61 =>
              if r61.1 = 0 then
                some (1, r61.2)
              else
                some (9, r61.2)
            else
              some (8, r49.2)
          else
            some (7, r37.2)
        else
          some (6, r25.2)
      else
        some (5, r14.2)
    else
      some (4, r3.2)
  else none
set_option maxHeartbeats 4000000 in
set_option maxRecDepth 100000 in
theorem c_X3_wordRead (l : Launch) (D : Dx) (fu : Nat) (x0 : Nat) (h : Hp) (out : Int32 × Hp) (ho : f_X3_wordRead fu x0 h = some out) : Ct l D yX3_wordRead cX3_wordRead 1 (some .int) rm_X3_wordRead [.ref x0] h (evI out.1) out.2 := by
  refine Ct.of (o := f_X3_wordRead fu x0 h) (lv := [some (.ref x0)]) (by decide) (Nat.le_of_ble_eq_true rfl) rfl ?_ out ho
  intro X hXl hE hin
  replace hE : En X D cX3_wordRead 1 RX3 (some .int) rm_X3_wordRead := hE
  subst hXl
  unfold f_X3_wordRead
  refine Wo_grd (fun _ => ?_)
  refine r_aload_n (pc := 0) hE dX3_wordRead_0 rfl ?_
  refine r_ldcS (pc := 1) hE 0 (by decide) dX3_wordRead_1 ?_
  refine r_callV (pc := 3) hE 3 (As := [.ref (D.2.2.2.1 0)]) (fun out ho => c_X3_spells _ _ fu _ _ _ out ho) (fun out ho => k_X3_spells ho) (by decide) rfl cs_RX3_90 ⟨Nat.le_of_ble_eq_true rfl, Nat.le_of_ble_eq_true rfl, Nat.le_of_ble_eq_true rfl, Nat.le_of_ble_eq_true rfl⟩ (Nat.le_of_ble_eq_true rfl) rfl dX3_wordRead_3 (fun r3 _ => ?_)
  refine r_if_eq (pc := 6) hE 11 dX3_wordRead_6 (by decide) (fun _ => ?_) (fun _ => ?_)
  · refine r_aload_n (pc := 11) hE dX3_wordRead_11 rfl ?_
    refine r_ldcS (pc := 12) hE 1 (by decide) dX3_wordRead_12 ?_
    refine r_callV (pc := 14) hE 3 (As := [.ref (D.2.2.2.1 1)]) (fun out ho => c_X3_spells _ _ fu _ _ _ out ho) (fun out ho => k_X3_spells ho) (by decide) rfl cs_RX3_90 ⟨Nat.le_of_ble_eq_true rfl, Nat.le_of_ble_eq_true rfl, Nat.le_of_ble_eq_true rfl, Nat.le_of_ble_eq_true rfl⟩ (Nat.le_of_ble_eq_true rfl) rfl dX3_wordRead_14 (fun r14 _ => ?_)
    refine r_if_eq (pc := 17) hE 22 dX3_wordRead_17 (by decide) (fun _ => ?_) (fun _ => ?_)
    · refine r_aload_n (pc := 22) hE dX3_wordRead_22 rfl ?_
      refine r_ldcS (pc := 23) hE 2 (by decide) dX3_wordRead_23 ?_
      refine r_callV (pc := 25) hE 3 (As := [.ref (D.2.2.2.1 2)]) (fun out ho => c_X3_spells _ _ fu _ _ _ out ho) (fun out ho => k_X3_spells ho) (by decide) rfl cs_RX3_90 ⟨Nat.le_of_ble_eq_true rfl, Nat.le_of_ble_eq_true rfl, Nat.le_of_ble_eq_true rfl, Nat.le_of_ble_eq_true rfl⟩ (Nat.le_of_ble_eq_true rfl) rfl dX3_wordRead_25 (fun r25 _ => ?_)
      refine r_if_eq (pc := 28) hE 34 dX3_wordRead_28 (by decide) (fun _ => ?_) (fun _ => ?_)
      · refine r_aload_n (pc := 34) hE dX3_wordRead_34 rfl ?_
        refine r_ldcS (pc := 35) hE 3 (by decide) dX3_wordRead_35 ?_
        refine r_callV (pc := 37) hE 3 (As := [.ref (D.2.2.2.1 3)]) (fun out ho => c_X3_spells _ _ fu _ _ _ out ho) (fun out ho => k_X3_spells ho) (by decide) rfl cs_RX3_90 ⟨Nat.le_of_ble_eq_true rfl, Nat.le_of_ble_eq_true rfl, Nat.le_of_ble_eq_true rfl, Nat.le_of_ble_eq_true rfl⟩ (Nat.le_of_ble_eq_true rfl) rfl dX3_wordRead_37 (fun r37 _ => ?_)
        refine r_if_eq (pc := 40) hE 46 dX3_wordRead_40 (by decide) (fun _ => ?_) (fun _ => ?_)
        · refine r_aload_n (pc := 46) hE dX3_wordRead_46 rfl ?_
          refine r_ldcS (pc := 47) hE 4 (by decide) dX3_wordRead_47 ?_
          refine r_callV (pc := 49) hE 3 (As := [.ref (D.2.2.2.1 4)]) (fun out ho => c_X3_spells _ _ fu _ _ _ out ho) (fun out ho => k_X3_spells ho) (by decide) rfl cs_RX3_90 ⟨Nat.le_of_ble_eq_true rfl, Nat.le_of_ble_eq_true rfl, Nat.le_of_ble_eq_true rfl, Nat.le_of_ble_eq_true rfl⟩ (Nat.le_of_ble_eq_true rfl) rfl dX3_wordRead_49 (fun r49 _ => ?_)
          refine r_if_eq (pc := 52) hE 58 dX3_wordRead_52 (by decide) (fun _ => ?_) (fun _ => ?_)
          · refine r_aload_n (pc := 58) hE dX3_wordRead_58 rfl ?_
            refine r_ldcS (pc := 59) hE 5 (by decide) dX3_wordRead_59 ?_
            refine r_callV (pc := 61) hE 3 (As := [.ref (D.2.2.2.1 5)]) (fun out ho => c_X3_spells _ _ fu _ _ _ out ho) (fun out ho => k_X3_spells ho) (by decide) rfl cs_RX3_90 ⟨Nat.le_of_ble_eq_true rfl, Nat.le_of_ble_eq_true rfl, Nat.le_of_ble_eq_true rfl, Nat.le_of_ble_eq_true rfl⟩ (Nat.le_of_ble_eq_true rfl) rfl dX3_wordRead_61 (fun r61 _ => ?_)
            refine r_if_eq (pc := 64) hE 72 dX3_wordRead_64 (by decide) (fun _ => ?_) (fun _ => ?_)
            · refine r_iconst (v := 1) (pc := 72) hE dX3_wordRead_72 (by decide) ?_
              exact r_iret (pc := 73) hE dX3_wordRead_73
            · refine r_bipush (v := 9) (pc := 67) hE dX3_wordRead_67 (by decide) ?_
              refine r_goto (pc := 69) hE 73 dX3_wordRead_69 (by decide) ?_
              exact r_iret (pc := 73) hE dX3_wordRead_73
          · refine r_bipush (v := 8) (pc := 55) hE dX3_wordRead_55 (by decide) ?_
            exact r_iret (pc := 57) hE dX3_wordRead_57
        · refine r_bipush (v := 7) (pc := 43) hE dX3_wordRead_43 (by decide) ?_
          exact r_iret (pc := 45) hE dX3_wordRead_45
      · refine r_bipush (v := 6) (pc := 31) hE dX3_wordRead_31 (by decide) ?_
        exact r_iret (pc := 33) hE dX3_wordRead_33
    · refine r_iconst (v := 5) (pc := 20) hE dX3_wordRead_20 (by decide) ?_
      exact r_iret (pc := 21) hE dX3_wordRead_21
  · refine r_iconst (v := 4) (pc := 9) hE dX3_wordRead_9 (by decide) ?_
    exact r_iret (pc := 10) hE dX3_wordRead_10
theorem k_X3_wordRead {fu : Nat} {x0 : Nat} {h : Hp} {out : Int32 × Hp} (ho : f_X3_wordRead fu x0 h = some out) : h.K x0 = 3 := (gi_k ho).1
theorem cs_RX3_69 : csS RX3 69 yX3_isBlank cX3_isBlank 1 (some .boolean) 1 = true := by decide +kernel
theorem cs_RX3_85 : csV RX3 85 yX3_readNumber cX3_readNumber 1 none 0 = true := by decide +kernel
theorem cs_RX3_76 : csV RX3 76 yX3_skipLetters cX3_skipLetters 1 none 0 = true := by decide +kernel
theorem cs_RX3_79 : csV RX3 79 yX3_wordRead cX3_wordRead 1 (some .int) 0 = true := by decide +kernel
def rm_X3_readToken : Room := { frames := 6, cells := 0, slots := 0, locals := 153 }
def f_X3_readToken_143 (fu : Nat) (x0 : Nat) (s0 : Nat) (s1 : Int32) (h : Hp) : Option (Unit × Hp) :=
  (pI h 3 s0 5 s1).bind fun h143 =>
  (gI h143 3 x0 4).bind fun v148 =>
  (pI h143 3 x0 4 (v148 + 1)).bind fun h153 =>
  some ((), h153)
set_option maxHeartbeats 4000000 in
set_option maxRecDepth 100000 in
theorem w_X3_readToken_143 {X : Cx} {D : Dx} (hE : En X D cX3_readToken 1 RX3 none rm_X3_readToken) {fu : Nat} (x0 : Nat) (s0 : Nat) (s1 : Int32) (h : Hp) {lv : List (Option Value)} (hlv : lvLe [some (.ref x0)] lv) : Wo X D 1 (Qr X D 0 0 evU) 0 0 (f_X3_readToken_143 fu x0 s0 s1 h) 143 lv [.int s1, .ref s0] h := by
  refine Wo_sub hlv ?_
  unfold f_X3_readToken_143
  refine r_putI (pc := 143) hE 3 5 (by decide) (by decide) (fun _ _ _ => rfl) fl_RX3_36 rfl rfl rfl dX3_readToken_143 (fun h143 _ => ?_)
  refine r_aload_n (pc := 146) hE dX3_readToken_146 rfl ?_
  refine r_dup (pc := 147) hE dX3_readToken_147 rfl ?_
  refine r_getI (pc := 148) hE 3 4 (by decide) (by decide) (fun _ _ _ => rfl) fl_RX3_30 dX3_readToken_148 (fun v148 _ => ?_)
  refine r_iconst (v := 1) (pc := 151) hE dX3_readToken_151 (by decide) ?_
  refine r_iadd (pc := 152) hE dX3_readToken_152 ?_
  refine r_putI (pc := 153) hE 3 4 (by decide) (by decide) (fun _ _ _ => rfl) fl_RX3_30 rfl rfl rfl dX3_readToken_153 (fun h153 _ => ?_)
  exact r_vret (pc := 156) hE dX3_readToken_156
def f_X3_readToken_39 (fu : Nat) (x0 : Nat) (h : Hp) : Option (Unit × Hp) :=
  (gI h 3 x0 4).bind fun v41 =>
  (pI h 3 x0 6 v41).bind fun h44 =>
  (pI h44 3 x0 7 0).bind fun h49 =>
  (gI h49 3 x0 4).bind fun v53 =>
  (gI h49 3 x0 0).bind fun v57 =>
  if v53 < v57 then
    (gR h49 3 x0 3).bind fun v72 =>
    (gI h49 3 x0 4).bind fun v76 =>
    (aI h49 10 v72 v76).bind fun v79 =>
    (f_X3_isLetter fu v79 h49).bind fun r80 =>
    if r80.1 = 0 then
      (gR r80.2 3 x0 3).bind fun v102 =>
      (gI r80.2 3 x0 4).bind fun v106 =>
      (aI r80.2 10 v102 v106).bind fun v109 =>
      (f_X3_isDigit fu v109 r80.2).bind fun r110 =>
      if r110.1 = 0 then
        (gR r110.2 3 x0 3).bind fun v125 =>
        (gI r110.2 3 x0 4).bind fun v129 =>
        (aI r110.2 10 v125 v129).bind fun v132 =>
        if v132 = 59 then
          f_X3_readToken_143 fu x0 x0 3 r110.2
        else
          f_X3_readToken_143 fu x0 x0 1 r110.2
      else
        (f_X3_readNumber fu x0 r110.2).bind fun r117 =>
        some ((), r117.2)
    else
      (f_X3_skipLetters fu x0 r80.2).bind fun r87 =>
      (f_X3_wordRead fu x0 r87.2).bind fun r92 =>
      (pI r92.2 3 x0 5 r92.1).bind fun h95 =>
      some ((), h95)
  else
    (pI h49 3 x0 5 0).bind fun h65 =>
    some ((), h65)
set_option maxHeartbeats 4000000 in
set_option maxRecDepth 100000 in
theorem w_X3_readToken_39 {X : Cx} {D : Dx} (hE : En X D cX3_readToken 1 RX3 none rm_X3_readToken) {fu : Nat} (x0 : Nat) (h : Hp) {lv : List (Option Value)} (hlv : lvLe [some (.ref x0)] lv) : Wo X D 1 (Qr X D 0 0 evU) 0 0 (f_X3_readToken_39 fu x0 h) 39 lv [] h := by
  refine Wo_sub hlv ?_
  unfold f_X3_readToken_39
  refine r_aload_n (pc := 39) hE dX3_readToken_39 rfl ?_
  refine r_aload_n (pc := 40) hE dX3_readToken_40 rfl ?_
  refine r_getI (pc := 41) hE 3 4 (by decide) (by decide) (fun _ _ _ => rfl) fl_RX3_30 dX3_readToken_41 (fun v41 _ => ?_)
  refine r_putI (pc := 44) hE 3 6 (by decide) (by decide) (fun _ _ _ => rfl) fl_RX3_66 rfl rfl rfl dX3_readToken_44 (fun h44 _ => ?_)
  refine r_aload_n (pc := 47) hE dX3_readToken_47 rfl ?_
  refine r_iconst (v := 0) (pc := 48) hE dX3_readToken_48 (by decide) ?_
  refine r_putI (pc := 49) hE 3 7 (by decide) (by decide) (fun _ _ _ => rfl) fl_RX3_63 rfl rfl rfl dX3_readToken_49 (fun h49 _ => ?_)
  refine r_aload_n (pc := 52) hE dX3_readToken_52 rfl ?_
  refine r_getI (pc := 53) hE 3 4 (by decide) (by decide) (fun _ _ _ => rfl) fl_RX3_30 dX3_readToken_53 (fun v53 _ => ?_)
  refine r_aload_n (pc := 56) hE dX3_readToken_56 rfl ?_
  refine r_getI (pc := 57) hE 3 0 (by decide) (by decide) (fun _ _ _ => rfl) fl_RX3_19 dX3_readToken_57 (fun v57 _ => ?_)
  refine r_icmp_lt (pc := 60) hE 71 dX3_readToken_60 (by decide) (fun _ => ?_) (fun _ => ?_)
  · refine r_aload_n (pc := 71) hE dX3_readToken_71 rfl ?_
    refine r_getR (pc := 72) hE 3 3 (by decide) (by decide) (fun _ _ _ => rfl) fl_RX3_15 dX3_readToken_72 (fun v72 _ => ?_)
    refine r_aload_n (pc := 75) hE dX3_readToken_75 rfl ?_
    refine r_getI (pc := 76) hE 3 4 (by decide) (by decide) (fun _ _ _ => rfl) fl_RX3_30 dX3_readToken_76 (fun v76 _ => ?_)
    refine r_aldC (pc := 79) hE dX3_readToken_79 (fun v79 _ => ?_)
    refine r_callS (pc := 80) hE (As := [.int v79]) (fun out ho => c_X3_isLetter _ _ fu _ _ out ho) cs_RX3_73 ⟨Nat.le_of_ble_eq_true rfl, Nat.le_of_ble_eq_true rfl, Nat.le_of_ble_eq_true rfl, Nat.le_of_ble_eq_true rfl⟩ (Nat.le_of_ble_eq_true rfl) rfl dX3_readToken_80 (fun r80 _ => ?_)
    refine r_if_eq (pc := 83) hE 101 dX3_readToken_83 (by decide) (fun _ => ?_) (fun _ => ?_)
    · refine r_aload_n (pc := 101) hE dX3_readToken_101 rfl ?_
      refine r_getR (pc := 102) hE 3 3 (by decide) (by decide) (fun _ _ _ => rfl) fl_RX3_15 dX3_readToken_102 (fun v102 _ => ?_)
      refine r_aload_n (pc := 105) hE dX3_readToken_105 rfl ?_
      refine r_getI (pc := 106) hE 3 4 (by decide) (by decide) (fun _ _ _ => rfl) fl_RX3_30 dX3_readToken_106 (fun v106 _ => ?_)
      refine r_aldC (pc := 109) hE dX3_readToken_109 (fun v109 _ => ?_)
      refine r_callS (pc := 110) hE (As := [.int v109]) (fun out ho => c_X3_isDigit _ _ fu _ _ out ho) cs_RX3_82 ⟨Nat.le_of_ble_eq_true rfl, Nat.le_of_ble_eq_true rfl, Nat.le_of_ble_eq_true rfl, Nat.le_of_ble_eq_true rfl⟩ (Nat.le_of_ble_eq_true rfl) rfl dX3_readToken_110 (fun r110 _ => ?_)
      refine r_if_eq (pc := 113) hE 123 dX3_readToken_113 (by decide) (fun _ => ?_) (fun _ => ?_)
      · refine r_aload_n (pc := 123) hE dX3_readToken_123 rfl ?_
        refine r_aload_n (pc := 124) hE dX3_readToken_124 rfl ?_
        refine r_getR (pc := 125) hE 3 3 (by decide) (by decide) (fun _ _ _ => rfl) fl_RX3_15 dX3_readToken_125 (fun v125 _ => ?_)
        refine r_aload_n (pc := 128) hE dX3_readToken_128 rfl ?_
        refine r_getI (pc := 129) hE 3 4 (by decide) (by decide) (fun _ _ _ => rfl) fl_RX3_30 dX3_readToken_129 (fun v129 _ => ?_)
        refine r_aldC (pc := 132) hE dX3_readToken_132 (fun v132 _ => ?_)
        refine r_bipush (v := 59) (pc := 133) hE dX3_readToken_133 (by decide) ?_
        refine r_icmp_ne (pc := 135) hE 142 dX3_readToken_135 (by decide) (fun _ => ?_) (fun _ => ?_)
        · refine r_iconst (v := 1) (pc := 142) hE dX3_readToken_142 (by decide) ?_
          exact w_X3_readToken_143 hE _ _ _ _ ⟨rfl, trivial⟩
        · refine r_iconst (v := 3) (pc := 138) hE dX3_readToken_138 (by decide) ?_
          refine r_goto (pc := 139) hE 143 dX3_readToken_139 (by decide) ?_
          exact w_X3_readToken_143 hE _ _ _ _ ⟨rfl, trivial⟩
      · refine r_aload_n (pc := 116) hE dX3_readToken_116 rfl ?_
        refine r_callV (pc := 117) hE 3 (As := []) (fun out ho => c_X3_readNumber _ _ fu _ _ out ho) (fun out ho => k_X3_readNumber ho) (by decide) rfl cs_RX3_85 ⟨Nat.le_of_ble_eq_true rfl, Nat.le_of_ble_eq_true rfl, Nat.le_of_ble_eq_true rfl, Nat.le_of_ble_eq_true rfl⟩ (Nat.le_of_ble_eq_true rfl) rfl dX3_readToken_117 (fun r117 _ => ?_)
        refine r_goto (pc := 120) hE 156 dX3_readToken_120 (by decide) ?_
        exact r_vret (pc := 156) hE dX3_readToken_156
    · refine r_aload_n (pc := 86) hE dX3_readToken_86 rfl ?_
      refine r_callV (pc := 87) hE 3 (As := []) (fun out ho => c_X3_skipLetters _ _ fu _ _ out ho) (fun out ho => k_X3_skipLetters ho) (by decide) rfl cs_RX3_76 ⟨Nat.le_of_ble_eq_true rfl, Nat.le_of_ble_eq_true rfl, Nat.le_of_ble_eq_true rfl, Nat.le_of_ble_eq_true rfl⟩ (Nat.le_of_ble_eq_true rfl) rfl dX3_readToken_87 (fun r87 _ => ?_)
      refine r_aload_n (pc := 90) hE dX3_readToken_90 rfl ?_
      refine r_aload_n (pc := 91) hE dX3_readToken_91 rfl ?_
      refine r_callV (pc := 92) hE 3 (As := []) (fun out ho => c_X3_wordRead _ _ fu _ _ out ho) (fun out ho => k_X3_wordRead ho) (by decide) rfl cs_RX3_79 ⟨Nat.le_of_ble_eq_true rfl, Nat.le_of_ble_eq_true rfl, Nat.le_of_ble_eq_true rfl, Nat.le_of_ble_eq_true rfl⟩ (Nat.le_of_ble_eq_true rfl) rfl dX3_readToken_92 (fun r92 _ => ?_)
      refine r_putI (pc := 95) hE 3 5 (by decide) (by decide) (fun _ _ _ => rfl) fl_RX3_36 rfl rfl rfl dX3_readToken_95 (fun h95 _ => ?_)
      refine r_goto (pc := 98) hE 156 dX3_readToken_98 (by decide) ?_
      exact r_vret (pc := 156) hE dX3_readToken_156
  · refine r_aload_n (pc := 63) hE dX3_readToken_63 rfl ?_
    refine r_iconst (v := 0) (pc := 64) hE dX3_readToken_64 (by decide) ?_
    refine r_putI (pc := 65) hE 3 5 (by decide) (by decide) (fun _ _ _ => rfl) fl_RX3_36 rfl rfl rfl dX3_readToken_65 (fun h65 _ => ?_)
    refine r_goto (pc := 68) hE 156 dX3_readToken_68 (by decide) ?_
    exact r_vret (pc := 156) hE dX3_readToken_156
def f_X3_readToken_0 (fu : Nat) : Nat → Nat → Hp → Option (Unit × Hp)
  | 0, _, _ => none
  | n + 1, x0, h =>
    (gI h 3 x0 4).bind fun v1 =>
    (gI h 3 x0 0).bind fun v5 =>
    if v5 ≤ v1 then
      f_X3_readToken_39 fu x0 h
    else
      (gR h 3 x0 3).bind fun v12 =>
      (gI h 3 x0 4).bind fun v16 =>
      (aI h 10 v12 v16).bind fun v19 =>
      (f_X3_isBlank fu v19 h).bind fun r20 =>
      if r20.1 = 0 then
        f_X3_readToken_39 fu x0 r20.2
      else
        (gI r20.2 3 x0 4).bind fun v28 =>
        (pI r20.2 3 x0 4 (v28 + 1)).bind fun h33 =>
        f_X3_readToken_0 fu n x0 h33
set_option maxHeartbeats 4000000 in
set_option maxRecDepth 100000 in
theorem w_X3_readToken_0 {X : Cx} {D : Dx} (hE : En X D cX3_readToken 1 RX3 none rm_X3_readToken) {fu : Nat} : ∀ (n : Nat) (x0 : Nat) (h : Hp) (lv : List (Option Value)), lvLe [some (.ref x0)] lv → Wo X D 1 (Qr X D 0 0 evU) 0 0 (f_X3_readToken_0 fu n x0 h) 0 lv [] h := by
  intro n
  induction n with
  | zero => intros; exact Wo_none
  | succ n ih =>
    intro x0 h lv hlv
    refine Wo_sub hlv ?_
    rw [f_X3_readToken_0]
    refine r_aload_n (pc := 0) hE dX3_readToken_0 rfl ?_
    refine r_getI (pc := 1) hE 3 4 (by decide) (by decide) (fun _ _ _ => rfl) fl_RX3_30 dX3_readToken_1 (fun v1 _ => ?_)
    refine r_aload_n (pc := 4) hE dX3_readToken_4 rfl ?_
    refine r_getI (pc := 5) hE 3 0 (by decide) (by decide) (fun _ _ _ => rfl) fl_RX3_19 dX3_readToken_5 (fun v5 _ => ?_)
    refine r_icmp_ge (pc := 8) hE 39 dX3_readToken_8 (by decide) (fun _ => ?_) (fun _ => ?_)
    · exact w_X3_readToken_39 hE _ _ ⟨rfl, trivial⟩
    · refine r_aload_n (pc := 11) hE dX3_readToken_11 rfl ?_
      refine r_getR (pc := 12) hE 3 3 (by decide) (by decide) (fun _ _ _ => rfl) fl_RX3_15 dX3_readToken_12 (fun v12 _ => ?_)
      refine r_aload_n (pc := 15) hE dX3_readToken_15 rfl ?_
      refine r_getI (pc := 16) hE 3 4 (by decide) (by decide) (fun _ _ _ => rfl) fl_RX3_30 dX3_readToken_16 (fun v16 _ => ?_)
      refine r_aldC (pc := 19) hE dX3_readToken_19 (fun v19 _ => ?_)
      refine r_callS (pc := 20) hE (As := [.int v19]) (fun out ho => c_X3_isBlank _ _ fu _ _ out ho) cs_RX3_69 ⟨Nat.le_of_ble_eq_true rfl, Nat.le_of_ble_eq_true rfl, Nat.le_of_ble_eq_true rfl, Nat.le_of_ble_eq_true rfl⟩ (Nat.le_of_ble_eq_true rfl) rfl dX3_readToken_20 (fun r20 _ => ?_)
      refine r_if_eq (pc := 23) hE 39 dX3_readToken_23 (by decide) (fun _ => ?_) (fun _ => ?_)
      · exact w_X3_readToken_39 hE _ _ ⟨rfl, trivial⟩
      · refine r_aload_n (pc := 26) hE dX3_readToken_26 rfl ?_
        refine r_dup (pc := 27) hE dX3_readToken_27 rfl ?_
        refine r_getI (pc := 28) hE 3 4 (by decide) (by decide) (fun _ _ _ => rfl) fl_RX3_30 dX3_readToken_28 (fun v28 _ => ?_)
        refine r_iconst (v := 1) (pc := 31) hE dX3_readToken_31 (by decide) ?_
        refine r_iadd (pc := 32) hE dX3_readToken_32 ?_
        refine r_putI (pc := 33) hE 3 4 (by decide) (by decide) (fun _ _ _ => rfl) fl_RX3_30 rfl rfl rfl dX3_readToken_33 (fun h33 _ => ?_)
        refine r_goto (pc := 36) hE 0 dX3_readToken_36 (by decide) ?_
        exact ih _ _ _ ⟨rfl, trivial⟩
def f_X3_readToken (fu : Nat) (x0 : Nat) (h : Hp) : Option (Unit × Hp) :=
  if h.K x0 = 3 then
    f_X3_readToken_0 fu fu x0 h
  else none
set_option maxHeartbeats 4000000 in
set_option maxRecDepth 100000 in
theorem c_X3_readToken (l : Launch) (D : Dx) (fu : Nat) (x0 : Nat) (h : Hp) (out : Unit × Hp) (ho : f_X3_readToken fu x0 h = some out) : Ct l D yX3_readToken cX3_readToken 1 none rm_X3_readToken [.ref x0] h (evU out.1) out.2 := by
  refine Ct.of (o := f_X3_readToken fu x0 h) (lv := [some (.ref x0)]) (by decide) (Nat.le_of_ble_eq_true rfl) rfl ?_ out ho
  intro X hXl hE hin
  replace hE : En X D cX3_readToken 1 RX3 none rm_X3_readToken := hE
  subst hXl
  unfold f_X3_readToken
  refine Wo_grd (fun _ => ?_)
  exact w_X3_readToken_0 hE fu _ _ _ ⟨rfl, trivial⟩
theorem k_X3_readToken {fu : Nat} {x0 : Nat} {h : Hp} {out : Unit × Hp} (ho : f_X3_readToken fu x0 h = some out) : h.K x0 = 3 := (gi_k ho).1
theorem cs_RX3_33 : csV RX3 33 yX3_readToken cX3_readToken 1 none 0 = true := by decide +kernel
def rm_X3_take : Room := { frames := 7, cells := 0, slots := 0, locals := 173 }
def f_X3_take_9 (fu : Nat) (x0 : Nat) (h : Hp) : Option (Unit × Hp) :=
  (gI h 3 x0 1).bind fun v10 =>
  if v10 = 0 then
    (f_X3_readToken fu x0 h).bind fun r17 =>
    some ((), r17.2)
  else
    some ((), h)
set_option maxHeartbeats 4000000 in
set_option maxRecDepth 100000 in
theorem w_X3_take_9 {X : Cx} {D : Dx} (hE : En X D cX3_take 2 RX3 none rm_X3_take) {fu : Nat} (x0 : Nat) (h : Hp) {lv : List (Option Value)} (hlv : lvLe [some (.ref x0), none] lv) : Wo X D 2 (Qr X D 0 0 evU) 0 0 (f_X3_take_9 fu x0 h) 9 lv [] h := by
  refine Wo_sub hlv ?_
  unfold f_X3_take_9
  refine r_aload_n (pc := 9) hE dX3_take_9 rfl ?_
  refine r_getI (pc := 10) hE 3 1 (by decide) (by decide) (fun _ _ _ => rfl) fl_RX3_27 dX3_take_10 (fun v10 _ => ?_)
  refine r_if_ne (pc := 13) hE 20 dX3_take_13 (by decide) (fun _ => ?_) (fun _ => ?_)
  · exact r_vret (pc := 20) hE dX3_take_20
  · refine r_aload_n (pc := 16) hE dX3_take_16 rfl ?_
    refine r_callV (pc := 17) hE 3 (As := []) (fun out ho => c_X3_readToken _ _ fu _ _ out ho) (fun out ho => k_X3_readToken ho) (by decide) rfl cs_RX3_33 ⟨Nat.le_of_ble_eq_true rfl, Nat.le_of_ble_eq_true rfl, Nat.le_of_ble_eq_true rfl, Nat.le_of_ble_eq_true rfl⟩ (Nat.le_of_ble_eq_true rfl) rfl dX3_take_17 (fun r17 _ => ?_)
    exact r_vret (pc := 20) hE dX3_take_20
def f_X3_take (fu : Nat) (x0 : Nat) (x1 : Int32) (h : Hp) : Option (Unit × Hp) :=
  if h.K x0 = 3 then
    if x1 = 0 then
      (f_X3_blame fu x0 1 h).bind fun r6 =>
      f_X3_take_9 fu x0 r6.2
    else
      f_X3_take_9 fu x0 h
  else none
set_option maxHeartbeats 4000000 in
set_option maxRecDepth 100000 in
theorem c_X3_take (l : Launch) (D : Dx) (fu : Nat) (x0 : Nat) (x1 : Int32) (h : Hp) (out : Unit × Hp) (ho : f_X3_take fu x0 x1 h = some out) : Ct l D yX3_take cX3_take 2 none rm_X3_take [.ref x0, .int x1] h (evU out.1) out.2 := by
  refine Ct.of (o := f_X3_take fu x0 x1 h) (lv := [some (.ref x0), some (.int x1)]) (by decide) (Nat.le_of_ble_eq_true rfl) rfl ?_ out ho
  intro X hXl hE hin
  replace hE : En X D cX3_take 2 RX3 none rm_X3_take := hE
  subst hXl
  unfold f_X3_take
  refine Wo_grd (fun _ => ?_)
  refine r_iload_n (pc := 0) hE dX3_take_0 rfl ?_
  refine r_if_ne (pc := 1) hE 9 dX3_take_1 (by decide) (fun _ => ?_) (fun _ => ?_)
  · exact w_X3_take_9 hE _ _ ⟨rfl, trivial⟩
  · refine r_aload_n (pc := 4) hE dX3_take_4 rfl ?_
    refine r_iconst (v := 1) (pc := 5) hE dX3_take_5 (by decide) ?_
    refine r_callV (pc := 6) hE 3 (As := [.int 1]) (fun out ho => c_X3_blame _ _ fu _ _ _ out ho) (fun out ho => k_X3_blame ho) (by decide) rfl cs_RX3_43 ⟨Nat.le_of_ble_eq_true rfl, Nat.le_of_ble_eq_true rfl, Nat.le_of_ble_eq_true rfl, Nat.le_of_ble_eq_true rfl⟩ (Nat.le_of_ble_eq_true rfl) rfl dX3_take_6 (fun r6 _ => ?_)
    exact w_X3_take_9 hE _ _ ⟨rfl, trivial⟩
theorem k_X3_take {fu : Nat} {x0 : Nat} {x1 : Int32} {h : Hp} {out : Unit × Hp} (ho : f_X3_take fu x0 x1 h = some out) : h.K x0 = 3 := (gi_k ho).1
theorem fl_RX3_22 : Cond.fieldLink RX3 22 (TF 0 0).1 (TF 0 0).2.1 (TF 0 0).2.2.1 ∈ TB := tb_in (by decide +kernel) rfl
theorem cs_RX3_47 : csV RX3 47 yX3_take cX3_take 2 none 1 = true := by decide +kernel
theorem cs_RX3_51 : csV RX3 51 yX3_numberWithin cX3_numberWithin 3 (some .int) 2 = true := by decide +kernel
theorem cs_RX3_55 : csV RX3 55 yX3_signNamed cX3_signNamed 1 (some .int) 0 = true := by decide +kernel
theorem cs_RX3_59 : csV RX3 59 yX0_add cX0_add 5 none 4 = true := by decide +kernel
def rm_X3_readLine : Room := { frames := 8, cells := 0, slots := 0, locals := 194 }
def f_X3_readLine_193 (fu : Nat) (x0 : Nat) (x1 : Nat) (x2 : Int32) (x3 : Int32) (x4 : Int32) (x5 : Int32) (s0 : Nat) (s1 : Int32) (h : Hp) : Option (Unit × Hp) :=
  (f_X3_take fu s0 s1 h).bind fun r193 =>
  (gI r193.2 3 x0 1).bind fun v197 =>
  if v197 = 0 then
    (f_X0_add fu x1 x2 x3 x4 x5 r193.2).bind fun r210 =>
    some ((), r210.2)
  else
    some ((), r193.2)
set_option maxHeartbeats 4000000 in
set_option maxRecDepth 100000 in
theorem w_X3_readLine_193 {X : Cx} {D : Dx} (hE : En X D cX3_readLine 6 RX3 none rm_X3_readLine) {fu : Nat} (x0 : Nat) (x1 : Nat) (x2 : Int32) (x3 : Int32) (x4 : Int32) (x5 : Int32) (s0 : Nat) (s1 : Int32) (h : Hp) {lv : List (Option Value)} (hlv : lvLe [some (.ref x0), some (.ref x1), some (.int x2), some (.int x3), some (.int x4), some (.int x5)] lv) : Wo X D 6 (Qr X D 0 0 evU) 0 0 (f_X3_readLine_193 fu x0 x1 x2 x3 x4 x5 s0 s1 h) 193 lv [.int s1, .ref s0] h := by
  refine Wo_sub hlv ?_
  unfold f_X3_readLine_193
  refine r_callV (pc := 193) hE 3 (As := [.int s1]) (fun out ho => c_X3_take _ _ fu _ _ _ out ho) (fun out ho => k_X3_take ho) (by decide) rfl cs_RX3_47 ⟨Nat.le_of_ble_eq_true rfl, Nat.le_of_ble_eq_true rfl, Nat.le_of_ble_eq_true rfl, Nat.le_of_ble_eq_true rfl⟩ (Nat.le_of_ble_eq_true rfl) rfl dX3_readLine_193 (fun r193 _ => ?_)
  refine r_aload_n (pc := 196) hE dX3_readLine_196 rfl ?_
  refine r_getI (pc := 197) hE 3 1 (by decide) (by decide) (fun _ _ _ => rfl) fl_RX3_27 dX3_readLine_197 (fun v197 _ => ?_)
  refine r_if_ne (pc := 200) hE 213 dX3_readLine_200 (by decide) (fun _ => ?_) (fun _ => ?_)
  · exact r_vret (pc := 213) hE dX3_readLine_213
  · refine r_aload_n (pc := 203) hE dX3_readLine_203 rfl ?_
    refine r_iload_n (pc := 204) hE dX3_readLine_204 rfl ?_
    refine r_iload_n (pc := 205) hE dX3_readLine_205 rfl ?_
    refine r_iload (pc := 206) hE dX3_readLine_206 rfl ?_
    refine r_iload (pc := 208) hE dX3_readLine_208 rfl ?_
    refine r_callV (pc := 210) hE 0 (As := [.int x2, .int x3, .int x4, .int x5]) (fun out ho => c_X0_add _ _ fu _ _ _ _ _ _ out ho) (fun out ho => k_X0_add ho) (by decide) rfl cs_RX3_59 ⟨Nat.le_of_ble_eq_true rfl, Nat.le_of_ble_eq_true rfl, Nat.le_of_ble_eq_true rfl, Nat.le_of_ble_eq_true rfl⟩ (Nat.le_of_ble_eq_true rfl) rfl dX3_readLine_210 (fun r210 _ => ?_)
    exact r_vret (pc := 213) hE dX3_readLine_213
def f_X3_readLine_176 (fu : Nat) (x0 : Nat) (x1 : Nat) (x2 : Int32) (x3 : Int32) (x4 : Int32) (x5 : Int32) (s0 : Nat) (s1 : Int32) (h : Hp) : Option (Unit × Hp) :=
  (f_X3_take fu s0 s1 h).bind fun r176 =>
  (gI r176.2 3 x0 5).bind fun v181 =>
  if v181 = 3 then
    f_X3_readLine_193 fu x0 x1 x2 x3 x4 x5 x0 1 r176.2
  else
    f_X3_readLine_193 fu x0 x1 x2 x3 x4 x5 x0 0 r176.2
set_option maxHeartbeats 4000000 in
set_option maxRecDepth 100000 in
theorem w_X3_readLine_176 {X : Cx} {D : Dx} (hE : En X D cX3_readLine 6 RX3 none rm_X3_readLine) {fu : Nat} (x0 : Nat) (x1 : Nat) (x2 : Int32) (x3 : Int32) (x4 : Int32) (x5 : Int32) (s0 : Nat) (s1 : Int32) (h : Hp) {lv : List (Option Value)} (hlv : lvLe [some (.ref x0), some (.ref x1), some (.int x2), some (.int x3), some (.int x4), some (.int x5)] lv) : Wo X D 6 (Qr X D 0 0 evU) 0 0 (f_X3_readLine_176 fu x0 x1 x2 x3 x4 x5 s0 s1 h) 176 lv [.int s1, .ref s0] h := by
  refine Wo_sub hlv ?_
  unfold f_X3_readLine_176
  refine r_callV (pc := 176) hE 3 (As := [.int s1]) (fun out ho => c_X3_take _ _ fu _ _ _ out ho) (fun out ho => k_X3_take ho) (by decide) rfl cs_RX3_47 ⟨Nat.le_of_ble_eq_true rfl, Nat.le_of_ble_eq_true rfl, Nat.le_of_ble_eq_true rfl, Nat.le_of_ble_eq_true rfl⟩ (Nat.le_of_ble_eq_true rfl) rfl dX3_readLine_176 (fun r176 _ => ?_)
  refine r_aload_n (pc := 179) hE dX3_readLine_179 rfl ?_
  refine r_aload_n (pc := 180) hE dX3_readLine_180 rfl ?_
  refine r_getI (pc := 181) hE 3 5 (by decide) (by decide) (fun _ _ _ => rfl) fl_RX3_36 dX3_readLine_181 (fun v181 _ => ?_)
  refine r_iconst (v := 3) (pc := 184) hE dX3_readLine_184 (by decide) ?_
  refine r_icmp_ne (pc := 185) hE 192 dX3_readLine_185 (by decide) (fun _ => ?_) (fun _ => ?_)
  · refine r_iconst (v := 0) (pc := 192) hE dX3_readLine_192 (by decide) ?_
    exact w_X3_readLine_193 hE _ _ _ _ _ _ _ _ _ ⟨rfl, ⟨rfl, ⟨rfl, ⟨rfl, ⟨rfl, ⟨rfl, trivial⟩⟩⟩⟩⟩⟩
  · refine r_iconst (v := 1) (pc := 188) hE dX3_readLine_188 (by decide) ?_
    refine r_goto (pc := 189) hE 193 dX3_readLine_189 (by decide) ?_
    exact w_X3_readLine_193 hE _ _ _ _ _ _ _ _ _ ⟨rfl, ⟨rfl, ⟨rfl, ⟨rfl, ⟨rfl, ⟨rfl, trivial⟩⟩⟩⟩⟩⟩
def f_X3_readLine_150 (fu : Nat) (x0 : Nat) (x1 : Nat) (x2 : Int32) (x3 : Int32) (x4 : Int32) (s0 : Nat) (s1 : Int32) (h : Hp) : Option (Unit × Hp) :=
  (f_X3_take fu s0 s1 h).bind fun r150 =>
  (f_X3_numberWithin fu x0 1 20 r150.2).bind fun r157 =>
  (gI r157.2 3 x0 5).bind fun v164 =>
  if v164 = 2 then
    f_X3_readLine_176 fu x0 x1 x2 x3 x4 r157.1 x0 1 r157.2
  else
    f_X3_readLine_176 fu x0 x1 x2 x3 x4 r157.1 x0 0 r157.2
set_option maxHeartbeats 4000000 in
set_option maxRecDepth 100000 in
theorem w_X3_readLine_150 {X : Cx} {D : Dx} (hE : En X D cX3_readLine 6 RX3 none rm_X3_readLine) {fu : Nat} (x0 : Nat) (x1 : Nat) (x2 : Int32) (x3 : Int32) (x4 : Int32) (s0 : Nat) (s1 : Int32) (h : Hp) {lv : List (Option Value)} (hlv : lvLe [some (.ref x0), some (.ref x1), some (.int x2), some (.int x3), some (.int x4), none] lv) : Wo X D 6 (Qr X D 0 0 evU) 0 0 (f_X3_readLine_150 fu x0 x1 x2 x3 x4 s0 s1 h) 150 lv [.int s1, .ref s0] h := by
  refine Wo_sub hlv ?_
  unfold f_X3_readLine_150
  refine r_callV (pc := 150) hE 3 (As := [.int s1]) (fun out ho => c_X3_take _ _ fu _ _ _ out ho) (fun out ho => k_X3_take ho) (by decide) rfl cs_RX3_47 ⟨Nat.le_of_ble_eq_true rfl, Nat.le_of_ble_eq_true rfl, Nat.le_of_ble_eq_true rfl, Nat.le_of_ble_eq_true rfl⟩ (Nat.le_of_ble_eq_true rfl) rfl dX3_readLine_150 (fun r150 _ => ?_)
  refine r_aload_n (pc := 153) hE dX3_readLine_153 rfl ?_
  refine r_iconst (v := 1) (pc := 154) hE dX3_readLine_154 (by decide) ?_
  refine r_bipush (v := 20) (pc := 155) hE dX3_readLine_155 (by decide) ?_
  refine r_callV (pc := 157) hE 3 (As := [.int 1, .int 20]) (fun out ho => c_X3_numberWithin _ _ fu _ _ _ _ out ho) (fun out ho => k_X3_numberWithin ho) (by decide) rfl cs_RX3_51 ⟨Nat.le_of_ble_eq_true rfl, Nat.le_of_ble_eq_true rfl, Nat.le_of_ble_eq_true rfl, Nat.le_of_ble_eq_true rfl⟩ (Nat.le_of_ble_eq_true rfl) rfl dX3_readLine_157 (fun r157 _ => ?_)
  refine r_istore (pc := 160) hE dX3_readLine_160 (by decide) ?_
  refine r_aload_n (pc := 162) hE dX3_readLine_162 rfl ?_
  refine r_aload_n (pc := 163) hE dX3_readLine_163 rfl ?_
  refine r_getI (pc := 164) hE 3 5 (by decide) (by decide) (fun _ _ _ => rfl) fl_RX3_36 dX3_readLine_164 (fun v164 _ => ?_)
  refine r_iconst (v := 2) (pc := 167) hE dX3_readLine_167 (by decide) ?_
  refine r_icmp_ne (pc := 168) hE 175 dX3_readLine_168 (by decide) (fun _ => ?_) (fun _ => ?_)
  · refine r_iconst (v := 0) (pc := 175) hE dX3_readLine_175 (by decide) ?_
    exact w_X3_readLine_176 hE _ _ _ _ _ _ _ _ _ ⟨rfl, ⟨rfl, ⟨rfl, ⟨rfl, ⟨rfl, ⟨rfl, trivial⟩⟩⟩⟩⟩⟩
  · refine r_iconst (v := 1) (pc := 171) hE dX3_readLine_171 (by decide) ?_
    refine r_goto (pc := 172) hE 176 dX3_readLine_172 (by decide) ?_
    exact w_X3_readLine_176 hE _ _ _ _ _ _ _ _ _ ⟨rfl, ⟨rfl, ⟨rfl, ⟨rfl, ⟨rfl, ⟨rfl, trivial⟩⟩⟩⟩⟩⟩
def f_X3_readLine_135 (fu : Nat) (x0 : Nat) (x1 : Nat) (x2 : Int32) (x3 : Int32) (x4 : Int32) (h : Hp) : Option (Unit × Hp) :=
  (gI h 3 x0 5).bind fun v137 =>
  if v137 = 6 then
    f_X3_readLine_150 fu x0 x1 x2 x3 x4 x0 1 h
  else
    f_X3_readLine_150 fu x0 x1 x2 x3 x4 x0 0 h
set_option maxHeartbeats 4000000 in
set_option maxRecDepth 100000 in
theorem w_X3_readLine_135 {X : Cx} {D : Dx} (hE : En X D cX3_readLine 6 RX3 none rm_X3_readLine) {fu : Nat} (x0 : Nat) (x1 : Nat) (x2 : Int32) (x3 : Int32) (x4 : Int32) (h : Hp) {lv : List (Option Value)} (hlv : lvLe [some (.ref x0), some (.ref x1), some (.int x2), some (.int x3), some (.int x4), none] lv) : Wo X D 6 (Qr X D 0 0 evU) 0 0 (f_X3_readLine_135 fu x0 x1 x2 x3 x4 h) 135 lv [] h := by
  refine Wo_sub hlv ?_
  unfold f_X3_readLine_135
  refine r_aload_n (pc := 135) hE dX3_readLine_135 rfl ?_
  refine r_aload_n (pc := 136) hE dX3_readLine_136 rfl ?_
  refine r_getI (pc := 137) hE 3 5 (by decide) (by decide) (fun _ _ _ => rfl) fl_RX3_36 dX3_readLine_137 (fun v137 _ => ?_)
  refine r_bipush (v := 6) (pc := 140) hE dX3_readLine_140 (by decide) ?_
  refine r_icmp_ne (pc := 142) hE 149 dX3_readLine_142 (by decide) (fun _ => ?_) (fun _ => ?_)
  · refine r_iconst (v := 0) (pc := 149) hE dX3_readLine_149 (by decide) ?_
    exact w_X3_readLine_150 hE _ _ _ _ _ _ _ _ ⟨rfl, ⟨rfl, ⟨rfl, ⟨rfl, ⟨rfl, trivial⟩⟩⟩⟩⟩
  · refine r_iconst (v := 1) (pc := 145) hE dX3_readLine_145 (by decide) ?_
    refine r_goto (pc := 146) hE 150 dX3_readLine_146 (by decide) ?_
    exact w_X3_readLine_150 hE _ _ _ _ _ _ _ _ ⟨rfl, ⟨rfl, ⟨rfl, ⟨rfl, ⟨rfl, trivial⟩⟩⟩⟩⟩
def f_X3_readLine_132 (fu : Nat) (x0 : Nat) (x1 : Nat) (x2 : Int32) (x3 : Int32) (x4 : Int32) (s0 : Nat) (s1 : Int32) (h : Hp) : Option (Unit × Hp) :=
  (f_X3_take fu s0 s1 h).bind fun r132 =>
  f_X3_readLine_135 fu x0 x1 x2 x3 x4 r132.2
set_option maxHeartbeats 4000000 in
set_option maxRecDepth 100000 in
theorem w_X3_readLine_132 {X : Cx} {D : Dx} (hE : En X D cX3_readLine 6 RX3 none rm_X3_readLine) {fu : Nat} (x0 : Nat) (x1 : Nat) (x2 : Int32) (x3 : Int32) (x4 : Int32) (s0 : Nat) (s1 : Int32) (h : Hp) {lv : List (Option Value)} (hlv : lvLe [some (.ref x0), some (.ref x1), some (.int x2), some (.int x3), some (.int x4), none] lv) : Wo X D 6 (Qr X D 0 0 evU) 0 0 (f_X3_readLine_132 fu x0 x1 x2 x3 x4 s0 s1 h) 132 lv [.int s1, .ref s0] h := by
  refine Wo_sub hlv ?_
  unfold f_X3_readLine_132
  refine r_callV (pc := 132) hE 3 (As := [.int s1]) (fun out ho => c_X3_take _ _ fu _ _ _ out ho) (fun out ho => k_X3_take ho) (by decide) rfl cs_RX3_47 ⟨Nat.le_of_ble_eq_true rfl, Nat.le_of_ble_eq_true rfl, Nat.le_of_ble_eq_true rfl, Nat.le_of_ble_eq_true rfl⟩ (Nat.le_of_ble_eq_true rfl) rfl dX3_readLine_132 (fun r132 _ => ?_)
  exact w_X3_readLine_135 hE _ _ _ _ _ _ ⟨rfl, ⟨rfl, ⟨rfl, ⟨rfl, ⟨rfl, trivial⟩⟩⟩⟩⟩
def f_X3_readLine_110 (fu : Nat) (x0 : Nat) (x1 : Nat) (x2 : Int32) (x3 : Int32) (h : Hp) : Option (Unit × Hp) :=
  (f_X3_numberWithin fu x0 0 3 h).bind fun r113 =>
  (gI r113.2 3 x0 5).bind fun v120 =>
  if v120 = 2 then
    f_X3_readLine_132 fu x0 x1 x2 x3 r113.1 x0 1 r113.2
  else
    f_X3_readLine_132 fu x0 x1 x2 x3 r113.1 x0 0 r113.2
set_option maxHeartbeats 4000000 in
set_option maxRecDepth 100000 in
theorem w_X3_readLine_110 {X : Cx} {D : Dx} (hE : En X D cX3_readLine 6 RX3 none rm_X3_readLine) {fu : Nat} (x0 : Nat) (x1 : Nat) (x2 : Int32) (x3 : Int32) (h : Hp) {lv : List (Option Value)} (hlv : lvLe [some (.ref x0), some (.ref x1), some (.int x2), some (.int x3), none, none] lv) : Wo X D 6 (Qr X D 0 0 evU) 0 0 (f_X3_readLine_110 fu x0 x1 x2 x3 h) 110 lv [] h := by
  refine Wo_sub hlv ?_
  unfold f_X3_readLine_110
  refine r_aload_n (pc := 110) hE dX3_readLine_110 rfl ?_
  refine r_iconst (v := 0) (pc := 111) hE dX3_readLine_111 (by decide) ?_
  refine r_iconst (v := 3) (pc := 112) hE dX3_readLine_112 (by decide) ?_
  refine r_callV (pc := 113) hE 3 (As := [.int 0, .int 3]) (fun out ho => c_X3_numberWithin _ _ fu _ _ _ _ out ho) (fun out ho => k_X3_numberWithin ho) (by decide) rfl cs_RX3_51 ⟨Nat.le_of_ble_eq_true rfl, Nat.le_of_ble_eq_true rfl, Nat.le_of_ble_eq_true rfl, Nat.le_of_ble_eq_true rfl⟩ (Nat.le_of_ble_eq_true rfl) rfl dX3_readLine_113 (fun r113 _ => ?_)
  refine r_istore (pc := 116) hE dX3_readLine_116 (by decide) ?_
  refine r_aload_n (pc := 118) hE dX3_readLine_118 rfl ?_
  refine r_aload_n (pc := 119) hE dX3_readLine_119 rfl ?_
  refine r_getI (pc := 120) hE 3 5 (by decide) (by decide) (fun _ _ _ => rfl) fl_RX3_36 dX3_readLine_120 (fun v120 _ => ?_)
  refine r_iconst (v := 2) (pc := 123) hE dX3_readLine_123 (by decide) ?_
  refine r_icmp_ne (pc := 124) hE 131 dX3_readLine_124 (by decide) (fun _ => ?_) (fun _ => ?_)
  · refine r_iconst (v := 0) (pc := 131) hE dX3_readLine_131 (by decide) ?_
    exact w_X3_readLine_132 hE _ _ _ _ _ _ _ _ ⟨rfl, ⟨rfl, ⟨rfl, ⟨rfl, ⟨rfl, trivial⟩⟩⟩⟩⟩
  · refine r_iconst (v := 1) (pc := 127) hE dX3_readLine_127 (by decide) ?_
    refine r_goto (pc := 128) hE 132 dX3_readLine_128 (by decide) ?_
    exact w_X3_readLine_132 hE _ _ _ _ _ _ _ _ ⟨rfl, ⟨rfl, ⟨rfl, ⟨rfl, ⟨rfl, trivial⟩⟩⟩⟩⟩
def f_X3_readLine_98 (fu : Nat) (x0 : Nat) (x1 : Nat) (x2 : Int32) (x3 : Int32) (x4 : Int32) (s0 : Nat) (s1 : Int32) (h : Hp) : Option (Unit × Hp) :=
  (f_X3_take fu s0 s1 h).bind fun r98 =>
  if x3 = 0 then
    f_X3_readLine_110 fu x0 x1 x2 x3 r98.2
  else
    if x3 = 1 then
      f_X3_readLine_110 fu x0 x1 x2 x3 r98.2
    else
      f_X3_readLine_135 fu x0 x1 x2 x3 x4 r98.2
set_option maxHeartbeats 4000000 in
set_option maxRecDepth 100000 in
theorem w_X3_readLine_98 {X : Cx} {D : Dx} (hE : En X D cX3_readLine 6 RX3 none rm_X3_readLine) {fu : Nat} (x0 : Nat) (x1 : Nat) (x2 : Int32) (x3 : Int32) (x4 : Int32) (s0 : Nat) (s1 : Int32) (h : Hp) {lv : List (Option Value)} (hlv : lvLe [some (.ref x0), some (.ref x1), some (.int x2), some (.int x3), some (.int x4), none] lv) : Wo X D 6 (Qr X D 0 0 evU) 0 0 (f_X3_readLine_98 fu x0 x1 x2 x3 x4 s0 s1 h) 98 lv [.int s1, .ref s0] h := by
  refine Wo_sub hlv ?_
  unfold f_X3_readLine_98
  refine r_callV (pc := 98) hE 3 (As := [.int s1]) (fun out ho => c_X3_take _ _ fu _ _ _ out ho) (fun out ho => k_X3_take ho) (by decide) rfl cs_RX3_47 ⟨Nat.le_of_ble_eq_true rfl, Nat.le_of_ble_eq_true rfl, Nat.le_of_ble_eq_true rfl, Nat.le_of_ble_eq_true rfl⟩ (Nat.le_of_ble_eq_true rfl) rfl dX3_readLine_98 (fun r98 _ => ?_)
  refine r_iload_n (pc := 101) hE dX3_readLine_101 rfl ?_
  refine r_if_eq (pc := 102) hE 110 dX3_readLine_102 (by decide) (fun _ => ?_) (fun _ => ?_)
  · exact w_X3_readLine_110 hE _ _ _ _ _ ⟨rfl, ⟨rfl, ⟨rfl, ⟨rfl, trivial⟩⟩⟩⟩
  · refine r_iload_n (pc := 105) hE dX3_readLine_105 rfl ?_
    refine r_iconst (v := 1) (pc := 106) hE dX3_readLine_106 (by decide) ?_
    refine r_icmp_ne (pc := 107) hE 135 dX3_readLine_107 (by decide) (fun _ => ?_) (fun _ => ?_)
    · exact w_X3_readLine_135 hE _ _ _ _ _ _ ⟨rfl, ⟨rfl, ⟨rfl, ⟨rfl, ⟨rfl, trivial⟩⟩⟩⟩⟩
    · exact w_X3_readLine_110 hE _ _ _ _ _ ⟨rfl, ⟨rfl, ⟨rfl, ⟨rfl, trivial⟩⟩⟩⟩
def f_X3_readLine_61 (fu : Nat) (x0 : Nat) (x1 : Nat) (x2 : Int32) (s0 : Nat) (s1 : Int32) (h : Hp) : Option (Unit × Hp) :=
  (f_X3_take fu s0 s1 h).bind fun r61 =>
  (gI r61.2 3 x0 5).bind fun v70 =>
  if v70 = 5 then
    (f_X3_take fu x0 1 r61.2).bind fun r79 =>
    (f_X3_signNamed fu x0 r79.2).bind fun r83 =>
    if r83.1 = (-1) then
      f_X3_readLine_98 fu x0 x1 x2 r83.1 1 x0 0 r83.2
    else
      f_X3_readLine_98 fu x0 x1 x2 r83.1 1 x0 1 r83.2
  else
    f_X3_readLine_135 fu x0 x1 x2 (-1) 1 r61.2
set_option maxHeartbeats 4000000 in
set_option maxRecDepth 100000 in
theorem w_X3_readLine_61 {X : Cx} {D : Dx} (hE : En X D cX3_readLine 6 RX3 none rm_X3_readLine) {fu : Nat} (x0 : Nat) (x1 : Nat) (x2 : Int32) (s0 : Nat) (s1 : Int32) (h : Hp) {lv : List (Option Value)} (hlv : lvLe [some (.ref x0), some (.ref x1), some (.int x2), none, none, none] lv) : Wo X D 6 (Qr X D 0 0 evU) 0 0 (f_X3_readLine_61 fu x0 x1 x2 s0 s1 h) 61 lv [.int s1, .ref s0] h := by
  refine Wo_sub hlv ?_
  unfold f_X3_readLine_61
  refine r_callV (pc := 61) hE 3 (As := [.int s1]) (fun out ho => c_X3_take _ _ fu _ _ _ out ho) (fun out ho => k_X3_take ho) (by decide) rfl cs_RX3_47 ⟨Nat.le_of_ble_eq_true rfl, Nat.le_of_ble_eq_true rfl, Nat.le_of_ble_eq_true rfl, Nat.le_of_ble_eq_true rfl⟩ (Nat.le_of_ble_eq_true rfl) rfl dX3_readLine_61 (fun r61 _ => ?_)
  refine r_iconst (v := -1) (pc := 64) hE dX3_readLine_64 (by decide) ?_
  refine r_istore_n (pc := 65) hE dX3_readLine_65 (by decide) ?_
  refine r_iconst (v := 1) (pc := 66) hE dX3_readLine_66 (by decide) ?_
  refine r_istore (pc := 67) hE dX3_readLine_67 (by decide) ?_
  refine r_aload_n (pc := 69) hE dX3_readLine_69 rfl ?_
  refine r_getI (pc := 70) hE 3 5 (by decide) (by decide) (fun _ _ _ => rfl) fl_RX3_36 dX3_readLine_70 (fun v70 _ => ?_)
  refine r_iconst (v := 5) (pc := 73) hE dX3_readLine_73 (by decide) ?_
  refine r_icmp_ne (pc := 74) hE 135 dX3_readLine_74 (by decide) (fun _ => ?_) (fun _ => ?_)
  · exact w_X3_readLine_135 hE _ _ _ _ _ _ ⟨rfl, ⟨rfl, ⟨rfl, ⟨rfl, ⟨rfl, trivial⟩⟩⟩⟩⟩
  · refine r_aload_n (pc := 77) hE dX3_readLine_77 rfl ?_
    refine r_iconst (v := 1) (pc := 78) hE dX3_readLine_78 (by decide) ?_
    refine r_callV (pc := 79) hE 3 (As := [.int 1]) (fun out ho => c_X3_take _ _ fu _ _ _ out ho) (fun out ho => k_X3_take ho) (by decide) rfl cs_RX3_47 ⟨Nat.le_of_ble_eq_true rfl, Nat.le_of_ble_eq_true rfl, Nat.le_of_ble_eq_true rfl, Nat.le_of_ble_eq_true rfl⟩ (Nat.le_of_ble_eq_true rfl) rfl dX3_readLine_79 (fun r79 _ => ?_)
    refine r_aload_n (pc := 82) hE dX3_readLine_82 rfl ?_
    refine r_callV (pc := 83) hE 3 (As := []) (fun out ho => c_X3_signNamed _ _ fu _ _ out ho) (fun out ho => k_X3_signNamed ho) (by decide) rfl cs_RX3_55 ⟨Nat.le_of_ble_eq_true rfl, Nat.le_of_ble_eq_true rfl, Nat.le_of_ble_eq_true rfl, Nat.le_of_ble_eq_true rfl⟩ (Nat.le_of_ble_eq_true rfl) rfl dX3_readLine_83 (fun r83 _ => ?_)
    refine r_istore_n (pc := 86) hE dX3_readLine_86 (by decide) ?_
    refine r_aload_n (pc := 87) hE dX3_readLine_87 rfl ?_
    refine r_iload_n (pc := 88) hE dX3_readLine_88 rfl ?_
    refine r_iconst (v := -1) (pc := 89) hE dX3_readLine_89 (by decide) ?_
    refine r_icmp_eq (pc := 90) hE 97 dX3_readLine_90 (by decide) (fun _ => ?_) (fun _ => ?_)
    · refine r_iconst (v := 0) (pc := 97) hE dX3_readLine_97 (by decide) ?_
      exact w_X3_readLine_98 hE _ _ _ _ _ _ _ _ ⟨rfl, ⟨rfl, ⟨rfl, ⟨rfl, ⟨rfl, trivial⟩⟩⟩⟩⟩
    · refine r_iconst (v := 1) (pc := 93) hE dX3_readLine_93 (by decide) ?_
      refine r_goto (pc := 94) hE 98 dX3_readLine_94 (by decide) ?_
      exact w_X3_readLine_98 hE _ _ _ _ _ _ _ _ ⟨rfl, ⟨rfl, ⟨rfl, ⟨rfl, ⟨rfl, trivial⟩⟩⟩⟩⟩
def f_X3_readLine_36 (fu : Nat) (x0 : Nat) (x1 : Nat) (s0 : Nat) (s1 : Int32) (h : Hp) : Option (Unit × Hp) :=
  (f_X3_take fu s0 s1 h).bind fun r36 =>
  (f_X3_numberWithin fu x0 0 8 r36.2).bind fun r43 =>
  (gI r43.2 3 x0 5).bind fun v49 =>
  if v49 = 2 then
    f_X3_readLine_61 fu x0 x1 r43.1 x0 1 r43.2
  else
    f_X3_readLine_61 fu x0 x1 r43.1 x0 0 r43.2
set_option maxHeartbeats 4000000 in
set_option maxRecDepth 100000 in
theorem w_X3_readLine_36 {X : Cx} {D : Dx} (hE : En X D cX3_readLine 6 RX3 none rm_X3_readLine) {fu : Nat} (x0 : Nat) (x1 : Nat) (s0 : Nat) (s1 : Int32) (h : Hp) {lv : List (Option Value)} (hlv : lvLe [some (.ref x0), some (.ref x1), none, none, none, none] lv) : Wo X D 6 (Qr X D 0 0 evU) 0 0 (f_X3_readLine_36 fu x0 x1 s0 s1 h) 36 lv [.int s1, .ref s0] h := by
  refine Wo_sub hlv ?_
  unfold f_X3_readLine_36
  refine r_callV (pc := 36) hE 3 (As := [.int s1]) (fun out ho => c_X3_take _ _ fu _ _ _ out ho) (fun out ho => k_X3_take ho) (by decide) rfl cs_RX3_47 ⟨Nat.le_of_ble_eq_true rfl, Nat.le_of_ble_eq_true rfl, Nat.le_of_ble_eq_true rfl, Nat.le_of_ble_eq_true rfl⟩ (Nat.le_of_ble_eq_true rfl) rfl dX3_readLine_36 (fun r36 _ => ?_)
  refine r_aload_n (pc := 39) hE dX3_readLine_39 rfl ?_
  refine r_iconst (v := 0) (pc := 40) hE dX3_readLine_40 (by decide) ?_
  refine r_bipush (v := 8) (pc := 41) hE dX3_readLine_41 (by decide) ?_
  refine r_callV (pc := 43) hE 3 (As := [.int 0, .int 8]) (fun out ho => c_X3_numberWithin _ _ fu _ _ _ _ out ho) (fun out ho => k_X3_numberWithin ho) (by decide) rfl cs_RX3_51 ⟨Nat.le_of_ble_eq_true rfl, Nat.le_of_ble_eq_true rfl, Nat.le_of_ble_eq_true rfl, Nat.le_of_ble_eq_true rfl⟩ (Nat.le_of_ble_eq_true rfl) rfl dX3_readLine_43 (fun r43 _ => ?_)
  refine r_istore_n (pc := 46) hE dX3_readLine_46 (by decide) ?_
  refine r_aload_n (pc := 47) hE dX3_readLine_47 rfl ?_
  refine r_aload_n (pc := 48) hE dX3_readLine_48 rfl ?_
  refine r_getI (pc := 49) hE 3 5 (by decide) (by decide) (fun _ _ _ => rfl) fl_RX3_36 dX3_readLine_49 (fun v49 _ => ?_)
  refine r_iconst (v := 2) (pc := 52) hE dX3_readLine_52 (by decide) ?_
  refine r_icmp_ne (pc := 53) hE 60 dX3_readLine_53 (by decide) (fun _ => ?_) (fun _ => ?_)
  · refine r_iconst (v := 0) (pc := 60) hE dX3_readLine_60 (by decide) ?_
    exact w_X3_readLine_61 hE _ _ _ _ _ _ ⟨rfl, ⟨rfl, ⟨rfl, trivial⟩⟩⟩
  · refine r_iconst (v := 1) (pc := 56) hE dX3_readLine_56 (by decide) ?_
    refine r_goto (pc := 57) hE 61 dX3_readLine_57 (by decide) ?_
    exact w_X3_readLine_61 hE _ _ _ _ _ _ ⟨rfl, ⟨rfl, ⟨rfl, trivial⟩⟩⟩
def f_X3_readLine_22 (fu : Nat) (x0 : Nat) (x1 : Nat) (h : Hp) : Option (Unit × Hp) :=
  (gI h 3 x0 5).bind fun v24 =>
  if v24 = 4 then
    f_X3_readLine_36 fu x0 x1 x0 1 h
  else
    f_X3_readLine_36 fu x0 x1 x0 0 h
set_option maxHeartbeats 4000000 in
set_option maxRecDepth 100000 in
theorem w_X3_readLine_22 {X : Cx} {D : Dx} (hE : En X D cX3_readLine 6 RX3 none rm_X3_readLine) {fu : Nat} (x0 : Nat) (x1 : Nat) (h : Hp) {lv : List (Option Value)} (hlv : lvLe [some (.ref x0), some (.ref x1), none, none, none, none] lv) : Wo X D 6 (Qr X D 0 0 evU) 0 0 (f_X3_readLine_22 fu x0 x1 h) 22 lv [] h := by
  refine Wo_sub hlv ?_
  unfold f_X3_readLine_22
  refine r_aload_n (pc := 22) hE dX3_readLine_22 rfl ?_
  refine r_aload_n (pc := 23) hE dX3_readLine_23 rfl ?_
  refine r_getI (pc := 24) hE 3 5 (by decide) (by decide) (fun _ _ _ => rfl) fl_RX3_36 dX3_readLine_24 (fun v24 _ => ?_)
  refine r_iconst (v := 4) (pc := 27) hE dX3_readLine_27 (by decide) ?_
  refine r_icmp_ne (pc := 28) hE 35 dX3_readLine_28 (by decide) (fun _ => ?_) (fun _ => ?_)
  · refine r_iconst (v := 0) (pc := 35) hE dX3_readLine_35 (by decide) ?_
    exact w_X3_readLine_36 hE _ _ _ _ _ ⟨rfl, ⟨rfl, trivial⟩⟩
  · refine r_iconst (v := 1) (pc := 31) hE dX3_readLine_31 (by decide) ?_
    refine r_goto (pc := 32) hE 36 dX3_readLine_32 (by decide) ?_
    exact w_X3_readLine_36 hE _ _ _ _ _ ⟨rfl, ⟨rfl, trivial⟩⟩
def f_X3_readLine (fu : Nat) (x0 : Nat) (x1 : Nat) (h : Hp) : Option (Unit × Hp) :=
  if h.K x0 = 3 then
    (gI h 3 x0 5).bind fun v1 =>
    if v1 = 4 then
      (gI h 0 x1 0).bind fun v9 =>
      if v9 < 12 then
        f_X3_readLine_22 fu x0 x1 h
      else
        (f_X3_blame fu x0 3 h).bind fun r19 =>
        f_X3_readLine_22 fu x0 x1 r19.2
    else
      f_X3_readLine_22 fu x0 x1 h
  else none
set_option maxHeartbeats 4000000 in
set_option maxRecDepth 100000 in
theorem c_X3_readLine (l : Launch) (D : Dx) (fu : Nat) (x0 : Nat) (x1 : Nat) (h : Hp) (out : Unit × Hp) (ho : f_X3_readLine fu x0 x1 h = some out) : Ct l D yX3_readLine cX3_readLine 6 none rm_X3_readLine [.ref x0, .ref x1] h (evU out.1) out.2 := by
  refine Ct.of (o := f_X3_readLine fu x0 x1 h) (lv := [some (.ref x0), some (.ref x1), none, none, none, none]) (by decide) (Nat.le_of_ble_eq_true rfl) rfl ?_ out ho
  intro X hXl hE hin
  replace hE : En X D cX3_readLine 6 RX3 none rm_X3_readLine := hE
  subst hXl
  unfold f_X3_readLine
  refine Wo_grd (fun _ => ?_)
  refine r_aload_n (pc := 0) hE dX3_readLine_0 rfl ?_
  refine r_getI (pc := 1) hE 3 5 (by decide) (by decide) (fun _ _ _ => rfl) fl_RX3_36 dX3_readLine_1 (fun v1 _ => ?_)
  refine r_iconst (v := 4) (pc := 4) hE dX3_readLine_4 (by decide) ?_
  refine r_icmp_ne (pc := 5) hE 22 dX3_readLine_5 (by decide) (fun _ => ?_) (fun _ => ?_)
  · exact w_X3_readLine_22 hE _ _ _ ⟨rfl, ⟨rfl, trivial⟩⟩
  · refine r_aload_n (pc := 8) hE dX3_readLine_8 rfl ?_
    refine r_getI (pc := 9) hE 0 0 (by decide) (by decide) (fun _ _ _ => rfl) fl_RX3_22 dX3_readLine_9 (fun v9 _ => ?_)
    refine r_bipush (v := 12) (pc := 12) hE dX3_readLine_12 (by decide) ?_
    refine r_icmp_lt (pc := 14) hE 22 dX3_readLine_14 (by decide) (fun _ => ?_) (fun _ => ?_)
    · exact w_X3_readLine_22 hE _ _ _ ⟨rfl, ⟨rfl, trivial⟩⟩
    · refine r_aload_n (pc := 17) hE dX3_readLine_17 rfl ?_
      refine r_iconst (v := 3) (pc := 18) hE dX3_readLine_18 (by decide) ?_
      refine r_callV (pc := 19) hE 3 (As := [.int 3]) (fun out ho => c_X3_blame _ _ fu _ _ _ out ho) (fun out ho => k_X3_blame ho) (by decide) rfl cs_RX3_43 ⟨Nat.le_of_ble_eq_true rfl, Nat.le_of_ble_eq_true rfl, Nat.le_of_ble_eq_true rfl, Nat.le_of_ble_eq_true rfl⟩ (Nat.le_of_ble_eq_true rfl) rfl dX3_readLine_19 (fun r19 _ => ?_)
      exact w_X3_readLine_22 hE _ _ _ ⟨rfl, ⟨rfl, trivial⟩⟩
theorem k_X3_readLine {fu : Nat} {x0 : Nat} {x1 : Nat} {h : Hp} {out : Unit × Hp} (ho : f_X3_readLine fu x0 x1 h = some out) : h.K x0 = 3 := (gi_k ho).1
theorem cs_RX3_39 : csV RX3 39 yX3_readLine cX3_readLine 6 none 1 = true := by decide +kernel
def rm_X3_readInto : Room := { frames := 9, cells := 0, slots := 0, locals := 219 }
def f_X3_readInto_57 (fu : Nat) (x0 : Nat) (h : Hp) : Option (Int32 × Hp) :=
  (gI h 3 x0 1).bind fun v58 =>
  if v58 = 0 then
    some (1, h)
  else
    some (0, h)
set_option maxHeartbeats 4000000 in
set_option maxRecDepth 100000 in
theorem w_X3_readInto_57 {X : Cx} {D : Dx} (hE : En X D cX3_readInto 3 RX3 (some .boolean) rm_X3_readInto) {fu : Nat} (x0 : Nat) (h : Hp) {lv : List (Option Value)} (hlv : lvLe [some (.ref x0), none, none] lv) : Wo X D 3 (Qr X D 0 0 evI) 0 0 (f_X3_readInto_57 fu x0 h) 57 lv [] h := by
  refine Wo_sub hlv ?_
  unfold f_X3_readInto_57
  refine r_aload_n (pc := 57) hE dX3_readInto_57 rfl ?_
  refine r_getI (pc := 58) hE 3 1 (by decide) (by decide) (fun _ _ _ => rfl) fl_RX3_27 dX3_readInto_58 (fun v58 _ => ?_)
  refine r_if_ne (pc := 61) hE 68 dX3_readInto_61 (by decide) (fun _ => ?_) (fun _ => ?_)
  · refine r_iconst (v := 0) (pc := 68) hE dX3_readInto_68 (by decide) ?_
    exact r_zret (pc := 69) hE (by decide) dX3_readInto_69
  · refine r_iconst (v := 1) (pc := 64) hE dX3_readInto_64 (by decide) ?_
    refine r_goto (pc := 65) hE 69 dX3_readInto_65 (by decide) ?_
    exact r_zret (pc := 69) hE (by decide) dX3_readInto_69
def f_X3_readInto_26 (fu : Nat) : Nat → Nat → Nat → Int32 → Hp → Option (Int32 × Hp)
  | 0, _, _, _, _ => none
  | n + 1, x0, x1, x2, h =>
    if 12 < x2 then
      f_X3_readInto_57 fu x0 h
    else
      (gI h 3 x0 1).bind fun v33 =>
      if v33 = 0 then
        (gI h 3 x0 5).bind fun v40 =>
        if v40 = 0 then
          f_X3_readInto_57 fu x0 h
        else
          (f_X3_readLine fu x0 x1 h).bind fun r48 =>
          f_X3_readInto_26 fu n x0 x1 ((x2 + 1)) r48.2
      else
        f_X3_readInto_57 fu x0 h
set_option maxHeartbeats 4000000 in
set_option maxRecDepth 100000 in
theorem w_X3_readInto_26 {X : Cx} {D : Dx} (hE : En X D cX3_readInto 3 RX3 (some .boolean) rm_X3_readInto) {fu : Nat} : ∀ (n : Nat) (x0 : Nat) (x1 : Nat) (x2 : Int32) (h : Hp) (lv : List (Option Value)), lvLe [some (.ref x0), some (.ref x1), some (.int x2)] lv → Wo X D 3 (Qr X D 0 0 evI) 0 0 (f_X3_readInto_26 fu n x0 x1 x2 h) 26 lv [] h := by
  intro n
  induction n with
  | zero => intros; exact Wo_none
  | succ n ih =>
    intro x0 x1 x2 h lv hlv
    refine Wo_sub hlv ?_
    rw [f_X3_readInto_26]
    refine r_iload_n (pc := 26) hE dX3_readInto_26 rfl ?_
    refine r_bipush (v := 12) (pc := 27) hE dX3_readInto_27 (by decide) ?_
    refine r_icmp_gt (pc := 29) hE 57 dX3_readInto_29 (by decide) (fun _ => ?_) (fun _ => ?_)
    · exact w_X3_readInto_57 hE _ _ ⟨rfl, trivial⟩
    · refine r_aload_n (pc := 32) hE dX3_readInto_32 rfl ?_
      refine r_getI (pc := 33) hE 3 1 (by decide) (by decide) (fun _ _ _ => rfl) fl_RX3_27 dX3_readInto_33 (fun v33 _ => ?_)
      refine r_if_ne (pc := 36) hE 57 dX3_readInto_36 (by decide) (fun _ => ?_) (fun _ => ?_)
      · exact w_X3_readInto_57 hE _ _ ⟨rfl, trivial⟩
      · refine r_aload_n (pc := 39) hE dX3_readInto_39 rfl ?_
        refine r_getI (pc := 40) hE 3 5 (by decide) (by decide) (fun _ _ _ => rfl) fl_RX3_36 dX3_readInto_40 (fun v40 _ => ?_)
        refine r_if_eq (pc := 43) hE 57 dX3_readInto_43 (by decide) (fun _ => ?_) (fun _ => ?_)
        · exact w_X3_readInto_57 hE _ _ ⟨rfl, trivial⟩
        · refine r_aload_n (pc := 46) hE dX3_readInto_46 rfl ?_
          refine r_aload_n (pc := 47) hE dX3_readInto_47 rfl ?_
          refine r_callV (pc := 48) hE 3 (As := [.ref x1]) (fun out ho => c_X3_readLine _ _ fu _ _ _ out ho) (fun out ho => k_X3_readLine ho) (by decide) rfl cs_RX3_39 ⟨Nat.le_of_ble_eq_true rfl, Nat.le_of_ble_eq_true rfl, Nat.le_of_ble_eq_true rfl, Nat.le_of_ble_eq_true rfl⟩ (Nat.le_of_ble_eq_true rfl) rfl dX3_readInto_48 (fun r48 _ => ?_)
          refine r_iinc (v := (x2 + 1)) (pc := 51) hE dX3_readInto_51 rfl rfl (by decide) ?_
          refine r_goto (pc := 54) hE 26 dX3_readInto_54 (by decide) ?_
          exact ih _ _ _ _ _ ⟨rfl, ⟨rfl, ⟨rfl, trivial⟩⟩⟩
def f_X3_readInto (fu : Nat) (x0 : Nat) (x1 : Nat) (h : Hp) : Option (Int32 × Hp) :=
  if h.K x0 = 3 then
    (pI h 0 x1 0 0).bind fun h2 =>
    (pI h2 3 x0 1 0).bind fun h7 =>
    (pI h7 3 x0 2 (-1)).bind fun h12 =>
    (pI h12 3 x0 4 0).bind fun h17 =>
    (f_X3_readToken fu x0 h17).bind fun r21 =>
    f_X3_readInto_26 fu fu x0 x1 0 r21.2
  else none
set_option maxHeartbeats 4000000 in
set_option maxRecDepth 100000 in
theorem c_X3_readInto (l : Launch) (D : Dx) (fu : Nat) (x0 : Nat) (x1 : Nat) (h : Hp) (out : Int32 × Hp) (ho : f_X3_readInto fu x0 x1 h = some out) : Ct l D yX3_readInto cX3_readInto 3 (some .boolean) rm_X3_readInto [.ref x0, .ref x1] h (evI out.1) out.2 := by
  refine Ct.of (o := f_X3_readInto fu x0 x1 h) (lv := [some (.ref x0), some (.ref x1), none]) (by decide) (Nat.le_of_ble_eq_true rfl) rfl ?_ out ho
  intro X hXl hE hin
  replace hE : En X D cX3_readInto 3 RX3 (some .boolean) rm_X3_readInto := hE
  subst hXl
  unfold f_X3_readInto
  refine Wo_grd (fun _ => ?_)
  refine r_aload_n (pc := 0) hE dX3_readInto_0 rfl ?_
  refine r_iconst (v := 0) (pc := 1) hE dX3_readInto_1 (by decide) ?_
  refine r_putI (pc := 2) hE 0 0 (by decide) (by decide) (fun _ _ _ => rfl) fl_RX3_22 rfl rfl rfl dX3_readInto_2 (fun h2 _ => ?_)
  refine r_aload_n (pc := 5) hE dX3_readInto_5 rfl ?_
  refine r_iconst (v := 0) (pc := 6) hE dX3_readInto_6 (by decide) ?_
  refine r_putI (pc := 7) hE 3 1 (by decide) (by decide) (fun _ _ _ => rfl) fl_RX3_27 rfl rfl rfl dX3_readInto_7 (fun h7 _ => ?_)
  refine r_aload_n (pc := 10) hE dX3_readInto_10 rfl ?_
  refine r_iconst (v := -1) (pc := 11) hE dX3_readInto_11 (by decide) ?_
  refine r_putI (pc := 12) hE 3 2 (by decide) (by decide) (fun _ _ _ => rfl) fl_RX3_9 rfl rfl rfl dX3_readInto_12 (fun h12 _ => ?_)
  refine r_aload_n (pc := 15) hE dX3_readInto_15 rfl ?_
  refine r_iconst (v := 0) (pc := 16) hE dX3_readInto_16 (by decide) ?_
  refine r_putI (pc := 17) hE 3 4 (by decide) (by decide) (fun _ _ _ => rfl) fl_RX3_30 rfl rfl rfl dX3_readInto_17 (fun h17 _ => ?_)
  refine r_aload_n (pc := 20) hE dX3_readInto_20 rfl ?_
  refine r_callV (pc := 21) hE 3 (As := []) (fun out ho => c_X3_readToken _ _ fu _ _ out ho) (fun out ho => k_X3_readToken ho) (by decide) rfl cs_RX3_33 ⟨Nat.le_of_ble_eq_true rfl, Nat.le_of_ble_eq_true rfl, Nat.le_of_ble_eq_true rfl, Nat.le_of_ble_eq_true rfl⟩ (Nat.le_of_ble_eq_true rfl) rfl dX3_readInto_21 (fun r21 _ => ?_)
  refine r_iconst (v := 0) (pc := 24) hE dX3_readInto_24 (by decide) ?_
  refine r_istore_n (pc := 25) hE dX3_readInto_25 (by decide) ?_
  exact w_X3_readInto_26 hE fu _ _ _ _ _ ⟨rfl, ⟨rfl, ⟨rfl, trivial⟩⟩⟩
theorem k_X3_readInto {fu : Nat} {x0 : Nat} {x1 : Nat} {h : Hp} {out : Int32 × Hp} (ho : f_X3_readInto fu x0 x1 h = some out) : h.K x0 = 3 := (gi_k ho).1
