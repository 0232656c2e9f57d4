theorem fl_RX4_51 : Cond.fieldLink RX4 51 (TF 4 7).1 (TF 4 7).2.1 (TF 4 7).2.2.1 ∈ TB := tb_in (by decide +kernel) rfl
theorem cs_RX4_107 : csSN RX4 107 yX6_has cX6_has 3 (some .boolean) 2 = true := by decide +kernel
theorem fl_RX4_45 : Cond.fieldLink RX4 45 (TF 4 13).1 (TF 4 13).2.1 (TF 4 13).2.2.1 ∈ TB := tb_in (by decide +kernel) rfl
theorem fl_RX4_48 : Cond.fieldLink RX4 48 (TF 4 6).1 (TF 4 6).2.1 (TF 4 6).2.2.1 ∈ TB := tb_in (by decide +kernel) rfl
theorem fl_RX4_24 : Cond.fieldLink RX4 24 (TF 4 12).1 (TF 4 12).2.1 (TF 4 12).2.2.1 ∈ TB := tb_in (by decide +kernel) rfl
theorem fl_RX4_15 : Cond.fieldLink RX4 15 (TF 4 9).1 (TF 4 9).2.1 (TF 4 9).2.2.1 ∈ TB := tb_in (by decide +kernel) rfl
def rm_X4_signAt : Room := { frames := 1, cells := 0, slots := 0, locals := 22 }
def f_X4_signAt (fu : Nat) (x0 : Nat) (x1 : Int32) (x2 : Int32) (x3 : Int32) (h : Hp) : Option (Int32 × Hp) :=
  if h.K x0 = 4 then
    if x3 = 0 then
      (gR h 4 x0 9).bind fun v5 =>
      (aI h 8 v5 x1).bind fun v9 =>
      some (v9, h)
    else
      if x3 = 1 then
        (gI h 4 x0 6).bind fun v17 =>
        (f_X6_has fu (Int32.toInt64 v17) x2 h).bind fun r22 =>
        if r22.1 = 0 then
          some ((-1), r22.2)
        else
          (gR r22.2 4 x0 12).bind fun v29 =>
          (aI r22.2 8 v29 x1).bind fun v33 =>
          some ((v33 / 2), r22.2)
      else
        (gI h 4 x0 7).bind fun v42 =>
        (f_X6_has fu (Int32.toInt64 v42) x2 h).bind fun r47 =>
        if r47.1 = 0 then
          some (0, r47.2)
        else
          (gJ r47.2 4 x0 13).bind fun v54 =>
          (f_X6_has fu v54 x1 r47.2).bind fun r58 =>
          if r58.1 = 0 then
            some (0, r58.2)
          else
            some (1, r58.2)
  else none
set_option maxHeartbeats 4000000 in
set_option maxRecDepth 100000 in
theorem c_X4_signAt (l : Launch) (D : Dx) (fu : Nat) (x0 : Nat) (x1 : Int32) (x2 : Int32) (x3 : Int32) (h : Hp) (out : Int32 × Hp) (ho : f_X4_signAt fu x0 x1 x2 x3 h = some out) : Ct l D yX4_signAt cX4_signAt 4 (some .int) rm_X4_signAt [.ref x0, .int x1, .int x2, .int x3] h (evI out.1) out.2 := by
  refine Ct.of (o := f_X4_signAt fu x0 x1 x2 x3 h) (lv := [some (.ref x0), some (.int x1), some (.int x2), some (.int x3)]) (by decide) (Nat.le_of_ble_eq_true rfl) rfl ?_ out ho
  intro X hXl hE hin
  replace hE : En X D cX4_signAt 4 RX4 (some .int) rm_X4_signAt := hE
  subst hXl
  unfold f_X4_signAt
  refine Wo_grd (fun _ => ?_)
  refine r_iload_n (pc := 0) hE dX4_signAt_0 rfl ?_
  refine r_if_ne (pc := 1) hE 11 dX4_signAt_1 (by decide) (fun _ => ?_) (fun _ => ?_)
  · refine r_iload_n (pc := 11) hE dX4_signAt_11 rfl ?_
    refine r_iconst (v := 1) (pc := 12) hE dX4_signAt_12 (by decide) ?_
    refine r_icmp_ne (pc := 13) hE 41 dX4_signAt_13 (by decide) (fun _ => ?_) (fun _ => ?_)
    · refine r_aload_n (pc := 41) hE dX4_signAt_41 rfl ?_
      refine r_getI (pc := 42) hE 4 7 (by decide) (by decide) (fun _ _ _ => rfl) fl_RX4_51 dX4_signAt_42 (fun v42 _ => ?_)
      refine r_i2l (pc := 45) hE dX4_signAt_45 ?_
      refine r_iload_n (pc := 46) hE dX4_signAt_46 rfl ?_
      refine r_callSN (pc := 47) hE (As := [.long (Int32.toInt64 v42), .int x2]) (fun out ho => c_X6_has _ _ fu _ _ _ out ho) cs_RX4_107 ⟨Nat.le_of_ble_eq_true rfl, Nat.le_of_ble_eq_true rfl, Nat.le_of_ble_eq_true rfl, Nat.le_of_ble_eq_true rfl⟩ (Nat.le_of_ble_eq_true rfl) rfl dX4_signAt_47 (fun r47 _ => ?_)
      refine r_if_eq (pc := 50) hE 68 dX4_signAt_50 (by decide) (fun _ => ?_) (fun _ => ?_)
      · refine r_iconst (v := 0) (pc := 68) hE dX4_signAt_68 (by decide) ?_
        exact r_iret (pc := 69) hE dX4_signAt_69
      · refine r_aload_n (pc := 53) hE dX4_signAt_53 rfl ?_
        refine r_getJ (pc := 54) hE 4 13 (by decide) (by decide) (fun _ _ _ => rfl) fl_RX4_45 dX4_signAt_54 (fun v54 _ => ?_)
        refine r_iload_n (pc := 57) hE dX4_signAt_57 rfl ?_
        refine r_callSN (pc := 58) hE (As := [.long v54, .int x1]) (fun out ho => c_X6_has _ _ fu _ _ _ out ho) cs_RX4_107 ⟨Nat.le_of_ble_eq_true rfl, Nat.le_of_ble_eq_true rfl, Nat.le_of_ble_eq_true rfl, Nat.le_of_ble_eq_true rfl⟩ (Nat.le_of_ble_eq_true rfl) rfl dX4_signAt_58 (fun r58 _ => ?_)
        refine r_if_eq (pc := 61) hE 68 dX4_signAt_61 (by decide) (fun _ => ?_) (fun _ => ?_)
        · refine r_iconst (v := 0) (pc := 68) hE dX4_signAt_68 (by decide) ?_
          exact r_iret (pc := 69) hE dX4_signAt_69
        · refine r_iconst (v := 1) (pc := 64) hE dX4_signAt_64 (by decide) ?_
          refine r_goto (pc := 65) hE 69 dX4_signAt_65 (by decide) ?_
          exact r_iret (pc := 69) hE dX4_signAt_69
    · refine r_aload_n (pc := 16) hE dX4_signAt_16 rfl ?_
      refine r_getI (pc := 17) hE 4 6 (by decide) (by decide) (fun _ _ _ => rfl) fl_RX4_48 dX4_signAt_17 (fun v17 _ => ?_)
      refine r_i2l (pc := 20) hE dX4_signAt_20 ?_
      refine r_iload_n (pc := 21) hE dX4_signAt_21 rfl ?_
      refine r_callSN (pc := 22) hE (As := [.long (Int32.toInt64 v17), .int x2]) (fun out ho => c_X6_has _ _ fu _ _ _ out ho) cs_RX4_107 ⟨Nat.le_of_ble_eq_true rfl, Nat.le_of_ble_eq_true rfl, Nat.le_of_ble_eq_true rfl, Nat.le_of_ble_eq_true rfl⟩ (Nat.le_of_ble_eq_true rfl) rfl dX4_signAt_22 (fun r22 _ => ?_)
      refine r_if_eq (pc := 25) hE 39 dX4_signAt_25 (by decide) (fun _ => ?_) (fun _ => ?_)
      · refine r_iconst (v := -1) (pc := 39) hE dX4_signAt_39 (by decide) ?_
        exact r_iret (pc := 40) hE dX4_signAt_40
      · refine r_aload_n (pc := 28) hE dX4_signAt_28 rfl ?_
        refine r_getR (pc := 29) hE 4 12 (by decide) (by decide) (fun _ _ _ => rfl) fl_RX4_24 dX4_signAt_29 (fun v29 _ => ?_)
        refine r_iload_n (pc := 32) hE dX4_signAt_32 rfl ?_
        refine r_aldI (pc := 33) hE dX4_signAt_33 (fun v33 _ => ?_)
        refine r_iconst (v := 2) (pc := 34) hE dX4_signAt_34 (by decide) ?_
        refine r_idiv (pc := 35) hE dX4_signAt_35 (by decide) ?_
        refine r_goto (pc := 36) hE 40 dX4_signAt_36 (by decide) ?_
        exact r_iret (pc := 40) hE dX4_signAt_40
  · refine r_aload_n (pc := 4) hE dX4_signAt_4 rfl ?_
    refine r_getR (pc := 5) hE 4 9 (by decide) (by decide) (fun _ _ _ => rfl) fl_RX4_15 dX4_signAt_5 (fun v5 _ => ?_)
    refine r_iload_n (pc := 8) hE dX4_signAt_8 rfl ?_
    refine r_aldI (pc := 9) hE dX4_signAt_9 (fun v9 _ => ?_)
    exact r_iret (pc := 10) hE dX4_signAt_10
theorem k_X4_signAt {fu : Nat} {x0 : Nat} {x1 : Int32} {x2 : Int32} {x3 : Int32} {h : Hp} {out : Int32 × Hp} (ho : f_X4_signAt fu x0 x1 x2 x3 h = some out) : h.K x0 = 4 := (gi_k ho).1
theorem fl_RX4_38 : Cond.fieldLink RX4 38 (TF 4 2).1 (TF 4 2).2.1 (TF 4 2).2.2.1 ∈ TB := tb_in (by decide +kernel) rfl
theorem cs_RX4_111 : csV RX4 111 yX4_signAt cX4_signAt 4 (some .int) 3 = true := by decide +kernel
def rm_X4_having : Room := { frames := 2, cells := 0, slots := 0, locals := 45 }
def f_X4_having_36 (fu : Nat) (k6 : Nat → Int32 → Int32 → Int32 → Int64 → Int32 → Hp → Option (Int64 × Hp)) (x0 : Nat) (x1 : Int32) (x2 : Int32) (x3 : Int32) (x4 : Int64) (x6 : Int32) (h : Hp) : Option (Int64 × Hp) :=
  k6 x0 x1 x2 x3 x4 ((x6 + 1)) h
set_option maxHeartbeats 4000000 in
set_option maxRecDepth 100000 in
theorem w_X4_having_36 {X : Cx} {D : Dx} (hE : En X D cX4_having 7 RX4 (some .long) rm_X4_having) {fu : Nat} {k6 : Nat → Int32 → Int32 → Int32 → Int64 → Int32 → Hp → Option (Int64 × Hp)} (hk6 : ∀ (x0 : Nat) (x1 : Int32) (x2 : Int32) (x3 : Int32) (x4 : Int64) (x6 : Int32) (h : Hp) (lv : List (Option Value)), lvLe [some (.ref x0), some (.int x1), some (.int x2), some (.int x3), some (.long x4), none, some (.int x6)] lv → Wo X D 7 (Qr X D 0 0 evJ) 0 0 (k6 x0 x1 x2 x3 x4 x6 h) 6 lv [] h) (x0 : Nat) (x1 : Int32) (x2 : Int32) (x3 : Int32) (x4 : Int64) (x6 : Int32) (h : Hp) {lv : List (Option Value)} (hlv : lvLe [some (.ref x0), some (.int x1), some (.int x2), some (.int x3), some (.long x4), none, some (.int x6)] lv) : Wo X D 7 (Qr X D 0 0 evJ) 0 0 (f_X4_having_36 fu k6 x0 x1 x2 x3 x4 x6 h) 36 lv [] h := by
  refine Wo_sub hlv ?_
  unfold f_X4_having_36
  refine r_iinc (v := (x6 + 1)) (pc := 36) hE dX4_having_36 rfl rfl (by decide) ?_
  refine r_goto (pc := 39) hE 6 dX4_having_39 (by decide) ?_
  exact hk6 _ _ _ _ _ _ _ _ ⟨rfl, ⟨rfl, ⟨rfl, ⟨rfl, ⟨rfl, ⟨rfl, trivial⟩⟩⟩⟩⟩⟩
def f_X4_having_6 (fu : Nat) : Nat → Nat → Int32 → Int32 → Int32 → Int64 → Int32 → Hp → Option (Int64 × Hp)
  | 0, _, _, _, _, _, _, _ => none
  | n + 1, x0, x1, x2, x3, x4, x6, h =>
    (gI h 4 x0 2).bind fun v9 =>
    if v9 ≤ x6 then
      some (x4, h)
    else
      (f_X4_signAt fu x0 x6 x3 x1 h).bind fun r20 =>
      if r20.1 = x2 then
        f_X4_having_36 fu (fun y0 y1 y2 y3 y4 y5 hy => f_X4_having_6 fu n y0 y1 y2 y3 y4 y5 hy) x0 x1 x2 x3 ((x4 ||| (lsh 1 x6))) x6 r20.2
      else
        f_X4_having_36 fu (fun y0 y1 y2 y3 y4 y5 hy => f_X4_having_6 fu n y0 y1 y2 y3 y4 y5 hy) x0 x1 x2 x3 x4 x6 r20.2
set_option maxHeartbeats 4000000 in
set_option maxRecDepth 100000 in
theorem w_X4_having_6 {X : Cx} {D : Dx} (hE : En X D cX4_having 7 RX4 (some .long) rm_X4_having) {fu : Nat} : ∀ (n : Nat) (x0 : Nat) (x1 : Int32) (x2 : Int32) (x3 : Int32) (x4 : Int64) (x6 : Int32) (h : Hp) (lv : List (Option Value)), lvLe [some (.ref x0), some (.int x1), some (.int x2), some (.int x3), some (.long x4), none, some (.int x6)] lv → Wo X D 7 (Qr X D 0 0 evJ) 0 0 (f_X4_having_6 fu n x0 x1 x2 x3 x4 x6 h) 6 lv [] h := by
  intro n
  induction n with
  | zero => intros; exact Wo_none
  | succ n ih =>
    intro x0 x1 x2 x3 x4 x6 h lv hlv
    refine Wo_sub hlv ?_
    rw [f_X4_having_6]
    refine r_iload (pc := 6) hE dX4_having_6 rfl ?_
    refine r_aload_n (pc := 8) hE dX4_having_8 rfl ?_
    refine r_getI (pc := 9) hE 4 2 (by decide) (by decide) (fun _ _ _ => rfl) fl_RX4_38 dX4_having_9 (fun v9 _ => ?_)
    refine r_icmp_ge (pc := 12) hE 42 dX4_having_12 (by decide) (fun _ => ?_) (fun _ => ?_)
    · refine r_lload (pc := 42) hE dX4_having_42 rfl ?_
      exact r_lret (pc := 44) hE dX4_having_44
    · refine r_aload_n (pc := 15) hE dX4_having_15 rfl ?_
      refine r_iload (pc := 16) hE dX4_having_16 rfl ?_
      refine r_iload_n (pc := 18) hE dX4_having_18 rfl ?_
      refine r_iload_n (pc := 19) hE dX4_having_19 rfl ?_
      refine r_callV (pc := 20) hE 4 (As := [.int x6, .int x3, .int x1]) (fun out ho => c_X4_signAt _ _ fu _ _ _ _ _ out ho) (fun out ho => k_X4_signAt ho) (by decide) rfl cs_RX4_111 ⟨Nat.le_of_ble_eq_true rfl, Nat.le_of_ble_eq_true rfl, Nat.le_of_ble_eq_true rfl, Nat.le_of_ble_eq_true rfl⟩ (Nat.le_of_ble_eq_true rfl) rfl dX4_having_20 (fun r20 _ => ?_)
      refine r_iload_n (pc := 23) hE dX4_having_23 rfl ?_
      refine r_icmp_ne (pc := 24) hE 36 dX4_having_24 (by decide) (fun _ => ?_) (fun _ => ?_)
      · exact w_X4_having_36 hE (fun y0 y1 y2 y3 y4 y5 hy lvy hly => ih y0 y1 y2 y3 y4 y5 hy lvy hly) _ _ _ _ _ _ _ ⟨rfl, ⟨rfl, ⟨rfl, ⟨rfl, ⟨rfl, ⟨rfl, trivial⟩⟩⟩⟩⟩⟩
      · refine r_lload (pc := 27) hE dX4_having_27 rfl ?_
        refine r_lconst (v := 1) (pc := 29) hE dX4_having_29 rfl ?_
        refine r_iload (pc := 30) hE dX4_having_30 rfl ?_
        refine r_lshl (pc := 32) hE dX4_having_32 ?_
        refine r_lor (pc := 33) hE dX4_having_33 ?_
        refine r_lstore (pc := 34) hE dX4_having_34 (by decide) ?_
        exact w_X4_having_36 hE (fun y0 y1 y2 y3 y4 y5 hy lvy hly => ih y0 y1 y2 y3 y4 y5 hy lvy hly) _ _ _ _ _ _ _ ⟨rfl, ⟨rfl, ⟨rfl, ⟨rfl, ⟨rfl, ⟨rfl, trivial⟩⟩⟩⟩⟩⟩
def f_X4_having (fu : Nat) (x0 : Nat) (x1 : Int32) (x2 : Int32) (x3 : Int32) (h : Hp) : Option (Int64 × Hp) :=
  if h.K x0 = 4 then
    f_X4_having_6 fu fu x0 x1 x2 x3 0 0 h
  else none
set_option maxHeartbeats 4000000 in
set_option maxRecDepth 100000 in
theorem c_X4_having (l : Launch) (D : Dx) (fu : Nat) (x0 : Nat) (x1 : Int32) (x2 : Int32) (x3 : Int32) (h : Hp) (out : Int64 × Hp) (ho : f_X4_having fu x0 x1 x2 x3 h = some out) : Ct l D yX4_having cX4_having 7 (some .long) rm_X4_having [.ref x0, .int x1, .int x2, .int x3] h (evJ out.1) out.2 := by
  refine Ct.of (o := f_X4_having fu x0 x1 x2 x3 h) (lv := [some (.ref x0), some (.int x1), some (.int x2), some (.int x3), none, none, none]) (by decide) (Nat.le_of_ble_eq_true rfl) rfl ?_ out ho
  intro X hXl hE hin
  replace hE : En X D cX4_having 7 RX4 (some .long) rm_X4_having := hE
  subst hXl
  unfold f_X4_having
  refine Wo_grd (fun _ => ?_)
  refine r_lconst (v := 0) (pc := 0) hE dX4_having_0 rfl ?_
  refine r_lstore (pc := 1) hE dX4_having_1 (by decide) ?_
  refine r_iconst (v := 0) (pc := 3) hE dX4_having_3 (by decide) ?_
  refine r_istore (pc := 4) hE dX4_having_4 (by decide) ?_
  exact w_X4_having_6 hE fu _ _ _ _ _ _ _ _ ⟨rfl, ⟨rfl, ⟨rfl, ⟨rfl, ⟨rfl, ⟨rfl, trivial⟩⟩⟩⟩⟩⟩
theorem k_X4_having {fu : Nat} {x0 : Nat} {x1 : Int32} {x2 : Int32} {x3 : Int32} {h : Hp} {out : Int64 × Hp} (ho : f_X4_having fu x0 x1 x2 x3 h = some out) : h.K x0 = 4 := (gi_k ho).1
theorem cs_RX0_28 : csV RX0 28 yX4_having cX4_having 7 (some .long) 3 = true := by decide +kernel
def rm_X0_stops : Room := { frames := 3, cells := 0, slots := 0, locals := 71 }
def f_X0_stops (fu : Nat) (x0 : Nat) (x1 : Int32) (x2 : Nat) (x3 : Int32) (h : Hp) : Option (Int64 × Hp) :=
  if h.K x0 = 0 then
    (gR h 0 x0 2).bind fun v1 =>
    (aI h 8 v1 x1).bind fun v5 =>
    if v5 = (-1) then
      some (0, h)
    else
      (gR h 0 x0 2).bind fun v16 =>
      (aI h 8 v16 x1).bind fun v20 =>
      (gR h 0 x0 3).bind fun v22 =>
      (aI h 8 v22 x1).bind fun v26 =>
      (f_X4_having fu x2 v20 v26 x3 h).bind fun r28 =>
      some (r28.1, r28.2)
  else none
set_option maxHeartbeats 4000000 in
set_option maxRecDepth 100000 in
theorem c_X0_stops (l : Launch) (D : Dx) (fu : Nat) (x0 : Nat) (x1 : Int32) (x2 : Nat) (x3 : Int32) (h : Hp) (out : Int64 × Hp) (ho : f_X0_stops fu x0 x1 x2 x3 h = some out) : Ct l D yX0_stops cX0_stops 4 (some .long) rm_X0_stops [.ref x0, .int x1, .ref x2, .int x3] h (evJ out.1) out.2 := by
  refine Ct.of (o := f_X0_stops fu x0 x1 x2 x3 h) (lv := [some (.ref x0), some (.int x1), some (.ref x2), some (.int x3)]) (by decide) (Nat.le_of_ble_eq_true rfl) rfl ?_ out ho
  intro X hXl hE hin
  replace hE : En X D cX0_stops 4 RX0 (some .long) rm_X0_stops := hE
  subst hXl
  unfold f_X0_stops
  refine Wo_grd (fun _ => ?_)
  refine r_aload_n (pc := 0) hE dX0_stops_0 rfl ?_
  refine r_getR (pc := 1) hE 0 2 (by decide) (by decide) (fun _ _ _ => rfl) fl_RX0_15 dX0_stops_1 (fun v1 _ => ?_)
  refine r_iload_n (pc := 4) hE dX0_stops_4 rfl ?_
  refine r_aldI (pc := 5) hE dX0_stops_5 (fun v5 _ => ?_)
  refine r_iconst (v := -1) (pc := 6) hE dX0_stops_6 (by decide) ?_
  refine r_icmp_ne (pc := 7) hE 14 dX0_stops_7 (by decide) (fun _ => ?_) (fun _ => ?_)
  · refine r_aload_n (pc := 14) hE dX0_stops_14 rfl ?_
    refine r_aload_n (pc := 15) hE dX0_stops_15 rfl ?_
    refine r_getR (pc := 16) hE 0 2 (by decide) (by decide) (fun _ _ _ => rfl) fl_RX0_15 dX0_stops_16 (fun v16 _ => ?_)
    refine r_iload_n (pc := 19) hE dX0_stops_19 rfl ?_
    refine r_aldI (pc := 20) hE dX0_stops_20 (fun v20 _ => ?_)
    refine r_aload_n (pc := 21) hE dX0_stops_21 rfl ?_
    refine r_getR (pc := 22) hE 0 3 (by decide) (by decide) (fun _ _ _ => rfl) fl_RX0_18 dX0_stops_22 (fun v22 _ => ?_)
    refine r_iload_n (pc := 25) hE dX0_stops_25 rfl ?_
    refine r_aldI (pc := 26) hE dX0_stops_26 (fun v26 _ => ?_)
    refine r_iload_n (pc := 27) hE dX0_stops_27 rfl ?_
    refine r_callV (pc := 28) hE 4 (As := [.int v20, .int v26, .int x3]) (fun out ho => c_X4_having _ _ fu _ _ _ _ _ out ho) (fun out ho => k_X4_having ho) (by decide) rfl cs_RX0_28 ⟨Nat.le_of_ble_eq_true rfl, Nat.le_of_ble_eq_true rfl, Nat.le_of_ble_eq_true rfl, Nat.le_of_ble_eq_true rfl⟩ (Nat.le_of_ble_eq_true rfl) rfl dX0_stops_28 (fun r28 _ => ?_)
    exact r_lret (pc := 31) hE dX0_stops_31
  · refine r_lconst (v := 0) (pc := 10) hE dX0_stops_10 rfl ?_
    refine r_goto (pc := 11) hE 31 dX0_stops_11 (by decide) ?_
    exact r_lret (pc := 31) hE dX0_stops_31
theorem k_X0_stops {fu : Nat} {x0 : Nat} {x1 : Int32} {x2 : Nat} {x3 : Int32} {h : Hp} {out : Int64 × Hp} (ho : f_X0_stops fu x0 x1 x2 x3 h = some out) : h.K x0 = 0 := (gi_k ho).1
theorem oi_RX4_3 : Cond.methodLink RX4 3 objectInit ∈ TB ∧ Cond.instanceMethod objectInit ∈ TB ∧ Cond.code objectInit ⟨#[0xb1]⟩ 1 none ∈ TB := ⟨tb_in (by decide +kernel) rfl, tb_in (by decide +kernel) rfl, tb_in (by decide +kernel) rfl⟩
theorem fl_RX4_9 : Cond.fieldLink RX4 9 (TF 4 8).1 (TF 4 8).2.1 (TF 4 8).2.2.1 ∈ TB := tb_in (by decide +kernel) rfl
theorem fl_RX4_18 : Cond.fieldLink RX4 18 (TF 4 10).1 (TF 4 10).2.1 (TF 4 10).2.2.1 ∈ TB := tb_in (by decide +kernel) rfl
theorem fl_RX4_21 : Cond.fieldLink RX4 21 (TF 4 11).1 (TF 4 11).2.1 (TF 4 11).2.2.1 ∈ TB := tb_in (by decide +kernel) rfl
theorem fl_RX4_27 : Cond.fieldLink RX4 27 (TF 4 19).1 (TF 4 19).2.1 (TF 4 19).2.2.1 ∈ TB := tb_in (by decide +kernel) rfl
def rm_X4_init : Room := { frames := 1, cells := 6, slots := 287, locals := 12 }
def f_X4_init (fu : Nat) (x0 : Nat) (h : Hp) : Option (Unit × Hp) :=
  if h.K x0 = 4 then
    (pR (newC h 8 64) 4 x0 8 (some (Hp.N h))).bind fun h9 =>
    (pR (newC h9 8 64) 4 x0 9 (some (Hp.N h9))).bind fun h17 =>
    (pR (newC h17 8 6) 4 x0 10 (some (Hp.N h17))).bind fun h25 =>
    (pR (newC h25 8 64) 4 x0 11 (some (Hp.N h25))).bind fun h33 =>
    (pR (newC h33 8 64) 4 x0 12 (some (Hp.N h33))).bind fun h41 =>
    (pR (newC h41 9 25) 4 x0 19 (some (Hp.N h41))).bind fun h49 =>
    some ((), h49)
  else none
set_option maxHeartbeats 4000000 in
set_option maxRecDepth 100000 in
theorem c_X4_init (l : Launch) (D : Dx) (fu : Nat) (x0 : Nat) (h : Hp) (out : Unit × Hp) (ho : f_X4_init fu x0 h = some out) : Ct l D yX4_init cX4_init 1 none rm_X4_init [.ref x0] h (evU out.1) out.2 := by
  refine Ct.of (o := f_X4_init fu x0 h) (lv := [some (.ref x0)]) (by decide) (Nat.le_of_ble_eq_true rfl) rfl ?_ out ho
  intro X hXl hE hin
  replace hE : En X D cX4_init 1 RX4 none rm_X4_init := hE
  subst hXl
  replace hin : X.meth.name = "<init>" := hin
  unfold f_X4_init
  refine Wo_grd (fun _ => ?_)
  refine r_aload_n (pc := 0) hE dX4_init_0 rfl ?_
  refine r_objInit (pc := 1) hE oi_RX4_3 ⟨Nat.le_of_ble_eq_true rfl, Nat.le_of_ble_eq_true rfl⟩ dX4_init_1 ?_
  refine r_aload_n (pc := 4) hE dX4_init_4 rfl ?_
  refine r_bipush (v := 64) (pc := 5) hE dX4_init_5 (by decide) ?_
  refine r_newI (pc := 7) hE 64 (by decide) (by decide) (by decide) ar8 ⟨Nat.le_of_ble_eq_true rfl, Nat.le_of_ble_eq_true rfl⟩ dX4_init_7 ?_
  refine r_putF (pc := 9) hE hin 4 8 (by decide) (by decide) rfl (fun _ _ _ => rfl) fl_RX4_9 rfl rfl rfl dX4_init_9 (fun h9 _ => ?_)
  refine r_aload_n (pc := 12) hE dX4_init_12 rfl ?_
  refine r_bipush (v := 64) (pc := 13) hE dX4_init_13 (by decide) ?_
  refine r_newI (pc := 15) hE 64 (by decide) (by decide) (by decide) ar8 ⟨Nat.le_of_ble_eq_true rfl, Nat.le_of_ble_eq_true rfl⟩ dX4_init_15 ?_
  refine r_putF (pc := 17) hE hin 4 9 (by decide) (by decide) rfl (fun _ _ _ => rfl) fl_RX4_15 rfl rfl rfl dX4_init_17 (fun h17 _ => ?_)
  refine r_aload_n (pc := 20) hE dX4_init_20 rfl ?_
  refine r_bipush (v := 6) (pc := 21) hE dX4_init_21 (by decide) ?_
  refine r_newI (pc := 23) hE 6 (by decide) (by decide) (by decide) ar8 ⟨Nat.le_of_ble_eq_true rfl, Nat.le_of_ble_eq_true rfl⟩ dX4_init_23 ?_
  refine r_putF (pc := 25) hE hin 4 10 (by decide) (by decide) rfl (fun _ _ _ => rfl) fl_RX4_18 rfl rfl rfl dX4_init_25 (fun h25 _ => ?_)
  refine r_aload_n (pc := 28) hE dX4_init_28 rfl ?_
  refine r_bipush (v := 64) (pc := 29) hE dX4_init_29 (by decide) ?_
  refine r_newI (pc := 31) hE 64 (by decide) (by decide) (by decide) ar8 ⟨Nat.le_of_ble_eq_true rfl, Nat.le_of_ble_eq_true rfl⟩ dX4_init_31 ?_
  refine r_putF (pc := 33) hE hin 4 11 (by decide) (by decide) rfl (fun _ _ _ => rfl) fl_RX4_21 rfl rfl rfl dX4_init_33 (fun h33 _ => ?_)
  refine r_aload_n (pc := 36) hE dX4_init_36 rfl ?_
  refine r_bipush (v := 64) (pc := 37) hE dX4_init_37 (by decide) ?_
  refine r_newI (pc := 39) hE 64 (by decide) (by decide) (by decide) ar8 ⟨Nat.le_of_ble_eq_true rfl, Nat.le_of_ble_eq_true rfl⟩ dX4_init_39 ?_
  refine r_putF (pc := 41) hE hin 4 12 (by decide) (by decide) rfl (fun _ _ _ => rfl) fl_RX4_24 rfl rfl rfl dX4_init_41 (fun h41 _ => ?_)
  refine r_aload_n (pc := 44) hE dX4_init_44 rfl ?_
  refine r_bipush (v := 25) (pc := 45) hE dX4_init_45 (by decide) ?_
  refine r_newJ (pc := 47) hE 25 (by decide) (by decide) (by decide) ar9 ⟨Nat.le_of_ble_eq_true rfl, Nat.le_of_ble_eq_true rfl⟩ dX4_init_47 ?_
  refine r_putF (pc := 49) hE hin 4 19 (by decide) (by decide) rfl (fun _ _ _ => rfl) fl_RX4_27 rfl rfl rfl dX4_init_49 (fun h49 _ => ?_)
  exact r_vret (pc := 52) hE dX4_init_52
theorem k_X4_init {fu : Nat} {x0 : Nat} {h : Hp} {out : Unit × Hp} (ho : f_X4_init fu x0 h = some out) : h.K x0 = 4 := (gi_k ho).1
theorem fl_RX4_66 : Cond.fieldLink RX4 66 (TF 4 4).1 (TF 4 4).2.1 (TF 4 4).2.2.1 ∈ TB := tb_in (by decide +kernel) rfl
theorem fl_RX4_69 : Cond.fieldLink RX4 69 (TF 4 14).1 (TF 4 14).2.1 (TF 4 14).2.2.1 ∈ TB := tb_in (by decide +kernel) rfl
theorem fl_RX4_72 : Cond.fieldLink RX4 72 (TF 4 15).1 (TF 4 15).2.1 (TF 4 15).2.2.1 ∈ TB := tb_in (by decide +kernel) rfl
theorem fl_RX4_31 : Cond.fieldLink RX4 31 (TF 4 0).1 (TF 4 0).2.1 (TF 4 0).2.2.1 ∈ TB := tb_in (by decide +kernel) rfl
theorem fl_RX4_75 : Cond.fieldLink RX4 75 (TF 4 16).1 (TF 4 16).2.1 (TF 4 16).2.2.1 ∈ TB := tb_in (by decide +kernel) rfl
theorem fl_RX4_78 : Cond.fieldLink RX4 78 (TF 4 17).1 (TF 4 17).2.1 (TF 4 17).2.2.1 ∈ TB := tb_in (by decide +kernel) rfl
theorem fl_RX4_35 : Cond.fieldLink RX4 35 (TF 4 1).1 (TF 4 1).2.1 (TF 4 1).2.2.1 ∈ TB := tb_in (by decide +kernel) rfl
def rm_X4_layCell : Room := { frames := 0, cells := 0, slots := 0, locals := 0 }
def f_X4_layCell_125 (fu : Nat) (s0 : Nat) (s1 : Int64) (s2 : Int64) (h : Hp) : Option (Unit × Hp) :=
  (pJ h 4 s0 17 (s1 ||| s2)).bind fun h126 =>
  some ((), h126)
set_option maxHeartbeats 4000000 in
set_option maxRecDepth 100000 in
theorem w_X4_layCell_125 {X : Cx} {D : Dx} (hE : En X D cX4_layCell 6 RX4 none rm_X4_layCell) {fu : Nat} (s0 : Nat) (s1 : Int64) (s2 : Int64) (h : Hp) {lv : List (Option Value)} (hlv : lvLe [none, none, none, none, none, none] lv) : Wo X D 6 (Qr X D 0 0 evU) 0 0 (f_X4_layCell_125 fu s0 s1 s2 h) 125 lv [.long s2, .long s1, .ref s0] h := by
  refine Wo_sub hlv ?_
  unfold f_X4_layCell_125
  refine r_lor (pc := 125) hE dX4_layCell_125 ?_
  refine r_putJ (pc := 126) hE 4 17 (by decide) (by decide) (fun _ _ _ => rfl) fl_RX4_78 rfl rfl rfl dX4_layCell_126 (fun h126 _ => ?_)
  exact r_vret (pc := 129) hE dX4_layCell_129
def f_X4_layCell_100 (fu : Nat) (x0 : Nat) (x3 : Int32) (x4 : Int64) (s0 : Nat) (s1 : Int64) (s2 : Int64) (h : Hp) : Option (Unit × Hp) :=
  (pJ h 4 s0 16 (s1 ||| s2)).bind fun h101 =>
  (gJ h101 4 x0 17).bind fun v106 =>
  (gI h101 4 x0 1).bind fun v111 =>
  if x3 = (v111 - 1) then
    f_X4_layCell_125 fu x0 v106 x4 h101
  else
    f_X4_layCell_125 fu x0 v106 0 h101
set_option maxHeartbeats 4000000 in
set_option maxRecDepth 100000 in
theorem w_X4_layCell_100 {X : Cx} {D : Dx} (hE : En X D cX4_layCell 6 RX4 none rm_X4_layCell) {fu : Nat} (x0 : Nat) (x3 : Int32) (x4 : Int64) (s0 : Nat) (s1 : Int64) (s2 : Int64) (h : Hp) {lv : List (Option Value)} (hlv : lvLe [some (.ref x0), none, none, some (.int x3), some (.long x4), none] lv) : Wo X D 6 (Qr X D 0 0 evU) 0 0 (f_X4_layCell_100 fu x0 x3 x4 s0 s1 s2 h) 100 lv [.long s2, .long s1, .ref s0] h := by
  refine Wo_sub hlv ?_
  unfold f_X4_layCell_100
  refine r_lor (pc := 100) hE dX4_layCell_100 ?_
  refine r_putJ (pc := 101) hE 4 16 (by decide) (by decide) (fun _ _ _ => rfl) fl_RX4_75 rfl rfl rfl dX4_layCell_101 (fun h101 _ => ?_)
  refine r_aload_n (pc := 104) hE dX4_layCell_104 rfl ?_
  refine r_dup (pc := 105) hE dX4_layCell_105 rfl ?_
  refine r_getJ (pc := 106) hE 4 17 (by decide) (by decide) (fun _ _ _ => rfl) fl_RX4_78 dX4_layCell_106 (fun v106 _ => ?_)
  refine r_iload_n (pc := 109) hE dX4_layCell_109 rfl ?_
  refine r_aload_n (pc := 110) hE dX4_layCell_110 rfl ?_
  refine r_getI (pc := 111) hE 4 1 (by decide) (by decide) (fun _ _ _ => rfl) fl_RX4_35 dX4_layCell_111 (fun v111 _ => ?_)
  refine r_iconst (v := 1) (pc := 114) hE dX4_layCell_114 (by decide) ?_
  refine r_isub (pc := 115) hE dX4_layCell_115 ?_
  refine r_icmp_ne (pc := 116) hE 124 dX4_layCell_116 (by decide) (fun _ => ?_) (fun _ => ?_)
  · refine r_lconst (v := 0) (pc := 124) hE dX4_layCell_124 rfl ?_
    exact w_X4_layCell_125 hE _ _ _ _ trivial
  · refine r_lload (pc := 119) hE dX4_layCell_119 rfl ?_
    refine r_goto (pc := 121) hE 125 dX4_layCell_121 (by decide) ?_
    exact w_X4_layCell_125 hE _ _ _ _ trivial
def f_X4_layCell_81 (fu : Nat) (x0 : Nat) (x3 : Int32) (x4 : Int64) (s0 : Nat) (s1 : Int64) (s2 : Int64) (h : Hp) : Option (Unit × Hp) :=
  (pJ h 4 s0 15 (s1 ||| s2)).bind fun h82 =>
  (gJ h82 4 x0 16).bind fun v87 =>
  if x3 = 0 then
    f_X4_layCell_100 fu x0 x3 x4 x0 v87 x4 h82
  else
    f_X4_layCell_100 fu x0 x3 x4 x0 v87 0 h82
set_option maxHeartbeats 4000000 in
set_option maxRecDepth 100000 in
theorem w_X4_layCell_81 {X : Cx} {D : Dx} (hE : En X D cX4_layCell 6 RX4 none rm_X4_layCell) {fu : Nat} (x0 : Nat) (x3 : Int32) (x4 : Int64) (s0 : Nat) (s1 : Int64) (s2 : Int64) (h : Hp) {lv : List (Option Value)} (hlv : lvLe [some (.ref x0), none, none, some (.int x3), some (.long x4), none] lv) : Wo X D 6 (Qr X D 0 0 evU) 0 0 (f_X4_layCell_81 fu x0 x3 x4 s0 s1 s2 h) 81 lv [.long s2, .long s1, .ref s0] h := by
  refine Wo_sub hlv ?_
  unfold f_X4_layCell_81
  refine r_lor (pc := 81) hE dX4_layCell_81 ?_
  refine r_putJ (pc := 82) hE 4 15 (by decide) (by decide) (fun _ _ _ => rfl) fl_RX4_72 rfl rfl rfl dX4_layCell_82 (fun h82 _ => ?_)
  refine r_aload_n (pc := 85) hE dX4_layCell_85 rfl ?_
  refine r_dup (pc := 86) hE dX4_layCell_86 rfl ?_
  refine r_getJ (pc := 87) hE 4 16 (by decide) (by decide) (fun _ _ _ => rfl) fl_RX4_75 dX4_layCell_87 (fun v87 _ => ?_)
  refine r_iload_n (pc := 90) hE dX4_layCell_90 rfl ?_
  refine r_if_ne (pc := 91) hE 99 dX4_layCell_91 (by decide) (fun _ => ?_) (fun _ => ?_)
  · refine r_lconst (v := 0) (pc := 99) hE dX4_layCell_99 rfl ?_
    exact w_X4_layCell_100 hE _ _ _ _ _ _ _ ⟨rfl, ⟨rfl, ⟨rfl, trivial⟩⟩⟩
  · refine r_lload (pc := 94) hE dX4_layCell_94 rfl ?_
    refine r_goto (pc := 96) hE 100 dX4_layCell_96 (by decide) ?_
    exact w_X4_layCell_100 hE _ _ _ _ _ _ _ ⟨rfl, ⟨rfl, ⟨rfl, trivial⟩⟩⟩
def f_X4_layCell_56 (fu : Nat) (x0 : Nat) (x2 : Int32) (x3 : Int32) (x4 : Int64) (s0 : Nat) (s1 : Int64) (s2 : Int64) (h : Hp) : Option (Unit × Hp) :=
  (pJ h 4 s0 14 (s1 ||| s2)).bind fun h57 =>
  (gJ h57 4 x0 15).bind fun v62 =>
  (gI h57 4 x0 0).bind fun v67 =>
  if x2 = (v67 - 1) then
    f_X4_layCell_81 fu x0 x3 x4 x0 v62 x4 h57
  else
    f_X4_layCell_81 fu x0 x3 x4 x0 v62 0 h57
set_option maxHeartbeats 4000000 in
set_option maxRecDepth 100000 in
theorem w_X4_layCell_56 {X : Cx} {D : Dx} (hE : En X D cX4_layCell 6 RX4 none rm_X4_layCell) {fu : Nat} (x0 : Nat) (x2 : Int32) (x3 : Int32) (x4 : Int64) (s0 : Nat) (s1 : Int64) (s2 : Int64) (h : Hp) {lv : List (Option Value)} (hlv : lvLe [some (.ref x0), none, some (.int x2), some (.int x3), some (.long x4), none] lv) : Wo X D 6 (Qr X D 0 0 evU) 0 0 (f_X4_layCell_56 fu x0 x2 x3 x4 s0 s1 s2 h) 56 lv [.long s2, .long s1, .ref s0] h := by
  refine Wo_sub hlv ?_
  unfold f_X4_layCell_56
  refine r_lor (pc := 56) hE dX4_layCell_56 ?_
  refine r_putJ (pc := 57) hE 4 14 (by decide) (by decide) (fun _ _ _ => rfl) fl_RX4_69 rfl rfl rfl dX4_layCell_57 (fun h57 _ => ?_)
  refine r_aload_n (pc := 60) hE dX4_layCell_60 rfl ?_
  refine r_dup (pc := 61) hE dX4_layCell_61 rfl ?_
  refine r_getJ (pc := 62) hE 4 15 (by decide) (by decide) (fun _ _ _ => rfl) fl_RX4_72 dX4_layCell_62 (fun v62 _ => ?_)
  refine r_iload_n (pc := 65) hE dX4_layCell_65 rfl ?_
  refine r_aload_n (pc := 66) hE dX4_layCell_66 rfl ?_
  refine r_getI (pc := 67) hE 4 0 (by decide) (by decide) (fun _ _ _ => rfl) fl_RX4_31 dX4_layCell_67 (fun v67 _ => ?_)
  refine r_iconst (v := 1) (pc := 70) hE dX4_layCell_70 (by decide) ?_
  refine r_isub (pc := 71) hE dX4_layCell_71 ?_
  refine r_icmp_ne (pc := 72) hE 80 dX4_layCell_72 (by decide) (fun _ => ?_) (fun _ => ?_)
  · refine r_lconst (v := 0) (pc := 80) hE dX4_layCell_80 rfl ?_
    exact w_X4_layCell_81 hE _ _ _ _ _ _ _ ⟨rfl, ⟨rfl, ⟨rfl, trivial⟩⟩⟩
  · refine r_lload (pc := 75) hE dX4_layCell_75 rfl ?_
    refine r_goto (pc := 77) hE 81 dX4_layCell_77 (by decide) ?_
    exact w_X4_layCell_81 hE _ _ _ _ _ _ _ ⟨rfl, ⟨rfl, ⟨rfl, trivial⟩⟩⟩
def f_X4_layCell (fu : Nat) (x0 : Nat) (x1 : Int32) (x2 : Int32) (x3 : Int32) (h : Hp) : Option (Unit × Hp) :=
  if h.K x0 = 4 then
    if x1 < 0 then
      some ((), h)
    else
      if x1 < 64 then
        (gR h 4 x0 11).bind fun v17 =>
        (sI h 8 v17 x1 x2).bind fun h22 =>
        (gR h22 4 x0 12).bind fun v24 =>
        (sI h22 8 v24 x1 x3).bind fun h29 =>
        (gJ h29 4 x0 4).bind fun v32 =>
        (pJ h29 4 x0 4 (v32 ||| (lsh 1 x1))).bind fun h38 =>
        (gJ h38 4 x0 14).bind fun v43 =>
        if x2 = 0 then
          f_X4_layCell_56 fu x0 x2 x3 ((lsh 1 x1)) x0 v43 ((lsh 1 x1)) h38
        else
          f_X4_layCell_56 fu x0 x2 x3 ((lsh 1 x1)) x0 v43 0 h38
      else
        some ((), h)
  else none
set_option maxHeartbeats 4000000 in
set_option maxRecDepth 100000 in
theorem c_X4_layCell (l : Launch) (D : Dx) (fu : Nat) (x0 : Nat) (x1 : Int32) (x2 : Int32) (x3 : Int32) (h : Hp) (out : Unit × Hp) (ho : f_X4_layCell fu x0 x1 x2 x3 h = some out) : Ct l D yX4_layCell cX4_layCell 6 none rm_X4_layCell [.ref x0, .int x1, .int x2, .int x3] h (evU out.1) out.2 := by
  refine Ct.of (o := f_X4_layCell fu x0 x1 x2 x3 h) (lv := [some (.ref x0), some (.int x1), some (.int x2), some (.int x3), none, none]) (by decide) (Nat.le_of_ble_eq_true rfl) rfl ?_ out ho
  intro X hXl hE hin
  replace hE : En X D cX4_layCell 6 RX4 none rm_X4_layCell := hE
  subst hXl
  unfold f_X4_layCell
  refine Wo_grd (fun _ => ?_)
  refine r_iload_n (pc := 0) hE dX4_layCell_0 rfl ?_
  refine r_if_lt (pc := 1) hE 10 dX4_layCell_1 (by decide) (fun _ => ?_) (fun _ => ?_)
  · exact r_vret (pc := 10) hE dX4_layCell_10
  · refine r_iload_n (pc := 4) hE dX4_layCell_4 rfl ?_
    refine r_bipush (v := 64) (pc := 5) hE dX4_layCell_5 (by decide) ?_
    refine r_icmp_lt (pc := 7) hE 11 dX4_layCell_7 (by decide) (fun _ => ?_) (fun _ => ?_)
    · refine r_lconst (v := 1) (pc := 11) hE dX4_layCell_11 rfl ?_
      refine r_iload_n (pc := 12) hE dX4_layCell_12 rfl ?_
      refine r_lshl (pc := 13) hE dX4_layCell_13 ?_
      refine r_lstore (pc := 14) hE dX4_layCell_14 (by decide) ?_
      refine r_aload_n (pc := 16) hE dX4_layCell_16 rfl ?_
      refine r_getR (pc := 17) hE 4 11 (by decide) (by decide) (fun _ _ _ => rfl) fl_RX4_21 dX4_layCell_17 (fun v17 _ => ?_)
      refine r_iload_n (pc := 20) hE dX4_layCell_20 rfl ?_
      refine r_iload_n (pc := 21) hE dX4_layCell_21 rfl ?_
      refine r_astI (pc := 22) hE dX4_layCell_22 (fun h22 _ => ?_)
      refine r_aload_n (pc := 23) hE dX4_layCell_23 rfl ?_
      refine r_getR (pc := 24) hE 4 12 (by decide) (by decide) (fun _ _ _ => rfl) fl_RX4_24 dX4_layCell_24 (fun v24 _ => ?_)
      refine r_iload_n (pc := 27) hE dX4_layCell_27 rfl ?_
      refine r_iload_n (pc := 28) hE dX4_layCell_28 rfl ?_
      refine r_astI (pc := 29) hE dX4_layCell_29 (fun h29 _ => ?_)
      refine r_aload_n (pc := 30) hE dX4_layCell_30 rfl ?_
      refine r_dup (pc := 31) hE dX4_layCell_31 rfl ?_
      refine r_getJ (pc := 32) hE 4 4 (by decide) (by decide) (fun _ _ _ => rfl) fl_RX4_66 dX4_layCell_32 (fun v32 _ => ?_)
      refine r_lload (pc := 35) hE dX4_layCell_35 rfl ?_
      refine r_lor (pc := 37) hE dX4_layCell_37 ?_
      refine r_putJ (pc := 38) hE 4 4 (by decide) (by decide) (fun _ _ _ => rfl) fl_RX4_66 rfl rfl rfl dX4_layCell_38 (fun h38 _ => ?_)
      refine r_aload_n (pc := 41) hE dX4_layCell_41 rfl ?_
      refine r_dup (pc := 42) hE dX4_layCell_42 rfl ?_
      refine r_getJ (pc := 43) hE 4 14 (by decide) (by decide) (fun _ _ _ => rfl) fl_RX4_69 dX4_layCell_43 (fun v43 _ => ?_)
      refine r_iload_n (pc := 46) hE dX4_layCell_46 rfl ?_
      refine r_if_ne (pc := 47) hE 55 dX4_layCell_47 (by decide) (fun _ => ?_) (fun _ => ?_)
      · refine r_lconst (v := 0) (pc := 55) hE dX4_layCell_55 rfl ?_
        exact w_X4_layCell_56 hE _ _ _ _ _ _ _ _ ⟨rfl, ⟨rfl, ⟨rfl, ⟨rfl, trivial⟩⟩⟩⟩
      · refine r_lload (pc := 50) hE dX4_layCell_50 rfl ?_
        refine r_goto (pc := 52) hE 56 dX4_layCell_52 (by decide) ?_
        exact w_X4_layCell_56 hE _ _ _ _ _ _ _ _ ⟨rfl, ⟨rfl, ⟨rfl, ⟨rfl, trivial⟩⟩⟩⟩
    · exact r_vret (pc := 10) hE dX4_layCell_10
theorem k_X4_layCell {fu : Nat} {x0 : Nat} {x1 : Int32} {x2 : Int32} {x3 : Int32} {h : Hp} {out : Unit × Hp} (ho : f_X4_layCell fu x0 x1 x2 x3 h = some out) : h.K x0 = 4 := (gi_k ho).1
theorem cs_RX4_81 : csV RX4 81 yX4_layCell cX4_layCell 6 none 3 = true := by decide +kernel
def rm_X4_layCells : Room := { frames := 1, cells := 0, slots := 0, locals := 25 }
def f_X4_layCells_37 (fu : Nat) (k27 : Nat → Int32 → Hp → Option (Unit × Hp)) : Nat → Nat → Int32 → Int32 → Hp → Option (Unit × Hp)
  | 0, _, _, _, _ => none
  | n + 1, x0, x1, x2, h =>
    (gI h 4 x0 0).bind fun v39 =>
    if v39 ≤ x2 then
      k27 x0 ((x1 + 1)) h
    else
      (gI h 4 x0 0).bind fun v47 =>
      (f_X4_layCell fu x0 ((v47 * x1) + x2) x2 x1 h).bind fun r56 =>
      f_X4_layCells_37 fu k27 n x0 x1 ((x2 + 1)) r56.2
set_option maxHeartbeats 4000000 in
set_option maxRecDepth 100000 in
theorem w_X4_layCells_37 {X : Cx} {D : Dx} (hE : En X D cX4_layCells 3 RX4 none rm_X4_layCells) {fu : Nat} {k27 : Nat → Int32 → Hp → Option (Unit × Hp)} (hk27 : ∀ (x0 : Nat) (x1 : Int32) (h : Hp) (lv : List (Option Value)), lvLe [some (.ref x0), some (.int x1), none] lv → Wo X D 3 (Qr X D 0 0 evU) 0 0 (k27 x0 x1 h) 27 lv [] h) : ∀ (n : Nat) (x0 : Nat) (x1 : Int32) (x2 : Int32) (h : Hp) (lv : List (Option Value)), lvLe [some (.ref x0), some (.int x1), some (.int x2)] lv → Wo X D 3 (Qr X D 0 0 evU) 0 0 (f_X4_layCells_37 fu k27 n x0 x1 x2 h) 37 lv [] h := by
  intro n
  induction n with
  | zero => intros; exact Wo_none
  | succ n ih =>
    intro x0 x1 x2 h lv hlv
    refine Wo_sub hlv ?_
    rw [f_X4_layCells_37]
    refine r_iload_n (pc := 37) hE dX4_layCells_37 rfl ?_
    refine r_aload_n (pc := 38) hE dX4_layCells_38 rfl ?_
    refine r_getI (pc := 39) hE 4 0 (by decide) (by decide) (fun _ _ _ => rfl) fl_RX4_31 dX4_layCells_39 (fun v39 _ => ?_)
    refine r_icmp_ge (pc := 42) hE 65 dX4_layCells_42 (by decide) (fun _ => ?_) (fun _ => ?_)
    · refine r_iinc (v := (x1 + 1)) (pc := 65) hE dX4_layCells_65 rfl rfl (by decide) ?_
      refine r_goto (pc := 68) hE 27 dX4_layCells_68 (by decide) ?_
      exact hk27 _ _ _ _ ⟨rfl, ⟨rfl, trivial⟩⟩
    · refine r_aload_n (pc := 45) hE dX4_layCells_45 rfl ?_
      refine r_aload_n (pc := 46) hE dX4_layCells_46 rfl ?_
      refine r_getI (pc := 47) hE 4 0 (by decide) (by decide) (fun _ _ _ => rfl) fl_RX4_31 dX4_layCells_47 (fun v47 _ => ?_)
      refine r_iload_n (pc := 50) hE dX4_layCells_50 rfl ?_
      refine r_imul (pc := 51) hE dX4_layCells_51 ?_
      refine r_iload_n (pc := 52) hE dX4_layCells_52 rfl ?_
      refine r_iadd (pc := 53) hE dX4_layCells_53 ?_
      refine r_iload_n (pc := 54) hE dX4_layCells_54 rfl ?_
      refine r_iload_n (pc := 55) hE dX4_layCells_55 rfl ?_
      refine r_callV (pc := 56) hE 4 (As := [.int ((v47 * x1) + x2), .int x2, .int x1]) (fun out ho => c_X4_layCell _ _ fu _ _ _ _ _ out ho) (fun out ho => k_X4_layCell ho) (by decide) rfl cs_RX4_81 ⟨Nat.le_of_ble_eq_true rfl, Nat.le_of_ble_eq_true rfl, Nat.le_of_ble_eq_true rfl, Nat.le_of_ble_eq_true rfl⟩ (Nat.le_of_ble_eq_true rfl) rfl dX4_layCells_56 (fun r56 _ => ?_)
      refine r_iinc (v := (x2 + 1)) (pc := 59) hE dX4_layCells_59 rfl rfl (by decide) ?_
      refine r_goto (pc := 62) hE 37 dX4_layCells_62 (by decide) ?_
      exact ih _ _ _ _ _ ⟨rfl, ⟨rfl, ⟨rfl, trivial⟩⟩⟩
def f_X4_layCells_27 (fu : Nat) : Nat → Nat → Int32 → Hp → Option (Unit × Hp)
  | 0, _, _, _ => none
  | n + 1, x0, x1, h =>
    (gI h 4 x0 1).bind fun v29 =>
    if v29 ≤ x1 then
      some ((), h)
    else
      f_X4_layCells_37 fu (fun y0 y1 hy => f_X4_layCells_27 fu n y0 y1 hy) fu x0 x1 0 h
set_option maxHeartbeats 4000000 in
set_option maxRecDepth 100000 in
theorem w_X4_layCells_27 {X : Cx} {D : Dx} (hE : En X D cX4_layCells 3 RX4 none rm_X4_layCells) {fu : Nat} : ∀ (n : Nat) (x0 : Nat) (x1 : Int32) (h : Hp) (lv : List (Option Value)), lvLe [some (.ref x0), some (.int x1), none] lv → Wo X D 3 (Qr X D 0 0 evU) 0 0 (f_X4_layCells_27 fu n x0 x1 h) 27 lv [] h := by
  intro n
  induction n with
  | zero => intros; exact Wo_none
  | succ n ih =>
    intro x0 x1 h lv hlv
    refine Wo_sub hlv ?_
    rw [f_X4_layCells_27]
    refine r_iload_n (pc := 27) hE dX4_layCells_27 rfl ?_
    refine r_aload_n (pc := 28) hE dX4_layCells_28 rfl ?_
    refine r_getI (pc := 29) hE 4 1 (by decide) (by decide) (fun _ _ _ => rfl) fl_RX4_35 dX4_layCells_29 (fun v29 _ => ?_)
    refine r_icmp_ge (pc := 32) hE 71 dX4_layCells_32 (by decide) (fun _ => ?_) (fun _ => ?_)
    · exact r_vret (pc := 71) hE dX4_layCells_71
    · refine r_iconst (v := 0) (pc := 35) hE dX4_layCells_35 (by decide) ?_
      refine r_istore_n (pc := 36) hE dX4_layCells_36 (by decide) ?_
      exact w_X4_layCells_37 hE (fun y0 y1 hy lvy hly => ih y0 y1 hy lvy hly) fu _ _ _ _ _ ⟨rfl, ⟨rfl, ⟨rfl, trivial⟩⟩⟩
def f_X4_layCells (fu : Nat) (x0 : Nat) (h : Hp) : Option (Unit × Hp) :=
  if h.K x0 = 4 then
    (pJ h 4 x0 4 0).bind fun h2 =>
    (pJ h2 4 x0 14 0).bind fun h7 =>
    (pJ h7 4 x0 15 0).bind fun h12 =>
    (pJ h12 4 x0 16 0).bind fun h17 =>
    (pJ h17 4 x0 17 0).bind fun h22 =>
    f_X4_layCells_27 fu fu x0 0 h22
  else none
set_option maxHeartbeats 4000000 in
set_option maxRecDepth 100000 in
theorem c_X4_layCells (l : Launch) (D : Dx) (fu : Nat) (x0 : Nat) (h : Hp) (out : Unit × Hp) (ho : f_X4_layCells fu x0 h = some out) : Ct l D yX4_layCells cX4_layCells 3 none rm_X4_layCells [.ref x0] h (evU out.1) out.2 := by
  refine Ct.of (o := f_X4_layCells fu x0 h) (lv := [some (.ref x0), none, none]) (by decide) (Nat.le_of_ble_eq_true rfl) rfl ?_ out ho
  intro X hXl hE hin
  replace hE : En X D cX4_layCells 3 RX4 none rm_X4_layCells := hE
  subst hXl
  unfold f_X4_layCells
  refine Wo_grd (fun _ => ?_)
  refine r_aload_n (pc := 0) hE dX4_layCells_0 rfl ?_
  refine r_lconst (v := 0) (pc := 1) hE dX4_layCells_1 rfl ?_
  refine r_putJ (pc := 2) hE 4 4 (by decide) (by decide) (fun _ _ _ => rfl) fl_RX4_66 rfl rfl rfl dX4_layCells_2 (fun h2 _ => ?_)
  refine r_aload_n (pc := 5) hE dX4_layCells_5 rfl ?_
  refine r_lconst (v := 0) (pc := 6) hE dX4_layCells_6 rfl ?_
  refine r_putJ (pc := 7) hE 4 14 (by decide) (by decide) (fun _ _ _ => rfl) fl_RX4_69 rfl rfl rfl dX4_layCells_7 (fun h7 _ => ?_)
  refine r_aload_n (pc := 10) hE dX4_layCells_10 rfl ?_
  refine r_lconst (v := 0) (pc := 11) hE dX4_layCells_11 rfl ?_
  refine r_putJ (pc := 12) hE 4 15 (by decide) (by decide) (fun _ _ _ => rfl) fl_RX4_72 rfl rfl rfl dX4_layCells_12 (fun h12 _ => ?_)
  refine r_aload_n (pc := 15) hE dX4_layCells_15 rfl ?_
  refine r_lconst (v := 0) (pc := 16) hE dX4_layCells_16 rfl ?_
  refine r_putJ (pc := 17) hE 4 16 (by decide) (by decide) (fun _ _ _ => rfl) fl_RX4_75 rfl rfl rfl dX4_layCells_17 (fun h17 _ => ?_)
  refine r_aload_n (pc := 20) hE dX4_layCells_20 rfl ?_
  refine r_lconst (v := 0) (pc := 21) hE dX4_layCells_21 rfl ?_
  refine r_putJ (pc := 22) hE 4 17 (by decide) (by decide) (fun _ _ _ => rfl) fl_RX4_78 rfl rfl rfl dX4_layCells_22 (fun h22 _ => ?_)
  refine r_iconst (v := 0) (pc := 25) hE dX4_layCells_25 (by decide) ?_
  refine r_istore_n (pc := 26) hE dX4_layCells_26 (by decide) ?_
  exact w_X4_layCells_27 hE fu _ _ _ _ ⟨rfl, ⟨rfl, trivial⟩⟩
theorem k_X4_layCells {fu : Nat} {x0 : Nat} {h : Hp} {out : Unit × Hp} (ho : f_X4_layCells fu x0 h = some out) : h.K x0 = 4 := (gi_k ho).1
theorem fl_RX4_41 : Cond.fieldLink RX4 41 (TF 4 5).1 (TF 4 5).2.1 (TF 4 5).2.2.1 ∈ TB := tb_in (by decide +kernel) rfl
theorem cs_RX4_54 : csS RX4 54 yJ7_fill_53178 cJ7_fill_53178 4 none 2 = true := by decide +kernel
theorem cs_RX4_60 : csV RX4 60 yX4_layCells cX4_layCells 3 none 0 = true := by decide +kernel
theorem fl_RX4_63 : Cond.fieldLink RX4 63 (TF 4 3).1 (TF 4 3).2.1 (TF 4 3).2.2.1 ∈ TB := tb_in (by decide +kernel) rfl
def rm_X4_lay : Room := { frames := 2, cells := 0, slots := 0, locals := 47 }
def f_X4_lay (fu : Nat) (x0 : Nat) (x1 : Int32) (x2 : Int32) (h : Hp) : Option (Unit × Hp) :=
  if h.K x0 = 4 then
    (pI h 4 x0 0 x1).bind fun h2 =>
    (pI h2 4 x0 1 x2).bind fun h7 =>
    (pI h7 4 x0 2 (x1 * x2)).bind fun h14 =>
    (pJ h14 4 x0 5 0).bind fun h19 =>
    (pJ h19 4 x0 13 0).bind fun h24 =>
    (pI h24 4 x0 6 0).bind fun h29 =>
    (pI h29 4 x0 7 0).bind fun h34 =>
    (gR h34 4 x0 8).bind fun v38 =>
    (f_J7_fill_53178 fu v38 (-1) h34).bind fun r42 =>
    (gR r42.2 4 x0 9).bind fun v46 =>
    (f_J7_fill_53178 fu v46 0 r42.2).bind fun r50 =>
    (gR r50.2 4 x0 10).bind fun v54 =>
    (f_J7_fill_53178 fu v54 16 r50.2).bind fun r59 =>
    (f_X4_layCells fu x0 r59.2).bind fun r63 =>
    (gI r63.2 4 x0 3).bind fun v68 =>
    (pI r63.2 4 x0 3 (v68 + 1)).bind fun h73 =>
    some ((), h73)
  else none
set_option maxHeartbeats 4000000 in
set_option maxRecDepth 100000 in
theorem c_X4_lay (l : Launch) (D : Dx) (fu : Nat) (x0 : Nat) (x1 : Int32) (x2 : Int32) (h : Hp) (out : Unit × Hp) (ho : f_X4_lay fu x0 x1 x2 h = some out) : Ct l D yX4_lay cX4_lay 3 none rm_X4_lay [.ref x0, .int x1, .int x2] h (evU out.1) out.2 := by
  refine Ct.of (o := f_X4_lay fu x0 x1 x2 h) (lv := [some (.ref x0), some (.int x1), some (.int x2)]) (by decide) (Nat.le_of_ble_eq_true rfl) rfl ?_ out ho
  intro X hXl hE hin
  replace hE : En X D cX4_lay 3 RX4 none rm_X4_lay := hE
  subst hXl
  unfold f_X4_lay
  refine Wo_grd (fun _ => ?_)
  refine r_aload_n (pc := 0) hE dX4_lay_0 rfl ?_
  refine r_iload_n (pc := 1) hE dX4_lay_1 rfl ?_
  refine r_putI (pc := 2) hE 4 0 (by decide) (by decide) (fun _ _ _ => rfl) fl_RX4_31 rfl rfl rfl dX4_lay_2 (fun h2 _ => ?_)
  refine r_aload_n (pc := 5) hE dX4_lay_5 rfl ?_
  refine r_iload_n (pc := 6) hE dX4_lay_6 rfl ?_
  refine r_putI (pc := 7) hE 4 1 (by decide) (by decide) (fun _ _ _ => rfl) fl_RX4_35 rfl rfl rfl dX4_lay_7 (fun h7 _ => ?_)
  refine r_aload_n (pc := 10) hE dX4_lay_10 rfl ?_
  refine r_iload_n (pc := 11) hE dX4_lay_11 rfl ?_
  refine r_iload_n (pc := 12) hE dX4_lay_12 rfl ?_
  refine r_imul (pc := 13) hE dX4_lay_13 ?_
  refine r_putI (pc := 14) hE 4 2 (by decide) (by decide) (fun _ _ _ => rfl) fl_RX4_38 rfl rfl rfl dX4_lay_14 (fun h14 _ => ?_)
  refine r_aload_n (pc := 17) hE dX4_lay_17 rfl ?_
  refine r_lconst (v := 0) (pc := 18) hE dX4_lay_18 rfl ?_
  refine r_putJ (pc := 19) hE 4 5 (by decide) (by decide) (fun _ _ _ => rfl) fl_RX4_41 rfl rfl rfl dX4_lay_19 (fun h19 _ => ?_)
  refine r_aload_n (pc := 22) hE dX4_lay_22 rfl ?_
  refine r_lconst (v := 0) (pc := 23) hE dX4_lay_23 rfl ?_
  refine r_putJ (pc := 24) hE 4 13 (by decide) (by decide) (fun _ _ _ => rfl) fl_RX4_45 rfl rfl rfl dX4_lay_24 (fun h24 _ => ?_)
  refine r_aload_n (pc := 27) hE dX4_lay_27 rfl ?_
  refine r_iconst (v := 0) (pc := 28) hE dX4_lay_28 (by decide) ?_
  refine r_putI (pc := 29) hE 4 6 (by decide) (by decide) (fun _ _ _ => rfl) fl_RX4_48 rfl rfl rfl dX4_lay_29 (fun h29 _ => ?_)
  refine r_aload_n (pc := 32) hE dX4_lay_32 rfl ?_
  refine r_iconst (v := 0) (pc := 33) hE dX4_lay_33 (by decide) ?_
  refine r_putI (pc := 34) hE 4 7 (by decide) (by decide) (fun _ _ _ => rfl) fl_RX4_51 rfl rfl rfl dX4_lay_34 (fun h34 _ => ?_)
  refine r_aload_n (pc := 37) hE dX4_lay_37 rfl ?_
  refine r_getR (pc := 38) hE 4 8 (by decide) (by decide) (fun _ _ _ => rfl) fl_RX4_9 dX4_lay_38 (fun v38 _ => ?_)
  refine r_iconst (v := -1) (pc := 41) hE dX4_lay_41 (by decide) ?_
  refine r_callS (pc := 42) hE (As := [.ref v38, .int (-1)]) (fun out ho => c_J7_fill_53178 _ _ fu _ _ _ out ho) cs_RX4_54 ⟨Nat.le_of_ble_eq_true rfl, Nat.le_of_ble_eq_true rfl, Nat.le_of_ble_eq_true rfl, Nat.le_of_ble_eq_true rfl⟩ (Nat.le_of_ble_eq_true rfl) rfl dX4_lay_42 (fun r42 _ => ?_)
  refine r_aload_n (pc := 45) hE dX4_lay_45 rfl ?_
  refine r_getR (pc := 46) hE 4 9 (by decide) (by decide) (fun _ _ _ => rfl) fl_RX4_15 dX4_lay_46 (fun v46 _ => ?_)
  refine r_iconst (v := 0) (pc := 49) hE dX4_lay_49 (by decide) ?_
  refine r_callS (pc := 50) hE (As := [.ref v46, .int 0]) (fun out ho => c_J7_fill_53178 _ _ fu _ _ _ out ho) cs_RX4_54 ⟨Nat.le_of_ble_eq_true rfl, Nat.le_of_ble_eq_true rfl, Nat.le_of_ble_eq_true rfl, Nat.le_of_ble_eq_true rfl⟩ (Nat.le_of_ble_eq_true rfl) rfl dX4_lay_50 (fun r50 _ => ?_)
  refine r_aload_n (pc := 53) hE dX4_lay_53 rfl ?_
  refine r_getR (pc := 54) hE 4 10 (by decide) (by decide) (fun _ _ _ => rfl) fl_RX4_18 dX4_lay_54 (fun v54 _ => ?_)
  refine r_bipush (v := 16) (pc := 57) hE dX4_lay_57 (by decide) ?_
  refine r_callS (pc := 59) hE (As := [.ref v54, .int 16]) (fun out ho => c_J7_fill_53178 _ _ fu _ _ _ out ho) cs_RX4_54 ⟨Nat.le_of_ble_eq_true rfl, Nat.le_of_ble_eq_true rfl, Nat.le_of_ble_eq_true rfl, Nat.le_of_ble_eq_true rfl⟩ (Nat.le_of_ble_eq_true rfl) rfl dX4_lay_59 (fun r59 _ => ?_)
  refine r_aload_n (pc := 62) hE dX4_lay_62 rfl ?_
  refine r_callV (pc := 63) hE 4 (As := []) (fun out ho => c_X4_layCells _ _ fu _ _ out ho) (fun out ho => k_X4_layCells ho) (by decide) rfl cs_RX4_60 ⟨Nat.le_of_ble_eq_true rfl, Nat.le_of_ble_eq_true rfl, Nat.le_of_ble_eq_true rfl, Nat.le_of_ble_eq_true rfl⟩ (Nat.le_of_ble_eq_true rfl) rfl dX4_lay_63 (fun r63 _ => ?_)
  refine r_aload_n (pc := 66) hE dX4_lay_66 rfl ?_
  refine r_dup (pc := 67) hE dX4_lay_67 rfl ?_
  refine r_getI (pc := 68) hE 4 3 (by decide) (by decide) (fun _ _ _ => rfl) fl_RX4_63 dX4_lay_68 (fun v68 _ => ?_)
  refine r_iconst (v := 1) (pc := 71) hE dX4_lay_71 (by decide) ?_
  refine r_iadd (pc := 72) hE dX4_lay_72 ?_
  refine r_putI (pc := 73) hE 4 3 (by decide) (by decide) (fun _ _ _ => rfl) fl_RX4_63 rfl rfl rfl dX4_lay_73 (fun h73 _ => ?_)
  exact r_vret (pc := 76) hE dX4_lay_76
theorem k_X4_lay {fu : Nat} {x0 : Nat} {x1 : Int32} {x2 : Int32} {h : Hp} {out : Unit × Hp} (ho : f_X4_lay fu x0 x1 x2 h = some out) : h.K x0 = 4 := (gi_k ho).1
def rm_X4_hasCell : Room := { frames := 0, cells := 0, slots := 0, locals := 0 }
def f_X4_hasCell (fu : Nat) (x0 : Nat) (x1 : Int32) (h : Hp) : Option (Int32 × Hp) :=
  if h.K x0 = 4 then
    if x1 < 0 then
      some (0, h)
    else
      (gI h 4 x0 2).bind fun v6 =>
      if v6 ≤ x1 then
        some (0, h)
      else
        some (1, h)
  else none
set_option maxHeartbeats 4000000 in
set_option maxRecDepth 100000 in
theorem c_X4_hasCell (l : Launch) (D : Dx) (fu : Nat) (x0 : Nat) (x1 : Int32) (h : Hp) (out : Int32 × Hp) (ho : f_X4_hasCell fu x0 x1 h = some out) : Ct l D yX4_hasCell cX4_hasCell 2 (some .boolean) rm_X4_hasCell [.ref x0, .int x1] h (evI out.1) out.2 := by
  refine Ct.of (o := f_X4_hasCell fu x0 x1 h) (lv := [some (.ref x0), some (.int x1)]) (by decide) (Nat.le_of_ble_eq_true rfl) rfl ?_ out ho
  intro X hXl hE hin
  replace hE : En X D cX4_hasCell 2 RX4 (some .boolean) rm_X4_hasCell := hE
  subst hXl
  unfold f_X4_hasCell
  refine Wo_grd (fun _ => ?_)
  refine r_iload_n (pc := 0) hE dX4_hasCell_0 rfl ?_
  refine r_if_lt (pc := 1) hE 16 dX4_hasCell_1 (by decide) (fun _ => ?_) (fun _ => ?_)
  · refine r_iconst (v := 0) (pc := 16) hE dX4_hasCell_16 (by decide) ?_
    exact r_zret (pc := 17) hE (by decide) dX4_hasCell_17
  · refine r_iload_n (pc := 4) hE dX4_hasCell_4 rfl ?_
    refine r_aload_n (pc := 5) hE dX4_hasCell_5 rfl ?_
    refine r_getI (pc := 6) hE 4 2 (by decide) (by decide) (fun _ _ _ => rfl) fl_RX4_38 dX4_hasCell_6 (fun v6 _ => ?_)
    refine r_icmp_ge (pc := 9) hE 16 dX4_hasCell_9 (by decide) (fun _ => ?_) (fun _ => ?_)
    · refine r_iconst (v := 0) (pc := 16) hE dX4_hasCell_16 (by decide) ?_
      exact r_zret (pc := 17) hE (by decide) dX4_hasCell_17
    · refine r_iconst (v := 1) (pc := 12) hE dX4_hasCell_12 (by decide) ?_
      refine r_goto (pc := 13) hE 17 dX4_hasCell_13 (by decide) ?_
      exact r_zret (pc := 17) hE (by decide) dX4_hasCell_17
theorem k_X4_hasCell {fu : Nat} {x0 : Nat} {x1 : Int32} {h : Hp} {out : Int32 × Hp} (ho : f_X4_hasCell fu x0 x1 h = some out) : h.K x0 = 4 := (gi_k ho).1
theorem ct_RX4_85 : Cond.constantLong RX4 85 (-1) ∈ TB := tb_in (by decide +kernel) rfl
def rm_X4_oneEast : Room := { frames := 0, cells := 0, slots := 0, locals := 0 }
def f_X4_oneEast (fu : Nat) (x0 : Nat) (x1 : Int64) (h : Hp) : Option (Int64 × Hp) :=
  if h.K x0 = 4 then
    (gJ h 4 x0 15).bind fun v2 =>
    (gJ h 4 x0 15).bind fun v14 =>
    some (((lsh (x1 &&& (v2 ^^^ (-1))) 1) ||| (x1 &&& v14)), h)
  else none
set_option maxHeartbeats 4000000 in
set_option maxRecDepth 100000 in
theorem c_X4_oneEast (l : Launch) (D : Dx) (fu : Nat) (x0 : Nat) (x1 : Int64) (h : Hp) (out : Int64 × Hp) (ho : f_X4_oneEast fu x0 x1 h = some out) : Ct l D yX4_oneEast cX4_oneEast 3 (some .long) rm_X4_oneEast [.ref x0, .long x1] h (evJ out.1) out.2 := by
  refine Ct.of (o := f_X4_oneEast fu x0 x1 h) (lv := [some (.ref x0), some (.long x1), none]) (by decide) (Nat.le_of_ble_eq_true rfl) rfl ?_ out ho
  intro X hXl hE hin
  replace hE : En X D cX4_oneEast 3 RX4 (some .long) rm_X4_oneEast := hE
  subst hXl
  unfold f_X4_oneEast
  refine Wo_grd (fun _ => ?_)
  refine r_lload_n (pc := 0) hE dX4_oneEast_0 rfl ?_
  refine r_aload_n (pc := 1) hE dX4_oneEast_1 rfl ?_
  refine r_getJ (pc := 2) hE 4 15 (by decide) (by decide) (fun _ _ _ => rfl) fl_RX4_72 dX4_oneEast_2 (fun v2 _ => ?_)
  refine r_ldc2 (v := -1) (pc := 5) hE ct_RX4_85 dX4_oneEast_5 ?_
  refine r_lxor (pc := 8) hE dX4_oneEast_8 ?_
  refine r_land (pc := 9) hE dX4_oneEast_9 ?_
  refine r_iconst (v := 1) (pc := 10) hE dX4_oneEast_10 (by decide) ?_
  refine r_lshl (pc := 11) hE dX4_oneEast_11 ?_
  refine r_lload_n (pc := 12) hE dX4_oneEast_12 rfl ?_
  refine r_aload_n (pc := 13) hE dX4_oneEast_13 rfl ?_
  refine r_getJ (pc := 14) hE 4 15 (by decide) (by decide) (fun _ _ _ => rfl) fl_RX4_72 dX4_oneEast_14 (fun v14 _ => ?_)
  refine r_land (pc := 17) hE dX4_oneEast_17 ?_
  refine r_lor (pc := 18) hE dX4_oneEast_18 ?_
  exact r_lret (pc := 19) hE dX4_oneEast_19
theorem k_X4_oneEast {fu : Nat} {x0 : Nat} {x1 : Int64} {h : Hp} {out : Int64 × Hp} (ho : f_X4_oneEast fu x0 x1 h = some out) : h.K x0 = 4 := (gi_k ho).1
def rm_X4_oneNorth : Room := { frames := 0, cells := 0, slots := 0, locals := 0 }
def f_X4_oneNorth (fu : Nat) (x0 : Nat) (x1 : Int64) (h : Hp) : Option (Int64 × Hp) :=
  if h.K x0 = 4 then
    (gJ h 4 x0 16).bind fun v2 =>
    (gI h 4 x0 0).bind fun v11 =>
    (gJ h 4 x0 16).bind fun v17 =>
    some (((lush (x1 &&& (v2 ^^^ (-1))) v11) ||| (x1 &&& v17)), h)
  else none
set_option maxHeartbeats 4000000 in
set_option maxRecDepth 100000 in
theorem c_X4_oneNorth (l : Launch) (D : Dx) (fu : Nat) (x0 : Nat) (x1 : Int64) (h : Hp) (out : Int64 × Hp) (ho : f_X4_oneNorth fu x0 x1 h = some out) : Ct l D yX4_oneNorth cX4_oneNorth 3 (some .long) rm_X4_oneNorth [.ref x0, .long x1] h (evJ out.1) out.2 := by
  refine Ct.of (o := f_X4_oneNorth fu x0 x1 h) (lv := [some (.ref x0), some (.long x1), none]) (by decide) (Nat.le_of_ble_eq_true rfl) rfl ?_ out ho
  intro X hXl hE hin
  replace hE : En X D cX4_oneNorth 3 RX4 (some .long) rm_X4_oneNorth := hE
  subst hXl
  unfold f_X4_oneNorth
  refine Wo_grd (fun _ => ?_)
  refine r_lload_n (pc := 0) hE dX4_oneNorth_0 rfl ?_
  refine r_aload_n (pc := 1) hE dX4_oneNorth_1 rfl ?_
  refine r_getJ (pc := 2) hE 4 16 (by decide) (by decide) (fun _ _ _ => rfl) fl_RX4_75 dX4_oneNorth_2 (fun v2 _ => ?_)
  refine r_ldc2 (v := -1) (pc := 5) hE ct_RX4_85 dX4_oneNorth_5 ?_
  refine r_lxor (pc := 8) hE dX4_oneNorth_8 ?_
  refine r_land (pc := 9) hE dX4_oneNorth_9 ?_
  refine r_aload_n (pc := 10) hE dX4_oneNorth_10 rfl ?_
  refine r_getI (pc := 11) hE 4 0 (by decide) (by decide) (fun _ _ _ => rfl) fl_RX4_31 dX4_oneNorth_11 (fun v11 _ => ?_)
  refine r_lushr (pc := 14) hE dX4_oneNorth_14 ?_
  refine r_lload_n (pc := 15) hE dX4_oneNorth_15 rfl ?_
  refine r_aload_n (pc := 16) hE dX4_oneNorth_16 rfl ?_
  refine r_getJ (pc := 17) hE 4 16 (by decide) (by decide) (fun _ _ _ => rfl) fl_RX4_75 dX4_oneNorth_17 (fun v17 _ => ?_)
  refine r_land (pc := 20) hE dX4_oneNorth_20 ?_
  refine r_lor (pc := 21) hE dX4_oneNorth_21 ?_
  exact r_lret (pc := 22) hE dX4_oneNorth_22
theorem k_X4_oneNorth {fu : Nat} {x0 : Nat} {x1 : Int64} {h : Hp} {out : Int64 × Hp} (ho : f_X4_oneNorth fu x0 x1 h = some out) : h.K x0 = 4 := (gi_k ho).1
def rm_X4_oneSouth : Room := { frames := 0, cells := 0, slots := 0, locals := 0 }
def f_X4_oneSouth (fu : Nat) (x0 : Nat) (x1 : Int64) (h : Hp) : Option (Int64 × Hp) :=
  if h.K x0 = 4 then
    (gJ h 4 x0 17).bind fun v2 =>
    (gI h 4 x0 0).bind fun v11 =>
    (gJ h 4 x0 17).bind fun v17 =>
    some (((lsh (x1 &&& (v2 ^^^ (-1))) v11) ||| (x1 &&& v17)), h)
  else none
set_option maxHeartbeats 4000000 in
set_option maxRecDepth 100000 in
theorem c_X4_oneSouth (l : Launch) (D : Dx) (fu : Nat) (x0 : Nat) (x1 : Int64) (h : Hp) (out : Int64 × Hp) (ho : f_X4_oneSouth fu x0 x1 h = some out) : Ct l D yX4_oneSouth cX4_oneSouth 3 (some .long) rm_X4_oneSouth [.ref x0, .long x1] h (evJ out.1) out.2 := by
  refine Ct.of (o := f_X4_oneSouth fu x0 x1 h) (lv := [some (.ref x0), some (.long x1), none]) (by decide) (Nat.le_of_ble_eq_true rfl) rfl ?_ out ho
  intro X hXl hE hin
  replace hE : En X D cX4_oneSouth 3 RX4 (some .long) rm_X4_oneSouth := hE
  subst hXl
  unfold f_X4_oneSouth
  refine Wo_grd (fun _ => ?_)
  refine r_lload_n (pc := 0) hE dX4_oneSouth_0 rfl ?_
  refine r_aload_n (pc := 1) hE dX4_oneSouth_1 rfl ?_
  refine r_getJ (pc := 2) hE 4 17 (by decide) (by decide) (fun _ _ _ => rfl) fl_RX4_78 dX4_oneSouth_2 (fun v2 _ => ?_)
  refine r_ldc2 (v := -1) (pc := 5) hE ct_RX4_85 dX4_oneSouth_5 ?_
  refine r_lxor (pc := 8) hE dX4_oneSouth_8 ?_
  refine r_land (pc := 9) hE dX4_oneSouth_9 ?_
  refine r_aload_n (pc := 10) hE dX4_oneSouth_10 rfl ?_
  refine r_getI (pc := 11) hE 4 0 (by decide) (by decide) (fun _ _ _ => rfl) fl_RX4_31 dX4_oneSouth_11 (fun v11 _ => ?_)
  refine r_lshl (pc := 14) hE dX4_oneSouth_14 ?_
  refine r_lload_n (pc := 15) hE dX4_oneSouth_15 rfl ?_
  refine r_aload_n (pc := 16) hE dX4_oneSouth_16 rfl ?_
  refine r_getJ (pc := 17) hE 4 17 (by decide) (by decide) (fun _ _ _ => rfl) fl_RX4_78 dX4_oneSouth_17 (fun v17 _ => ?_)
  refine r_land (pc := 20) hE dX4_oneSouth_20 ?_
  refine r_lor (pc := 21) hE dX4_oneSouth_21 ?_
  exact r_lret (pc := 22) hE dX4_oneSouth_22
theorem k_X4_oneSouth {fu : Nat} {x0 : Nat} {x1 : Int64} {h : Hp} {out : Int64 × Hp} (ho : f_X4_oneSouth fu x0 x1 h = some out) : h.K x0 = 4 := (gi_k ho).1
def rm_X4_oneWest : Room := { frames := 0, cells := 0, slots := 0, locals := 0 }
def f_X4_oneWest (fu : Nat) (x0 : Nat) (x1 : Int64) (h : Hp) : Option (Int64 × Hp) :=
  if h.K x0 = 4 then
    (gJ h 4 x0 14).bind fun v2 =>
    (gJ h 4 x0 14).bind fun v14 =>
    some (((lush (x1 &&& (v2 ^^^ (-1))) 1) ||| (x1 &&& v14)), h)
  else none
set_option maxHeartbeats 4000000 in
set_option maxRecDepth 100000 in
theorem c_X4_oneWest (l : Launch) (D : Dx) (fu : Nat) (x0 : Nat) (x1 : Int64) (h : Hp) (out : Int64 × Hp) (ho : f_X4_oneWest fu x0 x1 h = some out) : Ct l D yX4_oneWest cX4_oneWest 3 (some .long) rm_X4_oneWest [.ref x0, .long x1] h (evJ out.1) out.2 := by
  refine Ct.of (o := f_X4_oneWest fu x0 x1 h) (lv := [some (.ref x0), some (.long x1), none]) (by decide) (Nat.le_of_ble_eq_true rfl) rfl ?_ out ho
  intro X hXl hE hin
  replace hE : En X D cX4_oneWest 3 RX4 (some .long) rm_X4_oneWest := hE
  subst hXl
  unfold f_X4_oneWest
  refine Wo_grd (fun _ => ?_)
  refine r_lload_n (pc := 0) hE dX4_oneWest_0 rfl ?_
  refine r_aload_n (pc := 1) hE dX4_oneWest_1 rfl ?_
  refine r_getJ (pc := 2) hE 4 14 (by decide) (by decide) (fun _ _ _ => rfl) fl_RX4_69 dX4_oneWest_2 (fun v2 _ => ?_)
  refine r_ldc2 (v := -1) (pc := 5) hE ct_RX4_85 dX4_oneWest_5 ?_
  refine r_lxor (pc := 8) hE dX4_oneWest_8 ?_
  refine r_land (pc := 9) hE dX4_oneWest_9 ?_
  refine r_iconst (v := 1) (pc := 10) hE dX4_oneWest_10 (by decide) ?_
  refine r_lushr (pc := 11) hE dX4_oneWest_11 ?_
  refine r_lload_n (pc := 12) hE dX4_oneWest_12 rfl ?_
  refine r_aload_n (pc := 13) hE dX4_oneWest_13 rfl ?_
  refine r_getJ (pc := 14) hE 4 14 (by decide) (by decide) (fun _ _ _ => rfl) fl_RX4_69 dX4_oneWest_14 (fun v14 _ => ?_)
  refine r_land (pc := 17) hE dX4_oneWest_17 ?_
  refine r_lor (pc := 18) hE dX4_oneWest_18 ?_
  exact r_lret (pc := 19) hE dX4_oneWest_19
theorem k_X4_oneWest {fu : Nat} {x0 : Nat} {x1 : Int64} {h : Hp} {out : Int64 × Hp} (ho : f_X4_oneWest fu x0 x1 h = some out) : h.K x0 = 4 := (gi_k ho).1
theorem cs_RX4_95 : csV RX4 95 yX4_oneWest cX4_oneWest 3 (some .long) 1 = true := by decide +kernel
theorem cs_RX4_98 : csV RX4 98 yX4_oneEast cX4_oneEast 3 (some .long) 1 = true := by decide +kernel
theorem cs_RX4_101 : csV RX4 101 yX4_oneNorth cX4_oneNorth 3 (some .long) 1 = true := by decide +kernel
theorem cs_RX4_104 : csV RX4 104 yX4_oneSouth cX4_oneSouth 3 (some .long) 1 = true := by decide +kernel
def rm_X4_grown : Room := { frames := 1, cells := 0, slots := 0, locals := 22 }
def f_X4_grown (fu : Nat) (x0 : Nat) (x1 : Int64) (h : Hp) : Option (Int64 × Hp) :=
  if h.K x0 = 4 then
    (f_X4_oneWest fu x0 x1 h).bind fun r3 =>
    (f_X4_oneEast fu x0 x1 r3.2).bind fun r9 =>
    (f_X4_oneNorth fu x0 ((x1 ||| r3.1) ||| r9.1) r9.2).bind fun r17 =>
    (f_X4_oneSouth fu x0 ((x1 ||| r3.1) ||| r9.1) r17.2).bind fun r23 =>
    some (((((x1 ||| r3.1) ||| r9.1) ||| r17.1) ||| r23.1), r23.2)
  else none
set_option maxHeartbeats 4000000 in
set_option maxRecDepth 100000 in
theorem c_X4_grown (l : Launch) (D : Dx) (fu : Nat) (x0 : Nat) (x1 : Int64) (h : Hp) (out : Int64 × Hp) (ho : f_X4_grown fu x0 x1 h = some out) : Ct l D yX4_grown cX4_grown 5 (some .long) rm_X4_grown [.ref x0, .long x1] h (evJ out.1) out.2 := by
  refine Ct.of (o := f_X4_grown fu x0 x1 h) (lv := [some (.ref x0), some (.long x1), none, none, none]) (by decide) (Nat.le_of_ble_eq_true rfl) rfl ?_ out ho
  intro X hXl hE hin
  replace hE : En X D cX4_grown 5 RX4 (some .long) rm_X4_grown := hE
  subst hXl
  unfold f_X4_grown
  refine Wo_grd (fun _ => ?_)
  refine r_lload_n (pc := 0) hE dX4_grown_0 rfl ?_
  refine r_aload_n (pc := 1) hE dX4_grown_1 rfl ?_
  refine r_lload_n (pc := 2) hE dX4_grown_2 rfl ?_
  refine r_callV (pc := 3) hE 4 (As := [.long x1]) (fun out ho => c_X4_oneWest _ _ fu _ _ _ out ho) (fun out ho => k_X4_oneWest ho) (by decide) rfl cs_RX4_95 ⟨Nat.le_of_ble_eq_true rfl, Nat.le_of_ble_eq_true rfl, Nat.le_of_ble_eq_true rfl, Nat.le_of_ble_eq_true rfl⟩ (Nat.le_of_ble_eq_true rfl) rfl dX4_grown_3 (fun r3 _ => ?_)
  refine r_lor (pc := 6) hE dX4_grown_6 ?_
  refine r_aload_n (pc := 7) hE dX4_grown_7 rfl ?_
  refine r_lload_n (pc := 8) hE dX4_grown_8 rfl ?_
  refine r_callV (pc := 9) hE 4 (As := [.long x1]) (fun out ho => c_X4_oneEast _ _ fu _ _ _ out ho) (fun out ho => k_X4_oneEast ho) (by decide) rfl cs_RX4_98 ⟨Nat.le_of_ble_eq_true rfl, Nat.le_of_ble_eq_true rfl, Nat.le_of_ble_eq_true rfl, Nat.le_of_ble_eq_true rfl⟩ (Nat.le_of_ble_eq_true rfl) rfl dX4_grown_9 (fun r9 _ => ?_)
  refine r_lor (pc := 12) hE dX4_grown_12 ?_
  refine r_lstore_n (pc := 13) hE dX4_grown_13 (by decide) ?_
  refine r_lload_n (pc := 14) hE dX4_grown_14 rfl ?_
  refine r_aload_n (pc := 15) hE dX4_grown_15 rfl ?_
  refine r_lload_n (pc := 16) hE dX4_grown_16 rfl ?_
  refine r_callV (pc := 17) hE 4 (As := [.long ((x1 ||| r3.1) ||| r9.1)]) (fun out ho => c_X4_oneNorth _ _ fu _ _ _ out ho) (fun out ho => k_X4_oneNorth ho) (by decide) rfl cs_RX4_101 ⟨Nat.le_of_ble_eq_true rfl, Nat.le_of_ble_eq_true rfl, Nat.le_of_ble_eq_true rfl, Nat.le_of_ble_eq_true rfl⟩ (Nat.le_of_ble_eq_true rfl) rfl dX4_grown_17 (fun r17 _ => ?_)
  refine r_lor (pc := 20) hE dX4_grown_20 ?_
  refine r_aload_n (pc := 21) hE dX4_grown_21 rfl ?_
  refine r_lload_n (pc := 22) hE dX4_grown_22 rfl ?_
  refine r_callV (pc := 23) hE 4 (As := [.long ((x1 ||| r3.1) ||| r9.1)]) (fun out ho => c_X4_oneSouth _ _ fu _ _ _ out ho) (fun out ho => k_X4_oneSouth ho) (by decide) rfl cs_RX4_104 ⟨Nat.le_of_ble_eq_true rfl, Nat.le_of_ble_eq_true rfl, Nat.le_of_ble_eq_true rfl, Nat.le_of_ble_eq_true rfl⟩ (Nat.le_of_ble_eq_true rfl) rfl dX4_grown_23 (fun r23 _ => ?_)
  refine r_lor (pc := 26) hE dX4_grown_26 ?_
  exact r_lret (pc := 27) hE dX4_grown_27
theorem k_X4_grown {fu : Nat} {x0 : Nat} {x1 : Int64} {h : Hp} {out : Int64 × Hp} (ho : f_X4_grown fu x0 x1 h = some out) : h.K x0 = 4 := (gi_k ho).1
def rm_X4_landsOfReach : Room := { frames := 0, cells := 0, slots := 0, locals := 0 }
def f_X4_landsOfReach_32 (fu : Nat) (k5 : Nat → Int32 → Int64 → Int32 → Hp → Option (Int64 × Hp)) (x0 : Nat) (x1 : Int32) (x2 : Int64) (x4 : Int32) (h : Hp) : Option (Int64 × Hp) :=
  k5 x0 x1 x2 ((x4 + 1)) h
set_option maxHeartbeats 4000000 in
set_option maxRecDepth 100000 in
theorem w_X4_landsOfReach_32 {X : Cx} {D : Dx} (hE : En X D cX4_landsOfReach 5 RX4 (some .long) rm_X4_landsOfReach) {fu : Nat} {k5 : Nat → Int32 → Int64 → Int32 → Hp → Option (Int64 × Hp)} (hk5 : ∀ (x0 : Nat) (x1 : Int32) (x2 : Int64) (x4 : Int32) (h : Hp) (lv : List (Option Value)), lvLe [some (.ref x0), some (.int x1), some (.long x2), none, some (.int x4)] lv → Wo X D 5 (Qr X D 0 0 evJ) 0 0 (k5 x0 x1 x2 x4 h) 5 lv [] h) (x0 : Nat) (x1 : Int32) (x2 : Int64) (x4 : Int32) (h : Hp) {lv : List (Option Value)} (hlv : lvLe [some (.ref x0), some (.int x1), some (.long x2), none, some (.int x4)] lv) : Wo X D 5 (Qr X D 0 0 evJ) 0 0 (f_X4_landsOfReach_32 fu k5 x0 x1 x2 x4 h) 32 lv [] h := by
  refine Wo_sub hlv ?_
  unfold f_X4_landsOfReach_32
  refine r_iinc (v := (x4 + 1)) (pc := 32) hE dX4_landsOfReach_32 rfl rfl (by decide) ?_
  refine r_goto (pc := 35) hE 5 dX4_landsOfReach_35 (by decide) ?_
  exact hk5 _ _ _ _ _ _ ⟨rfl, ⟨rfl, ⟨rfl, ⟨rfl, trivial⟩⟩⟩⟩
def f_X4_landsOfReach_5 (fu : Nat) : Nat → Nat → Int32 → Int64 → Int32 → Hp → Option (Int64 × Hp)
  | 0, _, _, _, _, _ => none
  | n + 1, x0, x1, x2, x4, h =>
    (gI h 4 x0 2).bind fun v8 =>
    if v8 ≤ x4 then
      some (x2, h)
    else
      (gR h 4 x0 8).bind fun v15 =>
      (aI h 8 v15 x4).bind fun v20 =>
      if v20 = x1 then
        f_X4_landsOfReach_32 fu (fun y0 y1 y2 y3 hy => f_X4_landsOfReach_5 fu n y0 y1 y2 y3 hy) x0 x1 ((x2 ||| (lsh 1 x4))) x4 h
      else
        f_X4_landsOfReach_32 fu (fun y0 y1 y2 y3 hy => f_X4_landsOfReach_5 fu n y0 y1 y2 y3 hy) x0 x1 x2 x4 h
set_option maxHeartbeats 4000000 in
set_option maxRecDepth 100000 in
theorem w_X4_landsOfReach_5 {X : Cx} {D : Dx} (hE : En X D cX4_landsOfReach 5 RX4 (some .long) rm_X4_landsOfReach) {fu : Nat} : ∀ (n : Nat) (x0 : Nat) (x1 : Int32) (x2 : Int64) (x4 : Int32) (h : Hp) (lv : List (Option Value)), lvLe [some (.ref x0), some (.int x1), some (.long x2), none, some (.int x4)] lv → Wo X D 5 (Qr X D 0 0 evJ) 0 0 (f_X4_landsOfReach_5 fu n x0 x1 x2 x4 h) 5 lv [] h := by
  intro n
  induction n with
  | zero => intros; exact Wo_none
  | succ n ih =>
    intro x0 x1 x2 x4 h lv hlv
    refine Wo_sub hlv ?_
    rw [f_X4_landsOfReach_5]
    refine r_iload (pc := 5) hE dX4_landsOfReach_5 rfl ?_
    refine r_aload_n (pc := 7) hE dX4_landsOfReach_7 rfl ?_
    refine r_getI (pc := 8) hE 4 2 (by decide) (by decide) (fun _ _ _ => rfl) fl_RX4_38 dX4_landsOfReach_8 (fun v8 _ => ?_)
    refine r_icmp_ge (pc := 11) hE 38 dX4_landsOfReach_11 (by decide) (fun _ => ?_) (fun _ => ?_)
    · refine r_lload_n (pc := 38) hE dX4_landsOfReach_38 rfl ?_
      exact r_lret (pc := 39) hE dX4_landsOfReach_39
    · refine r_aload_n (pc := 14) hE dX4_landsOfReach_14 rfl ?_
      refine r_getR (pc := 15) hE 4 8 (by decide) (by decide) (fun _ _ _ => rfl) fl_RX4_9 dX4_landsOfReach_15 (fun v15 _ => ?_)
      refine r_iload (pc := 18) hE dX4_landsOfReach_18 rfl ?_
      refine r_aldI (pc := 20) hE dX4_landsOfReach_20 (fun v20 _ => ?_)
      refine r_iload_n (pc := 21) hE dX4_landsOfReach_21 rfl ?_
      refine r_icmp_ne (pc := 22) hE 32 dX4_landsOfReach_22 (by decide) (fun _ => ?_) (fun _ => ?_)
      · exact w_X4_landsOfReach_32 hE (fun y0 y1 y2 y3 hy lvy hly => ih y0 y1 y2 y3 hy lvy hly) _ _ _ _ _ ⟨rfl, ⟨rfl, ⟨rfl, ⟨rfl, trivial⟩⟩⟩⟩
      · refine r_lload_n (pc := 25) hE dX4_landsOfReach_25 rfl ?_
        refine r_lconst (v := 1) (pc := 26) hE dX4_landsOfReach_26 rfl ?_
        refine r_iload (pc := 27) hE dX4_landsOfReach_27 rfl ?_
        refine r_lshl (pc := 29) hE dX4_landsOfReach_29 ?_
        refine r_lor (pc := 30) hE dX4_landsOfReach_30 ?_
        refine r_lstore_n (pc := 31) hE dX4_landsOfReach_31 (by decide) ?_
        exact w_X4_landsOfReach_32 hE (fun y0 y1 y2 y3 hy lvy hly => ih y0 y1 y2 y3 hy lvy hly) _ _ _ _ _ ⟨rfl, ⟨rfl, ⟨rfl, ⟨rfl, trivial⟩⟩⟩⟩
def f_X4_landsOfReach (fu : Nat) (x0 : Nat) (x1 : Int32) (h : Hp) : Option (Int64 × Hp) :=
  if h.K x0 = 4 then
    f_X4_landsOfReach_5 fu fu x0 x1 0 0 h
  else none
set_option maxHeartbeats 4000000 in
set_option maxRecDepth 100000 in
theorem c_X4_landsOfReach (l : Launch) (D : Dx) (fu : Nat) (x0 : Nat) (x1 : Int32) (h : Hp) (out : Int64 × Hp) (ho : f_X4_landsOfReach fu x0 x1 h = some out) : Ct l D yX4_landsOfReach cX4_landsOfReach 5 (some .long) rm_X4_landsOfReach [.ref x0, .int x1] h (evJ out.1) out.2 := by
  refine Ct.of (o := f_X4_landsOfReach fu x0 x1 h) (lv := [some (.ref x0), some (.int x1), none, none, none]) (by decide) (Nat.le_of_ble_eq_true rfl) rfl ?_ out ho
  intro X hXl hE hin
  replace hE : En X D cX4_landsOfReach 5 RX4 (some .long) rm_X4_landsOfReach := hE
  subst hXl
  unfold f_X4_landsOfReach
  refine Wo_grd (fun _ => ?_)
  refine r_lconst (v := 0) (pc := 0) hE dX4_landsOfReach_0 rfl ?_
  refine r_lstore_n (pc := 1) hE dX4_landsOfReach_1 (by decide) ?_
  refine r_iconst (v := 0) (pc := 2) hE dX4_landsOfReach_2 (by decide) ?_
  refine r_istore (pc := 3) hE dX4_landsOfReach_3 (by decide) ?_
  exact w_X4_landsOfReach_5 hE fu _ _ _ _ _ _ ⟨rfl, ⟨rfl, ⟨rfl, ⟨rfl, trivial⟩⟩⟩⟩
theorem k_X4_landsOfReach {fu : Nat} {x0 : Nat} {x1 : Int32} {h : Hp} {out : Int64 × Hp} (ho : f_X4_landsOfReach fu x0 x1 h = some out) : h.K x0 = 4 := (gi_k ho).1
theorem cs_RX4_87 : csV RX4 87 yX4_grown cX4_grown 5 (some .long) 1 = true := by decide +kernel
theorem cs_RX4_91 : csV RX4 91 yX4_landsOfReach cX4_landsOfReach 5 (some .long) 1 = true := by decide +kernel
def rm_X4_setReach : Room := { frames := 2, cells := 0, slots := 0, locals := 46 }
def f_X4_setReach_41 (fu : Nat) : Nat → Nat → Int64 → Int32 → Hp → Option (Unit × Hp)
  | 0, _, _, _, _ => none
  | n + 1, x0, x3, x5, h =>
    if x5 < 0 then
      (pJ h 4 x0 13 x3).bind fun h67 =>
      (gI h67 4 x0 3).bind fun v72 =>
      (pI h67 4 x0 3 (v72 + 1)).bind fun h77 =>
      some ((), h77)
    else
      (f_X4_grown fu x0 x3 h).bind fun r48 =>
      (f_X4_landsOfReach fu x0 x5 r48.2).bind fun r54 =>
      f_X4_setReach_41 fu n x0 ((r48.1 ||| r54.1)) ((x5 + (-1))) r54.2
set_option maxHeartbeats 4000000 in
set_option maxRecDepth 100000 in
theorem w_X4_setReach_41 {X : Cx} {D : Dx} (hE : En X D cX4_setReach 6 RX4 none rm_X4_setReach) {fu : Nat} : ∀ (n : Nat) (x0 : Nat) (x3 : Int64) (x5 : Int32) (h : Hp) (lv : List (Option Value)), lvLe [some (.ref x0), none, none, some (.long x3), none, some (.int x5)] lv → Wo X D 6 (Qr X D 0 0 evU) 0 0 (f_X4_setReach_41 fu n x0 x3 x5 h) 41 lv [] h := by
  intro n
  induction n with
  | zero => intros; exact Wo_none
  | succ n ih =>
    intro x0 x3 x5 h lv hlv
    refine Wo_sub hlv ?_
    rw [f_X4_setReach_41]
    refine r_iload (pc := 41) hE dX4_setReach_41 rfl ?_
    refine r_if_lt (pc := 43) hE 65 dX4_setReach_43 (by decide) (fun _ => ?_) (fun _ => ?_)
    · refine r_aload_n (pc := 65) hE dX4_setReach_65 rfl ?_
      refine r_lload_n (pc := 66) hE dX4_setReach_66 rfl ?_
      refine r_putJ (pc := 67) hE 4 13 (by decide) (by decide) (fun _ _ _ => rfl) fl_RX4_45 rfl rfl rfl dX4_setReach_67 (fun h67 _ => ?_)
      refine r_aload_n (pc := 70) hE dX4_setReach_70 rfl ?_
      refine r_dup (pc := 71) hE dX4_setReach_71 rfl ?_
      refine r_getI (pc := 72) hE 4 3 (by decide) (by decide) (fun _ _ _ => rfl) fl_RX4_63 dX4_setReach_72 (fun v72 _ => ?_)
      refine r_iconst (v := 1) (pc := 75) hE dX4_setReach_75 (by decide) ?_
      refine r_iadd (pc := 76) hE dX4_setReach_76 ?_
      refine r_putI (pc := 77) hE 4 3 (by decide) (by decide) (fun _ _ _ => rfl) fl_RX4_63 rfl rfl rfl dX4_setReach_77 (fun h77 _ => ?_)
      exact r_vret (pc := 80) hE dX4_setReach_80
    · refine r_aload_n (pc := 46) hE dX4_setReach_46 rfl ?_
      refine r_lload_n (pc := 47) hE dX4_setReach_47 rfl ?_
      refine r_callV (pc := 48) hE 4 (As := [.long x3]) (fun out ho => c_X4_grown _ _ fu _ _ _ out ho) (fun out ho => k_X4_grown ho) (by decide) rfl cs_RX4_87 ⟨Nat.le_of_ble_eq_true rfl, Nat.le_of_ble_eq_true rfl, Nat.le_of_ble_eq_true rfl, Nat.le_of_ble_eq_true rfl⟩ (Nat.le_of_ble_eq_true rfl) rfl dX4_setReach_48 (fun r48 _ => ?_)
      refine r_aload_n (pc := 51) hE dX4_setReach_51 rfl ?_
      refine r_iload (pc := 52) hE dX4_setReach_52 rfl ?_
      refine r_callV (pc := 54) hE 4 (As := [.int x5]) (fun out ho => c_X4_landsOfReach _ _ fu _ _ _ out ho) (fun out ho => k_X4_landsOfReach ho) (by decide) rfl cs_RX4_91 ⟨Nat.le_of_ble_eq_true rfl, Nat.le_of_ble_eq_true rfl, Nat.le_of_ble_eq_true rfl, Nat.le_of_ble_eq_true rfl⟩ (Nat.le_of_ble_eq_true rfl) rfl dX4_setReach_54 (fun r54 _ => ?_)
      refine r_lor (pc := 57) hE dX4_setReach_57 ?_
      refine r_lstore_n (pc := 58) hE dX4_setReach_58 (by decide) ?_
      refine r_iinc (v := (x5 + (-1))) (pc := 59) hE dX4_setReach_59 rfl rfl (by decide) ?_
      refine r_goto (pc := 62) hE 41 dX4_setReach_62 (by decide) ?_
      exact ih _ _ _ _ _ ⟨rfl, ⟨rfl, ⟨rfl, trivial⟩⟩⟩
def f_X4_setReach_32 (fu : Nat) (x0 : Nat) (s0 : Nat) (s1 : Int64) (s2 : Int64) (h : Hp) : Option (Unit × Hp) :=
  (pJ h 4 s0 5 (s1 ||| s2)).bind fun h33 =>
  f_X4_setReach_41 fu fu x0 0 3 h33
set_option maxHeartbeats 4000000 in
set_option maxRecDepth 100000 in
theorem w_X4_setReach_32 {X : Cx} {D : Dx} (hE : En X D cX4_setReach 6 RX4 none rm_X4_setReach) {fu : Nat} (x0 : Nat) (s0 : Nat) (s1 : Int64) (s2 : Int64) (h : Hp) {lv : List (Option Value)} (hlv : lvLe [some (.ref x0), none, none, none, none, none] lv) : Wo X D 6 (Qr X D 0 0 evU) 0 0 (f_X4_setReach_32 fu x0 s0 s1 s2 h) 32 lv [.long s2, .long s1, .ref s0] h := by
  refine Wo_sub hlv ?_
  unfold f_X4_setReach_32
  refine r_lor (pc := 32) hE dX4_setReach_32 ?_
  refine r_putJ (pc := 33) hE 4 5 (by decide) (by decide) (fun _ _ _ => rfl) fl_RX4_41 rfl rfl rfl dX4_setReach_33 (fun h33 _ => ?_)
  refine r_lconst (v := 0) (pc := 36) hE dX4_setReach_36 rfl ?_
  refine r_lstore_n (pc := 37) hE dX4_setReach_37 (by decide) ?_
  refine r_iconst (v := 3) (pc := 38) hE dX4_setReach_38 (by decide) ?_
  refine r_istore (pc := 39) hE dX4_setReach_39 (by decide) ?_
  exact w_X4_setReach_41 hE fu _ _ _ _ _ ⟨rfl, ⟨rfl, ⟨rfl, trivial⟩⟩⟩
def f_X4_setReach (fu : Nat) (x0 : Nat) (x1 : Int32) (x2 : Int32) (h : Hp) : Option (Unit × Hp) :=
  if h.K x0 = 4 then
    (gR h 4 x0 8).bind fun v1 =>
    (sI h 8 v1 x1 x2).bind fun h6 =>
    (gJ h6 4 x0 5).bind fun v9 =>
    if x2 = (-1) then
      f_X4_setReach_32 fu x0 x0 ((v9 &&& ((lsh 1 x1) ^^^ (-1)))) 0 h6
    else
      f_X4_setReach_32 fu x0 x0 ((v9 &&& ((lsh 1 x1) ^^^ (-1)))) ((lsh 1 x1)) h6
  else none
set_option maxHeartbeats 4000000 in
set_option maxRecDepth 100000 in
theorem c_X4_setReach (l : Launch) (D : Dx) (fu : Nat) (x0 : Nat) (x1 : Int32) (x2 : Int32) (h : Hp) (out : Unit × Hp) (ho : f_X4_setReach fu x0 x1 x2 h = some out) : Ct l D yX4_setReach cX4_setReach 6 none rm_X4_setReach [.ref x0, .int x1, .int x2] h (evU out.1) out.2 := by
  refine Ct.of (o := f_X4_setReach fu x0 x1 x2 h) (lv := [some (.ref x0), some (.int x1), some (.int x2), none, none, none]) (by decide) (Nat.le_of_ble_eq_true rfl) rfl ?_ out ho
  intro X hXl hE hin
  replace hE : En X D cX4_setReach 6 RX4 none rm_X4_setReach := hE
  subst hXl
  unfold f_X4_setReach
  refine Wo_grd (fun _ => ?_)
  refine r_aload_n (pc := 0) hE dX4_setReach_0 rfl ?_
  refine r_getR (pc := 1) hE 4 8 (by decide) (by decide) (fun _ _ _ => rfl) fl_RX4_9 dX4_setReach_1 (fun v1 _ => ?_)
  refine r_iload_n (pc := 4) hE dX4_setReach_4 rfl ?_
  refine r_iload_n (pc := 5) hE dX4_setReach_5 rfl ?_
  refine r_astI (pc := 6) hE dX4_setReach_6 (fun h6 _ => ?_)
  refine r_aload_n (pc := 7) hE dX4_setReach_7 rfl ?_
  refine r_aload_n (pc := 8) hE dX4_setReach_8 rfl ?_
  refine r_getJ (pc := 9) hE 4 5 (by decide) (by decide) (fun _ _ _ => rfl) fl_RX4_41 dX4_setReach_9 (fun v9 _ => ?_)
  refine r_lconst (v := 1) (pc := 12) hE dX4_setReach_12 rfl ?_
  refine r_iload_n (pc := 13) hE dX4_setReach_13 rfl ?_
  refine r_lshl (pc := 14) hE dX4_setReach_14 ?_
  refine r_ldc2 (v := -1) (pc := 15) hE ct_RX4_85 dX4_setReach_15 ?_
  refine r_lxor (pc := 18) hE dX4_setReach_18 ?_
  refine r_land (pc := 19) hE dX4_setReach_19 ?_
  refine r_iload_n (pc := 20) hE dX4_setReach_20 rfl ?_
  refine r_iconst (v := -1) (pc := 21) hE dX4_setReach_21 (by decide) ?_
  refine r_icmp_ne (pc := 22) hE 29 dX4_setReach_22 (by decide) (fun _ => ?_) (fun _ => ?_)
  · refine r_lconst (v := 1) (pc := 29) hE dX4_setReach_29 rfl ?_
    refine r_iload_n (pc := 30) hE dX4_setReach_30 rfl ?_
    refine r_lshl (pc := 31) hE dX4_setReach_31 ?_
    exact w_X4_setReach_32 hE _ _ _ _ _ ⟨rfl, trivial⟩
  · refine r_lconst (v := 0) (pc := 25) hE dX4_setReach_25 rfl ?_
    refine r_goto (pc := 26) hE 32 dX4_setReach_26 (by decide) ?_
    exact w_X4_setReach_32 hE _ _ _ _ _ ⟨rfl, trivial⟩
theorem k_X4_setReach {fu : Nat} {x0 : Nat} {x1 : Int32} {x2 : Int32} {h : Hp} {out : Unit × Hp} (ho : f_X4_setReach fu x0 x1 x2 h = some out) : h.K x0 = 4 := (gi_k ho).1
def rm_X4_setSwell : Room := { frames := 0, cells := 0, slots := 0, locals := 0 }
def f_X4_setSwell (fu : Nat) (x0 : Nat) (x1 : Int32) (x2 : Int32) (h : Hp) : Option (Unit × Hp) :=
  if h.K x0 = 4 then
    (gR h 4 x0 9).bind fun v1 =>
    (sI h 8 v1 x1 x2).bind fun h6 =>
    (gI h6 4 x0 3).bind fun v9 =>
    (pI h6 4 x0 3 (v9 + 1)).bind fun h14 =>
    some ((), h14)
  else none
set_option maxHeartbeats 4000000 in
set_option maxRecDepth 100000 in
theorem c_X4_setSwell (l : Launch) (D : Dx) (fu : Nat) (x0 : Nat) (x1 : Int32) (x2 : Int32) (h : Hp) (out : Unit × Hp) (ho : f_X4_setSwell fu x0 x1 x2 h = some out) : Ct l D yX4_setSwell cX4_setSwell 3 none rm_X4_setSwell [.ref x0, .int x1, .int x2] h (evU out.1) out.2 := by
  refine Ct.of (o := f_X4_setSwell fu x0 x1 x2 h) (lv := [some (.ref x0), some (.int x1), some (.int x2)]) (by decide) (Nat.le_of_ble_eq_true rfl) rfl ?_ out ho
  intro X hXl hE hin
  replace hE : En X D cX4_setSwell 3 RX4 none rm_X4_setSwell := hE
  subst hXl
  unfold f_X4_setSwell
  refine Wo_grd (fun _ => ?_)
  refine r_aload_n (pc := 0) hE dX4_setSwell_0 rfl ?_
  refine r_getR (pc := 1) hE 4 9 (by decide) (by decide) (fun _ _ _ => rfl) fl_RX4_15 dX4_setSwell_1 (fun v1 _ => ?_)
  refine r_iload_n (pc := 4) hE dX4_setSwell_4 rfl ?_
  refine r_iload_n (pc := 5) hE dX4_setSwell_5 rfl ?_
  refine r_astI (pc := 6) hE dX4_setSwell_6 (fun h6 _ => ?_)
  refine r_aload_n (pc := 7) hE dX4_setSwell_7 rfl ?_
  refine r_dup (pc := 8) hE dX4_setSwell_8 rfl ?_
  refine r_getI (pc := 9) hE 4 3 (by decide) (by decide) (fun _ _ _ => rfl) fl_RX4_63 dX4_setSwell_9 (fun v9 _ => ?_)
  refine r_iconst (v := 1) (pc := 12) hE dX4_setSwell_12 (by decide) ?_
  refine r_iadd (pc := 13) hE dX4_setSwell_13 ?_
  refine r_putI (pc := 14) hE 4 3 (by decide) (by decide) (fun _ _ _ => rfl) fl_RX4_63 rfl rfl rfl dX4_setSwell_14 (fun h14 _ => ?_)
  exact r_vret (pc := 17) hE dX4_setSwell_17
theorem k_X4_setSwell {fu : Nat} {x0 : Nat} {x1 : Int32} {x2 : Int32} {h : Hp} {out : Unit × Hp} (ho : f_X4_setSwell fu x0 x1 x2 h = some out) : h.K x0 = 4 := (gi_k ho).1
def rm_X4_setDrifts : Room := { frames := 0, cells := 0, slots := 0, locals := 0 }
def f_X4_setDrifts (fu : Nat) (x0 : Nat) (x1 : Int32) (x2 : Int32) (h : Hp) : Option (Unit × Hp) :=
  if h.K x0 = 4 then
    (gR h 4 x0 10).bind fun v1 =>
    (sI h 8 v1 x1 x2).bind fun h6 =>
    (gI h6 4 x0 3).bind fun v9 =>
    (pI h6 4 x0 3 (v9 + 1)).bind fun h14 =>
    some ((), h14)
  else none
set_option maxHeartbeats 4000000 in
set_option maxRecDepth 100000 in
theorem c_X4_setDrifts (l : Launch) (D : Dx) (fu : Nat) (x0 : Nat) (x1 : Int32) (x2 : Int32) (h : Hp) (out : Unit × Hp) (ho : f_X4_setDrifts fu x0 x1 x2 h = some out) : Ct l D yX4_setDrifts cX4_setDrifts 3 none rm_X4_setDrifts [.ref x0, .int x1, .int x2] h (evU out.1) out.2 := by
  refine Ct.of (o := f_X4_setDrifts fu x0 x1 x2 h) (lv := [some (.ref x0), some (.int x1), some (.int x2)]) (by decide) (Nat.le_of_ble_eq_true rfl) rfl ?_ out ho
  intro X hXl hE hin
  replace hE : En X D cX4_setDrifts 3 RX4 none rm_X4_setDrifts := hE
  subst hXl
  unfold f_X4_setDrifts
  refine Wo_grd (fun _ => ?_)
  refine r_aload_n (pc := 0) hE dX4_setDrifts_0 rfl ?_
  refine r_getR (pc := 1) hE 4 10 (by decide) (by decide) (fun _ _ _ => rfl) fl_RX4_18 dX4_setDrifts_1 (fun v1 _ => ?_)
  refine r_iload_n (pc := 4) hE dX4_setDrifts_4 rfl ?_
  refine r_iload_n (pc := 5) hE dX4_setDrifts_5 rfl ?_
  refine r_astI (pc := 6) hE dX4_setDrifts_6 (fun h6 _ => ?_)
  refine r_aload_n (pc := 7) hE dX4_setDrifts_7 rfl ?_
  refine r_dup (pc := 8) hE dX4_setDrifts_8 rfl ?_
  refine r_getI (pc := 9) hE 4 3 (by decide) (by decide) (fun _ _ _ => rfl) fl_RX4_63 dX4_setDrifts_9 (fun v9 _ => ?_)
  refine r_iconst (v := 1) (pc := 12) hE dX4_setDrifts_12 (by decide) ?_
  refine r_iadd (pc := 13) hE dX4_setDrifts_13 ?_
  refine r_putI (pc := 14) hE 4 3 (by decide) (by decide) (fun _ _ _ => rfl) fl_RX4_63 rfl rfl rfl dX4_setDrifts_14 (fun h14 _ => ?_)
  exact r_vret (pc := 17) hE dX4_setDrifts_17
theorem k_X4_setDrifts {fu : Nat} {x0 : Nat} {x1 : Int32} {x2 : Int32} {h : Hp} {out : Unit × Hp} (ho : f_X4_setDrifts fu x0 x1 x2 h = some out) : h.K x0 = 4 := (gi_k ho).1
def rm_X4_setWatches : Room := { frames := 0, cells := 0, slots := 0, locals := 0 }
def f_X4_setWatches (fu : Nat) (x0 : Nat) (x1 : Int32) (x2 : Int32) (h : Hp) : Option (Unit × Hp) :=
  if h.K x0 = 4 then
    (pI h 4 x0 6 x1).bind fun h2 =>
    (pI h2 4 x0 7 x2).bind fun h7 =>
    (gI h7 4 x0 3).bind fun v12 =>
    (pI h7 4 x0 3 (v12 + 1)).bind fun h17 =>
    some ((), h17)
  else none
set_option maxHeartbeats 4000000 in
set_option maxRecDepth 100000 in
theorem c_X4_setWatches (l : Launch) (D : Dx) (fu : Nat) (x0 : Nat) (x1 : Int32) (x2 : Int32) (h : Hp) (out : Unit × Hp) (ho : f_X4_setWatches fu x0 x1 x2 h = some out) : Ct l D yX4_setWatches cX4_setWatches 3 none rm_X4_setWatches [.ref x0, .int x1, .int x2] h (evU out.1) out.2 := by
  refine Ct.of (o := f_X4_setWatches fu x0 x1 x2 h) (lv := [some (.ref x0), some (.int x1), some (.int x2)]) (by decide) (Nat.le_of_ble_eq_true rfl) rfl ?_ out ho
  intro X hXl hE hin
  replace hE : En X D cX4_setWatches 3 RX4 none rm_X4_setWatches := hE
  subst hXl
  unfold f_X4_setWatches
  refine Wo_grd (fun _ => ?_)
  refine r_aload_n (pc := 0) hE dX4_setWatches_0 rfl ?_
  refine r_iload_n (pc := 1) hE dX4_setWatches_1 rfl ?_
  refine r_putI (pc := 2) hE 4 6 (by decide) (by decide) (fun _ _ _ => rfl) fl_RX4_48 rfl rfl rfl dX4_setWatches_2 (fun h2 _ => ?_)
  refine r_aload_n (pc := 5) hE dX4_setWatches_5 rfl ?_
  refine r_iload_n (pc := 6) hE dX4_setWatches_6 rfl ?_
  refine r_putI (pc := 7) hE 4 7 (by decide) (by decide) (fun _ _ _ => rfl) fl_RX4_51 rfl rfl rfl dX4_setWatches_7 (fun h7 _ => ?_)
  refine r_aload_n (pc := 10) hE dX4_setWatches_10 rfl ?_
  refine r_dup (pc := 11) hE dX4_setWatches_11 rfl ?_
  refine r_getI (pc := 12) hE 4 3 (by decide) (by decide) (fun _ _ _ => rfl) fl_RX4_63 dX4_setWatches_12 (fun v12 _ => ?_)
  refine r_iconst (v := 1) (pc := 15) hE dX4_setWatches_15 (by decide) ?_
  refine r_iadd (pc := 16) hE dX4_setWatches_16 ?_
  refine r_putI (pc := 17) hE 4 3 (by decide) (by decide) (fun _ _ _ => rfl) fl_RX4_63 rfl rfl rfl dX4_setWatches_17 (fun h17 _ => ?_)
  exact r_vret (pc := 20) hE dX4_setWatches_20
theorem k_X4_setWatches {fu : Nat} {x0 : Nat} {x1 : Int32} {x2 : Int32} {h : Hp} {out : Unit × Hp} (ho : f_X4_setWatches fu x0 x1 x2 h = some out) : h.K x0 = 4 := (gi_k ho).1
def rm_X4_driftsBy : Room := { frames := 1, cells := 0, slots := 0, locals := 22 }
def f_X4_driftsBy (fu : Nat) (x0 : Nat) (x1 : Int32) (x2 : Int32) (h : Hp) : Option (Int32 × Hp) :=
  if h.K x0 = 4 then
    (gR h 4 x0 10).bind fun v1 =>
    (aI h 8 v1 x1).bind fun v5 =>
    (f_X6_has fu (Int32.toInt64 v5) x2 h).bind fun r8 =>
    if r8.1 = 0 ∨ r8.1 = 1 then some (r8.1, r8.2) else none
  else none
set_option maxHeartbeats 4000000 in
set_option maxRecDepth 100000 in
theorem c_X4_driftsBy (l : Launch) (D : Dx) (fu : Nat) (x0 : Nat) (x1 : Int32) (x2 : Int32) (h : Hp) (out : Int32 × Hp) (ho : f_X4_driftsBy fu x0 x1 x2 h = some out) : Ct l D yX4_driftsBy cX4_driftsBy 3 (some .boolean) rm_X4_driftsBy [.ref x0, .int x1, .int x2] h (evI out.1) out.2 := by
  refine Ct.of (o := f_X4_driftsBy fu x0 x1 x2 h) (lv := [some (.ref x0), some (.int x1), some (.int x2)]) (by decide) (Nat.le_of_ble_eq_true rfl) rfl ?_ out ho
  intro X hXl hE hin
  replace hE : En X D cX4_driftsBy 3 RX4 (some .boolean) rm_X4_driftsBy := hE
  subst hXl
  unfold f_X4_driftsBy
  refine Wo_grd (fun _ => ?_)
  refine r_aload_n (pc := 0) hE dX4_driftsBy_0 rfl ?_
  refine r_getR (pc := 1) hE 4 10 (by decide) (by decide) (fun _ _ _ => rfl) fl_RX4_18 dX4_driftsBy_1 (fun v1 _ => ?_)
  refine r_iload_n (pc := 4) hE dX4_driftsBy_4 rfl ?_
  refine r_aldI (pc := 5) hE dX4_driftsBy_5 (fun v5 _ => ?_)
  refine r_i2l (pc := 6) hE dX4_driftsBy_6 ?_
  refine r_iload_n (pc := 7) hE dX4_driftsBy_7 rfl ?_
  refine r_callSN (pc := 8) hE (As := [.long (Int32.toInt64 v5), .int x2]) (fun out ho => c_X6_has _ _ fu _ _ _ out ho) cs_RX4_107 ⟨Nat.le_of_ble_eq_true rfl, Nat.le_of_ble_eq_true rfl, Nat.le_of_ble_eq_true rfl, Nat.le_of_ble_eq_true rfl⟩ (Nat.le_of_ble_eq_true rfl) rfl dX4_driftsBy_8 (fun r8 _ => ?_)
  exact r_zretQ (pc := 11) hE dX4_driftsBy_11
theorem k_X4_driftsBy {fu : Nat} {x0 : Nat} {x1 : Int32} {x2 : Int32} {h : Hp} {out : Int32 × Hp} (ho : f_X4_driftsBy fu x0 x1 x2 h = some out) : h.K x0 = 4 := (gi_k ho).1
def rm_X4_isAllLand : Room := { frames := 0, cells := 0, slots := 0, locals := 0 }
def f_X4_isAllLand (fu : Nat) (x0 : Nat) (x1 : Int64) (h : Hp) : Option (Int32 × Hp) :=
  if h.K x0 = 4 then
    (gJ h 4 x0 5).bind fun v2 =>
    if (lg_cmp (x1 &&& (v2 ^^^ (-1))) 0) = 0 then
      some (1, h)
    else
      some (0, h)
  else none
set_option maxHeartbeats 4000000 in
set_option maxRecDepth 100000 in
theorem c_X4_isAllLand (l : Launch) (D : Dx) (fu : Nat) (x0 : Nat) (x1 : Int64) (h : Hp) (out : Int32 × Hp) (ho : f_X4_isAllLand fu x0 x1 h = some out) : Ct l D yX4_isAllLand cX4_isAllLand 3 (some .boolean) rm_X4_isAllLand [.ref x0, .long x1] h (evI out.1) out.2 := by
  refine Ct.of (o := f_X4_isAllLand fu x0 x1 h) (lv := [some (.ref x0), some (.long x1), none]) (by decide) (Nat.le_of_ble_eq_true rfl) rfl ?_ out ho
  intro X hXl hE hin
  replace hE : En X D cX4_isAllLand 3 RX4 (some .boolean) rm_X4_isAllLand := hE
  subst hXl
  unfold f_X4_isAllLand
  refine Wo_grd (fun _ => ?_)
  refine r_lload_n (pc := 0) hE dX4_isAllLand_0 rfl ?_
  refine r_aload_n (pc := 1) hE dX4_isAllLand_1 rfl ?_
  refine r_getJ (pc := 2) hE 4 5 (by decide) (by decide) (fun _ _ _ => rfl) fl_RX4_41 dX4_isAllLand_2 (fun v2 _ => ?_)
  refine r_ldc2 (v := -1) (pc := 5) hE ct_RX4_85 dX4_isAllLand_5 ?_
  refine r_lxor (pc := 8) hE dX4_isAllLand_8 ?_
  refine r_land (pc := 9) hE dX4_isAllLand_9 ?_
  refine r_lconst (v := 0) (pc := 10) hE dX4_isAllLand_10 rfl ?_
  refine r_lcmp (pc := 11) hE dX4_isAllLand_11 ?_
  refine r_if_ne (pc := 12) hE 19 dX4_isAllLand_12 (by decide) (fun _ => ?_) (fun _ => ?_)
  · refine r_iconst (v := 0) (pc := 19) hE dX4_isAllLand_19 (by decide) ?_
    exact r_zret (pc := 20) hE (by decide) dX4_isAllLand_20
  · refine r_iconst (v := 1) (pc := 15) hE dX4_isAllLand_15 (by decide) ?_
    refine r_goto (pc := 16) hE 20 dX4_isAllLand_16 (by decide) ?_
    exact r_zret (pc := 20) hE (by decide) dX4_isAllLand_20
theorem k_X4_isAllLand {fu : Nat} {x0 : Nat} {x1 : Int64} {h : Hp} {out : Int32 × Hp} (ho : f_X4_isAllLand fu x0 x1 h = some out) : h.K x0 = 4 := (gi_k ho).1
theorem mx_RX4_126 : inT [.methodLink RX4 126 Lib.Math.min.name, .static Lib.Math.min.name, .initialized "java/lang/Math", .code Lib.Math.min.name Lib.Math.min.code 2 (some .int)] = true := by decide +kernel
theorem mx_RX4_131 : inT [.methodLink RX4 131 Lib.Math.max.name, .static Lib.Math.max.name, .initialized "java/lang/Math", .code Lib.Math.max.name Lib.Math.max.code 2 (some .int)] = true := by decide +kernel
def rm_X4_clamped : Room := { frames := 1, cells := 0, slots := 0, locals := 14 }
def f_X4_clamped (fu : Nat) (x0 : Int32) (x1 : Int32) (h : Hp) : Option (Int32 × Hp) :=
  some ((mmax 0 (mmin x0 x1)), h)
set_option maxHeartbeats 4000000 in
set_option maxRecDepth 100000 in
theorem c_X4_clamped (l : Launch) (D : Dx) (fu : Nat) (x0 : Int32) (x1 : Int32) (h : Hp) (out : Int32 × Hp) (ho : f_X4_clamped fu x0 x1 h = some out) : Ct l D yX4_clamped cX4_clamped 2 (some .int) rm_X4_clamped [.int x0, .int x1] h (evI out.1) out.2 := by
  refine Ct.of (o := f_X4_clamped fu x0 x1 h) (lv := [some (.int x0), some (.int x1)]) (by decide) (Nat.le_of_ble_eq_true rfl) rfl ?_ out ho
  intro X hXl hE hin
  replace hE : En X D cX4_clamped 2 RX4 (some .int) rm_X4_clamped := hE
  subst hXl
  unfold f_X4_clamped
  refine r_iconst (v := 0) (pc := 0) hE dX4_clamped_0 (by decide) ?_
  refine r_iload_n (pc := 1) hE dX4_clamped_1 rfl ?_
  refine r_iload_n (pc := 2) hE dX4_clamped_2 rfl ?_
  refine r_mmin (pc := 3) hE mx_RX4_126 (Nat.le_of_ble_eq_true rfl) (Nat.le_of_ble_eq_true rfl) (Nat.le_of_ble_eq_true rfl) (Nat.le_of_ble_eq_true rfl) dX4_clamped_3 ?_
  refine r_mmax (pc := 6) hE mx_RX4_131 (Nat.le_of_ble_eq_true rfl) (Nat.le_of_ble_eq_true rfl) (Nat.le_of_ble_eq_true rfl) (Nat.le_of_ble_eq_true rfl) dX4_clamped_6 ?_
  exact r_iret (pc := 9) hE dX4_clamped_9
def rm_X4_eastward : Room := { frames := 0, cells := 0, slots := 0, locals := 0 }
def f_X4_eastward (fu : Nat) (x0 : Int32) (h : Hp) : Option (Int32 × Hp) :=
  some (((rem x0 3) - 1), h)
set_option maxHeartbeats 4000000 in
set_option maxRecDepth 100000 in
theorem c_X4_eastward (l : Launch) (D : Dx) (fu : Nat) (x0 : Int32) (h : Hp) (out : Int32 × Hp) (ho : f_X4_eastward fu x0 h = some out) : Ct l D yX4_eastward cX4_eastward 1 (some .int) rm_X4_eastward [.int x0] h (evI out.1) out.2 := by
  refine Ct.of (o := f_X4_eastward fu x0 h) (lv := [some (.int x0)]) (by decide) (Nat.le_of_ble_eq_true rfl) rfl ?_ out ho
  intro X hXl hE hin
  replace hE : En X D cX4_eastward 1 RX4 (some .int) rm_X4_eastward := hE
  subst hXl
  unfold f_X4_eastward
  refine r_iload_n (pc := 0) hE dX4_eastward_0 rfl ?_
  refine r_iconst (v := 3) (pc := 1) hE dX4_eastward_1 (by decide) ?_
  refine r_irem (pc := 2) hE dX4_eastward_2 (by decide) ?_
  refine r_iconst (v := 1) (pc := 3) hE dX4_eastward_3 (by decide) ?_
  refine r_isub (pc := 4) hE dX4_eastward_4 ?_
  exact r_iret (pc := 5) hE dX4_eastward_5
def rm_X4_southward : Room := { frames := 0, cells := 0, slots := 0, locals := 0 }
def f_X4_southward (fu : Nat) (x0 : Int32) (h : Hp) : Option (Int32 × Hp) :=
  some (((x0 / 3) - 1), h)
set_option maxHeartbeats 4000000 in
set_option maxRecDepth 100000 in
theorem c_X4_southward (l : Launch) (D : Dx) (fu : Nat) (x0 : Int32) (h : Hp) (out : Int32 × Hp) (ho : f_X4_southward fu x0 h = some out) : Ct l D yX4_southward cX4_southward 1 (some .int) rm_X4_southward [.int x0] h (evI out.1) out.2 := by
  refine Ct.of (o := f_X4_southward fu x0 h) (lv := [some (.int x0)]) (by decide) (Nat.le_of_ble_eq_true rfl) rfl ?_ out ho
  intro X hXl hE hin
  replace hE : En X D cX4_southward 1 RX4 (some .int) rm_X4_southward := hE
  subst hXl
  unfold f_X4_southward
  refine r_iload_n (pc := 0) hE dX4_southward_0 rfl ?_
  refine r_iconst (v := 3) (pc := 1) hE dX4_southward_1 (by decide) ?_
  refine r_idiv (pc := 2) hE dX4_southward_2 (by decide) ?_
  refine r_iconst (v := 1) (pc := 3) hE dX4_southward_3 (by decide) ?_
  refine r_isub (pc := 4) hE dX4_southward_4 ?_
  exact r_iret (pc := 5) hE dX4_southward_5
theorem cs_RX4_115 : csS RX4 115 yX4_eastward cX4_eastward 1 (some .int) 1 = true := by decide +kernel
theorem cs_RX4_119 : csS RX4 119 yX4_southward cX4_southward 1 (some .int) 1 = true := by decide +kernel
theorem cs_RX4_122 : csS RX4 122 yX4_clamped cX4_clamped 2 (some .int) 2 = true := by decide +kernel
def rm_X4_target : Room := { frames := 2, cells := 0, slots := 0, locals := 35 }
def f_X4_target (fu : Nat) (x0 : Nat) (x1 : Int32) (x2 : Int32) (x3 : Int32) (h : Hp) : Option (Int32 × Hp) :=
  if h.K x0 = 4 then
    (gR h 4 x0 11).bind fun v1 =>
    (aI h 8 v1 x1).bind fun v5 =>
    (f_X4_eastward fu x2 h).bind fun r7 =>
    (f_X4_eastward fu x3 r7.2).bind fun r12 =>
    (gR r12.2 4 x0 12).bind fun v19 =>
    (aI r12.2 8 v19 x1).bind fun v23 =>
    (f_X4_southward fu x2 r12.2).bind fun r25 =>
    (f_X4_southward fu x3 r25.2).bind fun r30 =>
    (gI r30.2 4 x0 0).bind fun v37 =>
    (gI r30.2 4 x0 1).bind fun v43 =>
    (f_X4_clamped fu ((v23 + r25.1) + r30.1) (v43 - 1) r30.2).bind fun r48 =>
    (gI r48.2 4 x0 0).bind fun v55 =>
    (f_X4_clamped fu ((v5 + r7.1) + r12.1) (v55 - 1) r48.2).bind fun r60 =>
    some (((v37 * r48.1) + r60.1), r60.2)
  else none
set_option maxHeartbeats 4000000 in
set_option maxRecDepth 100000 in
theorem c_X4_target (l : Launch) (D : Dx) (fu : Nat) (x0 : Nat) (x1 : Int32) (x2 : Int32) (x3 : Int32) (h : Hp) (out : Int32 × Hp) (ho : f_X4_target fu x0 x1 x2 x3 h = some out) : Ct l D yX4_target cX4_target 6 (some .int) rm_X4_target [.ref x0, .int x1, .int x2, .int x3] h (evI out.1) out.2 := by
  refine Ct.of (o := f_X4_target fu x0 x1 x2 x3 h) (lv := [some (.ref x0), some (.int x1), some (.int x2), some (.int x3), none, none]) (by decide) (Nat.le_of_ble_eq_true rfl) rfl ?_ out ho
  intro X hXl hE hin
  replace hE : En X D cX4_target 6 RX4 (some .int) rm_X4_target := hE
  subst hXl
  unfold f_X4_target
  refine Wo_grd (fun _ => ?_)
  refine r_aload_n (pc := 0) hE dX4_target_0 rfl ?_
  refine r_getR (pc := 1) hE 4 11 (by decide) (by decide) (fun _ _ _ => rfl) fl_RX4_21 dX4_target_1 (fun v1 _ => ?_)
  refine r_iload_n (pc := 4) hE dX4_target_4 rfl ?_
  refine r_aldI (pc := 5) hE dX4_target_5 (fun v5 _ => ?_)
  refine r_iload_n (pc := 6) hE dX4_target_6 rfl ?_
  refine r_callS (pc := 7) hE (As := [.int x2]) (fun out ho => c_X4_eastward _ _ fu _ _ out ho) cs_RX4_115 ⟨Nat.le_of_ble_eq_true rfl, Nat.le_of_ble_eq_true rfl, Nat.le_of_ble_eq_true rfl, Nat.le_of_ble_eq_true rfl⟩ (Nat.le_of_ble_eq_true rfl) rfl dX4_target_7 (fun r7 _ => ?_)
  refine r_iadd (pc := 10) hE dX4_target_10 ?_
  refine r_iload_n (pc := 11) hE dX4_target_11 rfl ?_
  refine r_callS (pc := 12) hE (As := [.int x3]) (fun out ho => c_X4_eastward _ _ fu _ _ out ho) cs_RX4_115 ⟨Nat.le_of_ble_eq_true rfl, Nat.le_of_ble_eq_true rfl, Nat.le_of_ble_eq_true rfl, Nat.le_of_ble_eq_true rfl⟩ (Nat.le_of_ble_eq_true rfl) rfl dX4_target_12 (fun r12 _ => ?_)
  refine r_iadd (pc := 15) hE dX4_target_15 ?_
  refine r_istore (pc := 16) hE dX4_target_16 (by decide) ?_
  refine r_aload_n (pc := 18) hE dX4_target_18 rfl ?_
  refine r_getR (pc := 19) hE 4 12 (by decide) (by decide) (fun _ _ _ => rfl) fl_RX4_24 dX4_target_19 (fun v19 _ => ?_)
  refine r_iload_n (pc := 22) hE dX4_target_22 rfl ?_
  refine r_aldI (pc := 23) hE dX4_target_23 (fun v23 _ => ?_)
  refine r_iload_n (pc := 24) hE dX4_target_24 rfl ?_
  refine r_callS (pc := 25) hE (As := [.int x2]) (fun out ho => c_X4_southward _ _ fu _ _ out ho) cs_RX4_119 ⟨Nat.le_of_ble_eq_true rfl, Nat.le_of_ble_eq_true rfl, Nat.le_of_ble_eq_true rfl, Nat.le_of_ble_eq_true rfl⟩ (Nat.le_of_ble_eq_true rfl) rfl dX4_target_25 (fun r25 _ => ?_)
  refine r_iadd (pc := 28) hE dX4_target_28 ?_
  refine r_iload_n (pc := 29) hE dX4_target_29 rfl ?_
  refine r_callS (pc := 30) hE (As := [.int x3]) (fun out ho => c_X4_southward _ _ fu _ _ out ho) cs_RX4_119 ⟨Nat.le_of_ble_eq_true rfl, Nat.le_of_ble_eq_true rfl, Nat.le_of_ble_eq_true rfl, Nat.le_of_ble_eq_true rfl⟩ (Nat.le_of_ble_eq_true rfl) rfl dX4_target_30 (fun r30 _ => ?_)
  refine r_iadd (pc := 33) hE dX4_target_33 ?_
  refine r_istore (pc := 34) hE dX4_target_34 (by decide) ?_
  refine r_aload_n (pc := 36) hE dX4_target_36 rfl ?_
  refine r_getI (pc := 37) hE 4 0 (by decide) (by decide) (fun _ _ _ => rfl) fl_RX4_31 dX4_target_37 (fun v37 _ => ?_)
  refine r_iload (pc := 40) hE dX4_target_40 rfl ?_
  refine r_aload_n (pc := 42) hE dX4_target_42 rfl ?_
  refine r_getI (pc := 43) hE 4 1 (by decide) (by decide) (fun _ _ _ => rfl) fl_RX4_35 dX4_target_43 (fun v43 _ => ?_)
  refine r_iconst (v := 1) (pc := 46) hE dX4_target_46 (by decide) ?_
  refine r_isub (pc := 47) hE dX4_target_47 ?_
  refine r_callS (pc := 48) hE (As := [.int ((v23 + r25.1) + r30.1), .int (v43 - 1)]) (fun out ho => c_X4_clamped _ _ fu _ _ _ out ho) cs_RX4_122 ⟨Nat.le_of_ble_eq_true rfl, Nat.le_of_ble_eq_true rfl, Nat.le_of_ble_eq_true rfl, Nat.le_of_ble_eq_true rfl⟩ (Nat.le_of_ble_eq_true rfl) rfl dX4_target_48 (fun r48 _ => ?_)
  refine r_imul (pc := 51) hE dX4_target_51 ?_
  refine r_iload (pc := 52) hE dX4_target_52 rfl ?_
  refine r_aload_n (pc := 54) hE dX4_target_54 rfl ?_
  refine r_getI (pc := 55) hE 4 0 (by decide) (by decide) (fun _ _ _ => rfl) fl_RX4_31 dX4_target_55 (fun v55 _ => ?_)
  refine r_iconst (v := 1) (pc := 58) hE dX4_target_58 (by decide) ?_
  refine r_isub (pc := 59) hE dX4_target_59 ?_
  refine r_callS (pc := 60) hE (As := [.int ((v5 + r7.1) + r12.1), .int (v55 - 1)]) (fun out ho => c_X4_clamped _ _ fu _ _ _ out ho) cs_RX4_122 ⟨Nat.le_of_ble_eq_true rfl, Nat.le_of_ble_eq_true rfl, Nat.le_of_ble_eq_true rfl, Nat.le_of_ble_eq_true rfl⟩ (Nat.le_of_ble_eq_true rfl) rfl dX4_target_60 (fun r60 _ => ?_)
  refine r_iadd (pc := 63) hE dX4_target_63 ?_
  exact r_iret (pc := 64) hE dX4_target_64
theorem k_X4_target {fu : Nat} {x0 : Nat} {x1 : Int32} {x2 : Int32} {x3 : Int32} {h : Hp} {out : Int32 × Hp} (ho : f_X4_target fu x0 x1 x2 x3 h = some out) : h.K x0 = 4 := (gi_k ho).1
def rm_X4_spreadRow : Room := { frames := 1, cells := 0, slots := 0, locals := 22 }
def f_X4_spreadRow (fu : Nat) (x0 : Nat) (x1 : Int32) (x2 : Int64) (h : Hp) : Option (Unit × Hp) :=
  if h.K x0 = 4 then
    (f_X4_oneWest fu x0 x2 h).bind fun r7 =>
    (f_X4_oneEast fu x0 x2 r7.2).bind fun r14 =>
    (gR r14.2 4 x0 19).bind fun v20 =>
    (f_X4_oneWest fu x0 r7.1 r14.2).bind fun r28 =>
    (sJ r28.2 9 v20 (5 * x1) r28.1).bind fun h31 =>
    (gR h31 4 x0 19).bind fun v33 =>
    (sJ h31 9 v33 ((5 * x1) + 1) r7.1).bind fun h42 =>
    (gR h42 4 x0 19).bind fun v44 =>
    (sJ h42 9 v44 ((5 * x1) + 2) x2).bind fun h52 =>
    (gR h52 4 x0 19).bind fun v54 =>
    (sJ h52 9 v54 ((5 * x1) + 3) r14.1).bind fun h63 =>
    (gR h63 4 x0 19).bind fun v65 =>
    (f_X4_oneEast fu x0 r14.1 h63).bind fun r75 =>
    (sJ r75.2 9 v65 ((5 * x1) + 4) r75.1).bind fun h78 =>
    some ((), h78)
  else none
set_option maxHeartbeats 4000000 in
set_option maxRecDepth 100000 in
theorem c_X4_spreadRow (l : Launch) (D : Dx) (fu : Nat) (x0 : Nat) (x1 : Int32) (x2 : Int64) (h : Hp) (out : Unit × Hp) (ho : f_X4_spreadRow fu x0 x1 x2 h = some out) : Ct l D yX4_spreadRow cX4_spreadRow 9 none rm_X4_spreadRow [.ref x0, .int x1, .long x2] h (evU out.1) out.2 := by
  refine Ct.of (o := f_X4_spreadRow fu x0 x1 x2 h) (lv := [some (.ref x0), some (.int x1), some (.long x2), none, none, none, none, none, none]) (by decide) (Nat.le_of_ble_eq_true rfl) rfl ?_ out ho
  intro X hXl hE hin
  replace hE : En X D cX4_spreadRow 9 RX4 none rm_X4_spreadRow := hE
  subst hXl
  unfold f_X4_spreadRow
  refine Wo_grd (fun _ => ?_)
  refine r_iconst (v := 5) (pc := 0) hE dX4_spreadRow_0 (by decide) ?_
  refine r_iload_n (pc := 1) hE dX4_spreadRow_1 rfl ?_
  refine r_imul (pc := 2) hE dX4_spreadRow_2 ?_
  refine r_istore (pc := 3) hE dX4_spreadRow_3 (by decide) ?_
  refine r_aload_n (pc := 5) hE dX4_spreadRow_5 rfl ?_
  refine r_lload_n (pc := 6) hE dX4_spreadRow_6 rfl ?_
  refine r_callV (pc := 7) hE 4 (As := [.long x2]) (fun out ho => c_X4_oneWest _ _ fu _ _ _ out ho) (fun out ho => k_X4_oneWest ho) (by decide) rfl cs_RX4_95 ⟨Nat.le_of_ble_eq_true rfl, Nat.le_of_ble_eq_true rfl, Nat.le_of_ble_eq_true rfl, Nat.le_of_ble_eq_true rfl⟩ (Nat.le_of_ble_eq_true rfl) rfl dX4_spreadRow_7 (fun r7 _ => ?_)
  refine r_lstore (pc := 10) hE dX4_spreadRow_10 (by decide) ?_
  refine r_aload_n (pc := 12) hE dX4_spreadRow_12 rfl ?_
  refine r_lload_n (pc := 13) hE dX4_spreadRow_13 rfl ?_
  refine r_callV (pc := 14) hE 4 (As := [.long x2]) (fun out ho => c_X4_oneEast _ _ fu _ _ _ out ho) (fun out ho => k_X4_oneEast ho) (by decide) rfl cs_RX4_98 ⟨Nat.le_of_ble_eq_true rfl, Nat.le_of_ble_eq_true rfl, Nat.le_of_ble_eq_true rfl, Nat.le_of_ble_eq_true rfl⟩ (Nat.le_of_ble_eq_true rfl) rfl dX4_spreadRow_14 (fun r14 _ => ?_)
  refine r_lstore (pc := 17) hE dX4_spreadRow_17 (by decide) ?_
  refine r_aload_n (pc := 19) hE dX4_spreadRow_19 rfl ?_
  refine r_getR (pc := 20) hE 4 19 (by decide) (by decide) (fun _ _ _ => rfl) fl_RX4_27 dX4_spreadRow_20 (fun v20 _ => ?_)
  refine r_iload (pc := 23) hE dX4_spreadRow_23 rfl ?_
  refine r_aload_n (pc := 25) hE dX4_spreadRow_25 rfl ?_
  refine r_lload (pc := 26) hE dX4_spreadRow_26 rfl ?_
  refine r_callV (pc := 28) hE 4 (As := [.long r7.1]) (fun out ho => c_X4_oneWest _ _ fu _ _ _ out ho) (fun out ho => k_X4_oneWest ho) (by decide) rfl cs_RX4_95 ⟨Nat.le_of_ble_eq_true rfl, Nat.le_of_ble_eq_true rfl, Nat.le_of_ble_eq_true rfl, Nat.le_of_ble_eq_true rfl⟩ (Nat.le_of_ble_eq_true rfl) rfl dX4_spreadRow_28 (fun r28 _ => ?_)
  refine r_astJ (pc := 31) hE dX4_spreadRow_31 (fun h31 _ => ?_)
  refine r_aload_n (pc := 32) hE dX4_spreadRow_32 rfl ?_
  refine r_getR (pc := 33) hE 4 19 (by decide) (by decide) (fun _ _ _ => rfl) fl_RX4_27 dX4_spreadRow_33 (fun v33 _ => ?_)
  refine r_iload (pc := 36) hE dX4_spreadRow_36 rfl ?_
  refine r_iconst (v := 1) (pc := 38) hE dX4_spreadRow_38 (by decide) ?_
  refine r_iadd (pc := 39) hE dX4_spreadRow_39 ?_
  refine r_lload (pc := 40) hE dX4_spreadRow_40 rfl ?_
  refine r_astJ (pc := 42) hE dX4_spreadRow_42 (fun h42 _ => ?_)
  refine r_aload_n (pc := 43) hE dX4_spreadRow_43 rfl ?_
  refine r_getR (pc := 44) hE 4 19 (by decide) (by decide) (fun _ _ _ => rfl) fl_RX4_27 dX4_spreadRow_44 (fun v44 _ => ?_)
  refine r_iload (pc := 47) hE dX4_spreadRow_47 rfl ?_
  refine r_iconst (v := 2) (pc := 49) hE dX4_spreadRow_49 (by decide) ?_
  refine r_iadd (pc := 50) hE dX4_spreadRow_50 ?_
  refine r_lload_n (pc := 51) hE dX4_spreadRow_51 rfl ?_
  refine r_astJ (pc := 52) hE dX4_spreadRow_52 (fun h52 _ => ?_)
  refine r_aload_n (pc := 53) hE dX4_spreadRow_53 rfl ?_
  refine r_getR (pc := 54) hE 4 19 (by decide) (by decide) (fun _ _ _ => rfl) fl_RX4_27 dX4_spreadRow_54 (fun v54 _ => ?_)
  refine r_iload (pc := 57) hE dX4_spreadRow_57 rfl ?_
  refine r_iconst (v := 3) (pc := 59) hE dX4_spreadRow_59 (by decide) ?_
  refine r_iadd (pc := 60) hE dX4_spreadRow_60 ?_
  refine r_lload (pc := 61) hE dX4_spreadRow_61 rfl ?_
  refine r_astJ (pc := 63) hE dX4_spreadRow_63 (fun h63 _ => ?_)
  refine r_aload_n (pc := 64) hE dX4_spreadRow_64 rfl ?_
  refine r_getR (pc := 65) hE 4 19 (by decide) (by decide) (fun _ _ _ => rfl) fl_RX4_27 dX4_spreadRow_65 (fun v65 _ => ?_)
  refine r_iload (pc := 68) hE dX4_spreadRow_68 rfl ?_
  refine r_iconst (v := 4) (pc := 70) hE dX4_spreadRow_70 (by decide) ?_
  refine r_iadd (pc := 71) hE dX4_spreadRow_71 ?_
  refine r_aload_n (pc := 72) hE dX4_spreadRow_72 rfl ?_
  refine r_lload (pc := 73) hE dX4_spreadRow_73 rfl ?_
  refine r_callV (pc := 75) hE 4 (As := [.long r14.1]) (fun out ho => c_X4_oneEast _ _ fu _ _ _ out ho) (fun out ho => k_X4_oneEast ho) (by decide) rfl cs_RX4_98 ⟨Nat.le_of_ble_eq_true rfl, Nat.le_of_ble_eq_true rfl, Nat.le_of_ble_eq_true rfl, Nat.le_of_ble_eq_true rfl⟩ (Nat.le_of_ble_eq_true rfl) rfl dX4_spreadRow_75 (fun r75 _ => ?_)
  refine r_astJ (pc := 78) hE dX4_spreadRow_78 (fun h78 _ => ?_)
  exact r_vret (pc := 79) hE dX4_spreadRow_79
theorem k_X4_spreadRow {fu : Nat} {x0 : Nat} {x1 : Int32} {x2 : Int64} {h : Hp} {out : Unit × Hp} (ho : f_X4_spreadRow fu x0 x1 x2 h = some out) : h.K x0 = 4 := (gi_k ho).1
theorem fl_RX4_134 : Cond.fieldLink RX4 134 (TF 4 18).1 (TF 4 18).2.1 (TF 4 18).2.2.1 ∈ TB := tb_in (by decide +kernel) rfl
theorem cs_RX4_137 : csV RX4 137 yX4_spreadRow cX4_spreadRow 9 none 2 = true := by decide +kernel
def rm_X4_spread : Room := { frames := 2, cells := 0, slots := 0, locals := 50 }
def f_X4_spread (fu : Nat) (x0 : Nat) (x1 : Int64) (h : Hp) : Option (Unit × Hp) :=
  if h.K x0 = 4 then
    (gJ h 4 x0 5).bind fun v2 =>
    (gJ h 4 x0 5).bind fun v14 =>
    (pJ h 4 x0 18 (x1 &&& v14)).bind fun h18 =>
    (f_X4_oneNorth fu x0 (x1 &&& (v2 ^^^ (-1))) h18).bind fun r23 =>
    (f_X4_oneSouth fu x0 (x1 &&& (v2 ^^^ (-1))) r23.2).bind fun r30 =>
    (f_X4_oneNorth fu x0 r23.1 r30.2).bind fun r40 =>
    (f_X4_spreadRow fu x0 0 r40.1 r40.2).bind fun r43 =>
    (f_X4_spreadRow fu x0 1 r23.1 r43.2).bind fun r50 =>
    (f_X4_spreadRow fu x0 2 (x1 &&& (v2 ^^^ (-1))) r50.2).bind fun r56 =>
    (f_X4_spreadRow fu x0 3 r30.1 r56.2).bind fun r63 =>
    (f_X4_oneSouth fu x0 r30.1 r63.2).bind fun r71 =>
    (f_X4_spreadRow fu x0 4 r71.1 r71.2).bind fun r74 =>
    some ((), r74.2)
  else none
set_option maxHeartbeats 4000000 in
set_option maxRecDepth 100000 in
theorem c_X4_spread (l : Launch) (D : Dx) (fu : Nat) (x0 : Nat) (x1 : Int64) (h : Hp) (out : Unit × Hp) (ho : f_X4_spread fu x0 x1 h = some out) : Ct l D yX4_spread cX4_spread 9 none rm_X4_spread [.ref x0, .long x1] h (evU out.1) out.2 := by
  refine Ct.of (o := f_X4_spread fu x0 x1 h) (lv := [some (.ref x0), some (.long x1), none, none, none, none, none, none, none]) (by decide) (Nat.le_of_ble_eq_true rfl) rfl ?_ out ho
  intro X hXl hE hin
  replace hE : En X D cX4_spread 9 RX4 none rm_X4_spread := hE
  subst hXl
  unfold f_X4_spread
  refine Wo_grd (fun _ => ?_)
  refine r_lload_n (pc := 0) hE dX4_spread_0 rfl ?_
  refine r_aload_n (pc := 1) hE dX4_spread_1 rfl ?_
  refine r_getJ (pc := 2) hE 4 5 (by decide) (by decide) (fun _ _ _ => rfl) fl_RX4_41 dX4_spread_2 (fun v2 _ => ?_)
  refine r_ldc2 (v := -1) (pc := 5) hE ct_RX4_85 dX4_spread_5 ?_
  refine r_lxor (pc := 8) hE dX4_spread_8 ?_
  refine r_land (pc := 9) hE dX4_spread_9 ?_
  refine r_lstore_n (pc := 10) hE dX4_spread_10 (by decide) ?_
  refine r_aload_n (pc := 11) hE dX4_spread_11 rfl ?_
  refine r_lload_n (pc := 12) hE dX4_spread_12 rfl ?_
  refine r_aload_n (pc := 13) hE dX4_spread_13 rfl ?_
  refine r_getJ (pc := 14) hE 4 5 (by decide) (by decide) (fun _ _ _ => rfl) fl_RX4_41 dX4_spread_14 (fun v14 _ => ?_)
  refine r_land (pc := 17) hE dX4_spread_17 ?_
  refine r_putJ (pc := 18) hE 4 18 (by decide) (by decide) (fun _ _ _ => rfl) fl_RX4_134 rfl rfl rfl dX4_spread_18 (fun h18 _ => ?_)
  refine r_aload_n (pc := 21) hE dX4_spread_21 rfl ?_
  refine r_lload_n (pc := 22) hE dX4_spread_22 rfl ?_
  refine r_callV (pc := 23) hE 4 (As := [.long (x1 &&& (v2 ^^^ (-1)))]) (fun out ho => c_X4_oneNorth _ _ fu _ _ _ out ho) (fun out ho => k_X4_oneNorth ho) (by decide) rfl cs_RX4_101 ⟨Nat.le_of_ble_eq_true rfl, Nat.le_of_ble_eq_true rfl, Nat.le_of_ble_eq_true rfl, Nat.le_of_ble_eq_true rfl⟩ (Nat.le_of_ble_eq_true rfl) rfl dX4_spread_23 (fun r23 _ => ?_)
  refine r_lstore (pc := 26) hE dX4_spread_26 (by decide) ?_
  refine r_aload_n (pc := 28) hE dX4_spread_28 rfl ?_
  refine r_lload_n (pc := 29) hE dX4_spread_29 rfl ?_
  refine r_callV (pc := 30) hE 4 (As := [.long (x1 &&& (v2 ^^^ (-1)))]) (fun out ho => c_X4_oneSouth _ _ fu _ _ _ out ho) (fun out ho => k_X4_oneSouth ho) (by decide) rfl cs_RX4_104 ⟨Nat.le_of_ble_eq_true rfl, Nat.le_of_ble_eq_true rfl, Nat.le_of_ble_eq_true rfl, Nat.le_of_ble_eq_true rfl⟩ (Nat.le_of_ble_eq_true rfl) rfl dX4_spread_30 (fun r30 _ => ?_)
  refine r_lstore (pc := 33) hE dX4_spread_33 (by decide) ?_
  refine r_aload_n (pc := 35) hE dX4_spread_35 rfl ?_
  refine r_iconst (v := 0) (pc := 36) hE dX4_spread_36 (by decide) ?_
  refine r_aload_n (pc := 37) hE dX4_spread_37 rfl ?_
  refine r_lload (pc := 38) hE dX4_spread_38 rfl ?_
  refine r_callV (pc := 40) hE 4 (As := [.long r23.1]) (fun out ho => c_X4_oneNorth _ _ fu _ _ _ out ho) (fun out ho => k_X4_oneNorth ho) (by decide) rfl cs_RX4_101 ⟨Nat.le_of_ble_eq_true rfl, Nat.le_of_ble_eq_true rfl, Nat.le_of_ble_eq_true rfl, Nat.le_of_ble_eq_true rfl⟩ (Nat.le_of_ble_eq_true rfl) rfl dX4_spread_40 (fun r40 _ => ?_)
  refine r_callV (pc := 43) hE 4 (As := [.int 0, .long r40.1]) (fun out ho => c_X4_spreadRow _ _ fu _ _ _ _ out ho) (fun out ho => k_X4_spreadRow ho) (by decide) rfl cs_RX4_137 ⟨Nat.le_of_ble_eq_true rfl, Nat.le_of_ble_eq_true rfl, Nat.le_of_ble_eq_true rfl, Nat.le_of_ble_eq_true rfl⟩ (Nat.le_of_ble_eq_true rfl) rfl dX4_spread_43 (fun r43 _ => ?_)
  refine r_aload_n (pc := 46) hE dX4_spread_46 rfl ?_
  refine r_iconst (v := 1) (pc := 47) hE dX4_spread_47 (by decide) ?_
  refine r_lload (pc := 48) hE dX4_spread_48 rfl ?_
  refine r_callV (pc := 50) hE 4 (As := [.int 1, .long r23.1]) (fun out ho => c_X4_spreadRow _ _ fu _ _ _ _ out ho) (fun out ho => k_X4_spreadRow ho) (by decide) rfl cs_RX4_137 ⟨Nat.le_of_ble_eq_true rfl, Nat.le_of_ble_eq_true rfl, Nat.le_of_ble_eq_true rfl, Nat.le_of_ble_eq_true rfl⟩ (Nat.le_of_ble_eq_true rfl) rfl dX4_spread_50 (fun r50 _ => ?_)
  refine r_aload_n (pc := 53) hE dX4_spread_53 rfl ?_
  refine r_iconst (v := 2) (pc := 54) hE dX4_spread_54 (by decide) ?_
  refine r_lload_n (pc := 55) hE dX4_spread_55 rfl ?_
  refine r_callV (pc := 56) hE 4 (As := [.int 2, .long (x1 &&& (v2 ^^^ (-1)))]) (fun out ho => c_X4_spreadRow _ _ fu _ _ _ _ out ho) (fun out ho => k_X4_spreadRow ho) (by decide) rfl cs_RX4_137 ⟨Nat.le_of_ble_eq_true rfl, Nat.le_of_ble_eq_true rfl, Nat.le_of_ble_eq_true rfl, Nat.le_of_ble_eq_true rfl⟩ (Nat.le_of_ble_eq_true rfl) rfl dX4_spread_56 (fun r56 _ => ?_)
  refine r_aload_n (pc := 59) hE dX4_spread_59 rfl ?_
  refine r_iconst (v := 3) (pc := 60) hE dX4_spread_60 (by decide) ?_
  refine r_lload (pc := 61) hE dX4_spread_61 rfl ?_
  refine r_callV (pc := 63) hE 4 (As := [.int 3, .long r30.1]) (fun out ho => c_X4_spreadRow _ _ fu _ _ _ _ out ho) (fun out ho => k_X4_spreadRow ho) (by decide) rfl cs_RX4_137 ⟨Nat.le_of_ble_eq_true rfl, Nat.le_of_ble_eq_true rfl, Nat.le_of_ble_eq_true rfl, Nat.le_of_ble_eq_true rfl⟩ (Nat.le_of_ble_eq_true rfl) rfl dX4_spread_63 (fun r63 _ => ?_)
  refine r_aload_n (pc := 66) hE dX4_spread_66 rfl ?_
  refine r_iconst (v := 4) (pc := 67) hE dX4_spread_67 (by decide) ?_
  refine r_aload_n (pc := 68) hE dX4_spread_68 rfl ?_
  refine r_lload (pc := 69) hE dX4_spread_69 rfl ?_
  refine r_callV (pc := 71) hE 4 (As := [.long r30.1]) (fun out ho => c_X4_oneSouth _ _ fu _ _ _ out ho) (fun out ho => k_X4_oneSouth ho) (by decide) rfl cs_RX4_104 ⟨Nat.le_of_ble_eq_true rfl, Nat.le_of_ble_eq_true rfl, Nat.le_of_ble_eq_true rfl, Nat.le_of_ble_eq_true rfl⟩ (Nat.le_of_ble_eq_true rfl) rfl dX4_spread_71 (fun r71 _ => ?_)
  refine r_callV (pc := 74) hE 4 (As := [.int 4, .long r71.1]) (fun out ho => c_X4_spreadRow _ _ fu _ _ _ _ out ho) (fun out ho => k_X4_spreadRow ho) (by decide) rfl cs_RX4_137 ⟨Nat.le_of_ble_eq_true rfl, Nat.le_of_ble_eq_true rfl, Nat.le_of_ble_eq_true rfl, Nat.le_of_ble_eq_true rfl⟩ (Nat.le_of_ble_eq_true rfl) rfl dX4_spread_74 (fun r74 _ => ?_)
  exact r_vret (pc := 77) hE dX4_spread_77
theorem k_X4_spread {fu : Nat} {x0 : Nat} {x1 : Int64} {h : Hp} {out : Unit × Hp} (ho : f_X4_spread fu x0 x1 h = some out) : h.K x0 = 4 := (gi_k ho).1
def rm_X4_shiftOf : Room := { frames := 0, cells := 0, slots := 0, locals := 0 }
def f_X4_shiftOf (fu : Nat) (x0 : Int32) (h : Hp) : Option (Int32 × Hp) :=
  some ((((x0 / 3) * 5) + (rem x0 3)), h)
set_option maxHeartbeats 4000000 in
set_option maxRecDepth 100000 in
theorem c_X4_shiftOf (l : Launch) (D : Dx) (fu : Nat) (x0 : Int32) (h : Hp) (out : Int32 × Hp) (ho : f_X4_shiftOf fu x0 h = some out) : Ct l D yX4_shiftOf cX4_shiftOf 1 (some .int) rm_X4_shiftOf [.int x0] h (evI out.1) out.2 := by
  refine Ct.of (o := f_X4_shiftOf fu x0 h) (lv := [some (.int x0)]) (by decide) (Nat.le_of_ble_eq_true rfl) rfl ?_ out ho
  intro X hXl hE hin
  replace hE : En X D cX4_shiftOf 1 RX4 (some .int) rm_X4_shiftOf := hE
  subst hXl
  unfold f_X4_shiftOf
  refine r_iload_n (pc := 0) hE dX4_shiftOf_0 rfl ?_
  refine r_iconst (v := 3) (pc := 1) hE dX4_shiftOf_1 (by decide) ?_
  refine r_idiv (pc := 2) hE dX4_shiftOf_2 (by decide) ?_
  refine r_iconst (v := 5) (pc := 3) hE dX4_shiftOf_3 (by decide) ?_
  refine r_imul (pc := 4) hE dX4_shiftOf_4 ?_
  refine r_iload_n (pc := 5) hE dX4_shiftOf_5 rfl ?_
  refine r_iconst (v := 3) (pc := 6) hE dX4_shiftOf_6 (by decide) ?_
  refine r_irem (pc := 7) hE dX4_shiftOf_7 (by decide) ?_
  refine r_iadd (pc := 8) hE dX4_shiftOf_8 ?_
  exact r_iret (pc := 9) hE dX4_shiftOf_9
theorem cs_RX4_141 : csS RX4 141 yX4_shiftOf cX4_shiftOf 1 (some .int) 1 = true := by decide +kernel
theorem cs_RX4_144 : csV RX4 144 yX4_driftsBy cX4_driftsBy 3 (some .boolean) 2 = true := by decide +kernel
def rm_X4_spreadBy : Room := { frames := 2, cells := 0, slots := 0, locals := 44 }
def f_X4_spreadBy_47 (fu : Nat) (k14 : Nat → Int32 → Int64 → Int32 → Int32 → Hp → Option (Int64 × Hp)) (x0 : Nat) (x2 : Int32) (x3 : Int64) (x5 : Int32) (x6 : Int32) (h : Hp) : Option (Int64 × Hp) :=
  k14 x0 x2 x3 x5 ((x6 + 1)) h
set_option maxHeartbeats 4000000 in
set_option maxRecDepth 100000 in
theorem w_X4_spreadBy_47 {X : Cx} {D : Dx} (hE : En X D cX4_spreadBy 7 RX4 (some .long) rm_X4_spreadBy) {fu : Nat} {k14 : Nat → Int32 → Int64 → Int32 → Int32 → Hp → Option (Int64 × Hp)} (hk14 : ∀ (x0 : Nat) (x2 : Int32) (x3 : Int64) (x5 : Int32) (x6 : Int32) (h : Hp) (lv : List (Option Value)), lvLe [some (.ref x0), none, some (.int x2), some (.long x3), none, some (.int x5), some (.int x6)] lv → Wo X D 7 (Qr X D 0 0 evJ) 0 0 (k14 x0 x2 x3 x5 x6 h) 14 lv [] h) (x0 : Nat) (x2 : Int32) (x3 : Int64) (x5 : Int32) (x6 : Int32) (h : Hp) {lv : List (Option Value)} (hlv : lvLe [some (.ref x0), none, some (.int x2), some (.long x3), none, some (.int x5), some (.int x6)] lv) : Wo X D 7 (Qr X D 0 0 evJ) 0 0 (f_X4_spreadBy_47 fu k14 x0 x2 x3 x5 x6 h) 47 lv [] h := by
  refine Wo_sub hlv ?_
  unfold f_X4_spreadBy_47
  refine r_iinc (v := (x6 + 1)) (pc := 47) hE dX4_spreadBy_47 rfl rfl (by decide) ?_
  refine r_goto (pc := 50) hE 14 dX4_spreadBy_50 (by decide) ?_
  exact hk14 _ _ _ _ _ _ _ ⟨rfl, ⟨rfl, ⟨rfl, ⟨rfl, ⟨rfl, trivial⟩⟩⟩⟩⟩
def f_X4_spreadBy_14 (fu : Nat) : Nat → Nat → Int32 → Int64 → Int32 → Int32 → Hp → Option (Int64 × Hp)
  | 0, _, _, _, _, _, _ => none
  | n + 1, x0, x2, x3, x5, x6, h =>
    if 9 ≤ x6 then
      some (x3, h)
    else
      (f_X4_driftsBy fu x0 x2 x6 h).bind fun r25 =>
      if r25.1 = 0 then
        f_X4_spreadBy_47 fu (fun y0 y1 y2 y3 y4 hy => f_X4_spreadBy_14 fu n y0 y1 y2 y3 y4 hy) x0 x2 x3 x5 x6 r25.2
      else
        (gR r25.2 4 x0 19).bind fun v33 =>
        (f_X4_shiftOf fu x6 r25.2).bind fun r40 =>
        (aJ r40.2 9 v33 (x5 + r40.1)).bind fun v44 =>
        f_X4_spreadBy_47 fu (fun y0 y1 y2 y3 y4 hy => f_X4_spreadBy_14 fu n y0 y1 y2 y3 y4 hy) x0 x2 ((x3 ||| v44)) x5 x6 r40.2
set_option maxHeartbeats 4000000 in
set_option maxRecDepth 100000 in
theorem w_X4_spreadBy_14 {X : Cx} {D : Dx} (hE : En X D cX4_spreadBy 7 RX4 (some .long) rm_X4_spreadBy) {fu : Nat} : ∀ (n : Nat) (x0 : Nat) (x2 : Int32) (x3 : Int64) (x5 : Int32) (x6 : Int32) (h : Hp) (lv : List (Option Value)), lvLe [some (.ref x0), none, some (.int x2), some (.long x3), none, some (.int x5), some (.int x6)] lv → Wo X D 7 (Qr X D 0 0 evJ) 0 0 (f_X4_spreadBy_14 fu n x0 x2 x3 x5 x6 h) 14 lv [] h := by
  intro n
  induction n with
  | zero => intros; exact Wo_none
  | succ n ih =>
    intro x0 x2 x3 x5 x6 h lv hlv
    refine Wo_sub hlv ?_
    rw [f_X4_spreadBy_14]
    refine r_iload (pc := 14) hE dX4_spreadBy_14 rfl ?_
    refine r_bipush (v := 9) (pc := 16) hE dX4_spreadBy_16 (by decide) ?_
    refine r_icmp_ge (pc := 18) hE 53 dX4_spreadBy_18 (by decide) (fun _ => ?_) (fun _ => ?_)
    · refine r_lload_n (pc := 53) hE dX4_spreadBy_53 rfl ?_
      exact r_lret (pc := 54) hE dX4_spreadBy_54
    · refine r_aload_n (pc := 21) hE dX4_spreadBy_21 rfl ?_
      refine r_iload_n (pc := 22) hE dX4_spreadBy_22 rfl ?_
      refine r_iload (pc := 23) hE dX4_spreadBy_23 rfl ?_
      refine r_callV (pc := 25) hE 4 (As := [.int x2, .int x6]) (fun out ho => c_X4_driftsBy _ _ fu _ _ _ _ out ho) (fun out ho => k_X4_driftsBy ho) (by decide) rfl cs_RX4_144 ⟨Nat.le_of_ble_eq_true rfl, Nat.le_of_ble_eq_true rfl, Nat.le_of_ble_eq_true rfl, Nat.le_of_ble_eq_true rfl⟩ (Nat.le_of_ble_eq_true rfl) rfl dX4_spreadBy_25 (fun r25 _ => ?_)
      refine r_if_eq (pc := 28) hE 47 dX4_spreadBy_28 (by decide) (fun _ => ?_) (fun _ => ?_)
      · exact w_X4_spreadBy_47 hE (fun y0 y1 y2 y3 y4 hy lvy hly => ih y0 y1 y2 y3 y4 hy lvy hly) _ _ _ _ _ _ ⟨rfl, ⟨rfl, ⟨rfl, ⟨rfl, ⟨rfl, trivial⟩⟩⟩⟩⟩
      · refine r_lload_n (pc := 31) hE dX4_spreadBy_31 rfl ?_
        refine r_aload_n (pc := 32) hE dX4_spreadBy_32 rfl ?_
        refine r_getR (pc := 33) hE 4 19 (by decide) (by decide) (fun _ _ _ => rfl) fl_RX4_27 dX4_spreadBy_33 (fun v33 _ => ?_)
        refine r_iload (pc := 36) hE dX4_spreadBy_36 rfl ?_
        refine r_iload (pc := 38) hE dX4_spreadBy_38 rfl ?_
        refine r_callS (pc := 40) hE (As := [.int x6]) (fun out ho => c_X4_shiftOf _ _ fu _ _ out ho) cs_RX4_141 ⟨Nat.le_of_ble_eq_true rfl, Nat.le_of_ble_eq_true rfl, Nat.le_of_ble_eq_true rfl, Nat.le_of_ble_eq_true rfl⟩ (Nat.le_of_ble_eq_true rfl) rfl dX4_spreadBy_40 (fun r40 _ => ?_)
        refine r_iadd (pc := 43) hE dX4_spreadBy_43 ?_
        refine r_aldJ (pc := 44) hE dX4_spreadBy_44 (fun v44 _ => ?_)
        refine r_lor (pc := 45) hE dX4_spreadBy_45 ?_
        refine r_lstore_n (pc := 46) hE dX4_spreadBy_46 (by decide) ?_
        exact w_X4_spreadBy_47 hE (fun y0 y1 y2 y3 y4 hy lvy hly => ih y0 y1 y2 y3 y4 hy lvy hly) _ _ _ _ _ _ ⟨rfl, ⟨rfl, ⟨rfl, ⟨rfl, ⟨rfl, trivial⟩⟩⟩⟩⟩
def f_X4_spreadBy (fu : Nat) (x0 : Nat) (x1 : Int32) (x2 : Int32) (h : Hp) : Option (Int64 × Hp) :=
  if h.K x0 = 4 then
    (gJ h 4 x0 18).bind fun v1 =>
    (f_X4_shiftOf fu x1 h).bind fun r6 =>
    f_X4_spreadBy_14 fu fu x0 x2 v1 r6.1 0 r6.2
  else none
set_option maxHeartbeats 4000000 in
set_option maxRecDepth 100000 in
theorem c_X4_spreadBy (l : Launch) (D : Dx) (fu : Nat) (x0 : Nat) (x1 : Int32) (x2 : Int32) (h : Hp) (out : Int64 × Hp) (ho : f_X4_spreadBy fu x0 x1 x2 h = some out) : Ct l D yX4_spreadBy cX4_spreadBy 7 (some .long) rm_X4_spreadBy [.ref x0, .int x1, .int x2] h (evJ out.1) out.2 := by
  refine Ct.of (o := f_X4_spreadBy fu x0 x1 x2 h) (lv := [some (.ref x0), some (.int x1), some (.int x2), none, none, none, none]) (by decide) (Nat.le_of_ble_eq_true rfl) rfl ?_ out ho
  intro X hXl hE hin
  replace hE : En X D cX4_spreadBy 7 RX4 (some .long) rm_X4_spreadBy := hE
  subst hXl
  unfold f_X4_spreadBy
  refine Wo_grd (fun _ => ?_)
  refine r_aload_n (pc := 0) hE dX4_spreadBy_0 rfl ?_
  refine r_getJ (pc := 1) hE 4 18 (by decide) (by decide) (fun _ _ _ => rfl) fl_RX4_134 dX4_spreadBy_1 (fun v1 _ => ?_)
  refine r_lstore_n (pc := 4) hE dX4_spreadBy_4 (by decide) ?_
  refine r_iload_n (pc := 5) hE dX4_spreadBy_5 rfl ?_
  refine r_callS (pc := 6) hE (As := [.int x1]) (fun out ho => c_X4_shiftOf _ _ fu _ _ out ho) cs_RX4_141 ⟨Nat.le_of_ble_eq_true rfl, Nat.le_of_ble_eq_true rfl, Nat.le_of_ble_eq_true rfl, Nat.le_of_ble_eq_true rfl⟩ (Nat.le_of_ble_eq_true rfl) rfl dX4_spreadBy_6 (fun r6 _ => ?_)
  refine r_istore (pc := 9) hE dX4_spreadBy_9 (by decide) ?_
  refine r_iconst (v := 0) (pc := 11) hE dX4_spreadBy_11 (by decide) ?_
  refine r_istore (pc := 12) hE dX4_spreadBy_12 (by decide) ?_
  exact w_X4_spreadBy_14 hE fu _ _ _ _ _ _ _ ⟨rfl, ⟨rfl, ⟨rfl, ⟨rfl, ⟨rfl, trivial⟩⟩⟩⟩⟩
theorem k_X4_spreadBy {fu : Nat} {x0 : Nat} {x1 : Int32} {x2 : Int32} {h : Hp} {out : Int64 × Hp} (ho : f_X4_spreadBy fu x0 x1 x2 h = some out) : h.K x0 = 4 := (gi_k ho).1
