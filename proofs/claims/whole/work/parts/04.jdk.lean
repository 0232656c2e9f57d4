theorem ct_RJ13_314 : Cond.constantLong RJ13 314 (6148914691236517205) ∈ TB := tb_in (by decide +kernel) rfl
theorem ct_RJ13_316 : Cond.constantLong RJ13 316 (3689348814741910323) ∈ TB := tb_in (by decide +kernel) rfl
theorem ct_RJ13_318 : Cond.constantLong RJ13 318 (1085102592571150095) ∈ TB := tb_in (by decide +kernel) rfl
def rm_J13_bitCount_95d88 : Room := { frames := 0, cells := 0, slots := 0, locals := 0 }
def f_J13_bitCount_95d88_55 (fu : Nat) (x0 : Int64) (h : Hp) : Option (Int32 × Hp) :=
  some (((Int64.toInt32 x0) &&& 127), h)
set_option maxHeartbeats 4000000 in
set_option maxRecDepth 100000 in
theorem w_J13_bitCount_95d88_55 {X : Cx} {D : Dx} (hE : En X D cJ13_bitCount_95d88 2 RJ13 (some .int) rm_J13_bitCount_95d88) {fu : Nat} (x0 : Int64) (h : Hp) {lv : List (Option Value)} (hlv : lvLe [some (.long x0), none] lv) : Wo X D 2 (Qr X D 0 0 evI) 0 0 (f_J13_bitCount_95d88_55 fu x0 h) 55 lv [] h := by
  refine Wo_sub hlv ?_
  unfold f_J13_bitCount_95d88_55
  refine r_lload_n (pc := 55) hE dJ13_bitCount_95d88_55 rfl ?_
  refine r_l2i (pc := 56) hE dJ13_bitCount_95d88_56 ?_
  refine r_bipush (v := 127) (pc := 57) hE dJ13_bitCount_95d88_57 (by decide) ?_
  refine r_iand (pc := 59) hE dJ13_bitCount_95d88_59 ?_
  exact r_iret (pc := 60) hE dJ13_bitCount_95d88_60
def f_J13_bitCount_95d88_48 (fu : Nat) (x0 : Int64) (h : Hp) : Option (Int32 × Hp) :=
  f_J13_bitCount_95d88_55 fu ((x0 + (lush x0 32))) h
set_option maxHeartbeats 4000000 in
set_option maxRecDepth 100000 in
theorem w_J13_bitCount_95d88_48 {X : Cx} {D : Dx} (hE : En X D cJ13_bitCount_95d88 2 RJ13 (some .int) rm_J13_bitCount_95d88) {fu : Nat} (x0 : Int64) (h : Hp) {lv : List (Option Value)} (hlv : lvLe [some (.long x0), none] lv) : Wo X D 2 (Qr X D 0 0 evI) 0 0 (f_J13_bitCount_95d88_48 fu x0 h) 48 lv [] h := by
  refine Wo_sub hlv ?_
  unfold f_J13_bitCount_95d88_48
  refine r_lload_n (pc := 48) hE dJ13_bitCount_95d88_48 rfl ?_
  refine r_lload_n (pc := 49) hE dJ13_bitCount_95d88_49 rfl ?_
  refine r_bipush (v := 32) (pc := 50) hE dJ13_bitCount_95d88_50 (by decide) ?_
  refine r_lushr (pc := 52) hE dJ13_bitCount_95d88_52 ?_
  refine r_ladd (pc := 53) hE dJ13_bitCount_95d88_53 ?_
  refine r_lstore_n (pc := 54) hE dJ13_bitCount_95d88_54 (by decide) ?_
  exact w_J13_bitCount_95d88_55 hE _ _ ⟨rfl, trivial⟩
def f_J13_bitCount_95d88_41 (fu : Nat) (x0 : Int64) (h : Hp) : Option (Int32 × Hp) :=
  f_J13_bitCount_95d88_48 fu ((x0 + (lush x0 16))) h
set_option maxHeartbeats 4000000 in
set_option maxRecDepth 100000 in
theorem w_J13_bitCount_95d88_41 {X : Cx} {D : Dx} (hE : En X D cJ13_bitCount_95d88 2 RJ13 (some .int) rm_J13_bitCount_95d88) {fu : Nat} (x0 : Int64) (h : Hp) {lv : List (Option Value)} (hlv : lvLe [some (.long x0), none] lv) : Wo X D 2 (Qr X D 0 0 evI) 0 0 (f_J13_bitCount_95d88_41 fu x0 h) 41 lv [] h := by
  refine Wo_sub hlv ?_
  unfold f_J13_bitCount_95d88_41
  refine r_lload_n (pc := 41) hE dJ13_bitCount_95d88_41 rfl ?_
  refine r_lload_n (pc := 42) hE dJ13_bitCount_95d88_42 rfl ?_
  refine r_bipush (v := 16) (pc := 43) hE dJ13_bitCount_95d88_43 (by decide) ?_
  refine r_lushr (pc := 45) hE dJ13_bitCount_95d88_45 ?_
  refine r_ladd (pc := 46) hE dJ13_bitCount_95d88_46 ?_
  refine r_lstore_n (pc := 47) hE dJ13_bitCount_95d88_47 (by decide) ?_
  exact w_J13_bitCount_95d88_48 hE _ _ ⟨rfl, trivial⟩
def f_J13_bitCount_95d88_34 (fu : Nat) (x0 : Int64) (h : Hp) : Option (Int32 × Hp) :=
  f_J13_bitCount_95d88_41 fu ((x0 + (lush x0 8))) h
set_option maxHeartbeats 4000000 in
set_option maxRecDepth 100000 in
theorem w_J13_bitCount_95d88_34 {X : Cx} {D : Dx} (hE : En X D cJ13_bitCount_95d88 2 RJ13 (some .int) rm_J13_bitCount_95d88) {fu : Nat} (x0 : Int64) (h : Hp) {lv : List (Option Value)} (hlv : lvLe [some (.long x0), none] lv) : Wo X D 2 (Qr X D 0 0 evI) 0 0 (f_J13_bitCount_95d88_34 fu x0 h) 34 lv [] h := by
  refine Wo_sub hlv ?_
  unfold f_J13_bitCount_95d88_34
  refine r_lload_n (pc := 34) hE dJ13_bitCount_95d88_34 rfl ?_
  refine r_lload_n (pc := 35) hE dJ13_bitCount_95d88_35 rfl ?_
  refine r_bipush (v := 8) (pc := 36) hE dJ13_bitCount_95d88_36 (by decide) ?_
  refine r_lushr (pc := 38) hE dJ13_bitCount_95d88_38 ?_
  refine r_ladd (pc := 39) hE dJ13_bitCount_95d88_39 ?_
  refine r_lstore_n (pc := 40) hE dJ13_bitCount_95d88_40 (by decide) ?_
  exact w_J13_bitCount_95d88_41 hE _ _ ⟨rfl, trivial⟩
def f_J13_bitCount_95d88_24 (fu : Nat) (x0 : Int64) (h : Hp) : Option (Int32 × Hp) :=
  f_J13_bitCount_95d88_34 fu (((x0 + (lush x0 4)) &&& 1085102592571150095)) h
set_option maxHeartbeats 4000000 in
set_option maxRecDepth 100000 in
theorem w_J13_bitCount_95d88_24 {X : Cx} {D : Dx} (hE : En X D cJ13_bitCount_95d88 2 RJ13 (some .int) rm_J13_bitCount_95d88) {fu : Nat} (x0 : Int64) (h : Hp) {lv : List (Option Value)} (hlv : lvLe [some (.long x0), none] lv) : Wo X D 2 (Qr X D 0 0 evI) 0 0 (f_J13_bitCount_95d88_24 fu x0 h) 24 lv [] h := by
  refine Wo_sub hlv ?_
  unfold f_J13_bitCount_95d88_24
  refine r_lload_n (pc := 24) hE dJ13_bitCount_95d88_24 rfl ?_
  refine r_lload_n (pc := 25) hE dJ13_bitCount_95d88_25 rfl ?_
  refine r_iconst (v := 4) (pc := 26) hE dJ13_bitCount_95d88_26 (by decide) ?_
  refine r_lushr (pc := 27) hE dJ13_bitCount_95d88_27 ?_
  refine r_ladd (pc := 28) hE dJ13_bitCount_95d88_28 ?_
  refine r_ldc2 (v := 1085102592571150095) (pc := 29) hE ct_RJ13_318 dJ13_bitCount_95d88_29 ?_
  refine r_land (pc := 32) hE dJ13_bitCount_95d88_32 ?_
  refine r_lstore_n (pc := 33) hE dJ13_bitCount_95d88_33 (by decide) ?_
  exact w_J13_bitCount_95d88_34 hE _ _ ⟨rfl, trivial⟩
def f_J13_bitCount_95d88_10 (fu : Nat) (x0 : Int64) (h : Hp) : Option (Int32 × Hp) :=
  f_J13_bitCount_95d88_24 fu (((x0 &&& 3689348814741910323) + ((lush x0 2) &&& 3689348814741910323))) h
set_option maxHeartbeats 4000000 in
set_option maxRecDepth 100000 in
theorem w_J13_bitCount_95d88_10 {X : Cx} {D : Dx} (hE : En X D cJ13_bitCount_95d88 2 RJ13 (some .int) rm_J13_bitCount_95d88) {fu : Nat} (x0 : Int64) (h : Hp) {lv : List (Option Value)} (hlv : lvLe [some (.long x0), none] lv) : Wo X D 2 (Qr X D 0 0 evI) 0 0 (f_J13_bitCount_95d88_10 fu x0 h) 10 lv [] h := by
  refine Wo_sub hlv ?_
  unfold f_J13_bitCount_95d88_10
  refine r_lload_n (pc := 10) hE dJ13_bitCount_95d88_10 rfl ?_
  refine r_ldc2 (v := 3689348814741910323) (pc := 11) hE ct_RJ13_316 dJ13_bitCount_95d88_11 ?_
  refine r_land (pc := 14) hE dJ13_bitCount_95d88_14 ?_
  refine r_lload_n (pc := 15) hE dJ13_bitCount_95d88_15 rfl ?_
  refine r_iconst (v := 2) (pc := 16) hE dJ13_bitCount_95d88_16 (by decide) ?_
  refine r_lushr (pc := 17) hE dJ13_bitCount_95d88_17 ?_
  refine r_ldc2 (v := 3689348814741910323) (pc := 18) hE ct_RJ13_316 dJ13_bitCount_95d88_18 ?_
  refine r_land (pc := 21) hE dJ13_bitCount_95d88_21 ?_
  refine r_ladd (pc := 22) hE dJ13_bitCount_95d88_22 ?_
  refine r_lstore_n (pc := 23) hE dJ13_bitCount_95d88_23 (by decide) ?_
  exact w_J13_bitCount_95d88_24 hE _ _ ⟨rfl, trivial⟩
def f_J13_bitCount_95d88 (fu : Nat) (x0 : Int64) (h : Hp) : Option (Int32 × Hp) :=
  f_J13_bitCount_95d88_10 fu ((x0 - ((lush x0 1) &&& 6148914691236517205))) h
set_option maxHeartbeats 4000000 in
set_option maxRecDepth 100000 in
theorem c_J13_bitCount_95d88 (l : Launch) (D : Dx) (fu : Nat) (x0 : Int64) (h : Hp) (out : Int32 × Hp) (ho : f_J13_bitCount_95d88 fu x0 h = some out) : Ct l D yJ13_bitCount_95d88 cJ13_bitCount_95d88 2 (some .int) rm_J13_bitCount_95d88 [.long x0] h (evI out.1) out.2 := by
  refine Ct.of (o := f_J13_bitCount_95d88 fu x0 h) (lv := [some (.long x0), none]) (by decide) (Nat.le_of_ble_eq_true rfl) rfl ?_ out ho
  intro X hXl hE hin
  replace hE : En X D cJ13_bitCount_95d88 2 RJ13 (some .int) rm_J13_bitCount_95d88 := hE
  subst hXl
  unfold f_J13_bitCount_95d88
  refine r_lload_n (pc := 0) hE dJ13_bitCount_95d88_0 rfl ?_
  refine r_lload_n (pc := 1) hE dJ13_bitCount_95d88_1 rfl ?_
  refine r_iconst (v := 1) (pc := 2) hE dJ13_bitCount_95d88_2 (by decide) ?_
  refine r_lushr (pc := 3) hE dJ13_bitCount_95d88_3 ?_
  refine r_ldc2 (v := 6148914691236517205) (pc := 4) hE ct_RJ13_314 dJ13_bitCount_95d88_4 ?_
  refine r_land (pc := 7) hE dJ13_bitCount_95d88_7 ?_
  refine r_lsub (pc := 8) hE dJ13_bitCount_95d88_8 ?_
  refine r_lstore_n (pc := 9) hE dJ13_bitCount_95d88_9 (by decide) ?_
  exact w_J13_bitCount_95d88_10 hE _ _ ⟨rfl, trivial⟩
def rm_J7_fill_53178 : Room := { frames := 0, cells := 0, slots := 0, locals := 0 }
def f_J7_fill_53178_5 (fu : Nat) : Nat → Nat → Int32 → Int32 → Int32 → Hp → Option (Unit × Hp)
  | 0, _, _, _, _, _ => none
  | n + 1, x0, x1, x2, x3, h =>
    if x3 ≤ x2 then
      some ((), h)
    else
      (sI h 8 x0 x2 x1).bind fun h13 =>
      f_J7_fill_53178_5 fu n x0 x1 ((x2 + 1)) x3 h13
set_option maxHeartbeats 4000000 in
set_option maxRecDepth 100000 in
theorem w_J7_fill_53178_5 {X : Cx} {D : Dx} (hE : En X D cJ7_fill_53178 4 RJ7 none rm_J7_fill_53178) {fu : Nat} : ∀ (n : Nat) (x0 : Nat) (x1 : Int32) (x2 : Int32) (x3 : Int32) (h : Hp) (lv : List (Option Value)), lvLe [some (.ref x0), some (.int x1), some (.int x2), some (.int x3)] lv → Wo X D 4 (Qr X D 0 0 evU) 0 0 (f_J7_fill_53178_5 fu n x0 x1 x2 x3 h) 5 lv [] h := by
  intro n
  induction n with
  | zero => intros; exact Wo_none
  | succ n ih =>
    intro x0 x1 x2 x3 h lv hlv
    refine Wo_sub hlv ?_
    rw [f_J7_fill_53178_5]
    refine r_iload_n (pc := 5) hE dJ7_fill_53178_5 rfl ?_
    refine r_iload_n (pc := 6) hE dJ7_fill_53178_6 rfl ?_
    refine r_icmp_ge (pc := 7) hE 20 dJ7_fill_53178_7 (by decide) (fun _ => ?_) (fun _ => ?_)
    · exact r_vret (pc := 20) hE dJ7_fill_53178_20
    · refine r_aload_n (pc := 10) hE dJ7_fill_53178_10 rfl ?_
      refine r_iload_n (pc := 11) hE dJ7_fill_53178_11 rfl ?_
      refine r_iload_n (pc := 12) hE dJ7_fill_53178_12 rfl ?_
      refine r_astI (pc := 13) hE dJ7_fill_53178_13 (fun h13 _ => ?_)
      refine r_iinc (v := (x2 + 1)) (pc := 14) hE dJ7_fill_53178_14 rfl rfl (by decide) ?_
      refine r_goto (pc := 17) hE 5 dJ7_fill_53178_17 (by decide) ?_
      exact ih _ _ _ _ _ _ ⟨rfl, ⟨rfl, ⟨rfl, ⟨rfl, trivial⟩⟩⟩⟩
def f_J7_fill_53178 (fu : Nat) (x0 : Nat) (x1 : Int32) (h : Hp) : Option (Unit × Hp) :=
  (aN h x0).bind fun v3 =>
  f_J7_fill_53178_5 fu fu x0 x1 0 v3 h
set_option maxHeartbeats 4000000 in
set_option maxRecDepth 100000 in
theorem c_J7_fill_53178 (l : Launch) (D : Dx) (fu : Nat) (x0 : Nat) (x1 : Int32) (h : Hp) (out : Unit × Hp) (ho : f_J7_fill_53178 fu x0 x1 h = some out) : Ct l D yJ7_fill_53178 cJ7_fill_53178 4 none rm_J7_fill_53178 [.ref x0, .int x1] h (evU out.1) out.2 := by
  refine Ct.of (o := f_J7_fill_53178 fu x0 x1 h) (lv := [some (.ref x0), some (.int x1), none, none]) (by decide) (Nat.le_of_ble_eq_true rfl) rfl ?_ out ho
  intro X hXl hE hin
  replace hE : En X D cJ7_fill_53178 4 RJ7 none rm_J7_fill_53178 := hE
  subst hXl
  unfold f_J7_fill_53178
  refine r_iconst (v := 0) (pc := 0) hE dJ7_fill_53178_0 (by decide) ?_
  refine r_istore_n (pc := 1) hE dJ7_fill_53178_1 (by decide) ?_
  refine r_aload_n (pc := 2) hE dJ7_fill_53178_2 rfl ?_
  refine r_alen (pc := 3) hE dJ7_fill_53178_3 (fun v3 _ => ?_)
  refine r_istore_n (pc := 4) hE dJ7_fill_53178_4 (by decide) ?_
  exact w_J7_fill_53178_5 hE fu _ _ _ _ _ _ ⟨rfl, ⟨rfl, ⟨rfl, ⟨rfl, trivial⟩⟩⟩⟩
