/-! THE STRINGS' OWN METHODS: length() and charAt(k) of the six words -/
def slen (i : Nat) : Int32 := Int32.ofNat (lenS.getD i 0)
def sch (i : Nat) (k : Int32) : Int32 := i2ch (((bytS.getD i []).getD k.toNatClampNeg 0) &&& 255)
theorem slen_shr : ∀ i, i < 6 → slen i >>> ((0 : Int32) &&& 31) = slen i := by decide
def RS : String := "java/lang/String"
section STR
variable {ρ : Type} {X : Cx} {D : Dx} {cc : ByteArray} {nL : Nat} {own : String} {rt : Option FieldType} {rm : Room} {Q : ρ × Hp → State → Prop} {cells slots : Nat} {o o1 o2 : Option (ρ × Hp)} {pc : Nat} {lv : List (Option Value)} {st : List Value} {h : Hp}
theorem Wo_n {c : Prop} [i : Decidable c] (hc : ¬ c) (k : Wo X D nL Q cells slots (@ite _ c i (none : Option (ρ × Hp)) o) pc lv st h) : Wo X D nL Q cells slots o pc lv st h := by rw [if_neg hc] at k; exact k
theorem Wo_y {c : Prop} [i : Decidable c] (hc : c) (k : Wo X D nL Q cells slots (@ite _ c i o (none : Option (ρ × Hp))) pc lv st h) : Wo X D nL Q cells slots o pc lv st h := by rw [if_pos hc] at k; exact k
theorem r_gstat (hE : En X D cc nL own rt rm) {idx : Nat} (hl : Cond.fieldLink own idx "java/lang/String" "COMPACT_STRINGS" "Z" ∈ TB) (hd : decode cc pc = .ok (.getstatic idx, 3)) (k : Wo X D nL Q cells slots o (pc + 3) lv (.int 1 :: st) h) : Wo X D nL Q cells slots o pc lv st h := fun out ho H locs ls hP hS hlv =>
  va_gets hE.1 hE.2.1 hE.2.2.2.2.2.2.2.2.2.1.2.1 hS hE.2.2.2.1 (hE.2.2.2.2.1 _ hl) (fun _ h9 => h9) hd (k out ho H locs ls hP hS hlv)
theorem r_gfmt (hE : En X D cc nL own rt rm) {idx : Nat} (hl : Cond.fieldLink own idx "jdk/internal/util/Preconditions" "SIOOBE_FORMATTER" "Ljava/util/function/BiFunction;" ∈ TB) (hd : decode cc pc = .ok (.getstatic idx, 3)) (k : ∀ q : Option Nat, Wo X D nL Q cells slots o (pc + 3) lv (va_rf q :: st) h) : Wo X D nL Q cells slots o pc lv st h := fun out ho H locs ls hP hS hlv => by
  rcases hE.2.2.2.2.2.2.2.2.2.1.2.2 with hz | ⟨t, hz⟩
  · exact va_gets hE.1 hE.2.1 hz hS hE.2.2.2.1 (hE.2.2.2.2.1 _ hl) (fun _ h9 => h9) hd (k none out ho H locs ls hP hS hlv)
  · exact va_gets hE.1 hE.2.1 hz hS hE.2.2.2.1 (hE.2.2.2.2.1 _ hl) (fun _ h9 => h9) hd (k (some t) out ho H locs ls hP hS hlv)
theorem r_sval (hE : En X D cc nL own rt rm) {i idx : Nat} (hi : i < 6) (hl : Cond.fieldLink own idx "java/lang/String" "value" "[B" ∈ TB) (hd : decode cc pc = .ok (.getfield idx, 3)) (k : Wo X D nL Q cells slots o (pc + 3) lv (.ref (D.2.2.2.2 i) :: st) h) : Wo X D nL Q cells slots o pc lv (.ref (D.2.2.2.1 i) :: st) h := fun out ho H locs ls hP hS hlv =>
  vk_getf hE.1 hE.2.1 (hE.2.2.2.2.2.2.2.2.2.1.1.1 i hi).2.2.1 hS hE.2.2.2.1 (hE.2.2.2.2.1 _ hl) (fun _ h9 => h9) hd (k out ho H locs ls hP hS hlv)
theorem r_scod (hE : En X D cc nL own rt rm) {i idx : Nat} (hi : i < 6) (hl : Cond.fieldLink own idx "java/lang/String" "coder" "B" ∈ TB) (hd : decode cc pc = .ok (.getfield idx, 3)) (k : Wo X D nL Q cells slots o (pc + 3) lv (.int 0 :: st) h) : Wo X D nL Q cells slots o pc lv (.ref (D.2.2.2.1 i) :: st) h := fun out ho H locs ls hP hS hlv =>
  vk_getf hE.1 hE.2.1 (hE.2.2.2.2.2.2.2.2.2.1.1.1 i hi).2.1 hS hE.2.2.2.1 (hE.2.2.2.2.1 _ hl) (fun _ h9 => h9) hd (k out ho H locs ls hP hS hlv)
theorem r_slen (hE : En X D cc nL own rt rm) {i : Nat} (hi : i < 6) (hd : decode cc pc = .ok (.arraylength, 1)) (k : Wo X D nL Q cells slots o (pc + 1) lv (.int (slen i) :: st) h) : Wo X D nL Q cells slots o pc lv (.ref (D.2.2.2.2 i) :: st) h := fun out ho H locs ls hP hS hlv =>
  va_tlen hE.1 hE.2.1 (hE.2.2.2.2.2.2.2.2.2.1.1.1 i hi).2.2.2 hS rfl hd (k out ho H locs ls hP hS hlv)
theorem r_sbyt (hE : En X D cc nL own rt rm) {i : Nat} {j : Int32} (hi : i < 6) (hj : 0 ≤ j.toInt ∧ j.toInt < (lenS.getD i 0 : Int)) (hd : decode cc pc = .ok (.baload, 1)) (k : Wo X D nL Q cells slots o (pc + 1) lv (.int ((bytS.getD i []).getD j.toNatClampNeg 0) :: st) h) : Wo X D nL Q cells slots o pc lv (.int j :: .ref (D.2.2.2.2 i) :: st) h := fun out ho H locs ls hP hS hlv =>
  va_tb hE.1 hE.2.1 (hE.2.2.2.2.2.2.2.2.2.1.1.1 i hi).2.2.2 hS (vp_in_iff.mpr hj) rfl hd (k out ho H locs ls hP hS hlv)
theorem r_nret {ty : FieldType} (hE : En X D cc nL own (some ty) rm) {x : Int32} (hx : narrow ty (.int x) = .int x) (hd : decode cc pc = .ok (.ireturn, 1)) : Wo X D nL (Qr X D cells slots evI) cells slots (some (x, h)) pc lv [.int x] h := fun out ho H locs ls hP hS hl => by
  cases ho
  exact W.zret hE.1 hE.2.1 hE.2.2.2.2.2.2.2.1 hx (fun t ht hW => ⟨rfl, by rw [ht]; exact hP, hS.F ht⟩) hS.2.2 hd hE.2.2.2.2.2.2.2.2.1
variable {σ : Type} {y : MethodName} {bytes : ByteArray} {maxL idx i : Nat} {ret : Option FieldType} {rc : Room} {As : List Value} {ev' : σ → Option Value} {fo : Option (σ × Hp)} {g : σ × Hp → Option (ρ × Hp)}
theorem r_callVS (hE : En X D cc nL own rt rm) (hM : ∀ out, fo = some out → Ct X.l D y bytes maxL ret rc (.ref (D.2.2.2.1 i) :: As) h (ev' out.1) out.2) (hKb : ∀ out, fo = some out → i < 6) (hyc : y.cls = RS) (hw : csV own idx y bytes maxL ret As.length = true) (hr : rOk rc rm maxL cells slots) (hst : (st.map fun v => v.category).sum ≤ 8) {st0 : List Value} (he : st0 = As.reverse ++ .ref (D.2.2.2.1 i) :: st) (hd : decode cc pc = .ok (.invokevirtual idx, 3))
    (kk : ∀ x, fo = some x → Wo X D nL Q (cells + rc.cells) (slots + rc.slots) (g x) (pc + 3) lv ((ev' x.1).toList ++ st) x.2) : Wo X D nL Q cells slots (fo.bind g) pc lv st0 h := fun out ho H locs ls hP hS hl => by
  obtain ⟨x, h1, h2⟩ := ob_k ho
  simp only [csV, Bool.and_eq_true] at hw
  have hm := inT_mem hw.1
  subst he
  have hpre := pre_x hE hP hS (.ref (D.2.2.2.1 i) :: As)
  have hrec := vk_recv hE.2.2.2.2.2.2.2.2.2.1.1 (hKb x h1) hS
  refine run_go (va_runV (C := y.cls) (As := As) (rest := st) ⟨hE.1, hE.2.1, hE.2.2.1, hE.2.2.2.1, hE.2.2.2.2.1⟩ (hM x h1) ⟨callB_x hE (hm _ (by simp)) (hm _ (by simp)) (hm _ (by simp)) hw.2 hr, hE.2.2.2.2.1 _ (hm _ (by simp)), hE.2.2.2.2.1 _ (hm _ (by simp))⟩ ⟨hpre.1, by rw [hyc]; exact hrec, hpre.2⟩ rfl rfl hl.1 rfl (lv_room hst) hd ⟨by rw [hE.2.2.2.2.2.2.2.2.2.2]; exact hr.2.2.1, by rw [hE.2.2.2.2.2.2.2.2.2.2]; exact hr.2.2.2⟩) hS fun H1 locs1 hP1 hS1 => kk x h1 out h2 H1 locs1 ls hP1 hS1 hl
end STR
theorem fl_RJ0_38 : Cond.fieldLink RJ0 38 "java/lang/String" "COMPACT_STRINGS" "Z" ∈ TB := tb_in (by decide +kernel) rfl
theorem fl_RJ0_15 : Cond.fieldLink RJ0 15 "java/lang/String" "coder" "B" ∈ TB := tb_in (by decide +kernel) rfl
theorem fl_RJ0_9 : Cond.fieldLink RJ0 9 "java/lang/String" "value" "[B" ∈ TB := tb_in (by decide +kernel) rfl
theorem fl_RJ0_1053 : Cond.fieldLink RJ0 1053 "jdk/internal/util/Preconditions" "SIOOBE_FORMATTER" "Ljava/util/function/BiFunction;" ∈ TB := tb_in (by decide +kernel) rfl
theorem cs_RJ0_335 : csV RJ0 335 yJ0_coder_7d493 cJ0_coder_7d493 1 (some .byte) 0 = true := by decide +kernel
theorem cs_RJ0_492 : csV RJ0 492 yJ0_isLatin1_aae02 cJ0_isLatin1_aae02 1 (some .boolean) 0 = true := by decide +kernel
theorem cs_RJ0_495 : csS RJ0 495 yJ1_charAt_3b067 cJ1_charAt_3b067 2 (some .char) 2 = true := by decide +kernel
theorem cs_RJ1_9 : csS RJ1 9 yJ0_checkIndex_df160 cJ0_checkIndex_df160 2 none 2 = true := by decide +kernel
theorem cs_RJ0_1059 : csS RJ0 1059 yJ3_checkIndex_8e157 cJ3_checkIndex_8e157 3 (some .int) 3 = true := by decide +kernel
def rm_s0 : Room := { frames := 0, cells := 0, slots := 0, locals := 0 }
def rm_s1 : Room := { frames := 1, cells := 0, slots := 0, locals := 30 }
def rm_s2 : Room := { frames := 2, cells := 0, slots := 0, locals := 60 }
def rm_s3 : Room := { frames := 3, cells := 0, slots := 0, locals := 90 }
set_option maxHeartbeats 4000000 in
theorem c_coder (l : Launch) (D : Dx) (i : Nat) (hi : i < 6) (h : Hp) (out : Int32 × Hp) (ho : some ((0 : Int32), h) = some out) : Ct l D yJ0_coder_7d493 cJ0_coder_7d493 1 (some .byte) rm_s0 [.ref (D.2.2.2.1 i)] h (evI out.1) out.2 := by
  refine Ct.of (lv := [some (.ref (D.2.2.2.1 i))]) (by decide) (Nat.le_of_ble_eq_true rfl) rfl ?_ out ho
  intro X hXl hE hin
  replace hE : En X D cJ0_coder_7d493 1 RJ0 (some .byte) rm_s0 := hE
  refine r_gstat (pc := 0) hE fl_RJ0_38 dJ0_coder_7d493_0 ?_
  refine Wo_n (c := (1 : Int32) = 0) (by decide) (r_if_eq (pc := 3) hE 13 dJ0_coder_7d493_3 (by decide) (fun hc => absurd hc (by decide)) (fun _ => ?_))
  refine r_aload_n (pc := 6) hE dJ0_coder_7d493_6 rfl ?_
  refine r_scod (pc := 7) hE hi fl_RJ0_15 dJ0_coder_7d493_7 ?_
  refine r_goto (pc := 10) hE 14 dJ0_coder_7d493_10 (by decide) ?_
  exact r_nret (pc := 14) hE rfl dJ0_coder_7d493_14
set_option maxHeartbeats 4000000 in
theorem c_isLatin1 (l : Launch) (D : Dx) (i : Nat) (hi : i < 6) (h : Hp) (out : Int32 × Hp) (ho : some ((1 : Int32), h) = some out) : Ct l D yJ0_isLatin1_aae02 cJ0_isLatin1_aae02 1 (some .boolean) rm_s0 [.ref (D.2.2.2.1 i)] h (evI out.1) out.2 := by
  refine Ct.of (lv := [some (.ref (D.2.2.2.1 i))]) (by decide) (Nat.le_of_ble_eq_true rfl) rfl ?_ out ho
  intro X hXl hE hin
  replace hE : En X D cJ0_isLatin1_aae02 1 RJ0 (some .boolean) rm_s0 := hE
  refine r_gstat (pc := 0) hE fl_RJ0_38 dJ0_isLatin1_aae02_0 ?_
  refine Wo_n (c := (1 : Int32) = 0) (by decide) (r_if_eq (pc := 3) hE 17 dJ0_isLatin1_aae02_3 (by decide) (fun hc => absurd hc (by decide)) (fun _ => ?_))
  refine r_aload_n (pc := 6) hE dJ0_isLatin1_aae02_6 rfl ?_
  refine r_scod (pc := 7) hE hi fl_RJ0_15 dJ0_isLatin1_aae02_7 ?_
  refine Wo_y (c := (0 : Int32) = 0) (by decide) (r_if_ne (pc := 10) hE 17 dJ0_isLatin1_aae02_10 (by decide) (fun hc => absurd rfl hc) (fun _ => ?_))
  refine r_iconst (v := 1) (pc := 13) hE dJ0_isLatin1_aae02_13 (by decide) ?_
  refine r_goto (pc := 14) hE 18 dJ0_isLatin1_aae02_14 (by decide) ?_
  exact r_zret (pc := 18) hE (by decide) dJ0_isLatin1_aae02_18
def f_J0_length_8abf5 (fu : Nat) (x0 : Nat) (h : Hp) : Option (Int32 × Hp) := if x0 < 6 then some (slen x0, h) else none
theorem k_J0_length_8abf5 {fu x0 : Nat} {h : Hp} {out : Int32 × Hp} (ho : f_J0_length_8abf5 fu x0 h = some out) : x0 < 6 := (gi_k ho).1
abbrev rm_J0_length_8abf5 : Room := rm_s1
set_option maxHeartbeats 4000000 in
theorem c_J0_length_8abf5 (l : Launch) (D : Dx) (fu : Nat) (x0 : Nat) (h : Hp) (out : Int32 × Hp) (ho : f_J0_length_8abf5 fu x0 h = some out) : Ct l D yJ0_length_8abf5 cJ0_length_8abf5 1 (some .int) rm_J0_length_8abf5 [.ref (D.2.2.2.1 x0)] h (evI out.1) out.2 := by
  obtain ⟨hi, ho⟩ := gi_k ho
  refine Ct.of (lv := [some (.ref (D.2.2.2.1 x0))]) (by decide) (Nat.le_of_ble_eq_true rfl) rfl ?_ out ho
  intro X hXl hE hin
  subst hXl
  replace hE : En X D cJ0_length_8abf5 1 RJ0 (some .int) rm_s1 := hE
  refine r_aload_n (pc := 0) hE dJ0_length_8abf5_0 rfl ?_
  refine r_sval (pc := 1) hE hi fl_RJ0_9 dJ0_length_8abf5_1 ?_
  refine r_slen (pc := 4) hE hi dJ0_length_8abf5_4 ?_
  refine r_aload_n (pc := 5) hE dJ0_length_8abf5_5 rfl ?_
  refine r_callVS (pc := 6) hE (fo := some ((0 : Int32), h)) (g := fun x => some (slen x0, x.2)) (As := []) (fun out ho => c_coder _ _ x0 hi _ out ho) (fun _ _ => hi) rfl cs_RJ0_335 ⟨Nat.le_of_ble_eq_true rfl, Nat.le_of_ble_eq_true rfl, Nat.le_of_ble_eq_true rfl, Nat.le_of_ble_eq_true rfl⟩ (Nat.le_of_ble_eq_true rfl) rfl dJ0_length_8abf5_6 (fun x hx => ?_)
  cases hx
  refine r_ishr (x := slen x0) (y := 0) (pc := 9) hE dJ0_length_8abf5_9 ?_
  rw [slen_shr x0 hi]
  exact r_iret (pc := 10) hE dJ0_length_8abf5_10
set_option maxHeartbeats 4000000 in
theorem c_pcheck (l : Launch) (D : Dx) (i n : Int32) (q : Option Nat) (h1 : ¬ i < 0) (h2 : i < n) (h : Hp) (out : Int32 × Hp) (ho : some (i, h) = some out) : Ct l D yJ3_checkIndex_8e157 cJ3_checkIndex_8e157 3 (some .int) rm_s0 [.int i, .int n, va_rf q] h (evI out.1) out.2 := by
  refine Ct.of (lv := [some (.int i), some (.int n), some (va_rf q)]) (by decide) (by cases q <;> exact Nat.le_of_ble_eq_true rfl) (by cases q <;> rfl) ?_ out ho
  intro X hXl hE hin
  replace hE : En X D cJ3_checkIndex_8e157 3 RJ3 (some .int) rm_s0 := hE
  refine r_iload_n (pc := 0) hE dJ3_checkIndex_8e157_0 rfl ?_
  refine Wo_n h1 (r_if_lt (pc := 1) hE 9 dJ3_checkIndex_8e157_1 (by decide) (fun hc => absurd hc h1) (fun _ => ?_))
  refine r_iload_n (pc := 4) hE dJ3_checkIndex_8e157_4 rfl ?_
  refine r_iload_n (pc := 5) hE dJ3_checkIndex_8e157_5 rfl ?_
  refine Wo_y h2 (r_icmp_lt (pc := 6) hE 16 dJ3_checkIndex_8e157_6 (by decide) (fun _ => ?_) (fun hc => absurd h2 hc))
  refine r_iload_n (pc := 16) hE dJ3_checkIndex_8e157_16 rfl ?_
  exact r_iret (pc := 17) hE dJ3_checkIndex_8e157_17
set_option maxHeartbeats 4000000 in
theorem c_scheck (l : Launch) (D : Dx) (i n : Int32) (h1 : ¬ i < 0) (h2 : i < n) (h : Hp) (out : Unit × Hp) (ho : some ((), h) = some out) : Ct l D yJ0_checkIndex_df160 cJ0_checkIndex_df160 2 none rm_s1 [.int i, .int n] h (evU out.1) out.2 := by
  refine Ct.of (lv := [some (.int i), some (.int n)]) (by decide) (Nat.le_of_ble_eq_true rfl) rfl ?_ out ho
  intro X hXl hE hin
  subst hXl
  replace hE : En X D cJ0_checkIndex_df160 2 RJ0 none rm_s1 := hE
  refine r_iload_n (pc := 0) hE dJ0_checkIndex_df160_0 rfl ?_
  refine r_iload_n (pc := 1) hE dJ0_checkIndex_df160_1 rfl ?_
  refine r_gfmt (pc := 2) hE fl_RJ0_1053 dJ0_checkIndex_df160_2 (fun q => ?_)
  refine r_callS (pc := 5) hE (fo := some (i, h)) (g := fun x => some ((), x.2)) (As := [.int i, .int n, va_rf q]) (fun out ho => c_pcheck _ _ i n q h1 h2 _ out ho) cs_RJ0_1059 ⟨Nat.le_of_ble_eq_true rfl, Nat.le_of_ble_eq_true rfl, Nat.le_of_ble_eq_true rfl, Nat.le_of_ble_eq_true rfl⟩ (Nat.le_of_ble_eq_true rfl) rfl dJ0_checkIndex_df160_5 (fun x hx => ?_)
  cases hx
  refine r_pop (pc := 8) hE dJ0_checkIndex_df160_8 rfl ?_
  exact r_vret (pc := 9) hE dJ0_checkIndex_df160_9
set_option maxHeartbeats 4000000 in
theorem c_lcharAt (l : Launch) (D : Dx) (i : Nat) (hi : i < 6) (k : Int32) (hk : 0 ≤ k.toInt ∧ k.toInt < (lenS.getD i 0 : Int)) (h1 : ¬ k < 0) (h2 : k < slen i) (h : Hp) (out : Int32 × Hp) (ho : some (sch i k, h) = some out) : Ct l D yJ1_charAt_3b067 cJ1_charAt_3b067 2 (some .char) rm_s2 [.ref (D.2.2.2.2 i), .int k] h (evI out.1) out.2 := by
  refine Ct.of (lv := [some (.ref (D.2.2.2.2 i)), some (.int k)]) (by decide) (Nat.le_of_ble_eq_true rfl) rfl ?_ out ho
  intro X hXl hE hin
  subst hXl
  replace hE : En X D cJ1_charAt_3b067 2 RJ1 (some .char) rm_s2 := hE
  refine r_iload_n (pc := 0) hE dJ1_charAt_3b067_0 rfl ?_
  refine r_aload_n (pc := 1) hE dJ1_charAt_3b067_1 rfl ?_
  refine r_slen (pc := 2) hE hi dJ1_charAt_3b067_2 ?_
  refine r_callS (pc := 3) hE (fo := some ((), h)) (g := fun x => some (sch i k, x.2)) (As := [.int k, .int (slen i)]) (fun out ho => c_scheck _ _ k (slen i) h1 h2 _ out ho) cs_RJ1_9 ⟨Nat.le_of_ble_eq_true rfl, Nat.le_of_ble_eq_true rfl, Nat.le_of_ble_eq_true rfl, Nat.le_of_ble_eq_true rfl⟩ (Nat.le_of_ble_eq_true rfl) rfl dJ1_charAt_3b067_3 (fun x hx => ?_)
  cases hx
  refine r_aload_n (pc := 6) hE dJ1_charAt_3b067_6 rfl ?_
  refine r_iload_n (pc := 7) hE dJ1_charAt_3b067_7 rfl ?_
  refine r_sbyt (pc := 8) hE hi hk dJ1_charAt_3b067_8 ?_
  refine r_sipush (v := 255) (pc := 9) hE dJ1_charAt_3b067_9 (by decide) ?_
  refine r_iand (pc := 12) hE dJ1_charAt_3b067_12 ?_
  refine r_i2c (pc := 13) hE dJ1_charAt_3b067_13 ?_
  exact r_nret (pc := 14) hE (pk_nc _) dJ1_charAt_3b067_14
def f_J0_charAt_5068e (fu : Nat) (x0 : Nat) (x1 : Int32) (h : Hp) : Option (Int32 × Hp) := if x0 < 6 ∧ 0 ≤ x1.toInt ∧ x1.toInt < (lenS.getD x0 0 : Int) then some (sch x0 x1, h) else none
theorem k_J0_charAt_5068e {fu x0 : Nat} {x1 : Int32} {h : Hp} {out : Int32 × Hp} (ho : f_J0_charAt_5068e fu x0 x1 h = some out) : x0 < 6 := (gi_k ho).1.1
abbrev rm_J0_charAt_5068e : Room := rm_s3
theorem slen_int : ∀ i, i < 6 → (slen i).toInt = (lenS.getD i 0 : Int) := by decide
set_option maxHeartbeats 4000000 in
theorem c_J0_charAt_5068e (l : Launch) (D : Dx) (fu : Nat) (x0 : Nat) (x1 : Int32) (h : Hp) (out : Int32 × Hp) (ho : f_J0_charAt_5068e fu x0 x1 h = some out) : Ct l D yJ0_charAt_5068e cJ0_charAt_5068e 2 (some .char) rm_J0_charAt_5068e [.ref (D.2.2.2.1 x0), .int x1] h (evI out.1) out.2 := by
  obtain ⟨⟨hi, hk⟩, ho⟩ := gi_k ho
  have h1 : ¬ x1 < 0 := (i32_nn hk.1).1
  have h2 : x1 < slen x0 := Int32.lt_iff_toInt_lt.mpr (by rw [slen_int x0 hi]; exact hk.2)
  refine Ct.of (lv := [some (.ref (D.2.2.2.1 x0)), some (.int x1)]) (by decide) (Nat.le_of_ble_eq_true rfl) rfl ?_ out ho
  intro X hXl hE hin
  subst hXl
  replace hE : En X D cJ0_charAt_5068e 2 RJ0 (some .char) rm_s3 := hE
  refine r_aload_n (pc := 0) hE dJ0_charAt_5068e_0 rfl ?_
  refine r_callVS (pc := 1) hE (fo := some ((1 : Int32), h)) (g := fun x => some (sch x0 x1, x.2)) (As := []) (fun out ho => c_isLatin1 _ _ x0 hi _ out ho) (fun _ _ => hi) rfl cs_RJ0_492 ⟨Nat.le_of_ble_eq_true rfl, Nat.le_of_ble_eq_true rfl, Nat.le_of_ble_eq_true rfl, Nat.le_of_ble_eq_true rfl⟩ (Nat.le_of_ble_eq_true rfl) rfl dJ0_charAt_5068e_1 (fun x hx => ?_)
  cases hx
  refine Wo_n (c := (1 : Int32) = 0) (by decide) (r_if_eq (pc := 4) hE 16 dJ0_charAt_5068e_4 (by decide) (fun hc => absurd hc (by decide)) (fun _ => ?_))
  refine r_aload_n (pc := 7) hE dJ0_charAt_5068e_7 rfl ?_
  refine r_sval (pc := 8) hE hi fl_RJ0_9 dJ0_charAt_5068e_8 ?_
  refine r_iload_n (pc := 11) hE dJ0_charAt_5068e_11 rfl ?_
  refine r_callS (pc := 12) hE (fo := some (sch x0 x1, h)) (g := fun x => some (sch x0 x1, x.2)) (As := [.ref (D.2.2.2.2 x0), .int x1]) (fun out ho => c_lcharAt _ _ x0 hi x1 hk h1 h2 _ out ho) cs_RJ0_495 ⟨Nat.le_of_ble_eq_true rfl, Nat.le_of_ble_eq_true rfl, Nat.le_of_ble_eq_true rfl, Nat.le_of_ble_eq_true rfl⟩ (Nat.le_of_ble_eq_true rfl) rfl dJ0_charAt_5068e_12 (fun x hx => ?_)
  cases hx
  exact r_nret (pc := 15) hE (pk_nc _) dJ0_charAt_5068e_15
