/-! THE LAW: its picture and its walk -/
theorem lt_icmp {x y : Int32} : x < y ↔ x.toInt < y.toInt := Int32.lt_iff_toInt_lt
def sL (L : Nat) (xs : Nat → Int32) (i : Int32) : Option Int32 := if 0 ≤ i.toInt ∧ i.toInt < (L : Int) then some (xs i.toNatClampNeg) else none
theorem law_idx {L it : Nat} {x3 : Int32} (hL : L ≤ 3072) (hx : x3.toInt = 6 * (it : Int)) (hc : ¬ Int32.ofNat L - 6 < x3) : it < 512 ∧ (x3 + 6).toInt = 6 * ((it + 1 : Nat) : Int) := by
  have h1 : (Int32.ofNat L).toInt = (L : Int) := nI_toInt (by omega)
  have h2 : (Int32.ofNat L - 6).toInt = (L : Int) - 6 := by
    rw [Int32.toInt_sub, h1]
    show ((L : Int) - 6).bmod 4294967296 = _
    rw [Int.bmod_eq_of_le] <;> omega
  have h3 : ¬ ((L : Int) - 6 < x3.toInt) := fun q => hc (lt_icmp.mpr (by rw [h2]; exact q))
  have h4 : it < 512 := by omega
  refine ⟨h4, ?_⟩
  rw [Int32.toInt_add, hx]
  show (6 * (it : Int) + 6).bmod 4294967296 = _
  rw [Int.bmod_eq_of_le] <;> omega
def QL (X : Cx) : Int32 × Hp → State → Prop := fun out t => out.1 = 1 → lw_Z X.below X.args X.s t
section LAWR
variable {X : Cx} {D : Dx} {cc : ByteArray} {nL : Nat} {own : String} {rt : Option FieldType} {rm : Room} {ρ : Type} {Q : ρ × Hp → State → Prop} {cells slots : Nat} {o : Option (ρ × Hp)} {pc : Nat} {lv : List (Option Value)} {st : List Value} {h : Hp} {b L : Nat} {xs : Nat → Int32}
theorem r_sldS (hE : En X D cc nL own rt rm) (hX : va_X b L xs X.s X.s.heap) (hbl : b < X.s.heap.size) (hbA : ¬ D.A b) {i : Int32} {f : Int32 → Option (ρ × Hp)} (hd : decode cc pc = .ok (.iaload, 1)) (kk : ∀ v, sL L xs i = some v → Wo X D nL Q cells slots (f v) (pc + 1) lv (.int v :: st) h) : Wo X D nL Q cells slots ((sL L xs i).bind f) pc lv (.int i :: .ref b :: st) h := fun out ho H locs ls hP hS hl => by
  obtain ⟨v, h1, h2⟩ := ob_k ho
  obtain ⟨hi, h3⟩ := gi_k h1
  have hw := kk v h1 out h2 H locs ls hP hS hl
  cases h3
  exact va_sld hE.1 hE.2.1 hX hbl hbA hS (vp_in_iff.mpr hi) hd hw
theorem r_slnS (hE : En X D cc nL own rt rm) (hX : va_X b L xs X.s X.s.heap) (hbl : b < X.s.heap.size) (hbA : ¬ D.A b) (hd : decode cc pc = .ok (.arraylength, 1)) (k : Wo X D nL Q cells slots o (pc + 1) lv (.int (Int32.ofNat L) :: st) h) : Wo X D nL Q cells slots o pc lv (.ref b :: st) h := fun out ho H locs ls hP hS hl =>
  va_slen hE.1 hE.2.1 hX hbl hbA hS hd (k out ho H locs ls hP hS hl)
theorem r_law0 (hE : En X D cc nL own rt rm) : Wo X D nL (QL X) cells slots (some ((0 : Int32), h)) pc lv st h := fun out ho H locs ls hP hS hl => by
  cases ho
  exact fun T hT X0 => ⟨_, Steps.refl _, fun q => absurd q (show ¬ (0 : Int32) = 1 by decide)⟩
theorem r_law1 (hE : En X D code nL own ret room_1) (hargs : X.args = #[Value.ref b] ∧ ∀ q, D.A q → X.s.heap.size ≤ q) (hc : cells ≤ 600000) (hs : slots ≤ 7302250) (hd : decode code pc = .ok (.ireturn, 1)) : Wo X D nL (QL X) cells slots (some ((1 : Int32), h)) pc lv [.int 1] h := fun out ho H locs ls hP hS hl => by
  cases ho
  obtain ⟨p, l, e, R, s, m, args, below, meth, c⟩ := X
  obtain ⟨hx, hb, hml, hown, hts, hgK, -, hr, hlk, -, hRm⟩ := hE
  obtain ⟨ha, hA⟩ := hargs
  obtain rfl : args = #[Value.ref b] := ha
  obtain rfl : R = room_1 := hRm
  refine va_forget (fun q hq => hA _ (hS.2.2 q hq)) ?_
  refine W.widen hc hs ?_
  intro T hT X0
  obtain ⟨t, h1, h2⟩ := lw_ret (b := b) hx hb hr hlk hd T hT X0
  exact ⟨t, h1, fun _ => h2⟩
end LAWR
theorem cs_RL_13 : csV RL 13 yX6_sea cX6_sea 3 (some .boolean) 2 = true := by decide +kernel
theorem cs_RL_17 : csV RL 17 yX7_sea cX7_sea 4 (some .boolean) 2 = true := by decide +kernel
theorem cs_RL_18 : csV RL 18 yX6_land cX6_land 3 (some .boolean) 2 = true := by decide +kernel
theorem cs_RL_21 : csV RL 21 yX7_land cX7_land 3 (some .boolean) 2 = true := by decide +kernel
theorem cs_RL_22 : csV RL 22 yX6_swell cX6_swell 3 (some .boolean) 2 = true := by decide +kernel
theorem cs_RL_25 : csV RL 25 yX7_swell cX7_swell 3 (some .boolean) 2 = true := by decide +kernel
theorem cs_RL_26 : csV RL 26 yX6_drifts cX6_drifts 3 (some .boolean) 2 = true := by decide +kernel
theorem cs_RL_29 : csV RL 29 yX7_drifts cX7_drifts 3 (some .boolean) 2 = true := by decide +kernel
theorem cs_RL_30 : csV RL 30 yX6_watches cX6_watches 3 (some .boolean) 2 = true := by decide +kernel
theorem cs_RL_33 : csV RL 33 yX7_watches cX7_watches 3 (some .boolean) 2 = true := by decide +kernel
theorem cs_RL_34 : csV RL 34 yX6_look cX6_look 2 (some .int) 1 = true := by decide +kernel
theorem cs_RL_38 : csV RL 38 yX7_look cX7_look 2 (some .int) 1 = true := by decide +kernel
theorem cs_RL_39 : csV RL 39 yX6_reckoned cX6_reckoned 1 (some .long) 0 = true := by decide +kernel
theorem cs_RL_43 : csV RL 43 yX7_reckoned cX7_reckoned 1 (some .long) 0 = true := by decide +kernel
theorem ct_RL_44 : Cond.constantLong RL 44 (4294967295) ∈ TB := tb_in (by decide +kernel) rfl
theorem cs_RL_46 : csV RL 46 yX6_begin cX6_begin 3 (some .boolean) 1 = true := by decide +kernel
theorem cs_RL_50 : csV RL 50 yX7_begin cX7_begin 3 (some .boolean) 1 = true := by decide +kernel
theorem cs_RL_51 : csV RL 51 yX6_put cX6_put 2 (some .boolean) 1 = true := by decide +kernel
theorem cs_RL_55 : csV RL 55 yX7_put cX7_put 2 (some .boolean) 1 = true := by decide +kernel
theorem cs_RL_56 : csV RL 56 yX6_steer cX6_steer 4 (some .int) 2 = true := by decide +kernel
theorem cs_RL_60 : csV RL 60 yX7_steer cX7_steer 3 (some .int) 2 = true := by decide +kernel
theorem cs_RL_61 : csV RL 61 yX6_sign cX6_sign 4 (some .int) 3 = true := by decide +kernel
theorem cs_RL_65 : csV RL 65 yX7_sign cX7_sign 4 (some .int) 3 = true := by decide +kernel
theorem cs_RL_66 : csV RL 66 yX6_see cX6_see 5 (some .int) 2 = true := by decide +kernel
theorem cs_RL_69 : csV RL 69 yX7_see cX7_see 5 (some .int) 2 = true := by decide +kernel
theorem cs_RL_70 : csV RL 70 yX6_sights cX6_sights 3 (some .int) 0 = true := by decide +kernel
theorem cs_RL_74 : csV RL 74 yX7_sights cX7_sights 2 (some .int) 0 = true := by decide +kernel
theorem cs_RL_75 : csV RL 75 yX6_feed cX6_feed 6 (some .int) 5 = true := by decide +kernel
theorem cs_RL_79 : csV RL 79 yX7_feed cX7_feed 6 (some .int) 5 = true := by decide +kernel
theorem cs_RL_80 : csV RL 80 yX6_end cX6_end 2 (some .int) 1 = true := by decide +kernel
theorem cs_RL_83 : csV RL 83 yX7_end cX7_end 2 (some .int) 1 = true := by decide +kernel
theorem cs_RL_84 : csV RL 84 yX6_chant cX6_chant 3 (some .int) 0 = true := by decide +kernel
theorem cs_RL_87 : csV RL 87 yX7_chant cX7_chant 3 (some .int) 0 = true := by decide +kernel
theorem cs_RL_88 : csV RL 88 yX6_fault cX6_fault 2 (some .int) 1 = true := by decide +kernel
theorem cs_RL_91 : csV RL 91 yX7_fault cX7_fault 2 (some .int) 1 = true := by decide +kernel
theorem cs_RL_92 : csV RL 92 yX6_sure cX6_sure 3 (some .int) 1 = true := by decide +kernel
theorem cs_RL_95 : csV RL 95 yX7_sure cX7_sure 7 (some .int) 1 = true := by decide +kernel
theorem cs_RL_96 : csV RL 96 yX6_from cX6_from 2 (some .int) 1 = true := by decide +kernel
theorem cs_RL_99 : csV RL 99 yX7_from cX7_from 3 (some .int) 1 = true := by decide +kernel
theorem cs_RL_100 : csV RL 100 yX6_sings cX6_sings 3 (some .int) 1 = true := by decide +kernel
theorem cs_RL_103 : csV RL 103 yX7_sings cX7_sings 3 (some .int) 1 = true := by decide +kernel
theorem cs_RL_104 : csV RL 104 yX6_blind cX6_blind 5 (some .int) 1 = true := by decide +kernel
theorem cs_RL_107 : csV RL 107 yX7_blind cX7_blind 3 (some .int) 1 = true := by decide +kernel
theorem nw_RL_7 : Cond.classLink RL 7 (RF 6) ∈ TB ∧ Cond.instantiable (RF 6) (nF 6) ∈ TB ∧ Cond.initialized (RF 6) ∈ TB := ⟨tb_in (by decide +kernel) rfl, tb_in (by decide +kernel) rfl, tb_in (by decide +kernel) rfl⟩
theorem cs_RL_9 : csI RL 9 yX6_init cX6_init 1 0 = true := by decide +kernel
theorem nw_RL_10 : Cond.classLink RL 10 (RF 7) ∈ TB ∧ Cond.instantiable (RF 7) (nF 7) ∈ TB ∧ Cond.initialized (RF 7) ∈ TB := ⟨tb_in (by decide +kernel) rfl, tb_in (by decide +kernel) rfl, tb_in (by decide +kernel) rfl⟩
theorem cs_RL_12 : csI RL 12 yX7_init cX7_init 1 0 = true := by decide +kernel
def f_L_law_18 (fu L : Nat) (xs : Nat → Int32) : Nat → Nat → Nat → Int32 → Hp → Option (Int32 × Hp)
  | 0, _, _, _, _ => none
  | n + 1, x1, x2, x3, h =>
    if ((Int32.ofNat L) - 6) < x3 then
      some (1, h)
    else
      (sL L xs x3).bind fun v29 =>
      swt (v29 &&& 31) 0 [
        (sL L xs (x3 + 1)).bind fun v137 =>
        (sL L xs (x3 + 2)).bind fun v142 =>
        (f_X6_sea fu x1 v137 v142 h).bind fun r143 =>
        (sL L xs (x3 + 1)).bind fun v151 =>
        (sL L xs (x3 + 2)).bind fun v156 =>
        (f_X7_sea fu x2 v151 v156 r143.2).bind fun r157 =>
        if r143.1 = r157.1 then
          f_L_law_18 fu L xs n x1 x2 (x3 + 6) r157.2
        else
          some (0, r157.2)
      ,
        (sL L xs (x3 + 1)).bind fun v170 =>
        (sL L xs (x3 + 2)).bind fun v175 =>
        (f_X6_land fu x1 v170 v175 h).bind fun r176 =>
        (sL L xs (x3 + 1)).bind fun v184 =>
        (sL L xs (x3 + 2)).bind fun v189 =>
        (f_X7_land fu x2 v184 v189 r176.2).bind fun r190 =>
        if r176.1 = r190.1 then
          f_L_law_18 fu L xs n x1 x2 (x3 + 6) r190.2
        else
          some (0, r190.2)
      ,
        (sL L xs (x3 + 1)).bind fun v203 =>
        (sL L xs (x3 + 2)).bind fun v208 =>
        (f_X6_swell fu x1 v203 v208 h).bind fun r209 =>
        (sL L xs (x3 + 1)).bind fun v217 =>
        (sL L xs (x3 + 2)).bind fun v222 =>
        (f_X7_swell fu x2 v217 v222 r209.2).bind fun r223 =>
        if r209.1 = r223.1 then
          f_L_law_18 fu L xs n x1 x2 (x3 + 6) r223.2
        else
          some (0, r223.2)
      ,
        (sL L xs (x3 + 1)).bind fun v236 =>
        (sL L xs (x3 + 2)).bind fun v241 =>
        (f_X6_drifts fu x1 v236 v241 h).bind fun r242 =>
        (sL L xs (x3 + 1)).bind fun v250 =>
        (sL L xs (x3 + 2)).bind fun v255 =>
        (f_X7_drifts fu x2 v250 v255 r242.2).bind fun r256 =>
        if r242.1 = r256.1 then
          f_L_law_18 fu L xs n x1 x2 (x3 + 6) r256.2
        else
          some (0, r256.2)
      ,
        (sL L xs (x3 + 1)).bind fun v269 =>
        (sL L xs (x3 + 2)).bind fun v274 =>
        (f_X6_watches fu x1 v269 v274 h).bind fun r275 =>
        (sL L xs (x3 + 1)).bind fun v283 =>
        (sL L xs (x3 + 2)).bind fun v288 =>
        (f_X7_watches fu x2 v283 v288 r275.2).bind fun r289 =>
        if r275.1 = r289.1 then
          f_L_law_18 fu L xs n x1 x2 (x3 + 6) r289.2
        else
          some (0, r289.2)
      ,
        (sL L xs (x3 + 1)).bind fun v302 =>
        (f_X6_look fu x1 v302 h).bind fun r303 =>
        (sL L xs (x3 + 1)).bind fun v311 =>
        (f_X7_look fu x2 v311 r303.2).bind fun r312 =>
        if r303.1 = r312.1 then
          f_L_law_18 fu L xs n x1 x2 (x3 + 6) r312.2
        else
          some (0, r312.2)
      ,
        (f_X6_reckoned fu x1 h).bind fun r321 =>
        (f_X7_reckoned fu x2 r321.2).bind fun r325 =>
        if (lg_cmp r321.1 r325.1) = 0 then
          f_L_law_18 fu L xs n x1 x2 (x3 + 6) r325.2
        else
          some (0, r325.2)
      ,
        (sL L xs (x3 + 1)).bind fun v339 =>
        (sL L xs (x3 + 2)).bind fun v348 =>
        (f_X6_begin fu x1 ((lsh (Int32.toInt64 v339) 32) ||| ((Int32.toInt64 v348) &&& 4294967295)) h).bind fun r355 =>
        (sL L xs (x3 + 1)).bind fun v363 =>
        (sL L xs (x3 + 2)).bind fun v372 =>
        (f_X7_begin fu x2 ((lsh (Int32.toInt64 v363) 32) ||| ((Int32.toInt64 v372) &&& 4294967295)) r355.2).bind fun r379 =>
        if r355.1 = r379.1 then
          f_L_law_18 fu L xs n x1 x2 (x3 + 6) r379.2
        else
          some (0, r379.2)
      ,
        (sL L xs (x3 + 1)).bind fun v392 =>
        (f_X6_put fu x1 v392 h).bind fun r393 =>
        (sL L xs (x3 + 1)).bind fun v401 =>
        (f_X7_put fu x2 v401 r393.2).bind fun r402 =>
        if r393.1 = r402.1 then
          f_L_law_18 fu L xs n x1 x2 (x3 + 6) r402.2
        else
          some (0, r402.2)
      ,
        (sL L xs (x3 + 1)).bind fun v415 =>
        (sL L xs (x3 + 2)).bind fun v420 =>
        (f_X6_steer fu x1 v415 v420 h).bind fun r421 =>
        (sL L xs (x3 + 1)).bind fun v429 =>
        (sL L xs (x3 + 2)).bind fun v434 =>
        (f_X7_steer fu x2 v429 v434 r421.2).bind fun r435 =>
        if r421.1 = r435.1 then
          f_L_law_18 fu L xs n x1 x2 (x3 + 6) r435.2
        else
          some (0, r435.2)
      ,
        (sL L xs (x3 + 1)).bind fun v448 =>
        (sL L xs (x3 + 2)).bind fun v453 =>
        (sL L xs (x3 + 3)).bind fun v458 =>
        (f_X6_sign fu x1 v448 v453 v458 h).bind fun r459 =>
        (sL L xs (x3 + 1)).bind fun v467 =>
        (sL L xs (x3 + 2)).bind fun v472 =>
        (sL L xs (x3 + 3)).bind fun v477 =>
        (f_X7_sign fu x2 v467 v472 v477 r459.2).bind fun r478 =>
        if r459.1 = r478.1 then
          f_L_law_18 fu L xs n x1 x2 (x3 + 6) r478.2
        else
          some (0, r478.2)
      ,
        (sL L xs (x3 + 1)).bind fun v491 =>
        (sL L xs (x3 + 2)).bind fun v496 =>
        (f_X6_see fu x1 v491 v496 h).bind fun r497 =>
        (sL L xs (x3 + 1)).bind fun v505 =>
        (sL L xs (x3 + 2)).bind fun v510 =>
        (f_X7_see fu x2 v505 v510 r497.2).bind fun r511 =>
        if r497.1 = r511.1 then
          f_L_law_18 fu L xs n x1 x2 (x3 + 6) r511.2
        else
          some (0, r511.2)
      ,
        (f_X6_sights fu x1 h).bind fun r520 =>
        (f_X7_sights fu x2 r520.2).bind fun r524 =>
        if r520.1 = r524.1 then
          f_L_law_18 fu L xs n x1 x2 (x3 + 6) r524.2
        else
          some (0, r524.2)
      ,
        (sL L xs (x3 + 1)).bind fun v537 =>
        (sL L xs (x3 + 2)).bind fun v542 =>
        (sL L xs (x3 + 3)).bind fun v547 =>
        (sL L xs (x3 + 4)).bind fun v552 =>
        (sL L xs (x3 + 5)).bind fun v557 =>
        (f_X6_feed fu x1 v537 v542 v547 v552 v557 h).bind fun r558 =>
        (sL L xs (x3 + 1)).bind fun v566 =>
        (sL L xs (x3 + 2)).bind fun v571 =>
        (sL L xs (x3 + 3)).bind fun v576 =>
        (sL L xs (x3 + 4)).bind fun v581 =>
        (sL L xs (x3 + 5)).bind fun v586 =>
        (f_X7_feed fu x2 v566 v571 v576 v581 v586 r558.2).bind fun r587 =>
        if r558.1 = r587.1 then
          f_L_law_18 fu L xs n x1 x2 (x3 + 6) r587.2
        else
          some (0, r587.2)
      ,
        (sL L xs (x3 + 1)).bind fun v600 =>
        (f_X6_end fu x1 v600 h).bind fun r601 =>
        (sL L xs (x3 + 1)).bind fun v609 =>
        (f_X7_end fu x2 v609 r601.2).bind fun r610 =>
        if r601.1 = r610.1 then
          f_L_law_18 fu L xs n x1 x2 (x3 + 6) r610.2
        else
          some (0, r610.2)
      ,
        (f_X6_chant fu x1 h).bind fun r619 =>
        (f_X7_chant fu x2 r619.2).bind fun r623 =>
        if r619.1 = r623.1 then
          f_L_law_18 fu L xs n x1 x2 (x3 + 6) r623.2
        else
          some (0, r623.2)
      ,
        (sL L xs (x3 + 1)).bind fun v636 =>
        (f_X6_fault fu x1 v636 h).bind fun r637 =>
        (sL L xs (x3 + 1)).bind fun v645 =>
        (f_X7_fault fu x2 v645 r637.2).bind fun r646 =>
        if r637.1 = r646.1 then
          f_L_law_18 fu L xs n x1 x2 (x3 + 6) r646.2
        else
          some (0, r646.2)
      ,
        (sL L xs (x3 + 1)).bind fun v659 =>
        (f_X6_sure fu x1 v659 h).bind fun r660 =>
        (sL L xs (x3 + 1)).bind fun v668 =>
        (f_X7_sure fu x2 v668 r660.2).bind fun r669 =>
        if r660.1 = r669.1 then
          f_L_law_18 fu L xs n x1 x2 (x3 + 6) r669.2
        else
          some (0, r669.2)
      ,
        (sL L xs (x3 + 1)).bind fun v682 =>
        (f_X6_from fu x1 v682 h).bind fun r683 =>
        (sL L xs (x3 + 1)).bind fun v691 =>
        (f_X7_from fu x2 v691 r683.2).bind fun r692 =>
        if r683.1 = r692.1 then
          f_L_law_18 fu L xs n x1 x2 (x3 + 6) r692.2
        else
          some (0, r692.2)
      ,
        (sL L xs (x3 + 1)).bind fun v705 =>
        (f_X6_sings fu x1 v705 h).bind fun r706 =>
        (sL L xs (x3 + 1)).bind fun v714 =>
        (f_X7_sings fu x2 v714 r706.2).bind fun r715 =>
        if r706.1 = r715.1 then
          f_L_law_18 fu L xs n x1 x2 (x3 + 6) r715.2
        else
          some (0, r715.2)
      ,
        (sL L xs (x3 + 1)).bind fun v728 =>
        (f_X6_blind fu x1 v728 h).bind fun r729 =>
        (sL L xs (x3 + 1)).bind fun v737 =>
        (f_X7_blind fu x2 v737 r729.2).bind fun r738 =>
        if r729.1 = r738.1 then
          f_L_law_18 fu L xs n x1 x2 (x3 + 6) r738.2
        else
          some (0, r738.2)
      ] (
        f_L_law_18 fu L xs n x1 x2 (x3 + 6) h
      )
set_option maxHeartbeats 4000000 in
set_option maxRecDepth 100000 in
theorem w_L_law_18 {X : Cx} {D : Dx} {b L : Nat} {xs : Nat → Int32} {fu : Nat} (hE : En X D code 4 RL ret room_1) (hX : va_X b L xs X.s X.s.heap) (hbl : b < X.s.heap.size) (hbA : ¬ D.A b) (hargs : X.args = #[Value.ref b] ∧ ∀ q, D.A q → X.s.heap.size ≤ q) (hL : L ≤ 3072) : ∀ (n it : Nat) (x1 x2 : Nat) (x3 : Int32) (h : Hp) (lv : List (Option Value)), it ≤ 512 → x3.toInt = 6 * (it : Int) → lvLe [some (.ref b), some (.ref x1), some (.ref x2), some (.int x3)] lv → Wo X D 4 (QL X) (60 + 12 * it) (46400 + 13119 * it) (f_L_law_18 fu L xs n x1 x2 x3 h) 18 lv [] h := by
  intro n
  induction n with
  | zero => intros; exact Wo_none
  | succ n ih =>
    intro it x1 x2 x3 h lv hi512 hx3 hlv
    refine Wo_sub hlv ?_
    rw [f_L_law_18]
    refine r_iload_n (pc := 18) hE dL_law_18 rfl ?_
    refine r_aload_n (pc := 19) hE dL_law_19 rfl ?_
    refine r_slnS (pc := 20) hE hX hbl hbA dL_law_20 ?_
    refine r_bipush (v := 6) (pc := 21) hE dL_law_21 (by decide) ?_
    refine r_isub (pc := 23) hE dL_law_23 ?_
    refine r_icmp_gt (pc := 24) hE 752 dL_law_24 (by decide) (fun _ => ?_) (fun hc => ?_)
    · refine r_iconst (v := 1) (pc := 752) hE dL_law_752 (by decide) ?_
      exact r_law1 (pc := 753) hE hargs (by show 60 + 12 * it ≤ 600000; omega) (by show 46400 + 13119 * it ≤ 7302250; omega) dL_law_753
    · obtain ⟨hit, h6⟩ := law_idx hL hx3 hc
      refine r_aload_n (pc := 27) hE dL_law_27 rfl ?_
      refine r_iload_n (pc := 28) hE dL_law_28 rfl ?_
      refine r_sldS (pc := 29) hE hX hbl hbA dL_law_29 (fun v29 _ => ?_)
      refine r_bipush (v := 31) (pc := 30) hE dL_law_30 (by decide) ?_
      refine r_iand (pc := 32) hE dL_law_32 ?_
      refine r_tsw (pc := 33) hE 746 dL_law_33 (by decide) (by decide) ⟨⟨132, by decide, ?_⟩, ⟨⟨165, by decide, ?_⟩, ⟨⟨198, by decide, ?_⟩, ⟨⟨231, by decide, ?_⟩, ⟨⟨264, by decide, ?_⟩, ⟨⟨297, by decide, ?_⟩, ⟨⟨320, by decide, ?_⟩, ⟨⟨334, by decide, ?_⟩, ⟨⟨387, by decide, ?_⟩, ⟨⟨410, by decide, ?_⟩, ⟨⟨443, by decide, ?_⟩, ⟨⟨486, by decide, ?_⟩, ⟨⟨519, by decide, ?_⟩, ⟨⟨532, by decide, ?_⟩, ⟨⟨595, by decide, ?_⟩, ⟨⟨618, by decide, ?_⟩, ⟨⟨631, by decide, ?_⟩, ⟨⟨654, by decide, ?_⟩, ⟨⟨677, by decide, ?_⟩, ⟨⟨700, by decide, ?_⟩, ⟨⟨723, by decide, ?_⟩, trivial⟩⟩⟩⟩⟩⟩⟩⟩⟩⟩⟩⟩⟩⟩⟩⟩⟩⟩⟩⟩⟩ ?_
      · refine r_aload_n (pc := 132) hE dL_law_132 rfl ?_
        refine r_aload_n (pc := 133) hE dL_law_133 rfl ?_
        refine r_iload_n (pc := 134) hE dL_law_134 rfl ?_
        refine r_iconst (v := 1) (pc := 135) hE dL_law_135 (by decide) ?_
        refine r_iadd (pc := 136) hE dL_law_136 ?_
        refine r_sldS (pc := 137) hE hX hbl hbA dL_law_137 (fun v137 _ => ?_)
        refine r_aload_n (pc := 138) hE dL_law_138 rfl ?_
        refine r_iload_n (pc := 139) hE dL_law_139 rfl ?_
        refine r_iconst (v := 2) (pc := 140) hE dL_law_140 (by decide) ?_
        refine r_iadd (pc := 141) hE dL_law_141 ?_
        refine r_sldS (pc := 142) hE hX hbl hbA dL_law_142 (fun v142 _ => ?_)
        refine r_callV (pc := 143) hE 6 (As := [.int v137, .int v142]) (fun out ho => c_X6_sea _ _ fu _ _ _ _ out ho) (fun out ho => k_X6_sea ho) (by decide) rfl cs_RL_13 ⟨Nat.le_of_ble_eq_true rfl, Nat.le_of_ble_eq_true rfl, (by show 60 + 12 * it + 0 ≤ 600000; omega), (by show 46400 + 13119 * it + 0 ≤ 7302250; omega)⟩ (Nat.le_of_ble_eq_true rfl) rfl dL_law_143 (fun r143 _ => ?_)
        refine r_aload_n (pc := 146) hE dL_law_146 rfl ?_
        refine r_aload_n (pc := 147) hE dL_law_147 rfl ?_
        refine r_iload_n (pc := 148) hE dL_law_148 rfl ?_
        refine r_iconst (v := 1) (pc := 149) hE dL_law_149 (by decide) ?_
        refine r_iadd (pc := 150) hE dL_law_150 ?_
        refine r_sldS (pc := 151) hE hX hbl hbA dL_law_151 (fun v151 _ => ?_)
        refine r_aload_n (pc := 152) hE dL_law_152 rfl ?_
        refine r_iload_n (pc := 153) hE dL_law_153 rfl ?_
        refine r_iconst (v := 2) (pc := 154) hE dL_law_154 (by decide) ?_
        refine r_iadd (pc := 155) hE dL_law_155 ?_
        refine r_sldS (pc := 156) hE hX hbl hbA dL_law_156 (fun v156 _ => ?_)
        refine r_callV (pc := 157) hE 7 (As := [.int v151, .int v156]) (fun out ho => c_X7_sea _ _ fu _ _ _ _ out ho) (fun out ho => k_X7_sea ho) (by decide) rfl cs_RL_17 ⟨Nat.le_of_ble_eq_true rfl, Nat.le_of_ble_eq_true rfl, (by show 60 + 12 * it + 0 + 0 ≤ 600000; omega), (by show 46400 + 13119 * it + 0 + 0 ≤ 7302250; omega)⟩ (Nat.le_of_ble_eq_true rfl) rfl dL_law_157 (fun r157 _ => ?_)
        refine r_icmp_eq (pc := 160) hE 746 dL_law_160 (by decide) (fun _ => ?_) (fun _ => ?_)
        · refine r_iinc (v := (x3 + 6)) (pc := 746) hE dL_law_746 rfl rfl (by decide) ?_
          refine r_goto (pc := 749) hE 18 dL_law_749 (by decide) ?_
          refine Wo_widen (c2 := 60 + 12 * (it + 1)) (s2 := 46400 + 13119 * (it + 1)) (by show 60 + 12 * it + 0 + 0 ≤ _; omega) (by show 46400 + 13119 * it + 0 + 0 ≤ _; omega) ?_
          exact ih (it + 1) _ _ _ _ _ (by omega) h6 ⟨rfl, rfl, rfl, rfl, trivial⟩
        · refine r_iconst (v := 0) (pc := 163) hE dL_law_163 (by decide) ?_
          exact r_law0 (pc := 164) hE
      · refine r_aload_n (pc := 165) hE dL_law_165 rfl ?_
        refine r_aload_n (pc := 166) hE dL_law_166 rfl ?_
        refine r_iload_n (pc := 167) hE dL_law_167 rfl ?_
        refine r_iconst (v := 1) (pc := 168) hE dL_law_168 (by decide) ?_
        refine r_iadd (pc := 169) hE dL_law_169 ?_
        refine r_sldS (pc := 170) hE hX hbl hbA dL_law_170 (fun v170 _ => ?_)
        refine r_aload_n (pc := 171) hE dL_law_171 rfl ?_
        refine r_iload_n (pc := 172) hE dL_law_172 rfl ?_
        refine r_iconst (v := 2) (pc := 173) hE dL_law_173 (by decide) ?_
        refine r_iadd (pc := 174) hE dL_law_174 ?_
        refine r_sldS (pc := 175) hE hX hbl hbA dL_law_175 (fun v175 _ => ?_)
        refine r_callV (pc := 176) hE 6 (As := [.int v170, .int v175]) (fun out ho => c_X6_land _ _ fu _ _ _ _ out ho) (fun out ho => k_X6_land ho) (by decide) rfl cs_RL_18 ⟨Nat.le_of_ble_eq_true rfl, Nat.le_of_ble_eq_true rfl, (by show 60 + 12 * it + 0 ≤ 600000; omega), (by show 46400 + 13119 * it + 0 ≤ 7302250; omega)⟩ (Nat.le_of_ble_eq_true rfl) rfl dL_law_176 (fun r176 _ => ?_)
        refine r_aload_n (pc := 179) hE dL_law_179 rfl ?_
        refine r_aload_n (pc := 180) hE dL_law_180 rfl ?_
        refine r_iload_n (pc := 181) hE dL_law_181 rfl ?_
        refine r_iconst (v := 1) (pc := 182) hE dL_law_182 (by decide) ?_
        refine r_iadd (pc := 183) hE dL_law_183 ?_
        refine r_sldS (pc := 184) hE hX hbl hbA dL_law_184 (fun v184 _ => ?_)
        refine r_aload_n (pc := 185) hE dL_law_185 rfl ?_
        refine r_iload_n (pc := 186) hE dL_law_186 rfl ?_
        refine r_iconst (v := 2) (pc := 187) hE dL_law_187 (by decide) ?_
        refine r_iadd (pc := 188) hE dL_law_188 ?_
        refine r_sldS (pc := 189) hE hX hbl hbA dL_law_189 (fun v189 _ => ?_)
        refine r_callV (pc := 190) hE 7 (As := [.int v184, .int v189]) (fun out ho => c_X7_land _ _ fu _ _ _ _ out ho) (fun out ho => k_X7_land ho) (by decide) rfl cs_RL_21 ⟨Nat.le_of_ble_eq_true rfl, Nat.le_of_ble_eq_true rfl, (by show 60 + 12 * it + 0 + 0 ≤ 600000; omega), (by show 46400 + 13119 * it + 0 + 0 ≤ 7302250; omega)⟩ (Nat.le_of_ble_eq_true rfl) rfl dL_law_190 (fun r190 _ => ?_)
        refine r_icmp_eq (pc := 193) hE 746 dL_law_193 (by decide) (fun _ => ?_) (fun _ => ?_)
        · refine r_iinc (v := (x3 + 6)) (pc := 746) hE dL_law_746 rfl rfl (by decide) ?_
          refine r_goto (pc := 749) hE 18 dL_law_749 (by decide) ?_
          refine Wo_widen (c2 := 60 + 12 * (it + 1)) (s2 := 46400 + 13119 * (it + 1)) (by show 60 + 12 * it + 0 + 0 ≤ _; omega) (by show 46400 + 13119 * it + 0 + 0 ≤ _; omega) ?_
          exact ih (it + 1) _ _ _ _ _ (by omega) h6 ⟨rfl, rfl, rfl, rfl, trivial⟩
        · refine r_iconst (v := 0) (pc := 196) hE dL_law_196 (by decide) ?_
          exact r_law0 (pc := 197) hE
      · refine r_aload_n (pc := 198) hE dL_law_198 rfl ?_
        refine r_aload_n (pc := 199) hE dL_law_199 rfl ?_
        refine r_iload_n (pc := 200) hE dL_law_200 rfl ?_
        refine r_iconst (v := 1) (pc := 201) hE dL_law_201 (by decide) ?_
        refine r_iadd (pc := 202) hE dL_law_202 ?_
        refine r_sldS (pc := 203) hE hX hbl hbA dL_law_203 (fun v203 _ => ?_)
        refine r_aload_n (pc := 204) hE dL_law_204 rfl ?_
        refine r_iload_n (pc := 205) hE dL_law_205 rfl ?_
        refine r_iconst (v := 2) (pc := 206) hE dL_law_206 (by decide) ?_
        refine r_iadd (pc := 207) hE dL_law_207 ?_
        refine r_sldS (pc := 208) hE hX hbl hbA dL_law_208 (fun v208 _ => ?_)
        refine r_callV (pc := 209) hE 6 (As := [.int v203, .int v208]) (fun out ho => c_X6_swell _ _ fu _ _ _ _ out ho) (fun out ho => k_X6_swell ho) (by decide) rfl cs_RL_22 ⟨Nat.le_of_ble_eq_true rfl, Nat.le_of_ble_eq_true rfl, (by show 60 + 12 * it + 0 ≤ 600000; omega), (by show 46400 + 13119 * it + 0 ≤ 7302250; omega)⟩ (Nat.le_of_ble_eq_true rfl) rfl dL_law_209 (fun r209 _ => ?_)
        refine r_aload_n (pc := 212) hE dL_law_212 rfl ?_
        refine r_aload_n (pc := 213) hE dL_law_213 rfl ?_
        refine r_iload_n (pc := 214) hE dL_law_214 rfl ?_
        refine r_iconst (v := 1) (pc := 215) hE dL_law_215 (by decide) ?_
        refine r_iadd (pc := 216) hE dL_law_216 ?_
        refine r_sldS (pc := 217) hE hX hbl hbA dL_law_217 (fun v217 _ => ?_)
        refine r_aload_n (pc := 218) hE dL_law_218 rfl ?_
        refine r_iload_n (pc := 219) hE dL_law_219 rfl ?_
        refine r_iconst (v := 2) (pc := 220) hE dL_law_220 (by decide) ?_
        refine r_iadd (pc := 221) hE dL_law_221 ?_
        refine r_sldS (pc := 222) hE hX hbl hbA dL_law_222 (fun v222 _ => ?_)
        refine r_callV (pc := 223) hE 7 (As := [.int v217, .int v222]) (fun out ho => c_X7_swell _ _ fu _ _ _ _ out ho) (fun out ho => k_X7_swell ho) (by decide) rfl cs_RL_25 ⟨Nat.le_of_ble_eq_true rfl, Nat.le_of_ble_eq_true rfl, (by show 60 + 12 * it + 0 + 0 ≤ 600000; omega), (by show 46400 + 13119 * it + 0 + 0 ≤ 7302250; omega)⟩ (Nat.le_of_ble_eq_true rfl) rfl dL_law_223 (fun r223 _ => ?_)
        refine r_icmp_eq (pc := 226) hE 746 dL_law_226 (by decide) (fun _ => ?_) (fun _ => ?_)
        · refine r_iinc (v := (x3 + 6)) (pc := 746) hE dL_law_746 rfl rfl (by decide) ?_
          refine r_goto (pc := 749) hE 18 dL_law_749 (by decide) ?_
          refine Wo_widen (c2 := 60 + 12 * (it + 1)) (s2 := 46400 + 13119 * (it + 1)) (by show 60 + 12 * it + 0 + 0 ≤ _; omega) (by show 46400 + 13119 * it + 0 + 0 ≤ _; omega) ?_
          exact ih (it + 1) _ _ _ _ _ (by omega) h6 ⟨rfl, rfl, rfl, rfl, trivial⟩
        · refine r_iconst (v := 0) (pc := 229) hE dL_law_229 (by decide) ?_
          exact r_law0 (pc := 230) hE
      · refine r_aload_n (pc := 231) hE dL_law_231 rfl ?_
        refine r_aload_n (pc := 232) hE dL_law_232 rfl ?_
        refine r_iload_n (pc := 233) hE dL_law_233 rfl ?_
        refine r_iconst (v := 1) (pc := 234) hE dL_law_234 (by decide) ?_
        refine r_iadd (pc := 235) hE dL_law_235 ?_
        refine r_sldS (pc := 236) hE hX hbl hbA dL_law_236 (fun v236 _ => ?_)
        refine r_aload_n (pc := 237) hE dL_law_237 rfl ?_
        refine r_iload_n (pc := 238) hE dL_law_238 rfl ?_
        refine r_iconst (v := 2) (pc := 239) hE dL_law_239 (by decide) ?_
        refine r_iadd (pc := 240) hE dL_law_240 ?_
        refine r_sldS (pc := 241) hE hX hbl hbA dL_law_241 (fun v241 _ => ?_)
        refine r_callV (pc := 242) hE 6 (As := [.int v236, .int v241]) (fun out ho => c_X6_drifts _ _ fu _ _ _ _ out ho) (fun out ho => k_X6_drifts ho) (by decide) rfl cs_RL_26 ⟨Nat.le_of_ble_eq_true rfl, Nat.le_of_ble_eq_true rfl, (by show 60 + 12 * it + 0 ≤ 600000; omega), (by show 46400 + 13119 * it + 0 ≤ 7302250; omega)⟩ (Nat.le_of_ble_eq_true rfl) rfl dL_law_242 (fun r242 _ => ?_)
        refine r_aload_n (pc := 245) hE dL_law_245 rfl ?_
        refine r_aload_n (pc := 246) hE dL_law_246 rfl ?_
        refine r_iload_n (pc := 247) hE dL_law_247 rfl ?_
        refine r_iconst (v := 1) (pc := 248) hE dL_law_248 (by decide) ?_
        refine r_iadd (pc := 249) hE dL_law_249 ?_
        refine r_sldS (pc := 250) hE hX hbl hbA dL_law_250 (fun v250 _ => ?_)
        refine r_aload_n (pc := 251) hE dL_law_251 rfl ?_
        refine r_iload_n (pc := 252) hE dL_law_252 rfl ?_
        refine r_iconst (v := 2) (pc := 253) hE dL_law_253 (by decide) ?_
        refine r_iadd (pc := 254) hE dL_law_254 ?_
        refine r_sldS (pc := 255) hE hX hbl hbA dL_law_255 (fun v255 _ => ?_)
        refine r_callV (pc := 256) hE 7 (As := [.int v250, .int v255]) (fun out ho => c_X7_drifts _ _ fu _ _ _ _ out ho) (fun out ho => k_X7_drifts ho) (by decide) rfl cs_RL_29 ⟨Nat.le_of_ble_eq_true rfl, Nat.le_of_ble_eq_true rfl, (by show 60 + 12 * it + 0 + 0 ≤ 600000; omega), (by show 46400 + 13119 * it + 0 + 0 ≤ 7302250; omega)⟩ (Nat.le_of_ble_eq_true rfl) rfl dL_law_256 (fun r256 _ => ?_)
        refine r_icmp_eq (pc := 259) hE 746 dL_law_259 (by decide) (fun _ => ?_) (fun _ => ?_)
        · refine r_iinc (v := (x3 + 6)) (pc := 746) hE dL_law_746 rfl rfl (by decide) ?_
          refine r_goto (pc := 749) hE 18 dL_law_749 (by decide) ?_
          refine Wo_widen (c2 := 60 + 12 * (it + 1)) (s2 := 46400 + 13119 * (it + 1)) (by show 60 + 12 * it + 0 + 0 ≤ _; omega) (by show 46400 + 13119 * it + 0 + 0 ≤ _; omega) ?_
          exact ih (it + 1) _ _ _ _ _ (by omega) h6 ⟨rfl, rfl, rfl, rfl, trivial⟩
        · refine r_iconst (v := 0) (pc := 262) hE dL_law_262 (by decide) ?_
          exact r_law0 (pc := 263) hE
      · refine r_aload_n (pc := 264) hE dL_law_264 rfl ?_
        refine r_aload_n (pc := 265) hE dL_law_265 rfl ?_
        refine r_iload_n (pc := 266) hE dL_law_266 rfl ?_
        refine r_iconst (v := 1) (pc := 267) hE dL_law_267 (by decide) ?_
        refine r_iadd (pc := 268) hE dL_law_268 ?_
        refine r_sldS (pc := 269) hE hX hbl hbA dL_law_269 (fun v269 _ => ?_)
        refine r_aload_n (pc := 270) hE dL_law_270 rfl ?_
        refine r_iload_n (pc := 271) hE dL_law_271 rfl ?_
        refine r_iconst (v := 2) (pc := 272) hE dL_law_272 (by decide) ?_
        refine r_iadd (pc := 273) hE dL_law_273 ?_
        refine r_sldS (pc := 274) hE hX hbl hbA dL_law_274 (fun v274 _ => ?_)
        refine r_callV (pc := 275) hE 6 (As := [.int v269, .int v274]) (fun out ho => c_X6_watches _ _ fu _ _ _ _ out ho) (fun out ho => k_X6_watches ho) (by decide) rfl cs_RL_30 ⟨Nat.le_of_ble_eq_true rfl, Nat.le_of_ble_eq_true rfl, (by show 60 + 12 * it + 0 ≤ 600000; omega), (by show 46400 + 13119 * it + 0 ≤ 7302250; omega)⟩ (Nat.le_of_ble_eq_true rfl) rfl dL_law_275 (fun r275 _ => ?_)
        refine r_aload_n (pc := 278) hE dL_law_278 rfl ?_
        refine r_aload_n (pc := 279) hE dL_law_279 rfl ?_
        refine r_iload_n (pc := 280) hE dL_law_280 rfl ?_
        refine r_iconst (v := 1) (pc := 281) hE dL_law_281 (by decide) ?_
        refine r_iadd (pc := 282) hE dL_law_282 ?_
        refine r_sldS (pc := 283) hE hX hbl hbA dL_law_283 (fun v283 _ => ?_)
        refine r_aload_n (pc := 284) hE dL_law_284 rfl ?_
        refine r_iload_n (pc := 285) hE dL_law_285 rfl ?_
        refine r_iconst (v := 2) (pc := 286) hE dL_law_286 (by decide) ?_
        refine r_iadd (pc := 287) hE dL_law_287 ?_
        refine r_sldS (pc := 288) hE hX hbl hbA dL_law_288 (fun v288 _ => ?_)
        refine r_callV (pc := 289) hE 7 (As := [.int v283, .int v288]) (fun out ho => c_X7_watches _ _ fu _ _ _ _ out ho) (fun out ho => k_X7_watches ho) (by decide) rfl cs_RL_33 ⟨Nat.le_of_ble_eq_true rfl, Nat.le_of_ble_eq_true rfl, (by show 60 + 12 * it + 0 + 0 ≤ 600000; omega), (by show 46400 + 13119 * it + 0 + 0 ≤ 7302250; omega)⟩ (Nat.le_of_ble_eq_true rfl) rfl dL_law_289 (fun r289 _ => ?_)
        refine r_icmp_eq (pc := 292) hE 746 dL_law_292 (by decide) (fun _ => ?_) (fun _ => ?_)
        · refine r_iinc (v := (x3 + 6)) (pc := 746) hE dL_law_746 rfl rfl (by decide) ?_
          refine r_goto (pc := 749) hE 18 dL_law_749 (by decide) ?_
          refine Wo_widen (c2 := 60 + 12 * (it + 1)) (s2 := 46400 + 13119 * (it + 1)) (by show 60 + 12 * it + 0 + 0 ≤ _; omega) (by show 46400 + 13119 * it + 0 + 0 ≤ _; omega) ?_
          exact ih (it + 1) _ _ _ _ _ (by omega) h6 ⟨rfl, rfl, rfl, rfl, trivial⟩
        · refine r_iconst (v := 0) (pc := 295) hE dL_law_295 (by decide) ?_
          exact r_law0 (pc := 296) hE
      · refine r_aload_n (pc := 297) hE dL_law_297 rfl ?_
        refine r_aload_n (pc := 298) hE dL_law_298 rfl ?_
        refine r_iload_n (pc := 299) hE dL_law_299 rfl ?_
        refine r_iconst (v := 1) (pc := 300) hE dL_law_300 (by decide) ?_
        refine r_iadd (pc := 301) hE dL_law_301 ?_
        refine r_sldS (pc := 302) hE hX hbl hbA dL_law_302 (fun v302 _ => ?_)
        refine r_callV (pc := 303) hE 6 (As := [.int v302]) (fun out ho => c_X6_look _ _ fu _ _ _ out ho) (fun out ho => k_X6_look ho) (by decide) rfl cs_RL_34 ⟨Nat.le_of_ble_eq_true rfl, Nat.le_of_ble_eq_true rfl, (by show 60 + 12 * it + 0 ≤ 600000; omega), (by show 46400 + 13119 * it + 0 ≤ 7302250; omega)⟩ (Nat.le_of_ble_eq_true rfl) rfl dL_law_303 (fun r303 _ => ?_)
        refine r_aload_n (pc := 306) hE dL_law_306 rfl ?_
        refine r_aload_n (pc := 307) hE dL_law_307 rfl ?_
        refine r_iload_n (pc := 308) hE dL_law_308 rfl ?_
        refine r_iconst (v := 1) (pc := 309) hE dL_law_309 (by decide) ?_
        refine r_iadd (pc := 310) hE dL_law_310 ?_
        refine r_sldS (pc := 311) hE hX hbl hbA dL_law_311 (fun v311 _ => ?_)
        refine r_callV (pc := 312) hE 7 (As := [.int v311]) (fun out ho => c_X7_look _ _ fu _ _ _ out ho) (fun out ho => k_X7_look ho) (by decide) rfl cs_RL_38 ⟨Nat.le_of_ble_eq_true rfl, Nat.le_of_ble_eq_true rfl, (by show 60 + 12 * it + 0 + 0 ≤ 600000; omega), (by show 46400 + 13119 * it + 0 + 0 ≤ 7302250; omega)⟩ (Nat.le_of_ble_eq_true rfl) rfl dL_law_312 (fun r312 _ => ?_)
        refine r_icmp_eq (pc := 315) hE 746 dL_law_315 (by decide) (fun _ => ?_) (fun _ => ?_)
        · refine r_iinc (v := (x3 + 6)) (pc := 746) hE dL_law_746 rfl rfl (by decide) ?_
          refine r_goto (pc := 749) hE 18 dL_law_749 (by decide) ?_
          refine Wo_widen (c2 := 60 + 12 * (it + 1)) (s2 := 46400 + 13119 * (it + 1)) (by show 60 + 12 * it + 0 + 0 ≤ _; omega) (by show 46400 + 13119 * it + 0 + 0 ≤ _; omega) ?_
          exact ih (it + 1) _ _ _ _ _ (by omega) h6 ⟨rfl, rfl, rfl, rfl, trivial⟩
        · refine r_iconst (v := 0) (pc := 318) hE dL_law_318 (by decide) ?_
          exact r_law0 (pc := 319) hE
      · refine r_aload_n (pc := 320) hE dL_law_320 rfl ?_
        refine r_callV (pc := 321) hE 6 (As := []) (fun out ho => c_X6_reckoned _ _ fu _ _ out ho) (fun out ho => k_X6_reckoned ho) (by decide) rfl cs_RL_39 ⟨Nat.le_of_ble_eq_true rfl, Nat.le_of_ble_eq_true rfl, (by show 60 + 12 * it + 0 ≤ 600000; omega), (by show 46400 + 13119 * it + 0 ≤ 7302250; omega)⟩ (Nat.le_of_ble_eq_true rfl) rfl dL_law_321 (fun r321 _ => ?_)
        refine r_aload_n (pc := 324) hE dL_law_324 rfl ?_
        refine r_callV (pc := 325) hE 7 (As := []) (fun out ho => c_X7_reckoned _ _ fu _ _ out ho) (fun out ho => k_X7_reckoned ho) (by decide) rfl cs_RL_43 ⟨Nat.le_of_ble_eq_true rfl, Nat.le_of_ble_eq_true rfl, (by show 60 + 12 * it + 0 + 0 ≤ 600000; omega), (by show 46400 + 13119 * it + 0 + 0 ≤ 7302250; omega)⟩ (Nat.le_of_ble_eq_true rfl) rfl dL_law_325 (fun r325 _ => ?_)
        refine r_lcmp (pc := 328) hE dL_law_328 ?_
        refine r_if_eq (pc := 329) hE 746 dL_law_329 (by decide) (fun _ => ?_) (fun _ => ?_)
        · refine r_iinc (v := (x3 + 6)) (pc := 746) hE dL_law_746 rfl rfl (by decide) ?_
          refine r_goto (pc := 749) hE 18 dL_law_749 (by decide) ?_
          refine Wo_widen (c2 := 60 + 12 * (it + 1)) (s2 := 46400 + 13119 * (it + 1)) (by show 60 + 12 * it + 0 + 0 ≤ _; omega) (by show 46400 + 13119 * it + 0 + 0 ≤ _; omega) ?_
          exact ih (it + 1) _ _ _ _ _ (by omega) h6 ⟨rfl, rfl, rfl, rfl, trivial⟩
        · refine r_iconst (v := 0) (pc := 332) hE dL_law_332 (by decide) ?_
          exact r_law0 (pc := 333) hE
      · refine r_aload_n (pc := 334) hE dL_law_334 rfl ?_
        refine r_aload_n (pc := 335) hE dL_law_335 rfl ?_
        refine r_iload_n (pc := 336) hE dL_law_336 rfl ?_
        refine r_iconst (v := 1) (pc := 337) hE dL_law_337 (by decide) ?_
        refine r_iadd (pc := 338) hE dL_law_338 ?_
        refine r_sldS (pc := 339) hE hX hbl hbA dL_law_339 (fun v339 _ => ?_)
        refine r_i2l (pc := 340) hE dL_law_340 ?_
        refine r_bipush (v := 32) (pc := 341) hE dL_law_341 (by decide) ?_
        refine r_lshl (pc := 343) hE dL_law_343 ?_
        refine r_aload_n (pc := 344) hE dL_law_344 rfl ?_
        refine r_iload_n (pc := 345) hE dL_law_345 rfl ?_
        refine r_iconst (v := 2) (pc := 346) hE dL_law_346 (by decide) ?_
        refine r_iadd (pc := 347) hE dL_law_347 ?_
        refine r_sldS (pc := 348) hE hX hbl hbA dL_law_348 (fun v348 _ => ?_)
        refine r_i2l (pc := 349) hE dL_law_349 ?_
        refine r_ldc2 (v := 4294967295) (pc := 350) hE ct_RL_44 dL_law_350 ?_
        refine r_land (pc := 353) hE dL_law_353 ?_
        refine r_lor (pc := 354) hE dL_law_354 ?_
        refine r_callV (pc := 355) hE 6 (As := [.long ((lsh (Int32.toInt64 v339) 32) ||| ((Int32.toInt64 v348) &&& 4294967295))]) (fun out ho => c_X6_begin _ _ fu _ _ _ out ho) (fun out ho => k_X6_begin ho) (by decide) rfl cs_RL_46 ⟨Nat.le_of_ble_eq_true rfl, Nat.le_of_ble_eq_true rfl, (by show 60 + 12 * it + 0 ≤ 600000; omega), (by show 46400 + 13119 * it + 0 ≤ 7302250; omega)⟩ (Nat.le_of_ble_eq_true rfl) rfl dL_law_355 (fun r355 _ => ?_)
        refine r_aload_n (pc := 358) hE dL_law_358 rfl ?_
        refine r_aload_n (pc := 359) hE dL_law_359 rfl ?_
        refine r_iload_n (pc := 360) hE dL_law_360 rfl ?_
        refine r_iconst (v := 1) (pc := 361) hE dL_law_361 (by decide) ?_
        refine r_iadd (pc := 362) hE dL_law_362 ?_
        refine r_sldS (pc := 363) hE hX hbl hbA dL_law_363 (fun v363 _ => ?_)
        refine r_i2l (pc := 364) hE dL_law_364 ?_
        refine r_bipush (v := 32) (pc := 365) hE dL_law_365 (by decide) ?_
        refine r_lshl (pc := 367) hE dL_law_367 ?_
        refine r_aload_n (pc := 368) hE dL_law_368 rfl ?_
        refine r_iload_n (pc := 369) hE dL_law_369 rfl ?_
        refine r_iconst (v := 2) (pc := 370) hE dL_law_370 (by decide) ?_
        refine r_iadd (pc := 371) hE dL_law_371 ?_
        refine r_sldS (pc := 372) hE hX hbl hbA dL_law_372 (fun v372 _ => ?_)
        refine r_i2l (pc := 373) hE dL_law_373 ?_
        refine r_ldc2 (v := 4294967295) (pc := 374) hE ct_RL_44 dL_law_374 ?_
        refine r_land (pc := 377) hE dL_law_377 ?_
        refine r_lor (pc := 378) hE dL_law_378 ?_
        refine r_callV (pc := 379) hE 7 (As := [.long ((lsh (Int32.toInt64 v363) 32) ||| ((Int32.toInt64 v372) &&& 4294967295))]) (fun out ho => c_X7_begin _ _ fu _ _ _ out ho) (fun out ho => k_X7_begin ho) (by decide) rfl cs_RL_50 ⟨Nat.le_of_ble_eq_true rfl, Nat.le_of_ble_eq_true rfl, (by show 60 + 12 * it + 0 + 0 ≤ 600000; omega), (by show 46400 + 13119 * it + 0 + 0 ≤ 7302250; omega)⟩ (Nat.le_of_ble_eq_true rfl) rfl dL_law_379 (fun r379 _ => ?_)
        refine r_icmp_eq (pc := 382) hE 746 dL_law_382 (by decide) (fun _ => ?_) (fun _ => ?_)
        · refine r_iinc (v := (x3 + 6)) (pc := 746) hE dL_law_746 rfl rfl (by decide) ?_
          refine r_goto (pc := 749) hE 18 dL_law_749 (by decide) ?_
          refine Wo_widen (c2 := 60 + 12 * (it + 1)) (s2 := 46400 + 13119 * (it + 1)) (by show 60 + 12 * it + 0 + 0 ≤ _; omega) (by show 46400 + 13119 * it + 0 + 0 ≤ _; omega) ?_
          exact ih (it + 1) _ _ _ _ _ (by omega) h6 ⟨rfl, rfl, rfl, rfl, trivial⟩
        · refine r_iconst (v := 0) (pc := 385) hE dL_law_385 (by decide) ?_
          exact r_law0 (pc := 386) hE
      · refine r_aload_n (pc := 387) hE dL_law_387 rfl ?_
        refine r_aload_n (pc := 388) hE dL_law_388 rfl ?_
        refine r_iload_n (pc := 389) hE dL_law_389 rfl ?_
        refine r_iconst (v := 1) (pc := 390) hE dL_law_390 (by decide) ?_
        refine r_iadd (pc := 391) hE dL_law_391 ?_
        refine r_sldS (pc := 392) hE hX hbl hbA dL_law_392 (fun v392 _ => ?_)
        refine r_callV (pc := 393) hE 6 (As := [.int v392]) (fun out ho => c_X6_put _ _ fu _ _ _ out ho) (fun out ho => k_X6_put ho) (by decide) rfl cs_RL_51 ⟨Nat.le_of_ble_eq_true rfl, Nat.le_of_ble_eq_true rfl, (by show 60 + 12 * it + 0 ≤ 600000; omega), (by show 46400 + 13119 * it + 0 ≤ 7302250; omega)⟩ (Nat.le_of_ble_eq_true rfl) rfl dL_law_393 (fun r393 _ => ?_)
        refine r_aload_n (pc := 396) hE dL_law_396 rfl ?_
        refine r_aload_n (pc := 397) hE dL_law_397 rfl ?_
        refine r_iload_n (pc := 398) hE dL_law_398 rfl ?_
        refine r_iconst (v := 1) (pc := 399) hE dL_law_399 (by decide) ?_
        refine r_iadd (pc := 400) hE dL_law_400 ?_
        refine r_sldS (pc := 401) hE hX hbl hbA dL_law_401 (fun v401 _ => ?_)
        refine r_callV (pc := 402) hE 7 (As := [.int v401]) (fun out ho => c_X7_put _ _ fu _ _ _ out ho) (fun out ho => k_X7_put ho) (by decide) rfl cs_RL_55 ⟨Nat.le_of_ble_eq_true rfl, Nat.le_of_ble_eq_true rfl, (by show 60 + 12 * it + 0 + 0 ≤ 600000; omega), (by show 46400 + 13119 * it + 0 + 0 ≤ 7302250; omega)⟩ (Nat.le_of_ble_eq_true rfl) rfl dL_law_402 (fun r402 _ => ?_)
        refine r_icmp_eq (pc := 405) hE 746 dL_law_405 (by decide) (fun _ => ?_) (fun _ => ?_)
        · refine r_iinc (v := (x3 + 6)) (pc := 746) hE dL_law_746 rfl rfl (by decide) ?_
          refine r_goto (pc := 749) hE 18 dL_law_749 (by decide) ?_
          refine Wo_widen (c2 := 60 + 12 * (it + 1)) (s2 := 46400 + 13119 * (it + 1)) (by show 60 + 12 * it + 0 + 0 ≤ _; omega) (by show 46400 + 13119 * it + 0 + 0 ≤ _; omega) ?_
          exact ih (it + 1) _ _ _ _ _ (by omega) h6 ⟨rfl, rfl, rfl, rfl, trivial⟩
        · refine r_iconst (v := 0) (pc := 408) hE dL_law_408 (by decide) ?_
          exact r_law0 (pc := 409) hE
      · refine r_aload_n (pc := 410) hE dL_law_410 rfl ?_
        refine r_aload_n (pc := 411) hE dL_law_411 rfl ?_
        refine r_iload_n (pc := 412) hE dL_law_412 rfl ?_
        refine r_iconst (v := 1) (pc := 413) hE dL_law_413 (by decide) ?_
        refine r_iadd (pc := 414) hE dL_law_414 ?_
        refine r_sldS (pc := 415) hE hX hbl hbA dL_law_415 (fun v415 _ => ?_)
        refine r_aload_n (pc := 416) hE dL_law_416 rfl ?_
        refine r_iload_n (pc := 417) hE dL_law_417 rfl ?_
        refine r_iconst (v := 2) (pc := 418) hE dL_law_418 (by decide) ?_
        refine r_iadd (pc := 419) hE dL_law_419 ?_
        refine r_sldS (pc := 420) hE hX hbl hbA dL_law_420 (fun v420 _ => ?_)
        refine r_callV (pc := 421) hE 6 (As := [.int v415, .int v420]) (fun out ho => c_X6_steer _ _ fu _ _ _ _ out ho) (fun out ho => k_X6_steer ho) (by decide) rfl cs_RL_56 ⟨Nat.le_of_ble_eq_true rfl, Nat.le_of_ble_eq_true rfl, (by show 60 + 12 * it + 0 ≤ 600000; omega), (by show 46400 + 13119 * it + 0 ≤ 7302250; omega)⟩ (Nat.le_of_ble_eq_true rfl) rfl dL_law_421 (fun r421 _ => ?_)
        refine r_aload_n (pc := 424) hE dL_law_424 rfl ?_
        refine r_aload_n (pc := 425) hE dL_law_425 rfl ?_
        refine r_iload_n (pc := 426) hE dL_law_426 rfl ?_
        refine r_iconst (v := 1) (pc := 427) hE dL_law_427 (by decide) ?_
        refine r_iadd (pc := 428) hE dL_law_428 ?_
        refine r_sldS (pc := 429) hE hX hbl hbA dL_law_429 (fun v429 _ => ?_)
        refine r_aload_n (pc := 430) hE dL_law_430 rfl ?_
        refine r_iload_n (pc := 431) hE dL_law_431 rfl ?_
        refine r_iconst (v := 2) (pc := 432) hE dL_law_432 (by decide) ?_
        refine r_iadd (pc := 433) hE dL_law_433 ?_
        refine r_sldS (pc := 434) hE hX hbl hbA dL_law_434 (fun v434 _ => ?_)
        refine r_callV (pc := 435) hE 7 (As := [.int v429, .int v434]) (fun out ho => c_X7_steer _ _ fu _ _ _ _ out ho) (fun out ho => k_X7_steer ho) (by decide) rfl cs_RL_60 ⟨Nat.le_of_ble_eq_true rfl, Nat.le_of_ble_eq_true rfl, (by show 60 + 12 * it + 0 + 0 ≤ 600000; omega), (by show 46400 + 13119 * it + 0 + 0 ≤ 7302250; omega)⟩ (Nat.le_of_ble_eq_true rfl) rfl dL_law_435 (fun r435 _ => ?_)
        refine r_icmp_eq (pc := 438) hE 746 dL_law_438 (by decide) (fun _ => ?_) (fun _ => ?_)
        · refine r_iinc (v := (x3 + 6)) (pc := 746) hE dL_law_746 rfl rfl (by decide) ?_
          refine r_goto (pc := 749) hE 18 dL_law_749 (by decide) ?_
          refine Wo_widen (c2 := 60 + 12 * (it + 1)) (s2 := 46400 + 13119 * (it + 1)) (by show 60 + 12 * it + 0 + 0 ≤ _; omega) (by show 46400 + 13119 * it + 0 + 0 ≤ _; omega) ?_
          exact ih (it + 1) _ _ _ _ _ (by omega) h6 ⟨rfl, rfl, rfl, rfl, trivial⟩
        · refine r_iconst (v := 0) (pc := 441) hE dL_law_441 (by decide) ?_
          exact r_law0 (pc := 442) hE
      · refine r_aload_n (pc := 443) hE dL_law_443 rfl ?_
        refine r_aload_n (pc := 444) hE dL_law_444 rfl ?_
        refine r_iload_n (pc := 445) hE dL_law_445 rfl ?_
        refine r_iconst (v := 1) (pc := 446) hE dL_law_446 (by decide) ?_
        refine r_iadd (pc := 447) hE dL_law_447 ?_
        refine r_sldS (pc := 448) hE hX hbl hbA dL_law_448 (fun v448 _ => ?_)
        refine r_aload_n (pc := 449) hE dL_law_449 rfl ?_
        refine r_iload_n (pc := 450) hE dL_law_450 rfl ?_
        refine r_iconst (v := 2) (pc := 451) hE dL_law_451 (by decide) ?_
        refine r_iadd (pc := 452) hE dL_law_452 ?_
        refine r_sldS (pc := 453) hE hX hbl hbA dL_law_453 (fun v453 _ => ?_)
        refine r_aload_n (pc := 454) hE dL_law_454 rfl ?_
        refine r_iload_n (pc := 455) hE dL_law_455 rfl ?_
        refine r_iconst (v := 3) (pc := 456) hE dL_law_456 (by decide) ?_
        refine r_iadd (pc := 457) hE dL_law_457 ?_
        refine r_sldS (pc := 458) hE hX hbl hbA dL_law_458 (fun v458 _ => ?_)
        refine r_callV (pc := 459) hE 6 (As := [.int v448, .int v453, .int v458]) (fun out ho => c_X6_sign _ _ fu _ _ _ _ _ out ho) (fun out ho => k_X6_sign ho) (by decide) rfl cs_RL_61 ⟨Nat.le_of_ble_eq_true rfl, Nat.le_of_ble_eq_true rfl, (by show 60 + 12 * it + 0 ≤ 600000; omega), (by show 46400 + 13119 * it + 0 ≤ 7302250; omega)⟩ (Nat.le_of_ble_eq_true rfl) rfl dL_law_459 (fun r459 _ => ?_)
        refine r_aload_n (pc := 462) hE dL_law_462 rfl ?_
        refine r_aload_n (pc := 463) hE dL_law_463 rfl ?_
        refine r_iload_n (pc := 464) hE dL_law_464 rfl ?_
        refine r_iconst (v := 1) (pc := 465) hE dL_law_465 (by decide) ?_
        refine r_iadd (pc := 466) hE dL_law_466 ?_
        refine r_sldS (pc := 467) hE hX hbl hbA dL_law_467 (fun v467 _ => ?_)
        refine r_aload_n (pc := 468) hE dL_law_468 rfl ?_
        refine r_iload_n (pc := 469) hE dL_law_469 rfl ?_
        refine r_iconst (v := 2) (pc := 470) hE dL_law_470 (by decide) ?_
        refine r_iadd (pc := 471) hE dL_law_471 ?_
        refine r_sldS (pc := 472) hE hX hbl hbA dL_law_472 (fun v472 _ => ?_)
        refine r_aload_n (pc := 473) hE dL_law_473 rfl ?_
        refine r_iload_n (pc := 474) hE dL_law_474 rfl ?_
        refine r_iconst (v := 3) (pc := 475) hE dL_law_475 (by decide) ?_
        refine r_iadd (pc := 476) hE dL_law_476 ?_
        refine r_sldS (pc := 477) hE hX hbl hbA dL_law_477 (fun v477 _ => ?_)
        refine r_callV (pc := 478) hE 7 (As := [.int v467, .int v472, .int v477]) (fun out ho => c_X7_sign _ _ fu _ _ _ _ _ out ho) (fun out ho => k_X7_sign ho) (by decide) rfl cs_RL_65 ⟨Nat.le_of_ble_eq_true rfl, Nat.le_of_ble_eq_true rfl, (by show 60 + 12 * it + 0 + 0 ≤ 600000; omega), (by show 46400 + 13119 * it + 0 + 0 ≤ 7302250; omega)⟩ (Nat.le_of_ble_eq_true rfl) rfl dL_law_478 (fun r478 _ => ?_)
        refine r_icmp_eq (pc := 481) hE 746 dL_law_481 (by decide) (fun _ => ?_) (fun _ => ?_)
        · refine r_iinc (v := (x3 + 6)) (pc := 746) hE dL_law_746 rfl rfl (by decide) ?_
          refine r_goto (pc := 749) hE 18 dL_law_749 (by decide) ?_
          refine Wo_widen (c2 := 60 + 12 * (it + 1)) (s2 := 46400 + 13119 * (it + 1)) (by show 60 + 12 * it + 0 + 0 ≤ _; omega) (by show 46400 + 13119 * it + 0 + 0 ≤ _; omega) ?_
          exact ih (it + 1) _ _ _ _ _ (by omega) h6 ⟨rfl, rfl, rfl, rfl, trivial⟩
        · refine r_iconst (v := 0) (pc := 484) hE dL_law_484 (by decide) ?_
          exact r_law0 (pc := 485) hE
      · refine r_aload_n (pc := 486) hE dL_law_486 rfl ?_
        refine r_aload_n (pc := 487) hE dL_law_487 rfl ?_
        refine r_iload_n (pc := 488) hE dL_law_488 rfl ?_
        refine r_iconst (v := 1) (pc := 489) hE dL_law_489 (by decide) ?_
        refine r_iadd (pc := 490) hE dL_law_490 ?_
        refine r_sldS (pc := 491) hE hX hbl hbA dL_law_491 (fun v491 _ => ?_)
        refine r_aload_n (pc := 492) hE dL_law_492 rfl ?_
        refine r_iload_n (pc := 493) hE dL_law_493 rfl ?_
        refine r_iconst (v := 2) (pc := 494) hE dL_law_494 (by decide) ?_
        refine r_iadd (pc := 495) hE dL_law_495 ?_
        refine r_sldS (pc := 496) hE hX hbl hbA dL_law_496 (fun v496 _ => ?_)
        refine r_callV (pc := 497) hE 6 (As := [.int v491, .int v496]) (fun out ho => c_X6_see _ _ fu _ _ _ _ out ho) (fun out ho => k_X6_see ho) (by decide) rfl cs_RL_66 ⟨Nat.le_of_ble_eq_true rfl, Nat.le_of_ble_eq_true rfl, (by show 60 + 12 * it + 0 ≤ 600000; omega), (by show 46400 + 13119 * it + 0 ≤ 7302250; omega)⟩ (Nat.le_of_ble_eq_true rfl) rfl dL_law_497 (fun r497 _ => ?_)
        refine r_aload_n (pc := 500) hE dL_law_500 rfl ?_
        refine r_aload_n (pc := 501) hE dL_law_501 rfl ?_
        refine r_iload_n (pc := 502) hE dL_law_502 rfl ?_
        refine r_iconst (v := 1) (pc := 503) hE dL_law_503 (by decide) ?_
        refine r_iadd (pc := 504) hE dL_law_504 ?_
        refine r_sldS (pc := 505) hE hX hbl hbA dL_law_505 (fun v505 _ => ?_)
        refine r_aload_n (pc := 506) hE dL_law_506 rfl ?_
        refine r_iload_n (pc := 507) hE dL_law_507 rfl ?_
        refine r_iconst (v := 2) (pc := 508) hE dL_law_508 (by decide) ?_
        refine r_iadd (pc := 509) hE dL_law_509 ?_
        refine r_sldS (pc := 510) hE hX hbl hbA dL_law_510 (fun v510 _ => ?_)
        refine r_callV (pc := 511) hE 7 (As := [.int v505, .int v510]) (fun out ho => c_X7_see _ _ fu _ _ _ _ out ho) (fun out ho => k_X7_see ho) (by decide) rfl cs_RL_69 ⟨Nat.le_of_ble_eq_true rfl, Nat.le_of_ble_eq_true rfl, (by show 60 + 12 * it + 0 + 0 ≤ 600000; omega), (by show 46400 + 13119 * it + 0 + 0 ≤ 7302250; omega)⟩ (Nat.le_of_ble_eq_true rfl) rfl dL_law_511 (fun r511 _ => ?_)
        refine r_icmp_eq (pc := 514) hE 746 dL_law_514 (by decide) (fun _ => ?_) (fun _ => ?_)
        · refine r_iinc (v := (x3 + 6)) (pc := 746) hE dL_law_746 rfl rfl (by decide) ?_
          refine r_goto (pc := 749) hE 18 dL_law_749 (by decide) ?_
          refine Wo_widen (c2 := 60 + 12 * (it + 1)) (s2 := 46400 + 13119 * (it + 1)) (by show 60 + 12 * it + 0 + 0 ≤ _; omega) (by show 46400 + 13119 * it + 0 + 0 ≤ _; omega) ?_
          exact ih (it + 1) _ _ _ _ _ (by omega) h6 ⟨rfl, rfl, rfl, rfl, trivial⟩
        · refine r_iconst (v := 0) (pc := 517) hE dL_law_517 (by decide) ?_
          exact r_law0 (pc := 518) hE
      · refine r_aload_n (pc := 519) hE dL_law_519 rfl ?_
        refine r_callV (pc := 520) hE 6 (As := []) (fun out ho => c_X6_sights _ _ fu _ _ out ho) (fun out ho => k_X6_sights ho) (by decide) rfl cs_RL_70 ⟨Nat.le_of_ble_eq_true rfl, Nat.le_of_ble_eq_true rfl, (by show 60 + 12 * it + 0 ≤ 600000; omega), (by show 46400 + 13119 * it + 0 ≤ 7302250; omega)⟩ (Nat.le_of_ble_eq_true rfl) rfl dL_law_520 (fun r520 _ => ?_)
        refine r_aload_n (pc := 523) hE dL_law_523 rfl ?_
        refine r_callV (pc := 524) hE 7 (As := []) (fun out ho => c_X7_sights _ _ fu _ _ out ho) (fun out ho => k_X7_sights ho) (by decide) rfl cs_RL_74 ⟨Nat.le_of_ble_eq_true rfl, Nat.le_of_ble_eq_true rfl, (by show 60 + 12 * it + 0 + 0 ≤ 600000; omega), (by show 46400 + 13119 * it + 0 + 0 ≤ 7302250; omega)⟩ (Nat.le_of_ble_eq_true rfl) rfl dL_law_524 (fun r524 _ => ?_)
        refine r_icmp_eq (pc := 527) hE 746 dL_law_527 (by decide) (fun _ => ?_) (fun _ => ?_)
        · refine r_iinc (v := (x3 + 6)) (pc := 746) hE dL_law_746 rfl rfl (by decide) ?_
          refine r_goto (pc := 749) hE 18 dL_law_749 (by decide) ?_
          refine Wo_widen (c2 := 60 + 12 * (it + 1)) (s2 := 46400 + 13119 * (it + 1)) (by show 60 + 12 * it + 0 + 0 ≤ _; omega) (by show 46400 + 13119 * it + 0 + 0 ≤ _; omega) ?_
          exact ih (it + 1) _ _ _ _ _ (by omega) h6 ⟨rfl, rfl, rfl, rfl, trivial⟩
        · refine r_iconst (v := 0) (pc := 530) hE dL_law_530 (by decide) ?_
          exact r_law0 (pc := 531) hE
      · refine r_aload_n (pc := 532) hE dL_law_532 rfl ?_
        refine r_aload_n (pc := 533) hE dL_law_533 rfl ?_
        refine r_iload_n (pc := 534) hE dL_law_534 rfl ?_
        refine r_iconst (v := 1) (pc := 535) hE dL_law_535 (by decide) ?_
        refine r_iadd (pc := 536) hE dL_law_536 ?_
        refine r_sldS (pc := 537) hE hX hbl hbA dL_law_537 (fun v537 _ => ?_)
        refine r_aload_n (pc := 538) hE dL_law_538 rfl ?_
        refine r_iload_n (pc := 539) hE dL_law_539 rfl ?_
        refine r_iconst (v := 2) (pc := 540) hE dL_law_540 (by decide) ?_
        refine r_iadd (pc := 541) hE dL_law_541 ?_
        refine r_sldS (pc := 542) hE hX hbl hbA dL_law_542 (fun v542 _ => ?_)
        refine r_aload_n (pc := 543) hE dL_law_543 rfl ?_
        refine r_iload_n (pc := 544) hE dL_law_544 rfl ?_
        refine r_iconst (v := 3) (pc := 545) hE dL_law_545 (by decide) ?_
        refine r_iadd (pc := 546) hE dL_law_546 ?_
        refine r_sldS (pc := 547) hE hX hbl hbA dL_law_547 (fun v547 _ => ?_)
        refine r_aload_n (pc := 548) hE dL_law_548 rfl ?_
        refine r_iload_n (pc := 549) hE dL_law_549 rfl ?_
        refine r_iconst (v := 4) (pc := 550) hE dL_law_550 (by decide) ?_
        refine r_iadd (pc := 551) hE dL_law_551 ?_
        refine r_sldS (pc := 552) hE hX hbl hbA dL_law_552 (fun v552 _ => ?_)
        refine r_aload_n (pc := 553) hE dL_law_553 rfl ?_
        refine r_iload_n (pc := 554) hE dL_law_554 rfl ?_
        refine r_iconst (v := 5) (pc := 555) hE dL_law_555 (by decide) ?_
        refine r_iadd (pc := 556) hE dL_law_556 ?_
        refine r_sldS (pc := 557) hE hX hbl hbA dL_law_557 (fun v557 _ => ?_)
        refine r_callV (pc := 558) hE 6 (As := [.int v537, .int v542, .int v547, .int v552, .int v557]) (fun out ho => c_X6_feed _ _ fu _ _ _ _ _ _ _ out ho) (fun out ho => k_X6_feed ho) (by decide) rfl cs_RL_75 ⟨Nat.le_of_ble_eq_true rfl, Nat.le_of_ble_eq_true rfl, (by show 60 + 12 * it + 0 ≤ 600000; omega), (by show 46400 + 13119 * it + 0 ≤ 7302250; omega)⟩ (Nat.le_of_ble_eq_true rfl) rfl dL_law_558 (fun r558 _ => ?_)
        refine r_aload_n (pc := 561) hE dL_law_561 rfl ?_
        refine r_aload_n (pc := 562) hE dL_law_562 rfl ?_
        refine r_iload_n (pc := 563) hE dL_law_563 rfl ?_
        refine r_iconst (v := 1) (pc := 564) hE dL_law_564 (by decide) ?_
        refine r_iadd (pc := 565) hE dL_law_565 ?_
        refine r_sldS (pc := 566) hE hX hbl hbA dL_law_566 (fun v566 _ => ?_)
        refine r_aload_n (pc := 567) hE dL_law_567 rfl ?_
        refine r_iload_n (pc := 568) hE dL_law_568 rfl ?_
        refine r_iconst (v := 2) (pc := 569) hE dL_law_569 (by decide) ?_
        refine r_iadd (pc := 570) hE dL_law_570 ?_
        refine r_sldS (pc := 571) hE hX hbl hbA dL_law_571 (fun v571 _ => ?_)
        refine r_aload_n (pc := 572) hE dL_law_572 rfl ?_
        refine r_iload_n (pc := 573) hE dL_law_573 rfl ?_
        refine r_iconst (v := 3) (pc := 574) hE dL_law_574 (by decide) ?_
        refine r_iadd (pc := 575) hE dL_law_575 ?_
        refine r_sldS (pc := 576) hE hX hbl hbA dL_law_576 (fun v576 _ => ?_)
        refine r_aload_n (pc := 577) hE dL_law_577 rfl ?_
        refine r_iload_n (pc := 578) hE dL_law_578 rfl ?_
        refine r_iconst (v := 4) (pc := 579) hE dL_law_579 (by decide) ?_
        refine r_iadd (pc := 580) hE dL_law_580 ?_
        refine r_sldS (pc := 581) hE hX hbl hbA dL_law_581 (fun v581 _ => ?_)
        refine r_aload_n (pc := 582) hE dL_law_582 rfl ?_
        refine r_iload_n (pc := 583) hE dL_law_583 rfl ?_
        refine r_iconst (v := 5) (pc := 584) hE dL_law_584 (by decide) ?_
        refine r_iadd (pc := 585) hE dL_law_585 ?_
        refine r_sldS (pc := 586) hE hX hbl hbA dL_law_586 (fun v586 _ => ?_)
        refine r_callV (pc := 587) hE 7 (As := [.int v566, .int v571, .int v576, .int v581, .int v586]) (fun out ho => c_X7_feed _ _ fu _ _ _ _ _ _ _ out ho) (fun out ho => k_X7_feed ho) (by decide) rfl cs_RL_79 ⟨Nat.le_of_ble_eq_true rfl, Nat.le_of_ble_eq_true rfl, (by show 60 + 12 * it + 0 + 0 ≤ 600000; omega), (by show 46400 + 13119 * it + 0 + 0 ≤ 7302250; omega)⟩ (Nat.le_of_ble_eq_true rfl) rfl dL_law_587 (fun r587 _ => ?_)
        refine r_icmp_eq (pc := 590) hE 746 dL_law_590 (by decide) (fun _ => ?_) (fun _ => ?_)
        · refine r_iinc (v := (x3 + 6)) (pc := 746) hE dL_law_746 rfl rfl (by decide) ?_
          refine r_goto (pc := 749) hE 18 dL_law_749 (by decide) ?_
          refine Wo_widen (c2 := 60 + 12 * (it + 1)) (s2 := 46400 + 13119 * (it + 1)) (by show 60 + 12 * it + 0 + 0 ≤ _; omega) (by show 46400 + 13119 * it + 0 + 0 ≤ _; omega) ?_
          exact ih (it + 1) _ _ _ _ _ (by omega) h6 ⟨rfl, rfl, rfl, rfl, trivial⟩
        · refine r_iconst (v := 0) (pc := 593) hE dL_law_593 (by decide) ?_
          exact r_law0 (pc := 594) hE
      · refine r_aload_n (pc := 595) hE dL_law_595 rfl ?_
        refine r_aload_n (pc := 596) hE dL_law_596 rfl ?_
        refine r_iload_n (pc := 597) hE dL_law_597 rfl ?_
        refine r_iconst (v := 1) (pc := 598) hE dL_law_598 (by decide) ?_
        refine r_iadd (pc := 599) hE dL_law_599 ?_
        refine r_sldS (pc := 600) hE hX hbl hbA dL_law_600 (fun v600 _ => ?_)
        refine r_callV (pc := 601) hE 6 (As := [.int v600]) (fun out ho => c_X6_end _ _ fu _ _ _ out ho) (fun out ho => k_X6_end ho) (by decide) rfl cs_RL_80 ⟨Nat.le_of_ble_eq_true rfl, Nat.le_of_ble_eq_true rfl, (by show 60 + 12 * it + 0 ≤ 600000; omega), (by show 46400 + 13119 * it + 0 ≤ 7302250; omega)⟩ (Nat.le_of_ble_eq_true rfl) rfl dL_law_601 (fun r601 _ => ?_)
        refine r_aload_n (pc := 604) hE dL_law_604 rfl ?_
        refine r_aload_n (pc := 605) hE dL_law_605 rfl ?_
        refine r_iload_n (pc := 606) hE dL_law_606 rfl ?_
        refine r_iconst (v := 1) (pc := 607) hE dL_law_607 (by decide) ?_
        refine r_iadd (pc := 608) hE dL_law_608 ?_
        refine r_sldS (pc := 609) hE hX hbl hbA dL_law_609 (fun v609 _ => ?_)
        refine r_callV (pc := 610) hE 7 (As := [.int v609]) (fun out ho => c_X7_end _ _ fu _ _ _ out ho) (fun out ho => k_X7_end ho) (by decide) rfl cs_RL_83 ⟨Nat.le_of_ble_eq_true rfl, Nat.le_of_ble_eq_true rfl, (by show 60 + 12 * it + 0 + 0 ≤ 600000; omega), (by show 46400 + 13119 * it + 0 + 0 ≤ 7302250; omega)⟩ (Nat.le_of_ble_eq_true rfl) rfl dL_law_610 (fun r610 _ => ?_)
        refine r_icmp_eq (pc := 613) hE 746 dL_law_613 (by decide) (fun _ => ?_) (fun _ => ?_)
        · refine r_iinc (v := (x3 + 6)) (pc := 746) hE dL_law_746 rfl rfl (by decide) ?_
          refine r_goto (pc := 749) hE 18 dL_law_749 (by decide) ?_
          refine Wo_widen (c2 := 60 + 12 * (it + 1)) (s2 := 46400 + 13119 * (it + 1)) (by show 60 + 12 * it + 0 + 0 ≤ _; omega) (by show 46400 + 13119 * it + 0 + 0 ≤ _; omega) ?_
          exact ih (it + 1) _ _ _ _ _ (by omega) h6 ⟨rfl, rfl, rfl, rfl, trivial⟩
        · refine r_iconst (v := 0) (pc := 616) hE dL_law_616 (by decide) ?_
          exact r_law0 (pc := 617) hE
      · refine r_aload_n (pc := 618) hE dL_law_618 rfl ?_
        refine r_callV (pc := 619) hE 6 (As := []) (fun out ho => c_X6_chant _ _ fu _ _ out ho) (fun out ho => k_X6_chant ho) (by decide) rfl cs_RL_84 ⟨Nat.le_of_ble_eq_true rfl, Nat.le_of_ble_eq_true rfl, (by show 60 + 12 * it + 0 ≤ 600000; omega), (by show 46400 + 13119 * it + 0 ≤ 7302250; omega)⟩ (Nat.le_of_ble_eq_true rfl) rfl dL_law_619 (fun r619 _ => ?_)
        refine r_aload_n (pc := 622) hE dL_law_622 rfl ?_
        refine r_callV (pc := 623) hE 7 (As := []) (fun out ho => c_X7_chant _ _ fu _ _ out ho) (fun out ho => k_X7_chant ho) (by decide) rfl cs_RL_87 ⟨Nat.le_of_ble_eq_true rfl, Nat.le_of_ble_eq_true rfl, (by show 60 + 12 * it + 0 + 0 ≤ 600000; omega), (by show 46400 + 13119 * it + 0 + 0 ≤ 7302250; omega)⟩ (Nat.le_of_ble_eq_true rfl) rfl dL_law_623 (fun r623 _ => ?_)
        refine r_icmp_eq (pc := 626) hE 746 dL_law_626 (by decide) (fun _ => ?_) (fun _ => ?_)
        · refine r_iinc (v := (x3 + 6)) (pc := 746) hE dL_law_746 rfl rfl (by decide) ?_
          refine r_goto (pc := 749) hE 18 dL_law_749 (by decide) ?_
          refine Wo_widen (c2 := 60 + 12 * (it + 1)) (s2 := 46400 + 13119 * (it + 1)) (by show 60 + 12 * it + 0 + 0 ≤ _; omega) (by show 46400 + 13119 * it + 0 + 0 ≤ _; omega) ?_
          exact ih (it + 1) _ _ _ _ _ (by omega) h6 ⟨rfl, rfl, rfl, rfl, trivial⟩
        · refine r_iconst (v := 0) (pc := 629) hE dL_law_629 (by decide) ?_
          exact r_law0 (pc := 630) hE
      · refine r_aload_n (pc := 631) hE dL_law_631 rfl ?_
        refine r_aload_n (pc := 632) hE dL_law_632 rfl ?_
        refine r_iload_n (pc := 633) hE dL_law_633 rfl ?_
        refine r_iconst (v := 1) (pc := 634) hE dL_law_634 (by decide) ?_
        refine r_iadd (pc := 635) hE dL_law_635 ?_
        refine r_sldS (pc := 636) hE hX hbl hbA dL_law_636 (fun v636 _ => ?_)
        refine r_callV (pc := 637) hE 6 (As := [.int v636]) (fun out ho => c_X6_fault _ _ fu _ _ _ out ho) (fun out ho => k_X6_fault ho) (by decide) rfl cs_RL_88 ⟨Nat.le_of_ble_eq_true rfl, Nat.le_of_ble_eq_true rfl, (by show 60 + 12 * it + 0 ≤ 600000; omega), (by show 46400 + 13119 * it + 0 ≤ 7302250; omega)⟩ (Nat.le_of_ble_eq_true rfl) rfl dL_law_637 (fun r637 _ => ?_)
        refine r_aload_n (pc := 640) hE dL_law_640 rfl ?_
        refine r_aload_n (pc := 641) hE dL_law_641 rfl ?_
        refine r_iload_n (pc := 642) hE dL_law_642 rfl ?_
        refine r_iconst (v := 1) (pc := 643) hE dL_law_643 (by decide) ?_
        refine r_iadd (pc := 644) hE dL_law_644 ?_
        refine r_sldS (pc := 645) hE hX hbl hbA dL_law_645 (fun v645 _ => ?_)
        refine r_callV (pc := 646) hE 7 (As := [.int v645]) (fun out ho => c_X7_fault _ _ fu _ _ _ out ho) (fun out ho => k_X7_fault ho) (by decide) rfl cs_RL_91 ⟨Nat.le_of_ble_eq_true rfl, Nat.le_of_ble_eq_true rfl, (by show 60 + 12 * it + 0 + 0 ≤ 600000; omega), (by show 46400 + 13119 * it + 0 + 0 ≤ 7302250; omega)⟩ (Nat.le_of_ble_eq_true rfl) rfl dL_law_646 (fun r646 _ => ?_)
        refine r_icmp_eq (pc := 649) hE 746 dL_law_649 (by decide) (fun _ => ?_) (fun _ => ?_)
        · refine r_iinc (v := (x3 + 6)) (pc := 746) hE dL_law_746 rfl rfl (by decide) ?_
          refine r_goto (pc := 749) hE 18 dL_law_749 (by decide) ?_
          refine Wo_widen (c2 := 60 + 12 * (it + 1)) (s2 := 46400 + 13119 * (it + 1)) (by show 60 + 12 * it + 0 + 0 ≤ _; omega) (by show 46400 + 13119 * it + 0 + 0 ≤ _; omega) ?_
          exact ih (it + 1) _ _ _ _ _ (by omega) h6 ⟨rfl, rfl, rfl, rfl, trivial⟩
        · refine r_iconst (v := 0) (pc := 652) hE dL_law_652 (by decide) ?_
          exact r_law0 (pc := 653) hE
      · refine r_aload_n (pc := 654) hE dL_law_654 rfl ?_
        refine r_aload_n (pc := 655) hE dL_law_655 rfl ?_
        refine r_iload_n (pc := 656) hE dL_law_656 rfl ?_
        refine r_iconst (v := 1) (pc := 657) hE dL_law_657 (by decide) ?_
        refine r_iadd (pc := 658) hE dL_law_658 ?_
        refine r_sldS (pc := 659) hE hX hbl hbA dL_law_659 (fun v659 _ => ?_)
        refine r_callV (pc := 660) hE 6 (As := [.int v659]) (fun out ho => c_X6_sure _ _ fu _ _ _ out ho) (fun out ho => k_X6_sure ho) (by decide) rfl cs_RL_92 ⟨Nat.le_of_ble_eq_true rfl, Nat.le_of_ble_eq_true rfl, (by show 60 + 12 * it + 12 ≤ 600000; omega), (by show 46400 + 13119 * it + 2899 ≤ 7302250; omega)⟩ (Nat.le_of_ble_eq_true rfl) rfl dL_law_660 (fun r660 _ => ?_)
        refine r_aload_n (pc := 663) hE dL_law_663 rfl ?_
        refine r_aload_n (pc := 664) hE dL_law_664 rfl ?_
        refine r_iload_n (pc := 665) hE dL_law_665 rfl ?_
        refine r_iconst (v := 1) (pc := 666) hE dL_law_666 (by decide) ?_
        refine r_iadd (pc := 667) hE dL_law_667 ?_
        refine r_sldS (pc := 668) hE hX hbl hbA dL_law_668 (fun v668 _ => ?_)
        refine r_callV (pc := 669) hE 7 (As := [.int v668]) (fun out ho => c_X7_sure _ _ fu _ _ _ out ho) (fun out ho => k_X7_sure ho) (by decide) rfl cs_RL_95 ⟨Nat.le_of_ble_eq_true rfl, Nat.le_of_ble_eq_true rfl, (by show 60 + 12 * it + 12 + 0 ≤ 600000; omega), (by show 46400 + 13119 * it + 2899 + 0 ≤ 7302250; omega)⟩ (Nat.le_of_ble_eq_true rfl) rfl dL_law_669 (fun r669 _ => ?_)
        refine r_icmp_eq (pc := 672) hE 746 dL_law_672 (by decide) (fun _ => ?_) (fun _ => ?_)
        · refine r_iinc (v := (x3 + 6)) (pc := 746) hE dL_law_746 rfl rfl (by decide) ?_
          refine r_goto (pc := 749) hE 18 dL_law_749 (by decide) ?_
          refine Wo_widen (c2 := 60 + 12 * (it + 1)) (s2 := 46400 + 13119 * (it + 1)) (by show 60 + 12 * it + 12 + 0 ≤ _; omega) (by show 46400 + 13119 * it + 2899 + 0 ≤ _; omega) ?_
          exact ih (it + 1) _ _ _ _ _ (by omega) h6 ⟨rfl, rfl, rfl, rfl, trivial⟩
        · refine r_iconst (v := 0) (pc := 675) hE dL_law_675 (by decide) ?_
          exact r_law0 (pc := 676) hE
      · refine r_aload_n (pc := 677) hE dL_law_677 rfl ?_
        refine r_aload_n (pc := 678) hE dL_law_678 rfl ?_
        refine r_iload_n (pc := 679) hE dL_law_679 rfl ?_
        refine r_iconst (v := 1) (pc := 680) hE dL_law_680 (by decide) ?_
        refine r_iadd (pc := 681) hE dL_law_681 ?_
        refine r_sldS (pc := 682) hE hX hbl hbA dL_law_682 (fun v682 _ => ?_)
        refine r_callV (pc := 683) hE 6 (As := [.int v682]) (fun out ho => c_X6_from _ _ fu _ _ _ out ho) (fun out ho => k_X6_from ho) (by decide) rfl cs_RL_96 ⟨Nat.le_of_ble_eq_true rfl, Nat.le_of_ble_eq_true rfl, (by show 60 + 12 * it + 12 ≤ 600000; omega), (by show 46400 + 13119 * it + 2899 ≤ 7302250; omega)⟩ (Nat.le_of_ble_eq_true rfl) rfl dL_law_683 (fun r683 _ => ?_)
        refine r_aload_n (pc := 686) hE dL_law_686 rfl ?_
        refine r_aload_n (pc := 687) hE dL_law_687 rfl ?_
        refine r_iload_n (pc := 688) hE dL_law_688 rfl ?_
        refine r_iconst (v := 1) (pc := 689) hE dL_law_689 (by decide) ?_
        refine r_iadd (pc := 690) hE dL_law_690 ?_
        refine r_sldS (pc := 691) hE hX hbl hbA dL_law_691 (fun v691 _ => ?_)
        refine r_callV (pc := 692) hE 7 (As := [.int v691]) (fun out ho => c_X7_from _ _ fu _ _ _ out ho) (fun out ho => k_X7_from ho) (by decide) rfl cs_RL_99 ⟨Nat.le_of_ble_eq_true rfl, Nat.le_of_ble_eq_true rfl, (by show 60 + 12 * it + 12 + 0 ≤ 600000; omega), (by show 46400 + 13119 * it + 2899 + 0 ≤ 7302250; omega)⟩ (Nat.le_of_ble_eq_true rfl) rfl dL_law_692 (fun r692 _ => ?_)
        refine r_icmp_eq (pc := 695) hE 746 dL_law_695 (by decide) (fun _ => ?_) (fun _ => ?_)
        · refine r_iinc (v := (x3 + 6)) (pc := 746) hE dL_law_746 rfl rfl (by decide) ?_
          refine r_goto (pc := 749) hE 18 dL_law_749 (by decide) ?_
          refine Wo_widen (c2 := 60 + 12 * (it + 1)) (s2 := 46400 + 13119 * (it + 1)) (by show 60 + 12 * it + 12 + 0 ≤ _; omega) (by show 46400 + 13119 * it + 2899 + 0 ≤ _; omega) ?_
          exact ih (it + 1) _ _ _ _ _ (by omega) h6 ⟨rfl, rfl, rfl, rfl, trivial⟩
        · refine r_iconst (v := 0) (pc := 698) hE dL_law_698 (by decide) ?_
          exact r_law0 (pc := 699) hE
      · refine r_aload_n (pc := 700) hE dL_law_700 rfl ?_
        refine r_aload_n (pc := 701) hE dL_law_701 rfl ?_
        refine r_iload_n (pc := 702) hE dL_law_702 rfl ?_
        refine r_iconst (v := 1) (pc := 703) hE dL_law_703 (by decide) ?_
        refine r_iadd (pc := 704) hE dL_law_704 ?_
        refine r_sldS (pc := 705) hE hX hbl hbA dL_law_705 (fun v705 _ => ?_)
        refine r_callV (pc := 706) hE 6 (As := [.int v705]) (fun out ho => c_X6_sings _ _ fu _ _ _ out ho) (fun out ho => k_X6_sings ho) (by decide) rfl cs_RL_100 ⟨Nat.le_of_ble_eq_true rfl, Nat.le_of_ble_eq_true rfl, (by show 60 + 12 * it + 0 ≤ 600000; omega), (by show 46400 + 13119 * it + 0 ≤ 7302250; omega)⟩ (Nat.le_of_ble_eq_true rfl) rfl dL_law_706 (fun r706 _ => ?_)
        refine r_aload_n (pc := 709) hE dL_law_709 rfl ?_
        refine r_aload_n (pc := 710) hE dL_law_710 rfl ?_
        refine r_iload_n (pc := 711) hE dL_law_711 rfl ?_
        refine r_iconst (v := 1) (pc := 712) hE dL_law_712 (by decide) ?_
        refine r_iadd (pc := 713) hE dL_law_713 ?_
        refine r_sldS (pc := 714) hE hX hbl hbA dL_law_714 (fun v714 _ => ?_)
        refine r_callV (pc := 715) hE 7 (As := [.int v714]) (fun out ho => c_X7_sings _ _ fu _ _ _ out ho) (fun out ho => k_X7_sings ho) (by decide) rfl cs_RL_103 ⟨Nat.le_of_ble_eq_true rfl, Nat.le_of_ble_eq_true rfl, (by show 60 + 12 * it + 0 + 0 ≤ 600000; omega), (by show 46400 + 13119 * it + 0 + 0 ≤ 7302250; omega)⟩ (Nat.le_of_ble_eq_true rfl) rfl dL_law_715 (fun r715 _ => ?_)
        refine r_icmp_eq (pc := 718) hE 746 dL_law_718 (by decide) (fun _ => ?_) (fun _ => ?_)
        · refine r_iinc (v := (x3 + 6)) (pc := 746) hE dL_law_746 rfl rfl (by decide) ?_
          refine r_goto (pc := 749) hE 18 dL_law_749 (by decide) ?_
          refine Wo_widen (c2 := 60 + 12 * (it + 1)) (s2 := 46400 + 13119 * (it + 1)) (by show 60 + 12 * it + 0 + 0 ≤ _; omega) (by show 46400 + 13119 * it + 0 + 0 ≤ _; omega) ?_
          exact ih (it + 1) _ _ _ _ _ (by omega) h6 ⟨rfl, rfl, rfl, rfl, trivial⟩
        · refine r_iconst (v := 0) (pc := 721) hE dL_law_721 (by decide) ?_
          exact r_law0 (pc := 722) hE
      · refine r_aload_n (pc := 723) hE dL_law_723 rfl ?_
        refine r_aload_n (pc := 724) hE dL_law_724 rfl ?_
        refine r_iload_n (pc := 725) hE dL_law_725 rfl ?_
        refine r_iconst (v := 1) (pc := 726) hE dL_law_726 (by decide) ?_
        refine r_iadd (pc := 727) hE dL_law_727 ?_
        refine r_sldS (pc := 728) hE hX hbl hbA dL_law_728 (fun v728 _ => ?_)
        refine r_callV (pc := 729) hE 6 (As := [.int v728]) (fun out ho => c_X6_blind _ _ fu _ _ _ out ho) (fun out ho => k_X6_blind ho) (by decide) rfl cs_RL_104 ⟨Nat.le_of_ble_eq_true rfl, Nat.le_of_ble_eq_true rfl, (by show 60 + 12 * it + 6 ≤ 600000; omega), (by show 46400 + 13119 * it + 13119 ≤ 7302250; omega)⟩ (Nat.le_of_ble_eq_true rfl) rfl dL_law_729 (fun r729 _ => ?_)
        refine r_aload_n (pc := 732) hE dL_law_732 rfl ?_
        refine r_aload_n (pc := 733) hE dL_law_733 rfl ?_
        refine r_iload_n (pc := 734) hE dL_law_734 rfl ?_
        refine r_iconst (v := 1) (pc := 735) hE dL_law_735 (by decide) ?_
        refine r_iadd (pc := 736) hE dL_law_736 ?_
        refine r_sldS (pc := 737) hE hX hbl hbA dL_law_737 (fun v737 _ => ?_)
        refine r_callV (pc := 738) hE 7 (As := [.int v737]) (fun out ho => c_X7_blind _ _ fu _ _ _ out ho) (fun out ho => k_X7_blind ho) (by decide) rfl cs_RL_107 ⟨Nat.le_of_ble_eq_true rfl, Nat.le_of_ble_eq_true rfl, (by show 60 + 12 * it + 6 + 0 ≤ 600000; omega), (by show 46400 + 13119 * it + 13119 + 0 ≤ 7302250; omega)⟩ (Nat.le_of_ble_eq_true rfl) rfl dL_law_738 (fun r738 _ => ?_)
        refine r_icmp_eq (pc := 741) hE 746 dL_law_741 (by decide) (fun _ => ?_) (fun _ => ?_)
        · refine r_iinc (v := (x3 + 6)) (pc := 746) hE dL_law_746 rfl rfl (by decide) ?_
          refine r_goto (pc := 749) hE 18 dL_law_749 (by decide) ?_
          refine Wo_widen (c2 := 60 + 12 * (it + 1)) (s2 := 46400 + 13119 * (it + 1)) (by show 60 + 12 * it + 6 + 0 ≤ _; omega) (by show 46400 + 13119 * it + 13119 + 0 ≤ _; omega) ?_
          exact ih (it + 1) _ _ _ _ _ (by omega) h6 ⟨rfl, rfl, rfl, rfl, trivial⟩
        · refine r_iconst (v := 0) (pc := 744) hE dL_law_744 (by decide) ?_
          exact r_law0 (pc := 745) hE
      · refine r_iinc (v := (x3 + 6)) (pc := 746) hE dL_law_746 rfl rfl (by decide) ?_
        refine r_goto (pc := 749) hE 18 dL_law_749 (by decide) ?_
        refine Wo_widen (c2 := 60 + 12 * (it + 1)) (s2 := 46400 + 13119 * (it + 1)) (by show 60 + 12 * it ≤ _; omega) (by show 46400 + 13119 * it ≤ _; omega) ?_
        exact ih (it + 1) _ _ _ _ _ (by omega) h6 ⟨rfl, rfl, rfl, rfl, trivial⟩
def f_L_law (fu L : Nat) (xs : Nat → Int32) (h : Hp) : Option (Int32 × Hp) :=
  (f_X6_init fu (Hp.N h) (newC h 6 0)).bind fun r4 =>
  (f_X7_init fu (Hp.N r4.2) (newC r4.2 7 0)).bind fun r12 =>
  f_L_law_18 fu L xs fu (Hp.N h) (Hp.N r4.2) 0 r12.2
set_option maxHeartbeats 4000000 in
set_option maxRecDepth 100000 in
theorem w_L_law {X : Cx} {D : Dx} {b L : Nat} {xs : Nat → Int32} {fu : Nat} (hE : En X D code 4 RL ret room_1) (hX : va_X b L xs X.s X.s.heap) (hbl : b < X.s.heap.size) (hbA : ¬ D.A b) (hargs : X.args = #[Value.ref b] ∧ ∀ q, D.A q → X.s.heap.size ≤ q) (hL : L ≤ 3072) (h : Hp) : Wo X D 4 (QL X) 0 0 (f_L_law fu L xs h) 0 [some (.ref b), none, none, none] [] h := by
  unfold f_L_law
  refine r_new (pc := 0) hE 6 (by decide) nw_RL_7 ⟨Nat.le_of_ble_eq_true rfl, Nat.le_of_ble_eq_true rfl⟩ dL_law_0 ?_
  refine r_dup (pc := 3) hE dL_law_3 rfl ?_
  refine r_callI (pc := 4) hE (As := []) (fun out ho => c_X6_init _ _ fu _ _ out ho) cs_RL_9 ⟨Nat.le_of_ble_eq_true rfl, Nat.le_of_ble_eq_true rfl, Nat.le_of_ble_eq_true rfl, Nat.le_of_ble_eq_true rfl⟩ (Nat.le_of_ble_eq_true rfl) rfl dL_law_4 (fun r4 _ => ?_)
  refine r_astore_n (pc := 7) hE dL_law_7 (by decide) ?_
  refine r_new (pc := 8) hE 7 (by decide) nw_RL_10 ⟨Nat.le_of_ble_eq_true rfl, Nat.le_of_ble_eq_true rfl⟩ dL_law_8 ?_
  refine r_dup (pc := 11) hE dL_law_11 rfl ?_
  refine r_callI (pc := 12) hE (As := []) (fun out ho => c_X7_init _ _ fu _ _ out ho) cs_RL_12 ⟨Nat.le_of_ble_eq_true rfl, Nat.le_of_ble_eq_true rfl, Nat.le_of_ble_eq_true rfl, Nat.le_of_ble_eq_true rfl⟩ (Nat.le_of_ble_eq_true rfl) rfl dL_law_12 (fun r12 _ => ?_)
  refine r_astore_n (pc := 15) hE dL_law_15 (by decide) ?_
  refine r_iconst (v := 0) (pc := 16) hE dL_law_16 (by decide) ?_
  refine r_istore_n (pc := 17) hE dL_law_17 (by decide) ?_
  refine Wo_widen (c2 := 60 + 12 * 0) (s2 := 46400 + 13119 * 0) (Nat.le_of_ble_eq_true rfl) (Nat.le_of_ble_eq_true rfl) ?_
  exact w_L_law_18 hE hX hbl hbA hargs hL fu 0 _ _ _ _ _ (by omega) rfl ⟨rfl, rfl, rfl, rfl, trivial⟩
