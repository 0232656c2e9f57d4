
section NEWS
variable {ρ : Type} {X : Cx} {D : Dx} {cc : ByteArray} {nL : Nat} {own : String} {rt : Option FieldType} {rm : Room} {Q : ρ × Hp → State → Prop} {cells slots : Nat} {o o1 o2 : Option (ρ × Hp)} {pc : Nat} {lv : List (Option Value)} {st : List Value} {h : Hp}
/-- a new cell -/
theorem gP_new {D : Dx} {h : Hp} {H H' : Heap} {kd len : Nat} (hP : gP D h H) (hz : H'.size = h.N + 1) (oq : ∀ q : Nat, q < h.N → H'[q]? = H[q]?) (ha : gA D (newC h kd len) h.N H') : gP D (newC h kd len) H' := by
  refine ⟨hz, Nat.le_succ_of_le hP.2.1, fun b hb => ?_⟩
  by_cases hbn : b = h.N
  · subst hbn; exact ⟨hP.2.1, Nat.lt_succ_self _, ha⟩
  · have hKb : (newC h kd len).K b = h.K b := by show va_up h.K h.N kd b = _; simp [va_up, hbn]
    rw [hKb] at hb
    obtain ⟨g1, g2, g3⟩ := hP.2.2 b hb
    refine ⟨g1, Nat.lt_succ_of_lt g2, gA_congr hKb ?_ ?_ ?_ ?_ (oq b g2) g3⟩
    · show va_up h.L h.N len b = _; simp [va_up, hbn]
    · show va_up h.I h.N _ b = _; simp [va_up, hbn]
    · show va_up h.J h.N _ b = _; simp [va_up, hbn]
    · show va_up h.R h.N _ b = _; simp [va_up, hbn]
theorem newC_K {h : Hp} {kd len : Nat} : (newC h kd len).K h.N = kd := by show va_up h.K h.N kd h.N = _; simp [va_up]
theorem newC_L {h : Hp} {kd len : Nat} : (newC h kd len).L h.N = len := by show va_up h.L h.N len h.N = _; simp [va_up]
theorem newC_I {h : Hp} {kd len : Nat} (j : Nat) : (newC h kd len).I h.N j = 0 := by show va_up h.I h.N _ h.N j = _; simp [va_up]
theorem newC_J {h : Hp} {kd len : Nat} (j : Nat) : (newC h kd len).J h.N j = 0 := by show va_up h.J h.N _ h.N j = _; simp [va_up]
theorem newC_R {h : Hp} {kd len : Nat} (j : Nat) : (newC h kd len).R h.N j = none := by show va_up h.R h.N _ h.N j = _; simp [va_up]
theorem dflt_hW (ty : FieldType) (hty : (match ty with | .int => true | .boolean => true | .long => true | .object _ => true | .array _ => true | _ => false) = true) : defaultValue ty = hW ty 0 0 none := by
  cases ty <;> first | rfl | (simp at hty)
theorem tyF_d {c : Nat} (hc : c < 8) : ∀ k, k < nF c → (match tyF c k with | .int => true | .boolean => true | .long => true | .object _ => true | .array _ => true | _ => false) = true := by
  rcases lt8 hc with rfl | rfl | rfl | rfl | rfl | rfl | rfl | rfl <;> decide
theorem va_S.grow {A : Nat → Prop} {H0 H H1 : Heap} {locs : List Loc} (hS : va_S A H0 H locs) (hz : H1.size = H.size + 1) (o1 : ∀ q, q < H.size → H1[q]? = H[q]?) : va_S A H0 H1 locs :=
  ⟨Nat.le_trans hS.1 (by omega), fun x h1 h2 => (o1 x (Nat.lt_of_lt_of_le h1 hS.1)).trans (hS.2.1 x h1 h2), hS.2.2⟩
theorem r_new (hE : En X D cc nL own rt rm) (c : Nat) {idx : Nat} (hc : c < 8) (hw : Cond.classLink own idx (RF c) ∈ TB ∧ Cond.instantiable (RF c) (nF c) ∈ TB ∧ Cond.initialized (RF c) ∈ TB) (hr : cells + 1 ≤ rm.cells ∧ slots + nF c ≤ rm.slots) (hd : decode cc pc = .ok (.new idx, 3)) (k : Wo X D nL Q (cells + 1) (slots + nF c) o (pc + 3) lv (.ref h.N :: st) (newC h c 0)) : Wo X D nL Q cells slots o pc lv st h := fun out ho H locs ls hP hS hl => by
  obtain ⟨hx, hb, hml, hown, hts, hgK, -, -, -, -, hRm⟩ := hE
  have hKn := hgK.1 c hc
  refine W.newcK hx hb hown (hts _ hw.1) (hts _ hw.2.1) (hts _ hw.2.2) rfl hd (by rw [hRm]; exact hr.1) (by rw [hRm]; exact hr.2) hKn.2.1 hP.1 fun H1 kC hkC e1 z1 o1 => ?_
  refine k out ho H1 locs ls (gP_new hP z1 o1 (gA_of_obj newC_K hc ?_)) (hS.grow (by rw [z1, hP.1]) (by rw [hP.1]; exact o1)) hl
  refine (u_born (tyF c) hts (fieldsTB hc) hKn hkC e1 (tyF_ok hc)).to fun j hj => ?_
  rw [dflt_hW _ (tyF_d hc j hj)]
  unfold hV
  rw [newC_K, newC_I, newC_J, newC_R]
theorem r_newI (hE : En X D cc nL own rt rm) {n : Int32} (N : Nat) (hn : ¬ n < 0) (hN : n.toNatClampNeg = N) (hbytes : N * componentBytes .int ≤ 536870912) (hw : Cond.arrayClass .int ∈ TB) (hr : cells + 1 ≤ rm.cells ∧ slots + N ≤ rm.slots) (hd : decode cc pc = .ok (.newarray .int, 2)) (k : Wo X D nL Q (cells + 1) (slots + N) o (pc + 2) lv (.ref h.N :: st) (newC h 8 N)) : Wo X D nL Q cells slots o pc lv (.int n :: st) h := fun out ho H locs ls hP hS hl => by
  obtain ⟨hx, hb, hml, hown, hts, hgK, -, -, -, -, hRm⟩ := hE
  refine va_newaK hx hb (atype := .int) (hts _ hw) rfl hd rfl hn hN hbytes (by rw [hRm]; exact hr.1) (by rw [hRm]; exact hr.2) hP.1 fun H1 cA e1 z1 o1 hAr hNm => ?_
  obtain rfl : D.2.1.1 = cA := Option.some.inj (hgK.2.1.2.symm.trans hNm)
  refine k out ho H1 locs ls (gP_new hP z1 o1 ((gA_8 newC_K).mpr ?_)) (hS.grow (by rw [z1, hP.1]) (by rw [hP.1]; exact o1)) hl
  rw [e1, newC_L]
  refine congrArg (fun f => some (arrV _ _ f)) ?_
  funext j
  rw [newC_I]; rfl
theorem r_newJ (hE : En X D cc nL own rt rm) {n : Int32} (N : Nat) (hn : ¬ n < 0) (hN : n.toNatClampNeg = N) (hbytes : N * componentBytes .long ≤ 536870912) (hw : Cond.arrayClass .long ∈ TB) (hr : cells + 1 ≤ rm.cells ∧ slots + N ≤ rm.slots) (hd : decode cc pc = .ok (.newarray .long, 2)) (k : Wo X D nL Q (cells + 1) (slots + N) o (pc + 2) lv (.ref h.N :: st) (newC h 9 N)) : Wo X D nL Q cells slots o pc lv (.int n :: st) h := fun out ho H locs ls hP hS hl => by
  obtain ⟨hx, hb, hml, hown, hts, hgK, -, -, -, -, hRm⟩ := hE
  refine va_newaK hx hb (atype := .long) (hts _ hw) rfl hd rfl hn hN hbytes (by rw [hRm]; exact hr.1) (by rw [hRm]; exact hr.2) hP.1 fun H1 cA e1 z1 o1 hAr hNm => ?_
  obtain rfl : D.2.1.2.1 = cA := Option.some.inj (hgK.2.2.1.2.symm.trans hNm)
  refine k out ho H1 locs ls (gP_new hP z1 o1 ((gA_9 newC_K).mpr ?_)) (hS.grow (by rw [z1, hP.1]) (by rw [hP.1]; exact o1)) hl
  rw [e1, newC_L]
  refine congrArg (fun f => some (arrV _ _ f)) ?_
  funext j
  rw [newC_J]; rfl
theorem r_newCh (hE : En X D cc nL own rt rm) {n : Int32} (N : Nat) (hn : ¬ n < 0) (hN : n.toNatClampNeg = N) (hbytes : N * componentBytes .char ≤ 536870912) (hw : Cond.arrayClass .char ∈ TB) (hr : cells + 1 ≤ rm.cells ∧ slots + N ≤ rm.slots) (hd : decode cc pc = .ok (.newarray .char, 2)) (k : Wo X D nL Q (cells + 1) (slots + N) o (pc + 2) lv (.ref h.N :: st) (newC h 10 N)) : Wo X D nL Q cells slots o pc lv (.int n :: st) h := fun out ho H locs ls hP hS hl => by
  obtain ⟨hx, hb, hml, hown, hts, hgK, -, -, -, -, hRm⟩ := hE
  refine va_newaK hx hb (atype := .char) (hts _ hw) rfl hd rfl hn hN hbytes (by rw [hRm]; exact hr.1) (by rw [hRm]; exact hr.2) hP.1 fun H1 cA e1 z1 o1 hAr hNm => ?_
  obtain rfl : D.2.1.2.2 = cA := Option.some.inj (hgK.2.2.2.1.2.symm.trans hNm)
  refine k out ho H1 locs ls (gP_new hP z1 o1 ((gA_10 newC_K).mpr ?_)) (hS.grow (by rw [z1, hP.1]) (by rw [hP.1]; exact o1)) hl
  rw [e1, newC_L]
  refine congrArg (fun f => some (arrV _ _ f)) ?_
  funext j
  rw [newC_I]; rfl
/-- a final field in a constructor: references alone -/
theorem r_putF (hE : En X D cc nL own rt rm) (hin : X.meth.name = "<init>") (c k : Nat) {idx a : Nat} {v : Nat} {f : Hp → Option (ρ × Hp)} (hc : c < 8) (hk : k < nF c) (hown2 : (TF c k).1 = own) (hty : ∀ i j r, hW (tyF c k) i j r = va_rf r) (hlink : Cond.fieldLink own idx (TF c k).1 (TF c k).2.1 (TF c k).2.2.1 ∈ TB) (hfin : (TF c k).2.2.2 = true) (hn : narrow (tyF c k) (.ref v) = .ref v) (hfit : fits (tyF c k) (.ref v) = true) (hd : decode cc pc = .ok (.putfield idx, 3)) (kk : ∀ h', pR h c a k (some v) = some h' → Wo X D nL Q cells slots (f h') (pc + 3) lv st h') : Wo X D nL Q cells slots ((pR h c a k (some v)).bind f) pc lv (.ref v :: .ref a :: st) h := fun out ho H locs ls hP hS0 hl => by
  obtain ⟨h', h1, h2⟩ := ob_k ho
  obtain ⟨hK, h3⟩ := gi_k h1
  have hap := w_apart hE hc
  obtain ⟨hx, hb, hml, hown, hts, hgK, -⟩ := hE
  obtain ⟨g1, g2, g3⟩ := hP.2.2 a (by omega)
  obtain ⟨cell, q1, q2, q3, q4⟩ := gA_obj hK hc g3
  obtain ⟨hS, hfc, kC, hkC, hkind⟩ := hgK.1 c hc
  obtain ⟨cf, kf, fi, f9, hi, hsl⟩ := hS k hk
  cases h3
  have hlay := hts _ (fieldsTB hc _ (u_in_lay hk))
  unfold u_lay at hlay
  rw [if_pos hfin] at hlay
  have hst := (u_facts hfc hkC (u_lays hts (fieldsTB hc) hk) hi).1
  have hcf : X.m.cls = cf := by
    obtain ⟨_, _, c', _, _, _, -, -, hf', -, -, -, hown3, -⟩ := Cond.laysFinal_spec hlay
    have e1 : c' = cf := by have := hi.symm.trans hf'; simp at this; exact this.1.symm
    rw [hown2] at hown3
    rw [← e1]; exact Option.some.inj (hown.symm.trans hown3)
  have h6 := u_fits hfc hkC hkind (Or.inr hlay) hi (tyF_ok hc k hk) hn hfit
  refine W.putFinK hx hb hown (hts _ hlink) hi hst hcf hin (by rw [q2]; exact h6) q1 q3 (by rw [hsl]; exact k2_hasslot (q4 k hk)) rfl rfl hd fun H' e1 e2 e3 => ?_
  rw [hsl] at e1 ⊢
  refine kk _ h1 out h2 H' _ ls (gP_write hP rfl rfl rfl (fun _ _ => rfl) (fun _ _ => rfl) (fun b hb => up2_ne _ hb) e2 e3 (gA_of_obj hK hc ?_)) (hS0.put e2 e3 g1) hl
  exact t_OB.to (V := updV (hV h a) k (.ref v)) ⟨_, e1, q2, q3, t_set q4 hap hk (.ref v)⟩ (fun j _ => hV_putR (v := some v) hK hty j)
/-- Object.<init> -/
theorem r_objInit (hE : En X D cc nL own rt rm) {idx a : Nat} (hw : Cond.methodLink own idx objectInit ∈ TB ∧ Cond.instanceMethod objectInit ∈ TB ∧ Cond.code objectInit ⟨#[0xb1]⟩ 1 none ∈ TB) (hr : 1 ≤ rm.frames ∧ (st.map fun v => v.category).sum + 12 ≤ rm.locals) (hd : decode cc pc = .ok (.invokespecial idx, 3)) (k : Wo X D nL Q cells slots o (pc + 3) lv st h) : Wo X D nL Q cells slots o pc lv (.ref a :: st) h := fun out ho H locs ls hP hS hl => by
  obtain ⟨hx, hb, hml, hown, hts, hgK, -, -, -, -, hRm⟩ := hE
  refine W.objInit hx hb hown (hts _ hw.1) (hts _ hw.2.1) (hts _ hw.2.2) rfl (by rw [hml]; exact hl.1) rfl hd (by rw [hRm]; exact hr.1) (by rw [hRm]; show 2 * 0 + _ + 12 ≤ _; have := hr.2; omega) ?_
  exact k out ho H locs ls hP hS hl
/-! constants -/
theorem r_ldc (hE : En X D cc nL own rt rm) {idx : Nat} {v : Int32} (hc : Cond.constant own idx v ∈ TB) (hd : decode cc pc = .ok (.ldc idx, 2)) (k : Wo X D nL Q cells slots o (pc + 2) lv (.int v :: st) h) : Wo X D nL Q cells slots o pc lv st h := fun out ho H locs ls hP hS hl => lv_ldc hE.1 hE.2.1 hE.2.2.2.1 (hE.2.2.2.2.1 _ hc) hd (k out ho H locs ls hP hS hl)
theorem r_ldc2 (hE : En X D cc nL own rt rm) {idx : Nat} {v : Int64} (hc : Cond.constantLong own idx v ∈ TB) (hd : decode cc pc = .ok (.ldc2_w idx, 3)) (k : Wo X D nL Q cells slots o (pc + 3) lv (.long v :: st) h) : Wo X D nL Q cells slots o pc lv st h := fun out ho H locs ls hP hS hl => lv_ldc2 hE.1 hE.2.1 hE.2.2.2.1 (hE.2.2.2.2.1 _ hc) hd (k out ho H locs ls hP hS hl)
/-! a table -/
def swt {α : Type} (x : Int32) (lo : Int) (os : List α) (d : α) : α := if x.toInt < lo then d else (os[(x.toInt - lo).toNat]?).getD d
def swP (X : Cx) (D : Dx) (nL : Nat) (Q : ρ × Hp → State → Prop) (cells slots : Nat) (pc : Nat) (lv : List (Option Value)) (st : List Value) (h : Hp) : List (Option (ρ × Hp)) → List Int → Prop
  | [], [] => True
  | o :: os, f :: fs => (∃ tgt : Nat, (pc : Int) + f = (tgt : Int) ∧ Wo X D nL Q cells slots o tgt lv st h) ∧ swP X D nL Q cells slots pc lv st h os fs
  | _, _ => False
theorem swP_get : ∀ (os : List (Option (ρ × Hp))) (fs : List Int), swP X D nL Q cells slots pc lv st h os fs → os.length = fs.length ∧ ∀ (j : Nat) (o : Option (ρ × Hp)), os[j]? = some o → ∃ (f : Int) (tgt : Nat), fs[j]? = some f ∧ (pc : Int) + f = (tgt : Int) ∧ Wo X D nL Q cells slots o tgt lv st h
  | [], [], _ => ⟨rfl, fun j o h => by simp at h⟩
  | [], _ :: _, q => q.elim
  | _ :: _, [], q => q.elim
  | o :: os, f :: fs, q => by
    obtain ⟨⟨tgt, h1, h2⟩, q2⟩ := q
    obtain ⟨e1, e2⟩ := swP_get os fs q2
    refine ⟨by simp [e1], fun j o' hj => ?_⟩
    cases j with
    | zero => simp at hj; subst hj; exact ⟨f, tgt, rfl, h1, h2⟩
    | succ j => simpa using e2 j o' (by simpa using hj)
theorem r_tsw (hE : En X D cc nL own rt rm) {x : Int32} {dflt lo hi : Int} {offs : Array Int} {len : Nat} {os : List (Option (ρ × Hp))} (tgt : Nat) (hd : decode cc pc = .ok (.tableswitch dflt lo hi offs, len)) (hh : hi - lo + 1 = (offs.size : Int)) (ht : (pc : Int) + dflt = (tgt : Int)) (hs : swP X D nL Q cells slots pc lv st h os offs.toList) (kd : Wo X D nL Q cells slots o tgt lv st h) : Wo X D nL Q cells slots (swt x lo os o) pc lv (.int x :: st) h := fun out ho H locs ls hP hS hl => by
  obtain ⟨e1, e2⟩ := swP_get _ _ hs
  have e3 : offs.toList.length = offs.size := Array.length_toList
  have e4 : os.length = offs.size := e1.trans e3
  unfold swt at ho
  by_cases hlo : x.toInt < lo
  · rw [if_pos hlo] at ho
    exact lv_tableOut hE.1 hE.2.1 hd (Or.inl hlo) ht (kd out ho H locs ls hP hS hl)
  · rw [if_neg hlo] at ho
    cases hq : os[(x.toInt - lo).toNat]? with
    | none =>
      rw [hq] at ho
      have := List.getElem?_eq_none_iff.mp hq
      exact lv_tableOut hE.1 hE.2.1 hd (Or.inr (by omega)) ht (kd out ho H locs ls hP hS hl)
    | some o' =>
      rw [hq] at ho
      obtain ⟨f, tg, h1, h2, h3⟩ := e2 _ _ hq
      have hlt := (List.getElem?_eq_some_iff.mp hq).1
      exact lv_tableIn hE.1 hE.2.1 hd hlo (by omega) (by rw [← Array.getElem?_toList]; exact h1) h2 (h3 out ho H locs ls hP hS hl)
/-! returns -/
def evI (x : Int32) : Option Value := some (.int x)
def evJ (x : Int64) : Option Value := some (.long x)
def evR (x : Nat) : Option Value := some (.ref x)
def evU (_ : Unit) : Option Value := none
theorem r_iret (hE : En X D cc nL own (some .int) rm) {x : Int32} (hd : decode cc pc = .ok (.ireturn, 1)) : Wo X D nL (Qr X D cells slots evI) cells slots (some (x, h)) pc lv [.int x] h := fun out ho H locs ls hP hS hl => by
  cases ho
  exact W.iret hE.1 hE.2.1 hE.2.2.2.2.2.2.2.1 (fun t ht hW => ⟨rfl, by rw [ht]; exact hP, hS.F ht⟩) hS.2.2 hd hE.2.2.2.2.2.2.2.2.1
theorem r_zret (hE : En X D cc nL own (some .boolean) rm) {x : Int32} (hx : x = 0 ∨ x = 1) (hd : decode cc pc = .ok (.ireturn, 1)) : Wo X D nL (Qr X D cells slots evI) cells slots (some (x, h)) pc lv [.int x] h := fun out ho H locs ls hP hS hl => by
  cases ho
  exact W.zret hE.1 hE.2.1 hE.2.2.2.2.2.2.2.1 (by rcases hx with rfl | rfl <;> rfl) (fun t ht hW => ⟨rfl, by rw [ht]; exact hP, hS.F ht⟩) hS.2.2 hd hE.2.2.2.2.2.2.2.2.1
theorem r_zretQ (hE : En X D cc nL own (some .boolean) rm) {x : Int32} {i : Decidable (x = 0 ∨ x = 1)} (hd : decode cc pc = .ok (.ireturn, 1)) : Wo X D nL (Qr X D cells slots evI) cells slots (@ite _ (x = 0 ∨ x = 1) i (some (x, h)) none) pc lv [.int x] h := Wo_grd (fun hx => r_zret hE hx hd)
theorem r_vret (hE : En X D cc nL own none rm) {x : Unit} (hd : decode cc pc = .ok (.return_, 1)) : Wo X D nL (Qr X D cells slots evU) cells slots (some (x, h)) pc lv [] h := fun out ho H locs ls hP hS hl => by
  cases ho
  exact W.vret hE.1 hE.2.1 hE.2.2.2.2.2.2.2.1 (fun t ht hW => ⟨rfl, by rw [ht]; exact hP, hS.F ht⟩) hS.2.2 hd hE.2.2.2.2.2.2.2.2.1
theorem r_lret (hE : En X D cc nL own (some .long) rm) {x : Int64} (hd : decode cc pc = .ok (.lreturn, 1)) : Wo X D nL (Qr X D cells slots evJ) cells slots (some (x, h)) pc lv [.long x] h := fun out ho H locs ls hP hS hl => by
  cases ho
  exact W.lret hE.1 hE.2.1 hE.2.2.2.2.2.2.2.1 (fun t ht hW => ⟨rfl, by rw [ht]; exact hP, hS.F ht⟩) hS.2.2 hd hE.2.2.2.2.2.2.2.2.1
theorem r_aret {C : String} (hE : En X D cc nL own (some (.object C)) rm) {x : Nat} (hd : decode cc pc = .ok (.areturn, 1)) : Wo X D nL (Qr X D cells slots evR) cells slots (some (x, h)) pc lv [.ref x] h := fun out ho H locs ls hP hS hl => by
  cases ho
  exact W.aret hE.1 hE.2.1 hE.2.2.2.2.2.2.2.1 (Or.inl ⟨_, rfl⟩) (Or.inr ⟨_, rfl⟩) (fun t ht hW => ⟨rfl, by rw [ht]; exact hP, hS.F ht⟩) hS.2.2 hd hE.2.2.2.2.2.2.2.2.1
end NEWS
/-! CONTRACTS AND CALLS -/
def Ct (l : Launch) (D : Dx) (y : MethodName) (bytes : ByteArray) (maxL : Nat) (ret : Option FieldType) (rm : Room) (av : List Value) (h : Hp) (r : Option Value) (h' : Hp) : Prop :=
  Met l y (.code y bytes maxL ret :: TB) rm (va_Pc av (fun U => gP D h U.heap ∧ gK D U ∧ gS D U U.heap)) (Qm D r h') rm.cells rm.slots D.A
theorem Ct_blind {D : Dx} {av : List Value} {h : Hp} : FrameBlind (va_Pc av (fun U => gP D h U.heap ∧ gK D U ∧ gS D U U.heap)) := fun a U g mk q => by
  obtain ⟨q1, q2, q3, q4⟩ := q
  exact ⟨q1, q2, gK.same (u := U) rfl q3, gS.moved (u := U) (Vm.Alike.refl U.vm) q4⟩
/-- a contract out of its body's picture -/
theorem Ct.of {ρ : Type} {l : Launch} {D : Dx} {y : MethodName} {bytes : ByteArray} {maxL : Nat} {ret : Option FieldType} {rm : Room} {av : List Value} {h : Hp} {ev : ρ → Option Value} {o : Option (ρ × Hp)} {lv : List (Option Value)} (hy : plainName y.cls = true) (hlen : (lg_sl av).length ≤ maxL) (hlv : toA 0 lv = lv_args 0 av)
    (body : ∀ X : Cx, X.l = l → En X D bytes maxL y.cls ret rm → X.meth.name = y.name → Wo X D maxL (Qr X D rm.cells rm.slots ev) 0 0 o 0 lv [] h) (out : ρ × Hp) (ho : o = some out) : Ct l D y bytes maxL ret rm av h (ev out.1) out.2 := by
  refine Met.ofW (cc := bytes) (maxL := maxL) (ret := ret) hy rfl ?_
  intro p e s m args below meth c s₁ B hml hv
  obtain ⟨rfl, hP, hK, hS⟩ := hv
  have hts := atoms_spec (ws := .code y bytes maxL ret :: TB) B.pre
  have hnm := name_of_methodNamed B.named B.method
  have hl := lv_entry av (n := maxL) hlen
  rw [lg_entry_eq]
  have hE : En (p, l, e, rm, s, m, av.toArray, below, meth, c) D bytes maxL y.cls ret rm := ⟨B.exec, B.bytes, hml, findClass_of_methodNamed B.named, fun w hw => hts w (List.mem_cons_of_mem _ hw), hK, by show D.2.2.1 ≤ s.heap.size; rw [hP.1]; exact hP.2.1, B.returns, B.notSynchronized, hS, rfl⟩
  exact body _ rfl hE hnm.1 out ho s.heap [] _ hP va_S.rf (by show lv_has _ _ _; rw [hlv]; exact hl)
section CALLS
variable {ρ σ : Type} {X : Cx} {D : Dx} {cc : ByteArray} {nL : Nat} {own : String} {rt : Option FieldType} {rm : Room} {Q : ρ × Hp → State → Prop} {cells slots : Nat} {pc : Nat} {lv : List (Option Value)} {st : List Value} {h : Hp}
variable {y : MethodName} {bytes : ByteArray} {maxL idx b : Nat} {ret : Option FieldType} {rc : Room} {As : List Value} {ev' : σ → Option Value} {fo : Option (σ × Hp)} {g : σ × Hp → Option (ρ × Hp)}
theorem run_go {Q : State → Prop} {H : Heap} {locs : List Loc} {ls : Array Slot} {a : Array Value} {st0 rest : List Value} {r : Option Value} {h' : Hp} {mc1 ms1 : Nat} (hr : va_Run X.p X.l X.e X.Rm X.s X.m X.args X.below X.meth X.c H locs cells slots mc1 ms1 (F0 X.m pc ls st0) rest (Qm D r h' a) D.A) (hS : va_S D.A X.s.heap H locs)
    (kk : ∀ (H1 : Heap) (locs1 : List Loc), gP D h' H1 → va_S D.A X.s.heap H1 locs1 → W X.p X.l X.e X.Rm X.s X.m X.args X.below X.meth X.c H1 locs1 (cells + mc1) (slots + ms1) Q (F0 X.m (pc + 3) ls (r.toList ++ rest))) : W X.p X.l X.e X.Rm X.s X.m X.args X.below X.meth X.c H locs cells slots Q (F0 X.m pc ls st0) := by
  intro T hT X0
  obtain ⟨v, st₀, t, T', L, h0, X', hL, e1, e2, ⟨hv, hg, hz, hk⟩, st⟩ := hr T hT X0
  cases hv
  rw [h0] at hz hk
  obtain ⟨t2, a1, b1⟩ := kk T'.heap (locs ++ L) (by rw [e1]; exact hg)
    ⟨Nat.le_trans hS.1 (by rw [e1]; exact hz), fun q h1 h2 => by rw [e1, hk q (Nat.lt_of_lt_of_le h1 hS.1) h2]; exact hS.2.1 q h1 h2, fun q hq => by
      rcases List.mem_append.mp hq with h | h
      · exact hS.2.2 q h
      · exact hL q h⟩ T' rfl X'
  exact ⟨t2, st t2 a1, b1⟩
def okD (y : MethodName) (n : Nat) : Bool := decide (y.cls ≠ "java/lang/invoke/MethodHandle" ∧ y.cls ≠ "java/lang/invoke/VarHandle" ∧ (parseMethodDescriptor y.desc).map (fun d => d.parameters.length) = some n)
def inT (ws : List Cond) : Bool := ws.all (fun w => decide (w ∈ lw_tbl) && goodWord w)
theorem inT_mem {ws : List Cond} (h : inT ws = true) : ∀ w ∈ ws, w ∈ TB := fun w hw => by
  have := List.all_eq_true.mp h w hw
  simp only [Bool.and_eq_true, decide_eq_true_eq] at this
  exact tb_in this.1 this.2
/-- a call's words: static, virtual, of a constructor; of nest mates -/
def csS (own : String) (idx : Nat) (y : MethodName) (bytes : ByteArray) (maxL : Nat) (ret : Option FieldType) (n : Nat) : Bool := inT [.code y bytes maxL ret, .initialized y.cls, .methodLink own idx y, .static y] && okD y n
def csV (own : String) (idx : Nat) (y : MethodName) (bytes : ByteArray) (maxL : Nat) (ret : Option FieldType) (n : Nat) : Bool := inT [.code y bytes maxL ret, .initialized y.cls, .methodLink own idx y, .instanceMethod y, .selects y.cls y y] && okD y n
def csI (own : String) (idx : Nat) (y : MethodName) (bytes : ByteArray) (maxL : Nat) (n : Nat) : Bool := inT [.code y bytes maxL none, .initialized y.cls, .methodLink own idx y, .instanceMethod y] && (okD y n && decide (y.name = "<init>"))
def csSN (own : String) (idx : Nat) (y : MethodName) (bytes : ByteArray) (maxL : Nat) (ret : Option FieldType) (n : Nat) : Bool := inT [.code y bytes maxL ret, .initialized y.cls, .static y] && (okD y n && decide (Cond.methodLinkNest own idx y "CanoeMaster" ∈ nestW))
def csIN (own : String) (idx : Nat) (y : MethodName) (bytes : ByteArray) (maxL : Nat) (n : Nat) : Bool := inT [.code y bytes maxL none, .initialized y.cls, .instanceMethod y] && (okD y n && (decide (Cond.methodLinkNest own idx y "CanoeMaster" ∈ nestW) && decide (y.name = "<init>")))
theorem good_c {y : MethodName} {bytes : ByteArray} {maxL : Nat} {ret : Option FieldType} (h : Cond.code y bytes maxL ret ∈ TB) : GoodIn TB (.code y bytes maxL ret :: TB) := fun w hw => by
  rcases List.mem_cons.mp hw with rfl | hw
  · exact tb_good _ h
  · exact tb_good _ hw
def rOk (rc rm : Room) (maxL cells slots : Nat) : Prop := rc.frames + 1 ≤ rm.frames ∧ 8 + (maxL + 11) + rc.locals ≤ rm.locals ∧ cells + rc.cells ≤ rm.cells ∧ slots + rc.slots ≤ rm.slots
theorem callB_x (hE : En X D cc nL own rt rm) {n : Nat} (h1 : Cond.code y bytes maxL ret ∈ TB) (h2 : Cond.initialized y.cls ∈ TB) (h3 : Cond.methodLink own idx y ∈ TB) (hd : okD y n = true) (hr : rOk rc rm maxL cells slots) : CallB X.Rm X.s X.args own idx y bytes maxL ret (.code y bytes maxL ret :: TB) rc rc.cells rc.slots n := by
  obtain ⟨hx, hb, hml, hown, hts, hgK, -, -, -, -, hRm⟩ := hE
  exact callB_of n hts (good_c h1) rfl rfl rfl (hts _ h2) (hts _ h3) (of_decide_eq_true hd) (by rw [hRm]; exact ⟨hr.1, hr.2.1⟩)
theorem pre_x (hE : En X D cc nL own rt rm) {H : Heap} {locs : List Loc} (hP : gP D h H) (hS : va_S D.A X.s.heap H locs) (av : List Value) : PreS X.s H (va_Pc av (fun U => gP D h U.heap ∧ gK D U ∧ gS D U U.heap)) av := by
  obtain ⟨hx, hb, hml, hown, hts, hgK, -, -, -, hgS, hRm⟩ := hE
  exact ⟨Ct_blind, fun U hU hW => ⟨rfl, by rw [hU]; exact hP, hgK.warm hW, by rw [hU]; exact (hgS.kept hS.2.1).moved hW.alike⟩⟩
theorem r_callS (hE : En X D cc nL own rt rm) (hM : ∀ out, fo = some out → Ct X.l D y bytes maxL ret rc As h (ev' out.1) out.2) (hw : csS own idx y bytes maxL ret As.length = true) (hr : rOk rc rm maxL cells slots) (hst : (st.map fun v => v.category).sum ≤ 8) {st0 : List Value} (he : st0 = As.reverse ++ st) (hd : decode cc pc = .ok (.invokestatic idx, 3))
    (kk : ∀ x, fo = some x → Wo X D nL Q (cells + rc.cells) (slots + rc.slots) (g x) (pc + 3) lv ((ev' x.1).toList ++ st) x.2) : Wo X D nL Q cells slots (fo.bind g) pc lv st0 h := fun out ho H locs ls hP hS hl => by
  obtain ⟨x, h1, h2⟩ := ob_k ho
  simp only [csS, Bool.and_eq_true] at hw
  have hm := inT_mem hw.1
  subst he
  refine run_go (va_runS (As := As) (rest := st) ⟨hE.1, hE.2.1, hE.2.2.1, hE.2.2.2.1, hE.2.2.2.2.1⟩ (hM x h1) ⟨callB_x hE (hm _ (by simp)) (hm _ (by simp)) (hm _ (by simp)) hw.2 hr, hE.2.2.2.2.1 _ (hm _ (by simp))⟩ (pre_x hE hP hS As) rfl rfl hl.1 rfl (lv_room hst) hd ⟨by rw [hE.2.2.2.2.2.2.2.2.2.2]; exact hr.2.2.1, by rw [hE.2.2.2.2.2.2.2.2.2.2]; exact hr.2.2.2⟩) hS fun H1 locs1 hP1 hS1 => kk x h1 out h2 H1 locs1 ls hP1 hS1 hl
theorem r_callSN (hE : En X D cc nL own rt rm) (hM : ∀ out, fo = some out → Ct X.l D y bytes maxL ret rc As h (ev' out.1) out.2) (hw : csSN own idx y bytes maxL ret As.length = true) (hr : rOk rc rm maxL cells slots) (hst : (st.map fun v => v.category).sum ≤ 8) {st0 : List Value} (he : st0 = As.reverse ++ st) (hd : decode cc pc = .ok (.invokestatic idx, 3))
    (kk : ∀ x, fo = some x → Wo X D nL Q (cells + rc.cells) (slots + rc.slots) (g x) (pc + 3) lv ((ev' x.1).toList ++ st) x.2) : Wo X D nL Q cells slots (fo.bind g) pc lv st0 h := fun out ho H locs ls hP hS hl => by
  obtain ⟨x, h1, h2⟩ := ob_k ho
  simp only [csSN, Bool.and_eq_true, decide_eq_true_eq] at hw
  have hm := inT_mem hw.1
  subst he
  have hRm := hE.2.2.2.2.2.2.2.2.2.2
  refine run_go (va_runSN (As := As) (rest := st) ⟨hE.1, hE.2.1, hE.2.2.1, hE.2.2.2.1, hE.2.2.2.2.1⟩ (hM x h1) ⟨va_cnB As.length hE.2.2.2.2.1 (good_c (hm _ (by simp))) rfl rfl rfl (hE.2.2.2.2.2.1.2.2.2.2.1 _ hw.2.2) (hE.2.2.2.2.1 _ (hm _ (by simp))) (of_decide_eq_true hw.2.1) (by rw [hRm]; exact ⟨hr.1, hr.2.1⟩), hE.2.2.2.2.1 _ (hm _ (by simp)), trivial⟩ (pre_x hE hP hS As) rfl rfl hl.1 rfl (lv_room hst) hd ⟨by rw [hRm]; exact hr.2.2.1, by rw [hRm]; exact hr.2.2.2⟩) hS fun H1 locs1 hP1 hS1 => kk x h1 out h2 H1 locs1 ls hP1 hS1 hl
theorem r_callV (hE : En X D cc nL own rt rm) (ci : Nat) (hM : ∀ out, fo = some out → Ct X.l D y bytes maxL ret rc (.ref b :: As) h (ev' out.1) out.2) (hKb : ∀ out, fo = some out → h.K b = ci) (hci : ci < 8) (hyc : y.cls = RF ci) (hw : csV own idx y bytes maxL ret As.length = true) (hr : rOk rc rm maxL cells slots) (hst : (st.map fun v => v.category).sum ≤ 8) {st0 : List Value} (he : st0 = As.reverse ++ .ref b :: st) (hd : decode cc pc = .ok (.invokevirtual idx, 3))
    (kk : ∀ x, fo = some x → Wo X D nL Q (cells + rc.cells) (slots + rc.slots) (g x) (pc + 3) lv ((ev' x.1).toList ++ st) x.2) : Wo X D nL Q cells slots (fo.bind g) pc lv st0 h := fun out ho H locs ls hP hS hl => by
  obtain ⟨x, h1, h2⟩ := ob_k ho
  simp only [csV, Bool.and_eq_true] at hw
  have hm := inT_mem hw.1
  subst he
  have hK := hKb x h1
  obtain ⟨cell, q1, q2, q3, -⟩ := gA_obj hK hci (hP.2.2 b (by omega)).2.2
  have hfc := (hE.2.2.2.2.2.1.1 ci hci).2.1
  have hpre := pre_x hE hP hS (.ref b :: As)
  refine run_go (va_runV (C := y.cls) (As := As) (rest := st) ⟨hE.1, hE.2.1, hE.2.2.1, hE.2.2.2.1, hE.2.2.2.2.1⟩ (hM x h1) ⟨callB_x hE (hm _ (by simp)) (hm _ (by simp)) (hm _ (by simp)) hw.2 hr, hE.2.2.2.2.1 _ (hm _ (by simp)), hE.2.2.2.2.1 _ (hm _ (by simp))⟩ ⟨hpre.1, ⟨cell, q1, by rw [q3]; rfl, by rw [hyc, q2]; exact hfc⟩, hpre.2⟩ rfl rfl hl.1 rfl (lv_room hst) hd ⟨by rw [hE.2.2.2.2.2.2.2.2.2.2]; exact hr.2.2.1, by rw [hE.2.2.2.2.2.2.2.2.2.2]; exact hr.2.2.2⟩) hS fun H1 locs1 hP1 hS1 => kk x h1 out h2 H1 locs1 ls hP1 hS1 hl
theorem r_callI (hE : En X D cc nL own rt rm) (hM : ∀ out, fo = some out → Ct X.l D y bytes maxL none rc (.ref b :: As) h (ev' out.1) out.2) (hw : csI own idx y bytes maxL As.length = true) (hr : rOk rc rm maxL cells slots) (hst : (st.map fun v => v.category).sum ≤ 8) {st0 : List Value} (he : st0 = As.reverse ++ .ref b :: st) (hd : decode cc pc = .ok (.invokespecial idx, 3))
    (kk : ∀ x, fo = some x → Wo X D nL Q (cells + rc.cells) (slots + rc.slots) (g x) (pc + 3) lv ((ev' x.1).toList ++ st) x.2) : Wo X D nL Q cells slots (fo.bind g) pc lv st0 h := fun out ho H locs ls hP hS hl => by
  obtain ⟨x, h1, h2⟩ := ob_k ho
  simp only [csI, Bool.and_eq_true, decide_eq_true_eq] at hw
  have hm := inT_mem hw.1
  subst he
  refine run_go (va_runI (As := As) (rest := st) ⟨hE.1, hE.2.1, hE.2.2.1, hE.2.2.2.1, hE.2.2.2.2.1⟩ (hM x h1) ⟨callB_x hE (hm _ (by simp)) (hm _ (by simp)) (hm _ (by simp)) hw.2.1 hr, hw.2.2, hE.2.2.2.2.1 _ (hm _ (by simp))⟩ (pre_x hE hP hS (.ref b :: As)) rfl rfl hl.1 rfl (lv_room hst) hd ⟨by rw [hE.2.2.2.2.2.2.2.2.2.2]; exact hr.2.2.1, by rw [hE.2.2.2.2.2.2.2.2.2.2]; exact hr.2.2.2⟩) hS fun H1 locs1 hP1 hS1 => kk x h1 out h2 H1 locs1 ls hP1 hS1 hl
theorem r_callIN (hE : En X D cc nL own rt rm) (hM : ∀ out, fo = some out → Ct X.l D y bytes maxL none rc (.ref b :: As) h (ev' out.1) out.2) (hw : csIN own idx y bytes maxL As.length = true) (hr : rOk rc rm maxL cells slots) (hst : (st.map fun v => v.category).sum ≤ 8) {st0 : List Value} (he : st0 = As.reverse ++ .ref b :: st) (hd : decode cc pc = .ok (.invokespecial idx, 3))
    (kk : ∀ x, fo = some x → Wo X D nL Q (cells + rc.cells) (slots + rc.slots) (g x) (pc + 3) lv ((ev' x.1).toList ++ st) x.2) : Wo X D nL Q cells slots (fo.bind g) pc lv st0 h := fun out ho H locs ls hP hS hl => by
  obtain ⟨x, h1, h2⟩ := ob_k ho
  simp only [csIN, Bool.and_eq_true, decide_eq_true_eq] at hw
  have hm := inT_mem hw.1
  subst he
  have hRm := hE.2.2.2.2.2.2.2.2.2.2
  refine run_go (va_runIN (As := As) (rest := st) ⟨hE.1, hE.2.1, hE.2.2.1, hE.2.2.2.1, hE.2.2.2.2.1⟩ (hM x h1) ⟨va_cnB As.length hE.2.2.2.2.1 (good_c (hm _ (by simp))) rfl rfl rfl (hE.2.2.2.2.2.1.2.2.2.2.1 _ hw.2.2.1) (hE.2.2.2.2.1 _ (hm _ (by simp))) (of_decide_eq_true hw.2.1) (by rw [hRm]; exact ⟨hr.1, hr.2.1⟩), hw.2.2.2, hE.2.2.2.2.1 _ (hm _ (by simp))⟩ (pre_x hE hP hS (.ref b :: As)) rfl rfl hl.1 rfl (lv_room hst) hd ⟨by rw [hRm]; exact hr.2.2.1, by rw [hRm]; exact hr.2.2.2⟩) hS fun H1 locs1 hP1 hS1 => kk x h1 out h2 H1 locs1 ls hP1 hS1 hl
end CALLS
