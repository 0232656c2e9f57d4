theorem ar8 : Cond.arrayClass .int ∈ TB := tb_in (by decide +kernel) rfl
theorem ar9 : Cond.arrayClass .long ∈ TB := tb_in (by decide +kernel) rfl
theorem ar10 : Cond.arrayClass .char ∈ TB := tb_in (by decide +kernel) rfl
def mmax (x y : Int32) : Int32 := if x < y then y else x
def mmin (x y : Int32) : Int32 := if y < x then y else x
section MORE
variable {ρ : Type} {X : Cx} {D : Dx} {cc : ByteArray} {nL : Nat} {rt : Option FieldType} {rm : Room} {Q : ρ × Hp → State → Prop} {cells slots : Nat} {o : Option (ρ × Hp)} {pc : Nat} {lv : List (Option Value)} {st : List Value} {h : Hp}
theorem r_ldcS (hE : En X D cc nL RX3 rt rm) (i : Nat) (hi : i < 6) (hd : decode cc pc = .ok (.ldc (idxS i), 2)) (k : Wo X D nL Q cells slots o (pc + 2) lv (.ref (D.2.2.2.1 i) :: st) h) : Wo X D nL Q cells slots o pc lv st h := fun out ho H locs ls hP hS hl =>
  va_ldcS hE.1 hE.2.1 hE.2.2.2.1 (hE.2.2.2.2.2.1.2.2.2.2.2 i hi) hd (k out ho H locs ls hP hS hl)
theorem r_mmax {own : String} {idx : Nat} (hE : En X D cc nL own rt rm) {x y : Int32} (hw : inT [.methodLink own idx Lib.Math.max.name, .static Lib.Math.max.name, .initialized "java/lang/Math", .code Lib.Math.max.name Lib.Math.max.code 2 (some .int)] = true) (hfr : 1 ≤ rm.frames) (hlo : (st.map fun v => v.category).sum + 13 ≤ rm.locals) (hc : cells ≤ rm.cells) (hs : slots ≤ rm.slots) (hd : decode cc pc = .ok (.invokestatic idx, 3)) (k : Wo X D nL Q cells slots o (pc + 3) lv (.int (mmax x y) :: st) h) : Wo X D nL Q cells slots o pc lv (.int y :: .int x :: st) h := fun out ho H locs ls hP hS hl => by
  have hm := inT_mem hw
  obtain ⟨hx, hb, hml, hown, hts, hgK, -, -, -, -, hRm⟩ := hE
  exact va_mmax hx hb (by rw [hml]; exact hl.1.symm) hown (hts (.methodLink own idx Lib.Math.max.name) (hm _ (by simp))) (hts _ (hm _ (by simp))) (hts _ (hm _ (by simp))) (hts _ (hm _ (by simp))) (by rw [hRm]; exact hfr) (by rw [hRm]; exact hlo) (by rw [hRm]; exact hc) (by rw [hRm]; exact hs) hd (k out ho H locs ls hP hS hl)
theorem r_mmin {own : String} {idx : Nat} (hE : En X D cc nL own rt rm) {x y : Int32} (hw : inT [.methodLink own idx Lib.Math.min.name, .static Lib.Math.min.name, .initialized "java/lang/Math", .code Lib.Math.min.name Lib.Math.min.code 2 (some .int)] = true) (hfr : 1 ≤ rm.frames) (hlo : (st.map fun v => v.category).sum + 13 ≤ rm.locals) (hc : cells ≤ rm.cells) (hs : slots ≤ rm.slots) (hd : decode cc pc = .ok (.invokestatic idx, 3)) (k : Wo X D nL Q cells slots o (pc + 3) lv (.int (mmin x y) :: st) h) : Wo X D nL Q cells slots o pc lv (.int y :: .int x :: st) h := fun out ho H locs ls hP hS hl => by
  have hm := inT_mem hw
  obtain ⟨hx, hb, hml, hown, hts, hgK, -, -, -, -, hRm⟩ := hE
  exact va_mmin hx hb (by rw [hml]; exact hl.1.symm) hown (hts (.methodLink own idx Lib.Math.min.name) (hm _ (by simp))) (hts _ (hm _ (by simp))) (hts _ (hm _ (by simp))) (hts _ (hm _ (by simp))) (by rw [hRm]; exact hfr) (by rw [hRm]; exact hlo) (by rw [hRm]; exact hc) (by rw [hRm]; exact hs) hd (k out ho H locs ls hP hS hl)
theorem i32_nn {z : Int32} (h : 0 ≤ z.toInt) : ¬ z < 0 ∧ z.toInt = (z.toNatClampNeg : Int) := by
  refine ⟨fun q => ?_, ?_⟩
  · have := Int32.lt_iff_toInt_lt.mp q
    simp at this
    omega
  · show z.toInt = ((z.toInt.toNat : Nat) : Int)
    omega
/-- System.arraycopy of ints -/
theorem r_copyI {own : String} {idx : Nat} (hE : En X D cc nL own rt rm) {a b : Nat} {sp dp n : Int32} {f : Hp → Option (ρ × Hp)} (hw : inT [.methodLink own idx arraycopyName, .native arraycopyName, .static arraycopyName, .initialized "java/lang/System"] = true) (hfr : 1 ≤ rm.frames) (hlo : (st.map fun v => v.category).sum + (nativeFrameWords "java/lang/System" "arraycopy" 5 + 11) ≤ rm.locals) (hd : decode cc pc = .ok (.invokestatic idx, 3))
    (kk : ∀ h', cpI h a sp b dp n = some h' → Wo X D nL Q cells slots (f h') (pc + 3) lv st h') : Wo X D nL Q cells slots ((cpI h a sp b dp n).bind f) pc lv (.int n :: .int dp :: .ref b :: .int sp :: .ref a :: st) h := fun out ho H locs ls hP hS hl => by
  obtain ⟨h', h1, h2⟩ := ob_k ho
  obtain ⟨⟨hKa, hKb, k1, k2, k3, k4, k5⟩, h3⟩ := gi_k h1
  cases h3
  have hm := inT_mem hw
  obtain ⟨hx, hb, hml, hown, hts, hgK, -, -, -, -, hRm⟩ := hE
  obtain ⟨-, -, ga⟩ := hP.2.2 a (by omega)
  obtain ⟨gb1, gb2, gb⟩ := hP.2.2 b (by omega)
  have hc0 := (gA_8 hKa).mp ga
  have hc1 := (gA_8 hKb).mp gb
  obtain ⟨s1, s2⟩ := i32_nn k1
  obtain ⟨d1, d2⟩ := i32_nn k2
  obtain ⟨n1, n2⟩ := i32_nn k3
  obtain ⟨-, k0, hk0, cm0, hkk0⟩ := hgK.2.1.1 (h.L a) (fun j => .int (h.I a j))
  obtain ⟨-, kb, hkb, cmb, hkkb⟩ := hgK.2.1.1 (h.L b) (fun j => .int (h.I b j))
  intro T hT X0
  obtain ⟨vm', X', step⟩ := X0.arraycopy hx hown (hts (.methodLink own idx arraycopyName) (hm _ (by simp))) (hts _ (hm _ (by simp))) (hts _ (hm _ (by simp))) (hts _ (hm _ (by simp))) (src := a) (dst := b) (cs := arrV D.2.1.1 (h.L a) (fun j => .int (h.I a j))) (cd := arrV D.2.1.1 (h.L b) (fun j => .int (h.I b j))) (srcPos := sp) (destPos := dp) (n := n) (by rw [hT]; exact hc0) (by rw [hT]; exact hc1)
    (fun _ h => by cases h) (fun _ h => by cases h) (fun h => by cases h) (fun h => by cases h) hk0 hkb hkk0 hkkb (by simp [refKind]) s1 d1 n1
    (by rw [arrV_size]; omega) (by rw [arrV_size]; omega)
    (fun vm₁ _ i hi => by
      have e : (arrV D.2.1.1 (h.L a) (fun j => .int (h.I a j))).slots.getD (sp.toNatClampNeg + i) .null = .int (h.I a (sp.toNatClampNeg + i)) := by
        rw [Array.getD_eq_getD_getElem?, arrV_read _ _ (by omega)]
        rfl
      rw [e]
      exact ⟨rfl, trivial⟩)
    (g := F0 X.m pc ls (.int n :: .int dp :: .ref b :: .int sp :: .ref a :: st)) rfl (by rw [hml]; exact hl.1) (rest := st) rfl (by rw [hb]; exact hd) (by rw [hRm]; exact hfr) (by rw [hRm]; show 2 * 0 + _ + _ ≤ _; omega)
  have e1 : copied (arrV D.2.1.1 (h.L a) (fun j => .int (h.I a j))) (arrV D.2.1.1 (h.L b) (fun j => .int (h.I b j))) sp dp n = arrV D.2.1.1 (h.L b) (fun j => .int (va_cpy (h.I a) (h.I b) sp.toNatClampNeg dp.toNatClampNeg n.toNatClampNeg j)) := va_copied (fun z => .int z) D.2.1.1 D.2.1.1 (h.I a) (h.I b) (by omega)
  rw [e1] at X' step
  have hlt : b < H.size := (Array.getElem?_eq_some_iff.mp hc1).1
  obtain ⟨cN, hcN⟩ : ∃ cN, cN = arrV D.2.1.1 (h.L b) (fun j => .int (va_cpy (h.I a) (h.I b) sp.toNatClampNeg dp.toNatClampNeg n.toNatClampNeg j)) := ⟨_, rfl⟩
  rw [← hcN] at X' step
  have hheap : ((T.setVm vm').setCell b cN).heap = H.setIfInBounds b cN := by rw [← hT]; rfl
  have oq : ∀ q : Nat, q ≠ b → (H.setIfInBounds b cN)[q]? = H[q]? := fun q hq => by simp [Array.getElem?_setIfInBounds, Ne.symm hq]
  have hPn : gP D (cpyI h a b sp.toNatClampNeg dp.toNatClampNeg n.toNatClampNeg) (H.setIfInBounds b cN) := by
    refine gP_write hP rfl rfl rfl (fun q hq => ?_) (fun _ _ => rfl) (fun _ _ => rfl) (by simp) oq ((gA_8 (h := cpyI h a b _ _ _) hKb).mpr ?_)
    · show va_up h.I b _ q = _; simp [va_up, hq]
    · have e2 : (cpyI h a b sp.toNatClampNeg dp.toNatClampNeg n.toNatClampNeg).I b = va_cpy (h.I a) (h.I b) sp.toNatClampNeg dp.toNatClampNeg n.toNatClampNeg := by show va_up h.I b _ b = _; simp [va_up]
      rw [e2]
      show _ = some (arrV D.2.1.1 (h.L b) _)
      rw [← hcN]
      simp [Array.getElem?_setIfInBounds, hlt]
  obtain ⟨t, a1, b1⟩ := kk _ h1 out h2 _ _ ls hPn ⟨by simp; exact hS.1, fun q g1 g2 => by
      rw [oq q (fun e => g2 (by rw [e]; exact gb1))]
      exact hS.2.1 q g1 g2, fun q hq => by
      rcases List.mem_append.mp hq with h | h
      · exact hS.2.2 q h
      · obtain ⟨z, -, hz⟩ := List.mem_map.mp h
        rw [← hz]
        exact gb1⟩ hl _ hheap X'
  exact ⟨t, step t a1, b1⟩
end MORE
