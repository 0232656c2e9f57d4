/-! THE CONSTRUCTORS -/
def Al (h : Hp) (o ko n : Nat) (F : Nat → Nat × Nat × Nat) : Prop := h.K o = ko ∧ h.N = o + 1 + n ∧ ∀ i, i < n → arr h o (F i).1 (o + 1 + i) (F i).2.1 (F i).2.2
section INIT
variable {h : Hp} {o ko n : Nat} {F : Nat → Nat × Nat × Nat}
theorem nc_K (h : Hp) (kd len b : Nat) : (newC h kd len).K b = if b = h.N then kd else h.K b := rfl
theorem nc_L (h : Hp) (kd len b : Nat) : (newC h kd len).L b = if b = h.N then len else h.L b := rfl
theorem nc_I (h : Hp) (kd len b : Nat) : (newC h kd len).I b = if b = h.N then (fun _ => 0) else h.I b := rfl
theorem nc_J (h : Hp) (kd len b : Nat) : (newC h kd len).J b = if b = h.N then (fun _ => 0) else h.J b := rfl
theorem nc_R (h : Hp) (kd len b : Nat) : (newC h kd len).R b = if b = h.N then (fun _ => none) else h.R b := rfl
theorem pR_R (h : Hp) (a k : Nat) (v : Option Nat) (b j : Nat) : (putR h a k v).R b j = if b = a then (if j = k then v else h.R b j) else h.R b j := rfl
theorem nc_same {kd len b : Nat} (hb : b < h.N) : same h (newC h kd len) b := by
  have z : ¬ b = h.N := by omega
  exact ⟨by rw [nc_K, if_neg z], by rw [nc_L, if_neg z], by rw [nc_I, if_neg z], by rw [nc_J, if_neg z], by rw [nc_R, if_neg z]⟩
theorem pR_same {a k b : Nat} {v : Option Nat} (hb : b ≠ a) : same h (putR h a k v) b := ⟨rfl, rfl, rfl, rfl, up2_ne _ hb⟩
theorem Al.st (q : Al h o ko n F) {k kd len : Nat} (hF : F n = (k, kd, len)) (hd : ∀ i, i < n → (F i).1 ≠ k) : ∃ h1, pR (newC h kd len) ko o k (some (Hp.N h)) = some h1 ∧ Al h1 o ko (n + 1) F ∧ (∀ b, b < h.N → b ≠ o → same h h1 b) ∧ h1.I o = h.I o ∧ h1.J o = h.J o ∧ (∀ j, h1.I (o + 1 + n) j = 0) := by
  obtain ⟨q1, q2, q3⟩ := q
  have zo : ¬ o = h.N := by omega
  have K1 : (newC h kd len).K o = ko := by rw [nc_K, if_neg zo]; exact q1
  refine ⟨putR (newC h kd len) o k (some h.N), pR_e K1, ⟨K1, by show h.N + 1 = _; omega, ?_⟩, ?_, ?_, ?_, ?_⟩
  · intro i hi
    by_cases e : i = n
    · subst e
      rw [hF]
      refine ⟨?_, ?_, ?_⟩
      · rw [pR_R, if_pos rfl, if_pos rfl, q2]
      · show (newC h kd len).K (o + 1 + i) = _; rw [nc_K, if_pos (by omega)]
      · show (newC h kd len).L (o + 1 + i) = _; rw [nc_L, if_pos (by omega)]
    · obtain ⟨a1, a2, a3⟩ := q3 i (by omega)
      refine ⟨?_, ?_, ?_⟩
      · rw [pR_R, if_pos rfl, if_neg (hd i (by omega)), nc_R, if_neg zo]; exact a1
      · show (newC h kd len).K (o + 1 + i) = _; rw [nc_K, if_neg (by omega)]; exact a2
      · show (newC h kd len).L (o + 1 + i) = _; rw [nc_L, if_neg (by omega)]; exact a3
  · intro b hb hb2
    exact (nc_same hb).tr (pR_same hb2)
  · show (newC h kd len).I o = _; rw [nc_I, if_neg zo]
  · show (newC h kd len).J o = _; rw [nc_J, if_neg zo]
  · intro j; show (newC h kd len).I (o + 1 + n) j = _; rw [nc_I, if_pos (by omega)]
theorem Al.ed {P : Nat → Prop} {h1 : Hp} (e : Ed P h h1) (q : Al h o ko n F) : Al h1 o ko n F := ⟨by rw [e.2.1]; exact q.1, by rw [e.1]; exact q.2.1, fun i hi => e.arr (q.2.2 i hi)⟩
/-- cells before the object stay -/
def Bf (o : Nat) (h h1 : Hp) : Prop := ∀ b, b < o → same h h1 b
theorem Bf.tr {h1 h2 : Hp} (a : Bf o h h1) (b : Bf o h1 h2) : Bf o h h2 := fun c hc => (a c hc).tr (b c hc)
def FX4 : Nat → Nat × Nat × Nat
  | 0 => (8, 8, 64)
  | 1 => (9, 8, 64)
  | 2 => (10, 8, 6)
  | 3 => (11, 8, 64)
  | 4 => (12, 8, 64)
  | _ => (19, 9, 25)
theorem init4 {fu : Nat} (hK : h.K o = 4) (hN : h.N = o + 1) : ∃ h1, f_X4_init fu o h = some ((), h1) ∧ SeaS h1 o ∧ h1.N = o + 7 ∧ Bf o h h1 ∧ h1.I o = h.I o := by
  have q0 : Al h o 4 0 FX4 := ⟨hK, hN, fun i hi => by omega⟩
  obtain ⟨h1, a1, a2, a3, a4, a5, -⟩ := q0.st (show FX4 0 = (8, 8, 64) from rfl) (by decide)
  obtain ⟨h2, b1, b2, b3, b4, b5, -⟩ := a2.st (show FX4 1 = (9, 8, 64) from rfl) (by decide)
  obtain ⟨h3, c1, c2, c3, c4, c5, -⟩ := b2.st (show FX4 2 = (10, 8, 6) from rfl) (by decide)
  obtain ⟨h4, d1, d2, d3, d4, d5, -⟩ := c2.st (show FX4 3 = (11, 8, 64) from rfl) (by decide)
  obtain ⟨h5, e1, e2, e3, e4, e5, -⟩ := d2.st (show FX4 4 = (12, 8, 64) from rfl) (by decide)
  obtain ⟨h6, f1, f2, f3, f4, f5, -⟩ := e2.st (show FX4 5 = (19, 9, 25) from rfl) (by decide)
  refine ⟨h6, ?_, ⟨f2.1, f2.2.2 0 (by decide), f2.2.2 1 (by decide), f2.2.2 2 (by decide), f2.2.2 3 (by decide), f2.2.2 4 (by decide), f2.2.2 5 (by decide)⟩, by rw [f2.2.1], ?_, ?_⟩
  · unfold f_X4_init
    rw [if_pos hK, a1, Option.bind_some, b1, Option.bind_some, c1, Option.bind_some, d1, Option.bind_some, e1, Option.bind_some, f1, Option.bind_some]
  · intro b hb
    have n1 := a2.2.1
    have n2 := b2.2.1
    have n3 := c2.2.1
    have n4 := d2.2.1
    have n5 := e2.2.1
    exact (((((a3 b (by omega) (by omega)).tr (b3 b (by omega) (by omega))).tr (c3 b (by omega) (by omega))).tr (d3 b (by omega) (by omega))).tr (e3 b (by omega) (by omega))).tr (f3 b (by omega) (by omega))
  · rw [f4, e4, d4, c4, b4, a4]
def FX3 : Nat → Nat × Nat × Nat
  | _ => (3, 10, 400)
theorem init3 {fu : Nat} (hK : h.K o = 3) (hN : h.N = o + 1) (hI : ∀ j, h.I o j = 0) : ∃ h1, f_X3_init fu o h = some ((), h1) ∧ h1.K o = 3 ∧ arr h1 o 3 (o + 1) 10 400 ∧ h1.I o 0 = 0 ∧ h1.I o 1 = 0 ∧ h1.I o 2 = -1 ∧ h1.N = o + 2 ∧ Bf o h h1 := by
  have e : Ed (fun b => b = o) h (putI h o 2 (-1)) := Ed.pI rfl
  have q0 : Al (putI h o 2 (-1)) o 3 0 FX3 := ⟨hK, hN, fun i hi => by omega⟩
  obtain ⟨h1, a1, a2, a3, a4, a5, -⟩ := q0.st (show FX3 0 = (3, 10, 400) from rfl) (by decide)
  refine ⟨h1, ?_, a2.1, a2.2.2 0 (by decide), ?_, ?_, ?_, by rw [a2.2.1], ?_⟩
  · unfold f_X3_init
    rw [if_pos hK, pI_e hK, Option.bind_some, a1, Option.bind_some]
  · rw [a4, putI_I, if_pos rfl, if_neg (by decide)]; exact hI 0
  · rw [a4, putI_I, if_pos rfl, if_neg (by decide)]; exact hI 1
  · rw [a4, putI_I, if_pos rfl, if_pos rfl]
  · intro b hb
    have n0 := q0.2.1
    exact (e.same (by omega)).tr (a3 b (by omega) (by omega))
def FX0 : Nat → Nat × Nat × Nat
  | 0 => (1, 8, 12)
  | 1 => (2, 8, 12)
  | 2 => (3, 8, 12)
  | _ => (4, 8, 12)
theorem init0 {fu : Nat} (hK : h.K o = 0) (hN : h.N = o + 1) : ∃ h1, f_X0_init fu o h = some ((), h1) ∧ ChantS h1 o ∧ h1.N = o + 5 ∧ Bf o h h1 ∧ h1.I o = h.I o := by
  have q0 : Al h o 0 0 FX0 := ⟨hK, hN, fun i hi => by omega⟩
  obtain ⟨h1, a1, a2, a3, a4, a5, -⟩ := q0.st (show FX0 0 = (1, 8, 12) from rfl) (by decide)
  obtain ⟨h2, b1, b2, b3, b4, b5, -⟩ := a2.st (show FX0 1 = (2, 8, 12) from rfl) (by decide)
  obtain ⟨h3, c1, c2, c3, c4, c5, -⟩ := b2.st (show FX0 2 = (3, 8, 12) from rfl) (by decide)
  obtain ⟨h4, d1, d2, d3, d4, d5, -⟩ := c2.st (show FX0 3 = (4, 8, 12) from rfl) (by decide)
  refine ⟨h4, ?_, ⟨d2.1, d2.2.2 0 (by decide), d2.2.2 1 (by decide), d2.2.2 2 (by decide), d2.2.2 3 (by decide)⟩, by rw [d2.2.1], ?_, ?_⟩
  · unfold f_X0_init
    rw [if_pos hK, a1, Option.bind_some, b1, Option.bind_some, c1, Option.bind_some, d1, Option.bind_some]
  · intro b hb
    have n1 := a2.2.1
    have n2 := b2.2.1
    have n3 := c2.2.1
    exact (((a3 b (by omega) (by omega)).tr (b3 b (by omega) (by omega))).tr (c3 b (by omega) (by omega))).tr (d3 b (by omega) (by omega))
  · rw [d4, c4, b4, a4]
theorem SeaS.fr {h1 : Hp} {a : Nat} (e : ∀ b, a ≤ b → b < a + 7 → same h h1 b) (q : SeaS h a) : SeaS h1 a := by
  obtain ⟨s1, s2, s3, s4, s5, s6, s7⟩ := q
  have e0 := e a (by omega) (by omega)
  exact ⟨by rw [e0.1]; exact s1, e0.arr (e _ (by omega) (by omega)) s2, e0.arr (e _ (by omega) (by omega)) s3, e0.arr (e _ (by omega) (by omega)) s4, e0.arr (e _ (by omega) (by omega)) s5, e0.arr (e _ (by omega) (by omega)) s6, e0.arr (e _ (by omega) (by omega)) s7⟩
def c0 : Cg := ⟨0, fun _ => 0, fun _ => 0, fun _ => 0, fun _ => 0⟩
/-- a new master at x, the heap's next cell -/
theorem init6 {fu x : Nat} (hf : 20000 < fu) (hf2 : fu < 2 ^ 31) (hN : h.N = x) : ∃ h1, f_X6_init fu x (newC h 6 0) = some ((), h1) ∧ h1.N = x + 20 ∧ ∃ sg dr, MasterP h1 x (allm 16) 0 (-1) sg dr none none ∧ Se h1 (x + 1) (g0 4 4) ∧ h1.I (x + 1) 3 = nI 1 ∧ ReaderP h1 x (fun _ => 0) 0 0 (-1) ∧ ChantsP h1 x sg dr c0 := by
  obtain ⟨ha, hha⟩ : ∃ ha, ha = newC h 6 0 := ⟨_, rfl⟩
  have Na : ha.N = x + 1 := by rw [hha]; show h.N + 1 = _; omega
  have Ka : ha.K x = 6 := by rw [hha, nc_K, if_pos hN.symm]
  have Ra : ∀ j, ha.R x j = none := fun j => by rw [hha, nc_R, if_pos hN.symm]
  -- the sea
  have Kb : (newC ha 4 0).K (x + 1) = 4 := by rw [nc_K, if_pos Na.symm]
  have Ib : ∀ j, (newC ha 4 0).I (x + 1) j = 0 := fun j => by rw [nc_I, if_pos Na.symm]
  obtain ⟨hb, b1, b2, b3, b4, b5⟩ := init4 (fu := fu) Kb (show ha.N + 1 = _ by omega)
  have sb : ∀ b, b < x + 1 → same ha hb b := fun b z => (nc_same (by omega)).tr (b4 b z)
  obtain ⟨hc, hhc⟩ : ∃ hc, hc = putR hb x 0 (some (x + 1)) := ⟨_, rfl⟩
  have Kc : hc.K x = 6 := by rw [hhc]; show hb.K x = 6; rw [(sb x (by omega)).1]; exact Ka
  have Nc : hc.N = x + 8 := by rw [hhc]; show hb.N = _; omega
  have Rc : ∀ j, hc.R x j = if j = 0 then some (x + 1) else none := fun j => by rw [hhc, pR_R, if_pos rfl, (sb x (by omega)).2.2.2.2, Ra]
  have Sc : SeaS hc (x + 1) := by rw [hhc]; exact b2.fr (fun b p1 p2 => pR_same (by omega))
  have Ic : hc.I (x + 1) 3 = 0 := by rw [hhc]; show hb.I (x + 1) 3 = 0; rw [b5]; exact Ib 3
  -- the reader
  have Kd : (newC hc 3 0).K (x + 8) = 3 := by rw [nc_K, if_pos Nc.symm]
  have Id : ∀ j, (newC hc 3 0).I (x + 8) j = 0 := fun j => by rw [nc_I, if_pos Nc.symm]
  obtain ⟨hd, d1, d2, d3, d4, d5, d6, d7, d8⟩ := init3 (fu := fu) Kd (show hc.N + 1 = _ by omega) Id
  have sd : ∀ b, b < x + 8 → same hc hd b := fun b z => (nc_same (by omega)).tr (d8 b z)
  obtain ⟨he, hhe⟩ : ∃ he, he = putR hd x 1 (some (x + 8)) := ⟨_, rfl⟩
  have se : ∀ b, b < x + 8 → b ≠ x → same hc he b := fun b z z2 => (sd b z).tr (by rw [hhe]; exact pR_same z2)
  have Ke : he.K x = 6 := by rw [hhe]; show hd.K x = 6; rw [(sd x (by omega)).1]; exact Kc
  have Ne : he.N = x + 10 := by rw [hhe]; show hd.N = _; omega
  have Re : ∀ j, he.R x j = if j = 1 then some (x + 8) else if j = 0 then some (x + 1) else none := fun j => by rw [hhe, pR_R, if_pos rfl, (sd x (by omega)).2.2.2.2, Rc]
  -- the first chant
  have Kf : (newC he 0 0).K (x + 10) = 0 := by rw [nc_K, if_pos Ne.symm]
  have If : ∀ j, (newC he 0 0).I (x + 10) j = 0 := fun j => by rw [nc_I, if_pos Ne.symm]
  obtain ⟨hf', f1, f2, f3, f4, f5⟩ := init0 (fu := fu) Kf (show he.N + 1 = _ by omega)
  have sf : ∀ b, b < x + 10 → same he hf' b := fun b z => (nc_same (by omega)).tr (f4 b z)
  obtain ⟨hg, hhg⟩ : ∃ hg, hg = putR hf' x 2 (some (x + 10)) := ⟨_, rfl⟩
  have sg : ∀ b, b < x + 10 → b ≠ x → same he hg b := fun b z z2 => (sf b z).tr (by rw [hhg]; exact pR_same z2)
  have Kg : hg.K x = 6 := by rw [hhg]; show hf'.K x = 6; rw [(sf x (by omega)).1]; exact Ke
  have Ng : hg.N = x + 15 := by rw [hhg]; show hf'.N = _; omega
  have Rg : ∀ j, hg.R x j = if j = 2 then some (x + 10) else if j = 1 then some (x + 8) else if j = 0 then some (x + 1) else none := fun j => by rw [hhg, pR_R, if_pos rfl, (sf x (by omega)).2.2.2.2, Re]
  -- the second chant
  have Kh : (newC hg 0 0).K (x + 15) = 0 := by rw [nc_K, if_pos Ng.symm]
  obtain ⟨hi, i1, i2, i3, i4, i5⟩ := init0 (fu := fu) Kh (show hg.N + 1 = _ by omega)
  have si : ∀ b, b < x + 15 → same hg hi b := fun b z => (nc_same (by omega)).tr (i4 b z)
  obtain ⟨hj, hhj⟩ : ∃ hj, hj = putR (putR (putR hi x 3 (some (x + 15))) x 7 none) x 8 none := ⟨_, rfl⟩
  have tj : ∀ b, b ≠ x → same hi hj b := fun b z2 => by rw [hhj]; exact ((pR_same z2).tr (pR_same z2)).tr (pR_same z2)
  have sj : ∀ b, b < x + 15 → b ≠ x → same hg hj b := fun b z z2 => (si b z).tr (tj b z2)
  have Ki : hi.K x = 6 := by rw [(si x (by omega)).1]; exact Kg
  have Kj : hj.K x = 6 := by rw [hhj]; exact Ki
  have Nj : hj.N = x + 20 := by rw [hhj]; show hi.N = _; omega
  have Rj : ∀ j, hj.R x j = if j = 8 then none else if j = 7 then none else if j = 3 then some (x + 15) else if j = 2 then some (x + 10) else if j = 1 then some (x + 8) else if j = 0 then some (x + 1) else none := fun j => by
    rw [hhj]
    simp only [pR_R, if_true]
    rw [(si x (by omega)).2.2.2.2, Rg]
  have Sj : SeaS hj (x + 1) := Sc.fr (fun b p1 p2 => ((se b (by omega) (by omega)).tr (sg b (by omega) (by omega))).tr (sj b (by omega) (by omega)))
  have Ij : hj.I (x + 1) 3 = 0 := by rw [(((se (x + 1) (by omega) (by omega)).tr (sg (x + 1) (by omega) (by omega))).tr (sj (x + 1) (by omega) (by omega))).2.2.1]; exact Ic
  have C1 : ChantS hj (x + 10) := by
    refine ChantS.fr (fun b p1 p2 => ?_) f2
    exact (show same hf' hg b by rw [hhg]; exact pR_same (by omega)).tr (sj b (by omega) (by omega))
  have C1I : hj.I (x + 10) 0 = 0 := by
    rw [(sj (x + 10) (by omega) (by omega)).2.2.1, hhg]
    show hf'.I (x + 10) 0 = 0
    rw [f5]; exact If 0
  have C2 : ChantS hj (x + 15) := ChantS.fr (fun b p1 p2 => tj b (by omega)) i2
  -- the sea is laid
  obtain ⟨hk, k1, k2, k3, k4⟩ := s_lay (fu := fu) (w := 4) (hh := 4) Sj (by omega) hf2 (by decide) (by decide) (by decide) (by decide)
  have Kk : hk.K x = 6 := by rw [k3.2.1]; exact Kj
  have Rk : hk.R x = hj.R x := by rw [k3.2.2.2.1]
  obtain ⟨hl, hhl⟩ : ∃ hl, hl = putI (putI (putJ hk x 4 (allm 16)) x 5 0) x 6 (-1) := ⟨_, rfl⟩
  have el : Ed (fun b => b = x) hk hl := by rw [hhl]; exact Ed.tr (Ed.tr (Ed.pJ rfl) (Ed.pI rfl)) (Ed.pI rfl)
  have sl : ∀ b, x + 8 ≤ b → same hj hl b := fun b z => (k3.same (by omega)).tr (el.same (by omega))
  have Rl : hl.R x = hj.R x := by rw [el.2.2.2.1, Rk]
  refine ⟨hl, ?_, by rw [el.1, k3.1]; exact Nj, x + 10, x + 15, ⟨by rw [el.2.1]; exact Kk, by rw [Rl, Rj]; rfl, by rw [Rl, Rj]; rfl, by rw [Rl, Rj]; rfl, by rw [Rl, Rj]; rfl, by rw [hhl, putI_J, putI_J, putJ_J, if_pos rfl, if_pos rfl], by rw [hhl, putI_I, if_pos rfl, if_neg (by decide), putI_I, if_pos rfl, if_pos rfl]; rfl, by rw [hhl, putI_I, if_pos rfl, if_pos rfl], by rw [Rl, Rj]; rfl, by rw [Rl, Rj]; rfl⟩, k2.fr (fun b p1 p2 => el.same (by omega)), ?_, ?_, ⟨Or.inl ⟨rfl, rfl⟩, C1.fr (fun b p1 p2 => sl b (by omega)), C2.fr (fun b p1 p2 => sl b (by omega)), ⟨by rw [(sl (x + 10) (by omega)).2.2.1]; exact C1I, fun k hk => absurd hk (Nat.not_lt_zero k)⟩, ⟨Nat.zero_le _, fun k hk => absurd hk (Nat.not_lt_zero k)⟩⟩⟩
  · unfold f_X6_init
    rw [← hha, if_pos Ka, Na, b1, Option.bind_some]
    dsimp only
    rw [pR_e (by rw [(sb x (by omega)).1]; exact Ka), Option.bind_some, ← hhc, Nc, d1, Option.bind_some]
    dsimp only
    rw [pR_e (by rw [(sd x (by omega)).1]; exact Kc), Option.bind_some, ← hhe, Ne, f1, Option.bind_some]
    dsimp only
    rw [pR_e (by rw [(sf x (by omega)).1]; exact Ke), Option.bind_some, ← hhg, Ng, i1, Option.bind_some]
    dsimp only
    rw [pR_e Ki, Option.bind_some, pR_e (h := putR hi x 3 (some (x + 15))) Ki, Option.bind_some, pR_e (h := putR (putR hi x 3 (some (x + 15))) x 7 none) Ki, Option.bind_some, ← hhj, gR_e Kj, Rj, if_neg (by decide), if_neg (by decide), if_neg (by decide), if_neg (by decide), if_neg (by decide), if_pos rfl, Option.bind_some]
    show (f_X4_lay fu (x + 1) (nI 4) (nI 4) hj).bind _ = _
    rw [k1, Option.bind_some]
    dsimp only
    rw [gR_e Kk, Rk, Rj, if_neg (by decide), if_neg (by decide), if_neg (by decide), if_neg (by decide), if_neg (by decide), if_pos rfl, Option.bind_some, gJ_e k2.1.1, Option.bind_some, sea_cells k2]
    rw [pJ_e Kk, Option.bind_some, pI_e (h := putJ hk x 4 (allm (g0 4 4).n)) Kk, Option.bind_some, pI_e (h := putI (putJ hk x 4 (allm (g0 4 4).n)) x 5 0) Kk, Option.bind_some, hhl]
    rfl
  · rw [(el.2.2.2.2 (x + 1) (by omega)).1, k4, Ij]; rfl
  · have s8 : ∀ b, x + 8 ≤ b → b < x + 10 → same hd hl b := fun b z z2 => (((show same hd he b by rw [hhe]; exact pR_same (by omega)).tr (sg b (by omega) (by omega))).tr (sj b (by omega) (by omega))).tr (sl b z)
    have e8 := s8 (x + 8) (by omega) (by omega)
    have e9 := s8 (x + 9) (by omega) (by omega)
    exact ⟨by rw [e8.1]; exact d2, e8.arr e9 d3, by rw [e8.2.2.1]; exact d4, by rw [e8.2.2.1]; exact d5, by rw [e8.2.2.1]; exact d6, fun j hj => absurd hj (Nat.not_lt_zero j), by omega⟩
end INIT
