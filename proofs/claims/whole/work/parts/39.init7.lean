section INIT7
variable {h : Hp} {o ko n : Nat} {F : Nat → Nat × Nat × Nat}
theorem Al.st2 (q : Al h o ko n F) {k kd len : Nat} {hx : Hp} (e : Ed (fun b => b = h.N) (newC h kd len) hx) (hF : F n = (k, kd, len)) (hd : ∀ i, i < n → (F i).1 ≠ k) : ∃ h1, pR hx ko o k (some (Hp.N h)) = some h1 ∧ Al h1 o ko (n + 1) F ∧ (∀ b, b < h.N → b ≠ o → same h h1 b) ∧ h1.I o = h.I o ∧ h1.J o = h.J o ∧ h1.I (o + 1 + n) = hx.I (o + 1 + n) := by
  obtain ⟨q1, q2, q3⟩ := q
  have zo : ¬ o = h.N := by omega
  have K1 : (newC h kd len).K o = ko := by rw [nc_K, if_neg zo]; exact q1
  have K2 : hx.K o = ko := by rw [e.2.1]; exact K1
  refine ⟨putR hx o k (some h.N), pR_e K2, ⟨K2, by show hx.N = _; rw [e.1]; show h.N + 1 = _; omega, ?_⟩, ?_, ?_, ?_, rfl⟩
  · intro i hi
    by_cases z : i = n
    · subst z
      rw [hF]
      refine ⟨?_, ?_, ?_⟩
      · rw [pR_R, if_pos rfl, if_pos rfl, q2]
      · show hx.K (o + 1 + i) = _; rw [e.2.1, nc_K, if_pos (by omega)]
      · show hx.L (o + 1 + i) = _; rw [e.2.2.1, nc_L, if_pos (by omega)]
    · obtain ⟨a1, a2, a3⟩ := q3 i (by omega)
      refine ⟨?_, ?_, ?_⟩
      · rw [pR_R, if_pos rfl, if_neg (hd i (by omega)), e.2.2.2.1, nc_R, if_neg zo]; exact a1
      · show hx.K (o + 1 + i) = _; rw [e.2.1, nc_K, if_neg (by omega)]; exact a2
      · show hx.L (o + 1 + i) = _; rw [e.2.2.1, nc_L, if_neg (by omega)]; exact a3
  · intro b hb hb2
    exact ((nc_same hb).tr (e.same (by omega))).tr (pR_same hb2)
  · show hx.I o = _; rw [(e.2.2.2.2 o (by omega)).1, nc_I, if_neg zo]
  · show hx.J o = _; rw [(e.2.2.2.2 o (by omega)).2, nc_J, if_neg zo]
def FX7 : Nat → Nat × Nat × Nat
  | 0 => (8, 8, 64)
  | 1 => (9, 8, 64)
  | 2 => (10, 8, 6)
  | 3 => (12, 8, 12)
  | 4 => (13, 8, 12)
  | 5 => (14, 8, 12)
  | 6 => (15, 8, 12)
  | 7 => (17, 8, 12)
  | 8 => (18, 8, 12)
  | 9 => (19, 8, 12)
  | 10 => (20, 8, 12)
  | 11 => (21, 8, 400)
  | 12 => (29, 8, 16384)
  | 13 => (30, 8, 16384)
  | 14 => (32, 9, 3000)
  | 15 => (33, 8, 3000)
  | 16 => (34, 8, 3000)
  | 17 => (35, 8, 3000)
  | _ => (37, 8, 12)
/-- the object's own numbers and the first three rows stay -/
def Kp (m : Nat) (h h1 : Hp) : Prop := h1.I m = h.I m ∧ h1.J m = h.J m ∧ h1.I (m + 1) = h.I (m + 1) ∧ h1.I (m + 2) = h.I (m + 2) ∧ h1.I (m + 3) = h.I (m + 3) ∧ ∀ b, b < m → same h h1 b
theorem Kp.tr {m : Nat} {h1 h2 : Hp} (a : Kp m h h1) (b : Kp m h1 h2) : Kp m h h2 := ⟨b.1.trans a.1, b.2.1.trans a.2.1, b.2.2.1.trans a.2.2.1, b.2.2.2.1.trans a.2.2.2.1, b.2.2.2.2.1.trans a.2.2.2.2.1, fun c hc => (a.2.2.2.2.2 c hc).tr (b.2.2.2.2.2 c hc)⟩
theorem Al.s3 {m : Nat} (q : Al h m 7 n FX7) (h3 : 3 ≤ n) {k kd len : Nat} (hF : FX7 n = (k, kd, len)) (hd : ∀ i, i < n → (FX7 i).1 ≠ k) : ∃ h1, pR (newC h kd len) 7 m k (some (Hp.N h)) = some h1 ∧ Al h1 m 7 (n + 1) FX7 ∧ Kp m h h1 := by
  obtain ⟨h1, a1, a2, a3, a4, a5, -⟩ := q.st hF hd
  have hN := q.2.1
  exact ⟨h1, a1, a2, a4, a5, (a3 _ (by omega) (by omega)).2.2.1, (a3 _ (by omega) (by omega)).2.2.1, (a3 _ (by omega) (by omega)).2.2.1, fun b hb => a3 b (by omega) (by omega)⟩
theorem pI_Kp {m k : Nat} {w : Int32} : ∀ b, b < m → same h (putI h m k w) b := fun b hb => (Ed.pI (P := fun q => q = m) rfl).same (by omega)
theorem init7 {fu m : Nat} (hN : h.N = m) : ∃ h1, f_X7_init fu m (newC h 7 0) = some ((), h1) ∧ h1.N = m + 20 ∧ ModP h1 m (g0 4 4) 65535 0 (-1) c0 (fun _ => 0) 0 0 (-1) ∧ ∀ b, b < m → same h h1 b := by
  obtain ⟨ha, hha⟩ : ∃ ha, ha = newC h 7 0 := ⟨_, rfl⟩
  have Na : ha.N = m + 1 := by rw [hha]; show h.N + 1 = _; omega
  have Ka : ha.K m = 7 := by rw [hha, nc_K, if_pos hN.symm]
  have Ia : ∀ j, ha.I m j = 0 := fun j => by rw [hha, nc_I, if_pos hN.symm]
  have Sa : ∀ b, b < m → same h ha b := fun b hb => by rw [hha]; exact nc_same (by omega)
  obtain ⟨hb, hhb⟩ : ∃ hb, hb = putI (putJ (putI (putI ha m 1 4) m 2 4) m 4 65535) m 5 (-1) := ⟨_, rfl⟩
  have eb : Ed (fun b => b = m) ha hb := by rw [hhb]; exact Ed.tr (Ed.tr (Ed.tr (Ed.pI rfl) (Ed.pI rfl)) (Ed.pJ rfl)) (Ed.pI rfl)
  have Ib : ∀ j, hb.I m j = if j = 5 then -1 else if j = 2 then 4 else if j = 1 then 4 else 0 := fun j => by
    rw [hhb]
    simp only [putI_I, putJ_I, if_true, Ia]
  have Jb : hb.J m 4 = 65535 := by rw [hhb, putI_J, putJ_J, if_pos rfl, if_pos rfl]
  have qb : Al hb m 7 0 FX7 := ⟨by rw [eb.2.1]; exact Ka, by rw [eb.1]; exact Na, fun i hi => by omega⟩
  obtain ⟨h1, a1, a2, a3, a4, a5, a6⟩ := qb.st (show FX7 0 = (8, 8, 64) from rfl) (by decide)
  obtain ⟨h2, b1, b2, b3, b4, b5, b6⟩ := a2.st (show FX7 1 = (9, 8, 64) from rfl) (by decide)
  have N0 := qb.2.1
  have N1 := a2.2.1
  have N2 := b2.2.1
  -- the drift sets
  obtain ⟨hn, hhn⟩ : ∃ hn, hn = newC h2 8 6 := ⟨_, rfl⟩
  have Kn : hn.K (m + 3) = 8 := by rw [hhn, nc_K, if_pos (by omega)]
  have Ln : hn.L (m + 3) = 6 := by rw [hhn, nc_L, if_pos (by omega)]
  obtain ⟨hx, hhx⟩ : ∃ hx, hx = putI (putI (putI (putI (putI (putI hn (m + 3) 0 16) (m + 3) 1 16) (m + 3) 2 16) (m + 3) 3 16) (m + 3) 4 16) (m + 3) 5 16 := ⟨_, rfl⟩
  have ex : Ed (fun b => b = m + 3) hn hx := by rw [hhx]; exact Ed.tr (Ed.tr (Ed.tr (Ed.tr (Ed.tr (Ed.pI rfl) (Ed.pI rfl)) (Ed.pI rfl)) (Ed.pI rfl)) (Ed.pI rfl)) (Ed.pI rfl)
  have Ix : ∀ j, j < 6 → hx.I (m + 3) j = 16 := by
    intro j hj
    rw [hhx]
    simp only [putI_I, if_true]
    match j, hj with
    | 0, _ => rfl
    | 1, _ => rfl
    | 2, _ => rfl
    | 3, _ => rfl
    | 4, _ => rfl
    | 5, _ => rfl
  have ex' : Ed (fun b => b = h2.N) (newC h2 8 6) hx := by rw [← hhn, N2]; exact ex
  obtain ⟨h3, c1, c2, c3, c4, c5, c6⟩ := b2.st2 ex' (show FX7 2 = (10, 8, 6) from rfl) (by decide)
  obtain ⟨h4, d1, d2, d3⟩ := c2.s3 (by decide) (show FX7 3 = (12, 8, 12) from rfl) (by decide)
  obtain ⟨h5, e1, e2, e3⟩ := d2.s3 (by decide) (show FX7 4 = (13, 8, 12) from rfl) (by decide)
  obtain ⟨h6, f1, f2, f3⟩ := e2.s3 (by decide) (show FX7 5 = (14, 8, 12) from rfl) (by decide)
  obtain ⟨h7, g1, g2, g3⟩ := f2.s3 (by decide) (show FX7 6 = (15, 8, 12) from rfl) (by decide)
  obtain ⟨h8, i1, i2, i3⟩ := g2.s3 (by decide) (show FX7 7 = (17, 8, 12) from rfl) (by decide)
  obtain ⟨h9, j1, j2, j3⟩ := i2.s3 (by decide) (show FX7 8 = (18, 8, 12) from rfl) (by decide)
  obtain ⟨h10, k1, k2, k3⟩ := j2.s3 (by decide) (show FX7 9 = (19, 8, 12) from rfl) (by decide)
  obtain ⟨h11, l1, l2, l3⟩ := k2.s3 (by decide) (show FX7 10 = (20, 8, 12) from rfl) (by decide)
  obtain ⟨h12, m1, m2, m3⟩ := l2.s3 (by decide) (show FX7 11 = (21, 8, 400) from rfl) (by decide)
  have n2 : Al (putI h12 m 28 (-1)) m 7 12 FX7 := m2.ed (Ed.pI (P := fun b => b = m) rfl)
  obtain ⟨h14, o1, o2, o3⟩ := n2.s3 (by decide) (show FX7 12 = (29, 8, 16384) from rfl) (by decide)
  obtain ⟨h15, p1, p2, p3⟩ := o2.s3 (by decide) (show FX7 13 = (30, 8, 16384) from rfl) (by decide)
  obtain ⟨h16, q1, q2, q3⟩ := p2.s3 (by decide) (show FX7 14 = (32, 9, 3000) from rfl) (by decide)
  obtain ⟨h17, r1, r2, r3⟩ := q2.s3 (by decide) (show FX7 15 = (33, 8, 3000) from rfl) (by decide)
  obtain ⟨h18, s1, s2, s3⟩ := r2.s3 (by decide) (show FX7 16 = (34, 8, 3000) from rfl) (by decide)
  obtain ⟨h19, t1, t2, t3⟩ := s2.s3 (by decide) (show FX7 17 = (35, 8, 3000) from rfl) (by decide)
  obtain ⟨h20, u1, u2, u3⟩ := t2.s3 (by decide) (show FX7 18 = (37, 8, 12) from rfl) (by decide)
  have K1 : Kp m h3 h12 := (((((((d3.tr e3).tr f3).tr g3).tr i3).tr j3).tr k3).tr l3).tr m3
  have K2 : Kp m (putI h12 m 28 (-1)) h20 := (((((o3.tr p3).tr q3).tr r3).tr s3).tr t3).tr u3
  have If : ∀ j, h20.I m j = if j = 28 then -1 else if j = 5 then -1 else if j = 2 then 4 else if j = 1 then 4 else 0 := fun j => by
    rw [K2.1, putI_I, if_pos rfl, K1.1, c4, b4, a4, Ib]
  have Jf : h20.J m 4 = 65535 := by rw [K2.2.1]; show h12.J m 4 = _; rw [K1.2.1, c5, b5, a5, Jb]
  have R0 : ∀ j, h20.I (m + 1) j = 0 := fun j => by
    rw [K2.2.2.1, putI_I, if_neg (by omega), K1.2.2.1, (c3 (m + 1) (by omega) (by omega)).2.2.1, (b3 (m + 1) (by omega) (by omega)).2.2.1]; exact a6 j
  have R1 : ∀ j, h20.I (m + 2) j = 0 := fun j => by
    rw [K2.2.2.2.1, putI_I, if_neg (by omega), K1.2.2.2.1, (c3 (m + 2) (by omega) (by omega)).2.2.1]; exact b6 j
  have R2 : ∀ j, j < 6 → h20.I (m + 3) j = 16 := fun j hj => by
    rw [K2.2.2.2.2.1, putI_I, if_neg (by omega), K1.2.2.2.2.1]
    have := congrFun c6 j
    rw [show m + 1 + 2 = m + 3 by omega] at this
    rw [this]; exact Ix j hj
  refine ⟨h20, ?_, by rw [u2.2.1], ⟨⟨⟨u2.1, u2.2.2 0 (by decide), u2.2.2 1 (by decide), u2.2.2 2 (by decide)⟩, ⟨by rw [If]; rfl, by rw [If]; rfl, by rw [If]; rfl, by rw [If]; rfl, fun c _ => R0 c, fun c _ => R1 c, fun k hk => R2 k hk⟩, g0_ok (by decide) (by decide) (by decide) (by decide)⟩, ⟨u2.2.2 3 (by decide), u2.2.2 4 (by decide), u2.2.2 5 (by decide), u2.2.2 6 (by decide), u2.2.2 7 (by decide), u2.2.2 8 (by decide), u2.2.2 9 (by decide), u2.2.2 10 (by decide), u2.2.2 11 (by decide), u2.2.2 12 (by decide), u2.2.2 13 (by decide), u2.2.2 14 (by decide), u2.2.2 15 (by decide), u2.2.2 16 (by decide), u2.2.2 17 (by decide), u2.2.2 18 (by decide)⟩, Jf, by rw [If]; rfl, by rw [If]; rfl, ⟨by rw [If]; rfl, fun k hk => absurd hk (Nat.not_lt_zero k)⟩, ⟨by rw [If]; rfl, by rw [If]; rfl, by rw [If]; rfl, fun j hj => absurd hj (Nat.not_lt_zero j)⟩⟩, ?_⟩
  · have x0 : sI (newC h2 8 6) 8 (Hp.N h2) 0 16 = some (putI hn (m + 3) 0 16) := by rw [← hhn, N2]; exact sI_e (j := 0) Kn Ln (by decide) (by decide)
    have x1 : sI (putI hn (m + 3) 0 16) 8 (Hp.N h2) 1 16 = some (putI (putI hn (m + 3) 0 16) (m + 3) 1 16) := by rw [N2]; exact sI_e (h := putI _ _ _ _) (j := 1) Kn Ln (by decide) (by decide)
    have x2 : sI (putI (putI hn (m + 3) 0 16) (m + 3) 1 16) 8 (Hp.N h2) 2 16 = some (putI (putI (putI hn (m + 3) 0 16) (m + 3) 1 16) (m + 3) 2 16) := by rw [N2]; exact sI_e (h := putI (putI _ _ _ _) _ _ _) (j := 2) Kn Ln (by decide) (by decide)
    have x3 : sI (putI (putI (putI hn (m + 3) 0 16) (m + 3) 1 16) (m + 3) 2 16) 8 (Hp.N h2) 3 16 = some (putI (putI (putI (putI hn (m + 3) 0 16) (m + 3) 1 16) (m + 3) 2 16) (m + 3) 3 16) := by rw [N2]; exact sI_e (h := putI (putI (putI _ _ _ _) _ _ _) _ _ _) (j := 3) Kn Ln (by decide) (by decide)
    have x4 : sI (putI (putI (putI (putI hn (m + 3) 0 16) (m + 3) 1 16) (m + 3) 2 16) (m + 3) 3 16) 8 (Hp.N h2) 4 16 = some (putI (putI (putI (putI (putI hn (m + 3) 0 16) (m + 3) 1 16) (m + 3) 2 16) (m + 3) 3 16) (m + 3) 4 16) := by rw [N2]; exact sI_e (h := putI (putI (putI (putI _ _ _ _) _ _ _) _ _ _) _ _ _) (j := 4) Kn Ln (by decide) (by decide)
    have x5 : sI (putI (putI (putI (putI (putI hn (m + 3) 0 16) (m + 3) 1 16) (m + 3) 2 16) (m + 3) 3 16) (m + 3) 4 16) 8 (Hp.N h2) 5 16 = some hx := by rw [N2, hhx]; exact sI_e (h := putI (putI (putI (putI (putI _ _ _ _) _ _ _) _ _ _) _ _ _) _ _ _) (j := 5) Kn Ln (by decide) (by decide)
    unfold f_X7_init
    rw [← hha, if_pos Ka, pI_e Ka, Option.bind_some, pI_e (h := putI ha m 1 4) Ka, Option.bind_some, pJ_e (h := putI (putI ha m 1 4) m 2 4) Ka, Option.bind_some, pI_e (h := putJ (putI (putI ha m 1 4) m 2 4) m 4 65535) Ka, Option.bind_some, ← hhb, a1, Option.bind_some, b1, Option.bind_some, x0, Option.bind_some, x1, Option.bind_some, x2, Option.bind_some, x3, Option.bind_some, x4, Option.bind_some, x5, Option.bind_some, c1, Option.bind_some, d1, Option.bind_some, e1, Option.bind_some, f1, Option.bind_some, g1, Option.bind_some, i1, Option.bind_some, j1, Option.bind_some, k1, Option.bind_some, l1, Option.bind_some, m1, Option.bind_some, pI_e m2.1, Option.bind_some, o1, Option.bind_some, p1, Option.bind_some, q1, Option.bind_some, r1, Option.bind_some, s1, Option.bind_some, t1, Option.bind_some, u1, Option.bind_some]
  · intro b hb
    exact ((((((Sa b hb).tr (eb.same (by omega))).tr (a3 b (by omega) (by omega))).tr (b3 b (by omega) (by omega))).tr (c3 b (by omega) (by omega))).tr (K1.2.2.2.2.2 b hb)).tr ((pI_Kp b hb).tr (K2.2.2.2.2.2 b hb))
theorem all16 : allm 16 = 65535 := by decide +kernel
/-- the world at the start -/
theorem start {fu x : Nat} (hf : 20000 < fu) (hf2 : fu < 2 ^ 31) (hN : h.N = x) : ∃ h1 h2, f_X6_init fu x (newC h 6 0) = some ((), h1) ∧ h1.N = x + 20 ∧ f_X7_init fu (x + 20) (newC h1 7 0) = some ((), h2) ∧ Wd h2 x 1 := by
  obtain ⟨h1, a1, a2, sg, dr, a3, a4, a5, a6, a7⟩ := init6 (fu := fu) hf hf2 hN
  obtain ⟨h2, b1, b2, b3, b4⟩ := init7 (fu := fu) (m := x + 20) a2
  refine ⟨h1, h2, a1, a2, b1, g0 4 4, allm 16, 0, -1, c0, fun _ => 0, 0, 0, -1, ⟨sg, dr, none, none, a3.fr (b4 _ (by omega)), a4.fr (fun b p1 p2 => b4 b (by omega)), by rw [(b4 (x + 1) (by omega)).2.2.1]; exact a5, a6.fr (b4 _ (by omega)) (b4 _ (by omega)), a7.fr (fun b p1 p2 => b4 b (by omega)), fun j hj => (by cases hj), fun s hs => (by cases hs), fun j s hj => (by cases hj), by omega⟩, ?_, ?_⟩
  · rw [all16]; exact b3
  · exact ⟨g0_ok (by decide) (by decide) (by decide) (by decide), g0_dr, allm_subs (by decide), by omega, Or.inl rfl, fun j hj => absurd hj (Nat.not_lt_zero j), by omega⟩
end INIT7
