/-! THE REFERENCE'S SINGING -/
def cC (v : Nat) : Nat := min v 100000
theorem mC1 (C b : Nat) : min (min b C + 1) C = min (b + 1) C := by omega
theorem mC2 (C a : Nat) (h : min a C + 1 ≤ C) : min a C + 1 = min (a + 1) C := by omega
theorem mC3 (C a : Nat) (h : ¬ min a C + 1 ≤ C) : C = min (a + 1) C := by omega
theorem mC5 (C b n : Nat) (h : min (min b C + 1) C ≤ min n C + 1) : min (min b C + 1) C = min (min (min b n) C + 1) C := by omega
theorem mC6 (C b n : Nat) (h : ¬ min (min b C + 1) C ≤ min n C + 1) : min n C + 1 = min (min (min b n) C + 1) C := by omega
theorem mC7 (C a n : Nat) (h : min n C + 1 ≤ min a C + 1) : min a C + 1 = min (max a n) C + 1 := by omega
theorem mC8 (C a n : Nat) (h : ¬ min n C + 1 ≤ min a C + 1) : min n C + 1 = min (max a n) C + 1 := by omega
theorem cC1 (b : Nat) : cC (cC b + 1) = cC (b + 1) := mC1 100000 b
theorem cC2 {a : Nat} (h : cC a + 1 ≤ 100000) : cC a + 1 = cC (a + 1) := mC2 100000 a h
theorem cC3 {a : Nat} (h : ¬ cC a + 1 ≤ 100000) : 100000 = cC (a + 1) := mC3 100000 a h
theorem cC4 (a : Nat) : cC a ≤ 100000 := Nat.min_le_right _ _
theorem cC5 {b n : Nat} (h : cC (cC b + 1) ≤ cC n + 1) : cC (cC b + 1) = cC (cC (min b n) + 1) := mC5 100000 b n h
theorem cC6 {b n : Nat} (h : ¬ cC (cC b + 1) ≤ cC n + 1) : cC n + 1 = cC (cC (min b n) + 1) := mC6 100000 b n h
theorem cC7 {a n : Nat} (h : cC n + 1 ≤ cC a + 1) : cC a + 1 = cC (max a n) + 1 := mC7 100000 a n h
theorem cC8 {a n : Nat} (h : ¬ cC n + 1 ≤ cC a + 1) : cC n + 1 = cC (max a n) + 1 := mC8 100000 a n h
def ER (h : Hp) (m part : Nat) (T : Tb) (ce wt : Nat) : Prop := h.I (m + 13) (384 * part + 6 * ce + wt) = nI (cC (T wt ce).1) ∧ h.I (m + 14) (384 * part + 6 * ce + wt) = nI (cC (T wt ce).2)
def MT (h : Hp) (m part : Nat) (g : Sg) (T : Tb) : Prop := ∀ ce, ce < g.n → ∀ wt, wt < 6 → ER h m part T ce wt
def RM (h : Hp) (m : Nat) (g : Sg) (c : Cg) : Prop := Mo h m g ∧ ModR h m ∧ ModC h m c
def PS (m : Nat) : Nat → Prop := fun b => b = m + 13 ∨ b = m + 14
theorem RM.ed {h h1 : Hp} {m : Nat} {g : Sg} {c : Cg} (e : Ed (PS m) h h1) (q : RM h m g c) : RM h1 m g c := by
  have s : ∀ b, b < m + 13 → same h h1 b := fun b hb => e.same (by unfold PS; omega)
  obtain ⟨q1, q2, q3⟩ := q
  refine ⟨q1.fr (fun b p1 p2 => s b (by omega)), e.modR q2, ?_⟩
  unfold ModC
  rw [(s m (by omega)).2.2.1, (s (m + 4) (by omega)).2.2.1, (s (m + 5) (by omega)).2.2.1, (s (m + 6) (by omega)).2.2.1, (s (m + 7) (by omega)).2.2.1]
  exact q3
def LZ (g : Sg) (B : Tb) : Prop := ∀ wt ce, 0 < g.ld ce → B wt ce = (0, 0)
section SING1
variable {fu m : Nat} {g : Sg} {c : Cg}
theorem m_at {h : Hp} (hK : h.K m = 7) (p ce wt : Nat) : f_X7_at fu m (nI p) (nI ce) (nI wt) h = some (nI (384 * p + 6 * ce + wt), h) := by
  unfold f_X7_at
  rw [if_pos hK, show (384 : Int32) * nI p = nI (384 * p) from pk_mul 384 p, show (6 : Int32) * nI ce = nI (6 * ce) from pk_mul 6 ce, nI_add, nI_add]
theorem w1 {h : Hp} {i k : Nat} {v : Int32} : (putI h (m + 13) i v).I (m + 14) k = h.I (m + 14) k := by rw [putI_I, if_neg (by omega)]
theorem w2 {h : Hp} {i k : Nat} {v : Int32} : (putI h (m + 14) i v).I (m + 13) k = h.I (m + 13) k := by rw [putI_I, if_neg (by omega)]
theorem w3 {h : Hp} {a i k : Nat} {v : Int32} : (putI h a i v).I a k = if k = i then v else h.I a k := by rw [putI_I, if_pos rfl]
/-- the drifts of one cell -/
theorem m_st119 {l dn ce wt to : Nat} {N : Tb} {K : Nat} (hg : g.ok) (ok : c.ok) (hl : l < c.n) (hce : ce < g.n) (hld : ¬ 0 < g.ld ce) (hwt : wt < 6) (hdn : dn ≤ 19) (hto : to < 384 * (dn + 2)) (gN : Gp g K N) (hK : K ≤ 1000) : ∀ (k d n a b : Nat) (s : Bool) (h : Hp), d + k = 9 → k < n → RM h m g c → MT h m (dn + 2) g N → a ≤ 1001000 → b ≤ 1001000 → h.I (m + 13) to = nI (if s then cC a + 1 else 0) → (s = false → a = 0) → h.I (m + 14) to = nI (cC (cC b + 1)) → (s = true ∨ ∃ e, d ≤ e ∧ e < 9 ∧ bt (g.dr wt) e = true) → ∃ h1, f_X7_step_119 fu n m (nI l) (nI dn) (nI ce) (nI wt) (nI to) (nI d) h = some ((), h1) ∧ Ed (PS m) h h1 ∧ h1.I (m + 13) to = nI (cC (fmx g wt (c.wy l) ce (fun q => (N ((wt + 1) % 6) q).1) k d a + 1)) ∧ h1.I (m + 14) to = nI (cC (fmn g wt (c.wy l) ce (fun q => (N ((wt + 1) % 6) q).2) k d b + 1)) ∧ ∀ i, i ≠ to → h1.I (m + 13) i = h.I (m + 13) i ∧ h1.I (m + 14) i = h.I (m + 14) i
  | 0, d, n, a, b, s, h, hd, hn, rm, mt, ha, hb, i1, hs, i2, hex => by
    obtain ⟨n, rfl⟩ := Nat.exists_eq_succ_of_ne_zero (show n ≠ 0 by omega)
    have s1 : s = true := by
      rcases hex with z | ⟨e, e1, e2, -⟩
      · exact z
      · omega
    rw [s1, if_pos rfl] at i1
    obtain ⟨-, -, -, -, -, -, -, -, -, a29, a30, -⟩ := rm.2.1
    have hK7 := rm.1.K
    have fin2 : nI (cC (cC b + 1)) = nI (cC (b + 1)) := by rw [cC1]
    rw [f_X7_step_119, if_pos (l_ge (b := 9) (by omega) (by omega)), gR_e hK7, a29.1, Option.bind_some, aI_e a29.2.1 a29.2.2 (show to < 16384 by omega) (by omega), Option.bind_some, i1, fmx, fmn]
    by_cases z : cC a + 1 ≤ 100000
    · refine ⟨h, by rw [if_pos (l_le (b := 100000) z (by decide))], Ed.rf, ?_, by rw [i2, fin2], fun _ _ => ⟨rfl, rfl⟩⟩
      rw [i1, cC2 z]
    · refine ⟨putI h (m + 13) to 100000, ?_, Ed.pI (Or.inl rfl), ?_, by rw [w1, i2, fin2], fun i hi => ⟨by rw [w3, if_neg hi], w1⟩⟩
      · rw [if_neg (l_nle (b := 100000) (by omega) (by have := cC4 a; omega)), Option.bind_some, sI_e a29.2.1 a29.2.2 (show to < 16384 by omega) (by omega), Option.bind_some]
      · rw [w3, if_pos rfl, ← cC3 z]; rfl
  | k + 1, d, n, a, b, s, h, hd, hn, rm, mt, ha, hb, i1, hs, i2, hex => by
    obtain ⟨n, rfl⟩ := Nat.exists_eq_succ_of_ne_zero (show n ≠ 0 by omega)
    have ih := m_st119 (l := l) (N := N) hg ok hl hce hld hwt hdn hto gN hK k (d + 1) n
    obtain ⟨a12, -, -, -, -, -, -, -, -, a29, a30, -⟩ := rm.2.1
    have hK7 := rm.1.K
    have h64 := hg.n64
    have h12 := ok.1
    have o1 := (ok.2 l hl).1
    have a10 := rm.1.1.2.2.2
    have hm : (wt + 1) % 6 < 6 := Nat.mod_lt _ (by omega)
    have hto2 : to < 16384 := by omega
    rw [f_X7_step_119, if_neg (l_nge (b := 9) (by omega) (by decide)), gR_e hK7, a10.1, Option.bind_some, aI_e a10.2.1 a10.2.2 hwt (by omega), Option.bind_some, rm.1.2.1.2.2.2.2.2.2 wt hwt, ibit _ (show d < 32 by omega), fmx, fmn]
    cases z : bt (g.dr wt) d
    · rw [if_pos (show (if false = true then 1 else 0 : Int32) = 0 from rfl), if_neg (show ¬ false = true by decide), if_neg (show ¬ false = true by decide)]
      show ∃ h1, f_X7_step_119 fu n m (nI l) (nI dn) (nI ce) (nI wt) (nI to) (nI d + 1) h = _ ∧ _
      rw [nI_1]
      refine ih a b s h (by omega) (by omega) rm mt ha hb i1 hs i2 ?_
      rcases hex with y | ⟨e, e1, e2, e3⟩
      · exact Or.inl y
      · refine Or.inr ⟨e, ?_, e2, e3⟩
        by_cases y : e = d
        · rw [y, z] at e3; cases e3
        · omega
    · have ht := gof_lt hg ce (c.wy l) d
      have hgo : goN g ce (c.wy l) d = gof g ce (c.wy l) d := by unfold goN; rw [if_neg hld]
      obtain ⟨t1, t2⟩ := mt _ ht _ hm
      obtain ⟨g1, g2⟩ := gN _ hm _ ht
      unfold gp at g1 g2
      obtain ⟨nx, hnx⟩ : ∃ nx, nx = 384 * (dn + 2) + 6 * gof g ce (c.wy l) d + (wt + 1) % 6 := ⟨_, rfl⟩
      have nx2 : nx < 16384 := by omega
      have nne : nx ≠ to := by omega
      rw [← hnx] at t1 t2
      rw [if_neg (show ¬ (if true = true then 1 else 0 : Int32) = 0 from one_ne), if_pos rfl, if_pos rfl, gR_e hK7, a12.1, Option.bind_some, aI_e a12.2.1 a12.2.2 (show l < 12 by omega) (by omega), Option.bind_some, (rm.2.2.2 l hl).1, m_goes rm.1 hce o1 (by omega), Option.bind_some]
      dsimp only
      rw [hgo, l_add dn 2, nI_1, l_rem (b := 6) (by omega) (by decide) (by decide), m_at hK7, Option.bind_some, ← hnx]
      dsimp only
      rw [gR_e hK7, a29.1, Option.bind_some, aI_e a29.2.1 a29.2.2 nx2 (by omega), Option.bind_some, t1, Option.bind_some, aI_e a29.2.1 a29.2.2 hto2 (by omega), Option.bind_some, i1, nI_1]
      -- behind the most: the least
      have rest : ∀ h2, Ed (PS m) h h2 → h2.I (m + 13) to = nI (cC (max a (N ((wt + 1) % 6) (gof g ce (c.wy l) d)).1) + 1) → (∀ i, i ≠ to → h2.I (m + 13) i = h.I (m + 13) i) → (∀ i, h2.I (m + 14) i = h.I (m + 14) i) → ∃ h1, f_X7_step_208 fu (fun y0 y1 y2 y3 y4 y5 y6 hy => f_X7_step_119 fu n y0 y1 y2 y3 y4 y5 y6 hy) m (nI l) (nI dn) (nI ce) (nI wt) (nI to) (nI d) (nI nx) h2 = some ((), h1) ∧ Ed (PS m) h h1 ∧ h1.I (m + 13) to = nI (cC (fmx g wt (c.wy l) ce (fun q => (N ((wt + 1) % 6) q).1) k (d + 1) (max a (N ((wt + 1) % 6) (gof g ce (c.wy l) d)).1) + 1)) ∧ h1.I (m + 14) to = nI (cC (fmn g wt (c.wy l) ce (fun q => (N ((wt + 1) % 6) q).2) k (d + 1) (min b (N ((wt + 1) % 6) (gof g ce (c.wy l) d)).2) + 1)) ∧ ∀ i, i ≠ to → h1.I (m + 13) i = h.I (m + 13) i ∧ h1.I (m + 14) i = h.I (m + 14) i := by
        intro h2 e2 j1 j2 j3
        have rm2 := rm.ed e2
        have hK2 := rm2.1.K
        have b30 := e2.arr a30
        have mt2 : MT h2 m (dn + 2) g N := fun q hq w hw => by
          unfold ER
          rw [j2 _ (by omega), j3]
          exact mt q hq w hw
        have go : ∀ h3, Ed (PS m) h2 h3 → (∀ i, h3.I (m + 13) i = h2.I (m + 13) i) → h3.I (m + 14) to = nI (cC (cC (min b (N ((wt + 1) % 6) (gof g ce (c.wy l) d)).2) + 1)) → (∀ i, i ≠ to → h3.I (m + 14) i = h2.I (m + 14) i) → ∃ h1, f_X7_step_119 fu n m (nI l) (nI dn) (nI ce) (nI wt) (nI to) (nI d + 1) h3 = some ((), h1) ∧ Ed (PS m) h h1 ∧ h1.I (m + 13) to = nI (cC (fmx g wt (c.wy l) ce (fun q => (N ((wt + 1) % 6) q).1) k (d + 1) (max a (N ((wt + 1) % 6) (gof g ce (c.wy l) d)).1) + 1)) ∧ h1.I (m + 14) to = nI (cC (fmn g wt (c.wy l) ce (fun q => (N ((wt + 1) % 6) q).2) k (d + 1) (min b (N ((wt + 1) % 6) (gof g ce (c.wy l) d)).2) + 1)) ∧ ∀ i, i ≠ to → h1.I (m + 13) i = h.I (m + 13) i ∧ h1.I (m + 14) i = h.I (m + 14) i := by
          intro h3 e3 k1 k2 k3
          have mt3 : MT h3 m (dn + 2) g N := fun q hq w hw => by
            unfold ER
            rw [k1, k3 _ (by omega)]
            exact mt2 q hq w hw
          obtain ⟨h1, x1, x2, x3, x4, x5⟩ := ih (max a (N ((wt + 1) % 6) (gof g ce (c.wy l) d)).1) (min b (N ((wt + 1) % 6) (gof g ce (c.wy l) d)).2) true h3 (by omega) (by omega) (rm2.ed e3) mt3 (by omega) (by omega) (by rw [k1, j1, if_pos rfl]) (fun z => by cases z) k2 (Or.inl rfl)
          refine ⟨h1, by rw [nI_1]; exact x1, Ed.tr (Ed.tr e2 e3) x2, x3, x4, fun i hi => ?_⟩
          rw [(x5 i hi).1, (x5 i hi).2, k1, k3 i hi, j2 i hi, j3]
          exact ⟨rfl, rfl⟩
        unfold f_X7_step_208
        rw [gR_e hK2, b30.1, Option.bind_some, aI_e b30.2.1 b30.2.2 nx2 (by omega), Option.bind_some, j3, t2, Option.bind_some, aI_e b30.2.1 b30.2.2 hto2 (by omega), Option.bind_some, j3, i2, nI_1]
        by_cases y : cC (cC b + 1) ≤ cC (N ((wt + 1) % 6) (gof g ce (c.wy l) d)).2 + 1
        · rw [if_pos (nI_le y (by have := cC4 (N ((wt + 1) % 6) (gof g ce (c.wy l) d)).2; omega))]
          refine go h2 Ed.rf (fun _ => rfl) ?_ (fun _ _ => rfl)
          rw [j3, i2, cC5 y]
        · rw [if_neg (nI_ge (by omega) (by have := cC4 (cC b + 1); omega)), Option.bind_some, Option.bind_some, aI_e b30.2.1 b30.2.2 nx2 (by omega), Option.bind_some, j3, t2, nI_1, sI_e b30.2.1 b30.2.2 hto2 (by omega), Option.bind_some]
          refine go _ (Ed.pI (Or.inr rfl)) (fun _ => w2) ?_ (fun i hi => by rw [w3, if_neg hi])
          rw [w3, if_pos rfl, cC6 y]
      by_cases y : cC (N ((wt + 1) % 6) (gof g ce (c.wy l) d)).1 + 1 ≤ (if s then cC a + 1 else 0)
      · have ys : s = true := by
          cases s
          · simp at y
          · rfl
        rw [ys, if_pos rfl] at y i1 ⊢
        rw [if_pos (nI_le y (by have := cC4 a; omega))]
        refine rest h Ed.rf ?_ (fun _ _ => rfl) (fun _ => rfl)
        rw [i1, cC7 y]
      · have yb : (if s = true then cC a + 1 else 0) ≤ 100001 := by have := cC4 a; split <;> omega
        rw [if_neg (nI_ge (by omega) (by have := cC4 (N ((wt + 1) % 6) (gof g ce (c.wy l) d)).1; omega)), Option.bind_some, Option.bind_some, aI_e a29.2.1 a29.2.2 nx2 (by omega), Option.bind_some, t1, nI_1, sI_e a29.2.1 a29.2.2 hto2 (by omega), Option.bind_some]
        refine rest _ (Ed.pI (Or.inl rfl)) ?_ (fun i hi => by rw [w3, if_neg hi]) (fun _ => w1)
        rw [w3, if_pos rfl]
        cases s
        · rw [hs rfl, Nat.zero_max]
        · rw [if_pos rfl] at y; rw [cC8 y]
end SING1
