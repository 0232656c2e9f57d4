section SINGS
variable {h : Hp} {x v fu : Nat} {g : Sg} {c : Cg}
theorem thr_0 {l wt cell : Nat} (e : c.sn l = 0) : thr g c l wt cell = false := by unfold thr; rw [e]; rfl
theorem thr_1 {l wt cell : Nat} (e : c.sn l = 1) : thr g c l wt cell = decide (sgn g cell wt 0 = nI (c.vl l)) := by unfold thr; rw [e]; rfl
theorem thr_2 {l wt cell : Nat} (e : c.sn l = 2) : thr g c l wt cell = decide (sgn g cell wt 1 = nI (c.vl l)) := by unfold thr; rw [e]; rfl
theorem thr_3 {l wt cell : Nat} (e : c.sn l = 3) : thr g c l wt cell = decide (sgn g cell wt 2 = 1) := by unfold thr; rw [e]; rfl
theorem mk_in {p : Nat → Bool} {i : Nat} (hn : g.n ≤ 64) (hi : i < g.n) : tb (mk p g.n 0 0) i = p i := by
  rw [mk_b (by omega) _ _ _ (by omega), tb_0]
  simp [hi]
theorem s_stops {sg a l wt : Nat} (hS : Se h a g) (hf : 64 < fu) (cs : ChantS h sg) (cv : ChantV h sg c) (ok : c.ok) (hl : l < c.n) (hwt : wt < 6) : ∃ st, f_X0_stops fu sg (nI l) a (nI wt) h = some (st, h) ∧ ∀ i, i < g.n → tb st i = thr g c l wt i := by
  have hn := hS.2.2.2.n64
  obtain ⟨k0, a1, a2, a3, a4⟩ := cs
  obtain ⟨v1, v2, v3, v4, v5⟩ := cv.2 l hl
  obtain ⟨o1, o2, o3, o4, o5⟩ := ok.2 l hl
  have l12 : l < 12 := by have := ok.1; omega
  unfold f_X0_stops
  rw [if_pos k0, gR_e k0, a2.1, Option.bind_some, aI_e a2.2.1 a2.2.2 l12 (by omega), Option.bind_some]
  have tail : ∀ (s : Nat) (w : Int32), s < 3 → h.I (sg + 2) l = nI s → h.I (sg + 3) l = w → (if h.I (sg + 2) l = -1 then some ((0 : Int64), h) else (some (sg + 2)).bind fun v16 => (aI h 8 v16 (nI l)).bind fun v20 => (gR h 0 sg 3).bind fun v22 => (aI h 8 v22 (nI l)).bind fun v26 => (f_X4_having fu a v20 v26 (nI wt) h).bind fun r28 => some (r28.1, r28.2)) = some (mk (fun i => decide (sgn g i wt s = w)) g.n 0 0, h) := by
    intro s w hs e1 e2
    rw [e1, if_neg (m1_ne (by omega)), Option.bind_some, aI_e a2.2.1 a2.2.2 l12 (by omega), Option.bind_some, e1, gR_e k0, a3.1, Option.bind_some, aI_e a3.2.1 a3.2.2 l12 (by omega), Option.bind_some, e2, s_having hS hf hwt hs, Option.bind_some]
  have e : c.sn l = 0 ∨ c.sn l = 1 ∨ c.sn l = 2 ∨ c.sn l = 3 := by omega
  rcases e with hs | hs | hs | hs
  · refine ⟨0, ?_, fun i hi => by rw [tb_0, thr_0 hs]⟩
    rw [hs] at v2
    rw [v2, if_pos (by decide)]
  · rw [hs] at v2
    exact ⟨_, tail 0 (nI (c.vl l)) (by decide) (by rw [v2]; decide) (v3 (Or.inl hs)), fun i hi => by rw [mk_in hn hi, thr_1 hs]⟩
  · rw [hs] at v2
    exact ⟨_, tail 1 (nI (c.vl l)) (by decide) (by rw [v2]; decide) (v3 (Or.inr hs)), fun i hi => by rw [mk_in hn hi, thr_2 hs]⟩
  · rw [hs] at v2
    exact ⟨_, tail 2 1 (by decide) (by rw [v2]; decide) (v4 hs), fun i hi => by rw [mk_in hn hi, thr_3 hs]⟩
theorem m_isThere {m l wt cell : Nat} (hM : Mo h m g) (hr : ModR h m) (mc : ModC h m c) (hf : 64 < fu) (ok : c.ok) (hl : l < c.n) (hwt : wt < 6) (hc : cell < g.n) : f_X7_isThere fu m (nI l) (nI cell) (nI wt) h = some (if thr g c l wt cell then 1 else 0, h) := by
  obtain ⟨-, a13, a14, -⟩ := hr
  obtain ⟨v1, v2, v3, v4⟩ := mc.2 l hl
  obtain ⟨o1, o2, o3, o4, o5⟩ := ok.2 l hl
  have l12 : l < 12 := by have := ok.1; omega
  have hK := hM.K
  unfold f_X7_isThere
  rw [if_pos hK, gR_e hK, a13.1, Option.bind_some, aI_e a13.2.1 a13.2.2 l12 (by omega), Option.bind_some, Option.bind_some, aI_e a13.2.1 a13.2.2 l12 (by omega), Option.bind_some, Option.bind_some, aI_e a13.2.1 a13.2.2 l12 (by omega), Option.bind_some]
  have e : c.sn l = 0 ∨ c.sn l = 1 ∨ c.sn l = 2 ∨ c.sn l = 3 := by omega
  rcases e with hs | hs | hs | hs
  · rw [hs] at v2
    rw [thr_0 hs, v2, if_neg (by decide), if_neg (by decide), if_neg (by decide)]
    rfl
  · rw [hs] at v2
    rw [thr_1 hs, v2, if_neg (by decide), if_pos (by decide)]
    show (f_X7_signOf fu m (nI cell) (nI wt) (nI 0) h).bind _ = _
    rw [m_signOf hM hf hc hwt (by decide), Option.bind_some]
    dsimp only
    rw [gR_e hK, a14.1, Option.bind_some, aI_e a14.2.1 a14.2.2 l12 (by omega), Option.bind_some, v3 (Or.inl hs)]
    by_cases z : sgn g cell wt 0 = nI (c.vl l)
    · rw [if_pos z]; simp [z]
    · rw [if_neg z]; simp [z]
  · rw [hs] at v2
    rw [thr_2 hs, v2, if_neg (by decide), if_neg (by decide), if_pos (by decide)]
    show (f_X7_signOf fu m (nI cell) (nI wt) (nI 1) h).bind _ = _
    rw [m_signOf hM hf hc hwt (by decide), Option.bind_some]
    dsimp only
    rw [gR_e hK, a14.1, Option.bind_some, aI_e a14.2.1 a14.2.2 l12 (by omega), Option.bind_some, v3 (Or.inr hs)]
    by_cases z : sgn g cell wt 1 = nI (c.vl l)
    · rw [if_pos z]; simp [z]
    · rw [if_neg z]; simp [z]
  · rw [hs] at v2
    rw [thr_3 hs, v2, if_pos (by decide)]
    show (f_X7_signOf fu m (nI cell) (nI wt) (nI 2) h).bind _ = _
    rw [m_signOf hM hf hc hwt (by decide), Option.bind_some]
    dsimp only
    by_cases z : sgn g cell wt 2 = 1
    · rw [if_pos z]; simp [z]
    · rw [if_neg z]; simp [z]
/-- the first line from l on whose sign isn't there -/
def sgl (g : Sg) (c : Cg) (wt cell : Nat) : Nat → Nat → Nat
  | 0, l => l
  | k + 1, l => if thr g c l wt cell then sgl g c wt cell k (l + 1) else l
def sgr (c : Cg) (l : Nat) : Int32 := if l = c.n then 10 else nI (c.wy l)
theorem c_sings {sg : Nat} {hr cell : Nat} (k1 : h.K x = 6) (k2 : h.R x 0 = some (x + 1)) (kg : h.R x 2 = some sg) (k5 : h.I x 5 = nI hr) (hh : hr < 10000) (k6 : h.I x 6 = nI cell) (hc : cell < g.n) (hS : Se h (x + 1) g) (hf : 64 < fu) (cs : ChantS h sg) (cv : ChantV h sg c) (ok : c.ok) : ∀ (k l n : Nat), l + k = c.n → k < n → f_X6_sings_53 fu n x (nI l) h = some (sgr c (sgl g c (hr % 6) cell k l), h)
  | 0, l, n, hl, hn => by
    obtain ⟨n, rfl⟩ := Nat.exists_eq_succ_of_ne_zero (show n ≠ 0 by omega)
    have h12 := ok.1
    rw [f_X6_sings_53, gR_e k1, kg, Option.bind_some, gI_e cs.1, Option.bind_some, cv.1, if_pos (nI_le (by omega) (by omega)), sgl]
    unfold sgr
    rw [if_pos (by omega)]
  | k + 1, l, n, hl, hn => by
    obtain ⟨n, rfl⟩ := Nat.exists_eq_succ_of_ne_zero (show n ≠ 0 by omega)
    have h12 := ok.1
    have h64 := hS.2.2.2.n64
    obtain ⟨st, p1, p2⟩ := s_stops (fu := fu) hS hf cs cv ok (show l < c.n by omega) (show hr % 6 < 6 from Nat.mod_lt _ (by omega))
    rw [f_X6_sings_53, gR_e k1, kg, Option.bind_some, gI_e cs.1, Option.bind_some, cv.1, if_neg (nI_ge (by omega) (by omega)), Option.bind_some, gR_e k1, k2, Option.bind_some, watchN k1 k5 hh, Option.bind_some]
    dsimp only
    rw [p1, Option.bind_some]
    dsimp only
    rw [gI_e k1, Option.bind_some, k6, s_has (by omega), Option.bind_some, p2 cell hc, sgl]
    cases z : thr g c l (hr % 6) cell
    · rw [if_pos (show ((if false = true then 1 else 0 : Int32), h).1 = 0 from rfl), if_neg (show ¬ false = true by decide)]
      dsimp only
      rw [gR_e k1, kg, Option.bind_some, gR_e cs.1, cs.2.1.1, Option.bind_some, aI_e cs.2.1.2.1 cs.2.1.2.2 (show l < 12 by omega) (by omega), Option.bind_some, (cv.2 l (by omega)).1]
      show _ = some (sgr c l, h)
      unfold sgr
      rw [if_neg (by omega)]
    · rw [if_neg (show ¬ ((if true = true then 1 else 0 : Int32), h).1 = 0 from one_ne), if_pos rfl, nI_1]
      exact c_sings k1 k2 kg k5 hh k6 hc hS hf cs cv ok k (l + 1) n (by omega) (by omega)
theorem m_sings77 {m l : Nat} (hM : Mo h m g) (hR : ModR h m) (mc : ModC h m c) (ok : c.ok) (hl : l ≤ c.n) : f_X7_sings_77 fu m (nI l) h = some (sgr c l, h) := by
  have h12 := ok.1
  unfold f_X7_sings_77 sgr
  rw [gI_e hM.K, Option.bind_some, mc.1]
  by_cases e : l = c.n
  · rw [if_pos (by rw [e]), if_pos e]
  · rw [if_neg (fun z => e ((nI_eq (by omega) (by omega)).mp z)), if_neg e, gR_e hM.K, hR.1.1, Option.bind_some, aI_e hR.1.2.1 hR.1.2.2 (show l < 12 by omega) (by omega), Option.bind_some, (mc.2 l (by omega)).1]
theorem m_sings {m hr cell : Nat} (hM : Mo h m g) (hR : ModR h m) (mc : ModC h m c) (k3 : h.I m 3 = nI hr) (hh : hr < 10000) (k5 : h.I m 5 = nI cell) (hc : cell < g.n) (hf : 64 < fu) (ok : c.ok) : ∀ (k l n : Nat), l + k = c.n → k < n → f_X7_sings_43 fu n m (nI l) h = some (sgr c (sgl g c (hr % 6) cell k l), h)
  | 0, l, n, hl, hn => by
    obtain ⟨n, rfl⟩ := Nat.exists_eq_succ_of_ne_zero (show n ≠ 0 by omega)
    have h12 := ok.1
    rw [f_X7_sings_43, gI_e hM.K, Option.bind_some, mc.1, if_pos (nI_le (by omega) (by omega)), sgl]
    exact m_sings77 hM hR mc ok (by omega)
  | k + 1, l, n, hl, hn => by
    obtain ⟨n, rfl⟩ := Nat.exists_eq_succ_of_ne_zero (show n ≠ 0 by omega)
    have h12 := ok.1
    rw [f_X7_sings_43, gI_e hM.K, Option.bind_some, mc.1, if_neg (nI_ge (by omega) (by omega)), gI_e hM.K, Option.bind_some, k5, gI_e hM.K, Option.bind_some, k3, l_rem (b := 6) (by omega) (by decide) (by decide), m_isThere hM hR mc hf ok (by omega) (Nat.mod_lt _ (by omega)) hc, Option.bind_some, sgl]
    cases z : thr g c l (hr % 6) cell
    · rw [if_pos (show ((if false = true then 1 else 0 : Int32), h).1 = 0 from rfl), if_neg (show ¬ false = true by decide)]
      exact m_sings77 hM hR mc ok (by omega)
    · rw [if_neg (show ¬ ((if true = true then 1 else 0 : Int32), h).1 = 0 from one_ne), if_pos rfl, nI_1]
      exact m_sings hM hR mc k3 hh k5 hc hf ok k (l + 1) n (by omega) (by omega)
theorem q_sings (hW : Wd h x v) (hf : 20000 < fu) (a : Int32) : Tok x v (f_X6_sings fu x a) (f_X7_sings fu (x + 20) a) h := by
  obtain ⟨g, S, hr, cn, c, tp, tl, fk, fp, hC, hM, hR⟩ := hW
  obtain ⟨k1, k2, k3, k4, k5, k6, k7, k8, k9⟩ := cw_get hC
  obtain ⟨hg, r2, r3, r4, r5, r6, r7⟩ := id hR
  have h64 := hg.n64
  obtain ⟨sg, g1, cs, cv, ok⟩ : ∃ sg, h.R x 2 = some sg ∧ ChantS h sg ∧ ChantV h sg c ∧ c.ok := by
    obtain ⟨sg, dr, jg, sc, ⟨a1, a2, a3, a4, a5, a6, a7, a8, a9, a10⟩, q2, q3, q4, ⟨q51, q52, q53, q54, q55⟩, q6, q7, q8, q9⟩ := hC
    exact ⟨sg, a4, q52, q54, q55⟩
  have h12 := ok.1
  rcases r5 with rfl | ⟨cell, hc, rfl⟩
  · refine glue0 (r := -1) hC hM hR ?_ ?_
    · unfold f_X6_sings; rw [if_pos k1, gR_e k1, k2, Option.bind_some, gI_e k1, Option.bind_some, k6, s_hasCell_n k7 (Or.inl (by decide)), Option.bind_some, if_pos rfl]
    · intro h1 q
      have z := q.2.2.2.2.1
      simp [f_X7_sings, pI, gI, K_pI, q.1.K, putI_I, z, t0]
  · have cne : ¬ nI cell = -1 := m1_ne (by omega)
    have B : ∀ h1, ModP h1 (x + 20) g S hr (nI cell) c tp tl fk fp → f_X7_sings fu (x + 20) a h1 = if a < 0 then some (-1, t0 h1 (x + 20)) else if a < nI c.n then (if 0 < g.ld cell then some (9, t0 h1 (x + 20)) else f_X7_sings_43 fu fu (x + 20) a (t0 h1 (x + 20))) else some (-1, t0 h1 (x + 20)) := by
      intro h1 q
      have mK : (t0 h1 (x + 20)).K (x + 20) = 7 := q.1.K
      unfold f_X7_sings
      rw [if_pos q.1.K, pI_e q.1.K, Option.bind_some]
      show (gI (t0 h1 (x + 20)) 7 (x + 20) 5).bind _ = _
      rw [gI_e mK, Option.bind_some, q.t0.2.2.2.2.1, if_neg cne]
      by_cases c0 : a < 0
      · rw [if_pos c0, if_pos c0]; rfl
      · rw [if_neg c0, if_neg c0]
        show (gI (t0 h1 (x + 20)) 7 (x + 20) 11).bind _ = _
        rw [gI_e mK, Option.bind_some, q.t0.2.2.2.2.2.1.1]
        by_cases c1 : a < nI c.n
        · rw [if_pos c1, if_pos c1]
          show (gI (t0 h1 (x + 20)) 7 (x + 20) 5).bind _ = _
          rw [gI_e mK, Option.bind_some, q.t0.2.2.2.2.1]
          show (f_X7_isLand fu (x + 20) (nI cell) (t0 h1 (x + 20))).bind _ = _
          rw [m_isLand q.t0.1 (by omega), Option.bind_some]
          by_cases hl : 0 < g.ld cell
          · rw [if_pos hl, if_neg one_ne, if_pos hl]
          · rw [if_neg hl, if_pos rfl, if_neg hl]
        · rw [if_neg c1, if_neg c1]; rfl
    have A : f_X6_sings fu x a h = if a < 0 then some (-1, h) else if a < nI c.n then (if 0 < g.ld cell then some (9, h) else f_X6_sings_53 fu fu x a h) else some (-1, h) := by
      unfold f_X6_sings
      rw [if_pos k1, gR_e k1, k2, Option.bind_some, gI_e k1, Option.bind_some, k6, s_hasCell_y k7 hc, Option.bind_some, if_neg one_ne]
      dsimp only
      by_cases c0 : a < 0
      · rw [if_pos c0, if_pos c0]
      · rw [if_neg c0, if_neg c0, gR_e k1, g1, Option.bind_some, gI_e cs.1, Option.bind_some, cv.1]
        by_cases c1 : a < nI c.n
        · rw [if_pos c1, if_pos c1, gR_e k1, k2, Option.bind_some, gJ_e k7.1.1, Option.bind_some, gI_e k1, Option.bind_some, k6, s_has (by omega), Option.bind_some, k7.2.2.1.2.1 cell (by omega)]
          by_cases hl : 0 < g.ld cell
          · rw [if_pos hl, decide_eq_true hl]; rfl
          · rw [if_neg hl, decide_eq_false hl]; rfl
        · rw [if_neg c1, if_neg c1]
    by_cases c0 : a < 0
    · refine glue0 (r := -1) hC hM hR (by rw [A, if_pos c0]) (fun h1 q => by rw [B h1 q, if_pos c0])
    by_cases c1 : a < nI c.n
    · by_cases hl : 0 < g.ld cell
      · exact glue0 (r := 9) hC hM hR (by rw [A, if_neg c0, if_pos c1, if_pos hl]) (fun h1 q => by rw [B h1 q, if_neg c0, if_pos c1, if_pos hl])
      · obtain ⟨l, hl1, rfl⟩ := nn_of c0
        have hl2 : l < c.n := by
          rw [lt_ti, ti_n hl1, ti_n (by omega)] at c1
          omega
        exact glue0 (r := sgr c (sgl g c (hr % 6) cell (c.n - l) l)) hC hM hR (by rw [A, if_neg c0, if_pos c1, if_neg hl]; exact c_sings k1 k2 g1 k5 r4 k6 hc k7 (by omega) cs cv ok _ l fu (by omega) (by omega)) (fun h1 q => by rw [B h1 q, if_neg c0, if_pos c1, if_neg hl]; exact m_sings q.t0.1 q.t0.2.1 q.t0.2.2.2.2.2.1 q.t0.2.2.2.1 r4 q.t0.2.2.2.2.1 hc (by omega) ok _ l fu (by omega) (by omega))
    · exact glue0 (r := -1) hC hM hR (by rw [A, if_neg c0, if_neg c1]) (fun h1 q => by rw [B h1 q, if_neg c0, if_neg c1])
end SINGS
