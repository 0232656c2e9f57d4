section CALLS5
variable {h : Hp} {x v fu : Nat}
theorem CW.ms {h1 : Hp} {g : Sg} {S : Int64} {hr : Nat} {cn : Int32} {c : Cg} {tp : Nat → Nat} {tl : Nat} {fk fp : Int32} {S' : Int64} {hr' : Nat} {cn' : Int32} (q : CW h x v g S hr cn c tp tl fk fp) (e : Ed (fun b => b = x) h h1) (h4 : h1.J x 4 = S') (h5 : h1.I x 5 = nI hr') (h6 : h1.I x 6 = cn') : CW h1 x v g S' hr' cn' c tp tl fk fp := by
  obtain ⟨k1, k2, k3, k4, k5, k6, k7, k8, k9⟩ := cw_get q
  exact q.up (e.mono (fun b hb => by omega)) (k7.fr (fun b p1 p2 => e.same (by omega))) (by rw [(e.2.2.2.2 (x + 1) (by omega)).1]; exact k8) (Or.inr ⟨rfl, rfl⟩) h4 h5 h6
theorem q_reckoned (hW : Wd h x v) : Tok x v (f_X6_reckoned fu x) (f_X7_reckoned fu (x + 20)) h := by
  obtain ⟨g, S, hr, cn, c, tp, tl, fk, fp, hC, hM, hR⟩ := hW
  obtain ⟨k1, k2, k3, k4, k5, k6, k7, k8, k9⟩ := cw_get hC
  refine glue0 (r := S) hC hM hR ?_ ?_
  · unfold f_X6_reckoned; rw [if_pos k1, gJ_e k1, Option.bind_some, k4]
  · intro h1 q
    unfold f_X7_reckoned
    rw [if_pos q.1.K, pI_e q.1.K, Option.bind_some, gJ_e (h := putI _ _ _ _) q.1.K, Option.bind_some, putI_J, q.2.2.1]; rfl
theorem q_begin (hW : Wd h x v) (a : Int64) : Tok x v (f_X6_begin fu x a) (f_X7_begin fu (x + 20) a) h := by
  obtain ⟨g, S, hr, cn, c, tp, tl, fk, fp, hC, hM, hR⟩ := hW
  obtain ⟨k1, k2, k3, k4, k5, k6, k7, k8, k9⟩ := cw_get hC
  have hn := hR.1.n64
  by_cases c1 : lg_cmp a 0 = 0
  · refine glue0 (r := 0) hC hM hR ?_ ?_
    · unfold f_X6_begin; rw [if_pos k1, if_pos c1]
    · intro h1 q; unfold f_X7_begin; rw [if_pos q.1.K, pI_e q.1.K, Option.bind_some, if_pos c1]; rfl
  by_cases c2 : lg_cmp (a &&& (allm g.n ^^^ (-1))) 0 = 0
  · refine glue (v' := v) (r := 1) (g' := g) (S' := a) (hr' := 0) (cn' := -1) (c' := c) (tp' := tp) (tl' := tl) (fk' := fk) (fp' := fp) hM ?_ ?_ ?_ (by omega)
    · obtain ⟨h2, hh2⟩ : ∃ h2, h2 = putI (putI (putJ h x 4 a) x 5 0) x 6 (-1) := ⟨_, rfl⟩
      have e : Ed (fun b => b = x) h h2 := by rw [hh2]; exact Ed.tr (Ed.tr (Ed.pJ rfl) (Ed.pI rfl)) (Ed.pI rfl)
      refine ⟨h2, ?_, hC.ms e (by rw [hh2, putI_J, putI_J, putJ_J, if_pos rfl, if_pos rfl]) (by rw [hh2, putI_I, if_pos rfl, if_neg (by decide), putI_I, if_pos rfl, if_pos rfl]; rfl) (by rw [hh2, putI_I, if_pos rfl, if_pos rfl]), ed_out e (fun b hb => by omega)⟩
      unfold f_X6_begin; rw [if_pos k1, if_neg c1, gR_e k1, k2, Option.bind_some, gJ_e k7.1.1, Option.bind_some, sea_cells k7, if_pos c2, startW k1, Option.bind_some, hh2]
    · intro h1 q
      obtain ⟨h2, hh2⟩ : ∃ h2, h2 = putI (putI (putJ (putI h1 (x + 20) 0 0) (x + 20) 4 a) (x + 20) 3 0) (x + 20) 5 (-1) := ⟨_, rfl⟩
      have e : Ed (fun b => b = x + 20) h1 h2 := by rw [hh2]; exact Ed.tr (Ed.tr (Ed.tr (Ed.pI rfl) (Ed.pJ rfl)) (Ed.pI rfl)) (Ed.pI rfl)
      have I2 : ∀ j, h2.I (x + 20) j = if j = 5 then -1 else if j = 3 then 0 else if j = 0 then 0 else h1.I (x + 20) j := by
        intro j; rw [hh2]; simp only [putI_I, putJ_I, if_true]
      refine ⟨h2, ?_, q.up e (fun k z0 z3 z5 => by rw [I2, if_neg z5, if_neg z3, if_neg z0]) (by rw [hh2, putI_J, putI_J, putJ_J, if_pos rfl, if_pos rfl]) (by rw [I2]; rfl) (by rw [I2]; rfl), by rw [hh2]; rfl, ed_inn e (fun b hb => by omega)⟩
      unfold f_X7_begin
      rw [if_pos q.1.K, pI_e q.1.K, Option.bind_some, if_neg c1, m_all (h := putI _ _ _ _) q.t0.1, Option.bind_some, if_pos c2]
      simp [pI, pJ, K_pI, K_pJ, q.1.K, hh2]
    · obtain ⟨r1, r2, r3, r4, r5, r6, r7⟩ := hR
      refine ⟨r1, r2, ?_, by omega, Or.inl rfl, r6, r7⟩
      intro i hi
      by_cases h6 : i < 64
      · have z := (cmp0 _ _).mp c2
        have z2 : tb (a &&& (allm g.n ^^^ (-1))) i = false := by rw [z, tb_0]
        rw [tb_and, hi, tb_not h6, allm_b hn h6] at z2
        simpa using z2
      · rw [tb_big (by omega)] at hi; cases hi
  · refine glue0 (r := 0) hC hM hR ?_ ?_
    · unfold f_X6_begin; rw [if_pos k1, if_neg c1, gR_e k1, k2, Option.bind_some, gJ_e k7.1.1, Option.bind_some, sea_cells k7, if_neg c2]
    · intro h1 q; unfold f_X7_begin; rw [if_pos q.1.K, pI_e q.1.K, Option.bind_some, if_neg c1, m_all (h := putI _ _ _ _) q.t0.1, Option.bind_some, if_neg c2]; rfl
theorem q_put (hW : Wd h x v) (a : Int32) : Tok x v (f_X6_put fu x a) (f_X7_put fu (x + 20) a) h := by
  obtain ⟨g, S, hr, cn, c, tp, tl, fk, fp, hC, hM, hR⟩ := hW
  obtain ⟨k1, k2, k3, k4, k5, k6, k7, k8, k9⟩ := cw_get hC
  have hg := hR.1
  have h64 := hg.n64
  rcases cell_or hg a with hx | ⟨cell, hc, rfl⟩
  · refine glue0 (r := 0) hC hM hR ?_ ?_
    · unfold f_X6_put; rw [if_pos k1, gR_e k1, k2, Option.bind_some, s_hasCell_n k7 hx, Option.bind_some, if_pos rfl]
    · intro h1 q
      unfold f_X7_put; rw [if_pos q.1.K, pI_e q.1.K, Option.bind_some, m_isCell_n (h := putI _ _ _ _) q.t0.1 hx, Option.bind_some, if_pos rfl]; rfl
  · by_cases ht : tb S cell = true
    · refine glue (v' := v) (r := 1) (g' := g) (S' := S) (hr' := hr) (cn' := nI cell) (c' := c) (tp' := tp) (tl' := tl) (fk' := fk) (fp' := fp) hM ?_ ?_ ?_ (by omega)
      · have e : Ed (fun b => b = x) h (putI h x 6 (nI cell)) := Ed.pI rfl
        refine ⟨_, ?_, hC.ms e k4 (by rw [putI_I, if_pos rfl, if_neg (by decide)]; exact k5) (by rw [putI_I, if_pos rfl, if_pos rfl]), ed_out e (fun b hb => by omega)⟩
        unfold f_X6_put; rw [if_pos k1, gR_e k1, k2, Option.bind_some, s_hasCell_y k7 hc, Option.bind_some, if_neg one_ne]
        dsimp only
        rw [gJ_e k1, Option.bind_some, k4, s_has (by omega), Option.bind_some, ht, if_neg (show ¬ ((if true = true then 1 else 0 : Int32), h).1 = 0 from one_ne)]
        dsimp only
        rw [pI_e k1, Option.bind_some]
      · intro h1 q
        have e : Ed (fun b => b = x + 20) h1 (putI (t0 h1 (x + 20)) (x + 20) 5 (nI cell)) := Ed.tr (t0_E h1 (x + 20)) (Ed.pI rfl)
        have oi : ∀ k, k ≠ 5 → k ≠ 0 → (putI (t0 h1 (x + 20)) (x + 20) 5 (nI cell)).I (x + 20) k = h1.I (x + 20) k := fun k z5 z0 => by rw [putI_I, if_pos rfl, if_neg z5, t0_I _ _ z0]
        refine ⟨_, ?_, q.up e (fun k z0 z3 z5 => oi k z5 z0) q.2.2.1 (by rw [oi 3 (by decide) (by decide)]; exact q.2.2.2.1) (by rw [putI_I, if_pos rfl, if_pos rfl]), rfl, ed_inn e (fun b hb => by omega)⟩
        unfold f_X7_put; rw [if_pos q.1.K, pI_e q.1.K, Option.bind_some, m_isCell_y (h := putI _ _ _ _) q.t0.1 hc, Option.bind_some, if_neg one_ne]
        dsimp only
        rw [gJ_e (h := putI _ _ _ _) q.1.K, Option.bind_some, putI_J, q.2.2.1, m_has (h := putI _ _ _ _) q.1.K (by omega), Option.bind_some, ht, if_neg (show ¬ ((if true = true then 1 else 0 : Int32), _).1 = 0 from one_ne)]
        dsimp only
        rw [pI_e (h := putI _ _ _ _) q.1.K, Option.bind_some]
        rfl
      · obtain ⟨r1, r2, r3, r4, r5, r6, r7⟩ := hR
        exact ⟨r1, r2, r3, r4, Or.inr ⟨cell, hc, rfl⟩, r6, r7⟩
    · have ht' : tb S cell = false := by cases z : tb S cell <;> simp_all
      refine glue0 (r := 0) hC hM hR ?_ ?_
      · unfold f_X6_put; rw [if_pos k1, gR_e k1, k2, Option.bind_some, s_hasCell_y k7 hc, Option.bind_some, if_neg one_ne]
        dsimp only
        rw [gJ_e k1, Option.bind_some, k4, s_has (by omega), Option.bind_some, ht']
        rfl
      · intro h1 q
        unfold f_X7_put; rw [if_pos q.1.K, pI_e q.1.K, Option.bind_some, m_isCell_y (h := putI _ _ _ _) q.t0.1 hc, Option.bind_some, if_neg one_ne]
        dsimp only
        rw [gJ_e (h := putI _ _ _ _) q.1.K, Option.bind_some, putI_J, q.2.2.1, m_has (h := putI _ _ _ _) q.1.K (by omega), Option.bind_some, ht']
        rfl
theorem q_fault (hW : Wd h x v) (a : Int32) : Tok x v (f_X6_fault fu x a) (f_X7_fault fu (x + 20) a) h := by
  obtain ⟨g, S, hr, cn, c, tp, tl, fk, fp, hC, hM, hR⟩ := hW
  obtain ⟨k1, k2, k3, k4, k5, k6, k7, k8, k9⟩ := cw_get hC
  obtain ⟨r1, r2, r3, r4, r5, r6, r7⟩ := k9
  by_cases c0 : a = 0
  · refine glue0 (r := fk) hC hM hR ?_ ?_
    · simp [f_X6_fault, gR, gI, k1, k3, r1, r4, c0]
    · intro h1 q
      have := q.2.2.2.2.2.2.2.1
      simp [f_X7_fault, pI, gI, K_pI, q.1.K, c0, putI_I, this, t0]
  by_cases c1 : a = 1
  · refine glue0 (r := fp) hC hM hR ?_ ?_
    · simp [f_X6_fault, gR, gI, k1, k3, r1, r5, c1]
    · intro h1 q
      have := q.2.2.2.2.2.2.2.2.1
      simp [f_X7_fault, pI, gI, K_pI, q.1.K, c1, putI_I, this, t0]
  · refine glue0 (r := -1) hC hM hR ?_ ?_
    · simp [f_X6_fault, k1, c0, c1]
    · intro h1 q
      simp [f_X7_fault, pI, K_pI, q.1.K, c0, c1, t0]
/-- the class's reader changes -/
theorem CW.rd {h1 : Hp} {g : Sg} {S : Int64} {hr : Nat} {cn : Int32} {c : Cg} {tp : Nat → Nat} {tl : Nat} {fk fp : Int32} {tp' : Nat → Nat} {tl' : Nat} {fk' fp' : Int32} (q : CW h x v g S hr cn c tp tl fk fp) (e : Ed (fun b => b = x + 8 ∨ b = x + 9) h h1) (hr1 : ReaderP h1 x tp' tl' fk' fp') : CW h1 x v g S hr cn c tp' tl' fk' fp' := by
  obtain ⟨sg, dr, jg, sc, q1, q2, q3, q4, q5, q6, q7, q8, q9⟩ := q
  have o : ∀ b, x + 10 ≤ b ∨ b ≤ x + 7 → same h h1 b := fun b hb => e.same (by omega)
  exact ⟨sg, dr, jg, sc, q1.fr (o _ (by omega)), q2.fr (fun b p1 p2 => o b (by omega)), by rw [(o (x + 1) (by omega)).2.2.1]; exact q3, hr1, q5.fr (fun b p1 p2 => o b (by omega)), q6.fr (by rw [e.1]; omega) (fun j hj b p1 p2 => o b (by have := (q6 j hj).1; omega)), q7.fr (by rw [e.1]; omega) (fun s hs b p1 p2 => o b (by have := (q7 s hs).1; omega)), q8, by rw [e.1]; exact q9⟩
/-- the reference's tape changes -/
theorem ModP.tape {h1 : Hp} {m : Nat} {g : Sg} {S : Int64} {hr : Nat} {cn : Int32} {c : Cg} {tp : Nat → Nat} {tl : Nat} {fk fp : Int32} {tp' : Nat → Nat} {tl' : Nat} {fk' fp' : Int32} (q : ModP h m g S hr cn c tp tl fk fp) (e : Ed (fun b => b = m ∨ b = m + 12) h h1) (hI : ∀ k, k ≠ 0 → k < 22 → h1.I m k = h.I m k) (hJ : h1.J m 4 = h.J m 4) (ht : ModT h1 m tp' tl' fk' fp') : ModP h1 m g S hr cn c tp' tl' fk' fp' := by
  obtain ⟨⟨⟨s1, s2, s3, s4⟩, ⟨v1, v2, v3, v4, v5, v6, v7⟩, ok⟩, q2, q3, q4, q5, ⟨c1, c2⟩, -⟩ := q
  have o : ∀ k, 0 < k → k < 12 → h1.I (m + k) = h.I (m + k) := fun k hk hk2 => (e.2.2.2.2 (m + k) (by omega)).1
  refine ⟨⟨⟨by rw [e.2.1]; exact s1, e.arr s2, e.arr s3, e.arr s4⟩, ⟨?_, ?_, ?_, ?_, ?_, ?_, ?_⟩, ok⟩, e.modR q2, by rw [hJ]; exact q3, by rw [hI 3 (by decide) (by decide)]; exact q4, by rw [hI 5 (by decide) (by decide)]; exact q5, ⟨?_, ?_⟩, ht⟩
  · rw [hI 1 (by decide) (by decide)]; exact v1
  · rw [hI 2 (by decide) (by decide)]; exact v2
  · rw [hI 6 (by decide) (by decide)]; exact v3
  · rw [hI 7 (by decide) (by decide)]; exact v4
  · rw [o 1 (by decide) (by decide)]; exact v5
  · rw [o 2 (by decide) (by decide)]; exact v6
  · rw [o 3 (by decide) (by decide)]; exact v7
  · rw [hI 11 (by decide) (by decide)]; exact c1
  · rw [o 4 (by decide) (by decide), o 5 (by decide) (by decide), o 6 (by decide) (by decide), o 7 (by decide) (by decide)]; exact c2
theorem q_end (hW : Wd h x v) (a : Int32) : Tok x v (f_X6_end fu x a) (f_X7_end fu (x + 20) a) h := by
  obtain ⟨g, S, hr, cn, c, tp, tl, fk, fp, hC, hM, hR⟩ := hW
  obtain ⟨k1, k2, k3, k4, k5, k6, k7, k8, k9⟩ := cw_get hC
  obtain ⟨r1, r2, r3, r4, r5, r6, r7⟩ := id k9
  by_cases c0 : a < 0
  · refine glue0 (r := -1) hC hM hR ?_ ?_
    · simp [f_X6_end, k1, c0]
    · intro h1 q
      simp [f_X7_end, pI, q.1.K, c0, t0]
  by_cases c1 : a ≤ nI tl
  · obtain ⟨n, hn, rfl⟩ : ∃ n, n ≤ tl ∧ a = nI n := by
      have c1' := c1
      rw [lt_ti, ti_0] at c0
      rw [le_ti, ti_n (by omega)] at c1'
      exact ⟨a.toInt.toNat, by omega, ti_eq (by omega) (by omega)⟩
    refine glue (v' := v) (r := nI n) (g' := g) (S' := S) (hr' := hr) (cn' := cn) (c' := c) (tp' := tp) (tl' := n) (fk' := fk) (fp' := fp) hM ?_ ?_ ?_ (by omega)
    · have e : Ed (fun b => b = x + 8 ∨ b = x + 9) h (putI h (x + 8) 0 (nI n)) := Ed.pI (Or.inl rfl)
      refine ⟨_, ?_, hC.rd e ⟨r1, e.arr r2, by rw [putI_I, if_pos rfl, if_pos rfl], by rw [putI_I, if_pos rfl, if_neg (by decide)]; exact r4, by rw [putI_I, if_pos rfl, if_neg (by decide)]; exact r5, fun j hj => by rw [putI_I, if_neg (by omega)]; exact r6 j (by omega), by omega⟩, ed_out e (fun b hb => by omega)⟩
      simp [f_X6_end, gR, gI, pI, k1, k3, r1, r3, c0, c1]
    · intro h1 q
      have e : Ed (fun b => b = x + 20 ∨ b = x + 20 + 12) h1 (putI (t0 h1 (x + 20)) (x + 20) 22 (nI n)) := Ed.tr ((t0_E h1 (x + 20)).mono (fun b hb => Or.inl hb)) (Ed.pI (Or.inl rfl))
      have oi : ∀ k, k ≠ 22 → k ≠ 0 → (putI (t0 h1 (x + 20)) (x + 20) 22 (nI n)).I (x + 20) k = h1.I (x + 20) k := fun k z5 z0 => by rw [putI_I, if_pos rfl, if_neg z5, t0_I _ _ z0]
      obtain ⟨d1, d2, d3, d4⟩ := q.2.2.2.2.2.2
      refine ⟨_, ?_, q.tape e (fun k z0 z => oi k (by omega) z0) rfl ⟨by rw [putI_I, if_pos rfl, if_pos rfl], by rw [oi 27 (by decide) (by decide)]; exact d2, by rw [oi 28 (by decide) (by decide)]; exact d3, fun j hj => by rw [putI_I, if_neg (by omega)]; unfold t0; rw [putI_I, if_neg (by omega)]; exact d4 j (by omega)⟩, rfl, ed_inn e (fun b hb => by omega)⟩
      simp [f_X7_end, pI, gI, K_pI, q.1.K, putI_I, d1, c0, c1, t0]
    · obtain ⟨w1, w2, w3, w4, w5, w6, w7⟩ := hR
      exact ⟨w1, w2, w3, w4, w5, fun j hj => w6 j (by omega), by omega⟩
  · refine glue0 (r := -1) hC hM hR ?_ ?_
    · simp [f_X6_end, gR, gI, k1, k3, r1, r3, c0, c1]
    · intro h1 q
      have d1 := q.2.2.2.2.2.2.1
      simp [f_X7_end, pI, gI, K_pI, q.1.K, putI_I, d1, c0, c1, t0]
end CALLS5
