theorem fS_cut' {T : Nat → Nat} {S : Int64} {n a : Nat} (hs : subs S n) (hn : n ≤ 64) : fSm T S 64 0 a = fSm T S n 0 a := fS_cut hs 64 0 a 64 (by omega) hn (by omega)
theorem fU_cut' {T : Nat → Nat} {S : Int64} {n a : Nat} (hs : subs S n) (hn : n ≤ 64) : fUm T S 64 0 a = fUm T S n 0 a := fU_cut hs 64 0 a 64 (by omega) hn (by omega)
section SURE2
variable {h : Hp} {x v fu : Nat}
/-- the reference's rows of the singing change nothing that is kept -/
theorem ModP.sg {h1 : Hp} {m : Nat} {g : Sg} {S : Int64} {hr : Nat} {cn : Int32} {c : Cg} {tp : Nat → Nat} {tl : Nat} {fk fp : Int32} (q : ModP h m g S hr cn c tp tl fk fp) (e : Ed (PS m) h h1) (rm : RM h1 m g c) : ModP h1 m g S hr cn c tp tl fk fp := by
  have s : ∀ b, b < m + 13 → same h h1 b := fun b hb => e.same (by unfold PS; omega)
  obtain ⟨q1, q2, q3, q4, q5, q6, q7⟩ := q
  refine ⟨rm.1, rm.2.1, by rw [(s m (by omega)).2.2.2.1]; exact q3, by rw [(s m (by omega)).2.2.1]; exact q4, by rw [(s m (by omega)).2.2.1]; exact q5, rm.2.2, ?_⟩
  unfold ModT
  rw [(s m (by omega)).2.2.1, (s (m + 12) (by omega)).2.2.1]
  exact q7
theorem outS_of {j p : Nat} (js : JudgeS h j) (hp : slt j p) : OutS h p := by
  obtain ⟨q1, o1, o2, o3, -⟩ := js
  rcases hp with rfl | rfl | rfl
  · exact o1
  · exact o2
  · exact o3
theorem fn_gp {g : Sg} {c : Cg} (hg : g.ok) (ok : c.ok) : Gp g 240 (fnT g c) := (chT_gp hg ok c.n (Nat.le_refl _)).up (by have := ok.1; omega)
theorem cw_ok {g : Sg} {S : Int64} {hr : Nat} {cn : Int32} {c : Cg} {tp : Nat → Nat} {tl : Nat} {fk fp : Int32} (q : CW h x v g S hr cn c tp tl fk fp) : c.ok := by
  obtain ⟨sg, dr, jg, sc, -, -, -, -, ⟨-, -, -, -, ok⟩, -⟩ := q
  exact ok
theorem q_sure (hW : Wd h x v) (hf : 20000 < fu) (hv : v < 100000) (a : Int32) : Tok x v (f_X6_sure fu x a) (f_X7_sure fu (x + 20) a) h := by
  obtain ⟨g, S, hr, cn, c, tp, tl, fk, fp, hC, hM, hR⟩ := hW
  obtain ⟨k1, k2, k3, k4, k5, k6, k7, k8, k9⟩ := cw_get hC
  obtain ⟨hg, r2, r3, r4, r5, r6, r7⟩ := id hR
  have h64 := hg.n64
  have ok := cw_ok hC
  have hw6 : hr % 6 < 6 := Nat.mod_lt _ (by omega)
  by_cases c0 : a < 0
  · refine glue0 (r := -2) hC hM hR ?_ ?_
    · unfold f_X6_sure; rw [if_pos k1, if_pos c0]
    · intro h1 q; unfold f_X7_sure; rw [if_pos q.1.K, pI_e q.1.K, Option.bind_some, if_pos c0]; rfl
  by_cases c2 : a ≤ 2
  · have G := fn_gp hg ok
    have gL : gp 240 (fLm (fun i => (fnT g c (hr % 6) i).1) S g.n 0 0) := fLm_gp (fun i hi => (G (hr % 6) hw6 i hi).1) g.n 0 0 (by omega) (Or.inl (by omega))
    have gS : gp 240 (fSm (fun i => (fnT g c (hr % 6) i).2) S g.n 0 1000000) := fSm_gp (fun i hi => (G (hr % 6) hw6 i hi).2) g.n 0 1000000 (by omega) (Or.inr ⟨Nat.le_refl _, by omega⟩)
    refine glue (v' := v) (r := if a = 0 then ansC (fLm (fun i => (fnT g c (hr % 6) i).1) S g.n 0 0) else if a = 1 then ansC (fSm (fun i => (fnT g c (hr % 6) i).2) S g.n 0 1000000) else nI (fUm (fun i => (fnT g c (hr % 6) i).1) S g.n 0 0)) (g' := g) (S' := S) (hr' := hr) (cn' := cn) (c' := c) (tp' := tp) (tl' := tl) (fk' := fk) (fp' := fp) hM ?_ ?_ hR (by omega)
    · obtain ⟨h1, j, a1, a2, a3, ⟨p, p1, p2, p3⟩, a5⟩ := c_judge (fu := fu) hf hv hC
      obtain ⟨l1, l2, l3, l4, l5, l6, l7, l8, l9⟩ := cw_get a2
      have os := outS_of a3 p2
      refine ⟨h1, ?_, a2, a5⟩
      have wn := watchN (fu := fu) l1 l5 r4
      unfold f_X6_sure
      rw [if_pos k1, if_neg c0, if_pos c2, a1, Option.bind_some]
      dsimp only
      by_cases e0 : a = 0
      · rw [if_pos e0, if_pos e0, gJ_e l1, Option.bind_some, l4, wn, Option.bind_some]
        dsimp only
        unfold f_X1_longestOf
        rw [if_pos a3.1]
        have z := c_longest (fu := fu) (S := S) (wt := hr % 6) a3.1 p1 os p3 G (by omega) r3 hw6 h64 64 0 fu 0 (by omega) (by omega) (by omega)
        rw [show (0 : Int32) = nI 0 from rfl, z, Option.bind_some, fL_cut r3 64 0 0 64 (by omega) h64 (by omega), Nat.sub_zero, ansC_e gL (by omega)]
      · rw [if_neg e0, if_neg e0]
        by_cases e1 : a = 1
        · rw [if_pos e1, if_pos e1, gJ_e l1, Option.bind_some, l4, wn, Option.bind_some]
          dsimp only
          unfold f_X1_shortestOf
          rw [if_pos a3.1]
          have z := c_shortest (fu := fu) (S := S) (wt := hr % 6) a3.1 p1 os p3 G (by omega) r3 hw6 h64 64 0 fu 1000000 (by omega) (by omega) (by omega)
          rw [show (0 : Int32) = nI 0 from rfl, show (1000000 : Int32) = nI 1000000 from rfl, z, Option.bind_some, fS_cut' r3 h64, ansC_e gS (by omega)]
        · rw [if_neg e1, if_neg e1, gJ_e l1, Option.bind_some, l4, wn, Option.bind_some]
          dsimp only
          unfold f_X1_unsureOf
          rw [if_pos a3.1]
          have z := c_unsure (fu := fu) (S := S) (wt := hr % 6) a3.1 p1 os p3 G (by omega) r3 hw6 h64 64 0 fu 0 (by omega) (by omega)
          rw [show (0 : Int32) = nI 0 from rfl, z, Option.bind_some, fU_cut' r3 h64]
    · intro h1 q
      obtain ⟨h2, b1, b2, b3, b4⟩ := m_sing (fu := fu) (m := x + 20) hf ok r2 ⟨q.t0.1, q.t0.2.1, q.t0.2.2.2.2.2.1⟩
      have q2 := q.t0.sg b2 b3
      refine ⟨h2, ?_, q2, by rw [b2.1]; rfl, fun b hb => ((t0_E h1 (x + 20)).same (by omega)).tr (b2.same (by unfold PS; omega))⟩
      unfold f_X7_sure
      rw [if_pos q.1.K, pI_e q.1.K, Option.bind_some, if_neg c0, if_pos c2]
      show (f_X7_sing fu (x + 20) (t0 h1 (x + 20))).bind _ = _
      rw [b1, Option.bind_some]
      dsimp only
      have z := m_sure32 (fu := fu) (x1 := a) b3 b4 G (by omega) q2.2.2.1 q2.2.2.2.1 r4 g.n 0 fu 0 1000000 0 (by omega) (by omega)
      rw [← z]
      rfl
  · refine glue0 (r := -2) hC hM hR ?_ ?_
    · unfold f_X6_sure; rw [if_pos k1, if_neg c0, if_neg c2]
    · intro h1 q; unfold f_X7_sure; rw [if_pos q.1.K, pI_e q.1.K, Option.bind_some, if_neg c0, if_neg c2]; rfl
theorem q_from (hW : Wd h x v) (hf : 20000 < fu) (hv : v < 100000) (a : Int32) : Tok x v (f_X6_from fu x a) (f_X7_from fu (x + 20) a) h := by
  obtain ⟨g, S, hr, cn, c, tp, tl, fk, fp, hC, hM, hR⟩ := hW
  obtain ⟨k1, k2, k3, k4, k5, k6, k7, k8, k9⟩ := cw_get hC
  obtain ⟨hg, r2, r3, r4, r5, r6, r7⟩ := id hR
  have h64 := hg.n64
  have ok := cw_ok hC
  have hw6 : hr % 6 < 6 := Nat.mod_lt _ (by omega)
  rcases cell_or hg a with hx | ⟨ce, hc, rfl⟩
  · refine glue0 (r := -2) hC hM hR ?_ ?_
    · unfold f_X6_from; rw [if_pos k1, gR_e k1, k2, Option.bind_some, s_hasCell_n k7 hx, Option.bind_some, if_pos rfl]
    · intro h1 q
      unfold f_X7_from; rw [if_pos q.1.K, pI_e q.1.K, Option.bind_some, m_isCell_n (h := putI _ _ _ _) q.t0.1 hx, Option.bind_some, if_pos rfl]; rfl
  · have G := fn_gp hg ok
    have g1 := (G (hr % 6) hw6 ce hc).1
    have hsub : subs (lsh 1 (nI ce)) g.n := by
      intro i hi
      by_cases h6 : i < 64
      · rw [tb_bit (by omega) h6] at hi
        have := of_decide_eq_true hi
        omega
      · rw [tb_big (by omega)] at hi; cases hi
    refine glue (v' := v) (r := ansC (fnT g c (hr % 6) ce).1) (g' := g) (S' := S) (hr' := hr) (cn' := cn) (c' := c) (tp' := tp) (tl' := tl) (fk' := fk) (fp' := fp) hM ?_ ?_ hR (by omega)
    · obtain ⟨h1, j, a1, a2, a3, ⟨p, p1, p2, p3⟩, a5⟩ := c_judge (fu := fu) hf hv hC
      obtain ⟨l1, l2, l3, l4, l5, l6, l7, l8, l9⟩ := cw_get a2
      have os := outS_of a3 p2
      refine ⟨h1, ?_, a2, a5⟩
      unfold f_X6_from
      rw [if_pos k1, gR_e k1, k2, Option.bind_some, s_hasCell_y k7 hc, Option.bind_some, if_neg one_ne]
      dsimp only
      rw [a1, Option.bind_some]
      dsimp only
      rw [watchN (fu := fu) l1 l5 r4, Option.bind_some]
      dsimp only
      unfold f_X1_longestOf
      rw [if_pos a3.1]
      have z := c_longest (fu := fu) (S := lsh 1 (nI ce)) (wt := hr % 6) a3.1 p1 os p3 G (by omega) hsub hw6 h64 64 0 fu 0 (by omega) (by omega) (by omega)
      rw [show (0 : Int32) = nI 0 from rfl, z, Option.bind_some, fLm_bit (by omega) 64 0 0 (by omega), if_pos (by omega), Nat.zero_max, ansC_e g1 (by omega)]
    · intro h1 q
      obtain ⟨h2, b1, b2, b3, b4⟩ := m_sing (fu := fu) (m := x + 20) hf ok r2 ⟨q.t0.1, q.t0.2.1, q.t0.2.2.2.2.2.1⟩
      have q2 := q.t0.sg b2 b3
      obtain ⟨-, -, -, -, -, -, -, -, -, a29, a30, -⟩ := b3.2.1
      have t1 := (b4 ce hc (hr % 6) hw6).1
      refine ⟨h2, ?_, q2, by rw [b2.1]; rfl, fun b hb => ((t0_E h1 (x + 20)).same (by omega)).tr (b2.same (by unfold PS; omega))⟩
      unfold f_X7_from
      rw [if_pos q.1.K, pI_e q.1.K, Option.bind_some, m_isCell_y (h := putI _ _ _ _) q.t0.1 hc, Option.bind_some, if_neg one_ne]
      show (f_X7_sing fu (x + 20) (t0 h1 (x + 20))).bind _ = _
      rw [b1, Option.bind_some]
      dsimp only
      rw [gR_e b3.1.K, a29.1, Option.bind_some, gI_e b3.1.K, Option.bind_some, q2.2.2.2.1, l_rem (b := 6) (by omega) (by decide) (by decide)]
      rw [show f_X7_at fu (x + 20) 0 (nI ce) (nI (hr % 6)) h2 = some (nI (384 * 0 + 6 * ce + hr % 6), h2) from m_at b3.1.K 0 ce (hr % 6), Option.bind_some]
      dsimp only
      rw [aI_e a29.2.1 a29.2.2 (show 384 * 0 + 6 * ce + hr % 6 < 16384 by omega) (by omega), Option.bind_some, t1]
      have b1 := cC4 (fnT g c (hr % 6) ce).1
      unfold ansC
      by_cases z : cC (fnT g c (hr % 6) ce).1 < 100000
      · rw [if_pos (l_lt (b := 100000) z (by decide)), if_pos z]
      · rw [if_neg (l_nlt (b := 100000) (by omega) (by omega)), if_neg z]
end SURE2
