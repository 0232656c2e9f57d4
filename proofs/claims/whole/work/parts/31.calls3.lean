section CALLS3
variable {h : Hp} {x v fu : Nat}
/-- the reference puts one number into a row of the sea -/
theorem ref_put {h1 : Hp} {m d j : Nat} {w : Int32} {g g' : Sg} {S : Int64} {hr : Nat} {cn : Int32} {c : Cg} {tp : Nat → Nat} {tl : Nat} {fk fp : Int32} (q : ModP h1 m g S hr cn c tp tl fk fp) (hd : 1 ≤ d) (hd3 : d ≤ 3) (ok : g'.ok) (ew : g'.w = g.w) (eh : g'.hh = g.hh) (en : g'.ni = g.ni) (ef : g'.fl = g.fl) (e1 : ∀ k, k < 64 → nI (g'.ld k) = if 1 = d then (if k = j then w else nI (g.ld k)) else nI (g.ld k)) (e2 : ∀ k, k < 64 → g'.sw k = if 2 = d then (if k = j then w else g.sw k) else g.sw k) (e3 : ∀ k, k < 6 → g'.dr k = if 3 = d then (if k = j then w else g.dr k) else g.dr k) : ModP (putI (t0 h1 m) (m + d) j w) m g' S hr cn c tp tl fk fp ∧ (putI (t0 h1 m) (m + d) j w).N = h1.N ∧ Ed (fun b => m ≤ b ∧ b ≤ m + 3) h1 (putI (t0 h1 m) (m + d) j w) := by
  have qt := q.t0
  have e : Ed (fun b => m ≤ b ∧ b ≤ m + 3) (t0 h1 m) (putI (t0 h1 m) (m + d) j w) := Ed.pI (by omega)
  have e' : Ed (fun b => m ≤ b ∧ b ≤ m + 3) h1 (putI (t0 h1 m) (m + d) j w) := Ed.tr ((t0_E h1 m).mono (fun b hb => by omega)) e
  have om : ∀ k, (putI (t0 h1 m) (m + d) j w).I m k = (t0 h1 m).I m k := fun k => by rw [putI_I, if_neg (by omega)]
  refine ⟨qt.sea e ?_ ok (fun k _ => om k) qt.2.2.1 (by rw [om]; exact qt.2.2.2.1) (by rw [om]; exact qt.2.2.2.2.1), rfl, e'⟩
  obtain ⟨v1, v2, v3, v4, v5, v6, v7⟩ := qt.1.2.1
  refine ⟨by rw [om, ew]; exact v1, by rw [om, eh]; exact v2, by rw [om, en]; exact v3, by rw [om, ef]; exact v4, ?_, ?_, ?_⟩
  · intro k hk
    rw [putI_I, e1 k hk]
    by_cases z : 1 = d
    · rw [if_pos (by omega), if_pos z]
      by_cases e : k = j
      · rw [if_pos e, if_pos e]
      · rw [if_neg e, if_neg e]; exact v5 k hk
    · rw [if_neg (by omega), if_neg z]; exact v5 k hk
  · intro k hk
    rw [putI_I, e2 k hk]
    by_cases z : 2 = d
    · rw [if_pos (by omega), if_pos z]
      by_cases e : k = j
      · rw [if_pos e, if_pos e]
      · rw [if_neg e, if_neg e]; exact v6 k hk
    · rw [if_neg (by omega), if_neg z]; exact v6 k hk
  · intro k hk
    rw [putI_I, e3 k hk]
    by_cases z : 3 = d
    · rw [if_pos (by omega), if_pos z]
      by_cases e : k = j
      · rw [if_pos e, if_pos e]
      · rw [if_neg e, if_neg e]; exact v7 k hk
    · rw [if_neg (by omega), if_neg z]; exact v7 k hk
theorem q_swell (hW : Wd h x v) (hf : 20000 < fu) (a b : Int32) : Tok x v (f_X6_swell fu x a b) (f_X7_swell fu (x + 20) a b) h := by
  obtain ⟨g, S, hr, cn, c, tp, tl, fk, fp, hC, hM, hR⟩ := hW
  obtain ⟨k1, k2, k3, k4, k5, k6, k7, k8, k9⟩ := cw_get hC
  have hg := hR.1
  have h64 := hg.n64
  rcases cell_or hg a with hx | ⟨cell, hc, rfl⟩
  · refine glue0 (r := 0) hC hM hR ?_ ?_
    · unfold f_X6_swell; rw [if_pos k1, gR_e k1, k2, Option.bind_some, s_hasCell_n k7 hx, Option.bind_some, if_pos rfl]
    · intro h1 q
      unfold f_X7_swell; rw [if_pos q.1.K, pI_e q.1.K, Option.bind_some, m_isCell_n (h := putI _ _ _ _) q.t0.1 hx, Option.bind_some, if_pos rfl]; rfl
  · by_cases hb : b < 0
    · refine glue0 (r := 0) hC hM hR ?_ ?_
      · unfold f_X6_swell; rw [if_pos k1, gR_e k1, k2, Option.bind_some, s_hasCell_y k7 hc, Option.bind_some, if_neg one_ne, if_pos hb]
      · intro h1 q
        unfold f_X7_swell; rw [if_pos q.1.K, pI_e q.1.K, Option.bind_some, m_isCell_y (h := putI _ _ _ _) q.t0.1 hc, Option.bind_some, if_neg one_ne, if_pos hb]; rfl
    · by_cases hb2 : b ≤ 3
      · refine glue (v' := v + 1) (r := 1) (g' := g.setW cell b) (S' := S) (hr' := hr) (cn' := cn) (c' := c) (tp' := tp) (tl' := tl) (fk' := fk) (fp' := fp) hM ?_ ?_ ?_ (by omega)
        · obtain ⟨h1, a1, a2, a3, a4⟩ := s_setSwell (fu := fu) (w := b) k7 hc
          refine ⟨h1, ?_, hC.sea a3 a2 a4, ed_out a3 (fun b hb => by omega)⟩
          unfold f_X6_swell; rw [if_pos k1, gR_e k1, k2, Option.bind_some, s_hasCell_y k7 hc, Option.bind_some, if_neg one_ne, if_neg hb, if_pos hb2]
          dsimp only
          rw [gR_e k1, k2, Option.bind_some, a1, Option.bind_some]
        · intro h1 q
          have m8 := q.t0.1.1.2.2.1
          obtain ⟨p1, p2, p3⟩ := ref_put (d := 2) (j := cell) (w := b) (g' := g.setW cell b) q (by omega) (by omega) hg rfl rfl rfl rfl (fun k _ => by rw [if_neg (by decide)]; rfl) (fun k _ => by rw [if_pos rfl]; rfl) (fun k _ => by rw [if_neg (by decide)]; rfl)
          refine ⟨_, ?_, p1, p2, ed_inn p3 (fun b hb => by omega)⟩
          unfold f_X7_swell; rw [if_pos q.1.K, pI_e q.1.K, Option.bind_some, m_isCell_y (h := putI _ _ _ _) q.t0.1 hc, Option.bind_some, if_neg one_ne, if_neg hb, if_pos hb2]
          dsimp only
          rw [gR_e (h := putI _ _ _ _) q.1.K]
          rw [show (putI h1 (x + 20) 0 0).R (x + 20) 9 = some (x + 20 + 2) from m8.1, Option.bind_some, sI_e (h := putI _ _ _ _) m8.2.1 m8.2.2 (by omega) (by omega), Option.bind_some]
          rfl
        · obtain ⟨r1, r2, r3, r4, r5, r6, r7⟩ := hR
          exact ⟨hg, r2, r3, r4, r5, r6, r7⟩
      · refine glue0 (r := 0) hC hM hR ?_ ?_
        · unfold f_X6_swell; rw [if_pos k1, gR_e k1, k2, Option.bind_some, s_hasCell_y k7 hc, Option.bind_some, if_neg one_ne, if_neg hb, if_neg hb2]
        · intro h1 q
          unfold f_X7_swell; rw [if_pos q.1.K, pI_e q.1.K, Option.bind_some, m_isCell_y (h := putI _ _ _ _) q.t0.1 hc, Option.bind_some, if_neg one_ne, if_neg hb, if_neg hb2]; rfl
theorem isWatch_n {a : Int32} (hx : a < 0 ∨ nI 6 ≤ a) : f_X6_isWatch fu a h = some (0, h) := by
  unfold f_X6_isWatch
  by_cases z : a < 0
  · rw [if_pos z]
  · rw [if_neg z, if_pos (show 6 ≤ a from hx.resolve_left z)]
theorem isWatch_y {k : Nat} (hk : k < 6) : f_X6_isWatch fu (nI k) h = some (1, h) := by
  unfold f_X6_isWatch
  rw [if_neg (nI_pos (by omega)), if_neg (l_nge hk (by decide))]
theorem q_drifts (hW : Wd h x v) (a b : Int32) : Tok x v (f_X6_drifts fu x a b) (f_X7_drifts fu (x + 20) a b) h := by
  obtain ⟨g, S, hr, cn, c, tp, tl, fk, fp, hC, hM, hR⟩ := hW
  obtain ⟨k1, k2, k3, k4, k5, k6, k7, k8, k9⟩ := cw_get hC
  have hg := hR.1
  rcases pk_ix a (show 6 < 2 ^ 31 by omega) with hx | hx | ⟨k, hk, rfl⟩
  · refine glue0 (r := 0) hC hM hR ?_ ?_
    · unfold f_X6_drifts; rw [if_pos k1, isWatch_n (Or.inl hx), Option.bind_some, if_pos rfl]
    · intro h1 q
      unfold f_X7_drifts; rw [if_pos q.1.K, pI_e q.1.K, Option.bind_some, if_pos hx]; rfl
  · refine glue0 (r := 0) hC hM hR ?_ ?_
    · unfold f_X6_drifts; rw [if_pos k1, isWatch_n (Or.inr hx), Option.bind_some, if_pos rfl]
    · intro h1 q
      have e6 : (nI 6).toInt = 6 := by decide
      have e5 : (5 : Int32).toInt = 5 := by decide
      have hx' := hx
      rw [le_ti, e6] at hx'
      unfold f_X7_drifts; rw [if_pos q.1.K, pI_e q.1.K, Option.bind_some, if_neg (by rw [lt_ti, ti_0]; omega), if_pos (by rw [lt_ti, e5]; omega)]; rfl
  · have n0 : ¬ nI k < 0 := nI_pos (by omega)
    have n5 : ¬ 5 < nI k := l_ngt (b := 5) (by omega) (by decide)
    rcases pk_ix b (show 512 < 2 ^ 31 by omega) with hb | hb | ⟨w, hw, rfl⟩
    · refine glue0 (r := 0) hC hM hR ?_ ?_
      · unfold f_X6_drifts; rw [if_pos k1, isWatch_y hk, Option.bind_some, if_neg one_ne, if_pos (by rw [lt_ti] at hb; rw [le_ti]; omega)]
      · intro h1 q
        unfold f_X7_drifts; rw [if_pos q.1.K, pI_e q.1.K, Option.bind_some, if_neg n0, if_neg n5, if_pos (by rw [lt_ti, ti_0] at hb; rw [lt_ti, ti_1]; omega)]; rfl
    · have e6 : (nI 512).toInt = 512 := by decide
      have e5 : (512 : Int32).toInt = 512 := by decide
      have e7 : (511 : Int32).toInt = 511 := by decide
      rw [le_ti, e6] at hb
      refine glue0 (r := 0) hC hM hR ?_ ?_
      · unfold f_X6_drifts; rw [if_pos k1, isWatch_y hk, Option.bind_some, if_neg one_ne, if_neg (by rw [le_ti, ti_0]; omega), if_neg (by rw [lt_ti, e5]; omega)]
      · intro h1 q
        unfold f_X7_drifts; rw [if_pos q.1.K, pI_e q.1.K, Option.bind_some, if_neg n0, if_neg n5, if_neg (by rw [lt_ti, ti_1]; omega), if_neg (by rw [le_ti, e7]; omega)]; rfl
    · by_cases w0 : w = 0
      · subst w0
        refine glue0 (r := 0) hC hM hR ?_ ?_
        · unfold f_X6_drifts; rw [if_pos k1, isWatch_y hk, Option.bind_some, if_neg one_ne, if_pos (by decide)]
        · intro h1 q
          unfold f_X7_drifts; rw [if_pos q.1.K, pI_e q.1.K, Option.bind_some, if_neg n0, if_neg n5, if_pos (by decide)]; rfl
      · have wb : ¬ nI w ≤ 0 := nI_nle (by omega) (by omega)
        have wc : nI w < 512 := l_lt hw (by decide)
        have wd : ¬ nI w < 1 := l_nlt (b := 1) (by omega) (by omega)
        have we : nI w ≤ 511 := l_le (b := 511) (by omega) (by decide)
        refine glue (v' := v + 1) (r := 1) (g' := g.setD k (nI w)) (S' := S) (hr' := hr) (cn' := cn) (c' := c) (tp' := tp) (tl' := tl) (fk' := fk) (fp' := fp) hM ?_ ?_ ?_ (by omega)
        · obtain ⟨h1, a1, a2, a3, a4⟩ := s_setDrifts (fu := fu) (w := nI w) k7 hk
          refine ⟨h1, ?_, hC.sea a3 a2 a4, ed_out a3 (fun b hb => by omega)⟩
          unfold f_X6_drifts; rw [if_pos k1, isWatch_y hk, Option.bind_some, if_neg one_ne, if_neg wb, if_pos wc]
          dsimp only
          rw [gR_e k1, k2, Option.bind_some, a1, Option.bind_some]
        · intro h1 q
          have m8 := q.t0.1.1.2.2.2
          obtain ⟨p1, p2, p3⟩ := ref_put (d := 3) (j := k) (w := nI w) (g' := g.setD k (nI w)) q (by omega) (by omega) hg rfl rfl rfl rfl (fun k _ => by rw [if_neg (by decide)]; rfl) (fun k _ => by rw [if_neg (by decide)]; rfl) (fun k _ => by rw [if_pos rfl]; rfl)
          refine ⟨_, ?_, p1, p2, ed_inn p3 (fun b hb => by omega)⟩
          unfold f_X7_drifts; rw [if_pos q.1.K, pI_e q.1.K, Option.bind_some, if_neg n0, if_neg n5, if_neg wd, if_pos we]
          rw [gR_e (h := putI _ _ _ _) q.1.K]
          rw [show (putI h1 (x + 20) 0 0).R (x + 20) 10 = some (x + 20 + 3) from m8.1, Option.bind_some, sI_e (h := putI _ _ _ _) m8.2.1 m8.2.2 hk (by omega), Option.bind_some]
          rfl
        · obtain ⟨r1, r2, r3, r4, r5, r6, r7⟩ := hR
          refine ⟨hg, ?_, r3, r4, r5, r6, r7⟩
          intro i hi
          show ∃ v, 0 < v ∧ v < 512 ∧ (if i = k then nI w else g.dr i) = nI v
          by_cases e : i = k
          · rw [if_pos e]; exact ⟨w, by omega, hw, rfl⟩
          · rw [if_neg e]; exact r2 i hi
theorem isWS_n {a : Int32} (hx : a < 0 ∨ nI 64 ≤ a) : f_X6_isWatchSet fu a h = some (0, h) := by
  unfold f_X6_isWatchSet
  by_cases z : a < 0
  · rw [if_pos z]
  · rw [if_neg z, if_pos (show 64 ≤ a from hx.resolve_left z)]
theorem isWS_y {k : Nat} (hk : k < 64) : f_X6_isWatchSet fu (nI k) h = some (1, h) := by
  unfold f_X6_isWatchSet
  rw [if_neg (nI_pos (by omega)), if_neg (l_nge hk (by decide))]
theorem q_watches (hW : Wd h x v) (a b : Int32) : Tok x v (f_X6_watches fu x a b) (f_X7_watches fu (x + 20) a b) h := by
  obtain ⟨g, S, hr, cn, c, tp, tl, fk, fp, hC, hM, hR⟩ := hW
  obtain ⟨k1, k2, k3, k4, k5, k6, k7, k8, k9⟩ := cw_get hC
  have hg := hR.1
  have e6 : (nI 64).toInt = 64 := by decide
  have e5 : (63 : Int32).toInt = 63 := by decide
  rcases pk_ix a (show 64 < 2 ^ 31 by omega) with hx | hx | ⟨k, hk, rfl⟩
  · refine glue0 (r := 0) hC hM hR ?_ ?_
    · unfold f_X6_watches; rw [if_pos k1, isWS_n (Or.inl hx), Option.bind_some, if_pos rfl]
    · intro h1 q
      unfold f_X7_watches; rw [if_pos q.1.K, pI_e q.1.K, Option.bind_some, if_pos hx]; rfl
  · refine glue0 (r := 0) hC hM hR ?_ ?_
    · unfold f_X6_watches; rw [if_pos k1, isWS_n (Or.inr hx), Option.bind_some, if_pos rfl]
    · intro h1 q
      have hx' := hx
      rw [le_ti, e6] at hx'
      unfold f_X7_watches; rw [if_pos q.1.K, pI_e q.1.K, Option.bind_some, if_neg (by rw [lt_ti, ti_0]; omega), if_pos (by rw [lt_ti, e5]; omega)]; rfl
  · have n0 : ¬ nI k < 0 := nI_pos (by omega)
    have n5 : ¬ 63 < nI k := l_ngt (b := 63) (by omega) (by decide)
    rcases pk_ix b (show 64 < 2 ^ 31 by omega) with hb | hb | ⟨w, hw, rfl⟩
    · refine glue0 (r := 0) hC hM hR ?_ ?_
      · unfold f_X6_watches; rw [if_pos k1, isWS_y hk, Option.bind_some, if_neg one_ne, isWS_n (Or.inl hb), Option.bind_some, if_pos rfl]
      · intro h1 q
        unfold f_X7_watches; rw [if_pos q.1.K, pI_e q.1.K, Option.bind_some, if_neg n0, if_neg n5, if_pos hb]; rfl
    · refine glue0 (r := 0) hC hM hR ?_ ?_
      · unfold f_X6_watches; rw [if_pos k1, isWS_y hk, Option.bind_some, if_neg one_ne, isWS_n (Or.inr hb), Option.bind_some, if_pos rfl]
      · intro h1 q
        rw [le_ti, e6] at hb
        unfold f_X7_watches; rw [if_pos q.1.K, pI_e q.1.K, Option.bind_some, if_neg n0, if_neg n5, if_neg (by rw [lt_ti, ti_0]; omega), if_neg (by rw [le_ti, e5]; omega)]; rfl
    · have w0 : ¬ nI w < 0 := nI_pos (by omega)
      have w5 : nI w ≤ 63 := l_le (b := 63) (by omega) (by decide)
      refine glue (v' := v + 1) (r := 1) (g' := g.setN (nI k) (nI w)) (S' := S) (hr' := hr) (cn' := cn) (c' := c) (tp' := tp) (tl' := tl) (fk' := fk) (fp' := fp) hM ?_ ?_ ?_ (by omega)
      · obtain ⟨h1, a1, a2, a3, a4⟩ := s_setWatches (fu := fu) (n := nI k) (f := nI w) k7
        refine ⟨h1, ?_, hC.sea a3 a2 a4, ed_out a3 (fun b hb => by omega)⟩
        unfold f_X6_watches; rw [if_pos k1, isWS_y hk, Option.bind_some, if_neg one_ne, isWS_y hw, Option.bind_some, if_neg one_ne]
        dsimp only
        rw [gR_e k1, k2, Option.bind_some, a1, Option.bind_some]
      · intro h1 q
        obtain ⟨h2, hh2⟩ : ∃ h2, h2 = putI (putI (putI h1 (x + 20) 0 0) (x + 20) 6 (nI k)) (x + 20) 7 (nI w) := ⟨_, rfl⟩
        have e : Ed (fun b => x + 20 ≤ b ∧ b ≤ x + 20 + 3) h1 h2 := by rw [hh2]; exact Ed.tr (Ed.tr (Ed.pI (by omega)) (Ed.pI (by omega))) (Ed.pI (by omega))
        have I2 : ∀ j, h2.I (x + 20) j = if j = 7 then nI w else if j = 6 then nI k else if j = 0 then 0 else h1.I (x + 20) j := by
          intro j; rw [hh2, putI_I, putI_I, putI_I, if_pos rfl, if_pos rfl, if_pos rfl]
        have ob : ∀ d, 0 < d → h2.I (x + 20 + d) = h1.I (x + 20 + d) := fun d hd => by
          funext j; rw [hh2, putI_I, putI_I, putI_I, if_neg (by omega), if_neg (by omega), if_neg (by omega)]
        have oi : ∀ j, j ≠ 0 → j ≠ 6 → j ≠ 7 → h2.I (x + 20) j = h1.I (x + 20) j := fun j a b c => by rw [I2, if_neg c, if_neg b, if_neg a]
        refine ⟨h2, ?_, q.sea e ?_ hg (fun j hj => oi j (by omega) (by omega) (by omega)) (by rw [hh2]; exact q.2.2.1) (by rw [oi 3 (by decide) (by decide) (by decide)]; exact q.2.2.2.1) (by rw [oi 5 (by decide) (by decide) (by decide)]; exact q.2.2.2.2.1), by rw [hh2]; rfl, ed_inn e (fun b hb => by omega)⟩
        · unfold f_X7_watches; rw [if_pos q.1.K, pI_e q.1.K, Option.bind_some, if_neg n0, if_neg n5, if_neg w0, if_pos w5, pI_e (h := putI _ _ _ _) q.1.K, Option.bind_some, pI_e (h := putI (putI _ _ _ _) _ _ _) q.1.K, Option.bind_some, hh2]
        · obtain ⟨v1, v2, v3, v4, v5, v6, v7⟩ := q.1.2.1
          refine ⟨by rw [oi 1 (by decide) (by decide) (by decide)]; exact v1, by rw [oi 2 (by decide) (by decide) (by decide)]; exact v2, by rw [I2, if_neg (by decide), if_pos rfl]; rfl, by rw [I2, if_pos rfl]; rfl, ?_, ?_, ?_⟩
          · rw [ob 1 (by decide)]; exact v5
          · rw [ob 2 (by decide)]; exact v6
          · rw [ob 3 (by decide)]; exact v7
      · obtain ⟨r1, r2, r3, r4, r5, r6, r7⟩ := hR
        exact ⟨hg, r2, r3, r4, r5, r6, r7⟩
end CALLS3
