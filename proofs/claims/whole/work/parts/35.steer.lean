section STEER
variable {h : Hp} {x v fu : Nat}
theorem isSign_n {a : Int32} (hx : a < 0 ∨ nI 3 ≤ a) : f_X6_isSign fu a h = some (0, h) := by
  unfold f_X6_isSign
  by_cases z : a < 0
  · rw [if_pos z]
  · have y := hx.resolve_left z
    have e3 : (nI 3).toInt = 3 := by decide
    rw [le_ti, e3] at y
    rw [if_neg z, if_pos (by rw [lt_ti, ti_2]; omega)]
theorem isSign_y {k : Nat} (hk : k < 3) : f_X6_isSign fu (nI k) h = some (1, h) := by
  unfold f_X6_isSign
  rw [if_neg (nI_pos (by omega)), if_neg (l_ngt (b := 2) (by omega) (by decide))]
theorem isWay_n {a : Int32} (hx : a < 0 ∨ nI 9 ≤ a) : f_X6_isWay fu a h = some (0, h) := by
  unfold f_X6_isWay
  by_cases z : a < 0
  · rw [if_pos z]
  · rw [if_neg z, if_pos (show 9 ≤ a from hx.resolve_left z)]
theorem isWay_y {k : Nat} (hk : k < 9) : f_X6_isWay fu (nI k) h = some (1, h) := by
  unfold f_X6_isWay
  rw [if_neg (nI_pos (by omega)), if_neg (l_nge (b := 9) hk (by decide))]
theorem ge_gt {a : Int32} {k : Nat} (hk : k + 1 < 2 ^ 31) (hx : nI (k + 1) ≤ a) : ¬ a < 0 ∧ nI k < a := by
  rw [le_ti, ti_n hk] at hx
  constructor
  · rw [lt_ti, ti_0]; omega
  · rw [lt_ti, ti_n (by omega)]; omega
theorem watchN {hr : Nat} (k1 : h.K x = 6) (k5 : h.I x 5 = nI hr) (hh : hr < 10000) : f_X6_watchNow fu x h = some (nI (hr % 6), h) := by
  unfold f_X6_watchNow
  rw [if_pos k1, gI_e k1, Option.bind_some, k5, l_rem (b := 6) (by omega) (by decide) (by decide)]
theorem q_sign (hW : Wd h x v) (hf : 20000 < fu) (a b d : Int32) : Tok x v (f_X6_sign fu x a b d) (f_X7_sign fu (x + 20) a b d) h := by
  obtain ⟨g, S, hr, cn, c, tp, tl, fk, fp, hC, hM, hR⟩ := hW
  obtain ⟨k1, k2, k3, k4, k5, k6, k7, k8, k9⟩ := cw_get hC
  have hg := hR.1
  have h64 := hg.n64
  rcases cell_or hg a with hx | ⟨cell, hc, rfl⟩
  · refine glue0 (r := -2) hC hM hR ?_ ?_
    · unfold f_X6_sign; rw [if_pos k1, gR_e k1, k2, Option.bind_some, s_hasCell_n k7 hx, Option.bind_some, if_pos rfl]
    · intro h1 q
      unfold f_X7_sign; rw [if_pos q.1.K, pI_e q.1.K, Option.bind_some, m_isCell_n (h := putI _ _ _ _) q.t0.1 hx, Option.bind_some, if_pos rfl]; rfl
  · have A : ∀ r, f_X6_sign fu x (nI cell) b d h = (f_X6_isWatch fu b h).bind (fun r12 => if r12.1 = 0 then some ((-2), r12.2) else (f_X6_isSign fu d r12.2).bind fun r19 => if r19.1 = 0 then some ((-2), r19.2) else (gR r19.2 6 x 0).bind fun v29 => (f_X4_signAt fu v29 (nI cell) b d r19.2).bind fun r35 => some (r35.1, r35.2)) ∨ r := by
      intro r
      refine Or.inl ?_
      unfold f_X6_sign; rw [if_pos k1, gR_e k1, k2, Option.bind_some, s_hasCell_y k7 hc, Option.bind_some, if_neg one_ne]
    have A := (A False).resolve_right id
    have B : ∀ h1, ModP h1 (x + 20) g S hr cn c tp tl fk fp → f_X7_sign fu (x + 20) (nI cell) b d h1 = if b < 0 then some (-2, t0 h1 (x + 20)) else if 6 ≤ b then some (-2, t0 h1 (x + 20)) else if d < 0 then some (-2, t0 h1 (x + 20)) else if 3 ≤ d then some (-2, t0 h1 (x + 20)) else (f_X7_signOf fu (x + 20) (nI cell) b d (t0 h1 (x + 20))).bind fun r36 => some (r36.1, r36.2) := by
      intro h1 q
      unfold f_X7_sign; rw [if_pos q.1.K, pI_e q.1.K, Option.bind_some, m_isCell_y (h := putI _ _ _ _) q.t0.1 hc, Option.bind_some, if_neg one_ne]; rfl
    rcases pk_ix b (show 6 < 2 ^ 31 by omega) with hb | hb | ⟨w, hw, rfl⟩
    · refine glue0 (r := -2) hC hM hR ?_ ?_
      · rw [A, isWatch_n (Or.inl hb), Option.bind_some, if_pos rfl]
      · intro h1 q; rw [B h1 q, if_pos hb]
    · refine glue0 (r := -2) hC hM hR ?_ ?_
      · rw [A, isWatch_n (Or.inr hb), Option.bind_some, if_pos rfl]
      · intro h1 q; rw [B h1 q, if_neg (ge_gt (k := 5) (by omega) hb).1, if_pos (show 6 ≤ b from hb)]
    · have w0 : ¬ nI w < 0 := nI_pos (by omega)
      have w6 : ¬ 6 ≤ nI w := l_nge (b := 6) hw (by decide)
      rcases pk_ix d (show 3 < 2 ^ 31 by omega) with hd | hd | ⟨e, he, rfl⟩
      · refine glue0 (r := -2) hC hM hR ?_ ?_
        · rw [A, isWatch_y hw, Option.bind_some, if_neg one_ne, isSign_n (Or.inl hd), Option.bind_some, if_pos rfl]
        · intro h1 q; rw [B h1 q, if_neg w0, if_neg w6, if_pos hd]
      · refine glue0 (r := -2) hC hM hR ?_ ?_
        · rw [A, isWatch_y hw, Option.bind_some, if_neg one_ne, isSign_n (Or.inr hd), Option.bind_some, if_pos rfl]
        · intro h1 q; rw [B h1 q, if_neg w0, if_neg w6, if_neg (ge_gt (k := 2) (by omega) hd).1, if_pos (show 3 ≤ d from hd)]
      · refine glue0 (r := sgn g cell w e) hC hM hR ?_ ?_
        · rw [A, isWatch_y hw, Option.bind_some, if_neg one_ne, isSign_y he, Option.bind_some, if_neg one_ne]
          dsimp only
          rw [gR_e k1, k2, Option.bind_some, s_signAt k7 hc hw he, Option.bind_some]
        · intro h1 q; rw [B h1 q, if_neg w0, if_neg w6, if_neg (nI_pos (by omega)), if_neg (l_nge (b := 3) he (by decide)), m_signOf q.t0.1 (by omega) hc hw he, Option.bind_some]
theorem c_steer115 {S : Int64} {hr : Nat} (k1 : h.K x = 6) (k4 : h.J x 4 = S) (k5 : h.I x 5 = nI hr) : f_X6_steer_115 fu x h = some (nI (cnt (tb S) 64), putI h x 5 (nI (hr + 1))) := by
  simp [f_X6_steer_115, gI, pI, gJ, K_pI, k1, k5, putI_J, k4, s_bitCount, nI_1]
theorem m_steer98 {m : Nat} {S : Int64} {hr : Nat} (hf : 64 < fu) (k1 : h.K m = 7) (k4 : h.J m 4 = S) (k5 : h.I m 3 = nI hr) : f_X7_steer_98 fu m h = some (nI (cnt (tb S) 64), putI h m 3 (nI (hr + 1))) := by
  have y := m_count (h := putI h m 3 (nI (hr + 1))) (fu := fu) (s := S) k1 hf
  simp [f_X7_steer_98, gI, pI, gJ, K_pI, k1, k5, putI_J, k4, y, nI_1]
theorem q_steer (hW : Wd h x v) (hf : 20000 < fu) (a b : Int32) : Tok x v (f_X6_steer fu x a b) (f_X7_steer fu (x + 20) a b) h := by
  obtain ⟨g, S, hr, cn, c, tp, tl, fk, fp, hC, hM, hR⟩ := hW
  obtain ⟨k1, k2, k3, k4, k5, k6, k7, k8, k9⟩ := cw_get hC
  obtain ⟨hg, r2, r3, r4, r5, r6, r7⟩ := id hR
  have h64 := hg.n64
  have hw6 : hr % 6 < 6 := Nat.mod_lt _ (by omega)
  have hwn := watchN (fu := fu) k1 k5 r4
  rcases pk_ix a (show 9 < 2 ^ 31 by omega) with hx | hx | ⟨way, hway, rfl⟩
  · refine glue0 (r := -1) hC hM hR ?_ ?_
    · unfold f_X6_steer; rw [if_pos k1, hwn, Option.bind_some, isWay_n (Or.inl hx), Option.bind_some, if_pos rfl]
    · intro h1 q
      unfold f_X7_steer; rw [if_pos q.1.K, pI_e q.1.K, Option.bind_some, if_pos hx]; rfl
  · refine glue0 (r := -1) hC hM hR ?_ ?_
    · unfold f_X6_steer; rw [if_pos k1, hwn, Option.bind_some, isWay_n (Or.inr hx), Option.bind_some, if_pos rfl]
    · intro h1 q
      have z := ge_gt (k := 8) (by omega) hx
      unfold f_X7_steer; rw [if_pos q.1.K, pI_e q.1.K, Option.bind_some, if_neg z.1, if_pos (show 8 < a from z.2)]; rfl
  have a0 : ¬ nI way < 0 := nI_pos (by omega)
  have a8 : ¬ 8 < nI way := l_ngt (b := 8) (by omega) (by decide)
  rcases pk_ix b (show 9 < 2 ^ 31 by omega) with hx | hx | ⟨dr, hdr, rfl⟩
  · refine glue0 (r := -1) hC hM hR ?_ ?_
    · unfold f_X6_steer; rw [if_pos k1, hwn, Option.bind_some, isWay_y hway, Option.bind_some, if_neg one_ne, isWay_n (Or.inl hx), Option.bind_some, if_pos rfl]
    · intro h1 q
      unfold f_X7_steer; rw [if_pos q.1.K, pI_e q.1.K, Option.bind_some, if_neg a0, if_neg a8, if_pos hx]; rfl
  · refine glue0 (r := -1) hC hM hR ?_ ?_
    · unfold f_X6_steer; rw [if_pos k1, hwn, Option.bind_some, isWay_y hway, Option.bind_some, if_neg one_ne, isWay_n (Or.inr hx), Option.bind_some, if_pos rfl]
    · intro h1 q
      have z := ge_gt (k := 8) (by omega) hx
      unfold f_X7_steer; rw [if_pos q.1.K, pI_e q.1.K, Option.bind_some, if_neg a0, if_neg a8, if_neg z.1, if_pos (show 8 < b from z.2)]; rfl
  have b0 : ¬ nI dr < 0 := nI_pos (by omega)
  have b8 : ¬ 8 < nI dr := l_ngt (b := 8) (by omega) (by decide)
  have B : ∀ h1, ModP h1 (x + 20) g S hr cn c tp tl fk fp → f_X7_steer fu (x + 20) (nI way) (nI dr) h1 = if ((if bt (g.dr (hr % 6)) dr then 1 else 0 : Int32)) = 0 then some (-1, t0 h1 (x + 20)) else if nI hr = 9999 then some (-1, t0 h1 (x + 20)) else (if cn = -1 then f_X7_steer_98 fu (x + 20) (putJ (t0 h1 (x + 20)) (x + 20) 4 (img g S way (hr % 6))) else (f_X7_goes fu (x + 20) cn (nI way) (nI dr) (putJ (t0 h1 (x + 20)) (x + 20) 4 (img g S way (hr % 6)))).bind fun r92 => (pI r92.2 7 (x + 20) 5 r92.1).bind fun h95 => f_X7_steer_98 fu (x + 20) h95) := by
    intro h1 q
    have m10 := q.t0.1.1.2.2.2
    have mk3 : (t0 h1 (x + 20)).I (x + 20) 3 = nI hr := q.t0.2.2.2.1
    have mk5 : (t0 h1 (x + 20)).I (x + 20) 5 = cn := q.t0.2.2.2.2.1
    have mk4 : (t0 h1 (x + 20)).J (x + 20) 4 = S := q.t0.2.2.1
    have mK : (t0 h1 (x + 20)).K (x + 20) = 7 := q.1.K
    unfold f_X7_steer
    rw [if_pos q.1.K, pI_e q.1.K, Option.bind_some, if_neg a0, if_neg a8, if_neg b0, if_neg b8]
    show (gR (t0 h1 (x + 20)) 7 (x + 20) 10).bind _ = _
    rw [gR_e mK, m10.1, Option.bind_some]
    show (gI (t0 h1 (x + 20)) 7 (x + 20) 3).bind _ = _
    rw [gI_e mK, Option.bind_some, mk3, l_rem (b := 6) (by omega) (by decide) (by decide)]
    show (aI (t0 h1 (x + 20)) 8 (x + 20 + 3) (nI (hr % 6))).bind _ = _
    rw [aI_e m10.2.1 m10.2.2 hw6 (by omega), Option.bind_some, q.t0.1.2.1.2.2.2.2.2.2 _ hw6, ibit _ (show dr < 32 by omega)]
    by_cases c1 : (if bt (g.dr (hr % 6)) dr = true then 1 else 0 : Int32) = 0
    · rw [if_pos c1, if_pos c1]; rfl
    · rw [if_neg c1, if_neg c1]
      show (gI (t0 h1 (x + 20)) 7 (x + 20) 3).bind _ = _
      rw [gI_e mK, Option.bind_some, mk3]
      by_cases c2 : nI hr = 9999
      · rw [if_pos c2, if_pos c2]; rfl
      · rw [if_neg c2, if_neg c2]
        show (gJ (t0 h1 (x + 20)) 7 (x + 20) 4).bind _ = _
        rw [gJ_e mK, Option.bind_some, mk4]
        show (gI (t0 h1 (x + 20)) 7 (x + 20) 3).bind _ = _
        rw [gI_e mK, Option.bind_some, mk3, l_rem (b := 6) (by omega) (by decide) (by decide)]
        show (f_X7_goesAll fu (x + 20) S (nI way) (nI (hr % 6)) (t0 h1 (x + 20))).bind _ = _
        rw [m_goesAll q.t0.1 (by omega) hway hw6, Option.bind_some]
        dsimp only
        rw [pJ_e mK, Option.bind_some, gI_e (h := putJ (t0 h1 (x + 20)) _ _ _) mK, Option.bind_some, putJ_I, mk5]
        by_cases c3 : cn = -1
        · rw [if_pos c3, if_pos c3]
        · rw [if_neg c3, if_neg c3, Option.bind_some]
  by_cases c1 : (if bt (g.dr (hr % 6)) dr = true then 1 else 0 : Int32) = 0
  · refine glue0 (r := -1) hC hM hR ?_ ?_
    · unfold f_X6_steer; rw [if_pos k1, hwn, Option.bind_some, isWay_y hway, Option.bind_some, if_neg one_ne, isWay_y hdr, Option.bind_some, if_neg one_ne]
      dsimp only
      rw [gR_e k1, k2, Option.bind_some, s_driftsBy k7 hw6 hdr, Option.bind_some]
      dsimp only
      rw [if_pos c1]
    · intro h1 q; rw [B h1 q, if_pos c1]
  have hbit : bt (g.dr (hr % 6)) dr = true := by
    cases z : bt (g.dr (hr % 6)) dr
    · rw [z] at c1; exact absurd rfl c1
    · rfl
  by_cases c2 : hr = 9999
  · refine glue0 (r := -1) hC hM hR ?_ ?_
    · unfold f_X6_steer; rw [if_pos k1, hwn, Option.bind_some, isWay_y hway, Option.bind_some, if_neg one_ne, isWay_y hdr, Option.bind_some, if_neg one_ne]
      dsimp only
      rw [gR_e k1, k2, Option.bind_some, s_driftsBy k7 hw6 hdr, Option.bind_some]
      dsimp only
      rw [if_neg c1, gI_e k1, Option.bind_some, k5, if_neg (l_nlt (b := 9999) (by omega) (by omega))]
    · intro h1 q; rw [B h1 q, if_neg c1, if_pos (by rw [c2]; rfl)]
  have c2' : ¬ nI hr = 9999 := ne_lit (b := 9999) (by omega) (by decide) c2
  -- both go
  obtain ⟨hs, p1, p2, p3⟩ := s_spread (fu := fu) k7 r3
  have hse : Se hs (x + 1) g := p2.se k7
  have hsb := s_spreadBy (fu := fu) hse (by omega) r3 p3 hway hw6 ⟨dr, hdr, hbit⟩
  have Ks : hs.K x = 6 := by rw [p2.2.1]; exact k1
  have Rs : hs.R x 0 = some (x + 1) := by rw [p2.2.2.2.1]; exact k2
  have Is : hs.I = h.I := p2.2.2.2.2.1
  obtain ⟨T, hT⟩ : ∃ T, T = img g S way (hr % 6) := ⟨_, rfl⟩
  obtain ⟨ht, hht⟩ : ∃ ht, ht = putJ hs x 4 T := ⟨_, rfl⟩
  have Kt : ht.K x = 6 := by rw [hht]; exact Ks
  have Rt : ht.R x 0 = some (x + 1) := by rw [hht]; exact Rs
  have It : ht.I = h.I := by rw [hht]; exact Is
  have et : Ed (fun b => x ≤ b ∧ b ≤ x + 7) h ht := by
    rw [hht]
    refine ⟨p2.1, p2.2.1, p2.2.2.1, p2.2.2.2.1, fun b hb => ⟨by rw [putJ_I, Is], ?_⟩⟩
    funext j
    rw [putJ_J, if_neg (by omega)]
    exact p2.2.2.2.2.2 b j (by omega) (by omega)
  have set : Se ht (x + 1) g := by
    rw [hht]
    exact hse.fr (fun b q1 q2 => (Ed.pJ (P := fun b => b = x) rfl).same (by omega))
  have Jt : ht.J x 4 = T := by rw [hht, putJ_J, if_pos rfl, if_pos rfl]
  have vt : ht.I (x + 1) 3 = nI v := by rw [It]; exact k8
  have A2 : f_X6_steer fu x (nI way) (nI dr) h = (f_X4_hasCell fu (x + 1) cn ht).bind fun r75 => if r75.1 = 0 then f_X6_steer_115 fu x r75.2 else (gR r75.2 6 x 0).bind fun v82 => (gJ r75.2 4 v82 5).bind fun v85 => (gI r75.2 6 x 6).bind fun v89 => (f_X6_has fu v85 v89 r75.2).bind fun r92 => if r92.1 = 0 then (gR r92.2 6 x 0).bind fun v100 => (gI r92.2 6 x 6).bind fun v104 => (f_X4_target fu v100 v104 (nI way) (nI dr) r92.2).bind fun r109 => (pI r109.2 6 x 6 r109.1).bind fun h112 => f_X6_steer_115 fu x h112 else f_X6_steer_115 fu x r92.2 := by
    unfold f_X6_steer; rw [if_pos k1, hwn, Option.bind_some, isWay_y hway, Option.bind_some, if_neg one_ne, isWay_y hdr, Option.bind_some, if_neg one_ne]
    dsimp only
    rw [gR_e k1, k2, Option.bind_some, s_driftsBy k7 hw6 hdr, Option.bind_some]
    dsimp only
    rw [if_neg c1, gI_e k1, Option.bind_some, k5, if_pos (l_lt (b := 9999) (by omega) (by decide)), gR_e k1, k2, Option.bind_some, gJ_e k1, Option.bind_some, k4, p1, Option.bind_some, gR_e Ks, Rs, Option.bind_some, hsb, Option.bind_some, pJ_e Ks, Option.bind_some, ← hT, ← hht, gR_e Kt, Rt, Option.bind_some, gI_e Kt, Option.bind_some, It, k6]
  have hsub : subs T g.n := by rw [hT]; exact img_subs hg
  -- the class's last step, the canoe being d
  have fin : ∀ (d : Int32) (hd : Hp), Ed (fun b => b = x) ht hd → hd.I x 5 = nI hr → hd.I x 6 = d → hd.J x 4 = T → ∃ h1, f_X6_steer_115 fu x hd = some (nI (cnt (tb T) 64), h1) ∧ CW h1 x v g T (hr + 1) d c tp tl fk fp ∧ ∀ b, x + 20 ≤ b → b < x + 40 → same h h1 b := by
    intro d hd e d5 d6 d4
    have Kd : hd.K x = 6 := by rw [e.2.1]; exact Kt
    have e2 : Ed (fun b => x ≤ b ∧ b ≤ x + 7) h (putI hd x 5 (nI (hr + 1))) := Ed.tr (Ed.tr et (e.mono (fun b hb => by omega))) (Ed.pI (by omega))
    have e3 : Ed (fun b => b = x) ht (putI hd x 5 (nI (hr + 1))) := Ed.tr e (Ed.pI rfl)
    refine ⟨_, c_steer115 Kd d4 d5, hC.up e2 (set.fr (fun b q1 q2 => e3.same (by omega))) (by rw [(e3.2.2.2.2 (x + 1) (by omega)).1]; exact vt) (Or.inr ⟨rfl, rfl⟩) d4 (by rw [putI_I, if_pos rfl, if_pos rfl]) (by rw [putI_I, if_pos rfl, if_neg (by decide)]; exact d6), ed_out e2 (fun b hb => by omega)⟩
  -- the reference's last step
  have finm : ∀ (d : Int32) (h1 hd : Hp), ModP h1 (x + 20) g S hr cn c tp tl fk fp → Ed (fun b => b = x + 20) h1 hd → (∀ k, k ≠ 0 → k ≠ 3 → k ≠ 5 → hd.I (x + 20) k = h1.I (x + 20) k) → hd.I (x + 20) 3 = nI hr → hd.I (x + 20) 5 = d → hd.J (x + 20) 4 = T → ∃ h2, f_X7_steer_98 fu (x + 20) hd = some (nI (cnt (tb T) 64), h2) ∧ ModP h2 (x + 20) g T (hr + 1) d c tp tl fk fp ∧ h2.N = h1.N ∧ ∀ b, b < x + 20 ∨ x + 40 ≤ b → same h1 h2 b := by
    intro d h1 hd q e eI d3 d5 d4
    have Kd : hd.K (x + 20) = 7 := by rw [e.2.1]; exact q.1.K
    have e2 : Ed (fun b => b = x + 20) h1 (putI hd (x + 20) 3 (nI (hr + 1))) := Ed.tr e (Ed.pI rfl)
    exact ⟨_, m_steer98 (by omega) Kd d4 d3, q.up e2 (fun k z0 z3 z5 => by rw [putI_I, if_pos rfl, if_neg z3]; exact eI k z0 z3 z5) d4 (by rw [putI_I, if_pos rfl, if_pos rfl]) (by rw [putI_I, if_pos rfl, if_neg (by decide)]; exact d5), e2.1, ed_inn e2 (fun b hb => by omega)⟩
  have t0k : ∀ h1, ModP h1 (x + 20) g S hr cn c tp tl fk fp → (t0 h1 (x + 20)).I (x + 20) 3 = nI hr ∧ (t0 h1 (x + 20)).I (x + 20) 5 = cn := fun h1 q => ⟨q.t0.2.2.2.1, q.t0.2.2.2.2.1⟩
  rcases r5 with rfl | ⟨cell, hc, rfl⟩
  · refine glue (v' := v) (r := nI (cnt (tb T) 64)) (g' := g) (S' := T) (hr' := hr + 1) (cn' := -1) (c' := c) (tp' := tp) (tl' := tl) (fk' := fk) (fp' := fp) hM ?_ ?_ ⟨hg, r2, hsub, by omega, Or.inl rfl, r6, r7⟩ (by omega)
    · obtain ⟨h1, f1, f2, f3⟩ := fin (-1) ht Ed.rf (by rw [It]; exact k5) (by rw [It]; exact k6) Jt
      refine ⟨h1, ?_, f2, f3⟩
      rw [A2, s_hasCell_n set (Or.inl (by decide)), Option.bind_some, if_pos rfl]
      exact f1
    · intro h1 q
      obtain ⟨t3, t5⟩ := t0k h1 q
      obtain ⟨h2, f1, f2, f3, f4⟩ := finm (-1) h1 (putJ (t0 h1 (x + 20)) (x + 20) 4 T) q (Ed.tr (t0_E h1 (x + 20)) (Ed.pJ rfl)) (fun k z0 z3 z5 => by rw [putJ_I, t0_I _ _ z0]) t3 t5 (by rw [putJ_J, if_pos rfl, if_pos rfl])
      refine ⟨h2, ?_, f2, f3, f4⟩
      rw [B h1 q, if_neg c1, if_neg c2', if_pos rfl, ← hT]
      exact f1
  · have cne : ¬ nI cell = -1 := m1_ne (by omega)
    refine glue (v' := v) (r := nI (cnt (tb T) 64)) (g' := g) (S' := T) (hr' := hr + 1) (cn' := nI (goN g cell way dr)) (c' := c) (tp' := tp) (tl' := tl) (fk' := fk) (fp' := fp) hM ?_ ?_ ⟨hg, r2, hsub, by omega, Or.inr ⟨_, goN_lt hg hc way dr, rfl⟩, r6, r7⟩ (by omega)
    · have sh := set.2.2.1.2.1 cell (by omega)
      by_cases hl : 0 < g.ld cell
      · have e1 : goN g cell way dr = cell := by unfold goN; rw [if_pos hl]
        rw [e1]
        obtain ⟨h1, f1, f2, f3⟩ := fin (nI cell) ht Ed.rf (by rw [It]; exact k5) (by rw [It]; exact k6) Jt
        refine ⟨h1, ?_, f2, f3⟩
        rw [A2, s_hasCell_y set hc, Option.bind_some, if_neg one_ne]
        dsimp only
        rw [gR_e Kt, Rt, Option.bind_some, gJ_e set.1.1, Option.bind_some, gI_e Kt, Option.bind_some, It, k6, s_has (by omega), Option.bind_some, sh, decide_eq_true hl]
        exact f1
      · have e1 : goN g cell way dr = gof g cell way dr := by unfold goN; rw [if_neg hl]
        rw [e1]
        obtain ⟨h1, f1, f2, f3⟩ := fin (nI (gof g cell way dr)) (putI ht x 6 (nI (gof g cell way dr))) (Ed.pI rfl) (by rw [putI_I, if_pos rfl, if_neg (by decide), It]; exact k5) (by rw [putI_I, if_pos rfl, if_pos rfl]) Jt
        refine ⟨h1, ?_, f2, f3⟩
        rw [A2, s_hasCell_y set hc, Option.bind_some, if_neg one_ne]
        dsimp only
        rw [gR_e Kt, Rt, Option.bind_some, gJ_e set.1.1, Option.bind_some, gI_e Kt, Option.bind_some, It, k6, s_has (by omega), Option.bind_some, sh, decide_eq_false hl]
        rw [if_pos (show ((if false = true then 1 else 0 : Int32), ht).1 = 0 from rfl)]
        dsimp only
        rw [gR_e Kt, Rt, Option.bind_some, gI_e Kt, Option.bind_some, It, k6, s_target set hc hway hdr, Option.bind_some, pI_e Kt, Option.bind_some]
        exact f1
    · intro h1 q
      obtain ⟨t3, t5⟩ := t0k h1 q
      have qm : Mo (putJ (t0 h1 (x + 20)) (x + 20) 4 T) (x + 20) g := by
        obtain ⟨⟨s1, s2, s3, s4⟩, sv, ok⟩ := q.t0.1
        exact ⟨⟨s1, s2, s3, s4⟩, sv, ok⟩
      obtain ⟨h2, f1, f2, f3, f4⟩ := finm (nI (goN g cell way dr)) h1 (putI (putJ (t0 h1 (x + 20)) (x + 20) 4 T) (x + 20) 5 (nI (goN g cell way dr))) q (Ed.tr (Ed.tr (t0_E h1 (x + 20)) (Ed.pJ rfl)) (Ed.pI rfl)) (fun k z0 z3 z5 => by rw [putI_I, if_pos rfl, if_neg z5, putJ_I, t0_I _ _ z0]) (by rw [putI_I, if_pos rfl, if_neg (by decide), putJ_I]; exact t3) (by rw [putI_I, if_pos rfl, if_pos rfl]) (by rw [putI_J, putJ_J, if_pos rfl, if_pos rfl])
      refine ⟨h2, ?_, f2, f3, f4⟩
      rw [B h1 q, if_neg c1, if_neg c2', if_neg cne, ← hT, m_goes qm hc hway hdr, Option.bind_some]
      dsimp only
      rw [pI_e (h := putJ (t0 h1 (x + 20)) (x + 20) 4 T) q.1.K, Option.bind_some]
      exact f1
end STEER
