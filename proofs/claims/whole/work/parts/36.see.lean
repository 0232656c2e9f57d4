section SEE
variable {h : Hp} {x v fu : Nat}
def lft (g : Sg) (S : Int64) (wt what : Nat) (w : Int32) : Int64 := mk (fun i => tb S i && decide (sgn g i wt what = w)) g.n 0 0
theorem lft_b {g : Sg} (hg : g.ok) {S : Int64} {wt what : Nat} {w : Int32} {i : Nat} (hi : i < 64) : tb (lft g S wt what w) i = (decide (i < g.n) && (tb S i && decide (sgn g i wt what = w))) := by
  unfold lft
  rw [mk_b hi _ _ _ (by have := hg.n64; omega), tb_0]
  simp
theorem lft_and {g : Sg} (hg : g.ok) {S : Int64} {wt what : Nat} {w : Int32} : S &&& mk (fun i => decide (sgn g i wt what = w)) g.n 0 0 = lft g S wt what w := by
  apply tb_ext
  intro i hi
  rw [tb_and, lft_b hg hi, mk_b hi _ _ _ (by have := hg.n64; omega), tb_0]
  cases tb S i <;> simp
theorem lft_subs {g : Sg} (hg : g.ok) {S : Int64} {wt what : Nat} {w : Int32} : subs (lft g S wt what w) g.n := by
  intro i hi
  by_cases h6 : i < 64
  · rw [lft_b hg h6] at hi
    simp at hi
    exact hi.1
  · rw [tb_big (by omega)] at hi; cases hi
theorem m_seen_l {m : Nat} {g : Sg} {S : Int64} {hr what : Nat} {w : Int32} (hM : Mo h m g) (hf : 64 < fu) (hJ : h.J m 4 = S) (hI : h.I m 3 = nI hr) (hh : hr < 10000) (hwh : what < 3) : ∀ (k c n : Nat) (y : Int64), c + k = g.n → k < n → f_X7_seen_5 fu n m (nI what) w y (nI c) h = some (mk (fun i => tb S i && decide (sgn g i (hr % 6) what = w)) k c y, h)
  | 0, c, n, y, hc, hn => by
    have h64 := hM.2.2.n64
    obtain ⟨n, rfl⟩ := Nat.exists_eq_succ_of_ne_zero (show n ≠ 0 by omega)
    rw [f_X7_seen_5, m_cells hM, Option.bind_some, if_pos (nI_le (by omega) (by omega)), mk]
  | k + 1, c, n, y, hc, hn => by
    have h64 := hM.2.2.n64
    obtain ⟨n, rfl⟩ := Nat.exists_eq_succ_of_ne_zero (show n ≠ 0 by omega)
    rw [f_X7_seen_5, m_cells hM, Option.bind_some, if_neg (nI_ge (show c < g.n by omega) (by omega)), gJ_e hM.K, Option.bind_some, hJ, m_has hM.K (by omega), Option.bind_some]
    have ih := fun y => m_seen_l (what := what) (w := w) hM hf hJ hI hh hwh k (c + 1) n y (by omega) (by omega)
    rw [mk]
    cases ht : tb S c
    · rw [if_pos (show ((if false = true then 1 else 0 : Int32), h).1 = 0 from rfl)]
      show f_X7_seen_5 fu n m (nI what) w y (nI c + 1) h = _
      rw [nI_1, ih]
      simp [ht]
    · rw [if_neg (show ¬ ((if true = true then 1 else 0 : Int32), h).1 = 0 from one_ne)]
      dsimp only
      rw [gI_e hM.K, Option.bind_some, hI, l_rem (b := 6) (by omega) (by decide) (by decide), m_signOf hM hf (by omega) (Nat.mod_lt _ (by omega)) hwh, Option.bind_some]
      by_cases hw : sgn g c (hr % 6) what = w
      · rw [if_pos hw]
        show f_X7_seen_5 fu n m (nI what) w _ (nI c + 1) h = _
        rw [nI_1, ih]
        simp [ht, hw]
      · rw [if_neg hw]
        show f_X7_seen_5 fu n m (nI what) w _ (nI c + 1) h = _
        rw [nI_1, ih]
        simp [ht, hw]
theorem m_seen {m : Nat} {g : Sg} {S : Int64} {hr what : Nat} {w : Int32} (hM : Mo h m g) (hf : 64 < fu) (hJ : h.J m 4 = S) (hI : h.I m 3 = nI hr) (hh : hr < 10000) (hwh : what < 3) : f_X7_seen fu m (nI what) w h = some (lft g S (hr % 6) what w, h) := by
  unfold f_X7_seen
  rw [if_pos hM.K]
  exact m_seen_l hM hf hJ hI hh hwh g.n 0 fu 0 (by omega) (by have := hM.2.2.n64; omega)
theorem c_see61 {T : Int64} (k1 : h.K x = 6) : f_X6_see_61 fu x T h = some (nI (cnt (tb T) 64), putJ h x 4 T) := by
  simp [f_X6_see_61, pJ, gJ, K_pJ, k1, putJ_J, s_bitCount]
theorem m_see51 {m : Nat} {T : Int64} (hf : 64 < fu) (k1 : h.K m = 7) : f_X7_see_51 fu m T h = some (nI (cnt (tb T) 64), putJ h m 4 T) := by
  have y := m_count (h := putJ h m 4 T) (fu := fu) (s := T) k1 hf
  simp [f_X7_see_51, pJ, gJ, K_pJ, k1, putJ_J, y]
theorem q_see (hW : Wd h x v) (hf : 20000 < fu) (a b : Int32) : Tok x v (f_X6_see fu x a b) (f_X7_see fu (x + 20) a b) h := by
  obtain ⟨g, S, hr, cn, c, tp, tl, fk, fp, hC, hM, hR⟩ := hW
  obtain ⟨k1, k2, k3, k4, k5, k6, k7, k8, k9⟩ := cw_get hC
  obtain ⟨hg, r2, r3, r4, r5, r6, r7⟩ := id hR
  have h64 := hg.n64
  have hw6 : hr % 6 < 6 := Nat.mod_lt _ (by omega)
  have hwn := watchN (fu := fu) k1 k5 r4
  rcases pk_ix a (show 3 < 2 ^ 31 by omega) with hx | hx | ⟨what, hwh, rfl⟩
  · refine glue0 (r := -1) hC hM hR ?_ ?_
    · unfold f_X6_see; rw [if_pos k1, isSign_n (Or.inl hx), Option.bind_some, if_pos rfl]
    · intro h1 q
      unfold f_X7_see; rw [if_pos q.1.K, pI_e q.1.K, Option.bind_some, if_pos hx]; rfl
  · refine glue0 (r := -1) hC hM hR ?_ ?_
    · unfold f_X6_see; rw [if_pos k1, isSign_n (Or.inr hx), Option.bind_some, if_pos rfl]
    · intro h1 q
      have z := ge_gt (k := 2) (by omega) hx
      have e3 : (nI 3).toInt = 3 := by decide
      rw [le_ti, e3] at hx
      unfold f_X7_see; rw [if_pos q.1.K, pI_e q.1.K, Option.bind_some, if_neg z.1, if_neg (by rw [le_ti, ti_2]; omega)]; rfl
  obtain ⟨L, hL⟩ : ∃ L, L = lft g S (hr % 6) what b := ⟨_, rfl⟩
  have B : ∀ h1, ModP h1 (x + 20) g S hr cn c tp tl fk fp → f_X7_see fu (x + 20) (nI what) b h1 = if lg_cmp L 0 = 0 then some (-1, t0 h1 (x + 20)) else if cn = -1 then f_X7_see_51 fu (x + 20) L (t0 h1 (x + 20)) else (f_X7_has fu (x + 20) L cn (t0 h1 (x + 20))).bind fun r43 => if r43.1 = 0 then some (-1, r43.2) else f_X7_see_51 fu (x + 20) L r43.2 := by
    intro h1 q
    have mk5 : (t0 h1 (x + 20)).I (x + 20) 5 = cn := q.t0.2.2.2.2.1
    have mK : (t0 h1 (x + 20)).K (x + 20) = 7 := q.1.K
    have ms := m_seen (fu := fu) (what := what) (w := b) q.t0.1 (by omega) q.t0.2.2.1 q.t0.2.2.2.1 r4 hwh
    unfold f_X7_see
    rw [if_pos q.1.K, pI_e q.1.K, Option.bind_some, if_neg (nI_pos (by omega)), if_pos (l_le (b := 2) (by omega) (by decide))]
    show (f_X7_seen fu (x + 20) (nI what) b (t0 h1 (x + 20))).bind _ = _
    rw [ms, Option.bind_some, ← hL]
    dsimp only
    by_cases c1 : lg_cmp L 0 = 0
    · rw [if_pos c1, if_pos c1]
    · rw [if_neg c1, if_neg c1, gI_e mK, Option.bind_some, mk5]
      by_cases c2 : cn = -1
      · rw [if_pos c2, if_pos c2]
      · rw [if_neg c2, if_neg c2, Option.bind_some]
  have A : f_X6_see fu x (nI what) b h = if lg_cmp L 0 = 0 then some (-1, h) else (f_X4_hasCell fu (x + 1) cn h).bind fun r42 => if r42.1 = 0 then f_X6_see_61 fu x L r42.2 else (gI r42.2 6 x 6).bind fun v50 => (f_X6_has fu L v50 r42.2).bind fun r53 => if r53.1 = 0 then some ((-1), r53.2) else f_X6_see_61 fu x L r53.2 := by
    unfold f_X6_see
    rw [if_pos k1, isSign_y hwh, Option.bind_some, if_neg one_ne]
    dsimp only
    rw [gJ_e k1, Option.bind_some, k4, gR_e k1, k2, Option.bind_some, hwn, Option.bind_some]
    dsimp only
    rw [s_having k7 (by omega) hw6 hwh, Option.bind_some]
    dsimp only
    rw [lft_and hg, ← hL]
    by_cases c1 : lg_cmp L 0 = 0
    · rw [if_pos c1, if_pos c1]
    · rw [if_neg c1, if_neg c1, gR_e k1, k2, Option.bind_some, gI_e k1, Option.bind_some, k6]
  have hsub : subs L g.n := by rw [hL]; exact lft_subs hg
  by_cases c1 : lg_cmp L 0 = 0
  · refine glue0 (r := -1) hC hM hR ?_ ?_
    · rw [A, if_pos c1]
    · intro h1 q; rw [B h1 q, if_pos c1]
  -- both take what is left
  have fin : ∃ h1, f_X6_see_61 fu x L h = some (nI (cnt (tb L) 64), h1) ∧ CW h1 x v g L hr cn c tp tl fk fp ∧ ∀ b, x + 20 ≤ b → b < x + 40 → same h h1 b :=
    ⟨_, c_see61 k1, hC.ms (Ed.pJ rfl) (by rw [putJ_J, if_pos rfl, if_pos rfl]) k5 k6, ed_out (Ed.pJ (P := fun b => b = x) rfl) (fun b hb => by omega)⟩
  have finm : ∀ h1, ModP h1 (x + 20) g S hr cn c tp tl fk fp → ∃ h2, f_X7_see_51 fu (x + 20) L (t0 h1 (x + 20)) = some (nI (cnt (tb L) 64), h2) ∧ ModP h2 (x + 20) g L hr cn c tp tl fk fp ∧ h2.N = h1.N ∧ ∀ b, b < x + 20 ∨ x + 40 ≤ b → same h1 h2 b := by
    intro h1 q
    have e2 : Ed (fun b => b = x + 20) h1 (putJ (t0 h1 (x + 20)) (x + 20) 4 L) := Ed.tr (t0_E h1 (x + 20)) (Ed.pJ rfl)
    exact ⟨_, m_see51 (h := t0 h1 (x + 20)) (by omega) q.1.K, q.up e2 (fun k z0 z3 z5 => by rw [putJ_I, t0_I _ _ z0]) (by rw [putJ_J, if_pos rfl, if_pos rfl]) q.t0.2.2.2.1 q.t0.2.2.2.2.1, rfl, ed_inn e2 (fun b hb => by omega)⟩
  rcases r5 with rfl | ⟨cell, hc, rfl⟩
  · refine glue (v' := v) (r := nI (cnt (tb L) 64)) (g' := g) (S' := L) (hr' := hr) (cn' := -1) (c' := c) (tp' := tp) (tl' := tl) (fk' := fk) (fp' := fp) hM ?_ ?_ ⟨hg, r2, hsub, r4, Or.inl rfl, r6, r7⟩ (by omega)
    · obtain ⟨h1, f1, f2, f3⟩ := fin
      refine ⟨h1, ?_, f2, f3⟩
      rw [A, if_neg c1, s_hasCell_n k7 (Or.inl (by decide)), Option.bind_some, if_pos rfl]
      exact f1
    · intro h1 q
      obtain ⟨h2, f1, f2, f3, f4⟩ := finm h1 q
      refine ⟨h2, ?_, f2, f3, f4⟩
      rw [B h1 q, if_neg c1, if_pos rfl]
      exact f1
  · have cne : ¬ nI cell = -1 := m1_ne (by omega)
    cases ht : tb L cell
    · refine glue0 (r := -1) hC hM hR ?_ ?_
      · rw [A, if_neg c1, s_hasCell_y k7 hc, Option.bind_some, if_neg one_ne]
        dsimp only
        rw [gI_e k1, Option.bind_some, k6, s_has (by omega), Option.bind_some, ht]
        rfl
      · intro h1 q
        rw [B h1 q, if_neg c1, if_neg cne, m_has (h := t0 h1 (x + 20)) q.1.K (by omega), Option.bind_some, ht]
        rfl
    · refine glue (v' := v) (r := nI (cnt (tb L) 64)) (g' := g) (S' := L) (hr' := hr) (cn' := nI cell) (c' := c) (tp' := tp) (tl' := tl) (fk' := fk) (fp' := fp) hM ?_ ?_ ⟨hg, r2, hsub, r4, Or.inr ⟨cell, hc, rfl⟩, r6, r7⟩ (by omega)
      · obtain ⟨h1, f1, f2, f3⟩ := fin
        refine ⟨h1, ?_, f2, f3⟩
        rw [A, if_neg c1, s_hasCell_y k7 hc, Option.bind_some, if_neg one_ne]
        dsimp only
        rw [gI_e k1, Option.bind_some, k6, s_has (by omega), Option.bind_some, ht]
        exact f1
      · intro h1 q
        obtain ⟨h2, f1, f2, f3, f4⟩ := finm h1 q
        refine ⟨h2, ?_, f2, f3, f4⟩
        rw [B h1 q, if_neg c1, if_neg cne, m_has (h := t0 h1 (x + 20)) q.1.K (by omega), Option.bind_some, ht]
        exact f1
/-- what is left by the signs of the canoe's cell -/
def its (g : Sg) (wt cc : Nat) : Nat → Nat → Int64 → Int64
  | 0, _, S => S
  | k + 1, w, S => its g wt cc k (w + 1) (lft g S wt w (sgn g cc wt w))
theorem its_subs {g : Sg} (hg : g.ok) {wt cc : Nat} : ∀ (k w : Nat) (S : Int64), subs S g.n → subs (its g wt cc k w S) g.n
  | 0, _, _, hs => hs
  | k + 1, w, S, _ => its_subs hg k (w + 1) _ (lft_subs hg)
theorem c_sights {g : Sg} {hr : Nat} {cc : Nat} {c : Cg} {tp : Nat → Nat} {tl : Nat} {fk fp : Int32} (hf : 64 < fu) (hcc : cc < g.n) (hh : hr < 10000) (hg : g.ok) : ∀ (k w n : Nat) (S : Int64) (h : Hp), w + k = 3 → k < n → CW h x v g S hr (nI cc) c tp tl fk fp → ∃ h1, f_X6_sights_23 fu n x (nI (hr % 6)) (nI w) h = some (nI (cnt (tb (its g (hr % 6) cc k w S)) 64), h1) ∧ CW h1 x v g (its g (hr % 6) cc k w S) hr (nI cc) c tp tl fk fp ∧ Ed (fun b => b = x) h h1
  | 0, w, n, S, h, hw, hn, hC => by
    obtain ⟨n, rfl⟩ := Nat.exists_eq_succ_of_ne_zero (show n ≠ 0 by omega)
    obtain ⟨k1, k2, k3, k4, k5, k6, k7, k8, k9⟩ := cw_get hC
    refine ⟨h, ?_, hC, Ed.rf⟩
    rw [f_X6_sights_23, if_pos (l_gt (b := 2) (by omega) (by omega)), gJ_e k1, Option.bind_some, k4, s_bitCount, Option.bind_some, its]
  | k + 1, w, n, S, h, hw, hn, hC => by
    obtain ⟨n, rfl⟩ := Nat.exists_eq_succ_of_ne_zero (show n ≠ 0 by omega)
    obtain ⟨k1, k2, k3, k4, k5, k6, k7, k8, k9⟩ := cw_get hC
    have e : Ed (fun b => b = x) h (putJ h x 4 (lft g S (hr % 6) w (sgn g cc (hr % 6) w))) := Ed.pJ rfl
    have h6 : hr % 6 < 6 := Nat.mod_lt _ (by omega)
    obtain ⟨h1, p1, p2, p3⟩ := c_sights hf hcc hh hg k (w + 1) n (lft g S (hr % 6) w (sgn g cc (hr % 6) w)) (putJ h x 4 (lft g S (hr % 6) w (sgn g cc (hr % 6) w))) (by omega) (by omega) (hC.ms e (by rw [putJ_J, if_pos rfl, if_pos rfl]) k5 k6)
    refine ⟨h1, ?_, p2, Ed.tr e p3⟩
    rw [f_X6_sights_23, if_neg (l_ngt (b := 2) (by omega) (by decide)), gJ_e k1, Option.bind_some, k4, gR_e k1, k2, Option.bind_some, Option.bind_some, gI_e k1, Option.bind_some, k6, s_signAt k7 hcc h6 (by omega), Option.bind_some]
    dsimp only
    rw [s_having k7 hf h6 (by omega), Option.bind_some]
    dsimp only
    rw [lft_and hg, pJ_e k1, Option.bind_some, nI_1]
    exact p1
theorem m_sights {m : Nat} {g : Sg} {hr : Nat} {cc : Nat} {c : Cg} {tp : Nat → Nat} {tl : Nat} {fk fp : Int32} (hf : 64 < fu) (hcc : cc < g.n) (hh : hr < 10000) : ∀ (k w n : Nat) (S : Int64) (h : Hp), w + k = 3 → k < n → ModP h m g S hr (nI cc) c tp tl fk fp → ∃ h1, f_X7_sights_17 fu n m (nI w) h = some (nI (cnt (tb (its g (hr % 6) cc k w S)) 64), h1) ∧ ModP h1 m g (its g (hr % 6) cc k w S) hr (nI cc) c tp tl fk fp ∧ Ed (fun b => b = m) h h1
  | 0, w, n, S, h, hw, hn, q => by
    obtain ⟨n, rfl⟩ := Nat.exists_eq_succ_of_ne_zero (show n ≠ 0 by omega)
    refine ⟨h, ?_, q, Ed.rf⟩
    rw [f_X7_sights_17, if_pos (l_ge (b := 3) (by omega) (by omega)), gJ_e q.1.K, Option.bind_some, q.2.2.1, m_count q.1.K hf, Option.bind_some, its]
  | k + 1, w, n, S, h, hw, hn, q => by
    obtain ⟨n, rfl⟩ := Nat.exists_eq_succ_of_ne_zero (show n ≠ 0 by omega)
    have e : Ed (fun b => b = m) h (putJ h m 4 (lft g S (hr % 6) w (sgn g cc (hr % 6) w))) := Ed.pJ rfl
    have h6 : hr % 6 < 6 := Nat.mod_lt _ (by omega)
    obtain ⟨h1, p1, p2, p3⟩ := m_sights hf hcc hh k (w + 1) n (lft g S (hr % 6) w (sgn g cc (hr % 6) w)) (putJ h m 4 (lft g S (hr % 6) w (sgn g cc (hr % 6) w))) (by omega) (by omega) (q.up e (fun _ _ _ _ => rfl) (by rw [putJ_J, if_pos rfl, if_pos rfl]) q.2.2.2.1 q.2.2.2.2.1)
    refine ⟨h1, ?_, p2, Ed.tr e p3⟩
    rw [f_X7_sights_17, if_neg (l_nge (b := 3) (by omega) (by decide)), gI_e q.1.K, Option.bind_some, q.2.2.2.2.1, gI_e q.1.K, Option.bind_some, q.2.2.2.1, l_rem (b := 6) (by omega) (by decide) (by decide), m_signOf q.1 hf hcc h6 (by omega), Option.bind_some]
    dsimp only
    rw [m_seen q.1 hf q.2.2.1 q.2.2.2.1 hh (by omega), Option.bind_some]
    dsimp only
    rw [pJ_e q.1.K, Option.bind_some, nI_1]
    exact p1
theorem q_sights (hW : Wd h x v) (hf : 20000 < fu) : Tok x v (f_X6_sights fu x) (f_X7_sights fu (x + 20)) h := by
  obtain ⟨g, S, hr, cn, c, tp, tl, fk, fp, hC, hM, hR⟩ := hW
  obtain ⟨k1, k2, k3, k4, k5, k6, k7, k8, k9⟩ := cw_get hC
  obtain ⟨hg, r2, r3, r4, r5, r6, r7⟩ := id hR
  have h64 := hg.n64
  rcases r5 with rfl | ⟨cell, hc, rfl⟩
  · refine glue0 (r := -1) hC hM hR ?_ ?_
    · unfold f_X6_sights; rw [if_pos k1, gR_e k1, k2, Option.bind_some, gI_e k1, Option.bind_some, k6, s_hasCell_n k7 (Or.inl (by decide)), Option.bind_some, if_pos rfl]
    · intro h1 q
      have z := q.2.2.2.2.1
      simp [f_X7_sights, pI, gI, K_pI, q.1.K, putI_I, z, t0]
  · have cne : ¬ nI cell = -1 := m1_ne (by omega)
    refine glue (v' := v) (r := nI (cnt (tb (its g (hr % 6) cell 3 0 S)) 64)) (g' := g) (S' := its g (hr % 6) cell 3 0 S) (hr' := hr) (cn' := nI cell) (c' := c) (tp' := tp) (tl' := tl) (fk' := fk) (fp' := fp) hM ?_ ?_ ⟨hg, r2, its_subs hg _ _ _ r3, r4, Or.inr ⟨cell, hc, rfl⟩, r6, r7⟩ (by omega)
    · obtain ⟨h1, p1, p2, p3⟩ := c_sights (fu := fu) (by omega) hc r4 hg 3 0 fu S h (by omega) (by omega) hC
      refine ⟨h1, ?_, p2, ed_out p3 (fun b hb => by omega)⟩
      unfold f_X6_sights; rw [if_pos k1, gR_e k1, k2, Option.bind_some, gI_e k1, Option.bind_some, k6, s_hasCell_y k7 hc, Option.bind_some, if_neg one_ne]
      dsimp only
      rw [watchN k1 k5 r4, Option.bind_some]
      exact p1
    · intro h1 q
      obtain ⟨h2, p1, p2, p3⟩ := m_sights (fu := fu) (by omega) hc r4 3 0 fu S (t0 h1 (x + 20)) (by omega) (by omega) q.t0
      have e2 : Ed (fun b => b = x + 20) h1 h2 := Ed.tr (t0_E h1 (x + 20)) p3
      refine ⟨h2, ?_, p2, e2.1, ed_inn e2 (fun b hb => by omega)⟩
      unfold f_X7_sights
      rw [if_pos q.1.K, pI_e q.1.K, Option.bind_some, gI_e (h := putI _ _ _ _) q.1.K, Option.bind_some]
      rw [show (putI h1 (x + 20) 0 0).I (x + 20) 5 = nI cell from q.t0.2.2.2.2.1, if_neg cne]
      exact p1
end SEE
