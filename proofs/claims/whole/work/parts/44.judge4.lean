section JUDGE4
variable {fu : Nat}
theorem c_stops14 {a j sg : Nat} {g : Sg} {c : Cg} {l : Nat} (hf : 64 < fu) (ok : c.ok) (hl : l < c.n) (ha : a + 7 ≤ j) (hs : sg + 5 ≤ j) : ∀ (k wt n : Nat) (h : Hp), wt + k = 6 → k < n → h.K j = 1 → arr h j 6 (j + 11) 9 6 → Se h a g → ChantS h sg → ChantV h sg c → (∀ w, w < wt → ∀ i, i < g.n → tb (h.J (j + 11) w) i = thr g c l w i) → ∃ h1, Ed (fun b => b = j + 11) h h1 ∧ StH h1 j g c l ∧ f_X1_goThroughLine_14 fu n j a sg (nI l) (nI wt) h = (gR h1 1 j 3).bind fun v43 => (gR h1 1 j 2).bind fun v47 => (f_X2_copyOf fu v43 v47 h1).bind fun r50 => (gR r50.2 0 sg 4).bind fun v54 => (aI r50.2 8 v54 (nI l)).bind fun v58 => f_X1_goThroughLine_61 fu fu j a v58 r50.2
  | 0, wt, n, h, hw, hn, hK, ar, se, cs, cv, hi => by
    obtain ⟨n, rfl⟩ := Nat.exists_eq_succ_of_ne_zero (show n ≠ 0 by omega)
    refine ⟨h, Ed.rf, fun w z => hi w (by omega), ?_⟩
    rw [f_X1_goThroughLine_14, if_pos (l_ge (b := 6) (by omega) (by omega))]
  | k + 1, wt, n, h, hw, hn, hK, ar, se, cs, cv, hi => by
    obtain ⟨n, rfl⟩ := Nat.exists_eq_succ_of_ne_zero (show n ≠ 0 by omega)
    obtain ⟨st, p1, p2⟩ := s_stops (fu := fu) (wt := wt) se hf cs cv ok hl (by omega)
    have e2 : Ed (fun b => b = j + 11) h (putJ h (j + 11) wt st) := Ed.pJ rfl
    obtain ⟨h1, s1, s2, s3⟩ := c_stops14 hf ok hl ha hs k (wt + 1) n (putJ h (j + 11) wt st) (by omega) (by omega) hK (e2.arr ar) (se.fr (fun b z1 z2 => e2.same (by omega))) (cs.fr (fun b z1 z2 => e2.same (by omega))) (cv.fr (fun b z1 z2 => e2.same (by omega))) (fun w z i zi => by
      rw [putJ_J, if_pos rfl]
      by_cases zz : w = wt
      · rw [if_pos zz, zz]; exact p2 i zi
      · rw [if_neg zz]; exact hi w (by omega) i zi)
    refine ⟨h1, Ed.tr e2 s1, s2, ?_⟩
    rw [f_X1_goThroughLine_14, if_neg (l_nge (b := 6) (by omega) (by decide)), gR_e hK, ar.1, Option.bind_some, p1, Option.bind_some]
    dsimp only
    rw [sJ_e ar.2.1 ar.2.2 (by omega) (by omega), Option.bind_some, nI_1]
    exact s3
theorem c_line {h : Hp} {a j sg p q r : Nat} {g : Sg} {c : Cg} {l K : Nat} {B : Tb} (hf : 20000 < fu) (hg : g.ok) (ok : c.ok) (hl : l < c.n) (gB : Gp g K B) (hK : K ≤ 900) (ha : a + 7 ≤ j) (hs : sg + 5 ≤ j) (w : JW h j p q r) (se : Se h a g) (cs : ChantS h sg) (cv : ChantV h sg c) (tp : TabH h p g B) : ∃ h1 p' q' r', f_X1_goThroughLine fu j a sg (nI l) h = some ((), h1) ∧ JW h1 j p' q' r' ∧ TabH h1 p' g (lnT g c l B (c.hr l)) ∧ EJ j h h1 := by
  have h64 := hg.n64
  have h12 := ok.1
  obtain ⟨o1, o2, o3, o4, o5⟩ := ok.2 l hl
  obtain ⟨v1, v2, v3, v4, v5⟩ := cv.2 l hl
  obtain ⟨q1, w1, w2, w3, q5, q6, a1, a2, a3, b1, b2, b3, c1, c2, c3⟩ := id w
  have hsl := b1
  have hsl2 := b2
  unfold slt at hsl hsl2
  obtain ⟨ha1, s1, s2, s3⟩ := c_ft2 (fu := fu) (a := a) (j := j) (way := c.wy l) (g := g) (by omega) o1 ha g.n 0 fu h (by omega) (by omega) q1 q5 se (fun i z => by omega)
  have wA := w.ed s2
  have seA := se.fr (h1 := ha1) (fun b z1 z2 => s2.same (by omega))
  have csA := cs.fr (h1 := ha1) (fun b z1 z2 => s2.same (by omega))
  have cvA := cv.fr (h1 := ha1) (fun b z1 z2 => s2.same (by omega))
  have tpA : TabH ha1 p g B := tp.fr (fun b z1 z2 => s2.same (by omega))
  obtain ⟨hb1, t1, t2, t3⟩ := c_stops14 (fu := fu) (a := a) (j := j) (sg := sg) (g := g) (c := c) (l := l) (by omega) ok hl ha hs 6 0 fu ha1 (by omega) (by omega) wA.1 wA.2.2.2.2.2.1 seA csA cvA (fun w z => by omega)
  have wB := wA.ed t1
  have seB := seA.fr (h1 := hb1) (fun b z1 z2 => t1.same (by omega))
  have csB := csA.fr (h1 := hb1) (fun b z1 z2 => t1.same (by omega))
  have cvB := cvA.fr (h1 := hb1) (fun b z1 z2 => t1.same (by omega))
  have tpB : TabH hb1 p g B := tpA.fr (fun b z1 z2 => t1.same (by omega))
  have tgB : TgH hb1 j g (c.wy l) := by unfold TgH; rw [(t1.2.2.2.2 (j + 10) (by omega)).1]; exact s3
  obtain ⟨x1, y1, y2, y3, x5, x6, z1, z2, z3, -⟩ := id wB
  obtain ⟨hc1, u1, u2, u3⟩ := c_copy (fu := fu) y1 y2 (by omega)
  have wC := wB.ed u2
  have seC := seB.fr (h1 := hc1) (fun b z1 z2 => u2.same (by omega))
  have csC := csB.fr (h1 := hc1) (fun b z1 z2 => u2.same (by omega))
  have cvC := cvB.fr (h1 := hc1) (fun b z1 z2 => u2.same (by omega))
  have tpC : TabH hc1 p g B := tpB.fr (fun b z1 z2 => by
    by_cases z : b = p
    · exact u2.same (by omega)
    · exact u2.same (by omega))
  have tqC : TabH hc1 q g B := fun wt hwt ce hce => by
    rw [(u3 (wt * 64 + ce) (by omega)).1, (u3 (wt * 64 + ce) (by omega)).2]
    exact tpB wt hwt ce hce
  have tgC : TgH hc1 j g (c.wy l) := by unfold TgH; rw [(u2.2.2.2.2 (j + 10) (by omega)).1]; exact tgB
  have stC : StH hc1 j g c l := by unfold StH; rw [(u2.2.2.2.2 (j + 11) (by omega)).2]; exact t2
  have ro : RO hc1 a j p q r g c l B (lnT g c l B 0) := ⟨wC, seC, tpC, tqC, tgC, stC⟩
  obtain ⟨h1, q', r', e1, e2, e3, e4⟩ := c_line61 (fu := fu) (by omega) hg gB (by omega) ha (c.hr l) 0 fu q r hc1 (by omega) (by omega) ro
  have j1 : EJ j h ha1 := s2.ej (fun b hb => by omega)
  have j2 : EJ j ha1 hb1 := t1.ej (fun b hb => by omega)
  have j3 : EJ j hb1 hc1 := u2.ej (fun b hb => by omega)
  refine ⟨h1, q', p, r', ?_, e2, e3, ((j1.tr j2).tr j3).tr e4⟩
  unfold f_X1_goThroughLine
  rw [if_pos q1, gR_e cs.1, cs.2.1.1, Option.bind_some, aI_e cs.2.1.2.1 cs.2.1.2.2 (show l < 12 by omega) (by omega), Option.bind_some, v1]
  unfold f_X1_findTargets
  rw [if_pos q1]
  rw [show (0 : Int32) = nI 0 from rfl, s1, Option.bind_some]
  dsimp only
  rw [t3, gR_e x1, z2, Option.bind_some, gR_e x1, z1, Option.bind_some, u1, Option.bind_some]
  dsimp only
  have c4 := csC.2.2.2.2
  rw [gR_e csC.1, c4.1, Option.bind_some, aI_e c4.2.1 c4.2.2 (show l < 12 by omega) (by omega), Option.bind_some, (cvC.2 l hl).2.2.2.2]
  exact e1
theorem c_hear44 {a j sg : Nat} {g : Sg} {c : Cg} (hf : 20000 < fu) (hg : g.ok) (ok : c.ok) (ha : a + 7 ≤ j) (hs : sg + 5 ≤ j) : ∀ (k i n p q r : Nat) (h : Hp), i + k = c.n → k < n → JW h j p q r → Se h a g → ChantS h sg → ChantV h sg c → TabH h p g (chT g c i) → ∃ h1 p' q' r', f_X1_hear_44 fu n j a sg (nI k - 1) h = some ((), h1) ∧ JW h1 j p' q' r' ∧ TabH h1 p' g (fnT g c) ∧ EJ j h h1
  | 0, i, n, p, q, r, h, hi, hn, w, se, cs, cv, tp => by
    obtain ⟨n, rfl⟩ := Nat.exists_eq_succ_of_ne_zero (show n ≠ 0 by omega)
    refine ⟨h, p, q, r, ?_, w, ?_, EJ.rf⟩
    · rw [f_X1_hear_44, if_pos (by decide)]
    · unfold fnT; rw [← show i = c.n by omega]; exact tp
  | k + 1, i, n, p, q, r, h, hi, hn, w, se, cs, cv, tp => by
    obtain ⟨n, rfl⟩ := Nat.exists_eq_succ_of_ne_zero (show n ≠ 0 by omega)
    have h12 := ok.1
    obtain ⟨h1, p', q', r', s1, s2, s3, s4⟩ := c_line hf hg ok (show k < c.n by omega) (chT_gp hg ok i (by omega)) (by omega) ha hs w se cs cv tp
    have ek : c.n - 1 - i = k := by omega
    have tp1 : TabH h1 p' g (chT g c (i + 1)) := by rw [chT, ek]; exact s3
    obtain ⟨h2, p2, q2, r2, u1, u2, u3, u4⟩ := c_hear44 hf hg ok ha hs k (i + 1) n p' q' r' h1 (by omega) (by omega) s2 (se.fr (fun b z1 z2 => s4.2.2.2.2 b (by omega))) (cs.fr (fun b z1 z2 => s4.2.2.2.2 b (by omega))) (cv.fr (fun b z1 z2 => s4.2.2.2.2 b (by omega))) tp1
    refine ⟨h2, p2, q2, r2, ?_, u2, u3, s4.tr u4⟩
    rw [show nI (k + 1) - 1 = nI k from l_sub (b := 1) (by omega)]
    rw [f_X1_hear_44, if_neg (nI_pos (by omega)), s1, Option.bind_some]
    dsimp only
    rw [show nI k + (-1) = nI k - 1 from (Int32.sub_eq_add_neg (nI k) 1).symm]
    exact u1
theorem c_end10 {a j p : Nat} {g : Sg} {wt : Nat} (hp : slt j p) (ha : a + 7 ≤ j) (hwt : wt < 6) {k2 : Nat → Nat → Int32 → Hp → Option (Unit × Hp)} : ∀ (k ce n : Nat) (h : Hp), ce + k = 64 → k < n → h.K j = 1 → h.R j 2 = some p → OutS h p → Se h a g → (∀ i, i < ce → i < g.n → h.I (p + 1) (wt * 64 + i) = nI (tb00 g wt i).1 ∧ h.I (p + 2) (wt * 64 + i) = nI (tb00 g wt i).2) → ∃ h1, f_X1_standAtEnd_10 fu k2 n j a (nI wt) (nI ce) h = k2 j a (nI (wt + 1)) h1 ∧ Ed (fun b => b = p + 1 ∨ b = p + 2) h h1 ∧ (∀ i, i < g.n → h1.I (p + 1) (wt * 64 + i) = nI (tb00 g wt i).1 ∧ h1.I (p + 2) (wt * 64 + i) = nI (tb00 g wt i).2) ∧ ∀ i, i < wt * 64 → h1.I (p + 1) i = h.I (p + 1) i ∧ h1.I (p + 2) i = h.I (p + 2) i
  | 0, ce, n, h, hc, hn, hK, hR, os, se, hi => by
    obtain ⟨n, rfl⟩ := Nat.exists_eq_succ_of_ne_zero (show n ≠ 0 by omega)
    have h64 := se.2.2.2.n64
    refine ⟨h, ?_, Ed.rf, fun i z => hi i (by omega) z, fun _ _ => ⟨rfl, rfl⟩⟩
    rw [f_X1_standAtEnd_10, if_pos (l_ge (b := 64) (by omega) (by omega)), nI_1]
  | k + 1, ce, n, h, hc, hn, hK, hR, os, se, hi => by
    obtain ⟨n, rfl⟩ := Nat.exists_eq_succ_of_ne_zero (show n ≠ 0 by omega)
    unfold slt at hp
    have at3 : wt * 64 + ce < 384 := by omega
    have ei : nI wt * 64 + nI ce = nI (wt * 64 + ce) := by rw [show nI wt * 64 = nI (wt * 64) from pk_mul wt 64, nI_add]
    have fin : ∀ u : Nat, (u = (tb00 g wt ce).1) → (u = (tb00 g wt ce).2) → f_X1_standAtEnd_10 fu k2 (n + 1) j a (nI wt) (nI ce) h = f_X1_standAtEnd_10 fu k2 n j a (nI wt) (nI (ce + 1)) (st2 h p (wt * 64 + ce) (nI u) (nI u)) → ∃ h1, f_X1_standAtEnd_10 fu k2 (n + 1) j a (nI wt) (nI ce) h = k2 j a (nI (wt + 1)) h1 ∧ Ed (fun b => b = p + 1 ∨ b = p + 2) h h1 ∧ (∀ i, i < g.n → h1.I (p + 1) (wt * 64 + i) = nI (tb00 g wt i).1 ∧ h1.I (p + 2) (wt * 64 + i) = nI (tb00 g wt i).2) ∧ ∀ i, i < wt * 64 → h1.I (p + 1) i = h.I (p + 1) i ∧ h1.I (p + 2) i = h.I (p + 2) i := by
      intro u e1 e2 he
      have es : Ed (fun b => b = p + 1 ∨ b = p + 2) h (st2 h p (wt * 64 + ce) (nI u) (nI u)) := st2_E
      obtain ⟨h1, p1, p2, p3, p4⟩ := c_end10 (g := g) (by unfold slt; omega) ha hwt (k2 := k2) k (ce + 1) n _ (by omega) (by omega) (by rw [es.2.1]; exact hK) (by rw [es.2.2.2.1]; exact hR) (es.outS os) (se.fr (fun b z1 z2 => es.same (by omega))) (fun i z zi => by
        rw [st2_1, st2_2]
        by_cases zz : i = ce
        · rw [if_pos (by omega), if_pos (by omega), zz, ← e1, ← e2]; exact ⟨rfl, rfl⟩
        · rw [if_neg (by omega), if_neg (by omega)]; exact hi i (by omega) zi)
      refine ⟨h1, he.trans p1, Ed.tr es p2, p3, fun i z => ?_⟩
      rw [(p4 i z).1, (p4 i z).2, st2_1, st2_2, if_neg (by omega), if_neg (by omega)]
      exact ⟨rfl, rfl⟩
    have hd : f_X1_standAtEnd_10 fu k2 (n + 1) j a (nI wt) (nI ce) h = if (if tb (h.J a 5) ce then 1 else 0 : Int32) = 0 then f_X1_standAtEnd_33 fu k2 (fun y0 y1 y2 y3 hy => f_X1_standAtEnd_10 fu k2 n y0 y1 y2 y3 hy) j a (nI wt) (nI ce) 1000000 h else f_X1_standAtEnd_33 fu k2 (fun y0 y1 y2 y3 hy => f_X1_standAtEnd_10 fu k2 n y0 y1 y2 y3 hy) j a (nI wt) (nI ce) 0 h := by
      rw [f_X1_standAtEnd_10, if_neg (l_nge (b := 64) (by omega) (by decide)), gJ_e se.1.1, Option.bind_some, s_has (by omega), Option.bind_some]
    have h33 : ∀ u : Nat, f_X1_standAtEnd_33 fu k2 (fun y0 y1 y2 y3 hy => f_X1_standAtEnd_10 fu k2 n y0 y1 y2 y3 hy) j a (nI wt) (nI ce) (nI u) h = f_X1_standAtEnd_10 fu k2 n j a (nI wt) (nI (ce + 1)) (st2 h p (wt * 64 + ce) (nI u) (nI u)) := by
      intro u
      unfold f_X1_standAtEnd_33
      rw [gR_e hK, hR, Option.bind_some, ei, c_set os at3, Option.bind_some, nI_1]
    rw [se.2.2.1.2.1 ce (by omega)] at hd
    by_cases hl : 0 < g.ld ce
    · refine fin 0 (by unfold tb00; rw [if_pos hl]) (by unfold tb00; rw [if_pos hl]) ?_
      rw [hd, decide_eq_true hl, if_neg (show ¬ (if true = true then 1 else 0 : Int32) = 0 from one_ne)]
      exact h33 0
    · refine fin 1000000 (by unfold tb00; rw [if_neg hl]) (by unfold tb00; rw [if_neg hl]) ?_
      rw [hd, decide_eq_false hl, if_pos (show (if false = true then 1 else 0 : Int32) = 0 from rfl)]
      exact h33 1000000
theorem c_end2 {a j p : Nat} {g : Sg} (hf : 64 < fu) (hp : slt j p) (ha : a + 7 ≤ j) : ∀ (k wt n : Nat) (h : Hp), wt + k = 6 → k < n → h.K j = 1 → h.R j 2 = some p → OutS h p → Se h a g → (∀ w, w < wt → ∀ i, i < g.n → h.I (p + 1) (w * 64 + i) = nI (tb00 g w i).1 ∧ h.I (p + 2) (w * 64 + i) = nI (tb00 g w i).2) → ∃ h1, f_X1_standAtEnd_2 fu n j a (nI wt) h = some ((), h1) ∧ Ed (fun b => b = p + 1 ∨ b = p + 2) h h1 ∧ TabH h1 p g (tb00 g)
  | 0, wt, n, h, hw, hn, hK, hR, os, se, hi => by
    obtain ⟨n, rfl⟩ := Nat.exists_eq_succ_of_ne_zero (show n ≠ 0 by omega)
    refine ⟨h, ?_, Ed.rf, fun w z => hi w (by omega)⟩
    rw [f_X1_standAtEnd_2, if_pos (l_ge (b := 6) (by omega) (by omega))]
  | k + 1, wt, n, h, hw, hn, hK, hR, os, se, hi => by
    obtain ⟨n, rfl⟩ := Nat.exists_eq_succ_of_ne_zero (show n ≠ 0 by omega)
    have h64 := se.2.2.2.n64
    obtain ⟨h1, p1, p2, p3, p4⟩ := c_end10 (fu := fu) (wt := wt) hp ha (by omega) (k2 := fun y0 y1 y2 hy => f_X1_standAtEnd_2 fu n y0 y1 y2 hy) 64 0 fu h (by omega) (by omega) hK hR os se (fun i z => by omega)
    have hp' := hp
    unfold slt at hp'
    obtain ⟨h2, s1, s2, s3⟩ := c_end2 hf hp ha k (wt + 1) n h1 (by omega) (by omega) (by rw [p2.2.1]; exact hK) (by rw [p2.2.2.2.1]; exact hR) (p2.outS os) (se.fr (fun b z1 z2 => p2.same (by omega))) (fun w z i zi => by
      by_cases zz : w = wt
      · subst zz; exact p3 i zi
      · rw [(p4 (w * 64 + i) (by omega)).1, (p4 (w * 64 + i) (by omega)).2]; exact hi w (by omega) i zi)
    refine ⟨h2, ?_, Ed.tr p2 s2, s3⟩
    rw [f_X1_standAtEnd_2, if_neg (l_nge (b := 6) (by omega) (by decide))]
    rw [show (0 : Int32) = nI 0 from rfl, p1]
    exact s1
/-- the whole chant is heard -/
theorem c_hear19 {h : Hp} {a j sg p q r v : Nat} {g : Sg} {c : Cg} (hf : 20000 < fu) (hg : g.ok) (ok : c.ok) (ha : a + 7 ≤ j) (hs : sg + 5 ≤ j) (w : JW h j p q r) (se : Se h a g) (hv : h.I a 3 = nI v) (cs : ChantS h sg) (cv : ChantV h sg c) : ∃ h1, f_X1_hear_19 fu j a sg h = some ((), h1) ∧ JudgeS h1 j ∧ JudgeT h1 j g c ∧ h1.I j 1 = nI v ∧ h1.N = h.N ∧ ∀ b, b < j ∨ j + 12 ≤ b → same h h1 b := by
  obtain ⟨ha1, hha⟩ : ∃ ha1, ha1 = putI (putI h j 0 1) j 1 (nI v) := ⟨_, rfl⟩
  have e1 : Ed (fun b => b = j) h ha1 := by rw [hha]; exact Ed.tr (Ed.pI rfl) (Ed.pI rfl)
  have wA := w.ed e1
  have seA := se.fr (h1 := ha1) (fun b z1 z2 => e1.same (by omega))
  have csA := cs.fr (h1 := ha1) (fun b z1 z2 => e1.same (by omega))
  have cvA := cv.fr (h1 := ha1) (fun b z1 z2 => e1.same (by omega))
  obtain ⟨q1, o1, o2, o3, q5, q6, a1, a2, a3, b1, b2, b3, c1, c2, c3⟩ := id wA
  obtain ⟨hb1, s1, s2, s3⟩ := c_end2 (fu := fu) (by omega) b1 ha 6 0 fu ha1 (by omega) (by omega) q1 a1 o1 seA (fun w z => by omega)
  have hsl := b1
  unfold slt at hsl
  have jB : EJ j ha1 hb1 := s2.ej (fun b hb => by omega)
  have h12 := ok.1
  obtain ⟨h1, p', q', r', u1, u2, u3, u4⟩ := c_hear44 (fu := fu) hf hg ok ha hs c.n 0 fu p q r hb1 (by omega) (by omega) (wA.ed s2) (seA.fr (fun b z1 z2 => s2.same (by omega))) (csA.fr (fun b z1 z2 => s2.same (by omega))) (cvA.fr (fun b z1 z2 => s2.same (by omega))) s3
  have csB := csA.fr (h1 := hb1) (fun b z1 z2 => s2.same (by omega))
  have cvB := cvA.fr (h1 := hb1) (fun b z1 z2 => s2.same (by omega))
  have jj := jB.tr u4
  refine ⟨h1, ?_, u2.s, ⟨p', u2.2.2.2.2.2.2.1, u2.2.2.2.2.2.2.2.2.2.1, u3⟩, ?_, ?_, ?_⟩
  · unfold f_X1_hear_19
    rw [pI_e w.1, Option.bind_some, gI_e (h := putI _ _ _ _) se.1.1, Option.bind_some, putI_I, if_neg (by omega), hv, pI_e (h := putI _ _ _ _) w.1, Option.bind_some, ← hha]
    unfold f_X1_standAtEnd
    rw [if_pos q1]
    rw [show (0 : Int32) = nI 0 from rfl, s1, Option.bind_some]
    dsimp only
    rw [gI_e csB.1, Option.bind_some, cvB.1]
    exact u1
  · rw [jj.2.2.2.1, hha, putI_I, if_pos rfl, if_pos rfl]
  · rw [jj.1, e1.1]
  · intro b hb
    exact (e1.same (by omega)).tr (jj.2.2.2.2 b hb)
end JUDGE4
