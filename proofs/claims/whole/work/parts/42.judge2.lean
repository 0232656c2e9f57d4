section JUDGE2
variable {fu : Nat}
/-- what an hour's work reads -/
def RO (h : Hp) (a j p q r : Nat) (g : Sg) (c : Cg) (l : Nat) (B N : Tb) : Prop := JW h j p q r ∧ Se h a g ∧ TabH h p g B ∧ TabH h q g N ∧ TgH h j g (c.wy l) ∧ StH h j g c l
theorem RO.ed {h h1 : Hp} {a j p q r : Nat} {g : Sg} {c : Cg} {l : Nat} {B N : Tb} (e : Ed (fun b => b = r + 1 ∨ b = r + 2) h h1) (ha : a + 7 ≤ j) (x : RO h a j p q r g c l B N) : RO h1 a j p q r g c l B N := by
  obtain ⟨x1, x2, x3, x4, x5, x6⟩ := x
  obtain ⟨-, -, -, -, -, -, -, -, -, b1, b2, b3, c1, c2, c3⟩ := id x1
  unfold slt at b1 b2 b3
  refine ⟨x1.ed e, x2.fr (fun b p1 p2 => e.same (by omega)), x3.fr (fun b p1 p2 => ?_), x4.fr (fun b p1 p2 => ?_), ?_, ?_⟩
  · by_cases z : b = p
    · exact e.same (by omega)
    · exact e.same (by omega)
  · by_cases z : b = q
    · exact e.same (by omega)
    · exact e.same (by omega)
  · unfold TgH; rw [(e.2.2.2.2 (j + 10) (by omega)).1]; exact x5
  · unfold StH; rw [(e.2.2.2.2 (j + 11) (by omega)).2]; exact x6
theorem c_hour {a j p q r : Nat} {g : Sg} {c : Cg} {l wt K : Nat} {B N : Tb} (hf : 64 < fu) (hg : g.ok) (gN : Gp g K N) (hK : K ≤ 1000) (hwt : wt < 6) (ha : a + 7 ≤ j) : ∀ (k ce n : Nat) (h : Hp), ce + k = g.n → k < n → RO h a j p q r g c l B N → (∀ i, i < ce → h.I (r + 1) (wt * 64 + i) = nI (hrT g c l B N wt i).1 ∧ h.I (r + 2) (wt * 64 + i) = nI (hrT g c l B N wt i).2) → ∃ h1, f_X1_goThroughHour_13 fu n j a (nI wt) (nI ((wt + 1) % 6 * 64)) (nI ce) h = some ((), h1) ∧ Ed (fun b => b = r + 1 ∨ b = r + 2) h h1 ∧ (∀ i, i < g.n → h1.I (r + 1) (wt * 64 + i) = nI (hrT g c l B N wt i).1 ∧ h1.I (r + 2) (wt * 64 + i) = nI (hrT g c l B N wt i).2) ∧ ∀ i, i < wt * 64 ∨ wt * 64 + 64 ≤ i → h1.I (r + 1) i = h.I (r + 1) i ∧ h1.I (r + 2) i = h.I (r + 2) i
  | 0, ce, n, h, hc, hn, x, hi => by
    obtain ⟨n, rfl⟩ := Nat.exists_eq_succ_of_ne_zero (show n ≠ 0 by omega)
    have h64 := hg.n64
    refine ⟨h, ?_, Ed.rf, fun i z => hi i (by omega), fun _ _ => ⟨rfl, rfl⟩⟩
    rw [f_X1_goThroughHour_13, gI_e x.2.1.1.1, Option.bind_some, x.2.1.2.1.2.2.1, if_pos (nI_le (by omega) (by omega))]
  | k + 1, ce, n, h, hc, hn, x, hi => by
    obtain ⟨n, rfl⟩ := Nat.exists_eq_succ_of_ne_zero (show n ≠ 0 by omega)
    have h64 := hg.n64
    have hce : ce < g.n := by omega
    obtain ⟨w, se, tp, tq, tg, sth⟩ := id x
    obtain ⟨q1, o1, o2, o3, q5, q6, a1, a2, a3, b1, b2, b3, c1, c2, c3⟩ := id w
    have ei : nI wt * 64 + nI ce = nI (wt * 64 + ce) := by rw [show nI wt * 64 = nI (wt * 64) from pk_mul wt 64, nI_add]
    have at3 : wt * 64 + ce < 384 := by omega
    -- one ce is set, then the rest
    have fin : ∀ (u y : Int32), u = nI (hrT g c l B N wt ce).1 → y = nI (hrT g c l B N wt ce).2 → f_X1_goThroughHour_13 fu (n + 1) j a (nI wt) (nI ((wt + 1) % 6 * 64)) (nI ce) h = f_X1_goThroughHour_13 fu n j a (nI wt) (nI ((wt + 1) % 6 * 64)) (nI (ce + 1)) (st2 h r (wt * 64 + ce) u y) → ∃ h1, f_X1_goThroughHour_13 fu (n + 1) j a (nI wt) (nI ((wt + 1) % 6 * 64)) (nI ce) h = some ((), h1) ∧ Ed (fun b => b = r + 1 ∨ b = r + 2) h h1 ∧ (∀ i, i < g.n → h1.I (r + 1) (wt * 64 + i) = nI (hrT g c l B N wt i).1 ∧ h1.I (r + 2) (wt * 64 + i) = nI (hrT g c l B N wt i).2) ∧ ∀ i, i < wt * 64 ∨ wt * 64 + 64 ≤ i → h1.I (r + 1) i = h.I (r + 1) i ∧ h1.I (r + 2) i = h.I (r + 2) i := by
      intro u y hu hy he
      have e2 : Ed (fun b => b = r + 1 ∨ b = r + 2) h (st2 h r (wt * 64 + ce) u y) := st2_E
      obtain ⟨h1, p1, p2, p3, p4⟩ := c_hour hf hg gN hK hwt ha k (ce + 1) n (st2 h r (wt * 64 + ce) u y) (by omega) (by omega) (x.ed e2 ha) (fun i z => by
        rw [st2_1, st2_2]
        by_cases zz : i = ce
        · rw [if_pos (by omega), if_pos (by omega), zz]; exact ⟨hu, hy⟩
        · rw [if_neg (by omega), if_neg (by omega)]; exact hi i (by omega))
      refine ⟨h1, he.trans p1, Ed.tr e2 p2, p3, fun i z => ?_⟩
      rw [(p4 i z).1, (p4 i z).2, st2_1, st2_2, if_neg (by omega), if_neg (by omega)]
      exact ⟨rfl, rfl⟩
    have hd : f_X1_goThroughHour_13 fu (n + 1) j a (nI wt) (nI ((wt + 1) % 6 * 64)) (nI ce) h = (f_X6_has fu (h.J a 5) (nI ce) h).bind fun r37 => if r37.1 = 0 then (gR r37.2 1 j 6).bind fun v58 => (aJ r37.2 9 v58 (nI wt)).bind fun v62 => (f_X6_has fu v62 (nI ce) r37.2).bind fun r65 => if r65.1 = 0 then (gR r65.2 4 a 10).bind fun v110 => (aI r65.2 8 v110 (nI wt)).bind fun v114 => (f_X1_steerOn fu j (nI ce) ((nI wt * 64) + nI ce) (nI ((wt + 1) % 6 * 64)) v114 r65.2).bind fun r115 => f_X1_goThroughHour_13 fu n j a (nI wt) (nI ((wt + 1) % 6 * 64)) (nI ce + 1) r115.2 else (gR r65.2 1 j 4).bind fun v72 => (gR r65.2 1 j 2).bind fun v78 => (gR r65.2 2 v78 0).bind fun v81 => (aI r65.2 8 v81 ((nI wt * 64) + nI ce)).bind fun v86 => (gR r65.2 1 j 2).bind fun v88 => (gR r65.2 2 v88 1).bind fun v91 => (aI r65.2 8 v91 ((nI wt * 64) + nI ce)).bind fun v96 => (f_X2_set fu v72 ((nI wt * 64) + nI ce) v86 v96 r65.2).bind fun r97 => f_X1_goThroughHour_13 fu n j a (nI wt) (nI ((wt + 1) % 6 * 64)) (nI ce + 1) r97.2 else (gR r37.2 1 j 4).bind fun v44 => (f_X2_set fu v44 ((nI wt * 64) + nI ce) 0 0 r37.2).bind fun r51 => f_X1_goThroughHour_13 fu n j a (nI wt) (nI ((wt + 1) % 6 * 64)) (nI ce + 1) r51.2 := by
      rw [f_X1_goThroughHour_13, gI_e se.1.1, Option.bind_some, se.2.1.2.2.1, if_neg (nI_ge hce (by omega)), gJ_e se.1.1, Option.bind_some]
      rfl
    rw [s_has (by omega), Option.bind_some, se.2.2.1.2.1 ce (by omega)] at hd
    by_cases hl : 0 < g.ld ce
    · refine fin 0 0 ?_ ?_ ?_
      · unfold hrT; rw [if_pos hl]; rfl
      · unfold hrT; rw [if_pos hl]; rfl
      · rw [hd, decide_eq_true hl, if_neg (show ¬ ((if true = true then 1 else 0 : Int32), h).1 = 0 from one_ne)]
        dsimp only
        rw [gR_e q1, a3, Option.bind_some, ei, c_set o3 at3, Option.bind_some, nI_1]
    · rw [decide_eq_false hl, if_pos (show ((if false = true then 1 else 0 : Int32), h).1 = 0 from rfl)] at hd
      dsimp only at hd
      rw [gR_e q1, q6.1, Option.bind_some, aJ_e q6.2.1 q6.2.2 hwt (by omega), Option.bind_some, s_has (by omega), Option.bind_some, sth wt hwt ce hce] at hd
      cases z : thr g c l wt ce
      · refine fin _ _ rfl rfl ?_
        rw [hd, z, if_pos (show ((if false = true then 1 else 0 : Int32), h).1 = 0 from rfl)]
        dsimp only
        rw [gR_e se.1.1, se.1.2.2.2.1.1, Option.bind_some, aI_e se.1.2.2.2.1.2.1 se.1.2.2.2.1.2.2 hwt (by omega), Option.bind_some, se.2.1.2.2.2.2.2.2.2.1 wt hwt, ei]
        unfold f_X1_steerOn
        rw [if_pos q1]
        have := c_steerOn (fu := fu) (i := wt * 64 + ce) hg w tg tq gN hK hce hwt at3 9 0 fu 0 1000000 (by omega) (by omega) (by omega) (by omega)
        rw [show (0 : Int32) = nI 0 from rfl, show (1000000 : Int32) = nI 1000000 from rfl, this, Option.bind_some, nI_1]
        unfold hrT
        rw [if_neg hl, z]
        rfl
      · obtain ⟨t1, t2⟩ := tp wt hwt ce hce
        refine fin (h.I (p + 1) (wt * 64 + ce)) (h.I (p + 2) (wt * 64 + ce)) ?_ ?_ ?_
        · rw [t1]; unfold hrT; rw [if_neg hl, if_pos z]
        · rw [t2]; unfold hrT; rw [if_neg hl, if_pos z]
        · rw [hd, z, if_neg (show ¬ ((if true = true then 1 else 0 : Int32), h).1 = 0 from one_ne)]
          dsimp only
          rw [gR_e q1, a3, Option.bind_some, gR_e q1, a1, Option.bind_some, gR_e o1.1, o1.2.1.1, Option.bind_some, ei, aI_e o1.2.1.2.1 o1.2.1.2.2 at3 (by omega), Option.bind_some, Option.bind_some, gR_e o1.1, o1.2.2.1, Option.bind_some, aI_e o1.2.2.2.1 o1.2.2.2.2 at3 (by omega), Option.bind_some, c_set o3 at3, Option.bind_some, nI_1]
/-- one hour, by all watches -/
theorem c_hours {a j p q r : Nat} {g : Sg} {c : Cg} {l K : Nat} {B N : Tb} (hf : 64 < fu) (hg : g.ok) (gN : Gp g K N) (hK : K ≤ 1000) (ha : a + 7 ≤ j) {x4 : Int32} {k61 : Nat → Nat → Int32 → Hp → Option (Unit × Hp)} : ∀ (k wt n : Nat) (h : Hp), wt + k = 6 → k < n → RO h a j p q r g c l B N → (∀ w, w < wt → ∀ i, i < g.n → h.I (r + 1) (w * 64 + i) = nI (hrT g c l B N w i).1 ∧ h.I (r + 2) (w * 64 + i) = nI (hrT g c l B N w i).2) → ∃ h1, Ed (fun b => b = r + 1 ∨ b = r + 2) h h1 ∧ RO h1 a j p q r g c l B N ∧ TabH h1 r g (hrT g c l B N) ∧ f_X1_goThroughLine_69 fu k61 n j a x4 (nI wt) h = k61 j a (x4 + (-1)) (putR (putR h1 j 4 (some q)) j 3 (some r))
  | 0, wt, n, h, hw, hn, x, hi => by
    obtain ⟨n, rfl⟩ := Nat.exists_eq_succ_of_ne_zero (show n ≠ 0 by omega)
    refine ⟨h, Ed.rf, x, fun w z i zi => hi w (by omega) i zi, ?_⟩
    obtain ⟨q1, o1, o2, o3, q5, q6, a1, a2, a3, b1, b2, b3, c1, c2, c3⟩ := x.1
    rw [f_X1_goThroughLine_69, if_pos (l_ge (b := 6) (by omega) (by omega)), gR_e q1, a3, Option.bind_some, gR_e q1, a2, Option.bind_some, pR_e q1, Option.bind_some, pR_e (h := putR h j 4 (some q)) q1, Option.bind_some]
  | k + 1, wt, n, h, hw, hn, x, hi => by
    obtain ⟨n, rfl⟩ := Nat.exists_eq_succ_of_ne_zero (show n ≠ 0 by omega)
    have h64 := hg.n64
    obtain ⟨h1, p1, p2, p3, p4⟩ := c_hour (fu := fu) (wt := wt) hf hg gN hK (by omega) ha g.n 0 fu h (by omega) (by omega) x (fun i z => by omega)
    obtain ⟨h2, s1, s2, s3, s4⟩ := c_hours hf hg gN hK ha (x4 := x4) (k61 := k61) k (wt + 1) n h1 (by omega) (by omega) (x.ed p2 ha) (fun w z i zi => by
      by_cases e : w = wt
      · subst e; exact p3 i zi
      · rw [(p4 (w * 64 + i) (by omega)).1, (p4 (w * 64 + i) (by omega)).2]; exact hi w (by omega) i zi)
    refine ⟨h2, Ed.tr p2 s1, s2, s3, ?_⟩
    rw [f_X1_goThroughLine_69, if_neg (l_nge (b := 6) (by omega) (by decide))]
    unfold f_X1_goThroughHour
    rw [if_pos x.1.1, nI_1, l_rem (b := 6) (by omega) (by decide) (by decide), show nI ((wt + 1) % 6) * 64 = nI ((wt + 1) % 6 * 64) from pk_mul _ 64]
    rw [show (0 : Int32) = nI 0 from rfl, p1, Option.bind_some]
    exact s4
end JUDGE2
