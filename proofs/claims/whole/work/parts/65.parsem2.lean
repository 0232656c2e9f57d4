def mU3 (fu x0 : Nat) (h : Hp) : Option (Int32 × Hp) :=
    (f_X7_takes fu x0 0 3 h).bind fun r139 =>
    if r139.1 = 0 then
      some (0, r139.2)
    else
      (gR r139.2 7 x0 19).bind fun v148 =>
      (gI r139.2 7 x0 16).bind fun v152 =>
      (gI r139.2 7 x0 26).bind fun v156 =>
      (sI r139.2 8 v148 v152 v156).bind fun h159 =>
      (f_X7_next fu x0 h159).bind fun r161 =>
      f_X7_readLine_164 fu x0 r161.2
def mU1 (fu x0 : Nat) (h : Hp) : Option (Int32 × Hp) :=
        (gI h 7 x0 25).bind fun v69 =>
        if v69 = 3 then
          (f_X7_next fu x0 h).bind fun r77 =>
          (gI r77.2 7 x0 25).bind fun v81 =>
          if v81 = 5 then
            f_X7_readLine_112 fu x0 r77.2
          else
            (gI r77.2 7 x0 25).bind fun v89 =>
            if v89 = 6 then
              f_X7_readLine_112 fu x0 r77.2
            else
              (gI r77.2 7 x0 25).bind fun v98 =>
              if v98 = 7 then
                f_X7_readLine_112 fu x0 r77.2
              else
                (f_X7_fails fu x0 1 r77.2).bind fun r108 =>
                if r108.1 = 0 ∨ r108.1 = 1 then some (r108.1, r108.2) else none
        else
          f_X7_readLine_164 fu x0 h
section PARSEM2
variable {m fu : Nat} {tp : Nat → Nat} {tl : Nat} {c : Cg}
theorem NxW.r {h : Hp} {pl k : Nat} {w : Int32} (q : NxW h m tp tl pl) (h1 : k ≠ 22) (h2 : k ≠ 23) : NxW (putI h m k w) m tp tl pl := by
  obtain ⟨r1, r2, r3, r4, r5, r6⟩ := q
  have e : Ed (fun b => b = m) h (putI h m k w) := Ed.pI rfl
  exact ⟨r1, e.arr r2, by rw [w3, if_neg (by omega)]; exact r3, fun j hj => by rw [putI_I, if_neg (by omega)]; exact r4 j hj, r5, by rw [w3, if_neg (by omega)]; exact r6⟩
/-- a row's number is written at the line that is being read -/
theorem MD.q {h : Hp} {a : Nat} {w : Int32} (ha : m + 8 ≤ a ∧ a ≤ m + 11) (q : MD h m c) : MD (putI h a c.n w) m c := by
  refine ⟨by rw [putI_I, if_neg (by omega)]; exact q.1, fun k hk => ?_⟩
  obtain ⟨q1, q2, q3, q4⟩ := q.2 k hk
  have o : ∀ b, (putI h a c.n w).I b k = h.I b k := fun b => by
    rw [putI_I]
    by_cases e : b = a
    · rw [if_pos e, if_neg (by omega)]
    · rw [if_neg e]
  rw [o, o, o, o]
  exact ⟨q1, q2, q3, q4⟩
theorem ml_T1 (hb : ∀ j, j < tl → tp j < 256) (hf : 20000 < fu) (hn : c.n < 12) {h : Hp} {p way sn vl : Nat} (hp : p ≤ tl) (q : TkM h m tp tl p) (mn : MN h m) (md : MD h m c) (rw0 : Rw h m c.n way sn vl) : OkM m tp tl c h (f_X7_readLine_164 fu m h) (pT1 tp tl p way sn vl) := by
  unfold f_X7_readLine_164 pT1
  rw [gI_e q.1.1, Option.bind_some]
  by_cases z : tK tp tl p = 6
  · rw [if_pos (show h.I m 25 = 4 from km_y q z), if_pos z]
    obtain ⟨h1, a1, a2, a3⟩ := m_nx (fu := fu) hb hf hp q
    rw [a1, Option.bind_some]
    dsimp only
    refine OkM.pre a3.rd ?_
    have mn1 := mn.ed a3.1
    have md1 := md.nx a3
    have rw1 := rw0.nx a3
    unfold pT2
    by_cases z2 : tK tp tl (tE tp tl p) = 2
    · rw [if_pos z2]
      by_cases y : tV tp tl (tE tp tl p) < 1 ∨ 20 < tV tp tl (tE tp tl p)
      · rw [if_pos y]
        obtain ⟨h2, b1, b2⟩ := m_tk1 (fu := fu) (a := 1) (b := 20) (by decide) a2 z2 y
        rw [show f_X7_takes fu m 1 20 h1 = _ from b1, Option.bind_some]
        dsimp only
        rw [if_pos rfl]
        exact OkM.f (by decide) ⟨h2, rfl, b2⟩
      · rw [if_neg y, show f_X7_takes fu m 1 20 h1 = _ from m_tk0 (fu := fu) (a := 1) (b := 20) (by decide) a2 z2 y, Option.bind_some]
        dsimp only
        obtain ⟨h2, e2⟩ : ∃ h2, h2 = putI h1 (m + 11) c.n (nI (tV tp tl (tE tp tl p))) := ⟨_, rfl⟩
        rw [if_neg one_ne, gR_e a2.1.1, mn1.2.2.2.1, Option.bind_some, gI_e a2.1.1, Option.bind_some, md1.1, gI_e a2.1.1, Option.bind_some, a2.2.2.2 z2, sI_e mn1.2.2.2.2.1 mn1.2.2.2.2.2 hn (by decide), Option.bind_some, ← e2]
        have E2 : RdE h1 h2 m := by rw [e2]; exact RdE.q (by omega)
        have q2 : TkM h2 m tp tl (tE tp tl p) := by rw [e2]; exact a2.q (by omega) (by omega)
        have mn2 : MN h2 m := mn1.ed E2.1
        have md2 : MD h2 m c := by rw [e2]; exact md1.q (by omega)
        have rw2 : Rw h2 m c.n way sn vl := by
          unfold Rw
          rw [e2, putI_I, if_neg (by omega), putI_I, if_neg (by omega), putI_I, if_neg (by omega)]
          exact rw1
        have h11 : h2.I (m + 11) c.n = nI (tV tp tl (tE tp tl p)) := by rw [e2, w3, if_pos rfl]
        obtain ⟨h3, c1, c2, c3⟩ := m_nx (fu := fu) hb hf (tE_le hp) q2
        rw [c1, Option.bind_some]
        dsimp only
        refine OkM.pre (RdE.tr E2 c3.rd) ?_
        have md3 := md2.nx c3
        have rw3 := rw2.nx c3
        have h311 : h3.I (m + 11) c.n = nI (tV tp tl (tE tp tl p)) := by rw [(c3.1.2.2.2.2 (m + 11) (by omega)).1]; exact h11
        rw [gI_e c2.1.1, Option.bind_some]
        unfold pT3
        by_cases z3 : tK tp tl (tE tp tl (tE tp tl p)) = 3
        · rw [if_pos (show h3.I m 25 = 9 from km_y c2 z3), if_pos z3, gI_e c2.1.1, Option.bind_some, md3.1, nI_1, pI_e c2.1.1, Option.bind_some]
          have q4 : NxW (putI h3 m 16 (nI (c.n + 1))) m tp tl (tE tp tl (tE tp tl (tE tp tl p))) := c2.1.r (by decide) (by decide)
          obtain ⟨h5, d1, d2, d3⟩ := m_next (fu := fu) hb hf (tE_le (tE_le (tE_le hp))) q4
          rw [d1, Option.bind_some]
          refine ⟨h5, rfl, RdE.tr (RdE.p (Or.inl rfl)) d3.rd, fun _ => ⟨d2, MD.nx d3 ⟨?_, fun k hk => ?_⟩⟩, fun y => absurd rfl y⟩
          · rw [w3, if_pos rfl]; rfl
          · have hk : k < c.n + 1 := hk
            rw [putI_I, if_neg (by omega), putI_I, if_neg (by omega), putI_I, if_neg (by omega), putI_I, if_neg (by omega)]
            show _ = nI (if k = c.n then way else c.wy k) ∧ _ = nI (ms (if k = c.n then sn else c.sn k)) ∧ ((if k = c.n then sn else c.sn k) = 1 ∨ (if k = c.n then sn else c.sn k) = 2 → _ = nI (if k = c.n then vl else c.vl k)) ∧ _ = nI (if k = c.n then tV tp tl (tE tp tl p) else c.hr k)
            by_cases w : k = c.n
            · subst w
              simp only [if_true]
              exact ⟨rw3.1, rw3.2.1, rw3.2.2, h311⟩
            · simp only [if_neg w]
              exact md3.2 k (by omega)
        · rw [if_neg (show ¬ h3.I m 25 = 9 from km_n c2 (k := 3) (by decide) z3), if_neg z3]
          exact OkM.f (by decide) (m_fl (k := 1) c2)
    · rw [if_neg z2]
      obtain ⟨h2, b1, b2⟩ := m_tk2 (fu := fu) (a := 1) (b := 20) a2 z2
      rw [b1, Option.bind_some]
      dsimp only
      rw [if_pos rfl]
      exact OkM.f (by decide) ⟨h2, rfl, b2⟩
  · rw [if_neg (show ¬ h.I m 25 = 4 from km_n q (k := 6) (by decide) z), if_neg z]
    exact OkM.f (by decide) (m_fl (k := 1) q)
theorem ml_U3 (hb : ∀ j, j < tl → tp j < 256) (hf : 20000 < fu) (hn : c.n < 12) {h : Hp} {p way sn : Nat} (hp : p ≤ tl) (q : TkM h m tp tl p) (mn : MN h m) (md : MD h m c) (r8 : h.I (m + 8) c.n = nI way) (r9 : h.I (m + 9) c.n = nI (ms sn)) : OkM m tp tl c h (mU3 fu m h) (pU3 tp tl p way sn) := by
  unfold mU3 pU3
  by_cases z : tK tp tl p = 2
  · rw [if_pos z]
    by_cases y : 3 < tV tp tl p
    · rw [if_pos y]
      obtain ⟨h2, b1, b2⟩ := m_tk1 (fu := fu) (a := 0) (b := 3) (by decide) q z (Or.inr y)
      rw [show f_X7_takes fu m 0 3 h = _ from b1, Option.bind_some]
      dsimp only
      rw [if_pos rfl]
      exact OkM.f (by decide) ⟨h2, rfl, b2⟩
    · rw [if_neg y, show f_X7_takes fu m 0 3 h = _ from m_tk0 (fu := fu) (a := 0) (b := 3) (by decide) q z (by omega), Option.bind_some]
      dsimp only
      obtain ⟨h2, e2⟩ : ∃ h2, h2 = putI h (m + 10) c.n (nI (tV tp tl p)) := ⟨_, rfl⟩
      rw [if_neg one_ne, gR_e q.1.1, mn.2.2.1.1, Option.bind_some, gI_e q.1.1, Option.bind_some, md.1, gI_e q.1.1, Option.bind_some, q.2.2.2 z, sI_e mn.2.2.1.2.1 mn.2.2.1.2.2 hn (by decide), Option.bind_some, ← e2]
      have E2 : RdE h h2 m := by rw [e2]; exact RdE.q (by omega)
      have q2 : TkM h2 m tp tl p := by rw [e2]; exact q.q (by omega) (by omega)
      have mn2 : MN h2 m := mn.ed E2.1
      have md2 : MD h2 m c := by rw [e2]; exact md.q (by omega)
      have rw2 : Rw h2 m c.n way sn (tV tp tl p) := by
        unfold Rw
        rw [e2, putI_I, if_neg (by omega), putI_I, if_neg (by omega), w3, if_pos rfl]
        exact ⟨r8, r9, fun _ => rfl⟩
      obtain ⟨h3, c1, c2, c3⟩ := m_nx (fu := fu) hb hf hp q2
      rw [c1, Option.bind_some]
      dsimp only
      exact OkM.pre (RdE.tr E2 c3.rd) (ml_T1 hb hf hn (tE_le hp) c2 (mn2.ed c3.1) (md2.nx c3) (rw2.nx c3))
  · rw [if_neg z]
    obtain ⟨h2, b1, b2⟩ := m_tk2 (fu := fu) (a := 0) (b := 3) q z
    rw [b1, Option.bind_some]
    dsimp only
    rw [if_pos rfl]
    exact OkM.f (by decide) ⟨h2, rfl, b2⟩
theorem ml_112 (hb : ∀ j, j < tl → tp j < 256) (hf : 20000 < fu) (hn : c.n < 12) {h : Hp} {p way : Nat} (hp : p ≤ tl) (q : TkM h m tp tl p) (mn : MN h m) (md : MD h m c) (r8 : h.I (m + 8) c.n = nI way) (hk : tK tp tl p = 7 ∨ tK tp tl p = 8 ∨ tK tp tl p = 9) : OkM m tp tl c h (f_X7_readLine_112 fu m h) (pU2 tp tl p way) := by
  obtain ⟨sn, e9, hs⟩ : ∃ sn, kM (tK tp tl p) = ms sn ∧ (tK tp tl p = 7 ∧ sn = 3 ∨ tK tp tl p = 8 ∧ sn = 1 ∨ tK tp tl p = 9 ∧ sn = 2) := by
    rcases hk with z | z | z
    · exact ⟨3, by rw [z]; rfl, Or.inl ⟨z, rfl⟩⟩
    · exact ⟨1, by rw [z]; rfl, Or.inr (Or.inl ⟨z, rfl⟩)⟩
    · exact ⟨2, by rw [z]; rfl, Or.inr (Or.inr ⟨z, rfl⟩)⟩
  obtain ⟨h2, e2⟩ : ∃ h2, h2 = putI h (m + 9) c.n (nI (ms sn)) := ⟨_, rfl⟩
  have E2 : RdE h h2 m := by rw [e2]; exact RdE.q (by omega)
  have q2 : TkM h2 m tp tl p := by rw [e2]; exact q.q (by omega) (by omega)
  have mn2 : MN h2 m := mn.ed E2.1
  have md2 : MD h2 m c := by rw [e2]; exact md.q (by omega)
  have i8 : h2.I (m + 8) c.n = nI way := by rw [e2, putI_I, if_neg (by omega)]; exact r8
  have i9 : h2.I (m + 9) c.n = nI (ms sn) := by rw [e2, w3, if_pos rfl]
  obtain ⟨h3, c1, c2, c3⟩ := m_nx (fu := fu) hb hf hp q2
  have j8 : h3.I (m + 8) c.n = nI way := by rw [(c3.1.2.2.2.2 (m + 8) (by omega)).1]; exact i8
  have j9 : h3.I (m + 9) c.n = nI (ms sn) := by rw [(c3.1.2.2.2.2 (m + 9) (by omega)).1]; exact i9
  have mn3 := mn2.ed c3.1
  have md3 := md2.nx c3
  have u : f_X7_readLine_112 fu m h = if nI (ms sn) = 5 then f_X7_readLine_164 fu m h3 else mU3 fu m h3 := by
    unfold f_X7_readLine_112
    rw [gI_e q.1.1, Option.bind_some, q.2.1, e9, gR_e q.1.1, mn.2.1.1, Option.bind_some, gI_e q.1.1, Option.bind_some, md.1, sI_e mn.2.1.2.1 mn.2.1.2.2 hn (by decide), Option.bind_some, ← e2, c1, Option.bind_some]
    rfl
  rw [u]
  refine OkM.pre (RdE.tr E2 c3.rd) ?_
  unfold pU2
  rcases hs with ⟨z, rfl⟩ | ⟨z, rfl⟩ | ⟨z, rfl⟩
  · rw [if_pos z, if_pos (show nI (ms 3) = 5 by decide)]
    exact ml_T1 hb hf hn (tE_le hp) c2 mn3 md3 ⟨j8, j9, fun w => by omega⟩
  · rw [if_neg (show ¬ tK tp tl p = 7 by omega), if_pos z, if_neg (show ¬ nI (ms 1) = 5 by decide)]
    exact ml_U3 hb hf hn (tE_le hp) c2 mn3 md3 j8 j9
  · rw [if_neg (show ¬ tK tp tl p = 7 by omega), if_neg (show ¬ tK tp tl p = 8 by omega), if_pos z, if_neg (show ¬ nI (ms 2) = 5 by decide)]
    exact ml_U3 hb hf hn (tE_le hp) c2 mn3 md3 j8 j9
theorem ml_U1 (hb : ∀ j, j < tl → tp j < 256) (hf : 20000 < fu) (hn : c.n < 12) {h : Hp} {p way : Nat} (hp : p ≤ tl) (q : TkM h m tp tl p) (mn : MN h m) (md : MD h m c) (r8 : h.I (m + 8) c.n = nI way) (r9 : h.I (m + 9) c.n = nI 0) : OkM m tp tl c h (mU1 fu m h) (pU1 tp tl p way) := by
  unfold mU1 pU1
  rw [gI_e q.1.1, Option.bind_some]
  by_cases z : tK tp tl p = 5
  · rw [if_pos (show h.I m 25 = 3 from km_y q z), if_pos z]
    obtain ⟨h3, c1, c2, c3⟩ := m_nx (fu := fu) hb hf hp q
    have j8 : h3.I (m + 8) c.n = nI way := by rw [(c3.1.2.2.2.2 (m + 8) (by omega)).1]; exact r8
    have mn3 := mn.ed c3.1
    have md3 := md.nx c3
    rw [c1, Option.bind_some]
    dsimp only
    rw [gI_e c2.1.1, Option.bind_some]
    refine OkM.pre c3.rd ?_
    by_cases z7 : tK tp tl (tE tp tl p) = 7
    · rw [if_pos (show h3.I m 25 = 5 from km_y c2 z7)]
      exact ml_112 hb hf hn (tE_le hp) c2 mn3 md3 j8 (Or.inl z7)
    · rw [if_neg (show ¬ h3.I m 25 = 5 from km_n c2 (k := 7) (by decide) z7), Option.bind_some]
      by_cases z8 : tK tp tl (tE tp tl p) = 8
      · rw [if_pos (show h3.I m 25 = 6 from km_y c2 z8)]
        exact ml_112 hb hf hn (tE_le hp) c2 mn3 md3 j8 (Or.inr (Or.inl z8))
      · rw [if_neg (show ¬ h3.I m 25 = 6 from km_n c2 (k := 8) (by decide) z8), Option.bind_some]
        by_cases z9 : tK tp tl (tE tp tl p) = 9
        · rw [if_pos (show h3.I m 25 = 7 from km_y c2 z9)]
          exact ml_112 hb hf hn (tE_le hp) c2 mn3 md3 j8 (Or.inr (Or.inr z9))
        · rw [if_neg (show ¬ h3.I m 25 = 7 from km_n c2 (k := 9) (by decide) z9)]
          unfold pU2
          rw [if_neg z7, if_neg z8, if_neg z9]
          exact OkM.f (by decide) (m_fl (k := 1) c2)
  · rw [if_neg (show ¬ h.I m 25 = 3 from km_n q (k := 5) (by decide) z), if_neg z]
    exact ml_T1 hb hf hn hp q mn md ⟨r8, r9, fun w => by omega⟩
theorem ml_line (hb : ∀ j, j < tl → tp j < 256) (hf : 20000 < fu) (hn : c.n ≤ 12) {h : Hp} {p : Nat} (hp : p ≤ tl) (q : TkM h m tp tl p) (mn : MN h m) (md : MD h m c) (hk : tK tp tl p = 4) : OkM m tp tl c h (f_X7_readLine fu m h) (pL tp tl p c.n) := by
  unfold f_X7_readLine pL
  rw [if_pos hk, if_pos q.1.1, gI_e q.1.1, Option.bind_some, md.1]
  by_cases y : 12 ≤ c.n
  · rw [if_pos (show nI c.n = 12 by rw [show c.n = 12 by omega]; rfl), if_pos y]
    exact OkM.f (by decide) (m_fl (k := 3) q)
  · rw [if_neg (ne_lit (b := 12) (by omega) (by decide) (by omega)), if_neg y]
    obtain ⟨h1, a1, a2, a3⟩ := m_nx (fu := fu) hb hf hp q
    rw [a1, Option.bind_some]
    dsimp only
    refine OkM.pre a3.rd ?_
    have mn1 := mn.ed a3.1
    have md1 := md.nx a3
    unfold pL2
    have hp1 := tE_le (tp := tp) hp
    by_cases z : tK tp tl (tE tp tl p) = 2
    · rw [if_pos z]
      by_cases y : 8 < tV tp tl (tE tp tl p)
      · rw [if_pos y]
        obtain ⟨h2, b1, b2⟩ := m_tk1 (fu := fu) (a := 0) (b := 8) (by decide) a2 z (Or.inr y)
        rw [show f_X7_takes fu m 0 8 h1 = _ from b1, Option.bind_some]
        dsimp only
        rw [if_pos rfl]
        exact OkM.f (by decide) ⟨h2, rfl, b2⟩
      · rw [if_neg y, show f_X7_takes fu m 0 8 h1 = _ from m_tk0 (fu := fu) (a := 0) (b := 8) (by decide) a2 z (by omega), Option.bind_some]
        dsimp only
        have hn' : c.n < 12 := by omega
        obtain ⟨h2, e2⟩ : ∃ h2, h2 = putI h1 (m + 8) c.n (nI (tV tp tl (tE tp tl p))) := ⟨_, rfl⟩
        obtain ⟨h3, e3⟩ : ∃ h3, h3 = putI h2 (m + 9) c.n 0 := ⟨_, rfl⟩
        obtain ⟨h4, e4⟩ : ∃ h4, h4 = putI h3 (m + 10) c.n 0 := ⟨_, rfl⟩
        have E2 : RdE h1 h2 m := by rw [e2]; exact RdE.q (by omega)
        have E3 : RdE h2 h3 m := by rw [e3]; exact RdE.q (by omega)
        have E4 : RdE h3 h4 m := by rw [e4]; exact RdE.q (by omega)
        have q2 : TkM h2 m tp tl (tE tp tl p) := by rw [e2]; exact a2.q (by omega) (by omega)
        have q3 : TkM h3 m tp tl (tE tp tl p) := by rw [e3]; exact q2.q (by omega) (by omega)
        have q4 : TkM h4 m tp tl (tE tp tl p) := by rw [e4]; exact q3.q (by omega) (by omega)
        have md2 : MD h2 m c := by rw [e2]; exact md1.q (by omega)
        have md3 : MD h3 m c := by rw [e3]; exact md2.q (by omega)
        have md4 : MD h4 m c := by rw [e4]; exact md3.q (by omega)
        have mn2 : MN h2 m := mn1.ed E2.1
        have mn3 : MN h3 m := mn2.ed E3.1
        have mn4 : MN h4 m := mn3.ed E4.1
        rw [if_neg one_ne, gR_e a2.1.1, mn1.1.1, Option.bind_some, gI_e a2.1.1, Option.bind_some, md1.1, gI_e a2.1.1, Option.bind_some, a2.2.2.2 z, sI_e mn1.1.2.1 mn1.1.2.2 hn' (by decide), Option.bind_some, ← e2]
        rw [gR_e q2.1.1, mn2.2.1.1, Option.bind_some, gI_e q2.1.1, Option.bind_some, md2.1, sI_e mn2.2.1.2.1 mn2.2.1.2.2 hn' (by decide), Option.bind_some, ← e3]
        rw [gR_e q3.1.1, mn3.2.2.1.1, Option.bind_some, gI_e q3.1.1, Option.bind_some, md3.1, sI_e mn3.2.2.1.2.1 mn3.2.2.1.2.2 hn' (by decide), Option.bind_some, ← e4]
        have i8 : h4.I (m + 8) c.n = nI (tV tp tl (tE tp tl p)) := by rw [e4, putI_I, if_neg (by omega), e3, putI_I, if_neg (by omega), e2, w3, if_pos rfl]
        have i9 : h4.I (m + 9) c.n = nI 0 := by rw [e4, putI_I, if_neg (by omega), e3, w3, if_pos rfl]; rfl
        obtain ⟨h5, c1, c2, c3⟩ := m_nx (fu := fu) hb hf hp1 q4
        rw [c1, Option.bind_some]
        refine OkM.pre (RdE.tr (RdE.tr (RdE.tr E2 E3) E4) c3.rd) ?_
        exact ml_U1 hb hf hn' (tE_le hp1) c2 (mn4.ed c3.1) (md4.nx c3) (by rw [(c3.1.2.2.2.2 (m + 8) (by omega)).1]; exact i8) (by rw [(c3.1.2.2.2.2 (m + 9) (by omega)).1]; exact i9)
    · rw [if_neg z]
      obtain ⟨h2, b1, b2⟩ := m_tk2 (fu := fu) (a := 0) (b := 8) a2 z
      rw [b1, Option.bind_some]
      dsimp only
      rw [if_pos rfl]
      exact OkM.f (by decide) ⟨h2, rfl, b2⟩
end PARSEM2
