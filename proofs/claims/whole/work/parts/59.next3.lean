section NEXT3
variable {m fu : Nat} {tp : Nat → Nat} {tl : Nat}
theorem m_nxr (hb : ∀ j, j < tl → tp j < 256) (hf : 20000 < fu) {h : Hp} {p n : Nat} (hp : p ≤ tl) (hz : ¬ (p < tl ∧ isB (tp p) = true)) (q : NxW h m tp tl p) : ∃ h1, f_X7_next_0 fu (n + 1) m h = some ((), h1) ∧ TkM h1 m tp tl p ∧ NxE h h1 m := by
  have h4 := q.2.2.2.2.1
  have eS : tS tp tl p = p := run_n hz
  have r0 : ∀ h', NxW h' m tp tl p → f_X7_raw fu m 0 h' = some (rb tp tl p, h') := fun h' z => m_raw (pl := p) (k := 0) z (show p + 0 < 2 ^ 31 by omega)
  have nb : ∀ b : Nat, b = 32 ∨ b = 10 → ¬ rb tp tl p = nI b := by
    intro b hb2 y
    by_cases z : p < tl
    · have := (rb_eq hb z (by omega)).mp y
      refine hz ⟨z, decide_eq_true ?_⟩
      omega
    · have : rb tp tl p = -1 := if_neg z
      rw [this] at y
      exact m1_ne (c := b) (by omega) y.symm
  obtain ⟨h0, hh0⟩ : ∃ h0, h0 = putI (putI h m 24 (nI p)) m 25 1 := ⟨_, rfl⟩
  have q0 : NxW h0 m tp tl p := by rw [hh0]; exact (q.p (k := 24) (pl' := p) (Or.inr ⟨by omega, rfl⟩)).p (k := 25) (Or.inr ⟨by omega, rfl⟩)
  have e0 : NxE h h0 m := by rw [hh0]; exact NxE.tr (NxE.p (by omega)) (NxE.p (by omega))
  have i24 : h0.I m 24 = nI p := by rw [hh0, w3, if_neg (by decide), w3, if_pos rfl]
  have i25 : h0.I m 25 = 1 := by rw [hh0, w3, if_pos rfl]
  rw [f_X7_next_0, r0 h q, Option.bind_some]
  dsimp only
  rw [if_neg (show ¬ rb tp tl p = 32 from nb 32 (Or.inl rfl)), r0 h q, Option.bind_some]
  dsimp only
  rw [if_neg (show ¬ rb tp tl p = 10 from nb 10 (Or.inr rfl)), gI_e q.1, Option.bind_some, q.2.2.2.2.2, pI_e q.1, Option.bind_some, pI_e (h := putI _ _ _ _) q.1, Option.bind_some, ← hh0, r0 h0 q0, Option.bind_some]
  dsimp only
  by_cases z : p < tl
  · have rbe : rb tp tl p = nI (tp p) := if_pos z
    have hbp := hb p z
    rw [if_neg (show ¬ rb tp tl p = -1 by rw [rbe]; exact m1_ne (by omega)), m_isL q0.1 hb, Option.bind_some]
    dsimp only
    cases zl : isL (tp p)
    · rw [if_neg (show ¬ (p < tl ∧ false = true) from fun y => by cases y.2), if_pos rfl, m_isD q0.1 hb, Option.bind_some]
      dsimp only
      cases zd : isD (tp p)
      · rw [if_neg (show ¬ (p < tl ∧ false = true) from fun y => by cases y.2), if_pos rfl]
        have kE : tE tp tl p = p + 1 := by unfold tE; rw [eS, if_neg (by omega), zl, zd]; rfl
        by_cases z5 : tp p = 59
        · rw [if_pos (show rb tp tl p = 59 by rw [rbe, z5]; rfl), pI_e q0.1, Option.bind_some]
          have kK : tK tp tl p = 3 := by unfold tK; rw [eS, if_neg (by omega), zl, zd, z5]; rfl
          have q1 : NxW (putI h0 m 25 9) m tp tl p := q0.p (k := 25) (Or.inr ⟨by omega, rfl⟩)
          unfold f_X7_next_369
          rw [gI_e q1.1, Option.bind_some, q1.2.2.2.2.2, nI_1, pI_e q1.1, Option.bind_some]
          refine ⟨_, rfl, ⟨by rw [kE]; exact q1.p (k := 23) (Or.inl ⟨rfl, rfl⟩), ?_, ?_, fun y => by rw [kK] at y; cases y⟩, NxE.tr e0 (NxE.tr (NxE.p (by omega)) (NxE.p (by omega)))⟩
          · rw [w3, if_neg (by decide), w3, if_pos rfl, kK]; rfl
          · rw [w3, if_neg (by decide), w3, if_neg (by decide), i24, eS]
        · rw [if_neg (show ¬ rb tp tl p = 59 by rw [rbe]; exact ne_lit (b := 59) (by omega) (by decide) z5)]
          have kK : tK tp tl p = 1 := by unfold tK; rw [eS, if_neg (by omega), zl, zd, if_neg (show ¬ false = true by decide), if_neg (show ¬ false = true by decide), if_neg z5]
          unfold f_X7_next_369
          rw [gI_e q0.1, Option.bind_some, q0.2.2.2.2.2, nI_1, pI_e q0.1, Option.bind_some]
          refine ⟨_, rfl, ⟨by rw [kE]; exact q0.p (k := 23) (Or.inl ⟨rfl, rfl⟩), ?_, ?_, fun y => by rw [kK] at y; cases y⟩, NxE.tr e0 (NxE.p (by omega))⟩
          · rw [w3, if_neg (by decide), i25, kK]; rfl
          · rw [w3, if_neg (by decide), i24, eS]
      · rw [if_pos (show p < tl ∧ true = true from ⟨z, rfl⟩), if_neg one_ne, pI_e q0.1, Option.bind_some]
        have q1 : NxW (putI h0 m 26 0) m tp tl p := q0.p (k := 26) (Or.inr ⟨by omega, rfl⟩)
        obtain ⟨h1, a1, a2, a3, a4, a5, a6⟩ := m_digits (fu := fu) (p := p) hb (tl - p) 0 fu _ (by omega) (by omega) q1 (by rw [w3, if_neg (by decide)]; exact i25) (by rw [w3, if_pos rfl]; rfl) (fun i i1 i2 => by omega)
        rw [Nat.add_zero] at a2 a5 a6
        have kE : tE tp tl p = run isD tp tl p := by unfold tE; rw [eS, if_neg (by omega), zl, zd]; rfl
        have kK : tK tp tl p = if run isD tp tl p - p ≤ 2 then 2 else 1 := by unfold tK; rw [eS, if_neg (by omega), zl, zd]; rfl
        have rge : p + 1 ≤ run isD tp tl p := by rw [run_y z zd]; exact run_ge
        refine ⟨h1, a1, ⟨by rw [kE]; exact a2, ?_, by rw [a4, w3, if_neg (by decide), i24, eS], fun y => ?_⟩, NxE.tr e0 (NxE.tr (NxE.p (by omega)) a3)⟩
        · rw [a5, kK]
          by_cases w : run isD tp tl p - p ≤ 2
          · rw [if_pos w, if_pos w]; rfl
          · rw [if_neg w, if_neg w]; rfl
        · rw [a6]
          unfold tV nv
          rw [kE, eS]
          rw [kK] at y
          have y2 : run isD tp tl p - p ≤ 2 := by
            by_cases w : run isD tp tl p - p ≤ 2
            · exact w
            · rw [if_neg w] at y; cases y
          have y3 : run isD tp tl p = p + 1 ∨ run isD tp tl p = p + 2 := by omega
          rcases y3 with y3 | y3
          · rw [y3, if_pos rfl, show p + 1 - p = 1 by omega]; rfl
          · rw [y3, if_neg (by omega), show p + 2 - p = 2 by omega]; rfl
    · rw [if_pos (show p < tl ∧ true = true from ⟨z, rfl⟩), if_neg one_ne]
      have a0 := m_letters (fu := fu) hb q0 (tl - p) 0 fu (by omega) (by omega)
      rw [Nat.add_zero] at a0
      have rge : p ≤ run isL tp tl p := run_ge
      have rle : run isL tp tl p ≤ tl := run_le hp
      obtain ⟨h1, a1, a2, a3, a4, a5⟩ := m_words (fu := fu) (n := run isL tp tl p - p) hb q0 (by omega) i25
      have kE : tE tp tl p = run isL tp tl p := by unfold tE; rw [eS, if_neg (by omega), zl]; rfl
      have kK : tK tp tl p = wk tp p (run isL tp tl p - p) := by unfold tK; rw [eS, if_neg (by omega), zl]; rfl
      rw [show p + (run isL tp tl p - p) = run isL tp tl p by omega] at a2
      exact ⟨h1, a0.trans a1, ⟨by rw [kE]; exact a2, by rw [a5, kK], by rw [a4, i24, eS], fun y => absurd (kK.symm.trans y) (wk_ne2 _ _ _).1⟩, NxE.tr e0 a3⟩
  · have rbe : rb tp tl p = -1 := if_neg z
    rw [if_pos rbe, pI_e q0.1, Option.bind_some]
    have kE : tE tp tl p = p := by unfold tE; rw [eS, if_pos (by omega)]
    have kK : tK tp tl p = 0 := by unfold tK; rw [eS, if_pos (by omega)]
    refine ⟨_, rfl, ⟨by rw [kE]; exact q0.p (k := 25) (Or.inr ⟨by omega, rfl⟩), by rw [w3, if_pos rfl, kK]; rfl, by rw [w3, if_neg (by decide), i24, eS], fun y => by rw [kK] at y; cases y⟩, NxE.tr e0 (NxE.p (by omega))⟩
theorem m_nx0 (hb : ∀ j, j < tl → tp j < 256) (hf : 20000 < fu) : ∀ (k p n : Nat) (h : Hp), p + k = tl → k < n → NxW h m tp tl p → ∃ h1, f_X7_next_0 fu n m h = some ((), h1) ∧ TkM h1 m tp tl p ∧ NxE h h1 m := by
  intro k
  induction k with
  | zero =>
    intro p n h hk hn q
    obtain ⟨n, rfl⟩ := Nat.exists_eq_succ_of_ne_zero (show n ≠ 0 by omega)
    exact m_nxr hb hf (by omega) (by omega) q
  | succ k ih =>
    intro p n h hk hn q
    obtain ⟨n, rfl⟩ := Nat.exists_eq_succ_of_ne_zero (show n ≠ 0 by omega)
    by_cases z : p < tl ∧ isB (tp p) = true
    · have h4 := q.2.2.2.2.1
      have r0 : f_X7_raw fu m 0 h = some (rb tp tl p, h) := m_raw (pl := p) (k := 0) q (show p + 0 < 2 ^ 31 by omega)
      have rbe : rb tp tl p = nI (tp p) := if_pos z.1
      have q1 : NxW (putI h m 23 (nI (p + 1))) m tp tl (p + 1) := q.p (k := 23) (Or.inl ⟨rfl, rfl⟩)
      obtain ⟨h1, a1, a2, a3⟩ := ih (p + 1) n _ (by omega) (by omega) q1
      have e : tS tp tl p = tS tp tl (p + 1) := run_y z.1 z.2
      have a2' : TkM h1 m tp tl p := by
        unfold TkM tV tE tK at a2 ⊢
        rw [e]; exact a2
      refine ⟨h1, ?_, a2', NxE.tr (NxE.p (by omega)) a3⟩
      have e20 : f_X7_next_20 fu (fun y0 hy => f_X7_next_0 fu n y0 hy) m h = some ((), h1) := by
        unfold f_X7_next_20
        rw [gI_e q.1, Option.bind_some, q.2.2.2.2.2, nI_1, pI_e q.1, Option.bind_some]
        exact a1
      rw [f_X7_next_0, r0, Option.bind_some]
      dsimp only
      by_cases y : rb tp tl p = 32
      · rw [if_pos y]; exact e20
      · rw [if_neg y, r0, Option.bind_some]
        dsimp only
        have zb := z.2
        unfold isB at zb
        have zb := of_decide_eq_true zb
        rcases zb with zb | zb
        · exact absurd (show rb tp tl p = 32 by rw [rbe, zb]; rfl) y
        · rw [if_pos (show rb tp tl p = 10 by rw [rbe, zb]; rfl)]; exact e20
    · exact m_nxr hb hf (by omega) z q
theorem m_next (hb : ∀ j, j < tl → tp j < 256) (hf : 20000 < fu) {h : Hp} {p : Nat} (hp : p ≤ tl) (q : NxW h m tp tl p) : ∃ h1, f_X7_next fu m h = some ((), h1) ∧ TkM h1 m tp tl p ∧ NxE h h1 m := by
  have h4 := q.2.2.2.2.1
  obtain ⟨h1, a1, a2, a3⟩ := m_nx0 (fu := fu) hb hf (tl - p) p fu h (by omega) (by omega) q
  refine ⟨h1, ?_, a2, a3⟩
  unfold f_X7_next
  rw [if_pos q.1]; exact a1
end NEXT3
