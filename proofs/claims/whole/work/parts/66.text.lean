section TEXT
variable {m fu : Nat} {tp : Nat → Nat} {tl : Nat}
theorem m_text (hb : ∀ j, j < tl → tp j < 256) (hf : 20000 < fu) : ∀ (k p n : Nat) (c : Cg) (h : Hp), c.n + k = 13 → c.n ≤ 12 → k < n → p ≤ tl → TkM h m tp tl p → MN h m → MD h m c → ∃ h1, f_X7_readText_14 fu n m h = some (if (pX tp tl k p c).1 = 0 then 1 else 0, h1) ∧ RdE h h1 m ∧ ((pX tp tl k p c).1 = 0 → MD h1 m (pX tp tl k p c).2.2) ∧ ((pX tp tl k p c).1 ≠ 0 → h1.I m 27 = nI (pX tp tl k p c).1 ∧ h1.I m 28 = nI (pX tp tl k p c).2.1) := by
  intro k
  induction k with
  | zero => intro p n c h h1 h2; omega
  | succ k ih =>
    intro p n c h hk hc hn hp q mn md
    obtain ⟨n, rfl⟩ := Nat.exists_eq_succ_of_ne_zero (show n ≠ 0 by omega)
    rw [f_X7_readText_14, gI_e q.1.1, Option.bind_some, pX]
    by_cases z4 : tK tp tl p = 4
    · rw [if_pos (show h.I m 25 = 2 from km_y q z4), if_neg (show ¬ tK tp tl p = 0 by omega)]
      obtain ⟨h1, a1, a2, a3, a4⟩ := ml_line (fu := fu) hb hf hc hp q mn md z4
      rw [a1, Option.bind_some]
      dsimp only
      by_cases f0 : (pL tp tl p c.n).fk = 0
      · rw [if_pos f0, if_pos f0, if_neg one_ne]
        have lk := pL_ok (tp := tp) (n := c.n) hp f0
        have nn := pL_n f0
        obtain ⟨b1, b2⟩ := a3 f0
        obtain ⟨h2, e1, e2, e3⟩ := ih (pL tp tl p c.n).pb n (c.app (pL tp tl p c.n)) h1 (show c.n + 1 + k = 13 by omega) (show c.n + 1 ≤ 12 by omega) (by omega) lk.2.2.2.2.2 b1 (mn.ed a2.1) b2
        exact ⟨h2, e1, a2.tr e2, e3⟩
      · rw [if_neg f0, if_neg f0, if_pos rfl]
        refine ⟨h1, ?_, a2, fun y => absurd y f0, fun _ => a4 f0⟩
        rw [if_neg f0]
    · rw [if_neg (show ¬ h.I m 25 = 2 from km_n q (k := 4) (by decide) z4), Option.bind_some]
      by_cases z0 : tK tp tl p = 0
      · rw [if_pos (show h.I m 25 = 0 from km_y q z0), if_pos z0]
        exact ⟨h, rfl, RdE.rf, fun _ => md, fun y => absurd rfl y⟩
      · rw [if_neg (show ¬ h.I m 25 = 0 from km_n q (k := 0) (by decide) z0), if_neg z0]
        have e : pL tp tl p c.n = flt 1 (tS tp tl p) := by unfold pL; rw [if_neg z4]
        rw [e, if_neg (show ¬ (flt 1 (tS tp tl p)).fk = 0 from Nat.one_ne_zero)]
        obtain ⟨h1, a1, a2, a3, a4⟩ := m_fails (fu := fu) (k := 1) q
        rw [show f_X7_fails fu m 1 h = _ from a1, Option.bind_some]
        dsimp only
        rw [if_pos rfl]
        exact ⟨h1, rfl, a2, fun y => absurd y Nat.one_ne_zero, fun _ => ⟨a3, a4⟩⟩
theorem m_readText (hb : ∀ j, j < tl → tp j < 256) (hf : 20000 < fu) {h : Hp} {pl : Nat} (hK : h.K m = 7) (a21 : arr h m 21 (m + 12) 8 400) (i22 : h.I m 22 = nI tl) (ht : ∀ j, j < tl → h.I (m + 12) j = nI (tp j)) (h4 : tl ≤ 400) (mn : MN h m) : ∃ h1, f_X7_readText fu m h = some (if (pX tp tl 13 0 cg0).1 = 0 then 1 else 0, h1) ∧ RdE h h1 m ∧ ((pX tp tl 13 0 cg0).1 = 0 → MD h1 m (pX tp tl 13 0 cg0).2.2) ∧ ((pX tp tl 13 0 cg0).1 ≠ 0 → h1.I m 27 = nI (pX tp tl 13 0 cg0).1 ∧ h1.I m 28 = nI (pX tp tl 13 0 cg0).2.1) := by
  obtain ⟨H, eH⟩ : ∃ H, H = putI (putI h m 23 0) m 16 0 := ⟨_, rfl⟩
  have E : RdE h H m := by rw [eH]; exact RdE.tr (RdE.p (by omega)) (RdE.p (by omega))
  have q0 : NxW H m tp tl 0 := by
    refine ⟨by rw [E.1.2.1]; exact hK, E.1.arr a21, ?_, fun j hj => ?_, h4, ?_⟩
    · rw [eH, w3, if_neg (by decide), w3, if_neg (by decide)]; exact i22
    · rw [eH, putI_I, if_neg (by omega), putI_I, if_neg (by omega)]; exact ht j hj
    · rw [eH, w3, if_neg (by decide), w3, if_pos rfl]; rfl
  obtain ⟨h1, a1, a2, a3⟩ := m_next (fu := fu) hb hf (Nat.zero_le _) q0
  have md : MD H m cg0 := ⟨by rw [eH, w3, if_pos rfl]; rfl, fun k hk => absurd hk (Nat.not_lt_zero k)⟩
  obtain ⟨h2, b1, b2, b3⟩ := m_text (fu := fu) hb hf 13 0 fu cg0 h1 rfl (by decide) (by omega) (Nat.zero_le _) a2 ((mn.ed E.1).ed a3.1) (md.nx a3)
  refine ⟨h2, ?_, E.tr (a3.rd.tr b2), b3⟩
  unfold f_X7_readText
  rw [if_pos hK, pI_e hK, Option.bind_some, pI_e (h := putI _ _ _ _) hK, Option.bind_some, ← eH, a1, Option.bind_some]
  exact b1
def ML (h : Hp) (m : Nat) : Prop := arr h m 12 (m + 4) 8 12 ∧ arr h m 13 (m + 5) 8 12 ∧ arr h m 14 (m + 6) 8 12 ∧ arr h m 15 (m + 7) 8 12
theorem ML.ed {P : Nat → Prop} {h h1 : Hp} (e : Ed P h h1) (q : ML h m) : ML h1 m := ⟨e.arr q.1, e.arr q.2.1, e.arr q.2.2.1, e.arr q.2.2.2⟩
def lnR (h : Hp) (m : Nat) (c : Cg) (j : Nat) : Prop := ∀ k, k < j → h.I (m + 4) k = nI (c.wy k) ∧ h.I (m + 5) k = nI (ms (c.sn k)) ∧ (c.sn k = 1 ∨ c.sn k = 2 → h.I (m + 6) k = nI (c.vl k)) ∧ h.I (m + 7) k = nI (c.hr k)
theorem m_copy {c : Cg} (hc : c.n ≤ 12) : ∀ (k j n : Nat) (h : Hp), j + k = c.n → k < n → h.K m = 7 → ML h m → MN h m → h.I m 11 = nI c.n → MD h m c → lnR h m c j → ∃ h1, f_X7_chant_41 fu n m (nI j) h = some (nI c.n, h1) ∧ Ed (fun b => m + 4 ≤ b ∧ b ≤ m + 7) h h1 ∧ ModC h1 m c := by
  intro k
  induction k with
  | zero =>
    intro j n h hk hn hK ml mn i11 md lr
    obtain ⟨n, rfl⟩ := Nat.exists_eq_succ_of_ne_zero (show n ≠ 0 by omega)
    refine ⟨h, ?_, Ed.rf, i11, fun k hk => lr k (by omega)⟩
    rw [f_X7_chant_41, gI_e hK, Option.bind_some, i11, if_pos (nI_le (by omega) (by omega)), Option.bind_some]
  | succ k ih =>
    intro j n h hk hn hK ml mn i11 md lr
    obtain ⟨n, rfl⟩ := Nat.exists_eq_succ_of_ne_zero (show n ≠ 0 by omega)
    have hj : j < 12 := by omega
    obtain ⟨d1, d2, d3, d4⟩ := md.2 j (by omega)
    obtain ⟨h1, e1⟩ : ∃ h1, h1 = putI h (m + 4) j (h.I (m + 8) j) := ⟨_, rfl⟩
    obtain ⟨h2, e2⟩ : ∃ h2, h2 = putI h1 (m + 5) j (h1.I (m + 9) j) := ⟨_, rfl⟩
    obtain ⟨h3, e3⟩ : ∃ h3, h3 = putI h2 (m + 6) j (h2.I (m + 10) j) := ⟨_, rfl⟩
    obtain ⟨h4, e4⟩ : ∃ h4, h4 = putI h3 (m + 7) j (h3.I (m + 11) j) := ⟨_, rfl⟩
    have E1 : Ed (fun b => m + 4 ≤ b ∧ b ≤ m + 7) h h1 := by rw [e1]; exact Ed.pI (by omega)
    have E2 : Ed (fun b => m + 4 ≤ b ∧ b ≤ m + 7) h h2 := by rw [e2]; exact Ed.tr E1 (Ed.pI (by omega))
    have E3 : Ed (fun b => m + 4 ≤ b ∧ b ≤ m + 7) h h3 := by rw [e3]; exact Ed.tr E2 (Ed.pI (by omega))
    have E4 : Ed (fun b => m + 4 ≤ b ∧ b ≤ m + 7) h h4 := by rw [e4]; exact Ed.tr E3 (Ed.pI (by omega))
    have k1 : h1.K m = 7 := by rw [E1.2.1]; exact hK
    have k2 : h2.K m = 7 := by rw [E2.2.1]; exact hK
    have k3 : h3.K m = 7 := by rw [E3.2.1]; exact hK
    have k4 : h4.K m = 7 := by rw [E4.2.1]; exact hK
    have ml1 := ml.ed E1
    have mn1 := mn.ed E1
    have ml2 := ml.ed E2
    have mn2 := mn.ed E2
    have ml3 := ml.ed E3
    have mn3 := mn.ed E3
    have o : ∀ b, b < m + 4 ∨ m + 7 < b → h4.I b = h.I b := fun b hb => (E4.2.2.2.2 b (by omega)).1
    have o1 : h1.I (m + 9) j = h.I (m + 9) j := by rw [(E1.2.2.2.2 (m + 9) (by omega)).1]
    have o2 : h2.I (m + 10) j = h.I (m + 10) j := by rw [(E2.2.2.2.2 (m + 10) (by omega)).1]
    have o3 : h3.I (m + 11) j = h.I (m + 11) j := by rw [(E3.2.2.2.2 (m + 11) (by omega)).1]
    have j1 : ∀ k, h4.I (m + 4) k = if k = j then h.I (m + 8) j else h.I (m + 4) k := fun k => by
      rw [e4, putI_I, if_neg (by omega), e3, putI_I, if_neg (by omega), e2, putI_I, if_neg (by omega), e1, w3]
    have j2 : ∀ k, h4.I (m + 5) k = if k = j then h.I (m + 9) j else h.I (m + 5) k := fun k => by
      rw [e4, putI_I, if_neg (by omega), e3, putI_I, if_neg (by omega), e2, w3, o1, e1, putI_I, if_neg (show ¬ m + 5 = m + 4 by omega)]
    have j3 : ∀ k, h4.I (m + 6) k = if k = j then h.I (m + 10) j else h.I (m + 6) k := fun k => by
      rw [e4, putI_I, if_neg (by omega), e3, w3, o2, e2, putI_I, if_neg (show ¬ m + 6 = m + 5 by omega), e1, putI_I, if_neg (show ¬ m + 6 = m + 4 by omega)]
    have j4 : ∀ k, h4.I (m + 7) k = if k = j then h.I (m + 11) j else h.I (m + 7) k := fun k => by
      rw [e4, w3, o3, e3, putI_I, if_neg (show ¬ m + 7 = m + 6 by omega), e2, putI_I, if_neg (show ¬ m + 7 = m + 5 by omega), e1, putI_I, if_neg (show ¬ m + 7 = m + 4 by omega)]
    have md4 : MD h4 m c := by
      unfold MD
      rw [o m (by omega), o (m + 8) (by omega), o (m + 9) (by omega), o (m + 10) (by omega), o (m + 11) (by omega)]
      exact md
    have lr4 : lnR h4 m c (j + 1) := by
      intro k hk
      rw [j1, j2, j3, j4]
      by_cases w : k = j
      · subst w
        simp only [if_true]
        exact ⟨d1, d2, d3, d4⟩
      · simp only [if_neg w]
        exact lr k (by omega)
    obtain ⟨h5, b1, b2, b3⟩ := ih (j + 1) n h4 (by omega) (by omega) k4 (ml.ed E4) (mn.ed E4) (by rw [o m (by omega)]; exact i11) md4 lr4
    refine ⟨h5, ?_, Ed.tr E4 b2, b3⟩
    rw [f_X7_chant_41, gI_e hK, Option.bind_some, i11, if_neg (nI_ge (show j < c.n by omega) (by omega))]
    rw [gR_e hK, ml.1.1, Option.bind_some, gR_e hK, mn.1.1, Option.bind_some, aI_e mn.1.2.1 mn.1.2.2 hj (by decide), Option.bind_some, sI_e ml.1.2.1 ml.1.2.2 hj (by decide), Option.bind_some, ← e1]
    rw [gR_e k1, ml1.2.1.1, Option.bind_some, gR_e k1, mn1.2.1.1, Option.bind_some, aI_e mn1.2.1.2.1 mn1.2.1.2.2 hj (by decide), Option.bind_some, sI_e ml1.2.1.2.1 ml1.2.1.2.2 hj (by decide), Option.bind_some, ← e2]
    rw [gR_e k2, ml2.2.2.1.1, Option.bind_some, gR_e k2, mn2.2.2.1.1, Option.bind_some, aI_e mn2.2.2.1.2.1 mn2.2.2.1.2.2 hj (by decide), Option.bind_some, sI_e ml2.2.2.1.2.1 ml2.2.2.1.2.2 hj (by decide), Option.bind_some, ← e3]
    rw [gR_e k3, ml3.2.2.2.1, Option.bind_some, gR_e k3, mn3.2.2.2.1, Option.bind_some, aI_e mn3.2.2.2.2.1 mn3.2.2.2.2.2 hj (by decide), Option.bind_some, sI_e ml3.2.2.2.2.1 ml3.2.2.2.2.2 hj (by decide), Option.bind_some, ← e4, nI_1]
    exact b1
theorem pX_ok : ∀ (k p : Nat) (c : Cg), c.ok → p ≤ tl → (pX tp tl k p c).2.2.ok
  | 0, p, c, hc, _ => hc
  | k + 1, p, c, hc, hp => by
    rw [pX]
    by_cases z : tK tp tl p = 0
    · rw [if_pos z]; exact hc
    · rw [if_neg z]
      by_cases f0 : (pL tp tl p c.n).fk = 0
      · rw [if_pos f0]
        have lk := pL_ok (tp := tp) (n := c.n) hp
        exact pX_ok k _ _ (Cg.app_ok hc (pL_n f0) lk f0) (lk f0).2.2.2.2.2
      · rw [if_neg f0]; exact hc
theorem cg0_ok : cg0.ok := ⟨by decide, fun k hk => absurd hk (Nat.not_lt_zero k)⟩
/-- the reference's chant changes -/
theorem ModP.ch {h h1 : Hp} {g : Sg} {S : Int64} {hr : Nat} {cn : Int32} {c c' : Cg} {fk fp : Int32} {tp' : Nat → Nat} {tl' : Nat} {fk' fp' : Int32} (q : ModP h m g S hr cn c tp tl fk fp) (e : Ed (fun b => b = m ∨ (m + 4 ≤ b ∧ b ≤ m + 11)) h h1) (hI : ∀ k, k ≠ 0 → k < 11 → h1.I m k = h.I m k) (hJ : h1.J m = h.J m) (hc : ModC h1 m c') (ht : ModT h1 m tp' tl' fk' fp') : ModP h1 m g S hr cn c' tp' tl' fk' fp' := by
  obtain ⟨⟨⟨s1, s2, s3, s4⟩, ⟨v1, v2, v3, v4, v5, v6, v7⟩, ok⟩, q2, q3, q4, q5, -, -⟩ := q
  have o : ∀ k, 0 < k → k < 4 → h1.I (m + k) = h.I (m + k) := fun k hk hk2 => (e.2.2.2.2 (m + k) (by omega)).1
  refine ⟨⟨⟨by rw [e.2.1]; exact s1, e.arr s2, e.arr s3, e.arr s4⟩, ⟨?_, ?_, ?_, ?_, ?_, ?_, ?_⟩, ok⟩, e.modR q2, by rw [hJ]; exact q3, by rw [hI 3 (by decide) (by decide)]; exact q4, by rw [hI 5 (by decide) (by decide)]; exact q5, hc, ht⟩
  · rw [hI 1 (by decide) (by decide)]; exact v1
  · rw [hI 2 (by decide) (by decide)]; exact v2
  · rw [hI 6 (by decide) (by decide)]; exact v3
  · rw [hI 7 (by decide) (by decide)]; exact v4
  · rw [o 1 (by decide) (by decide)]; exact v5
  · rw [o 2 (by decide) (by decide)]; exact v6
  · rw [o 3 (by decide) (by decide)]; exact v7
end TEXT
