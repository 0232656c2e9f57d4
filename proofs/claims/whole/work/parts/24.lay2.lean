theorem g0_ok {w hh : Nat} (h1 : 2 ≤ w) (h2 : w ≤ 8) (h3 : 2 ≤ hh) (h4 : hh ≤ 8) : (g0 w hh).ok := ⟨h1, h2, h3, h4, fun _ => Nat.zero_le _, fun _ _ => rfl⟩
theorem g0_bird {w hh i : Nat} : bird (g0 w hh) i = false := by
  cases e : bird (g0 w hh) i
  · rfl
  · obtain ⟨l, -, q, -⟩ := (bird_iff _ _).mp e
    exact absurd q (Nat.lt_irrefl 0)
section LAY2
variable {h : Hp} {a fu : Nat}
theorem s_layCells (hS : SeaS h a) (hf : 64 < fu) {w hh : Nat} (hw0 : 0 < w) (hw8 : w ≤ 8) (hh8 : hh ≤ 8) (iw : h.I a 0 = nI w) (ih : h.I a 1 = nI hh) : ∃ h1, f_X4_layCells fu a h = some ((), h1) ∧ Lx a h h1 ∧ LC h1 a w hh (w * hh) := by
  have hK := hS.1
  obtain ⟨k5, ek⟩ : ∃ k5, k5 = putJ (putJ (putJ (putJ (putJ h a 4 0) a 14 0) a 15 0) a 16 0) a 17 0 := ⟨_, rfl⟩
  have X : Lx a h k5 := by
    rw [ek]
    refine ⟨rfl, rfl, rfl, rfl, fun b _ _ => rfl, fun b p => ?_, fun j p1 p2 p3 p4 p5 => ?_⟩
    · funext j
      simp only [putJ_J, if_neg p]
    · simp only [putJ_J, if_true]
      rw [if_neg p5, if_neg p4, if_neg p3, if_neg p2, if_neg p1]
  have J : k5.J a 4 = 0 ∧ k5.J a 14 = 0 ∧ k5.J a 15 = 0 ∧ k5.J a 16 = 0 ∧ k5.J a 17 = 0 := by rw [ek]; simp only [putJ_J]; simp
  have L0 : LC k5 a w hh (w * 0) := by
    rw [Nat.mul_zero]
    refine ⟨fun c hc => by omega, fun i hi => ?_, fun i hi => ?_, fun i hi => ?_, fun i hi => ?_, fun i hi => ?_⟩
    · rw [J.1, tb_0]; simp
    · rw [J.2.1, tb_0]; simp
    · rw [J.2.2.1, tb_0]; simp
    · rw [J.2.2.2.1, tb_0]; simp
    · rw [J.2.2.2.2, tb_0]; simp
  obtain ⟨h1, q1, q2, q3⟩ := s_lc27 (fu := fu) hw0 hw8 hh8 hf hh 0 fu k5 (by omega) (by omega) (X.seaS hS) (by rw [X.2.2.2.2.1 a (by omega) (by omega)]; exact iw) (by rw [X.2.2.2.2.1 a (by omega) (by omega)]; exact ih) L0
  refine ⟨h1, ?_, X.tr q2, q3⟩
  unfold f_X4_layCells
  rw [if_pos hK, pJ_e hK, Option.bind_some, pJ_e (h := putJ _ _ _ _) hK, Option.bind_some]
  obtain ⟨z2, ez2⟩ : ∃ z, z = putJ (putJ h a 4 0) a 14 0 := ⟨_, rfl⟩
  have Kz2 : z2.K a = 4 := by rw [ez2]; exact hK
  obtain ⟨z3, ez3⟩ : ∃ z, z = putJ z2 a 15 0 := ⟨_, rfl⟩
  have Kz3 : z3.K a = 4 := by rw [ez3]; exact Kz2
  obtain ⟨z4, ez4⟩ : ∃ z, z = putJ z3 a 16 0 := ⟨_, rfl⟩
  have Kz4 : z4.K a = 4 := by rw [ez4]; exact Kz3
  rw [← ez2, pJ_e Kz2, Option.bind_some, ← ez3, pJ_e Kz3, Option.bind_some, ← ez4, pJ_e Kz4, Option.bind_some]
  have : putJ z4 a 17 0 = k5 := by rw [ez4, ez3, ez2, ek]
  rw [this]
  exact q1
theorem s_lay (hS : SeaS h a) (hf : 64 < fu) (hf2 : fu < 2 ^ 31) {w hh : Nat} (w2 : 2 ≤ w) (w8 : w ≤ 8) (h2 : 2 ≤ hh) (h8 : hh ≤ 8) : ∃ h1, f_X4_lay fu a (nI w) (nI hh) h = some ((), h1) ∧ Se h1 a (g0 w hh) ∧ Ed (fun b => a ≤ b ∧ b ≤ a + 6) h h1 ∧ h1.I a 3 = h.I a 3 + 1 := by
  have hK := hS.1
  have s8 := hS.2.1
  have s9 := hS.2.2.1
  have s10 := hS.2.2.2.1
  obtain ⟨k1, e1⟩ : ∃ z, z = putI h a 0 (nI w) := ⟨_, rfl⟩
  obtain ⟨k2, e2⟩ : ∃ z, z = putI k1 a 1 (nI hh) := ⟨_, rfl⟩
  obtain ⟨k3, e3⟩ : ∃ z, z = putI k2 a 2 (nI (w * hh)) := ⟨_, rfl⟩
  obtain ⟨k4, e4⟩ : ∃ z, z = putJ k3 a 5 0 := ⟨_, rfl⟩
  obtain ⟨k5, e5⟩ : ∃ z, z = putJ k4 a 13 0 := ⟨_, rfl⟩
  obtain ⟨k6, e6⟩ : ∃ z, z = putI k5 a 6 0 := ⟨_, rfl⟩
  obtain ⟨k7, e7⟩ : ∃ z, z = putI k6 a 7 0 := ⟨_, rfl⟩
  have E7 : Ed (fun b => a ≤ b ∧ b ≤ a + 6) h k7 := by
    have p : a ≤ a ∧ a ≤ a + 6 := by omega
    rw [e7, e6, e5, e4, e3, e2, e1]
    exact Ed.tr (Ed.tr (Ed.tr (Ed.tr (Ed.tr (Ed.tr (Ed.pI p) (Ed.pI p)) (Ed.pI p)) (Ed.pJ p)) (Ed.pJ p)) (Ed.pI p)) (Ed.pI p)
  have I7 : k7.I a 0 = nI w ∧ k7.I a 1 = nI hh ∧ k7.I a 2 = nI (w * hh) ∧ k7.I a 6 = 0 ∧ k7.I a 7 = 0 ∧ k7.I a 3 = h.I a 3 := by
    rw [e7, e6, e5, e4, e3, e2, e1]; simp only [putI_I, putJ_I]; simp
  have J7 : k7.J a 5 = 0 ∧ k7.J a 13 = 0 := by
    rw [e7, e6, e5, e4]; simp only [putI_J, putJ_J]; simp
  have S7 := E7.seaS hS
  obtain ⟨q1, f1, x1, y1, z1⟩ := s_fill (h := k7) (fu := fu) (b := a + 1) (L := 64) (v := -1) (by omega) hf2 S7.2.1.2.1 S7.2.1.2.2
  have S8 := x1.seaS S7
  obtain ⟨q2, f2, x2, y2, z2⟩ := s_fill (h := q1) (fu := fu) (b := a + 2) (L := 64) (v := 0) (by omega) hf2 S8.2.2.1.2.1 S8.2.2.1.2.2
  have S9 := x2.seaS S8
  obtain ⟨q3, f3, x3, y3, z3⟩ := s_fill (h := q2) (fu := fu) (b := a + 3) (L := 6) (v := 16) (by omega) hf2 S9.2.2.2.1.2.1 S9.2.2.2.1.2.2
  have S10 := x3.seaS S9
  have Ia : q3.I a = k7.I a := ((x3.2.2.2.2 a (by omega)).1.trans (x2.2.2.2.2 a (by omega)).1).trans (x1.2.2.2.2 a (by omega)).1
  have Ja : q3.J = k7.J := y3.trans (y2.trans y1)
  obtain ⟨q4, f4, x4, z4⟩ := s_layCells (fu := fu) S10 hf (w := w) (hh := hh) (by omega) w8 h8 (by rw [Ia]; exact I7.1) (by rw [Ia]; exact I7.2.1)
  have S11 := x4.seaS S10
  have I4 : q4.I a = k7.I a := (x4.2.2.2.2.1 a (by omega) (by omega)).trans Ia
  obtain ⟨q5, e8⟩ : ∃ q5, q5 = putI q4 a 3 (h.I a 3 + 1) := ⟨_, rfl⟩
  have IE : ∀ b j, ¬ (b = a ∧ j = 3) → q5.I b j = q4.I b j := by
    intro b j hb
    rw [e8, putI_I]
    by_cases e : b = a
    · rw [if_pos e, if_neg (fun q => hb ⟨e, q⟩)]
    · rw [if_neg e]
  have JE : q5.J = q4.J := by rw [e8]; rfl
  refine ⟨q5, ?_, ?_, ?_, ?_⟩
  · unfold f_X4_lay
    rw [if_pos hK, pI_e hK, Option.bind_some, ← e1, pI_e (h := k1) (by rw [e1]; exact hK), Option.bind_some, ← e2, pk_mul, pI_e (h := k2) (by rw [e2, e1]; exact hK), Option.bind_some, ← e3, pJ_e (h := k3) (by rw [e3, e2, e1]; exact hK), Option.bind_some, ← e4, pJ_e (h := k4) (by rw [e4, e3, e2, e1]; exact hK), Option.bind_some, ← e5, pI_e (h := k5) (by rw [e5, e4, e3, e2, e1]; exact hK), Option.bind_some, ← e6, pI_e (h := k6) (by rw [e6, e5, e4, e3, e2, e1]; exact hK), Option.bind_some, ← e7]
    rw [gR_e S7.1, S7.2.1.1, Option.bind_some, f1, Option.bind_some]
    dsimp only
    rw [gR_e S8.1, S8.2.2.1.1, Option.bind_some, f2, Option.bind_some]
    dsimp only
    rw [gR_e S9.1, S9.2.2.2.1.1, Option.bind_some, f3, Option.bind_some]
    dsimp only
    rw [f4, Option.bind_some]
    dsimp only
    rw [gI_e S11.1, Option.bind_some, pI_e S11.1, Option.bind_some, I4, I7.2.2.2.2.2, ← e8]
  · refine ⟨by rw [e8]; exact S11, ⟨?_, ?_, ?_, ?_, ?_, ?_, ?_, ?_, ?_⟩, ⟨?_, ?_, ?_, ?_, ?_, ?_, ?_⟩, g0_ok w2 w8 h2 h8⟩
    · rw [IE _ _ (by omega), I4]; exact I7.1
    · rw [IE _ _ (by omega), I4]; exact I7.2.1
    · rw [IE _ _ (by omega), I4]; exact I7.2.2.1
    · rw [IE _ _ (by omega), I4]; exact I7.2.2.2.1
    · rw [IE _ _ (by omega), I4]; exact I7.2.2.2.2.1
    · intro c hc
      rw [IE _ _ (by omega), x4.2.2.2.2.1 (a + 1) (by omega) (by omega), (x3.2.2.2.2 (a + 1) (by omega)).1, (x2.2.2.2.2 (a + 1) (by omega)).1, z1 c hc]; show (-1 : Int32) = nI 0 - 1; decide
    · intro c hc
      rw [IE _ _ (by omega), x4.2.2.2.2.1 (a + 2) (by omega) (by omega), (x3.2.2.2.2 (a + 2) (by omega)).1, z2 c hc]; rfl
    · intro k hk
      rw [IE _ _ (by omega), x4.2.2.2.2.1 (a + 3) (by omega) (by omega), z3 k hk]; rfl
    · intro c hc
      rw [IE _ _ (by omega), IE _ _ (by omega)]
      exact z4.1 c hc
    · intro i hi; rw [JE]; exact z4.2.1 i hi
    · intro i hi
      rw [JE, x4.2.2.2.2.2.2 5 (by omega) (by omega) (by omega) (by omega) (by omega), Ja, J7.1, tb_0]
      exact (decide_eq_false (Nat.lt_irrefl 0)).symm
    · intro i hi
      rw [JE, x4.2.2.2.2.2.2 13 (by omega) (by omega) (by omega) (by omega) (by omega), Ja, J7.2, tb_0, g0_bird]
    · intro i hi; rw [JE]; exact z4.2.2.1 i hi
    · intro i hi; rw [JE]; exact z4.2.2.2.1 i hi
    · intro i hi; rw [JE]; exact z4.2.2.2.2.1 i hi
    · intro i hi; rw [JE]; exact z4.2.2.2.2.2 i hi
  · have x4' : Ed (fun b => a ≤ b ∧ b ≤ a + 6) q3 q4 := ⟨x4.1, x4.2.1, x4.2.2.1, x4.2.2.2.1, fun b hb => ⟨x4.2.2.2.2.1 b (by omega) (by omega), x4.2.2.2.2.2.1 b (by omega)⟩⟩
    refine E7.tr ((x1.mono (fun b q => by omega)).tr ((x2.mono (fun b q => by omega)).tr ((x3.mono (fun b q => by omega)).tr (x4'.tr ?_))))
    rw [e8]; exact Ed.pI (by omega)
  · rw [e8, putI_I]; simp
end LAY2
