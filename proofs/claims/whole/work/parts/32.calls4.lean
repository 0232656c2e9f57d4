section CALLS4
variable {h : Hp} {x v fu : Nat}
theorem startW {s : Int64} (hK : h.K x = 6) : f_X6_startWith fu x s h = some ((), putI (putI (putJ h x 4 s) x 5 0) x 6 (-1)) := by
  simp [f_X6_startWith, pI, pJ, K_pJ, K_pI, hK]
theorem all_raw {m w hh : Nat} (hK : h.K m = 7) (i1 : h.I m 1 = nI w) (i2 : h.I m 2 = nI hh) (hw : w ≤ 8) (h8 : hh ≤ 8) : f_X7_all fu m h = some (allm (w * hh), h) := by
  have hn := mul_le_64 hw h8
  have hc : f_X7_cells fu m h = some (nI (w * hh), h) := by
    simp only [f_X7_cells, if_pos hK, gI_e hK, Option.bind_some, i1, i2, pk_mul]
  unfold f_X7_all allm
  rw [if_pos hK, hc, Option.bind_some]
  by_cases e : w * hh = 64
  · rw [if_pos ((l_eq (by omega) (by decide)).mpr e), if_pos e]
  · rw [if_neg (fun z => e ((l_eq (by omega) (by decide)).mp z)), if_neg e, hc, Option.bind_some]
theorem allm_subs {n : Nat} (hn : n ≤ 64) : subs (allm n) n := by
  intro i hi
  by_cases h6 : i < 64
  · rw [allm_b hn h6] at hi; exact of_decide_eq_true hi
  · rw [tb_big (by omega)] at hi; cases hi
theorem sea_cells {a : Nat} {g : Sg} (hS : Se h a g) : h.J a 4 = allm g.n := tb_ext (fun i hi => by rw [hS.2.2.1.1 i hi, allm_b hS.2.2.2.n64 hi])
theorem m_sea97 {m : Nat} : ∀ (k j n : Nat) (h : Hp), j + k = 6 → k < n → h.K m = 7 → arr h m 10 (m + 3) 8 6 → (∀ i, i < j → h.I (m + 3) i = 16) → ∃ h1, f_X7_sea_97 fu n m (nI j) h = some (1, h1) ∧ Ed (fun b => b = m + 3) h h1 ∧ h1.J = h.J ∧ ∀ i, i < 6 → h1.I (m + 3) i = 16
  | 0, j, n, h, hj, hn, hK, ha, hi => by
    obtain ⟨n, rfl⟩ := Nat.exists_eq_succ_of_ne_zero (show n ≠ 0 by omega)
    refine ⟨h, ?_, Ed.rf, rfl, fun i h6 => hi i (by omega)⟩
    rw [f_X7_sea_97, if_pos (l_ge (b := 6) (by omega) (by omega))]
  | k + 1, j, n, h, hj, hn, hK, ha, hi => by
    obtain ⟨n, rfl⟩ := Nat.exists_eq_succ_of_ne_zero (show n ≠ 0 by omega)
    have e : Ed (fun b => b = m + 3) h (putI h (m + 3) j 16) := Ed.pI rfl
    obtain ⟨h1, p1, p2, p3, p4⟩ := m_sea97 k (j + 1) n (putI h (m + 3) j 16) (by omega) (by omega) hK (e.arr ha) (fun i h6 => by
      rw [putI_I, if_pos rfl]
      by_cases z : i = j
      · rw [if_pos z]
      · rw [if_neg z]; exact hi i (by omega))
    refine ⟨h1, ?_, Ed.tr e p2, p3, p4⟩
    rw [f_X7_sea_97, if_neg (l_nge (b := 6) (by omega) (by decide)), gR_e hK, ha.1, Option.bind_some, sI_e ha.2.1 ha.2.2 (by omega) (by omega), Option.bind_some, nI_1]
    exact p1
theorem m_sea69 {m : Nat} (hf : 64 < fu) : ∀ (k j n : Nat) (h : Hp), j + k = 64 → k < n → ModS h m → (∀ i, i < j → h.I (m + 1) i = 0 ∧ h.I (m + 2) i = 0) → ∃ h1, f_X7_sea_69 fu n m (nI j) h = some (1, h1) ∧ Ed (fun b => m + 1 ≤ b ∧ b ≤ m + 3) h h1 ∧ h1.J = h.J ∧ (∀ i, i < 64 → h1.I (m + 1) i = 0 ∧ h1.I (m + 2) i = 0) ∧ ∀ i, i < 6 → h1.I (m + 3) i = 16
  | 0, j, n, h, hj, hn, hS, hi => by
    obtain ⟨n, rfl⟩ := Nat.exists_eq_succ_of_ne_zero (show n ≠ 0 by omega)
    obtain ⟨h1, p1, p2, p3, p4⟩ := m_sea97 (fu := fu) (m := m) 6 0 fu h (by omega) (by omega) hS.1 hS.2.2.2 (fun i hi => by omega)
    refine ⟨h1, ?_, p2.mono (fun b hb => by omega), p3, fun i h6 => ?_, p4⟩
    · rw [f_X7_sea_69, if_pos (l_ge (b := 64) (by omega) (by omega))]; exact p1
    · rw [(p2.2.2.2.2 (m + 1) (by omega)).1, (p2.2.2.2.2 (m + 2) (by omega)).1]; exact hi i (by omega)
  | k + 1, j, n, h, hj, hn, hS, hi => by
    obtain ⟨n, rfl⟩ := Nat.exists_eq_succ_of_ne_zero (show n ≠ 0 by omega)
    obtain ⟨s1, s2, s3, s4⟩ := hS
    have e : Ed (fun b => m + 1 ≤ b ∧ b ≤ m + 3) h (putI (putI h (m + 1) j 0) (m + 2) j 0) := Ed.tr (Ed.pI ⟨by omega, by omega⟩) (Ed.pI ⟨by omega, by omega⟩)
    obtain ⟨h1, p1, p2, p3, p4, p5⟩ := m_sea69 hf k (j + 1) n (putI (putI h (m + 1) j 0) (m + 2) j 0) (by omega) (by omega) ⟨s1, e.arr s2, e.arr s3, e.arr s4⟩ (fun i h6 => by
      by_cases z : i = j
      · exact ⟨by rw [putI_I, if_neg (by omega), putI_I, if_pos rfl, if_pos z], by rw [putI_I, if_pos rfl, if_pos z]⟩
      · exact ⟨by rw [putI_I, if_neg (by omega), putI_I, if_pos rfl, if_neg z]; exact (hi i (by omega)).1, by rw [putI_I, if_pos rfl, if_neg z, putI_I, if_neg (by omega)]; exact (hi i (by omega)).2⟩)
    refine ⟨h1, ?_, Ed.tr e p2, p3, p4, p5⟩
    rw [f_X7_sea_69, if_neg (l_nge (b := 64) (by omega) (by decide)), gR_e s1, s2.1, Option.bind_some, sI_e s2.2.1 s2.2.2 (by omega) (by omega), Option.bind_some, gR_e (h := putI _ _ _ _) s1]
    rw [show (putI h (m + 1) j 0).R m 9 = some (m + 2) from s3.1, Option.bind_some, sI_e (h := putI _ _ _ _) s3.2.1 s3.2.2 (by omega) (by omega), Option.bind_some, nI_1]
    exact p1
theorem g0_dr {w hh : Nat} : ∀ k, k < 6 → ∃ v, 0 < v ∧ v < 512 ∧ (g0 w hh).dr k = nI v := fun k _ => ⟨16, by omega, by omega, rfl⟩
theorem q_sea (hW : Wd h x v) (hf : 20000 < fu) (hf2 : fu < 2 ^ 31) (a b : Int32) : Tok x v (f_X6_sea fu x a b) (f_X7_sea fu (x + 20) a b) h := by
  obtain ⟨g, S, hr, cn, c, tp, tl, fk, fp, hC, hM, hR⟩ := hW
  obtain ⟨k1, k2, k3, k4, k5, k6, k7, k8, k9⟩ := cw_get hC
  by_cases c1 : a < 2
  · refine glue0 (r := 0) hC hM hR ?_ ?_
    · unfold f_X6_sea; rw [if_pos k1, if_pos c1]
    · intro h1 q; unfold f_X7_sea; rw [if_pos q.1.K, pI_e q.1.K, Option.bind_some, if_pos c1]; rfl
  by_cases c2 : 8 < a
  · refine glue0 (r := 0) hC hM hR ?_ ?_
    · unfold f_X6_sea; rw [if_pos k1, if_neg c1, if_pos c2]
    · intro h1 q; unfold f_X7_sea; rw [if_pos q.1.K, pI_e q.1.K, Option.bind_some, if_neg c1, if_pos c2]; rfl
  by_cases c3 : b < 2
  · refine glue0 (r := 0) hC hM hR ?_ ?_
    · unfold f_X6_sea; rw [if_pos k1, if_neg c1, if_neg c2, if_pos c3]
    · intro h1 q; unfold f_X7_sea; rw [if_pos q.1.K, pI_e q.1.K, Option.bind_some, if_neg c1, if_neg c2, if_pos c3]; rfl
  by_cases c4 : b ≤ 8
  · have e2 : (2 : Int32).toInt = 2 := by decide
    have e8 : (8 : Int32).toInt = 8 := by decide
    have c1' := c1
    have c2' := c2
    have c3' := c3
    have c4' := c4
    rw [lt_ti, e2] at c1' c3'
    rw [lt_ti, e8] at c2'
    rw [le_ti, e8] at c4'
    obtain ⟨w, hw⟩ : ∃ w : Nat, a.toInt = (w : Int) := ⟨a.toInt.toNat, by omega⟩
    obtain ⟨hh, hhh⟩ : ∃ w : Nat, b.toInt = (w : Int) := ⟨b.toInt.toNat, by omega⟩
    have ea := ti_eq hw (by omega)
    have eb := ti_eq hhh (by omega)
    have w2 : 2 ≤ w := by omega
    have w8 : w ≤ 8 := by omega
    have h2 : 2 ≤ hh := by omega
    have h8 : hh ≤ 8 := by omega
    have hn := mul_le_64 w8 h8
    clear c1' c2' c3' c4' hw hhh
    refine glue (v' := v + 1) (r := 1) (g' := g0 w hh) (S' := allm (w * hh)) (hr' := 0) (cn' := -1) (c' := c) (tp' := tp) (tl' := tl) (fk' := fk) (fp' := fp) hM ?_ ?_ ?_ (by omega)
    · obtain ⟨h1, a1, a2, a3, a4⟩ := s_lay (fu := fu) k7.1 (by omega) hf2 w2 w8 h2 h8
      have hC1 := hC.sea a3 a2 a4
      have K1 : h1.K x = 6 := by rw [a3.2.1]; exact k1
      have R1 : h1.R x 0 = some (x + 1) := by rw [a3.2.2.2.1]; exact k2
      have sc := sea_cells a2
      obtain ⟨h2', hh2⟩ : ∃ h2, h2 = putI (putI (putJ h1 x 4 (allm (w * hh))) x 5 0) x 6 (-1) := ⟨_, rfl⟩
      have e : Ed (fun b => b = x) h1 h2' := by rw [hh2]; exact Ed.tr (Ed.tr (Ed.pJ rfl) (Ed.pI rfl)) (Ed.pI rfl)
      have se : Se h2' (x + 1) (g0 w hh) := a2.fr (fun b p1 p2 => e.same (by omega))
      have vv : h2'.I (x + 1) 3 = nI (v + 1) := by rw [(e.2.2.2.2 (x + 1) (by omega)).1, a4, k8, nI_1]
      refine ⟨h2', ?_, hC1.up (e.mono (fun b hb => by omega)) se vv (Or.inr ⟨rfl, rfl⟩) (by rw [hh2, putI_J, putI_J, putJ_J, if_pos rfl, if_pos rfl]) (by rw [hh2, putI_I, if_pos rfl, if_neg (by decide), putI_I, if_pos rfl, if_pos rfl]; rfl) (by rw [hh2, putI_I, if_pos rfl, if_pos rfl]), ?_⟩
      · unfold f_X6_sea
        rw [if_pos k1, if_neg c1, if_neg c2, if_neg c3, if_pos c4, gR_e k1, k2, Option.bind_some, ea, eb, a1, Option.bind_some, gR_e K1, R1, Option.bind_some, gJ_e a2.1.1, Option.bind_some, sc]
        rw [startW K1, Option.bind_some, hh2]
        rfl
      · intro b p1 p2
        exact (a3.same (by omega)).tr (e.same (by omega))
    · intro h1 q
      obtain ⟨ha, hha⟩ : ∃ ha, ha = putI (putI (putI (putI (putI (putI (putI h1 (x + 20) 0 0) (x + 20) 1 (nI w)) (x + 20) 2 (nI hh)) (x + 20) 3 0) (x + 20) 5 (-1)) (x + 20) 6 0) (x + 20) 7 0 := ⟨_, rfl⟩
      have Ka : ha.K (x + 20) = 7 := by rw [hha]; exact q.1.K
      have I1 : ∀ j, ha.I (x + 20) j = if j = 7 then 0 else if j = 6 then 0 else if j = 5 then -1 else if j = 3 then 0 else if j = 2 then nI hh else if j = 1 then nI w else if j = 0 then 0 else h1.I (x + 20) j := by
        intro j; rw [hha]; simp only [putI_I, if_true]
      have ea1 : Ed (fun b => b = x + 20) h1 ha := by rw [hha]; exact Ed.tr (Ed.tr (Ed.tr (Ed.tr (Ed.tr (Ed.tr (Ed.pI rfl) (Ed.pI rfl)) (Ed.pI rfl)) (Ed.pI rfl)) (Ed.pI rfl)) (Ed.pI rfl)) (Ed.pI rfl)
      have hall := all_raw (fu := fu) Ka (by rw [I1]; rfl) (by rw [I1]; rfl) w8 h8
      obtain ⟨hb, hhb⟩ : ∃ hb, hb = putJ ha (x + 20) 4 (allm (w * hh)) := ⟨_, rfl⟩
      have eb1 : Ed (fun b => b = x + 20) h1 hb := by rw [hhb]; exact Ed.tr ea1 (Ed.pJ rfl)
      have Sb : ModS hb (x + 20) := by
        obtain ⟨s1, s2, s3, s4⟩ := q.1.1
        exact ⟨by rw [eb1.2.1]; exact s1, eb1.arr s2, eb1.arr s3, eb1.arr s4⟩
      obtain ⟨h2', p1, p2, p3, p4, p5⟩ := m_sea69 (fu := fu) (by omega) 64 0 fu hb (by omega) (by omega) Sb (fun i hi => by omega)
      have e : Ed (fun b => x + 20 ≤ b ∧ b ≤ x + 20 + 3) h1 h2' := Ed.tr (eb1.mono (fun b hb => by omega)) (p2.mono (fun b hb => by omega))
      have I2 : h2'.I (x + 20) = ha.I (x + 20) := by rw [(p2.2.2.2.2 (x + 20) (by omega)).1, hhb]; rfl
      refine ⟨h2', ?_, q.sea e ⟨?_, ?_, ?_, ?_, ?_, ?_, ?_⟩ (g0_ok w2 w8 h2 h8) ?_ ?_ ?_ ?_, e.1, ed_inn e (fun b hb => by omega)⟩
      · unfold f_X7_sea
        rw [if_pos q.1.K, pI_e q.1.K, Option.bind_some, if_neg c1, if_neg c2, if_neg c3, if_pos c4, ea, eb, pI_e (h := putI _ _ _ _) q.1.K, Option.bind_some, pI_e (h := putI (putI _ _ _ _) _ _ _) q.1.K, Option.bind_some, pI_e (h := putI (putI (putI _ _ _ _) _ _ _) _ _ _) q.1.K, Option.bind_some, pI_e (h := putI (putI (putI (putI _ _ _ _) _ _ _) _ _ _) _ _ _) q.1.K, Option.bind_some, pI_e (h := putI (putI (putI (putI (putI _ _ _ _) _ _ _) _ _ _) _ _ _) _ _ _) q.1.K, Option.bind_some, pI_e (h := putI (putI (putI (putI (putI (putI _ _ _ _) _ _ _) _ _ _) _ _ _) _ _ _) _ _ _) q.1.K, Option.bind_some, ← hha, hall, Option.bind_some, pJ_e Ka, Option.bind_some, ← hhb]
        exact p1
      · rw [I2, I1]; rfl
      · rw [I2, I1]; rfl
      · rw [I2, I1]; rfl
      · rw [I2, I1]; rfl
      · intro k hk; rw [(p4 k hk).1]; rfl
      · intro k hk; rw [(p4 k hk).2]; rfl
      · intro k hk; rw [p5 k hk]; rfl
      · intro k hk
        rw [I2, I1, if_neg (by omega), if_neg (by omega), if_neg (by omega), if_neg (by omega), if_neg (by omega), if_neg (by omega), if_neg (by omega)]
      · rw [p3, hhb, putJ_J, if_pos rfl, if_pos rfl]
      · rw [I2, I1]; rfl
      · rw [I2, I1]; rfl
    · obtain ⟨r1, r2, r3, r4, r5, r6, r7⟩ := hR
      exact ⟨g0_ok w2 w8 h2 h8, g0_dr, allm_subs hn, by omega, Or.inl rfl, r6, r7⟩
  · refine glue0 (r := 0) hC hM hR ?_ ?_
    · unfold f_X6_sea; rw [if_pos k1, if_neg c1, if_neg c2, if_neg c3, if_neg c4]
    · intro h1 q; unfold f_X7_sea; rw [if_pos q.1.K, pI_e q.1.K, Option.bind_some, if_neg c1, if_neg c2, if_neg c3, if_neg c4]; rfl
end CALLS4
