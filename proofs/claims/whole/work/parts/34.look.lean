theorem swt_at {α : Type} {k : Nat} (hk : k < 2 ^ 31) (os : List α) (d : α) : swt (nI k) 0 os d = (os[k]?).getD d := by
  unfold swt
  rw [nI_toInt hk, if_neg (by omega)]
  simp
theorem swt_neg {α : Type} {a : Int32} (ha : a < 0) (os : List α) (d : α) : swt a 0 os d = d := by
  unfold swt
  rw [lt_ti, ti_0] at ha
  rw [if_pos ha]
theorem nn_of {a : Int32} (ha : ¬ a < 0) : ∃ k, k < 2 ^ 31 ∧ a = nI k := by
  rw [lt_ti, ti_0] at ha
  have hb := a.toInt_lt
  exact ⟨a.toInt.toNat, by omega, ti_eq (by omega) (by omega)⟩
theorem cnt_cut {p : Nat → Bool} {n : Nat} (hp : ∀ i, n ≤ i → p i = false) : ∀ m, n ≤ m → cnt p m = cnt p n
  | 0, h => by obtain rfl : n = 0 := by omega
               rfl
  | m + 1, h => by
    by_cases e : n = m + 1
    · rw [e]
    · rw [cnt, hp m (by omega), cnt_cut hp m (by omega)]; simp
section LOOK
variable {h : Hp} {x v fu : Nat}
theorem land_cnt {a : Nat} {g : Sg} {S : Int64} (hS : Se h a g) (hs : subs S g.n) : cnt (tb (S &&& h.J a 5)) 64 = cnt (fun i => tb S i && decide (0 < g.ld i)) g.n := by
  have hn := hS.2.2.2.n64
  have e1 : cnt (tb (S &&& h.J a 5)) 64 = cnt (fun i => tb S i && decide (0 < g.ld i)) 64 := cnt_congr (fun i hi => by rw [tb_and, hS.2.2.1.2.1 i hi])
  rw [e1]
  exact cnt_cut (fun i hi => by
    have : tb S i = false := by
      cases z : tb S i
      · rfl
      · have := hs i z; omega
    rw [this]; rfl) 64 hn
theorem m_isCell_o {h : Hp} {m : Nat} {g : Sg} (hM : Mo h m g) {k : Nat} (hk : g.n ≤ k) (hk2 : k < 2 ^ 31) : f_X7_isCell fu m (nI k) h = some (0, h) := m_isCell_n hM (Or.inr (nI_le hk hk2))
theorem s_hasCell_o {a : Nat} {g : Sg} (hS : Se h a g) {k : Nat} (hk : g.n ≤ k) (hk2 : k < 2 ^ 31) : f_X4_hasCell fu a (nI k) h = some (0, h) := s_hasCell_n hS (Or.inr (nI_le hk hk2))
/-- the class's look at rows -/
def lkR (g : Sg) (k : Nat) : Int32 :=
  if k < 10 then -2 else if k < 16 then g.dr (k - 10) else if k < 100 then -2 else if k < 200 then (if k - 100 < g.n then nI (g.ld (k - 100)) - 1 else -2) else (if k - 200 < g.n then g.sw (k - 200) else -2)
theorem c_rows {g : Sg} (k1 : h.K x = 6) (k2 : h.R x 0 = some (x + 1)) (hS : Se h (x + 1) g) {k : Nat} (hk : k < 2 ^ 31) : f_X6_lookAtRows fu x (nI k) h = some (lkR g k, h) := by
  have hn := hS.2.2.2.n64
  obtain ⟨⟨s1, s2, s3, s4, s5, s6, s7⟩, ⟨i1, i2, i3, i4, i5, i6, i7, i8, i9⟩, -, -⟩ := id hS
  unfold f_X6_lookAtRows lkR
  rw [if_pos k1]
  by_cases c2 : k < 200
  · rw [if_pos (l_lt (b := 200) c2 (by decide))]
    by_cases c1 : k < 100
    · rw [if_pos (l_lt (b := 100) c1 (by decide))]
      by_cases c0 : k < 10
      · rw [if_pos (l_lt (b := 10) c0 (by decide)), if_pos c0]
      · rw [if_neg (l_nlt (b := 10) (by omega) hk), if_neg c0, l_sub (b := 10) (by omega)]
        by_cases c6 : k < 16
        · rw [isWatch_y (show k - 10 < 6 by omega), Option.bind_some, if_neg one_ne, if_pos c6]
          dsimp only
          rw [gR_e k1, k2, Option.bind_some, gR_e s1, s4.1, Option.bind_some, aI_e s4.2.1 s4.2.2 (show k - 10 < 6 by omega) (by omega), Option.bind_some, i8 _ (by omega)]
        · rw [isWatch_n (Or.inr (nI_le (by omega) (by omega))), Option.bind_some, if_neg c6, if_pos c1]
          rfl
    · rw [if_neg (l_nlt (b := 100) (by omega) hk), if_neg (show ¬ k < 10 by omega), if_neg (show ¬ k < 16 by omega), if_neg c1, if_pos c2, gR_e k1, k2, Option.bind_some, l_sub (b := 100) (by omega)]
      by_cases cc : k - 100 < g.n
      · rw [s_hasCell_y hS cc, Option.bind_some, if_neg one_ne, if_pos cc]
        dsimp only
        rw [gR_e k1, k2, Option.bind_some, gR_e s1, s2.1, Option.bind_some, aI_e s2.2.1 s2.2.2 (by omega) (by omega), Option.bind_some, i6 _ (by omega)]
      · rw [s_hasCell_o hS (by omega) (by omega), Option.bind_some, if_neg cc]
        rfl
  · rw [if_neg (l_nlt (b := 200) (by omega) hk), if_neg (show ¬ k < 10 by omega), if_neg (show ¬ k < 16 by omega), if_neg (show ¬ k < 100 by omega), if_neg c2, gR_e k1, k2, Option.bind_some, l_sub (b := 200) (by omega)]
    by_cases cc : k - 200 < g.n
    · rw [s_hasCell_y hS cc, Option.bind_some, if_neg one_ne, if_pos cc]
      dsimp only
      rw [gR_e k1, k2, Option.bind_some, gR_e s1, s3.1, Option.bind_some, aI_e s3.2.1 s3.2.2 (by omega) (by omega), Option.bind_some, i7 _ (by omega)]
    · rw [s_hasCell_o hS (by omega) (by omega), Option.bind_some, if_neg cc]
      rfl
theorem m_rows156 {m : Nat} {g : Sg} (hM : Mo h m g) {k : Nat} (hk : k < 2 ^ 31) : f_X7_look_156 fu m (nI k) h = some (if k < 200 then -2 else if k - 200 < g.n then g.sw (k - 200) else -2, h) := by
  have hn := hM.2.2.n64
  have m9 := hM.1.2.2.1
  unfold f_X7_look_156
  by_cases c2 : k < 200
  · rw [if_pos (l_lt (b := 200) c2 (by decide)), if_pos c2]
  · rw [if_neg (l_nlt (b := 200) (by omega) hk), if_neg c2, l_sub (b := 200) (by omega)]
    by_cases cc : k - 200 < g.n
    · rw [m_isCell_y hM cc, Option.bind_some, if_neg one_ne, if_pos cc]
      dsimp only
      rw [gR_e hM.K, m9.1, Option.bind_some, aI_e m9.2.1 m9.2.2 (by omega) (by omega), Option.bind_some, hM.2.1.2.2.2.2.2.1 _ (by omega)]
    · rw [m_isCell_o hM (by omega) (by omega), Option.bind_some, if_neg cc]
      rfl
theorem m_rows127 {m : Nat} {g : Sg} (hM : Mo h m g) {k : Nat} (hk : k < 2 ^ 31) (h16 : k < 10 ∨ 16 ≤ k) : f_X7_look_127 fu m (nI k) h = some (lkR g k, h) := by
  have hn := hM.2.2.n64
  have m8 := hM.1.2.1
  unfold f_X7_look_127 lkR
  by_cases c1 : k < 100
  · rw [if_pos (l_lt (b := 100) c1 (by decide)), m_rows156 hM hk, if_pos (show k < 200 by omega)]
    by_cases c0 : k < 10
    · rw [if_pos c0]
    · rw [if_neg c0, if_neg (show ¬ k < 16 by omega), if_pos c1]
  · rw [if_neg (l_nlt (b := 100) (by omega) hk), l_sub (b := 100) (by omega), if_neg (show ¬ k < 10 by omega), if_neg (show ¬ k < 16 by omega), if_neg c1]
    by_cases cc : k - 100 < g.n
    · rw [m_isCell_y hM cc, Option.bind_some, if_neg one_ne, if_pos (show k < 200 by omega), if_pos cc]
      dsimp only
      rw [gR_e hM.K, m8.1, Option.bind_some, aI_e m8.2.1 m8.2.2 (by omega) (by omega), Option.bind_some, hM.2.1.2.2.2.2.1 _ (by omega)]
    · rw [m_isCell_o hM (by omega) (by omega), Option.bind_some]
      show f_X7_look_156 fu m (nI k) h = _
      rw [m_rows156 hM hk, if_neg cc]
theorem ne_lit {k b : Nat} (hk : k < 2 ^ 31) (hb : b < 2 ^ 31) (h : k ≠ b) : ¬ nI k = (OfNat.ofNat b : Int32) := fun z => h ((l_eq hk hb).mp z)
theorem q_look (hW : Wd h x v) (hf : 20000 < fu) (a : Int32) : Tok x v (f_X6_look fu x a) (f_X7_look fu (x + 20) a) h := by
  obtain ⟨g, S, hr, cn, c, tp, tl, fk, fp, hC, hM, hR⟩ := hW
  obtain ⟨k1, k2, k3, k4, k5, k6, k7, k8, k9⟩ := cw_get hC
  have hsg : ∃ sg, h.R x 2 = some sg ∧ h.K sg = 0 ∧ h.I sg 0 = nI c.n := by
    obtain ⟨sg, dr, jg, sc, ⟨a1, a2, a3, a4, a5, a6, a7, a8, a9, a10⟩, q2, q3, q4, ⟨q51, q52, q53, q54, q55⟩, q6, q7, q8, q9⟩ := hC
    exact ⟨sg, a4, q52.1, q54.1⟩
  obtain ⟨sg, g1, g2, g3⟩ := hsg
  obtain ⟨⟨s1, s2, s3, s4, s5, s6, s7⟩, ⟨i1, i2, i3, i4, i5, i6, i7, i8, i9⟩, -, -⟩ := id k7
  by_cases c0 : a < 0
  · have hl : f_X6_lookAtRows fu x a h = some (-2, h) := by
      have n2 : a < 200 := by rw [lt_ti] at c0 ⊢; rw [ti_0] at c0; have : (200 : Int32).toInt = 200 := by decide
                              omega
      have n1 : a < 100 := by rw [lt_ti] at c0 ⊢; rw [ti_0] at c0; have : (100 : Int32).toInt = 100 := by decide
                              omega
      have n0 : a < 10 := by rw [lt_ti] at c0 ⊢; rw [ti_0] at c0; have : (10 : Int32).toInt = 10 := by decide
                             omega
      unfold f_X6_lookAtRows; rw [if_pos k1, if_pos n2, if_pos n1, if_pos n0]
    refine glue0 (r := -2) hC hM hR ?_ ?_
    · unfold f_X6_look; rw [if_pos k1, swt_neg c0, hl, Option.bind_some]
    · intro h1 q
      have ne : ∀ b : Nat, b < 2 ^ 31 → ¬ a = (OfNat.ofNat b : Int32) := by
        intro b hb z
        rw [z, lt_ti, ti_0, i32_lit, ti_n hb] at c0
        omega
      have n2 : a < 200 := by rw [lt_ti] at c0 ⊢; rw [ti_0] at c0; have : (200 : Int32).toInt = 200 := by decide
                              omega
      have n1 : a < 100 := by rw [lt_ti] at c0 ⊢; rw [ti_0] at c0; have : (100 : Int32).toInt = 100 := by decide
                              omega
      have n0 : a < 10 := by rw [lt_ti] at c0 ⊢; rw [ti_0] at c0; have : (10 : Int32).toInt = 10 := by decide
                             omega
      unfold f_X7_look
      rw [if_pos q.1.K, pI_e q.1.K, Option.bind_some, if_neg (ne 0 (by decide)), if_neg (ne 1 (by decide)), if_neg (ne 2 (by decide)), if_neg (ne 3 (by decide)), if_neg (ne 4 (by decide)), if_neg (ne 5 (by decide)), if_neg (ne 6 (by decide)), if_neg (ne 7 (by decide)), if_neg (ne 8 (by decide)), if_pos n0]
      unfold f_X7_look_127 f_X7_look_156
      rw [if_pos n1, if_pos n2]; rfl
  · obtain ⟨k, hk, rfl⟩ := nn_of c0
    by_cases c9 : k < 9
    · have fin : ∀ r : Int32, f_X6_look fu x (nI k) h = some (r, h) → (∀ h1, ModP h1 (x + 20) g S hr cn c tp tl fk fp → f_X7_look fu (x + 20) (nI k) h1 = some (r, t0 h1 (x + 20))) → Tok x v (f_X6_look fu x (nI k)) (f_X7_look fu (x + 20) (nI k)) h := fun r p1 p2 => glue0 (r := r) hC hM hR p1 p2
      match k, hk, c9 with
      | 0, _, _ =>
        refine glue0 (r := nI g.w) hC hM hR ?_ ?_
        · unfold f_X6_look; rw [if_pos k1, swt_at (by decide)]; simp [gR, gI, k1, k2, s1, i1]
        · intro h1 q; have z := q.1.2.1.1; simp [f_X7_look, pI, gI, K_pI, q.1.K, putI_I, z, t0, show nI 0 = 0 from rfl]
      | 1, _, _ =>
        refine glue0 (r := nI g.hh) hC hM hR ?_ ?_
        · unfold f_X6_look; rw [if_pos k1, swt_at (by decide)]; simp [gR, gI, k1, k2, s1, i2]
        · intro h1 q; have z := q.1.2.1.2.1; simp [f_X7_look, pI, gI, K_pI, q.1.K, putI_I, z, t0, show nI 1 = 1 from rfl]
      | 2, _, _ =>
        refine glue0 (r := nI hr) hC hM hR ?_ ?_
        · unfold f_X6_look; rw [if_pos k1, swt_at (by decide)]; simp [gR, gI, k1, k5]
        · intro h1 q; have z := q.2.2.2.1; simp [f_X7_look, pI, gI, K_pI, q.1.K, putI_I, z, t0, show nI 2 = 2 from rfl]
      | 3, _, _ =>
        refine glue0 (r := nI (cnt (tb S) 64)) hC hM hR ?_ ?_
        · unfold f_X6_look; rw [if_pos k1, swt_at (by decide)]; simp [gJ, k1, k4, s_bitCount]
        · intro h1 q; have z := q.2.2.1; have y := m_count (h := t0 h1 (x + 20)) (fu := fu) (s := S) q.1.K (by omega); unfold t0 at y; simp [f_X7_look, pI, gJ, K_pI, q.1.K, putI_J, z, t0, y, show nI 3 = 3 from rfl]
      | 4, _, _ =>
        refine glue0 (r := nI (cnt (fun i => tb S i && decide (0 < g.ld i)) g.n)) hC hM hR ?_ ?_
        · unfold f_X6_look; rw [if_pos k1, swt_at (by decide)]; simp [gJ, gR, k1, k2, k4, s1, s_bitCount, land_cnt k7 hR.2.2.1]
        · intro h1 q; have z := q.2.2.1; have y := m_landsIn (fu := fu) (s := S) q.t0.1 (by omega); unfold t0 at y; simp [f_X7_look, pI, gJ, K_pI, q.1.K, putI_J, z, t0, y, show nI 4 = 4 from rfl]
      | 5, _, _ =>
        refine glue0 (r := cn) hC hM hR ?_ ?_
        · unfold f_X6_look; rw [if_pos k1, swt_at (by decide)]; simp [gI, k1, k6]
        · intro h1 q; have z := q.2.2.2.2.1; simp [f_X7_look, pI, gI, K_pI, q.1.K, putI_I, z, t0, show nI 5 = 5 from rfl]
      | 6, _, _ =>
        refine glue0 (r := nI c.n) hC hM hR ?_ ?_
        · unfold f_X6_look; rw [if_pos k1, swt_at (by decide)]; simp [gR, gI, k1, g1, g2, g3]
        · intro h1 q; have z := q.2.2.2.2.2.1.1; simp [f_X7_look, pI, gI, K_pI, q.1.K, putI_I, z, t0, show nI 6 = 6 from rfl]
      | 7, _, _ =>
        refine glue0 (r := g.ni) hC hM hR ?_ ?_
        · unfold f_X6_look; rw [if_pos k1, swt_at (by decide)]; simp [gR, gI, k1, k2, s1, i4]
        · intro h1 q; have z := q.1.2.1.2.2.1; simp [f_X7_look, pI, gI, K_pI, q.1.K, putI_I, z, t0, show nI 7 = 7 from rfl]
      | 8, _, _ =>
        refine glue0 (r := g.fl) hC hM hR ?_ ?_
        · unfold f_X6_look; rw [if_pos k1, swt_at (by decide)]; simp [gR, gI, k1, k2, s1, i5]
        · intro h1 q; have z := q.1.2.1.2.2.2.1; simp [f_X7_look, pI, gI, K_pI, q.1.K, putI_I, z, t0, show nI 8 = 8 from rfl]
    · refine glue0 (r := lkR g k) hC hM hR ?_ ?_
      · unfold f_X6_look
        rw [if_pos k1, swt_at hk, List.getElem?_eq_none (by simp; omega), Option.getD_none, c_rows k1 k2 k7 hk, Option.bind_some]
      · intro h1 q
        unfold f_X7_look
        rw [if_pos q.1.K, pI_e q.1.K, Option.bind_some, if_neg (ne_lit (b := 0) hk (by decide) (by omega)), if_neg (ne_lit (b := 1) hk (by decide) (by omega)), if_neg (ne_lit (b := 2) hk (by decide) (by omega)), if_neg (ne_lit (b := 3) hk (by decide) (by omega)), if_neg (ne_lit (b := 4) hk (by decide) (by omega)), if_neg (ne_lit (b := 5) hk (by decide) (by omega)), if_neg (ne_lit (b := 6) hk (by decide) (by omega)), if_neg (ne_lit (b := 7) hk (by decide) (by omega)), if_neg (ne_lit (b := 8) hk (by decide) (by omega))]
        by_cases d1 : k < 10
        · rw [if_pos (l_lt (b := 10) d1 (by decide)), m_rows127 (h := putI _ _ _ _) q.t0.1 hk (Or.inl d1)]; rfl
        · rw [if_neg (l_nlt (b := 10) (by omega) hk)]
          by_cases d2 : 16 ≤ k
          · rw [if_pos (l_ge (b := 16) d2 hk), m_rows127 (h := putI _ _ _ _) q.t0.1 hk (Or.inr d2)]; rfl
          · have m10 := q.1.1.2.2.2
            rw [if_neg (l_nge (b := 16) (by omega) (by decide)), gR_e (h := putI _ _ _ _) q.1.K]
            rw [show (putI h1 (x + 20) 0 0).R (x + 20) 10 = some (x + 20 + 3) from m10.1, Option.bind_some, l_sub (b := 10) (by omega), aI_e (h := putI _ _ _ _) m10.2.1 m10.2.2 (show k - 10 < 6 by omega) (by omega), Option.bind_some, putI_I, if_neg (by omega), q.1.2.1.2.2.2.2.2.2 _ (by omega)]
            unfold lkR
            rw [if_neg (show ¬ k < 10 by omega), if_pos (show k < 16 by omega)]; rfl
end LOOK
