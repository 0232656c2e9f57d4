theorem mC9 (C a b : Nat) : min (max a b) C = max (min a C) (min b C) := by omega
theorem mCa (C a b : Nat) : min (min a b) C = min (min a C) (min b C) := by omega
theorem cC9 (a b : Nat) : cC (max a b) = max (cC a) (cC b) := mC9 100000 a b
theorem cCa (a b : Nat) : cC (min a b) = min (cC a) (cC b) := mCa 100000 a b
theorem cC_gp {K v : Nat} (h : gp K v) (hK : K ≤ 1000) : (cC v < 100000 ↔ v < 1000000) ∧ (v < 1000000 → cC v = v) := by
  unfold gp at h
  unfold cC
  rcases h with h | h
  · rw [Nat.min_eq_left (by omega)]; exact ⟨by omega, fun _ => rfl⟩
  · rw [Nat.min_eq_right (by omega)]; exact ⟨by omega, fun z => by omega⟩
def ansC (v : Nat) : Int32 := if cC v < 100000 then nI (cC v) else -1
theorem ansC_e {K v : Nat} (h : gp K v) (hK : K ≤ 1000) : ansC v = ans v := by
  obtain ⟨h1, h2⟩ := cC_gp h hK
  unfold ansC ans
  by_cases z : v < 1000000
  · rw [if_pos (h1.mpr z), h2 z, if_neg (by omega)]
  · rw [if_neg (fun y => z (h1.mp y)), if_pos (by omega)]
theorem fLm_gp {K n : Nat} {T : Nat → Nat} {S : Int64} (hT : ∀ i, i < n → gp K (T i)) : ∀ (k c a : Nat), c + k ≤ n → gp K a → gp K (fLm T S k c a)
  | 0, _, _, _, h => h
  | k + 1, c, a, hc, h => by
    rw [fLm]
    refine fLm_gp hT k (c + 1) _ (by omega) ?_
    split
    · exact h.mx (hT c (by omega))
    · exact h
theorem fSm_gp {K n : Nat} {T : Nat → Nat} {S : Int64} (hT : ∀ i, i < n → gp K (T i)) : ∀ (k c a : Nat), c + k ≤ n → gp K a → gp K (fSm T S k c a)
  | 0, _, _, _, h => h
  | k + 1, c, a, hc, h => by
    rw [fSm]
    refine fSm_gp hT k (c + 1) _ (by omega) ?_
    split
    · exact h.mn (hT c (by omega))
    · exact h
theorem fLm_bit {T : Nat → Nat} {d : Nat} (hd : d < 64) : ∀ (k c a : Nat), c + k ≤ 64 → fLm T (lsh 1 (nI d)) k c a = if c ≤ d ∧ d < c + k then max a (T d) else a
  | 0, c, a, _ => by rw [fLm, if_neg (by omega)]
  | k + 1, c, a, hc => by
    rw [fLm, fLm_bit hd k (c + 1) _ (by omega), tb_bit hd (by omega)]
    by_cases e : c = d
    · subst e
      rw [if_neg (show ¬ (c + 1 ≤ c ∧ c < c + 1 + k) by omega), if_pos (show c ≤ c ∧ c < c + (k + 1) by omega)]
      simp
    · rw [decide_eq_false e, if_neg (show ¬ false = true by decide)]
      by_cases z : c + 1 ≤ d ∧ d < c + 1 + k
      · rw [if_pos z, if_pos (by omega)]
      · rw [if_neg z, if_neg (by omega)]
section SURE
variable {fu : Nat}
theorem m_sure32 {h : Hp} {m hr K : Nat} {g : Sg} {c : Cg} {S : Int64} {T : Tb} {x1 : Int32} (rm : RM h m g c) (mt : MT h m 0 g T) (hG : Gp g K T) (hK : K ≤ 1000) (hJ : h.J m 4 = S) (hI : h.I m 3 = nI hr) (hh : hr < 10000) : ∀ (k ce n L s u : Nat), ce + k = g.n → k < n → f_X7_sure_32 fu n m x1 (nI (cC L)) (nI (cC s)) (nI u) (nI ce) h = some (if x1 = 0 then ansC (fLm (fun i => (T (hr % 6) i).1) S k ce L) else if x1 = 1 then ansC (fSm (fun i => (T (hr % 6) i).2) S k ce s) else nI (fUm (fun i => (T (hr % 6) i).1) S k ce u), h)
  | 0, ce, n, L, s, u, hc, hn => by
    obtain ⟨n, rfl⟩ := Nat.exists_eq_succ_of_ne_zero (show n ≠ 0 by omega)
    have h64 := rm.1.2.2.n64
    have b1 := cC4 L
    have b2 := cC4 s
    rw [f_X7_sure_32, m_cells rm.1, Option.bind_some, if_pos (nI_le (by omega) (by omega)), fLm, fSm, fUm]
    dsimp only
    by_cases e0 : x1 = 0
    · rw [if_pos e0, if_pos e0]
      unfold ansC
      by_cases z : cC L < 100000
      · rw [if_pos (l_lt (b := 100000) z (by decide)), if_pos z]
      · rw [if_neg (l_nlt (b := 100000) (by omega) (by omega)), if_neg z]
    · rw [if_neg e0, if_neg e0]
      by_cases e1 : x1 = 1
      · rw [if_pos e1, if_pos e1]
        unfold ansC
        by_cases z : cC s < 100000
        · rw [if_pos (l_lt (b := 100000) z (by decide)), if_pos z]
        · rw [if_neg (l_nlt (b := 100000) (by omega) (by omega)), if_neg z]
      · rw [if_neg e1, if_neg e1]
  | k + 1, ce, n, L, s, u, hc, hn => by
    obtain ⟨n, rfl⟩ := Nat.exists_eq_succ_of_ne_zero (show n ≠ 0 by omega)
    have h64 := rm.1.2.2.n64
    have b1 := cC4 L
    have b2 := cC4 s
    have hw6 : hr % 6 < 6 := Nat.mod_lt _ (by omega)
    have hK7 := rm.1.K
    obtain ⟨-, -, -, -, -, -, -, -, -, a29, a30, -⟩ := rm.2.1
    have ih := fun L s u => m_sure32 (x1 := x1) rm mt hG hK hJ hI hh k (ce + 1) n L s u (by omega) (by omega)
    rw [f_X7_sure_32, m_cells rm.1, Option.bind_some, if_neg (nI_ge (show ce < g.n by omega) (by omega))]
    dsimp only
    rw [gJ_e hK7, Option.bind_some, hJ, m_has hK7 (by omega), Option.bind_some, fLm, fSm, fUm]
    cases z : tb S ce
    · rw [if_pos (show ((if false = true then 1 else 0 : Int32), h).1 = 0 from rfl)]
      show f_X7_sure_32 fu n m x1 (nI (cC L)) (nI (cC s)) (nI u) (nI ce + 1) h = _
      rw [nI_1, ih]
      rfl
    · obtain ⟨t1, t2⟩ := mt ce (by omega) (hr % 6) hw6
      obtain ⟨g1, g2⟩ := hG (hr % 6) hw6 ce (by omega)
      have i2 : 384 * 0 + 6 * ce + hr % 6 < 16384 := by omega
      have c1 := cC4 (T (hr % 6) ce).1
      have c2 := cC4 (T (hr % 6) ce).2
      rw [if_neg (show ¬ ((if true = true then 1 else 0 : Int32), h).1 = 0 from one_ne)]
      dsimp only
      rw [gI_e hK7, Option.bind_some, hI, l_rem (b := 6) (by omega) (by decide) (by decide)]
      rw [show f_X7_at fu m 0 (nI ce) (nI (hr % 6)) h = some (nI (384 * 0 + 6 * ce + hr % 6), h) from m_at hK7 0 ce (hr % 6), Option.bind_some]
      dsimp only
      rw [gR_e hK7, a29.1, Option.bind_some, aI_e a29.2.1 a29.2.2 i2 (by omega), Option.bind_some, t1]
      -- the most and the least, the unsure being u'
      have rest : ∀ u' : Nat, f_X7_sure_91 fu (fun y0 y1 y2 y3 y4 y5 hy => f_X7_sure_32 fu n y0 y1 y2 y3 y4 y5 hy) m x1 (nI (cC L)) (nI (cC s)) (nI u') (nI ce) (nI (384 * 0 + 6 * ce + hr % 6)) h = some (if x1 = 0 then ansC (fLm (fun i => (T (hr % 6) i).1) S k (ce + 1) (max L (T (hr % 6) ce).1)) else if x1 = 1 then ansC (fSm (fun i => (T (hr % 6) i).2) S k (ce + 1) (min s (T (hr % 6) ce).2)) else nI (fUm (fun i => (T (hr % 6) i).1) S k (ce + 1) u'), h) := by
        intro u'
        have r2 : ∀ L' : Nat, f_X7_sure_110 fu (fun y0 y1 y2 y3 y4 y5 hy => f_X7_sure_32 fu n y0 y1 y2 y3 y4 y5 hy) m x1 (nI (cC L')) (nI (cC s)) (nI u') (nI ce) (nI (384 * 0 + 6 * ce + hr % 6)) h = some (if x1 = 0 then ansC (fLm (fun i => (T (hr % 6) i).1) S k (ce + 1) L') else if x1 = 1 then ansC (fSm (fun i => (T (hr % 6) i).2) S k (ce + 1) (min s (T (hr % 6) ce).2)) else nI (fUm (fun i => (T (hr % 6) i).1) S k (ce + 1) u'), h) := by
          intro L'
          unfold f_X7_sure_110
          rw [gR_e hK7, a30.1, Option.bind_some, aI_e a30.2.1 a30.2.2 i2 (by omega), Option.bind_some, t2]
          by_cases y : cC s ≤ cC (T (hr % 6) ce).2
          · rw [if_pos (nI_le y (by omega))]
            show f_X7_sure_32 fu n m x1 (nI (cC L')) (nI (cC s)) (nI u') (nI ce + 1) h = _
            rw [nI_1, show cC s = cC (min s (T (hr % 6) ce).2) by rw [cCa, Nat.min_eq_left y], ih]
          · rw [if_neg (nI_ge (by omega) (by omega)), Option.bind_some, aI_e a30.2.1 a30.2.2 i2 (by omega), Option.bind_some, t2]
            show f_X7_sure_32 fu n m x1 (nI (cC L')) (nI (cC (T (hr % 6) ce).2)) (nI u') (nI ce + 1) h = _
            rw [nI_1, show cC (T (hr % 6) ce).2 = cC (min s (T (hr % 6) ce).2) by rw [cCa, Nat.min_eq_right (by omega)], ih]
        unfold f_X7_sure_91
        rw [gR_e hK7, a29.1, Option.bind_some, aI_e a29.2.1 a29.2.2 i2 (by omega), Option.bind_some, t1]
        by_cases y : cC (T (hr % 6) ce).1 ≤ cC L
        · rw [if_pos (nI_le y (by omega)), show cC L = cC (max L (T (hr % 6) ce).1) by rw [cC9, Nat.max_eq_left y], r2]
        · rw [if_neg (nI_ge (by omega) (by omega)), Option.bind_some, aI_e a29.2.1 a29.2.2 i2 (by omega), Option.bind_some, t1, show cC (T (hr % 6) ce).1 = cC (max L (T (hr % 6) ce).1) by rw [cC9, Nat.max_eq_right (by omega)], r2]
      have gg := (cC_gp g1 hK).1
      by_cases y : (T (hr % 6) ce).1 < 1000000
      · rw [if_pos (l_lt (b := 100000) (gg.mpr y) (by decide)), rest u]
        simp only [if_pos rfl, if_neg (show ¬ 1000000 ≤ (T (hr % 6) ce).1 by omega), if_true]
      · rw [if_neg (l_nlt (b := 100000) (by have := fun z => y (gg.mp z); omega) (by omega)), nI_1, rest (u + 1)]
        simp only [if_pos (show 1000000 ≤ (T (hr % 6) ce).1 by omega), if_true]
end SURE
