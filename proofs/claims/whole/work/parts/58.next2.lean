def WSt (fu m : Nat) (x2 : Int32) (h : Hp) : Option (Unit × Hp) :=
  if x2 = 5 then (f_X7_isWord fu m 5 115 116 101 101 114 h).bind fun r => if r.1 = 0 then f_X7_next_122 fu m x2 r.2 else (pI r.2 7 m 25 2).bind fun h' => f_X7_next_122 fu m x2 h'
  else f_X7_next_122 fu m x2 h
section NEXT2
variable {m fu : Nat} {tp : Nat → Nat} {tl : Nat}
theorem m_words (hb : ∀ j, j < tl → tp j < 256) {h : Hp} {p n : Nat} (q : NxW h m tp tl p) (hn : p + n ≤ tl) (h25 : h.I m 25 = 1) : ∃ h1, WSt fu m (nI n) h = some ((), h1) ∧ NxW h1 m tp tl (p + n) ∧ NxE h h1 m ∧ h1.I m 24 = h.I m 24 ∧ h1.I m 25 = nI (kM (wk tp p n)) := by
  have h4 := q.2.2.2.2.1
  have n31 : n < 2 ^ 31 := by omega
  have q0 : NxW (upw tp p n 0 2 m h) m tp tl p := upw_W q
  have q1 : NxW (upw tp p n 1 3 m (upw tp p n 0 2 m h)) m tp tl p := upw_W q0
  have q2 : NxW (upw tp p n 2 4 m (upw tp p n 1 3 m (upw tp p n 0 2 m h))) m tp tl p := upw_W q1
  have q3 : NxW (upw tp p n 3 5 m (upw tp p n 2 4 m (upw tp p n 1 3 m (upw tp p n 0 2 m h)))) m tp tl p := upw_W q2
  have q4 : NxW (upw tp p n 4 6 m (upw tp p n 3 5 m (upw tp p n 2 4 m (upw tp p n 1 3 m (upw tp p n 0 2 m h))))) m tp tl p := upw_W q3
  have q5 : NxW (upw tp p n 5 7 m (upw tp p n 4 6 m (upw tp p n 3 5 m (upw tp p n 2 4 m (upw tp p n 1 3 m (upw tp p n 0 2 m h)))))) m tp tl p := upw_W q4
  have s0 : ∀ h', NxW h' m tp tl p → WSt fu m (nI n) h' = f_X7_next_122 fu m (nI n) (upw tp p n 0 2 m h') := fun h' z =>
    m_stg (N := fun h => f_X7_next_122 fu m (nI n) h) (L := 5) rfl rfl (by decide) n31 z.1 (fun e => m_w5 hb z (by omega) 115 116 101 101 114 (by decide))
  have s1 : ∀ h', NxW h' m tp tl p → f_X7_next_122 fu m (nI n) h' = f_X7_next_150 fu m (nI n) (upw tp p n 1 3 m h') := fun h' z =>
    m_stg (N := fun h => f_X7_next_150 fu m (nI n) h) (L := 5) rfl rfl (by decide) n31 z.1 (fun e => m_w5 hb z (by omega) 117 110 116 105 108 (by decide))
  have s2 : ∀ h', NxW h' m tp tl p → f_X7_next_150 fu m (nI n) h' = f_X7_next_176 fu m (nI n) (upw tp p n 2 4 m h') := fun h' z =>
    m_stg (N := fun h => f_X7_next_176 fu m (nI n) h) (L := 3) rfl rfl (by decide) n31 z.1 (fun e => m_w3 hb z (by omega) 102 111 114 0 0 (by decide))
  have s3 : ∀ h', NxW h' m tp tl p → f_X7_next_176 fu m (nI n) h' = f_X7_next_204 fu m (nI n) (upw tp p n 3 5 m h') := fun h' z =>
    m_stg (N := fun h => f_X7_next_204 fu m (nI n) h) (L := 5) rfl rfl (by decide) n31 z.1 (fun e => m_w5 hb z (by omega) 98 105 114 100 115 (by decide))
  have s4 : ∀ h', NxW h' m tp tl p → f_X7_next_204 fu m (nI n) h' = f_X7_next_233 fu m (nI n) (upw tp p n 4 6 m h') := fun h' z =>
    m_stg (N := fun h => f_X7_next_233 fu m (nI n) h) (L := 5) rfl rfl (by decide) n31 z.1 (fun e => m_w5 hb z (by omega) 115 119 101 108 108 (by decide))
  have s5 : ∀ h', NxW h' m tp tl p → f_X7_next_233 fu m (nI n) h' = f_X7_next_261 fu m (nI n) (upw tp p n 5 7 m h') := fun h' z =>
    m_stg (N := fun h => f_X7_next_261 fu m (nI n) h) (L := 4) rfl rfl (by decide) n31 z.1 (fun e => m_w4 hb z (by omega) 115 116 97 114 0 (by decide))
  refine ⟨_, ?_, q5.p (k := 23) (w := nI (p + n)) (Or.inl ⟨rfl, rfl⟩), NxE.tr (NxE.tr (NxE.tr (NxE.tr (NxE.tr (NxE.tr upw_E upw_E) upw_E) upw_E) upw_E) upw_E) (NxE.p (by omega)), ?_, ?_⟩
  · rw [s0 _ q, s1 _ q0, s2 _ q1, s3 _ q2, s4 _ q3, s5 _ q4]
    unfold f_X7_next_261
    rw [gI_e q5.1, Option.bind_some, q5.2.2.2.2.2, nI_add, pI_e q5.1, Option.bind_some]
  · rw [w3, if_neg (by decide), upw_24, upw_24, upw_24, upw_24, upw_24, upw_24]
  · rw [w3, if_neg (by decide), upw_25, upw_25, upw_25, upw_25, upw_25, upw_25, h25]
    exact wk_m p n
theorem m_letters (hb : ∀ j, j < tl → tp j < 256) {h : Hp} {p : Nat} (q : NxW h m tp tl p) : ∀ (k j n : Nat), p + j + k = tl → k < n → f_X7_next_75 fu n m (nI j) h = WSt fu m (nI (run isL tp tl (p + j) - p)) h
  | 0, j, n, hk, hn => by
    obtain ⟨n, rfl⟩ := Nat.exists_eq_succ_of_ne_zero (show n ≠ 0 by omega)
    have h4 := q.2.2.2.2.1
    rw [run_n (show ¬ (p + j < tl ∧ isL (tp (p + j)) = true) by omega), show p + j - p = j by omega]
    rw [f_X7_next_75, m_raw q (by omega), Option.bind_some]
    dsimp only
    rw [m_isL q.1 hb, Option.bind_some]
    dsimp only
    rw [if_neg (show ¬ (p + j < tl ∧ isL (tp (p + j)) = true) by omega), if_pos rfl]
    rfl
  | k + 1, j, n, hk, hn => by
    obtain ⟨n, rfl⟩ := Nat.exists_eq_succ_of_ne_zero (show n ≠ 0 by omega)
    have h4 := q.2.2.2.2.1
    have hp : p + j < tl := by omega
    rw [f_X7_next_75, m_raw q (by omega), Option.bind_some]
    dsimp only
    rw [m_isL q.1 hb, Option.bind_some]
    dsimp only
    by_cases z : isL (tp (p + j)) = true
    · rw [if_pos (show p + j < tl ∧ isL (tp (p + j)) = true from ⟨hp, z⟩), if_neg one_ne, nI_1, run_y hp z]
      exact m_letters hb q k (j + 1) n (by omega) (by omega)
    · rw [run_n (show ¬ (p + j < tl ∧ isL (tp (p + j)) = true) from fun y => z y.2), show p + j - p = j by omega, if_neg (show ¬ (p + j < tl ∧ isL (tp (p + j)) = true) from fun y => z y.2), if_pos rfl]
      rfl
theorem m_digits (hb : ∀ j, j < tl → tp j < 256) {p : Nat} : ∀ (k j n : Nat) (h : Hp), p + j + k = tl → k < n → NxW h m tp tl (p + j) → h.I m 25 = 1 → h.I m 26 = nI (vm tp p j) → (∀ i, p ≤ i → i < p + j → isD (tp i) = true) → ∃ h1, f_X7_next_289 fu n m (nI j) h = some ((), h1) ∧ NxW h1 m tp tl (run isD tp tl (p + j)) ∧ NxE h h1 m ∧ h1.I m 24 = h.I m 24 ∧ h1.I m 25 = nI (if run isD tp tl (p + j) - p ≤ 2 then 8 else 1) ∧ h1.I m 26 = nI (vm tp p (run isD tp tl (p + j) - p)) := by
  intro k
  induction k with
  | zero =>
    intro j n h hk hn q h25 h26 hd
    obtain ⟨n, rfl⟩ := Nat.exists_eq_succ_of_ne_zero (show n ≠ 0 by omega)
    have h4 := q.2.2.2.2.1
    have r0 : f_X7_raw fu m 0 h = some (rb tp tl (p + j), h) := m_raw (pl := p + j) (k := 0) q (show p + j + 0 < 2 ^ 31 by omega)
    have zz : ¬ (p + j < tl ∧ isD (tp (p + j)) = true) := by omega
    rw [run_n zz, show p + j - p = j by omega]
    rw [f_X7_next_289, r0, Option.bind_some]
    dsimp only
    rw [m_isD q.1 hb, Option.bind_some]
    dsimp only
    rw [if_neg zz, if_pos rfl]
    by_cases y : j ≤ 2
    · rw [if_neg (l_nge (b := 3) (by omega) (by decide)), pI_e q.1, Option.bind_some, if_pos y]
      exact ⟨_, rfl, q.p (k := 25) (Or.inr ⟨by omega, rfl⟩), NxE.p (by omega), by rw [w3, if_neg (by decide)], by rw [w3, if_pos rfl]; rfl, by rw [w3, if_neg (by decide)]; exact h26⟩
    · rw [if_pos (l_ge (b := 3) (by omega) (by omega)), if_neg y]
      exact ⟨_, rfl, q, NxE.rf, rfl, h25, h26⟩
  | succ k ih =>
    intro j n h hk hn q h25 h26 hd
    obtain ⟨n, rfl⟩ := Nat.exists_eq_succ_of_ne_zero (show n ≠ 0 by omega)
    have h4 := q.2.2.2.2.1
    have hp : p + j < tl := by omega
    have r0 : f_X7_raw fu m 0 h = some (rb tp tl (p + j), h) := m_raw (pl := p + j) (k := 0) q (show p + j + 0 < 2 ^ 31 by omega)
    rw [f_X7_next_289, r0, Option.bind_some]
    dsimp only
    rw [m_isD q.1 hb, Option.bind_some]
    dsimp only
    by_cases z : isD (tp (p + j)) = true
    · rw [if_pos (show p + j < tl ∧ isD (tp (p + j)) = true from ⟨hp, z⟩), if_neg one_ne, run_y hp z]
      have hd' : ∀ i, p ≤ i → i < p + (j + 1) → isD (tp i) = true := fun i i1 i2 => by
        by_cases e : i = p + j
        · rw [e]; exact z
        · exact hd i i1 (by omega)
      by_cases y : 2 ≤ j
      · rw [if_pos (l_ge (b := 2) y (by omega))]
        unfold f_X7_next_326
        rw [gI_e q.1, Option.bind_some, q.2.2.2.2.2, nI_1, pI_e q.1, Option.bind_some, nI_1]
        have q' : NxW (putI h m 23 (nI (p + j + 1))) m tp tl (p + (j + 1)) := q.p (k := 23) (Or.inl ⟨rfl, rfl⟩)
        obtain ⟨h1, a1, a2, a3, a4, a5, a6⟩ := ih (j + 1) n _ (by omega) (by omega) q' (by rw [w3, if_neg (by decide)]; exact h25) (by
          rw [w3, if_neg (by decide), h26]
          obtain ⟨t, rfl⟩ : ∃ t, j = t + 2 := ⟨j - 2, by omega⟩
          rfl) hd'
        exact ⟨h1, a1, a2, NxE.tr (NxE.p (by omega)) a3, by rw [a4, w3, if_neg (by decide)], a5, a6⟩
      · rw [if_neg (l_nge (b := 2) (by omega) (by decide)), gI_e q.1, Option.bind_some, h26, r0, Option.bind_some]
        dsimp only
        have rbe : rb tp tl (p + j) = nI (tp (p + j)) := if_pos hp
        have dd := z
        unfold isD at dd
        have dd := of_decide_eq_true dd
        have val : (10 * nI (vm tp p j) + rb tp tl (p + j)) - 48 = nI (vm tp p (j + 1)) := by
          rw [rbe, show (10 : Int32) * nI (vm tp p j) = nI (10 * vm tp p j) from pk_mul 10 _, nI_add, l_sub (b := 48) (by omega)]
          have e0 : j = 0 ∨ j = 1 := by omega
          rcases e0 with rfl | rfl
          · show nI (10 * 0 + tp p - 48) = nI (tp p - 48)
            rw [show 10 * 0 + tp p - 48 = tp p - 48 by omega]
          · show nI (10 * (tp p - 48) + tp (p + 1) - 48) = nI (10 * (tp p - 48) + (tp (p + 1) - 48))
            rw [show 10 * (tp p - 48) + tp (p + 1) - 48 = 10 * (tp p - 48) + (tp (p + 1) - 48) by omega]
        rw [val, pI_e q.1, Option.bind_some]
        unfold f_X7_next_326
        have qa : NxW (putI h m 26 (nI (vm tp p (j + 1)))) m tp tl (p + j) := q.p (k := 26) (Or.inr ⟨by omega, rfl⟩)
        have qb : NxW (putI (putI h m 26 (nI (vm tp p (j + 1)))) m 23 (nI (p + j + 1))) m tp tl (p + (j + 1)) := qa.p (k := 23) (Or.inl ⟨rfl, rfl⟩)
        rw [gI_e qa.1, Option.bind_some, qa.2.2.2.2.2, nI_1, pI_e qa.1, Option.bind_some, nI_1]
        obtain ⟨h1, a1, a2, a3, a4, a5, a6⟩ := ih (j + 1) n _ (by omega) (by omega) qb (by rw [w3, if_neg (by decide), w3, if_neg (by decide)]; exact h25) (by rw [w3, if_neg (by decide), w3, if_pos rfl]) hd'
        exact ⟨h1, a1, a2, NxE.tr (NxE.tr (NxE.p (by omega)) (NxE.p (by omega))) a3, by rw [a4, w3, if_neg (by decide), w3, if_neg (by decide)], a5, a6⟩
    · have zz : ¬ (p + j < tl ∧ isD (tp (p + j)) = true) := fun y => z y.2
      rw [run_n zz, show p + j - p = j by omega, if_neg zz, if_pos rfl]
      by_cases y : j ≤ 2
      · rw [if_neg (l_nge (b := 3) (by omega) (by decide)), pI_e q.1, Option.bind_some, if_pos y]
        exact ⟨_, rfl, q.p (k := 25) (Or.inr ⟨by omega, rfl⟩), NxE.p (by omega), by rw [w3, if_neg (by decide)], by rw [w3, if_pos rfl]; rfl, by rw [w3, if_neg (by decide)]; exact h26⟩
      · rw [if_pos (l_ge (b := 3) (by omega) (by omega)), if_neg y]
        exact ⟨_, rfl, q, NxE.rf, rfl, h25, h26⟩
end NEXT2
