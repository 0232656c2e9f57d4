/-! THE LAW'S LOOP -/
section LOOP
variable {x v fu : Nat}
theorem tok_go {A B : Hp → Option (Int32 × Hp)} {K : Hp → Option (Int32 × Hp)} {h : Hp} (t : Tok x v A B h) (k : ∀ h2 v', Wd h2 x v' → v' ≤ v + 1 → ∃ h', K h2 = some (1, h')) : ∃ h', ((A h).bind fun r => (B r.2).bind fun r' => if r.1 = r'.1 then K r'.2 else some (0, r'.2)) = some (1, h') := by
  obtain ⟨r, h1, h2, v', a1, a2, a3, a4⟩ := t
  obtain ⟨h', e⟩ := k h2 v' a3 a4
  refine ⟨h', ?_⟩
  rw [a1, Option.bind_some]
  dsimp only
  rw [a2, Option.bind_some]
  dsimp only
  rw [if_pos rfl, e]
theorem tok_goJ {A B : Hp → Option (Int64 × Hp)} {K : Hp → Option (Int32 × Hp)} {h : Hp} (t : Tok x v A B h) (k : ∀ h2 v', Wd h2 x v' → v' ≤ v + 1 → ∃ h', K h2 = some (1, h')) : ∃ h', ((A h).bind fun r => (B r.2).bind fun r' => if (lg_cmp r.1 r'.1) = 0 then K r'.2 else some (0, r'.2)) = some (1, h') := by
  obtain ⟨r, h1, h2, v', a1, a2, a3, a4⟩ := t
  obtain ⟨h', e⟩ := k h2 v' a3 a4
  refine ⟨h', ?_⟩
  rw [a1, Option.bind_some]
  dsimp only
  rw [a2, Option.bind_some]
  dsimp only
  rw [if_pos ((cmp0 _ _).mpr rfl), e]
theorem and31 (w : Int32) : ∃ e, e < 32 ∧ w &&& 31 = nI e := by
  refine ⟨(w &&& 31).toBitVec.toNat, ?_, ?_⟩
  · rw [Int32.toBitVec_and, BitVec.toNat_and]
    have : (31 : Int32).toBitVec.toNat = 31 := by decide
    rw [this]
    exact Nat.lt_succ_of_le Nat.and_le_right
  · apply Int32.toBitVec_inj.mp
    rw [nI_bv, BitVec.ofNat_toNat]
    simp
theorem sL_e {L : Nat} {xs : Nat → Int32} {p : Nat} (hp : p < L) (hL : L ≤ 3072) : sL L xs (nI p) = some (xs p) := by
  unfold sL
  rw [if_pos (by rw [ti_n (by omega)]; omega), nI_clamp (by omega)]
set_option maxHeartbeats 4000000 in
theorem law_loop {L : Nat} {xs : Nat → Int32} (hL : L ≤ 3072) (hf : 20000 < fu) (hf2 : fu < 2 ^ 31) : ∀ (k p n v : Nat) (h : Hp), L < p + 6 + 6 * k → p ≤ 3072 → k < n → v + k < 10000 → Wd h x v → ∃ h', f_L_law_18 fu L xs n x (x + 20) (nI p) h = some (1, h') := by
  intro k
  induction k with
  | zero =>
    intro p n v h hk hp hn hv hW
    obtain ⟨n, rfl⟩ := Nat.exists_eq_succ_of_ne_zero (show n ≠ 0 by omega)
    refine ⟨h, ?_⟩
    have e6 : (6 : Int32).toInt = 6 := by decide
    rw [f_L_law_18, if_pos (by
      show nI L - 6 < nI p
      rw [lt_ti, ti_sub (ti_n (by omega)) e6 (by omega), ti_n (by omega)]; omega)]
  | succ k ih =>
    intro p n v h hk hp hn hv hW
    obtain ⟨n, rfl⟩ := Nat.exists_eq_succ_of_ne_zero (show n ≠ 0 by omega)
    have e6 : (6 : Int32).toInt = 6 := by decide
    by_cases z : L < p + 6
    · refine ⟨h, ?_⟩
      rw [f_L_law_18, if_pos (by
        show nI L - 6 < nI p
        rw [lt_ti, ti_sub (ti_n (by omega)) e6 (by omega), ti_n (by omega)]; omega)]
    · have s0 : sL L xs (nI p) = some (xs p) := sL_e (by omega) hL
      have s1 : sL L xs (nI p + 1) = some (xs (p + 1)) := by rw [nI_1]; exact sL_e (by omega) hL
      have s2 : sL L xs (nI p + 2) = some (xs (p + 2)) := by rw [l_add p 2]; exact sL_e (by omega) hL
      have s3 : sL L xs (nI p + 3) = some (xs (p + 3)) := by rw [l_add p 3]; exact sL_e (by omega) hL
      have s4 : sL L xs (nI p + 4) = some (xs (p + 4)) := by rw [l_add p 4]; exact sL_e (by omega) hL
      have s5 : sL L xs (nI p + 5) = some (xs (p + 5)) := by rw [l_add p 5]; exact sL_e (by omega) hL
      have go : ∀ h2 v', Wd h2 x v' → v' ≤ v + 1 → ∃ h', f_L_law_18 fu L xs n x (x + 20) (nI p + 6) h2 = some (1, h') := fun h2 v' w hv' => by
        rw [l_add p 6]
        exact ih (p + 6) n v' h2 (by omega) (by omega) (by omega) (by omega) w
      obtain ⟨e, he, hw⟩ := and31 (xs p)
      rw [f_L_law_18, if_neg (by
        show ¬ nI L - 6 < nI p
        rw [lt_ti, ti_sub (ti_n (by omega)) e6 (by omega), ti_n (by omega)]; omega)]
      simp only [s0, s1, s2, s3, s4, s5, Option.bind_some]
      rw [hw, swt_at (by omega)]
      have hc : e = 0 ∨ e = 1 ∨ e = 2 ∨ e = 3 ∨ e = 4 ∨ e = 5 ∨ e = 6 ∨ e = 7 ∨ e = 8 ∨ e = 9 ∨ e = 10 ∨ e = 11 ∨ e = 12 ∨ e = 13 ∨ e = 14 ∨ e = 15 ∨ e = 16 ∨ e = 17 ∨ e = 18 ∨ e = 19 ∨ e = 20 ∨ 21 ≤ e := by omega
      rcases hc with rfl | rfl | rfl | rfl | rfl | rfl | rfl | rfl | rfl | rfl | rfl | rfl | rfl | rfl | rfl | rfl | rfl | rfl | rfl | rfl | rfl | hc
      · exact tok_go (q_sea hW hf hf2 (xs (p + 1)) (xs (p + 2))) go
      · exact tok_go (q_land hW hf (xs (p + 1)) (xs (p + 2))) go
      · exact tok_go (q_swell hW hf (xs (p + 1)) (xs (p + 2))) go
      · exact tok_go (q_drifts hW (xs (p + 1)) (xs (p + 2))) go
      · exact tok_go (q_watches hW (xs (p + 1)) (xs (p + 2))) go
      · exact tok_go (q_look hW hf (xs (p + 1))) go
      · exact tok_goJ (q_reckoned hW) go
      · exact tok_go (q_begin hW _) go
      · exact tok_go (q_put hW (xs (p + 1))) go
      · exact tok_go (q_steer hW hf (xs (p + 1)) (xs (p + 2))) go
      · exact tok_go (q_sign hW hf (xs (p + 1)) (xs (p + 2)) (xs (p + 3))) go
      · exact tok_go (q_see hW hf (xs (p + 1)) (xs (p + 2))) go
      · exact tok_go (q_sights hW hf) go
      · exact tok_go (q_feed hW hf (xs (p + 1)) (xs (p + 2)) (xs (p + 3)) (xs (p + 4)) (xs (p + 5))) go
      · exact tok_go (q_end hW (xs (p + 1))) go
      · exact tok_go (q_chant hW hf) go
      · exact tok_go (q_fault hW (xs (p + 1))) go
      · exact tok_go (q_sure hW hf (by omega) (xs (p + 1))) go
      · exact tok_go (q_from hW hf (by omega) (xs (p + 1))) go
      · exact tok_go (q_sings hW hf (xs (p + 1))) go
      · exact tok_go (q_blind hW hf hf2 (by omega) (xs (p + 1))) go
      · rw [List.getElem?_eq_none (by simp only [List.length_cons, List.length_nil]; omega), Option.getD_none]
        exact go h v hW (by omega)
end LOOP
theorem law_true (L : Nat) (xs : Nat → Int32) (hL : L ≤ 3072) (lo : Nat) : ∃ fu h', f_L_law fu L xs (hp0 lo) = some (1, h') := by
  obtain ⟨h1, h2, a1, a2, a3, a4⟩ := start (h := hp0 lo) (fu := 100000) (x := lo) (by decide) (by decide) rfl
  obtain ⟨h', e⟩ := law_loop (fu := 100000) (x := lo) (L := L) (xs := xs) hL (by decide) (by decide) 600 0 100000 1 h2 (by omega) (by decide) (by decide) (by decide) a4
  refine ⟨100000, h', ?_⟩
  unfold f_L_law
  rw [show Hp.N (hp0 lo) = lo from rfl, a1, Option.bind_some]
  dsimp only
  rw [a2, a3, Option.bind_some]
  exact e
