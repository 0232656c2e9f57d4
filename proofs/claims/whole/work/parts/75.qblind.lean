section QBLIND
variable {x v fu : Nat}
theorem q_blind {h : Hp} (hW : Wd h x v) (hf : 20000 < fu) (hf2 : fu < 2 ^ 31) (hv : v < 100000) (a : Int32) : Tok x v (f_X6_blind fu x a) (f_X7_blind fu (x + 20) a) h := by
  obtain ⟨g, S, hr, cn, c, tp, tl, fk, fp, hC, hM, hR⟩ := hW
  obtain ⟨k1, k2, k3, k4, k5, k6, k7, k8, k9⟩ := cw_get hC
  obtain ⟨hg, r2, r3, r4, r5, r6, r7⟩ := id hR
  have e10 : (10 : Int32).toInt = 10 := by decide
  have e12 : (12 : Int32).toInt = 12 := by decide
  have e21 : (21 : Int32).toInt = 21 := by decide
  have e22 : (nI 22).toInt = 22 := by decide
  obtain ⟨H, c1, c2, c3, c4⟩ := c_blind34 (fu := fu) hf hf2 hv hC hR
  -- the reference's heap behind it
  have fr : ∀ h1 h2, ME (t0 h1 (x + 20)) h2 (x + 20) → h2.N = h1.N ∧ ∀ b, b < x + 20 ∨ x + 40 ≤ b → same h1 h2 b := fun h1 h2 e => by
    refine ⟨e.1.1.trans rfl, fun b hb => ((t0_E h1 (x + 20)).same (by omega)).tr (e.1.same (by omega))⟩
  have no : a < 10 → a ≠ 0 → Tok x v (f_X6_blind fu x a) (f_X7_blind fu (x + 20) a) h := fun z1 z2 => by
    refine glue0 (r := -2) hC hM hR ?_ (fun h1 q => ?_)
    · unfold f_X6_blind f_X6_blind_21 f_X6_blind_22
      rw [if_pos k1, if_pos z1, if_neg z2, if_pos rfl]
    · unfold f_X7_blind
      rw [if_pos q.1.K, pI_e q.1.K, Option.bind_some, if_neg z2, if_pos z1]; rfl
  rcases pk_ix a (show 22 < 2 ^ 31 by omega) with hx | hx | ⟨k, hk, rfl⟩
  · refine no ?_ (fun z => ?_)
    · rw [lt_ti, ti_0] at hx
      rw [lt_ti, e10]; omega
    · rw [z] at hx; exact absurd hx (by decide)
  · rw [le_ti, e22] at hx
    have n10 : ¬ a < 10 := by rw [lt_ti, e10]; omega
    have n0 : ¬ a = 0 := fun z => by rw [z, ti_0] at hx; omega
    have n21 : ¬ a ≤ 21 := by rw [le_ti, e21]; omega
    have up := Int32.toInt_lt a
    have s10 : 12 ≤ a - 10 := by
      rw [le_ti, e12, ti_sub (x := a.toInt) rfl e10 (by omega)]; omega
    refine glue0 (r := -2) hC hM hR ?_ (fun h1 q => ?_)
    · unfold f_X6_blind f_X6_blind_21 f_X6_blind_22
      rw [if_pos k1, if_neg n10, if_pos s10, if_neg n0, if_pos rfl]
    · unfold f_X7_blind
      rw [if_pos q.1.K, pI_e q.1.K, Option.bind_some, if_neg n0, if_neg n10, if_neg n21]; rfl
  · by_cases k0 : k = 0
    · subst k0
      refine glue (v' := v) (r := blA g S (hr % 6)) hM ⟨H, ?_, c1, c2⟩ (fun h1 q => ?_) hR (by omega)
      · unfold f_X6_blind f_X6_blind_21 f_X6_blind_22
        rw [if_pos k1, if_pos (show nI 0 < 10 by decide), if_pos (show nI 0 = 0 from rfl)]
        exact c3 _
      · obtain ⟨h2, a1, a2, a3⟩ := m_blind24 (fu := fu) hf r4 r3 q.t0
        refine ⟨h2, ?_, q.t0.bl a1, fr h1 h2 a1⟩
        unfold f_X7_blind
        rw [if_pos q.1.K, pI_e q.1.K, Option.bind_some, if_pos (show nI 0 = 0 from rfl)]
        exact a2
    · have n0 : ¬ nI k = 0 := ne_lit (b := 0) (by omega) (by decide) k0
      by_cases k10 : k < 10
      · exact no (l_lt (b := 10) k10 (by decide)) n0
      · obtain ⟨i, rfl⟩ : ∃ i, k = 10 + i := ⟨k - 10, by omega⟩
        have n10 : ¬ nI (10 + i) < 10 := l_nlt (b := 10) (by omega) (by omega)
        have s10 : nI (10 + i) - 10 = nI i := by rw [show (10 : Int32) = nI 10 from rfl, pk_sub (by omega), show 10 + i - 10 = i by omega]
        refine glue (v' := v) (r := ansI g S (hr % 6) i) hM ⟨H, ?_, c1, c2⟩ (fun h1 q => ?_) hR (by omega)
        · unfold f_X6_blind f_X6_blind_22
          rw [if_pos k1, if_neg n10, s10, if_neg (l_nge (b := 12) (by omega) (by decide)), if_neg n0, if_neg one_ne]
          exact c4 i (by omega)
        · obtain ⟨h2, a1, a2, a3⟩ := m_blind24 (fu := fu) hf r4 r3 q.t0
          refine ⟨h2, ?_, q.t0.bl a1, fr h1 h2 a1⟩
          unfold f_X7_blind
          rw [if_pos q.1.K, pI_e q.1.K, Option.bind_some, if_neg n0, if_neg n10, if_pos (l_le (b := 21) (by omega) (by decide))]
          exact a3 i (by omega)
end QBLIND
