/-- what the digits so far come to -/
def vv (tp : Nat → Nat) (s : Nat) : Nat → Nat
  | 0 => 0
  | 1 => tp s - 48
  | 2 => 10 * (tp s - 48) + (tp (s + 1) - 48)
  | _ => 0
section LEXD
variable {x fu : Nat} {tp : Nat → Nat} {tl : Nat} {fk fp : Int32}
theorem c_num80 {h : Hp} {pl s : Nat} (q : RdW h x tp tl fk fp pl) (h6 : h.I (x + 8) 6 = nI s) (hs : s ≤ pl) (hp : pl ≤ tl) : f_X3_readNumber_80 fu (x + 8) h = some ((), putI h (x + 8) 5 (nI (if pl - s ≤ 2 then 2 else 1))) := by
  obtain ⟨⟨r1, r2, r3, r4, r5, r6, r7⟩, r8⟩ := q
  unfold f_X3_readNumber_80 f_X3_readNumber_99
  rw [gI_e r1, Option.bind_some, r8, gI_e r1, Option.bind_some, h6, pk_sub hs]
  by_cases z : pl - s ≤ 2
  · rw [if_neg (l_ngt (b := 2) z (by decide)), if_pos z, pI_e r1, Option.bind_some]; rfl
  · rw [if_pos (l_gt (b := 2) (by omega) (by omega)), if_neg z, pI_e r1, Option.bind_some]; rfl
theorem c_num (hb : ∀ j, j < tl → tp j < 256) {s : Nat} : ∀ (k pl n : Nat) (h : Hp), pl + k = tl → k < n → RdW h x tp tl fk fp pl → h.I (x + 8) 6 = nI s → s ≤ pl → h.I (x + 8) 7 = nI (vv tp s (pl - s)) → (∀ j, s ≤ j → j < pl → isD (tp j) = true) → ∃ h1, f_X3_readNumber_0 fu n (x + 8) h = some ((), h1) ∧ RdW h1 x tp tl fk fp (run isD tp tl pl) ∧ Ed (fun b => b = x + 8) h h1 ∧ h1.I (x + 8) 5 = nI (if run isD tp tl pl - s ≤ 2 then 2 else 1) ∧ h1.I (x + 8) 6 = nI s ∧ h1.I (x + 8) 7 = nI (vv tp s (run isD tp tl pl - s))
  | 0, pl, n, h, hk, hn, q, h6, hs, h7, hd => by
    obtain ⟨n, rfl⟩ := Nat.exists_eq_succ_of_ne_zero (show n ≠ 0 by omega)
    obtain ⟨⟨r1, r2, r3, r4, r5, r6, r7⟩, r8⟩ := id q
    rw [run_n (show ¬ (pl < tl ∧ isD (tp pl) = true) by omega)]
    refine ⟨_, ?_, q.put (k := 5) (Or.inr ⟨Or.inl rfl, rfl⟩), Ed.pI rfl, by rw [w3, if_pos rfl], by rw [w3, if_neg (by decide)]; exact h6, by rw [w3, if_neg (by decide)]; exact h7⟩
    rw [f_X3_readNumber_0, gI_e r1, Option.bind_some, r8, gI_e r1, Option.bind_some, r3, if_pos (nI_le (by omega) (by omega)), c_num80 q h6 hs (by omega)]
  | k + 1, pl, n, h, hk, hn, q, h6, hs, h7, hd => by
    obtain ⟨n, rfl⟩ := Nat.exists_eq_succ_of_ne_zero (show n ≠ 0 by omega)
    obtain ⟨⟨r1, r2, r3, r4, r5, r6, r7⟩, r8⟩ := id q
    have hp : pl < tl := by omega
    have u : f_X3_readNumber_0 fu (n + 1) (x + 8) h = (if (if isD (tp pl) then 1 else 0 : Int32) = 0 then f_X3_readNumber_80 fu (x + 8) h else if 2 ≤ nI (pl - s) then f_X3_readNumber_64 fu (fun y0 hy => f_X3_readNumber_0 fu n y0 hy) (x + 8) (x + 8) 0 h else f_X3_readNumber_64 fu (fun y0 hy => f_X3_readNumber_0 fu n y0 hy) (x + 8) (x + 8) (((10 * nI (vv tp s (pl - s))) + nI (tp pl)) - 48) h) := by
      rw [f_X3_readNumber_0, gI_e r1, Option.bind_some, r8, gI_e r1, Option.bind_some, r3, if_neg (nI_ge hp (by omega)), gR_e r1, r2.1, Option.bind_some, Option.bind_some, rd_at q hp, Option.bind_some, c_isD (hb pl hp), Option.bind_some]
      dsimp only
      by_cases z : (if isD (tp pl) then 1 else 0 : Int32) = 0
      · rw [if_pos z, if_pos z]
      · rw [if_neg z, if_neg z, gI_e r1, Option.bind_some, r8, gI_e r1, Option.bind_some, h6, pk_sub hs]
        by_cases y : 2 ≤ nI (pl - s)
        · rw [if_pos y, if_pos y]
        · rw [if_neg y, if_neg y, gI_e r1, Option.bind_some, h7, gR_e r1, r2.1, Option.bind_some, Option.bind_some, rd_at q hp, Option.bind_some]
    cases z : isD (tp pl)
    · rw [run_n (show ¬ (pl < tl ∧ isD (tp pl) = true) by rw [z]; simp)]
      refine ⟨_, ?_, q.put (k := 5) (Or.inr ⟨Or.inl rfl, rfl⟩), Ed.pI rfl, by rw [w3, if_pos rfl], by rw [w3, if_neg (by decide)]; exact h6, by rw [w3, if_neg (by decide)]; exact h7⟩
      rw [u, z, if_pos (show (if false = true then 1 else 0 : Int32) = 0 from rfl), c_num80 q h6 hs (by omega)]
    · have dd := z
      unfold isD at dd
      have dd := of_decide_eq_true dd
      rw [z, if_neg (show ¬ (if true = true then 1 else 0 : Int32) = 0 from one_ne)] at u
      have step : ∀ w : Nat, w = vv tp s (pl + 1 - s) → f_X3_readNumber_0 fu (n + 1) (x + 8) h = f_X3_readNumber_64 fu (fun y0 hy => f_X3_readNumber_0 fu n y0 hy) (x + 8) (x + 8) (nI w) h → ∃ h1, f_X3_readNumber_0 fu (n + 1) (x + 8) h = some ((), h1) ∧ RdW h1 x tp tl fk fp (run isD tp tl pl) ∧ Ed (fun b => b = x + 8) h h1 ∧ h1.I (x + 8) 5 = nI (if run isD tp tl pl - s ≤ 2 then 2 else 1) ∧ h1.I (x + 8) 6 = nI s ∧ h1.I (x + 8) 7 = nI (vv tp s (run isD tp tl pl - s)) := by
        intro w hw he
        have q2 : RdW (putI (putI h (x + 8) 7 (nI w)) (x + 8) 4 (nI (pl + 1))) x tp tl fk fp (pl + 1) := (q.put (k := 7) (pl' := pl) (Or.inr ⟨Or.inr (Or.inr rfl), rfl⟩)).put (k := 4) (Or.inl ⟨rfl, rfl⟩)
        obtain ⟨h1, a1, a2, a3, a4, a5, a6⟩ := c_num hb (s := s) k (pl + 1) n _ (by omega) (by omega) q2 (by rw [w3, if_neg (by decide), w3, if_neg (by decide)]; exact h6) (by omega) (by rw [w3, if_neg (by decide), w3, if_pos rfl, hw]) (fun j j1 j2 => by
          by_cases e : j = pl
          · rw [e]; exact z
          · exact hd j j1 (by omega))
        rw [run_y hp z]
        refine ⟨h1, ?_, a2, Ed.tr (Ed.tr (Ed.pI rfl) (Ed.pI rfl)) a3, a4, a5, a6⟩
        rw [he]
        unfold f_X3_readNumber_64
        rw [pI_e r1, Option.bind_some, gI_e (h := putI _ _ _ _) r1, Option.bind_some, w3, if_neg (by decide), r8, pI_e (h := putI _ _ _ _) r1, Option.bind_some, nI_1]
        exact a1
      by_cases y : 2 ≤ pl - s
      · refine step 0 ?_ ?_
        · rw [show pl + 1 - s = (pl + 1 - s - 3) + 3 by omega]; rfl
        · rw [u, if_pos (l_ge (b := 2) y (by omega))]; rfl
      · rw [if_neg (l_nge (b := 2) (by omega) (by decide))] at u
        have e0 : pl = s ∨ pl = s + 1 := by omega
        refine step _ rfl ?_
        rw [u]
        rcases e0 with e0 | e0
        · rw [e0, Nat.sub_self, show s + 1 - s = 1 by omega]
          rw [e0] at dd
          show f_X3_readNumber_64 fu _ (x + 8) (x + 8) ((10 * nI 0 + nI (tp s)) - 48) h = f_X3_readNumber_64 fu _ (x + 8) (x + 8) (nI (tp s - 48)) h
          rw [show (10 : Int32) * nI 0 = nI (10 * 0) from pk_mul 10 0, nI_add, l_sub (b := 48) (by omega), show 10 * 0 + tp s - 48 = tp s - 48 by omega]
        · rw [e0, show s + 1 - s = 1 by omega, show s + 1 + 1 - s = 2 by omega]
          rw [e0] at dd
          have d0 := hd s (Nat.le_refl _) (by omega)
          unfold isD at d0
          have d0 := of_decide_eq_true d0
          show f_X3_readNumber_64 fu _ (x + 8) (x + 8) ((10 * nI (tp s - 48) + nI (tp (s + 1))) - 48) h = f_X3_readNumber_64 fu _ (x + 8) (x + 8) (nI (10 * (tp s - 48) + (tp (s + 1) - 48))) h
          rw [show (10 : Int32) * nI (tp s - 48) = nI (10 * (tp s - 48)) from pk_mul 10 _, nI_add, l_sub (b := 48) (by omega), show 10 * (tp s - 48) + tp (s + 1) - 48 = 10 * (tp s - 48) + (tp (s + 1) - 48) by omega]
end LEXD
