section TOKEN
variable {x fu : Nat} {tp : Nat → Nat} {tl : Nat} {fk fp : Int32}
/-- the class's reader has read the token that starts from p on -/
def TkC (h : Hp) (x : Nat) (tp : Nat → Nat) (tl : Nat) (fk fp : Int32) (p : Nat) : Prop := RdW h x tp tl fk fp (tE tp tl p) ∧ h.I (x + 8) 5 = nI (tK tp tl p) ∧ h.I (x + 8) 6 = nI (tS tp tl p) ∧ (tK tp tl p = 2 → h.I (x + 8) 7 = nI (tV tp tl p))
theorem wk_ne2 (tp : Nat → Nat) (s n : Nat) : wk tp s n ≠ 2 ∧ wk tp s n ≠ 0 ∧ wk tp s n ≠ 3 := by
  unfold wk
  repeat' split
  all_goals exact ⟨by decide, by decide, by decide⟩
theorem c_tok39 (hb : ∀ j, j < tl → tp j < 256) {h : Hp} {p : Nat} (hf : 20000 < fu) (hp : p ≤ tl) (q : RdW h x tp tl fk fp (tS tp tl p)) : ∃ h1, f_X3_readToken_39 fu (x + 8) h = some ((), h1) ∧ TkC h1 x tp tl fk fp p ∧ Ed (fun b => b = x + 8) h h1 := by
  obtain ⟨s, hs⟩ : ∃ s, s = tS tp tl p := ⟨_, rfl⟩
  have hst : s ≤ tl := by rw [hs]; exact run_le hp
  rw [← hs] at q
  obtain ⟨⟨r1, r2, r3, r4, r5, r6, r7⟩, r8⟩ := id q
  obtain ⟨h0, hh0⟩ : ∃ h0, h0 = putI (putI h (x + 8) 6 (nI s)) (x + 8) 7 0 := ⟨_, rfl⟩
  have q0 : RdW h0 x tp tl fk fp s := by rw [hh0]; exact (q.put (k := 6) (pl' := s) (Or.inr ⟨Or.inr (Or.inl rfl), rfl⟩)).put (k := 7) (Or.inr ⟨Or.inr (Or.inr rfl), rfl⟩)
  have e0 : Ed (fun b => b = x + 8) h h0 := by rw [hh0]; exact Ed.tr (Ed.pI rfl) (Ed.pI rfl)
  have i6 : h0.I (x + 8) 6 = nI s := by rw [hh0, w3, if_neg (by decide), w3, if_pos rfl]
  have i7 : h0.I (x + 8) 7 = 0 := by rw [hh0, w3, if_pos rfl]
  obtain ⟨⟨g1, g2, g3, g4, g5, g6, g7⟩, g8⟩ := id q0
  have u : f_X3_readToken_39 fu (x + 8) h = (if nI s < nI tl then (aI h0 10 (x + 9) (nI s)).bind fun v79 => (f_X3_isLetter fu v79 h0).bind fun r80 => if r80.1 = 0 then (gR r80.2 3 (x + 8) 3).bind fun v102 => (gI r80.2 3 (x + 8) 4).bind fun v106 => (aI r80.2 10 v102 v106).bind fun v109 => (f_X3_isDigit fu v109 r80.2).bind fun r110 => if r110.1 = 0 then (gR r110.2 3 (x + 8) 3).bind fun v125 => (gI r110.2 3 (x + 8) 4).bind fun v129 => (aI r110.2 10 v125 v129).bind fun v132 => if v132 = 59 then f_X3_readToken_143 fu (x + 8) (x + 8) 3 r110.2 else f_X3_readToken_143 fu (x + 8) (x + 8) 1 r110.2 else (f_X3_readNumber fu (x + 8) r110.2).bind fun r117 => some ((), r117.2) else (f_X3_skipLetters fu (x + 8) r80.2).bind fun r87 => (f_X3_wordRead fu (x + 8) r87.2).bind fun r92 => (pI r92.2 3 (x + 8) 5 r92.1).bind fun h95 => some ((), h95) else (pI h0 3 (x + 8) 5 0).bind fun h65 => some ((), h65)) := by
    unfold f_X3_readToken_39
    rw [gI_e r1, Option.bind_some, r8, pI_e r1, Option.bind_some, pI_e (h := putI _ _ _ _) r1, Option.bind_some, ← hh0, gI_e g1, Option.bind_some, g8, gI_e g1, Option.bind_some, g3]
    by_cases z : nI s < nI tl
    · rw [if_pos z, if_pos z, gR_e g1, g2.1, Option.bind_some, Option.bind_some]
    · rw [if_neg z, if_neg z]
  by_cases z : tl ≤ s
  · have kE : tE tp tl p = s := by unfold tE; rw [← hs, if_pos z]
    have kK : tK tp tl p = 0 := by unfold tK; rw [← hs, if_pos z]
    refine ⟨putI h0 (x + 8) 5 0, ?_, ⟨?_, ?_, ?_, fun y => by rw [kK] at y; cases y⟩, Ed.tr e0 (Ed.pI rfl)⟩
    · rw [u, if_neg (nI_nlt z (by omega)), pI_e g1, Option.bind_some]
    · rw [kE]; exact q0.put (k := 5) (Or.inr ⟨Or.inl rfl, rfl⟩)
    · rw [w3, if_pos rfl, kK]; rfl
    · rw [w3, if_neg (by decide), i6, hs]
  · have hsl : s < tl := by omega
    rw [if_pos (nI_lt hsl (by omega)), rd_at q0 hsl, Option.bind_some, c_isL (hb s hsl), Option.bind_some] at u
    dsimp only at u
    cases zl : isL (tp s)
    · rw [zl, if_pos (show (if false = true then 1 else 0 : Int32) = 0 from rfl), gR_e g1, g2.1, Option.bind_some, gI_e g1, Option.bind_some, g8, rd_at q0 hsl, Option.bind_some, c_isD (hb s hsl), Option.bind_some] at u
      dsimp only at u
      cases zd : isD (tp s)
      · rw [zd, if_pos (show (if false = true then 1 else 0 : Int32) = 0 from rfl), gR_e g1, g2.1, Option.bind_some, gI_e g1, Option.bind_some, g8, rd_at q0 hsl, Option.bind_some] at u
        have kE : tE tp tl p = s + 1 := by unfold tE; rw [← hs, if_neg z, zl, zd]; rfl
        have h143 : ∀ w : Int32, f_X3_readToken_143 fu (x + 8) (x + 8) w h0 = some ((), putI (putI h0 (x + 8) 5 w) (x + 8) 4 (nI (s + 1))) := by
          intro w
          unfold f_X3_readToken_143
          rw [pI_e g1, Option.bind_some, gI_e (h := putI _ _ _ _) g1, Option.bind_some, w3, if_neg (by decide), g8, pI_e (h := putI _ _ _ _) g1, Option.bind_some, nI_1]
        have fin : ∀ k : Nat, k ≠ 2 → tK tp tl p = k → f_X3_readToken_39 fu (x + 8) h = f_X3_readToken_143 fu (x + 8) (x + 8) (nI k) h0 → ∃ h1, f_X3_readToken_39 fu (x + 8) h = some ((), h1) ∧ TkC h1 x tp tl fk fp p ∧ Ed (fun b => b = x + 8) h h1 := by
          intro k hk kK he
          refine ⟨_, he.trans (h143 (nI k)), ⟨?_, ?_, ?_, fun y => absurd (kK.symm.trans y) hk⟩, Ed.tr e0 (Ed.tr (Ed.pI rfl) (Ed.pI rfl))⟩
          · rw [kE]; exact (q0.put (k := 5) (pl' := s) (Or.inr ⟨Or.inl rfl, rfl⟩)).put (k := 4) (Or.inl ⟨rfl, rfl⟩)
          · rw [w3, if_neg (by decide), w3, if_pos rfl, kK]
          · rw [w3, if_neg (by decide), w3, if_neg (by decide), i6, hs]
        have hb' := hb s hsl
        by_cases z5 : tp s = 59
        · refine fin 3 (by decide) ?_ ?_
          · unfold tK; rw [← hs, if_neg z, zl, zd, z5]; rfl
          · rw [u, if_pos (by rw [z5]; rfl)]; rfl
        · refine fin 1 (by decide) ?_ ?_
          · unfold tK; rw [← hs, if_neg z, zl, zd, if_neg (show ¬ false = true by decide), if_neg (show ¬ false = true by decide), if_neg z5]
          · rw [u, if_neg (ne_lit (b := 59) (by omega) (by decide) z5)]; rfl
      · rw [zd, if_neg (show ¬ (if true = true then 1 else 0 : Int32) = 0 from one_ne)] at u
        obtain ⟨h1, a1, a2, a3, a4, a5, a6⟩ := c_num (fu := fu) hb (s := s) (tl - s) s fu h0 (by omega) (by omega) q0 i6 (Nat.le_refl _) (by rw [Nat.sub_self, i7]; rfl) (fun j j1 j2 => by omega)
        have kE : tE tp tl p = run isD tp tl s := by unfold tE; rw [← hs, if_neg z, zl, zd]; rfl
        have kK : tK tp tl p = if run isD tp tl s - s ≤ 2 then 2 else 1 := by unfold tK; rw [← hs, if_neg z, zl, zd]; rfl
        have rge : s + 1 ≤ run isD tp tl s := by rw [run_y hsl zd]; exact run_ge
        refine ⟨h1, ?_, ⟨by rw [kE]; exact a2, by rw [a4, kK], by rw [a5, hs], fun y => ?_⟩, Ed.tr e0 a3⟩
        · rw [u]
          unfold f_X3_readNumber
          rw [if_pos g1, a1, Option.bind_some]
        · rw [a6]
          unfold tV nv
          rw [kE, ← hs]
          rw [kK] at y
          have y2 : run isD tp tl s - s ≤ 2 := by
            by_cases w : run isD tp tl s - s ≤ 2
            · exact w
            · rw [if_neg w] at y; cases y
          have y3 : run isD tp tl s = s + 1 ∨ run isD tp tl s = s + 2 := by omega
          rcases y3 with y3 | y3
          · rw [y3, if_pos rfl, show s + 1 - s = 1 by omega]; rfl
          · rw [y3, if_neg (by omega), show s + 2 - s = 2 by omega]; rfl
    · rw [zl, if_neg (show ¬ (if true = true then 1 else 0 : Int32) = 0 from one_ne)] at u
      obtain ⟨h1, a1, a2, a3, a4, a5⟩ := c_skipL (fu := fu) hb (tl - s) s fu h0 (by omega) (by omega) q0
      have kE : tE tp tl p = run isL tp tl s := by unfold tE; rw [← hs, if_neg z, zl]; rfl
      have kK : tK tp tl p = wk tp s (run isL tp tl s - s) := by unfold tK; rw [← hs, if_neg z, zl]; rfl
      have wd := c_word (fu := fu) hb hf a2 (a4.trans i6) run_ge (run_le hst)
      refine ⟨putI h1 (x + 8) 5 (nI (wk tp s (run isL tp tl s - s))), ?_, ⟨?_, ?_, ?_, fun y => absurd (kK.symm.trans y) (wk_ne2 _ _ _).1⟩, Ed.tr e0 (Ed.tr a3 (Ed.pI rfl))⟩
      · rw [u]
        unfold f_X3_skipLetters
        rw [if_pos g1, a1, Option.bind_some]
        dsimp only
        rw [wd, Option.bind_some]
        dsimp only
        rw [pI_e a2.1.1, Option.bind_some]
      · rw [kE]; exact a2.put (k := 5) (Or.inr ⟨Or.inl rfl, rfl⟩)
      · rw [w3, if_pos rfl, kK]
      · rw [w3, if_neg (by decide), a4, i6, hs]
theorem c_tok0 (hb : ∀ j, j < tl → tp j < 256) (hf : 20000 < fu) : ∀ (k p n : Nat) (h : Hp), p + k = tl → k < n → RdW h x tp tl fk fp p → ∃ h1, f_X3_readToken_0 fu n (x + 8) h = some ((), h1) ∧ TkC h1 x tp tl fk fp p ∧ Ed (fun b => b = x + 8) h h1
  | 0, p, n, h, hk, hn, q => by
    obtain ⟨n, rfl⟩ := Nat.exists_eq_succ_of_ne_zero (show n ≠ 0 by omega)
    obtain ⟨⟨r1, r2, r3, r4, r5, r6, r7⟩, r8⟩ := id q
    have e : tS tp tl p = p := run_n (by omega)
    obtain ⟨h1, a1, a2, a3⟩ := c_tok39 (fu := fu) (p := p) hb hf (by omega) (by rw [e]; exact q)
    refine ⟨h1, ?_, a2, a3⟩
    rw [f_X3_readToken_0, gI_e r1, Option.bind_some, r8, gI_e r1, Option.bind_some, r3, if_pos (nI_le (by omega) (by omega))]
    exact a1
  | k + 1, p, n, h, hk, hn, q => by
    obtain ⟨n, rfl⟩ := Nat.exists_eq_succ_of_ne_zero (show n ≠ 0 by omega)
    obtain ⟨⟨r1, r2, r3, r4, r5, r6, r7⟩, r8⟩ := id q
    have hp : p < tl := by omega
    have u : f_X3_readToken_0 fu (n + 1) (x + 8) h = if (if isB (tp p) then 1 else 0 : Int32) = 0 then f_X3_readToken_39 fu (x + 8) h else f_X3_readToken_0 fu n (x + 8) (putI h (x + 8) 4 (nI (p + 1))) := by
      rw [f_X3_readToken_0, gI_e r1, Option.bind_some, r8, gI_e r1, Option.bind_some, r3, if_neg (nI_ge hp (by omega)), gR_e r1, r2.1, Option.bind_some, Option.bind_some, rd_at q hp, Option.bind_some, c_isB (hb p hp), Option.bind_some]
      dsimp only
      by_cases z : (if isB (tp p) then 1 else 0 : Int32) = 0
      · rw [if_pos z, if_pos z]
      · rw [if_neg z, if_neg z, gI_e r1, Option.bind_some, r8, pI_e r1, Option.bind_some, nI_1]
    cases z : isB (tp p)
    · have e : tS tp tl p = p := run_n (by rw [z]; simp)
      obtain ⟨h1, a1, a2, a3⟩ := c_tok39 (fu := fu) (p := p) hb hf (by omega) (by rw [e]; exact q)
      refine ⟨h1, ?_, a2, a3⟩
      rw [u, z]; exact a1
    · obtain ⟨h1, a1, a2, a3⟩ := c_tok0 hb hf k (p + 1) n _ (by omega) (by omega) (q.put (k := 4) (pl' := p + 1) (Or.inl ⟨rfl, rfl⟩))
      have e : tS tp tl p = tS tp tl (p + 1) := run_y hp z
      have a2' : TkC h1 x tp tl fk fp p := by
        unfold TkC tV tE tK at a2 ⊢
        rw [e]; exact a2
      refine ⟨h1, ?_, a2', Ed.tr (Ed.pI rfl) a3⟩
      rw [u, z]; exact a1
theorem c_token (hb : ∀ j, j < tl → tp j < 256) (hf : 20000 < fu) {h : Hp} {p : Nat} (hp : p ≤ tl) (q : RdW h x tp tl fk fp p) : ∃ h1, f_X3_readToken fu (x + 8) h = some ((), h1) ∧ TkC h1 x tp tl fk fp p ∧ Ed (fun b => b = x + 8) h h1 := by
  have h4 := q.1.2.2.2.2.2.2
  obtain ⟨h1, a1, a2, a3⟩ := c_tok0 (fu := fu) hb hf (tl - p) p fu h (by omega) (by omega) q
  refine ⟨h1, ?_, a2, a3⟩
  unfold f_X3_readToken
  rw [if_pos q.1.1]; exact a1
end TOKEN
