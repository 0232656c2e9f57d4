def rws (b : Bs) (k way p : Nat) : Nat := if p = b.dp k then way else bkr b.og (b.dp k) k p
def ansI (g : Sg) (S : Int64) (w0 i : Nat) : Int32 := if blA g S w0 < 0 then blA g S w0 else if blA g S w0 ≤ nI i then -2 else nI (blR g S w0 i)
section BLMOD2
variable {m fu : Nat} {g : Sg} {S : Int64} {hr : Nat} {cn : Int32} {c : Cg} {tp : Nat → Nat} {tl : Nat} {fk fp : Int32}
theorem m_f66 (hf : 20000 < fu) (hr1 : hr < 10000) {k : Nat} {K : Nat → Int32 → Hp → Option (Int32 × Hp)} : ∀ (j way n : Nat) (b : Bs) (h : Hp), way + j = 9 → j < n → ModP h m g S hr cn c tp tl fk fp → MB h m b → BI g b → k < b.n → ∃ h1, ME h h1 m ∧ MB h1 m (bw g (hr % 6) k j way b).2.1 ∧ BI g (bw g (hr % 6) k j way b).2.1 ∧ Pre b (bw g (hr % 6) k j way b).2.1 ∧ ((bw g (hr % 6) k j way b).1 = 0 → f_X7_findBlind_66 fu K n m (nI k) (nI way) h = K m (nI (k + 1)) h1) ∧ ((bw g (hr % 6) k j way b).1 = 1 → f_X7_findBlind_66 fu K n m (nI k) (nI way) h = some (1, h1) ∧ h1.I m 36 = nI ((bw g (hr % 6) k j way b).2.1.dp k + 1) ∧ ∀ p, p ≤ (bw g (hr % 6) k j way b).2.1.dp k → h1.I (m + 19) p = nI (rws (bw g (hr % 6) k j way b).2.1 k (bw g (hr % 6) k j way b).2.2 p)) ∧ ((bw g (hr % 6) k j way b).1 = 2 → f_X7_findBlind_66 fu K n m (nI k) (nI way) h = some (-1, h1)) ∧ (bw g (hr % 6) k j way b).1 ≤ 2 := by
  intro j
  induction j with
  | zero =>
    intro way n b h hj hn q mb bi hk
    obtain ⟨n, rfl⟩ := Nat.exists_eq_succ_of_ne_zero (show n ≠ 0 by omega)
    obtain rfl : way = 9 := by omega
    refine ⟨h, ME.rf, mb, bi, Pre.rf, fun _ => ?_, fun z => (by cases z), fun z => (by cases z), by show 0 ≤ 2; decide⟩
    rw [f_X7_findBlind_66, if_pos (show (9 : Int32) ≤ nI 9 by decide)]
    unfold f_X7_findBlind_219
    rw [nI_1]
  | succ j ih =>
    intro way n b h hj hn q mb bi hk
    obtain ⟨n, rfl⟩ := Nat.exists_eq_succ_of_ne_zero (show n ≠ 0 by omega)
    have hK := q.1.K
    have mr := q.mr
    have h3 := bi.2.1
    have hk3 : k < 3000 := by omega
    obtain ⟨bs, d1, -⟩ := bi.2.2.2 k hk
    obtain ⟨m1, m2⟩ := mb.2.1 k hk
    obtain ⟨wt, hwt⟩ : ∃ wt, wt = (hr % 6 + b.dp k) % 6 := ⟨_, rfl⟩
    obtain ⟨I, hI⟩ : ∃ I, I = img g (b.st k) way wt := ⟨_, rfl⟩
    have sI' : subs I g.n := by rw [hI]; exact img_subs q.1.2.2
    have u : f_X7_findBlind_66 fu K (n + 1) m (nI k) (nI way) h = if alL g I = true then (f_X7_leads fu m (nI k) (nI way) h).bind fun r109 => some (1, r109.2) else if b.dp k = 11 then f_X7_findBlind_66 fu K n m (nI k) (nI (way + 1)) h else if cme b I (b.dp k + 1) b.n = true then f_X7_findBlind_66 fu K n m (nI k) (nI (way + 1)) h else if b.n = 3000 then some (-1, h) else f_X7_findBlind_66 fu K n m (nI k) (nI (way + 1)) (putI (putI (putI (putI (putJ h (m + 15) b.n I) (m + 16) b.n (nI (b.dp k + 1))) (m + 17) b.n (nI k)) (m + 18) b.n (nI way)) m 31 (nI (b.n + 1))) := by
      rw [f_X7_findBlind_66, if_neg (l_nge (b := 9) (by omega) (by decide)), gR_e hK, mr.1.1, Option.bind_some, aJ_e mr.1.2.1 mr.1.2.2 hk3 (by decide), Option.bind_some, m1, gI_e hK, Option.bind_some, q.2.2.2.1, gR_e hK, mr.2.1.1, Option.bind_some, aI_e mr.2.1.2.1 mr.2.1.2.2 hk3 (by decide), Option.bind_some, m2, nI_add, l_rem (b := 6) (by omega) (by decide) (by decide), show (hr + b.dp k) % 6 = wt by rw [hwt]; omega, m_goesAll q.1 (by omega) (by omega) (by omega), Option.bind_some]
      dsimp only
      rw [← hI, m_isAll q.1 (by omega) sI', Option.bind_some]
      dsimp only
      by_cases za : alL g I = true
      · rw [if_pos za, if_neg one_ne, if_pos za]
      · rw [if_neg za, if_pos rfl, if_neg za, gR_e hK, mr.2.1.1, Option.bind_some, aI_e mr.2.1.2.1 mr.2.1.2.2 hk3 (by decide), Option.bind_some, m2]
        by_cases z11 : b.dp k = 11
        · rw [if_pos (show nI (b.dp k) = 11 by rw [z11]; rfl), if_pos z11]
          unfold f_X7_findBlind_213
          rw [nI_1]
        · rw [if_neg (ne_lit (b := 11) (by omega) (by decide) z11), if_neg z11, Option.bind_some, aI_e mr.2.1.2.1 mr.2.1.2.2 hk3 (by decide), Option.bind_some, m2, nI_1]
          have hc : f_X7_came fu m I (nI (b.dp k + 1)) h = some (if cme b I (b.dp k + 1) b.n = true then 1 else 0, h) := by
            unfold f_X7_came
            rw [if_pos hK]
            exact m_came hK mr mb bi (by omega) b.n 0 fu (by omega) (by omega) (fun i hi => absurd hi (Nat.not_lt_zero i))
          rw [hc, Option.bind_some]
          dsimp only
          by_cases zc : cme b I (b.dp k + 1) b.n = true
          · rw [if_pos zc, if_neg one_ne, if_pos zc]
            unfold f_X7_findBlind_213
            rw [nI_1]
          · rw [if_neg zc, if_pos rfl, if_neg zc, gI_e hK, Option.bind_some, mb.1]
            by_cases zn : b.n = 3000
            · rw [if_pos (show nI b.n = 3000 by rw [zn]; rfl), if_pos zn]
            · rw [if_neg (ne_lit (b := 3000) (by omega) (by decide) zn), if_neg zn]
              have hn3 : b.n < 3000 := by omega
              obtain ⟨h1, e1⟩ : ∃ h1, h1 = putJ h (m + 15) b.n I := ⟨_, rfl⟩
              obtain ⟨h2, e2⟩ : ∃ h2, h2 = putI h1 (m + 16) b.n (nI (b.dp k + 1)) := ⟨_, rfl⟩
              obtain ⟨h3', e3⟩ : ∃ h3', h3' = putI h2 (m + 17) b.n (nI k) := ⟨_, rfl⟩
              obtain ⟨h4, e4⟩ : ∃ h4, h4 = putI h3' (m + 18) b.n (nI way) := ⟨_, rfl⟩
              rw [← e1, ← e2, ← e3, ← e4]
              have E1 : ME h h1 m := by rw [e1]; exact ME.j (by omega)
              have E2 : ME h h2 m := by rw [e2]; exact E1.tr (ME.q (by omega))
              have E3 : ME h h3' m := by rw [e3]; exact E2.tr (ME.q (by omega))
              have E4 : ME h h4 m := by rw [e4]; exact E3.tr (ME.q (by omega))
              have q1 := q.bl E1
              have q2 := q.bl E2
              have q3 := q.bl E3
              have q4 := q.bl E4
              have i1 : h1.I = h.I := by rw [e1]; rfl
              have n1 : h1.I m 31 = nI b.n := by rw [i1]; exact mb.1
              have n2 : h2.I m 31 = nI b.n := by rw [e2, putI_I, if_neg (by omega)]; exact n1
              have n3 : h3'.I m 31 = nI b.n := by rw [e3, putI_I, if_neg (by omega)]; exact n2
              have n4 : h4.I m 31 = nI b.n := by rw [e4, putI_I, if_neg (by omega)]; exact n3
              have i16 : h1.I (m + 16) k = nI (b.dp k) := by rw [i1]; exact m2
              rw [gR_e hK, mr.1.1, Option.bind_some, Option.bind_some, sJ_e mr.1.2.1 mr.1.2.2 hn3 (by decide), Option.bind_some, ← e1]
              rw [gR_e q1.1.K, q1.mr.2.1.1, Option.bind_some, gI_e q1.1.K, n1, Option.bind_some, Option.bind_some, aI_e q1.mr.2.1.2.1 q1.mr.2.1.2.2 hk3 (by decide), i16, Option.bind_some, nI_1, sI_e q1.mr.2.1.2.1 q1.mr.2.1.2.2 hn3 (by decide), Option.bind_some, ← e2]
              rw [gR_e q2.1.K, q2.mr.2.2.1.1, Option.bind_some, gI_e q2.1.K, n2, Option.bind_some, sI_e q2.mr.2.2.1.2.1 q2.mr.2.2.1.2.2 hn3 (by decide), Option.bind_some, ← e3]
              rw [gR_e q3.1.K, q3.mr.2.2.2.1.1, Option.bind_some, gI_e q3.1.K, n3, Option.bind_some, sI_e q3.mr.2.2.2.1.2.1 q3.mr.2.2.2.1.2.2 hn3 (by decide), Option.bind_some, ← e4]
              rw [gI_e q4.1.K, n4, Option.bind_some, nI_1, pI_e q4.1.K, Option.bind_some]
              unfold f_X7_findBlind_213
              rw [nI_1]
    rw [u, bw, ← hwt, ← hI]
    by_cases za : alL g I = true
    · rw [if_pos za, if_pos za]
      obtain ⟨h1, a1, a2, a3, a4, a5⟩ := m_leads (fu := fu) (way := way) (by omega) q bi mb hk
      rw [a1, Option.bind_some]
      exact ⟨h1, a2, a3, bi, Pre.rf, fun z => (by cases z), fun _ => ⟨rfl, a4, a5⟩, fun z => (by cases z), by show 1 ≤ 2; decide⟩
    · rw [if_neg za, if_neg za]
      by_cases z11 : b.dp k = 11
      · rw [if_pos z11, if_pos (Or.inl z11)]
        exact ih (way + 1) n b h (by omega) (by omega) q mb bi hk
      · rw [if_neg z11]
        by_cases zc : cme b I (b.dp k + 1) b.n = true
        · rw [if_pos zc, if_pos (Or.inr zc)]
          exact ih (way + 1) n b h (by omega) (by omega) q mb bi hk
        · rw [if_neg zc, if_neg (fun y => y.elim z11 zc)]
          by_cases zn : b.n = 3000
          · rw [if_pos zn, if_pos zn]
            exact ⟨h, ME.rf, mb, bi, Pre.rf, fun z => (by cases z), fun z => (by cases z), fun _ => rfl, by show 2 ≤ 2; decide⟩
          · rw [if_neg zn, if_neg zn]
            obtain ⟨H, eH⟩ : ∃ H, H = putI (putI (putI (putI (putJ h (m + 15) b.n I) (m + 16) b.n (nI (b.dp k + 1))) (m + 17) b.n (nI k)) (m + 18) b.n (nI way)) m 31 (nI (b.n + 1)) := ⟨_, rfl⟩
            rw [← eH]
            have E : ME h H m := by
              rw [eH]
              exact ME.tr (ME.tr (ME.tr (ME.tr (ME.j (by omega)) (ME.q (by omega))) (ME.q (by omega))) (ME.q (by omega))) (ME.p (by omega))
            have j15 : ∀ i, H.J (m + 15) i = if i = b.n then I else h.J (m + 15) i := fun i => by
              rw [eH]
              show (putJ h (m + 15) b.n I).J (m + 15) i = _
              rw [putJ_J, if_pos rfl]
            have i16 : ∀ i, H.I (m + 16) i = if i = b.n then nI (b.dp k + 1) else h.I (m + 16) i := fun i => by
              rw [eH, putI_I, if_neg (by omega), putI_I, if_neg (by omega), putI_I, if_neg (by omega), w3, putJ_I]
            have i17 : ∀ i, H.I (m + 17) i = if i = b.n then nI k else h.I (m + 17) i := fun i => by
              rw [eH, putI_I, if_neg (by omega), putI_I, if_neg (by omega), w3, putI_I, if_neg (show ¬ m + 17 = m + 16 by omega), putJ_I]
            have i18 : ∀ i, H.I (m + 18) i = if i = b.n then nI way else h.I (m + 18) i := fun i => by
              rw [eH, putI_I, if_neg (by omega), w3, putI_I, if_neg (show ¬ m + 18 = m + 17 by omega), putI_I, if_neg (show ¬ m + 18 = m + 16 by omega), putJ_I]
            have mbH : MB H m (b.add I (b.dp k + 1) (k * 9 + way)) := by
              refine ⟨by rw [eH, w3, if_pos rfl]; rfl, fun i hi => ?_, fun i hi0 hi => ?_⟩
              · have hi : i < b.n + 1 := hi
                rw [j15, i16, Bs.add_st, Bs.add_dp]
                by_cases e : i = b.n
                · rw [if_pos e, if_pos e, if_pos e, if_pos e]; exact ⟨rfl, rfl⟩
                · rw [if_neg e, if_neg e, if_neg e, if_neg e]; exact mb.2.1 i (by omega)
              · have hi : i < b.n + 1 := hi
                rw [i17, i18, Bs.add_og]
                by_cases e : i = b.n
                · rw [if_pos e, if_pos e, if_pos e, show (k * 9 + way) / 9 = k by omega, show (k * 9 + way) % 9 = way by omega]; exact ⟨rfl, rfl⟩
                · rw [if_neg e, if_neg e, if_neg e]; exact mb.2.2 i hi0 (by omega)
            obtain ⟨h1, a1, a2, a3, a4, a5⟩ := ih (way + 1) n _ H (by omega) (by omega) (q.bl E) mbH (bi.add sI' hk (by omega) z11 (by omega)) (show k < b.n + 1 by omega)
            exact ⟨h1, E.tr a1, a2, a3, Pre.add.tr a4, a5⟩
theorem m_f42 (hf : 20000 < fu) (hr1 : hr < 10000) : ∀ (f k n : Nat) (b : Bs) (h : Hp), k + f = 3001 → k ≤ b.n → f < n → ModP h m g S hr cn c tp tl fk fp → MB h m b → BI g b → ∃ h1, ME h h1 m ∧ ((bk g (hr % 6) f k b).1 = 0 → f_X7_findBlind_42 fu n m (nI k) h = some (0, h1)) ∧ ((bk g (hr % 6) f k b).1 = 1 → f_X7_findBlind_42 fu n m (nI k) h = some (1, h1) ∧ (bk g (hr % 6) f k b).2.1.dp (bk g (hr % 6) f k b).2.2.1 ≤ 11 ∧ h1.I m 36 = nI ((bk g (hr % 6) f k b).2.1.dp (bk g (hr % 6) f k b).2.2.1 + 1) ∧ ∀ p, p ≤ (bk g (hr % 6) f k b).2.1.dp (bk g (hr % 6) f k b).2.2.1 → h1.I (m + 19) p = nI (rws (bk g (hr % 6) f k b).2.1 (bk g (hr % 6) f k b).2.2.1 (bk g (hr % 6) f k b).2.2.2 p)) ∧ ((bk g (hr % 6) f k b).1 = 2 → f_X7_findBlind_42 fu n m (nI k) h = some (-1, h1)) ∧ (bk g (hr % 6) f k b).1 ≤ 2 := by
  intro f
  induction f with
  | zero => intro k n b h h1 h2 _ _ _ bi; have := bi.2.1; omega
  | succ f ih =>
    intro k n b h hk hkb hn q mb bi
    obtain ⟨n, rfl⟩ := Nat.exists_eq_succ_of_ne_zero (show n ≠ 0 by omega)
    have hK := q.1.K
    have mr := q.mr
    have h3 := bi.2.1
    rw [f_X7_findBlind_42, gI_e hK, Option.bind_some, mb.1, bk]
    by_cases z : b.n ≤ k
    · rw [if_pos (nI_le z (by omega)), if_pos z]
      exact ⟨h, ME.rf, fun _ => rfl, fun y => (by cases y), fun y => (by cases y), by show 0 ≤ 2; decide⟩
    · have hk3 : k < b.n := by omega
      obtain ⟨-, d1, -⟩ := bi.2.2.2 k hk3
      obtain ⟨m1, m2⟩ := mb.2.1 k hk3
      rw [if_neg (nI_ge hk3 (by omega)), if_neg z, gR_e hK, mr.2.1.1, Option.bind_some, aI_e mr.2.1.2.1 mr.2.1.2.2 (show k < 3000 by omega) (by decide), Option.bind_some, m2, if_neg (ne_lit (b := 12) (by omega) (by decide) (by omega))]
      obtain ⟨h1, a1, a2, a3, a4, a5, a6, a7, a8⟩ := m_f66 (fu := fu) (K := fun y0 y1 hy => f_X7_findBlind_42 fu n y0 y1 hy) hf hr1 9 0 fu b h (by omega) (by omega) q mb bi hk3
      obtain ⟨R, hR⟩ : ∃ R, R = bw g (hr % 6) k 9 0 b := ⟨_, rfl⟩
      rw [← hR] at a2 a3 a4 a5 a6 a7 a8 ⊢
      by_cases r0 : R.1 = 0
      · rw [if_pos r0]
        rw [show f_X7_findBlind_66 fu (fun y0 y1 hy => f_X7_findBlind_42 fu n y0 y1 hy) fu m (nI k) 0 h = _ from a5 r0]
        obtain ⟨h2, b1, b2⟩ := ih (k + 1) n R.2.1 h1 (by omega) (by have := a4.1; omega) (by omega) (q.bl a1) a2 a3
        exact ⟨h2, a1.tr b1, b2⟩
      · rw [if_neg r0]
        refine ⟨h1, a1, fun y => absurd y r0, fun y => ?_, fun y => a7 y, a8⟩
        obtain ⟨c1, c2, c3⟩ := a6 y
        refine ⟨c1, ?_, c2, c3⟩
        exact (a3.2.2.2 k (by have := a4.1; omega)).2.1
theorem m_find {h : Hp} (hf : 20000 < fu) (hr1 : hr < 10000) (hs : subs S g.n) (q : ModP h m g S hr cn c tp tl fk fp) : ∃ h1 w, f_X7_findBlind fu m h = some (w, h1) ∧ ME h h1 m ∧ ((w = 0 ∧ blA g S (hr % 6) = -1) ∨ (w = -1 ∧ blA g S (hr % 6) = -2) ∨ (w = 1 ∧ ∃ d, d ≤ 12 ∧ blA g S (hr % 6) = nI d ∧ h1.I m 36 = nI d ∧ ∀ p, p < d → h1.I (m + 19) p = nI (blR g S (hr % 6) p))) := by
  have hK := q.1.K
  have E0 : ME h (putI h m 36 0) m := ME.p (by omega)
  have q0 := q.bl E0
  have J4 : (putI h m 36 0).J m 4 = S := q.2.2.1
  have u : f_X7_findBlind fu m h = if alL g S = true then some (1, putI h m 36 0) else f_X7_findBlind_42 fu fu m 0 (putI (putJ (putI (putI h m 36 0) m 31 1) (m + 15) 0 S) (m + 16) 0 0) := by
    unfold f_X7_findBlind
    rw [if_pos hK, pI_e hK, Option.bind_some, gJ_e (h := putI _ _ _ _) hK, Option.bind_some, J4, m_isAll q0.1 (by omega) hs, Option.bind_some]
    dsimp only
    by_cases za : alL g S = true
    · rw [if_pos za, if_neg one_ne, if_pos za]
    · have E1 : ME h (putI (putI h m 36 0) m 31 1) m := E0.tr (ME.p (by omega))
      have q1 := q.bl E1
      have E2 : ME h (putJ (putI (putI h m 36 0) m 31 1) (m + 15) 0 S) m := E1.tr (ME.j (by omega))
      have q2 := q.bl E2
      have s1 : sJ (putI (putI h m 36 0) m 31 1) 9 (m + 15) 0 S = some (putJ (putI (putI h m 36 0) m 31 1) (m + 15) 0 S) := sJ_e (j := 0) q1.mr.1.2.1 q1.mr.1.2.2 (by decide) (by decide)
      have s2 : sI (putJ (putI (putI h m 36 0) m 31 1) (m + 15) 0 S) 8 (m + 16) 0 0 = some (putI (putJ (putI (putI h m 36 0) m 31 1) (m + 15) 0 S) (m + 16) 0 0) := sI_e (j := 0) q2.mr.2.1.2.1 q2.mr.2.1.2.2 (by decide) (by decide)
      rw [if_neg za, if_pos rfl, if_neg za, pI_e (h := putI _ _ _ _) hK, Option.bind_some, gR_e q1.1.K, q1.mr.1.1, Option.bind_some, gJ_e q1.1.K, Option.bind_some, q1.2.2.1, s1, Option.bind_some, gR_e q2.1.K, q2.mr.2.1.1, Option.bind_some, s2, Option.bind_some]
  rw [u]
  unfold blA
  by_cases za : alL g S = true
  · rw [if_pos za, if_pos za]
    exact ⟨_, 1, rfl, E0, Or.inr (Or.inr ⟨rfl, 0, by decide, rfl, by rw [w3, if_pos rfl]; rfl, fun p hp => absurd hp (Nat.not_lt_zero p)⟩)⟩
  · rw [if_neg za, if_neg za]
    obtain ⟨H, eH⟩ : ∃ H, H = putI (putJ (putI (putI h m 36 0) m 31 1) (m + 15) 0 S) (m + 16) 0 0 := ⟨_, rfl⟩
    rw [← eH]
    have E : ME h H m := by
      rw [eH]
      exact ME.tr (ME.tr (ME.tr E0 (ME.p (by omega))) (ME.j (by omega))) (ME.q (by omega))
    have mbH : MB H m (Bs.one S) := by
      refine ⟨by rw [eH, putI_I, if_neg (by omega), putJ_I, w3, if_pos rfl]; rfl, fun i hi => ?_, fun i hi0 hi => ?_⟩
      · have hi : i < 1 := hi
        obtain rfl : i = 0 := by omega
        refine ⟨?_, by rw [eH, w3, if_pos rfl]; rfl⟩
        rw [eH]
        show (putJ (putI (putI h m 36 0) m 31 1) (m + 15) 0 S).J (m + 15) 0 = _
        rw [putJ_J, if_pos rfl, if_pos rfl]; rfl
      · have hi : i < 1 := hi
        omega
    obtain ⟨h1, a1, a2, a3, a4, a5⟩ := m_f42 (fu := fu) hf hr1 3001 0 fu (Bs.one S) H rfl (Nat.zero_le _) (by omega) (q.bl E) mbH (BI.one hs)
    have hX : bk g (hr % 6) 3001 0 (Bs.one S) = blX g S (hr % 6) := rfl
    rw [hX] at a2 a3 a4 a5
    by_cases r0 : (blX g S (hr % 6)).1 = 0
    · rw [if_pos r0]
      exact ⟨h1, 0, a2 r0, E.tr a1, Or.inl ⟨rfl, rfl⟩⟩
    · rw [if_neg r0]
      by_cases r1 : (blX g S (hr % 6)).1 = 1
      · rw [if_pos r1]
        obtain ⟨c1, c2, c3, c4⟩ := a3 r1
        refine ⟨h1, 1, c1, E.tr a1, Or.inr (Or.inr ⟨rfl, _, by omega, rfl, c3, fun p hp => ?_⟩)⟩
        rw [c4 p (by omega)]; rfl
      · rw [if_neg r1]
        exact ⟨h1, -1, a4 (by omega), E.tr a1, Or.inr (Or.inl ⟨rfl, rfl⟩)⟩
theorem m_blind24 {h : Hp} (hf : 20000 < fu) (hr1 : hr < 10000) (hs : subs S g.n) (q : ModP h m g S hr cn c tp tl fk fp) : ∃ h1, ME h h1 m ∧ f_X7_blind_24 fu m 0 h = some (blA g S (hr % 6), h1) ∧ ∀ i, i < 12 → f_X7_blind_24 fu m (nI (10 + i)) h = some (ansI g S (hr % 6) i, h1) := by
  obtain ⟨h1, w, a1, a2, a3⟩ := m_find (fu := fu) hf hr1 hs q
  have q1 := q.bl a2
  refine ⟨h1, a2, ?_, fun i hi => ?_⟩
  · unfold f_X7_blind_24
    rw [a1, Option.bind_some]
    dsimp only
    rcases a3 with ⟨rfl, e⟩ | ⟨rfl, e⟩ | ⟨rfl, d, d1, e, e36, er⟩
    · rw [if_pos rfl, e]
    · rw [if_neg (by decide), if_pos rfl, e]
    · rw [if_neg (by decide), if_neg (by decide), if_pos rfl, gI_e q1.1.K, Option.bind_some, e36, e]
  · unfold f_X7_blind_24 ansI
    rw [a1, Option.bind_some]
    dsimp only
    rcases a3 with ⟨rfl, e⟩ | ⟨rfl, e⟩ | ⟨rfl, d, d1, e, e36, er⟩
    · rw [if_pos rfl, e, if_pos (by decide)]
    · rw [if_neg (by decide), if_pos rfl, e, if_pos (by decide)]
    · rw [if_neg (by decide), if_neg (by decide), if_neg (ne_lit (b := 0) (by omega) (by decide) (by omega)), gI_e q1.1.K, Option.bind_some, e36, e, if_neg (nI_pos (by omega)), show nI (10 + i) - 10 = nI i by rw [show (10 : Int32) = nI 10 from rfl, pk_sub (by omega), show 10 + i - 10 = i by omega]]
      by_cases z : d ≤ i
      · rw [if_pos (nI_le z (by omega)), if_pos (nI_le z (by omega))]
      · rw [if_neg (nI_ge (show i < d by omega) (by omega)), if_neg (nI_ge (show i < d by omega) (by omega)), gR_e q1.1.K, q1.mr.2.2.2.2.1, Option.bind_some, aI_e q1.mr.2.2.2.2.2.1 q1.mr.2.2.2.2.2.2 hi (by decide), Option.bind_some, er i (by omega)]
end BLMOD2
