section CHANT
variable {x v fu : Nat} {tp : Nat → Nat} {tl : Nat}
theorem JudgeS.ed {P : Nat → Prop} {h h1 : Hp} {j : Nat} (e : Ed P h h1) (q : JudgeS h j) : JudgeS h1 j := by
  unfold JudgeS OutS arr at q ⊢
  rw [e.2.1, e.2.2.1, e.2.2.2.1]; exact q
theorem m_chant {h : Hp} {m : Nat} {g : Sg} {S : Int64} {hr : Nat} {cn : Int32} {c : Cg} {fk fp : Int32} (hb : ∀ j, j < tl → tp j < 256) (h4 : tl ≤ 400) (hf : 20000 < fu) (q : ModP h m g S hr cn c tp tl fk fp) : ((pX tp tl 13 0 cg0).1 = 0 → ∃ h2, f_X7_chant fu m h = some (nI (pX tp tl 13 0 cg0).2.2.n, h2) ∧ ModP h2 m g S hr cn (pX tp tl 13 0 cg0).2.2 tp 0 0 (-1) ∧ h2.N = h.N ∧ Ed (fun b => b = m ∨ (m + 4 ≤ b ∧ b ≤ m + 11)) h h2) ∧ ((pX tp tl 13 0 cg0).1 ≠ 0 → ∃ h2, f_X7_chant fu m h = some (-1, h2) ∧ ModP h2 m g S hr cn c tp 0 (nI (pX tp tl 13 0 cg0).1) (nI (pX tp tl 13 0 cg0).2.1) ∧ h2.N = h.N ∧ Ed (fun b => b = m ∨ (m + 4 ≤ b ∧ b ≤ m + 11)) h h2) := by
  have hK := q.1.K
  obtain ⟨g1, g2, g3, g4, g5, g6, g7, g8, g9, -⟩ := id q.2.1
  obtain ⟨d1, d2, d3, d4⟩ := id q.2.2.2.2.2.2
  have qt := q.t0
  have et := t0_E h m
  obtain ⟨h1, a1, a2, a3, a4⟩ := m_readText (fu := fu) (h := t0 h m) (pl := 0) hb hf hK (et.arr g9) qt.2.2.2.2.2.2.1 qt.2.2.2.2.2.2.2.2.2 h4 ⟨et.arr g5, et.arr g6, et.arr g7, et.arr g8⟩
  have e1 : Ed (fun b => b = m ∨ (m + 4 ≤ b ∧ b ≤ m + 11)) h h1 := Ed.tr (et.mono (fun b hb => Or.inl hb)) (a2.1.mono (fun b hb => by omega))
  have hK1 : h1.K m = 7 := by rw [e1.2.1]; exact hK
  have i1 : ∀ k, k ≠ 0 → k ≠ 16 → ¬ (23 ≤ k ∧ k ≤ 28) → h1.I m k = h.I m k := fun k z0 z1 z2 => by rw [a2.2.1 k z1 z2]; exact t0_I h m z0
  have J1 : h1.J = h.J := a2.2.2
  constructor
  · intro p0
    rw [if_pos p0] at a1
    have md := a3 p0
    obtain ⟨c', hc'⟩ : ∃ c', c' = (pX tp tl 13 0 cg0).2.2 := ⟨_, rfl⟩
    rw [← hc'] at md ⊢
    have ok : c'.ok := by rw [hc']; exact pX_ok 13 0 cg0 cg0_ok (Nat.zero_le _)
    obtain ⟨H, eH⟩ : ∃ H, H = putI (putI (putI (putI h1 m 22 0) m 27 0) m 28 (-1)) m 11 (nI c'.n) := ⟨_, rfl⟩
    have E : Ed (fun b => b = m) h1 H := by rw [eH]; exact Ed.tr (Ed.tr (Ed.tr (Ed.pI rfl) (Ed.pI rfl)) (Ed.pI rfl)) (Ed.pI rfl)
    have iH : ∀ k, H.I m k = if k = 11 then nI c'.n else if k = 28 then -1 else if k = 27 then 0 else if k = 22 then 0 else h1.I m k := fun k => by rw [eH, w3, w3, w3, w3]
    have e2 : Ed (fun b => b = m ∨ (m + 4 ≤ b ∧ b ≤ m + 11)) h H := Ed.tr e1 (E.mono (fun b hb => Or.inl hb))
    have o : ∀ k, 0 < k → H.I (m + k) = h1.I (m + k) := fun k hk => (E.2.2.2.2 (m + k) (by omega)).1
    have mdH : MD H m c' := by
      unfold MD
      rw [iH, o 8 (by decide), o 9 (by decide), o 10 (by decide), o 11 (by decide)]
      exact md
    obtain ⟨h2, b1, b2, b3⟩ := m_copy (fu := fu) (m := m) (c := c') ok.1 c'.n 0 fu H (by omega) (by have := ok.1; omega) (by rw [e2.2.1]; exact hK) ⟨e2.arr g1, e2.arr g2, e2.arr g3, e2.arr g4⟩ ⟨e2.arr g5, e2.arr g6, e2.arr g7, e2.arr g8⟩ (by rw [iH]; rfl) mdH (fun k hk => absurd hk (Nat.not_lt_zero k))
    have e3 : Ed (fun b => b = m ∨ (m + 4 ≤ b ∧ b ≤ m + 11)) h h2 := Ed.tr e2 (b2.mono (fun b hb => by omega))
    have i2 : h2.I m = H.I m := (b2.2.2.2.2 m (by omega)).1
    refine ⟨h2, ?_, q.ch e3 (fun k z0 z1 => ?_) ?_ b3 ⟨?_, ?_, ?_, fun j hj => absurd hj (Nat.not_lt_zero j)⟩, e3.1, e3⟩
    · unfold f_X7_chant
      rw [if_pos hK, pI_e hK, Option.bind_some, show putI h m 0 0 = t0 h m from rfl, a1, Option.bind_some]
      dsimp only
      rw [pI_e hK1, Option.bind_some, if_neg one_ne, pI_e (h := putI _ _ _ _) hK1, Option.bind_some, pI_e (h := putI (putI _ _ _ _) _ _ _) hK1, Option.bind_some, gI_e (h := putI (putI (putI _ _ _ _) _ _ _) _ _ _) hK1, Option.bind_some, w3, if_neg (by decide), w3, if_neg (by decide), w3, if_neg (by decide), md.1, pI_e (h := putI (putI (putI _ _ _ _) _ _ _) _ _ _) hK1, Option.bind_some, ← eH]
      exact b1
    · rw [i2, iH, if_neg (by omega), if_neg (by omega), if_neg (by omega), if_neg (by omega)]
      exact i1 k z0 (by omega) (by omega)
    · rw [(b2.2.2.2.2 m (by omega)).2, eH]
      show h1.J m = h.J m
      rw [J1]
    · rw [i2, iH]; rfl
    · rw [i2, iH]; rfl
    · rw [i2, iH]; rfl
  · intro p0
    rw [if_neg p0] at a1
    obtain ⟨f27, f28⟩ := a4 p0
    obtain ⟨H, eH⟩ : ∃ H, H = putI h1 m 22 0 := ⟨_, rfl⟩
    have E : Ed (fun b => b = m) h1 H := by rw [eH]; exact Ed.pI rfl
    have iH : ∀ k, H.I m k = if k = 22 then 0 else h1.I m k := fun k => by rw [eH, w3]
    have e2 : Ed (fun b => b = m ∨ (m + 4 ≤ b ∧ b ≤ m + 11)) h H := Ed.tr e1 (E.mono (fun b hb => Or.inl hb))
    have o : ∀ k, 0 < k → k < 8 → H.I (m + k) = h.I (m + k) := fun k hk hk2 => by
      rw [(E.2.2.2.2 (m + k) (by omega)).1, (a2.1.2.2.2.2 (m + k) (by omega)).1, (et.2.2.2.2 (m + k) (by omega)).1]
    refine ⟨H, ?_, q.ch e2 (fun k z0 z1 => ?_) ?_ ?_ ⟨?_, ?_, ?_, fun j hj => absurd hj (Nat.not_lt_zero j)⟩, e2.1, e2⟩
    · unfold f_X7_chant
      rw [if_pos hK, pI_e hK, Option.bind_some, show putI h m 0 0 = t0 h m from rfl, a1, Option.bind_some]
      dsimp only
      rw [pI_e hK1, Option.bind_some, if_pos rfl, ← eH]
    · rw [iH, if_neg (by omega)]
      exact i1 k z0 (by omega) (by omega)
    · rw [eH]
      show h1.J m = h.J m
      rw [J1]
    · have mc := q.2.2.2.2.2.1
      unfold ModC
      rw [o 4 (by decide) (by decide), o 5 (by decide) (by decide), o 6 (by decide) (by decide), o 7 (by decide) (by decide), iH, if_neg (by decide), i1 11 (by decide) (by decide) (by decide)]
      exact mc
    · rw [iH]; rfl
    · rw [iH]; exact f27
    · rw [iH]; exact f28
theorem c_chant {h : Hp} {g : Sg} {S : Int64} {hr : Nat} {cn : Int32} {c : Cg} {fk fp : Int32} (hb : ∀ j, j < tl → tp j < 256) (hf : 20000 < fu) (q : CW h x v g S hr cn c tp tl fk fp) : ((pX tp tl 13 0 cg0).1 = 0 → ∃ h2, f_X6_chant fu x h = some (nI (pX tp tl 13 0 cg0).2.2.n, h2) ∧ CW h2 x v g S hr cn (pX tp tl 13 0 cg0).2.2 tp 0 0 (-1) ∧ ∀ b, x + 20 ≤ b → b < x + 40 → same h h2 b) ∧ ((pX tp tl 13 0 cg0).1 ≠ 0 → ∃ h2, f_X6_chant fu x h = some (-1, h2) ∧ CW h2 x v g S hr cn c tp 0 (nI (pX tp tl 13 0 cg0).1) (nI (pX tp tl 13 0 cg0).2.1) ∧ ∀ b, x + 20 ≤ b → b < x + 40 → same h h2 b) := by
  obtain ⟨sg, dr, jg, sc, q1, q2, q3, q4, q5, q6, q7, q8, q9⟩ := q
  obtain ⟨k1, k2, k3, k4, k5, k6, k7, k8, k9, k10⟩ := id q1
  obtain ⟨w1, cs, cd, cv, ok⟩ := id q5
  have hd : x + 10 ≤ dr := by omega
  obtain ⟨h1, a1, a2, a3, a4, a5⟩ := c_readInto (fu := fu) hb hf hd q4 cd
  obtain ⟨H, eH⟩ : ∃ H, H = putI h1 (x + 8) 0 0 := ⟨_, rfl⟩
  have E1 : Ed (fun b => b = x + 8) h1 H := by rw [eH]; exact Ed.pI rfl
  have E : Ed (PE x dr) h H := Ed.tr a2 (E1.mono (fun b hb => Or.inl hb))
  have o : ∀ b, b ≤ x + 7 ∨ (sg ≤ b ∧ b < sg + 5) ∨ x + 20 ≤ b → same h H b := fun b hb => E.same (fun z => by unfold PE at z; omega)
  have csd : ChantS H dr := by
    obtain ⟨s1, s2, s3, s4, s5⟩ := cd
    exact ⟨by rw [E.2.1]; exact s1, E.arr s2, E.arr s3, E.arr s4, E.arr s5⟩
  have KH : H.K x = 6 := by rw [E.2.1]; exact k1
  have rdH : ∀ fk' fp', ReaderP h1 x tp tl fk' fp' → ReaderP H x tp 0 fk' fp' := fun fk' fp' r => by
    obtain ⟨r1, r2, r3, r4, r5, r6, r7⟩ := r
    exact ⟨by rw [E1.2.1]; exact r1, E1.arr r2, by rw [eH, w3, if_pos rfl]; rfl, by rw [eH, w3, if_neg (by decide)]; exact r4, by rw [eH, w3, if_neg (by decide)]; exact r5, fun j hj => absurd hj (Nat.not_lt_zero j), by omega⟩
  have jpH : ∀ j, jg = some j → ∀ b, j ≤ b → b < j + 12 → same h H b := fun j hj b p1 p2 => o b (by have := (q6 j hj).1; omega)
  have spH : ∀ s, sc = some s → ∀ b, s ≤ b → b < s + 6 → same h H b := fun s hs b p1 p2 => o b (by have := (q7 s hs).1; omega)
  have K1 : h1.K x = 6 := by rw [a2.2.1]; exact k1
  have R1 : h1.R x 1 = some (x + 8) := by rw [a2.2.2.2.1]; exact k3
  have K8 : h1.K (x + 8) = 3 := by rw [a2.2.1]; exact q4.1
  have u : ∀ w : Int32, f_X3_readInto fu (x + 8) dr h = some (w, h1) → f_X6_chant fu x h = if w = 0 then some (-1, H) else (gR H 6 x 2).bind fun v27 => (gR H 6 x 3).bind fun v33 => (pR H 6 x 2 (some v33)).bind fun h36 => (pR h36 6 x 3 (some v27)).bind fun h41 => (gQ h41 6 x 7).bind fun v45 => Option.elim v45 (f_X6_chant_58 fu x h41) (fun _ => (gR h41 6 x 7).bind fun v52 => (f_X1_forget fu v52 h41).bind fun r55 => f_X6_chant_58 fu x r55.2) := by
    intro w hw
    unfold f_X6_chant
    rw [if_pos k1, gR_e k1, k3, Option.bind_some, gR_e k1, k5, Option.bind_some, hw, Option.bind_some]
    dsimp only
    rw [gR_e K1, R1, Option.bind_some, pI_e K8, Option.bind_some, ← eH]
  constructor
  · intro p0
    rw [if_pos p0] at a1
    obtain ⟨rd, vd⟩ := a4 p0
    obtain ⟨c', hc'⟩ : ∃ c', c' = (pX tp tl 13 0 cg0).2.2 := ⟨_, rfl⟩
    rw [← hc'] at vd ⊢
    have ok' : c'.ok := by rw [hc']; exact pX_ok 13 0 cg0 cg0_ok (Nat.zero_le _)
    have vdH : ChantV H dr c' := vd.fr (fun b p1 p2 => E1.same (by omega))
    have R2 : H.R x 2 = some sg := by rw [E.2.2.2.1]; exact k4
    have R3 : H.R x 3 = some dr := by rw [E.2.2.2.1]; exact k5
    obtain ⟨G, eG⟩ : ∃ G, G = putR (putR H x 2 (some dr)) x 3 (some sg) := ⟨_, rfl⟩
    have sG : ∀ b, b ≠ x → same H G b := fun b hb => by rw [eG]; exact (pR_same hb).tr (pR_same hb)
    have RG : ∀ k, G.R x k = if k = 3 then some sg else if k = 2 then some dr else H.R x k := fun k => by rw [eG, pR_R, if_pos rfl, pR_R, if_pos rfl]
    have KG : G.K x = 6 := by rw [eG]; exact KH
    have IG : G.I = H.I := by rw [eG]; rfl
    have JG : G.J = H.J := by rw [eG]; rfl
    have NG : G.N = h.N := by rw [eG]; exact E.1
    have mP : MasterP G x S hr cn dr sg jg sc := by
      refine ⟨KG, by rw [RG, if_neg (by decide), if_neg (by decide), E.2.2.2.1]; exact k2, by rw [RG, if_neg (by decide), if_neg (by decide), E.2.2.2.1]; exact k3, by rw [RG]; rfl, by rw [RG]; rfl, by rw [JG, (o x (by omega)).2.2.2.1]; exact k6, by rw [IG, (o x (by omega)).2.2.1]; exact k7, by rw [IG, (o x (by omega)).2.2.1]; exact k8, by rw [RG, if_neg (by decide), if_neg (by decide), E.2.2.2.1]; exact k9, by rw [RG, if_neg (by decide), if_neg (by decide), E.2.2.2.1]; exact k10⟩
    have cP : ∀ h2, (∀ b, x + 8 ≤ b → b < x + 40 → same G h2 b) → ReaderP h2 x tp 0 0 (-1) ∧ ChantsP h2 x dr sg c' := fun h2 e => by
      have e' : ∀ b, x + 8 ≤ b → b < x + 40 → same H h2 b := fun b p1 p2 => (sG b (by omega)).tr (e b p1 p2)
      refine ⟨(rdH _ _ rd).fr (e' _ (by omega) (by omega)) (e' _ (by omega) (by omega)), by omega, csd.fr (fun b p1 p2 => e' b (by omega) (by omega)), (cs.fr (fun b p1 p2 => o b (by omega))).fr (fun b p1 p2 => e' b (by omega) (by omega)), vdH.fr (fun b p1 p2 => e' b (by omega) (by omega)), ok'⟩
    have c58 : ∀ h2, h2.K x = 6 → h2.R x 2 = some dr → h2.K dr = 0 → h2.I dr 0 = nI c'.n → f_X6_chant_58 fu x h2 = some (nI c'.n, h2) := fun h2 z1 z2 z3 z4 => by
      unfold f_X6_chant_58
      rw [gR_e z1, z2, Option.bind_some, gI_e z3, Option.bind_some, z4]
    have un : f_X6_chant fu x h = Option.elim jg (f_X6_chant_58 fu x G) (fun _ => (gR G 6 x 7).bind fun v52 => (f_X1_forget fu v52 G).bind fun r55 => f_X6_chant_58 fu x r55.2) := by
      rw [u 1 a1, if_neg one_ne, gR_e KH, R2, Option.bind_some, gR_e KH, R3, Option.bind_some, pR_e KH, Option.bind_some, pR_e (h := putR _ _ _ _) KH, Option.bind_some, ← eG, gQ_e KG, mP.2.2.2.2.2.2.2.2.1, Option.bind_some]
    have Kdr : G.K dr = 0 := by rw [(sG dr (by omega)).1]; exact csd.1
    have Idr : G.I dr 0 = nI c'.n := by rw [IG]; exact vdH.1
    have oG : ∀ b, b ≠ x → (b ≤ x + 7 ∨ x + 20 ≤ b) → same h G b := fun b z1 z2 => (o b (by omega)).tr (sG b z1)
    cases ej : jg with
    | none =>
      rw [ej] at un
      obtain ⟨c1, c2⟩ := cP G (fun b _ _ => same.rf)
      refine ⟨G, un.trans (c58 G KG mP.2.2.2.1 Kdr Idr), ⟨dr, sg, none, sc, by rw [← ej]; exact mP, q2.fr (fun b p1 p2 => oG b (by omega) (by omega)), by rw [(oG (x + 1) (by omega) (by omega)).2.2.1]; exact q3, c1, c2, fun j hj => (by cases hj), q7.fr (by omega) (fun s hs b p1 p2 => oG b (by have := (q7 s hs).1; omega) (by have := (q7 s hs).1; omega)), fun j s hj => (by cases hj), by omega⟩, fun b p1 p2 => oG b (by omega) (by omega)⟩
    | some j =>
      rw [ej] at un mP
      obtain ⟨j1, j2, j3, j4⟩ := q6 j ej
      obtain ⟨F, eF⟩ : ∃ F, F = putI G j 0 0 := ⟨_, rfl⟩
      have EF : Ed (fun b => b = j) G F := by rw [eF]; exact Ed.pI rfl
      have sF : ∀ b, b ≠ j → same G F b := fun b hb => EF.same hb
      obtain ⟨c1, c2⟩ := cP F (fun b _ _ => sF b (by omega))
      have Kj : G.K j = 1 := by rw [(oG j (by omega) (by omega)).1]; exact j3.1
      have jS : JudgeS G j := j3.fr (fun b p1 p2 => oG b (by omega) (by omega))
      have ffo : f_X1_forget fu j G = some ((), F) := by
        unfold f_X1_forget
        rw [if_pos Kj, pI_e Kj, Option.bind_some, eF]
      have hF : f_X6_chant fu x h = some (nI c'.n, F) := by
        rw [un]
        show ((gR G 6 x 7).bind fun v52 => (f_X1_forget fu v52 G).bind fun r55 => f_X6_chant_58 fu x r55.2) = _
        rw [gR_e KG, mP.2.2.2.2.2.2.2.2.1, Option.bind_some, ffo, Option.bind_some]
        exact c58 F (by rw [EF.2.1]; exact KG) (by rw [EF.2.2.2.1]; exact mP.2.2.2.1) (by rw [EF.2.1]; exact Kdr) (by rw [(sF dr (by omega)).2.2.1]; exact Idr)
      have oF : ∀ b, b ≠ x → b ≠ j → (b ≤ x + 7 ∨ x + 20 ≤ b) → same h F b := fun b z1 z2 z3 => (oG b z1 z3).tr (sF b z2)
      have FN : F.N = h.N := by rw [EF.1]; exact NG
      refine ⟨F, hF, ⟨dr, sg, some j, sc, mP.fr (sF x (by omega)), q2.fr (fun b p1 p2 => oF b (by omega) (by omega) (by omega)), by rw [(oF (x + 1) (by omega) (by omega) (by omega)).2.2.1]; exact q3, c1, c2, ?_, q7.fr (by omega) (fun s hs b p1 p2 => ?_), by rw [← ej]; exact q8, by omega⟩, fun b p1 p2 => oF b (by omega) (by omega) (by omega)⟩
      · intro j' hj'
        have : j = j' := by injection hj'
        subst this
        exact ⟨j1, by omega, jS.ed EF, Or.inl (by rw [eF, w3, if_pos rfl])⟩
      · have d := q8 j s ej hs
        have s1 := (q7 s hs).1
        exact oF b (by omega) (by omega) (by omega)
  · intro p0
    rw [if_neg p0] at a1
    refine ⟨H, ?_, ⟨sg, dr, jg, sc, q1.fr (o x (by omega)), q2.fr (fun b p1 p2 => o b (by omega)), by rw [(o (x + 1) (by omega)).2.2.1]; exact q3, rdH _ _ (a5 p0), ⟨w1, cs.fr (fun b p1 p2 => o b (by omega)), csd, cv.fr (fun b p1 p2 => o b (by omega)), ok⟩, q6.fr (by rw [E.1]; omega) jpH, q7.fr (by rw [E.1]; omega) spH, q8, by rw [E.1]; exact q9⟩, fun b p1 p2 => o b (by omega)⟩
    rw [u 0 a1, if_pos rfl]
theorem q_chant {h : Hp} (hW : Wd h x v) (hf : 20000 < fu) : Tok x v (f_X6_chant fu x) (f_X7_chant fu (x + 20)) h := by
  obtain ⟨g, S, hr, cn, c, tp, tl, fk, fp, hC, hM, hR⟩ := hW
  obtain ⟨w1, w2, w3, w4, w5, w6, w7⟩ := id hR
  have cc := c_chant (fu := fu) w6 hf hC
  have R' : Rng g S hr cn tp 0 := ⟨w1, w2, w3, w4, w5, fun j hj => absurd hj (Nat.not_lt_zero j), by omega⟩
  by_cases p0 : (pX tp tl 13 0 cg0).1 = 0
  · refine glue (v' := v) hM (cc.1 p0) (fun h1 q => ?_) R' (by omega)
    obtain ⟨h2, b1, b2, b3, b4⟩ := (m_chant (fu := fu) w6 w7 hf q).1 p0
    exact ⟨h2, b1, b2, b3, fun b hb => b4.same (by omega)⟩
  · refine glue (v' := v) hM (cc.2 p0) (fun h1 q => ?_) R' (by omega)
    obtain ⟨h2, b1, b2, b3, b4⟩ := (m_chant (fu := fu) w6 w7 hf q).2 p0
    exact ⟨h2, b1, b2, b3, fun b hb => b4.same (by omega)⟩
end CHANT
