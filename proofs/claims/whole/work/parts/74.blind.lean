def FX5 : Nat → Nat × Nat × Nat
  | 0 => (0, 8, 12)
  | 1 => (1, 9, 3000)
  | 2 => (2, 8, 3000)
  | 3 => (3, 8, 3000)
  | _ => (4, 8, 4096)
section BLIND
variable {x v fu s : Nat} {g : Sg} {S : Int64} {hr : Nat} {cn : Int32} {c : Cg} {tp : Nat → Nat} {tl : Nat} {fk fp : Int32}
theorem init5 {h : Hp} {o : Nat} (hK : h.K o = 5) (hN : h.N = o + 1) : ∃ h1, f_X5_init fu o h = some ((), h1) ∧ SearchS h1 o ∧ h1.N = o + 6 ∧ Bf o h h1 ∧ h1.I o = h.I o := by
  have q0 : Al h o 5 0 FX5 := ⟨hK, hN, fun i hi => by omega⟩
  obtain ⟨h1, a1, a2, a3, a4, a5, -⟩ := q0.st (show FX5 0 = (0, 8, 12) from rfl) (by decide)
  obtain ⟨h2, b1, b2, b3, b4, b5, -⟩ := a2.st (show FX5 1 = (1, 9, 3000) from rfl) (by decide)
  obtain ⟨h3, c1, c2, c3, c4, c5, -⟩ := b2.st (show FX5 2 = (2, 8, 3000) from rfl) (by decide)
  obtain ⟨h4, d1, d2, d3, d4, d5, -⟩ := c2.st (show FX5 3 = (3, 8, 3000) from rfl) (by decide)
  obtain ⟨h5, e1, e2, e3, e4, e5, -⟩ := d2.st (show FX5 4 = (4, 8, 4096) from rfl) (by decide)
  refine ⟨h5, ?_, ⟨e2.1, e2.2.2 0 (by decide), e2.2.2 1 (by decide), e2.2.2 2 (by decide), e2.2.2 3 (by decide), e2.2.2 4 (by decide)⟩, by rw [e2.2.1], ?_, ?_⟩
  · unfold f_X5_init
    rw [if_pos hK, a1, Option.bind_some, b1, Option.bind_some, c1, Option.bind_some, d1, Option.bind_some, e1, Option.bind_some]
  · intro b hb
    have n1 := a2.2.1
    have n2 := b2.2.1
    have n3 := c2.2.1
    have n4 := d2.2.1
    exact ((((a3 b (by omega) (by omega)).tr (b3 b (by omega) (by omega))).tr (c3 b (by omega) (by omega))).tr (d3 b (by omega) (by omega))).tr (e3 b (by omega) (by omega))
  · rw [e4, d4, c4, b4, a4]
/-- the class's side when only the search's cells change, and the sea's spreads -/
theorem CW.sr {h h1 : Hp} (q : CW h x v g S hr cn c tp tl fk fp) (hs : h.R x 8 = some s) (hN : h1.N = h.N) (e : ∀ b, b < s ∨ s + 6 ≤ b → b ≠ x + 1 → b ≠ x + 7 → same h h1 b) (se : Se h1 (x + 1) g) (sI : h1.I (x + 1) = h.I (x + 1)) (ss : SearchS h1 s) (st : h1.I s 6 = 0 ∨ ∃ sv wt, sv ≤ v ∧ wt < 6 ∧ h1.I s 9 = nI sv ∧ h1.I s 8 = nI wt ∧ (sv = v → BlH h1 s g (h1.J s 7) wt)) : CW h1 x v g S hr cn c tp tl fk fp := by
  obtain ⟨sg, dr, jg, sc, q1, q2, q3, q4, q5, q6, q7, q8, q9⟩ := q
  have es : sc = some s := by rw [← q1.2.2.2.2.2.2.2.2.2]; exact hs
  obtain ⟨s1, s2, -⟩ := q7 s es
  refine ⟨sg, dr, jg, sc, q1.fr (e x (by omega) (by omega) (by omega)), se, by rw [sI]; exact q3, q4.fr (e _ (by omega) (by omega) (by omega)) (e _ (by omega) (by omega) (by omega)), q5.fr (fun b p1 p2 => e b (by omega) (by omega) (by omega)), q6.fr (by omega) (fun j hj b p1 p2 => ?_), ?_, q8, by omega⟩
  · have d := q8 j s hj es
    have j1 := (q6 j hj).1
    exact e b (by omega) (by omega) (by omega)
  · intro s' hs'
    obtain rfl : s = s' := by rw [es] at hs'; exact Option.some.inj hs'
    exact ⟨s1, by omega, ss, st⟩
theorem c_short {h : Hp} (hf : 20000 < fu) (hf2 : fu < 2 ^ 31) (hv : v < 100000) (hC : CW h x v g S hr cn c tp tl fk fp) (hR : Rng g S hr cn tp tl) (hs : h.R x 8 = some s) {wt : Nat} (hw : wt < 6) : ∃ h1, f_X5_shortest fu s (x + 1) S (nI wt) h = some (blA g S wt, h1) ∧ CW h1 x v g S hr cn c tp tl fk fp ∧ (∀ b, x + 20 ≤ b → b < x + 40 → same h h1 b) ∧ h1.R x 8 = some s ∧ SearchS h1 s ∧ ∀ p, p < 12 → nI p < blA g S wt → h1.I (s + 1) p = nI (blR g S wt p) := by
  obtain ⟨k1, k2, k3, k4, k5, k6, k7, k8, k9⟩ := cw_get hC
  obtain ⟨hg, r2, r3, r4, r5, r6, r7⟩ := id hR
  obtain ⟨sg, dr, jg, sc, q1, q2, q3, q4, q5, q6, q7, q8, q9⟩ := id hC
  have es : sc = some s := by rw [← q1.2.2.2.2.2.2.2.2.2]; exact hs
  obtain ⟨s1, s2, ss, st⟩ := q7 s es
  have hK := ss.1
  have go : f_X5_shortest fu s (x + 1) S (nI wt) h = f_X5_shortest_41 fu s (x + 1) S (nI wt) h → ∃ h1, f_X5_shortest fu s (x + 1) S (nI wt) h = some (blA g S wt, h1) ∧ CW h1 x v g S hr cn c tp tl fk fp ∧ (∀ b, x + 20 ≤ b → b < x + 40 → same h h1 b) ∧ h1.R x 8 = some s ∧ SearchS h1 s ∧ ∀ p, p < 12 → nI p < blA g S wt → h1.I (s + 1) p = nI (blR g S wt p) := by
    intro he
    obtain ⟨H, eH⟩ : ∃ H, H = putI (putI (putJ (putI h s 6 1) s 7 S) s 8 (nI wt)) s 9 (nI v) := ⟨_, rfl⟩
    have E : Ed (fun b => b = s) h H := by rw [eH]; exact Ed.tr (Ed.tr (Ed.tr (Ed.pI rfl) (Ed.pJ rfl)) (Ed.pI rfl)) (Ed.pI rfl)
    have KH : H.K s = 5 := by rw [E.2.1]; exact hK
    have seH : Se H (x + 1) g := k7.fr (fun b p1 p2 => E.same (by omega))
    have ssH : SearchS H s := ss.ed E
    have iH : ∀ k, H.I s k = if k = 9 then nI v else if k = 8 then nI wt else if k = 6 then 1 else h.I s k := fun k => by rw [eH, w3, w3, putJ_I, w3]
    have jH : H.J s 7 = S := by
      rw [eH]
      show (putJ (putI h s 6 1) s 7 S).J s 7 = S
      rw [putJ_J, if_pos rfl, if_pos rfl]
    have feH : H.I (x + 1) = h.I (x + 1) := (E.2.2.2.2 (x + 1) (by omega)).1
    have K4 : (putI (putJ (putI h s 6 1) s 7 S) s 8 (nI wt)).K (x + 1) = 4 := k7.1.1
    have v4 : (putI (putJ (putI h s 6 1) s 7 S) s 8 (nI wt)).I (x + 1) 3 = nI v := by
      rw [putI_I, if_neg (by omega), putJ_I, putI_I, if_neg (by omega)]; exact k8
    have u : f_X5_shortest fu s (x + 1) S (nI wt) h = if alL g S = true then f_X5_shortest_86 fu s s 0 H else (f_X5_lookThrough fu s (x + 1) S (nI wt) H).bind fun r83 => f_X5_shortest_86 fu s s r83.1 r83.2 := by
      rw [he]
      unfold f_X5_shortest_41
      rw [pI_e hK, Option.bind_some, pJ_e (h := putI _ _ _ _) hK, Option.bind_some, pI_e (h := putJ (putI _ _ _ _) _ _ _) hK, Option.bind_some, gI_e K4, Option.bind_some, v4, pI_e (h := putI (putJ (putI _ _ _ _) _ _ _) _ _ _) hK, Option.bind_some, ← eH, s_isAllLand seH r3, Option.bind_some]
      dsimp only
      by_cases za : alL g S = true
      · rw [if_pos ((alL_iff g S).mp za), if_neg one_ne, if_pos za]
      · rw [if_neg (fun y => za ((alL_iff g S).mpr y)), if_pos rfl, if_neg za]
    -- the end: an answer is written
    have fin : ∀ (ans : Int32) (h1 : Hp), FE s (x + 1) H h1 → SearchS h1 s → Se h1 (x + 1) g → ans = blA g S wt → (∀ p, p < 12 → nI p < ans → h1.I (s + 1) p = nI (blR g S wt p)) → f_X5_shortest fu s (x + 1) S (nI wt) h = f_X5_shortest_86 fu s s ans h1 → ∃ h1, f_X5_shortest fu s (x + 1) S (nI wt) h = some (blA g S wt, h1) ∧ CW h1 x v g S hr cn c tp tl fk fp ∧ (∀ b, x + 20 ≤ b → b < x + 40 → same h h1 b) ∧ h1.R x 8 = some s ∧ SearchS h1 s ∧ ∀ p, p < 12 → nI p < blA g S wt → h1.I (s + 1) p = nI (blR g S wt p) := by
      intro ans h1 fe ss1 se1 ea rows hu
      obtain ⟨G, eG⟩ : ∃ G, G = putI h1 s 10 ans := ⟨_, rfl⟩
      have EG : Ed (fun b => b = s) h1 G := by rw [eG]; exact Ed.pI rfl
      have ssG := ss1.ed EG
      have seG : Se G (x + 1) g := se1.fr (fun b p1 p2 => EG.same (by omega))
      have all : Ed (fun b => (s ≤ b ∧ b ≤ s + 5) ∨ b = x + 1 ∨ b = x + 1 + 6) h G := Ed.tr (E.mono (fun b hb => Or.inl (by omega))) (Ed.tr fe.1 (EG.mono (fun b hb => Or.inl (by omega))))
      have row' : ∀ p, p < 12 → nI p < blA g S wt → G.I (s + 1) p = nI (blR g S wt p) := fun p p1 p2 => by
        rw [eG, putI_I, if_neg (by omega)]
        exact rows p p1 (by rw [ea]; exact p2)
      have g10 : G.I s 10 = blA g S wt := by rw [eG, w3, if_pos rfl, ea]
      have gk : ∀ k, k ≠ 10 → k ≠ 5 → G.I s k = H.I s k := fun k z1 z2 => by rw [eG, w3, if_neg z1]; exact fe.2.1 k z2
      have gj : G.J s 7 = S := by
        rw [eG]
        show h1.J s 7 = S
        rw [fe.2.2.1]; exact jH
      have oo : ∀ b, b < s ∨ s + 6 ≤ b → b ≠ x + 1 → b ≠ x + 7 → same h G b := fun b z1 z2 z3 => all.same (by omega)
      refine ⟨G, ?_, hC.sr hs all.1 oo seG ?_ ssG (Or.inr ⟨v, wt, Nat.le_refl _, hw, ?_, ?_, fun _ => ⟨by rw [gj]; exact g10, fun p p1 p2 => ?_⟩⟩), fun b p1 p2 => oo b (by omega) (by omega) (by omega), by rw [all.2.2.2.1]; exact hs, ssG, row'⟩
      · rw [hu]
        unfold f_X5_shortest_86
        rw [pI_e ss1.1, Option.bind_some, ← eG, gI_e ssG.1, Option.bind_some, g10]
      · rw [(EG.2.2.2.2 (x + 1) (by omega)).1, fe.2.2.2, feH]
      · rw [gk 9 (by decide) (by decide), iH]; rfl
      · rw [gk 8 (by decide) (by decide), iH]; rfl
      · rw [gj]
        rw [g10] at p2
        exact row' p p1 p2
    by_cases za : alL g S = true
    · have e0 : blA g S wt = 0 := if_pos za
      refine fin 0 H FE.rf ssH seH e0.symm (fun p p1 p2 => absurd p2 (nI_pos (by omega))) ?_
      rw [u, if_pos za]
    · have eA : blA g S wt = if (blX g S wt).1 = 0 then -1 else if (blX g S wt).1 = 1 then nI ((blX g S wt).2.1.dp (blX g S wt).2.2.1 + 1) else -2 := if_neg za
      rw [if_neg za] at u
      obtain ⟨h1, a1, a2, a3, a4, a5, a6, a7⟩ := c_look (fu := fu) (s := s) (a := x + 1) hf hf2 (by omega) r2 hw r3 ssH seH
      by_cases r0 : (blX g S wt).1 = 0
      · rw [if_pos r0] at eA
        refine fin (-1) h1 a1 a2 a3 eA.symm (fun p p1 p2 => ?_) (by rw [u, a4 r0, Option.bind_some])
        rw [lt_ti, ti_n (by omega)] at p2
        have : (-1 : Int32).toInt = -1 := by decide
        omega
      · rw [if_neg r0] at eA
        by_cases r1 : (blX g S wt).1 = 1
        · rw [if_pos r1] at eA
          obtain ⟨c1, c2, c3⟩ := a5 r1
          refine fin _ h1 a1 a2 a3 eA.symm (fun p p1 p2 => ?_) (by rw [u, c1, Option.bind_some])
          rw [lt_ti, ti_n (by omega), ti_n (by omega)] at p2
          rw [c3 p (by omega)]; rfl
        · rw [if_neg r1] at eA
          refine fin (-2) h1 a1 a2 a3 eA.symm (fun p p1 p2 => ?_) (by rw [u, a6 (by omega), Option.bind_some])
          rw [lt_ti, ti_n (by omega)] at p2
          have : (-2 : Int32).toInt = -2 := by decide
          omega
  by_cases z6 : h.I s 6 = 0
  · apply go
    unfold f_X5_shortest
    rw [if_pos hK, gI_e hK, Option.bind_some, if_pos z6]
  · obtain ⟨sv, wt', b1, b2, b3, b4, b5⟩ := st.resolve_left z6
    by_cases z7 : h.J s 7 = S
    · by_cases z8 : wt' = wt
      · by_cases z9 : sv = v
        · obtain ⟨c1, c2⟩ := b5 z9
          rw [z7, z8] at c1 c2
          refine ⟨h, ?_, hC, fun _ _ _ => same.rf, hs, ss, fun p p1 p2 => c2 p p1 (by rw [c1]; exact p2)⟩
          unfold f_X5_shortest
          rw [if_pos hK, gI_e hK, Option.bind_some, if_neg z6, gJ_e hK, Option.bind_some, if_pos ((cmp0 _ _).mpr z7), gI_e hK, Option.bind_some, b4, z8, if_pos rfl, gI_e hK, Option.bind_some, gI_e k7.1.1, Option.bind_some, b3, k8, z9, if_pos rfl, gI_e hK, Option.bind_some, c1]
        · apply go
          unfold f_X5_shortest
          rw [if_pos hK, gI_e hK, Option.bind_some, if_neg z6, gJ_e hK, Option.bind_some, if_pos ((cmp0 _ _).mpr z7), gI_e hK, Option.bind_some, b4, z8, if_pos rfl, gI_e hK, Option.bind_some, gI_e k7.1.1, Option.bind_some, b3, k8, if_neg (fun y => z9 ((nI_eq (by omega) (by omega)).mp y))]
      · apply go
        unfold f_X5_shortest
        rw [if_pos hK, gI_e hK, Option.bind_some, if_neg z6, gJ_e hK, Option.bind_some, if_pos ((cmp0 _ _).mpr z7), gI_e hK, Option.bind_some, b4, if_neg (fun y => z8 ((nI_eq (by omega) (by omega)).mp y))]
    · apply go
      unfold f_X5_shortest
      rw [if_pos hK, gI_e hK, Option.bind_some, if_neg z6, gJ_e hK, Option.bind_some, if_neg (fun y => z7 ((cmp0 _ _).mp y))]
theorem c_blind52 {h : Hp} (hf : 20000 < fu) (hf2 : fu < 2 ^ 31) (hv : v < 100000) (hC : CW h x v g S hr cn c tp tl fk fp) (hR : Rng g S hr cn tp tl) (hs : h.R x 8 = some s) : ∃ h1, CW h1 x v g S hr cn c tp tl fk fp ∧ (∀ b, x + 20 ≤ b → b < x + 40 → same h h1 b) ∧ (∀ w : Int32, f_X6_blind_52 fu x 0 w h = some (blA g S (hr % 6), h1)) ∧ ∀ i, i < 12 → f_X6_blind_52 fu x (nI (10 + i)) (nI i) h = some (ansI g S (hr % 6) i, h1) := by
  obtain ⟨k1, k2, k3, k4, k5, k6, k7, k8, k9⟩ := cw_get hC
  have r4 := hR.2.2.2.1
  obtain ⟨h1, a1, a2, a3, a4, a5, a6⟩ := c_short (fu := fu) (wt := hr % 6) hf hf2 hv hC hR hs (Nat.mod_lt _ (by decide))
  have K1 := (cw_get a2).1
  have u : ∀ z w : Int32, f_X6_blind_52 fu x z w h = if blA g S (hr % 6) < 0 then some (blA g S (hr % 6), h1) else if z = 0 then some (blA g S (hr % 6), h1) else if blA g S (hr % 6) ≤ w then some (-2, h1) else (aI h1 8 (s + 1) w).bind fun v99 => some (v99, h1) := fun z w => by
    unfold f_X6_blind_52
    rw [gR_e k1, hs, Option.bind_some, gR_e k1, k2, Option.bind_some, gJ_e k1, Option.bind_some, k4, watchN k1 k5 r4, Option.bind_some]
    dsimp only
    rw [a1, Option.bind_some]
    dsimp only
    rw [gR_e K1, a4, Option.bind_some, gR_e a5.1, a5.2.1.1, Option.bind_some]
  refine ⟨h1, a2, a3, fun w => ?_, fun i hi => ?_⟩
  · rw [u]
    split
    · rfl
    · rw [if_pos rfl]
  · rw [u]
    unfold ansI
    by_cases z : blA g S (hr % 6) < 0
    · rw [if_pos z, if_pos z]
    · rw [if_neg z, if_neg z, if_neg (ne_lit (b := 0) (by omega) (by decide) (by omega))]
      by_cases y : blA g S (hr % 6) ≤ nI i
      · rw [if_pos y, if_pos y]
      · have lt : nI i < blA g S (hr % 6) := by
          rw [le_ti] at y
          rw [lt_ti]; omega
        rw [if_neg y, if_neg y, aI_e a5.2.1.2.1 a5.2.1.2.2 hi (by decide), Option.bind_some, a6 i hi lt]
theorem c_blind34 {h : Hp} (hf : 20000 < fu) (hf2 : fu < 2 ^ 31) (hv : v < 100000) (hC : CW h x v g S hr cn c tp tl fk fp) (hR : Rng g S hr cn tp tl) : ∃ h1, CW h1 x v g S hr cn c tp tl fk fp ∧ (∀ b, x + 20 ≤ b → b < x + 40 → same h h1 b) ∧ (∀ w : Int32, f_X6_blind_34 fu x 0 w h = some (blA g S (hr % 6), h1)) ∧ ∀ i, i < 12 → f_X6_blind_34 fu x (nI (10 + i)) (nI i) h = some (ansI g S (hr % 6) i, h1) := by
  obtain ⟨k1, -⟩ := cw_get hC
  cases hs : h.R x 8 with
  | some s =>
    obtain ⟨h1, a1, a2, a3, a4⟩ := c_blind52 (s := s) hf hf2 hv hC hR hs
    have u : ∀ z w : Int32, f_X6_blind_34 fu x z w h = f_X6_blind_52 fu x z w h := fun z w => by
      unfold f_X6_blind_34
      rw [gQ_e k1, Option.bind_some, hs]; rfl
    exact ⟨h1, a1, a2, fun w => (u _ _).trans (a3 w), fun i hi => (u _ _).trans (a4 i hi)⟩
  | none =>
    obtain ⟨sg, dr, jg, sc, q1, q2, q3, q4, q5, q6, q7, q8, q9⟩ := id hC
    have Kb : (newC h 5 0).K h.N = 5 := by rw [nc_K, if_pos rfl]
    have Ib : (newC h 5 0).I h.N = fun _ => 0 := by rw [nc_I, if_pos rfl]
    obtain ⟨h1, b1, b2, b3, b4, b5⟩ := init5 (fu := fu) Kb (show h.N + 1 = _ from rfl)
    have s1 : ∀ b, b < h.N → same h h1 b := fun b hb => (nc_same hb).tr (b4 b hb)
    obtain ⟨h2, hh2⟩ : ∃ h2, h2 = putR h1 x 8 (some h.N) := ⟨_, rfl⟩
    have s2 : ∀ b, b < h.N → b ≠ x → same h h2 b := fun b hb hb2 => (s1 b hb).tr (by rw [hh2]; exact pR_same hb2)
    have sx := s1 x (by omega)
    have R2 : ∀ k, h2.R x k = if k = 8 then some h.N else h.R x k := fun k => by rw [hh2, pR_R, if_pos rfl, sx.2.2.2.2]
    have C2 : CW h2 x v g S hr cn c tp tl fk fp := by
      obtain ⟨a1, a2, a3, a4, a5, a6, a7, a8, a9, a10⟩ := q1
      refine ⟨sg, dr, jg, some h.N, ⟨by rw [hh2]; show h1.K x = 6; rw [sx.1]; exact a1, by rw [R2, if_neg (by decide)]; exact a2, by rw [R2, if_neg (by decide)]; exact a3, by rw [R2, if_neg (by decide)]; exact a4, by rw [R2, if_neg (by decide)]; exact a5, by rw [hh2]; show h1.J x 4 = S; rw [sx.2.2.2.1]; exact a6, by rw [hh2]; show h1.I x 5 = _; rw [sx.2.2.1]; exact a7, by rw [hh2]; show h1.I x 6 = _; rw [sx.2.2.1]; exact a8, by rw [R2, if_neg (by decide)]; exact a9, by rw [R2, if_pos rfl]⟩, q2.fr (fun b p1 p2 => s2 b (by omega) (by omega)), by rw [(s2 (x + 1) (by omega) (by omega)).2.2.1]; exact q3, q4.fr (s2 _ (by omega) (by omega)) (s2 _ (by omega) (by omega)), q5.fr (fun b p1 p2 => s2 b (by omega) (by omega)), q6.fr (by rw [hh2]; show h.N ≤ h1.N; omega) (fun j hj b p1 p2 => s2 b ?_ ?_), ?_, ?_, by rw [hh2]; show x + 40 ≤ h1.N; omega⟩
      · have := (q6 j hj).2.1; omega
      · have := (q6 j hj).1; omega
      · intro s hs'
        obtain rfl : h.N = s := Option.some.inj hs'
        refine ⟨q9, by rw [hh2]; show h.N + 6 ≤ h1.N; omega, b2.fr (fun b p1 p2 => by rw [hh2]; exact pR_same (by omega)), Or.inl ?_⟩
        rw [hh2]
        show h1.I h.N 6 = 0
        rw [b5, Ib]
      · intro j s hj hs'
        obtain rfl : h.N = s := Option.some.inj hs'
        have := (q6 j hj).2.1; omega
    obtain ⟨h3, a1, a2, a3, a4⟩ := c_blind52 (s := h.N) hf hf2 hv C2 hR (by rw [R2, if_pos rfl])
    have u : ∀ z w : Int32, f_X6_blind_34 fu x z w h = f_X6_blind_52 fu x z w h2 := fun z w => by
      unfold f_X6_blind_34
      rw [gQ_e k1, Option.bind_some, hs]
      show (f_X5_init fu h.N (newC h 5 0)).bind _ = _
      rw [b1, Option.bind_some]
      dsimp only
      rw [pR_e (by rw [sx.1]; exact k1), Option.bind_some, ← hh2]
    exact ⟨h3, a1, fun b p1 p2 => (s2 b (by omega) (by omega)).tr (a2 b p1 p2), fun w => (u _ _).trans (a3 w), fun i hi => (u _ _).trans (a4 i hi)⟩
end BLIND
