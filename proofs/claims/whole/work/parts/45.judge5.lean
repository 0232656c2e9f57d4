section JUDGE5
variable {fu : Nat}
def FX2 : Nat → Nat × Nat × Nat
  | 0 => (0, 8, 384)
  | _ => (1, 8, 384)
theorem init2 {h : Hp} {o : Nat} (hK : h.K o = 2) (hN : h.N = o + 1) : ∃ h1, f_X2_init fu o h = some ((), h1) ∧ OutS h1 o ∧ h1.N = o + 3 ∧ Bf o h h1 := by
  have q0 : Al h o 2 0 FX2 := ⟨hK, hN, fun i hi => by omega⟩
  obtain ⟨h1, a1, a2, a3, a4, a5, -⟩ := q0.st (show FX2 0 = (0, 8, 384) from rfl) (by decide)
  obtain ⟨h2, b1, b2, b3, b4, b5, -⟩ := a2.st (show FX2 1 = (1, 8, 384) from rfl) (by decide)
  refine ⟨h2, ?_, ⟨b2.1, b2.2.2 0 (by decide), b2.2.2 1 (by decide)⟩, by rw [b2.2.1], ?_⟩
  · unfold f_X2_init
    rw [if_pos hK, a1, Option.bind_some, b1, Option.bind_some]
  · intro b hb
    have n1 := a2.2.1
    exact (a3 b (by omega) (by omega)).tr (b3 b (by omega) (by omega))
/-- a row is put into the judge's field k -/
theorem init1s {h : Hp} {j k : Nat} (hK : h.K j = 1) (hj : j < h.N) : ∃ h1, f_X2_init fu h.N (newC h 2 0) = some ((), h1) ∧ pR h1 1 j k (some h.N) = some (putR h1 j k (some h.N)) ∧ OutS h1 h.N ∧ h1.N = h.N + 3 ∧ ∀ b, b < h.N → same h h1 b := by
  have Kb : (newC h 2 0).K h.N = 2 := by rw [nc_K, if_pos rfl]
  obtain ⟨h1, b1, b2, b3, b4⟩ := init2 (fu := fu) Kb (show h.N + 1 = _ from rfl)
  have s : ∀ b, b < h.N → same h h1 b := fun b hb => (nc_same hb).tr (b4 b hb)
  exact ⟨h1, b1, pR_e (by rw [(s j hj).1]; exact hK), b2, b3, s⟩
theorem init1 {h : Hp} {j : Nat} (hK : h.K j = 1) (hN : h.N = j + 1) : ∃ h1, f_X1_init fu j h = some ((), h1) ∧ JudgeS h1 j ∧ h1.N = j + 12 ∧ Bf j h h1 ∧ h1.I j = h.I j := by
  obtain ⟨ha, a1, a2, a3, a4, a5⟩ := init1s (fu := fu) (k := 2) hK (by omega)
  have Na : (putR ha j 2 (some h.N)).N = j + 4 := by show ha.N = _; omega
  have Ka : (putR ha j 2 (some h.N)).K j = 1 := by show ha.K j = 1; rw [(a5 j (by omega)).1]; exact hK
  obtain ⟨hb, b1, b2, b3, b4, b5⟩ := init1s (fu := fu) (k := 3) Ka (by omega)
  have Nb : (putR hb j 3 (some (putR ha j 2 (some h.N)).N)).N = j + 7 := by show hb.N = _; omega
  have Kb : (putR hb j 3 (some (putR ha j 2 (some h.N)).N)).K j = 1 := by show hb.K j = 1; rw [(b5 j (by omega)).1]; exact Ka
  obtain ⟨hc, c1, c2, c3, c4, c5⟩ := init1s (fu := fu) (k := 4) Kb (by omega)
  obtain ⟨hd, hhd⟩ : ∃ hd, hd = putR hc j 4 (some (putR hb j 3 (some (putR ha j 2 (some h.N)).N)).N) := ⟨_, rfl⟩
  have Nd : hd.N = j + 10 := by rw [hhd]; show hc.N = _; omega
  have Kd : hd.K j = 1 := by rw [hhd]; show hc.K j = 1; rw [(c5 j (by omega)).1]; exact Kb
  have Rd2 : hd.R j 2 = some (j + 1) := by rw [hhd, pR_R, if_pos rfl, if_neg (by decide), (c5 j (by omega)).2.2.2.2, pR_R, if_pos rfl, if_neg (by decide), (b5 j (by omega)).2.2.2.2, pR_R, if_pos rfl, if_pos rfl, hN]
  have Rd3 : hd.R j 3 = some (j + 4) := by rw [hhd, pR_R, if_pos rfl, if_neg (by decide), (c5 j (by omega)).2.2.2.2, pR_R, if_pos rfl, if_pos rfl, Na]
  have Rd4 : hd.R j 4 = some (j + 7) := by rw [hhd, pR_R, if_pos rfl, if_pos rfl, Nb]
  rw [hN] at a3
  rw [Na] at b3
  rw [Nb] at c3
  have O1 : OutS hd (j + 1) := by
    refine OutS.fr (fun b p1 p2 => ?_) a3
    have z : b ≠ j := by omega
    exact (((show same ha (putR ha j 2 (some h.N)) b from pR_same z).tr (b5 b (by omega))).tr ((show same hb _ b from pR_same z).tr (c5 b (by omega)))).tr (by rw [hhd]; exact pR_same z)
  have O2 : OutS hd (j + 4) := by
    refine OutS.fr (fun b p1 p2 => ?_) b3
    have z : b ≠ j := by omega
    exact ((show same hb (putR hb j 3 (some (putR ha j 2 (some h.N)).N)) b from pR_same z).tr (c5 b (by omega))).tr (by rw [hhd]; exact pR_same z)
  have O3 : OutS hd (j + 7) := by
    refine OutS.fr (fun b p1 p2 => ?_) c3
    have z : b ≠ j := by omega
    rw [hhd]; exact pR_same z
  have zj : ¬ j = hd.N := by omega
  obtain ⟨he, hhe⟩ : ∃ he, he = putR (newC hd 8 576) j 5 (some hd.N) := ⟨_, rfl⟩
  have Ke : he.K j = 1 := by rw [hhe]; show (newC hd 8 576).K j = 1; rw [nc_K, if_neg zj]; exact Kd
  have Ne : he.N = j + 11 := by rw [hhe]; show hd.N + 1 = _; omega
  have se : ∀ b, b < hd.N → b ≠ j → same hd he b := fun b p1 p2 => by rw [hhe]; exact (nc_same p1).tr (pR_same p2)
  have zj2 : ¬ j = he.N := by omega
  obtain ⟨hf, hhf⟩ : ∃ hf, hf = putR (newC he 9 6) j 6 (some he.N) := ⟨_, rfl⟩
  have Kf : hf.K j = 1 := by rw [hhf]; show (newC he 9 6).K j = 1; rw [nc_K, if_neg zj2]; exact Ke
  have Nf : hf.N = j + 12 := by rw [hhf]; show he.N + 1 = _; omega
  have sf : ∀ b, b < he.N → b ≠ j → same he hf b := fun b p1 p2 => by rw [hhf]; exact (nc_same p1).tr (pR_same p2)
  have Re : ∀ k, he.R j k = if k = 5 then some (j + 10) else hd.R j k := fun k => by rw [hhe, pR_R, if_pos rfl, nc_R, if_neg zj, Nd]
  have Rf : ∀ k, hf.R j k = if k = 6 then some (j + 11) else he.R j k := fun k => by rw [hhf, pR_R, if_pos rfl, nc_R, if_neg zj2, Ne]
  refine ⟨hf, ?_, ⟨Kf, O1.fr (fun b p1 p2 => (se b (by omega) (by omega)).tr (sf b (by omega) (by omega))), O2.fr (fun b p1 p2 => (se b (by omega) (by omega)).tr (sf b (by omega) (by omega))), O3.fr (fun b p1 p2 => (se b (by omega) (by omega)).tr (sf b (by omega) (by omega))), ⟨?_, ?_, ?_⟩, ⟨?_, ?_, ?_⟩, j + 1, j + 4, j + 7, ?_, ?_, ?_, Or.inl rfl, Or.inr (Or.inl rfl), Or.inr (Or.inr rfl), by omega, by omega, by omega⟩, Nf, ?_, ?_⟩
  · unfold f_X1_init
    rw [if_pos hK, a1, Option.bind_some]
    dsimp only
    rw [a2, Option.bind_some, b1, Option.bind_some]
    dsimp only
    rw [b2, Option.bind_some, c1, Option.bind_some]
    dsimp only
    rw [c2, Option.bind_some, ← hhd, pR_e (by rw [nc_K, if_neg zj]; exact Kd), Option.bind_some, ← hhe, pR_e (by rw [nc_K, if_neg zj2]; exact Ke), Option.bind_some, ← hhf]
  · rw [Rf, if_neg (by decide), Re, if_pos rfl]
  · rw [(sf (j + 10) (by omega) (by omega)).1, hhe]; show (newC hd 8 576).K (j + 10) = 8; rw [nc_K, if_pos (by omega)]
  · rw [(sf (j + 10) (by omega) (by omega)).2.1, hhe]; show (newC hd 8 576).L (j + 10) = 576; rw [nc_L, if_pos (by omega)]
  · rw [Rf, if_pos rfl]
  · rw [hhf]; show (newC he 9 6).K (j + 11) = 9; rw [nc_K, if_pos (by omega)]
  · rw [hhf]; show (newC he 9 6).L (j + 11) = 6; rw [nc_L, if_pos (by omega)]
  · rw [Rf, if_neg (by decide), Re, if_neg (by decide)]; exact Rd2
  · rw [Rf, if_neg (by decide), Re, if_neg (by decide)]; exact Rd3
  · rw [Rf, if_neg (by decide), Re, if_neg (by decide)]; exact Rd4
  · intro b hbj
    have z : b ≠ j := by omega
    refine (((((a5 b (by omega)).tr ((show same ha (putR ha j 2 (some h.N)) b from pR_same z).tr (b5 b (by omega)))).tr ((show same hb _ b from pR_same z).tr (c5 b (by omega)))).tr ?_).tr (se b (by omega) z)).tr (sf b (by omega) z)
    rw [hhd]; exact pR_same z
  · rw [hhf]
    show (newC he 9 6).I j = _
    rw [nc_I, if_neg zj2, hhe]
    show (newC hd 8 576).I j = _
    rw [nc_I, if_neg zj, hhd]
    show hc.I j = _
    rw [(c5 j (by omega)).2.2.1]
    show hb.I j = _
    rw [(b5 j (by omega)).2.2.1]
    show ha.I j = _
    rw [(a5 j (by omega)).2.2.1]
/-- the class's side when only the judge's cells change -/
theorem CW.jd {h h1 : Hp} {x v j : Nat} {g : Sg} {S : Int64} {hr : Nat} {cn : Int32} {c : Cg} {tp : Nat → Nat} {tl : Nat} {fk fp : Int32} (q : CW h x v g S hr cn c tp tl fk fp) (hj : h.R x 7 = some j) (hN : h1.N = h.N) (e : ∀ b, b < j ∨ j + 12 ≤ b → same h h1 b) (js : JudgeS h1 j) (jt : h1.I j 0 = 0 ∨ ∃ jv, jv ≤ v ∧ h1.I j 1 = nI jv ∧ (jv = v → JudgeT h1 j g c)) : CW h1 x v g S hr cn c tp tl fk fp := by
  obtain ⟨sg, dr, jg, sc, q1, q2, q3, q4, q5, q6, q7, q8, q9⟩ := q
  have ej : jg = some j := by rw [← q1.2.2.2.2.2.2.2.2.1]; exact hj
  obtain ⟨j1, j2, -⟩ := q6 j ej
  refine ⟨sg, dr, jg, sc, q1.fr (e x (by omega)), q2.fr (fun b p1 p2 => e b (by omega)), ?_, q4.fr (e _ (by omega)) (e _ (by omega)), q5.fr (fun b p1 p2 => e b (by omega)), ?_, q7.fr (by omega) (fun s hs b p1 p2 => e b ?_), q8, by omega⟩
  · rw [(e (x + 1) (by omega)).2.2.1]; exact q3
  · intro j' hj'
    obtain rfl : j = j' := by rw [ej] at hj'; exact Option.some.inj hj'
    exact ⟨j1, by omega, js, jt⟩
  · have := q8 j s ej hs; omega
theorem c_hear {h : Hp} {x v j : Nat} {g : Sg} {S : Int64} {hr : Nat} {cn : Int32} {c : Cg} {tp : Nat → Nat} {tl : Nat} {fk fp : Int32} (hf : 20000 < fu) (hv : v < 100000) (hC : CW h x v g S hr cn c tp tl fk fp) (hj : h.R x 7 = some j) : ∃ h1, f_X6_judgeOfNow_18 fu x h = some (j, h1) ∧ CW h1 x v g S hr cn c tp tl fk fp ∧ JudgeS h1 j ∧ JudgeT h1 j g c ∧ (∀ b, x + 20 ≤ b → b < x + 40 → same h h1 b) := by
  obtain ⟨k1, k2, k3, k4, k5, k6, k7, k8, k9⟩ := cw_get hC
  obtain ⟨sg, dr, jg, sc, q1, q2, q3, q4, ⟨q5, cs, cs2, cv, ok⟩, q6, q7, q8, q9⟩ := id hC
  have ej : jg = some j := by rw [← q1.2.2.2.2.2.2.2.2.1]; exact hj
  have hsg := q1.2.2.2.1
  obtain ⟨j1, j2, js, jt⟩ := q6 j ej
  have K1 := js.1
  have unf : f_X6_judgeOfNow_18 fu x h = (f_X1_hear fu j (x + 1) sg h).bind fun r30 => (gR r30.2 6 x 7).bind fun v34 => some (v34, r30.2) := by
    unfold f_X6_judgeOfNow_18
    rw [gR_e k1, hj, Option.bind_some, gR_e k1, k2, Option.bind_some, gR_e k1, hsg, Option.bind_some]
  have go : f_X1_hear fu j (x + 1) sg h = f_X1_hear_19 fu j (x + 1) sg h → ∃ h1, f_X6_judgeOfNow_18 fu x h = some (j, h1) ∧ CW h1 x v g S hr cn c tp tl fk fp ∧ JudgeS h1 j ∧ JudgeT h1 j g c ∧ (∀ b, x + 20 ≤ b → b < x + 40 → same h h1 b) := by
    intro he
    obtain ⟨p, q, r, w⟩ := js.w
    obtain ⟨h1, a1, a2, a3, a4, a5, a6⟩ := c_hear19 (fu := fu) hf k7.2.2.2 ok (show x + 1 + 7 ≤ j by omega) (show sg + 5 ≤ j by omega) w k7 k8 cs cv
    refine ⟨h1, ?_, hC.jd hj a5 a6 a2 (Or.inr ⟨v, Nat.le_refl _, a4, fun _ => a3⟩), a2, a3, fun b p1 p2 => a6 b (by omega)⟩
    rw [unf, he, a1, Option.bind_some]
    dsimp only
    rw [gR_e (by rw [(a6 x (by omega)).1]; exact k1), (a6 x (by omega)).2.2.2.2, hj, Option.bind_some]
  by_cases z0 : h.I j 0 = 0
  · apply go
    unfold f_X1_hear
    rw [if_pos K1, gI_e K1, Option.bind_some, if_pos z0]
  · obtain ⟨jv, b1, b2, b3⟩ := jt.resolve_left z0
    by_cases ev : jv = v
    · refine ⟨h, ?_, hC, js, b3 ev, fun _ _ _ => same.rf⟩
      rw [unf]
      unfold f_X1_hear
      rw [if_pos K1, gI_e K1, Option.bind_some, if_neg z0, gI_e K1, Option.bind_some, gI_e k7.1.1, Option.bind_some, b2, k8, ev, if_pos rfl, Option.bind_some]
      dsimp only
      rw [gR_e k1, hj, Option.bind_some]
    · apply go
      unfold f_X1_hear
      rw [if_pos K1, gI_e K1, Option.bind_some, if_neg z0, gI_e K1, Option.bind_some, gI_e k7.1.1, Option.bind_some, b2, k8, if_neg (fun z => ev ((nI_eq (by omega) (by omega)).mp z))]
theorem c_judge {h : Hp} {x v : Nat} {g : Sg} {S : Int64} {hr : Nat} {cn : Int32} {c : Cg} {tp : Nat → Nat} {tl : Nat} {fk fp : Int32} (hf : 20000 < fu) (hv : v < 100000) (hC : CW h x v g S hr cn c tp tl fk fp) : ∃ h1 j, f_X6_judgeOfNow fu x h = some (j, h1) ∧ CW h1 x v g S hr cn c tp tl fk fp ∧ JudgeS h1 j ∧ JudgeT h1 j g c ∧ (∀ b, x + 20 ≤ b → b < x + 40 → same h h1 b) := by
  obtain ⟨k1, -⟩ := cw_get hC
  cases hj : h.R x 7 with
  | some j =>
    obtain ⟨h1, a1, a2, a3, a4, a5⟩ := c_hear hf hv hC hj
    refine ⟨h1, j, ?_, a2, a3, a4, a5⟩
    unfold f_X6_judgeOfNow
    rw [if_pos k1, gQ_e k1, Option.bind_some, hj]
    exact a1
  | none =>
    obtain ⟨sg, dr, jg, sc, q1, q2, q3, q4, q5, q6, q7, q8, q9⟩ := id hC
    have Kb : (newC h 1 0).K h.N = 1 := by rw [nc_K, if_pos rfl]
    have Ib : (newC h 1 0).I h.N = fun _ => 0 := by rw [nc_I, if_pos rfl]
    obtain ⟨h1, b1, b2, b3, b4, b5⟩ := init1 (fu := fu) Kb (show h.N + 1 = _ from rfl)
    have s1 : ∀ b, b < h.N → same h h1 b := fun b hb => (nc_same hb).tr (b4 b hb)
    obtain ⟨h2, hh2⟩ : ∃ h2, h2 = putR h1 x 7 (some h.N) := ⟨_, rfl⟩
    have s2 : ∀ b, b < h.N → b ≠ x → same h h2 b := fun b hb hb2 => (s1 b hb).tr (by rw [hh2]; exact pR_same hb2)
    have sx := s1 x (by omega)
    have R2 : ∀ k, h2.R x k = if k = 7 then some h.N else h.R x k := fun k => by rw [hh2, pR_R, if_pos rfl, sx.2.2.2.2]
    have C2 : CW h2 x v g S hr cn c tp tl fk fp := by
      obtain ⟨a1, a2, a3, a4, a5, a6, a7, a8, a9, a10⟩ := q1
      refine ⟨sg, dr, some h.N, sc, ⟨by rw [hh2]; show h1.K x = 6; rw [sx.1]; exact a1, by rw [R2, if_neg (by decide)]; exact a2, by rw [R2, if_neg (by decide)]; exact a3, by rw [R2, if_neg (by decide)]; exact a4, by rw [R2, if_neg (by decide)]; exact a5, by rw [hh2]; show h1.J x 4 = S; rw [sx.2.2.2.1]; exact a6, by rw [hh2]; show h1.I x 5 = _; rw [sx.2.2.1]; exact a7, by rw [hh2]; show h1.I x 6 = _; rw [sx.2.2.1]; exact a8, by rw [R2, if_pos rfl], by rw [R2, if_neg (by decide)]; exact a10⟩, q2.fr (fun b p1 p2 => s2 b (by omega) (by omega)), by rw [(s2 (x + 1) (by omega) (by omega)).2.2.1]; exact q3, q4.fr (s2 _ (by omega) (by omega)) (s2 _ (by omega) (by omega)), q5.fr (fun b p1 p2 => s2 b (by omega) (by omega)), ?_, q7.fr (by rw [hh2]; show h.N ≤ h1.N; omega) (fun s hs b p1 p2 => s2 b ?_ ?_), ?_, by rw [hh2]; show x + 40 ≤ h1.N; omega⟩
      · intro j hj'
        obtain rfl : h.N = j := Option.some.inj hj'
        refine ⟨q9, by rw [hh2]; show h.N + 12 ≤ h1.N; omega, b2.fr (fun b p1 p2 => by rw [hh2]; exact pR_same (by omega)), Or.inl ?_⟩
        rw [hh2]
        show h1.I h.N 0 = 0
        rw [b5, Ib]
      · have := (q7 s hs).2.1; omega
      · have := (q7 s hs).1; omega
      · intro j s hj' hs
        obtain rfl : h.N = j := Option.some.inj hj'
        have := (q7 s hs).2.1; omega
    obtain ⟨h3, a1, a2, a3, a4, a5⟩ := c_hear (j := h.N) hf hv C2 (by rw [R2, if_pos rfl])
    refine ⟨h3, h.N, ?_, a2, a3, a4, fun b p1 p2 => (s2 b (by omega) (by omega)).tr (a5 b p1 p2)⟩
    unfold f_X6_judgeOfNow
    rw [if_pos k1, gQ_e k1, Option.bind_some, hj]
    show (f_X1_init fu h.N (newC h 1 0)).bind _ = _
    rw [b1, Option.bind_some]
    dsimp only
    rw [pR_e (by rw [sx.1]; exact k1), Option.bind_some, ← hh2]
    exact a1
end JUDGE5
