theorem one_ne : ¬ (1 : Int32) = 0 := by decide
section CALLS2
variable {h : Hp} {x v fu : Nat}
theorem cw_get {g : Sg} {S : Int64} {hr : Nat} {cn : Int32} {c : Cg} {tp : Nat → Nat} {tl : Nat} {fk fp : Int32} (q : CW h x v g S hr cn c tp tl fk fp) : h.K x = 6 ∧ h.R x 0 = some (x + 1) ∧ h.R x 1 = some (x + 8) ∧ h.J x 4 = S ∧ h.I x 5 = nI hr ∧ h.I x 6 = cn ∧ Se h (x + 1) g ∧ h.I (x + 1) 3 = nI v ∧ ReaderP h x tp tl fk fp := by
  obtain ⟨sg, dr, jg, sc, ⟨a1, a2, a3, a4, a5, a6, a7, a8, a9, a10⟩, q2, q3, q4, q5, q6, q7, q8, q9⟩ := q
  exact ⟨a1, a2, a3, a6, a7, a8, q2, q3, q4⟩
/-- the sea was changed by the class -/
theorem CW.sea {h1 : Hp} {g g' : Sg} {S : Int64} {hr : Nat} {cn : Int32} {c : Cg} {tp : Nat → Nat} {tl : Nat} {fk fp : Int32} (q : CW h x v g S hr cn c tp tl fk fp) (e : Ed (fun b => x + 1 ≤ b ∧ b ≤ x + 1 + 6) h h1) (hs : Se h1 (x + 1) g') (hv : h1.I (x + 1) 3 = h.I (x + 1) 3 + 1) : CW h1 x (v + 1) g' S hr cn c tp tl fk fp := by
  obtain ⟨k1, k2, k3, k4, k5, k6, k7, k8, k9⟩ := cw_get q
  have o := e.2.2.2.2 x (by omega)
  exact q.up (e.mono (fun b hb => by omega)) hs (by rw [hv, k8, nI_1]) (Or.inl (by omega)) (by rw [o.2]; exact k4) (by rw [o.1]; exact k5) (by rw [o.1]; exact k6)
theorem q_land (hW : Wd h x v) (hf : 20000 < fu) (a b : Int32) : Tok x v (f_X6_land fu x a b) (f_X7_land fu (x + 20) a b) h := by
  obtain ⟨g, S, hr, cn, c, tp, tl, fk, fp, hC, hM, hR⟩ := hW
  obtain ⟨k1, k2, k3, k4, k5, k6, k7, k8, k9⟩ := cw_get hC
  have hg := hR.1
  have h64 := hg.n64
  rcases cell_or hg a with hx | ⟨cell, hc, rfl⟩
  · refine glue0 (r := 0) hC hM hR ?_ ?_
    · unfold f_X6_land; rw [if_pos k1, gR_e k1, k2, Option.bind_some, s_hasCell_n k7 hx, Option.bind_some, if_pos rfl]
    · intro h1 q
      unfold f_X7_land; rw [if_pos q.1.K, pI_e q.1.K, Option.bind_some, m_isCell_n (h := putI _ _ _ _) q.t0.1 hx, Option.bind_some, if_pos rfl]; rfl
  · rcases reach_or b with hb | ⟨hb, hb2⟩ | ⟨l, hl, hbl, hb, hb2⟩
    · refine glue0 (r := 0) hC hM hR ?_ ?_
      · unfold f_X6_land; rw [if_pos k1, gR_e k1, k2, Option.bind_some, s_hasCell_y k7 hc, Option.bind_some, if_neg one_ne, if_pos hb]
      · intro h1 q
        unfold f_X7_land; rw [if_pos q.1.K, pI_e q.1.K, Option.bind_some, m_isCell_y (h := putI _ _ _ _) q.t0.1 hc, Option.bind_some, if_neg one_ne, if_pos hb]; rfl
    · refine glue0 (r := 0) hC hM hR ?_ ?_
      · unfold f_X6_land; rw [if_pos k1, gR_e k1, k2, Option.bind_some, s_hasCell_y k7 hc, Option.bind_some, if_neg one_ne, if_neg hb, if_neg hb2]
      · intro h1 q
        unfold f_X7_land; rw [if_pos q.1.K, pI_e q.1.K, Option.bind_some, m_isCell_y (h := putI _ _ _ _) q.t0.1 hc, Option.bind_some, if_neg one_ne, if_neg hb, if_neg hb2]; rfl
    · refine glue (v' := v + 1) (r := 1) (g' := g.setL cell l) (S' := S) (hr' := hr) (cn' := cn) (c' := c) (tp' := tp) (tl' := tl) (fk' := fk) (fp' := fp) hM ?_ ?_ ?_ (by omega)
      · obtain ⟨h1, a1, a2, a3, a4⟩ := s_setReach (fu := fu) k7 (by omega) hc hl
        have a3' : Ed (fun b => x + 1 ≤ b ∧ b ≤ x + 1 + 6) h h1 := a3.mono (fun b hb => by omega)
        refine ⟨h1, ?_, hC.sea a3' a2 a4, ed_out a3' (fun b hb => by omega)⟩
        unfold f_X6_land; rw [if_pos k1, gR_e k1, k2, Option.bind_some, s_hasCell_y k7 hc, Option.bind_some, if_neg one_ne, if_neg hb, if_pos hb2]
        dsimp only
        rw [gR_e k1, k2, Option.bind_some, hbl, a1, Option.bind_some]
      · intro h1 q
        have qt := q.t0
        have m8 := qt.1.1.2.1
        have e : Ed (fun b => x + 20 ≤ b ∧ b ≤ x + 20 + 3) (t0 h1 (x + 20)) (putI (t0 h1 (x + 20)) (x + 20 + 1) cell (nI l)) := Ed.pI (by omega)
        have e' : Ed (fun b => x + 20 ≤ b ∧ b ≤ x + 20 + 3) h1 (putI (t0 h1 (x + 20)) (x + 20 + 1) cell (nI l)) := Ed.tr ((t0_E h1 (x + 20)).mono (fun b hb => by omega)) e
        have om : ∀ k, (putI (t0 h1 (x + 20)) (x + 20 + 1) cell (nI l)).I (x + 20) k = (t0 h1 (x + 20)).I (x + 20) k := fun k => by rw [putI_I, if_neg (by omega)]
        refine ⟨putI (t0 h1 (x + 20)) (x + 20 + 1) cell (nI l), ?_, qt.sea e ?_ (hg.setL hc hl) (fun k _ => om k) qt.2.2.1 (by rw [om]; exact qt.2.2.2.1) (by rw [om]; exact qt.2.2.2.2.1), rfl, ed_inn e' (fun b hb => by omega)⟩
        · unfold f_X7_land; rw [if_pos q.1.K, pI_e q.1.K, Option.bind_some, m_isCell_y (h := putI _ _ _ _) q.t0.1 hc, Option.bind_some, if_neg one_ne, if_neg hb, if_pos hb2]
          dsimp only
          rw [gR_e (h := putI _ _ _ _) q.1.K]
          rw [show (putI h1 (x + 20) 0 0).R (x + 20) 8 = some (x + 20 + 1) from m8.1, Option.bind_some, sI_e (h := putI _ _ _ _) m8.2.1 m8.2.2 (by omega) (by omega), Option.bind_some, hbl, nI_s1]
          rfl
        · obtain ⟨v1, v2, v3, v4, v5, v6, v7⟩ := qt.1.2.1
          refine ⟨by rw [om]; exact v1, by rw [om]; exact v2, by rw [om]; exact v3, by rw [om]; exact v4, ?_, ?_, ?_⟩
          · intro k hk
            rw [putI_I, if_pos rfl, ld_setL]
            by_cases e : k = cell
            · rw [if_pos e, if_pos e]
            · rw [if_neg e, if_neg e]; exact v5 k hk
          · intro k hk; rw [putI_I, if_neg (by omega)]; exact v6 k hk
          · intro k hk; rw [putI_I, if_neg (by omega)]; exact v7 k hk
      · obtain ⟨r1, r2, r3, r4, r5, r6, r7⟩ := hR
        exact ⟨hg.setL hc hl, r2, r3, r4, r5, r6, r7⟩
end CALLS2
