def cg0 : Cg := ⟨0, fun _ => 0, fun _ => 0, fun _ => 0, fun _ => 0⟩
section INTO
variable {x fu dr : Nat} {tp : Nat → Nat} {tl : Nat}
theorem c_57 {h : Hp} {fk fp : Int32} (r : ReaderP h x tp tl fk fp) : f_X3_readInto_57 fu (x + 8) h = some (if fk = 0 then 1 else 0, h) := by
  unfold f_X3_readInto_57
  rw [gI_e r.1, Option.bind_some, r.2.2.2.1]
  split <;> rfl
theorem c_into (hb : ∀ j, j < tl → tp j < 256) (hf : 20000 < fu) (hd : x + 10 ≤ dr) : ∀ (k p n : Nat) (c : Cg) (h : Hp), c.n + k = 13 → c.n ≤ 12 → k < n → p ≤ tl → TkC h x tp tl 0 (-1) p → CD h dr c → ∃ h1, f_X3_readInto_26 fu n (x + 8) dr (nI c.n) h = some (if (pX tp tl k p c).1 = 0 then 1 else 0, h1) ∧ Ed (PE x dr) h h1 ∧ ChantS h1 dr ∧ ((pX tp tl k p c).1 = 0 → ReaderP h1 x tp tl 0 (-1) ∧ ChantV h1 dr (pX tp tl k p c).2.2) ∧ ((pX tp tl k p c).1 ≠ 0 → ReaderP h1 x tp tl (nI (pX tp tl k p c).1) (nI (pX tp tl k p c).2.1)) := by
  intro k
  induction k with
  | zero => intro p n c h h1 h2; omega
  | succ k ih =>
    intro p n c h hk hc hn hp q d
    obtain ⟨n, rfl⟩ := Nat.exists_eq_succ_of_ne_zero (show n ≠ 0 by omega)
    have l9 := tK_le (tp := tp) (tl := tl) p
    rw [f_X3_readInto_26, if_neg (l_ngt (b := 12) hc (by decide)), gI_e q.1.1.1, Option.bind_some, q.1.1.2.2.2.1, if_pos rfl, gI_e q.1.1.1, Option.bind_some, pX]
    by_cases z : tK tp tl p = 0
    · rw [if_pos (show h.I (x + 8) 5 = 0 from kd_y q z), if_pos z, c_57 q.1.1]
      exact ⟨h, rfl, Ed.rf, d.1, fun _ => ⟨q.1.1, d.2⟩, fun y => absurd rfl y⟩
    · rw [if_neg (show ¬ h.I (x + 8) 5 = 0 from kd_n q (by decide) z), if_neg z]
      obtain ⟨h1, a1, a2, a3, a4⟩ := cl_line (fu := fu) hb hf hd hc hp q d
      rw [a1, Option.bind_some, nI_1]
      dsimp only
      by_cases f0 : (pL tp tl p c.n).fk = 0
      · rw [if_pos f0]
        have lk := pL_ok (tp := tp) (n := c.n) hp f0
        have nn := pL_n f0
        obtain ⟨b1, b2⟩ := a3 f0
        obtain ⟨h2, e1, e2, e3⟩ := ih (pL tp tl p c.n).pb n (c.app (pL tp tl p c.n)) h1 (show c.n + 1 + k = 13 by omega) (show c.n + 1 ≤ 12 by omega) (by omega) lk.2.2.2.2.2 b1 b2
        exact ⟨h2, e1, Ed.tr a2 e2, e3⟩
      · rw [if_neg f0]
        have fl := a4 f0
        obtain ⟨n, rfl⟩ := Nat.exists_eq_succ_of_ne_zero (show n ≠ 0 by omega)
        have e : f_X3_readInto_26 fu (n + 1) (x + 8) dr (nI (c.n + 1)) h1 = some (0, h1) := by
          rw [f_X3_readInto_26, gI_e fl.1.1, Option.bind_some, fl.1.2.2.2.1, if_neg (fl_ne fl.2), c_57 fl.1, if_neg (fl_ne fl.2), ite_self]
        have cs : ChantS h1 dr := by
          obtain ⟨s1, s2, s3, s4, s5⟩ := d.1
          exact ⟨by rw [a2.2.1]; exact s1, a2.arr s2, a2.arr s3, a2.arr s4, a2.arr s5⟩
        refine ⟨h1, ?_, a2, cs, fun y => absurd y f0, fun _ => fl.1⟩
        rw [e, if_neg f0]
theorem c_readInto (hb : ∀ j, j < tl → tp j < 256) (hf : 20000 < fu) (hd : x + 10 ≤ dr) {h : Hp} {fk fp : Int32} (r : ReaderP h x tp tl fk fp) (s : ChantS h dr) : ∃ h1, f_X3_readInto fu (x + 8) dr h = some (if (pX tp tl 13 0 cg0).1 = 0 then 1 else 0, h1) ∧ Ed (PE x dr) h h1 ∧ ChantS h1 dr ∧ ((pX tp tl 13 0 cg0).1 = 0 → ReaderP h1 x tp tl 0 (-1) ∧ ChantV h1 dr (pX tp tl 13 0 cg0).2.2) ∧ ((pX tp tl 13 0 cg0).1 ≠ 0 → ReaderP h1 x tp tl (nI (pX tp tl 13 0 cg0).1) (nI (pX tp tl 13 0 cg0).2.1)) := by
  obtain ⟨r1, r2, r3, r4, r5, r6, r7⟩ := r
  obtain ⟨s1, s2, s3, s4, s5⟩ := s
  obtain ⟨H, eH⟩ : ∃ H, H = putI (putI (putI (putI h dr 0 0) (x + 8) 1 0) (x + 8) 2 (-1)) (x + 8) 4 0 := ⟨_, rfl⟩
  have E : Ed (PE x dr) h H := by
    rw [eH]
    exact Ed.tr (Ed.tr (Ed.tr (Ed.pI (Or.inr (by omega))) (Ed.pI (Or.inl rfl))) (Ed.pI (Or.inl rfl))) (Ed.pI (Or.inl rfl))
  have i8 : ∀ k, H.I (x + 8) k = if k = 4 then 0 else if k = 2 then -1 else if k = 1 then 0 else h.I (x + 8) k := fun k => by
    rw [eH, w3, w3, w3, putI_I, if_neg (show ¬ x + 8 = dr by omega)]
  have q0 : RdW H x tp tl 0 (-1) 0 := by
    refine ⟨⟨by rw [E.2.1]; exact r1, E.arr r2, by rw [i8]; exact r3, by rw [i8]; rfl, by rw [i8]; rfl, fun j hj => ?_, r7⟩, by rw [i8]; rfl⟩
    rw [eH, putI_I, if_neg (by omega), putI_I, if_neg (by omega), putI_I, if_neg (by omega), putI_I, if_neg (by omega)]
    exact r6 j hj
  have d0 : CD H dr cg0 := by
    refine ⟨⟨by rw [E.2.1]; exact s1, E.arr s2, E.arr s3, E.arr s4, E.arr s5⟩, ?_, fun k hk => absurd hk (Nat.not_lt_zero k)⟩
    rw [eH, putI_I, if_neg (by omega), putI_I, if_neg (by omega), putI_I, if_neg (by omega), w3, if_pos rfl]; rfl
  obtain ⟨h1, a1, a2, a3⟩ := c_token (fu := fu) hb hf (Nat.zero_le _) q0
  obtain ⟨h2, b1, b2, b3⟩ := c_into (fu := fu) hb hf hd 13 0 fu cg0 h1 rfl (by decide) (by omega) (Nat.zero_le _) a2 (d0.ed hd a3)
  refine ⟨h2, ?_, Ed.tr E (Ed.tr (a3.mono (fun b hb => Or.inl hb)) b2), b3⟩
  unfold f_X3_readInto
  rw [if_pos r1, pI_e s1, Option.bind_some, pI_e (h := putI _ _ _ _) r1, Option.bind_some, pI_e (h := putI (putI _ _ _ _) _ _ _) r1, Option.bind_some, pI_e (h := putI (putI (putI _ _ _ _) _ _ _) _ _ _) r1, Option.bind_some, ← eH, a1, Option.bind_some]
  exact b1
end INTO
