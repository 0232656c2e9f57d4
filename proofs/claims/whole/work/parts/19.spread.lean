/-! SPREAD: the class's image of a set is the reference's -/
def rowP (h : Hp) (a r : Nat) (mid : Int64) : Hp := putJ (putJ (putJ (putJ (putJ h (a + 6) (5 * r) (oW (h.J a 14) (oW (h.J a 14) mid))) (a + 6) (5 * r + 1) (oW (h.J a 14) mid)) (a + 6) (5 * r + 2) mid) (a + 6) (5 * r + 3) (oE (h.J a 15) mid)) (a + 6) (5 * r + 4) (oE (h.J a 15) (oE (h.J a 15) mid))
def rv (v14 v15 mid : Int64) (k : Nat) : Int64 := match k with
  | 0 => oW v14 (oW v14 mid)
  | 1 => oW v14 mid
  | 2 => mid
  | 3 => oE v15 mid
  | _ => oE v15 (oE v15 mid)
section SPREAD
variable {h : Hp} {a fu : Nat} {g : Sg}
theorem rowP_in {r k : Nat} (hk : k < 5) {mid : Int64} : (rowP h a r mid).J (a + 6) (5 * r + k) = rv (h.J a 14) (h.J a 15) mid k := by
  unfold rowP
  rcases (show k = 0 ∨ k = 1 ∨ k = 2 ∨ k = 3 ∨ k = 4 by omega) with rfl | rfl | rfl | rfl | rfl <;> simp [putJ_J, rv]
theorem rowP_out {r j : Nat} {mid : Int64} (hj : j < 5 * r ∨ 5 * r + 5 ≤ j) : (rowP h a r mid).J (a + 6) j = h.J (a + 6) j := by
  unfold rowP
  simp only [putJ_J, if_true]
  rw [if_neg (by omega), if_neg (by omega), if_neg (by omega), if_neg (by omega), if_neg (by omega)]
theorem rowP_ne {r b j : Nat} {mid : Int64} (hb : b ≠ a + 6) : (rowP h a r mid).J b j = h.J b j := by
  unfold rowP
  simp only [putJ_J]
  rw [if_neg hb, if_neg hb, if_neg hb, if_neg hb, if_neg hb]
theorem s_spreadRow (hS : SeaS h a) {r : Nat} (hr : r < 5) {mid : Int64} : f_X4_spreadRow fu a (nI r) mid h = some ((), rowP h a r mid) := by
  have hK := hS.1
  obtain ⟨-, -, -, -, -, -, h19⟩ := id hS
  have e5 : (5 : Int32) * nI r = nI (5 * r) := pk_mul 5 r
  unfold f_X4_spreadRow rowP
  rw [if_pos hK, s_oneWest hS, Option.bind_some]
  dsimp only
  rw [s_oneEast hS, Option.bind_some]
  dsimp only
  rw [gR_e hK, h19.1, Option.bind_some, s_oneWest hS, Option.bind_some]
  dsimp only
  rw [e5, show nI (5 * r) + 1 = nI (5 * r + 1) from l_add _ _, show nI (5 * r) + 2 = nI (5 * r + 2) from l_add _ _, show nI (5 * r) + 3 = nI (5 * r + 3) from l_add _ _, show nI (5 * r) + 4 = nI (5 * r + 4) from l_add _ _]
  obtain ⟨k1, ek1⟩ : ∃ k, k = putJ h (a + 6) (5 * r) (oW (h.J a 14) (oW (h.J a 14) mid)) := ⟨_, rfl⟩
  obtain ⟨k2, ek2⟩ : ∃ k, k = putJ k1 (a + 6) (5 * r + 1) (oW (h.J a 14) mid) := ⟨_, rfl⟩
  obtain ⟨k3, ek3⟩ : ∃ k, k = putJ k2 (a + 6) (5 * r + 2) mid := ⟨_, rfl⟩
  obtain ⟨k4, ek4⟩ : ∃ k, k = putJ k3 (a + 6) (5 * r + 3) (oE (h.J a 15) mid) := ⟨_, rfl⟩
  have K1 : k1.K = h.K ∧ k1.L = h.L ∧ k1.R = h.R := by rw [ek1]; exact ⟨rfl, rfl, rfl⟩
  have K2 : k2.K = h.K ∧ k2.L = h.L ∧ k2.R = h.R := by rw [ek2]; exact K1
  have K3 : k3.K = h.K ∧ k3.L = h.L ∧ k3.R = h.R := by rw [ek3]; exact K2
  have K4 : k4.K = h.K ∧ k4.L = h.L ∧ k4.R = h.R := by rw [ek4]; exact K3
  have S4 : SeaS k4 a := by
    have ear : ∀ {o k x kd n : Nat}, arr h o k x kd n → arr k4 o k x kd n := fun q => ⟨by rw [K4.2.2]; exact q.1, by rw [K4.1]; exact q.2.1, by rw [K4.2.1]; exact q.2.2⟩
    obtain ⟨s1, s2, s3, s4, s5, s6, s7⟩ := hS
    exact ⟨by rw [K4.1]; exact s1, ear s2, ear s3, ear s4, ear s5, ear s6, ear s7⟩
  have e15 : k4.J a 15 = h.J a 15 := by rw [ek4, ek3, ek2, ek1]; simp [putJ_J]
  rw [sJ_e h19.2.1 h19.2.2 (by omega) (by omega), Option.bind_some, ← ek1]
  rw [gR_e (h := k1) (by rw [K1.1]; exact hK), K1.2.2, h19.1, Option.bind_some, sJ_e (h := k1) (n := 25) (by rw [K1.1]; exact h19.2.1) (by rw [K1.2.1]; exact h19.2.2) (by omega) (by omega), Option.bind_some, ← ek2]
  rw [gR_e (h := k2) (by rw [K2.1]; exact hK), K2.2.2, h19.1, Option.bind_some, sJ_e (h := k2) (n := 25) (by rw [K2.1]; exact h19.2.1) (by rw [K2.2.1]; exact h19.2.2) (by omega) (by omega), Option.bind_some, ← ek3]
  rw [gR_e (h := k3) (by rw [K3.1]; exact hK), K3.2.2, h19.1, Option.bind_some, sJ_e (h := k3) (n := 25) (by rw [K3.1]; exact h19.2.1) (by rw [K3.2.1]; exact h19.2.2) (by omega) (by omega), Option.bind_some, ← ek4]
  rw [gR_e (h := k4) (by rw [K4.1]; exact hK), K4.2.2, h19.1, Option.bind_some, s_oneEast S4, Option.bind_some, e15]
  dsimp only
  rw [sJ_e (h := k4) (n := 25) (by rw [K4.1]; exact h19.2.1) (by rw [K4.2.1]; exact h19.2.2) (by omega) (by omega), Option.bind_some]
/-- what spread leaves: the rest, and the 25 shifts -/
def Es (a : Nat) (h h1 : Hp) : Prop := h1.N = h.N ∧ h1.K = h.K ∧ h1.L = h.L ∧ h1.R = h.R ∧ h1.I = h.I ∧ ∀ b j, ¬ b = a + 6 → ¬ (b = a ∧ j = 18) → h1.J b j = h.J b j
theorem Es.se {h1 : Hp} (e : Es a h h1) (hS : Se h a g) : Se h1 a g := by
  obtain ⟨eN, eK, eL, eR, eI, eJ⟩ := e
  have ear : ∀ {o k x kd n : Nat}, arr h o k x kd n → arr h1 o k x kd n := fun q => ⟨by rw [eR]; exact q.1, by rw [eK]; exact q.2.1, by rw [eL]; exact q.2.2⟩
  obtain ⟨⟨s1, s2, s3, s4, s5, s6, s7⟩, si, ⟨j1, j2, j3, j4, j5, j6, j7⟩, ok⟩ := hS
  have ej : ∀ j, j ≠ 18 → h1.J a j = h.J a j := fun j hj => eJ a j (by omega) (fun q => hj q.2)
  refine ⟨⟨by rw [eK]; exact s1, ear s2, ear s3, ear s4, ear s5, ear s6, ear s7⟩, by unfold SeaI; rw [eI]; exact si, ⟨?_, ?_, ?_, ?_, ?_, ?_, ?_⟩, ok⟩
  · rw [ej 4 (by omega)]; exact j1
  · rw [ej 5 (by omega)]; exact j2
  · rw [ej 13 (by omega)]; exact j3
  · rw [ej 14 (by omega)]; exact j4
  · rw [ej 15 (by omega)]; exact j5
  · rw [ej 16 (by omega)]; exact j6
  · rw [ej 17 (by omega)]; exact j7
theorem Es.rf : Es a h h := ⟨rfl, rfl, rfl, rfl, rfl, fun _ _ _ _ => rfl⟩
theorem Es.tr {h1 h2 : Hp} (x : Es a h h1) (y : Es a h1 h2) : Es a h h2 := ⟨y.1.trans x.1, y.2.1.trans x.2.1, y.2.2.1.trans x.2.2.1, y.2.2.2.1.trans x.2.2.2.1, y.2.2.2.2.1.trans x.2.2.2.2.1, fun b j p q => (y.2.2.2.2.2 b j p q).trans (x.2.2.2.2.2 b j p q)⟩
theorem Es.row {r : Nat} {mid : Int64} : Es a h (rowP h a r mid) := ⟨rfl, rfl, rfl, rfl, rfl, fun b j p _ => rowP_ne p⟩
/-- the cells of s that are afloat -/
def aflo (v s : Int64) : Int64 := s &&& (v ^^^ (-1))
/-- after spread: shift (r, k) is the image of what is afloat -/
def Spr (h : Hp) (a : Nat) (g : Sg) (s : Int64) : Prop := h.J a 18 = (s &&& h.J a 5) ∧ ∀ r k, r < 5 → k < 5 → isImg (h.J (a + 6) (5 * r + k)) (aflo (h.J a 5) s) g.n (fun c => gk g.w g.hh c r k)
theorem rv_img (hS : Se h a g) {s mid : Int64} {r : Nat} (hr : r < 5) (hm : isImg mid s g.n (fun c => gk g.w g.hh c r 2)) {k : Nat} (hk : k < 5) : isImg (rv (h.J a 14) (h.J a 15) mid k) s g.n (fun c => gk g.w g.hh c r k) := by
  have hg := hS.2.2.2
  have hn := hg.n64
  have hc : ∀ c, c < g.n → (fW g.w (gk g.w g.hh c r 2) = gk g.w g.hh c r 1 ∧ fW g.w (gk g.w g.hh c r 1) = gk g.w g.hh c r 0 ∧ fE g.w (gk g.w g.hh c r 2) = gk g.w g.hh c r 3 ∧ fE g.w (gk g.w g.hh c r 3) = gk g.w g.hh c r 4) ∧ ∀ k, k < 5 → gk g.w g.hh c r k < g.n := by
    intro c hc
    have := ck hg hc
    simp only [ckS, Bool.and_eq_true, List.all_eq_true, List.mem_range, decide_eq_true_eq, beq_iff_eq] at this
    have q := this.1.1.1.1.2 r hr
    exact ⟨⟨q.1.1.1.1, q.1.1.1.2, q.1.1.2, q.1.2⟩, q.2⟩
  have sm : subs mid g.n := hm.sub (fun c h => (hc c h).2 2 (by omega))
  have iw : isImg (oW (h.J a 14) mid) s g.n (fun c => gk g.w g.hh c r 1) := hm.comp hn (s_W hS sm) (fun c h => (hc c h).2 2 (by omega)) (fun c h => (hc c h).1.1)
  have ie : isImg (oE (h.J a 15) mid) s g.n (fun c => gk g.w g.hh c r 3) := hm.comp hn (s_E hS sm) (fun c h => (hc c h).2 2 (by omega)) (fun c h => (hc c h).1.2.2.1)
  rcases (show k = 0 ∨ k = 1 ∨ k = 2 ∨ k = 3 ∨ k = 4 by omega) with rfl | rfl | rfl | rfl | rfl
  · exact iw.comp hn (s_W hS (iw.sub (fun c h => (hc c h).2 1 (by omega)))) (fun c h => (hc c h).2 1 (by omega)) (fun c h => (hc c h).1.2.1)
  · exact iw
  · exact hm
  · exact ie
  · exact ie.comp hn (s_E hS (ie.sub (fun c h => (hc c h).2 3 (by omega)))) (fun c h => (hc c h).2 3 (by omega)) (fun c h => (hc c h).1.2.2.2)
theorem s_spread (hS : Se h a g) {s : Int64} (hs : subs s g.n) : ∃ h1, f_X4_spread fu a s h = some ((), h1) ∧ Es a h h1 ∧ Spr h1 a g s := by
  have hg := hS.2.2.2
  have hn := hg.n64
  have hK := hS.1.1
  have hw := hS.2.1.1
  obtain ⟨af, haf⟩ : ∃ af, af = s &&& (h.J a 5 ^^^ (-1)) := ⟨_, rfl⟩
  obtain ⟨h0, hh0⟩ : ∃ h0, h0 = putJ h a 18 (s &&& h.J a 5) := ⟨_, rfl⟩
  have E0 : Es a h h0 := by rw [hh0]; exact ⟨rfl, rfl, rfl, rfl, rfl, fun b j p q => by rw [putJ_J]; by_cases e : b = a <;> simp [e]; intro e2; exact absurd ⟨e, e2⟩ q⟩
  have S0 := E0.se hS
  have j5 : h0.J a 5 = h.J a 5 := E0.2.2.2.2.2 a 5 (by omega) (by omega)
  obtain ⟨m1, hm1⟩ : ∃ m1, m1 = oN (h0.J a 16) af g.w := ⟨_, rfl⟩
  obtain ⟨m3, hm3⟩ : ∃ m3, m3 = oS (h0.J a 17) af g.w := ⟨_, rfl⟩
  obtain ⟨m0, hm0⟩ : ∃ m0, m0 = oN (h0.J a 16) m1 g.w := ⟨_, rfl⟩
  obtain ⟨m4, hm4⟩ : ∃ m4, m4 = oS (h0.J a 17) m3 g.w := ⟨_, rfl⟩
  obtain ⟨h1, e1⟩ : ∃ h1, h1 = rowP h0 a 0 m0 := ⟨_, rfl⟩
  obtain ⟨h2, e2⟩ : ∃ h2, h2 = rowP h1 a 1 m1 := ⟨_, rfl⟩
  obtain ⟨h3, e3⟩ : ∃ h3, h3 = rowP h2 a 2 af := ⟨_, rfl⟩
  obtain ⟨h4, e4⟩ : ∃ h4, h4 = rowP h3 a 3 m3 := ⟨_, rfl⟩
  obtain ⟨h5, e5⟩ : ∃ h5, h5 = rowP h4 a 4 m4 := ⟨_, rfl⟩
  have E1 : Es a h0 h1 := by rw [e1]; exact Es.row
  have E2 : Es a h1 h2 := by rw [e2]; exact Es.row
  have E3 : Es a h2 h3 := by rw [e3]; exact Es.row
  have E4 : Es a h3 h4 := by rw [e4]; exact Es.row
  have E5 : Es a h4 h5 := by rw [e5]; exact Es.row
  have S1 := E1.se S0
  have S2 := E2.se S1
  have S3 := E3.se S2
  have S4 := E4.se S3
  have jj : ∀ j, j ≠ 18 → h1.J a j = h0.J a j ∧ h2.J a j = h0.J a j ∧ h3.J a j = h0.J a j ∧ h4.J a j = h0.J a j := by
    intro j hj
    have q1 := E1.2.2.2.2.2 a j (by omega) (fun q => hj q.2)
    have q2 := E2.2.2.2.2.2 a j (by omega) (fun q => hj q.2)
    have q3 := E3.2.2.2.2.2 a j (by omega) (fun q => hj q.2)
    have q4 := E4.2.2.2.2.2 a j (by omega) (fun q => hj q.2)
    exact ⟨q1, q2.trans q1, q3.trans (q2.trans q1), q4.trans (q3.trans (q2.trans q1))⟩
  refine ⟨h5, ?_, E0.tr (E1.tr (E2.tr (E3.tr (E4.tr E5)))), ?_, ?_⟩
  · unfold f_X4_spread
    rw [if_pos hK, gJ_e hK, Option.bind_some, Option.bind_some, pJ_e hK, Option.bind_some, ← hh0, ← haf, s_oneNorth S0.1 S0.2.1.1, Option.bind_some, ← hm1]
    dsimp only
    rw [s_oneSouth S0.1 S0.2.1.1, Option.bind_some, ← hm3]
    dsimp only
    rw [s_oneNorth S0.1 S0.2.1.1, Option.bind_some, ← hm0]
    dsimp only
    rw [show (0 : Int32) = nI 0 from rfl, s_spreadRow S0.1 (by omega), Option.bind_some, ← e1]
    dsimp only
    rw [show (1 : Int32) = nI 1 from rfl, s_spreadRow S1.1 (by omega), Option.bind_some, ← e2]
    dsimp only
    rw [show (2 : Int32) = nI 2 from rfl, s_spreadRow S2.1 (by omega), Option.bind_some, ← e3]
    dsimp only
    rw [show (3 : Int32) = nI 3 from rfl, s_spreadRow S3.1 (by omega), Option.bind_some, ← e4]
    dsimp only
    rw [s_oneSouth S4.1 S4.2.1.1, Option.bind_some, (jj 17 (by omega)).2.2.2, ← hm4]
    dsimp only
    rw [show (4 : Int32) = nI 4 from rfl, s_spreadRow S4.1 (by omega), Option.bind_some, ← e5]
  · have r5 : h5.J a 18 = h0.J a 18 := by
      rw [e5, rowP_ne (by omega), e4, rowP_ne (by omega), e3, rowP_ne (by omega), e2, rowP_ne (by omega), e1, rowP_ne (by omega)]
    have r6 : h5.J a 5 = h.J a 5 := ((E5.2.2.2.2.2 a 5 (by omega) (by omega)).trans (jj 5 (by omega)).2.2.2).trans j5
    rw [r5, r6, hh0, putJ_J]; simp
  · have r6 : h5.J a 5 = h.J a 5 := ((E5.2.2.2.2.2 a 5 (by omega) (by omega)).trans (jj 5 (by omega)).2.2.2).trans j5
    have saf : subs af g.n := by
      intro i hi; rw [haf, tb_and, Bool.and_eq_true] at hi; exact hs i hi.1
    have hcx : ∀ c, c < g.n → (gk g.w g.hh c 2 2 = c ∧ fN g.w (gk g.w g.hh c 2 2) = gk g.w g.hh c 1 2 ∧ fN g.w (gk g.w g.hh c 1 2) = gk g.w g.hh c 0 2 ∧ fS g.w g.hh (gk g.w g.hh c 2 2) = gk g.w g.hh c 3 2 ∧ fS g.w g.hh (gk g.w g.hh c 3 2) = gk g.w g.hh c 4 2) ∧ ∀ r, r < 5 → gk g.w g.hh c r 2 < g.n := by
      intro c hc
      have := ck hg hc
      simp only [ckS, Bool.and_eq_true, List.all_eq_true, List.mem_range, decide_eq_true_eq, beq_iff_eq] at this
      have q := this.1.1.1.1
      exact ⟨⟨q.1.1.1.1.1, q.1.1.1.1.2, q.1.1.1.2, q.1.1.2, q.1.2⟩, fun r hr => (q.2 r hr).2 2 (by omega)⟩
    have i2 : isImg af af g.n (fun c => gk g.w g.hh c 2 2) := isImg.id saf (fun c h => (hcx c h).1.1)
    have i1 : isImg m1 af g.n (fun c => gk g.w g.hh c 1 2) := by rw [hm1]; exact i2.comp hn (s_N S0 saf) (fun c h => (hcx c h).2 2 (by omega)) (fun c h => (hcx c h).1.2.1)
    have i3 : isImg m3 af g.n (fun c => gk g.w g.hh c 3 2) := by rw [hm3]; exact i2.comp hn (s_S S0 saf) (fun c h => (hcx c h).2 2 (by omega)) (fun c h => (hcx c h).1.2.2.2.1)
    have i0 : isImg m0 af g.n (fun c => gk g.w g.hh c 0 2) := by rw [hm0]; exact i1.comp hn (s_N S0 (i1.sub (fun c h => (hcx c h).2 1 (by omega)))) (fun c h => (hcx c h).2 1 (by omega)) (fun c h => (hcx c h).1.2.2.1)
    have i4 : isImg m4 af g.n (fun c => gk g.w g.hh c 4 2) := by rw [hm4]; exact i3.comp hn (s_S S0 (i3.sub (fun c h => (hcx c h).2 3 (by omega)))) (fun c h => (hcx c h).2 3 (by omega)) (fun c h => (hcx c h).1.2.2.2.2)
    have haf2 : aflo (h5.J a 5) s = af := by rw [r6, haf]; rfl
    intro r k hr hk
    rw [haf2]
    rcases (show r = 0 ∨ r = 1 ∨ r = 2 ∨ r = 3 ∨ r = 4 by omega) with rfl | rfl | rfl | rfl | rfl
    · have : h5.J (a + 6) (5 * 0 + k) = rv (h0.J a 14) (h0.J a 15) m0 k := by rw [e5, rowP_out (by omega), e4, rowP_out (by omega), e3, rowP_out (by omega), e2, rowP_out (by omega), e1, rowP_in hk]
      rw [this]; exact rv_img S0 (by omega) i0 hk
    · have : h5.J (a + 6) (5 * 1 + k) = rv (h1.J a 14) (h1.J a 15) m1 k := by rw [e5, rowP_out (by omega), e4, rowP_out (by omega), e3, rowP_out (by omega), e2, rowP_in hk]
      rw [this]; exact rv_img S1 (by omega) i1 hk
    · have : h5.J (a + 6) (5 * 2 + k) = rv (h2.J a 14) (h2.J a 15) af k := by rw [e5, rowP_out (by omega), e4, rowP_out (by omega), e3, rowP_in hk]
      rw [this]; exact rv_img S2 (by omega) i2 hk
    · have : h5.J (a + 6) (5 * 3 + k) = rv (h3.J a 14) (h3.J a 15) m3 k := by rw [e5, rowP_out (by omega), e4, rowP_in hk]
      rw [this]; exact rv_img S3 (by omega) i3 hk
    · have : h5.J (a + 6) (5 * 4 + k) = rv (h4.J a 14) (h4.J a 15) m4 k := by rw [e5, rowP_in hk]
      rw [this]; exact rv_img S4 (by omega) i4 hk
end SPREAD
