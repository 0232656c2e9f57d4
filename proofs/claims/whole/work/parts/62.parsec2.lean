def c193 (fu x0 x1 : Nat) (x2 x3 x4 x5 : Int32) (h : Hp) : Option (Unit × Hp) := (gI h 3 x0 1).bind fun v197 => if v197 = 0 then (f_X0_add fu x1 x2 x3 x4 x5 h).bind fun r210 => some ((), r210.2) else some ((), h)
def c176 (fu x0 x1 : Nat) (x2 x3 x4 x5 : Int32) (h : Hp) : Option (Unit × Hp) := (gI h 3 x0 5).bind fun v181 => if v181 = 3 then f_X3_readLine_193 fu x0 x1 x2 x3 x4 x5 x0 1 h else f_X3_readLine_193 fu x0 x1 x2 x3 x4 x5 x0 0 h
def c150 (fu x0 x1 : Nat) (x2 x3 x4 : Int32) (h : Hp) : Option (Unit × Hp) := (f_X3_numberWithin fu x0 1 20 h).bind fun r157 => (gI r157.2 3 x0 5).bind fun v164 => if v164 = 2 then f_X3_readLine_176 fu x0 x1 x2 x3 x4 r157.1 x0 1 r157.2 else f_X3_readLine_176 fu x0 x1 x2 x3 x4 r157.1 x0 0 r157.2
def c98 (fu x0 x1 : Nat) (x2 x3 x4 : Int32) (h : Hp) : Option (Unit × Hp) := if x3 = 0 then f_X3_readLine_110 fu x0 x1 x2 x3 h else if x3 = 1 then f_X3_readLine_110 fu x0 x1 x2 x3 h else f_X3_readLine_135 fu x0 x1 x2 x3 x4 h
def c61b (fu x0 x1 : Nat) (x2 : Int32) (h : Hp) : Option (Unit × Hp) := (f_X3_signNamed fu x0 h).bind fun r83 => if r83.1 = (-1) then f_X3_readLine_98 fu x0 x1 x2 r83.1 1 x0 0 r83.2 else f_X3_readLine_98 fu x0 x1 x2 r83.1 1 x0 1 r83.2
def c61 (fu x0 x1 : Nat) (x2 : Int32) (h : Hp) : Option (Unit × Hp) := (gI h 3 x0 5).bind fun v70 => if v70 = 5 then (f_X3_take fu x0 1 h).bind fun z => c61b fu x0 x1 x2 z.2 else f_X3_readLine_135 fu x0 x1 x2 (-1) 1 h
def c36 (fu x0 x1 : Nat) (h : Hp) : Option (Unit × Hp) := (f_X3_numberWithin fu x0 0 8 h).bind fun r43 => (gI r43.2 3 x0 5).bind fun v49 => if v49 = 2 then f_X3_readLine_61 fu x0 x1 r43.1 x0 1 r43.2 else f_X3_readLine_61 fu x0 x1 r43.1 x0 0 r43.2
section PARSEC2
variable {x fu dr : Nat} {tp : Nat → Nat} {tl : Nat} {c : Cg}
theorem f_K {h : Hp} {k s : Nat} {w : Int32} {K : Hp → Option (Unit × Hp)} (q : FlP h x tp tl k s) (e : (f_X3_take fu (x + 8) w h).bind (fun z => K z.2) = some ((), h)) : K h = some ((), h) := by
  rw [f_take q, Option.bind_some] at e
  exact e
theorem kd_y {h : Hp} {p k : Nat} (q : TkC h x tp tl 0 (-1) p) (z : tK tp tl p = k) : h.I (x + 8) 5 = nI k := by rw [q.2.1, z]
theorem kd_n {h : Hp} {p k : Nat} (q : TkC h x tp tl 0 (-1) p) (hk : k < 10) (z : tK tp tl p ≠ k) : ¬ h.I (x + 8) 5 = nI k := by
  have l9 := tK_le (tp := tp) (tl := tl) p
  rw [q.2.1]
  exact fun y => z ((nI_eq (by omega) (by omega)).mp y)
theorem TkC.same {h h1 : Hp} {p : Nat} {fk fp : Int32} (e8 : same h h1 (x + 8)) (e9 : same h h1 (x + 9)) (q : TkC h x tp tl fk fp p) : TkC h1 x tp tl fk fp p := by
  obtain ⟨⟨r, r8⟩, t5, t6, t7⟩ := q
  exact ⟨⟨r.fr e8 e9, by rw [e8.2.2.1]; exact r8⟩, by rw [e8.2.2.1]; exact t5, by rw [e8.2.2.1]; exact t6, fun z => by rw [e8.2.2.1]; exact t7 z⟩
theorem c_addl {h : Hp} {way sn vl hr p : Nat} {val : Int32} (hn : c.n < 12) (d : CD h dr c) (u1 : sn = 1 ∨ sn = 2 → val = nI vl) (u2 : sn = 3 → val = 1) : ∃ h1, f_X0_add fu dr (nI way) (nI sn - 1) val (nI hr) h = some ((), h1) ∧ CD h1 dr (c.app (lnc way sn vl hr p)) ∧ Ed (fun b => dr ≤ b ∧ b < dr + 5) h h1 := by
  obtain ⟨⟨s1, s2, s3, s4, s5⟩, v1, v2⟩ := d
  obtain ⟨H1, e1⟩ : ∃ H1, H1 = putI h (dr + 1) c.n (nI way) := ⟨_, rfl⟩
  obtain ⟨H2, e2⟩ : ∃ H2, H2 = putI H1 (dr + 2) c.n (nI sn - 1) := ⟨_, rfl⟩
  obtain ⟨H3, e3⟩ : ∃ H3, H3 = putI H2 (dr + 3) c.n val := ⟨_, rfl⟩
  obtain ⟨H4, e4⟩ : ∃ H4, H4 = putI H3 (dr + 4) c.n (nI hr) := ⟨_, rfl⟩
  have E1 : Ed (fun b => dr ≤ b ∧ b < dr + 5) h H1 := by rw [e1]; exact Ed.pI (by omega)
  have E2 : Ed (fun b => dr ≤ b ∧ b < dr + 5) h H2 := by rw [e2]; exact Ed.tr E1 (Ed.pI (by omega))
  have E3 : Ed (fun b => dr ≤ b ∧ b < dr + 5) h H3 := by rw [e3]; exact Ed.tr E2 (Ed.pI (by omega))
  have E4 : Ed (fun b => dr ≤ b ∧ b < dr + 5) h H4 := by rw [e4]; exact Ed.tr E3 (Ed.pI (by omega))
  have E5 : Ed (fun b => dr ≤ b ∧ b < dr + 5) h (putI H4 dr 0 (nI (c.n + 1))) := Ed.tr E4 (Ed.pI (by omega))
  have k1 : H1.K dr = 0 := by rw [E1.2.1]; exact s1
  have k2 : H2.K dr = 0 := by rw [E2.2.1]; exact s1
  have k3 : H3.K dr = 0 := by rw [E3.2.1]; exact s1
  have k4 : H4.K dr = 0 := by rw [E4.2.1]; exact s1
  have i1 : H1.I dr 0 = nI c.n := by rw [e1, putI_I, if_neg (by omega)]; exact v1
  have i2 : H2.I dr 0 = nI c.n := by rw [e2, putI_I, if_neg (by omega)]; exact i1
  have i3 : H3.I dr 0 = nI c.n := by rw [e3, putI_I, if_neg (by omega)]; exact i2
  have i4 : H4.I dr 0 = nI c.n := by rw [e4, putI_I, if_neg (by omega)]; exact i3
  have b3 := E1.arr s3
  have b4 := E2.arr s4
  have b5 := E3.arr s5
  refine ⟨putI H4 dr 0 (nI (c.n + 1)), ?_, ⟨⟨by rw [E5.2.1]; exact s1, E5.arr s2, E5.arr s3, E5.arr s4, E5.arr s5⟩, ?_, ?_⟩, E5⟩
  · unfold f_X0_add
    rw [if_pos s1, gI_e s1, Option.bind_some, v1, if_pos (l_lt (b := 12) hn (by decide)), gR_e s1, s2.1, Option.bind_some, Option.bind_some, sI_e s2.2.1 s2.2.2 hn (by decide), Option.bind_some, ← e1]
    rw [gR_e k1, b3.1, Option.bind_some, gI_e k1, i1, Option.bind_some, sI_e b3.2.1 b3.2.2 hn (by decide), Option.bind_some, ← e2]
    rw [gR_e k2, b4.1, Option.bind_some, gI_e k2, i2, Option.bind_some, sI_e b4.2.1 b4.2.2 hn (by decide), Option.bind_some, ← e3]
    rw [gR_e k3, b5.1, Option.bind_some, gI_e k3, i3, Option.bind_some, sI_e b5.2.1 b5.2.2 hn (by decide), Option.bind_some, ← e4]
    rw [gI_e k4, i4, Option.bind_some, nI_1, pI_e k4, Option.bind_some]
  · rw [w3, if_pos rfl]; rfl
  · have j1 : ∀ k, (putI H4 dr 0 (nI (c.n + 1))).I (dr + 1) k = if k = c.n then nI way else h.I (dr + 1) k := fun k => by
      rw [putI_I, if_neg (by omega), e4, putI_I, if_neg (by omega), e3, putI_I, if_neg (by omega), e2, putI_I, if_neg (by omega), e1, w3]
    have j2 : ∀ k, (putI H4 dr 0 (nI (c.n + 1))).I (dr + 2) k = if k = c.n then nI sn - 1 else h.I (dr + 2) k := fun k => by
      rw [putI_I, if_neg (by omega), e4, putI_I, if_neg (by omega), e3, putI_I, if_neg (by omega), e2, w3, e1, putI_I, if_neg (show ¬ dr + 2 = dr + 1 by omega)]
    have j3 : ∀ k, (putI H4 dr 0 (nI (c.n + 1))).I (dr + 3) k = if k = c.n then val else h.I (dr + 3) k := fun k => by
      rw [putI_I, if_neg (by omega), e4, putI_I, if_neg (by omega), e3, w3, e2, putI_I, if_neg (show ¬ dr + 3 = dr + 2 by omega), e1, putI_I, if_neg (show ¬ dr + 3 = dr + 1 by omega)]
    have j4 : ∀ k, (putI H4 dr 0 (nI (c.n + 1))).I (dr + 4) k = if k = c.n then nI hr else h.I (dr + 4) k := fun k => by
      rw [putI_I, if_neg (by omega), e4, w3, e3, putI_I, if_neg (show ¬ dr + 4 = dr + 3 by omega), e2, putI_I, if_neg (show ¬ dr + 4 = dr + 2 by omega), e1, putI_I, if_neg (show ¬ dr + 4 = dr + 1 by omega)]
    intro k hk
    have hk : k < c.n + 1 := hk
    rw [j1, j2, j3, j4]
    show _ = nI (if k = c.n then way else c.wy k) ∧ _ = nI (if k = c.n then sn else c.sn k) - 1 ∧ ((if k = c.n then sn else c.sn k) = 1 ∨ (if k = c.n then sn else c.sn k) = 2 → _ = nI (if k = c.n then vl else c.vl k)) ∧ ((if k = c.n then sn else c.sn k) = 3 → _) ∧ _ = nI (if k = c.n then hr else c.hr k)
    by_cases z : k = c.n
    · simp only [if_pos z]
      exact ⟨trivial, trivial, u1, u2, trivial⟩
    · simp only [if_neg z]
      exact v2 k (by omega)
theorem cl_T3 (hb : ∀ j, j < tl → tp j < 256) (hf : 20000 < fu) (hd : x + 10 ≤ dr) (hn : c.n < 12) {h : Hp} {p way sn vl hr : Nat} {val : Int32} (u1 : sn = 1 ∨ sn = 2 → val = nI vl) (u2 : sn = 3 → val = 1) (hp : p ≤ tl) (q : TkC h x tp tl 0 (-1) p) (d : CD h dr c) : OkC x dr tp tl c h (c176 fu (x + 8) dr (nI way) (nI sn - 1) val (nI hr) h) (pT3 tp tl p way sn vl hr) := by
  unfold c176 pT3
  rw [gI_e q.1.1.1, Option.bind_some]
  by_cases z : tK tp tl p = 3
  · rw [if_pos (show h.I (x + 8) 5 = 3 from kd_y q z), if_pos z]
    refine t_y (K := c193 fu (x + 8) dr (nI way) (nI sn - 1) val (nI hr)) hb hf hd hp q d (fun h1 q1 d1 => ?_)
    unfold c193
    rw [gI_e q1.1.1.1, Option.bind_some, q1.1.1.2.2.2.1, if_pos rfl]
    obtain ⟨h2, a1, a2, a3⟩ := c_addl (fu := fu) (p := tE tp tl p) (way := way) (hr := hr) hn d1 u1 u2
    rw [a1, Option.bind_some]
    exact ⟨h2, rfl, a3.mono (fun b hb => Or.inr hb), fun _ => ⟨q1.same (a3.same (by omega)) (a3.same (by omega)), a2⟩, fun y => absurd rfl y⟩
  · rw [if_neg (show ¬ h.I (x + 8) 5 = 3 from kd_n q (by decide) z), if_neg z]
    exact t_n (K := c193 fu (x + 8) dr (nI way) (nI sn - 1) val (nI hr)) q (fun h1 s q1 => f_K (w := 0) q1 (f_193 q1))
theorem cl_T2 (hb : ∀ j, j < tl → tp j < 256) (hf : 20000 < fu) (hd : x + 10 ≤ dr) (hn : c.n < 12) {h : Hp} {p way sn vl : Nat} {val : Int32} (u1 : sn = 1 ∨ sn = 2 → val = nI vl) (u2 : sn = 3 → val = 1) (hp : p ≤ tl) (q : TkC h x tp tl 0 (-1) p) (d : CD h dr c) : OkC x dr tp tl c h (c150 fu (x + 8) dr (nI way) (nI sn - 1) val h) (pT2 tp tl p way sn vl) := by
  unfold c150 pT2
  by_cases z : tK tp tl p = 2
  · rw [if_pos z]
    by_cases y : tV tp tl p < 1 ∨ 20 < tV tp tl p
    · rw [if_pos y]
      obtain ⟨h1, a1, a2, a3⟩ := t_num (fu := fu) (a := 1) (b := 20) (by decide) q z y
      rw [show f_X3_numberWithin fu (x + 8) 1 20 h = _ from a1, Option.bind_some]
      dsimp only
      rw [gI_e a2.1.1, Option.bind_some, f_176 a2, f_176 a2, ite_self]
      exact OkC.f a3 a2
    · rw [if_neg y, show f_X3_numberWithin fu (x + 8) 1 20 h = _ from t_num0 (fu := fu) (a := 1) (b := 20) (by decide) q z y, Option.bind_some]
      dsimp only
      rw [gI_e q.1.1.1, Option.bind_some, if_pos (show h.I (x + 8) 5 = 2 from kd_y q z)]
      exact t_y (K := c176 fu (x + 8) dr (nI way) (nI sn - 1) val (nI (tV tp tl p))) hb hf hd hp q d (fun h1 q1 d1 => cl_T3 hb hf hd hn u1 u2 (tE_le hp) q1 d1)
  · rw [if_neg z, t_num1 q z, Option.bind_some]
    dsimp only
    rw [gI_e q.1.1.1, Option.bind_some, if_neg (show ¬ h.I (x + 8) 5 = 2 from kd_n q (by decide) z)]
    exact t_n (K := c176 fu (x + 8) dr (nI way) (nI sn - 1) val (h.I (x + 8) 7)) q (fun h1 s q1 => f_K (w := 0) q1 (f_176 q1))
theorem cl_T1 (hb : ∀ j, j < tl → tp j < 256) (hf : 20000 < fu) (hd : x + 10 ≤ dr) (hn : c.n < 12) {h : Hp} {p way sn vl : Nat} {val : Int32} (u1 : sn = 1 ∨ sn = 2 → val = nI vl) (u2 : sn = 3 → val = 1) (hp : p ≤ tl) (q : TkC h x tp tl 0 (-1) p) (d : CD h dr c) : OkC x dr tp tl c h (f_X3_readLine_135 fu (x + 8) dr (nI way) (nI sn - 1) val h) (pT1 tp tl p way sn vl) := by
  unfold f_X3_readLine_135 pT1
  rw [gI_e q.1.1.1, Option.bind_some]
  by_cases z : tK tp tl p = 6
  · rw [if_pos (show h.I (x + 8) 5 = 6 from kd_y q z), if_pos z]
    exact t_y (K := c150 fu (x + 8) dr (nI way) (nI sn - 1) val) hb hf hd hp q d (fun h1 q1 d1 => cl_T2 hb hf hd hn u1 u2 (tE_le hp) q1 d1)
  · rw [if_neg (show ¬ h.I (x + 8) 5 = 6 from kd_n q (by decide) z), if_neg z]
    exact t_n (K := c150 fu (x + 8) dr (nI way) (nI sn - 1) val) q (fun h1 s q1 => f_K (w := 0) q1 (f_150 q1))
theorem cl_U3 (hb : ∀ j, j < tl → tp j < 256) (hf : 20000 < fu) (hd : x + 10 ≤ dr) (hn : c.n < 12) {h : Hp} {p way sn : Nat} (hs : sn = 1 ∨ sn = 2) (hp : p ≤ tl) (q : TkC h x tp tl 0 (-1) p) (d : CD h dr c) : OkC x dr tp tl c h (f_X3_readLine_110 fu (x + 8) dr (nI way) (nI sn - 1) h) (pU3 tp tl p way sn) := by
  unfold f_X3_readLine_110 pU3
  by_cases z : tK tp tl p = 2
  · rw [if_pos z]
    by_cases y : 3 < tV tp tl p
    · rw [if_pos y]
      obtain ⟨h1, a1, a2, a3⟩ := t_num (fu := fu) (a := 0) (b := 3) (by decide) q z (Or.inr y)
      rw [show f_X3_numberWithin fu (x + 8) 0 3 h = _ from a1, Option.bind_some]
      dsimp only
      rw [gI_e a2.1.1, Option.bind_some, f_132 a2, f_132 a2, ite_self]
      exact OkC.f a3 a2
    · rw [if_neg y, show f_X3_numberWithin fu (x + 8) 0 3 h = _ from t_num0 (fu := fu) (a := 0) (b := 3) (by decide) q z (by omega), Option.bind_some]
      dsimp only
      rw [gI_e q.1.1.1, Option.bind_some, if_pos (show h.I (x + 8) 5 = 2 from kd_y q z)]
      exact t_y (K := f_X3_readLine_135 fu (x + 8) dr (nI way) (nI sn - 1) (nI (tV tp tl p))) hb hf hd hp q d (fun h1 q1 d1 => cl_T1 hb hf hd hn (fun _ => rfl) (fun w => by omega) (tE_le hp) q1 d1)
  · rw [if_neg z, t_num1 q z, Option.bind_some]
    dsimp only
    rw [gI_e q.1.1.1, Option.bind_some, if_neg (show ¬ h.I (x + 8) 5 = 2 from kd_n q (by decide) z)]
    exact t_n (K := f_X3_readLine_135 fu (x + 8) dr (nI way) (nI sn - 1) (h.I (x + 8) 7)) q (fun h1 s q1 => f_135 q1)
theorem sig_at {h : Hp} {k : Nat} (hk : k < 10) (r1 : h.K (x + 8) = 3) (h5 : h.I (x + 8) 5 = nI k) : f_X3_signNamed fu (x + 8) h = some (if k = 7 then 2 else if k = 8 then 0 else if k = 9 then 1 else -1, h) := by
  unfold f_X3_signNamed swt
  rw [if_pos r1, gI_e r1, Option.bind_some, h5, ti_n (by omega)]
  have : k = 0 ∨ k = 1 ∨ k = 2 ∨ k = 3 ∨ k = 4 ∨ k = 5 ∨ k = 6 ∨ k = 7 ∨ k = 8 ∨ k = 9 := by omega
  rcases this with rfl | rfl | rfl | rfl | rfl | rfl | rfl | rfl | rfl | rfl <;> rfl
theorem cl_U2 (hb : ∀ j, j < tl → tp j < 256) (hf : 20000 < fu) (hd : x + 10 ≤ dr) (hn : c.n < 12) {h : Hp} {p way : Nat} (hp : p ≤ tl) (q : TkC h x tp tl 0 (-1) p) (d : CD h dr c) : OkC x dr tp tl c h (c61b fu (x + 8) dr (nI way) h) (pU2 tp tl p way) := by
  have l9 := tK_le (tp := tp) (tl := tl) p
  unfold c61b pU2
  rw [sig_at (k := tK tp tl p) (by omega) q.1.1.1 q.2.1, Option.bind_some]
  dsimp only
  by_cases z7 : tK tp tl p = 7
  · rw [if_pos z7, if_pos z7, if_neg (by decide)]
    refine t_y (K := c98 fu (x + 8) dr (nI way) 2 1) hb hf hd hp q d (fun h1 q1 d1 => ?_)
    unfold c98
    rw [if_neg (by decide), if_neg (by decide)]
    exact cl_T1 (sn := 3) hb hf hd hn (fun w => by omega) (fun _ => rfl) (tE_le hp) q1 d1
  · rw [if_neg z7, if_neg z7]
    by_cases z8 : tK tp tl p = 8
    · rw [if_pos z8, if_pos z8, if_neg (by decide)]
      refine t_y (K := c98 fu (x + 8) dr (nI way) 0 1) hb hf hd hp q d (fun h1 q1 d1 => ?_)
      unfold c98
      rw [if_pos rfl]
      exact cl_U3 (sn := 1) hb hf hd hn (Or.inl rfl) (tE_le hp) q1 d1
    · rw [if_neg z8, if_neg z8]
      by_cases z9 : tK tp tl p = 9
      · rw [if_pos z9, if_pos z9, if_neg (by decide)]
        refine t_y (K := c98 fu (x + 8) dr (nI way) 1 1) hb hf hd hp q d (fun h1 q1 d1 => ?_)
        unfold c98
        rw [if_neg (by decide), if_pos rfl]
        exact cl_U3 (sn := 2) hb hf hd hn (Or.inr rfl) (tE_le hp) q1 d1
      · rw [if_neg z9, if_neg z9, if_pos rfl]
        exact t_n (K := c98 fu (x + 8) dr (nI way) (-1) 1) q (fun h1 s q1 => f_K (w := 0) q1 (f_98 q1))
theorem cl_U1 (hb : ∀ j, j < tl → tp j < 256) (hf : 20000 < fu) (hd : x + 10 ≤ dr) (hn : c.n < 12) {h : Hp} {p way : Nat} (hp : p ≤ tl) (q : TkC h x tp tl 0 (-1) p) (d : CD h dr c) : OkC x dr tp tl c h (c61 fu (x + 8) dr (nI way) h) (pU1 tp tl p way) := by
  unfold c61 pU1
  rw [gI_e q.1.1.1, Option.bind_some]
  by_cases z : tK tp tl p = 5
  · rw [if_pos (show h.I (x + 8) 5 = 5 from kd_y q z), if_pos z]
    exact t_y (K := c61b fu (x + 8) dr (nI way)) hb hf hd hp q d (fun h1 q1 d1 => cl_U2 hb hf hd hn (tE_le hp) q1 d1)
  · rw [if_neg (show ¬ h.I (x + 8) 5 = 5 from kd_n q (by decide) z), if_neg z]
    exact cl_T1 (sn := 0) hb hf hd hn (fun w => by omega) (fun w => by omega) hp q d
theorem cl_L2 (hb : ∀ j, j < tl → tp j < 256) (hf : 20000 < fu) (hd : x + 10 ≤ dr) (hn : c.n < 12) {h : Hp} {p : Nat} (hp : p ≤ tl) (q : TkC h x tp tl 0 (-1) p) (d : CD h dr c) : OkC x dr tp tl c h (c36 fu (x + 8) dr h) (pL2 tp tl p) := by
  unfold c36 pL2
  by_cases z : tK tp tl p = 2
  · rw [if_pos z]
    by_cases y : 8 < tV tp tl p
    · rw [if_pos y]
      obtain ⟨h1, a1, a2, a3⟩ := t_num (fu := fu) (a := 0) (b := 8) (by decide) q z (Or.inr y)
      rw [show f_X3_numberWithin fu (x + 8) 0 8 h = _ from a1, Option.bind_some]
      dsimp only
      rw [gI_e a2.1.1, Option.bind_some, f_61 a2, f_61 a2, ite_self]
      exact OkC.f a3 a2
    · rw [if_neg y, show f_X3_numberWithin fu (x + 8) 0 8 h = _ from t_num0 (fu := fu) (a := 0) (b := 8) (by decide) q z (by omega), Option.bind_some]
      dsimp only
      rw [gI_e q.1.1.1, Option.bind_some, if_pos (show h.I (x + 8) 5 = 2 from kd_y q z)]
      exact t_y (K := c61 fu (x + 8) dr (nI (tV tp tl p))) hb hf hd hp q d (fun h1 q1 d1 => cl_U1 hb hf hd hn (tE_le hp) q1 d1)
  · rw [if_neg z, t_num1 q z, Option.bind_some]
    dsimp only
    rw [gI_e q.1.1.1, Option.bind_some, if_neg (show ¬ h.I (x + 8) 5 = 2 from kd_n q (by decide) z)]
    exact t_n (K := c61 fu (x + 8) dr (h.I (x + 8) 7)) q (fun h1 s q1 => f_K (w := 0) q1 (f_61 q1))
theorem cl_line (hb : ∀ j, j < tl → tp j < 256) (hf : 20000 < fu) (hd : x + 10 ≤ dr) (hn : c.n ≤ 12) {h : Hp} {p : Nat} (hp : p ≤ tl) (q : TkC h x tp tl 0 (-1) p) (d : CD h dr c) : OkC x dr tp tl c h (f_X3_readLine fu (x + 8) dr h) (pL tp tl p c.n) := by
  unfold f_X3_readLine pL
  rw [if_pos q.1.1.1, gI_e q.1.1.1, Option.bind_some]
  by_cases z : tK tp tl p = 4
  · rw [if_pos (show h.I (x + 8) 5 = 4 from kd_y q z), if_pos z, gI_e d.1.1, Option.bind_some, d.2.1]
    by_cases y : 12 ≤ c.n
    · rw [if_neg (l_nlt (b := 12) y (by omega)), if_pos y]
      obtain ⟨h1, a1, a2, a3, -⟩ := c_blame (fu := fu) (k := 3) (by decide) q
      rw [show f_X3_blame fu (x + 8) 3 h = _ from a1, Option.bind_some]
      dsimp only
      rw [f_22 a2]
      exact OkC.f a3 a2
    · rw [if_pos (l_lt (b := 12) (by omega) (by decide)), if_neg y]
      unfold f_X3_readLine_22
      rw [gI_e q.1.1.1, Option.bind_some, if_pos (show h.I (x + 8) 5 = 4 from kd_y q z)]
      exact t_y (K := c36 fu (x + 8) dr) hb hf hd hp q d (fun h1 q1 d1 => cl_L2 hb hf hd (by omega) (tE_le hp) q1 d1)
  · rw [if_neg (show ¬ h.I (x + 8) 5 = 4 from kd_n q (by decide) z), if_neg z]
    unfold f_X3_readLine_22
    rw [gI_e q.1.1.1, Option.bind_some, if_neg (show ¬ h.I (x + 8) 5 = 4 from kd_n q (by decide) z)]
    exact t_n (K := c36 fu (x + 8) dr) q (fun h1 s q1 => f_K (w := 0) q1 (f_36 q1))
end PARSEC2
