section SING3
variable {fu m : Nat} {g : Sg} {c : Cg}
theorem m_s117 {l k ce K : Nat} {B : Tb} (hf : 20000 < fu) (ok : c.ok) (hl : l < c.n) (hce : ce < g.n) (hk0 : 0 < k) (hk : k ≤ c.hr l + 1) (lz : LZ g B) (gB : Gp g K B) (hK : K ≤ 900) (hdr : ∀ k, k < 6 → ∃ v, 0 < v ∧ v < 512 ∧ g.dr k = nI v) {k89 : Nat → Int32 → Hp → Option (Unit × Hp)} {k100 : Nat → Int32 → Int32 → Hp → Option (Unit × Hp)} {k106 : Nat → Int32 → Int32 → Int32 → Hp → Option (Unit × Hp)} : ∀ (j wt n : Nat) (h : Hp), wt + j = 6 → j < n → QS h m g c l B k ce wt → ∃ h1, Ed (PS m) h h1 ∧ QS h1 m g c l B k (ce + 1) 0 ∧ f_X7_sing_117 fu k89 k100 k106 n m (nI l) (nI (k - 1)) (nI ce) (nI wt) h = k106 m (nI l) (nI (k - 1)) (nI (ce + 1)) h1
  | 0, wt, n, h, hj, hn, q => by
    obtain ⟨n, rfl⟩ := Nat.exists_eq_succ_of_ne_zero (show n ≠ 0 by omega)
    refine ⟨h, Ed.rf, ⟨q.1, q.2.1, q.2.2.1, fun i hi w hw z => q.2.2.2 i hi w hw (by omega)⟩, ?_⟩
    rw [f_X7_sing_117, if_pos (l_ge (b := 6) (by omega) (by omega)), nI_1]
  | j + 1, wt, n, h, hj, hn, q => by
    obtain ⟨n, rfl⟩ := Nat.exists_eq_succ_of_ne_zero (show n ≠ 0 by omega)
    obtain ⟨h1, a1, a2, a3⟩ := m_step (fu := fu) hf ok hl hce (show wt < 6 by omega) hk0 hk lz gB hK hdr q
    obtain ⟨h2, b1, b2, b3⟩ := m_s117 hf ok hl hce hk0 hk lz gB hK hdr (k89 := k89) (k100 := k100) (k106 := k106) j (wt + 1) n h1 (by omega) (by omega) a3
    refine ⟨h2, Ed.tr a2 b1, b2, ?_⟩
    rw [f_X7_sing_117, if_neg (l_nge (b := 6) (by omega) (by decide)), a1, Option.bind_some, nI_1]
    exact b3
theorem m_s106 {l k K : Nat} {B : Tb} (hf : 20000 < fu) (ok : c.ok) (hl : l < c.n) (hk0 : 0 < k) (hk : k ≤ c.hr l + 1) (lz : LZ g B) (gB : Gp g K B) (hK : K ≤ 900) (hdr : ∀ k, k < 6 → ∃ v, 0 < v ∧ v < 512 ∧ g.dr k = nI v) {k89 : Nat → Int32 → Hp → Option (Unit × Hp)} {k100 : Nat → Int32 → Int32 → Hp → Option (Unit × Hp)} : ∀ (j ce n : Nat) (h : Hp), ce + j = g.n → j < n → QS h m g c l B k ce 0 → ∃ h1, Ed (PS m) h h1 ∧ QS h1 m g c l B (k - 1) 0 0 ∧ f_X7_sing_106 fu k89 k100 n m (nI l) (nI (k - 1)) (nI ce) h = k100 m (nI l) (nI (k - 1) + (-1)) h1
  | 0, ce, n, h, hj, hn, q => by
    obtain ⟨n, rfl⟩ := Nat.exists_eq_succ_of_ne_zero (show n ≠ 0 by omega)
    have h64 := q.1.1.2.2.n64
    refine ⟨h, Ed.rf, ⟨q.1, q.2.1, fun z => ?_, fun i hi w hw z => by omega⟩, ?_⟩
    · intro i hi w hw
      have := q.2.2.2 i hi w hw (by omega)
      rw [show k - 1 + 1 = k by omega, show c.hr l - (k - 1) = c.hr l + 1 - k by omega]
      exact this
    · rw [f_X7_sing_106, m_cells q.1.1, Option.bind_some, if_pos (nI_le (by omega) (by omega))]
  | j + 1, ce, n, h, hj, hn, q => by
    obtain ⟨n, rfl⟩ := Nat.exists_eq_succ_of_ne_zero (show n ≠ 0 by omega)
    have h64 := q.1.1.2.2.n64
    obtain ⟨h1, a1, a2, a3⟩ := m_s117 (fu := fu) hf ok hl (show ce < g.n by omega) hk0 hk lz gB hK hdr (k89 := k89) (k100 := k100) (k106 := fun y0 y1 y2 y3 hy => f_X7_sing_106 fu k89 k100 n y0 y1 y2 y3 hy) 6 0 fu h (by omega) (by omega) q
    obtain ⟨h2, b1, b2, b3⟩ := m_s106 hf ok hl hk0 hk lz gB hK hdr (k89 := k89) (k100 := k100) j (ce + 1) n h1 (by omega) (by omega) a2
    refine ⟨h2, Ed.tr a1 b1, b2, ?_⟩
    rw [f_X7_sing_106, m_cells q.1.1, Option.bind_some, if_neg (nI_ge (by omega) (by omega))]
    rw [show (0 : Int32) = nI 0 from rfl, a3]
    exact b3
theorem m_s100 {l K : Nat} {B : Tb} (hf : 20000 < fu) (ok : c.ok) (hl : l < c.n) (lz : LZ g B) (gB : Gp g K B) (hK : K ≤ 900) (hdr : ∀ k, k < 6 → ∃ v, 0 < v ∧ v < 512 ∧ g.dr k = nI v) {k89 : Nat → Int32 → Hp → Option (Unit × Hp)} : ∀ (k n : Nat) (h : Hp), k ≤ c.hr l + 1 → k < n → QS h m g c l B k 0 0 → ∃ h1, Ed (PS m) h h1 ∧ RM h1 m g c ∧ MT h1 m 1 g (lnT g c l B (c.hr l)) ∧ f_X7_sing_100 fu k89 n m (nI l) (nI k - 1) h = f_X7_sing_153 fu k89 fu m (nI l) 0 h1
  | 0, n, h, hk, hn, q => by
    obtain ⟨n, rfl⟩ := Nat.exists_eq_succ_of_ne_zero (show n ≠ 0 by omega)
    refine ⟨h, Ed.rf, q.1, q.2.2.1 (by omega), ?_⟩
    rw [f_X7_sing_100, if_pos (by decide)]
  | k + 1, n, h, hk, hn, q => by
    obtain ⟨n, rfl⟩ := Nat.exists_eq_succ_of_ne_zero (show n ≠ 0 by omega)
    have h20 := (ok.2 l hl).2.2.2.2
    have h64 := q.1.1.2.2.n64
    obtain ⟨h1, a1, a2, a3⟩ := m_s106 (fu := fu) hf ok hl (show 0 < k + 1 by omega) hk lz gB hK hdr (k89 := k89) (k100 := fun y0 y1 y2 hy => f_X7_sing_100 fu k89 n y0 y1 y2 hy) g.n 0 fu h (by omega) (by omega) q
    obtain ⟨h2, b1, b2, b3, b4⟩ := m_s100 hf ok hl lz gB hK hdr (k89 := k89) k n h1 (by omega) (by omega) a2
    refine ⟨h2, Ed.tr a1 b1, b2, b3, ?_⟩
    rw [show nI (k + 1) - 1 = nI k from l_sub (b := 1) (by omega), f_X7_sing_100, if_neg (nI_pos (by omega))]
    have a3' : f_X7_sing_106 fu k89 (fun y0 y1 y2 hy => f_X7_sing_100 fu k89 n y0 y1 y2 hy) fu m (nI l) (nI k) 0 h = f_X7_sing_100 fu k89 n m (nI l) (nI k + (-1)) h1 := a3
    rw [a3', show nI k + (-1) = nI k - 1 from (Int32.sub_eq_add_neg (nI k) 1).symm]
    exact b4
theorem m_s153 {l : Nat} {V W : Nat → Int32} {k89 : Nat → Int32 → Hp → Option (Unit × Hp)} : ∀ (j i n : Nat) (h : Hp), i + j = 384 → j < n → RM h m g c → (∀ k, k < i → h.I (m + 13) k = V k ∧ h.I (m + 14) k = W k) → (∀ k, k < 384 → h.I (m + 13) (384 + k) = V k ∧ h.I (m + 14) (384 + k) = W k) → ∃ h1, Ed (PS m) h h1 ∧ RM h1 m g c ∧ (∀ k, k < 384 → h1.I (m + 13) k = V k ∧ h1.I (m + 14) k = W k) ∧ f_X7_sing_153 fu k89 n m (nI l) (nI i) h = k89 m (nI l + (-1)) h1
  | 0, i, n, h, hj, hn, rm, h1, h2 => by
    obtain ⟨n, rfl⟩ := Nat.exists_eq_succ_of_ne_zero (show n ≠ 0 by omega)
    refine ⟨h, Ed.rf, rm, fun k hk => h1 k (by omega), ?_⟩
    rw [f_X7_sing_153, if_pos (l_ge (b := 384) (by omega) (by omega))]
  | j + 1, i, n, h, hj, hn, rm, h1, h2 => by
    obtain ⟨n, rfl⟩ := Nat.exists_eq_succ_of_ne_zero (show n ≠ 0 by omega)
    have hK7 := rm.1.K
    obtain ⟨-, -, -, -, -, -, -, -, -, a29, a30, -⟩ := rm.2.1
    have e : Ed (PS m) h (sp2 h m i (V i) (W i)) := sp2_E
    obtain ⟨h3, b1, b2, b3, b4⟩ := m_s153 (V := V) (W := W) (l := l) (k89 := k89) j (i + 1) n (sp2 h m i (V i) (W i)) (by omega) (by omega) (rm.ed e) (fun k hk => by
      rw [sp2_1, sp2_2]
      by_cases z : k = i
      · rw [if_pos z, if_pos z, z]; exact ⟨rfl, rfl⟩
      · rw [if_neg z, if_neg z]; exact h1 k (by omega)) (fun k hk => by
      rw [sp2_1, sp2_2, if_neg (by omega), if_neg (by omega)]; exact h2 k hk)
    refine ⟨h3, Ed.tr e b1, b2, b3, ?_⟩
    obtain ⟨t1, t2⟩ := h2 i (by omega)
    rw [f_X7_sing_153, if_neg (l_nge (b := 384) (by omega) (by decide)), gR_e hK7, a29.1, Option.bind_some, Option.bind_some, show (384 : Int32) + nI i = nI (384 + i) from nI_add 384 i, aI_e a29.2.1 a29.2.2 (show 384 + i < 16384 by omega) (by omega), Option.bind_some, t1, sI_e a29.2.1 a29.2.2 (show i < 16384 by omega) (by omega), Option.bind_some, gR_e (h := putI _ _ _ _) hK7]
    rw [show (putI h (m + 13) i (V i)).R m 30 = some (m + 14) from a30.1, Option.bind_some, Option.bind_some, aI_e (h := putI _ _ _ _) a30.2.1 a30.2.2 (show 384 + i < 16384 by omega) (by omega), Option.bind_some, w1, t2, sI_e (h := putI _ _ _ _) a30.2.1 a30.2.2 (show i < 16384 by omega) (by omega), Option.bind_some, nI_1]
    exact b4
theorem chT_lz (ok : c.ok) : ∀ i, i ≤ c.n → LZ g (chT g c i)
  | 0, _ => fun wt ce hl => by rw [chT]; unfold tb00; rw [if_pos hl]
  | i + 1, hi => fun wt ce hl => by
    have h1 := (ok.2 (c.n - 1 - i) (by omega)).2.2.2.1
    rw [chT]
    obtain ⟨k, hk⟩ : ∃ k, c.hr (c.n - 1 - i) = k + 1 := ⟨c.hr (c.n - 1 - i) - 1, by omega⟩
    rw [hk, lnT]
    unfold hrT
    rw [if_pos hl]
theorem m_s89 (hf : 20000 < fu) (hg : g.ok) (ok : c.ok) (hdr : ∀ k, k < 6 → ∃ v, 0 < v ∧ v < 512 ∧ g.dr k = nI v) : ∀ (k i n : Nat) (h : Hp), i + k = c.n → k < n → RM h m g c → MT h m 0 g (chT g c i) → ∃ h1, f_X7_sing_89 fu n m (nI k - 1) h = some ((), h1) ∧ Ed (PS m) h h1 ∧ RM h1 m g c ∧ MT h1 m 0 g (fnT g c)
  | 0, i, n, h, hi, hn, rm, mt => by
    obtain ⟨n, rfl⟩ := Nat.exists_eq_succ_of_ne_zero (show n ≠ 0 by omega)
    refine ⟨h, by rw [f_X7_sing_89, if_pos (by decide)], Ed.rf, rm, ?_⟩
    unfold fnT; rw [← show i = c.n by omega]; exact mt
  | k + 1, i, n, h, hi, hn, rm, mt => by
    obtain ⟨n, rfl⟩ := Nat.exists_eq_succ_of_ne_zero (show n ≠ 0 by omega)
    have h12 := ok.1
    have hl : k < c.n := by omega
    have h20 := (ok.2 k hl).2.2.2.2
    have h64 := hg.n64
    obtain ⟨-, -, -, a15, -⟩ := rm.2.1
    have q0 : QS h m g c k (chT g c i) (c.hr k + 1) 0 0 := ⟨rm, mt, fun z => by omega, fun i' hi' w hw z => by omega⟩
    obtain ⟨h1, a1, a2, a3, a4⟩ := m_s100 (fu := fu) hf ok hl (chT_lz ok i (by omega)) (chT_gp hg ok i (by omega)) (by omega) hdr (k89 := fun y0 y1 hy => f_X7_sing_89 fu n y0 y1 hy) (c.hr k + 1) fu h (by omega) (by omega) q0
    obtain ⟨h2, b1, b2, b3, b4⟩ := m_s153 (fu := fu) (m := m) (g := g) (c := c) (l := k) (V := fun i => h1.I (m + 13) (384 + i)) (W := fun i => h1.I (m + 14) (384 + i)) (k89 := fun y0 y1 hy => f_X7_sing_89 fu n y0 y1 hy) 384 0 fu h1 (by omega) (by omega) a2 (fun k hk => by omega) (fun k hk => ⟨rfl, rfl⟩)
    have ek : c.n - 1 - i = k := by omega
    have mt2 : MT h2 m 0 g (chT g c (i + 1)) := by
      intro ce hce wt hwt
      have y := a3 ce hce wt hwt
      unfold ER at y ⊢
      rw [chT, ek, (b3 (384 * 0 + 6 * ce + wt) (by omega)).1, (b3 (384 * 0 + 6 * ce + wt) (by omega)).2]
      rw [show 384 + (384 * 0 + 6 * ce + wt) = 384 * 1 + 6 * ce + wt by omega]
      exact y
    obtain ⟨h3, d1, d2, d3, d4⟩ := m_s89 hf hg ok hdr k (i + 1) n h2 (by omega) (by omega) b2 mt2
    refine ⟨h3, ?_, Ed.tr (Ed.tr a1 b1) d2, d3, d4⟩
    rw [show nI (k + 1) - 1 = nI k from l_sub (b := 1) (by omega), f_X7_sing_89, if_neg (nI_pos (by omega)), gR_e rm.1.K, a15.1, Option.bind_some, aI_e a15.2.1 a15.2.2 (show k < 12 by omega) (by omega), Option.bind_some, (rm.2.2.2 k hl).2.2.2]
    rw [show nI (c.hr k + 1) - 1 = nI (c.hr k) from l_sub (b := 1) (by omega)] at a4
    rw [a4]
    rw [show (0 : Int32) = nI 0 from rfl, b4, show nI k + (-1) = nI k - 1 from (Int32.sub_eq_add_neg (nI k) 1).symm]
    exact d1
/-- the cells done so far at the chant's end -/
def DN (h : Hp) (m : Nat) (g : Sg) (ce wt : Nat) : Prop := ∀ i, i < g.n → ∀ w, w < 6 → i < ce ∨ (i = ce ∧ w < wt) → ER h m 0 (tb00 g) i w
theorem m_s12 {ce : Nat} (hce : ce < g.n) {k2 : Nat → Int32 → Hp → Option (Unit × Hp)} : ∀ (j wt n : Nat) (h : Hp), wt + j = 6 → j < n → RM h m g c → DN h m g ce wt → ∃ h1, Ed (PS m) h h1 ∧ RM h1 m g c ∧ DN h1 m g (ce + 1) 0 ∧ f_X7_sing_12 fu k2 n m (nI ce) (nI wt) h = k2 m (nI (ce + 1)) h1
  | 0, wt, n, h, hj, hn, rm, dn => by
    obtain ⟨n, rfl⟩ := Nat.exists_eq_succ_of_ne_zero (show n ≠ 0 by omega)
    refine ⟨h, Ed.rf, rm, fun i hi w hw z => dn i hi w hw (by omega), ?_⟩
    rw [f_X7_sing_12, if_pos (l_ge (b := 6) (by omega) (by omega)), nI_1]
  | j + 1, wt, n, h, hj, hn, rm, dn => by
    obtain ⟨n, rfl⟩ := Nat.exists_eq_succ_of_ne_zero (show n ≠ 0 by omega)
    have h64 := rm.1.2.2.n64
    have hK7 := rm.1.K
    obtain ⟨-, -, -, -, -, -, -, -, -, a29, a30, -⟩ := rm.2.1
    obtain ⟨to, hto⟩ : ∃ to, to = 384 * 0 + 6 * ce + wt := ⟨_, rfl⟩
    have to2 : to < 16384 := by omega
    have at0 : ∀ h : Hp, h.K m = 7 → f_X7_at fu m 0 (nI ce) (nI wt) h = some (nI to, h) := fun h hK => by rw [hto]; exact m_at hK 0 ce wt
    obtain ⟨u, hu⟩ : ∃ u : Nat, u = if 0 < g.ld ce then 0 else 100000 := ⟨_, rfl⟩
    have e : Ed (PS m) h (sp2 h m to (nI u) (nI u)) := sp2_E
    have u1 : u = cC (tb00 g wt ce).1 := by
      rw [hu]; unfold tb00
      by_cases z : 0 < g.ld ce
      · rw [if_pos z, if_pos z]; decide
      · rw [if_neg z, if_neg z]; decide
    have u2 : u = cC (tb00 g wt ce).2 := by
      rw [hu]; unfold tb00
      by_cases z : 0 < g.ld ce
      · rw [if_pos z, if_pos z]; decide
      · rw [if_neg z, if_neg z]; decide
    obtain ⟨h1, b1, b2, b3, b4⟩ := m_s12 hce (k2 := k2) j (wt + 1) n (sp2 h m to (nI u) (nI u)) (by omega) (by omega) (rm.ed e) (fun i hi w hw z => by
      unfold ER
      rw [sp2_1, sp2_2]
      by_cases zz : i = ce ∧ w = wt
      · obtain ⟨rfl, rfl⟩ := zz
        rw [if_pos hto.symm, if_pos hto.symm, ← u1, ← u2]; exact ⟨rfl, rfl⟩
      · rw [if_neg (by omega), if_neg (by omega)]; exact dn i hi w hw (by omega))
    refine ⟨h1, Ed.tr e b1, b2, b3, ?_⟩
    have h43 : f_X7_sing_43 fu k2 (fun y0 y1 y2 hy => f_X7_sing_12 fu k2 n y0 y1 y2 hy) m (nI ce) (nI wt) (m + 13) (nI to) (nI u) h = f_X7_sing_12 fu k2 n m (nI ce) (nI (wt + 1)) (sp2 h m to (nI u) (nI u)) := by
      have rm1 : Mo (putI h (m + 13) to (nI u)) m g := (rm.ed (Ed.pI (P := PS m) (Or.inl rfl))).1
      unfold f_X7_sing_43
      rw [sI_e a29.2.1 a29.2.2 to2 (by omega), Option.bind_some, gR_e (h := putI _ _ _ _) hK7]
      rw [show (putI h (m + 13) to (nI u)).R m 30 = some (m + 14) from a30.1, Option.bind_some, at0 _ (by rw [K_pI]; exact hK7), Option.bind_some]
      dsimp only
      rw [m_isLand rm1 (by omega), Option.bind_some]
      unfold f_X7_sing_69
      by_cases z : 0 < g.ld ce
      · rw [if_pos z, if_neg one_ne]
        rw [if_pos z] at hu
        dsimp only
        rw [show (0 : Int32) = nI u by rw [hu]; rfl, sI_e (h := putI _ _ _ _) a30.2.1 a30.2.2 to2 (by omega), Option.bind_some, nI_1]
        rfl
      · rw [if_neg z, if_pos rfl]
        rw [if_neg z] at hu
        dsimp only
        rw [show (100000 : Int32) = nI u by rw [hu]; rfl, sI_e (h := putI _ _ _ _) a30.2.1 a30.2.2 to2 (by omega), Option.bind_some, nI_1]
        rfl
    rw [f_X7_sing_12, if_neg (l_nge (b := 6) (by omega) (by decide)), gR_e hK7, a29.1, Option.bind_some, at0 h hK7, Option.bind_some]
    dsimp only
    rw [m_isLand rm.1 (by omega), Option.bind_some]
    by_cases z : 0 < g.ld ce
    · rw [if_pos z, if_neg one_ne]
      rw [if_pos z] at hu
      dsimp only
      have : (0 : Int32) = nI u := by rw [hu]; rfl
      rw [this, h43]; exact b4
    · rw [if_neg z, if_pos rfl]
      rw [if_neg z] at hu
      dsimp only
      have : (100000 : Int32) = nI u := by rw [hu]; rfl
      rw [this, h43]; exact b4
theorem m_s2 (hf : 20000 < fu) (hg : g.ok) (ok : c.ok) (hdr : ∀ k, k < 6 → ∃ v, 0 < v ∧ v < 512 ∧ g.dr k = nI v) : ∀ (j ce n : Nat) (h : Hp), ce + j = g.n → j < n → RM h m g c → DN h m g ce 0 → ∃ h1, f_X7_sing_2 fu n m (nI ce) h = some ((), h1) ∧ Ed (PS m) h h1 ∧ RM h1 m g c ∧ MT h1 m 0 g (fnT g c)
  | 0, ce, n, h, hj, hn, rm, dn => by
    obtain ⟨n, rfl⟩ := Nat.exists_eq_succ_of_ne_zero (show n ≠ 0 by omega)
    have h64 := hg.n64
    have h12 := ok.1
    obtain ⟨h1, a1, a2, a3, a4⟩ := m_s89 (fu := fu) (m := m) hf hg ok hdr c.n 0 fu h (by omega) (by omega) rm (fun i hi w hw => dn i hi w hw (by omega))
    refine ⟨h1, ?_, a2, a3, a4⟩
    rw [f_X7_sing_2, m_cells rm.1, Option.bind_some, if_pos (nI_le (by omega) (by omega))]
    dsimp only
    rw [gI_e rm.1.K, Option.bind_some, rm.2.2.1]
    exact a1
  | j + 1, ce, n, h, hj, hn, rm, dn => by
    obtain ⟨n, rfl⟩ := Nat.exists_eq_succ_of_ne_zero (show n ≠ 0 by omega)
    have h64 := hg.n64
    obtain ⟨h1, a1, a2, a3, a4⟩ := m_s12 (fu := fu) (m := m) (c := c) (show ce < g.n by omega) (k2 := fun y0 y1 hy => f_X7_sing_2 fu n y0 y1 hy) 6 0 fu h (by omega) (by omega) rm dn
    obtain ⟨h2, b1, b2, b3, b4⟩ := m_s2 hf hg ok hdr j (ce + 1) n h1 (by omega) (by omega) a2 a3
    refine ⟨h2, ?_, Ed.tr a1 b2, b3, b4⟩
    rw [f_X7_sing_2, m_cells rm.1, Option.bind_some, if_neg (nI_ge (by omega) (by omega))]
    rw [show (0 : Int32) = nI 0 from rfl, a4]
    exact b1
theorem m_sing {h : Hp} (hf : 20000 < fu) (ok : c.ok) (hdr : ∀ k, k < 6 → ∃ v, 0 < v ∧ v < 512 ∧ g.dr k = nI v) (rm : RM h m g c) : ∃ h1, f_X7_sing fu m h = some ((), h1) ∧ Ed (PS m) h h1 ∧ RM h1 m g c ∧ MT h1 m 0 g (fnT g c) := by
  have h64 := rm.1.2.2.n64
  obtain ⟨h1, a1, a2, a3, a4⟩ := m_s2 (fu := fu) (m := m) hf rm.1.2.2 ok hdr g.n 0 fu h (by omega) (by omega) rm (fun i hi w hw z => by omega)
  refine ⟨h1, ?_, a2, a3, a4⟩
  unfold f_X7_sing
  rw [if_pos rm.1.K]
  exact a1
end SING3
