/-! BIRDS: growing a set by one cell all round, and the reaches -/
def near1 (w hh c i : Nat) : Bool := [c, fW w c, fE w c].any (fun d => d == i || fN w d == i || fS w hh d == i)
def nbB (w c i : Nat) : Bool := Nat.ble (dst (c % w) (i % w)) 1 && Nat.ble (dst (c / w) (i / w)) 1
def ckN (w hh c : Nat) : Bool := (List.range (w * hh)).all (fun i => near1 w hh c i == nbB w c i)
theorem ckN_all : ∀ w, w < 9 → ∀ hh, hh < 9 → 2 ≤ w → 2 ≤ hh → ∀ c, c < w * hh → ckN w hh c = true := by decide +kernel
def nb (g : Sg) (k c i : Nat) : Prop := dst (c % g.w) (i % g.w) ≤ k ∧ dst (c / g.w) (i / g.w) ≤ k
theorem near1_iff {g : Sg} (hg : g.ok) {c i : Nat} (hc : c < g.n) (hi : i < g.n) : near1 g.w g.hh c i = true ↔ nb g 1 c i := by
  have := ckN_all g.w (by have := hg.2.1; omega) g.hh (by have := hg.2.2.2.1; omega) hg.1 hg.2.2.1 c hc
  unfold ckN at this
  rw [List.all_eq_true] at this
  have q := this i (List.mem_range.mpr hi)
  rw [beq_iff_eq] at q
  rw [q]
  unfold nbB nb
  rw [Bool.and_eq_true, Nat.ble_eq, Nat.ble_eq]
def tw (p q : Nat) : Nat := if p < q then p + 1 else if q < p then p - 1 else p
theorem tw_lt {p q w : Nat} (hp : p < w) (hq : q < w) : tw p q < w := by unfold tw; split <;> (try split) <;> omega
theorem tw_d {p q k : Nat} (h : dst q p ≤ k + 1) : dst q (tw p q) ≤ k ∧ dst (tw p q) p ≤ 1 := by
  unfold dst at h
  unfold tw dst
  by_cases h1 : p < q
  · rw [if_pos (by omega)] at h
    simp only [h1, if_true]
    rw [if_pos (by omega), if_pos (by omega)]; omega
  · by_cases h2 : q < p
    · rw [if_neg (by omega)] at h
      simp only [h1, h2, if_false, if_true]
      by_cases h3 : p - 1 ≤ q
      · rw [if_pos h3, if_neg (by omega)]; omega
      · rw [if_neg h3, if_neg (by omega)]; omega
    · simp only [h1, h2, if_false]
      rw [if_pos (by omega), if_pos (by omega)]; omega
theorem dst_tri {x y z : Nat} : dst x z ≤ dst x y + dst y z := by unfold dst; split <;> split <;> split <;> omega
theorem dst_0 {x y : Nat} (h : dst x y ≤ 0) : x = y := by unfold dst at h; split at h <;> omega
theorem dst_s (x : Nat) : dst x x = 0 := by unfold dst; simp
theorem nb_0 {g : Sg} {c i : Nat} (h : nb g 0 c i) : c = i := by
  have h1 := dst_0 h.1
  have h2 := dst_0 h.2
  rw [← Nat.div_add_mod c g.w, ← Nat.div_add_mod i g.w, h1, h2]
theorem nb_s (g : Sg) (k c : Nat) : nb g k c c := by unfold nb; rw [dst_s, dst_s]; omega
theorem nb_tri {g : Sg} {k c j i : Nat} (h1 : nb g k c j) (h2 : nb g 1 j i) : nb g (k + 1) c i := by
  have a := @dst_tri (c % g.w) (j % g.w) (i % g.w)
  have b := @dst_tri (c / g.w) (j / g.w) (i / g.w)
  unfold nb at *
  omega
theorem nb_mid {g : Sg} (hg : g.ok) {k c i : Nat} (hc : c < g.n) (hi : i < g.n) (h : nb g (k + 1) c i) : ∃ j, j < g.n ∧ nb g k c j ∧ nb g 1 j i := by
  have w0 : 0 < g.w := by have := hg.1; omega
  have x1 : tw (i % g.w) (c % g.w) < g.w := tw_lt (Nat.mod_lt _ w0) (Nat.mod_lt _ w0)
  have y1 : tw (i / g.w) (c / g.w) < g.hh := tw_lt (Nat.div_lt_of_lt_mul hi) (Nat.div_lt_of_lt_mul hc)
  have d1 := tw_d h.1
  have d2 := tw_d h.2
  refine ⟨g.w * tw (i / g.w) (c / g.w) + tw (i % g.w) (c % g.w), ?_, ?_, ?_⟩
  · unfold Sg.n
    calc g.w * tw (i / g.w) (c / g.w) + tw (i % g.w) (c % g.w) < g.w * tw (i / g.w) (c / g.w) + g.w := by omega
      _ = g.w * (tw (i / g.w) (c / g.w) + 1) := by rw [Nat.mul_add, Nat.mul_one]
      _ ≤ g.w * g.hh := Nat.mul_le_mul_left _ y1
  · unfold nb
    rw [Nat.mul_add_mod, Nat.mod_eq_of_lt x1, Nat.mul_add_div w0, Nat.div_eq_of_lt x1, Nat.add_zero]
    exact ⟨d1.1, d2.1⟩
  · unfold nb
    rw [Nat.mul_add_mod, Nat.mod_eq_of_lt x1, Nat.mul_add_div w0, Nat.div_eq_of_lt x1, Nat.add_zero]
    exact ⟨d1.2, d2.2⟩
section BIRDS
variable {h : Hp} {a fu : Nat} {g : Sg}
/-- the edges alone: what the growing needs of the sea -/
def SeG (h : Hp) (a : Nat) (g : Sg) : Prop := SeaS h a ∧ h.I a 0 = nI g.w ∧ h.I a 2 = nI g.n ∧ (∀ i, i < 64 → tb (h.J a 14) i = decide (i < g.n ∧ i % g.w = 0)) ∧ (∀ i, i < 64 → tb (h.J a 15) i = decide (i < g.n ∧ i % g.w = g.w - 1)) ∧ (∀ i, i < 64 → tb (h.J a 16) i = decide (i < g.n ∧ i / g.w = 0)) ∧ (∀ i, i < 64 → tb (h.J a 17) i = decide (i < g.n ∧ i / g.w = g.hh - 1)) ∧ g.ok ∧ ∀ c, c < 64 → h.I (a + 1) c = nI (g.ld c) - 1
theorem e_W (hS : SeG h a g) {s : Int64} (hs : subs s g.n) : isImg (oW (h.J a 14) s) s g.n (fW g.w) := by
  have hn := hS.2.2.2.2.2.2.2.1.n64
  refine oR_img (w := 1) (P := fun c => c % g.w = 0) (by omega) (by omega) hn hs hS.2.2.2.1 ?_
  intro c _ hp
  rcases Nat.eq_zero_or_pos c with rfl | h
  · exact absurd (Nat.zero_mod _) hp
  · exact h
theorem e_E (hS : SeG h a g) {s : Int64} (hs : subs s g.n) : isImg (oE (h.J a 15) s) s g.n (fE g.w) := by
  have hg := hS.2.2.2.2.2.2.2.1
  refine oL_img (w := 1) (P := fun c => c % g.w = g.w - 1) (by omega) hg.n64 hs hS.2.2.2.2.1 ?_
  intro c hc hp
  have := (ck_W hg hc).2.1
  unfold fE at this
  rwa [if_neg hp] at this
theorem e_N (hS : SeG h a g) {s : Int64} (hs : subs s g.n) : isImg (oN (h.J a 16) s g.w) s g.n (fN g.w) := by
  have hg := hS.2.2.2.2.2.2.2.1
  have w2 := hg.1
  have w8 := hg.2.1
  refine oR_img (P := fun c => c / g.w = 0) (by omega) (by omega) hg.n64 hs hS.2.2.2.2.2.1 ?_
  intro c _ hp
  apply Nat.le_of_not_lt
  intro q
  exact hp (Nat.div_eq_of_lt q)
theorem e_S (hS : SeG h a g) {s : Int64} (hs : subs s g.n) : isImg (oS (h.J a 17) s g.w) s g.n (fS g.w g.hh) := by
  have hg := hS.2.2.2.2.2.2.2.1
  have w8 := hg.2.1
  refine oL_img (P := fun c => c / g.w = g.hh - 1) (by omega) hg.n64 hs hS.2.2.2.2.2.2.1 ?_
  intro c hc hp
  have := (ck_W hg hc).2.2.2
  unfold fS at this
  rwa [if_neg hp] at this
theorem s_grown (hS : SeG h a g) {s : Int64} (hs : subs s g.n) : ∃ r, f_X4_grown fu a s h = some (r, h) ∧ subs r g.n ∧ ∀ i, i < g.n → (tb r i = true ↔ ∃ c, c < g.n ∧ tb s c = true ∧ nb g 1 c i) := by
  have hg := hS.2.2.2.2.2.2.2.1
  have hn := hg.n64
  obtain ⟨wd, hwd⟩ : ∃ wd, wd = (s ||| oW (h.J a 14) s) ||| oE (h.J a 15) s := ⟨_, rfl⟩
  have iw := e_W hS hs
  have ie := e_E hS hs
  have sw : subs wd g.n := by
    intro i hi
    rw [hwd, tb_or, tb_or, Bool.or_eq_true, Bool.or_eq_true] at hi
    rcases hi with (h1 | h1) | h1
    · exact hs i h1
    · exact iw.sub (fun c h => (ck_W hg h).1) i h1
    · exact ie.sub (fun c h => (ck_W hg h).2.1) i h1
  have inn := e_N hS sw
  have iss := e_S hS sw
  refine ⟨(wd ||| oN (h.J a 16) wd g.w) ||| oS (h.J a 17) wd g.w, ?_, ?_, ?_⟩
  · unfold f_X4_grown
    rw [if_pos hS.1.1, s_oneWest hS.1, Option.bind_some]
    dsimp only
    rw [s_oneEast hS.1, Option.bind_some]
    dsimp only
    rw [← hwd, s_oneNorth hS.1 hS.2.1, Option.bind_some]
    dsimp only
    rw [s_oneSouth hS.1 hS.2.1, Option.bind_some]
  · intro i hi
    rw [tb_or, tb_or, Bool.or_eq_true, Bool.or_eq_true] at hi
    rcases hi with (h1 | h1) | h1
    · exact sw i h1
    · exact inn.sub (fun c h => (ck_W hg h).2.2.1) i h1
    · exact iss.sub (fun c h => (ck_W hg h).2.2.2) i h1
  · intro i hi
    have hi64 : i < 64 := by omega
    have wdi : ∀ j, j < g.n → (tb wd j = true ↔ ∃ c, c < g.n ∧ tb s c = true ∧ (c = j ∨ fW g.w c = j ∨ fE g.w c = j)) := by
      intro j hj
      rw [hwd, tb_or, tb_or, Bool.or_eq_true, Bool.or_eq_true, iw j (by omega), ie j (by omega)]
      constructor
      · rintro ((h1 | ⟨c, c1, c2, c3⟩) | ⟨c, c1, c2, c3⟩)
        · exact ⟨j, hj, h1, Or.inl rfl⟩
        · exact ⟨c, c1, c2, Or.inr (Or.inl c3)⟩
        · exact ⟨c, c1, c2, Or.inr (Or.inr c3)⟩
      · rintro ⟨c, c1, c2, rfl | c3 | c3⟩
        · exact Or.inl (Or.inl c2)
        · exact Or.inl (Or.inr ⟨c, c1, c2, c3⟩)
        · exact Or.inr ⟨c, c1, c2, c3⟩
    rw [tb_or, tb_or, Bool.or_eq_true, Bool.or_eq_true, inn i hi64, iss i hi64]
    constructor
    · intro hx
      have : ∃ d, d < g.n ∧ tb wd d = true ∧ (d = i ∨ fN g.w d = i ∨ fS g.w g.hh d = i) := by
        rcases hx with (h1 | ⟨d, d1, d2, d3⟩) | ⟨d, d1, d2, d3⟩
        · exact ⟨i, hi, h1, Or.inl rfl⟩
        · exact ⟨d, d1, d2, Or.inr (Or.inl d3)⟩
        · exact ⟨d, d1, d2, Or.inr (Or.inr d3)⟩
      obtain ⟨d, d1, d2, d3⟩ := this
      obtain ⟨c, c1, c2, c3⟩ := (wdi d d1).mp d2
      refine ⟨c, c1, c2, (near1_iff hg c1 hi).mp ?_⟩
      unfold near1
      rcases c3 with rfl | rfl | rfl <;> rcases d3 with rfl | d3 | d3 <;> simp_all
    · rintro ⟨c, c1, c2, c3⟩
      have q := (near1_iff hg c1 hi).mpr c3
      unfold near1 at q
      simp only [List.any_cons, List.any_nil, Bool.or_false, Bool.or_eq_true, beq_iff_eq] at q
      have hw := ck_W hg c1
      have key : ∀ d, d < g.n → tb wd d = true → ((d = i ∨ fN g.w d = i) ∨ fS g.w g.hh d = i) → (tb wd i = true ∨ ∃ c, c < g.n ∧ tb wd c = true ∧ fN g.w c = i) ∨ ∃ c, c < g.n ∧ tb wd c = true ∧ fS g.w g.hh c = i := by
        rintro d d1 d2 ((rfl | d3) | d3)
        · exact Or.inl (Or.inl d2)
        · exact Or.inl (Or.inr ⟨d, d1, d2, d3⟩)
        · exact Or.inr ⟨d, d1, d2, d3⟩
      rcases q with q | q | q
      · exact key c c1 ((wdi c c1).mpr ⟨c, c1, c2, Or.inl rfl⟩) q
      · exact key (fW g.w c) hw.1 ((wdi _ hw.1).mpr ⟨c, c1, c2, Or.inr (Or.inl rfl)⟩) q
      · exact key (fE g.w c) hw.2.1 ((wdi _ hw.2.1).mpr ⟨c, c1, c2, Or.inr (Or.inr rfl)⟩) q
theorem s_lor_l (hS : SeG h a g) {r : Nat} (hr : r < 4) : ∀ (k c n : Nat) (x : Int64), c + k = g.n → k < n → f_X4_landsOfReach_5 fu n a (nI r) x (nI c) h = some (mk (fun i => decide (g.ld i = r + 1)) k c x, h)
  | 0, c, n, x, hc, hn => by
    have h64 := hS.2.2.2.2.2.2.2.1.n64
    obtain ⟨n, rfl⟩ := Nat.exists_eq_succ_of_ne_zero (show n ≠ 0 by omega)
    obtain rfl : c = g.n := by omega
    rw [f_X4_landsOfReach_5, gI_e hS.1.1, Option.bind_some, hS.2.2.1, if_pos (nI_le (Nat.le_refl _) (by omega))]; rfl
  | k + 1, c, n, x, hc, hn => by
    have h64 := hS.2.2.2.2.2.2.2.1.n64
    have l4 := hS.2.2.2.2.2.2.2.1.2.2.2.2.1 c
    have h8 := hS.1.2.1
    obtain ⟨n, rfl⟩ := Nat.exists_eq_succ_of_ne_zero (show n ≠ 0 by omega)
    rw [f_X4_landsOfReach_5, gI_e hS.1.1, Option.bind_some, hS.2.2.1, if_neg (nI_ge (show c < g.n by omega) (by omega)), gR_e hS.1.1, h8.1, Option.bind_some, aI_e h8.2.1 h8.2.2 (by omega) (by omega), Option.bind_some, hS.2.2.2.2.2.2.2.2 c (by omega), mk]
    have e : (nI (g.ld c) - 1 = nI r) ↔ g.ld c = r + 1 := by
      constructor
      · intro q
        have t : (nI (g.ld c) - 1).toInt = (g.ld c : Int) - 1 := ti_sub (ti_n (by omega)) ti_1 (by omega)
        rw [q, ti_n (by omega)] at t
        omega
      · intro q; rw [q]; exact nI_pred r
    by_cases q : g.ld c = r + 1
    · rw [if_pos (e.mpr q)]
      simp only [q, decide_true, if_true]
      show f_X4_landsOfReach_5 fu n a (nI r) _ (nI c + 1) h = _
      rw [nI_1]
      exact s_lor_l hS hr k (c + 1) n _ (by omega) (by omega)
    · rw [if_neg (fun z => q (e.mp z))]
      simp only [q, decide_false]
      show f_X4_landsOfReach_5 fu n a (nI r) _ (nI c + 1) h = _
      rw [nI_1]
      exact s_lor_l hS hr k (c + 1) n _ (by omega) (by omega)
theorem s_lor (hS : SeG h a g) (hf : 64 < fu) {r : Nat} (hr : r < 4) : ∃ x, f_X4_landsOfReach fu a (nI r) h = some (x, h) ∧ ∀ i, i < 64 → tb x i = (decide (i < g.n) && decide (g.ld i = r + 1)) := by
  have h64 := hS.2.2.2.2.2.2.2.1.n64
  refine ⟨mk (fun i => decide (g.ld i = r + 1)) g.n 0 0, ?_, ?_⟩
  · unfold f_X4_landsOfReach
    rw [if_pos hS.1.1]
    exact s_lor_l hS hr g.n 0 fu 0 (by omega) (by omega)
  · intro i hi
    rw [mk_b hi g.n 0 0 (by omega), tb_0, Bool.false_or]
    congr 1
    exact decide_eq_decide.mpr (by omega)
/-- what is near the lands of a reach of r and more, grown so far -/
def NR (g : Sg) (r i : Nat) : Prop := ∃ c, c < g.n ∧ r < g.ld c ∧ nb g (g.ld c - 1 - r) c i
theorem NR_step (hg : g.ok) {r i : Nat} (hi : i < g.n) : NR g r i ↔ (∃ c, c < g.n ∧ NR g (r + 1) c ∧ nb g 1 c i) ∨ g.ld i = r + 1 := by
  constructor
  · rintro ⟨c, c1, c2, c3⟩
    by_cases e : g.ld c = r + 1
    · rw [e, show r + 1 - 1 - r = 0 by omega] at c3
      have := nb_0 c3
      subst this
      exact Or.inr e
    · obtain ⟨j, j1, j2, j3⟩ := nb_mid hg (k := g.ld c - 1 - (r + 1)) c1 hi (by rw [show g.ld c - 1 - (r + 1) + 1 = g.ld c - 1 - r by omega]; exact c3)
      exact Or.inl ⟨j, j1, ⟨c, c1, by omega, j2⟩, j3⟩
  · rintro (⟨j, j1, ⟨c, c1, c2, c3⟩, j3⟩ | e)
    · refine ⟨c, c1, by omega, ?_⟩
      have := nb_tri c3 j3
      rwa [show g.ld c - 1 - (r + 1) + 1 = g.ld c - 1 - r by omega] at this
    · exact ⟨i, hi, by omega, nb_s g _ i⟩
theorem NR_bird (hg : g.ok) {i : Nat} : NR g 0 i ↔ bird g i = true := by
  rw [bird_iff]
  constructor
  · rintro ⟨c, c1, c2, c3⟩
    unfold nb at c3
    exact ⟨c, c1, c2, by omega, by omega⟩
  · rintro ⟨c, c1, c2, c3, c4⟩
    exact ⟨c, c1, c2, by unfold nb; omega⟩
end BIRDS
