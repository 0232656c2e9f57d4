/-! land(cell, reach) in the class's sea -/
def Sg.setL (g : Sg) (c l : Nat) : Sg := ⟨g.w, g.hh, fun i => if i = c then l else g.ld i, g.sw, g.dr, g.ni, g.fl⟩
def Sg.setW (g : Sg) (c : Nat) (v : Int32) : Sg := ⟨g.w, g.hh, g.ld, fun i => if i = c then v else g.sw i, g.dr, g.ni, g.fl⟩
def Sg.setD (g : Sg) (k : Nat) (v : Int32) : Sg := ⟨g.w, g.hh, g.ld, g.sw, fun i => if i = k then v else g.dr i, g.ni, g.fl⟩
def Sg.setN (g : Sg) (n f : Int32) : Sg := ⟨g.w, g.hh, g.ld, g.sw, g.dr, n, f⟩
theorem Sg.ok.setL {g : Sg} (hg : g.ok) {c l : Nat} (hc : c < g.n) (hl : l ≤ 4) : (g.setL c l).ok := by
  obtain ⟨h1, h2, h3, h4, h5, h6⟩ := hg
  refine ⟨h1, h2, h3, h4, fun i => ?_, fun i hi => ?_⟩
  · show (if i = c then l else g.ld i) ≤ 4
    split
    · exact hl
    · exact h5 i
  · show (if i = c then l else g.ld i) = 0
    have hi' : g.n ≤ i := hi
    rw [if_neg (by omega)]
    exact h6 i hi'
theorem ld_setL (g : Sg) (c l i : Nat) : (g.setL c l).ld i = if i = c then l else g.ld i := rfl
section SETR
variable {h : Hp} {a fu : Nat} {g : Sg}
theorem Ed.seaS {P : Nat → Prop} {h1 : Hp} (e : Ed P h h1) (hS : SeaS h a) : SeaS h1 a := by
  obtain ⟨s1, s2, s3, s4, s5, s6, s7⟩ := hS
  exact ⟨by rw [e.2.1]; exact s1, e.arr s2, e.arr s3, e.arr s4, e.arr s5, e.arr s6, e.arr s7⟩
theorem s_sr41 (hS : SeG h a g) (hf : 64 < fu) : ∀ (k n : Nat) (x : Int64), k ≤ 4 → k < n → subs x g.n → (∀ i, i < g.n → (tb x i = true ↔ NR g k i)) → ∃ y, (∀ i, i < g.n → tb y i = bird g i) ∧ f_X4_setReach_41 fu n a x (nI k - 1) h = some ((), putI (putJ h a 13 y) a 3 (h.I a 3 + 1))
  | 0, n, x, hk, hn, hs, hx => by
    have hg := hS.2.2.2.2.2.2.2.1
    obtain ⟨n, rfl⟩ := Nat.exists_eq_succ_of_ne_zero (show n ≠ 0 by omega)
    refine ⟨x, fun i hi => ?_, ?_⟩
    · have := (hx i hi).trans (NR_bird hg)
      cases h1 : tb x i <;> cases h2 : bird g i <;> simp_all
    · rw [f_X4_setReach_41, if_pos (by decide), pJ_e hS.1.1, Option.bind_some, gI_e (h := putJ _ _ _ _) hS.1.1, Option.bind_some, pI_e (h := putJ _ _ _ _) hS.1.1, Option.bind_some, putJ_I]
  | k + 1, n, x, hk, hn, hs, hx => by
    have hg := hS.2.2.2.2.2.2.2.1
    have h64 := hg.n64
    obtain ⟨n, rfl⟩ := Nat.exists_eq_succ_of_ne_zero (show n ≠ 0 by omega)
    obtain ⟨gr, g1, g2, g3⟩ := s_grown (fu := fu) hS hs
    obtain ⟨lr, l1, l2⟩ := s_lor hS hf (r := k) (by omega)
    have hs' : subs (gr ||| lr) g.n := by
      intro i hi
      rw [tb_or, Bool.or_eq_true] at hi
      rcases hi with q | q
      · exact g2 i q
      · have i64 : i < 64 := Nat.lt_of_not_le (fun z => by rw [tb_big z] at q; cases q)
        rw [l2 i i64] at q
        simp at q
        exact q.1
    have hx' : ∀ i, i < g.n → (tb (gr ||| lr) i = true ↔ NR g k i) := by
      intro i hi
      rw [tb_or, Bool.or_eq_true, g3 i hi, l2 i (by omega), NR_step hg hi]
      constructor
      · rintro (⟨c, c1, c2, c3⟩ | q)
        · exact Or.inl ⟨c, c1, (hx c c1).mp c2, c3⟩
        · simp at q; exact Or.inr q.2
      · rintro (⟨c, c1, c2, c3⟩ | q)
        · exact Or.inl ⟨c, c1, (hx c c1).mpr c2, c3⟩
        · exact Or.inr (by simp [hi, q])
    obtain ⟨y, y1, y2⟩ := s_sr41 hS hf k n (gr ||| lr) (by omega) (by omega) hs' hx'
    refine ⟨y, y1, ?_⟩
    rw [show nI (k + 1) - 1 = nI k from nI_pred k, f_X4_setReach_41, if_neg (nI_pos (by omega)), g1, Option.bind_some]
    dsimp only
    rw [l1, Option.bind_some]
    dsimp only
    rw [show nI k + (-1) = nI k - 1 from (Int32.sub_eq_add_neg (nI k) 1).symm]
    exact y2
theorem s_setReach (hS : Se h a g) (hf : 64 < fu) {c l : Nat} (hc : c < g.n) (hl : l ≤ 4) : ∃ h1, f_X4_setReach fu a (nI c) (nI l - 1) h = some ((), h1) ∧ Se h1 a (g.setL c l) ∧ Ed (fun b => b = a ∨ b = a + 1) h h1 ∧ h1.I a 3 = h.I a 3 + 1 := by
  have hg := hS.2.2.2
  have h64 := hg.n64
  have hK := hS.1.1
  have h8 := hS.1.2.1
  have hg' := hg.setL hc hl
  obtain ⟨⟨s1, s2, s3, s4, s5, s6, s7⟩, ⟨i1, i2, i3, i4, i5, i6, i7, i8, i9⟩, ⟨j1, j2, j3, j4, j5, j6, j7⟩, ok⟩ := id hS
  obtain ⟨sh, hsh⟩ : ∃ sh, sh = (h.J a 5 &&& (lsh 1 (nI c) ^^^ (-1))) ||| (if l = 0 then 0 else lsh 1 (nI c)) := ⟨_, rfl⟩
  obtain ⟨h0, hh0⟩ : ∃ h0, h0 = putJ (putI h (a + 1) c (nI l - 1)) a 5 sh := ⟨_, rfl⟩
  have E0 : Ed (fun b => b = a ∨ b = a + 1) h h0 := by rw [hh0]; exact Ed.tr (Ed.pI (Or.inr rfl)) (Ed.pJ (Or.inl rfl))
  have I0 : ∀ b j, h0.I b j = if b = a + 1 then (if j = c then nI l - 1 else h.I b j) else h.I b j := by intro b j; rw [hh0]; rfl
  have J0 : ∀ b j, h0.J b j = if b = a then (if j = 5 then sh else h.J b j) else h.J b j := by intro b j; rw [hh0]; rfl
  have hG : SeG h0 a (g.setL c l) := by
    refine ⟨E0.seaS hS.1, ?_, ?_, ?_, ?_, ?_, ?_, hg', ?_⟩
    · rw [I0, if_neg (by omega)]; exact i1
    · rw [I0, if_neg (by omega)]; exact i3
    · intro i hi; rw [J0, if_pos rfl, if_neg (by omega)]; exact j4 i hi
    · intro i hi; rw [J0, if_pos rfl, if_neg (by omega)]; exact j5 i hi
    · intro i hi; rw [J0, if_pos rfl, if_neg (by omega)]; exact j6 i hi
    · intro i hi; rw [J0, if_pos rfl, if_neg (by omega)]; exact j7 i hi
    · intro i hi
      rw [I0, if_pos rfl, ld_setL]
      by_cases e : i = c
      · rw [if_pos e, if_pos e]
      · rw [if_neg e, if_neg e]; exact i6 i hi
  have h0x : subs 0 (g.setL c l).n := fun i hi => by rw [tb_0] at hi; cases hi
  have hx0 : ∀ i, i < (g.setL c l).n → (tb 0 i = true ↔ NR (g.setL c l) 4 i) := by
    intro i _
    rw [tb_0]
    constructor
    · intro q; cases q
    · rintro ⟨d, -, d2, -⟩
      have := hg'.2.2.2.2.1 d
      omega
  obtain ⟨y, y1, y2⟩ := s_sr41 hG hf 4 fu 0 (by omega) (by omega) h0x hx0
  refine ⟨putI (putJ h0 a 13 y) a 3 (h0.I a 3 + 1), ?_, ?_, ?_, ?_⟩
  · unfold f_X4_setReach
    rw [if_pos hK, gR_e hK, h8.1, Option.bind_some, sI_e h8.2.1 h8.2.2 (by omega) (by omega), Option.bind_some, gJ_e (h := putI _ _ _ _) hK, Option.bind_some, putI_J]
    have fin : ∀ s2, sh = (h.J a 5 &&& (lsh 1 (nI c) ^^^ (-1))) ||| s2 → f_X4_setReach_32 fu a a (h.J a 5 &&& (lsh 1 (nI c) ^^^ (-1))) s2 (putI h (a + 1) c (nI l - 1)) = some ((), putI (putJ h0 a 13 y) a 3 (h0.I a 3 + 1)) := by
      intro s2 e
      unfold f_X4_setReach_32
      rw [pJ_e (h := putI _ _ _ _) hK, Option.bind_some, ← e, ← hh0]
      exact y2
    by_cases e : l = 0
    · rw [if_pos (by rw [e]; decide)]
      exact fin 0 (by rw [hsh, if_pos e])
    · rw [if_neg (by rw [show l = (l - 1) + 1 by omega, nI_pred]; exact m1_ne (by omega))]
      exact fin (lsh 1 (nI c)) (by rw [hsh, if_neg e])
  · have I1 : ∀ b j, ¬ (b = a ∧ j = 3) → (putI (putJ h0 a 13 y) a 3 (h0.I a 3 + 1)).I b j = h0.I b j := by
      intro b j hb
      rw [putI_I, putJ_I]
      by_cases e : b = a
      · rw [if_pos e, if_neg (fun q => hb ⟨e, q⟩)]
      · rw [if_neg e]
    have J1 : ∀ b j, ¬ (b = a ∧ j = 13) → (putI (putJ h0 a 13 y) a 3 (h0.I a 3 + 1)).J b j = h0.J b j := by
      intro b j hb
      rw [putI_J, putJ_J]
      by_cases e : b = a
      · rw [if_pos e, if_neg (fun q => hb ⟨e, q⟩)]
      · rw [if_neg e]
    have Jy : (putI (putJ h0 a 13 y) a 3 (h0.I a 3 + 1)).J a 13 = y := by rw [putI_J, putJ_J]; simp
    refine ⟨hG.1, ⟨?_, ?_, ?_, ?_, ?_, ?_, ?_, ?_, ?_⟩, ⟨?_, ?_, ?_, ?_, ?_, ?_, ?_⟩, hg'⟩
    · rw [I1 _ _ (by omega)]; exact hG.2.1
    · rw [I1 _ _ (by omega), I0, if_neg (by omega)]; exact i2
    · rw [I1 _ _ (by omega)]; exact hG.2.2.1
    · rw [I1 _ _ (by omega), I0, if_neg (by omega)]; exact i4
    · rw [I1 _ _ (by omega), I0, if_neg (by omega)]; exact i5
    · intro i hi; rw [I1 _ _ (by omega)]; exact hG.2.2.2.2.2.2.2.2 i hi
    · intro i hi; rw [I1 _ _ (by omega), I0, if_neg (by omega)]; exact i7 i hi
    · intro i hi; rw [I1 _ _ (by omega), I0, if_neg (by omega)]; exact i8 i hi
    · intro i hi; rw [I1 _ _ (by omega), I1 _ _ (by omega), I0, if_neg (by omega), I0, if_neg (by omega)]; exact i9 i hi
    · intro i hi; rw [J1 _ _ (by omega), J0, if_pos rfl, if_neg (by omega)]; exact j1 i hi
    · intro i hi
      rw [J1 _ _ (by omega), J0, if_pos rfl, if_pos rfl, hsh, tb_or, tb_and, tb_not hi, tb_bit (by omega) hi, j2 i hi, ld_setL]
      by_cases e : i = c
      · subst e
        by_cases e0 : l = 0
        · simp [e0, tb_0]
        · rw [if_neg e0, tb_bit (by omega) hi]; simp; omega
      · by_cases e0 : l = 0
        · simp [e, e0, tb_0]
        · rw [if_neg e0, tb_bit (by omega) hi]; simp [e]
    · intro i hi; rw [Jy]; exact y1 i hi
    · intro i hi; rw [J1 _ _ (by omega)]; exact hG.2.2.2.1 i hi
    · intro i hi; rw [J1 _ _ (by omega)]; exact hG.2.2.2.2.1 i hi
    · intro i hi; rw [J1 _ _ (by omega)]; exact hG.2.2.2.2.2.1 i hi
    · intro i hi; rw [J1 _ _ (by omega)]; exact hG.2.2.2.2.2.2.1 i hi
  · exact E0.tr (Ed.tr (Ed.pJ (Or.inl rfl)) (Ed.pI (Or.inl rfl)))
  · rw [putI_I, if_pos rfl, if_pos rfl, I0, if_neg (by omega)]
end SETR
