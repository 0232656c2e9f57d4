/-! THE CALLS, one after the other -/
theorem K_pI (h : Hp) (a k : Nat) (v : Int32) : (putI h a k v).K = h.K := rfl
theorem K_pJ (h : Hp) (a k : Nat) (v : Int64) : (putJ h a k v).K = h.K := rfl
theorem K_pR (h : Hp) (a k : Nat) (v : Option Nat) : (putR h a k v).K = h.K := rfl
theorem L_pI (h : Hp) (a k : Nat) (v : Int32) : (putI h a k v).L = h.L := rfl
theorem L_pJ (h : Hp) (a k : Nat) (v : Int64) : (putJ h a k v).L = h.L := rfl
theorem L_pR (h : Hp) (a k : Nat) (v : Option Nat) : (putR h a k v).L = h.L := rfl
theorem R_pI (h : Hp) (a k : Nat) (v : Int32) : (putI h a k v).R = h.R := rfl
theorem R_pJ (h : Hp) (a k : Nat) (v : Int64) : (putJ h a k v).R = h.R := rfl
theorem N_pI (h : Hp) (a k : Nat) (v : Int32) : (putI h a k v).N = h.N := rfl
theorem N_pJ (h : Hp) (a k : Nat) (v : Int64) : (putJ h a k v).N = h.N := rfl
section CALLS
variable {h : Hp} {x v fu : Nat}
theorem seaTI {h1 : Hp} {a : Nat} {g g' : Sg} (hS : Se h a g) (e : Ed (fun b => a ≤ b ∧ b ≤ a + 6) h h1) (hi : SeaI h1 a g') (hj : SeaJ h1 a g') (ok : g'.ok) : Se h1 a g' := ⟨e.seaS hS.1, hi, hj, ok⟩
theorem bird_of {g g' : Sg} (e1 : g'.w = g.w) (e2 : g'.hh = g.hh) (e3 : g'.ld = g.ld) (i : Nat) : bird g' i = bird g i := by
  apply Bool.eq_iff_iff.mpr
  rw [bird_iff, bird_iff]
  unfold good Sg.n
  rw [e1, e2, e3]
theorem seaJ_of {h1 : Hp} {a : Nat} {g g' : Sg} (e0 : h1.J a = h.J a) (e1 : g'.w = g.w) (e2 : g'.hh = g.hh) (e3 : g'.ld = g.ld) (hj : SeaJ h a g) : SeaJ h1 a g' := by
  have en : g'.n = g.n := by unfold Sg.n; rw [e1, e2]
  unfold SeaJ
  rw [e0, en, e1, e2, e3]
  obtain ⟨j1, j2, j3, j4, j5, j6, j7⟩ := hj
  exact ⟨j1, j2, fun i hi => by rw [bird_of e1 e2 e3]; exact j3 i hi, j4, j5, j6, j7⟩
theorem s_setSwell {a c : Nat} {w : Int32} {g : Sg} (hS : Se h a g) (hc : c < g.n) : ∃ h1, f_X4_setSwell fu a (nI c) w h = some ((), h1) ∧ Se h1 a (g.setW c w) ∧ Ed (fun b => a ≤ b ∧ b ≤ a + 6) h h1 ∧ h1.I a 3 = h.I a 3 + 1 := by
  have hn := hS.2.2.2.n64
  obtain ⟨⟨s1, s2, s3, s4, s5, s6, s7⟩, ⟨i1, i2, i3, i4, i5, i6, i7, i8, i9⟩, hj, ok⟩ := id hS
  obtain ⟨h1, hh1⟩ : ∃ h1, h1 = putI (putI h (a + 2) c w) a 3 (h.I a 3 + 1) := ⟨_, rfl⟩
  have I1 : ∀ b j, h1.I b j = if b = a then (if j = 3 then h.I a 3 + 1 else h.I b j) else if b = a + 2 then (if j = c then w else h.I b j) else h.I b j := by
    intro b j; rw [hh1, putI_I, putI_I]
    by_cases e : b = a
    · rw [if_pos e, if_pos e, if_neg (show ¬ b = a + 2 by omega)]
    · rw [if_neg e, if_neg e]
  have e : Ed (fun b => a ≤ b ∧ b ≤ a + 6) h h1 := by rw [hh1]; exact Ed.tr (Ed.pI ⟨by omega, by omega⟩) (Ed.pI ⟨by omega, by omega⟩)
  have oi : ∀ j, j ≠ 3 → h1.I a j = h.I a j := fun j hj => by rw [I1, if_pos rfl, if_neg hj]
  have ob : ∀ k, k ≠ 0 → k ≠ 2 → ∀ j, h1.I (a + k) j = h.I (a + k) j := fun k k0 k2 j => by rw [I1, if_neg (by omega), if_neg (by omega)]
  refine ⟨h1, ?_, seaTI hS e ⟨?_, ?_, ?_, ?_, ?_, ?_, ?_, ?_, ?_⟩ ?_ ok, e, by rw [I1, if_pos rfl, if_pos rfl]⟩
  · unfold f_X4_setSwell
    rw [if_pos s1, gR_e s1, s3.1, Option.bind_some, sI_e s3.2.1 s3.2.2 (by omega) (by omega), Option.bind_some, gI_e (h := putI _ _ _ _) s1, Option.bind_some, pI_e (h := putI _ _ _ _) s1, Option.bind_some, putI_I, if_neg (by omega), hh1]
  · rw [oi 0 (by decide)]; exact i1
  · rw [oi 1 (by decide)]; exact i2
  · rw [oi 2 (by decide)]; exact i3
  · rw [oi 6 (by decide)]; exact i4
  · rw [oi 7 (by decide)]; exact i5
  · intro k hk; rw [ob 1 (by decide) (by decide)]; exact i6 k hk
  · intro k hk
    show _ = if k = c then w else g.sw k
    rw [I1, if_neg (by omega), if_pos rfl]
    by_cases e : k = c
    · rw [if_pos e, if_pos e]
    · rw [if_neg e, if_neg e]; exact i7 k hk
  · intro k hk; rw [ob 3 (by decide) (by decide)]; exact i8 k hk
  · intro k hk; rw [ob 4 (by decide) (by decide), ob 5 (by decide) (by decide)]; exact i9 k hk
  · exact seaJ_of (h := h) (g := g) (by rw [hh1]; rfl) rfl rfl rfl hj
theorem s_setDrifts {a c : Nat} {w : Int32} {g : Sg} (hS : Se h a g) (hc : c < 6) : ∃ h1, f_X4_setDrifts fu a (nI c) w h = some ((), h1) ∧ Se h1 a (g.setD c w) ∧ Ed (fun b => a ≤ b ∧ b ≤ a + 6) h h1 ∧ h1.I a 3 = h.I a 3 + 1 := by
  obtain ⟨⟨s1, s2, s3, s4, s5, s6, s7⟩, ⟨i1, i2, i3, i4, i5, i6, i7, i8, i9⟩, hj, ok⟩ := id hS
  obtain ⟨h1, hh1⟩ : ∃ h1, h1 = putI (putI h (a + 3) c w) a 3 (h.I a 3 + 1) := ⟨_, rfl⟩
  have I1 : ∀ b j, h1.I b j = if b = a then (if j = 3 then h.I a 3 + 1 else h.I b j) else if b = a + 3 then (if j = c then w else h.I b j) else h.I b j := by
    intro b j; rw [hh1, putI_I, putI_I]
    by_cases e : b = a
    · rw [if_pos e, if_pos e, if_neg (show ¬ b = a + 3 by omega)]
    · rw [if_neg e, if_neg e]
  have e : Ed (fun b => a ≤ b ∧ b ≤ a + 6) h h1 := by rw [hh1]; exact Ed.tr (Ed.pI ⟨by omega, by omega⟩) (Ed.pI ⟨by omega, by omega⟩)
  have oi : ∀ j, j ≠ 3 → h1.I a j = h.I a j := fun j hj => by rw [I1, if_pos rfl, if_neg hj]
  have ob : ∀ k, k ≠ 0 → k ≠ 3 → ∀ j, h1.I (a + k) j = h.I (a + k) j := fun k k0 k2 j => by rw [I1, if_neg (by omega), if_neg (by omega)]
  refine ⟨h1, ?_, seaTI hS e ⟨?_, ?_, ?_, ?_, ?_, ?_, ?_, ?_, ?_⟩ ?_ ok, e, by rw [I1, if_pos rfl, if_pos rfl]⟩
  · unfold f_X4_setDrifts
    rw [if_pos s1, gR_e s1, s4.1, Option.bind_some, sI_e s4.2.1 s4.2.2 (by omega) (by omega), Option.bind_some, gI_e (h := putI _ _ _ _) s1, Option.bind_some, pI_e (h := putI _ _ _ _) s1, Option.bind_some, putI_I, if_neg (by omega), hh1]
  · rw [oi 0 (by decide)]; exact i1
  · rw [oi 1 (by decide)]; exact i2
  · rw [oi 2 (by decide)]; exact i3
  · rw [oi 6 (by decide)]; exact i4
  · rw [oi 7 (by decide)]; exact i5
  · intro k hk; rw [ob 1 (by decide) (by decide)]; exact i6 k hk
  · intro k hk; rw [ob 2 (by decide) (by decide)]; exact i7 k hk
  · intro k hk
    show _ = if k = c then w else g.dr k
    rw [I1, if_neg (by omega), if_pos rfl]
    by_cases e : k = c
    · rw [if_pos e, if_pos e]
    · rw [if_neg e, if_neg e]; exact i8 k hk
  · intro k hk; rw [ob 4 (by decide) (by decide), ob 5 (by decide) (by decide)]; exact i9 k hk
  · exact seaJ_of (h := h) (g := g) (by rw [hh1]; rfl) rfl rfl rfl hj
theorem s_setWatches {a : Nat} {n f : Int32} {g : Sg} (hS : Se h a g) : ∃ h1, f_X4_setWatches fu a n f h = some ((), h1) ∧ Se h1 a (g.setN n f) ∧ Ed (fun b => a ≤ b ∧ b ≤ a + 6) h h1 ∧ h1.I a 3 = h.I a 3 + 1 := by
  obtain ⟨⟨s1, s2, s3, s4, s5, s6, s7⟩, ⟨i1, i2, i3, i4, i5, i6, i7, i8, i9⟩, hj, ok⟩ := id hS
  obtain ⟨h1, hh1⟩ : ∃ h1, h1 = putI (putI (putI h a 6 n) a 7 f) a 3 (h.I a 3 + 1) := ⟨_, rfl⟩
  have e : Ed (fun b => a ≤ b ∧ b ≤ a + 6) h h1 := by rw [hh1]; exact Ed.tr (Ed.tr (Ed.pI ⟨by omega, by omega⟩) (Ed.pI ⟨by omega, by omega⟩)) (Ed.pI ⟨by omega, by omega⟩)
  have I1 : ∀ j, h1.I a j = if j = 3 then h.I a 3 + 1 else if j = 7 then f else if j = 6 then n else h.I a j := by
    intro j; rw [hh1, putI_I, putI_I, putI_I, if_pos rfl, if_pos rfl, if_pos rfl]
  have ob : ∀ k, k ≠ 0 → ∀ j, h1.I (a + k) j = h.I (a + k) j := fun k k0 j => by rw [hh1, putI_I, putI_I, putI_I, if_neg (by omega), if_neg (by omega), if_neg (by omega)]
  refine ⟨h1, ?_, seaTI hS e ⟨?_, ?_, ?_, ?_, ?_, ?_, ?_, ?_, ?_⟩ ?_ ok, e, by rw [I1, if_pos rfl]⟩
  · unfold f_X4_setWatches
    simp [gI, pI, K_pI, s1, putI_I, hh1]
  · rw [I1, if_neg (by decide), if_neg (by decide), if_neg (by decide)]; exact i1
  · rw [I1, if_neg (by decide), if_neg (by decide), if_neg (by decide)]; exact i2
  · rw [I1, if_neg (by decide), if_neg (by decide), if_neg (by decide)]; exact i3
  · rw [I1, if_neg (by decide), if_neg (by decide), if_pos rfl]; rfl
  · rw [I1, if_neg (by decide), if_pos rfl]; rfl
  · intro k hk; rw [ob 1 (by decide)]; exact i6 k hk
  · intro k hk; rw [ob 2 (by decide)]; exact i7 k hk
  · intro k hk; rw [ob 3 (by decide)]; exact i8 k hk
  · intro k hk; rw [ob 4 (by decide), ob 5 (by decide)]; exact i9 k hk
  · exact seaJ_of (h := h) (g := g) (by rw [hh1]; rfl) rfl rfl rfl hj
/-- the reference's rows of the sea change -/
theorem ModP.sea {h1 : Hp} {m : Nat} {g g' : Sg} {S : Int64} {hr : Nat} {cn : Int32} {c : Cg} {tp : Nat → Nat} {tl : Nat} {fk fp : Int32} {S' : Int64} {hr' : Nat} {cn' : Int32} (q : ModP h m g S hr cn c tp tl fk fp) (e : Ed (fun b => m ≤ b ∧ b ≤ m + 3) h h1) (hv : ModV h1 m g') (ok : g'.ok) (hI : ∀ k, 8 ≤ k → h1.I m k = h.I m k) (h4 : h1.J m 4 = S') (h3 : h1.I m 3 = nI hr') (h5 : h1.I m 5 = cn') : ModP h1 m g' S' hr' cn' c tp tl fk fp := by
  obtain ⟨⟨⟨s1, s2, s3, s4⟩, -, -⟩, q2, q3, q4, q5, ⟨c1, c2⟩, ⟨d1, d2, d3, d4⟩⟩ := q
  have o : ∀ k, 3 < k → h1.I (m + k) = h.I (m + k) := fun k hk => (e.2.2.2.2 (m + k) (by omega)).1
  refine ⟨⟨⟨by rw [e.2.1]; exact s1, e.arr s2, e.arr s3, e.arr s4⟩, hv, ok⟩, e.modR q2, h4, h3, h5, ⟨?_, ?_⟩, ⟨?_, ?_, ?_, ?_⟩⟩
  · rw [hI 11 (by decide)]; exact c1
  · rw [o 4 (by decide), o 5 (by decide), o 6 (by decide), o 7 (by decide)]; exact c2
  · rw [hI 22 (by decide)]; exact d1
  · rw [hI 27 (by decide)]; exact d2
  · rw [hI 28 (by decide)]; exact d3
  · rw [o 12 (by decide)]; exact d4
end CALLS
