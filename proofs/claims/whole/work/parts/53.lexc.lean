section LEXC2
variable {x fu : Nat} {tp : Nat → Nat} {tl : Nat} {fk fp : Int32}
/-- a number of the reader changes, not its tape, length and fault -/
theorem RdW.put {h : Hp} {pl pl' k : Nat} {w : Int32} (q : RdW h x tp tl fk fp pl) (hk : k = 4 ∧ w = nI pl' ∨ (k = 5 ∨ k = 6 ∨ k = 7) ∧ pl' = pl) : RdW (putI h (x + 8) k w) x tp tl fk fp pl' := by
  obtain ⟨⟨r1, r2, r3, r4, r5, r6, r7⟩, r8⟩ := q
  have e : Ed (fun b => b = x + 8) h (putI h (x + 8) k w) := Ed.pI rfl
  refine ⟨⟨r1, e.arr r2, by rw [w3, if_neg (by omega)]; exact r3, by rw [w3, if_neg (by omega)]; exact r4, by rw [w3, if_neg (by omega)]; exact r5, fun j hj => by rw [putI_I, if_neg (by omega)]; exact r6 j hj, r7⟩, ?_⟩
  rw [w3]
  rcases hk with ⟨rfl, rfl⟩ | ⟨hk, rfl⟩
  · rw [if_pos rfl]
  · rw [if_neg (by omega)]; exact r8
/-- the byte under the reader's place -/
theorem rd_at {h : Hp} {pl : Nat} (q : RdW h x tp tl fk fp pl) (hp : pl < tl) : aI h 10 (x + 9) (nI pl) = some (nI (tp pl)) := by
  obtain ⟨⟨r1, r2, r3, r4, r5, r6, r7⟩, r8⟩ := q
  rw [aI_e r2.2.1 r2.2.2 (by omega) (by omega), r6 pl hp]
theorem c_skipL (hb : ∀ j, j < tl → tp j < 256) : ∀ (k pl n : Nat) (h : Hp), pl + k = tl → k < n → RdW h x tp tl fk fp pl → ∃ h1, f_X3_skipLetters_0 fu n (x + 8) h = some ((), h1) ∧ RdW h1 x tp tl fk fp (run isL tp tl pl) ∧ Ed (fun b => b = x + 8) h h1 ∧ h1.I (x + 8) 6 = h.I (x + 8) 6 ∧ h1.I (x + 8) 7 = h.I (x + 8) 7
  | 0, pl, n, h, hk, hn, q => by
    obtain ⟨n, rfl⟩ := Nat.exists_eq_succ_of_ne_zero (show n ≠ 0 by omega)
    obtain ⟨⟨r1, r2, r3, r4, r5, r6, r7⟩, r8⟩ := id q
    refine ⟨h, ?_, by rw [run_n (by omega)]; exact q, Ed.rf, rfl, rfl⟩
    rw [f_X3_skipLetters_0, gI_e r1, Option.bind_some, r8, gI_e r1, Option.bind_some, r3, if_pos (nI_le (by omega) (by omega))]
  | k + 1, pl, n, h, hk, hn, q => by
    obtain ⟨n, rfl⟩ := Nat.exists_eq_succ_of_ne_zero (show n ≠ 0 by omega)
    obtain ⟨⟨r1, r2, r3, r4, r5, r6, r7⟩, r8⟩ := id q
    have hp : pl < tl := by omega
    have u : f_X3_skipLetters_0 fu (n + 1) (x + 8) h = if (if isL (tp pl) then 1 else 0 : Int32) = 0 then some ((), h) else f_X3_skipLetters_0 fu n (x + 8) (putI h (x + 8) 4 (nI (pl + 1))) := by
      rw [f_X3_skipLetters_0, gI_e r1, Option.bind_some, r8, gI_e r1, Option.bind_some, r3, if_neg (nI_ge hp (by omega)), gR_e r1, r2.1, Option.bind_some, Option.bind_some, rd_at q hp, Option.bind_some, c_isL (hb pl hp), Option.bind_some]
      dsimp only
      by_cases z : (if isL (tp pl) then 1 else 0 : Int32) = 0
      · rw [if_pos z, if_pos z]
      · rw [if_neg z, if_neg z, gI_e r1, Option.bind_some, r8, pI_e r1, Option.bind_some, nI_1]
    cases z : isL (tp pl)
    · refine ⟨h, ?_, by rw [run_n (by rw [z]; simp)]; exact q, Ed.rf, rfl, rfl⟩
      rw [u, z]; rfl
    · obtain ⟨h1, a1, a2, a3, a4, a5⟩ := c_skipL hb k (pl + 1) n _ (by omega) (by omega) (q.put (k := 4) (pl' := pl + 1) (Or.inl ⟨rfl, rfl⟩))
      refine ⟨h1, ?_, by rw [run_y hp z]; exact a2, Ed.tr (Ed.pI rfl) a3, by rw [a4, w3, if_neg (by decide)], by rw [a5, w3, if_neg (by decide)]⟩
      rw [u, z]; exact a1
end LEXC2
