def ws : Nat → List Nat
  | 0 => [115, 116, 101, 101, 114]
  | 1 => [117, 110, 116, 105, 108]
  | 2 => [102, 111, 114]
  | 3 => [98, 105, 114, 100, 115]
  | 4 => [115, 119, 101, 108, 108]
  | _ => [115, 116, 97, 114]
theorem ws_len : ∀ i, i < 6 → slen i = nI (ws i).length ∧ (ws i).length ≤ 5 ∧ lenS.getD i 0 = (ws i).length := by decide +kernel
theorem ws_ch : ∀ i, i < 6 → ∀ j, j < 5 → j < (ws i).length → sch i (nI j) = nI ((ws i).getD j 0) ∧ (ws i).getD j 0 < 256 := by decide +kernel
section LEXW
variable {x fu : Nat} {tp : Nat → Nat} {tl : Nat} {fk fp : Int32}
theorem c_len {h : Hp} {i : Nat} (hi : i < 6) : f_J0_length_8abf5 fu i h = some (nI (ws i).length, h) := by
  unfold f_J0_length_8abf5; rw [if_pos hi, (ws_len i hi).1]
theorem c_sp20 (hb : ∀ j, j < tl → tp j < 256) {h : Hp} {pl s i : Nat} (hi : i < 6) (q : RdW h x tp tl fk fp pl) (h6 : h.I (x + 8) 6 = nI s) (hs : s + (ws i).length ≤ tl) : ∀ (k j n : Nat), j + k = (ws i).length → k < n → (∀ m, m < j → tp (s + m) = (ws i).getD m 0) → f_X3_spells_20 fu n (x + 8) i (nI j) h = some (if ∀ m, m < (ws i).length → tp (s + m) = (ws i).getD m 0 then 1 else 0, h)
  | 0, j, n, hj, hn, hm => by
    obtain ⟨n, rfl⟩ := Nat.exists_eq_succ_of_ne_zero (show n ≠ 0 by omega)
    have l5 := (ws_len i hi).2.1
    rw [f_X3_spells_20, c_len hi, Option.bind_some, if_pos (nI_le (by omega) (by omega)), if_pos (fun m hm' => hm m (by omega))]
  | k + 1, j, n, hj, hn, hm => by
    obtain ⟨n, rfl⟩ := Nat.exists_eq_succ_of_ne_zero (show n ≠ 0 by omega)
    obtain ⟨l1, l5, l3⟩ := ws_len i hi
    obtain ⟨⟨r1, r2, r3, r4, r5, r6, r7⟩, r8⟩ := id q
    obtain ⟨c1, c2⟩ := ws_ch i hi j (by omega) (by omega)
    have ch : f_J0_charAt_5068e fu i (nI j) h = some (nI ((ws i).getD j 0), h) := by
      unfold f_J0_charAt_5068e
      rw [if_pos ⟨hi, by rw [ti_n (by omega)]; omega, by rw [ti_n (by omega), l3]; omega⟩, c1]
    have hb' := hb (s + j) (by omega)
    rw [f_X3_spells_20, c_len hi, Option.bind_some, if_neg (nI_ge (show j < (ws i).length by omega) (by omega))]
    dsimp only
    rw [gR_e r1, r2.1, Option.bind_some, gI_e r1, Option.bind_some, h6, nI_add, aI_e r2.2.1 r2.2.2 (show s + j < 400 by omega) (by omega), Option.bind_some, r6 _ (by omega), ch, Option.bind_some]
    dsimp only
    by_cases z : tp (s + j) = (ws i).getD j 0
    · rw [if_pos (by rw [z]), nI_1]
      exact c_sp20 hb hi q h6 hs k (j + 1) n (by omega) (by omega) (fun m hm' => by
        by_cases e : m = j
        · rw [e]; exact z
        · exact hm m (by omega))
    · rw [if_neg (fun y => z ((nI_eq (by omega) (by omega)).mp y)), if_neg (fun y => z (y j (by omega)))]
theorem c_spells (hb : ∀ j, j < tl → tp j < 256) {h : Hp} {pl s i : Nat} (hf : 20000 < fu) (hi : i < 6) (q : RdW h x tp tl fk fp pl) (h6 : h.I (x + 8) 6 = nI s) (hs : s ≤ pl) (hp : pl ≤ tl) : f_X3_spells fu (x + 8) i h = some (if eqw tp s (pl - s) (ws i) then 1 else 0, h) := by
  obtain ⟨⟨r1, r2, r3, r4, r5, r6, r7⟩, r8⟩ := id q
  obtain ⟨l1, l5, l3⟩ := ws_len i hi
  unfold f_X3_spells
  rw [if_pos r1, gI_e r1, Option.bind_some, r8, gI_e r1, Option.bind_some, h6, c_len hi, Option.bind_some, pk_sub hs]
  dsimp only
  by_cases z : pl - s = (ws i).length
  · rw [if_pos (by rw [z])]
    have := c_sp20 (fu := fu) hb hi q h6 (by omega) (ws i).length 0 fu (by omega) (by omega) (fun m hm => by omega)
    rw [show (0 : Int32) = nI 0 from rfl, this]
    unfold eqw
    by_cases y : ∀ m, m < (ws i).length → tp (s + m) = (ws i).getD m 0
    · rw [if_pos y, decide_eq_true ⟨z, y⟩]; rfl
    · rw [if_neg y, decide_eq_false (fun w => y w.2)]; rfl
  · rw [if_neg (fun y => z ((nI_eq (by omega) (by omega)).mp y))]
    unfold eqw
    rw [decide_eq_false (fun w => z w.1)]; rfl
theorem c_word (hb : ∀ j, j < tl → tp j < 256) {h : Hp} {pl s : Nat} (hf : 20000 < fu) (q : RdW h x tp tl fk fp pl) (h6 : h.I (x + 8) 6 = nI s) (hs : s ≤ pl) (hp : pl ≤ tl) : f_X3_wordRead fu (x + 8) h = some (nI (wk tp s (pl - s)), h) := by
  have hK := q.1.1
  have S := fun i hi => c_spells (fu := fu) (i := i) hb hf hi q h6 hs hp
  unfold f_X3_wordRead wk
  rw [if_pos hK, S 0 (by decide), Option.bind_some]
  have e : ∀ b : Bool, ((if b then 1 else 0 : Int32) = 0) ↔ b = false := by decide
  simp only [e]
  show (if eqw tp s (pl - s) [115, 116, 101, 101, 114] = false then _ else _) = _
  cases z0 : eqw tp s (pl - s) [115, 116, 101, 101, 114]
  · rw [if_pos rfl, S 1 (by decide), Option.bind_some]
    simp only [e]
    show (if eqw tp s (pl - s) [117, 110, 116, 105, 108] = false then _ else _) = _
    cases z1 : eqw tp s (pl - s) [117, 110, 116, 105, 108]
    · rw [if_pos rfl, S 2 (by decide), Option.bind_some]
      simp only [e]
      show (if eqw tp s (pl - s) [102, 111, 114] = false then _ else _) = _
      cases z2 : eqw tp s (pl - s) [102, 111, 114]
      · rw [if_pos rfl, S 3 (by decide), Option.bind_some]
        simp only [e]
        show (if eqw tp s (pl - s) [98, 105, 114, 100, 115] = false then _ else _) = _
        cases z3 : eqw tp s (pl - s) [98, 105, 114, 100, 115]
        · rw [if_pos rfl, S 4 (by decide), Option.bind_some]
          simp only [e]
          show (if eqw tp s (pl - s) [115, 119, 101, 108, 108] = false then _ else _) = _
          cases z4 : eqw tp s (pl - s) [115, 119, 101, 108, 108]
          · rw [if_pos rfl, S 5 (by decide), Option.bind_some]
            simp only [e]
            show (if eqw tp s (pl - s) [115, 116, 97, 114] = false then _ else _) = _
            cases z5 : eqw tp s (pl - s) [115, 116, 97, 114] <;> rfl
          · rfl
        · rfl
      · rfl
    · rfl
  · rfl
end LEXW
