/-! HOW A CALL OF BOTH IS PUT TOGETHER -/
def Tok {ρ : Type} (x v : Nat) (A B : Hp → Option (ρ × Hp)) (h : Hp) : Prop := ∃ r h1 h2 v', A h = some (r, h1) ∧ B h1 = some (r, h2) ∧ Wd h2 x v' ∧ v' ≤ v + 1
def t0 (h : Hp) (m : Nat) : Hp := putI h m 0 0
section GLUE
variable {h h1 : Hp} {x v fu : Nat} {g : Sg} {S : Int64} {hr : Nat} {cn : Int32} {c : Cg} {tp : Nat → Nat} {tl : Nat} {fk fp : Int32}
theorem ModP.up {m : Nat} {S' : Int64} {hr' : Nat} {cn' : Int32} (q : ModP h m g S hr cn c tp tl fk fp) (e : Ed (fun b => b = m) h h1) (hI : ∀ k, k ≠ 0 → k ≠ 3 → k ≠ 5 → h1.I m k = h.I m k) (h4 : h1.J m 4 = S') (h3 : h1.I m 3 = nI hr') (h5 : h1.I m 5 = cn') : ModP h1 m g S' hr' cn' c tp tl fk fp := by
  obtain ⟨⟨⟨s1, s2, s3, s4⟩, ⟨v1, v2, v3, v4, v5, v6, v7⟩, ok⟩, q2, q3, q4, q5, ⟨c1, c2⟩, ⟨d1, d2, d3, d4⟩⟩ := q
  have o : ∀ k, 0 < k → h1.I (m + k) = h.I (m + k) := fun k hk => (e.2.2.2.2 (m + k) (by omega)).1
  refine ⟨⟨⟨by rw [e.2.1]; exact s1, e.arr s2, e.arr s3, e.arr s4⟩, ⟨?_, ?_, ?_, ?_, ?_, ?_, ?_⟩, ok⟩, e.modR q2, h4, h3, h5, ⟨?_, ?_⟩, ⟨?_, ?_, ?_, ?_⟩⟩
  · rw [hI 1 (by decide) (by decide) (by decide)]; exact v1
  · rw [hI 2 (by decide) (by decide) (by decide)]; exact v2
  · rw [hI 6 (by decide) (by decide) (by decide)]; exact v3
  · rw [hI 7 (by decide) (by decide) (by decide)]; exact v4
  · rw [o 1 (by decide)]; exact v5
  · rw [o 2 (by decide)]; exact v6
  · rw [o 3 (by decide)]; exact v7
  · rw [hI 11 (by decide) (by decide) (by decide)]; exact c1
  · rw [o 4 (by decide), o 5 (by decide), o 6 (by decide), o 7 (by decide)]; exact c2
  · rw [hI 22 (by decide) (by decide) (by decide)]; exact d1
  · rw [hI 27 (by decide) (by decide) (by decide)]; exact d2
  · rw [hI 28 (by decide) (by decide) (by decide)]; exact d3
  · rw [o 12 (by decide)]; exact d4
theorem t0_I (h : Hp) (m : Nat) {k : Nat} (hk : k ≠ 0) : (t0 h m).I m k = h.I m k := by
  unfold t0; rw [putI_I, if_pos rfl, if_neg hk]
theorem t0_E (h : Hp) (m : Nat) : Ed (fun b => b = m) h (t0 h m) := Ed.pI rfl
theorem ModP.t0 {m : Nat} (q : ModP h m g S hr cn c tp tl fk fp) : ModP (t0 h m) m g S hr cn c tp tl fk fp :=
  q.up (t0_E h m) (fun k h0 _ _ => t0_I h m h0) q.2.2.1 (by rw [t0_I h m (by decide)]; exact q.2.2.2.1) (by rw [t0_I h m (by decide)]; exact q.2.2.2.2.1)
theorem CW.up {v' : Nat} {g' : Sg} {S' : Int64} {hr' : Nat} {cn' : Int32} (q : CW h x v g S hr cn c tp tl fk fp) (e : Ed (fun b => x ≤ b ∧ b ≤ x + 7) h h1) (hs : Se h1 (x + 1) g') (hv : h1.I (x + 1) 3 = nI v') (hvv : v < v' ∨ (v' = v ∧ g' = g)) (h4 : h1.J x 4 = S') (h5 : h1.I x 5 = nI hr') (h6 : h1.I x 6 = cn') : CW h1 x v' g' S' hr' cn' c tp tl fk fp := by
  obtain ⟨sg, dr, jg, sc, ⟨a1, a2, a3, a4, a5, a6, a7, a8, a9, a10⟩, q2, q3, q4, q5, q6, q7, q8, q9⟩ := q
  have o : ∀ b, x + 8 ≤ b → same h h1 b := fun b hb => e.same (by omega)
  have j1 : JP h1 x v g c jg := q6.fr (by rw [e.1]; omega) (fun j hj b p1 p2 => o b (by have := (q6 j hj).1; omega))
  have s1 : SP h1 x v g sc := q7.fr (by rw [e.1]; omega) (fun s hs b p1 p2 => o b (by have := (q7 s hs).1; omega))
  refine ⟨sg, dr, jg, sc, ⟨by rw [e.2.1]; exact a1, by rw [e.2.2.2.1]; exact a2, by rw [e.2.2.2.1]; exact a3, by rw [e.2.2.2.1]; exact a4, by rw [e.2.2.2.1]; exact a5, h4, h5, h6, by rw [e.2.2.2.1]; exact a9, by rw [e.2.2.2.1]; exact a10⟩, hs, hv, q4.fr (o _ (by omega)) (o _ (by omega)), q5.fr (fun b p1 p2 => o b (by omega)), ?_, ?_, q8, by rw [e.1]; exact q9⟩
  · rcases hvv with hvv | ⟨hvv, hg⟩
    · exact j1.up hvv
    · subst hvv; subst hg; exact j1
  · rcases hvv with hvv | ⟨hvv, hg⟩
    · exact s1.up hvv
    · subst hvv; subst hg; exact s1
theorem glue {ρ : Type} {A B : Hp → Option (ρ × Hp)} {r : ρ} {v' : Nat} {g' : Sg} {S' : Int64} {hr' : Nat} {cn' : Int32} {c' : Cg} {tp' : Nat → Nat} {tl' : Nat} {fk' fp' : Int32} (hM : ModP h (x + 20) g S hr cn c tp tl fk fp) (a : ∃ h1, A h = some (r, h1) ∧ CW h1 x v' g' S' hr' cn' c' tp' tl' fk' fp' ∧ ∀ b, x + 20 ≤ b → b < x + 40 → same h h1 b) (b : ∀ h1, ModP h1 (x + 20) g S hr cn c tp tl fk fp → ∃ h2, B h1 = some (r, h2) ∧ ModP h2 (x + 20) g' S' hr' cn' c' tp' tl' fk' fp' ∧ h2.N = h1.N ∧ ∀ b, b < x + 20 ∨ x + 40 ≤ b → same h1 h2 b) (hR : Rng g' S' hr' cn' tp' tl') (hv : v' ≤ v + 1) : Tok x v A B h := by
  obtain ⟨h1, a1, a2, a3⟩ := a
  obtain ⟨h2, b1, b2, b3, b4⟩ := b h1 (hM.fr (fun b p1 p2 => a3 b p1 (by omega)))
  exact ⟨r, h1, h2, v', a1, b1, ⟨g', S', hr', cn', c', tp', tl', fk', fp', a2.fr b3 b4, b2, hR⟩, hv⟩
/-- a call that changes nothing -/
theorem glue0 {ρ : Type} {A B : Hp → Option (ρ × Hp)} {r : ρ} (hC : CW h x v g S hr cn c tp tl fk fp) (hM : ModP h (x + 20) g S hr cn c tp tl fk fp) (hR : Rng g S hr cn tp tl) (a : A h = some (r, h)) (b : ∀ h1, ModP h1 (x + 20) g S hr cn c tp tl fk fp → B h1 = some (r, t0 h1 (x + 20))) : Tok x v A B h :=
  glue hM ⟨h, a, hC, fun _ _ _ => same.rf⟩ (fun h1 q => ⟨_, b h1 q, q.t0, rfl, fun b hb => (t0_E h1 (x + 20)).same (by omega)⟩) hR (by omega)
theorem ed_out {P : Nat → Prop} (e : Ed P h h1) (hp : ∀ b, P b → b < x + 20) : ∀ b, x + 20 ≤ b → b < x + 40 → same h h1 b := fun b p1 _ => e.same (fun z => by have := hp b z; omega)
theorem ed_inn {P : Nat → Prop} (e : Ed P h h1) (hp : ∀ b, P b → x + 20 ≤ b ∧ b < x + 40) : ∀ b, b < x + 20 ∨ x + 40 ≤ b → same h h1 b := fun b p1 => e.same (fun z => by have := hp b z; omega)
end GLUE
/-! small things -/
theorem reach_or (b : Int32) : b < -1 ∨ (¬ b < -1 ∧ ¬ b ≤ 3) ∨ ∃ l, l ≤ 4 ∧ b = nI l - 1 ∧ ¬ b < -1 ∧ b ≤ 3 := by
  have e1 : (-1 : Int32).toInt = -1 := by decide
  have e3 : (3 : Int32).toInt = 3 := by decide
  by_cases h0 : b < -1
  · exact Or.inl h0
  · by_cases h1 : b ≤ 3
    · refine Or.inr (Or.inr ⟨(b.toInt + 1).toNat, ?_, ?_, h0, h1⟩)
      · rw [le_ti, e3] at h1; omega
      · rw [lt_ti, e1] at h0
        rw [le_ti, e3] at h1
        apply Int32.toInt_inj.mp
        rw [ti_sub (ti_n (by omega)) ti_1 (by omega)]
        omega
    · exact Or.inr (Or.inl ⟨h0, h1⟩)
theorem nI_s1 (l : Nat) : nI l - 1 + 1 = nI l := by
  rw [Int32.sub_eq_add_neg, Int32.add_assoc]
  have : (-1 + 1 : Int32) = 0 := by decide
  rw [this, Int32.add_zero]
theorem allm_u : ∀ n, n < 64 → uN (lsh 1 (nI n) - 1) = 2 ^ n - 1 := by decide +kernel
def allm (n : Nat) : Int64 := if n = 64 then -1 else lsh 1 (nI n) - 1
theorem allm_b {n i : Nat} (hn : n ≤ 64) (hi : i < 64) : tb (allm n) i = decide (i < n) := by
  unfold allm
  by_cases e : n = 64
  · rw [if_pos e, tb_m1 i hi, e]; simp [hi]
  · rw [if_neg e, tb_uN, allm_u n (by omega), Nat.testBit_two_pow_sub_one]
theorem m_all {h : Hp} {m fu : Nat} {g : Sg} (hM : Mo h m g) : f_X7_all fu m h = some (allm g.n, h) := by
  have hn := hM.2.2.n64
  unfold f_X7_all allm
  rw [if_pos hM.K, m_cells hM, Option.bind_some]
  by_cases e : g.n = 64
  · rw [if_pos ((l_eq (by omega) (by decide)).mpr e), if_pos e]
  · rw [if_neg (fun z => e ((l_eq (by omega) (by decide)).mp z)), if_neg e, m_cells hM, Option.bind_some]
