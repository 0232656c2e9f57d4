/-! THE REFERENCE'S BLIND SEARCH -/
def MB (h : Hp) (m : Nat) (b : Bs) : Prop := h.I m 31 = nI b.n ∧ (∀ k, k < b.n → h.J (m + 15) k = b.st k ∧ h.I (m + 16) k = nI (b.dp k)) ∧ ∀ k, 0 < k → k < b.n → h.I (m + 17) k = nI (b.og k / 9) ∧ h.I (m + 18) k = nI (b.og k % 9)
def ME (h h1 : Hp) (m : Nat) : Prop := Ed (fun b => b = m ∨ (m + 15 ≤ b ∧ b ≤ m + 19)) h h1 ∧ (∀ k, k < 29 → h1.I m k = h.I m k) ∧ h1.J m = h.J m
section BLMOD
variable {m fu : Nat} {g : Sg} {S : Int64} {hr : Nat} {cn : Int32} {c : Cg} {tp : Nat → Nat} {tl : Nat} {fk fp : Int32}
theorem ME.rf {h : Hp} : ME h h m := ⟨Ed.rf, fun _ _ => rfl, rfl⟩
theorem ME.tr {h h1 h2 : Hp} (a : ME h h1 m) (b : ME h1 h2 m) : ME h h2 m := ⟨Ed.tr a.1 b.1, fun k hk => (b.2.1 k hk).trans (a.2.1 k hk), b.2.2.trans a.2.2⟩
theorem ME.p {h : Hp} {k : Nat} {w : Int32} (hk : 29 ≤ k) : ME h (putI h m k w) m := ⟨Ed.pI (Or.inl rfl), fun j hj => by rw [w3, if_neg (by omega)], rfl⟩
theorem ME.q {h : Hp} {a k : Nat} {w : Int32} (ha : m + 15 ≤ a ∧ a ≤ m + 19) : ME h (putI h a k w) m := ⟨Ed.pI (Or.inr ha), fun j hj => by rw [putI_I, if_neg (by omega)], rfl⟩
theorem ME.j {h : Hp} {a k : Nat} {w : Int64} (ha : m + 15 ≤ a ∧ a ≤ m + 19) : ME h (putJ h a k w) m := ⟨Ed.pJ (Or.inr ha), fun j hj => rfl, up2_ne _ (by omega)⟩
theorem ModP.bl {h h1 : Hp} (q : ModP h m g S hr cn c tp tl fk fp) (e : ME h h1 m) : ModP h1 m g S hr cn c tp tl fk fp := by
  obtain ⟨⟨⟨s1, s2, s3, s4⟩, ⟨v1, v2, v3, v4, v5, v6, v7⟩, ok⟩, q2, q3, q4, q5, ⟨c1, c2⟩, ⟨d1, d2, d3, d4⟩⟩ := q
  obtain ⟨e, hI, hJ⟩ := e
  have o : ∀ k, 0 < k → k < 15 → h1.I (m + k) = h.I (m + k) := fun k hk hk2 => (e.2.2.2.2 (m + k) (by omega)).1
  refine ⟨⟨⟨by rw [e.2.1]; exact s1, e.arr s2, e.arr s3, e.arr s4⟩, ⟨?_, ?_, ?_, ?_, ?_, ?_, ?_⟩, ok⟩, e.modR q2, by rw [hJ]; exact q3, by rw [hI 3 (by decide)]; exact q4, by rw [hI 5 (by decide)]; exact q5, ⟨?_, ?_⟩, ⟨?_, ?_, ?_, ?_⟩⟩
  · rw [hI 1 (by decide)]; exact v1
  · rw [hI 2 (by decide)]; exact v2
  · rw [hI 6 (by decide)]; exact v3
  · rw [hI 7 (by decide)]; exact v4
  · rw [o 1 (by decide) (by decide)]; exact v5
  · rw [o 2 (by decide) (by decide)]; exact v6
  · rw [o 3 (by decide) (by decide)]; exact v7
  · rw [hI 11 (by decide)]; exact c1
  · rw [o 4 (by decide) (by decide), o 5 (by decide) (by decide), o 6 (by decide) (by decide), o 7 (by decide) (by decide)]; exact c2
  · rw [hI 22 (by decide)]; exact d1
  · rw [hI 27 (by decide)]; exact d2
  · rw [hI 28 (by decide)]; exact d3
  · rw [o 12 (by decide) (by decide)]; exact d4
/-- the rows of the search -/
def MR (h : Hp) (m : Nat) : Prop := arr h m 32 (m + 15) 9 3000 ∧ arr h m 33 (m + 16) 8 3000 ∧ arr h m 34 (m + 17) 8 3000 ∧ arr h m 35 (m + 18) 8 3000 ∧ arr h m 37 (m + 19) 8 12
theorem ModP.mr {h : Hp} (q : ModP h m g S hr cn c tp tl fk fp) : MR h m := q.2.1.2.2.2.2.2.2.2.2.2.2.2
theorem m_isAll {h : Hp} (hM : Mo h m g) (hf : 64 < fu) {s : Int64} (hs : subs s g.n) : f_X7_isAllLand fu m s h = some (if alL g s = true then 1 else 0, h) := by
  have h64 := hM.2.2.n64
  have l1 := cnt_le (fun i => tb s i && decide (0 < g.ld i)) g.n
  have l2 := cnt_le (tb s) 64
  unfold f_X7_isAllLand
  rw [if_pos hM.K, m_landsIn hM hf, Option.bind_some]
  dsimp only
  rw [m_count hM.K hf, Option.bind_some]
  dsimp only
  have e : (nI (cnt (fun i => tb s i && decide (0 < g.ld i)) g.n) = nI (cnt (tb s) 64)) ↔ alL g s = true := by
    rw [nI_eq (by omega) (by omega), cnt_sub hs 64 h64, cnt_and_eq, alL_iff]
    constructor
    · intro z i hi ht
      exact of_decide_eq_true (z i hi ht)
    · intro z i hi ht
      exact decide_eq_true (z i hi ht)
  by_cases z : alL g s = true
  · rw [if_pos (e.mpr z), if_pos z]
  · rw [if_neg (fun y => z (e.mp y)), if_neg z]
theorem m_came {h : Hp} (hK : h.K m = 7) (mr : MR h m) {b : Bs} (mb : MB h m b) (bi : BI g b) {s : Int64} {d : Nat} (hd : d < 13) : ∀ (k j n : Nat), j + k = b.n → k < n → (∀ i, i < j → ¬ (b.st i = s ∧ b.dp i % 6 = d % 6)) → f_X7_came_3 fu n m s (nI d) (nI j) h = some (if cme b s d b.n = true then 1 else 0, h)
  | 0, j, n, hj, hn, no => by
    obtain ⟨n, rfl⟩ := Nat.exists_eq_succ_of_ne_zero (show n ≠ 0 by omega)
    have h3 := bi.2.1
    have e : ¬ cme b s d b.n = true := fun z => by
      obtain ⟨i, i1, i2⟩ := (cme_iff b s d b.n).mp z
      exact no i (by omega) i2
    rw [f_X7_came_3, gI_e hK, Option.bind_some, mb.1, if_pos (nI_le (by omega) (by omega)), if_neg e]
  | k + 1, j, n, hj, hn, no => by
    obtain ⟨n, rfl⟩ := Nat.exists_eq_succ_of_ne_zero (show n ≠ 0 by omega)
    have h3 := bi.2.1
    obtain ⟨m1, m2⟩ := mb.2.1 j (by omega)
    obtain ⟨-, d1, -⟩ := bi.2.2.2 j (by omega)
    have go : ¬ (b.st j = s ∧ b.dp j % 6 = d % 6) → f_X7_came_41 fu (fun y0 y1 y2 y3 hy => f_X7_came_3 fu n y0 y1 y2 y3 hy) m s (nI d) (nI j) h = some (if cme b s d b.n = true then 1 else 0, h) := fun z => by
      unfold f_X7_came_41
      rw [nI_1]
      exact m_came hK mr mb bi hd k (j + 1) n (by omega) (by omega) (fun i hi => by
        by_cases e : i = j
        · rw [e]; exact z
        · exact no i (by omega))
    rw [f_X7_came_3, gI_e hK, Option.bind_some, mb.1, if_neg (nI_ge (show j < b.n by omega) (by omega)), gR_e hK, mr.1.1, Option.bind_some, aJ_e mr.1.2.1 mr.1.2.2 (show j < 3000 by omega) (by decide), Option.bind_some, m1]
    by_cases z1 : b.st j = s
    · rw [if_pos ((cmp0 _ _).mpr z1), gR_e hK, mr.2.1.1, Option.bind_some, aI_e mr.2.1.2.1 mr.2.1.2.2 (show j < 3000 by omega) (by decide), Option.bind_some, m2]
      by_cases z2 : b.dp j % 6 = d % 6
      · rw [if_pos ((dmod _ (by omega) _ hd).mpr z2), if_pos ((cme_iff b s d b.n).mpr ⟨j, by omega, z1, z2⟩)]
      · rw [if_neg (fun y => z2 ((dmod _ (by omega) _ hd).mp y))]
        exact go (fun y => z2 y.2)
    · rw [if_neg (fun y => z1 ((cmp0 _ _).mp y))]
      exact go (fun y => z1 y.1)
theorem m_leads24 {b : Bs} (bi : BI g b) : ∀ (d k n : Nat) (h : Hp), h.K m = 7 → MR h m → MB h m b → k < b.n → b.dp k = d → d < n → ∃ h1, f_X7_leads_24 fu n m (nI d) (nI k) h = some ((), h1) ∧ Ed (fun b => b = m + 19) h h1 ∧ h1.J = h.J ∧ ∀ p, h1.I (m + 19) p = if p < d then nI (bkr b.og d k p) else h.I (m + 19) p
  | 0, k, n, h, hK, mr, mb, hk, hd, hn => by
    obtain ⟨n, rfl⟩ := Nat.exists_eq_succ_of_ne_zero (show n ≠ 0 by omega)
    refine ⟨h, ?_, Ed.rf, rfl, fun p => by rw [if_neg (Nat.not_lt_zero p)]⟩
    rw [f_X7_leads_24, if_pos (show nI 0 ≤ 0 by decide)]
  | d + 1, k, n, h, hK, mr, mb, hk, hd, hn => by
    obtain ⟨n, rfl⟩ := Nat.exists_eq_succ_of_ne_zero (show n ≠ 0 by omega)
    have h3 := bi.2.1
    obtain ⟨-, d1, -, d2⟩ := bi.2.2.2 k hk
    have k0 : 0 < k := by
      rcases Nat.eq_zero_or_pos k with e | e
      · rw [e, bi.2.2.1] at hd; cases hd
      · exact e
    obtain ⟨t1, t2, t3⟩ := d2 k0
    obtain ⟨m7, m8⟩ := mb.2.2 k k0 hk
    obtain ⟨H, eH⟩ : ∃ H, H = putI h (m + 19) d (nI (b.og k % 9)) := ⟨_, rfl⟩
    have E : Ed (fun b => b = m + 19) h H := by rw [eH]; exact Ed.pI rfl
    have o : ∀ b, b ≠ m + 19 → H.I b = h.I b := fun b hb => (E.2.2.2.2 b hb).1
    have JH : H.J = h.J := by rw [eH]; rfl
    have mbH : MB H m b := by
      unfold MB
      rw [o m (by omega), o (m + 16) (by omega), o (m + 17) (by omega), o (m + 18) (by omega), JH]
      exact mb
    have mrH : MR H m := ⟨E.arr mr.1, E.arr mr.2.1, E.arr mr.2.2.1, E.arr mr.2.2.2.1, E.arr mr.2.2.2.2⟩
    have KH : H.K m = 7 := by rw [E.2.1]; exact hK
    obtain ⟨h1, a1, a2, a3, a4⟩ := m_leads24 bi d (b.og k / 9) n H KH mrH mbH (by omega) (by omega) (by omega)
    refine ⟨h1, ?_, Ed.tr E a2, a3.trans JH, fun p => ?_⟩
    · rw [f_X7_leads_24, if_neg (show ¬ nI (d + 1) ≤ 0 from l_nle (b := 0) (by omega) (by omega)), gR_e hK, mr.2.2.2.2.1, Option.bind_some, gR_e hK, mr.2.2.2.1.1, Option.bind_some, aI_e mr.2.2.2.1.2.1 mr.2.2.2.1.2.2 (show k < 3000 by omega) (by decide), Option.bind_some, m8, show nI (d + 1) - 1 = nI d from pk_sub (b := 1) (by omega), sI_e mr.2.2.2.2.2.1 mr.2.2.2.2.2.2 (show d < 12 by omega) (by decide), Option.bind_some, ← eH, gR_e KH, mrH.2.2.1.1, Option.bind_some, aI_e mrH.2.2.1.2.1 mrH.2.2.1.2.2 (show k < 3000 by omega) (by decide), Option.bind_some, o (m + 17) (by omega), m7]
      exact a1
    · rw [a4, bkr]
      by_cases z : p < d
      · rw [if_pos z, if_pos (by omega), if_neg (by omega)]
      · rw [if_neg z, eH, w3]
        by_cases y : p = d
        · rw [if_pos y, if_pos (by omega), if_pos y]
        · rw [if_neg y, if_neg (by omega)]
theorem m_leads {h : Hp} (hf : 64 < fu) (q : ModP h m g S hr cn c tp tl fk fp) {b : Bs} (bi : BI g b) (mb : MB h m b) {k way : Nat} (hk : k < b.n) : ∃ h1, f_X7_leads fu m (nI k) (nI way) h = some ((), h1) ∧ ME h h1 m ∧ MB h1 m b ∧ h1.I m 36 = nI (b.dp k + 1) ∧ ∀ p, p ≤ b.dp k → h1.I (m + 19) p = nI (if p = b.dp k then way else bkr b.og (b.dp k) k p) := by
  have hK := q.1.K
  have mr := q.mr
  have h3 := bi.2.1
  obtain ⟨-, d1, -⟩ := bi.2.2.2 k hk
  obtain ⟨-, m2⟩ := mb.2.1 k hk
  obtain ⟨H, eH⟩ : ∃ H, H = putI (putI h m 36 (nI (b.dp k + 1))) (m + 19) (b.dp k) (nI way) := ⟨_, rfl⟩
  have E : ME h H m := by rw [eH]; exact ME.tr (ME.p (by omega)) (ME.q (by omega))
  have KH : H.K m = 7 := by rw [E.1.2.1]; exact hK
  have JH : H.J = h.J := by rw [eH]; rfl
  have i31 : H.I m 31 = h.I m 31 := by rw [eH, putI_I, if_neg (by omega), w3, if_neg (by decide)]
  have o : ∀ b, b ≠ m → b ≠ m + 19 → H.I b = h.I b := fun b h1 h2 => by rw [eH]; exact (up2_ne _ h2).trans (up2_ne _ h1)
  have mbH : MB H m b := by
    unfold MB
    rw [i31, o (m + 16) (by omega) (by omega), o (m + 17) (by omega) (by omega), o (m + 18) (by omega) (by omega), JH]
    exact mb
  have mr1 : MR (putI h m 36 (nI (b.dp k + 1))) m := mr
  have mrH : MR H m := ⟨E.1.arr mr.1, E.1.arr mr.2.1, E.1.arr mr.2.2.1, E.1.arr mr.2.2.2.1, E.1.arr mr.2.2.2.2⟩
  obtain ⟨h1, a1, a2, a3, a4⟩ := m_leads24 (fu := fu) (m := m) bi (b.dp k) k fu H KH mrH mbH hk rfl (by omega)
  have o1 : ∀ b, b ≠ m + 19 → h1.I b = H.I b := fun b hb => (a2.2.2.2.2 b hb).1
  refine ⟨h1, ?_, ME.tr E ⟨a2.mono (fun b hb => Or.inr (by omega)), fun j hj => by rw [o1 m (by omega)], by rw [a3]⟩, ?_, ?_, fun p hp => ?_⟩
  · unfold f_X7_leads
    rw [if_pos hK, gR_e hK, mr.2.1.1, Option.bind_some, aI_e mr.2.1.2.1 mr.2.1.2.2 (show k < 3000 by omega) (by decide), Option.bind_some, m2, nI_1, pI_e hK, Option.bind_some, gR_e (h := putI _ _ _ _) hK, mr1.2.2.2.2.1, Option.bind_some, sI_e mr1.2.2.2.2.2.1 mr1.2.2.2.2.2.2 (show b.dp k < 12 by omega) (by decide), Option.bind_some, ← eH]
    exact a1
  · unfold MB
    rw [o1 m (by omega), o1 (m + 16) (by omega), o1 (m + 17) (by omega), o1 (m + 18) (by omega), a3]
    exact mbH
  · rw [o1 m (by omega), eH, putI_I, if_neg (by omega), w3, if_pos rfl]
  · rw [a4]
    by_cases z : p = b.dp k
    · rw [if_neg (by omega), if_pos z, eH, w3, if_pos z]
    · rw [if_pos (by omega), if_neg z]
end BLMOD
