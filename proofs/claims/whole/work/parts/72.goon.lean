theorem dr_any : ∀ v, v < 512 → 0 < v → (List.range 9).any (fun d => bt (nI v) d) = true := by decide +kernel
theorem dr_ex {g : Sg} (h : ∀ k, k < 6 → ∃ v, 0 < v ∧ v < 512 ∧ g.dr k = nI v) {wt : Nat} (hw : wt < 6) : ∃ d, d < 9 ∧ bt (g.dr wt) d = true := by
  obtain ⟨v, v1, v2, v3⟩ := h wt hw
  obtain ⟨d, d1, d2⟩ := List.any_eq_true.mp (dr_any v v2 v1)
  exact ⟨d, List.mem_range.mp d1, by rw [v3]; exact d2⟩
theorem bw_new (g : Sg) (w0 k : Nat) : ∀ (j way : Nat) (b : Bs), k < b.n → ∀ i, b.n ≤ i → i < (bw g w0 k j way b).2.1.n → (bw g w0 k j way b).2.1.dp i = b.dp k + 1
  | 0, way, b, hk, i, h1, h2 => absurd (show i < b.n from h2) (by omega)
  | j + 1, way, b, hk, i, h1, h2 => by
    rw [bw] at h2 ⊢
    by_cases za : alL g (img g (b.st k) way ((w0 + b.dp k) % 6)) = true
    · rw [if_pos za] at h2
      exact absurd (show i < b.n from h2) (by omega)
    · rw [if_neg za] at h2 ⊢
      by_cases zc : b.dp k = 11 ∨ cme b (img g (b.st k) way ((w0 + b.dp k) % 6)) (b.dp k + 1) b.n = true
      · rw [if_pos zc] at h2 ⊢
        exact bw_new g w0 k j (way + 1) b hk i h1 h2
      · rw [if_neg zc] at h2 ⊢
        by_cases zn : b.n = 3000
        · rw [if_pos zn] at h2
          exact absurd (show i < b.n from h2) (by omega)
        · rw [if_neg zn] at h2 ⊢
          obtain ⟨b', hb'⟩ : ∃ b', b' = b.add (img g (b.st k) way ((w0 + b.dp k) % 6)) (b.dp k + 1) (k * 9 + way) := ⟨_, rfl⟩
          have n' : b'.n = b.n + 1 := by rw [hb']; rfl
          have d' : b'.dp k = b.dp k := by rw [hb', Bs.add_dp, if_neg (by omega)]
          have db : b'.dp b.n = b.dp k + 1 := by rw [hb', Bs.add_dp, if_pos rfl]
          rw [← hb'] at h2 ⊢
          by_cases e : i = b.n
          · have pr : ∀ (j way : Nat) (b : Bs), ∀ i, i < b.n → (bw g w0 k j way b).2.1.dp i = b.dp i := by
              intro j
              induction j with
              | zero => intro way b i hi; rfl
              | succ j ih =>
                intro way b i hi
                rw [bw]
                split
                · rfl
                · split
                  · exact ih _ _ i hi
                  · split
                    · rfl
                    · rw [ih _ _ i (by rw [Bs.add_n]; omega), Bs.add_dp, if_neg (by omega)]
            rw [pr j (way + 1) b' i (by omega), e, db]
          · rw [bw_new g w0 k j (way + 1) b' (by omega) i (by omega) h2, d']
/-- what the search changes -/
def FE (s a : Nat) (h h1 : Hp) : Prop := Ed (fun b => (s ≤ b ∧ b ≤ s + 5) ∨ b = a ∨ b = a + 6) h h1 ∧ (∀ k, k ≠ 5 → h1.I s k = h.I s k) ∧ h1.J s = h.J s ∧ h1.I a = h.I a
section GOON
variable {s a fu w0 : Nat} {g : Sg}
theorem FE.rf {h : Hp} : FE s a h h := ⟨Ed.rf, fun _ _ => rfl, rfl, rfl⟩
theorem FE.tr {h h1 h2 : Hp} (x : FE s a h h1) (y : FE s a h1 h2) : FE s a h h2 := ⟨Ed.tr x.1 y.1, fun k hk => (y.2.1 k hk).trans (x.2.1 k hk), y.2.2.1.trans x.2.2.1, y.2.2.2.trans x.2.2.2⟩
theorem KE.fe {h h1 : Hp} (ha : a + 7 ≤ s) (e : KE s h h1) : FE s a h h1 := ⟨e.1.mono (fun b hb => Or.inl (by omega)), e.2.1, e.2.2, (e.1.2.2.2.2 a (by omega)).1⟩
theorem Es.fe {h h1 : Hp} (ha : a + 7 ≤ s) (e : Es a h h1) : FE s a h h1 := by
  obtain ⟨e1, e2, e3, e4, e5, e6⟩ := e
  refine ⟨⟨e1, e2, e3, e4, fun b hb => ⟨by rw [e5], ?_⟩⟩, fun k _ => by rw [e5], ?_, by rw [e5]⟩
  · funext j; exact e6 b j (by omega) (by omega)
  · funext j; exact e6 s j (by omega) (by omega)
theorem Spr.fr {h h1 : Hp} {S : Int64} (e : same h h1 a) (e' : same h h1 (a + 6)) (q : Spr h a g S) : Spr h1 a g S := by
  unfold Spr
  rw [e.2.2.2.1, e'.2.2.2.1]; exact q
theorem SB.es {h h1 : Hp} {b : Bs} (ha : a + 7 ≤ s) (e : Es a h h1) (q : SB h s w0 b) : SB h1 s w0 b := by
  obtain ⟨e1, e2, e3, e4, e5, e6⟩ := e
  have j2 : h1.J (s + 2) = h.J (s + 2) := by funext j; exact e6 (s + 2) j (by omega) (by omega)
  unfold SB SR HI
  rw [e5, j2]; exact q
theorem c_wr15 {b : Bs} (bi : BI g b) : ∀ (d k n : Nat) (h : Hp), SearchS h s → SR h s w0 b → k < b.n → b.dp k = d → d < n → ∃ h1, f_X5_writeRow_15 fu n s (nI k) (nI d - 1) h = some ((), h1) ∧ Ed (fun b => b = s + 1) h h1 ∧ h1.J = h.J ∧ ∀ p, h1.I (s + 1) p = if p < d then nI (bkr b.og d k p) else h.I (s + 1) p
  | 0, k, n, h, q, sr, hk, hd, hn => by
    obtain ⟨n, rfl⟩ := Nat.exists_eq_succ_of_ne_zero (show n ≠ 0 by omega)
    refine ⟨h, ?_, Ed.rf, rfl, fun p => by rw [if_neg (Nat.not_lt_zero p)]⟩
    rw [f_X5_writeRow_15, if_pos (show nI 0 - 1 < 0 by decide)]
  | d + 1, k, n, h, q, sr, hk, hd, hn => by
    obtain ⟨n, rfl⟩ := Nat.exists_eq_succ_of_ne_zero (show n ≠ 0 by omega)
    have h3 := bi.2.1
    obtain ⟨-, d1, o1, d2⟩ := bi.2.2.2 k hk
    have k0 : 0 < k := by
      rcases Nat.eq_zero_or_pos k with e | e
      · rw [e, bi.2.2.1] at hd; cases hd
      · exact e
    obtain ⟨t1, t2, t3⟩ := d2 k0
    obtain ⟨-, -, m4⟩ := sr.2 k hk
    obtain ⟨q0, q1, q2, q3, q4, q5⟩ := id q
    obtain ⟨H, eH⟩ : ∃ H, H = putI h (s + 1) d (nI (b.og k % 9)) := ⟨_, rfl⟩
    have E : Ed (fun b => b = s + 1) h H := by rw [eH]; exact Ed.pI rfl
    have o : ∀ b, b ≠ s + 1 → H.I b = h.I b := fun b hb => (E.2.2.2.2 b hb).1
    have JH : H.J = h.J := by rw [eH]; rfl
    have srH : SR H s w0 b := by
      unfold SR
      rw [o s (by omega), o (s + 3) (by omega), o (s + 4) (by omega), JH]
      exact sr
    have qH := q.ed E
    obtain ⟨h1, a1, a2, a3, a4⟩ := c_wr15 bi d (b.og k / 9) n H qH srH (by omega) (by omega) (by omega)
    refine ⟨h1, ?_, Ed.tr E a2, a3.trans JH, fun p => ?_⟩
    · rw [f_X5_writeRow_15, show nI (d + 1) - 1 = nI d from pk_sub (b := 1) (by omega), if_neg (nI_pos (by omega)), gR_e q0, q1.1, Option.bind_some, gR_e q0, q4.1, Option.bind_some, aI_e q4.2.1 q4.2.2 (show k < 3000 by omega) (by decide), Option.bind_some, m4, l_rem (b := 9) (by omega) (by decide) (by decide), sI_e q1.2.1 q1.2.2 (show d < 12 by omega) (by decide), Option.bind_some, ← eH, gR_e qH.1, qH.2.2.2.2.1.1, Option.bind_some, aI_e qH.2.2.2.2.1.2.1 qH.2.2.2.2.1.2.2 (show k < 3000 by omega) (by decide), Option.bind_some, o (s + 4) (by omega), m4, l_div (b := 9) (by omega) (by decide) (by decide), ← Int32.sub_eq_add_neg]
      exact a1
    · rw [a4, bkr]
      by_cases z : p < d
      · rw [if_pos z, if_pos (by omega), if_neg (by omega)]
      · rw [if_neg z, eH, w3]
        by_cases y : p = d
        · rw [if_pos y, if_pos (by omega), if_pos y]
        · rw [if_neg y, if_neg (by omega)]
theorem c_writeRow {b : Bs} {h : Hp} (hf : 64 < fu) (ha : a + 7 ≤ s) (bi : BI g b) (q : SearchS h s) (sr : SR h s w0 b) {k way : Nat} (hk : k < b.n) : ∃ h1, f_X5_writeRow fu s (nI k) (nI way) (nI (b.dp k)) h = some ((), h1) ∧ FE s a h h1 ∧ Ed (fun b => b = s + 1) h h1 ∧ ∀ p, p ≤ b.dp k → h1.I (s + 1) p = nI (rws b k way p) := by
  obtain ⟨q0, q1, q2, q3, q4, q5⟩ := id q
  obtain ⟨-, d1, -⟩ := bi.2.2.2 k hk
  obtain ⟨H, eH⟩ : ∃ H, H = putI h (s + 1) (b.dp k) (nI way) := ⟨_, rfl⟩
  have E : Ed (fun b => b = s + 1) h H := by rw [eH]; exact Ed.pI rfl
  have o : ∀ b, b ≠ s + 1 → H.I b = h.I b := fun b hb => (E.2.2.2.2 b hb).1
  have JH : H.J = h.J := by rw [eH]; rfl
  have srH : SR H s w0 b := by
    unfold SR
    rw [o s (by omega), o (s + 3) (by omega), o (s + 4) (by omega), JH]
    exact sr
  obtain ⟨h1, a1, a2, a3, a4⟩ := c_wr15 (fu := fu) (s := s) (w0 := w0) bi (b.dp k) k fu H (q.ed E) srH hk rfl (by omega)
  have E2 := Ed.tr E a2
  refine ⟨h1, ?_, ⟨E2.mono (fun b hb => Or.inl (by omega)), fun k _ => by rw [(E2.2.2.2.2 s (by omega)).1], by rw [a3, JH], (E2.2.2.2.2 a (by omega)).1⟩, E2, fun p hp => ?_⟩
  · unfold f_X5_writeRow
    rw [if_pos q0, gR_e q0, q1.1, Option.bind_some, sI_e q1.2.1 q1.2.2 (show b.dp k < 12 by omega) (by decide), Option.bind_some, ← eH]
    exact a1
  · rw [a4]
    unfold rws
    by_cases z : p = b.dp k
    · rw [if_neg (by omega), if_pos z, eH, w3, if_pos z]
    · rw [if_pos (by omega), if_neg z]
theorem c_g45 (hf : 20000 < fu) (ha : a + 7 ≤ s) (hd : ∀ k, k < 6 → ∃ v, 0 < v ∧ v < 512 ∧ g.dr k = nI v) {k : Nat} {kp : Int32} : ∀ (j way n : Nat) (b : Bs) (h : Hp), way + j = 9 → j < n → SearchS h s → Se h a g → SB h s w0 b → BI g b → k < b.n → Spr h a g (b.st k) → (kp = if b.dp k = 11 then 0 else 1) → ∃ h1, FE s a h h1 ∧ SearchS h1 s ∧ Se h1 a g ∧ BI g (bw g w0 k j way b).2.1 ∧ Pre b (bw g w0 k j way b).2.1 ∧ ((bw g w0 k j way b).1 = 0 → f_X5_goOn_45 fu n s a (nI k) (nI (b.dp k)) (nI ((w0 + b.dp k) % 6)) (nI ((w0 + (b.dp k + 1)) % 6)) kp (nI way) h = some (0, h1) ∧ SB h1 s w0 (bw g w0 k j way b).2.1) ∧ ((bw g w0 k j way b).1 = 1 → f_X5_goOn_45 fu n s a (nI k) (nI (b.dp k)) (nI ((w0 + b.dp k) % 6)) (nI ((w0 + (b.dp k + 1)) % 6)) kp (nI way) h = some (1, h1) ∧ ∀ p, p ≤ (bw g w0 k j way b).2.1.dp k → h1.I (s + 1) p = nI (rws (bw g w0 k j way b).2.1 k (bw g w0 k j way b).2.2 p)) ∧ ((bw g w0 k j way b).1 = 2 → f_X5_goOn_45 fu n s a (nI k) (nI (b.dp k)) (nI ((w0 + b.dp k) % 6)) (nI ((w0 + (b.dp k + 1)) % 6)) kp (nI way) h = some (-2, h1)) ∧ (bw g w0 k j way b).1 ≤ 2 := by
  intro j
  induction j with
  | zero =>
    intro way n b h hj hn q se sb bi hk sp hkp
    obtain ⟨n, rfl⟩ := Nat.exists_eq_succ_of_ne_zero (show n ≠ 0 by omega)
    obtain rfl : way = 9 := by omega
    refine ⟨h, FE.rf, q, se, bi, Pre.rf, fun _ => ⟨?_, sb⟩, fun z => (by cases z), fun z => (by cases z), by show 0 ≤ 2; decide⟩
    rw [f_X5_goOn_45, if_pos (show (9 : Int32) ≤ nI 9 by decide)]
  | succ j ih =>
    intro way n b h hj hn q se sb bi hk sp hkp
    obtain ⟨n, rfl⟩ := Nat.exists_eq_succ_of_ne_zero (show n ≠ 0 by omega)
    have h3 := bi.2.1
    obtain ⟨bs, d1, -⟩ := bi.2.2.2 k hk
    obtain ⟨I, hI⟩ : ∃ I, I = img g (b.st k) way ((w0 + b.dp k) % 6) := ⟨_, rfl⟩
    have sI' : subs I g.n := by rw [hI]; exact img_subs se.2.2.2
    have w6 : (w0 + b.dp k) % 6 < 6 := Nat.mod_lt _ (by decide)
    have all : f_X4_isAllLand fu a I h = some (if alL g I = true then 1 else 0, h) := by
      rw [s_isAllLand se sI']
      by_cases z : alL g I = true
      · rw [if_pos z, if_pos ((alL_iff g I).mp z)]
      · rw [if_neg z, if_neg (fun y => z ((alL_iff g I).mpr y))]
    have u : f_X5_goOn_45 fu (n + 1) s a (nI k) (nI (b.dp k)) (nI ((w0 + b.dp k) % 6)) (nI ((w0 + (b.dp k + 1)) % 6)) kp (nI way) h = if alL g I = true then (f_X5_writeRow fu s (nI k) (nI way) (nI (b.dp k)) h).bind fun r76 => some (1, r76.2) else if b.dp k = 11 then f_X5_goOn_45 fu n s a (nI k) (nI (b.dp k)) (nI ((w0 + b.dp k) % 6)) (nI ((w0 + (b.dp k + 1)) % 6)) kp (nI (way + 1)) h else (f_X5_keepNew fu s I (nI ((w0 + (b.dp k + 1)) % 6)) (nI (k * 9 + way)) h).bind fun r98 => if r98.1 = 0 then some ((-2), r98.2) else f_X5_goOn_45 fu n s a (nI k) (nI (b.dp k)) (nI ((w0 + b.dp k) % 6)) (nI ((w0 + (b.dp k + 1)) % 6)) kp (nI (way + 1)) r98.2 := by
      rw [f_X5_goOn_45, if_neg (l_nge (b := 9) (by omega) (by decide)), s_spreadBy se (by omega) bs sp (by omega) w6 (dr_ex hd w6), Option.bind_some]
      dsimp only
      rw [← hI, all, Option.bind_some]
      dsimp only
      by_cases za : alL g I = true
      · rw [if_pos za, if_neg one_ne, if_pos za]
      · rw [if_neg za, if_pos rfl, if_neg za, hkp]
        unfold f_X5_goOn_107
        by_cases z11 : b.dp k = 11
        · rw [if_pos z11, if_pos rfl, if_pos z11, nI_1]
        · rw [if_neg z11, if_neg one_ne, if_neg z11, show (9 : Int32) = nI 9 from rfl, pk_mul, nI_add, nI_1]
    rw [u, bw, ← hI]
    by_cases za : alL g I = true
    · rw [if_pos za, if_pos za]
      obtain ⟨h1, a1, a2, a2e, a3⟩ := c_writeRow (fu := fu) (a := a) (way := way) (by omega) ha bi q sb.1 hk
      rw [a1, Option.bind_some]
      exact ⟨h1, a2, q.ed a2.1, se.fr (fun b p1 p2 => a2e.same (by omega)), bi, Pre.rf, fun z => (by cases z), fun _ => ⟨rfl, a3⟩, fun z => (by cases z), by show 1 ≤ 2; decide⟩
    · rw [if_neg za, if_neg za]
      by_cases z11 : b.dp k = 11
      · rw [if_pos z11, if_pos (Or.inl z11)]
        exact ih (way + 1) n b h (by omega) (by omega) q se sb bi hk sp hkp
      · rw [if_neg z11]
        obtain ⟨h1, r, a1, a2⟩ := c_keepNew (fu := fu) (S := I) (d := b.dp k + 1) (o := k * 9 + way) hf q sb h3
        rw [a1, Option.bind_some]
        dsimp only
        rcases a2 with ⟨c1, rfl, rfl⟩ | ⟨c1, c2, rfl, rfl⟩ | ⟨c1, c2, rfl, c4, c5⟩
        · rw [if_neg one_ne, if_pos (Or.inr c1)]
          exact ih (way + 1) n b h1 (by omega) (by omega) q se sb bi hk sp hkp
        · rw [if_pos rfl, if_neg (fun y => y.elim z11 c1), if_pos c2]
          exact ⟨h1, FE.rf, q, se, bi, Pre.rf, fun z => (by cases z), fun z => (by cases z), fun _ => rfl, by show 2 ≤ 2; decide⟩
        · rw [if_neg one_ne, if_neg (fun y => y.elim z11 c1), if_neg (by omega)]
          have fe := c5.fe ha
          have dk : (b.add I (b.dp k + 1) (k * 9 + way)).dp k = b.dp k := by rw [Bs.add_dp, if_neg (by omega)]
          have sk : (b.add I (b.dp k + 1) (k * 9 + way)).st k = b.st k := by rw [Bs.add_st, if_neg (by omega)]
          have sa : ∀ b, a ≤ b → b < a + 7 → same h h1 b := fun b p1 p2 => c5.1.same (by omega)
          obtain ⟨h2, e1, e2, e3, e4, e5, e6⟩ := ih (way + 1) n _ h1 (by omega) (by omega) (q.ed c5.1) (se.fr sa) c4 (bi.add sI' hk c2 z11 (by omega)) (show k < b.n + 1 by omega) (by rw [sk]; exact sp.fr (sa a (by omega) (by omega)) (sa (a + 6) (by omega) (by omega))) (by rw [dk]; exact hkp)
          rw [dk] at e6
          exact ⟨h2, fe.tr e1, e2, e3, e4, Pre.add.tr e5, e6⟩
end GOON
