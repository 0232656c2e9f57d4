section LEVEL
variable {s a fu w0 : Nat} {g : Sg}
theorem c_goOn (hf : 20000 < fu) (ha : a + 7 ≤ s) (hd : ∀ k, k < 6 → ∃ v, 0 < v ∧ v < 512 ∧ g.dr k = nI v) {k : Nat} {b : Bs} {h : Hp} (q : SearchS h s) (se : Se h a g) (sb : SB h s w0 b) (bi : BI g b) (hk : k < b.n) : ∃ h1, FE s a h h1 ∧ SearchS h1 s ∧ Se h1 a g ∧ BI g (bw g w0 k 9 0 b).2.1 ∧ Pre b (bw g w0 k 9 0 b).2.1 ∧ ((bw g w0 k 9 0 b).1 = 0 → f_X5_goOn fu s a (nI k) (nI (b.dp k)) h = some (0, h1) ∧ SB h1 s w0 (bw g w0 k 9 0 b).2.1) ∧ ((bw g w0 k 9 0 b).1 = 1 → f_X5_goOn fu s a (nI k) (nI (b.dp k)) h = some (1, h1) ∧ ∀ p, p ≤ (bw g w0 k 9 0 b).2.1.dp k → h1.I (s + 1) p = nI (rws (bw g w0 k 9 0 b).2.1 k (bw g w0 k 9 0 b).2.2 p)) ∧ ((bw g w0 k 9 0 b).1 = 2 → f_X5_goOn fu s a (nI k) (nI (b.dp k)) h = some (-2, h1)) ∧ (bw g w0 k 9 0 b).1 ≤ 2 := by
  have h3 := bi.2.1
  obtain ⟨bs, d1, -⟩ := bi.2.2.2 k hk
  obtain ⟨q0, q1, q2, q3, q4, q5⟩ := id q
  obtain ⟨m1, m2, m3⟩ := sb.1.2 k hk
  have hk3 : k < 3000 := by omega
  obtain ⟨h1, a1, a2, a3⟩ := s_spread (fu := fu) se bs
  obtain ⟨kp, hkp⟩ : ∃ kp : Int32, kp = if b.dp k = 11 then 0 else 1 := ⟨_, rfl⟩
  have fe := Es.fe (s := s) ha a2
  obtain ⟨h2, e1, e2, e3, e4, e5, e6⟩ := c_g45 (fu := fu) (w0 := w0) (k := k) hf ha hd 9 0 fu b h1 rfl (by omega) (q.ed fe.1) (a2.se se) (sb.es ha a2) bi hk a3 hkp
  have u : f_X5_goOn fu s a (nI k) (nI (b.dp k)) h = f_X5_goOn_45 fu fu s a (nI k) (nI (b.dp k)) (nI ((w0 + b.dp k) % 6)) (nI ((w0 + (b.dp k + 1)) % 6)) kp (nI 0) h1 := by
    have e30 : ∀ w : Int32, f_X5_goOn_30 fu s a (nI k) (nI (b.dp k)) (nI ((w0 + b.dp k) % 6)) (nI ((w0 + (b.dp k + 1)) % 6)) w h = f_X5_goOn_45 fu fu s a (nI k) (nI (b.dp k)) (nI ((w0 + b.dp k) % 6)) (nI ((w0 + (b.dp k + 1)) % 6)) w (nI 0) h1 := fun w => by
      unfold f_X5_goOn_30
      rw [gR_e q0, q2.1, Option.bind_some, aJ_e q2.2.1 q2.2.2 hk3 (by decide), Option.bind_some, m1, a1, Option.bind_some]
      rfl
    unfold f_X5_goOn
    rw [if_pos q0, gR_e q0, q3.1, Option.bind_some, aI_e q3.2.1 q3.2.2 hk3 (by decide), Option.bind_some, m2, nI_1, nI_1, l_rem (b := 6) (by omega) (by decide) (by decide), show ((w0 + b.dp k) % 6 + 1) % 6 = (w0 + (b.dp k + 1)) % 6 by omega, e30, e30, hkp]
    by_cases z : b.dp k = 11
    · rw [if_pos z, if_pos (l_ge (b := 12) (by omega) (by omega))]
    · rw [if_neg z, if_neg (l_nge (b := 12) (by omega) (by decide))]
  rw [u]
  exact ⟨h2, fe.tr e1, e2, e3, e4, e5, e6⟩
/-- how the search ends -/
def Res (s a : Nat) (g : Sg) (h : Hp) (o : Option (Int32 × Hp)) (R : Nat × Bs × Nat × Nat) : Prop := ∃ h1, FE s a h h1 ∧ SearchS h1 s ∧ Se h1 a g ∧ (R.1 = 0 → o = some (-1, h1)) ∧ (R.1 = 1 → o = some (nI (R.2.1.dp R.2.2.1 + 1), h1) ∧ R.2.1.dp R.2.2.1 ≤ 11 ∧ ∀ p, p ≤ R.2.1.dp R.2.2.1 → h1.I (s + 1) p = nI (rws R.2.1 R.2.2.1 R.2.2.2 p)) ∧ (R.1 = 2 → o = some (-2, h1)) ∧ R.1 ≤ 2
theorem Res.pre {h h' : Hp} {o : Option (Int32 × Hp)} {R : Nat × Bs × Nat × Nat} (e : FE s a h h') (q : Res s a g h' o R) : Res s a g h o R := by
  obtain ⟨h1, a1, a2⟩ := q
  exact ⟨h1, e.tr a1, a2⟩
theorem c_l45 (hf : 20000 < fu) (ha : a + 7 ≤ s) (hd : ∀ k, k < 6 → ∃ v, 0 < v ∧ v < 512 ∧ g.dr k = nI v) {hours behind : Nat} (hh : hours ≤ 11) {K : Nat → Nat → Int32 → Int32 → Hp → Option (Int32 × Hp)} (HK : ∀ (f : Nat) (b : Bs) (h : Hp), behind + f = 3001 → behind ≤ b.n → (∀ i, behind ≤ i → i < b.n → b.dp i = hours + 1) → SearchS h s → Se h a g → SB h s w0 b → BI g b → Res s a g h (K s a (nI behind) (nI (hours + 1)) h) (bk g w0 f behind b)) : ∀ (f k n : Nat) (b : Bs) (h : Hp), k + f = 3001 → k ≤ behind → behind ≤ b.n → f < n → (∀ i, k ≤ i → i < behind → b.dp i = hours) → (∀ i, behind ≤ i → i < b.n → b.dp i = hours + 1) → SearchS h s → Se h a g → SB h s w0 b → BI g b → Res s a g h (f_X5_lookThrough_45 fu K n s a (nI hours) (nI behind) (nI k) h) (bk g w0 f k b) := by
  intro f
  induction f with
  | zero => intro k n b h h1 h2 h3 _ _ _ _ _ _ bi; have := bi.2.1; omega
  | succ f ih =>
    intro k n b h hk hkb hbn hn l1 l2 q se sb bi
    obtain ⟨n, rfl⟩ := Nat.exists_eq_succ_of_ne_zero (show n ≠ 0 by omega)
    have h3 := bi.2.1
    rw [f_X5_lookThrough_45]
    by_cases z : behind ≤ k
    · obtain rfl : k = behind := by omega
      rw [if_pos (nI_le z (by omega)), nI_1]
      exact HK (f + 1) b h hk hbn l2 q se sb bi
    · rw [if_neg (nI_ge (show k < behind by omega) (by omega)), bk, if_neg (show ¬ b.n ≤ k by omega)]
      have dk : b.dp k = hours := l1 k (Nat.le_refl _) (by omega)
      obtain ⟨h1, a1, a2, a3, a4, a5, a6, a7, a8, a9⟩ := c_goOn (fu := fu) (w0 := w0) hf ha hd q se sb bi (show k < b.n by omega)
      have nw := bw_new g w0 k 9 0 b (by omega)
      rw [dk] at a6 a7 a8 nw
      obtain ⟨R, hR⟩ : ∃ R, R = bw g w0 k 9 0 b := ⟨_, rfl⟩
      rw [← hR] at a4 a5 a6 a7 a8 a9 nw ⊢
      by_cases r0 : R.1 = 0
      · rw [if_pos r0, (a6 r0).1, Option.bind_some]
        dsimp only
        rw [if_pos rfl, nI_1]
        refine Res.pre a1 (ih (k + 1) n R.2.1 h1 (by omega) (by omega) (by have := a5.1; omega) (by omega) (fun i i1 i2 => ?_) (fun i i1 i2 => ?_) a2 a3 (a6 r0).2 a4)
        · rw [(a5.2 i (by omega)).2.1]; exact l1 i (by omega) i2
        · by_cases y : i < b.n
          · rw [(a5.2 i y).2.1]; exact l2 i i1 y
          · exact nw i (by omega) i2
      · rw [if_neg r0]
        have dR : R.2.1.dp k = hours := by rw [(a5.2 k (by omega)).2.1]; exact dk
        refine ⟨h1, a1, a2, a3, fun y => absurd y r0, fun y => ?_, fun y => ?_, a9⟩
        · obtain ⟨c1, c2⟩ := a7 y
          refine ⟨?_, by show R.2.1.dp k ≤ 11; omega, c2⟩
          rw [c1, Option.bind_some]
          dsimp only
          rw [if_neg one_ne, if_pos rfl, nI_1]
          show _ = some (nI (R.2.1.dp k + 1), h1)
          rw [dR]
        · rw [a8 y, Option.bind_some]
          dsimp only
          rw [if_neg (by decide), if_neg (by decide)]
theorem c_l28 (hf : 20000 < fu) (ha : a + 7 ≤ s) (hd : ∀ k, k < 6 → ∃ v, 0 < v ∧ v < 512 ∧ g.dr k = nI v) : ∀ (r hours first n f : Nat) (b : Bs) (h : Hp), hours + r = 12 → r < n → first + f = 3001 → first ≤ b.n → (∀ i, first ≤ i → i < b.n → b.dp i = hours) → SearchS h s → Se h a g → SB h s w0 b → BI g b → Res s a g h (f_X5_lookThrough_28 fu n s a (nI first) (nI hours) h) (bk g w0 f first b) := by
  intro r
  induction r with
  | zero =>
    intro hours first n f b h hr hn hfi hfb l q se sb bi
    obtain ⟨n, rfl⟩ := Nat.exists_eq_succ_of_ne_zero (show n ≠ 0 by omega)
    have h3 := bi.2.1
    obtain ⟨f, rfl⟩ := Nat.exists_eq_succ_of_ne_zero (show f ≠ 0 by omega)
    have nb : b.n ≤ first := by
      by_cases z : b.n ≤ first
      · exact z
      · have a1 := l first (Nat.le_refl _) (by omega)
        obtain ⟨-, d1, -⟩ := bi.2.2.2 first (by omega)
        omega
    rw [f_X5_lookThrough_28, if_pos (l_ge (b := 12) (by omega) (by omega)), bk, if_pos nb]
    exact ⟨h, FE.rf, q, se, fun _ => rfl, fun z => (by cases z), fun z => (by cases z), by show 0 ≤ 2; decide⟩
  | succ r ih =>
    intro hours first n f b h hr hn hfi hfb l q se sb bi
    obtain ⟨n, rfl⟩ := Nat.exists_eq_succ_of_ne_zero (show n ≠ 0 by omega)
    have h3 := bi.2.1
    rw [f_X5_lookThrough_28, if_neg (l_nge (b := 12) (by omega) (by decide)), gI_e q.1, Option.bind_some, sb.1.1]
    exact c_l45 hf ha hd (hours := hours) (behind := b.n) (by omega) (fun f b' h' e1 e2 e3 q' se' sb' bi' => ih (hours + 1) b.n n f b' h' (by omega) (by omega) e1 e2 e3 q' se' sb' bi') f first fu b h hfi hfb (Nat.le_refl _) (by omega) l (fun i i1 i2 => by omega) q se sb bi
theorem cnt_none {p : Nat → Bool} : ∀ n, (∀ i, i < n → p i = false) → cnt p n = 0
  | 0, _ => rfl
  | n + 1, h => by rw [cnt, cnt_none n (fun i hi => h i (by omega)), h n (by omega)]; rfl
def bs0 (S : Int64) : Bs := ⟨0, fun _ => S, fun _ => 0, fun _ => 0⟩
theorem bs0_add (S : Int64) : (bs0 S).add S 0 0 = Bs.one S := by
  unfold Bs.add Bs.one bs0 Bs.n Bs.st Bs.dp Bs.og
  simp only [ite_self]
  rfl
theorem c_look (hf : 20000 < fu) (hf2 : fu < 2 ^ 31) (ha : a + 7 ≤ s) (hd : ∀ k, k < 6 → ∃ v, 0 < v ∧ v < 512 ∧ g.dr k = nI v) {h : Hp} {S : Int64} {wt : Nat} (hw : wt < 6) (hs : subs S g.n) (q : SearchS h s) (se : Se h a g) : Res s a g h (f_X5_lookThrough fu s a S (nI wt) h) (blX g S wt) := by
  obtain ⟨q0, q1, q2, q3, q4, q5⟩ := id q
  obtain ⟨h1, a1, a2, a3, a4⟩ := s_fill (h := h) (fu := fu) (b := s + 5) (L := 4096) (v := 0) (by omega) hf2 q5.2.1 q5.2.2
  have K1 : h1.K s = 5 := by rw [a2.2.1]; exact q0
  obtain ⟨H, eH⟩ : ∃ H, H = putI h1 s 5 0 := ⟨_, rfl⟩
  have E : Ed (fun b => b = s ∨ (s + 2 ≤ b ∧ b ≤ s + 5)) h H := by
    rw [eH]
    exact Ed.tr (a2.mono (fun b hb => Or.inr (by omega))) (Ed.pI (Or.inl rfl))
  have ke : KE s h H := by
    refine ⟨E, fun k hk => ?_, ?_⟩
    · rw [eH, w3, if_neg hk, (a2.2.2.2.2 s (by omega)).1]
    · rw [eH]
      show h1.J s = h.J s
      rw [a3]
  have s5 : ∀ i, i < 4096 → H.I (s + 5) i = 0 := fun i hi => by
    rw [eH, putI_I, if_neg (by omega)]; exact a4 i hi
  have sb0 : SB H s wt (bs0 S) := by
    refine ⟨⟨by rw [eH, w3, if_pos rfl]; rfl, fun k hk => absurd hk (Nat.not_lt_zero k)⟩, fun i hi => ⟨0, Nat.le_refl _, s5 i hi⟩, fun k hk => absurd hk (Nat.not_lt_zero k), ?_⟩
    rw [cnt_none 4096 (fun i hi => decide_eq_false (fun z => z (s5 i hi)))]
    exact Nat.zero_le _
  obtain ⟨h2, r, b1, b2⟩ := c_keepNew (fu := fu) (S := S) (d := 0) (o := 0) hf (q.ed E) sb0 (show 0 ≤ 3000 by decide)
  rw [show (wt + 0) % 6 = wt by omega] at b1
  have nc : ¬ cme (bs0 S) S 0 (bs0 S).n = true := fun z => by cases z
  rcases b2 with ⟨c1, -⟩ | ⟨-, c2, -⟩ | ⟨c1, c2, rfl, c4, c5⟩
  · exact absurd c1 nc
  · cases c2
  · rw [bs0_add] at c4
    have fe : FE s a h h2 := (ke.fe ha).tr (c5.fe ha)
    have ke2 := ke.tr c5
    have R := c_l28 (fu := fu) (w0 := wt) hf ha hd 12 0 0 fu 3001 (Bs.one S) h2 rfl (by omega) rfl (Nat.zero_le _) (fun i _ _ => rfl) (q.ed fe.1) (se.fr (fun b p1 p2 => ke2.1.same (by omega))) c4 (BI.one hs)
    have u : f_X5_lookThrough fu s a S (nI wt) h = f_X5_lookThrough_28 fu fu s a (nI 0) (nI 0) h2 := by
      unfold f_X5_lookThrough
      rw [if_pos q0, gR_e q0, q5.1, Option.bind_some, a1, Option.bind_some]
      dsimp only
      rw [pI_e K1, Option.bind_some, ← eH, show f_X5_keepNew fu s S (nI wt) 0 H = _ from b1, Option.bind_some]
      rfl
    rw [u]
    exact R.pre fe
end LEVEL
