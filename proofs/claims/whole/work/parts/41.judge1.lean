/-! THE JUDGE'S TABLES, the class's side -/
/-- a small number, or far above -/
def gp (k v : Nat) : Prop := v ≤ k ∨ (1000000 ≤ v ∧ v ≤ 1000000 + k)
theorem gp.up {k k' v : Nat} (h : gp k v) (hk : k ≤ k') : gp k' v := by unfold gp at *; omega
theorem gp.s {k v : Nat} (h : gp k v) : gp (k + 1) (v + 1) := by unfold gp at *; omega
theorem gp.mx {k a b : Nat} (h : gp k a) (h2 : gp k b) : gp k (max a b) := by unfold gp at *; omega
theorem gp.mn {k a b : Nat} (h : gp k a) (h2 : gp k b) : gp k (min a b) := by unfold gp at *; omega
theorem fmx_gp {g : Sg} {wt way cell K : Nat} {T : Nat → Nat} (hT : ∀ q, q < g.n → gp K (T q)) (hg : g.ok) : ∀ (k d a : Nat), gp K a → gp K (fmx g wt way cell T k d a)
  | 0, _, _, h => h
  | k + 1, d, a, h => by
    rw [fmx]
    refine fmx_gp hT hg k (d + 1) _ ?_
    split
    · exact h.mx (hT _ (gof_lt hg _ _ _))
    · exact h
theorem fmn_gp {g : Sg} {wt way cell K : Nat} {T : Nat → Nat} (hT : ∀ q, q < g.n → gp K (T q)) (hg : g.ok) : ∀ (k d a : Nat), gp K a → gp K (fmn g wt way cell T k d a)
  | 0, _, _, h => h
  | k + 1, d, a, h => by
    rw [fmn]
    refine fmn_gp hT hg k (d + 1) _ ?_
    split
    · exact h.mn (hT _ (gof_lt hg _ _ _))
    · exact h
def Gp (g : Sg) (K : Nat) (T : Tb) : Prop := ∀ wt, wt < 6 → ∀ cell, cell < g.n → gp K (T wt cell).1 ∧ gp K (T wt cell).2
theorem Gp.up {g : Sg} {K K' : Nat} {T : Tb} (h : Gp g K T) (hk : K ≤ K') : Gp g K' T := fun wt hw c hc => ⟨(h wt hw c hc).1.up hk, (h wt hw c hc).2.up hk⟩
theorem hrT_gp {g : Sg} (hg : g.ok) {c : Cg} {l K : Nat} {B N : Tb} (hB : Gp g K B) (hN : Gp g K N) : Gp g (K + 1) (hrT g c l B N) := by
  intro wt hwt cell hc
  unfold hrT
  split
  · exact ⟨Or.inl (Nat.zero_le _), Or.inl (Nat.zero_le _)⟩
  · split
    · exact ⟨(hB wt hwt cell hc).1.up (by omega), (hB wt hwt cell hc).2.up (by omega)⟩
    · exact ⟨(fmx_gp (fun q hq => (hN _ (Nat.mod_lt _ (by omega)) q hq).1) hg 9 0 0 (Or.inl (Nat.zero_le _))).s, (fmn_gp (fun q hq => (hN _ (Nat.mod_lt _ (by omega)) q hq).2) hg 9 0 1000000 (Or.inr ⟨Nat.le_refl _, by omega⟩)).s⟩
theorem lnT_gp {g : Sg} (hg : g.ok) {c : Cg} {l K : Nat} {B : Tb} (hB : Gp g K B) : ∀ k, Gp g (K + k) (lnT g c l B k)
  | 0 => hB
  | k + 1 => by
    rw [lnT]
    exact hrT_gp hg (hB.up (Nat.le_add_right K k)) (lnT_gp hg hB k)
theorem chT_gp {g : Sg} (hg : g.ok) {c : Cg} (ok : c.ok) : ∀ i, i ≤ c.n → Gp g (20 * i) (chT g c i)
  | 0, _ => by
    intro wt _ cell _
    unfold chT tb00
    split
    · exact ⟨Or.inl (Nat.zero_le _), Or.inl (Nat.zero_le _)⟩
    · exact ⟨Or.inr ⟨Nat.le_refl _, by omega⟩, Or.inr ⟨Nat.le_refl _, by omega⟩⟩
  | i + 1, hi => by
    rw [chT]
    have h20 := (ok.2 (c.n - 1 - i) (by omega)).2.2.2.2
    exact (lnT_gp hg (chT_gp hg ok i (by omega)) _).up (by omega)
theorem mx_n {a b : Nat} (ha : a < 2 ^ 31) (hb : b < 2 ^ 31) : mmax (nI a) (nI b) = nI (max a b) := by
  unfold mmax
  by_cases e : a < b
  · rw [if_pos (nI_lt e hb), Nat.max_eq_right (by omega)]
  · rw [if_neg (nI_nlt (by omega) ha), Nat.max_eq_left (by omega)]
theorem mn_n {a b : Nat} (ha : a < 2 ^ 31) (hb : b < 2 ^ 31) : mmin (nI a) (nI b) = nI (min a b) := by
  unfold mmin
  by_cases e : b < a
  · rw [if_pos (nI_lt e ha), Nat.min_eq_right (by omega)]
  · rw [if_neg (nI_nlt (by omega) hb), Nat.min_eq_left (by omega)]
def JW (h : Hp) (j p q r : Nat) : Prop := h.K j = 1 ∧ OutS h p ∧ OutS h q ∧ OutS h r ∧ arr h j 5 (j + 10) 8 576 ∧ arr h j 6 (j + 11) 9 6 ∧ h.R j 2 = some p ∧ h.R j 3 = some q ∧ h.R j 4 = some r ∧ slt j p ∧ slt j q ∧ slt j r ∧ p ≠ q ∧ p ≠ r ∧ q ≠ r
theorem JudgeS.w {h : Hp} {j : Nat} (q : JudgeS h j) : ∃ p q r, JW h j p q r := by
  obtain ⟨q1, o1, o2, o3, q5, q6, p, q, r, a1, a2, a3, b1, b2, b3, c1, c2, c3⟩ := q
  have o : ∀ p, slt j p → OutS h p := by
    rintro p (rfl | rfl | rfl)
    · exact o1
    · exact o2
    · exact o3
  exact ⟨p, q, r, q1, o p b1, o q b2, o r b3, q5, q6, a1, a2, a3, b1, b2, b3, c1, c2, c3⟩
theorem JW.s {h : Hp} {j p q r : Nat} (w : JW h j p q r) : JudgeS h j := by
  obtain ⟨q1, o1, o2, o3, q5, q6, a1, a2, a3, b1, b2, b3, c1, c2, c3⟩ := w
  have o : ∀ s, slt j s → OutS h s := by
    intro s hs
    have : s = p ∨ s = q ∨ s = r := by unfold slt at *; omega
    rcases this with rfl | rfl | rfl
    · exact o1
    · exact o2
    · exact o3
  exact ⟨q1, o _ (Or.inl rfl), o _ (Or.inr (Or.inl rfl)), o _ (Or.inr (Or.inr rfl)), q5, q6, p, q, r, a1, a2, a3, b1, b2, b3, c1, c2, c3⟩
theorem Ed.outS {P : Nat → Prop} {h h1 : Hp} (e : Ed P h h1) {o : Nat} (q : OutS h o) : OutS h1 o := ⟨by rw [e.2.1]; exact q.1, e.arr q.2.1, e.arr q.2.2⟩
theorem JW.ed {P : Nat → Prop} {h h1 : Hp} {j p q r : Nat} (e : Ed P h h1) (w : JW h j p q r) : JW h1 j p q r := by
  obtain ⟨q1, o1, o2, o3, q5, q6, a1, a2, a3, b1, b2, b3, c1, c2, c3⟩ := w
  exact ⟨by rw [e.2.1]; exact q1, e.outS o1, e.outS o2, e.outS o3, e.arr q5, e.arr q6, by rw [e.2.2.2.1]; exact a1, by rw [e.2.2.2.1]; exact a2, by rw [e.2.2.2.1]; exact a3, b1, b2, b3, c1, c2, c3⟩
def st2 (h : Hp) (o i : Nat) (v w : Int32) : Hp := putI (putI h (o + 1) i v) (o + 2) i w
theorem st2_E {h : Hp} {o i : Nat} {v w : Int32} : Ed (fun b => b = o + 1 ∨ b = o + 2) h (st2 h o i v w) := Ed.tr (Ed.pI (Or.inl rfl)) (Ed.pI (Or.inr rfl))
theorem st2_1 (h : Hp) (o i : Nat) (v w : Int32) (k : Nat) : (st2 h o i v w).I (o + 1) k = if k = i then v else h.I (o + 1) k := by
  unfold st2; rw [putI_I, if_neg (by omega), putI_I, if_pos rfl]
theorem st2_2 (h : Hp) (o i : Nat) (v w : Int32) (k : Nat) : (st2 h o i v w).I (o + 2) k = if k = i then w else h.I (o + 2) k := by
  unfold st2; rw [putI_I, if_pos rfl, putI_I, if_neg (show ¬ o + 2 = o + 1 by omega)]
section JUDGE1
variable {fu : Nat}
theorem c_set {h : Hp} {o i : Nat} {v w : Int32} (q : OutS h o) (hi : i < 384) : f_X2_set fu o (nI i) v w h = some ((), st2 h o i v w) := by
  obtain ⟨q1, q2, q3⟩ := q
  unfold f_X2_set st2
  rw [if_pos q1, gR_e q1, q2.1, Option.bind_some, sI_e q2.2.1 q2.2.2 hi (by omega), Option.bind_some, gR_e (h := putI _ _ _ _) q1]
  rw [show (putI h (o + 1) i v).R o 1 = some (o + 2) from q3.1, Option.bind_some, sI_e (h := putI _ _ _ _) q3.2.1 q3.2.2 hi (by omega), Option.bind_some]
/-- the targets of a way, the stops of a line -/
def TgH (h : Hp) (j : Nat) (g : Sg) (way : Nat) : Prop := ∀ cell, cell < g.n → ∀ d, d < 9 → h.I (j + 10) (cell * 9 + d) = nI (gof g cell way d)
def StH (h : Hp) (j : Nat) (g : Sg) (c : Cg) (l : Nat) : Prop := ∀ wt, wt < 6 → ∀ i, i < g.n → tb (h.J (j + 11) wt) i = thr g c l wt i
theorem c_steerOn {h : Hp} {j p q r : Nat} {g : Sg} {N : Tb} {K way cell wt i : Nat} (hg : g.ok) (w : JW h j p q r) (tg : TgH h j g way) (tq : TabH h q g N) (gN : Gp g K N) (hK : K ≤ 1000) (hc : cell < g.n) (hwt : wt < 6) (hi : i < 384) : ∀ (k d n a b : Nat), d + k = 9 → k < n → a ≤ 1001000 → b ≤ 1001000 → f_X1_steerOn_10 fu n j (nI cell) (nI i) (nI ((wt + 1) % 6 * 64)) (g.dr wt) (nI a) (nI b) (nI d) h = some ((), st2 h r i (nI (fmx g wt way cell (fun z => (N ((wt + 1) % 6) z).1) k d a + 1)) (nI (fmn g wt way cell (fun z => (N ((wt + 1) % 6) z).2) k d b + 1)))
  | 0, d, n, a, b, hd, hn, ha, hb => by
    obtain ⟨n, rfl⟩ := Nat.exists_eq_succ_of_ne_zero (show n ≠ 0 by omega)
    obtain ⟨q1, o1, o2, o3, q5, q6, a1, a2, a3, b1, b2, b3, c1, c2, c3⟩ := w
    rw [f_X1_steerOn_10, if_pos (l_ge (b := 9) (by omega) (by omega)), gR_e q1, a3, Option.bind_some, nI_1, nI_1, c_set o3 hi, Option.bind_some, fmx, fmn]
  | k + 1, d, n, a, b, hd, hn, ha, hb => by
    obtain ⟨n, rfl⟩ := Nat.exists_eq_succ_of_ne_zero (show n ≠ 0 by omega)
    have ih := fun a b => c_steerOn (i := i) hg w tg tq gN hK hc hwt hi k (d + 1) n a b (by omega) (by omega)
    have h64 := hg.n64
    have hm : (wt + 1) % 6 < 6 := Nat.mod_lt _ (by omega)
    have ht := gof_lt hg cell way d
    obtain ⟨q1, o1, o2, o3, q5, q6, a1, a2, a3, b1, b2, b3, c1, c2, c3⟩ := w
    obtain ⟨t1, t2⟩ := tq _ hm _ ht
    obtain ⟨g1, g2⟩ := gN _ hm _ ht
    rw [f_X1_steerOn_10, if_neg (l_nge (b := 9) (by omega) (by decide)), s_has (by omega), Option.bind_some, tb_i2l _ (by omega), fmx, fmn]
    cases z : bt (g.dr wt) d
    · rw [if_pos (show ((if false = true then 1 else 0 : Int32), h).1 = 0 from rfl)]
      show f_X1_steerOn_10 fu n j (nI cell) (nI i) (nI ((wt + 1) % 6 * 64)) (g.dr wt) (nI a) (nI b) (nI d + 1) h = _
      rw [nI_1, ih a b ha hb]
      rfl
    · rw [if_neg (show ¬ ((if true = true then 1 else 0 : Int32), h).1 = 0 from one_ne)]
      dsimp only
      rw [gR_e q1, q5.1, Option.bind_some, show nI cell * 9 = nI (cell * 9) from pk_mul cell 9, nI_add, aI_e q5.2.1 q5.2.2 (show cell * 9 + d < 576 by omega) (by omega), Option.bind_some, tg cell hc d (by omega), gR_e q1, a2, Option.bind_some, gR_e o2.1, o2.2.1.1, Option.bind_some, nI_add, aI_e o2.2.1.2.1 o2.2.1.2.2 (show (wt + 1) % 6 * 64 + gof g cell way d < 384 by omega) (by omega), Option.bind_some, t1, Option.bind_some, gR_e o2.1, o2.2.2.1, Option.bind_some, aI_e o2.2.2.2.1 o2.2.2.2.2 (show (wt + 1) % 6 * 64 + gof g cell way d < 384 by omega) (by omega), Option.bind_some, t2]
      unfold gp at g1 g2
      show f_X1_steerOn_10 fu n j (nI cell) (nI i) (nI ((wt + 1) % 6 * 64)) (g.dr wt) (mmax (nI a) (nI _)) (mmin (nI b) (nI _)) (nI d + 1) h = _
      rw [nI_1, mx_n (by omega) (by omega), mn_n (by omega) (by omega), ih _ _ (by omega) (by omega)]
      rfl
end JUDGE1
