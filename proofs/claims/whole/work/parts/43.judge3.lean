section JUDGE3
variable {fu : Nat}
/-- only the judge's cells change, and not its own numbers -/
def EJ (j : Nat) (h h1 : Hp) : Prop := h1.N = h.N ∧ h1.K = h.K ∧ h1.L = h.L ∧ h1.I j = h.I j ∧ ∀ b, b < j ∨ j + 12 ≤ b → same h h1 b
theorem EJ.rf {j : Nat} {h : Hp} : EJ j h h := ⟨rfl, rfl, rfl, rfl, fun _ _ => same.rf⟩
theorem EJ.tr {j : Nat} {h h1 h2 : Hp} (a : EJ j h h1) (b : EJ j h1 h2) : EJ j h h2 := ⟨b.1.trans a.1, b.2.1.trans a.2.1, b.2.2.1.trans a.2.2.1, b.2.2.2.1.trans a.2.2.2.1, fun q hq => (a.2.2.2.2 q hq).tr (b.2.2.2.2 q hq)⟩
theorem Ed.ej {P : Nat → Prop} {j : Nat} {h h1 : Hp} (e : Ed P h h1) (hp : ∀ b, P b → j < b ∧ b < j + 12) : EJ j h h1 := ⟨e.1, e.2.1, e.2.2.1, (e.2.2.2.2 j (fun z => by have := hp j z; omega)).1, fun b hb => e.same (fun z => by have := hp b z; omega)⟩
theorem ej_pR {j k : Nat} {h : Hp} {v : Option Nat} : EJ j h (putR h j k v) := ⟨rfl, rfl, rfl, rfl, fun b hb => pR_same (by omega)⟩
theorem OutS.k {h h1 : Hp} {o : Nat} (ek : h1.K = h.K) (el : h1.L = h.L) (er : h1.R o = h.R o) (q : OutS h o) : OutS h1 o := by
  obtain ⟨q1, q2, q3⟩ := q
  exact ⟨by rw [ek]; exact q1, ⟨by rw [er]; exact q2.1, by rw [ek]; exact q2.2.1, by rw [el]; exact q2.2.2⟩, ⟨by rw [er]; exact q3.1, by rw [ek]; exact q3.2.1, by rw [el]; exact q3.2.2⟩⟩
/-- the rows change places -/
theorem JW.sw {h : Hp} {j p q r k v k' v' P Q R : Nat} (w : JW h j p q r) (hk : k = 2 ∨ k = 3 ∨ k = 4) (hk' : k' = 2 ∨ k' = 3 ∨ k' = 4) (e2 : (putR (putR h j k (some v)) j k' (some v')).R j 2 = some P) (e3 : (putR (putR h j k (some v)) j k' (some v')).R j 3 = some Q) (e4 : (putR (putR h j k (some v)) j k' (some v')).R j 4 = some R) (hP : P = p ∨ P = q ∨ P = r) (hQ : Q = p ∨ Q = q ∨ Q = r) (hR : R = p ∨ R = q ∨ R = r) (d1 : P ≠ Q) (d2 : P ≠ R) (d3 : Q ≠ R) : JW (putR (putR h j k (some v)) j k' (some v')) j P Q R := by
  obtain ⟨q1, o1, o2, o3, q5, q6, a1, a2, a3, b1, b2, b3, c1, c2, c3⟩ := w
  have sl : ∀ s, s = p ∨ s = q ∨ s = r → slt j s ∧ OutS h s := by
    rintro s (rfl | rfl | rfl)
    · exact ⟨b1, o1⟩
    · exact ⟨b2, o2⟩
    · exact ⟨b3, o3⟩
  have oo : ∀ s, s = p ∨ s = q ∨ s = r → OutS (putR (putR h j k (some v)) j k' (some v')) s := by
    intro s hs
    have z := sl s hs
    have ne : s ≠ j := by have := z.1; unfold slt at this; omega
    exact OutS.k (h := h) rfl rfl ((pR_same ne).tr (pR_same ne)).2.2.2.2 z.2
  refine ⟨q1, oo P hP, oo Q hQ, oo R hR, ⟨?_, q5.2.1, q5.2.2⟩, ⟨?_, q6.2.1, q6.2.2⟩, e2, e3, e4, (sl P hP).1, (sl Q hQ).1, (sl R hR).1, d1, d2, d3⟩
  · rw [pR_R, if_pos rfl, if_neg (by omega), pR_R, if_pos rfl, if_neg (by omega)]; exact q5.1
  · rw [pR_R, if_pos rfl, if_neg (by omega), pR_R, if_pos rfl, if_neg (by omega)]; exact q6.1
theorem c_line61 {a j p : Nat} {g : Sg} {c : Cg} {l K : Nat} {B : Tb} (hf : 64 < fu) (hg : g.ok) (gB : Gp g K B) (hK : K + c.hr l ≤ 1000) (ha : a + 7 ≤ j) : ∀ (k m n q r : Nat) (h : Hp), m + k = c.hr l → k < n → RO h a j p q r g c l B (lnT g c l B m) → ∃ h1 q' r', f_X1_goThroughLine_61 fu n j a (nI k) h = some ((), h1) ∧ JW h1 j q' p r' ∧ TabH h1 q' g (lnT g c l B (c.hr l)) ∧ EJ j h h1
  | 0, m, n, q, r, h, hm, hn, x => by
    obtain ⟨n, rfl⟩ := Nat.exists_eq_succ_of_ne_zero (show n ≠ 0 by omega)
    obtain ⟨q1, o1, o2, o3, q5, q6, a1, a2, a3, b1, b2, b3, c1, c2, c3⟩ := id x.1
    refine ⟨putR (putR h j 3 (some p)) j 2 (some q), q, r, ?_, ?_, ?_, EJ.tr ej_pR ej_pR⟩
    · rw [f_X1_goThroughLine_61, if_pos (by decide), gR_e q1, a2, Option.bind_some, gR_e q1, a1, Option.bind_some, pR_e q1, Option.bind_some, pR_e (h := putR h j 3 (some p)) q1, Option.bind_some]
    · refine x.1.sw (Or.inr (Or.inl rfl)) (Or.inl rfl) ?_ ?_ ?_ (Or.inr (Or.inl rfl)) (Or.inl rfl) (Or.inr (Or.inr rfl)) (fun z => c1 z.symm) c3 c2
      · rw [pR_R, if_pos rfl, if_pos rfl]
      · rw [pR_R, if_pos rfl, if_neg (by decide), pR_R, if_pos rfl, if_pos rfl]
      · rw [pR_R, if_pos rfl, if_neg (by decide), pR_R, if_pos rfl, if_neg (by decide)]; exact a3
    · have := x.2.2.2.1
      rw [show m = c.hr l by omega] at this
      exact this
  | k + 1, m, n, q, r, h, hm, hn, x => by
    obtain ⟨n, rfl⟩ := Nat.exists_eq_succ_of_ne_zero (show n ≠ 0 by omega)
    obtain ⟨h1, p1, p2, p3, p4⟩ := c_hours (fu := fu) (K := K + m) (x4 := nI (k + 1)) (k61 := fun y0 y1 y2 hy => f_X1_goThroughLine_61 fu n y0 y1 y2 hy) hf hg (lnT_gp hg gB m) (by omega) ha 6 0 fu h (by omega) (by omega) x (fun w z => by omega)
    obtain ⟨w, se, tp, tq, tg, sth⟩ := p2
    obtain ⟨q1, o1, o2, o3, q5, q6, a1, a2, a3, b1, b2, b3, c1, c2, c3⟩ := id w
    have w2 : JW (putR (putR h1 j 4 (some q)) j 3 (some r)) j p r q := by
      refine w.sw (Or.inr (Or.inr rfl)) (Or.inr (Or.inl rfl)) ?_ ?_ ?_ (Or.inl rfl) (Or.inr (Or.inr rfl)) (Or.inr (Or.inl rfl)) c2 c1 (fun z => c3 z.symm)
      · rw [pR_R, if_pos rfl, if_neg (by decide), pR_R, if_pos rfl, if_neg (by decide)]; exact a1
      · rw [pR_R, if_pos rfl, if_pos rfl]
      · rw [pR_R, if_pos rfl, if_neg (by decide), pR_R, if_pos rfl, if_pos rfl]
    have x2 : RO (putR (putR h1 j 4 (some q)) j 3 (some r)) a j p r q g c l B (lnT g c l B (m + 1)) := ⟨w2, se.fr (fun b z1 z2 => (pR_same (by omega)).tr (pR_same (by omega))), tp, p3, tg, sth⟩
    obtain ⟨h2, q', r', s1, s2, s3, s4⟩ := c_line61 hf hg gB hK ha k (m + 1) n r q _ (by omega) (by omega) x2
    have ej1 : EJ j h h1 := p1.ej (fun b hb => by unfold slt at b3; omega)
    refine ⟨h2, q', r', ?_, s2, s3, (ej1.tr (EJ.tr ej_pR ej_pR)).tr s4⟩
    have k31 : k + 1 < 2 ^ 31 := by omega
    rw [f_X1_goThroughLine_61, if_neg (nI_nle (Nat.succ_pos k) k31)]
    rw [show (0 : Int32) = nI 0 from rfl, p4]
    rw [nI_m1]
    exact s1
theorem c_ft13 {a j way ce : Nat} {g : Sg} (hce : ce < g.n) (hw : way < 9) (ha : a + 7 ≤ j) {k2 : Nat → Nat → Int32 → Int32 → Hp → Option (Unit × Hp)} : ∀ (k d n : Nat) (h : Hp), d + k = 9 → k < n → h.K j = 1 → arr h j 5 (j + 10) 8 576 → Se h a g → (∀ e, e < d → h.I (j + 10) (ce * 9 + e) = nI (gof g ce way e)) → ∃ h1, f_X1_findTargets_13 fu k2 n j a (nI way) (nI ce) (nI d) h = k2 j a (nI way) (nI (ce + 1)) h1 ∧ Ed (fun b => b = j + 10) h h1 ∧ (∀ e, e < 9 → h1.I (j + 10) (ce * 9 + e) = nI (gof g ce way e)) ∧ ∀ i, i < ce * 9 → h1.I (j + 10) i = h.I (j + 10) i
  | 0, d, n, h, hd, hn, hK, ar, se, hi => by
    obtain ⟨n, rfl⟩ := Nat.exists_eq_succ_of_ne_zero (show n ≠ 0 by omega)
    refine ⟨h, ?_, Ed.rf, fun e z => hi e (by omega), fun _ _ => rfl⟩
    rw [f_X1_findTargets_13, if_pos (l_ge (b := 9) (by omega) (by omega)), nI_1]
  | k + 1, d, n, h, hd, hn, hK, ar, se, hi => by
    obtain ⟨n, rfl⟩ := Nat.exists_eq_succ_of_ne_zero (show n ≠ 0 by omega)
    have h64 := se.2.2.2.n64
    have e2 : Ed (fun b => b = j + 10) h (putI h (j + 10) (ce * 9 + d) (nI (gof g ce way d))) := Ed.pI rfl
    obtain ⟨h1, p1, p2, p3, p4⟩ := c_ft13 hce hw ha (k2 := k2) k (d + 1) n (putI h (j + 10) (ce * 9 + d) (nI (gof g ce way d))) (by omega) (by omega) hK (e2.arr ar) (se.fr (fun b z1 z2 => e2.same (by omega))) (fun e z => by
      rw [putI_I, if_pos rfl]
      by_cases zz : e = d
      · rw [if_pos (by omega), zz]
      · rw [if_neg (by omega)]; exact hi e (by omega))
    refine ⟨h1, ?_, Ed.tr e2 p2, p3, fun i z => by rw [p4 i z, putI_I, if_pos rfl, if_neg (by omega)]⟩
    rw [f_X1_findTargets_13, if_neg (l_nge (b := 9) (by omega) (by decide)), gR_e hK, ar.1, Option.bind_some, s_target se hce hw (by omega), Option.bind_some]
    dsimp only
    rw [show nI ce * 9 = nI (ce * 9) from pk_mul ce 9, nI_add, sI_e ar.2.1 ar.2.2 (show ce * 9 + d < 576 by omega) (by omega), Option.bind_some, nI_1]
    exact p1
theorem c_ft2 {a j way : Nat} {g : Sg} (hf : 64 < fu) (hw : way < 9) (ha : a + 7 ≤ j) : ∀ (k ce n : Nat) (h : Hp), ce + k = g.n → k < n → h.K j = 1 → arr h j 5 (j + 10) 8 576 → Se h a g → (∀ i, i < ce → ∀ e, e < 9 → h.I (j + 10) (i * 9 + e) = nI (gof g i way e)) → ∃ h1, f_X1_findTargets_2 fu n j a (nI way) (nI ce) h = some ((), h1) ∧ Ed (fun b => b = j + 10) h h1 ∧ TgH h1 j g way
  | 0, ce, n, h, hc, hn, hK, ar, se, hi => by
    obtain ⟨n, rfl⟩ := Nat.exists_eq_succ_of_ne_zero (show n ≠ 0 by omega)
    have h64 := se.2.2.2.n64
    refine ⟨h, ?_, Ed.rf, fun i z => hi i (by omega)⟩
    rw [f_X1_findTargets_2, gI_e se.1.1, Option.bind_some, se.2.1.2.2.1, if_pos (nI_le (by omega) (by omega))]
  | k + 1, ce, n, h, hc, hn, hK, ar, se, hi => by
    obtain ⟨n, rfl⟩ := Nat.exists_eq_succ_of_ne_zero (show n ≠ 0 by omega)
    have h64 := se.2.2.2.n64
    obtain ⟨h1, p1, p2, p3, p4⟩ := c_ft13 (fu := fu) (a := a) (j := j) (way := way) (ce := ce) (g := g) (by omega) hw ha (k2 := fun y0 y1 y2 y3 hy => f_X1_findTargets_2 fu n y0 y1 y2 y3 hy) 9 0 fu h (by omega) (by omega) hK ar se (fun e z => by omega)
    obtain ⟨h2, s1, s2, s3⟩ := c_ft2 hf hw ha k (ce + 1) n h1 (by omega) (by omega) (by rw [p2.2.1]; exact hK) (p2.arr ar) (se.fr (fun b z1 z2 => p2.same (by omega))) (fun i z e ze => by
      by_cases zz : i = ce
      · subst zz; exact p3 e ze
      · rw [p4 _ (by omega)]; exact hi i (by omega) e ze)
    refine ⟨h2, ?_, Ed.tr p2 s2, s3⟩
    rw [f_X1_findTargets_2, gI_e se.1.1, Option.bind_some, se.2.1.2.2.1, if_neg (nI_ge (by omega) (by omega))]
    rw [show (0 : Int32) = nI 0 from rfl, p1]
    exact s1
theorem cp_I (h : Hp) (a b n : Nat) (x k : Nat) : (cpyI h a b 0 0 n).I x k = if x = b then (if k < n then h.I a k else h.I b k) else h.I x k := by
  show va_up h.I b (va_cpy (h.I a) (h.I b) 0 0 n) x k = _
  unfold va_up va_cpy
  by_cases e : x = b
  · rw [if_pos e, if_pos e]
    by_cases z : k < n
    · rw [if_pos (by omega), if_pos z]; simp
    · rw [if_neg (by omega), if_neg z]
  · rw [if_neg e, if_neg e]
theorem cp_E {P : Nat → Prop} {h : Hp} {a b n : Nat} (hb : P b) : Ed P h (cpyI h a b 0 0 n) := ⟨rfl, rfl, rfl, rfl, fun q hq => ⟨by
  funext k
  rw [cp_I, if_neg (show ¬ q = b from fun e => hq (by rw [e]; exact hb))], rfl⟩⟩
theorem cp_e {h : Hp} {a b : Nat} (k1 : h.K a = 8) (k2 : h.K b = 8) (l1 : h.L a = 384) (l2 : h.L b = 384) : cpI h a 0 b 0 (nI 384) = some (cpyI h a b 0 0 384) := by
  unfold cpI
  have z : (0 : Int32).toInt = 0 := by decide
  have z3 : (nI 384).toInt = 384 := by decide
  rw [if_pos ⟨k1, k2, by rw [z]; omega, by rw [z]; omega, by rw [z3]; omega, by rw [z, z3, l1]; omega, by rw [z, z3, l2]; omega⟩]
  rfl
theorem c_copy {h : Hp} {p q : Nat} (o1 : OutS h p) (o2 : OutS h q) (hne : p + 3 ≤ q ∨ q + 3 ≤ p) : ∃ h1, f_X2_copyOf fu q p h = some ((), h1) ∧ Ed (fun b => b = q + 1 ∨ b = q + 2) h h1 ∧ ∀ k, k < 384 → h1.I (q + 1) k = h.I (p + 1) k ∧ h1.I (q + 2) k = h.I (p + 2) k := by
  obtain ⟨p1, p2, p3⟩ := o1
  obtain ⟨q1, q2, q3⟩ := o2
  have e1 : Ed (fun b => b = q + 1 ∨ b = q + 2) h (cpyI h (p + 1) (q + 1) 0 0 384) := cp_E (Or.inl rfl)
  refine ⟨cpyI (cpyI h (p + 1) (q + 1) 0 0 384) (p + 2) (q + 2) 0 0 384, ?_, Ed.tr e1 (cp_E (Or.inr rfl)), ?_⟩
  · unfold f_X2_copyOf
    have n1 : aN h (q + 1) = some (nI 384) := by unfold aN; rw [if_pos (by rw [q2.2.1]; omega), q2.2.2]; rfl
    have n2 : aN (cpyI h (p + 1) (q + 1) 0 0 384) (q + 2) = some (nI 384) := by
      unfold aN
      rw [if_pos (by show 8 ≤ h.K (q + 2) ∧ h.K (q + 2) < 11; rw [q3.2.1]; omega)]
      show some (Int32.ofNat (h.L (q + 2))) = _
      rw [q3.2.2]; rfl
    rw [if_pos q1, gR_e p1, p2.1, Option.bind_some, gR_e q1, q2.1, Option.bind_some, Option.bind_some, n1, Option.bind_some, cp_e p2.2.1 q2.2.1 p2.2.2 q2.2.2, Option.bind_some, gR_e (h := cpyI _ _ _ _ _ _) p1]
    rw [show (cpyI h (p + 1) (q + 1) 0 0 384).R p 1 = some (p + 2) from p3.1, Option.bind_some, gR_e (h := cpyI _ _ _ _ _ _) q1]
    rw [show (cpyI h (p + 1) (q + 1) 0 0 384).R q 1 = some (q + 2) from q3.1, Option.bind_some, Option.bind_some, n2, Option.bind_some, cp_e (h := cpyI _ _ _ _ _ _) p3.2.1 q3.2.1 p3.2.2 q3.2.2, Option.bind_some]
  · intro k hk
    constructor
    · rw [cp_I, if_neg (by omega), cp_I, if_pos rfl, if_pos hk]
    · rw [cp_I, if_pos rfl, if_pos hk, cp_I, if_neg (by omega)]
end JUDGE3
