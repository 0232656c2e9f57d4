/-! THE CLASS'S SEARCH: sets known again -/
def hX (s : Int64) (w : Nat) : Int64 := (s + (nI w).toInt64) * (-7046029254386353131)
def hm (s : Int64) (w : Nat) : Nat := (hX s w).toBitVec.toNat >>> 52
theorem hm_lt (s : Int64) (w : Nat) : hm s w < 4096 := by
  unfold hm
  have h := (hX s w).toBitVec.isLt
  rw [Nat.shiftRight_eq_div_pow]
  omega
theorem hm_e (s : Int64) (w : Nat) : Int64.toInt32 (lush (hX s w) 52) = nI (hm s w) := by
  have hl := hm_lt s w
  apply Int32.toBitVec_inj.mp
  apply BitVec.eq_of_toNat_eq
  rw [nI_bv, Int64.toBitVec_toInt32, BitVec.signExtend_eq_setWidth_of_le _ (by decide), show (52 : Int32) = nI 52 from rfl, lush_bv _ (by decide), BitVec.toNat_setWidth, BitVec.toNat_ushiftRight, BitVec.toNat_ofNat]
  rfl
theorem and4095 {n : Nat} (h : n < 2 ^ 31) : nI n &&& 4095 = nI (n % 4096) := by
  apply Int32.toBitVec_inj.mp
  apply BitVec.eq_of_toNat_eq
  rw [Int32.toBitVec_and, BitVec.toNat_and, nI_bv, nI_bv, BitVec.toNat_ofNat, BitVec.toNat_ofNat, show (4095 : Int32).toBitVec.toNat = 2 ^ 12 - 1 by decide, Nat.and_two_pow_sub_one_eq_mod]
  omega
theorem cnt_all {p : Nat → Bool} : ∀ n, (∀ i, i < n → p i = true) → cnt p n = n
  | 0, _ => rfl
  | n + 1, h => by rw [cnt, cnt_all n (fun i hi => h i (by omega)), h n (by omega)]; rfl
theorem cnt_upd {p q : Nat → Bool} {i0 : Nat} (h : ∀ i, i ≠ i0 → q i = p i) : ∀ n, cnt q n ≤ cnt p n + (if i0 < n then 1 else 0)
  | 0 => Nat.zero_le _
  | n + 1 => by
    have ih := cnt_upd h n
    rw [cnt, cnt]
    by_cases e : n = i0
    · subst e
      rw [if_neg (Nat.lt_irrefl n)] at ih
      rw [if_pos (Nat.lt_succ_self n)]
      split <;> split <;> omega
    · rw [h n e]
      by_cases z : i0 < n
      · rw [if_pos z] at ih
        rw [if_pos (show i0 < n + 1 by omega)]
        split <;> omega
      · rw [if_neg z] at ih
        rw [if_neg (show ¬ i0 < n + 1 by omega)]
        split <;> omega
def HI (h : Hp) (s w0 : Nat) (b : Bs) : Prop := (∀ i, i < 4096 → ∃ e, e ≤ b.n ∧ h.I (s + 5) i = nI e) ∧ (∀ k, k < b.n → ∃ t, t < 4096 ∧ h.I (s + 5) ((hm (b.st k) ((w0 + b.dp k) % 6) + t) % 4096) = nI (k + 1) ∧ ∀ t', t' < t → h.I (s + 5) ((hm (b.st k) ((w0 + b.dp k) % 6) + t') % 4096) ≠ 0) ∧ cnt (fun i => decide (h.I (s + 5) i ≠ 0)) 4096 ≤ b.n
def SR (h : Hp) (s w0 : Nat) (b : Bs) : Prop := h.I s 5 = nI b.n ∧ ∀ k, k < b.n → h.J (s + 2) k = b.st k ∧ h.I (s + 3) k = nI ((w0 + b.dp k) % 6) ∧ h.I (s + 4) k = nI (b.og k)
def SB (h : Hp) (s w0 : Nat) (b : Bs) : Prop := SR h s w0 b ∧ HI h s w0 b
/-- what the search changes as it keeps a set -/
def KE (s : Nat) (h h1 : Hp) : Prop := Ed (fun b => b = s ∨ (s + 2 ≤ b ∧ b ≤ s + 5)) h h1 ∧ (∀ k, k ≠ 5 → h1.I s k = h.I s k) ∧ h1.J s = h.J s
section HASH
variable {h : Hp} {s w0 fu : Nat} {b : Bs}
theorem KE.rf : KE s h h := ⟨Ed.rf, fun _ _ => rfl, rfl⟩
theorem KE.tr {h1 h2 : Hp} (x : KE s h h1) (y : KE s h1 h2) : KE s h h2 := ⟨Ed.tr x.1 y.1, fun k hk => (y.2.1 k hk).trans (x.2.1 k hk), y.2.2.trans x.2.2⟩
theorem SearchS.ed {P : Nat → Prop} {h1 : Hp} (e : Ed P h h1) (q : SearchS h s) : SearchS h1 s := ⟨by rw [e.2.1]; exact q.1, e.arr q.2.1, e.arr q.2.2.1, e.arr q.2.2.2.1, e.arr q.2.2.2.2.1, e.arr q.2.2.2.2.2⟩
/-- a set goes into an empty slot -/
theorem c_keepAt (q : SearchS h s) (sb : SB h s w0 b) {S : Int64} {d o t : Nat} (hn : b.n < 3000) (ht : t < 4096) (h0 : h.I (s + 5) ((hm S ((w0 + d) % 6) + t) % 4096) = 0) (hp : ∀ t', t' < t → h.I (s + 5) ((hm S ((w0 + d) % 6) + t') % 4096) ≠ 0) : ∃ h1, f_X5_keepAt fu s (nI ((hm S ((w0 + d) % 6) + t) % 4096)) S (nI ((w0 + d) % 6)) (nI o) h = some (1, h1) ∧ SB h1 s w0 (b.add S d o) ∧ KE s h h1 := by
  obtain ⟨q0, q1, q2, q3, q4, q5⟩ := id q
  obtain ⟨⟨r1, r2⟩, i1, i2, i3⟩ := sb
  obtain ⟨sl, hsl⟩ : ∃ sl, sl = (hm S ((w0 + d) % 6) + t) % 4096 := ⟨_, rfl⟩
  have sl4 : sl < 4096 := by omega
  rw [← hsl] at h0 ⊢
  obtain ⟨H1, e1⟩ : ∃ H1, H1 = putJ h (s + 2) b.n S := ⟨_, rfl⟩
  obtain ⟨H2, e2⟩ : ∃ H2, H2 = putI H1 (s + 3) b.n (nI ((w0 + d) % 6)) := ⟨_, rfl⟩
  obtain ⟨H3, e3⟩ : ∃ H3, H3 = putI H2 (s + 4) b.n (nI o) := ⟨_, rfl⟩
  obtain ⟨H4, e4⟩ : ∃ H4, H4 = putI H3 s 5 (nI (b.n + 1)) := ⟨_, rfl⟩
  obtain ⟨H5, e5⟩ : ∃ H5, H5 = putI H4 (s + 5) sl (nI (b.n + 1)) := ⟨_, rfl⟩
  have E1 : Ed (fun b => b = s ∨ (s + 2 ≤ b ∧ b ≤ s + 5)) h H1 := by rw [e1]; exact Ed.pJ (Or.inr (by omega))
  have E2 : Ed (fun b => b = s ∨ (s + 2 ≤ b ∧ b ≤ s + 5)) h H2 := by rw [e2]; exact Ed.tr E1 (Ed.pI (Or.inr (by omega)))
  have E3 : Ed (fun b => b = s ∨ (s + 2 ≤ b ∧ b ≤ s + 5)) h H3 := by rw [e3]; exact Ed.tr E2 (Ed.pI (Or.inr (by omega)))
  have E4 : Ed (fun b => b = s ∨ (s + 2 ≤ b ∧ b ≤ s + 5)) h H4 := by rw [e4]; exact Ed.tr E3 (Ed.pI (Or.inl rfl))
  have E5 : Ed (fun b => b = s ∨ (s + 2 ≤ b ∧ b ≤ s + 5)) h H5 := by rw [e5]; exact Ed.tr E4 (Ed.pI (Or.inr (by omega)))
  have a1 := q.ed E1
  have a2 := q.ed E2
  have a3 := q.ed E3
  have a4 := q.ed E4
  have I1 : H1.I = h.I := by rw [e1]; rfl
  have n1 : H1.I s 5 = nI b.n := by rw [I1]; exact r1
  have n2 : H2.I s 5 = nI b.n := by rw [e2, putI_I, if_neg (by omega)]; exact n1
  have n3 : H3.I s 5 = nI b.n := by rw [e3, putI_I, if_neg (by omega)]; exact n2
  have n4 : H4.I s 5 = nI (b.n + 1) := by rw [e4, w3, if_pos rfl]
  have J5 : H5.J = H1.J := by rw [e5, e4, e3, e2]; rfl
  have s5 : ∀ i, H5.I (s + 5) i = if i = sl then nI (b.n + 1) else h.I (s + 5) i := fun i => by
    rw [e5, w3, e4, putI_I, if_neg (show ¬ s + 5 = s by omega), e3, putI_I, if_neg (show ¬ s + 5 = s + 4 by omega), e2, putI_I, if_neg (show ¬ s + 5 = s + 3 by omega), I1]
  have s3 : ∀ i, H5.I (s + 3) i = if i = b.n then nI ((w0 + d) % 6) else h.I (s + 3) i := fun i => by
    rw [e5, putI_I, if_neg (by omega), e4, putI_I, if_neg (by omega), e3, putI_I, if_neg (by omega), e2, w3, I1]
  have s4 : ∀ i, H5.I (s + 4) i = if i = b.n then nI o else h.I (s + 4) i := fun i => by
    rw [e5, putI_I, if_neg (by omega), e4, putI_I, if_neg (by omega), e3, w3, e2, putI_I, if_neg (show ¬ s + 4 = s + 3 by omega), I1]
  have s2 : ∀ i, H5.J (s + 2) i = if i = b.n then S else h.J (s + 2) i := fun i => by
    rw [J5, e1, putJ_J, if_pos rfl]
  have ne1 : ∀ e : Nat, e < 3001 → ¬ nI (e + 1) = 0 := fun e he => ne_lit (b := 0) (by omega) (by decide) (by omega)
  refine ⟨H5, ?_, ⟨⟨?_, fun k hk => ?_⟩, fun i hi => ?_, fun k hk => ?_, ?_⟩, E5, fun k hk => ?_, ?_⟩
  · unfold f_X5_keepAt
    rw [if_pos q0, gI_e q0, Option.bind_some, r1, if_pos (l_lt (b := 3000) hn (by decide)), gR_e q0, q2.1, Option.bind_some, Option.bind_some, sJ_e q2.2.1 q2.2.2 hn (by decide), Option.bind_some, ← e1]
    rw [gR_e a1.1, a1.2.2.2.1.1, Option.bind_some, gI_e a1.1, n1, Option.bind_some, sI_e a1.2.2.2.1.2.1 a1.2.2.2.1.2.2 hn (by decide), Option.bind_some, ← e2]
    rw [gR_e a2.1, a2.2.2.2.2.1.1, Option.bind_some, gI_e a2.1, n2, Option.bind_some, sI_e a2.2.2.2.2.1.2.1 a2.2.2.2.2.1.2.2 hn (by decide), Option.bind_some, ← e3]
    rw [gI_e a3.1, n3, Option.bind_some, nI_1, pI_e a3.1, Option.bind_some, ← e4]
    rw [gR_e a4.1, a4.2.2.2.2.2.1, Option.bind_some, gI_e a4.1, n4, Option.bind_some, sI_e a4.2.2.2.2.2.2.1 a4.2.2.2.2.2.2.2 sl4 (by decide), Option.bind_some, ← e5]
  · rw [e5, putI_I, if_neg (by omega), n4]; rfl
  · have hk : k < b.n + 1 := hk
    rw [s2, s3, s4, Bs.add_st, Bs.add_dp, Bs.add_og]
    by_cases e : k = b.n
    · rw [if_pos e, if_pos e, if_pos e, if_pos e, if_pos e, if_pos e]; exact ⟨rfl, rfl, rfl⟩
    · rw [if_neg e, if_neg e, if_neg e, if_neg e, if_neg e, if_neg e]; exact r2 k (by omega)
  · rw [s5]
    by_cases e : i = sl
    · rw [if_pos e]; exact ⟨b.n + 1, Nat.le_refl _, rfl⟩
    · rw [if_neg e]
      obtain ⟨x, x1, x2⟩ := i1 i hi
      exact ⟨x, by rw [Bs.add_n]; omega, x2⟩
  · have hk : k < b.n + 1 := hk
    rw [Bs.add_st, Bs.add_dp]
    by_cases e : k = b.n
    · rw [if_pos e, if_pos e]
      refine ⟨t, ht, by rw [← hsl, s5, if_pos rfl, e], fun t' ht' => ?_⟩
      rw [s5]
      split
      · exact ne1 _ (by omega)
      · exact hp t' ht'
    · rw [if_neg e, if_neg e]
      obtain ⟨x, x1, x2, x3⟩ := i2 k (by omega)
      refine ⟨x, x1, ?_, fun t' ht' => ?_⟩
      · rw [s5, if_neg (fun y => ?_)]
        · exact x2
        · rw [y, h0] at x2
          exact ne1 k (by omega) x2.symm
      · rw [s5]
        split
        · exact ne1 _ (by omega)
        · exact x3 t' ht'
  · have := cnt_upd (p := fun i => decide (h.I (s + 5) i ≠ 0)) (q := fun i => decide (H5.I (s + 5) i ≠ 0)) (i0 := sl) (fun i hi => by
      show decide (H5.I (s + 5) i ≠ 0) = decide (h.I (s + 5) i ≠ 0)
      rw [s5, if_neg hi]) 4096
    rw [if_pos sl4] at this
    rw [Bs.add_n]; omega
  · rw [e5, putI_I, if_neg (by omega), e4, w3, if_neg hk, e3, putI_I, if_neg (by omega), e2, putI_I, if_neg (by omega), I1]
  · rw [J5, e1]
    exact up2_ne _ (by omega)
def KpR (h h1 : Hp) (s w0 : Nat) (b : Bs) (S : Int64) (d o : Nat) (r : Int32) : Prop := (cme b S d b.n = true ∧ r = 1 ∧ h1 = h) ∨ (¬ cme b S d b.n = true ∧ b.n = 3000 ∧ r = 0 ∧ h1 = h) ∨ (¬ cme b S d b.n = true ∧ b.n < 3000 ∧ r = 1 ∧ SB h1 s w0 (b.add S d o) ∧ KE s h h1)
theorem c_keep17 (q : SearchS h s) (sb : SB h s w0 b) (hb : b.n ≤ 3000) {S : Int64} {d o : Nat} : ∀ (k t n : Nat), t + k = 4096 → k < n → (∀ t', t' < t → h.I (s + 5) ((hm S ((w0 + d) % 6) + t') % 4096) ≠ 0 ∧ ∀ j, j < b.n → b.st j = S → b.dp j % 6 = d % 6 → h.I (s + 5) ((hm S ((w0 + d) % 6) + t') % 4096) ≠ nI (j + 1)) → ∃ h1 r, f_X5_keepNew_17 fu n s S (nI ((w0 + d) % 6)) (nI o) (nI (hm S ((w0 + d) % 6))) (nI t) h = some (r, h1) ∧ KpR h h1 s w0 b S d o r := by
  intro k
  obtain ⟨H, hH⟩ : ∃ H, H = hm S ((w0 + d) % 6) := ⟨_, rfl⟩
  have H4 : H < 4096 := by rw [hH]; exact hm_lt _ _
  induction k with
  | zero =>
    intro t n ht hn no
    exfalso
    obtain rfl : t = 4096 := by omega
    have all : ∀ i, i < 4096 → (fun i => decide (h.I (s + 5) i ≠ 0)) i = true := fun i hi => by
      have := (no ((i + 4096 - H) % 4096) (by omega)).1
      rw [← hH, show (H + (i + 4096 - H) % 4096) % 4096 = i by omega] at this
      exact decide_eq_true this
    have c1 := cnt_all 4096 all
    have c2 := sb.2.2.2
    omega
  | succ k ih =>
    intro t n ht hn no
    obtain ⟨n, rfl⟩ := Nat.exists_eq_succ_of_ne_zero (show n ≠ 0 by omega)
    obtain ⟨q0, q1, q2, q3, q4, q5⟩ := id q
    obtain ⟨⟨r1, r2⟩, i1, i2, i3⟩ := id sb
    have sl4 : (H + t) % 4096 < 4096 := by omega
    obtain ⟨e, e1, e2⟩ := i1 _ sl4
    rw [f_X5_keepNew_17, if_neg (l_nge (b := 4096) (by omega) (by decide)), gR_e q0, q5.1, Option.bind_some, ← hH, nI_add, and4095 (by omega), aI_e q5.2.1 q5.2.2 sl4 (by decide), Option.bind_some, e2]
    by_cases e0 : e = 0
    · have z0 : h.I (s + 5) ((H + t) % 4096) = 0 := by rw [e2, e0]; rfl
      have nc : ¬ cme b S d b.n = true := fun y => by
        obtain ⟨j, j1, j2, j3⟩ := (cme_iff b S d b.n).mp y
        obtain ⟨x, x1, x2, x3⟩ := i2 j j1
        rw [j2, show (w0 + b.dp j) % 6 = (w0 + d) % 6 by omega, ← hH] at x2 x3
        rcases Nat.lt_trichotomy x t with l | l | l
        · have := (no x l).2 j j1 j2 j3
          rw [← hH] at this
          exact this x2
        · rw [l, z0] at x2
          exact ne_lit (b := 0) (by omega) (by decide) (by omega) x2.symm
        · exact x3 t l z0
      rw [e0, if_neg (show ¬ (0 : Int32) ≤ nI 0 - 1 by decide)]
      by_cases zn : b.n = 3000
      · refine ⟨h, 0, ?_, Or.inr (Or.inl ⟨nc, zn, rfl, rfl⟩)⟩
        have : f_X5_keepAt fu s (nI ((H + t) % 4096)) S (nI ((w0 + d) % 6)) (nI o) h = some (0, h) := by
          unfold f_X5_keepAt
          rw [if_pos q0, gI_e q0, Option.bind_some, r1, zn, if_neg (show ¬ nI 3000 < 3000 by decide)]
        rw [this, Option.bind_some]; rfl
      · obtain ⟨h1, a1, a2, a3⟩ := c_keepAt (fu := fu) (S := S) (d := d) (o := o) (t := t) q sb (by omega) (by omega) (by rw [← hH]; exact z0) (fun t' ht' => (no t' ht').1)
        rw [← hH] at a1
        refine ⟨h1, 1, ?_, Or.inr (Or.inr ⟨nc, by omega, rfl, a2, a3⟩)⟩
        rw [a1, Option.bind_some]; rfl
    · obtain ⟨e', rfl⟩ := Nat.exists_eq_succ_of_ne_zero e0
      have hs : nI (e' + 1) - 1 = nI e' := by rw [show (1 : Int32) = nI 1 from rfl, pk_sub (by omega), Nat.add_sub_cancel]
      have he' : e' < b.n := e1
      obtain ⟨m1, m2, m3⟩ := r2 e' he'
      have go : ¬ (b.st e' = S ∧ b.dp e' % 6 = d % 6) → ∃ h1 r, f_X5_keepNew_88 fu (fun y0 y1 y2 y3 y4 y5 hy => f_X5_keepNew_17 fu n y0 y1 y2 y3 y4 y5 hy) s S (nI ((w0 + d) % 6)) (nI o) (nI H) (nI t) h = some (r, h1) ∧ KpR h h1 s w0 b S d o r := fun z => by
        unfold f_X5_keepNew_88
        rw [nI_1, hH]
        refine ih (t + 1) n (by omega) (by omega) (fun t' ht' => ?_)
        by_cases y : t' = t
        · rw [y, ← hH, e2]
          refine ⟨ne_lit (b := 0) (by omega) (by decide) (by omega), fun j j1 j2 j3 y2 => z ?_⟩
          have : e' + 1 = j + 1 := (nI_eq (by omega) (by omega)).mp y2
          rw [show e' = j by omega]; exact ⟨j2, j3⟩
        · exact no t' (by omega)
      rw [show nI (e' + 1) - 1 = nI e' from hs, if_pos (show (0 : Int32) ≤ nI e' from l_ge (b := 0) (by omega) (by omega)), gR_e q0, q2.1, Option.bind_some, aJ_e q2.2.1 q2.2.2 (show e' < 3000 by omega) (by decide), Option.bind_some, m1]
      by_cases z1 : b.st e' = S
      · rw [if_pos ((cmp0 _ _).mpr z1), gR_e q0, q3.1, Option.bind_some, aI_e q3.2.1 q3.2.2 (show e' < 3000 by omega) (by decide), Option.bind_some, m2]
        by_cases z2 : (w0 + b.dp e') % 6 = (w0 + d) % 6
        · rw [if_pos (by rw [z2])]
          exact ⟨h, 1, rfl, Or.inl ⟨(cme_iff b S d b.n).mpr ⟨e', he', z1, by omega⟩, rfl, rfl⟩⟩
        · rw [if_neg (fun y => z2 ((nI_eq (by omega) (by omega)).mp y))]
          exact go (fun y => z2 (by omega))
      · rw [if_neg (fun y => z1 ((cmp0 _ _).mp y))]
        exact go (fun y => z1 y.1)
theorem c_keepNew (hf : 20000 < fu) (q : SearchS h s) (sb : SB h s w0 b) (hb : b.n ≤ 3000) {S : Int64} {d o : Nat} : ∃ h1 r, f_X5_keepNew fu s S (nI ((w0 + d) % 6)) (nI o) h = some (r, h1) ∧ KpR h h1 s w0 b S d o r := by
  obtain ⟨h1, r, a1, a2⟩ := c_keep17 (fu := fu) (S := S) (d := d) (o := o) q sb hb 4096 0 fu (by omega) (by omega) (fun t' ht' => absurd ht' (Nat.not_lt_zero t'))
  refine ⟨h1, r, ?_, a2⟩
  unfold f_X5_keepNew
  rw [if_pos q.1]
  rw [← hm_e] at a1
  exact a1
end HASH
