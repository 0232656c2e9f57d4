/-! THE SETS THAT CAME UP -/
def BI (g : Sg) (b : Bs) : Prop := 1 ≤ b.n ∧ b.n ≤ 3000 ∧ b.dp 0 = 0 ∧ ∀ k, k < b.n → subs (b.st k) g.n ∧ b.dp k ≤ 11 ∧ b.og k / 9 ≤ k ∧ (0 < k → 0 < b.dp k ∧ b.og k / 9 < k ∧ b.dp (b.og k / 9) + 1 = b.dp k)
theorem Bs.add_n (b : Bs) (s : Int64) (d o : Nat) : (b.add s d o).n = b.n + 1 := rfl
theorem Bs.add_st (b : Bs) (s : Int64) (d o i : Nat) : (b.add s d o).st i = if i = b.n then s else b.st i := rfl
theorem Bs.add_dp (b : Bs) (s : Int64) (d o i : Nat) : (b.add s d o).dp i = if i = b.n then d else b.dp i := rfl
theorem Bs.add_og (b : Bs) (s : Int64) (d o i : Nat) : (b.add s d o).og i = if i = b.n then o else b.og i := rfl
theorem BI.one {g : Sg} {S : Int64} (hs : subs S g.n) : BI g (Bs.one S) := by
  refine ⟨Nat.le_refl 1, show 1 ≤ 3000 by decide, rfl, fun k hk => ?_⟩
  have hk : k < 1 := hk
  obtain rfl : k = 0 := by omega
  exact ⟨hs, Nat.zero_le _, by show 0 / 9 ≤ 0; decide, fun z => absurd z (Nat.lt_irrefl 0)⟩
theorem BI.add {g : Sg} {b : Bs} {s : Int64} {k way : Nat} (q : BI g b) (hs : subs s g.n) (hk : k < b.n) (hn : b.n < 3000) (hd : b.dp k ≠ 11) (hw : way < 9) : BI g (b.add s (b.dp k + 1) (k * 9 + way)) := by
  obtain ⟨q1, q2, q3, q4⟩ := q
  have e9 : (k * 9 + way) / 9 = k := by omega
  refine ⟨show 1 ≤ b.n + 1 by omega, show b.n + 1 ≤ 3000 by omega, by rw [Bs.add_dp, if_neg (by omega)]; exact q3, fun i hi => ?_⟩
  have hi : i < b.n + 1 := hi
  obtain ⟨-, d1, -, -⟩ := q4 k hk
  rw [Bs.add_st, Bs.add_dp, Bs.add_og]
  by_cases e : i = b.n
  · rw [if_pos e, if_pos e, if_pos e, e9]
    refine ⟨hs, by omega, by omega, fun _ => ⟨by omega, by omega, ?_⟩⟩
    rw [Bs.add_dp, if_neg (by omega)]
  · rw [if_neg e, if_neg e, if_neg e]
    obtain ⟨r1, r2, r3, r4⟩ := q4 i (by omega)
    refine ⟨r1, r2, r3, fun z => ?_⟩
    obtain ⟨t1, t2, t3⟩ := r4 z
    refine ⟨t1, t2, ?_⟩
    rw [Bs.add_dp, if_neg (by omega)]; exact t3
theorem cme_iff (b : Bs) (s : Int64) (d : Nat) : ∀ n, cme b s d n = true ↔ ∃ k, k < n ∧ b.st k = s ∧ b.dp k % 6 = d % 6
  | 0 => by
    rw [cme]
    exact ⟨fun z => (by cases z), fun ⟨k, hk, _⟩ => absurd hk (Nat.not_lt_zero k)⟩
  | n + 1 => by
    rw [cme, Bool.or_eq_true, decide_eq_true_eq, cme_iff b s d n]
    constructor
    · rintro (z | ⟨k, k1, k2⟩)
      · exact ⟨n, Nat.lt_succ_self n, z⟩
      · exact ⟨k, by omega, k2⟩
    · rintro ⟨k, k1, k2⟩
      by_cases e : k = n
      · subst e; exact Or.inl k2
      · exact Or.inr ⟨k, by omega, k2⟩
theorem alL_iff (g : Sg) (s : Int64) : alL g s = true ↔ ∀ i, i < g.n → tb s i = true → 0 < g.ld i := decide_eq_true_iff
theorem cnt_and_le (p r : Nat → Bool) : ∀ n, cnt (fun i => p i && r i) n ≤ cnt p n
  | 0 => Nat.le_refl _
  | n + 1 => by
    have := cnt_and_le p r n
    unfold cnt
    cases p n <;> cases r n <;> simp <;> omega
theorem cnt_and_eq (p r : Nat → Bool) : ∀ n, cnt (fun i => p i && r i) n = cnt p n ↔ ∀ i, i < n → p i = true → r i = true
  | 0 => ⟨fun _ i hi => absurd hi (Nat.not_lt_zero i), fun _ => rfl⟩
  | n + 1 => by
    have h1 := cnt_and_le p r n
    have h2 := cnt_and_eq p r n
    have u1 : cnt (fun i => p i && r i) (n + 1) = cnt (fun i => p i && r i) n + (if (p n && r n) = true then 1 else 0) := rfl
    have u2 : cnt p (n + 1) = cnt p n + (if p n = true then 1 else 0) := rfl
    rw [u1, u2]
    constructor
    · intro h i hi hp
      by_cases e : i = n
      · subst e
        cases hr : r i
        · rw [hp, hr] at h
          simp at h
          omega
        · rfl
      · refine h2.mp ?_ i (by omega) hp
        cases hp' : p n <;> cases hr' : r n <;> rw [hp'] at h <;> rw [hr'] at h <;> simp at h <;> omega
    · intro h
      rw [h2.mpr (fun i hi hp => h i (by omega) hp)]
      cases hp : p n
      · simp
      · rw [h n (by omega) hp]; simp
theorem cnt_sub {p : Nat → Bool} {n : Nat} (h : ∀ i, p i = true → i < n) : ∀ m, n ≤ m → cnt p m = cnt p n
  | 0, hm => by rw [show n = 0 by omega]
  | m + 1, hm => by
    by_cases e : n = m + 1
    · rw [e]
    · rw [cnt, cnt_sub h m (by omega)]
      cases hp : p m
      · simp
      · have := h m hp; omega
theorem dmod : ∀ a, a < 12 → ∀ d, d < 13 → ((rem (nI a - nI d) 6 = 0) ↔ a % 6 = d % 6) := by decide +kernel
/-- the first road's beginning: a stays what it was -/
def Pre (b b' : Bs) : Prop := b.n ≤ b'.n ∧ ∀ i, i < b.n → b'.st i = b.st i ∧ b'.dp i = b.dp i ∧ b'.og i = b.og i
theorem Pre.rf {b : Bs} : Pre b b := ⟨Nat.le_refl _, fun _ _ => ⟨rfl, rfl, rfl⟩⟩
theorem Pre.tr {a b c : Bs} (p : Pre a b) (q : Pre b c) : Pre a c := ⟨Nat.le_trans p.1 q.1, fun i hi => by
  obtain ⟨p1, p2, p3⟩ := p.2 i hi
  obtain ⟨q1, q2, q3⟩ := q.2 i (by have := p.1; omega)
  exact ⟨q1.trans p1, q2.trans p2, q3.trans p3⟩⟩
theorem Pre.add {b : Bs} {s : Int64} {d o : Nat} : Pre b (b.add s d o) := ⟨Nat.le_succ _, fun i hi => ⟨by rw [Bs.add_st, if_neg (by omega)], by rw [Bs.add_dp, if_neg (by omega)], by rw [Bs.add_og, if_neg (by omega)]⟩⟩
