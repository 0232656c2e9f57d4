/-! WHAT IS ASKED OF THE TABLE -/
def fLm (T : Nat → Nat) (S : Int64) : Nat → Nat → Nat → Nat
  | 0, _, a => a
  | k + 1, c, a => fLm T S k (c + 1) (if tb S c then max a (T c) else a)
def fSm (T : Nat → Nat) (S : Int64) : Nat → Nat → Nat → Nat
  | 0, _, a => a
  | k + 1, c, a => fSm T S k (c + 1) (if tb S c then min a (T c) else a)
def fUm (T : Nat → Nat) (S : Int64) : Nat → Nat → Nat → Nat
  | 0, _, a => a
  | k + 1, c, a => fUm T S k (c + 1) (if tb S c then (if 1000000 ≤ T c then a + 1 else a) else a)
theorem nob {S : Int64} {n c : Nat} (hs : subs S n) (hc : n ≤ c) : tb S c = false := by
  cases z : tb S c
  · rfl
  · have := hs c z; omega
theorem fL_cut {T : Nat → Nat} {S : Int64} {n : Nat} (hs : subs S n) : ∀ (k c a m : Nat), c + k = m → n ≤ m → c ≤ n → fLm T S k c a = fLm T S (n - c) c a
  | 0, c, a, m, h1, h2, h3 => by rw [show n - c = 0 by omega]
  | k + 1, c, a, m, h1, h2, h3 => by
    by_cases e : c = n
    · subst e
      rw [Nat.sub_self, fLm, fLm, nob hs (Nat.le_refl _)]
      have : ∀ (k d a : Nat), c ≤ d → fLm T S k d a = a := by
        intro k
        induction k with
        | zero => intro d a _; rfl
        | succ k ih => intro d a hd; rw [fLm, nob hs hd]; exact ih (d + 1) a (by omega)
      exact this k (c + 1) a (by omega)
    · rw [show n - c = (n - (c + 1)) + 1 by omega, fLm, fLm]
      exact fL_cut hs k (c + 1) _ m (by omega) h2 (by omega)
theorem fS_cut {T : Nat → Nat} {S : Int64} {n : Nat} (hs : subs S n) : ∀ (k c a m : Nat), c + k = m → n ≤ m → c ≤ n → fSm T S k c a = fSm T S (n - c) c a
  | 0, c, a, m, h1, h2, h3 => by rw [show n - c = 0 by omega]
  | k + 1, c, a, m, h1, h2, h3 => by
    by_cases e : c = n
    · subst e
      rw [Nat.sub_self, fSm, fSm, nob hs (Nat.le_refl _)]
      have : ∀ (k d a : Nat), c ≤ d → fSm T S k d a = a := by
        intro k
        induction k with
        | zero => intro d a _; rfl
        | succ k ih => intro d a hd; rw [fSm, nob hs hd]; exact ih (d + 1) a (by omega)
      exact this k (c + 1) a (by omega)
    · rw [show n - c = (n - (c + 1)) + 1 by omega, fSm, fSm]
      exact fS_cut hs k (c + 1) _ m (by omega) h2 (by omega)
theorem fU_cut {T : Nat → Nat} {S : Int64} {n : Nat} (hs : subs S n) : ∀ (k c a m : Nat), c + k = m → n ≤ m → c ≤ n → fUm T S k c a = fUm T S (n - c) c a
  | 0, c, a, m, h1, h2, h3 => by rw [show n - c = 0 by omega]
  | k + 1, c, a, m, h1, h2, h3 => by
    by_cases e : c = n
    · subst e
      rw [Nat.sub_self, fUm, fUm, nob hs (Nat.le_refl _)]
      have : ∀ (k d a : Nat), c ≤ d → fUm T S k d a = a := by
        intro k
        induction k with
        | zero => intro d a _; rfl
        | succ k ih => intro d a hd; rw [fUm, nob hs hd]; exact ih (d + 1) a (by omega)
      exact this k (c + 1) a (by omega)
    · rw [show n - c = (n - (c + 1)) + 1 by omega, fUm, fUm]
      exact fU_cut hs k (c + 1) _ m (by omega) h2 (by omega)
def ans (m : Nat) : Int32 := if 1000000 ≤ m then -1 else nI m
section ASK
variable {h : Hp} {fu j p wt K : Nat} {g : Sg} {T : Tb} {S : Int64}
theorem c_longest (hK : h.K j = 1) (hR : h.R j 2 = some p) (os : OutS h p) (tp : TabH h p g T) (hG : Gp g K T) (hk : K ≤ 1000) (hs : subs S g.n) (hwt : wt < 6) (hn : g.n ≤ 64) : ∀ (k ce n a : Nat), ce + k = 64 → k < n → a ≤ 1001000 → f_X1_longestOf_6 fu n j S (nI wt) (nI a) (nI ce) h = some (ans (fLm (fun i => (T wt i).1) S k ce a), h)
  | 0, ce, n, a, hc, hn', ha => by
    obtain ⟨n, rfl⟩ := Nat.exists_eq_succ_of_ne_zero (show n ≠ 0 by omega)
    rw [f_X1_longestOf_6, if_pos (l_ge (b := 64) (by omega) (by omega)), fLm]
    unfold ans
    by_cases z : 1000000 ≤ a
    · rw [if_pos (l_ge (b := 1000000) z (by omega)), if_pos z]
    · rw [if_neg (l_nge (b := 1000000) (by omega) (by decide)), if_neg z]
  | k + 1, ce, n, a, hc, hn', ha => by
    obtain ⟨n, rfl⟩ := Nat.exists_eq_succ_of_ne_zero (show n ≠ 0 by omega)
    have ih := fun a => c_longest hK hR os tp hG hk hs hwt hn k (ce + 1) n a (by omega) (by omega)
    rw [f_X1_longestOf_6, if_neg (l_nge (b := 64) (by omega) (by decide)), s_has (by omega), Option.bind_some, fLm]
    cases z : tb S ce
    · rw [if_pos (show ((if false = true then 1 else 0 : Int32), h).1 = 0 from rfl)]
      show f_X1_longestOf_6 fu n j S (nI wt) (nI a) (nI ce + 1) h = _
      rw [nI_1, ih a ha]
      rfl
    · have hce := hs ce z
      obtain ⟨t1, t2⟩ := tp wt hwt ce hce
      have g1 := (hG wt hwt ce hce).1
      unfold gp at g1
      rw [if_neg (show ¬ ((if true = true then 1 else 0 : Int32), h).1 = 0 from one_ne)]
      dsimp only
      rw [gR_e hK, hR, Option.bind_some, gR_e os.1, os.2.1.1, Option.bind_some, show nI wt * 64 = nI (wt * 64) from pk_mul wt 64, nI_add, aI_e os.2.1.2.1 os.2.1.2.2 (show wt * 64 + ce < 384 by omega) (by omega), Option.bind_some, t1]
      show f_X1_longestOf_6 fu n j S (nI wt) (mmax (nI a) (nI _)) (nI ce + 1) h = _
      rw [nI_1, mx_n (by omega) (by omega), ih _ (by omega)]
      rfl
theorem c_shortest (hK : h.K j = 1) (hR : h.R j 2 = some p) (os : OutS h p) (tp : TabH h p g T) (hG : Gp g K T) (hk : K ≤ 1000) (hs : subs S g.n) (hwt : wt < 6) (hn : g.n ≤ 64) : ∀ (k ce n a : Nat), ce + k = 64 → k < n → a ≤ 1001000 → f_X1_shortestOf_7 fu n j S (nI wt) (nI a) (nI ce) h = some (ans (fSm (fun i => (T wt i).2) S k ce a), h)
  | 0, ce, n, a, hc, hn', ha => by
    obtain ⟨n, rfl⟩ := Nat.exists_eq_succ_of_ne_zero (show n ≠ 0 by omega)
    rw [f_X1_shortestOf_7, if_pos (l_ge (b := 64) (by omega) (by omega)), fSm]
    unfold ans
    by_cases z : 1000000 ≤ a
    · rw [if_pos (l_ge (b := 1000000) z (by omega)), if_pos z]
    · rw [if_neg (l_nge (b := 1000000) (by omega) (by decide)), if_neg z]
  | k + 1, ce, n, a, hc, hn', ha => by
    obtain ⟨n, rfl⟩ := Nat.exists_eq_succ_of_ne_zero (show n ≠ 0 by omega)
    have ih := fun a => c_shortest hK hR os tp hG hk hs hwt hn k (ce + 1) n a (by omega) (by omega)
    rw [f_X1_shortestOf_7, if_neg (l_nge (b := 64) (by omega) (by decide)), s_has (by omega), Option.bind_some, fSm]
    cases z : tb S ce
    · rw [if_pos (show ((if false = true then 1 else 0 : Int32), h).1 = 0 from rfl)]
      show f_X1_shortestOf_7 fu n j S (nI wt) (nI a) (nI ce + 1) h = _
      rw [nI_1, ih a ha]
      rfl
    · have hce := hs ce z
      obtain ⟨t1, t2⟩ := tp wt hwt ce hce
      have g1 := (hG wt hwt ce hce).2
      unfold gp at g1
      rw [if_neg (show ¬ ((if true = true then 1 else 0 : Int32), h).1 = 0 from one_ne)]
      dsimp only
      rw [gR_e hK, hR, Option.bind_some, gR_e os.1, os.2.2.1, Option.bind_some, show nI wt * 64 = nI (wt * 64) from pk_mul wt 64, nI_add, aI_e os.2.2.2.1 os.2.2.2.2 (show wt * 64 + ce < 384 by omega) (by omega), Option.bind_some, t2]
      show f_X1_shortestOf_7 fu n j S (nI wt) (mmin (nI a) (nI _)) (nI ce + 1) h = _
      rw [nI_1, mn_n (by omega) (by omega), ih _ (by omega)]
      rfl
theorem c_unsure (hK : h.K j = 1) (hR : h.R j 2 = some p) (os : OutS h p) (tp : TabH h p g T) (hG : Gp g K T) (hk : K ≤ 1000) (hs : subs S g.n) (hwt : wt < 6) (hn : g.n ≤ 64) : ∀ (k ce n a : Nat), ce + k = 64 → k < n → f_X1_unsureOf_6 fu n j S (nI wt) (nI a) (nI ce) h = some (nI (fUm (fun i => (T wt i).1) S k ce a), h)
  | 0, ce, n, a, hc, hn' => by
    obtain ⟨n, rfl⟩ := Nat.exists_eq_succ_of_ne_zero (show n ≠ 0 by omega)
    rw [f_X1_unsureOf_6, if_pos (l_ge (b := 64) (by omega) (by omega)), fUm]
  | k + 1, ce, n, a, hc, hn' => by
    obtain ⟨n, rfl⟩ := Nat.exists_eq_succ_of_ne_zero (show n ≠ 0 by omega)
    have ih := fun a => c_unsure hK hR os tp hG hk hs hwt hn k (ce + 1) n a (by omega) (by omega)
    rw [f_X1_unsureOf_6, if_neg (l_nge (b := 64) (by omega) (by decide)), s_has (by omega), Option.bind_some, fUm]
    cases z : tb S ce
    · rw [if_pos (show ((if false = true then 1 else 0 : Int32), h).1 = 0 from rfl)]
      show f_X1_unsureOf_6 fu n j S (nI wt) (nI a) (nI ce + 1) h = _
      rw [nI_1, ih a]
      rfl
    · have hce := hs ce z
      obtain ⟨t1, t2⟩ := tp wt hwt ce hce
      have g1 := (hG wt hwt ce hce).1
      unfold gp at g1
      rw [if_neg (show ¬ ((if true = true then 1 else 0 : Int32), h).1 = 0 from one_ne)]
      dsimp only
      rw [gR_e hK, hR, Option.bind_some, gR_e os.1, os.2.1.1, Option.bind_some, show nI wt * 64 = nI (wt * 64) from pk_mul wt 64, nI_add, aI_e os.2.1.2.1 os.2.1.2.2 (show wt * 64 + ce < 384 by omega) (by omega), Option.bind_some, t1]
      by_cases y : 1000000 ≤ (T wt ce).1
      · rw [if_neg (l_nlt (b := 1000000) y (by omega))]
        show f_X1_unsureOf_6 fu n j S (nI wt) (nI a + 1) (nI ce + 1) h = _
        rw [nI_1, nI_1, ih, if_pos rfl, if_pos y]
      · rw [if_pos (l_lt (b := 1000000) (by omega) (by decide))]
        show f_X1_unsureOf_6 fu n j S (nI wt) (nI a) (nI ce + 1) h = _
        rw [nI_1, ih, if_pos rfl, if_neg y]
end ASK
