/-! THE TAPE'S TOKENS -/
def isB (b : Nat) : Bool := decide (b = 32 ∨ b = 10)
def isL (b : Nat) : Bool := decide ((97 ≤ b ∧ b ≤ 122) ∨ (65 ≤ b ∧ b ≤ 90))
def isD (b : Nat) : Bool := decide (48 ≤ b ∧ b ≤ 57)
/-- how far a run of such bytes goes -/
def rn (f : Nat → Bool) (tp : Nat → Nat) (tl : Nat) : Nat → Nat → Nat
  | 0, p => p
  | k + 1, p => if p < tl ∧ f (tp p) = true then rn f tp tl k (p + 1) else p
def run (f : Nat → Bool) (tp : Nat → Nat) (tl p : Nat) : Nat := rn f tp tl (tl - p) p
theorem rn_le {f : Nat → Bool} {tp : Nat → Nat} {tl : Nat} : ∀ (k p : Nat), p ≤ rn f tp tl k p ∧ (p ≤ tl → rn f tp tl k p ≤ tl)
  | 0, p => ⟨Nat.le_refl _, id⟩
  | k + 1, p => by
    rw [rn]
    split
    · have := rn_le (f := f) (tp := tp) (tl := tl) k (p + 1)
      exact ⟨by omega, fun h => this.2 (by omega)⟩
    · exact ⟨Nat.le_refl _, id⟩
theorem run_ge {f : Nat → Bool} {tp : Nat → Nat} {tl p : Nat} : p ≤ run f tp tl p := (rn_le _ _).1
theorem run_le {f : Nat → Bool} {tp : Nat → Nat} {tl p : Nat} (h : p ≤ tl) : run f tp tl p ≤ tl := (rn_le _ _).2 h
theorem run_y {f : Nat → Bool} {tp : Nat → Nat} {tl p : Nat} (h : p < tl) (hf : f (tp p) = true) : run f tp tl p = run f tp tl (p + 1) := by
  unfold run
  rw [show tl - p = (tl - (p + 1)) + 1 by omega, rn, if_pos ⟨h, hf⟩]
theorem run_n {f : Nat → Bool} {tp : Nat → Nat} {tl p : Nat} (h : ¬ (p < tl ∧ f (tp p) = true)) : run f tp tl p = p := by
  unfold run
  cases z : tl - p with
  | zero => rfl
  | succ k => rw [rn, if_neg h]
def eqw (tp : Nat → Nat) (s n : Nat) (w : List Nat) : Bool := decide (n = w.length ∧ ∀ i, i < w.length → tp (s + i) = w.getD i 0)
/-- the kind of a word: 4 steer, 5 until, 6 for, 7 birds, 8 swell, 9 star, 1 none of them -/
def wk (tp : Nat → Nat) (s n : Nat) : Nat :=
  if eqw tp s n [115, 116, 101, 101, 114] then 4
  else if eqw tp s n [117, 110, 116, 105, 108] then 5
  else if eqw tp s n [102, 111, 114] then 6
  else if eqw tp s n [98, 105, 114, 100, 115] then 7
  else if eqw tp s n [115, 119, 101, 108, 108] then 8
  else if eqw tp s n [115, 116, 97, 114] then 9
  else 1
/-- where the token starts that is read from p on -/
def tS (tp : Nat → Nat) (tl p : Nat) : Nat := run isB tp tl p
/-- its kind: 0 end, 1 wrong, 2 number, 3 semicolon, or a word's -/
def tK (tp : Nat → Nat) (tl p : Nat) : Nat :=
  if tl ≤ tS tp tl p then 0
  else if isL (tp (tS tp tl p)) then wk tp (tS tp tl p) (run isL tp tl (tS tp tl p) - tS tp tl p)
  else if isD (tp (tS tp tl p)) then (if run isD tp tl (tS tp tl p) - tS tp tl p ≤ 2 then 2 else 1)
  else if tp (tS tp tl p) = 59 then 3 else 1
/-- where it ends -/
def tE (tp : Nat → Nat) (tl p : Nat) : Nat :=
  if tl ≤ tS tp tl p then tS tp tl p
  else if isL (tp (tS tp tl p)) then run isL tp tl (tS tp tl p)
  else if isD (tp (tS tp tl p)) then run isD tp tl (tS tp tl p)
  else tS tp tl p + 1
/-- the number of one or two digits from s to e -/
def nv (tp : Nat → Nat) (s e : Nat) : Nat := if e = s + 1 then tp s - 48 else 10 * (tp s - 48) + (tp (s + 1) - 48)
def tV (tp : Nat → Nat) (tl p : Nat) : Nat := nv tp (tS tp tl p) (tE tp tl p)
/-- the class's reader while it reads -/
def RdW (h : Hp) (x : Nat) (tp : Nat → Nat) (tl : Nat) (fk fp : Int32) (pl : Nat) : Prop := ReaderP h x tp tl fk fp ∧ h.I (x + 8) 4 = nI pl
section LEXC
variable {x fu : Nat} {tp : Nat → Nat} {tl : Nat}
theorem c_isB {h : Hp} {b : Nat} (hb : b < 256) : f_X3_isBlank fu (nI b) h = some (if isB b then 1 else 0, h) := by
  unfold f_X3_isBlank isB f_X3_isBlank_12
  by_cases h1 : b = 32
  · rw [if_pos (by rw [h1]; rfl)]; simp [h1]
  · rw [if_neg (ne_lit (b := 32) (by omega) (by decide) h1)]
    by_cases h2 : b = 10
    · rw [if_pos (by rw [h2]; rfl)]; simp [h2]
    · rw [if_neg (ne_lit (b := 10) (by omega) (by decide) h2)]; simp [h1, h2]
theorem c_isD {h : Hp} {b : Nat} (hb : b < 256) : f_X3_isDigit fu (nI b) h = some (if isD b then 1 else 0, h) := by
  unfold f_X3_isDigit isD
  by_cases h1 : b < 48
  · rw [if_pos (l_lt (b := 48) h1 (by decide))]; simp; omega
  · rw [if_neg (l_nlt (b := 48) (by omega) (by omega))]
    by_cases h2 : 57 < b
    · rw [if_pos (l_gt (b := 57) h2 (by omega))]; simp; omega
    · rw [if_neg (l_ngt (b := 57) (by omega) (by decide))]; simp; omega
theorem c_isL {h : Hp} {b : Nat} (hb : b < 256) : f_X3_isLetter fu (nI b) h = some (if isL b then 1 else 0, h) := by
  have h12 : b < 97 ∨ 122 < b → f_X3_isLetter_12 fu (nI b) h = some (if isL b then 1 else 0, h) := by
    intro hz
    unfold f_X3_isLetter_12 f_X3_isLetter_24 isL
    by_cases h1 : b < 65
    · rw [if_pos (l_lt (b := 65) h1 (by decide))]; simp; omega
    · rw [if_neg (l_nlt (b := 65) (by omega) (by omega))]
      by_cases h2 : 90 < b
      · rw [if_pos (l_gt (b := 90) h2 (by omega))]; simp; omega
      · rw [if_neg (l_ngt (b := 90) (by omega) (by decide))]; simp; omega
  unfold f_X3_isLetter
  by_cases h1 : b < 97
  · rw [if_pos (l_lt (b := 97) h1 (by decide))]; exact h12 (Or.inl h1)
  · rw [if_neg (l_nlt (b := 97) (by omega) (by omega))]
    by_cases h2 : b ≤ 122
    · rw [if_pos (l_le (b := 122) h2 (by decide))]
      unfold f_X3_isLetter_24 isL; simp; omega
    · rw [if_neg (l_nle (b := 122) (by omega) (by omega))]; exact h12 (Or.inr (by omega))
end LEXC
