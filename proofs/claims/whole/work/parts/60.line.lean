/-! A LINE OF A CHANT, read off the tokens: fault, its place; way, sign, number, hours; where the next token is read -/
def Ln : Type := Nat × Nat × Nat × Nat × Nat × Nat × Nat
def Ln.fk (l : Ln) : Nat := l.1
def Ln.fp (l : Ln) : Nat := l.2.1
def Ln.wy (l : Ln) : Nat := l.2.2.1
def Ln.sn (l : Ln) : Nat := l.2.2.2.1
def Ln.vl (l : Ln) : Nat := l.2.2.2.2.1
def Ln.hr (l : Ln) : Nat := l.2.2.2.2.2.1
def Ln.pb (l : Ln) : Nat := l.2.2.2.2.2.2
def flt (k s : Nat) : Ln := ⟨k, s, 0, 0, 0, 0, 0⟩
def lnc (way sn vl hr p : Nat) : Ln := ⟨0, 0, way, sn, vl, hr, p⟩
def pT3 (tp : Nat → Nat) (tl p way sn vl hr : Nat) : Ln := if tK tp tl p = 3 then lnc way sn vl hr (tE tp tl p) else flt 1 (tS tp tl p)
def pT2 (tp : Nat → Nat) (tl p way sn vl : Nat) : Ln := if tK tp tl p = 2 then (if tV tp tl p < 1 ∨ 20 < tV tp tl p then flt 2 (tS tp tl p) else pT3 tp tl (tE tp tl p) way sn vl (tV tp tl p)) else flt 1 (tS tp tl p)
def pT1 (tp : Nat → Nat) (tl p way sn vl : Nat) : Ln := if tK tp tl p = 6 then pT2 tp tl (tE tp tl p) way sn vl else flt 1 (tS tp tl p)
def pU3 (tp : Nat → Nat) (tl p way sn : Nat) : Ln := if tK tp tl p = 2 then (if 3 < tV tp tl p then flt 2 (tS tp tl p) else pT1 tp tl (tE tp tl p) way sn (tV tp tl p)) else flt 1 (tS tp tl p)
def pU2 (tp : Nat → Nat) (tl p way : Nat) : Ln := if tK tp tl p = 7 then pT1 tp tl (tE tp tl p) way 3 0 else if tK tp tl p = 8 then pU3 tp tl (tE tp tl p) way 1 else if tK tp tl p = 9 then pU3 tp tl (tE tp tl p) way 2 else flt 1 (tS tp tl p)
def pU1 (tp : Nat → Nat) (tl p way : Nat) : Ln := if tK tp tl p = 5 then pU2 tp tl (tE tp tl p) way else pT1 tp tl p way 0 0
def pL2 (tp : Nat → Nat) (tl p : Nat) : Ln := if tK tp tl p = 2 then (if 8 < tV tp tl p then flt 2 (tS tp tl p) else pU1 tp tl (tE tp tl p) (tV tp tl p)) else flt 1 (tS tp tl p)
def pL (tp : Nat → Nat) (tl p n : Nat) : Ln := if tK tp tl p = 4 then (if 12 ≤ n then flt 3 (tS tp tl p) else pL2 tp tl (tE tp tl p)) else flt 1 (tS tp tl p)
def Cg.app (c : Cg) (l : Ln) : Cg := ⟨c.n + 1, fun i => if i = c.n then l.wy else c.wy i, fun i => if i = c.n then l.sn else c.sn i, fun i => if i = c.n then l.vl else c.vl i, fun i => if i = c.n then l.hr else c.hr i⟩
/-- a text: fault, its place, the lines -/
def pX (tp : Nat → Nat) (tl : Nat) : Nat → Nat → Cg → Nat × Nat × Cg
  | 0, _, c => (0, 0, c)
  | k + 1, p, c => if tK tp tl p = 0 then (0, 0, c) else if (pL tp tl p c.n).fk = 0 then pX tp tl k (pL tp tl p c.n).pb (c.app (pL tp tl p c.n)) else ((pL tp tl p c.n).fk, (pL tp tl p c.n).fp, c)
section LINE
variable {tp : Nat → Nat} {tl : Nat}
theorem tS_le {p : Nat} (hp : p ≤ tl) : tS tp tl p ≤ tl := run_le hp
theorem tE_le {p : Nat} (hp : p ≤ tl) : tE tp tl p ≤ tl := by
  have h1 := tS_le (tp := tp) hp
  unfold tE
  repeat' split
  · exact h1
  · exact run_le h1
  · exact run_le h1
  · omega
theorem wk_le (s n : Nat) : wk tp s n ≤ 9 := by
  unfold wk
  repeat' split
  all_goals omega
theorem tK_le (p : Nat) : tK tp tl p ≤ 9 := by
  unfold tK
  repeat' split
  all_goals first | exact wk_le _ _ | omega
theorem tV_lt {p : Nat} (hk : tK tp tl p = 2) : tV tp tl p < 100 := by
  unfold tK at hk
  unfold tV tE
  by_cases z : tl ≤ tS tp tl p
  · rw [if_pos z] at hk; cases hk
  · rw [if_neg z] at hk ⊢
    cases zl : isL (tp (tS tp tl p))
    · rw [zl] at hk
      rw [if_neg (show ¬ false = true by decide)] at hk ⊢
      cases zd : isD (tp (tS tp tl p))
      · rw [zd, if_neg (show ¬ false = true by decide)] at hk
        split at hk <;> cases hk
      · rw [zd, if_pos rfl] at hk
        rw [if_pos rfl]
        have d0 := of_decide_eq_true zd
        have zlt : tS tp tl p < tl := by omega
        unfold nv
        by_cases e1 : run isD tp tl (tS tp tl p) = tS tp tl p + 1
        · rw [if_pos e1]; omega
        · rw [if_neg e1]
          have y : tS tp tl p + 1 < tl ∧ isD (tp (tS tp tl p + 1)) = true := by
            by_cases y : tS tp tl p + 1 < tl ∧ isD (tp (tS tp tl p + 1)) = true
            · exact y
            · exact absurd ((run_y zlt zd).trans (run_n y)) e1
          have d1 := of_decide_eq_true y.2
          omega
    · rw [zl, if_pos rfl] at hk
      exact absurd hk (wk_ne2 _ _ _).1
def LnOk (tl : Nat) (l : Ln) : Prop := l.fk = 0 → l.wy < 9 ∧ l.sn < 4 ∧ l.vl < 4 ∧ 1 ≤ l.hr ∧ l.hr ≤ 20 ∧ l.pb ≤ tl
theorem flt_ok {k s : Nat} (hk : k ≠ 0) : LnOk tl (flt k s) := fun z => absurd z hk
theorem pT3_ok {p way sn vl hr : Nat} (hp : p ≤ tl) (h1 : way < 9) (h2 : sn < 4) (h3 : vl < 4) (h4 : 1 ≤ hr) (h5 : hr ≤ 20) : LnOk tl (pT3 tp tl p way sn vl hr) := by
  unfold pT3
  split
  · exact fun _ => ⟨h1, h2, h3, h4, h5, tE_le hp⟩
  · exact flt_ok (by decide)
theorem pT2_ok {p way sn vl : Nat} (hp : p ≤ tl) (h1 : way < 9) (h2 : sn < 4) (h3 : vl < 4) : LnOk tl (pT2 tp tl p way sn vl) := by
  unfold pT2
  split
  · split
    · exact flt_ok (by decide)
    · exact pT3_ok (tE_le hp) h1 h2 h3 (by omega) (by omega)
  · exact flt_ok (by decide)
theorem pT1_ok {p way sn vl : Nat} (hp : p ≤ tl) (h1 : way < 9) (h2 : sn < 4) (h3 : vl < 4) : LnOk tl (pT1 tp tl p way sn vl) := by
  unfold pT1
  split
  · exact pT2_ok (tE_le hp) h1 h2 h3
  · exact flt_ok (by decide)
theorem pU3_ok {p way sn : Nat} (hp : p ≤ tl) (h1 : way < 9) (h2 : sn < 4) : LnOk tl (pU3 tp tl p way sn) := by
  unfold pU3
  split
  · split
    · exact flt_ok (by decide)
    · exact pT1_ok (tE_le hp) h1 h2 (by omega)
  · exact flt_ok (by decide)
theorem pU2_ok {p way : Nat} (hp : p ≤ tl) (h1 : way < 9) : LnOk tl (pU2 tp tl p way) := by
  unfold pU2
  split
  · exact pT1_ok (tE_le hp) h1 (by omega) (by omega)
  · split
    · exact pU3_ok (tE_le hp) h1 (by omega)
    · split
      · exact pU3_ok (tE_le hp) h1 (by omega)
      · exact flt_ok (by decide)
theorem pU1_ok {p way : Nat} (hp : p ≤ tl) (h1 : way < 9) : LnOk tl (pU1 tp tl p way) := by
  unfold pU1
  split
  · exact pU2_ok (tE_le hp) h1
  · exact pT1_ok hp h1 (by omega) (by omega)
theorem pL2_ok {p : Nat} (hp : p ≤ tl) : LnOk tl (pL2 tp tl p) := by
  unfold pL2
  split
  · split
    · exact flt_ok (by decide)
    · exact pU1_ok (tE_le hp) (by omega)
  · exact flt_ok (by decide)
theorem pL_ok {p n : Nat} (hp : p ≤ tl) : LnOk tl (pL tp tl p n) := by
  unfold pL
  split
  · split
    · exact flt_ok (by decide)
    · exact pL2_ok (tE_le hp)
  · exact flt_ok (by decide)
theorem pL_n {p n : Nat} (h : (pL tp tl p n).fk = 0) : n < 12 := by
  unfold pL at h
  split at h
  · split at h
    · cases h
    · omega
  · cases h
theorem Cg.app_ok {c : Cg} {l : Ln} (hc : c.ok) (hn : c.n < 12) (hl : LnOk tl l) (h0 : l.fk = 0) : (c.app l).ok := by
  obtain ⟨l1, l2, l3, l4, l5, -⟩ := hl h0
  refine ⟨show c.n + 1 ≤ 12 by omega, fun k hk => ?_⟩
  have hk : k < c.n + 1 := hk
  by_cases e : k = c.n
  · subst e
    refine ⟨?_, ?_, ?_, ?_, ?_⟩
    · show (if c.n = c.n then l.wy else _) < 9; rw [if_pos rfl]; exact l1
    · show (if c.n = c.n then l.sn else _) < 4; rw [if_pos rfl]; exact l2
    · show (if c.n = c.n then l.vl else _) < 4; rw [if_pos rfl]; exact l3
    · show 1 ≤ (if c.n = c.n then l.hr else _); rw [if_pos rfl]; exact l4
    · show (if c.n = c.n then l.hr else _) ≤ 20; rw [if_pos rfl]; exact l5
  · obtain ⟨m1, m2, m3, m4, m5⟩ := hc.2 k (by omega)
    refine ⟨?_, ?_, ?_, ?_, ?_⟩
    · show (if k = c.n then l.wy else c.wy k) < 9; rw [if_neg e]; exact m1
    · show (if k = c.n then l.sn else c.sn k) < 4; rw [if_neg e]; exact m2
    · show (if k = c.n then l.vl else c.vl k) < 4; rw [if_neg e]; exact m3
    · show 1 ≤ (if k = c.n then l.hr else c.hr k); rw [if_neg e]; exact m4
    · show (if k = c.n then l.hr else c.hr k) ≤ 20; rw [if_neg e]; exact m5
end LINE
