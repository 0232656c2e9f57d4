/-! THE REFERENCE'S TOKENS -/
def kM (k : Nat) : Nat := match k with
  | 0 => 0
  | 1 => 1
  | 2 => 8
  | 3 => 9
  | 4 => 2
  | 5 => 3
  | 6 => 4
  | 7 => 5
  | 8 => 6
  | _ => 7
/-- the reference while it reads -/
def NxW (h : Hp) (m : Nat) (tp : Nat → Nat) (tl pl : Nat) : Prop := h.K m = 7 ∧ arr h m 21 (m + 12) 8 400 ∧ h.I m 22 = nI tl ∧ (∀ j, j < tl → h.I (m + 12) j = nI (tp j)) ∧ tl ≤ 400 ∧ h.I m 23 = nI pl
def NxE (h h1 : Hp) (m : Nat) : Prop := Ed (fun b => b = m) h h1 ∧ (∀ k, ¬ (23 ≤ k ∧ k ≤ 26) → h1.I m k = h.I m k) ∧ h1.J = h.J
def TkM (h : Hp) (m : Nat) (tp : Nat → Nat) (tl p : Nat) : Prop := NxW h m tp tl (tE tp tl p) ∧ h.I m 25 = nI (kM (tK tp tl p)) ∧ h.I m 24 = nI (tS tp tl p) ∧ (tK tp tl p = 2 → h.I m 26 = nI (tV tp tl p))
def rb (tp : Nat → Nat) (tl p : Nat) : Int32 := if p < tl then nI (tp p) else -1
/-- the reference's digits so far -/
def vm (tp : Nat → Nat) (s : Nat) : Nat → Nat
  | 0 => 0
  | 1 => tp s - 48
  | _ => 10 * (tp s - 48) + (tp (s + 1) - 48)
section NEXT
variable {m fu : Nat} {tp : Nat → Nat} {tl : Nat}
theorem NxE.rf {h : Hp} : NxE h h m := ⟨Ed.rf, fun _ _ => rfl, rfl⟩
theorem NxE.tr {h h1 h2 : Hp} (a : NxE h h1 m) (b : NxE h1 h2 m) : NxE h h2 m := ⟨Ed.tr a.1 b.1, fun k hk => (b.2.1 k hk).trans (a.2.1 k hk), b.2.2.trans a.2.2⟩
theorem NxE.p {h : Hp} {k : Nat} {w : Int32} (hk : 23 ≤ k ∧ k ≤ 26) : NxE h (putI h m k w) m := ⟨Ed.pI rfl, fun j hj => by rw [w3, if_neg (by omega)], rfl⟩
theorem NxW.p {h : Hp} {pl pl' k : Nat} {w : Int32} (q : NxW h m tp tl pl) (hk : k = 23 ∧ w = nI pl' ∨ (24 ≤ k ∧ k ≤ 26) ∧ pl' = pl) : NxW (putI h m k w) m tp tl pl' := by
  obtain ⟨r1, r2, r3, r4, r5, r6⟩ := q
  have e : Ed (fun b => b = m) h (putI h m k w) := Ed.pI rfl
  refine ⟨r1, e.arr r2, by rw [w3, if_neg (by omega)]; exact r3, fun j hj => by rw [putI_I, if_neg (by omega)]; exact r4 j hj, r5, ?_⟩
  rw [w3]
  rcases hk with ⟨rfl, rfl⟩ | ⟨hk, rfl⟩
  · rw [if_pos rfl]
  · rw [if_neg (by omega)]; exact r6
theorem m_raw {h : Hp} {pl k : Nat} (q : NxW h m tp tl pl) (hk : pl + k < 2 ^ 31) : f_X7_raw fu m (nI k) h = some (rb tp tl (pl + k), h) := by
  obtain ⟨r1, r2, r3, r4, r5, r6⟩ := q
  unfold f_X7_raw rb
  simp only [gI_e r1, gR_e r1, r6, r3, r2.1, Option.bind_some, nI_add, if_pos r1]
  by_cases z : pl + k < tl
  · rw [if_neg (nI_ge z (by omega)), if_pos z, aI_e r2.2.1 r2.2.2 (show pl + k < 400 by omega) (by omega), Option.bind_some, r4 _ z]
  · rw [if_pos (nI_le (by omega) hk), if_neg z]
theorem m_isL {h : Hp} {p : Nat} (hK : h.K m = 7) (hb : ∀ j, j < tl → tp j < 256) : f_X7_isLetter fu m (rb tp tl p) h = some (if p < tl ∧ isL (tp p) = true then 1 else 0, h) := by
  unfold f_X7_isLetter rb
  rw [if_pos hK]
  by_cases z : p < tl
  · rw [if_pos z]
    have e := c_isL (fu := fu) (h := h) (hb p z)
    refine Eq.trans (show _ = f_X3_isLetter fu (nI (tp p)) h from rfl) ?_
    rw [e]
    cases isL (tp p) <;> simp [z]
  · rw [if_neg z, if_pos (by decide), if_neg (fun y => z y.1)]
    unfold f_X7_isLetter_12
    rw [if_pos (by decide)]
theorem m_isD {h : Hp} {p : Nat} (hK : h.K m = 7) (hb : ∀ j, j < tl → tp j < 256) : f_X7_isDigit fu m (rb tp tl p) h = some (if p < tl ∧ isD (tp p) = true then 1 else 0, h) := by
  unfold f_X7_isDigit rb
  rw [if_pos hK]
  by_cases z : p < tl
  · rw [if_pos z]
    have e := c_isD (fu := fu) (h := h) (hb p z)
    refine Eq.trans (show _ = f_X3_isDigit fu (nI (tp p)) h from rfl) ?_
    rw [e]
    cases isD (tp p) <;> simp [z]
  · rw [if_neg z, if_pos (by decide), if_neg (fun y => z y.1)]
theorem m_isW {h : Hp} {p : Nat} (q : NxW h m tp tl p) (hp : p ≤ tl) (k a b c d e : Nat) (hk : k < 2 ^ 31) : f_X7_isWord fu m (nI k) (nI a) (nI b) (nI c) (nI d) (nI e) h = some (if rb tp tl p = nI a ∧ rb tp tl (p + 1) = nI b ∧ rb tp tl (p + 2) = nI c ∧ (k ≤ 3 ∨ rb tp tl (p + 3) = nI d) ∧ (k < 5 ∨ rb tp tl (p + 4) = nI e) then 1 else 0, h) := by
  have h4 := q.2.2.2.2.1
  have r0 : f_X7_raw fu m 0 h = some (rb tp tl p, h) := m_raw (k := 0) q (by omega)
  have r1 : f_X7_raw fu m 1 h = some (rb tp tl (p + 1), h) := m_raw (k := 1) q (by omega)
  have r2 : f_X7_raw fu m 2 h = some (rb tp tl (p + 2), h) := m_raw (k := 2) q (by omega)
  have r3 : f_X7_raw fu m 3 h = some (rb tp tl (p + 3), h) := m_raw (k := 3) q (by omega)
  have r4 : f_X7_raw fu m 4 h = some (rb tp tl (p + 4), h) := m_raw (k := 4) q (by omega)
  have k3 : (nI k ≤ 3) ↔ k ≤ 3 := ⟨fun z => by
    by_cases y : k ≤ 3
    · exact y
    · exact absurd z (l_nle (b := 3) (by omega) hk), fun z => l_le (b := 3) z (by decide)⟩
  have k5 : (nI k < 5) ↔ k < 5 := ⟨fun z => by
    by_cases y : k < 5
    · exact y
    · exact absurd z (l_nlt (b := 5) (by omega) hk), fun z => l_lt (b := 5) z (by decide)⟩
  unfold f_X7_isWord f_X7_isWord_47 f_X7_isWord_62
  simp only [if_pos q.1, r0, r1, r2, r3, r4, Option.bind_some, k3, k5]
  by_cases z0 : rb tp tl p = nI a
  · by_cases z1 : rb tp tl (p + 1) = nI b
    · by_cases z2 : rb tp tl (p + 2) = nI c
      · by_cases y3 : k ≤ 3
        · simp [z0, z1, z2, y3, show k < 5 by omega]
        · by_cases z3 : rb tp tl (p + 3) = nI d
          · by_cases y5 : k < 5
            · simp [z0, z1, z2, z3, y3, y5]
            · by_cases z4 : rb tp tl (p + 4) = nI e
              · simp [z0, z1, z2, z3, z4, y3, y5]
              · simp [z0, z1, z2, z3, z4, y3, y5]
          · simp [z0, z1, z2, z3, y3]
      · simp [z0, z1, z2]
    · simp [z0, z1]
  · simp [z0]
theorem eqw5 (s a b c d e : Nat) : eqw tp s 5 [a, b, c, d, e] = decide (tp s = a ∧ tp (s + 1) = b ∧ tp (s + 2) = c ∧ tp (s + 3) = d ∧ tp (s + 4) = e) := by
  unfold eqw
  refine decide_eq_decide.mpr ⟨fun z => ⟨z.2 0 (by show 0 < 5; omega), z.2 1 (by show 1 < 5; omega), z.2 2 (by show 2 < 5; omega), z.2 3 (by show 3 < 5; omega), z.2 4 (by show 4 < 5; omega)⟩, fun z => ⟨rfl, fun i hi => ?_⟩⟩
  match i, hi with
  | 0, _ => exact z.1
  | 1, _ => exact z.2.1
  | 2, _ => exact z.2.2.1
  | 3, _ => exact z.2.2.2.1
  | 4, _ => exact z.2.2.2.2
  | i + 5, hi => exact absurd (show i + 5 < 5 from hi) (by omega)
theorem eqw4 (s a b c d : Nat) : eqw tp s 4 [a, b, c, d] = decide (tp s = a ∧ tp (s + 1) = b ∧ tp (s + 2) = c ∧ tp (s + 3) = d) := by
  unfold eqw
  refine decide_eq_decide.mpr ⟨fun z => ⟨z.2 0 (by show 0 < 4; omega), z.2 1 (by show 1 < 4; omega), z.2 2 (by show 2 < 4; omega), z.2 3 (by show 3 < 4; omega)⟩, fun z => ⟨rfl, fun i hi => ?_⟩⟩
  match i, hi with
  | 0, _ => exact z.1
  | 1, _ => exact z.2.1
  | 2, _ => exact z.2.2.1
  | 3, _ => exact z.2.2.2
  | i + 4, hi => exact absurd (show i + 4 < 4 from hi) (by omega)
theorem eqw3 (s a b c : Nat) : eqw tp s 3 [a, b, c] = decide (tp s = a ∧ tp (s + 1) = b ∧ tp (s + 2) = c) := by
  unfold eqw
  refine decide_eq_decide.mpr ⟨fun z => ⟨z.2 0 (by show 0 < 3; omega), z.2 1 (by show 1 < 3; omega), z.2 2 (by show 2 < 3; omega)⟩, fun z => ⟨rfl, fun i hi => ?_⟩⟩
  match i, hi with
  | 0, _ => exact z.1
  | 1, _ => exact z.2.1
  | 2, _ => exact z.2.2
  | i + 3, hi => exact absurd (show i + 3 < 3 from hi) (by omega)
theorem rb_eq (hb : ∀ j, j < tl → tp j < 256) {p a : Nat} (hp : p < tl) (ha : a < 256) : (rb tp tl p = nI a) ↔ tp p = a := by
  unfold rb
  rw [if_pos hp]
  have := hb p hp
  exact nI_eq (by omega) (by omega)
theorem m_w5 (hb : ∀ j, j < tl → tp j < 256) {h : Hp} {p : Nat} (q : NxW h m tp tl p) (hp : p + 5 ≤ tl) (a b c d e : Nat) (ha : a < 256 ∧ b < 256 ∧ c < 256 ∧ d < 256 ∧ e < 256) : f_X7_isWord fu m (nI 5) (nI a) (nI b) (nI c) (nI d) (nI e) h = some (if eqw tp p 5 [a, b, c, d, e] then 1 else 0, h) := by
  rw [m_isW q (by omega) 5 a b c d e (by decide), eqw5]
  simp [rb_eq hb (show p < tl by omega) ha.1, rb_eq hb (show p + 1 < tl by omega) ha.2.1, rb_eq hb (show p + 2 < tl by omega) ha.2.2.1, rb_eq hb (show p + 3 < tl by omega) ha.2.2.2.1, rb_eq hb (show p + 4 < tl by omega) ha.2.2.2.2]
theorem m_w4 (hb : ∀ j, j < tl → tp j < 256) {h : Hp} {p : Nat} (q : NxW h m tp tl p) (hp : p + 4 ≤ tl) (a b c d e : Nat) (ha : a < 256 ∧ b < 256 ∧ c < 256 ∧ d < 256) : f_X7_isWord fu m (nI 4) (nI a) (nI b) (nI c) (nI d) (nI e) h = some (if eqw tp p 4 [a, b, c, d] then 1 else 0, h) := by
  rw [m_isW q (by omega) 4 a b c d e (by decide), eqw4]
  simp [rb_eq hb (show p < tl by omega) ha.1, rb_eq hb (show p + 1 < tl by omega) ha.2.1, rb_eq hb (show p + 2 < tl by omega) ha.2.2.1, rb_eq hb (show p + 3 < tl by omega) ha.2.2.2]
theorem m_w3 (hb : ∀ j, j < tl → tp j < 256) {h : Hp} {p : Nat} (q : NxW h m tp tl p) (hp : p + 3 ≤ tl) (a b c d e : Nat) (ha : a < 256 ∧ b < 256 ∧ c < 256) : f_X7_isWord fu m (nI 3) (nI a) (nI b) (nI c) (nI d) (nI e) h = some (if eqw tp p 3 [a, b, c] then 1 else 0, h) := by
  rw [m_isW q (by omega) 3 a b c d e (by decide), eqw3]
  simp [rb_eq hb (show p < tl by omega) ha.1, rb_eq hb (show p + 1 < tl by omega) ha.2.1, rb_eq hb (show p + 2 < tl by omega) ha.2.2]
/-- the token, if the word is this one -/
def upw (tp : Nat → Nat) (p n i : Nat) (v : Int32) (m : Nat) (h : Hp) : Hp := if eqw tp p n (ws i) = true then putI h m 25 v else h
theorem upw_W {h : Hp} {p n i : Nat} {v : Int32} (q : NxW h m tp tl p) : NxW (upw tp p n i v m h) m tp tl p := by
  unfold upw
  split
  · exact q.p (k := 25) (Or.inr ⟨by omega, rfl⟩)
  · exact q
theorem upw_E {h : Hp} {p n i : Nat} {v : Int32} : NxE h (upw tp p n i v m h) m := by
  unfold upw
  split
  · exact NxE.p (by omega)
  · exact NxE.rf
theorem upw_24 {h : Hp} {p n i : Nat} {v : Int32} : (upw tp p n i v m h).I m 24 = h.I m 24 := by
  unfold upw
  split
  · rw [w3, if_neg (by decide)]
  · rfl
theorem upw_25 {h : Hp} {p n i : Nat} {v : Int32} : (upw tp p n i v m h).I m 25 = if eqw tp p n (ws i) = true then v else h.I m 25 := by
  unfold upw
  split
  · rw [w3, if_pos rfl]
  · rfl
theorem m_stg {h : Hp} {p n i L : Nat} {v cL : Int32} {N : Hp → Option (Unit × Hp)} {isw : Option (Int32 × Hp)} (hc : cL = nI L) (hL : (ws i).length = L) (hL5 : L < 2 ^ 31) (hn : n < 2 ^ 31) (hK : h.K m = 7) (hw : n = L → isw = some (if eqw tp p L (ws i) then 1 else 0, h)) : (if nI n = cL then isw.bind (fun r => if r.1 = 0 then N r.2 else (pI r.2 7 m 25 v).bind fun h' => N h') else N h) = N (upw tp p n i v m h) := by
  unfold upw
  rw [hc]
  by_cases z : n = L
  · rw [if_pos (by rw [z]), hw z, Option.bind_some, z]
    dsimp only
    cases e : eqw tp p L (ws i)
    · rfl
    · rw [if_neg (show ¬ (if true = true then 1 else 0 : Int32) = 0 from one_ne), pI_e hK, Option.bind_some]; rfl
  · rw [if_neg (fun y => z ((nI_eq hn hL5).mp y))]
    have e : eqw tp p n (ws i) = false := decide_eq_false (fun y => z (y.1.trans hL))
    rw [e]; rfl
theorem ws_ne : ∀ i, i < 6 → ∀ j, j < 6 → i ≠ j → ws i ≠ ws j := by decide
theorem eqw_x {p n i j : Nat} (hi : i < 6) (hj : j < 6) (hij : i ≠ j) (z : eqw tp p n (ws i) = true) : eqw tp p n (ws j) = false := by
  refine decide_eq_false (fun y => ws_ne i hi j hj hij ?_)
  have z := of_decide_eq_true z
  apply List.ext_getElem
  · rw [← z.1, ← y.1]
  · intro k h1 h2
    have a1 := z.2 k h1
    have a2 := y.2 k h2
    rw [a1] at a2
    simpa [List.getD, List.getElem?_eq_getElem h1, List.getElem?_eq_getElem h2] using a2
theorem wk_m (p n : Nat) : (if eqw tp p n (ws 5) = true then 7 else if eqw tp p n (ws 4) = true then 6 else if eqw tp p n (ws 3) = true then 5 else if eqw tp p n (ws 2) = true then 4 else if eqw tp p n (ws 1) = true then 3 else if eqw tp p n (ws 0) = true then 2 else 1 : Int32) = nI (kM (wk tp p n)) := by
  have u : wk tp p n = if eqw tp p n (ws 0) = true then 4 else if eqw tp p n (ws 1) = true then 5 else if eqw tp p n (ws 2) = true then 6 else if eqw tp p n (ws 3) = true then 7 else if eqw tp p n (ws 4) = true then 8 else if eqw tp p n (ws 5) = true then 9 else 1 := rfl
  rw [u]
  have X := fun i j hi hj hij => eqw_x (tp := tp) (p := p) (n := n) (i := i) (j := j) hi hj hij
  cases e0 : eqw tp p n (ws 0)
  · cases e1 : eqw tp p n (ws 1)
    · cases e2 : eqw tp p n (ws 2)
      · cases e3 : eqw tp p n (ws 3)
        · cases e4 : eqw tp p n (ws 4)
          · cases e5 : eqw tp p n (ws 5) <;> rfl
          · rw [X 4 5 (by decide) (by decide) (by decide) e4]; rfl
        · rw [X 3 5 (by decide) (by decide) (by decide) e3, X 3 4 (by decide) (by decide) (by decide) e3]; rfl
      · rw [X 2 5 (by decide) (by decide) (by decide) e2, X 2 4 (by decide) (by decide) (by decide) e2, X 2 3 (by decide) (by decide) (by decide) e2]; rfl
    · rw [X 1 5 (by decide) (by decide) (by decide) e1, X 1 4 (by decide) (by decide) (by decide) e1, X 1 3 (by decide) (by decide) (by decide) e1, X 1 2 (by decide) (by decide) (by decide) e1]; rfl
  · rw [X 0 5 (by decide) (by decide) (by decide) e0, X 0 4 (by decide) (by decide) (by decide) e0, X 0 3 (by decide) (by decide) (by decide) e0, X 0 2 (by decide) (by decide) (by decide) e0, X 0 1 (by decide) (by decide) (by decide) e0]; rfl
end NEXT
