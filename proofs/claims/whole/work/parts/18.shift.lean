/-! ONE STEP OF A SET, AND THE 25 SHIFTS -/
def fW (w c : Nat) : Nat := if c % w = 0 then c else c - 1
def fE (w c : Nat) : Nat := if c % w = w - 1 then c else c + 1
def fN (w c : Nat) : Nat := if c / w = 0 then c else c - w
def fS (w hh c : Nat) : Nat := if c / w = hh - 1 then c else c + w
def gk (w hh c r k : Nat) : Nat := w * min (c / w + r - 2) (hh - 1) + min (c % w + k - 2) (w - 1)
def ckS (w hh c : Nat) : Bool := gk w hh c 2 2 == c && fN w (gk w hh c 2 2) == gk w hh c 1 2 && fN w (gk w hh c 1 2) == gk w hh c 0 2 && fS w hh (gk w hh c 2 2) == gk w hh c 3 2 && fS w hh (gk w hh c 3 2) == gk w hh c 4 2 && (List.range 5).all (fun r => fW w (gk w hh c r 2) == gk w hh c r 1 && fW w (gk w hh c r 1) == gk w hh c r 0 && fE w (gk w hh c r 2) == gk w hh c r 3 && fE w (gk w hh c r 3) == gk w hh c r 4 && (List.range 5).all (fun k => decide (gk w hh c r k < w * hh))) && decide (fW w c < w * hh) && decide (fE w c < w * hh) && decide (fN w c < w * hh) && decide (fS w hh c < w * hh)
theorem ckS_all : ∀ w, w < 9 → ∀ hh, hh < 9 → 2 ≤ w → 2 ≤ hh → ∀ c, c < w * hh → ckS w hh c = true := by decide +kernel
/-- s lies within the first n cells -/
def subs (s : Int64) (n : Nat) : Prop := ∀ i, tb s i = true → i < n
/-- r is the image of s under f -/
def isImg (r s : Int64) (n : Nat) (f : Nat → Nat) : Prop := ∀ i, i < 64 → (tb r i = true ↔ ∃ c, c < n ∧ tb s c = true ∧ f c = i)
theorem isImg.sub {r s : Int64} {n : Nat} {f : Nat → Nat} (h : isImg r s n f) (hf : ∀ c, c < n → f c < n) : subs r n := by
  intro i hi
  have h64 : i < 64 := Nat.lt_of_not_le (fun q => by rw [tb_big q] at hi; cases hi)
  obtain ⟨c, h1, -, h3⟩ := (h i h64).mp hi
  rw [← h3]; exact hf c h1
theorem isImg.comp {r s t : Int64} {n : Nat} {f f2 f3 : Nat → Nat} (hn : n ≤ 64) (h : isImg r s n f) (h2 : isImg t r n f2) (hf : ∀ c, c < n → f c < n) (he : ∀ c, c < n → f2 (f c) = f3 c) : isImg t s n f3 := by
  intro i hi
  rw [h2 i hi]
  constructor
  · rintro ⟨c, h1, h3, h4⟩
    obtain ⟨d, d1, d2, d3⟩ := (h c (by omega)).mp h3
    exact ⟨d, d1, d2, by rw [← he d d1, d3, h4]⟩
  · rintro ⟨d, d1, d2, d3⟩
    exact ⟨f d, hf d d1, (h (f d) (by have := hf d d1; omega)).mpr ⟨d, d1, d2, rfl⟩, by rw [he d d1, d3]⟩
theorem isImg.id {s : Int64} {n : Nat} (hs : subs s n) {f : Nat → Nat} (hf : ∀ c, c < n → f c = c) : isImg s s n f := by
  intro i _
  constructor
  · intro h; exact ⟨i, hs i h, h, hf i (hs i h)⟩
  · rintro ⟨c, h1, h2, h3⟩; rw [← h3, hf c h1]; exact h2
def oW (v s : Int64) : Int64 := lush (s &&& (v ^^^ (-1))) 1 ||| (s &&& v)
def oE (v s : Int64) : Int64 := lsh (s &&& (v ^^^ (-1))) 1 ||| (s &&& v)
def oN (v s : Int64) (w : Nat) : Int64 := lush (s &&& (v ^^^ (-1))) (nI w) ||| (s &&& v)
def oS (v s : Int64) (w : Nat) : Int64 := lsh (s &&& (v ^^^ (-1))) (nI w) ||| (s &&& v)
theorem oR_img {v s : Int64} {w n : Nat} {P : Nat → Prop} [DecidablePred P] (hw0 : 0 < w) (hw : w < 64) (hn : n ≤ 64) (hs : subs s n) (hv : ∀ i, i < 64 → tb v i = decide (i < n ∧ P i)) (hP : ∀ c, c < n → ¬ P c → w ≤ c) : isImg (lush (s &&& (v ^^^ (-1))) (nI w) ||| (s &&& v)) s n (fun c => if P c then c else c - w) := by
  intro i hi
  rw [tb_or, tb_and, tb_lush _ hw, tb_and, Bool.or_eq_true, Bool.and_eq_true, Bool.and_eq_true, hv i hi, decide_eq_true_eq]
  constructor
  · rintro (⟨h1, h2⟩ | ⟨h1, h2, h3⟩)
    · have hl := hs _ h1
      rw [tb_not (by omega), hv _ (by omega)] at h2
      have hp : ¬ P (w + i) := by intro q; simp [hl, q] at h2
      exact ⟨w + i, hl, h1, by show (if P (w + i) then _ else _) = i; rw [if_neg hp]; omega⟩
    · exact ⟨i, h2, h1, by show (if P i then _ else _) = i; rw [if_pos h3]⟩
  · rintro ⟨c, h1, h2, h3⟩
    dsimp only at h3
    by_cases hp : P c
    · rw [if_pos hp] at h3
      subst h3
      exact Or.inr ⟨h2, h1, hp⟩
    · rw [if_neg hp] at h3
      have := hP c h1 hp
      obtain rfl : c = w + i := by omega
      refine Or.inl ⟨h2, ?_⟩
      rw [tb_not (by omega), hv _ (by omega)]
      simp [hp]
theorem oL_img {v s : Int64} {w n : Nat} {P : Nat → Prop} [DecidablePred P] (hw : w < 64) (hn : n ≤ 64) (hs : subs s n) (hv : ∀ i, i < 64 → tb v i = decide (i < n ∧ P i)) (hP : ∀ c, c < n → ¬ P c → c + w < n) : isImg (lsh (s &&& (v ^^^ (-1))) (nI w) ||| (s &&& v)) s n (fun c => if P c then c else c + w) := by
  intro i hi
  rw [tb_or, tb_and, tb_lsh _ hw hi, tb_and, Bool.or_eq_true, Bool.and_eq_true, Bool.and_eq_true, Bool.and_eq_true, hv i hi, decide_eq_true_eq, decide_eq_true_eq]
  constructor
  · rintro (⟨h0, h1, h2⟩ | ⟨h1, h2, h3⟩)
    · have hl := hs _ h1
      rw [tb_not (by omega), hv _ (by omega)] at h2
      have hp : ¬ P (i - w) := by intro q; simp [hl, q] at h2
      exact ⟨i - w, hl, h1, by show (if P (i - w) then _ else _) = i; rw [if_neg hp]; omega⟩
    · exact ⟨i, h2, h1, by show (if P i then _ else _) = i; rw [if_pos h3]⟩
  · rintro ⟨c, h1, h2, h3⟩
    dsimp only at h3
    by_cases hp : P c
    · rw [if_pos hp] at h3
      subst h3
      exact Or.inr ⟨h2, h1, hp⟩
    · rw [if_neg hp] at h3
      subst h3
      refine Or.inl ⟨by omega, by rw [Nat.add_sub_cancel]; exact h2, ?_⟩
      rw [Nat.add_sub_cancel, tb_not (by omega), hv _ (by omega)]
      simp [hp]
section SHIFT
variable {h : Hp} {a fu : Nat} {g : Sg}
theorem ck (hg : g.ok) {c : Nat} (hc : c < g.n) : ckS g.w g.hh c = true := ckS_all g.w (by have := hg.2.1; omega) g.hh (by have := hg.2.2.2.1; omega) hg.1 hg.2.2.1 c hc
theorem ck_W (hg : g.ok) {c : Nat} (hc : c < g.n) : fW g.w c < g.n ∧ fE g.w c < g.n ∧ fN g.w c < g.n ∧ fS g.w g.hh c < g.n := by
  have := ck hg hc
  simp only [ckS, Bool.and_eq_true, decide_eq_true_eq] at this
  exact ⟨this.1.1.1.2, this.1.1.2, this.1.2, this.2⟩
theorem s_W (hS : Se h a g) {s : Int64} (hs : subs s g.n) : isImg (oW (h.J a 14) s) s g.n (fW g.w) := by
  have hn := hS.2.2.2.n64
  refine oR_img (w := 1) (P := fun c => c % g.w = 0) (by omega) (by omega) hn hs hS.2.2.1.2.2.2.1 ?_
  intro c _ hp
  rcases Nat.eq_zero_or_pos c with rfl | h
  · exact absurd (Nat.zero_mod _) hp
  · exact h
theorem s_E (hS : Se h a g) {s : Int64} (hs : subs s g.n) : isImg (oE (h.J a 15) s) s g.n (fE g.w) := by
  have hn := hS.2.2.2.n64
  refine oL_img (w := 1) (P := fun c => c % g.w = g.w - 1) (by omega) hn hs hS.2.2.1.2.2.2.2.1 ?_
  intro c hc hp
  have := (ck_W hS.2.2.2 hc).2.1
  unfold fE at this
  rwa [if_neg hp] at this
theorem s_N (hS : Se h a g) {s : Int64} (hs : subs s g.n) : isImg (oN (h.J a 16) s g.w) s g.n (fN g.w) := by
  have hn := hS.2.2.2.n64
  have w2 := hS.2.2.2.1
  have w8 := hS.2.2.2.2.1
  refine oR_img (P := fun c => c / g.w = 0) (by omega) (by omega) hn hs hS.2.2.1.2.2.2.2.2.1 ?_
  intro c _ hp
  apply Nat.le_of_not_lt
  intro q
  exact hp (Nat.div_eq_of_lt q)
theorem s_S (hS : Se h a g) {s : Int64} (hs : subs s g.n) : isImg (oS (h.J a 17) s g.w) s g.n (fS g.w g.hh) := by
  have hn := hS.2.2.2.n64
  have w8 := hS.2.2.2.2.1
  refine oL_img (P := fun c => c / g.w = g.hh - 1) (by omega) hn hs hS.2.2.1.2.2.2.2.2.2 ?_
  intro c hc hp
  have := (ck_W hS.2.2.2 hc).2.2.2
  unfold fS at this
  rwa [if_neg hp] at this
theorem s_oneWest (hS : SeaS h a) {s : Int64} : f_X4_oneWest fu a s h = some (oW (h.J a 14) s, h) := by
  unfold f_X4_oneWest; rw [if_pos hS.1, gJ_e hS.1]; rfl
theorem s_oneEast (hS : SeaS h a) {s : Int64} : f_X4_oneEast fu a s h = some (oE (h.J a 15) s, h) := by
  unfold f_X4_oneEast; rw [if_pos hS.1, gJ_e hS.1]; rfl
theorem s_oneNorth (hS : SeaS h a) (hw : h.I a 0 = nI g.w) {s : Int64} : f_X4_oneNorth fu a s h = some (oN (h.J a 16) s g.w, h) := by
  unfold f_X4_oneNorth; rw [if_pos hS.1, gJ_e hS.1, gI_e hS.1, hw]; rfl
theorem s_oneSouth (hS : SeaS h a) (hw : h.I a 0 = nI g.w) {s : Int64} : f_X4_oneSouth fu a s h = some (oS (h.J a 17) s g.w, h) := by
  unfold f_X4_oneSouth; rw [if_pos hS.1, gJ_e hS.1, gI_e hS.1, hw]; rfl
end SHIFT
