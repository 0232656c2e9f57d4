/-! THE CLASS READS A LINE -/
def FlP (h : Hp) (x : Nat) (tp : Nat → Nat) (tl k s : Nat) : Prop := ReaderP h x tp tl (nI k) (nI s) ∧ 0 < k ∧ k < 4
def PE (x dr : Nat) : Nat → Prop := fun b => b = x + 8 ∨ (dr ≤ b ∧ b < dr + 5)
def OkC (x dr : Nat) (tp : Nat → Nat) (tl : Nat) (c : Cg) (h : Hp) (o : Option (Unit × Hp)) (r : Ln) : Prop := ∃ h1, o = some ((), h1) ∧ Ed (PE x dr) h h1 ∧ (r.fk = 0 → TkC h1 x tp tl 0 (-1) r.pb ∧ ChantS h1 dr ∧ ChantV h1 dr (c.app r)) ∧ (r.fk ≠ 0 → FlP h1 x tp tl r.fk r.fp)
section PARSEC
variable {x fu dr : Nat} {tp : Nat → Nat} {tl : Nat} {c : Cg}
theorem fl_ne {k : Nat} (hk : 0 < k ∧ k < 4) : ¬ nI k = 0 := ne_lit (b := 0) (by omega) (by decide) (by omega)
theorem OkC.pre {h h' : Hp} {o : Option (Unit × Hp)} {r : Ln} (e : Ed (fun b => b = x + 8) h h') (q : OkC x dr tp tl c h' o r) : OkC x dr tp tl c h o r := by
  obtain ⟨h1, a1, a2, a3, a4⟩ := q
  exact ⟨h1, a1, Ed.tr (e.mono (fun b hb => Or.inl hb)) a2, a3, a4⟩
theorem OkC.f {h h1 : Hp} {k s : Nat} (e : Ed (fun b => b = x + 8) h h1) (q : FlP h1 x tp tl k s) : OkC x dr tp tl c h (some ((), h1)) (flt k s) :=
  ⟨h1, rfl, e.mono (fun b hb => Or.inl hb), fun z => by have := q.2.1; exact absurd (show k = 0 from z) (by omega), fun _ => q⟩
theorem c_blame {h : Hp} {p k : Nat} (hk : 0 < k ∧ k < 4) (q : TkC h x tp tl 0 (-1) p) : ∃ h1, f_X3_blame fu (x + 8) (nI k) h = some ((), h1) ∧ FlP h1 x tp tl k (tS tp tl p) ∧ Ed (fun b => b = x + 8) h h1 ∧ h1.I (x + 8) 5 = h.I (x + 8) 5 ∧ h1.I (x + 8) 7 = h.I (x + 8) 7 := by
  obtain ⟨⟨⟨r1, r2, r3, r4, r5, r6, r7⟩, r8⟩, t5, t6, t7⟩ := q
  have e : Ed (fun b => b = x + 8) h (putI (putI h (x + 8) 1 (nI k)) (x + 8) 2 (nI (tS tp tl p))) := Ed.tr (Ed.pI rfl) (Ed.pI rfl)
  refine ⟨putI (putI h (x + 8) 1 (nI k)) (x + 8) 2 (nI (tS tp tl p)), ?_, ⟨⟨r1, e.arr r2, by rw [w3, if_neg (by decide), w3, if_neg (by decide)]; exact r3, by rw [w3, if_neg (by decide), w3, if_pos rfl], by rw [w3, if_pos rfl], fun j hj => by rw [putI_I, if_neg (by omega), putI_I, if_neg (by omega)]; exact r6 j hj, r7⟩, hk⟩, e, by rw [w3, if_neg (by decide), w3, if_neg (by decide)], by rw [w3, if_neg (by decide), w3, if_neg (by decide)]⟩
  unfold f_X3_blame
  rw [if_pos r1, gI_e r1, Option.bind_some, r4, if_pos rfl, pI_e r1, Option.bind_some, gI_e (h := putI _ _ _ _) r1, Option.bind_some, w3, if_neg (by decide), t6, pI_e (h := putI _ _ _ _) r1, Option.bind_some]
theorem f_blame {h : Hp} {k s : Nat} {w : Int32} (q : FlP h x tp tl k s) : f_X3_blame fu (x + 8) w h = some ((), h) := by
  obtain ⟨⟨r1, r2, r3, r4, r5, r6, r7⟩, hk⟩ := q
  unfold f_X3_blame
  rw [if_pos r1, gI_e r1, Option.bind_some, r4, if_neg (fl_ne hk)]
theorem f_take9 {h : Hp} {k s : Nat} (q : FlP h x tp tl k s) : f_X3_take_9 fu (x + 8) h = some ((), h) := by
  obtain ⟨⟨r1, r2, r3, r4, r5, r6, r7⟩, hk⟩ := q
  unfold f_X3_take_9
  rw [gI_e r1, Option.bind_some, r4, if_neg (fl_ne hk)]
theorem f_take {h : Hp} {k s : Nat} {w : Int32} (q : FlP h x tp tl k s) : f_X3_take fu (x + 8) w h = some ((), h) := by
  unfold f_X3_take
  rw [if_pos q.1.1, f_blame q, Option.bind_some, f_take9 q]
  split <;> rfl
theorem f_num {h : Hp} {k s : Nat} {a b : Int32} (q : FlP h x tp tl k s) : f_X3_numberWithin fu (x + 8) a b h = some (h.I (x + 8) 7, h) := by
  have r1 := q.1.1
  have e29 : f_X3_numberWithin_29 fu (x + 8) h = some (h.I (x + 8) 7, h) := by
    unfold f_X3_numberWithin_29
    rw [gI_e r1, Option.bind_some]
  have e24 : f_X3_numberWithin_24 fu (x + 8) h = some (h.I (x + 8) 7, h) := by
    unfold f_X3_numberWithin_24
    rw [f_blame q, Option.bind_some]; exact e29
  unfold f_X3_numberWithin
  simp only [if_pos r1, gI_e r1, Option.bind_some, e29, e24]
  repeat' split
  all_goals rfl
theorem f_sig {h : Hp} (r1 : h.K (x + 8) = 3) : ∃ w, f_X3_signNamed fu (x + 8) h = some (w, h) := by
  unfold f_X3_signNamed
  rw [if_pos r1, gI_e r1, Option.bind_some]
  unfold swt
  split
  · exact ⟨_, rfl⟩
  · generalize ((h.I (x + 8) 5).toInt - 7).toNat = j
    match j with
    | 0 => exact ⟨_, rfl⟩
    | 1 => exact ⟨_, rfl⟩
    | 2 => exact ⟨_, rfl⟩
    | j + 3 => exact ⟨_, rfl⟩
theorem f_193 {h : Hp} {k s : Nat} {a b d e w : Int32} (q : FlP h x tp tl k s) : f_X3_readLine_193 fu (x + 8) dr a b d e (x + 8) w h = some ((), h) := by
  unfold f_X3_readLine_193
  rw [f_take q, Option.bind_some]
  dsimp only
  rw [gI_e q.1.1, Option.bind_some, q.1.2.2.2.1, if_neg (fl_ne q.2)]
theorem f_176 {h : Hp} {k s : Nat} {a b d e w : Int32} (q : FlP h x tp tl k s) : f_X3_readLine_176 fu (x + 8) dr a b d e (x + 8) w h = some ((), h) := by
  unfold f_X3_readLine_176
  rw [f_take q, Option.bind_some]
  dsimp only
  rw [gI_e q.1.1, Option.bind_some, f_193 q, f_193 q, ite_self]
theorem f_150 {h : Hp} {k s : Nat} {a b d w : Int32} (q : FlP h x tp tl k s) : f_X3_readLine_150 fu (x + 8) dr a b d (x + 8) w h = some ((), h) := by
  unfold f_X3_readLine_150
  rw [f_take q, Option.bind_some]
  dsimp only
  rw [f_num q, Option.bind_some]
  dsimp only
  rw [gI_e q.1.1, Option.bind_some, f_176 q, f_176 q, ite_self]
theorem f_135 {h : Hp} {k s : Nat} {a b d : Int32} (q : FlP h x tp tl k s) : f_X3_readLine_135 fu (x + 8) dr a b d h = some ((), h) := by
  unfold f_X3_readLine_135
  rw [gI_e q.1.1, Option.bind_some, f_150 q, f_150 q, ite_self]
theorem f_132 {h : Hp} {k s : Nat} {a b d w : Int32} (q : FlP h x tp tl k s) : f_X3_readLine_132 fu (x + 8) dr a b d (x + 8) w h = some ((), h) := by
  unfold f_X3_readLine_132
  rw [f_take q, Option.bind_some]
  exact f_135 q
theorem f_110 {h : Hp} {k s : Nat} {a b : Int32} (q : FlP h x tp tl k s) : f_X3_readLine_110 fu (x + 8) dr a b h = some ((), h) := by
  unfold f_X3_readLine_110
  rw [f_num q, Option.bind_some]
  dsimp only
  rw [gI_e q.1.1, Option.bind_some, f_132 q, f_132 q, ite_self]
theorem f_98 {h : Hp} {k s : Nat} {a b d w : Int32} (q : FlP h x tp tl k s) : f_X3_readLine_98 fu (x + 8) dr a b d (x + 8) w h = some ((), h) := by
  unfold f_X3_readLine_98
  rw [f_take q, Option.bind_some]
  dsimp only
  rw [f_110 q, f_135 q, ite_self, ite_self]
theorem f_61 {h : Hp} {k s : Nat} {a w : Int32} (q : FlP h x tp tl k s) : f_X3_readLine_61 fu (x + 8) dr a (x + 8) w h = some ((), h) := by
  obtain ⟨sg, hsg⟩ := f_sig (fu := fu) q.1.1
  unfold f_X3_readLine_61
  rw [f_take q, Option.bind_some]
  dsimp only
  rw [gI_e q.1.1, Option.bind_some, f_take q, Option.bind_some]
  dsimp only
  rw [hsg, Option.bind_some]
  dsimp only
  rw [f_98 q, f_98 q, f_135 q, ite_self, ite_self]
theorem f_36 {h : Hp} {k s : Nat} {w : Int32} (q : FlP h x tp tl k s) : f_X3_readLine_36 fu (x + 8) dr (x + 8) w h = some ((), h) := by
  unfold f_X3_readLine_36
  rw [f_take q, Option.bind_some]
  dsimp only
  rw [f_num q, Option.bind_some]
  dsimp only
  rw [gI_e q.1.1, Option.bind_some, f_61 q, f_61 q, ite_self]
theorem f_22 {h : Hp} {k s : Nat} (q : FlP h x tp tl k s) : f_X3_readLine_22 fu (x + 8) dr h = some ((), h) := by
  unfold f_X3_readLine_22
  rw [gI_e q.1.1, Option.bind_some, f_36 q, f_36 q, ite_self]
/-! no fault so far -/
def CD (h : Hp) (dr : Nat) (c : Cg) : Prop := ChantS h dr ∧ ChantV h dr c
theorem CD.ed {h h1 : Hp} (hd : x + 10 ≤ dr) (e : Ed (fun b => b = x + 8) h h1) (q : CD h dr c) : CD h1 dr c :=
  ⟨q.1.fr (fun b p1 p2 => e.same (by omega)), q.2.fr (fun b p1 p2 => e.same (by omega))⟩
theorem t_y (hb : ∀ j, j < tl → tp j < 256) (hf : 20000 < fu) (hd : x + 10 ≤ dr) {h : Hp} {p : Nat} {r : Ln} {K : Hp → Option (Unit × Hp)} (hp : p ≤ tl) (q : TkC h x tp tl 0 (-1) p) (d : CD h dr c) (k : ∀ h1, TkC h1 x tp tl 0 (-1) (tE tp tl p) → CD h1 dr c → OkC x dr tp tl c h1 (K h1) r) : OkC x dr tp tl c h ((f_X3_take fu (x + 8) 1 h).bind fun z => K z.2) r := by
  have r1 := q.1.1.1
  obtain ⟨h1, a1, a2, a3⟩ := c_token (fu := fu) hb hf (tE_le hp) q.1
  have e : f_X3_take fu (x + 8) 1 h = some ((), h1) := by
    unfold f_X3_take f_X3_take_9
    rw [if_pos r1, if_neg one_ne, gI_e r1, Option.bind_some, q.1.1.2.2.2.1, if_pos rfl, a1, Option.bind_some]
  rw [e, Option.bind_some]
  exact (k h1 a2 (d.ed hd a3)).pre a3
theorem t_n {h : Hp} {p : Nat} {K : Hp → Option (Unit × Hp)} (q : TkC h x tp tl 0 (-1) p) (k : ∀ h1 s, FlP h1 x tp tl 1 s → K h1 = some ((), h1)) : OkC x dr tp tl c h ((f_X3_take fu (x + 8) 0 h).bind fun z => K z.2) (flt 1 (tS tp tl p)) := by
  obtain ⟨h1, a1, a2, a3, -⟩ := c_blame (fu := fu) (k := 1) (by decide) q
  have e : f_X3_take fu (x + 8) 0 h = some ((), h1) := by
    unfold f_X3_take
    rw [if_pos q.1.1.1, if_pos rfl, show (1 : Int32) = nI 1 from rfl, a1, Option.bind_some]
    exact f_take9 a2
  rw [e, Option.bind_some]
  dsimp only
  rw [k h1 _ a2]
  exact OkC.f a3 a2
/-- a number that can't be is blamed; else nothing is done -/
theorem t_num {h : Hp} {p : Nat} {a b : Nat} (hab : a < 100 ∧ b < 100) (q : TkC h x tp tl 0 (-1) p) (hk : tK tp tl p = 2) (hv : tV tp tl p < a ∨ b < tV tp tl p) : ∃ h1, f_X3_numberWithin fu (x + 8) (nI a) (nI b) h = some (nI (tV tp tl p), h1) ∧ FlP h1 x tp tl 2 (tS tp tl p) ∧ Ed (fun b => b = x + 8) h h1 := by
  have r1 := q.1.1.1
  have lt := tV_lt hk
  obtain ⟨h1, a1, a2, a3, a4, a5⟩ := c_blame (fu := fu) (k := 2) (by decide) q
  refine ⟨h1, ?_, a2, a3⟩
  have e24 : f_X3_numberWithin_24 fu (x + 8) h = some (nI (tV tp tl p), h1) := by
    unfold f_X3_numberWithin_24 f_X3_numberWithin_29
    rw [show (2 : Int32) = nI 2 from rfl, a1, Option.bind_some]
    dsimp only
    rw [gI_e a2.1.1, Option.bind_some, a5, q.2.2.2 hk]
  unfold f_X3_numberWithin
  rw [if_pos r1, gI_e r1, Option.bind_some, q.2.1, hk, if_pos (show nI 2 = 2 from rfl), gI_e r1, Option.bind_some, q.2.2.2 hk, e24]
  by_cases z : tV tp tl p < a
  · rw [if_pos (nI_lt z (by omega))]
  · rw [if_neg (nI_nlt (by omega) (by omega)), Option.bind_some, if_neg (nI_ge (show b < tV tp tl p by omega) (by omega))]
theorem t_num0 {h : Hp} {p : Nat} {a b : Nat} (hab : a < 100 ∧ b < 100) (q : TkC h x tp tl 0 (-1) p) (hk : tK tp tl p = 2) (hv : ¬ (tV tp tl p < a ∨ b < tV tp tl p)) : f_X3_numberWithin fu (x + 8) (nI a) (nI b) h = some (nI (tV tp tl p), h) := by
  have r1 := q.1.1.1
  have lt := tV_lt hk
  unfold f_X3_numberWithin f_X3_numberWithin_29
  rw [if_pos r1, gI_e r1, Option.bind_some, q.2.1, hk, if_pos (show nI 2 = 2 from rfl), gI_e r1, Option.bind_some, q.2.2.2 hk, if_neg (nI_nlt (by omega) (by omega)), Option.bind_some, if_pos (nI_le (by omega) (by omega)), Option.bind_some]
theorem t_num1 {h : Hp} {p : Nat} {a b : Int32} (q : TkC h x tp tl 0 (-1) p) (hk : tK tp tl p ≠ 2) : f_X3_numberWithin fu (x + 8) a b h = some (h.I (x + 8) 7, h) := by
  have r1 := q.1.1.1
  have l9 := tK_le (tp := tp) (tl := tl) p
  unfold f_X3_numberWithin f_X3_numberWithin_29
  rw [if_pos r1, gI_e r1, Option.bind_some, q.2.1, if_neg (ne_lit (b := 2) (by omega) (by decide) hk), gI_e r1, Option.bind_some]
theorem t_kind {h : Hp} {p k : Nat} (q : TkC h x tp tl 0 (-1) p) (hk : k < 10) {α : Type} {A B : α} : (if h.I (x + 8) 5 = nI k then A else B) = if tK tp tl p = k then A else B := by
  have l9 := tK_le (tp := tp) (tl := tl) p
  rw [q.2.1]
  by_cases z : tK tp tl p = k
  · rw [if_pos (by rw [z]), if_pos z]
  · rw [if_neg (fun y => z ((nI_eq (by omega) (by omega)).mp y)), if_neg z]
end PARSEC
