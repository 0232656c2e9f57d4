/-! THE REFERENCE READS A LINE -/
def MN (h : Hp) (m : Nat) : Prop := arr h m 17 (m + 8) 8 12 ∧ arr h m 18 (m + 9) 8 12 ∧ arr h m 19 (m + 10) 8 12 ∧ arr h m 20 (m + 11) 8 12
def MD (h : Hp) (m : Nat) (c : Cg) : Prop := h.I m 16 = nI c.n ∧ ∀ k, k < c.n → h.I (m + 8) k = nI (c.wy k) ∧ h.I (m + 9) k = nI (ms (c.sn k)) ∧ (c.sn k = 1 ∨ c.sn k = 2 → h.I (m + 10) k = nI (c.vl k)) ∧ h.I (m + 11) k = nI (c.hr k)
def Rw (h : Hp) (m n way sn vl : Nat) : Prop := h.I (m + 8) n = nI way ∧ h.I (m + 9) n = nI (ms sn) ∧ (sn = 1 ∨ sn = 2 → h.I (m + 10) n = nI vl)
def RdE (h h1 : Hp) (m : Nat) : Prop := Ed (fun b => b = m ∨ (m + 8 ≤ b ∧ b ≤ m + 11)) h h1 ∧ (∀ k, k ≠ 16 → ¬ (23 ≤ k ∧ k ≤ 28) → h1.I m k = h.I m k) ∧ h1.J = h.J
def OkM (m : Nat) (tp : Nat → Nat) (tl : Nat) (c : Cg) (h : Hp) (o : Option (Int32 × Hp)) (r : Ln) : Prop := ∃ h1, o = some (if r.fk = 0 then 1 else 0, h1) ∧ RdE h h1 m ∧ (r.fk = 0 → TkM h1 m tp tl r.pb ∧ MD h1 m (c.app r)) ∧ (r.fk ≠ 0 → h1.I m 27 = nI r.fk ∧ h1.I m 28 = nI r.fp)
theorem kM_inj : ∀ a, a < 10 → ∀ b, b < 10 → kM a = kM b → a = b := by decide
theorem kM_lt : ∀ a, a < 10 → kM a < 10 := by decide
section PARSEM
variable {m fu : Nat} {tp : Nat → Nat} {tl : Nat} {c : Cg}
theorem RdE.rf {h : Hp} : RdE h h m := ⟨Ed.rf, fun _ _ _ => rfl, rfl⟩
theorem RdE.tr {h h1 h2 : Hp} (a : RdE h h1 m) (b : RdE h1 h2 m) : RdE h h2 m := ⟨Ed.tr a.1 b.1, fun k h1 h2 => (b.2.1 k h1 h2).trans (a.2.1 k h1 h2), b.2.2.trans a.2.2⟩
theorem RdE.p {h : Hp} {k : Nat} {w : Int32} (hk : k = 16 ∨ (23 ≤ k ∧ k ≤ 28)) : RdE h (putI h m k w) m := ⟨Ed.pI (Or.inl rfl), fun j h1 h2 => by rw [w3, if_neg (by omega)], rfl⟩
theorem RdE.q {h : Hp} {a k : Nat} {w : Int32} (ha : m + 8 ≤ a ∧ a ≤ m + 11) : RdE h (putI h a k w) m := ⟨Ed.pI (Or.inr ha), fun j h1 h2 => by rw [putI_I, if_neg (by omega)], rfl⟩
theorem NxE.rd {h h1 : Hp} (e : NxE h h1 m) : RdE h h1 m := ⟨e.1.mono (fun b hb => Or.inl hb), fun k _ h2 => e.2.1 k (by omega), e.2.2⟩
theorem MN.ed {P : Nat → Prop} {h h1 : Hp} (e : Ed P h h1) (q : MN h m) : MN h1 m := ⟨e.arr q.1, e.arr q.2.1, e.arr q.2.2.1, e.arr q.2.2.2⟩
theorem MD.nx {h h1 : Hp} (e : NxE h h1 m) (q : MD h m c) : MD h1 m c := by
  have o : ∀ k, 0 < k → h1.I (m + k) = h.I (m + k) := fun k hk => (e.1.2.2.2.2 (m + k) (by omega)).1
  unfold MD
  rw [e.2.1 16 (by omega), o 8 (by decide), o 9 (by decide), o 10 (by decide), o 11 (by decide)]
  exact q
theorem Rw.nx {h h1 : Hp} {n way sn vl : Nat} (e : NxE h h1 m) (q : Rw h m n way sn vl) : Rw h1 m n way sn vl := by
  have o : ∀ k, 0 < k → h1.I (m + k) = h.I (m + k) := fun k hk => (e.1.2.2.2.2 (m + k) (by omega)).1
  unfold Rw
  rw [o 8 (by decide), o 9 (by decide), o 10 (by decide)]
  exact q
theorem NxW.q {h : Hp} {pl a k : Nat} {w : Int32} (q : NxW h m tp tl pl) (ha : a ≠ m) (ha2 : a ≠ m + 12) : NxW (putI h a k w) m tp tl pl := by
  obtain ⟨r1, r2, r3, r4, r5, r6⟩ := q
  have e : Ed (fun b => b = a) h (putI h a k w) := Ed.pI rfl
  exact ⟨r1, e.arr r2, by rw [putI_I, if_neg (by omega)]; exact r3, fun j hj => by rw [putI_I, if_neg (by omega)]; exact r4 j hj, r5, by rw [putI_I, if_neg (by omega)]; exact r6⟩
theorem TkM.q {h : Hp} {p a k : Nat} {w : Int32} (q : TkM h m tp tl p) (ha : a ≠ m) (ha2 : a ≠ m + 12) : TkM (putI h a k w) m tp tl p := by
  obtain ⟨r1, r2, r3, r4⟩ := q
  exact ⟨r1.q ha ha2, by rw [putI_I, if_neg (by omega)]; exact r2, by rw [putI_I, if_neg (by omega)]; exact r3, fun z => by rw [putI_I, if_neg (by omega)]; exact r4 z⟩
theorem km_y {h : Hp} {p k : Nat} (q : TkM h m tp tl p) (z : tK tp tl p = k) : h.I m 25 = nI (kM k) := by rw [q.2.1, z]
theorem km_n {h : Hp} {p k : Nat} (q : TkM h m tp tl p) (hk : k < 10) (z : tK tp tl p ≠ k) : ¬ h.I m 25 = nI (kM k) := by
  have l9 := tK_le (tp := tp) (tl := tl) p
  rw [q.2.1]
  have a1 := kM_lt (tK tp tl p) (by omega)
  have a2 := kM_lt k hk
  exact fun y => z (kM_inj _ (by omega) _ hk ((nI_eq (by omega) (by omega)).mp y))
theorem OkM.pre {h h' : Hp} {o : Option (Int32 × Hp)} {r : Ln} (e : RdE h h' m) (q : OkM m tp tl c h' o r) : OkM m tp tl c h o r := by
  obtain ⟨h1, a1, a2, a3⟩ := q
  exact ⟨h1, a1, e.tr a2, a3⟩
theorem m_fails {h : Hp} {p k : Nat} (q : TkM h m tp tl p) : ∃ h1, f_X7_fails fu m (nI k) h = some (0, h1) ∧ RdE h h1 m ∧ h1.I m 27 = nI k ∧ h1.I m 28 = nI (tS tp tl p) := by
  have r1 := q.1.1
  refine ⟨putI (putI h m 27 (nI k)) m 28 (nI (tS tp tl p)), ?_, RdE.tr (RdE.p (by omega)) (RdE.p (by omega)), by rw [w3, if_neg (by decide), w3, if_pos rfl], by rw [w3, if_pos rfl]⟩
  unfold f_X7_fails
  rw [if_pos r1, pI_e r1, Option.bind_some, gI_e (h := putI _ _ _ _) r1, Option.bind_some, w3, if_neg (by decide), q.2.2.1, pI_e (h := putI _ _ _ _) r1, Option.bind_some]
theorem OkM.f {h : Hp} {p k : Nat} {o : Option (Int32 × Hp)} (hk : k ≠ 0) (e : ∃ h1, o = some (0, h1) ∧ RdE h h1 m ∧ h1.I m 27 = nI k ∧ h1.I m 28 = nI (tS tp tl p)) : OkM m tp tl c h o (flt k (tS tp tl p)) := by
  obtain ⟨h1, a1, a2, a3, a4⟩ := e
  refine ⟨h1, ?_, a2, fun z => absurd z hk, fun _ => ⟨a3, a4⟩⟩
  rw [a1, if_neg (show ¬ (flt k (tS tp tl p)).fk = 0 from hk)]
/-- the fault is told at once -/
theorem m_fl {h : Hp} {p k : Nat} (q : TkM h m tp tl p) : ∃ h1, ((f_X7_fails fu m (nI k) h).bind fun r => if r.1 = 0 ∨ r.1 = 1 then some (r.1, r.2) else none) = some (0, h1) ∧ RdE h h1 m ∧ h1.I m 27 = nI k ∧ h1.I m 28 = nI (tS tp tl p) := by
  obtain ⟨h1, a1, a2⟩ := m_fails (fu := fu) (k := k) q
  refine ⟨h1, ?_, a2⟩
  rw [a1, Option.bind_some]; rfl
theorem m_tk0 {h : Hp} {p a b : Nat} (hab : a < 100 ∧ b < 100) (q : TkM h m tp tl p) (hk : tK tp tl p = 2) (hv : ¬ (tV tp tl p < a ∨ b < tV tp tl p)) : f_X7_takes fu m (nI a) (nI b) h = some (1, h) := by
  have r1 := q.1.1
  have lt := tV_lt hk
  unfold f_X7_takes
  rw [if_pos r1, gI_e r1, Option.bind_some, if_pos (show h.I m 25 = 8 from km_y q hk), gI_e r1, Option.bind_some, q.2.2.2 hk, if_neg (nI_nlt (by omega) (by omega)), Option.bind_some, if_pos (nI_le (by omega) (by omega))]
theorem m_tk1 {h : Hp} {p a b : Nat} (hab : a < 100 ∧ b < 100) (q : TkM h m tp tl p) (hk : tK tp tl p = 2) (hv : tV tp tl p < a ∨ b < tV tp tl p) : ∃ h1, f_X7_takes fu m (nI a) (nI b) h = some (0, h1) ∧ RdE h h1 m ∧ h1.I m 27 = nI 2 ∧ h1.I m 28 = nI (tS tp tl p) := by
  have r1 := q.1.1
  have lt := tV_lt hk
  obtain ⟨h1, a1, a2⟩ := m_fl (fu := fu) (k := 2) q
  refine ⟨h1, ?_, a2⟩
  have e31 : f_X7_takes_31 fu m h = some (0, h1) := a1
  unfold f_X7_takes
  rw [if_pos r1, gI_e r1, Option.bind_some, if_pos (show h.I m 25 = 8 from km_y q hk), gI_e r1, Option.bind_some, q.2.2.2 hk, e31]
  by_cases z : tV tp tl p < a
  · rw [if_pos (nI_lt z (by omega))]
  · rw [if_neg (nI_nlt (by omega) (by omega)), Option.bind_some, if_neg (nI_ge (show b < tV tp tl p by omega) (by omega))]
theorem m_tk2 {h : Hp} {p : Nat} {a b : Int32} (q : TkM h m tp tl p) (hk : tK tp tl p ≠ 2) : ∃ h1, f_X7_takes fu m a b h = some (0, h1) ∧ RdE h h1 m ∧ h1.I m 27 = nI 1 ∧ h1.I m 28 = nI (tS tp tl p) := by
  have r1 := q.1.1
  obtain ⟨h1, a1, a2⟩ := m_fl (fu := fu) (k := 1) q
  refine ⟨h1, ?_, a2⟩
  unfold f_X7_takes
  rw [if_pos r1, gI_e r1, Option.bind_some, if_neg (show ¬ h.I m 25 = 8 from km_n q (k := 2) (by decide) hk)]
  exact a1
/-- one more token -/
theorem m_nx (hb : ∀ j, j < tl → tp j < 256) (hf : 20000 < fu) {h : Hp} {p : Nat} (hp : p ≤ tl) (q : TkM h m tp tl p) : ∃ h1, f_X7_next fu m h = some ((), h1) ∧ TkM h1 m tp tl (tE tp tl p) ∧ NxE h h1 m := m_next hb hf (tE_le hp) q.1
end PARSEM
