/-! THE WORLD: the class's cells from x on, the reference's from x + 20 on -/
def same (h h1 : Hp) (b : Nat) : Prop := h1.K b = h.K b ∧ h1.L b = h.L b ∧ h1.I b = h.I b ∧ h1.J b = h.J b ∧ h1.R b = h.R b
/-- a chant: how many lines; of each the way, the sign (0 none, 1 swell, 2 star, 3 birds), its number, the hours -/
def Cg : Type := Nat × (Nat → Nat) × (Nat → Nat) × (Nat → Nat) × (Nat → Nat)
def Cg.n (c : Cg) : Nat := c.1
def Cg.wy (c : Cg) : Nat → Nat := c.2.1
def Cg.sn (c : Cg) : Nat → Nat := c.2.2.1
def Cg.vl (c : Cg) : Nat → Nat := c.2.2.2.1
def Cg.hr (c : Cg) : Nat → Nat := c.2.2.2.2
def Cg.ok (c : Cg) : Prop := c.n ≤ 12 ∧ ∀ k, k < c.n → c.wy k < 9 ∧ c.sn k < 4 ∧ c.vl k < 4 ∧ 1 ≤ c.hr k ∧ c.hr k ≤ 20
def MasterP (h : Hp) (x : Nat) (S : Int64) (hr : Nat) (cn : Int32) (sg dr : Nat) (jg sc : Option Nat) : Prop := h.K x = 6 ∧ h.R x 0 = some (x + 1) ∧ h.R x 1 = some (x + 8) ∧ h.R x 2 = some sg ∧ h.R x 3 = some dr ∧ h.J x 4 = S ∧ h.I x 5 = nI hr ∧ h.I x 6 = cn ∧ h.R x 7 = jg ∧ h.R x 8 = sc
def ReaderP (h : Hp) (x : Nat) (tp : Nat → Nat) (tl : Nat) (fk fp : Int32) : Prop := h.K (x + 8) = 3 ∧ arr h (x + 8) 3 (x + 9) 10 400 ∧ h.I (x + 8) 0 = nI tl ∧ h.I (x + 8) 1 = fk ∧ h.I (x + 8) 2 = fp ∧ (∀ j, j < tl → h.I (x + 9) j = nI (tp j)) ∧ tl ≤ 400
def ChantS (h : Hp) (a : Nat) : Prop := h.K a = 0 ∧ arr h a 1 (a + 1) 8 12 ∧ arr h a 2 (a + 2) 8 12 ∧ arr h a 3 (a + 3) 8 12 ∧ arr h a 4 (a + 4) 8 12
def ChantV (h : Hp) (a : Nat) (c : Cg) : Prop := h.I a 0 = nI c.n ∧ ∀ k, k < c.n → h.I (a + 1) k = nI (c.wy k) ∧ h.I (a + 2) k = nI (c.sn k) - 1 ∧ (c.sn k = 1 ∨ c.sn k = 2 → h.I (a + 3) k = nI (c.vl k)) ∧ (c.sn k = 3 → h.I (a + 3) k = 1) ∧ h.I (a + 4) k = nI (c.hr k)
def ChantsP (h : Hp) (x sg dr : Nat) (c : Cg) : Prop := ((sg = x + 10 ∧ dr = x + 15) ∨ (sg = x + 15 ∧ dr = x + 10)) ∧ ChantS h sg ∧ ChantS h dr ∧ ChantV h sg c ∧ c.ok
/-- the reference's other rows -/
def ModR (h : Hp) (m : Nat) : Prop := arr h m 12 (m + 4) 8 12 ∧ arr h m 13 (m + 5) 8 12 ∧ arr h m 14 (m + 6) 8 12 ∧ arr h m 15 (m + 7) 8 12 ∧ arr h m 17 (m + 8) 8 12 ∧ arr h m 18 (m + 9) 8 12 ∧ arr h m 19 (m + 10) 8 12 ∧ arr h m 20 (m + 11) 8 12 ∧ arr h m 21 (m + 12) 8 400 ∧ arr h m 29 (m + 13) 8 16384 ∧ arr h m 30 (m + 14) 8 16384 ∧ arr h m 32 (m + 15) 9 3000 ∧ arr h m 33 (m + 16) 8 3000 ∧ arr h m 34 (m + 17) 8 3000 ∧ arr h m 35 (m + 18) 8 3000 ∧ arr h m 37 (m + 19) 8 12
def ms (s : Nat) : Nat := match s with
  | 0 => 0
  | 1 => 6
  | 2 => 7
  | _ => 5
def ModC (h : Hp) (m : Nat) (c : Cg) : Prop := h.I m 11 = nI c.n ∧ ∀ k, k < c.n → h.I (m + 4) k = nI (c.wy k) ∧ h.I (m + 5) k = nI (ms (c.sn k)) ∧ (c.sn k = 1 ∨ c.sn k = 2 → h.I (m + 6) k = nI (c.vl k)) ∧ h.I (m + 7) k = nI (c.hr k)
def ModT (h : Hp) (m : Nat) (tp : Nat → Nat) (tl : Nat) (fk fp : Int32) : Prop := h.I m 22 = nI tl ∧ h.I m 27 = fk ∧ h.I m 28 = fp ∧ ∀ j, j < tl → h.I (m + 12) j = nI (tp j)
def ModP (h : Hp) (m : Nat) (g : Sg) (S : Int64) (hr : Nat) (cn : Int32) (c : Cg) (tp : Nat → Nat) (tl : Nat) (fk fp : Int32) : Prop := Mo h m g ∧ ModR h m ∧ h.J m 4 = S ∧ h.I m 3 = nI hr ∧ h.I m 5 = cn ∧ ModC h m c ∧ ModT h m tp tl fk fp
/-- the numbers that both keep are in their ranges -/
def Rng (g : Sg) (S : Int64) (hr : Nat) (cn : Int32) (tp : Nat → Nat) (tl : Nat) : Prop := g.ok ∧ (∀ k, k < 6 → ∃ v, 0 < v ∧ v < 512 ∧ g.dr k = nI v) ∧ subs S g.n ∧ hr < 10000 ∧ (cn = -1 ∨ ∃ c, c < g.n ∧ cn = nI c) ∧ (∀ j, j < tl → tp j < 256) ∧ tl ≤ 400
section WORLD
variable {h h1 : Hp} {x m a : Nat}
theorem same.arr {o k b kd n : Nat} (e1 : same h h1 o) (e2 : same h h1 b) (q : arr h o k b kd n) : arr h1 o k b kd n := ⟨by rw [e1.2.2.2.2]; exact q.1, by rw [e2.1]; exact q.2.1, by rw [e2.2.1]; exact q.2.2⟩
theorem same.rf {b : Nat} : same h h b := ⟨rfl, rfl, rfl, rfl, rfl⟩
theorem same.tr {h2 : Hp} {b : Nat} (p : same h h1 b) (q : same h1 h2 b) : same h h2 b := ⟨q.1.trans p.1, q.2.1.trans p.2.1, q.2.2.1.trans p.2.2.1, q.2.2.2.1.trans p.2.2.2.1, q.2.2.2.2.trans p.2.2.2.2⟩
theorem Ed.same {P : Nat → Prop} (e : Ed P h h1) {b : Nat} (hb : ¬ P b) : same h h1 b := ⟨by rw [e.2.1], by rw [e.2.2.1], (e.2.2.2.2 b hb).1, (e.2.2.2.2 b hb).2, by rw [e.2.2.2.1]⟩
theorem MasterP.fr {S : Int64} {hr : Nat} {cn : Int32} {sg dr : Nat} {jg sc : Option Nat} (e : same h h1 x) (q : MasterP h x S hr cn sg dr jg sc) : MasterP h1 x S hr cn sg dr jg sc := by
  obtain ⟨e1, e2, e3, e4, e5⟩ := e
  unfold MasterP
  rw [e1, e3, e4, e5]; exact q
theorem ReaderP.fr {tp : Nat → Nat} {tl : Nat} {fk fp : Int32} (e : same h h1 (x + 8)) (e' : same h h1 (x + 9)) (q : ReaderP h x tp tl fk fp) : ReaderP h1 x tp tl fk fp := by
  obtain ⟨q1, q2, q3, q4, q5, q6, q7⟩ := q
  exact ⟨by rw [e.1]; exact q1, e.arr e' q2, by rw [e.2.2.1]; exact q3, by rw [e.2.2.1]; exact q4, by rw [e.2.2.1]; exact q5, fun j hj => by rw [e'.2.2.1]; exact q6 j hj, q7⟩
theorem ChantS.fr (e : ∀ b, a ≤ b → b < a + 5 → same h h1 b) (q : ChantS h a) : ChantS h1 a := by
  obtain ⟨q1, q2, q3, q4, q5⟩ := q
  have e0 := e a (by omega) (by omega)
  exact ⟨by rw [e0.1]; exact q1, e0.arr (e _ (by omega) (by omega)) q2, e0.arr (e _ (by omega) (by omega)) q3, e0.arr (e _ (by omega) (by omega)) q4, e0.arr (e _ (by omega) (by omega)) q5⟩
theorem ChantV.fr {c : Cg} (e : ∀ b, a ≤ b → b < a + 5 → same h h1 b) (q : ChantV h a c) : ChantV h1 a c := by
  unfold ChantV
  rw [(e a (by omega) (by omega)).2.2.1, (e (a + 1) (by omega) (by omega)).2.2.1, (e (a + 2) (by omega) (by omega)).2.2.1, (e (a + 3) (by omega) (by omega)).2.2.1, (e (a + 4) (by omega) (by omega)).2.2.1]
  exact q
theorem ChantsP.fr {sg dr : Nat} {c : Cg} (e : ∀ b, x + 10 ≤ b → b < x + 20 → same h h1 b) (q : ChantsP h x sg dr c) : ChantsP h1 x sg dr c := by
  obtain ⟨q1, q2, q3, q4, q5⟩ := q
  have es : ∀ b, sg ≤ b → b < sg + 5 → same h h1 b := fun b p1 p2 => e b (by omega) (by omega)
  have ed : ∀ b, dr ≤ b → b < dr + 5 → same h h1 b := fun b p1 p2 => e b (by omega) (by omega)
  exact ⟨q1, q2.fr es, q3.fr ed, q4.fr es, q5⟩
theorem Se.fr {g : Sg} (e : ∀ b, a ≤ b → b < a + 7 → same h h1 b) (q : Se h a g) : Se h1 a g := by
  obtain ⟨⟨s1, s2, s3, s4, s5, s6, s7⟩, si, sj, ok⟩ := q
  have e0 := e a (by omega) (by omega)
  have e1 := e (a + 1) (by omega) (by omega)
  have e2 := e (a + 2) (by omega) (by omega)
  have e3 := e (a + 3) (by omega) (by omega)
  have e4 := e (a + 4) (by omega) (by omega)
  have e5 := e (a + 5) (by omega) (by omega)
  have e6 := e (a + 6) (by omega) (by omega)
  refine ⟨⟨by rw [e0.1]; exact s1, e0.arr e1 s2, e0.arr e2 s3, e0.arr e3 s4, e0.arr e4 s5, e0.arr e5 s6, e0.arr e6 s7⟩, ?_, ?_, ok⟩
  · unfold SeaI; rw [e0.2.2.1, e1.2.2.1, e2.2.2.1, e3.2.2.1, e4.2.2.1, e5.2.2.1]; exact si
  · unfold SeaJ; rw [e0.2.2.2.1]; exact sj
theorem Mo.fr {g : Sg} (e : ∀ b, m ≤ b → b < m + 4 → same h h1 b) (q : Mo h m g) : Mo h1 m g := by
  obtain ⟨⟨s1, s2, s3, s4⟩, sv, ok⟩ := q
  have e0 := e m (by omega) (by omega)
  have e1 := e (m + 1) (by omega) (by omega)
  have e2 := e (m + 2) (by omega) (by omega)
  have e3 := e (m + 3) (by omega) (by omega)
  refine ⟨⟨by rw [e0.1]; exact s1, e0.arr e1 s2, e0.arr e2 s3, e0.arr e3 s4⟩, ?_, ok⟩
  unfold ModV; rw [e0.2.2.1, e1.2.2.1, e2.2.2.1, e3.2.2.1]; exact sv
theorem ModR.fr (e : ∀ b, m ≤ b → b < m + 20 → same h h1 b) (q : ModR h m) : ModR h1 m := by
  obtain ⟨q1, q2, q3, q4, q5, q6, q7, q8, q9, q10, q11, q12, q13, q14, q15, q16⟩ := q
  have e0 := e m (by omega) (by omega)
  exact ⟨e0.arr (e _ (by omega) (by omega)) q1, e0.arr (e _ (by omega) (by omega)) q2, e0.arr (e _ (by omega) (by omega)) q3, e0.arr (e _ (by omega) (by omega)) q4, e0.arr (e _ (by omega) (by omega)) q5, e0.arr (e _ (by omega) (by omega)) q6, e0.arr (e _ (by omega) (by omega)) q7, e0.arr (e _ (by omega) (by omega)) q8, e0.arr (e _ (by omega) (by omega)) q9, e0.arr (e _ (by omega) (by omega)) q10, e0.arr (e _ (by omega) (by omega)) q11, e0.arr (e _ (by omega) (by omega)) q12, e0.arr (e _ (by omega) (by omega)) q13, e0.arr (e _ (by omega) (by omega)) q14, e0.arr (e _ (by omega) (by omega)) q15, e0.arr (e _ (by omega) (by omega)) q16⟩
theorem Ed.modR {P : Nat → Prop} (e : Ed P h h1) (q : ModR h m) : ModR h1 m := by
  obtain ⟨q1, q2, q3, q4, q5, q6, q7, q8, q9, q10, q11, q12, q13, q14, q15, q16⟩ := q
  exact ⟨e.arr q1, e.arr q2, e.arr q3, e.arr q4, e.arr q5, e.arr q6, e.arr q7, e.arr q8, e.arr q9, e.arr q10, e.arr q11, e.arr q12, e.arr q13, e.arr q14, e.arr q15, e.arr q16⟩
theorem ModC.fr {c : Cg} (e : ∀ b, m ≤ b → b < m + 20 → same h h1 b) (q : ModC h m c) : ModC h1 m c := by
  unfold ModC
  rw [(e m (by omega) (by omega)).2.2.1, (e (m + 4) (by omega) (by omega)).2.2.1, (e (m + 5) (by omega) (by omega)).2.2.1, (e (m + 6) (by omega) (by omega)).2.2.1, (e (m + 7) (by omega) (by omega)).2.2.1]
  exact q
theorem ModT.fr {tp : Nat → Nat} {tl : Nat} {fk fp : Int32} (e : ∀ b, m ≤ b → b < m + 20 → same h h1 b) (q : ModT h m tp tl fk fp) : ModT h1 m tp tl fk fp := by
  unfold ModT
  rw [(e m (by omega) (by omega)).2.2.1, (e (m + 12) (by omega) (by omega)).2.2.1]
  exact q
theorem ModP.fr {g : Sg} {S : Int64} {hr : Nat} {cn : Int32} {c : Cg} {tp : Nat → Nat} {tl : Nat} {fk fp : Int32} (e : ∀ b, m ≤ b → b < m + 20 → same h h1 b) (q : ModP h m g S hr cn c tp tl fk fp) : ModP h1 m g S hr cn c tp tl fk fp := by
  obtain ⟨q1, q2, q3, q4, q5, q6, q7⟩ := q
  have e0 := e m (by omega) (by omega)
  exact ⟨q1.fr (fun b p1 p2 => e b p1 (by omega)), q2.fr e, by rw [e0.2.2.2.1]; exact q3, by rw [e0.2.2.1]; exact q4, by rw [e0.2.2.1]; exact q5, q6.fr e, q7.fr e⟩
end WORLD
