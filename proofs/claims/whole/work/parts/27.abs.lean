/-! WHAT A CHANT COMES TO, AND THE BLIND SEARCH, as numbers -/
/-- the sign of a line is there -/
def thr (g : Sg) (c : Cg) (l wt cell : Nat) : Bool :=
  match c.sn l with
  | 0 => false
  | 1 => decide (sgn g cell wt 0 = nI (c.vl l))
  | 2 => decide (sgn g cell wt 1 = nI (c.vl l))
  | _ => decide (sgn g cell wt 2 = 1)
def Tb : Type := Nat → Nat → Nat × Nat
def fmx (g : Sg) (wt way cell : Nat) (T : Nat → Nat) : Nat → Nat → Nat → Nat
  | 0, _, a => a
  | k + 1, d, a => fmx g wt way cell T k (d + 1) (if bt (g.dr wt) d then max a (T (gof g cell way d)) else a)
def fmn (g : Sg) (wt way cell : Nat) (T : Nat → Nat) : Nat → Nat → Nat → Nat
  | 0, _, a => a
  | k + 1, d, a => fmn g wt way cell T k (d + 1) (if bt (g.dr wt) d then min a (T (gof g cell way d)) else a)
def tb00 (g : Sg) : Tb := fun _ cell => if 0 < g.ld cell then (0, 0) else (1000000, 1000000)
def hrT (g : Sg) (c : Cg) (l : Nat) (B N : Tb) : Tb := fun wt cell =>
  if 0 < g.ld cell then (0, 0)
  else if thr g c l wt cell then B wt cell
  else (fmx g wt (c.wy l) cell (fun q => (N ((wt + 1) % 6) q).1) 9 0 0 + 1, fmn g wt (c.wy l) cell (fun q => (N ((wt + 1) % 6) q).2) 9 0 1000000 + 1)
def lnT (g : Sg) (c : Cg) (l : Nat) (B : Tb) : Nat → Tb
  | 0 => B
  | k + 1 => hrT g c l B (lnT g c l B k)
def chT (g : Sg) (c : Cg) : Nat → Tb
  | 0 => tb00 g
  | i + 1 => lnT g c (c.n - 1 - i) (chT g c i) (c.hr (c.n - 1 - i))
def fnT (g : Sg) (c : Cg) : Tb := chT g c c.n
/-- the sets that came up: how many, the sets, the hours, 9 times the set before and the way -/
def Bs : Type := Nat × (Nat → Int64) × (Nat → Nat) × (Nat → Nat)
def Bs.n (b : Bs) : Nat := b.1
def Bs.st (b : Bs) : Nat → Int64 := b.2.1
def Bs.dp (b : Bs) : Nat → Nat := b.2.2.1
def Bs.og (b : Bs) : Nat → Nat := b.2.2.2
def Bs.add (b : Bs) (s : Int64) (d o : Nat) : Bs := ⟨b.n + 1, fun i => if i = b.n then s else b.st i, fun i => if i = b.n then d else b.dp i, fun i => if i = b.n then o else b.og i⟩
def Bs.one (s : Int64) : Bs := ⟨1, fun _ => s, fun _ => 0, fun _ => 0⟩
def cme (b : Bs) (s : Int64) (d : Nat) : Nat → Bool
  | 0 => false
  | k + 1 => decide (b.st k = s ∧ b.dp k % 6 = d % 6) || cme b s d k
def alL (g : Sg) (s : Int64) : Bool := decide (∀ i, i < g.n → tb s i = true → 0 < g.ld i)
/-- 0: it goes on; 1: found, by this way; 2: spent -/
def bw (g : Sg) (w0 k : Nat) : Nat → Nat → Bs → Nat × Bs × Nat
  | 0, _, b => (0, b, 0)
  | j + 1, way, b =>
    if alL g (img g (b.st k) way ((w0 + b.dp k) % 6)) then (1, b, way)
    else if b.dp k = 11 ∨ cme b (img g (b.st k) way ((w0 + b.dp k) % 6)) (b.dp k + 1) b.n = true then bw g w0 k j (way + 1) b
    else if b.n = 3000 then (2, b, 0)
    else bw g w0 k j (way + 1) (b.add (img g (b.st k) way ((w0 + b.dp k) % 6)) (b.dp k + 1) (k * 9 + way))
def bk (g : Sg) (w0 : Nat) : Nat → Nat → Bs → Nat × Bs × Nat × Nat
  | 0, _, b => (0, b, 0, 0)
  | f + 1, k, b =>
    if b.n ≤ k then (0, b, 0, 0)
    else if (bw g w0 k 9 0 b).1 = 0 then bk g w0 f (k + 1) (bw g w0 k 9 0 b).2.1
    else ((bw g w0 k 9 0 b).1, (bw g w0 k 9 0 b).2.1, k, (bw g w0 k 9 0 b).2.2)
def bkr (og : Nat → Nat) : Nat → Nat → Nat → Nat
  | 0, _, _ => 0
  | d + 1, k, p => if p = d then og k % 9 else bkr og d (og k / 9) p
def blX (g : Sg) (S : Int64) (w0 : Nat) : Nat × Bs × Nat × Nat := bk g w0 3001 0 (Bs.one S)
def blA (g : Sg) (S : Int64) (w0 : Nat) : Int32 :=
  if alL g S then 0
  else if (blX g S w0).1 = 0 then -1
  else if (blX g S w0).1 = 1 then nI ((blX g S w0).2.1.dp (blX g S w0).2.2.1 + 1)
  else -2
/-- the row, where it is found -/
def blR (g : Sg) (S : Int64) (w0 p : Nat) : Nat :=
  if p = (blX g S w0).2.1.dp (blX g S w0).2.2.1 then (blX g S w0).2.2.2
  else bkr (blX g S w0).2.1.og ((blX g S w0).2.1.dp (blX g S w0).2.2.1) (blX g S w0).2.2.1 p
/-! JUDGE AND SEARCH in the heap -/
def OutS (h : Hp) (o : Nat) : Prop := h.K o = 2 ∧ arr h o 0 (o + 1) 8 384 ∧ arr h o 1 (o + 2) 8 384
def slt (j p : Nat) : Prop := p = j + 1 ∨ p = j + 4 ∨ p = j + 7
def JudgeS (h : Hp) (j : Nat) : Prop := h.K j = 1 ∧ OutS h (j + 1) ∧ OutS h (j + 4) ∧ OutS h (j + 7) ∧ arr h j 5 (j + 10) 8 576 ∧ arr h j 6 (j + 11) 9 6 ∧ ∃ p q r, h.R j 2 = some p ∧ h.R j 3 = some q ∧ h.R j 4 = some r ∧ slt j p ∧ slt j q ∧ slt j r ∧ p ≠ q ∧ p ≠ r ∧ q ≠ r
def TabH (h : Hp) (o : Nat) (g : Sg) (T : Tb) : Prop := ∀ wt, wt < 6 → ∀ cell, cell < g.n → h.I (o + 1) (wt * 64 + cell) = nI (T wt cell).1 ∧ h.I (o + 2) (wt * 64 + cell) = nI (T wt cell).2
def JudgeT (h : Hp) (j : Nat) (g : Sg) (c : Cg) : Prop := ∃ p, h.R j 2 = some p ∧ slt j p ∧ TabH h p g (fnT g c)
def JP (h : Hp) (x v : Nat) (g : Sg) (c : Cg) (jg : Option Nat) : Prop := ∀ j, jg = some j → x + 40 ≤ j ∧ j + 12 ≤ h.N ∧ JudgeS h j ∧ (h.I j 0 = 0 ∨ ∃ jv, jv ≤ v ∧ h.I j 1 = nI jv ∧ (jv = v → JudgeT h j g c))
def SearchS (h : Hp) (s : Nat) : Prop := h.K s = 5 ∧ arr h s 0 (s + 1) 8 12 ∧ arr h s 1 (s + 2) 9 3000 ∧ arr h s 2 (s + 3) 8 3000 ∧ arr h s 3 (s + 4) 8 3000 ∧ arr h s 4 (s + 5) 8 4096
def BlH (h : Hp) (s : Nat) (g : Sg) (S : Int64) (wt : Nat) : Prop := h.I s 10 = blA g S wt ∧ ∀ p, p < 12 → nI p < h.I s 10 → h.I (s + 1) p = nI (blR g S wt p)
def SP (h : Hp) (x v : Nat) (g : Sg) (sc : Option Nat) : Prop := ∀ s, sc = some s → x + 40 ≤ s ∧ s + 6 ≤ h.N ∧ SearchS h s ∧ (h.I s 6 = 0 ∨ ∃ sv wt, sv ≤ v ∧ wt < 6 ∧ h.I s 9 = nI sv ∧ h.I s 8 = nI wt ∧ (sv = v → BlH h s g (h.J s 7) wt))
def Dj (jg sc : Option Nat) : Prop := ∀ j s, jg = some j → sc = some s → j + 12 ≤ s ∨ s + 6 ≤ j
/-- the class's side -/
def CW (h : Hp) (x v : Nat) (g : Sg) (S : Int64) (hr : Nat) (cn : Int32) (c : Cg) (tp : Nat → Nat) (tl : Nat) (fk fp : Int32) : Prop := ∃ sg dr jg sc, MasterP h x S hr cn sg dr jg sc ∧ Se h (x + 1) g ∧ h.I (x + 1) 3 = nI v ∧ ReaderP h x tp tl fk fp ∧ ChantsP h x sg dr c ∧ JP h x v g c jg ∧ SP h x v g sc ∧ Dj jg sc ∧ x + 40 ≤ h.N
def Wd (h : Hp) (x v : Nat) : Prop := ∃ g S hr cn c tp tl fk fp, CW h x v g S hr cn c tp tl fk fp ∧ ModP h (x + 20) g S hr cn c tp tl fk fp ∧ Rng g S hr cn tp tl
section CWS
variable {h h1 : Hp} {x v : Nat} {g : Sg} {S : Int64} {hr : Nat} {cn : Int32} {c : Cg} {tp : Nat → Nat} {tl : Nat} {fk fp : Int32}
theorem OutS.fr {o : Nat} (e : ∀ b, o ≤ b → b < o + 3 → same h h1 b) (q : OutS h o) : OutS h1 o := by
  obtain ⟨q1, q2, q3⟩ := q
  have e0 := e o (by omega) (by omega)
  exact ⟨by rw [e0.1]; exact q1, e0.arr (e _ (by omega) (by omega)) q2, e0.arr (e _ (by omega) (by omega)) q3⟩
theorem JudgeS.fr {j : Nat} (e : ∀ b, j ≤ b → b < j + 12 → same h h1 b) (q : JudgeS h j) : JudgeS h1 j := by
  obtain ⟨q1, q2, q3, q4, q5, q6, q7⟩ := q
  have e0 := e j (by omega) (by omega)
  exact ⟨by rw [e0.1]; exact q1, q2.fr (fun b p1 p2 => e b (by omega) (by omega)), q3.fr (fun b p1 p2 => e b (by omega) (by omega)), q4.fr (fun b p1 p2 => e b (by omega) (by omega)), e0.arr (e _ (by omega) (by omega)) q5, e0.arr (e _ (by omega) (by omega)) q6, by rw [e0.2.2.2.2]; exact q7⟩
theorem TabH.fr {o : Nat} {T : Tb} (e : ∀ b, o ≤ b → b < o + 3 → same h h1 b) (q : TabH h o g T) : TabH h1 o g T := by
  unfold TabH
  rw [(e (o + 1) (by omega) (by omega)).2.2.1, (e (o + 2) (by omega) (by omega)).2.2.1]
  exact q
theorem JudgeT.fr {j : Nat} (e : ∀ b, j ≤ b → b < j + 12 → same h h1 b) (q : JudgeT h j g c) : JudgeT h1 j g c := by
  obtain ⟨p, q1, q2, q3⟩ := q
  have e0 := e j (by omega) (by omega)
  refine ⟨p, by rw [e0.2.2.2.2]; exact q1, q2, q3.fr (fun b p1 p2 => ?_)⟩
  unfold slt at q2
  exact e b (by omega) (by omega)
theorem JP.fr {jg : Option Nat} (hN : h.N ≤ h1.N) (e : ∀ j, jg = some j → ∀ b, j ≤ b → b < j + 12 → same h h1 b) (q : JP h x v g c jg) : JP h1 x v g c jg := by
  intro j hj
  obtain ⟨q1, q2, q3, q4⟩ := q j hj
  have e0 := e j hj j (by omega) (by omega)
  refine ⟨q1, by omega, q3.fr (e j hj), ?_⟩
  rw [e0.2.2.1]
  rcases q4 with q4 | ⟨jv, a1, a2, a3⟩
  · exact Or.inl q4
  · exact Or.inr ⟨jv, a1, a2, fun z => (a3 z).fr (e j hj)⟩
theorem SearchS.fr {s : Nat} (e : ∀ b, s ≤ b → b < s + 6 → same h h1 b) (q : SearchS h s) : SearchS h1 s := by
  obtain ⟨q1, q2, q3, q4, q5, q6⟩ := q
  have e0 := e s (by omega) (by omega)
  exact ⟨by rw [e0.1]; exact q1, e0.arr (e _ (by omega) (by omega)) q2, e0.arr (e _ (by omega) (by omega)) q3, e0.arr (e _ (by omega) (by omega)) q4, e0.arr (e _ (by omega) (by omega)) q5, e0.arr (e _ (by omega) (by omega)) q6⟩
theorem SP.fr {sc : Option Nat} (hN : h.N ≤ h1.N) (e : ∀ s, sc = some s → ∀ b, s ≤ b → b < s + 6 → same h h1 b) (q : SP h x v g sc) : SP h1 x v g sc := by
  intro s hs
  obtain ⟨q1, q2, q3, q4⟩ := q s hs
  have e0 := e s hs s (by omega) (by omega)
  refine ⟨q1, by omega, q3.fr (e s hs), ?_⟩
  unfold BlH at q4 ⊢
  rw [e0.2.2.1, e0.2.2.2.1, (e s hs (s + 1) (by omega) (by omega)).2.2.1]
  exact q4
/-- the sea changes: what was worked out is stale -/
theorem JP.up {jg : Option Nat} {g' : Sg} {v' : Nat} (hv : v < v') (q : JP h x v g c jg) : JP h x v' g' c jg := by
  intro j hj
  obtain ⟨q1, q2, q3, q4⟩ := q j hj
  refine ⟨q1, q2, q3, ?_⟩
  rcases q4 with q4 | ⟨jv, a1, a2, a3⟩
  · exact Or.inl q4
  · exact Or.inr ⟨jv, by omega, a2, fun z => by omega⟩
theorem SP.up {sc : Option Nat} {g' : Sg} {v' : Nat} (hv : v < v') (q : SP h x v g sc) : SP h x v' g' sc := by
  intro s hs
  obtain ⟨q1, q2, q3, q4⟩ := q s hs
  refine ⟨q1, q2, q3, ?_⟩
  rcases q4 with q4 | ⟨sv, wt, a1, a2, a3, a4, a5⟩
  · exact Or.inl q4
  · exact Or.inr ⟨sv, wt, by omega, a2, a3, a4, fun z => by omega⟩
theorem CW.fr (hN : h1.N = h.N) (e : ∀ b, b < x + 20 ∨ x + 40 ≤ b → same h h1 b) (q : CW h x v g S hr cn c tp tl fk fp) : CW h1 x v g S hr cn c tp tl fk fp := by
  obtain ⟨sg, dr, jg, sc, q1, q2, q3, q4, q5, q6, q7, q8, q9⟩ := q
  refine ⟨sg, dr, jg, sc, q1.fr (e x (by omega)), q2.fr (fun b p1 p2 => e b (by omega)), ?_, q4.fr (e _ (by omega)) (e _ (by omega)), q5.fr (fun b p1 p2 => e b (by omega)), q6.fr (by omega) (fun j hj b p1 p2 => e b ?_), q7.fr (by omega) (fun s hs b p1 p2 => e b ?_), q8, by omega⟩
  · rw [(e (x + 1) (by omega)).2.2.1]; exact q3
  · have := (q6 j hj).1; omega
  · have := (q7 s hs).1; omega
end CWS
