/-! THE HEAP AS NUMBERS -/
theorem gI_e {h : Hp} {c a k : Nat} (hK : h.K a = c) : gI h c a k = some (h.I a k) := if_pos hK
theorem gJ_e {h : Hp} {c a k : Nat} (hK : h.K a = c) : gJ h c a k = some (h.J a k) := if_pos hK
theorem gR_e {h : Hp} {c a k : Nat} (hK : h.K a = c) : gR h c a k = h.R a k := if_pos hK
theorem gQ_e {h : Hp} {c a k : Nat} (hK : h.K a = c) : gQ h c a k = some (h.R a k) := if_pos hK
theorem pI_e {h : Hp} {c a k : Nat} {v : Int32} (hK : h.K a = c) : pI h c a k v = some (putI h a k v) := if_pos hK
theorem pJ_e {h : Hp} {c a k : Nat} {v : Int64} (hK : h.K a = c) : pJ h c a k v = some (putJ h a k v) := if_pos hK
theorem pR_e {h : Hp} {c a k : Nat} {v : Option Nat} (hK : h.K a = c) : pR h c a k v = some (putR h a k v) := if_pos hK
theorem nI_ok {j n : Nat} (hj : j < n) (hn : n < 2 ^ 31) : 0 ≤ (nI j).toInt ∧ (nI j).toInt < (n : Int) := by rw [nI_toInt (by omega)]; omega
theorem aI_e {h : Hp} {c a j n : Nat} (hK : h.K a = c) (hL : h.L a = n) (hj : j < n) (hn : n < 2 ^ 31) : aI h c a (nI j) = some (h.I a j) := by
  unfold aI; rw [if_pos ⟨hK, by rw [hL]; exact nI_ok hj hn⟩, nI_clamp (by omega)]
theorem aJ_e {h : Hp} {c a j n : Nat} (hK : h.K a = c) (hL : h.L a = n) (hj : j < n) (hn : n < 2 ^ 31) : aJ h c a (nI j) = some (h.J a j) := by
  unfold aJ; rw [if_pos ⟨hK, by rw [hL]; exact nI_ok hj hn⟩, nI_clamp (by omega)]
theorem sI_e {h : Hp} {c a j n : Nat} {v : Int32} (hK : h.K a = c) (hL : h.L a = n) (hj : j < n) (hn : n < 2 ^ 31) : sI h c a (nI j) v = some (putI h a j v) := by
  unfold sI; rw [if_pos ⟨hK, by rw [hL]; exact nI_ok hj hn⟩, nI_clamp (by omega)]
theorem sJ_e {h : Hp} {c a j n : Nat} {v : Int64} (hK : h.K a = c) (hL : h.L a = n) (hj : j < n) (hn : n < 2 ^ 31) : sJ h c a (nI j) v = some (putJ h a j v) := by
  unfold sJ; rw [if_pos ⟨hK, by rw [hL]; exact nI_ok hj hn⟩, nI_clamp (by omega)]
/-- an array that an object holds -/
def arr (h : Hp) (o k a kd n : Nat) : Prop := h.R o k = some a ∧ h.K a = kd ∧ h.L a = n
/-- only values at the addresses P have changed -/
def Ed (P : Nat → Prop) (h h1 : Hp) : Prop := h1.N = h.N ∧ h1.K = h.K ∧ h1.L = h.L ∧ h1.R = h.R ∧ ∀ b, ¬ P b → h1.I b = h.I b ∧ h1.J b = h.J b
theorem Ed.rf {P : Nat → Prop} {h : Hp} : Ed P h h := ⟨rfl, rfl, rfl, rfl, fun _ _ => ⟨rfl, rfl⟩⟩
theorem Ed.tr {P : Nat → Prop} {h h1 h2 : Hp} (a : Ed P h h1) (b : Ed P h1 h2) : Ed P h h2 :=
  ⟨b.1.trans a.1, b.2.1.trans a.2.1, b.2.2.1.trans a.2.2.1, b.2.2.2.1.trans a.2.2.2.1, fun q hq => ⟨(b.2.2.2.2 q hq).1.trans (a.2.2.2.2 q hq).1, (b.2.2.2.2 q hq).2.trans (a.2.2.2.2 q hq).2⟩⟩
theorem Ed.mono {P P' : Nat → Prop} {h h1 : Hp} (a : Ed P h h1) (hp : ∀ b, P b → P' b) : Ed P' h h1 := ⟨a.1, a.2.1, a.2.2.1, a.2.2.2.1, fun q hq => a.2.2.2.2 q (fun z => hq (hp q z))⟩
theorem Ed.pI {P : Nat → Prop} {h : Hp} {a k : Nat} {v : Int32} (ha : P a) : Ed P h (putI h a k v) := ⟨rfl, rfl, rfl, rfl, fun b hb => ⟨up2_ne _ (fun e => hb (e ▸ ha)), rfl⟩⟩
theorem Ed.pJ {P : Nat → Prop} {h : Hp} {a k : Nat} {v : Int64} (ha : P a) : Ed P h (putJ h a k v) := ⟨rfl, rfl, rfl, rfl, fun b hb => ⟨rfl, up2_ne _ (fun e => hb (e ▸ ha))⟩⟩
theorem Ed.arr {P : Nat → Prop} {h h1 : Hp} (e : Ed P h h1) {o k a kd n : Nat} (x : arr h o k a kd n) : arr h1 o k a kd n := ⟨by rw [e.2.2.2.1]; exact x.1, by rw [e.2.1]; exact x.2.1, by rw [e.2.2.1]; exact x.2.2⟩
theorem putI_I (h : Hp) (a k : Nat) (v : Int32) (b j : Nat) : (putI h a k v).I b j = if b = a then (if j = k then v else h.I b j) else h.I b j := rfl
theorem putI_J (h : Hp) (a k : Nat) (v : Int32) : (putI h a k v).J = h.J := rfl
theorem putJ_I (h : Hp) (a k : Nat) (v : Int64) : (putJ h a k v).I = h.I := rfl
theorem putJ_J (h : Hp) (a k : Nat) (v : Int64) (b j : Nat) : (putJ h a k v).J b j = if b = a then (if j = k then v else h.J b j) else h.J b j := rfl
/-! counting -/
def cnt (p : Nat → Bool) : Nat → Nat
  | 0 => 0
  | n + 1 => cnt p n + (if p n then 1 else 0)
theorem cnt_le (p : Nat → Bool) : ∀ n, cnt p n ≤ n
  | 0 => Nat.le_refl _
  | n + 1 => by have := cnt_le p n; unfold cnt; split <;> omega
theorem cnt_congr {p q : Nat → Bool} : ∀ {n}, (∀ i, i < n → p i = q i) → cnt p n = cnt q n
  | 0, _ => rfl
  | n + 1, h => by unfold cnt; rw [cnt_congr (fun i hi => h i (by omega)), h n (by omega)]
theorem i32_lit (n : Nat) : (OfNat.ofNat n : Int32) = nI n := rfl
theorem nI_m1 (n : Nat) : nI (n + 1) + (-1) = nI n := pk_m1 n
theorem m1_ne {c : Nat} (h : c < 2 ^ 31) : ¬ nI c = -1 := by
  intro e
  have := congrArg Int32.toInt e
  rw [nI_toInt h] at this
  have e2 : (-1 : Int32).toInt = -1 := by decide
  rw [e2] at this
  omega
theorem mul_le_64 {w h : Nat} (hw : w ≤ 8) (hh : h ≤ 8) : w * h ≤ 64 := Nat.mul_le_mul hw hh
/-! THE SEA'S NUMBERS: width, height, land (0: none, else reach + 1), swell, drift sets, night, flight -/
def Sg : Type := Nat × Nat × (Nat → Nat) × (Nat → Int32) × (Nat → Int32) × Int32 × Int32
def Sg.w (g : Sg) : Nat := g.1
def Sg.hh (g : Sg) : Nat := g.2.1
def Sg.ld (g : Sg) : Nat → Nat := g.2.2.1
def Sg.sw (g : Sg) : Nat → Int32 := g.2.2.2.1
def Sg.dr (g : Sg) : Nat → Int32 := g.2.2.2.2.1
def Sg.ni (g : Sg) : Int32 := g.2.2.2.2.2.1
def Sg.fl (g : Sg) : Int32 := g.2.2.2.2.2.2
def Sg.n (g : Sg) : Nat := g.w * g.hh
def Sg.ok (g : Sg) : Prop := 2 ≤ g.w ∧ g.w ≤ 8 ∧ 2 ≤ g.hh ∧ g.hh ≤ 8 ∧ (∀ c, g.ld c ≤ 4) ∧ ∀ c, g.n ≤ c → g.ld c = 0
theorem Sg.ok.n64 {g : Sg} (h : g.ok) : g.n ≤ 64 := mul_le_64 h.2.1 h.2.2.2.1
theorem Sg.ok.n0 {g : Sg} (h : g.ok) : 0 < g.n := Nat.mul_pos (by have := h.1; omega) (by have := h.2.2.1; omega)
/-- one step along a row of m places, by a and b, each 0 .. 2 -/
def mv (x a b m : Nat) : Nat := min (x + a + b - 2) (m - 1)
/-- where a canoe on c comes to that isn't on land -/
def gof (g : Sg) (c way by_ : Nat) : Nat := g.w * mv (c / g.w) (way / 3) (by_ / 3) g.hh + mv (c % g.w) (way % 3) (by_ % 3) g.w
def goN (g : Sg) (c way by_ : Nat) : Nat := if 0 < g.ld c then c else gof g c way by_
theorem mv_lt {x a b m : Nat} (hm : 0 < m) : mv x a b m < m := by unfold mv; omega
theorem gof_lt {g : Sg} (hg : g.ok) (c way by_ : Nat) : gof g c way by_ < g.n := by
  have h1 := mv_lt (x := c / g.w) (a := way / 3) (b := by_ / 3) (m := g.hh) (by have := hg.2.2.1; omega)
  have h2 := mv_lt (x := c % g.w) (a := way % 3) (b := by_ % 3) (m := g.w) (by have := hg.1; omega)
  unfold gof Sg.n
  calc g.w * mv (c / g.w) (way / 3) (by_ / 3) g.hh + mv (c % g.w) (way % 3) (by_ % 3) g.w < g.w * mv (c / g.w) (way / 3) (by_ / 3) g.hh + g.w := by omega
    _ = g.w * (mv (c / g.w) (way / 3) (by_ / 3) g.hh + 1) := by rw [Nat.mul_add, Nat.mul_one]
    _ ≤ g.w * g.hh := Nat.mul_le_mul_left _ h1
theorem goN_lt {g : Sg} (hg : g.ok) {c : Nat} (hc : c < g.n) (way by_ : Nat) : goN g c way by_ < g.n := by
  unfold goN; split
  · exact hc
  · exact gof_lt hg c way by_
/-- how far two places are along a row -/
def dst (a b : Nat) : Nat := if b ≤ a then a - b else b - a
def good (g : Sg) (c l : Nat) : Prop := 0 < g.ld l ∧ dst (l % g.w) (c % g.w) < g.ld l ∧ dst (l / g.w) (c / g.w) < g.ld l
def bf (g : Sg) (c : Nat) : Nat → Nat → Bool
  | 0, _ => false
  | k + 1, l => decide (0 < g.ld l ∧ dst (l % g.w) (c % g.w) < g.ld l ∧ dst (l / g.w) (c / g.w) < g.ld l) || bf g c k (l + 1)
def bird (g : Sg) (c : Nat) : Bool := bf g c g.n 0
theorem bf_iff (g : Sg) (c : Nat) : ∀ (k l : Nat), bf g c k l = true ↔ ∃ j, l ≤ j ∧ j < l + k ∧ good g c j
  | 0, l => by simp [bf]; intro j h1 h2; omega
  | k + 1, l => by
    rw [bf, Bool.or_eq_true, decide_eq_true_eq, bf_iff g c k (l + 1)]
    constructor
    · rintro (h | ⟨j, h1, h2, h3⟩)
      · exact ⟨l, Nat.le_refl _, by omega, h⟩
      · exact ⟨j, by omega, by omega, h3⟩
    · rintro ⟨j, h1, h2, h3⟩
      by_cases e : j = l
      · subst e; exact Or.inl h3
      · exact Or.inr ⟨j, by omega, by omega, h3⟩
theorem bird_iff (g : Sg) (c : Nat) : bird g c = true ↔ ∃ l, l < g.n ∧ good g c l := by
  unfold bird
  rw [bf_iff]
  constructor
  · rintro ⟨j, -, h2, h3⟩; exact ⟨j, by omega, h3⟩
  · rintro ⟨j, h2, h3⟩; exact ⟨j, by omega, by omega, h3⟩
/-- the sign that a cell has in a watch -/
def sgn (g : Sg) (c watch : Nat) (what : Nat) : Int32 :=
  if what = 0 then g.sw c
  else if what = 1 then (if bt g.ni watch then nI (c / g.w / 2) else -1)
  else if bt g.fl watch then (if bird g c then 1 else 0) else 0
/-! literals -/
theorem l_nge {c b : Nat} (h : c < b) (hb : b < 2 ^ 31) : ¬ (OfNat.ofNat b : Int32) ≤ nI c := nI_ge h hb
theorem l_ge {c b : Nat} (h : b ≤ c) (hc : c < 2 ^ 31) : (OfNat.ofNat b : Int32) ≤ nI c := nI_le h hc
theorem l_gt {c b : Nat} (h : b < c) (hc : c < 2 ^ 31) : (OfNat.ofNat b : Int32) < nI c := nI_lt h hc
theorem l_ngt {c b : Nat} (h : c ≤ b) (hb : b < 2 ^ 31) : ¬ (OfNat.ofNat b : Int32) < nI c := nI_nlt h hb
theorem l_lt {c b : Nat} (h : c < b) (hb : b < 2 ^ 31) : nI c < (OfNat.ofNat b : Int32) := nI_lt h hb
theorem l_nlt {c b : Nat} (h : b ≤ c) (hc : c < 2 ^ 31) : ¬ nI c < (OfNat.ofNat b : Int32) := nI_nlt h hc
theorem l_le {c b : Nat} (h : c ≤ b) (hb : b < 2 ^ 31) : nI c ≤ (OfNat.ofNat b : Int32) := nI_le h hb
theorem l_nle {c b : Nat} (h : b < c) (hc : c < 2 ^ 31) : ¬ nI c ≤ (OfNat.ofNat b : Int32) := nI_ge h hc
theorem l_eq {c b : Nat} (hc : c < 2 ^ 31) (hb : b < 2 ^ 31) : (nI c = (OfNat.ofNat b : Int32)) ↔ c = b := nI_eq hc hb
theorem l_add (c b : Nat) : nI c + (OfNat.ofNat b : Int32) = nI (c + b) := nI_add c b
theorem l_sub {c b : Nat} (h : b ≤ c) : nI c - (OfNat.ofNat b : Int32) = nI (c - b) := pk_sub h
theorem l_div {c b : Nat} (hc : c < 2 ^ 31) (h0 : 0 < b) (hb : b < 2 ^ 31) : nI c / (OfNat.ofNat b : Int32) = nI (c / b) := pk_div hc h0 hb
theorem l_rem {c b : Nat} (hc : c < 2 ^ 31) (h0 : 0 < b) (hb : b < 2 ^ 31) : rem (nI c) (OfNat.ofNat b : Int32) = nI (c % b) := pk_rem hc h0 hb
theorem n_rem {c b : Nat} (hc : c < 2 ^ 31) (h0 : 0 < b) (hb : b < 2 ^ 31) : rem (nI c) (nI b) = nI (c % b) := pk_rem hc h0 hb
theorem ite_v {α : Type} {c : Prop} [Decidable c] {a b : α} : (if c then a else b) = if c then a else b := rfl
/-! small numbers by toInt -/
theorem ti_add {a b : Int32} {x y : Int} (ha : a.toInt = x) (hb : b.toInt = y) (h : -2147483648 ≤ x + y ∧ x + y < 2147483648) : (a + b).toInt = x + y := by
  rw [Int32.toInt_add, ha, hb]
  show (x + y).bmod 4294967296 = _
  rw [Int.bmod_eq_of_le] <;> omega
theorem ti_sub {a b : Int32} {x y : Int} (ha : a.toInt = x) (hb : b.toInt = y) (h : -2147483648 ≤ x - y ∧ x - y < 2147483648) : (a - b).toInt = x - y := by
  rw [Int32.toInt_sub, ha, hb]
  show (x - y).bmod 4294967296 = _
  rw [Int.bmod_eq_of_le] <;> omega
theorem ti_n {n : Nat} (h : n < 2 ^ 31) : (nI n).toInt = (n : Int) := nI_toInt h
theorem ti_eq {a : Int32} {n : Nat} (h : a.toInt = (n : Int)) (hn : n < 2 ^ 31) : a = nI n := Int32.toInt_inj.mp (by rw [h, nI_toInt hn])
theorem ti_1 : (1 : Int32).toInt = 1 := by decide
theorem ti_2 : (2 : Int32).toInt = 2 := by decide
theorem ti_0 : (0 : Int32).toInt = 0 := by decide
theorem le_ti {a b : Int32} : a ≤ b ↔ a.toInt ≤ b.toInt := Int32.le_iff_toInt_le
theorem lt_ti {a b : Int32} : a < b ↔ a.toInt < b.toInt := Int32.lt_iff_toInt_lt
