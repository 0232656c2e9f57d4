
/-! THE TYPED HEAP: every cell that the system makes, by its address: its kind (0..7 a class, 8 ints, 9 longs, 10 chars; 11 none), its length, ints, longs, references -/
def Hp : Type := Nat × (Nat → Nat) × (Nat → Nat) × (Nat → Nat → Int32) × (Nat → Nat → Int64) × (Nat → Nat → Option Nat)
def Hp.N (h : Hp) : Nat := h.1
def Hp.K (h : Hp) : Nat → Nat := h.2.1
def Hp.L (h : Hp) : Nat → Nat := h.2.2.1
def Hp.I (h : Hp) : Nat → Nat → Int32 := h.2.2.2.1
def Hp.J (h : Hp) : Nat → Nat → Int64 := h.2.2.2.2.1
def Hp.R (h : Hp) : Nat → Nat → Option Nat := h.2.2.2.2.2
def up2 {α : Type} (f : Nat → Nat → α) (a k : Nat) (v : α) : Nat → Nat → α := fun b j => if b = a then (if j = k then v else f b j) else f b j
def putI (h : Hp) (a k : Nat) (v : Int32) : Hp := ⟨h.N, h.K, h.L, up2 h.I a k v, h.J, h.R⟩
def putJ (h : Hp) (a k : Nat) (v : Int64) : Hp := ⟨h.N, h.K, h.L, h.I, up2 h.J a k v, h.R⟩
def putR (h : Hp) (a k : Nat) (v : Option Nat) : Hp := ⟨h.N, h.K, h.L, h.I, h.J, up2 h.R a k v⟩
def newC (h : Hp) (kd len : Nat) : Hp := ⟨h.N + 1, va_up h.K h.N kd, va_up h.L h.N len, va_up h.I h.N (fun _ => 0), va_up h.J h.N (fun _ => 0), va_up h.R h.N (fun _ => none)⟩
def cpyI (h : Hp) (a b : Nat) (sp dp n : Nat) : Hp := ⟨h.N, h.K, h.L, va_up h.I b (va_cpy (h.I a) (h.I b) sp dp n), h.J, h.R⟩
def nF (c : Nat) : Nat := match c with | 0 => 5 | 1 => 7 | 2 => 2 | 3 => 8 | 4 => 20 | 5 => 11 | 6 => 9 | _ => 38
def tyF (c : Nat) : Nat → FieldType := match c with | 0 => tyX0 | 1 => tyX1 | 2 => tyX2 | 3 => tyX3 | 4 => tyX4 | 5 => tyX5 | 6 => tyX6 | _ => tyX7
def TF (c : Nat) : u_T := match c with | 0 => TX0 | 1 => TX1 | 2 => TX2 | 3 => TX3 | 4 => TX4 | 5 => TX5 | 6 => TX6 | _ => TX7
def RF (c : Nat) : String := match c with | 0 => RX0 | 1 => RX1 | 2 => RX2 | 3 => RX3 | 4 => RX4 | 5 => RX5 | 6 => RX6 | _ => RX7
def hW (ty : FieldType) (i : Int32) (j : Int64) (r : Option Nat) : Value := match ty with
  | .long => .long j
  | .object _ => va_rf r
  | .array _ => va_rf r
  | _ => .int i
def hV (h : Hp) (a k : Nat) : Value := hW (tyF (h.K a) k) (h.I a k) (h.J a k) (h.R a k)
theorem lt8 {c : Nat} (h : c < 8) : c = 0 ∨ c = 1 ∨ c = 2 ∨ c = 3 ∨ c = 4 ∨ c = 5 ∨ c = 6 ∨ c = 7 := by omega
def TB : List Cond := lw_tbl.filter goodWord
theorem tb_in {w : Cond} (h : w ∈ lw_tbl) (g : goodWord w = true) : w ∈ TB := List.mem_filter.mpr ⟨h, g⟩
theorem tb_good : GoodIn TB TB := fun w h => ⟨h, good_of_word (List.mem_filter.mp h).2⟩
theorem gw_lay (C : String) (T : u_T) (k : Nat) : goodWord (u_lay C T k) = true := by unfold u_lay; split <;> rfl
theorem inTB {C : String} {T : u_T} {N : Nat} (h : ∀ w ∈ u_ws C T N, w ∈ lw_tbl) : ∀ w ∈ u_ws C T N, w ∈ TB := by
  intro w hw
  refine tb_in (h w hw) ?_
  obtain ⟨k, -, rfl⟩ := List.mem_map.mp hw
  exact gw_lay C T k
theorem fieldsTB {c : Nat} (hc : c < 8) : ∀ w ∈ u_ws (RF c) (TF c) (nF c), w ∈ TB := by
  rcases lt8 hc with rfl | rfl | rfl | rfl | rfl | rfl | rfl | rfl
  · exact inTB inX0
  · exact inTB inX1
  · exact inTB inX2
  · exact inTB inX3
  · exact inTB inX4
  · exact inTB inX5
  · exact inTB inX6
  · exact inTB inX7
theorem tyF_ok {c : Nat} (hc : c < 8) : ∀ k, k < nF c → parseFieldDescriptor (TF c k).2.2.1 = some (tyF c k) := by
  rcases lt8 hc with rfl | rfl | rfl | rfl | rfl | rfl | rfl | rfl
  · exact tyX0_ok
  · exact tyX1_ok
  · exact tyX2_ok
  · exact tyX3_ok
  · exact tyX4_ok
  · exact tyX5_ok
  · exact tyX6_ok
  · exact tyX7_ok
theorem nmF_ok {c : Nat} (hc : c < 8) : ∀ a, a < nF c → ∀ b, b < nF c → a ≠ b → (TF c a).2.1 ≠ (TF c b).2.1 := by
  rcases lt8 hc with rfl | rfl | rfl | rfl | rfl | rfl | rfl | rfl
  · exact nmX0
  · exact nmX1
  · exact nmX2
  · exact nmX3
  · exact nmX4
  · exact nmX5
  · exact nmX6
  · exact nmX7
/-! the strings, the nest links -/
def lenS : List Nat := [5, 5, 3, 5, 5, 4]
def bytS : List (List Int32) := [[115, 116, 101, 101, 114], [117, 110, 116, 105, 108], [102, 111, 114], [98, 105, 114, 100, 115], [115, 119, 101, 108, 108], [115, 116, 97, 114]]
def idxS (i : Nat) : Nat := [88, 94, 96, 98, 100, 102].getD i 0
def txS (i : Nat) : String := ["steer", "until", "for", "birds", "swell", "star"].getD i ""
def nestW : List Cond := [.methodLinkNest RX6 11 yX4_init "CanoeMaster", .methodLinkNest RX6 18 yX3_init "CanoeMaster", .methodLinkNest RX6 25 yX0_init "CanoeMaster", .methodLinkNest RX6 197 yX1_init "CanoeMaster", .methodLinkNest RX6 211 yX5_init "CanoeMaster", .methodLinkNest RX1 11 yX2_init "CanoeMaster", .methodLinkNest RX1 62 yX6_has "CanoeMaster", .methodLinkNest RX4 107 yX6_has "CanoeMaster"]
/-! what is known of the launch: class tables, the array classes of kinds 8, 9, 10, the lowest address of ours, the strings' addresses and their rows' -/
abbrev Dx : Type := va_G × (ClassId × ClassId × ClassId) × Nat × (Nat → Nat) × (Nat → Nat)
def Dx.lo (D : Dx) : Nat := D.2.2.1
def Dx.A (D : Dx) : Nat → Prop := fun q => D.2.2.1 ≤ q
def gA (D : Dx) (h : Hp) (a : Nat) (H : Heap) : Prop :=
  if h.K a = 8 then H[a]? = some (arrV D.2.1.1 (h.L a) (fun j => .int (h.I a j)))
  else if h.K a = 9 then H[a]? = some (arrV D.2.1.2.1 (h.L a) (fun j => .long (h.J a j)))
  else if h.K a = 10 then H[a]? = some (arrV D.2.1.2.2 (h.L a) (fun j => .int (h.I a j)))
  else t_OB a (D.1.1 (h.K a)) (nF (h.K a)) (D.1.2 (h.K a)) H (hV h a)
def gP (D : Dx) (h : Hp) (H : Heap) : Prop := H.size = h.N ∧ D.2.2.1 ≤ h.N ∧ ∀ a, h.K a < 11 → D.2.2.1 ≤ a ∧ a < h.N ∧ gA D h a H
def gK (D : Dx) (U : State) : Prop :=
  (∀ c, c < 8 → u_Kn U (RF c) (TF c) (nF c) (D.1.1 c) (D.1.2 c)) ∧
  (ArrOfT U D.2.1.1 .int ∧ U.vm.findClass ("[" ++ FieldType.int.toString) = some D.2.1.1) ∧ (ArrOfT U D.2.1.2.1 .long ∧ U.vm.findClass ("[" ++ FieldType.long.toString) = some D.2.1.2.1) ∧ (ArrOfT U D.2.1.2.2 .char ∧ U.vm.findClass ("[" ++ FieldType.char.toString) = some D.2.1.2.2) ∧
  (∀ w ∈ nestW, va_Nw w U) ∧ (∀ i, i < 6 → vk_R RX3 (idxS i) (txS i) (D.2.2.2.1 i) U)
def gS (D : Dx) (U : State) (H : Heap) : Prop := vk_S 6 lenS bytS D.2.2.2.1 D.2.2.2.2 D.A U H ∧ va_Z "java/lang/String" "COMPACT_STRINGS" "Z" (.int 1) D.A U H ∧ va_Zq "jdk/internal/util/Preconditions" "SIOOBE_FORMATTER" "Ljava/util/function/BiFunction;" D.A U H
theorem nest_warm {s U : State} (hW : s.WarmedH U.vm) {w : Cond} (hw : w ∈ nestW) (h : va_Nw w s) : va_Nw w U := by
  simp only [nestW, List.mem_cons, List.not_mem_nil, or_false] at hw
  rcases hw with rfl | rfl | rfl | rfl | rfl | rfl | rfl | rfl <;> exact va_Nw.warmM hW h
theorem gK.warm {D : Dx} {s U : State} (hW : s.WarmedH U.vm) (h : gK D s) : gK D U := by
  obtain ⟨h1, ⟨a1, a2⟩, ⟨b1, b2⟩, ⟨c1, c2⟩, h3, h4⟩ := h
  have hv := hW.alike
  exact ⟨fun c hc => u_Kn_moved hv (h1 c hc), ⟨arrOfT_moved hv a1, by rw [hv.findClass]; exact a2⟩, ⟨arrOfT_moved hv b1, by rw [hv.findClass]; exact b2⟩, ⟨arrOfT_moved hv c1, by rw [hv.findClass]; exact c2⟩, fun w hw => nest_warm hW hw (h3 w hw), fun i hi => (h4 i hi).warm hW⟩
theorem gK.same {D : Dx} {u U : State} (hv : U.vm = u.vm) (h : gK D u) : gK D U := by
  obtain ⟨h1, ⟨a1, a2⟩, ⟨b1, b2⟩, ⟨c1, c2⟩, h3, h4⟩ := h
  have hA : u.vm.Alike U.vm := by rw [hv]; exact Vm.Alike.refl u.vm
  refine ⟨fun c hc => u_Kn_moved hA (h1 c hc), ⟨arrOfT_moved hA a1, by rw [hv]; exact a2⟩, ⟨arrOfT_moved hA b1, by rw [hv]; exact b2⟩, ⟨arrOfT_moved hA c1, by rw [hv]; exact c2⟩, fun w hw => ?_, fun i hi => (h4 i hi).same hv⟩
  have hz := h3 w hw
  simp only [nestW, List.mem_cons, List.not_mem_nil, or_false] at hw
  rcases hw with rfl | rfl | rfl | rfl | rfl | rfl | rfl | rfl <;> exact va_Nw.same rfl hv.symm hz
theorem gS.moved {D : Dx} {u U : State} {H : Heap} (hvm : u.vm.Alike U.vm) (h : gS D u H) : gS D U H := ⟨h.1.moved hvm, h.2.1.moved hvm, h.2.2.moved hvm⟩
theorem gS.kept {D : Dx} {U : State} {H H1 : Heap} (h : gS D U H) (hq : ∀ a : Nat, a < H.size → ¬ D.A a → H1[a]? = H[a]?) : gS D U H1 := ⟨h.1.kept hq, h.2.1.kept hq, h.2.2.kept hq⟩
/-! locals by their places -/
def toA : Nat → List (Option Value) → List (Nat × Value)
  | _, [] => []
  | k, none :: l => toA (k + 1) l
  | k, some v :: l => (k, v) :: toA (k + 1) l
theorem toA_mem : ∀ (l : List (Option Value)) (k i : Nat) (v : Value), l[i]? = some (some v) → (k + i, v) ∈ toA k l
  | [], _, i, v, h => by simp at h
  | none :: l, k, 0, v, h => by simp at h
  | some w :: l, k, 0, v, h => by simp at h; subst h; exact List.mem_cons_self
  | none :: l, k, i + 1, v, h => by
    have := toA_mem l (k + 1) i v (by simpa using h)
    rw [show k + (i + 1) = k + 1 + i by omega]; exact this
  | some w :: l, k, i + 1, v, h => by
    have := toA_mem l (k + 1) i v (by simpa using h)
    rw [show k + (i + 1) = k + 1 + i by omega]; exact List.mem_cons_of_mem _ this
theorem toA_of : ∀ (l : List (Option Value)) (k j : Nat) (v : Value), (j, v) ∈ toA k l → k ≤ j ∧ l[j - k]? = some (some v)
  | [], _, _, _, h => by simp [toA] at h
  | none :: l, k, j, v, h => by
    obtain ⟨h1, h2⟩ := toA_of l (k + 1) j v h
    refine ⟨by omega, ?_⟩
    rw [show j - k = (j - (k + 1)) + 1 by omega]; simpa using h2
  | some w :: l, k, j, v, h => by
    rcases List.mem_cons.mp h with h | h
    · cases h; exact ⟨Nat.le_refl _, by simp⟩
    · obtain ⟨h1, h2⟩ := toA_of l (k + 1) j v h
      refine ⟨by omega, ?_⟩
      rw [show j - k = (j - (k + 1)) + 1 by omega]; simpa using h2
def vC2 (v : Option Value) : Bool := match v with
  | some (.long _) => true
  | some (.double _) => true
  | _ => false
/-- a store at place i: of one word (w = 1) or two -/
def lvS : List (Option Value) → Nat → Value → List (Option Value)
  | [], _, _ => []
  | _ :: l, 0, v => some v :: l
  | x :: l, 1, v => (if vC2 x then none else x) :: lvS l 0 v
  | x :: l, i + 2, v => x :: lvS l (i + 1) v
def lvD : List (Option Value) → Nat → Value → List (Option Value)
  | [], _, _ => []
  | _ :: _ :: l, 0, v => some v :: none :: l
  | _ :: [], 0, v => [some v]
  | x :: l, 1, v => (if vC2 x then none else x) :: lvD l 0 v
  | x :: l, i + 2, v => x :: lvD l (i + 1) v
theorem vC2_cat {v : Value} : vC2 (some v) = (v.category == 2) := by cases v <;> rfl
theorem lvS_get : ∀ (l : List (Option Value)) (i : Nat) (v : Value) (j : Nat) (w : Value), (lvS l i v)[j]? = some (some w) → (j = i ∧ w = v) ∨ (j ≠ i ∧ l[j]? = some (some w) ∧ (j + 1 = i → (w.category == 2) = false))
  | [], _, _, j, w, h => by simp [lvS] at h
  | x :: l, 0, v, 0, w, h => by simp [lvS] at h; exact Or.inl ⟨rfl, h.symm⟩
  | x :: l, 0, v, j + 1, w, h => by simp [lvS] at h; exact Or.inr ⟨by omega, by simpa using h, by omega⟩
  | x :: l, 1, v, 0, w, h => by
    simp only [lvS, List.getElem?_cons_zero, Option.some.injEq] at h
    refine Or.inr ⟨by omega, ?_, fun _ => ?_⟩
    · split at h
      · cases h
      · simp [h]
    · split at h
      · cases h
      · next hx => rw [h, vC2_cat] at hx; simpa using hx
  | x :: l, 1, v, j + 1, w, h => by
    simp only [lvS, List.getElem?_cons_succ] at h
    rcases lvS_get l 0 v j w h with ⟨h1, h2⟩ | ⟨h1, h2, h3⟩
    · exact Or.inl ⟨by omega, h2⟩
    · exact Or.inr ⟨by omega, by simpa using h2, by omega⟩
  | x :: l, i + 2, v, 0, w, h => by
    simp only [lvS, List.getElem?_cons_zero] at h
    exact Or.inr ⟨by omega, by simpa using h, by omega⟩
  | x :: l, i + 2, v, j + 1, w, h => by
    simp only [lvS, List.getElem?_cons_succ] at h
    rcases lvS_get l (i + 1) v j w h with ⟨h1, h2⟩ | ⟨h1, h2, h3⟩
    · exact Or.inl ⟨by omega, h2⟩
    · exact Or.inr ⟨by omega, by simpa using h2, fun q => h3 (by omega)⟩
theorem lvD_get : ∀ (l : List (Option Value)) (i : Nat) (v : Value) (j : Nat) (w : Value), (lvD l i v)[j]? = some (some w) → (j = i ∧ w = v) ∨ (j ≠ i ∧ j ≠ i + 1 ∧ l[j]? = some (some w) ∧ (j + 1 = i → (w.category == 2) = false))
  | [], _, _, j, w, h => by simp [lvD] at h
  | [x], 0, v, 0, w, h => by simp [lvD] at h; exact Or.inl ⟨rfl, h.symm⟩
  | [x], 0, v, j + 1, w, h => by simp [lvD] at h
  | x :: y :: l, 0, v, 0, w, h => by simp [lvD] at h; exact Or.inl ⟨rfl, h.symm⟩
  | x :: y :: l, 0, v, 1, w, h => by simp [lvD] at h
  | x :: y :: l, 0, v, j + 2, w, h => by simp [lvD] at h; exact Or.inr ⟨by omega, by omega, by simpa using h, by omega⟩
  | x :: l, 1, v, 0, w, h => by
    simp only [lvD, List.getElem?_cons_zero, Option.some.injEq] at h
    refine Or.inr ⟨by omega, by omega, ?_, fun _ => ?_⟩
    · split at h
      · cases h
      · simp [h]
    · split at h
      · cases h
      · next hx => rw [h, vC2_cat] at hx; simpa using hx
  | x :: l, 1, v, j + 1, w, h => by
    simp only [lvD, List.getElem?_cons_succ] at h
    rcases lvD_get l 0 v j w h with ⟨h1, h2⟩ | ⟨h1, h2, h3, h4⟩
    · exact Or.inl ⟨by omega, h2⟩
    · exact Or.inr ⟨by omega, by omega, by simpa using h3, by omega⟩
  | x :: l, i + 2, v, 0, w, h => by
    simp only [lvD, List.getElem?_cons_zero] at h
    exact Or.inr ⟨by omega, by omega, by simpa using h, by omega⟩
  | x :: l, i + 2, v, j + 1, w, h => by
    simp only [lvD, List.getElem?_cons_succ] at h
    rcases lvD_get l (i + 1) v j w h with ⟨h1, h2⟩ | ⟨h1, h2, h3, h4⟩
    · exact Or.inl ⟨by omega, h2⟩
    · exact Or.inr ⟨by omega, by omega, by simpa using h3, fun q => h4 (by omega)⟩
def lvh (ls : Array Slot) (nL : Nat) (lv : List (Option Value)) : Prop := lv_has ls nL (toA 0 lv)
theorem lvh.at {ls : Array Slot} {nL : Nat} {lv : List (Option Value)} (h : lvh ls nL lv) {i : Nat} {v : Value} (hi : lv[i]? = some (some v)) : ls[i]? = some (.val v) := by
  have := h.2.2 (0 + i, v) (toA_mem lv 0 i v hi)
  simpa using this
theorem lvh.store {ls : Array Slot} {nL : Nat} {lv : List (Option Value)} {i : Nat} {v : Value} (h : lv_has ls nL ((i, v) :: (toA 0 lv).filter (fun q => !(q.1 == i) && !(q.1 + 1 == i && q.2.category == 2)))) : lvh ls nL (lvS lv i v) := by
  refine ⟨h.1, h.2.1, fun q hq => ?_⟩
  obtain ⟨j, w⟩ := q
  obtain ⟨-, hj⟩ := toA_of _ _ _ _ hq
  rw [Nat.sub_zero] at hj
  rcases lvS_get lv i v j w hj with ⟨rfl, rfl⟩ | ⟨h1, h2, h3⟩
  · exact h.2.2 _ List.mem_cons_self
  · refine h.2.2 _ (List.mem_cons_of_mem _ (List.mem_filter.mpr ⟨by simpa using toA_mem lv 0 j w h2, ?_⟩))
    by_cases hji : j + 1 = i
    · simp [h1, hji, h3 hji]
    · simp [h1, hji]
theorem lvh.store2 {ls : Array Slot} {nL : Nat} {lv : List (Option Value)} {i : Nat} {v : Value} (h : lv_has ls nL ((i, v) :: (toA 0 lv).filter (fun q => !(q.1 == i) && (!(q.1 == i + 1) && !(q.1 + 1 == i && q.2.category == 2))))) : lvh ls nL (lvD lv i v) := by
  refine ⟨h.1, h.2.1, fun q hq => ?_⟩
  obtain ⟨j, w⟩ := q
  obtain ⟨-, hj⟩ := toA_of _ _ _ _ hq
  rw [Nat.sub_zero] at hj
  rcases lvD_get lv i v j w hj with ⟨rfl, rfl⟩ | ⟨h1, h1b, h2, h3⟩
  · exact h.2.2 _ List.mem_cons_self
  · refine h.2.2 _ (List.mem_cons_of_mem _ (List.mem_filter.mpr ⟨by simpa using toA_mem lv 0 j w h2, ?_⟩))
    by_cases hji : j + 1 = i
    · simp [h1, h1b, hji, h3 hji]
    · simp [h1, h1b, hji]
/-- the first list says less -/
def lvLe : List (Option Value) → List (Option Value) → Prop
  | [], _ => True
  | _ :: _, [] => False
  | none :: a, _ :: b => lvLe a b
  | some v :: a, w :: b => w = some v ∧ lvLe a b
theorem lvLe_get : ∀ (a b : List (Option Value)), lvLe a b → ∀ (i : Nat) (v : Value), a[i]? = some (some v) → b[i]? = some (some v)
  | [], _, _, i, v, h => by simp at h
  | _ :: _, [], hl, _, _, _ => hl.elim
  | none :: a, w :: b, hl, 0, v, h => by simp at h
  | none :: a, w :: b, hl, i + 1, v, h => by simpa using lvLe_get a b hl i v (by simpa using h)
  | some u :: a, w :: b, hl, 0, v, h => by simp at h; subst h; simp [hl.1]
  | some u :: a, w :: b, hl, i + 1, v, h => by simpa using lvLe_get a b hl.2 i v (by simpa using h)
theorem lvh.sub {ls : Array Slot} {nL : Nat} {a b : List (Option Value)} (h : lvh ls nL b) (hl : lvLe a b) : lvh ls nL a := by
  refine ⟨h.1, h.2.1, fun q hq => ?_⟩
  obtain ⟨j, w⟩ := q
  obtain ⟨-, hj⟩ := toA_of _ _ _ _ hq
  rw [Nat.sub_zero] at hj
  exact h.at (lvLe_get a b hl j w hj)
