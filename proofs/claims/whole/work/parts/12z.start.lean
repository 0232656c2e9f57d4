
def hp0 (n : Nat) : Hp := ⟨n, fun _ => 11, fun _ => 0, fun _ _ => 0, fun _ _ => 0, fun _ _ => none⟩
theorem instTB : ∀ c, c < 8 → Cond.instantiable (RF c) (nF c) ∈ lw_tbl := by
  intro c hc
  rcases lt8 hc with rfl | rfl | rfl | rfl | rfl | rfl | rfl | rfl <;> decide +kernel
def tmS (i : Nat) : Term := .string RX3 (idxS i)
theorem lt6 {c : Nat} (h : c < 6) : c = 0 ∨ c = 1 ∨ c = 2 ∨ c = 3 ∨ c = 4 ∨ c = 5 := by omega
set_option maxHeartbeats 4000000 in
set_option maxRecDepth 100000 in
/-- what the Statement gives of the strings -/
theorem strs_start {s : State} {b : Nat} (hgv : (Jvm.Cond.and given_1 narrow_1).before #[Value.ref b] s = true) {A : Nat → Prop} (hA : ∀ a : Nat, a < s.heap.size → ¬ A a) : ∃ adK adV : Nat → Nat, vk_S 6 lenS bytS adK adV A s s.heap ∧ ∀ i : Nat, i < 6 → (tmS i).eval #[Value.ref b] s none [] s = some (.ref (adK i)) := by
  have hs := flat_of_before _ hgv
  refine vk_Sof (tm := tmS) (by decide) ?_ ?_ ?_ ?_ ?_ ?_ hA
  · intro i hi
    rcases lt6 hi with rfl | rfl | rfl | rfl | rfl | rfl <;> exact hs _ (by decide +kernel)
  · intro i hi
    rcases lt6 hi with rfl | rfl | rfl | rfl | rfl | rfl <;> exact hs _ (by decide +kernel)
  · intro i hi
    rcases lt6 hi with rfl | rfl | rfl | rfl | rfl | rfl <;> exact hs _ (by decide +kernel)
  · intro i hi
    rcases lt6 hi with rfl | rfl | rfl | rfl | rfl | rfl <;> exact hs _ (by decide +kernel)
  · intro i hi j hj
    rcases lt6 hi with rfl | rfl | rfl | rfl | rfl | rfl
    · rcases (show j = 0 ∨ j = 1 ∨ j = 2 ∨ j = 3 ∨ j = 4 by simp [lenS] at hj; omega) with rfl | rfl | rfl | rfl | rfl <;> exact hs _ (by decide +kernel)
    · rcases (show j = 0 ∨ j = 1 ∨ j = 2 ∨ j = 3 ∨ j = 4 by simp [lenS] at hj; omega) with rfl | rfl | rfl | rfl | rfl <;> exact hs _ (by decide +kernel)
    · rcases (show j = 0 ∨ j = 1 ∨ j = 2 by simp [lenS] at hj; omega) with rfl | rfl | rfl <;> exact hs _ (by decide +kernel)
    · rcases (show j = 0 ∨ j = 1 ∨ j = 2 ∨ j = 3 ∨ j = 4 by simp [lenS] at hj; omega) with rfl | rfl | rfl | rfl | rfl <;> exact hs _ (by decide +kernel)
    · rcases (show j = 0 ∨ j = 1 ∨ j = 2 ∨ j = 3 ∨ j = 4 by simp [lenS] at hj; omega) with rfl | rfl | rfl | rfl | rfl <;> exact hs _ (by decide +kernel)
    · rcases (show j = 0 ∨ j = 1 ∨ j = 2 ∨ j = 3 by simp [lenS] at hj; omega) with rfl | rfl | rfl | rfl <;> exact hs _ (by decide +kernel)
  · intro i j hi hj hij
    rcases lt6 hi with rfl | rfl | rfl | rfl | rfl | rfl <;> rcases lt6 hj with rfl | rfl | rfl | rfl | rfl | rfl <;> first | exact absurd rfl hij | exact Or.inl (hs _ (by decide +kernel)) | exact Or.inr (hs _ (by decide +kernel))
theorem strW : ∀ i, i < 6 → Cond.stringRef RX3 (idxS i) (txS i) ∈ lw_tbl := by
  intro i hi
  rcases lt6 hi with rfl | rfl | rfl | rfl | rfl | rfl <;> decide +kernel
theorem nestT : ∀ w ∈ nestW, w ∈ lw_tbl := by decide +kernel
theorem zW1 : Cond.laysStatic "java/lang/String" "COMPACT_STRINGS" "Z" ∈ lw_tbl ∧ Cond.initialized "java/lang/String" ∈ lw_tbl := by decide +kernel
theorem zW2 : Cond.laysStatic "jdk/internal/util/Preconditions" "SIOOBE_FORMATTER" "Ljava/util/function/BiFunction;" ∈ lw_tbl ∧ Cond.initialized "jdk/internal/util/Preconditions" ∈ lw_tbl := by decide +kernel
set_option maxHeartbeats 4000000 in
set_option maxRecDepth 100000 in
/-- the law, from its entry: machine and picture, where the picture answers 1 -/
theorem start_of {p : Program} {e : Env} {s : State} {m : MethodId} {below : List Frame} {meth : Method} {c : Code} (l : Launch) {b L : Nat} {xs : Nat → Int32} (hL : L ≤ 3072) (C0 : lw_At p s m meth c b L xs) (hlaw : ∃ fu h', f_L_law fu L xs (hp0 s.heap.size) = some (1, h')) : W p l e room_1 s m #[Value.ref b] below meth c s.heap [] 0 0 (lw_Z below #[Value.ref b] s) (entryFrame m ([Value.ref b] : List Value).toArray 4) := by
  obtain ⟨hx, hb, hr, hml, hown, hts, hX, hbl, hlocks, hgv⟩ := C0
  obtain ⟨fu, h', hf⟩ := hlaw
  have hs := flat_of_before _ hgv
  have htb : ∀ w ∈ TB, w.before #[Value.ref b] s = true := fun w hw => hts w (List.mem_filter.mp hw).1
  have hcl : ∀ c : Nat, ∃ q : ClassId × (Nat → Nat), c < 8 → u_Kn s (RF c) (TF c) (nF c) q.1 q.2 := by
    intro c
    by_cases hc : c < 8
    · obtain ⟨cC, iS, hk⟩ := u_known (C := RF c) (T := TF c) (N := nF c) (n := nF c) htb (fieldsTB hc) (hts _ (instTB c hc))
      exact ⟨(cC, iS), fun _ => hk⟩
    · exact ⟨(0, fun _ => 0), fun h => absurd h hc⟩
  obtain ⟨dc, hdc⟩ := Classical.axiomOfChoice hcl
  obtain ⟨cI, kI, pI, hI1, hI2, hI3⟩ := Cond.arrayClass_spec (htb _ ar8)
  obtain ⟨cJ, kJ, pJ, hJ1, hJ2, hJ3⟩ := Cond.arrayClass_spec (htb _ ar9)
  obtain ⟨cC, kC, pC, hC1, hC2, hC3⟩ := Cond.arrayClass_spec (htb _ ar10)
  have hA0 : ∀ a : Nat, a < s.heap.size → ¬ (s.heap.size ≤ a) := fun a h => Nat.not_le.mpr h
  obtain ⟨adK, adV, hS1, hS2⟩ := strs_start hgv (A := fun q => s.heap.size ≤ q) hA0
  obtain ⟨D, hD⟩ : ∃ D : Dx, D = ((fun c => (dc c).1, fun c => (dc c).2), (cI, cJ, cC), s.heap.size, adK, adV) := ⟨_, rfl⟩
  have hgK : gK D s := by
    rw [hD]
    refine ⟨fun c hc => hdc c hc, ⟨fun n z => ⟨fun k h => (by cases h), kI, hI2, pI, hI3⟩, hI1⟩, ⟨fun n z => ⟨fun k h => (by cases h), kJ, hJ2, pJ, hJ3⟩, hJ1⟩, ⟨fun n z => ⟨fun k h => (by cases h), kC, hC2, pC, hC3⟩, hC1⟩, fun w hw => ?_, fun i hi => vk_R.of (hts _ (strW i hi)) (hS2 i hi)⟩
    have hz := hts w (nestT w hw)
    simp only [nestW, List.mem_cons, List.not_mem_nil, or_false] at hw
    rcases hw with rfl | rfl | rfl | rfl | rfl | rfl | rfl | rfl <;> exact va_Nw.of rfl hz
  have hgS : gS D s s.heap := by
    rw [hD]
    exact ⟨hS1, va_Zof (hts _ zW1.1) (hts _ zW1.2) (va_eqi (hs _ (by decide +kernel))) hA0, va_Zqof (hts _ zW2.1) (hts _ zW2.2) (hs _ (by decide +kernel)) hA0⟩
  have hlo : D.2.2.1 = s.heap.size := by rw [hD]
  have hP0 : gP D (hp0 s.heap.size) s.heap := ⟨rfl, by rw [hlo]; exact Nat.le_refl _, fun a ha => absurd ha (by show ¬ (11 < 11); omega)⟩
  have hE : En (p, l, e, room_1, s, m, #[Value.ref b], below, meth, c) D code 4 RL ret room_1 := ⟨hx, hb, hml, hown, htb, hgK, by show D.2.2.1 ≤ s.heap.size; rw [hlo]; exact Nat.le_refl _, hr, hlocks, hgS, rfl⟩
  have hw := w_L_law (X := (p, l, e, room_1, s, m, #[Value.ref b], below, meth, c)) (fu := fu) hE hX hbl (by show ¬ (D.2.2.1 ≤ b); rw [hlo]; omega) ⟨rfl, fun q hq => by have : D.2.2.1 ≤ q := hq; rw [hlo] at this; exact this⟩ hL (hp0 s.heap.size)
  have hl := lv_entry ([.ref b]) (n := 4) (Nat.le_of_ble_eq_true rfl)
  rw [lg_entry_eq]
  intro T hT X0
  obtain ⟨t, h1, h2⟩ := hw (1, h') hf s.heap [] _ hP0 va_S.rf hl T hT X0
  exact ⟨t, h1, h2 rfl⟩
