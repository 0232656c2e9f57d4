
/-! HEAP RULES -/
theorem gA_congr {D : Dx} {h h' : Hp} {a : Nat} {H H' : Heap} (hK : h'.K a = h.K a) (hL : h'.L a = h.L a) (hI : h'.I a = h.I a) (hJ : h'.J a = h.J a) (hR : h'.R a = h.R a) (hH : H'[a]? = H[a]?) (g : gA D h a H) : gA D h' a H' := by
  unfold gA at g ⊢
  rw [hK, hL, hI, hJ, hH]
  by_cases h8 : h.K a = 8
  · rw [if_pos h8] at g ⊢; exact g
  · rw [if_neg h8] at g ⊢
    by_cases h9 : h.K a = 9
    · rw [if_pos h9] at g ⊢; exact g
    · rw [if_neg h9] at g ⊢
      by_cases h10 : h.K a = 10
      · rw [if_pos h10] at g ⊢; exact g
      · rw [if_neg h10] at g ⊢
        have hv : hV h' a = hV h a := by funext k; unfold hV; rw [hK, hI, hJ, hR]
        rw [hv]
        exact g.kept hH
theorem up2_ne {α : Type} (f : Nat → Nat → α) {a b k : Nat} {v : α} (h : b ≠ a) : up2 f a k v b = f b := by funext j; simp [up2, h]
theorem up2_eq {α : Type} (f : Nat → Nat → α) {a k : Nat} {v : α} (j : Nat) : up2 f a k v a j = if j = k then v else f a j := by simp [up2]
theorem gA_obj {D : Dx} {h : Hp} {a c : Nat} {H : Heap} (hK : h.K a = c) (hc : c < 8) (g : gA D h a H) : t_OB a (D.1.1 c) (nF c) (D.1.2 c) H (hV h a) := by
  unfold gA at g
  rw [if_neg (by omega), if_neg (by omega), if_neg (by omega), hK] at g
  exact g
theorem gA_of_obj {D : Dx} {h : Hp} {a c : Nat} {H : Heap} (hK : h.K a = c) (hc : c < 8) (g : t_OB a (D.1.1 c) (nF c) (D.1.2 c) H (hV h a)) : gA D h a H := by
  unfold gA
  rw [if_neg (by omega), if_neg (by omega), if_neg (by omega), hK]
  exact g
theorem gA_8 {D : Dx} {h : Hp} {a : Nat} {H : Heap} (hK : h.K a = 8) : gA D h a H ↔ H[a]? = some (arrV D.2.1.1 (h.L a) (fun j => .int (h.I a j))) := by unfold gA; rw [if_pos hK]
theorem gA_9 {D : Dx} {h : Hp} {a : Nat} {H : Heap} (hK : h.K a = 9) : gA D h a H ↔ H[a]? = some (arrV D.2.1.2.1 (h.L a) (fun j => .long (h.J a j))) := by unfold gA; rw [if_neg (by omega), if_pos hK]
theorem gA_10 {D : Dx} {h : Hp} {a : Nat} {H : Heap} (hK : h.K a = 10) : gA D h a H ↔ H[a]? = some (arrV D.2.1.2.2 (h.L a) (fun j => .int (h.I a j))) := by unfold gA; rw [if_neg (by omega), if_neg (by omega), if_pos hK]
/-- a write to one cell -/
theorem gP_write {D : Dx} {h h' : Hp} {a : Nat} {H H' : Heap} (hP : gP D h H) (hN : h'.N = h.N) (hK : h'.K = h.K) (hL : h'.L = h.L) (hI : ∀ b, b ≠ a → h'.I b = h.I b) (hJ : ∀ b, b ≠ a → h'.J b = h.J b) (hR : ∀ b, b ≠ a → h'.R b = h.R b) (hz : H'.size = H.size) (oq : ∀ q : Nat, q ≠ a → H'[q]? = H[q]?) (ha : gA D h' a H') : gP D h' H' := by
  refine ⟨by rw [hz, hP.1, hN], by rw [hN]; exact hP.2.1, fun b hb => ?_⟩
  rw [hK] at hb
  obtain ⟨g1, g2, g3⟩ := hP.2.2 b hb
  refine ⟨g1, by rw [hN]; exact g2, ?_⟩
  by_cases hab : b = a
  · subst hab; exact ha
  · exact gA_congr (by rw [hK]) (by rw [hL]) (hI b hab) (hJ b hab) (hR b hab) (oq b hab) g3
theorem hV_int {h : Hp} {a k c : Nat} (hK : h.K a = c) (hty : ∀ i j r, hW (tyF c k) i j r = .int i) : hV h a k = .int (h.I a k) := by unfold hV; rw [hK]; exact hty _ _ _
theorem hV_long {h : Hp} {a k c : Nat} (hK : h.K a = c) (hty : ∀ i j r, hW (tyF c k) i j r = .long j) : hV h a k = .long (h.J a k) := by unfold hV; rw [hK]; exact hty _ _ _
theorem hV_ref {h : Hp} {a k c : Nat} (hK : h.K a = c) (hty : ∀ i j r, hW (tyF c k) i j r = va_rf r) : hV h a k = va_rf (h.R a k) := by unfold hV; rw [hK]; exact hty _ _ _
theorem hV_putI {h : Hp} {a k c : Nat} {v : Int32} (hK : h.K a = c) (hty : ∀ i j r, hW (tyF c k) i j r = .int i) (j : Nat) : updV (hV h a) k (.int v) j = hV (putI h a k v) a j := by
  by_cases hj : j = k
  · subst hj
    rw [hV_int (h := putI h a j v) hK hty]
    simp [updV, putI, Hp.I, up2]
  · simp [updV, hj, hV, putI, Hp.I, Hp.K, Hp.J, Hp.R, up2]
theorem hV_putJ {h : Hp} {a k c : Nat} {v : Int64} (hK : h.K a = c) (hty : ∀ i j r, hW (tyF c k) i j r = .long j) (j : Nat) : updV (hV h a) k (.long v) j = hV (putJ h a k v) a j := by
  by_cases hj : j = k
  · subst hj
    rw [hV_long (h := putJ h a j v) hK hty]
    simp [updV, putJ, Hp.J, up2]
  · simp [updV, hj, hV, putJ, Hp.I, Hp.K, Hp.J, Hp.R, up2]
theorem hV_putR {h : Hp} {a k c : Nat} {v : Option Nat} (hK : h.K a = c) (hty : ∀ i j r, hW (tyF c k) i j r = va_rf r) (j : Nat) : updV (hV h a) k (va_rf v) j = hV (putR h a k v) a j := by
  by_cases hj : j = k
  · subst hj
    rw [hV_ref (h := putR h a j v) hK hty]
    simp [updV, putR, Hp.R, up2]
  · simp [updV, hj, hV, putR, Hp.I, Hp.K, Hp.J, Hp.R, up2]
section HEAP
variable {ρ : Type} {X : Cx} {D : Dx} {cc : ByteArray} {nL : Nat} {own : String} {rt : Option FieldType} {rm : Room} {Q : ρ × Hp → State → Prop} {cells slots : Nat} {o o1 o2 : Option (ρ × Hp)} {pc : Nat} {lv : List (Option Value)} {st : List Value} {h : Hp}
/-- a field is read -/
theorem w_get {Q : State → Prop} {H : Heap} {locs : List Loc} {ls : Array Slot} (hE : En X D cc nL own rt rm) {c k idx a : Nat} (hc : c < 8) (hk : k < nF c) (hlink : Cond.fieldLink own idx (TF c k).1 (TF c k).2.1 (TF c k).2.2.1 ∈ TB) (hd : decode cc pc = .ok (.getfield idx, 3)) (hP : gP D h H) (hK : h.K a = c)
    (kk : W X.p X.l X.e X.Rm X.s X.m X.args X.below X.meth X.c H locs cells slots Q (F0 X.m (pc + 3) ls (hV h a k :: st))) : W X.p X.l X.e X.Rm X.s X.m X.args X.below X.meth X.c H locs cells slots Q (F0 X.m pc ls (.ref a :: st)) := by
  obtain ⟨hx, hb, hml, hown, hts, hgK, -⟩ := hE
  obtain ⟨cell, q1, q2, q3, q4⟩ := gA_obj hK hc (hP.2.2 a (by omega)).2.2
  obtain ⟨hS, hfc, kC, hkC, hkind⟩ := hgK.1 c hc
  obtain ⟨cf, kf, fi, f, hi, hsl⟩ := hS k hk
  refine W.getf hx hb hown (hts _ hlink) hi (u_facts hfc hkC (u_lays hts (fieldsTB hc) hk) hi).1 q1 (by rw [q3]; exact fun h => by cases h) (v := hV h a k) ?_ rfl rfl hd kk
  rw [hsl, q4 k hk]
theorem w_apart (hE : En X D cc nL own rt rm) {c : Nat} (hc : c < 8) : ∀ x y, x < nF c → y < nF c → x ≠ y → (D.1.2 c) x ≠ (D.1.2 c) y := by
  obtain ⟨hx, hb, hml, hown, hts, hgK, -⟩ := hE
  intro x y hx hy hne
  obtain ⟨hS, -⟩ := hgK.1 c hc
  obtain ⟨_, _, _, fa, hia, ea⟩ := hS x hx
  obtain ⟨_, _, _, fb, hib, eb⟩ := hS y hy
  rw [← ea, ← eb]
  refine u_apart (u_lays hts (fieldsTB hc) hx) (u_lays hts (fieldsTB hc) hy) hia hib ?_
  rw [(State.fieldFound?_type hia (tyF_ok hc x hx)).1, (State.fieldFound?_type hib (tyF_ok hc y hy)).1]
  exact nmF_ok hc x hx y hy hne
/-- a field is written -/
theorem w_put {Q : State → Prop} {H : Heap} {locs : List Loc} {ls : Array Slot} (hE : En X D cc nL own rt rm) {c k idx a : Nat} {v : Value} (hc : c < 8) (hk : k < nF c) (hlink : Cond.fieldLink own idx (TF c k).1 (TF c k).2.1 (TF c k).2.2.1 ∈ TB) (hfin : (TF c k).2.2.2 = false) (hn : narrow (tyF c k) v = v) (hfit : fits (tyF c k) v = true) (hd : decode cc pc = .ok (.putfield idx, 3)) (hP : gP D h H) (hS0 : va_S D.A X.s.heap H locs) (hK : h.K a = c)
    (kk : ∀ (H1 : Heap) (locs1 : List Loc), t_OB a (D.1.1 c) (nF c) (D.1.2 c) H1 (updV (hV h a) k v) → H1.size = H.size → (∀ q : Nat, q ≠ a → H1[q]? = H[q]?) → va_S D.A X.s.heap H1 locs1 → W X.p X.l X.e X.Rm X.s X.m X.args X.below X.meth X.c H1 locs1 cells slots Q (F0 X.m (pc + 3) ls st)) : W X.p X.l X.e X.Rm X.s X.m X.args X.below X.meth X.c H locs cells slots Q (F0 X.m pc ls (v :: .ref a :: st)) := by
  have hap := w_apart hE hc
  obtain ⟨hx, hb, hml, hown, hts, hgK, -⟩ := hE
  obtain ⟨g1, g2, g3⟩ := hP.2.2 a (by omega)
  obtain ⟨cell, q1, q2, q3, q4⟩ := gA_obj hK hc g3
  obtain ⟨hS, hfc, kC, hkC, hkind⟩ := hgK.1 c hc
  obtain ⟨cf, kf, fi, f, hi, hsl⟩ := hS k hk
  have hlay := hts _ (fieldsTB hc _ (u_in_lay hk))
  unfold u_lay at hlay
  rw [if_neg (by rw [hfin]; decide)] at hlay
  have hst := (u_facts hfc hkC (u_lays hts (fieldsTB hc) hk) hi).1
  have h6 := u_store hfc hkC hkind hlay hi (tyF_ok hc k hk) hn hfit
  refine W.putK hx hb (f := f) ⟨hown, hts _ hlink, ⟨_, _, _, hi⟩, hst⟩ (by rw [q2]; exact h6) q1 q3 (by rw [hsl]; exact k2_hasslot (q4 k hk)) rfl rfl hd fun H' e1 e2 e3 => ?_
  rw [hsl] at e1 ⊢
  exact kk H' _ ⟨_, e1, q2, q3, t_set q4 hap hk v⟩ e2 e3 (hS0.put e2 e3 g1)
theorem r_getI (hE : En X D cc nL own rt rm) (c k : Nat) {idx a : Nat} {f : Int32 → Option (ρ × Hp)} (hc : c < 8) (hk : k < nF c) (hty : ∀ i j r, hW (tyF c k) i j r = .int i) (hlink : Cond.fieldLink own idx (TF c k).1 (TF c k).2.1 (TF c k).2.2.1 ∈ TB) (hd : decode cc pc = .ok (.getfield idx, 3)) (kk : ∀ v, gI h c a k = some v → Wo X D nL Q cells slots (f v) (pc + 3) lv (.int v :: st) h) : Wo X D nL Q cells slots ((gI h c a k).bind f) pc lv (.ref a :: st) h := fun out ho H locs ls hP hS hl => by
  obtain ⟨v, h1, h2⟩ := ob_k ho
  obtain ⟨hK, h3⟩ := gi_k h1
  refine w_get hE hc hk hlink hd hP hK ?_
  have hw := kk v h1 out h2 H locs ls hP hS hl
  rw [hV_int hK hty]
  cases h3; exact hw
theorem r_getJ (hE : En X D cc nL own rt rm) (c k : Nat) {idx a : Nat} {f : Int64 → Option (ρ × Hp)} (hc : c < 8) (hk : k < nF c) (hty : ∀ i j r, hW (tyF c k) i j r = .long j) (hlink : Cond.fieldLink own idx (TF c k).1 (TF c k).2.1 (TF c k).2.2.1 ∈ TB) (hd : decode cc pc = .ok (.getfield idx, 3)) (kk : ∀ v, gJ h c a k = some v → Wo X D nL Q cells slots (f v) (pc + 3) lv (.long v :: st) h) : Wo X D nL Q cells slots ((gJ h c a k).bind f) pc lv (.ref a :: st) h := fun out ho H locs ls hP hS hl => by
  obtain ⟨v, h1, h2⟩ := ob_k ho
  obtain ⟨hK, h3⟩ := gi_k h1
  refine w_get hE hc hk hlink hd hP hK ?_
  have hw := kk v h1 out h2 H locs ls hP hS hl
  rw [hV_long hK hty]
  cases h3; exact hw
theorem r_getR (hE : En X D cc nL own rt rm) (c k : Nat) {idx a : Nat} {f : Nat → Option (ρ × Hp)} (hc : c < 8) (hk : k < nF c) (hty : ∀ i j r, hW (tyF c k) i j r = va_rf r) (hlink : Cond.fieldLink own idx (TF c k).1 (TF c k).2.1 (TF c k).2.2.1 ∈ TB) (hd : decode cc pc = .ok (.getfield idx, 3)) (kk : ∀ v, gR h c a k = some v → Wo X D nL Q cells slots (f v) (pc + 3) lv (.ref v :: st) h) : Wo X D nL Q cells slots ((gR h c a k).bind f) pc lv (.ref a :: st) h := fun out ho H locs ls hP hS hl => by
  obtain ⟨v, h1, h2⟩ := ob_k ho
  obtain ⟨hK, h3⟩ := gi_k h1
  refine w_get hE hc hk hlink hd hP hK ?_
  have hw := kk v h1 out h2 H locs ls hP hS hl
  rw [hV_ref hK hty]
  rw [h3]; exact hw
theorem r_getQ (hE : En X D cc nL own rt rm) (c k : Nat) {idx a : Nat} {f : Option Nat → Option (ρ × Hp)} (hc : c < 8) (hk : k < nF c) (hty : ∀ i j r, hW (tyF c k) i j r = va_rf r) (hlink : Cond.fieldLink own idx (TF c k).1 (TF c k).2.1 (TF c k).2.2.1 ∈ TB) (hd : decode cc pc = .ok (.getfield idx, 3)) (kk : ∀ v, gQ h c a k = some v → Wo X D nL Q cells slots (f v) (pc + 3) lv (va_rf v :: st) h) : Wo X D nL Q cells slots ((gQ h c a k).bind f) pc lv (.ref a :: st) h := fun out ho H locs ls hP hS hl => by
  obtain ⟨v, h1, h2⟩ := ob_k ho
  obtain ⟨hK, h3⟩ := gi_k h1
  refine w_get hE hc hk hlink hd hP hK ?_
  have hw := kk v h1 out h2 H locs ls hP hS hl
  rw [hV_ref hK hty]
  cases h3; exact hw
theorem r_putI (hE : En X D cc nL own rt rm) (c k : Nat) {idx a : Nat} {v : Int32} {f : Hp → Option (ρ × Hp)} (hc : c < 8) (hk : k < nF c) (hty : ∀ i j r, hW (tyF c k) i j r = .int i) (hlink : Cond.fieldLink own idx (TF c k).1 (TF c k).2.1 (TF c k).2.2.1 ∈ TB) (hfin : (TF c k).2.2.2 = false) (hn : narrow (tyF c k) (.int v) = .int v) (hfit : fits (tyF c k) (.int v) = true) (hd : decode cc pc = .ok (.putfield idx, 3)) (kk : ∀ h', pI h c a k (v) = some h' → Wo X D nL Q cells slots (f h') (pc + 3) lv st h') : Wo X D nL Q cells slots ((pI h c a k (v)).bind f) pc lv (.int v :: .ref a :: st) h := fun out ho H locs ls hP hS hl => by
  obtain ⟨h', h1, h2⟩ := ob_k ho
  obtain ⟨hK, h3⟩ := gi_k h1
  refine w_put hE hc hk hlink hfin hn hfit hd hP hS hK fun H1 locs1 hO hz oq hS1 => ?_
  have hw := kk h' h1 out h2 H1 locs1 ls
  cases h3
  exact hw (gP_write hP rfl rfl rfl (fun b hb => up2_ne _ hb) (fun _ _ => rfl) (fun _ _ => rfl) hz oq (gA_of_obj hK hc (hO.to (fun j _ => hV_putI hK hty j)))) hS1 hl
theorem r_putJ (hE : En X D cc nL own rt rm) (c k : Nat) {idx a : Nat} {v : Int64} {f : Hp → Option (ρ × Hp)} (hc : c < 8) (hk : k < nF c) (hty : ∀ i j r, hW (tyF c k) i j r = .long j) (hlink : Cond.fieldLink own idx (TF c k).1 (TF c k).2.1 (TF c k).2.2.1 ∈ TB) (hfin : (TF c k).2.2.2 = false) (hn : narrow (tyF c k) (.long v) = .long v) (hfit : fits (tyF c k) (.long v) = true) (hd : decode cc pc = .ok (.putfield idx, 3)) (kk : ∀ h', pJ h c a k (v) = some h' → Wo X D nL Q cells slots (f h') (pc + 3) lv st h') : Wo X D nL Q cells slots ((pJ h c a k (v)).bind f) pc lv (.long v :: .ref a :: st) h := fun out ho H locs ls hP hS hl => by
  obtain ⟨h', h1, h2⟩ := ob_k ho
  obtain ⟨hK, h3⟩ := gi_k h1
  refine w_put hE hc hk hlink hfin hn hfit hd hP hS hK fun H1 locs1 hO hz oq hS1 => ?_
  have hw := kk h' h1 out h2 H1 locs1 ls
  cases h3
  exact hw (gP_write hP rfl rfl rfl (fun _ _ => rfl) (fun b hb => up2_ne _ hb) (fun _ _ => rfl) hz oq (gA_of_obj hK hc (hO.to (fun j _ => hV_putJ hK hty j)))) hS1 hl
theorem r_putR (hE : En X D cc nL own rt rm) (c k : Nat) {idx a : Nat} {v : Nat} {f : Hp → Option (ρ × Hp)} (hc : c < 8) (hk : k < nF c) (hty : ∀ i j r, hW (tyF c k) i j r = va_rf r) (hlink : Cond.fieldLink own idx (TF c k).1 (TF c k).2.1 (TF c k).2.2.1 ∈ TB) (hfin : (TF c k).2.2.2 = false) (hn : narrow (tyF c k) (.ref v) = .ref v) (hfit : fits (tyF c k) (.ref v) = true) (hd : decode cc pc = .ok (.putfield idx, 3)) (kk : ∀ h', pR h c a k (some v) = some h' → Wo X D nL Q cells slots (f h') (pc + 3) lv st h') : Wo X D nL Q cells slots ((pR h c a k (some v)).bind f) pc lv (.ref v :: .ref a :: st) h := fun out ho H locs ls hP hS hl => by
  obtain ⟨h', h1, h2⟩ := ob_k ho
  obtain ⟨hK, h3⟩ := gi_k h1
  refine w_put hE hc hk hlink hfin hn hfit hd hP hS hK fun H1 locs1 hO hz oq hS1 => ?_
  have hw := kk h' h1 out h2 H1 locs1 ls
  cases h3
  exact hw (gP_write hP rfl rfl rfl (fun _ _ => rfl) (fun _ _ => rfl) (fun b hb => up2_ne _ hb) hz oq (gA_of_obj hK hc (hO.to (fun j _ => (hV_putR (v := some v)) hK hty j)))) hS1 hl
theorem r_putN (hE : En X D cc nL own rt rm) (c k : Nat) {idx a : Nat}  {f : Hp → Option (ρ × Hp)} (hc : c < 8) (hk : k < nF c) (hty : ∀ i j r, hW (tyF c k) i j r = va_rf r) (hlink : Cond.fieldLink own idx (TF c k).1 (TF c k).2.1 (TF c k).2.2.1 ∈ TB) (hfin : (TF c k).2.2.2 = false) (hn : narrow (tyF c k) (va_rf none) = va_rf none) (hfit : fits (tyF c k) (va_rf none) = true) (hd : decode cc pc = .ok (.putfield idx, 3)) (kk : ∀ h', pR h c a k (none) = some h' → Wo X D nL Q cells slots (f h') (pc + 3) lv st h') : Wo X D nL Q cells slots ((pR h c a k (none)).bind f) pc lv (va_rf none :: .ref a :: st) h := fun out ho H locs ls hP hS hl => by
  obtain ⟨h', h1, h2⟩ := ob_k ho
  obtain ⟨hK, h3⟩ := gi_k h1
  refine w_put hE hc hk hlink hfin hn hfit hd hP hS hK fun H1 locs1 hO hz oq hS1 => ?_
  have hw := kk h' h1 out h2 H1 locs1 ls
  cases h3
  exact hw (gP_write hP rfl rfl rfl (fun _ _ => rfl) (fun _ _ => rfl) (fun b hb => up2_ne _ hb) hz oq (gA_of_obj hK hc (hO.to (fun j _ => (hV_putR (v := none)) hK hty j)))) hS1 hl
theorem r_aldI (hE : En X D cc nL own rt rm) {a : Nat} {i : Int32} {f : Int32 → Option (ρ × Hp)} (hd : decode cc pc = .ok (.iaload, 1)) (kk : ∀ v, aI h 8 a i = some v → Wo X D nL Q cells slots (f v) (pc + 1) lv (.int v :: st) h) : Wo X D nL Q cells slots ((aI h 8 a i).bind f) pc lv (.int i :: .ref a :: st) h := fun out ho H locs ls hP hS hl => by
  obtain ⟨v, h1, h2⟩ := ob_k ho
  obtain ⟨⟨hK, hi⟩, h3⟩ := gi_k h1
  have hin : vp_in i (h.L a) := vp_in_iff.mpr hi
  have hlt : i.toNatClampNeg < h.L a := Nat.not_le.mp fun q => hin (Or.inr q)
  have g := (gA_8 hK).mp (hP.2.2 a (by omega)).2.2
  have hw := kk v h1 out h2 H locs ls hP hS hl
  cases h3
  exact W.iald (v := .int _) hE.1 hE.2.1 g (hE.2.2.2.2.2.1.2.1.1 _ _) (fun q => by cases q) (by rw [arrV_size]; exact hin) (arrV_read _ _ hlt) rfl rfl hd hw
theorem r_aldJ (hE : En X D cc nL own rt rm) {a : Nat} {i : Int32} {f : Int64 → Option (ρ × Hp)} (hd : decode cc pc = .ok (.laload, 1)) (kk : ∀ v, aJ h 9 a i = some v → Wo X D nL Q cells slots (f v) (pc + 1) lv (.long v :: st) h) : Wo X D nL Q cells slots ((aJ h 9 a i).bind f) pc lv (.int i :: .ref a :: st) h := fun out ho H locs ls hP hS hl => by
  obtain ⟨v, h1, h2⟩ := ob_k ho
  obtain ⟨⟨hK, hi⟩, h3⟩ := gi_k h1
  have hin : vp_in i (h.L a) := vp_in_iff.mpr hi
  have hlt : i.toNatClampNeg < h.L a := Nat.not_le.mp fun q => hin (Or.inr q)
  have g := (gA_9 hK).mp (hP.2.2 a (by omega)).2.2
  have hw := kk v h1 out h2 H locs ls hP hS hl
  cases h3
  exact W.lald (v := .long _) hE.1 hE.2.1 g (hE.2.2.2.2.2.1.2.2.1.1 _ _) (fun q => by cases q) (by rw [arrV_size]; exact hin) (arrV_read _ _ hlt) rfl rfl hd hw
theorem r_aldC (hE : En X D cc nL own rt rm) {a : Nat} {i : Int32} {f : Int32 → Option (ρ × Hp)} (hd : decode cc pc = .ok (.caload, 1)) (kk : ∀ v, aI h 10 a i = some v → Wo X D nL Q cells slots (f v) (pc + 1) lv (.int v :: st) h) : Wo X D nL Q cells slots ((aI h 10 a i).bind f) pc lv (.int i :: .ref a :: st) h := fun out ho H locs ls hP hS hl => by
  obtain ⟨v, h1, h2⟩ := ob_k ho
  obtain ⟨⟨hK, hi⟩, h3⟩ := gi_k h1
  have hin : vp_in i (h.L a) := vp_in_iff.mpr hi
  have hlt : i.toNatClampNeg < h.L a := Nat.not_le.mp fun q => hin (Or.inr q)
  have g := (gA_10 hK).mp (hP.2.2 a (by omega)).2.2
  have hw := kk v h1 out h2 H locs ls hP hS hl
  cases h3
  exact W.cald (v := .int _) hE.1 hE.2.1 g (hE.2.2.2.2.2.1.2.2.2.1.1 _ _) (fun q => by cases q) (by rw [arrV_size]; exact hin) (arrV_read _ _ hlt) rfl rfl hd hw
theorem r_astI (hE : En X D cc nL own rt rm) {a : Nat} {i : Int32} {x : Int32} {f : Hp → Option (ρ × Hp)} (hd : decode cc pc = .ok (.iastore, 1)) (kk : ∀ h', sI h 8 a i (x) = some h' → Wo X D nL Q cells slots (f h') (pc + 1) lv st h') : Wo X D nL Q cells slots ((sI h 8 a i (x)).bind f) pc lv (.int x :: .int i :: .ref a :: st) h := fun out ho H locs ls hP hS hl => by
  obtain ⟨h', h1, h2⟩ := ob_k ho
  obtain ⟨⟨hK, hi⟩, h3⟩ := gi_k h1
  have hin : vp_in i (h.L a) := vp_in_iff.mpr hi
  obtain ⟨g1, g2, g3⟩ := hP.2.2 a (by omega)
  have g := (gA_8 hK).mp g3
  cases h3
  refine W.iast hE.1 hE.2.1 g (hE.2.2.2.2.2.1.2.1.1 _ _) (fun q => by cases q) (by rw [arrV_size]; exact hin) rfl rfl hd fun H1 e z oq => ?_
  refine kk _ h1 out h2 H1 _ ls (gP_write hP rfl rfl rfl (fun b hb => up2_ne _ hb) (fun _ _ => rfl) (fun _ _ => rfl) z oq ((gA_8 (h := putI h a i.toNatClampNeg (x)) hK).mpr ?_)) (hS.put z oq g1) hl
  rw [e, arrV_store]
  refine congrArg (fun f => some (arrV _ _ f)) ?_
  funext q
  by_cases hq : q = i.toNatClampNeg
  · subst hq
    simp [updV, putI, Hp.I, up2]
    
  · simp [updV, putI, Hp.I, up2, hq]
theorem r_astJ (hE : En X D cc nL own rt rm) {a : Nat} {i : Int32} {x : Int64} {f : Hp → Option (ρ × Hp)} (hd : decode cc pc = .ok (.lastore, 1)) (kk : ∀ h', sJ h 9 a i (x) = some h' → Wo X D nL Q cells slots (f h') (pc + 1) lv st h') : Wo X D nL Q cells slots ((sJ h 9 a i (x)).bind f) pc lv (.long x :: .int i :: .ref a :: st) h := fun out ho H locs ls hP hS hl => by
  obtain ⟨h', h1, h2⟩ := ob_k ho
  obtain ⟨⟨hK, hi⟩, h3⟩ := gi_k h1
  have hin : vp_in i (h.L a) := vp_in_iff.mpr hi
  obtain ⟨g1, g2, g3⟩ := hP.2.2 a (by omega)
  have g := (gA_9 hK).mp g3
  cases h3
  refine W.last hE.1 hE.2.1 g (hE.2.2.2.2.2.1.2.2.1.1 _ _) (fun q => by cases q) (by rw [arrV_size]; exact hin) rfl rfl hd fun H1 e z oq => ?_
  refine kk _ h1 out h2 H1 _ ls (gP_write hP rfl rfl rfl (fun _ _ => rfl) (fun b hb => up2_ne _ hb) (fun _ _ => rfl) z oq ((gA_9 (h := putJ h a i.toNatClampNeg x) hK).mpr ?_)) (hS.put z oq g1) hl
  rw [e, arrV_store]
  refine congrArg (fun f => some (arrV _ _ f)) ?_
  funext q
  by_cases hq : q = i.toNatClampNeg
  · subst hq
    simp [updV, putJ, Hp.J, up2]
    
  · simp [updV, putJ, Hp.J, up2, hq]
theorem r_astC (hE : En X D cc nL own rt rm) {a : Nat} {i : Int32} {x : Int32} {f : Hp → Option (ρ × Hp)} (hd : decode cc pc = .ok (.castore, 1)) (kk : ∀ h', sI h 10 a i (vp_nar .char x) = some h' → Wo X D nL Q cells slots (f h') (pc + 1) lv st h') : Wo X D nL Q cells slots ((sI h 10 a i (vp_nar .char x)).bind f) pc lv (.int x :: .int i :: .ref a :: st) h := fun out ho H locs ls hP hS hl => by
  obtain ⟨h', h1, h2⟩ := ob_k ho
  obtain ⟨⟨hK, hi⟩, h3⟩ := gi_k h1
  have hin : vp_in i (h.L a) := vp_in_iff.mpr hi
  obtain ⟨g1, g2, g3⟩ := hP.2.2 a (by omega)
  have g := (gA_10 hK).mp g3
  cases h3
  refine W.cast hE.1 hE.2.1 g (hE.2.2.2.2.2.1.2.2.2.1.1 _ _) (fun q => by cases q) (by rw [arrV_size]; exact hin) rfl rfl hd fun H1 e z oq => ?_
  refine kk _ h1 out h2 H1 _ ls (gP_write hP rfl rfl rfl (fun b hb => up2_ne _ hb) (fun _ _ => rfl) (fun _ _ => rfl) z oq ((gA_10 (h := putI h a i.toNatClampNeg (vp_nar .char x)) hK).mpr ?_)) (hS.put z oq g1) hl
  rw [e, arrV_store]
  refine congrArg (fun f => some (arrV _ _ f)) ?_
  funext q
  by_cases hq : q = i.toNatClampNeg
  · subst hq
    simp [updV, putI, Hp.I, up2, vp_nar]
    try rfl
  · simp [updV, putI, Hp.I, up2, hq]
theorem r_alen (hE : En X D cc nL own rt rm) {a : Nat} {f : Int32 → Option (ρ × Hp)} (hd : decode cc pc = .ok (.arraylength, 1)) (kk : ∀ v, aN h a = some v → Wo X D nL Q cells slots (f v) (pc + 1) lv (.int v :: st) h) : Wo X D nL Q cells slots ((aN h a).bind f) pc lv (.ref a :: st) h := fun out ho H locs ls hP hS hl => by
  obtain ⟨v, h1, h2⟩ := ob_k ho
  obtain ⟨⟨k1, k2⟩, h3⟩ := gi_k h1
  have g3 := (hP.2.2 a k2).2.2
  have hw := kk v h1 out h2 H locs ls hP hS hl
  cases h3
  rcases (show h.K a = 8 ∨ h.K a = 9 ∨ h.K a = 10 by omega) with hK | hK | hK
  · exact W.alen hE.1 hE.2.1 ((gA_8 hK).mp g3) (hE.2.2.2.2.2.1.2.1.1 _ _) (by rw [arrV_size]) rfl rfl hd hw
  · exact W.alen hE.1 hE.2.1 ((gA_9 hK).mp g3) (hE.2.2.2.2.2.1.2.2.1.1 _ _) (by rw [arrV_size]) rfl rfl hd hw
  · exact W.alen hE.1 hE.2.1 ((gA_10 hK).mp g3) (hE.2.2.2.2.2.1.2.2.2.1.1 _ _) (by rw [arrV_size]) rfl rfl hd hw
end HEAP
