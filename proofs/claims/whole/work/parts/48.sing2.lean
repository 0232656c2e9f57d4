theorem drift_bit : ∀ v, v < 512 → 0 < v → ∃ e, e < 9 ∧ bt (nI v) e = true := by decide +kernel
section SING2
variable {fu m : Nat} {g : Sg} {c : Cg}
/-- two numbers put at one place of the two rows -/
def sp2 (h : Hp) (m to : Nat) (u w : Int32) : Hp := putI (putI h (m + 13) to u) (m + 14) to w
theorem sp2_E {h : Hp} {to : Nat} {u w : Int32} : Ed (PS m) h (sp2 h m to u w) := Ed.tr (Ed.pI (Or.inl rfl)) (Ed.pI (Or.inr rfl))
theorem sp2_1 {h : Hp} {to k : Nat} {u w : Int32} : (sp2 h m to u w).I (m + 13) k = if k = to then u else h.I (m + 13) k := by unfold sp2; rw [w2, w3]
theorem sp2_2 {h : Hp} {to k : Nat} {u w : Int32} : (sp2 h m to u w).I (m + 14) k = if k = to then w else h.I (m + 14) k := by unfold sp2; rw [w3, w1]
/-- what one step reads and has done -/
def QS (h : Hp) (m : Nat) (g : Sg) (c : Cg) (l : Nat) (B : Tb) (k ce wt : Nat) : Prop := RM h m g c ∧ MT h m 0 g B ∧ (k ≤ c.hr l → MT h m (k + 1) g (lnT g c l B (c.hr l - k))) ∧ ∀ i, i < g.n → ∀ w, w < 6 → i < ce ∨ (i = ce ∧ w < wt) → ER h m k (lnT g c l B (c.hr l + 1 - k)) i w
theorem m_step {h : Hp} {l k ce wt K : Nat} {B : Tb} (hf : 20000 < fu) (ok : c.ok) (hl : l < c.n) (hce : ce < g.n) (hwt : wt < 6) (hk0 : 0 < k) (hk : k ≤ c.hr l + 1) (lz : LZ g B) (gB : Gp g K B) (hK : K ≤ 900) (hdr : ∀ k, k < 6 → ∃ v, 0 < v ∧ v < 512 ∧ g.dr k = nI v) (q : QS h m g c l B k ce wt) : ∃ h1, f_X7_step fu m (nI l) (nI (k - 1)) (nI ce) (nI wt) h = some ((), h1) ∧ Ed (PS m) h h1 ∧ QS h1 m g c l B k ce (wt + 1) := by
  obtain ⟨rm, m0, mk, done⟩ := q
  have hg := rm.1.2.2
  have h64 := hg.n64
  have h12 := ok.1
  have h20 := (ok.2 l hl).2.2.2.2
  have hK7 := rm.1.K
  obtain ⟨-, -, -, a15, -, -, -, -, -, a29, a30, -⟩ := rm.2.1
  obtain ⟨to, hto⟩ : ∃ to, to = 384 * k + 6 * ce + wt := ⟨_, rfl⟩
  have to2 : to < 16384 := by omega
  -- the work ends with the right numbers at its place and no others changed
  have fin : ∀ h1, Ed (PS m) h h1 → h1.I (m + 13) to = nI (cC (lnT g c l B (c.hr l + 1 - k) wt ce).1) → h1.I (m + 14) to = nI (cC (lnT g c l B (c.hr l + 1 - k) wt ce).2) → (∀ i, i ≠ to → h1.I (m + 13) i = h.I (m + 13) i ∧ h1.I (m + 14) i = h.I (m + 14) i) → QS h1 m g c l B k ce (wt + 1) := by
    intro h1 e u1 u2 u3
    refine ⟨rm.ed e, ?_, ?_, ?_⟩
    · intro i hi w hw
      have z := m0 i hi w hw
      unfold ER at z ⊢
      rw [(u3 _ (by omega)).1, (u3 _ (by omega)).2]; exact z
    · intro hk2 i hi w hw
      have z := mk hk2 i hi w hw
      unfold ER at z ⊢
      rw [(u3 _ (by omega)).1, (u3 _ (by omega)).2]; exact z
    · intro i hi w hw hor
      by_cases e2 : i = ce ∧ w = wt
      · obtain ⟨rfl, rfl⟩ := e2
        unfold ER
        rw [← hto]; exact ⟨u1, u2⟩
      · have z := done i hi w hw (by omega)
        unfold ER at z ⊢
        rw [(u3 _ (by omega)).1, (u3 _ (by omega)).2]; exact z
  have fin2 : ∀ u w : Nat, u = cC (lnT g c l B (c.hr l + 1 - k) wt ce).1 → w = cC (lnT g c l B (c.hr l + 1 - k) wt ce).2 → Ed (PS m) h (sp2 h m to (nI u) (nI w)) ∧ QS (sp2 h m to (nI u) (nI w)) m g c l B k ce (wt + 1) := by
    intro u w e1 e2
    refine ⟨sp2_E, fin _ sp2_E (by rw [sp2_1, if_pos rfl, e1]) (by rw [sp2_2, if_pos rfl, e2]) (fun i hi => ⟨by rw [sp2_1, if_neg hi], by rw [sp2_2, if_neg hi]⟩)⟩
  have unf : f_X7_step fu m (nI l) (nI (k - 1)) (nI ce) (nI wt) h = (if (if 0 < g.ld ce then 1 else 0 : Int32) = 0 then (if nI (k - 1) = nI (c.hr l) then f_X7_step_58 fu m (nI ce) (nI wt) (nI to) h else (f_X7_isThere fu m (nI l) (nI ce) (nI wt) h).bind fun r52 => if r52.1 = 0 then (gR r52.2 7 m 29).bind fun v100 => (sI r52.2 8 v100 (nI to) 0).bind fun h106 => (gR h106 7 m 30).bind fun v108 => (sI h106 8 v108 (nI to) 100000).bind fun h115 => f_X7_step_119 fu fu m (nI l) (nI (k - 1)) (nI ce) (nI wt) (nI to) 0 h115 else f_X7_step_58 fu m (nI ce) (nI wt) (nI to) r52.2) else some ((), sp2 h m to 0 0)) := by
    unfold f_X7_step
    rw [if_pos hK7, nI_1, show k - 1 + 1 = k by omega, m_at hK7, Option.bind_some, ← hto]
    dsimp only
    rw [m_isLand rm.1 (by omega), Option.bind_some]
    dsimp only
    by_cases hl0 : 0 < g.ld ce
    · rw [if_pos hl0, if_neg one_ne, if_neg one_ne, gR_e hK7, a29.1, Option.bind_some, sI_e a29.2.1 a29.2.2 to2 (by omega), Option.bind_some, gR_e (h := putI _ _ _ _) hK7]
      rw [show (putI h (m + 13) to 0).R m 30 = some (m + 14) from a30.1, Option.bind_some, sI_e (h := putI _ _ _ _) a30.2.1 a30.2.2 to2 (by omega), Option.bind_some]
      rfl
    · rw [if_neg hl0, if_pos rfl, if_pos rfl, gR_e hK7, a15.1, Option.bind_some, aI_e a15.2.1 a15.2.2 (show l < 12 by omega) (by omega), Option.bind_some, (rm.2.2.2 l hl).2.2.2]
  have cp : f_X7_step_58 fu m (nI ce) (nI wt) (nI to) h = some ((), sp2 h m to (nI (cC (B wt ce).1)) (nI (cC (B wt ce).2))) := by
    obtain ⟨t1, t2⟩ := m0 ce hce wt hwt
    have i2 : 384 * 0 + 6 * ce + wt < 16384 := by omega
    have at0 : ∀ h : Hp, h.K m = 7 → f_X7_at fu m 0 (nI ce) (nI wt) h = some (nI (384 * 0 + 6 * ce + wt), h) := fun h hK => m_at hK 0 ce wt
    unfold f_X7_step_58
    rw [gR_e hK7, a29.1, Option.bind_some, Option.bind_some, at0 h hK7, Option.bind_some]
    dsimp only
    rw [aI_e a29.2.1 a29.2.2 i2 (by omega), Option.bind_some, t1, sI_e a29.2.1 a29.2.2 to2 (by omega), Option.bind_some, gR_e (h := putI _ _ _ _) hK7]
    rw [show (putI h (m + 13) to (nI (cC (B wt ce).1))).R m 30 = some (m + 14) from a30.1, Option.bind_some, Option.bind_some, at0 _ (by rw [K_pI]; exact hK7), Option.bind_some]
    dsimp only
    rw [aI_e (h := putI _ _ _ _) a30.2.1 a30.2.2 i2 (by omega), Option.bind_some, w1, t2, sI_e (h := putI _ _ _ _) a30.2.1 a30.2.2 to2 (by omega), Option.bind_some]
    rfl
  by_cases hl0 : 0 < g.ld ce
  · have lv : lnT g c l B (c.hr l + 1 - k) wt ce = (0, 0) := by
      cases z : c.hr l + 1 - k with
      | zero => rw [lnT]; exact lz wt ce hl0
      | succ n => rw [lnT]; unfold hrT; rw [if_pos hl0]
    obtain ⟨e1, e2⟩ := fin2 0 0 (by rw [lv]; decide) (by rw [lv]; decide)
    refine ⟨_, ?_, e1, e2⟩
    rw [unf, if_pos hl0, if_neg one_ne]
    rfl
  · rw [unf, if_neg hl0, if_pos rfl]
    by_cases hd : k = c.hr l + 1
    · have lv : lnT g c l B (c.hr l + 1 - k) wt ce = B wt ce := by rw [show c.hr l + 1 - k = 0 by omega, lnT]
      obtain ⟨e1, e2⟩ := fin2 (cC (B wt ce).1) (cC (B wt ce).2) (by rw [lv]) (by rw [lv])
      refine ⟨_, ?_, e1, e2⟩
      rw [if_pos (by rw [hd]; rfl), cp]
    · rw [if_neg (fun z => hd (by have := (nI_eq (by omega) (by omega)).mp z; omega)), m_isThere rm.1 rm.2.1 rm.2.2 (by omega) ok hl hwt hce, Option.bind_some]
      have lv : lnT g c l B (c.hr l + 1 - k) = hrT g c l B (lnT g c l B (c.hr l - k)) := by rw [show c.hr l + 1 - k = (c.hr l - k) + 1 by omega, lnT]
      cases z : thr g c l wt ce
      · rw [if_pos (show ((if false = true then 1 else 0 : Int32), h).1 = 0 from rfl)]
        dsimp only
        rw [gR_e hK7, a29.1, Option.bind_some, sI_e a29.2.1 a29.2.2 to2 (by omega), Option.bind_some, gR_e (h := putI _ _ _ _) hK7]
        rw [show (putI h (m + 13) to 0).R m 30 = some (m + 14) from a30.1, Option.bind_some, sI_e (h := putI _ _ _ _) a30.2.1 a30.2.2 to2 (by omega), Option.bind_some]
        have mtk := mk (by omega)
        have es : Ed (PS m) h (sp2 h m to 0 100000) := sp2_E
        obtain ⟨vv, v0, v1, v2⟩ := hdr wt hwt
        have hbit : ∃ e, e < 9 ∧ bt (g.dr wt) e = true := by
          rw [v2]
          exact drift_bit vv v1 v0
        obtain ⟨eb, eb1, eb2⟩ := hbit
        obtain ⟨h1, x1, x2, x3, x4, x5⟩ := m_st119 (fu := fu) (to := to) (dn := k - 1) (N := lnT g c l B (c.hr l - k)) (K := K + (c.hr l - k)) hg ok hl hce hl0 hwt (by omega) (by omega) (lnT_gp hg gB _) (by omega) 9 0 fu 0 1000000 false (sp2 h m to 0 100000) (by omega) (by omega) (rm.ed es) (by
          rw [show k - 1 + 2 = k + 1 by omega]
          intro i hi w hw
          have y := mtk i hi w hw
          unfold ER at y ⊢
          rw [sp2_1, sp2_2, if_neg (by omega), if_neg (by omega)]; exact y) (by omega) (by omega) (by rw [sp2_1, if_pos rfl]; rfl) (fun _ => rfl) (by rw [sp2_2, if_pos rfl]; decide) (Or.inr ⟨eb, by omega, eb1, eb2⟩)
        have e2 := Ed.tr es x2
        refine ⟨h1, x1, e2, fin h1 e2 ?_ ?_ ?_⟩
        · rw [x3, lv]; unfold hrT; rw [if_neg hl0, z]; rfl
        · rw [x4, lv]; unfold hrT; rw [if_neg hl0, z]; rfl
        · intro i hi
          rw [(x5 i hi).1, (x5 i hi).2, sp2_1, sp2_2, if_neg hi, if_neg hi]; exact ⟨rfl, rfl⟩
      · have lv2 : lnT g c l B (c.hr l + 1 - k) wt ce = B wt ce := by rw [lv]; unfold hrT; rw [if_neg hl0, if_pos z]
        obtain ⟨e1, e2⟩ := fin2 (cC (B wt ce).1) (cC (B wt ce).2) (by rw [lv2]) (by rw [lv2])
        refine ⟨_, ?_, e1, e2⟩
        rw [if_neg (show ¬ ((if true = true then 1 else 0 : Int32), h).1 = 0 from one_ne)]
        exact cp
end SING2
