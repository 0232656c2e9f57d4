/-! BYTES -/
theorem cnt32 : ∀ k, k < 32 → ((nI k).toUInt32 &&& Int32.toUInt32 31).toNat = k := by decide +kernel
theorem iush_bv (x : Int32) {k : Nat} (hk : k < 32) : (iush x (nI k)).toBitVec = x.toBitVec >>> k := by
  apply BitVec.eq_of_toNat_eq
  show (x.toUInt32 >>> ((nI k).toUInt32 &&& Int32.toUInt32 31)).toNat = _
  rw [UInt32.toNat_shiftRight, cnt32 k hk, Nat.mod_eq_of_lt hk, BitVec.toNat_ushiftRight]
  rfl
theorem bt_255 : ∀ i, i < 32 → bt 255 i = decide (i < 8) := by decide +kernel
def byt (w : Int32) (s : Nat) : Nat := ((w >>> (nI s &&& 31)) &&& 255).toBitVec.toNat
theorem byt_lt (w : Int32) (s : Nat) : byt w s < 256 := by
  unfold byt
  rw [Int32.toBitVec_and, BitVec.toNat_and]
  have : (255 : Int32).toBitVec.toNat = 255 := by decide
  rw [this]
  exact Nat.lt_succ_of_le Nat.and_le_right
theorem nI_bv (k : Nat) : (nI k).toBitVec = BitVec.ofNat 32 k := rfl
theorem byt_m (w : Int32) (s : Nat) : (w >>> (nI s &&& 31)) &&& 255 = nI (byt w s) := by
  apply Int32.toBitVec_inj.mp
  rw [nI_bv]
  unfold byt
  rw [BitVec.ofNat_toNat]
  simp
theorem byt_c (w : Int32) {s : Nat} (hs : s ≤ 24) : iush w (nI s) &&& 255 = nI (byt w s) := by
  rw [← byt_m]
  apply bt_ext
  intro i hi
  rw [bt_and, bt_and, bt_255 i hi]
  by_cases h8 : i < 8
  · rw [bt_sshr s (by omega) w hi, if_pos (by omega)]
    have : bt (iush w (nI s)) i = bt w (s + i) := by
      unfold bt
      rw [iush_bv w (by omega), BitVec.getLsbD_ushiftRight]
    rw [this]
  · simp [h8]
theorem nar_c : ∀ k, k < 256 → vp_nar .char (i2ch (nI k)) = nI k := by decide +kernel
def ap (tp : Nat → Nat) (tl b : Nat) : Nat → Nat := fun j => if j = tl then b else tp j
def apw (tp : Nat → Nat) (tl : Nat) (w : Int32) : Nat → Nat := ap (ap (ap (ap tp tl (byt w 24)) (tl + 1) (byt w 16)) (tl + 1 + 1) (byt w 8)) (tl + 1 + 1 + 1) (byt w 0)
section FEED
variable {x v fu : Nat}
theorem c_app1 {h : Hp} {tp : Nat → Nat} {tl : Nat} {fk fp w : Int32} (q : ReaderP h x tp tl fk fp) (ht : tl < 400) {s n : Nat} (hs : s ≤ 24) : ∃ h1, f_X3_append_3 fu (n + 1) (x + 8) w (nI s) h = f_X3_append_3 fu n (x + 8) w (nI s + (-8)) h1 ∧ ReaderP h1 x (ap tp tl (byt w s)) (tl + 1) fk fp ∧ Ed (fun b => b = x + 8 ∨ b = x + 9) h h1 := by
  obtain ⟨r1, r2, r3, r4, r5, r6, r7⟩ := q
  have e : Ed (fun b => b = x + 8 ∨ b = x + 9) h (putI (putI h (x + 9) tl (nI (byt w s))) (x + 8) 0 (nI (tl + 1))) := Ed.tr (Ed.pI (Or.inr rfl)) (Ed.pI (Or.inl rfl))
  refine ⟨putI (putI h (x + 9) tl (nI (byt w s))) (x + 8) 0 (nI (tl + 1)), ?_, ⟨r1, e.arr r2, by rw [putI_I, if_pos rfl, if_pos rfl], ?_, ?_, ?_, by omega⟩, e⟩
  · rw [f_X3_append_3, if_neg (nI_pos (by omega)), gI_e r1, Option.bind_some, r3, if_neg (l_nge (b := 400) ht (by decide)), gR_e r1, r2.1, Option.bind_some, Option.bind_some, byt_c w hs, nar_c _ (byt_lt w s), sI_e r2.2.1 r2.2.2 ht (by omega), Option.bind_some, gI_e (h := putI _ _ _ _) r1, Option.bind_some, putI_I, if_neg (by omega), r3, pI_e (h := putI _ _ _ _) r1, Option.bind_some, nI_1]
  · rw [putI_I, if_pos rfl, if_neg (by decide), putI_I, if_neg (by omega)]; exact r4
  · rw [putI_I, if_pos rfl, if_neg (by decide), putI_I, if_neg (by omega)]; exact r5
  · intro j hj
    rw [putI_I, if_neg (by omega), putI_I, if_pos rfl]
    unfold ap
    by_cases z : j = tl
    · rw [if_pos z, if_pos z]
    · rw [if_neg z, if_neg z]; exact r6 j (by omega)
theorem sh1 : nI 24 + (-8) = nI 16 := by decide
theorem sh2 : nI 16 + (-8) = nI 8 := by decide
theorem sh3 : nI 8 + (-8) = nI 0 := by decide
theorem sh4 : nI 0 + (-8) < 0 := by decide
theorem c_append {h : Hp} {tp : Nat → Nat} {tl : Nat} {fk fp : Int32} (q : ReaderP h x tp tl fk fp) (ht : tl + 4 ≤ 400) (hf : 20000 < fu) (w : Int32) : ∃ h1, f_X3_append fu (x + 8) w h = some ((), h1) ∧ ReaderP h1 x (apw tp tl w) (tl + 4) fk fp ∧ Ed (fun b => b = x + 8 ∨ b = x + 9) h h1 := by
  obtain ⟨n, rfl⟩ : ∃ n, fu = n + 1 + 1 + 1 + 1 + 1 := ⟨fu - 5, by omega⟩
  obtain ⟨h1, a1, a2, a3⟩ := c_app1 (fu := n + 1 + 1 + 1 + 1 + 1) (w := w) (n := n + 1 + 1 + 1 + 1) q (by omega) (show 24 ≤ 24 by omega)
  obtain ⟨h2, b1, b2, b3⟩ := c_app1 (fu := n + 1 + 1 + 1 + 1 + 1) (w := w) (n := n + 1 + 1 + 1) a2 (by omega) (show 16 ≤ 24 by omega)
  obtain ⟨h3, c1, c2, c3⟩ := c_app1 (fu := n + 1 + 1 + 1 + 1 + 1) (w := w) (n := n + 1 + 1) b2 (by omega) (show 8 ≤ 24 by omega)
  obtain ⟨h4, d1, d2, d3⟩ := c_app1 (fu := n + 1 + 1 + 1 + 1 + 1) (w := w) (n := n + 1) c2 (by omega) (show 0 ≤ 24 by omega)
  refine ⟨h4, ?_, d2, Ed.tr (Ed.tr (Ed.tr a3 b3) c3) d3⟩
  unfold f_X3_append
  rw [if_pos q.1]
  show f_X3_append_3 (n + 1 + 1 + 1 + 1 + 1) (n + 1 + 1 + 1 + 1 + 1) (x + 8) w (nI 24) h = _
  rw [a1, sh1, b1, sh2, c1, sh3, d1, f_X3_append_3, if_pos sh4]
theorem m_lay1 {h : Hp} {m : Nat} {g : Sg} {S : Int64} {hr : Nat} {cn : Int32} {c : Cg} {tp : Nat → Nat} {tl : Nat} {fk fp w : Int32} (q : ModP h m g S hr cn c tp tl fk fp) (ht : tl < 400) {s n : Nat} (hs : s ≤ 24) : ∃ h1, f_X7_lay_3 fu (n + 1) m w (nI s) h = f_X7_lay_3 fu n m w (nI s + (-8)) h1 ∧ ModP h1 m g S hr cn c (ap tp tl (byt w s)) (tl + 1) fk fp ∧ Ed (fun b => b = m ∨ b = m + 12) h h1 := by
  obtain ⟨d1, d2, d3, d4⟩ := q.2.2.2.2.2.2
  have a21 : arr h m 21 (m + 12) 8 400 := q.2.1.2.2.2.2.2.2.2.2.1
  have hK := q.1.K
  have e : Ed (fun b => b = m ∨ b = m + 12) h (putI (putI h (m + 12) tl (nI (byt w s))) m 22 (nI (tl + 1))) := Ed.tr (Ed.pI (Or.inr rfl)) (Ed.pI (Or.inl rfl))
  have oi : ∀ k, k ≠ 22 → (putI (putI h (m + 12) tl (nI (byt w s))) m 22 (nI (tl + 1))).I m k = h.I m k := fun k hk => by rw [putI_I, if_pos rfl, if_neg hk, putI_I, if_neg (by omega)]
  refine ⟨putI (putI h (m + 12) tl (nI (byt w s))) m 22 (nI (tl + 1)), ?_, q.tape e (fun k _ hk => oi k (by omega)) rfl ⟨by rw [putI_I, if_pos rfl, if_pos rfl], by rw [oi 27 (by decide)]; exact d2, by rw [oi 28 (by decide)]; exact d3, ?_⟩, e⟩
  · rw [f_X7_lay_3, if_neg (nI_pos (by omega)), gR_e hK, a21.1, Option.bind_some, gI_e hK, Option.bind_some, d1, byt_m, sI_e a21.2.1 a21.2.2 ht (by omega), Option.bind_some, gI_e (h := putI _ _ _ _) hK, Option.bind_some, putI_I, if_neg (by omega), d1, pI_e (h := putI _ _ _ _) hK, Option.bind_some, nI_1]
  · intro j hj
    rw [putI_I, if_neg (by omega), putI_I, if_pos rfl]
    unfold ap
    by_cases z : j = tl
    · rw [if_pos z, if_pos z]
    · rw [if_neg z, if_neg z]; exact d4 j (by omega)
theorem m_lay {h : Hp} {m : Nat} {g : Sg} {S : Int64} {hr : Nat} {cn : Int32} {c : Cg} {tp : Nat → Nat} {tl : Nat} {fk fp : Int32} (q : ModP h m g S hr cn c tp tl fk fp) (ht : tl + 4 ≤ 400) (hf : 20000 < fu) (w : Int32) : ∃ h1, f_X7_lay fu m w h = some ((), h1) ∧ ModP h1 m g S hr cn c (apw tp tl w) (tl + 4) fk fp ∧ Ed (fun b => b = m ∨ b = m + 12) h h1 := by
  obtain ⟨n, rfl⟩ : ∃ n, fu = n + 1 + 1 + 1 + 1 + 1 := ⟨fu - 5, by omega⟩
  obtain ⟨h1, a1, a2, a3⟩ := m_lay1 (fu := n + 1 + 1 + 1 + 1 + 1) (w := w) (n := n + 1 + 1 + 1 + 1) q (by omega) (show 24 ≤ 24 by omega)
  obtain ⟨h2, b1, b2, b3⟩ := m_lay1 (fu := n + 1 + 1 + 1 + 1 + 1) (w := w) (n := n + 1 + 1 + 1) a2 (by omega) (show 16 ≤ 24 by omega)
  obtain ⟨h3, c1, c2, c3⟩ := m_lay1 (fu := n + 1 + 1 + 1 + 1 + 1) (w := w) (n := n + 1 + 1) b2 (by omega) (show 8 ≤ 24 by omega)
  obtain ⟨h4, d1, d2, d3⟩ := m_lay1 (fu := n + 1 + 1 + 1 + 1 + 1) (w := w) (n := n + 1) c2 (by omega) (show 0 ≤ 24 by omega)
  refine ⟨h4, ?_, d2, Ed.tr (Ed.tr (Ed.tr a3 b3) c3) d3⟩
  unfold f_X7_lay
  rw [if_pos q.1.K]
  show f_X7_lay_3 (n + 1 + 1 + 1 + 1 + 1) (n + 1 + 1 + 1 + 1 + 1) m w (nI 24) h = _
  rw [a1, sh1, b1, sh2, c1, sh3, d1, f_X7_lay_3, if_pos sh4]
theorem ap_lt {tp : Nat → Nat} {tl b : Nat} (hb : b < 256) (h : ∀ j, j < tl → tp j < 256) : ∀ j, j < tl + 1 → ap tp tl b j < 256 := by
  intro j hj
  unfold ap
  by_cases z : j = tl
  · rw [if_pos z]; exact hb
  · rw [if_neg z]; exact h j (by omega)
theorem apw_lt {tp : Nat → Nat} {tl : Nat} {w : Int32} (h : ∀ j, j < tl → tp j < 256) : ∀ j, j < tl + 4 → apw tp tl w j < 256 := by
  unfold apw
  exact ap_lt (byt_lt _ _) (ap_lt (byt_lt _ _) (ap_lt (byt_lt _ _) (ap_lt (byt_lt _ _) h)))
theorem q_feed {h : Hp} (hW : Wd h x v) (hf : 20000 < fu) (a b d e f : Int32) : Tok x v (f_X6_feed fu x a b d e f) (f_X7_feed fu (x + 20) a b d e f) h := by
  obtain ⟨g, S, hr, cn, c, tp, tl, fk, fp, hC, hM, hR⟩ := hW
  obtain ⟨k1, k2, k3, k4, k5, k6, k7, k8, k9⟩ := cw_get hC
  obtain ⟨r1, r2, r3, r4, r5, r6, r7⟩ := id k9
  obtain ⟨w1, w2, w3, w4, w5, w6, w7⟩ := id hR
  have e20 : nI tl + 20 = nI (tl + 20) := l_add tl 20
  by_cases c1 : tl + 20 ≤ 400
  · refine glue (v' := v) (r := nI (tl + 4 + 4 + 4 + 4 + 4)) (g' := g) (S' := S) (hr' := hr) (cn' := cn) (c' := c) (tp' := apw (apw (apw (apw (apw tp tl a) (tl + 4) b) (tl + 4 + 4) d) (tl + 4 + 4 + 4) e) (tl + 4 + 4 + 4 + 4) f) (tl' := tl + 4 + 4 + 4 + 4 + 4) (fk' := fk) (fp' := fp) hM ?_ ?_ ⟨w1, w2, w3, w4, w5, apw_lt (apw_lt (apw_lt (apw_lt (apw_lt w6)))), by omega⟩ (by omega)
    · obtain ⟨h1, a1, a2, a3⟩ := c_append k9 (by omega) hf a
      obtain ⟨h2, b1, b2, b3⟩ := c_append a2 (by omega) hf b
      obtain ⟨h3, c1, c2, c3⟩ := c_append b2 (by omega) hf d
      obtain ⟨h4, d1, d2, d3⟩ := c_append c2 (by omega) hf e
      obtain ⟨h5, e1, e2, e3⟩ := c_append d2 (by omega) hf f
      have x2 := Ed.tr a3 b3
      have x3 := Ed.tr x2 c3
      have x4 := Ed.tr x3 d3
      have x5 := Ed.tr x4 e3
      have G : ∀ h', Ed (fun b => b = x + 8 ∨ b = x + 9) h h' → gR h' 6 x 1 = some (x + 8) := fun h' z => by rw [gR_e (by rw [z.2.1]; exact k1), z.2.2.2.1]; exact k3
      refine ⟨h5, ?_, hC.rd x5 e2, ed_out x5 (fun b hb => by omega)⟩
      unfold f_X6_feed
      rw [if_pos k1, gR_e k1, k3, Option.bind_some, gI_e r1, Option.bind_some, r3, e20, if_pos (l_le (b := 400) (by omega) (by decide)), Option.bind_some, a1, Option.bind_some]
      dsimp only
      rw [G h1 a3, Option.bind_some, b1, Option.bind_some]
      dsimp only
      rw [G h2 x2, Option.bind_some, c1, Option.bind_some]
      dsimp only
      rw [G h3 x3, Option.bind_some, d1, Option.bind_some]
      dsimp only
      rw [G h4 x4, Option.bind_some, e1, Option.bind_some]
      dsimp only
      rw [G h5 x5, Option.bind_some, gI_e e2.1, Option.bind_some, e2.2.2.1]
    · intro h0 q
      obtain ⟨h1, a1, a2, a3⟩ := m_lay q.t0 (by omega) hf a
      obtain ⟨h2, b1, b2, b3⟩ := m_lay a2 (by omega) hf b
      obtain ⟨h3, c1, c2, c3⟩ := m_lay b2 (by omega) hf d
      obtain ⟨h4, d1, d2, d3⟩ := m_lay c2 (by omega) hf e
      obtain ⟨h5, e1, e2, e3⟩ := m_lay d2 (by omega) hf f
      have x5 : Ed (fun b => b = x + 20 ∨ b = x + 20 + 12) h0 h5 := Ed.tr ((t0_E h0 (x + 20)).mono (fun b hb => Or.inl hb)) (Ed.tr (Ed.tr (Ed.tr (Ed.tr a3 b3) c3) d3) e3)
      refine ⟨h5, ?_, e2, x5.1, ed_inn x5 (fun b hb => by omega)⟩
      unfold f_X7_feed
      rw [if_pos q.1.K, pI_e q.1.K, Option.bind_some, gI_e (h := putI _ _ _ _) q.1.K, Option.bind_some]
      rw [show (putI h0 (x + 20) 0 0).I (x + 20) 22 = nI tl from q.t0.2.2.2.2.2.2.1, e20, if_pos (l_le (b := 400) (by omega) (by decide))]
      show (f_X7_lay fu (x + 20) a (t0 h0 (x + 20))).bind _ = _
      rw [a1, Option.bind_some]
      dsimp only
      rw [b1, Option.bind_some]
      dsimp only
      rw [c1, Option.bind_some]
      dsimp only
      rw [d1, Option.bind_some]
      dsimp only
      rw [e1, Option.bind_some]
      dsimp only
      rw [gI_e e2.1.K, Option.bind_some, e2.2.2.2.2.2.2.1]
  · refine glue0 (r := -1) hC hM hR ?_ ?_
    · unfold f_X6_feed
      rw [if_pos k1, gR_e k1, k3, Option.bind_some, gI_e r1, Option.bind_some, r3, e20, if_neg (l_nle (b := 400) (by omega) (by omega))]
    · intro h0 q
      unfold f_X7_feed
      rw [if_pos q.1.K, pI_e q.1.K, Option.bind_some, gI_e (h := putI _ _ _ _) q.1.K, Option.bind_some]
      rw [show (putI h0 (x + 20) 0 0).I (x + 20) 22 = nI tl from q.t0.2.2.2.2.2.2.1, e20, if_neg (l_nle (b := 400) (by omega) (by omega))]
      rfl
end FEED
