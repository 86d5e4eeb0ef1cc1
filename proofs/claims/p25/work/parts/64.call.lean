/-! PURE PART of p25: a call, and a tick (rows alone) -/
theorem gw_ad1 (x : Int32) (a : Nat) : x + nI a + 1 = x + nI (a + 1) := by rw [Int32.add_assoc, nI_1]
theorem gw_ad0 (x : Int32) : x + nI 0 = x := q_p0 x
/-- a row behind the note of a call -/
def gw_N (t p : Nat) (z y : Nat → Int32) : Prop := (∀ i, i < 332 → i ≠ 5 → i ≠ 6 → i ≠ 252 + p → i ≠ 292 + p → y i = z i) ∧ y 5 = z 5 + 1 ∧ (y 6 = z 6 ∨ y 6 = z 6 + 1) ∧ y (252 + p) = z (252 + p) + 1 ∧ y 332 = nI p ∧ (∃ d, y 344 = nI d ∧ d ≤ t) ∧ y 356 = nI t ∧ ∀ k, 1 ≤ k → k < 12 → y (332 + k) = z (332 + (k - 1)) ∧ y (344 + k) = z (344 + (k - 1)) ∧ y (356 + k) = z (356 + (k - 1))
theorem gw_note {t p d : Nat} {z : Nat → Int32} (hp : p < 40) (h0 : z 0 = nI t) (hd : z (12 + p) = nI d) (hdt : d ≤ t) : ∃ y, f_X10_noteCall (nI p) z = some y ∧ gw_N t p z y := by
  obtain ⟨z1, ⟨hz1, hz2⟩, e⟩ := q_noteCall hp z
  by_cases c : z 0 ≤ z (12 + p)
  · rw [if_pos c] at e
    refine ⟨_, e, fun i h1 h2 h3 h4 h5 => ?_, ?_, Or.inl ?_, ?_, ?_, ⟨d, ?_, hdt⟩, ?_, fun k k1 k2 => ?_⟩
    · unfold q_z2
      simp (disch := omega) only [pk_un]
      exact hz1 i h1
    · unfold q_z2
      simp (disch := omega) only [pk_un, pk_us]
    · unfold q_z2
      simp (disch := omega) only [pk_un]
      exact hz1 6 (by omega)
    · simp (disch := omega) only [pk_us]
    · unfold q_z2
      simp (disch := omega) only [pk_un, pk_us]
    · unfold q_z2
      simp (disch := omega) only [pk_un, pk_us]
      exact hd
    · unfold q_z2
      simp (disch := omega) only [pk_un, pk_us]
      exact h0
    · unfold q_z2
      simp (disch := omega) only [pk_un]
      exact hz2 k k1 k2
  · rw [if_neg c] at e
    refine ⟨_, e, fun i h1 h2 h3 h4 h5 => ?_, ?_, Or.inr ?_, ?_, ?_, ⟨d, ?_, hdt⟩, ?_, fun k k1 k2 => ?_⟩
    · unfold q_z2
      simp (disch := omega) only [pk_un]
      exact hz1 i h1
    · unfold q_z2
      simp (disch := omega) only [pk_un, pk_us]
    · simp (disch := omega) only [pk_un, pk_us]
    · simp (disch := omega) only [pk_un, pk_us]
    · unfold q_z2
      simp (disch := omega) only [pk_un, pk_us]
    · unfold q_z2
      simp (disch := omega) only [pk_un, pk_us]
      exact hd
    · unfold q_z2
      simp (disch := omega) only [pk_un, pk_us]
      exact h0
    · unfold q_z2
      simp (disch := omega) only [pk_un]
      exact hz2 k k1 k2
/-- a row as it is between ticks -/
def gw_I (n t : Nat) (z : Nat → Int32) : Prop := gw_B n t z ∧ gw_G (t + 1) (t / 8 + 1) (t / 64 + 1) t n z
/-- what a call makes of a row -/
def gw_C (n t p : Nat) (z z' : Nat → Int32) : Prop := gw_I n t z' ∧ z' 2 = z 2 ∧ z' 3 = z 3 ∧ z' 4 = z 4 ∧ z' 5 = z 5 + 1 ∧ (z' 6 = z 6 ∨ z' 6 = z 6 + 1) ∧ z' 332 = nI p ∧ (∃ d, z' 344 = nI d ∧ d ≤ t) ∧ z' 356 = nI t ∧ (∀ k, 1 ≤ k → k < 12 → z' (332 + k) = z (332 + (k - 1)) ∧ z' (344 + k) = z (344 + (k - 1)) ∧ z' (356 + k) = z (356 + (k - 1))) ∧ z' (252 + p) = z (252 + p) + 1 ∧ ∀ q, q < 40 → q ≠ p → z' (252 + q) = z (252 + q)
theorem gw_N.call {n t p : Nat} {z y w : Nat → Int32} (hN : gw_N t p z y) (hI : gw_I n t z) (hp : p < n) (hw : ∀ i, i ≠ 9 → i ≠ 11 → i ≠ 12 + p → i ≠ 92 + p → i ≠ 132 + p → i ≠ 172 + p → i ≠ 212 + p → w i = y i) (hP : gw_P (t + 1) (t / 8 + 1) (t / 64 + 1) t w p) (hL : ∃ q m, w (52 + p) = nI q ∧ w (92 + p) = nI m ∧ q ≤ 511 ∧ m ≤ 99 ∧ (m ≠ 0 → q ≠ 0)) : gw_C n t p z w := by
  obtain ⟨⟨h0, h1, h2, h3, h4, h5, h6⟩, hG⟩ := hI
  obtain ⟨a1, a2, a3, a4, a5, a6, a7, a8⟩ := hN
  have e : ∀ i, i < 332 → i ≠ 5 → i ≠ 6 → i ≠ 252 + p → i ≠ 292 + p → i ≠ 9 → i ≠ 11 → i ≠ 12 + p → i ≠ 92 + p → i ≠ 132 + p → i ≠ 172 + p → i ≠ 212 + p → w i = z i := fun i b1 b2 b3 b4 b5 b6 b7 b8 b9 b10 b11 b12 => (hw i b6 b7 b8 b9 b10 b11 b12).trans (a1 i b1 b2 b3 b4 b5)
  have e2 := e 2 (by omega) (by omega) (by omega) (by omega) (by omega) (by omega) (by omega) (by omega) (by omega) (by omega) (by omega) (by omega)
  have e3 := e 3 (by omega) (by omega) (by omega) (by omega) (by omega) (by omega) (by omega) (by omega) (by omega) (by omega) (by omega) (by omega)
  refine ⟨⟨⟨?_, ?_, h2, h3, by rw [e2]; exact h4, by rw [e3]; exact h5, fun q hq => ?_⟩, ?_⟩, e2, e3, ?_, ?_, ?_, ?_, ?_, ?_, fun k k1 k2 => ?_, ?_, fun q hq hne => ?_⟩
  · exact (e 0 (by omega) (by omega) (by omega) (by omega) (by omega) (by omega) (by omega) (by omega) (by omega) (by omega) (by omega) (by omega)).trans h0
  · exact (e 1 (by omega) (by omega) (by omega) (by omega) (by omega) (by omega) (by omega) (by omega) (by omega) (by omega) (by omega) (by omega)).trans h1
  · by_cases y : q = p
    · subst y
      exact hL
    · rw [e (52 + q) (by omega) (by omega) (by omega) (by omega) (by omega) (by omega) (by omega) (by omega) (by omega) (by omega) (by omega) (by omega), e (92 + q) (by omega) (by omega) (by omega) (by omega) (by omega) (by omega) (by omega) (by omega) (by omega) (by omega) (by omega) (by omega)]
      exact h6 q hq
  · refine hG.one (p := p) h2 (fun q hq y => ⟨?_, ?_, ?_⟩) (fun _ => hP)
    · exact e (172 + q) (by omega) (by omega) (by omega) (by omega) (by omega) (by omega) (by omega) (by omega) (by omega) (by omega) (by omega) (by omega)
    · exact e (132 + q) (by omega) (by omega) (by omega) (by omega) (by omega) (by omega) (by omega) (by omega) (by omega) (by omega) (by omega) (by omega)
    · exact e (12 + q) (by omega) (by omega) (by omega) (by omega) (by omega) (by omega) (by omega) (by omega) (by omega) (by omega) (by omega) (by omega)
  · exact e 4 (by omega) (by omega) (by omega) (by omega) (by omega) (by omega) (by omega) (by omega) (by omega) (by omega) (by omega) (by omega)
  · rw [hw 5 (by omega) (by omega) (by omega) (by omega) (by omega) (by omega) (by omega)]
    exact a2
  · rw [hw 6 (by omega) (by omega) (by omega) (by omega) (by omega) (by omega) (by omega)]
    exact a3
  · rw [hw 332 (by omega) (by omega) (by omega) (by omega) (by omega) (by omega) (by omega)]
    exact a5
  · rw [hw 344 (by omega) (by omega) (by omega) (by omega) (by omega) (by omega) (by omega)]
    exact a6
  · rw [hw 356 (by omega) (by omega) (by omega) (by omega) (by omega) (by omega) (by omega)]
    exact a7
  · rw [hw (332 + k) (by omega) (by omega) (by omega) (by omega) (by omega) (by omega) (by omega), hw (344 + k) (by omega) (by omega) (by omega) (by omega) (by omega) (by omega) (by omega), hw (356 + k) (by omega) (by omega) (by omega) (by omega) (by omega) (by omega) (by omega)]
    exact a8 k k1 k2
  · rw [hw (252 + p) (by omega) (by omega) (by omega) (by omega) (by omega) (by omega) (by omega)]
    exact a4
  · rw [hw (252 + q) (by omega) (by omega) (by omega) (by omega) (by omega) (by omega) (by omega)]
    exact a1 (252 + q) (by omega) (by omega) (by omega) (by omega) (by omega)
/-- the due of a repetition -/
theorem gw_rep {d t q : Nat} (hdt : d ≤ t) (ht : t ≤ 25000) (h1 : 1 ≤ q) (h2 : q ≤ 511) : ∃ d', nI d + ((nI t - nI d) / nI q + 1) * nI q = nI d' ∧ t < d' ∧ d' ≤ t + 511 := by
  refine ⟨d + ((t - d) / q + 1) * q, ?_, ?_⟩
  · rw [pk_sub hdt, pk_div (by omega) (by omega) (by omega), nI_1, pk_mul, nI_add]
  · have a1 := Nat.div_add_mod (t - d) q
    have a2 := Nat.mod_lt (t - d) h1
    rw [Nat.add_mul, Nat.one_mul, Nat.mul_comm ((t - d) / q) q]
    omega
theorem gw_156 {n t p d : Nat} {W : Nat → Int32} (hp : p < 40) (h0 : W 0 = nI t) (hd : W (12 + p) = nI d) (htd : t ≤ d) (hd2 : d < 2 ^ 30) : f_X10_callOne_156 (nI p) W = some (upd (upd (upd (upd W (132 + p) 0) (172 + p) (nI (gw_j d t))) (212 + p) (W 11)) 11 (W 11 + 1)) := by
  unfold f_X10_callOne_156
  have h := gw_dist (z := upd W (132 + p) 0) htd hd2 hp (by simp (disch := omega) only [pk_un]; exact hd) (by simp (disch := omega) only [pk_un]; exact h0)
  rw [pk_un (show 11 ≠ 132 + p by omega)] at h
  simp (disch := omega) only [q_a132, q_ck, q_cl, zk_let, h, Option.bind_some]
theorem gw_call {n t p : Nat} {z : Nat → Int32} (hI : gw_I n t z) (hp : p < n) (h24 : z (172 + p) = nI 24) (h3 : z (132 + p) ≠ 3) : q_po (fun z' => gw_C n t p z z') (f_X10_callOne (nI p) z) := by
  have hB := hI.1
  have hn := hB.2.2.1
  have ht := hB.2.2.2.1
  have hp4 : p < 40 := by omega
  obtain ⟨wc, sc, due, g1, g2, g3, g4⟩ := hI.2 p hp
  have ew : wc = 24 := (gw_eq g4.2.1 (by omega)).mp (g1.symm.trans h24)
  subst ew
  have hdt : due ≤ t := (g4.2.2.2.2.1 rfl).2
  obtain ⟨q, m, b1, b2, b3, b4, b5⟩ := hB.2.2.2.2.2.2 p hp
  obtain ⟨y, e, hN⟩ := gw_note hp4 hB.1 g3 hdt
  have y1 := hN.1
  have e92 : y (92 + p) = nI m := (y1 (92 + p) (by omega) (by omega) (by omega) (by omega) (by omega)).trans b2
  have e52 : y (52 + p) = nI q := (y1 (52 + p) (by omega) (by omega) (by omega) (by omega) (by omega)).trans b1
  have e12 : y (12 + p) = nI due := (y1 (12 + p) (by omega) (by omega) (by omega) (by omega) (by omega)).trans g3
  have e0 : y 0 = nI t := (y1 0 (by omega) (by omega) (by omega) (by omega) (by omega)).trans hB.1
  rw [q_tail_e, e, Option.bind_some]
  by_cases hm0 : m = 0
  · subst hm0
    have k : q_tail (nI p) y = some (upd (upd y (132 + p) 2) (172 + p) (-1)) := by
      unfold q_tail
      simp (disch := omega) only [q_a92, q_ck, q_cl, e92, show nI 0 = 0 from nI_0, ↓reduceIte, q_a132, q_a172, zk_let]
    rw [k]
    refine q_po.some (hN.call hI hp (fun i c1 c2 c3 c4 c5 c6 c7 => ?_) ⟨25, 2, due, ?_, ?_, ?_, ?_⟩ ⟨q, 0, ?_, ?_, b3, by omega, fun w => absurd rfl w⟩)
    · simp (disch := omega) only [pk_un]
    · simp (disch := omega) only [pk_us]
      rfl
    · simp (disch := omega) only [pk_un, pk_us]
      rfl
    · simp (disch := omega) only [pk_un]
      exact e12
    · exact ⟨by omega, by omega, by omega, fun w => by omega, fun w => by omega, fun _ => Or.inl rfl, fun w => by omega, fun w => by omega, fun w => by omega⟩
    · simp (disch := omega) only [pk_un]
      exact e52
    · simp (disch := omega) only [pk_un]
      exact e92
  · have c2 : ¬ nI m = 0 := nI_ne0 (by omega) (by omega)
    have hq0 := b5 hm0
    have em : nI m - 1 = nI (m - 1) := by
      rw [show m = m - 1 + 1 by omega]
      exact nI_pred _
    have fin : ∀ (W : Nat → Int32) (d : Nat), t < d → d ≤ t + 511 → (∀ i, i ≠ 9 → i ≠ 12 + p → i ≠ 92 + p → W i = y i) → W (12 + p) = nI d → W (92 + p) = nI (m - 1) → q_po (fun z' => gw_C n t p z z') (f_X10_callOne_156 (nI p) W) := by
      intro W d d1 d2 hW hWd hWl
      rw [gw_156 (n := n) (t := t) (d := d) hp4 ((hW 0 (by omega) (by omega) (by omega)).trans e0) hWd (by omega) (by omega)]
      have hj := gw_j24 d t
      refine q_po.some (hN.call hI hp (fun i c1 c2 c3 c4 c5 c6 c7 => ?_) ⟨gw_j d t, 0, d, ?_, ?_, ?_, gw_j_at (by omega) d2 (fun _ => by omega) (fun _ _ => by omega) (fun _ => by omega)⟩ ⟨q, m - 1, ?_, ?_, b3, by omega, fun _ => hq0⟩)
      · simp (disch := omega) only [pk_un]
        exact hW i c1 c3 c4
      · simp (disch := omega) only [pk_un, pk_us]
        exact (gw_cn (by omega)).symm
      · simp (disch := omega) only [pk_un, pk_us]
        rfl
      · simp (disch := omega) only [pk_un]
        exact hWd
      · simp (disch := omega) only [pk_un]
        exact (hW (52 + p) (by omega) (by omega) (by omega)).trans e52
      · simp (disch := omega) only [pk_un]
        exact hWl
    by_cases c4 : y 4 = 1
    · have k : q_tail (nI p) y = f_X10_callOne_156 (nI p) (upd (upd y (92 + p) (nI (m - 1))) (12 + p) (nI (t + q))) := by
        unfold q_tail
        simp only [zk_let]
        simp (disch := omega) only [q_a92, q_ck, q_cl, e92, if_neg c2, em, q_n4, q_k4, pk_un, c4, ↓reduceIte, q_n0, q_k0, q_a52, q_a12, e0, e52, nI_add]
      rw [k]
      refine fin _ (t + q) (by omega) (by omega) (fun i c1 c2 c3 => ?_) ?_ ?_
      · simp (disch := omega) only [pk_un]
      · simp (disch := omega) only [pk_us]
      · simp (disch := omega) only [pk_un, pk_us]
    · obtain ⟨d', r1, r2, r3⟩ := gw_rep (d := due) (t := t) (q := q) hdt ht (by omega) b3
      have cq2 : ¬ nI q = 0 := nI_ne0 (by omega) (by omega)
      have k : ∃ x, q_tail (nI p) y = f_X10_callOne_156 (nI p) (upd (upd (upd y (92 + p) (nI (m - 1))) (12 + p) (nI d')) 9 x) := by
        refine ⟨y 9 + ((nI t - nI due) / nI q + 1 - 1), ?_⟩
        unfold q_tail zk_dv
        simp only [zk_let]
        simp (disch := omega) only [q_a92, q_ck, q_cl, e92, if_neg c2, em, q_n4, q_k4, pk_un, if_neg c4, q_n0, q_k0, q_a52, q_a12, e0, e52, e12, if_neg cq2, r1, q_n9, q_k9]
      obtain ⟨x, k⟩ := k
      rw [k]
      refine fin _ d' r2 r3 (fun i c1 c2 c3 => ?_) ?_ ?_
      · simp (disch := omega) only [pk_un]
      · simp (disch := omega) only [pk_un, pk_us]
      · simp (disch := omega) only [pk_un, pk_us]
/-! the calls of a tick -/
def gw_Ka (n t a : Nat) (z z' : Nat → Int32) : Prop := gw_I n t z' ∧ z' 2 = z 2 ∧ z' 3 = z 3 ∧ z' 4 = z 4 ∧ z' 5 = z 5 + nI a ∧ (∃ b, b ≤ a ∧ z' 6 = z 6 + nI b) ∧ (∀ k, k < a → k < 12 → (∃ p, p < n ∧ z' (332 + k) = nI p) ∧ (∃ d, z' (344 + k) = nI d ∧ d ≤ t) ∧ z' (356 + k) = nI t) ∧ ∀ p, p < n → ∃ e, e ≤ a ∧ z' (252 + p) = z (252 + p) + nI e ∧ (a ≤ 12 → (e = 0 ↔ ∀ k, k < a → z' (332 + k) ≠ nI p))
def gw_K (n t : Nat) (z z' : Nat → Int32) : Prop := ∃ a r, z 2 = nI r ∧ r ≤ 20 ∧ a ≤ r ∧ gw_Ka n t a z z'
theorem gw_Ka.refl {n t : Nat} {z : Nat → Int32} (h : gw_I n t z) : gw_Ka n t 0 z z := ⟨h, rfl, rfl, rfl, (gw_ad0 _).symm, ⟨0, by omega, (gw_ad0 _).symm⟩, fun k hk => absurd hk (Nat.not_lt_zero k), fun p hp => ⟨0, by omega, (gw_ad0 _).symm, fun _ => ⟨fun _ k hk => absurd hk (Nat.not_lt_zero k), fun _ => rfl⟩⟩⟩
theorem gw_Ka.fr {n t a : Nat} {z y y' : Nat → Int32} (h : gw_Ka n t a z y) (f : gw_fr y y') (hG : gw_G (t + 1) (t / 8 + 1) (t / 64 + 1) t n y') : gw_Ka n t a z y' := by
  obtain ⟨hI, h2, h3, h4, h5, h6, h7, h8⟩ := h
  have hn := hI.1.2.2.1
  refine ⟨⟨hI.1.fr f, hG⟩, (f 2 (by omega)).trans h2, (f 3 (by omega)).trans h3, (f 4 (by omega)).trans h4, (f 5 (by omega)).trans h5, ?_, fun k k1 k2 => ?_, fun p hp => ?_⟩
  · rw [f 6 (by omega)]
    exact h6
  · rw [f (332 + k) (by omega), f (344 + k) (by omega), f (356 + k) (by omega)]
    exact h7 k k1 k2
  · obtain ⟨e, e1, e2, e3⟩ := h8 p hp
    refine ⟨e, e1, (f (252 + p) (by omega)).trans e2, fun ha => ?_⟩
    rw [e3 ha]
    exact ⟨fun w k hk => by rw [f (332 + k) (by omega)]; exact w k hk, fun w k hk => by rw [← f (332 + k) (by omega)]; exact w k hk⟩
theorem gw_Ka.call {n t a p : Nat} {z y y' : Nat → Int32} (h : gw_Ka n t a z y) (hp : p < n) (hc : gw_C n t p y y') : gw_Ka n t (a + 1) z y' := by
  obtain ⟨hI, h2, h3, h4, h5, ⟨b, hb, h6⟩, h7, h8⟩ := h
  obtain ⟨c1, c2, c3, c4, c5, c6, c7, c8, c9, c10, c11, c12⟩ := hc
  have hn := hI.1.2.2.1
  refine ⟨c1, c2.trans h2, c3.trans h3, c4.trans h4, ?_, ?_, fun k k1 k2 => ?_, fun q hq => ?_⟩
  · rw [c5, h5, gw_ad1]
  · rcases c6 with c6 | c6
    · exact ⟨b, by omega, c6.trans h6⟩
    · exact ⟨b + 1, by omega, by rw [c6, h6, gw_ad1]⟩
  · by_cases k0 : k = 0
    · subst k0
      exact ⟨⟨p, hp, c7⟩, c8, c9⟩
    · obtain ⟨d1, d2, d3⟩ := c10 k (by omega) k2
      rw [d1, d2, d3]
      exact h7 (k - 1) (by omega) (by omega)
  · obtain ⟨e, e1, e2, e3⟩ := h8 q hq
    by_cases y : q = p
    · subst y
      refine ⟨e + 1, by omega, by rw [c11, e2, gw_ad1], fun _ => ⟨fun w => by omega, fun w => absurd c7 (w 0 (by omega))⟩⟩
    · refine ⟨e, by omega, (c12 q (by omega) y).trans e2, fun ha => ?_⟩
      rw [e3 (by omega)]
      constructor
      · intro w k hk
        by_cases k0 : k = 0
        · subst k0
          exact fun v => y ((nI_eq (by omega) (by omega)).mp (v.symm.trans c7))
        · rw [(c10 k (by omega) (by omega)).1]
          exact w (k - 1) (by omega)
      · intro w k hk
        have := w (k + 1) (by omega)
        rw [(c10 (k + 1) (by omega) (by omega)).1] at this
        exact this
theorem gw_some {n t : Nat} {z : Nat → Int32} (hI : gw_I n t z) : q_po (fun z' => gw_K n t z z') (f_X10_callSome z) := by
  have hn := hI.1.2.2.1
  obtain ⟨r, hr, hr1, hr2⟩ := hI.1.2.2.2.2.1
  unfold f_X10_callSome
  obtain ⟨f, k1, k2⟩ := gw_front hI.1.2.1 hn 24
  rw [k1, Option.bind_some]
  refine q_po.fx (N := zk_N) (fun _ (s : Int32 × Int32 × (Nat → Int32)) => ∃ a, a ≤ r ∧ s.1 = nI a ∧ gw_Ka n t a z s.2.2 ∧ ((s.2.1 = -1 ∧ ∀ p, p < n → s.2.2 (172 + p) ≠ 24) ∨ ∃ p, p < n ∧ s.2.1 = nI p ∧ s.2.2 (172 + p) = 24)) ?_ zk_N 0 (0, f, z) (by omega) ⟨0, by omega, rfl, gw_Ka.refl hI, k2⟩
  clear k1 k2
  intro kk mm s _ hi hk
  obtain ⟨x1, x2, y⟩ := s
  obtain ⟨a, ha, e1, hK, hf⟩ := hi
  dsimp only at e1 hK hf
  subst e1
  have hIy := hK.1
  have again : ∀ (a' : Nat) (y' : Nat → Int32), a' ≤ r → gw_Ka n t a' z y' → q_po (fun z' => gw_K n t z z') (f_X10_callSome_53 kk (nI a') y') := by
    intro a' y' ha' hK'
    unfold f_X10_callSome_53
    obtain ⟨f', k1', k2'⟩ := gw_front hK'.1.1.2.1 hn 24
    rw [k1', Option.bind_some]
    exact hk _ ⟨a', ha', rfl, hK', k2'⟩
  unfold F_X10_callSome_9
  dsimp only
  rcases hf with ⟨rfl, -⟩ | ⟨p, hp, rfl, hp24⟩
  · rw [if_pos (by decide)]
    exact q_po.some ⟨a, r, hr, hr2, ha, hK⟩
  · have hp4 : p < 40 := by omega
    rw [if_neg (nI_pos (n := p) (by omega)), q_k2, q_n2, hK.2.1, hr]
    by_cases har : r ≤ a
    · rw [if_pos (nI_le har (by omega))]
      exact q_po.some ⟨a, r, hr, hr2, ha, hK⟩
    · rw [if_neg (nI_ge (by omega) (by omega))]
      simp (disch := omega) only [q_a132, q_ck, q_cl]
      by_cases h3 : y (132 + p) = 3
      · rw [if_pos h3, q_sweepOne hp4, Option.bind_some]
        exact again a _ ha (hK.fr (gw_fr.swept hp4 _) (hIy.2.swept hn hp4 _))
      · rw [if_neg h3]
        refine q_po.bind (fun z' => gw_C n t p y z') (gw_call hIy hp hp24 h3) (fun y' hc => ?_)
        rw [nI_1]
        exact again (a + 1) y' (by omega) (hK.call hp hc)
/-! a tick -/
theorem gw_G.up2 {a b c t n : Nat} {z : Nat → Int32} (h : gw_G a b c t n z) (hx : ∀ p, p < n → z (172 + p) ≠ nI (16 + c % 8)) : gw_G a b (c + 1) t n z := by
  intro p hp
  obtain ⟨wc, sc, due, h1, h2, h3, i1, i2, i3, i4, i5, i6, i7, i8, i9⟩ := h p hp
  refine ⟨wc, sc, due, h1, h2, h3, i1, i2, i3, i4, i5, i6, i7, i8, fun w => ?_⟩
  have hne : wc ≠ 16 + c % 8 := fun v => hx p hp (by rw [h1, gw_cn (by omega), v])
  have := i9 w
  omega
theorem gw_G.up1 {a b c t n : Nat} {z : Nat → Int32} (h : gw_G a b c t n z) (hx : ∀ p, p < n → z (172 + p) ≠ nI (8 + b % 8)) : gw_G a (b + 1) c t n z := by
  intro p hp
  obtain ⟨wc, sc, due, h1, h2, h3, i1, i2, i3, i4, i5, i6, i7, i8, i9⟩ := h p hp
  refine ⟨wc, sc, due, h1, h2, h3, i1, i2, i3, i4, i5, i6, i7, fun w => ?_, i9⟩
  have hne : wc ≠ 8 + b % 8 := fun v => hx p hp (by rw [h1, gw_cn (by omega), v])
  have := i8 w
  omega
theorem gw_G.up0 {a b c t n : Nat} {z : Nat → Int32} (h : gw_G a b c t n z) (hx : ∀ p, p < n → z (172 + p) ≠ nI (a % 8)) : gw_G (a + 1) b c t n z := by
  intro p hp
  obtain ⟨wc, sc, due, h1, h2, h3, i1, i2, i3, i4, i5, i6, i7, i8, i9⟩ := h p hp
  refine ⟨wc, sc, due, h1, h2, h3, i1, i2, i3, i4, i5, i6, fun w => ?_, i8, i9⟩
  have hne : wc ≠ a % 8 := fun v => hx p hp (by rw [h1, gw_cn (by omega), v])
  have := i7 w
  omega
theorem gw_K.pre {n t : Nat} {x z z' : Nat → Int32} (h : gw_K n t z z') (hn : n ≤ 40) (e : ∀ i, 2 ≤ i ∧ i < 7 ∨ 252 ≤ i ∧ i < 292 → z i = x i) : gw_K n t x z' := by
  obtain ⟨a, r, h1, h2, h3, k1, k2, k3, k4, k5, ⟨b, hb, k6⟩, k7, k8⟩ := h
  refine ⟨a, r, (e 2 (by omega)).symm.trans h1, h2, h3, k1, k2.trans (e 2 (by omega)), k3.trans (e 3 (by omega)), k4.trans (e 4 (by omega)), ?_, ⟨b, hb, ?_⟩, k7, fun p hp => ?_⟩
  · rw [k5, e 5 (by omega)]
  · rw [k6, e 6 (by omega)]
  · obtain ⟨d, d1, d2, d3⟩ := k8 p hp
    exact ⟨d, d1, by rw [d2, e (252 + p) (by omega)], d3⟩
theorem gw_K.post {n t : Nat} {z y y' : Nat → Int32} (h : gw_K n t z y) (f : gw_fr y y') (hG : gw_G (t + 1) (t / 8 + 1) (t / 64 + 1) t n y') : gw_K n t z y' := by
  obtain ⟨a, r, h1, h2, h3, k⟩ := h
  exact ⟨a, r, h1, h2, h3, k.fr f hG⟩
/-- what a tick makes of a row -/
def gw_T (n t : Nat) (z z' : Nat → Int32) : Prop := gw_K n t z z' ∧ ¬ z' 3 < nI (q_cn (fun q => decide (z' (132 + q) = 3)) n)
theorem gw_108 {n t : Nat} {z y : Nat → Int32} (hK : gw_K n t z y) (hb : ¬ y 3 < nI (q_cn (fun q => decide (y (132 + q) = 3)) n)) : q_po (fun z' => gw_T n t z z') (f_X10_tick_108 y) := by
  obtain ⟨a, r, -, -, -, k⟩ := id hK
  have hI := k.1
  have hn := hI.1.2.2.1
  have fin : ∀ v, q_po (fun z' => gw_T n t z z') (f_X10_tick_143 10 v y) := by
    intro v
    unfold f_X10_tick_143
    rw [q_k10, q_n10]
    simp only [zk_let]
    refine q_po.some ⟨hK.post (fun i hi => by simp (disch := omega) only [pk_un]) (fun p hp => ?_), ?_⟩
    · exact (hI.2 p hp).cong (by simp (disch := omega) only [pk_un]) (by simp (disch := omega) only [pk_un]) (by simp (disch := omega) only [pk_un])
    · rw [pk_un (by omega), show q_cn (fun q => decide (upd y 10 v (132 + q) = 3)) n = q_cn (fun q => decide (y (132 + q) = 3)) n from q_cn_cong n (fun q hq => by simp (disch := omega) only [pk_un])]
      exact hb
  unfold f_X10_tick_108
  rw [q_many hI.1.2.1 hn, Option.bind_some, q_k10, q_n10]
  refine q_po.ite ?_ (fin _)
  rw [q_k10]
  exact fin _
theorem gw_72 {n t : Nat} {z y : Nat → Int32} (hB : gw_B n t y) (hG : gw_G t (t / 8 + 1) (t / 64 + 1) t n y) (e : ∀ i, 2 ≤ i ∧ i < 7 ∨ 252 ≤ i ∧ i < 292 → y i = z i) : q_po (fun z' => gw_T n t z z') (f_X10_tick_72 y) := by
  have hn := hB.2.2.1
  have ht := hB.2.2.2.1
  unfold f_X10_tick_72
  rw [q_k0, q_n0, hB.1, q_rem8 (by omega)]
  refine q_po.bind _ (gw_ready (x := t % 8) hB hG (by omega) (fun due h => ?_)) (fun y1 h1 => ?_)
  · have := h.2.2.2.2.2.2.1 (by omega)
    omega
  · obtain ⟨g1, g2, g3⟩ := h1
    have hI1 : gw_I n t y1 := ⟨hB.fr g2, g1.up0 g3⟩
    refine q_po.bind _ (gw_some hI1) (fun y2 h2 => ?_)
    have hK2 : gw_K n t z y2 := h2.pre hn (fun i hi => (g2 i (by omega)).trans (e i hi))
    obtain ⟨a, r, -, -, -, k⟩ := id h2
    rw [q_inState k.1.1.2.1 hn 3, Option.bind_some, q_k3, q_n3]
    by_cases c : nI (q_cn (fun q => decide (y2 (132 + q) = 3)) n) ≤ y2 3
    · rw [if_pos c]
      exact gw_108 hK2 (Int32.not_lt.mpr c)
    · rw [if_neg c]
      refine q_po.bind _ (gw_sweep k.1.1 k.1.2) (fun y3 h3 => ?_)
      obtain ⟨-, s1, s2, s3⟩ := h3
      refine gw_108 (hK2.post s2 s1) ?_
      rw [gw_cnz n (fun q hq => decide_eq_false (s3 q hq)), s2 3 (by omega)]
      exact k.1.1.2.2.2.2.2.1
theorem gw_41 {n t : Nat} {z y : Nat → Int32} (hB : gw_B n (t + 1) y) (hG : gw_G (t + 1) (t / 8 + 1) ((t + 1) / 64 + 1) (t + 1) n y) (e : ∀ i, 2 ≤ i ∧ i < 7 ∨ 252 ≤ i ∧ i < 292 → y i = z i) : q_po (fun z' => gw_T n (t + 1) z z') (f_X10_tick_41 y) := by
  have hn := hB.2.2.1
  have ht := hB.2.2.2.1
  unfold f_X10_tick_41
  rw [q_k0, q_n0, hB.1, q_rem8 (by omega), q_k0]
  by_cases c : (t + 1) % 8 = 0
  · rw [if_pos (by rw [c]; rfl), q_div8 (by omega), q_rem8 (by omega), q_a8]
    refine q_po.bind _ (gw_fall (x := 8 + (t + 1) / 8 % 8) hB hG (by omega) (fun due h => ?_)) (fun y1 h1 => ?_)
    · have h8 := h.2.2.2.2.2.2.2.1 (by omega)
      have h9 := h.2.2.1
      have hd : t + 1 ≤ due ∧ due < t + 9 := by omega
      refine ⟨hd.1, gw_j_at hd.1 h9 (fun _ => by omega) (fun _ _ => by omega) (fun _ => by omega), ?_⟩
      unfold gw_j
      rw [if_pos (by omega)]
      omega
    · obtain ⟨g1, g2, g3⟩ := h1
      refine gw_72 (hB.fr g2) ?_ (fun i hi => (g2 i (by omega)).trans (e i hi))
      have := g1.up1 (by rw [show t / 8 + 1 = (t + 1) / 8 by omega]; exact g3)
      rw [show t / 8 + 1 = (t + 1) / 8 by omega] at this
      exact this
  · rw [if_neg (show ¬ nI ((t + 1) % 8) = 0 from fun w => c ((nI_eq (b := 0) (by omega) (by omega)).mp w))]
    refine gw_72 hB ?_ e
    rw [show (t + 1) / 8 = t / 8 by omega]
    exact hG
theorem gw_tick {n t : Nat} {z : Nat → Int32} (hI : gw_I n t z) (ht : t < 25000) : q_po (fun z' => gw_T n (t + 1) z z') (f_X10_tick z) := by
  obtain ⟨hB, hG⟩ := hI
  have hn := hB.2.2.1
  have hB1 : gw_B n (t + 1) (upd z 0 (nI (t + 1))) := by
    obtain ⟨h0, h1, h2, h3, h4, h5, h6⟩ := hB
    refine ⟨pk_us, ?_, h2, by omega, ?_, ?_, fun p hp => ?_⟩
    · rw [pk_un (by omega)]
      exact h1
    · rw [pk_un (by omega)]
      exact h4
    · rw [pk_un (by omega)]
      exact h5
    · rw [pk_un (by omega), pk_un (by omega)]
      exact h6 p hp
  have hG1 : gw_G (t + 1) (t / 8 + 1) (t / 64 + 1) (t + 1) n (upd z 0 (nI (t + 1))) := by
    intro p hp
    obtain ⟨wc, sc, due, h1, h2, h3, i1, i2, i3, i4, i5, i6, i7⟩ := hG p hp
    refine ⟨wc, sc, due, ?_, ?_, ?_, i1, i2, by omega, i4, fun w => ⟨(i5 w).1, by have := (i5 w).2; omega⟩, i6, i7⟩
    · rw [pk_un (by omega)]
      exact h1
    · rw [pk_un (by omega)]
      exact h2
    · rw [pk_un (by omega)]
      exact h3
  have he : ∀ i, 2 ≤ i ∧ i < 7 ∨ 252 ≤ i ∧ i < 292 → upd z 0 (nI (t + 1)) i = z i := fun i hi => pk_un (by omega)
  unfold f_X10_tick
  simp only [zk_let, q_k0, q_n0, hB.1, nI_1, pk_us]
  rw [q_rem64 (by omega)]
  by_cases c : (t + 1) % 64 = 0
  · rw [if_pos (by rw [c]; rfl), q_div64 (by omega), q_rem8 (by omega), q_a16]
    refine q_po.bind _ (gw_fall (x := 16 + (t + 1) / 64 % 8) hB1 hG1 (by omega) (fun due h => ?_)) (fun y1 h1 => ?_)
    · have h8 := h.2.2.2.2.2.2.2.2 (by omega)
      have h9 := h.2.2.1
      have hd : t + 1 ≤ due ∧ due < t + 65 := by omega
      refine ⟨hd.1, gw_j_at hd.1 h9 (fun _ => by omega) (fun _ _ => by omega) (fun _ => by omega), ?_⟩
      unfold gw_j
      split
      · omega
      · rw [if_pos (by omega)]
        omega
    · obtain ⟨g1, g2, g3⟩ := h1
      refine gw_41 (hB1.fr g2) ?_ (fun i hi => (g2 i (by omega)).trans (he i hi))
      have := g1.up2 (by rw [show t / 64 + 1 = (t + 1) / 64 by omega]; exact g3)
      rw [show t / 64 + 1 = (t + 1) / 64 by omega] at this
      exact this
  · rw [if_neg (show ¬ nI ((t + 1) % 64) = 0 from fun w => c ((nI_eq (b := 0) (by omega) (by omega)).mp w))]
    refine gw_41 hB1 ?_ he
    rw [show (t + 1) / 64 = t / 64 by omega]
    exact hG1
