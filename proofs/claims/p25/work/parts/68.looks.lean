/-! PURE PART of p25: looking -/
theorem gw_qQ {n t B : Nat} {st : VX6} {z : Nat → Int32} (hS : q_S B st z gw_0 gw_0) (hI : gw_I n t z) : q_Q n B 20000 st.1 z := by
  obtain ⟨n', hQ⟩ := hS.1.q
  obtain ⟨h1, h2, -⟩ := hQ.num
  have e : n' = n := (nI_eq (by omega) (by have := hI.1.2.2.1; omega)).mp (h1.symm.trans hI.1.2.1)
  rw [e] at hQ
  exact hQ
theorem gw_fig {B : Nat} {st : VX6} {hi : VX2} {pg : VX4} {z : Nat → Int32} (hS : q_S B st z gw_0 gw_0) {b : Nat} (hb : b ≤ 16) (h1 : b ≠ 11) (h2 : b ≠ 12) (h3 : b ≠ 13) : ∃ r, f_X9_count (nI b) st hi pg = some r ∧ f_X10_count (nI b) z gw_0 0 0 = some r := by
  obtain ⟨⟨n, k, t, ⟨L, c, T', hV, -⟩, -⟩, -⟩ := hS
  obtain ⟨r, k1, k2⟩ := q_figure (ln := st.1.2.1) hV gw_0 0 0 hb h1 h2 h3
  refine ⟨r, ?_, k2⟩
  unfold f_X9_count
  rw [if_neg (nI_pos (n := b) (by omega)), if_pos (show nI b ≤ 16 from nI_le (b := 16) hb (by omega)), if_neg (show ¬ nI b = 11 from fun w => h1 ((nI_eq (b := 11) (by omega) (by omega)).mp w)), if_neg (show ¬ nI b = 12 from fun w => h2 ((nI_eq (b := 12) (by omega) (by omega)).mp w)), if_neg (show ¬ nI b = 13 from fun w => h3 ((nI_eq (b := 13) (by omega) (by omega)).mp w)), k1, Option.bind_some]
section GL
variable {n t B : Nat} {st : VX6} {hi : VX2} {pg : VX4} {z : Nat → Int32}
theorem gw_c0 (hS : q_S B st z gw_0 gw_0) (hI : gw_I n t z) : f_X9_count 0 st hi pg = some (z 0) := by
  obtain ⟨r, k1, k2⟩ := gw_fig (hi := hi) (pg := pg) hS (b := 0) (by omega) (by omega) (by omega) (by omega)
  have hz1 := hI.1.2.1
  have hn := hI.1.2.2.1
  have e : f_X10_count (nI 0) z gw_0 0 0 = some (z 0) := by
    unfold f_X10_count
    rw [if_neg (show ¬ nI 0 < 0 by decide), if_pos (show nI 0 ≤ 16 by decide)]
    simp only [if_pos (show nI 0 = 0 from rfl), q_k0, q_n0]
  exact k1.trans (k2.symm.trans e)
theorem gw_c1 (hS : q_S B st z gw_0 gw_0) (hI : gw_I n t z) : f_X9_count 1 st hi pg = some (z 1) := by
  obtain ⟨r, k1, k2⟩ := gw_fig (hi := hi) (pg := pg) hS (b := 1) (by omega) (by omega) (by omega) (by omega)
  have hz1 := hI.1.2.1
  have hn := hI.1.2.2.1
  have e : f_X10_count (nI 1) z gw_0 0 0 = some (z 1) := by
    unfold f_X10_count
    rw [if_neg (show ¬ nI 1 < 0 by decide), if_pos (show nI 1 ≤ 16 by decide)]
    simp only [if_neg (show ¬ nI 1 = 0 by decide), if_pos (show nI 1 = 1 from rfl), q_k1, q_n1]
  exact k1.trans (k2.symm.trans e)
theorem gw_c3 (hS : q_S B st z gw_0 gw_0) (hI : gw_I n t z) : f_X9_count 3 st hi pg = some (nI (gw_rd n z)) := by
  obtain ⟨r, k1, k2⟩ := gw_fig (hi := hi) (pg := pg) hS (b := 3) (by omega) (by omega) (by omega) (by omega)
  have hz1 := hI.1.2.1
  have hn := hI.1.2.2.1
  have e : f_X10_count (nI 3) z gw_0 0 0 = some (nI (gw_rd n z)) := by
    unfold f_X10_count
    rw [if_neg (show ¬ nI 3 < 0 by decide), if_pos (show nI 3 ≤ 16 by decide)]
    simp only [if_neg (show ¬ nI 3 = 0 by decide), if_neg (show ¬ nI 3 = 1 by decide), if_neg (show ¬ nI 3 = 2 by decide), if_pos (show nI 3 = 3 from rfl), q_inState hz1 hn 1, Option.bind_some, gw_rd]
  exact k1.trans (k2.symm.trans e)
theorem gw_c4 (hS : q_S B st z gw_0 gw_0) (hI : gw_I n t z) : f_X9_count 4 st hi pg = some (nI (gw_bk n z)) := by
  obtain ⟨r, k1, k2⟩ := gw_fig (hi := hi) (pg := pg) hS (b := 4) (by omega) (by omega) (by omega) (by omega)
  have hz1 := hI.1.2.1
  have hn := hI.1.2.2.1
  have e : f_X10_count (nI 4) z gw_0 0 0 = some (nI (gw_bk n z)) := by
    unfold f_X10_count
    rw [if_neg (show ¬ nI 4 < 0 by decide), if_pos (show nI 4 ≤ 16 by decide)]
    simp only [if_neg (show ¬ nI 4 = 0 by decide), if_neg (show ¬ nI 4 = 1 by decide), if_neg (show ¬ nI 4 = 2 by decide), if_neg (show ¬ nI 4 = 3 by decide), if_pos (show nI 4 = 4 from rfl), q_inState hz1 hn 3, Option.bind_some, gw_bk]
  exact k1.trans (k2.symm.trans e)
theorem gw_c6 (hS : q_S B st z gw_0 gw_0) (hI : gw_I n t z) : f_X9_count 6 st hi pg = some (z 6) := by
  obtain ⟨r, k1, k2⟩ := gw_fig (hi := hi) (pg := pg) hS (b := 6) (by omega) (by omega) (by omega) (by omega)
  have hz1 := hI.1.2.1
  have hn := hI.1.2.2.1
  have e : f_X10_count (nI 6) z gw_0 0 0 = some (z 6) := by
    unfold f_X10_count
    rw [if_neg (show ¬ nI 6 < 0 by decide), if_pos (show nI 6 ≤ 16 by decide)]
    simp only [if_neg (show ¬ nI 6 = 0 by decide), if_neg (show ¬ nI 6 = 1 by decide), if_neg (show ¬ nI 6 = 2 by decide), if_neg (show ¬ nI 6 = 3 by decide), if_neg (show ¬ nI 6 = 4 by decide), if_neg (show ¬ nI 6 = 5 by decide), if_pos (show nI 6 = 6 from rfl), if_neg (show ¬ (11 : Int32) ≤ nI 6 by decide), show (5 : Int32) + nI 6 - 5 = 6 by decide, q_k6, q_n6]
  exact k1.trans (k2.symm.trans e)
theorem gw_c14 (hS : q_S B st z gw_0 gw_0) (hI : gw_I n t z) : f_X9_count 14 st hi pg = some (z 2) := by
  obtain ⟨r, k1, k2⟩ := gw_fig (hi := hi) (pg := pg) hS (b := 14) (by omega) (by omega) (by omega) (by omega)
  have hz1 := hI.1.2.1
  have hn := hI.1.2.2.1
  have e : f_X10_count (nI 14) z gw_0 0 0 = some (z 2) := by
    unfold f_X10_count
    rw [if_neg (show ¬ nI 14 < 0 by decide), if_pos (show nI 14 ≤ 16 by decide)]
    simp only [if_neg (show ¬ nI 14 = 0 by decide), if_neg (show ¬ nI 14 = 1 by decide), if_neg (show ¬ nI 14 = 2 by decide), if_neg (show ¬ nI 14 = 3 by decide), if_neg (show ¬ nI 14 = 4 by decide), if_neg (show ¬ nI 14 = 5 by decide), if_neg (show ¬ nI 14 = 6 by decide), if_neg (show ¬ nI 14 = 7 by decide), if_neg (show ¬ nI 14 = 8 by decide), if_neg (show ¬ nI 14 = 9 by decide), if_neg (show ¬ nI 14 = 10 by decide), if_neg (show ¬ nI 14 = 11 by decide), if_neg (show ¬ nI 14 = 12 by decide), if_neg (show ¬ nI 14 = 13 by decide), if_pos (show (11 : Int32) ≤ nI 14 by decide), show (2 : Int32) + nI 14 - 14 = 2 by decide, q_k2, q_n2]
  exact k1.trans (k2.symm.trans e)
theorem gw_c15 (hS : q_S B st z gw_0 gw_0) (hI : gw_I n t z) : f_X9_count 15 st hi pg = some (z 3) := by
  obtain ⟨r, k1, k2⟩ := gw_fig (hi := hi) (pg := pg) hS (b := 15) (by omega) (by omega) (by omega) (by omega)
  have hz1 := hI.1.2.1
  have hn := hI.1.2.2.1
  have e : f_X10_count (nI 15) z gw_0 0 0 = some (z 3) := by
    unfold f_X10_count
    rw [if_neg (show ¬ nI 15 < 0 by decide), if_pos (show nI 15 ≤ 16 by decide)]
    simp only [if_neg (show ¬ nI 15 = 0 by decide), if_neg (show ¬ nI 15 = 1 by decide), if_neg (show ¬ nI 15 = 2 by decide), if_neg (show ¬ nI 15 = 3 by decide), if_neg (show ¬ nI 15 = 4 by decide), if_neg (show ¬ nI 15 = 5 by decide), if_neg (show ¬ nI 15 = 6 by decide), if_neg (show ¬ nI 15 = 7 by decide), if_neg (show ¬ nI 15 = 8 by decide), if_neg (show ¬ nI 15 = 9 by decide), if_neg (show ¬ nI 15 = 10 by decide), if_neg (show ¬ nI 15 = 11 by decide), if_neg (show ¬ nI 15 = 12 by decide), if_neg (show ¬ nI 15 = 13 by decide), if_pos (show (11 : Int32) ≤ nI 15 by decide), show (2 : Int32) + nI 15 - 14 = 3 by decide, q_k3, q_n3]
  exact k1.trans (k2.symm.trans e)
theorem gw_c16 (hS : q_S B st z gw_0 gw_0) (hI : gw_I n t z) : f_X9_count 16 st hi pg = some (z 4) := by
  obtain ⟨r, k1, k2⟩ := gw_fig (hi := hi) (pg := pg) hS (b := 16) (by omega) (by omega) (by omega) (by omega)
  have hz1 := hI.1.2.1
  have hn := hI.1.2.2.1
  have e : f_X10_count (nI 16) z gw_0 0 0 = some (z 4) := by
    unfold f_X10_count
    rw [if_neg (show ¬ nI 16 < 0 by decide), if_pos (show nI 16 ≤ 16 by decide)]
    simp only [if_neg (show ¬ nI 16 = 0 by decide), if_neg (show ¬ nI 16 = 1 by decide), if_neg (show ¬ nI 16 = 2 by decide), if_neg (show ¬ nI 16 = 3 by decide), if_neg (show ¬ nI 16 = 4 by decide), if_neg (show ¬ nI 16 = 5 by decide), if_neg (show ¬ nI 16 = 6 by decide), if_neg (show ¬ nI 16 = 7 by decide), if_neg (show ¬ nI 16 = 8 by decide), if_neg (show ¬ nI 16 = 9 by decide), if_neg (show ¬ nI 16 = 10 by decide), if_neg (show ¬ nI 16 = 11 by decide), if_neg (show ¬ nI 16 = 12 by decide), if_neg (show ¬ nI 16 = 13 by decide), if_pos (show (11 : Int32) ≤ nI 16 by decide), show (2 : Int32) + nI 16 - 14 = 4 by decide, q_k4, q_n4]
  exact k1.trans (k2.symm.trans e)
/-- a promise -/
theorem gw_rp {p : Nat} {y v : Int32} (h1 : z 1 = nI n) (hn : n ≤ 40) (hp : p < n) (y0 : ¬ y < 0) (y8 : y ≤ 8) (h : ∀ s w, f_X10_promise_46 (nI p) y z s w = some v) : f_X10_promise (nI p) y z = some v := by
  unfold f_X10_promise f_X10_promise_45
  rw [gw_isP h1 hn (Nat.le_of_lt hp), if_pos hp, Option.bind_some, if_neg (show ¬ (1 : Int32) = 0 by decide), if_neg y0, if_pos y8, q_a172, q_ck (by omega) (by omega), q_cl (by omega), q_let]
  by_cases c : z (172 + p) < 0
  · rw [if_pos c]
    exact h _ _
  · rw [if_neg c]
    by_cases d : 24 ≤ z (172 + p)
    · rw [if_pos d]
      exact h _ _
    · rw [if_neg d]
      exact h _ _
theorem gw_p0 {p : Nat} (hS : q_S B st z gw_0 gw_0) (hI : gw_I n t z) (hp : p < n) : f_X9_promise (nI p) 0 st = some (z (132 + p)) := by
  obtain ⟨r, k1, k2⟩ := q_c_promise hS.1 (nI p) 0
  have hn := hI.1.2.2.1
  have e : f_X10_promise (nI p) 0 z = some (z (132 + p)) := gw_rp hI.1.2.1 hn hp (by decide) (by decide) (fun s w => by
    unfold f_X10_promise_46
    rw [if_pos (show (0 : Int32) = 0 from rfl), q_a132, q_ck (by omega) (by omega), q_cl (by omega)])
  exact k1.trans (k2.symm.trans e)
theorem gw_p1 {p : Nat} (hS : q_S B st z gw_0 gw_0) (hI : gw_I n t z) (hp : p < n) : f_X9_promise (nI p) 1 st = some (z (12 + p)) := by
  obtain ⟨r, k1, k2⟩ := q_c_promise hS.1 (nI p) 1
  have hn := hI.1.2.2.1
  have e : f_X10_promise (nI p) 1 z = some (z (12 + p)) := gw_rp hI.1.2.1 hn hp (by decide) (by decide) (fun s w => by
    unfold f_X10_promise_46
    rw [if_neg (show ¬ (1 : Int32) = 0 by decide), if_pos (show (1 : Int32) = 1 from rfl), q_a12, q_ck (by omega) (by omega), q_cl (by omega)])
  exact k1.trans (k2.symm.trans e)
theorem gw_p3 {p : Nat} (hS : q_S B st z gw_0 gw_0) (hI : gw_I n t z) (hp : p < n) : f_X9_promise (nI p) 3 st = some (z (92 + p)) := by
  obtain ⟨r, k1, k2⟩ := q_c_promise hS.1 (nI p) 3
  have hn := hI.1.2.2.1
  have e : f_X10_promise (nI p) 3 z = some (z (92 + p)) := gw_rp hI.1.2.1 hn hp (by decide) (by decide) (fun s w => by
    unfold f_X10_promise_46
    rw [if_neg (show ¬ (3 : Int32) = 0 by decide), if_neg (show ¬ (3 : Int32) = 1 by decide), if_neg (show ¬ (3 : Int32) = 2 by decide), if_pos (show (3 : Int32) = 3 from rfl), q_a92, q_ck (by omega) (by omega), q_cl (by omega)])
  exact k1.trans (k2.symm.trans e)
/-- a call -/
theorem gw_rc {k w : Nat} (hS : q_S B st z gw_0 gw_0) (hk : k < 12) (hw : w < 3) (hc : nI k < z 5) : f_X9_call (nI k) (nI w) st = some (z (332 + 12 * w + k)) := by
  obtain ⟨r, k1, k2⟩ := q_c_call hS.1 (by omega) (nI k) (nI w)
  have e : f_X10_call (nI k) (nI w) z = some (z (332 + 12 * w + k)) := by
    unfold f_X10_call
    rw [if_neg (nI_pos (n := k) (by omega)), if_neg (show ¬ (12 : Int32) ≤ nI k from nI_ge (b := 12) hk (by omega)), if_neg (nI_pos (n := w) (by omega)), if_pos (show nI w ≤ 2 from nI_le (b := 2) (by omega) (by omega)), q_k5, q_n5, if_pos hc]
    rcases (show w = 0 ∨ w = 1 ∨ w = 2 by omega) with rfl | rfl | rfl
    · rw [if_pos (show nI 0 = 0 from rfl), q_a332, q_ck (by omega) (by omega), q_cl (by omega)]
    · rw [if_neg (show ¬ nI 1 = 0 by decide), if_pos (show nI 1 = 1 from rfl), q_a344, q_ck (by omega) (by omega), q_cl (by omega)]
    · rw [if_neg (show ¬ nI 2 = 0 by decide), if_neg (show ¬ nI 2 = 1 by decide), q_a356, q_ck (by omega) (by omega), q_cl (by omega)]
  exact k1.trans (k2.symm.trans e)
/-- would, when, leastRoom -/
theorem gw_would {m : Nat} (hS : q_S B st z gw_0 gw_0) (hI : gw_I n t z) (hB : B ≤ 400000000) (h1 : 1 ≤ m) (h2 : m ≤ 600) (fc : VX1) (y : Int32) (y0 : ¬ y < 0) (y2 : y ≤ 2) : ∃ fc', f_X9_would (nI m) y st fc = some (if y = 0 then gw_q z m 5 - z 5 else if y = 1 then gw_q z m 6 - z 6 else nI (gw_mx n z m), fc') := by
  have hQ := gw_qQ hS hI
  obtain ⟨v', k1, hQ'⟩ := hQ.copy fc.1 fc.2.1 fc.2.2.1
  obtain ⟨v2, k2⟩ := gw_outcome hB h2 (by omega) hQ' y st.1.2.2.1 st.1.2.2.2.2.2.2.2.2.1
  refine ⟨v2, ?_⟩
  unfold f_X9_would f_X1_outcome
  rw [if_neg (show ¬ nI m < 1 from nI_nlt (b := 1) h1 (by omega)), q_l600, if_neg (show ¬ nI 600 < nI m from nI_nlt h2 (by omega)), if_neg y0, if_pos y2, k1, Option.bind_some]
  have k2 : zk_fx (F_X1_outcome_14 (nI m) y st.1.2.2.1 st.1.2.2.2.2.2.2.2.2.1) zk_N (0, 0, v') = _ := k2
  rw [k2, Option.bind_some, hQ.calls, hQ.late]
theorem gw_when {p : Nat} (hS : q_S B st z gw_0 gw_0) (hI : gw_I n t z) (hB : B ≤ 400000000) (hp : p < n) (fc : VX1) : ∃ r fc', f_X9_when (nI p) st fc = some (r, fc') ∧ (¬ z (132 + p) ≤ 1 → r = -2) ∧ (z (132 + p) ≤ 1 → (r = -9 ∧ ∀ j, j ≤ 600 → gw_q z j (252 + p) = z (252 + p)) ∨ ∃ k, 1 ≤ k ∧ k ≤ 600 ∧ r = gw_q z k 0 ∧ gw_q z k (252 + p) ≠ z (252 + p) ∧ ∀ j, j < k → gw_q z j (252 + p) = z (252 + p)) := by
  have hQ := gw_qQ hS hI
  obtain ⟨hz1, hn, hv⟩ := hQ.num
  obtain ⟨s1, s2⟩ := hQ.state hp
  have hh : f_X5_has (nI p) (nI n) = some 1 := by
    rcases q_has hn (nI p) with ⟨-, e⟩ | ⟨q, -, -, e⟩
    · rcases e with e | e
      · exact absurd e (nI_pos (by omega))
      · exact absurd e (nI_ge hp (by omega))
    · exact e
  unfold f_X9_when
  rw [hv, hh, Option.bind_some, if_neg (show ¬ (1 : Int32) = 0 by decide), q_isAlive (p := p) (by omega) _ (by rw [s1]; exact s2), s1, Option.bind_some]
  by_cases c : z (132 + p) ≤ 1
  · obtain ⟨v', k1, hQ'⟩ := hQ.copy fc.1 fc.2.1 fc.2.2.1
    obtain ⟨r, v2, l1, l2⟩ := gw_when_loop (z := z) hB hp (had := z (252 + p)) 600 0 zk_N 20000 v' (by omega) (by unfold zk_N; omega) (by omega) hQ' (fun j hj => by rw [show j = 0 by omega]; rfl)
    refine ⟨r, v2, ?_, fun w => absurd c w, fun _ => l2⟩
    rw [if_pos c, if_neg (show ¬ (1 : Int32) = 0 by decide)]
    unfold f_X1_tickOfCall
    rw [k1, Option.bind_some, hQ'.called hp, Option.bind_some]
    have l1 : zk_fx (F_X1_tickOfCall_24 (nI p) (z (252 + p))) zk_N (0, v') = _ := l1
    rw [l1, Option.bind_some]
  · exact ⟨-2, fc, by rw [if_neg c, if_pos rfl], fun _ => rfl, fun w => absurd w c⟩
theorem gw_lroom {m : Nat} (hS : q_S B st z gw_0 gw_0) (hI : gw_I n t z) (hB : B ≤ 400000000) (h1 : 1 ≤ m) (h2 : m ≤ 200) (ht : t + m ≤ 25000) (fc : VX1) : ∃ r fc', f_X9_leastRoom (nI m) st fc = some (r, fc') ∧ ((r = -9 ∧ ∀ j, 1 ≤ j → j ≤ 20 → gw_q (upd z 2 (nI j)) m 6 ≠ z 6) ∨ ∃ i, 1 ≤ i ∧ i ≤ 20 ∧ r = nI i ∧ gw_q (upd z 2 (nI i)) m 6 = z 6 ∧ ∀ j, 1 ≤ j → j < i → gw_q (upd z 2 (nI j)) m 6 ≠ z 6) := by
  have hQ := gw_qQ hS hI
  obtain ⟨r, v', k1, k2⟩ := gw_least (m := m) hB (by omega) (by omega) hQ hI ht fc
  refine ⟨r, v', ?_, k2⟩
  unfold f_X9_leastRoom f_X1_leastTimelyRoom
  rw [if_neg (show ¬ nI m < 1 from nI_nlt (b := 1) h1 (by omega)), if_pos (show nI m ≤ 200 from nI_le (b := 200) h2 (by omega)), k1, Option.bind_some]
end GL
