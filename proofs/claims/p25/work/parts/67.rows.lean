/-! PURE PART of p25: what the actions make of a row -/
def gw_bk (n : Nat) (z : Nat → Int32) : Nat := q_cn (fun q => decide (z (132 + q) = 3)) n
theorem gw_isP {n p : Nat} {z : Nat → Int32} (h1 : z 1 = nI n) (hn : n ≤ 40) (hp : p ≤ n) : f_X10_isPromise (nI p) z = some (if p < n then 1 else 0) := by
  unfold f_X10_isPromise
  rw [if_neg (nI_pos (by omega)), q_k1, q_n1, h1]
  by_cases c : p < n
  · rw [if_pos c, if_neg (nI_ge c (by omega))]
  · rw [if_neg c, if_pos (nI_le (by omega) (by omega))]
theorem gw_put {n t p d : Nat} {z w : Nat → Int32} (hI : gw_I n t z) (hp : p < n) (hd1 : 1 ≤ d) (hd2 : d ≤ 511) (hw : ∀ i, i ≠ 11 → i ≠ 12 + p → i ≠ 172 + p → i ≠ 212 + p → w i = z i) (e12 : w (12 + p) = nI (t + d)) (e172 : w (172 + p) = nI (gw_j (t + d) t)) (e132 : z (132 + p) = 0) : gw_I n t w := by
  obtain ⟨⟨h0, h1, h2, h3, h4, h5, h6⟩, hG⟩ := hI
  have hj := gw_j24 (t + d) t
  refine ⟨⟨?_, ?_, h2, h3, ?_, ?_, fun q hq => ?_⟩, ?_⟩
  · exact (hw 0 (by omega) (by omega) (by omega) (by omega)).trans h0
  · exact (hw 1 (by omega) (by omega) (by omega) (by omega)).trans h1
  · rw [hw 2 (by omega) (by omega) (by omega) (by omega)]
    exact h4
  · rw [hw 3 (by omega) (by omega) (by omega) (by omega)]
    exact h5
  · rw [hw (52 + q) (by omega) (by omega) (by omega) (by omega), hw (92 + q) (by omega) (by omega) (by omega) (by omega)]
    exact h6 q hq
  · refine hG.one (p := p) h2 (fun q hq y => ⟨hw _ (by omega) (by omega) (by omega) (by omega), hw _ (by omega) (by omega) (by omega) (by omega), hw _ (by omega) (by omega) (by omega) (by omega)⟩) (fun _ => ⟨gw_j (t + d) t, 0, t + d, e172.trans (gw_cn (by omega)).symm, ?_, e12, gw_j_at (by omega) (by omega) (fun _ => by omega) (fun _ _ => by omega) (fun _ => by omega)⟩)
    exact (hw _ (by omega) (by omega) (by omega) (by omega)).trans e132
/-- give -/
theorem gw_r_give40 {t d q m : Nat} {z : Nat → Int32} (h1 : z 1 = nI 40) (hd1 : 1 ≤ d) (hd2 : d ≤ 511) (hq : q ≤ 511) (hm : m ≤ 99) (hqm : m ≠ 0 → q ≠ 0) : f_X10_give (nI d) (nI q) (nI m) z gw_0 gw_0 gw_0 gw_0 0 gw_0 1 = some (-3, z, gw_0, gw_0, 0) := by
  unfold f_X10_give f_X10_give_38 f_X10_give_55
  rw [if_neg (show ¬ nI d < 1 from nI_nlt (b := 1) hd1 (by omega)), if_neg (show ¬ (511 : Int32) < nI d from nI_nlt (a := 511) hd2 (by omega)), if_neg (nI_pos (by omega)), if_neg (show ¬ (511 : Int32) < nI q from nI_nlt (a := 511) hq (by omega)), if_neg (nI_pos (by omega)), if_neg (show ¬ (99 : Int32) < nI m from nI_nlt (a := 99) hm (by omega)), if_neg (show ¬ (1 : Int32) = 0 by decide), q_k1, q_n1, h1, if_pos (show nI 40 = 40 from rfl)]
  by_cases c : nI q = 0
  · have q0 : q = 0 := (nI_eq (b := 0) (by omega) (by omega)).mp c
    have m0 : m = 0 := Classical.byContradiction fun w => hqm w q0
    rw [if_pos c, m0, if_pos (show nI 0 ≤ 0 by decide)]
  · rw [if_neg c]
theorem gw_r_give {n t d q m : Nat} {z : Nat → Int32} (hI : gw_I n t z) (hn4 : n < 40) (ht : t ≤ 20000) (hd1 : 1 ≤ d) (hd2 : d ≤ 511) (hq : q ≤ 511) (hm : m ≤ 99) (hqm : m ≠ 0 → q ≠ 0) : ∃ z', f_X10_give (nI d) (nI q) (nI m) z gw_0 gw_0 gw_0 gw_0 0 gw_0 1 = some (nI n, z', gw_0, gw_0, 0) ∧ gw_I (n + 1) t z' ∧ z' 2 = z 2 ∧ z' (132 + n) = 0 ∧ z' (12 + n) = nI (t + d) ∧ z' (92 + n) = nI m := by
  obtain ⟨⟨h0, h1, h2, h3, h4, h5, h6⟩, hG⟩ := hI
  have hj := gw_j24 (t + d) t
  have hsd := gw_dist (p := n) (d := t + d) (t := t) (z := upd (upd (upd (upd (upd z 1 (nI (n + 1))) (12 + n) (nI (t + d))) (52 + n) (nI q)) (92 + n) (nI m)) (132 + n) 0) (by omega) (by omega) hn4 (by simp (disch := omega) only [pk_un, pk_us]) (by simp (disch := omega) only [pk_un]; exact h0)
  refine ⟨upd (upd (upd (upd (upd (upd (upd (upd z 1 (nI (n + 1))) (12 + n) (nI (t + d))) (52 + n) (nI q)) (92 + n) (nI m)) (132 + n) 0) (172 + n) (nI (gw_j (t + d) t))) (212 + n) (z 11)) 11 (z 11 + 1), ?_, ?_⟩
  · unfold f_X10_give f_X10_give_38
    rw [if_neg (show ¬ nI d < 1 from nI_nlt (b := 1) hd1 (by omega)), if_neg (show ¬ (511 : Int32) < nI d from nI_nlt (a := 511) hd2 (by omega)), if_neg (nI_pos (by omega)), if_neg (show ¬ (511 : Int32) < nI q from nI_nlt (a := 511) hq (by omega)), if_neg (nI_pos (by omega)), if_neg (show ¬ (99 : Int32) < nI m from nI_nlt (a := 99) hm (by omega)), if_neg (show ¬ (1 : Int32) = 0 by decide)]
    have key : f_X10_give_55 (nI d) (nI q) (nI m) gw_0 gw_0 gw_0 1 z gw_0 gw_0 0 = some (nI n, upd (upd (upd (upd (upd (upd (upd (upd z 1 (nI (n + 1))) (12 + n) (nI (t + d))) (52 + n) (nI q)) (92 + n) (nI m)) (132 + n) 0) (172 + n) (nI (gw_j (t + d) t))) (212 + n) (z 11)) 11 (z 11 + 1), gw_0, gw_0, 0) := by
      unfold f_X10_give_55
      have a2 : ¬ nI n = 40 := fun w => by
        have := (nI_eq (b := 40) (by omega) (by omega)).mp w
        omega
      rw [gw_rec1, Option.bind_some]
      simp only [q_let]
      simp only [q_k1, q_n1, h1, if_neg a2]
      rw [show upd (upd (upd (upd (upd z 1 (nI (n + 1))) (12 + n) (nI (t + d))) (52 + n) (nI q)) (92 + n) (nI m)) (132 + n) 0 11 = z 11 from by simp (disch := omega) only [pk_un]] at hsd
      simp (disch := omega) only [q_a12, q_a52, q_a92, q_a132, q_ck, q_cl, q_k0, q_n0, pk_un, h0, nI_add, nI_1, hsd, Option.bind_some]
    rw [key]
    by_cases c : nI q = 0
    · have q0 : q = 0 := (nI_eq (b := 0) (by omega) (by omega)).mp c
      have m0 : m = 0 := Classical.byContradiction fun w => hqm w q0
      rw [if_pos c, if_pos (show nI m ≤ 0 by rw [m0]; decide)]
    · rw [if_neg c]
  · refine ⟨⟨⟨?_, ?_, by omega, h3, ?_, ?_, fun p hp => ?_⟩, fun p hp => ?_⟩, ?_, ?_, ?_, ?_⟩
    · simp (disch := omega) only [pk_un]
      exact h0
    · simp (disch := omega) only [pk_un, pk_us]
    · simp (disch := omega) only [pk_un]
      exact h4
    · simp (disch := omega) only [pk_un]
      exact h5
    · by_cases e : p = n
      · subst e
        refine ⟨q, m, ?_, ?_, hq, hm, hqm⟩
        · simp (disch := omega) only [pk_un, pk_us]
        · simp (disch := omega) only [pk_un, pk_us]
      · simp (disch := omega) only [pk_un]
        exact h6 p (by omega)
    · by_cases e : p = n
      · subst e
        refine ⟨gw_j (t + d) t, 0, t + d, ?_, ?_, ?_, gw_j_at (by omega) (by omega) (fun _ => by omega) (fun _ _ => by omega) (fun _ => by omega)⟩
        · simp (disch := omega) only [pk_un, pk_us]
          exact (gw_cn (by omega)).symm
        · simp (disch := omega) only [pk_un, pk_us]
          rfl
        · simp (disch := omega) only [pk_un, pk_us]
      · refine (hG p (by omega)).cong ?_ ?_ ?_
        · simp (disch := omega) only [pk_un]
        · simp (disch := omega) only [pk_un]
        · simp (disch := omega) only [pk_un]
    · simp (disch := omega) only [pk_un]
    · simp (disch := omega) only [pk_un, pk_us]
    · simp (disch := omega) only [pk_un, pk_us]
    · simp (disch := omega) only [pk_un, pk_us]
/-- breakOff -/
theorem gw_r_break {n t p : Nat} {z : Nat → Int32} (hI : gw_I n t z) (hp : p ≤ n) : (p = n ∧ f_X10_breakOff (nI p) z gw_0 gw_0 gw_0 gw_0 0 gw_0 1 = some (-1, z, gw_0, gw_0, 0)) ∨ (p < n ∧ ¬ z (132 + p) ≤ 1 ∧ f_X10_breakOff (nI p) z gw_0 gw_0 gw_0 gw_0 0 gw_0 1 = some (-2, z, gw_0, gw_0, 0)) ∨ (p < n ∧ z (132 + p) ≤ 1 ∧ f_X10_breakOff (nI p) z gw_0 gw_0 gw_0 gw_0 0 gw_0 1 = some (nI (gw_bk n z + 1), upd z (132 + p) 3, gw_0, gw_0, 0) ∧ gw_I n t (upd z (132 + p) 3)) := by
  have hB := hI.1
  have hn := hB.2.2.1
  have e1 := gw_isP hB.2.1 hn hp
  unfold f_X10_breakOff
  by_cases c : p < n
  · right
    rw [if_pos c] at e1
    rw [e1, Option.bind_some, if_neg (show ¬ (1 : Int32) = 0 by decide), q_a132, q_ck (by omega) (by omega), q_cl (by omega)]
    by_cases c1 : z (132 + p) ≤ 1
    · right
      obtain ⟨wc, sc, due, g1, g2, g3, g4⟩ := hI.2 p c
      have hsc : sc ≤ 1 := by
        rw [g2] at c1
        exact (nI_leI (b := 1) (by have := g4.1; omega) (by omega)).mp c1
      have h3 : ¬ z (132 + p) = 3 := fun y => by
        rw [y] at c1
        exact absurd c1 (by decide)
      refine ⟨c, c1, ?_, ?_, fun q hq => ?_⟩
      · rw [if_pos c1, gw_rec1, Option.bind_some, q_ck (by omega) (by omega), q_let, q_inState (n := n) (by rw [pk_un (by omega)]; exact hB.2.1) hn 3, Option.bind_some]
        rw [q_cn_flip (P := fun q => decide (z (132 + q) = 3)) (R := fun q => decide (upd z (132 + p) 3 (132 + q) = 3)) n c (decide_eq_false h3) (decide_eq_true pk_us) (fun q hq hne => by simp (disch := omega) only [pk_un])]
        rfl
      · refine ⟨?_, ?_, hn, hB.2.2.2.1, ?_, ?_, fun q hq => ?_⟩
        · rw [pk_un (by omega)]
          exact hB.1
        · rw [pk_un (by omega)]
          exact hB.2.1
        · rw [pk_un (by omega)]
          exact hB.2.2.2.2.1
        · rw [pk_un (by omega)]
          exact hB.2.2.2.2.2.1
        · rw [pk_un (by omega), pk_un (by omega)]
          exact hB.2.2.2.2.2.2 q hq
      · by_cases y : q = p
        · subst y
          obtain ⟨i1, i2, i3, i4, i5, i6, i7, i8, i9⟩ := g4
          refine ⟨wc, 3, due, ?_, pk_us, ?_, by omega, i2, i3, fun _ => Or.inr rfl, fun w => ⟨Or.inr rfl, (i5 w).2⟩, fun w => ?_, i7, i8, i9⟩
          · rw [pk_un (by omega)]
            exact g1
          · rw [pk_un (by omega)]
            exact g3
          · have := i6 w
            omega
        · exact (hI.2 q hq).cong (pk_un (by omega)) (pk_un (by omega)) (pk_un (by omega))
    · left
      exact ⟨c, c1, by rw [if_neg c1]⟩
  · left
    rw [if_neg c] at e1
    exact ⟨by omega, by rw [e1, Option.bind_some, if_pos rfl]⟩
/-- move -/
theorem gw_r_move {n t p d : Nat} {z : Nat → Int32} (hI : gw_I n t z) (hp : p ≤ n) (ht : t ≤ 20000) (hd1 : 1 ≤ d) (hd2 : d ≤ 511) : (p = n ∧ f_X10_move (nI p) (nI d) z gw_0 gw_0 gw_0 gw_0 0 gw_0 1 = some (-1, z, gw_0, gw_0, 0)) ∨ (p < n ∧ z (132 + p) ≠ 0 ∧ f_X10_move (nI p) (nI d) z gw_0 gw_0 gw_0 gw_0 0 gw_0 1 = some (-2, z, gw_0, gw_0, 0)) ∨ (p < n ∧ z (132 + p) = 0 ∧ ∃ z', f_X10_move (nI p) (nI d) z gw_0 gw_0 gw_0 gw_0 0 gw_0 1 = some (z (12 + p), z', gw_0, gw_0, 0) ∧ gw_I n t z' ∧ z' 2 = z 2) := by
  have hB := hI.1
  have hn := hB.2.2.1
  have e1 := gw_isP hB.2.1 hn hp
  unfold f_X10_move
  by_cases c : p < n
  · right
    have hp4 : p < 40 := by omega
    rw [if_pos c] at e1
    rw [e1, Option.bind_some, if_neg (show ¬ (1 : Int32) = 0 by decide), if_neg (show ¬ nI d < 1 from nI_nlt (b := 1) hd1 (by omega)), if_pos (show nI d ≤ 511 from nI_le (b := 511) hd2 (by omega)), q_a132, q_ck (by omega) (by omega), q_cl (by omega)]
    by_cases c1 : z (132 + p) = 0
    · right
      have hsd := gw_dist (p := p) (d := t + d) (t := t) (z := upd z (12 + p) (nI (t + d))) (by omega) (by omega) hp4 pk_us (by rw [pk_un (by omega)]; exact hB.1)
      rw [pk_un (show 11 ≠ 12 + p by omega)] at hsd
      refine ⟨c, c1, upd (upd (upd (upd z (12 + p) (nI (t + d))) (172 + p) (nI (gw_j (t + d) t))) (212 + p) (z 11)) 11 (z 11 + 1), ?_, ?_, ?_⟩
      · rw [if_pos c1, gw_rec1, Option.bind_some]
        simp only [q_let]
        simp (disch := omega) only [q_a12, q_ck, q_cl, q_k0, q_n0, hB.1, nI_add, hsd, Option.bind_some]
      · refine gw_put hI c hd1 hd2 (fun i a1 a2 a3 a4 => ?_) ?_ ?_ c1
        · simp (disch := omega) only [pk_un]
        · simp (disch := omega) only [pk_un, pk_us]
        · simp (disch := omega) only [pk_un, pk_us]
      · simp (disch := omega) only [pk_un]
    · left
      exact ⟨c, c1, by rw [if_neg c1]⟩
  · left
    rw [if_neg c] at e1
    exact ⟨by omega, by rw [e1, Option.bind_some, if_pos rfl]⟩
/-- set -/
theorem gw_r_set0 {n t r : Nat} {z : Nat → Int32} (hI : gw_I n t z) (h1 : 1 ≤ r) (h2 : r ≤ 20) : f_X10_set 0 (nI r) z gw_0 gw_0 gw_0 gw_0 0 gw_0 1 = some (z 2, upd z 2 (nI r), gw_0, gw_0, 0) := by
  unfold f_X10_set f_X10_set_20 f_X10_set_41
  simp only [↓reduceIte, if_neg (show ¬ (0 : Int32) < 0 by decide), if_pos (show (0 : Int32) ≤ 2 by decide), show (2 : Int32) + 0 = 2 by decide, q_k2, q_n2, zk_let]
  rw [if_neg (show ¬ nI r < 1 from nI_nlt (b := 1) h1 (by omega)), if_pos (show nI r ≤ 20 from nI_le (b := 20) h2 (by omega)), gw_rec1, Option.bind_some]
theorem gw_r_set1 {n t r : Nat} {z : Nat → Int32} (hI : gw_I n t z) (h2 : r ≤ 40) : f_X10_set 1 (nI r) z gw_0 gw_0 gw_0 gw_0 0 gw_0 1 = some (z 3, upd z 3 (nI r), gw_0, gw_0, 0) ∧ gw_I n t (upd z 3 (nI r)) := by
  refine ⟨?_, ?_⟩
  · unfold f_X10_set f_X10_set_20 f_X10_set_41
    simp only [↓reduceIte, if_neg (show ¬ (1 : Int32) = 0 by decide), if_neg (show ¬ (1 : Int32) < 0 by decide), if_pos (show (1 : Int32) ≤ 2 by decide), show (2 : Int32) + 1 = 3 by decide, q_k3, q_n3, zk_let]
    rw [if_neg (nI_pos (n := r) (by omega)), if_pos (show nI r ≤ 40 from nI_le (b := 40) h2 (by omega)), gw_rec1, Option.bind_some]
  · obtain ⟨⟨a0, a1, a2, a3, a4, a5, a6⟩, hG⟩ := hI
    refine ⟨⟨(pk_un (by omega)).trans a0, (pk_un (by omega)).trans a1, a2, a3, by rw [pk_un (by omega)]; exact a4, by rw [pk_us]; exact nI_pos (by omega), fun p hp => ?_⟩, fun p hp => (hG p hp).cong (pk_un (by omega)) (pk_un (by omega)) (pk_un (by omega))⟩
    rw [pk_un (by omega), pk_un (by omega)]
    exact a6 p hp
theorem gw_r_set2 {n t r : Nat} {z : Nat → Int32} (hI : gw_I n t z) (h2 : r ≤ 1) : f_X10_set 2 (nI r) z gw_0 gw_0 gw_0 gw_0 0 gw_0 1 = some (z 4, upd z 4 (nI r), gw_0, gw_0, 0) ∧ gw_I n t (upd z 4 (nI r)) := by
  refine ⟨?_, ?_⟩
  · unfold f_X10_set f_X10_set_20 f_X10_set_41
    simp only [↓reduceIte, if_neg (show ¬ (2 : Int32) = 0 by decide), if_neg (show ¬ (2 : Int32) = 1 by decide), if_neg (show ¬ (2 : Int32) < 0 by decide), if_pos (show (2 : Int32) ≤ 2 by decide), show (2 : Int32) + 2 = 4 by decide, q_k4, q_n4, zk_let]
    rw [if_neg (nI_pos (n := r) (by omega)), if_pos (show nI r ≤ 1 from nI_le (b := 1) h2 (by omega)), gw_rec1, Option.bind_some]
  · obtain ⟨⟨a0, a1, a2, a3, a4, a5, a6⟩, hG⟩ := hI
    refine ⟨⟨(pk_un (by omega)).trans a0, (pk_un (by omega)).trans a1, a2, a3, by rw [pk_un (by omega)]; exact a4, by rw [pk_un (by omega)]; exact a5, fun p hp => ?_⟩, fun p hp => (hG p hp).cong (pk_un (by omega)) (pk_un (by omega)) (pk_un (by omega))⟩
    rw [pk_un (by omega), pk_un (by omega)]
    exact a6 p hp
/-- sweep -/
theorem gw_r_sweep {n t : Nat} {z z' : Nat → Int32} {r : Int32} (hI : gw_I n t z) (h : f_X10_sweep z gw_0 gw_0 gw_0 gw_0 0 gw_0 1 = some (r, z', gw_0, gw_0, 0)) : r = nI (gw_bk n z) ∧ gw_I n t z' ∧ z' 2 = z 2 ∧ gw_bk n z' = 0 := by
  unfold f_X10_sweep at h
  rw [gw_rec1, Option.bind_some] at h
  cases e : f_X10_sweepAll z with
  | none =>
    rw [e] at h
    cases h
  | some q =>
    rw [e, Option.bind_some] at h
    obtain ⟨s1, s2, s3, s4⟩ := gw_sweep hI.1 hI.2 q e
    simp only [Option.some.injEq, Prod.mk.injEq] at h
    obtain ⟨rfl, rfl, -⟩ := h
    exact ⟨s1, ⟨hI.1.fr s3, s2⟩, s3 2 (by omega), gw_cnz n (fun p hp => decide_eq_false (s4 p hp))⟩
/-- pass -/
theorem gw_r_pass {t m : Nat} {z : Nat → Int32} (h0 : z 0 = nI t) (hok : gw_OK z m) (h1 : 1 ≤ m) (h2 : m ≤ 600) (ht : t + m ≤ 20000) : f_X10_pass (nI m) z gw_0 gw_0 gw_0 gw_0 0 gw_0 1 = some (gw_q z m 5 - z 5, gw_q z m, gw_0, gw_0, 0) := by
  unfold f_X10_pass
  rw [if_neg (show ¬ nI m < 1 from nI_nlt (b := 1) h1 (by omega)), q_l600, if_pos (nI_le h2 (by omega)), q_k0, q_n0, h0, nI_add, show (20000 : Int32) = nI 20000 from rfl, if_pos (nI_le ht (by omega)), gw_rec1, Option.bind_some, q_k5, q_let, q_n5]
  refine q_loop (n := m) (P := fun o => o = some (gw_q z m 5 - z 5, gw_q z m, gw_0, gw_0, 0)) (fun i (s : Int32 × (Nat → Int32)) => i ≤ m ∧ s.1 = nI i ∧ s.2 = gw_q z i) ?_ m 0 zk_N (0, z) (by omega) (by unfold zk_N; omega) ⟨by omega, rfl, rfl⟩
  intro i s hi
  obtain ⟨x3, y⟩ := s
  obtain ⟨him, e1, e2⟩ := hi
  dsimp only at e1 e2
  subst e1 e2
  by_cases hmi : i < m
  · left
    refine ⟨hmi, (nI (i + 1), gw_q z (i + 1)), ⟨by omega, rfl, rfl⟩, fun kk => ?_⟩
    unfold F_X10_pass_44
    dsimp only
    rw [if_neg (nI_ge hmi (by omega)), hok i hmi, Option.bind_some, nI_1]
  · right
    intro kk
    have e : i = m := by omega
    subst e
    unfold F_X10_pass_44
    dsimp only
    rw [if_pos (nI_le (Nat.le_refl _) (by omega)), q_k5, q_n5]
/-- undo -/
theorem gw_o_undo {B m k : Nat} {st : VX6} {hi : VX2} {z : Nat → Int32} (hm : m < 6) (h1 : hi.2.1 = nI ((m + 1) % 6)) (hk1 : 1 ≤ k) (hk5 : k ≤ 5) (h2 : hi.2.2 = nI k) (hrow : q_S B (hi.1 m) z gw_0 gw_0) : ∃ r st' hi', f_X9_undo st hi = some (r, st', hi') ∧ ¬ r < 0 ∧ q_S B st' z gw_0 gw_0 ∧ gw_H hi' := by
  obtain ⟨v', ev, hv⟩ := hrow.copy st
  have er : zk_rem (nI ((m + 1) % 6) + 6 - 1) 6 = nI m := by
    rw [show nI ((m + 1) % 6) + 6 = nI ((m + 1) % 6 + 5 + 1) from nI_add _ 6, nI_pred, show zk_rem (nI ((m + 1) % 6 + 5)) 6 = nI (((m + 1) % 6 + 5) % 6) from pk_rem (d := 6) (by omega) (by decide) (by decide), show ((m + 1) % 6 + 5) % 6 = m by omega]
  have c1 : (1 : Int32) ≤ nI k := nI_le (a := 1) hk1 (by omega)
  obtain ⟨k', rfl⟩ : ∃ x, k = x + 1 := ⟨k - 1, by omega⟩
  refine ⟨nI k', v', (hi.1, nI m, nI k'), ?_, nI_pos (by omega), hv, m, k', hm, by omega, rfl, rfl⟩
  unfold f_X9_undo f_X2_stepBack
  rw [h1, h2, if_pos c1, q_let, er, q_let, nI_pred]
  unfold f_X2_copyNotedInto f_X2_rowAt zk_oc
  rw [if_neg (nI_pos (n := m) (by omega)), if_pos (show nI m < 6 from nI_lt (b := 6) hm (by omega)), q_ck hm (by omega), q_cl (by omega), Option.bind_some]
  dsimp only
  rw [if_pos hm, ev]
  rfl
