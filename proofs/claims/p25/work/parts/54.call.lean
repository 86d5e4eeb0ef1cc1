/-! PURE PART: looking: a call of the diary -/
theorem q_fl {x : Int32} {a n : Nat} (h : ¬ x < 0) (hn : n < 2 ^ 31) (h2 : x < nI n) : ∃ s, s < n ∧ x = nI s := by
  obtain ⟨s, hs, rfl⟩ := nI_of h
  exact ⟨s, (nI_ltI hs hn).mp h2, rfl⟩
set_option maxHeartbeats 1000000 in
theorem q_c_call {B tm : Nat} {st : VX6} {z : Nat → Int32} (h : q_R B tm st.1 z) (htm : tm ≤ 20600) (x y : Int32) : ∃ r, f_X9_call x y st = some r ∧ f_X10_call x y z = some r := by
  obtain ⟨n, k, t, ⟨L, c, T', hV, hcl, hc, hT⟩, ht, -⟩ := h
  obtain ⟨d1, d2, d3, -⟩ := hV.2.2.2.1
  have hcb : c < 2 ^ 20 := by omega
  unfold f_X9_call f_X10_call f_X0_read
  by_cases c1 : x < 0
  · exact ⟨-1, by rw [if_pos c1], by rw [if_pos c1]⟩
  by_cases c2 : 12 ≤ x
  · exact ⟨-1, by rw [if_neg c1, if_pos c2], by rw [if_neg c1, if_pos c2]⟩
  by_cases c3 : y < 0
  · exact ⟨-1, by rw [if_neg c1, if_neg c2, if_pos c3], by rw [if_neg c1, if_neg c2, if_pos c3]⟩
  obtain ⟨a, ha, rfl⟩ := q_fl (a := 0) (n := 12) c1 (by omega) (Int32.not_le.mp c2)
  obtain ⟨b, hb, rfl⟩ := nI_of c3
  by_cases c4 : ¬ b < 3
  · have c5 : ¬ nI b < 3 := nI_nlt (b := 3) (by omega) (by omega)
    have c6 : ¬ nI b ≤ 2 := nI_ge (a := 2) (by omega) (by omega)
    exact ⟨-1, by rw [if_neg c1, if_neg c2, if_neg c3, if_neg c5], by rw [if_neg c1, if_neg c2, if_neg c3, if_neg c6]⟩
  have c4 := Classical.not_not.mp c4
  have c5 : nI b < 3 := nI_lt (b := 3) c4 (by omega)
  have c6 : nI b ≤ 2 := nI_le (b := 2) (by omega) (by omega)
  rw [if_neg c1, if_neg c2, if_neg c3, if_pos c5, if_neg c1, if_neg c2, if_neg c3, if_pos c6, if_neg c1, if_neg c3, if_pos c5, d1]
  simp only [q_k5, q_n5, d2]
  by_cases c7 : a < c
  · have e1 : ¬ (if 12 < nI c then (12 : Int32) else nI c) ≤ nI a := by
      by_cases w : 12 < nI c
      · rw [if_pos w]
        exact nI_ge (b := 12) ha (by omega)
      · rw [if_neg w]
        exact nI_ge c7 (by omega)
    have e2 : nI c - 1 - nI a = nI (c - 1 - a) := by
      rw [show nI c - 1 = nI (c - 1) from by rw [show c = c - 1 + 1 by omega]; exact nI_pred _, pk_sub (by omega)]
    have g := d3 a ha c7
    rw [if_neg e1, if_pos (show nI a < nI c from nI_lt c7 (by omega)), e2, q_fm (by omega), Option.bind_some, show nI ((c - 1 - a) % 12) * 3 = nI ((c - 1 - a) % 12 * 3) from pk_mul _ 3, nI_add, q_ck (by omega) (by omega), q_cl (by omega), Option.bind_some, g b c4]
    refine ⟨_, rfl, ?_⟩
    rcases (show b = 0 ∨ b = 1 ∨ b = 2 by omega) with rfl | rfl | rfl
    · rw [if_pos (show nI 0 = 0 from rfl), q_a332, q_ck (by omega) (by omega), q_cl (by omega)]
    · rw [if_neg (show ¬ nI 1 = 0 by decide), if_pos (show nI 1 = 1 from rfl), q_a344, q_ck (by omega) (by omega), q_cl (by omega)]
    · rw [if_neg (show ¬ nI 2 = 0 by decide), if_neg (show ¬ nI 2 = 1 by decide), q_a356, q_ck (by omega) (by omega), q_cl (by omega)]
  · have e1 : (if 12 < nI c then (12 : Int32) else nI c) ≤ nI a := by
      have w : ¬ (12 : Int32) < nI c := nI_nlt (a := 12) (by omega) (by omega)
      rw [if_neg w]
      exact nI_le (by omega) (by omega)
    rw [if_pos e1, if_neg (show ¬ nI a < nI c from nI_nlt (by omega) (by omega)), Option.bind_some]
    exact ⟨-9, rfl, rfl⟩
