/-! PURE PART: looking: a promise -/
/-- where a promise stands, on both sides -/
theorem q_where {z : Nat → Int32} {ln : VX3} {L : Nat → List Nat} {n T : Nat} (hcl : q_CL ln L) (hml : q_ML z L n T) {p : Nat} (hp : p < n) : (ln.2.2.2.1 p = -1 ∧ z (172 + p) = -1 ∧ ∀ j, j < 25 → p ∉ L j) ∨ ∃ j, j < 25 ∧ p ∈ L j ∧ ln.2.2.2.1 p = nI j ∧ z (172 + p) = nI j := by
  have hn := hml.2.2.2.2.1
  by_cases hz : ∀ j, j < 25 → p ∉ L j
  · exact Or.inl ⟨hcl.2 p (by omega) hz, (hml.1 p hp).2 hz, hz⟩
  · obtain ⟨j, hz⟩ := Classical.not_forall.mp hz
    obtain ⟨hj, hmm⟩ := Classical.not_imp.mp hz
    have hmm := Classical.not_not.mp hmm
    exact Or.inr ⟨j, hj, hmm, ((hcl.1 j hj).2.2.2.2 p hmm).2, (hml.at hp hj).mpr hmm⟩
/-- both tell the same of a promise, whatever s says of its slot -/
theorem q_tell {pr : VX5} {dy : VX0} {ln : VX3} {now room bound drift br lt fl sw ps lo : Int32} {z : Nat → Int32} {L : Nat → List Nat} {n c T t : Nat} (h : q_V pr dy now room bound drift br lt fl sw ps lo z L n c T t) (hcl : q_CL ln L) {p b : Nat} (hp : p < n) (hb : b ≤ 8) (s : Int32) : ∃ r, f_X8_tellPromise_25 (nI p) (nI b) pr ln s (z (172 + p)) = some r ∧ f_X10_promise_46 (nI p) (nI b) z s (z (172 + p)) = some r := by
  have hn := h.n4
  have hp4 : p < 40 := by omega
  have hpf := h.1.2 p hp
  unfold f_X8_tellPromise_25 f_X10_promise_46
  rw [q_fact0 hp4, q_fact1 hp4, q_fact2 hp4, q_fact3 hp4, q_fact4 hp4, q_fact5 hp4, hpf.1, hpf.2.1, hpf.2.2.1, hpf.2.2.2.1, hpf.2.2.2.2.1, hpf.2.2.2.2.2]
  simp only [Option.bind_some]
  rw [q_a132, q_a12, q_a52, q_a92, q_a252, q_a292, q_ck (i := 132 + p) (by omega) (by omega), q_cl (n := 132 + p) (by omega), q_ck (i := 12 + p) (by omega) (by omega), q_cl (n := 12 + p) (by omega), q_ck (i := 52 + p) (by omega) (by omega), q_cl (n := 52 + p) (by omega), q_ck (i := 92 + p) (by omega) (by omega), q_cl (n := 92 + p) (by omega), q_ck (i := 252 + p) (by omega) (by omega), q_cl (n := 252 + p) (by omega), q_ck (i := 292 + p) (by omega) (by omega), q_cl (n := 292 + p) (by omega)]
  by_cases b6 : b = 6
  · subst b6
    have pl : ∃ r, f_X3_placeOf (nI p) ln.1 ln.2.2.1 ln.2.2.2.1 ln.2.2.2.2 = some r ∧ (if z (172 + p) = -1 then some (-9) else f_X10_placeOf (nI p) z) = some r := by
      rcases q_where hcl h.2.1 hp with ⟨w1, w2, w3⟩ | ⟨j, hj, hm, w1, w2⟩
      · exact ⟨-9, q_place_no hcl hp4 w3, by rw [if_pos w2]⟩
      · obtain ⟨pre, post, e⟩ := List.append_of_mem hm
        refine ⟨nI pre.length, q_place hcl hj pre post e, ?_⟩
        rw [if_neg (fun y => nI_pos (n := j) (by omega) (by rw [← w2, y]; decide)), q_placeOf h.2.1 hj e]
    obtain ⟨r, k1, k2⟩ := pl
    refine ⟨r, ?_, ?_⟩
    · simp only [if_neg (show ¬ nI 6 = 0 by decide), if_neg (show ¬ nI 6 = 1 by decide), if_neg (show ¬ nI 6 = 2 by decide), if_neg (show ¬ nI 6 = 3 by decide), if_neg (show ¬ nI 6 = 4 by decide), if_neg (show ¬ nI 6 = 5 by decide), if_pos (show nI 6 = 6 from rfl), k1, Option.bind_some]
    · simp only [if_neg (show ¬ nI 6 = 0 by decide), if_neg (show ¬ nI 6 = 1 by decide), if_neg (show ¬ nI 6 = 2 by decide), if_neg (show ¬ nI 6 = 3 by decide), if_neg (show ¬ nI 6 = 4 by decide), if_neg (show ¬ nI 6 = 5 by decide), if_pos (show nI 6 = 6 from rfl)]
      by_cases w : z (172 + p) = -1
      · rw [if_pos w] at k2 ⊢
        exact k2
      · rw [if_neg w] at k2 ⊢
        rw [k2]
        rfl
  · rcases (show b = 0 ∨ b = 1 ∨ b = 2 ∨ b = 3 ∨ b = 4 ∨ b = 5 ∨ b = 7 ∨ b = 8 by omega) with rfl | rfl | rfl | rfl | rfl | rfl | rfl | rfl
    · exact ⟨_, by rw [if_pos (show nI 0 = 0 from rfl)], by rw [if_pos (show nI 0 = 0 from rfl)]⟩
    · exact ⟨_, by rw [if_neg (show ¬ nI 1 = 0 by decide), if_pos (show nI 1 = 1 from rfl)], by rw [if_neg (show ¬ nI 1 = 0 by decide), if_pos (show nI 1 = 1 from rfl)]⟩
    · exact ⟨_, by rw [if_neg (show ¬ nI 2 = 0 by decide), if_neg (show ¬ nI 2 = 1 by decide), if_pos (show nI 2 = 2 from rfl)], by rw [if_neg (show ¬ nI 2 = 0 by decide), if_neg (show ¬ nI 2 = 1 by decide), if_pos (show nI 2 = 2 from rfl)]⟩
    · exact ⟨_, by rw [if_neg (show ¬ nI 3 = 0 by decide), if_neg (show ¬ nI 3 = 1 by decide), if_neg (show ¬ nI 3 = 2 by decide), if_pos (show nI 3 = 3 from rfl)], by rw [if_neg (show ¬ nI 3 = 0 by decide), if_neg (show ¬ nI 3 = 1 by decide), if_neg (show ¬ nI 3 = 2 by decide), if_pos (show nI 3 = 3 from rfl)]⟩
    · rw [if_neg (show ¬ nI 4 = 0 by decide), if_neg (show ¬ nI 4 = 1 by decide), if_neg (show ¬ nI 4 = 2 by decide), if_neg (show ¬ nI 4 = 3 by decide), if_pos (show nI 4 = 4 from rfl), if_neg (show ¬ nI 4 = 0 by decide), if_neg (show ¬ nI 4 = 1 by decide), if_neg (show ¬ nI 4 = 2 by decide), if_neg (show ¬ nI 4 = 3 by decide), if_pos (show nI 4 = 4 from rfl)]
      by_cases w : s = 0
      · exact ⟨-9, by rw [if_pos w], by rw [if_pos w]⟩
      · exact ⟨z (172 + p) / 8, by rw [if_neg w], by rw [if_neg w]⟩
    · rw [if_neg (show ¬ nI 5 = 0 by decide), if_neg (show ¬ nI 5 = 1 by decide), if_neg (show ¬ nI 5 = 2 by decide), if_neg (show ¬ nI 5 = 3 by decide), if_neg (show ¬ nI 5 = 4 by decide), if_pos (show nI 5 = 5 from rfl), if_neg (show ¬ nI 5 = 0 by decide), if_neg (show ¬ nI 5 = 1 by decide), if_neg (show ¬ nI 5 = 2 by decide), if_neg (show ¬ nI 5 = 3 by decide), if_neg (show ¬ nI 5 = 4 by decide), if_pos (show nI 5 = 5 from rfl)]
      by_cases w : s = 0
      · exact ⟨-9, by rw [if_pos w], by rw [if_pos w]⟩
      · exact ⟨zk_rem (z (172 + p)) 8, by rw [if_neg w], by rw [if_neg w]⟩
    · refine ⟨z (252 + p), ?_, ?_⟩ <;> simp only [if_neg (show ¬ nI 7 = 0 by decide), if_neg (show ¬ nI 7 = 1 by decide), if_neg (show ¬ nI 7 = 2 by decide), if_neg (show ¬ nI 7 = 3 by decide), if_neg (show ¬ nI 7 = 4 by decide), if_neg (show ¬ nI 7 = 5 by decide), if_neg (show ¬ nI 7 = 6 by decide), if_pos (show nI 7 = 7 from rfl)]
    · refine ⟨z (292 + p), ?_, ?_⟩
      · simp only [if_neg (show ¬ nI 8 = 0 by decide), if_neg (show ¬ nI 8 = 1 by decide), if_neg (show ¬ nI 8 = 2 by decide), if_neg (show ¬ nI 8 = 3 by decide), if_neg (show ¬ nI 8 = 4 by decide), if_neg (show ¬ nI 8 = 5 by decide), if_neg (show ¬ nI 8 = 6 by decide), if_neg (show ¬ nI 8 = 7 by decide), if_pos (show nI 8 = 8 from rfl)]
      · simp only [if_neg (show ¬ nI 8 = 0 by decide), if_neg (show ¬ nI 8 = 1 by decide), if_neg (show ¬ nI 8 = 2 by decide), if_neg (show ¬ nI 8 = 3 by decide), if_neg (show ¬ nI 8 = 4 by decide), if_neg (show ¬ nI 8 = 5 by decide), if_neg (show ¬ nI 8 = 6 by decide), if_neg (show ¬ nI 8 = 7 by decide)]
theorem q_c_promise {B tm : Nat} {st : VX6} {z : Nat → Int32} (h : q_R B tm st.1 z) (x y : Int32) : ∃ r, f_X9_promise x y st = some r ∧ f_X10_promise x y z = some r := by
  obtain ⟨n, k, t, ⟨L, c, T', hV, hcl, hc, hT⟩, ht, -⟩ := h
  have hn := hV.n4
  unfold f_X9_promise f_X10_promise
  rw [hV.1.1]
  rcases q_isP hV.2.1.2.2.2.1 hn x with ⟨e1, e2⟩ | ⟨p, hp, rfl, e1, e2⟩
  · exact ⟨-1, by rw [e1, Option.bind_some, if_pos rfl], by rw [e2, Option.bind_some, if_pos rfl]⟩
  rw [e1, e2, Option.bind_some, Option.bind_some, if_neg (show ¬ (1 : Int32) = 0 by decide), if_neg (show ¬ (1 : Int32) = 0 by decide)]
  by_cases c1 : y < 0
  · exact ⟨-1, by rw [if_pos c1], by rw [if_pos c1]⟩
  by_cases c2 : ¬ y ≤ 8
  · exact ⟨-1, by rw [if_neg c1, if_neg c2], by rw [if_neg c1, if_neg c2]⟩
  have c2 := Classical.not_not.mp c2
  obtain ⟨b, hb, rfl⟩ := nI_of2 (M := 8) (n := 8) rfl c1 c2
  rw [if_neg c1, if_pos c2, if_neg c1, if_pos c2, q_a172, q_ck (by omega) (by omega), q_cl (by omega), q_let]
  unfold f_X8_tellPromise f_X8_tellPromise_24 f_X10_promise_45
  rw [q_lineOf (by omega), Option.bind_some]
  rcases q_where hcl hV.2.1 hp with ⟨w1, w2, w3⟩ | ⟨j, hj, hm, w1, w2⟩
  · obtain ⟨r, k1, k2⟩ := q_tell hV hcl hp hb 0
    refine ⟨r, ?_, ?_⟩
    · rw [w1, if_pos rfl, ← w2, k1, Option.bind_some]
    · rw [if_pos (show z (172 + p) < 0 by rw [w2]; decide), k2]
  · by_cases j24 : j = 24
    · subst j24
      obtain ⟨r, k1, k2⟩ := q_tell hV hcl hp hb 0
      refine ⟨r, ?_, ?_⟩
      · rw [w1, if_neg (show ¬ nI 24 = -1 by decide), if_pos (show nI 24 = 24 from rfl), ← w2, k1, Option.bind_some]
      · rw [if_neg (show ¬ z (172 + p) < 0 by rw [w2]; decide), if_pos (show 24 ≤ z (172 + p) by rw [w2]; decide), k2]
    · obtain ⟨r, k1, k2⟩ := q_tell hV hcl hp hb 1
      refine ⟨r, ?_, ?_⟩
      · rw [w1, if_neg (show ¬ nI j = -1 from fun y => nI_pos (n := j) (by omega) (by rw [y]; decide)), if_neg (show ¬ nI j = 24 from fun y => j24 ((nI_eq (b := 24) (by omega) (by omega)).mp y)), ← w2, k1, Option.bind_some]
      · rw [if_neg (show ¬ z (172 + p) < 0 by rw [w2]; exact nI_pos (by omega)), if_neg (show ¬ 24 ≤ z (172 + p) by rw [w2]; exact nI_ge (b := 24) (by omega) (by omega)), k2]
