/-! PURE PART: give and pass -/
section QP
variable {pr : VX5} {dy : VX0} {ln : VX3} {now room bound drift br lt fl sw ps lo : Int32} {z : Nat → Int32} {L L0 : Nat → List Nat} {n k c T t : Nat}
theorem q_V.give (h : q_V pr dy now room bound drift br lt fl sw ps lo z L n c T t) (hn : n < 40) (hT : T < 2 ^ 31) {j : Nat} (hj : j < 24) (x1 x2 x3 : Int32) (h1 : ∃ d, x1 = nI d ∧ d ≤ 21200 + 511 * c) (h2 : ∃ d, x2 = nI d ∧ d ≤ 511) (h3 : ∃ d, x3 = nI d ∧ d ≤ 99) (h4 : x3 ≠ 0 → x2 ≠ 0) : q_V (upd (upd (upd (upd (upd (upd pr.1 (n * 6 + 0) 0) (n * 6 + 1) x1) (n * 6 + 2) x2) (n * 6 + 3) x3) (n * 6 + 4) 0) (n * 6 + 5) 0, nI (n + 1)) dy now room bound drift br lt fl sw ps lo (upd (upd (upd (upd (upd (upd (upd (upd z 1 (nI (n + 1))) (12 + n) x1) (52 + n) x2) (92 + n) x3) (132 + n) 0) (172 + n) (nI j)) (212 + n) (z 11)) 11 (z 11 + 1)) (va_up L j (L j ++ [n])) (n + 1) c (T + 1) t := by
  obtain ⟨⟨a1, a2⟩, b, sc, d, e, f⟩ := h
  have hnl : ∀ i, i < 25 → n ∉ L i := fun i hi y => by
    have := ((b.2.1 i hi).2.2 n y).1
    omega
  obtain ⟨e1, e2, e3, e4⟩ := e
  obtain ⟨s1, s2, s3, s4, s5, s6, s7, s8, s9, s10, s11⟩ := sc
  have hz11 := b.2.2.1
  have q2 := e2 n (Nat.le_refl _) hn
  refine ⟨⟨rfl, fun q hq => ?_⟩, b.stand (q_Lx_id hnl) (by omega) (by omega) (by omega) (by omega) (fun q hq => by omega) hT (by simp (disch := omega) only [pk_us, pk_un]) (Eq.trans (by simp (disch := omega) only [pk_us, pk_un]) hz11) (Eq.trans (b := z 11 + 1) (by simp (disch := omega) only [pk_us, pk_un]) (by rw [hz11, nI_1])) (by simp (disch := omega) only [pk_us, pk_un]) (fun q hq hne => ⟨by simp (disch := omega) only [pk_un], by simp (disch := omega) only [pk_un]⟩), ⟨s1, Eq.trans (by simp (disch := omega) only [pk_un]) s2, s3.trans (Eq.symm (by simp (disch := omega) only [pk_un])), s4.trans (Eq.symm (by simp (disch := omega) only [pk_un])), s5.trans (Eq.symm (by simp (disch := omega) only [pk_un])), ?_, s7.trans (Eq.symm (by simp (disch := omega) only [pk_un])), s8.trans (Eq.symm (by simp (disch := omega) only [pk_un])), s9.trans (Eq.symm (by simp (disch := omega) only [pk_un])), s10.trans (Eq.symm (by simp (disch := omega) only [pk_un])), s11.trans (Eq.symm (by simp (disch := omega) only [pk_un]))⟩, d.cong (fun i hi => by simp (disch := omega) only [pk_un]), ⟨fun q hq => ?_, fun q hq hq4 => ?_, fun i hi q hq => ?_, fun q hq => ?_⟩, ?_⟩
  · by_cases y : q = n
    · subst y
      simp (disch := omega) only [pk_us, pk_un]
      exact ⟨trivial, trivial, trivial, trivial, q2.1.symm, q2.2.symm⟩
    · simp (disch := omega) only [pk_un]
      exact a2 q (by omega)
  · rw [s6]
    congr 1
    have e5 : q_cn (fun q => decide ((upd (upd (upd (upd (upd (upd (upd (upd z 1 (nI (n + 1))) (12 + n) x1) (52 + n) x2) (92 + n) x3) (132 + n) 0) (172 + n) (nI j)) (212 + n) (z 11)) 11 (z 11 + 1)) (132 + q) = 3)) (n + 1) = q_cn (fun q => decide ((upd (upd (upd (upd (upd (upd (upd (upd z 1 (nI (n + 1))) (12 + n) x1) (52 + n) x2) (92 + n) x3) (132 + n) 0) (172 + n) (nI j)) (212 + n) (z 11)) 11 (z 11 + 1)) (132 + q) = 3)) n + 0 := by
      show _ + _ = _
      congr 1
      rw [if_neg]
      intro y
      have y := of_decide_eq_true y
      simp (disch := omega) only [pk_us, pk_un] at y
      exact absurd y (by decide)
    rw [e5, Nat.add_zero]
    exact q_cn_cong n (fun q hq => by simp (disch := omega) only [pk_un])
  · by_cases y : q = n
    · subst y
      simp (disch := omega) only [pk_us, pk_un]
      exact ⟨h1, h2, h3, h4⟩
    · simp (disch := omega) only [pk_un]
      exact e1 q (by omega)
  · simp (disch := omega) only [pk_un]
    exact e2 q (by omega) hq4
  · by_cases y : i = j
    · subst y
      rw [q_up_s] at hq
      rcases List.mem_append.mp hq with w | w
      · have := ((b.2.1 i (by omega)).2.2 q w).1
        simp (disch := omega) only [pk_un]
        exact e3 i hi q w
      · rw [List.mem_singleton.mp w]
        left
        simp (disch := omega) only [pk_us, pk_un]
    · rw [q_up_n y] at hq
      have := ((b.2.1 i (by omega)).2.2 q hq).1
      simp (disch := omega) only [pk_un]
      exact e3 i hi q hq
  · by_cases y : q = n
    · subst y
      simp (disch := omega) only [pk_us, pk_un]
      decide
    · simp (disch := omega) only [pk_un]
      exact e4 q (by omega)
  · rw [show (upd (upd (upd (upd (upd (upd (upd (upd z 1 (nI (n + 1))) (12 + n) x1) (52 + n) x2) (92 + n) x3) (132 + n) 0) (172 + n) (nI j)) (212 + n) (z 11)) 11 (z 11 + 1)) 2 = z 2 from by simp (disch := omega) only [pk_un]]
    exact f
set_option maxHeartbeats 2000000 in
theorem q_opGive (h : q_X pr ln dy now room bound drift br lt fl sw ps lo z n k c T t) (hT : T < 2 ^ 29) (hc0 : 21200 + 511 * c < 2 ^ 29) (ht : t ≤ 20600) (x y u : Int32) : ∃ r pr' ln', f_X8_addPromise x y u pr ln now = some (r, pr', ln') ∧ ((r < 0 ∧ pr' = pr ∧ ln' = ln ∧ ∀ sn hs pa ph pm be q, f_X10_give x y u z sn hs pa ph pm be q = some (r, z, pa, ph, pm)) ∨ (¬ r < 0 ∧ ∃ z', q_X pr' ln' dy now room bound drift br lt fl sw ps lo z' (n + 1) k c (T + 1) t ∧ ∀ sn hs pa ph pm be q, f_X10_give x y u z sn hs pa ph pm be q = q_kept r z' (f_X10_record z sn hs pa ph pm be q))) := by
  obtain ⟨L, c', T', h, hcl, hc, hT'⟩ := h
  have hn := h.n4
  have hz1 := h.2.1.2.2.2.1
  have no : ∀ (m : Option (Int32 × VX5 × VX3)) (M : (Nat → Int32) → (Nat → Int32) → (Nat → Int32) → (Nat → Int32) → Int32 → (Nat → Int32) → Int32 → Option (Int32 × (Nat → Int32) × (Nat → Int32) × (Nat → Int32) × Int32)) (r : Int32), r < 0 → m = some (r, pr, ln) → (∀ sn hs pa ph pm be q, M sn hs pa ph pm be q = some (r, z, pa, ph, pm)) → ∃ r pr' ln', m = some (r, pr', ln') ∧ ((r < 0 ∧ pr' = pr ∧ ln' = ln ∧ ∀ sn hs pa ph pm be q, M sn hs pa ph pm be q = some (r, z, pa, ph, pm)) ∨ (¬ r < 0 ∧ ∃ z', q_X pr' ln' dy now room bound drift br lt fl sw ps lo z' (n + 1) k c (T + 1) t ∧ ∀ sn hs pa ph pm be q, M sn hs pa ph pm be q = q_kept r z' (f_X10_record z sn hs pa ph pm be q))) := fun m M r h1 h2 h3 => ⟨r, pr, ln, h2, Or.inl ⟨h1, rfl, rfl, h3⟩⟩
  unfold f_X8_addPromise f_X10_give f_X10_give_37
  by_cases c1 : x < 1
  · simp only [if_pos c1]
    exact no _ _ (-1) (by decide) rfl (fun sn hs pa ph pm be q => by unfold f_X10_give_38; rw [if_pos rfl])
  by_cases c2 : 511 < x
  · simp only [if_neg c1, if_pos c2]
    exact no _ _ (-1) (by decide) rfl (fun sn hs pa ph pm be q => by unfold f_X10_give_38; rw [if_pos rfl])
  by_cases c3 : y < 0
  · simp only [if_neg c1, if_neg c2, if_pos c3]
    exact no _ _ (-1) (by decide) rfl (fun sn hs pa ph pm be q => by unfold f_X10_give_38; rw [if_pos rfl])
  by_cases c4 : ¬ y ≤ 511
  · simp only [if_neg c1, if_neg c2, if_neg c3, if_neg c4, if_pos (Int32.not_le.mp c4)]
    exact no _ _ (-1) (by decide) rfl (fun sn hs pa ph pm be q => by unfold f_X10_give_38; rw [if_pos rfl])
  have c4 := Classical.not_not.mp c4
  simp only [if_neg c1, if_neg c2, if_neg c3, if_pos c4, if_neg (Int32.not_lt.mpr c4)]
  unfold f_X8_addPromise_35
  by_cases c5 : u < 0
  · simp only [if_pos c5]
    refine no _ _ (-1) (by decide) (by split <;> rfl) (fun sn hs pa ph pm be q => by unfold f_X10_give_38; rw [if_pos rfl])
  simp only [if_neg c5]
  by_cases c6 : 99 < u
  · simp only [if_pos c6]
    refine no _ _ (-1) (by decide) ?_ (fun sn hs pa ph pm be q => by unfold f_X10_give_38; rw [if_pos rfl])
    by_cases c7 : y = 0
    · rw [if_pos c7, if_neg (fun w => absurd (Int32.lt_of_lt_of_le c6 w) (by decide))]
    · rw [if_neg c7, if_neg (Int32.not_le.mpr c6)]
  simp only [if_neg c6]
  have c6 := Int32.not_lt.mp c6
  unfold f_X10_give_38
  simp only [if_neg (show ¬ (1 : Int32) = 0 by decide)]
  by_cases c8 : y = 0 ∧ ¬ u ≤ 0
  · simp only [if_pos c8.1, if_neg c8.2]
    exact no _ _ (-1) (by decide) rfl (fun sn hs pa ph pm be q => rfl)
  have c9 : y = 0 → u ≤ 0 := fun w => Classical.byContradiction fun v => c8 ⟨w, v⟩
  have eC : ∀ (A B : Option (Int32 × VX5 × VX3)), (if y = 0 then if u ≤ 0 then A else B else if u ≤ 99 then A else B) = A := by
    intro A B
    by_cases w : y = 0
    · rw [if_pos w, if_pos (c9 w)]
    · rw [if_neg w, if_pos c6]
  have eM : ∀ (A B : Option (Int32 × (Nat → Int32) × (Nat → Int32) × (Nat → Int32) × Int32)), (if y = 0 then if u ≤ 0 then A else B else A) = A := by
    intro A B
    by_cases w : y = 0
    · rw [if_pos w, if_pos (c9 w)]
    · rw [if_neg w]
  simp only [eC, eM]
  unfold f_X5_given f_X10_give_55
  simp only [h.1.1, Option.bind_some, q_k1, q_n1, hz1]
  by_cases c10 : n = 40
  · have a1 : ¬ nI n < 40 := by rw [c10]; decide
    have a2 : nI n = 40 := by rw [c10]; rfl
    simp only [if_neg a1, if_pos a2]
    exact no _ _ (-3) (by decide) rfl (fun sn hs pa ph pm be q => rfl)
  have hn4 : n < 40 := by omega
  have a1 : nI n < 40 := nI_lt (b := 40) hn4 (by omega)
  have a2 : ¬ nI n = 40 := fun w => c10 ((nI_eq (b := 40) (by omega) (by omega)).mp w)
  obtain ⟨x', hx', hxx⟩ := nI_of2 (x := x) (M := 511) (n := 511) rfl (fun w => c1 (Int32.lt_trans w (by decide))) (Int32.not_lt.mp c2)
  obtain ⟨y', hy', hyy⟩ := nI_of2 (x := y) (M := 511) (n := 511) rfl c3 c4
  obtain ⟨u', hu', huu⟩ := nI_of2 (x := u) (M := 99) (n := 99) rfl c5 c6
  have hnow := h.2.2.1.1
  have hz0 := h.2.2.1.2.1
  have hz11 := h.2.1.2.2.1
  have ed : nI t + x = nI (t + x') := by rw [hxx, nI_add]
  obtain ⟨j, hj, hlf, hsd⟩ := q_dist (d := t + x') (t := t) (by omega) (by omega)
  obtain ⟨ln2, hjn, hcl2⟩ := q_join hcl (j := j) (p := n) (by omega) hn4 (fun i hi w => by have := ((h.2.1.2.1 i hi).2.2 n w).1; omega)
  have hV := h.give hn4 (by omega) hj (nI (t + x')) y u ⟨t + x', rfl, by omega⟩ ⟨y', hyy, hy'⟩ ⟨u', huu, hu'⟩ (fun w v => w (by
    have := c9 v
    rw [huu] at this ⊢
    have := (nI_leI (b := 0) (by omega) (by omega)).mp this
    rw [show u' = 0 by omega]
    rfl))
  have hsd2 := hsd (upd (upd (upd (upd (upd z 1 (nI (n + 1))) (12 + n) (nI (t + x'))) (52 + n) y) (92 + n) u) (132 + n) 0) n hn4 (by simp (disch := omega) only [pk_us, pk_un]) (Eq.trans (by simp (disch := omega) only [pk_un]) hz0)
  refine ⟨nI n, _, ln2, ?_, Or.inr ⟨nI_pos (by omega), _, ⟨_, c', T' + 1, hV, hcl2, hc, by omega⟩, fun sn hs pa ph pm be q => ?_⟩⟩
  · unfold f_X5_add
    simp only [if_pos a1, zk_let, hnow, ed, q_write0 hn4, q_write1 hn4, q_write2 hn4, q_write3 hn4, q_write4 hn4, q_write5 hn4, Option.bind_some, hlf, hjn, nI_1]
  · simp only [zk_let]
    simp (disch := omega) only [if_neg a2, q_a12, q_a52, q_a92, q_a132, q_ck, q_cl, q_k0, q_n0, pk_us, pk_un, hz0, ed, nI_1, hsd2, Option.bind_some]
    rfl
end QP
