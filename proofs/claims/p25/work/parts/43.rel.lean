/-! PURE PART: a wheel of the class beside the model's row -/
theorem q_PF.cong {f z z' : Nat → Int32} {n : Nat} (hn : n ≤ 40) (h : q_PF f z n) (e : ∀ i, 12 ≤ i ∧ i < 172 ∨ 252 ≤ i ∧ i < 332 → z' i = z i) : q_PF f z' n := by
  intro p hp
  rw [e (132 + p) (by omega), e (12 + p) (by omega), e (52 + p) (by omega), e (92 + p) (by omega), e (252 + p) (by omega), e (292 + p) (by omega)]
  exact h p hp

theorem q_PF.set0 {f z : Nat → Int32} {n p : Nat} (hn : n ≤ 40) (hp : p < 40) (h : q_PF f z n) (x : Int32) : q_PF (upd f (p * 6 + 0) x) (upd z (132 + p) x) n := by
  intro q hq
  have g := h q hq
  by_cases e : q = p
  · subst e
    simp (disch := omega) only [pk_us, pk_un]
    exact ⟨trivial, g.2.1, g.2.2.1, g.2.2.2.1, g.2.2.2.2.1, g.2.2.2.2.2⟩
  · simp (disch := omega) only [pk_un]
    exact g
theorem q_PF.set1 {f z : Nat → Int32} {n p : Nat} (hn : n ≤ 40) (hp : p < 40) (h : q_PF f z n) (x : Int32) : q_PF (upd f (p * 6 + 1) x) (upd z (12 + p) x) n := by
  intro q hq
  have g := h q hq
  by_cases e : q = p
  · subst e
    simp (disch := omega) only [pk_us, pk_un]
    exact ⟨g.1, trivial, g.2.2.1, g.2.2.2.1, g.2.2.2.2.1, g.2.2.2.2.2⟩
  · simp (disch := omega) only [pk_un]
    exact g
theorem q_PF.set2 {f z : Nat → Int32} {n p : Nat} (hn : n ≤ 40) (hp : p < 40) (h : q_PF f z n) (x : Int32) : q_PF (upd f (p * 6 + 2) x) (upd z (52 + p) x) n := by
  intro q hq
  have g := h q hq
  by_cases e : q = p
  · subst e
    simp (disch := omega) only [pk_us, pk_un]
    exact ⟨g.1, g.2.1, trivial, g.2.2.2.1, g.2.2.2.2.1, g.2.2.2.2.2⟩
  · simp (disch := omega) only [pk_un]
    exact g
theorem q_PF.set3 {f z : Nat → Int32} {n p : Nat} (hn : n ≤ 40) (hp : p < 40) (h : q_PF f z n) (x : Int32) : q_PF (upd f (p * 6 + 3) x) (upd z (92 + p) x) n := by
  intro q hq
  have g := h q hq
  by_cases e : q = p
  · subst e
    simp (disch := omega) only [pk_us, pk_un]
    exact ⟨g.1, g.2.1, g.2.2.1, trivial, g.2.2.2.2.1, g.2.2.2.2.2⟩
  · simp (disch := omega) only [pk_un]
    exact g
theorem q_PF.set4 {f z : Nat → Int32} {n p : Nat} (hn : n ≤ 40) (hp : p < 40) (h : q_PF f z n) (x : Int32) : q_PF (upd f (p * 6 + 4) x) (upd z (252 + p) x) n := by
  intro q hq
  have g := h q hq
  by_cases e : q = p
  · subst e
    simp (disch := omega) only [pk_us, pk_un]
    exact ⟨g.1, g.2.1, g.2.2.1, g.2.2.2.1, trivial, g.2.2.2.2.2⟩
  · simp (disch := omega) only [pk_un]
    exact g
theorem q_PF.set5 {f z : Nat → Int32} {n p : Nat} (hn : n ≤ 40) (hp : p < 40) (h : q_PF f z n) (x : Int32) : q_PF (upd f (p * 6 + 5) x) (upd z (292 + p) x) n := by
  intro q hq
  have g := h q hq
  by_cases e : q = p
  · subst e
    simp (disch := omega) only [pk_us, pk_un]
    exact ⟨g.1, g.2.1, g.2.2.1, g.2.2.2.1, g.2.2.2.2.1, trivial⟩
  · simp (disch := omega) only [pk_un]
    exact g
/-- the numbers that are the row's own -/
def q_SC (now room bound drift br lt fl sw ps lo : Int32) (z : Nat → Int32) (n t : Nat) : Prop := now = nI t ∧ z 0 = nI t ∧ room = z 2 ∧ bound = z 3 ∧ drift = z 4 ∧ br = nI (q_cn (fun q => decide (z (132 + q) = 3)) n) ∧ lt = z 6 ∧ fl = z 7 ∧ sw = z 8 ∧ ps = z 9 ∧ lo = z 10
theorem q_SC.cong {now room bound drift br lt fl sw ps lo : Int32} {z z' : Nat → Int32} {n t : Nat} (h : q_SC now room bound drift br lt fl sw ps lo z n t) (e : ∀ i, i = 0 ∨ 2 ≤ i ∧ i < 5 ∨ 6 ≤ i ∧ i < 11 → z' i = z i) (e2 : ∀ q, q < n → (z' (132 + q) = 3 ↔ z (132 + q) = 3)) : q_SC now room bound drift br lt fl sw ps lo z' n t := by
  obtain ⟨h1, h2, h3, h4, h5, h6, h7, h8, h9, h10, h11⟩ := h
  refine ⟨h1, (e 0 (by omega)).trans h2, h3.trans (e 2 (by omega)).symm, h4.trans (e 3 (by omega)).symm, h5.trans (e 4 (by omega)).symm, ?_, h7.trans (e 6 (by omega)).symm, h8.trans (e 7 (by omega)).symm, h9.trans (e 8 (by omega)).symm, h10.trans (e 9 (by omega)).symm, h11.trans (e 10 (by omega)).symm⟩
  rw [h6]
  congr 1
  exact q_cn_cong n (fun q hq => by rw [decide_eq_decide]; exact (e2 q hq).symm)
/-- the diary -/
def q_DY (dy : VX0) (z : Nat → Int32) (c : Nat) : Prop := dy.2 = nI c ∧ z 5 = nI c ∧ (∀ k, k < 12 → k < c → ∀ i, i < 3 → dy.1 (((c - 1 - k) % 12) * 3 + i) = z (332 + 12 * i + k)) ∧ ∀ p, p < 40 → ∃ d, z (252 + p) = nI d ∧ d ≤ c
theorem q_DY.cong {dy : VX0} {z z' : Nat → Int32} {c : Nat} (h : q_DY dy z c) (e : ∀ i, i = 5 ∨ 332 ≤ i ∧ i < 368 ∨ 252 ≤ i ∧ i < 292 → z' i = z i) : q_DY dy z' c := by
  obtain ⟨h1, h2, h3, h4⟩ := h
  refine ⟨h1, (e 5 (by omega)).trans h2, fun k hk hc i hi => ?_, fun p hp => ?_⟩
  · rw [e (332 + 12 * i + k) (by omega)]
    exact h3 k hk hc i hi
  · rw [e (252 + p) (by omega)]
    exact h4 p hp
/-- what bounds hold of the row -/
def q_BD (z : Nat → Int32) (L : Nat → List Nat) (n c : Nat) : Prop := (∀ p, p < n → (∃ d, z (12 + p) = nI d ∧ d ≤ 21200 + 511 * c) ∧ (∃ d, z (52 + p) = nI d ∧ d ≤ 511) ∧ (∃ d, z (92 + p) = nI d ∧ d ≤ 99) ∧ (z (92 + p) ≠ 0 → z (52 + p) ≠ 0)) ∧ (∀ p, n ≤ p → p < 40 → z (252 + p) = 0 ∧ z (292 + p) = 0) ∧ (∀ j, j < 24 → ∀ p ∈ L j, z (132 + p) = 0 ∨ z (132 + p) = 3) ∧ ∀ p, p < n → ¬ z (132 + p) < 0
theorem q_BD.cong {z z' : Nat → Int32} {L L' : Nat → List Nat} {n c c' : Nat} (hn : n ≤ 40) (h : q_BD z L n c) (hc : c ≤ c') (e : ∀ i, 12 ≤ i ∧ i < 132 ∨ 252 ≤ i ∧ i < 332 → z' i = z i) (e3 : ∀ p, p < n → z' (132 + p) = z (132 + p) ∨ ¬ z' (132 + p) < 0) (e2 : ∀ j, j < 24 → ∀ p ∈ L' j, (p ∈ L j ∧ z' (132 + p) = z (132 + p)) ∨ z' (132 + p) = 0 ∨ z' (132 + p) = 3) : q_BD z' L' n c' := by
  obtain ⟨h1, h2, h3, h4⟩ := h
  refine ⟨fun p hp => ?_, fun p hp hp4 => ?_, fun j hj p hp => ?_, fun p hp => ?_⟩
  · rw [e (12 + p) (by omega), e (52 + p) (by omega), e (92 + p) (by omega)]
    obtain ⟨⟨d, a, b⟩, g⟩ := h1 p hp
    exact ⟨⟨d, a, by omega⟩, g⟩
  · rw [e (252 + p) (by omega), e (292 + p) (by omega)]
    exact h2 p hp hp4
  · rcases e2 j hj p hp with ⟨a, b⟩ | a
    · rw [b]
      exact h3 j hj p a
    · exact a
  · rcases e3 p hp with a | a
    · rw [a]
      exact h4 p hp
    · exact a
/-- a wheel of the class, without its lines, beside the model's row -/
def q_V (pr : VX5) (dy : VX0) (now room bound drift br lt fl sw ps lo : Int32) (z : Nat → Int32) (L : Nat → List Nat) (n c T t : Nat) : Prop := (pr.2 = nI n ∧ q_PF pr.1 z n) ∧ q_ML z L n T ∧ q_SC now room bound drift br lt fl sw ps lo z n t ∧ q_DY dy z c ∧ q_BD z L n c ∧ ∃ r, z 2 = nI r ∧ 1 ≤ r ∧ r ≤ 20
section QV
variable {pr : VX5} {dy : VX0} {now room bound drift br lt fl sw ps lo : Int32} {z : Nat → Int32} {L L0 : Nat → List Nat} {n c T t : Nat}
theorem q_V.n4 (h : q_V pr dy now room bound drift br lt fl sw ps lo z L n c T t) : n ≤ 40 := h.2.1.2.2.2.2.1
theorem q_sweepOne {p : Nat} (hp : p < 40) : f_X10_sweepOne (nI p) z = some (upd (upd (upd z (172 + p) (-1)) (132 + p) 4) 8 (z 8 + 1)) := by
  unfold f_X10_sweepOne
  simp (disch := omega) only [q_a172, q_a132, q_ck, q_cl, q_n8, q_k8, zk_let, pk_us, pk_un]
theorem q_noteSwept {p : Nat} (hp : p < 40) : f_X8_noteSwept (nI p) pr br sw = some ((upd pr.1 (p * 6 + 0) 4, pr.2), br - 1, sw + 1) := by
  unfold f_X8_noteSwept
  simp only [q_write0 hp, Option.bind_some, zk_let]
theorem q_stand {p : Nat} (hp : p < 40) (x : Int32) : f_X10_stand (nI p) x z = some (upd (upd (upd z (172 + p) x) (212 + p) (z 11)) 11 (z 11 + 1)) := by
  unfold f_X10_stand
  simp (disch := omega) only [q_a172, q_a212, q_ck, q_cl, q_n11, q_k11, zk_let, pk_us, pk_un]

/-- a broken promise is swept -/
theorem q_V.sweep (h : q_V pr dy now room bound drift br lt fl sw ps lo z L n c T t) {p : Nat} (hp : p < n) (h3 : z (132 + p) = 3) (hx : q_Lx L L0 p) : q_V (upd pr.1 (p * 6 + 0) 4, pr.2) dy now room bound drift (br - 1) lt fl (sw + 1) ps lo (upd (upd (upd z (172 + p) (-1)) (132 + p) 4) 8 (z 8 + 1)) L0 n c T t := by
  have hn := h.n4
  obtain ⟨⟨a1, a2⟩, b, sc, d, e, f⟩ := h
  obtain ⟨s1, s2, s3, s4, s5, s6, s7, s8, s9, s10, s11⟩ := sc
  refine ⟨⟨a1, (a2.set0 hn (by omega) 4).cong hn (fun i hi => by simp only [upd]; (repeat' split) <;> first | rfl | (exfalso; omega))⟩, b.off hx (by simp (disch := omega) only [pk_us, pk_un]) (by simp (disch := omega) only [pk_us, pk_un]) (by simp (disch := omega) only [pk_us, pk_un]) (fun q hq hne => by simp (disch := omega) only [pk_us, pk_un]) (fun q hq => by simp (disch := omega) only [pk_us, pk_un]), ⟨s1, ?_, ?_, ?_, ?_, ?_, ?_, ?_, ?_, ?_, ?_⟩, d.cong (fun i hi => by simp only [upd]; (repeat' split) <;> first | rfl | (exfalso; omega)), e.cong hn (Nat.le_refl _) (fun i hi => by simp only [upd]; (repeat' split) <;> first | rfl | (exfalso; omega)) (fun q hq => by
    by_cases y : q = p
    · subst y
      right
      simp (disch := omega) only [pk_us, pk_un]
      decide
    · left
      simp (disch := omega) only [pk_un]) ?_, ?_⟩
  · rw [show upd (upd (upd z (172 + p) (-1)) (132 + p) 4) 8 (z 8 + 1) 0 = z 0 from by simp (disch := omega) only [pk_us, pk_un]]
    exact s2
  · rw [s3]
    symm
    simp (disch := omega) only [pk_us, pk_un]
  · rw [s4]
    symm
    simp (disch := omega) only [pk_us, pk_un]
  · rw [s5]
    symm
    simp (disch := omega) only [pk_us, pk_un]
  · rw [s6, q_cn_flip (P := fun q => decide (upd (upd (upd z (172 + p) (-1)) (132 + p) 4) 8 (z 8 + 1) (132 + q) = 3)) (R := fun q => decide (z (132 + q) = 3)) n hp (decide_eq_false (by simp (disch := omega) only [pk_us, pk_un]; decide)) (decide_eq_true h3) (fun q hq hne => by simp (disch := omega) only [pk_un]), nI_pred]
  · rw [s7]
    symm
    simp (disch := omega) only [pk_us, pk_un]
  · rw [s8]
    symm
    simp (disch := omega) only [pk_us, pk_un]
  · rw [s9]
    symm
    simp (disch := omega) only [pk_us, pk_un]
  · rw [s10]
    symm
    simp (disch := omega) only [pk_us, pk_un]
  · rw [s11]
    symm
    simp (disch := omega) only [pk_us, pk_un]
  · intro j hj q hq
    have hqp : q ≠ p := fun y => (hx j (by omega)).2.1 (by rw [← y]; exact hq)
    have hqn := ((b.2.1 j (by omega)).2.2 q ((hx j (by omega)).1.subset hq)).1
    exact Or.inl ⟨(hx j (by omega)).1.subset hq, by simp (disch := omega) only [pk_us, pk_un]⟩
  · rw [show upd (upd (upd z (172 + p) (-1)) (132 + p) 4) 8 (z 8 + 1) 2 = z 2 from by simp (disch := omega) only [pk_us, pk_un]]
    exact f
/-- a promise stands behind a line -/
theorem q_V.stand (h : q_V pr dy now room bound drift br lt fl sw ps lo z L n c T t) {p j : Nat} (hp : p < n) (hj : j < 25) (hs : j < 24 → z (132 + p) = 0 ∨ z (132 + p) = 3) (hT : T < 2 ^ 31) (hx : q_Lx L L0 p) : q_V pr dy now room bound drift br lt fl sw ps lo (upd (upd (upd z (172 + p) (nI j)) (212 + p) (z 11)) 11 (z 11 + 1)) (va_up L0 j (L0 j ++ [p])) n c (T + 1) t := by
  have hn := h.n4
  obtain ⟨⟨a1, a2⟩, b, sc, d, e, f⟩ := h
  have hz := b.2.2.1
  refine ⟨⟨a1, a2.cong hn (fun i hi => by simp only [upd]; (repeat' split) <;> first | rfl | (exfalso; omega))⟩, b.stand hx hj hp (Nat.le_refl _) hn (fun q hq => Or.inr hq) hT (by simp (disch := omega) only [pk_us, pk_un]) ?_ ?_ (Eq.trans (by simp (disch := omega) only [pk_us, pk_un]) b.2.2.2.1) (fun q hq hne => ⟨by simp (disch := omega) only [pk_us, pk_un], by simp (disch := omega) only [pk_us, pk_un]⟩), sc.cong (fun i hi => by simp only [upd]; (repeat' split) <;> first | rfl | (exfalso; omega)) (fun q hq => by simp (disch := omega) only [pk_un]), d.cong (fun i hi => by simp only [upd]; (repeat' split) <;> first | rfl | (exfalso; omega)), e.cong hn (Nat.le_refl _) (fun i hi => by simp only [upd]; (repeat' split) <;> first | rfl | (exfalso; omega)) (fun q hq => Or.inl (by simp (disch := omega) only [pk_un])) ?_, ?_⟩
  · rw [show upd (upd (upd z (172 + p) (nI j)) (212 + p) (z 11)) 11 (z 11 + 1) (212 + p) = z 11 from by simp (disch := omega) only [pk_us, pk_un]]
    exact hz
  · rw [show upd (upd (upd z (172 + p) (nI j)) (212 + p) (z 11)) 11 (z 11 + 1) 11 = z 11 + 1 from by simp (disch := omega) only [pk_us, pk_un], hz]
    exact nI_1 T
  · intro i hi q hq
    by_cases y : i = j
    · subst y
      rw [q_up_s] at hq
      rcases List.mem_append.mp hq with w | w
      · have hqn := ((b.2.1 i (by omega)).2.2 q ((hx i (by omega)).1.subset w)).1
        exact Or.inl ⟨(hx i (by omega)).1.subset w, by simp (disch := omega) only [pk_us, pk_un]⟩
      · rw [List.mem_singleton.mp w]
        right
        rw [show upd (upd (upd z (172 + p) (nI i)) (212 + p) (z 11)) 11 (z 11 + 1) (132 + p) = z (132 + p) from by simp (disch := omega) only [pk_us, pk_un]]
        exact hs hi
    · rw [q_up_n y] at hq
      have hqn := ((b.2.1 i (by omega)).2.2 q ((hx i (by omega)).1.subset hq)).1
      exact Or.inl ⟨(hx i (by omega)).1.subset hq, by simp (disch := omega) only [pk_us, pk_un]⟩
  · rw [show upd (upd (upd z (172 + p) (nI j)) (212 + p) (z 11)) 11 (z 11 + 1) 2 = z 2 from by simp (disch := omega) only [pk_us, pk_un]]
    exact f

theorem q_V.set_room (h : q_V pr dy now room bound drift br lt fl sw ps lo z L n c T t) (x : Int32) (hr : ∃ r, x = nI r ∧ 1 ≤ r ∧ r ≤ 20) : q_V pr dy now x bound drift br lt fl sw ps lo (upd z 2 x) L n c T t := by
  have hn := h.n4
  obtain ⟨⟨a1, a2⟩, b, sc, d, e, f⟩ := h
  obtain ⟨s1, s2, s3, s4, s5, s6, s7, s8, s9, s10, s11⟩ := sc
  refine ⟨⟨a1, a2.cong hn (fun i hi => by simp only [upd]; (repeat' split) <;> first | rfl | (exfalso; omega))⟩, b.cong (fun i hi => by simp only [upd]; (repeat' split) <;> first | rfl | (exfalso; omega)), ⟨s1, Eq.trans (by simp (disch := omega) only [pk_us, pk_un]) s2, (by rw [pk_us]), s4.trans (Eq.symm (by simp (disch := omega) only [pk_us, pk_un])), s5.trans (Eq.symm (by simp (disch := omega) only [pk_us, pk_un])), ?_, s7.trans (Eq.symm (by simp (disch := omega) only [pk_us, pk_un])), s8.trans (Eq.symm (by simp (disch := omega) only [pk_us, pk_un])), s9.trans (Eq.symm (by simp (disch := omega) only [pk_us, pk_un])), s10.trans (Eq.symm (by simp (disch := omega) only [pk_us, pk_un])), s11.trans (Eq.symm (by simp (disch := omega) only [pk_us, pk_un]))⟩, d.cong (fun i hi => by simp only [upd]; (repeat' split) <;> first | rfl | (exfalso; omega)), e.cong hn (Nat.le_refl _) (fun i hi => by simp only [upd]; (repeat' split) <;> first | rfl | (exfalso; omega)) (fun q hq => Or.inl (by simp (disch := omega) only [pk_un])) ?_, ?_⟩
  · rw [s6]
    congr 1
    exact q_cn_cong n (fun q hq => by simp (disch := omega) only [pk_un])
  · intro j hj p hp
    have := ((b.2.1 j (by omega)).2.2 p hp).1
    exact Or.inl ⟨hp, by simp (disch := omega) only [pk_us, pk_un]⟩
  · rw [show upd z 2 x 2 = x from by simp (disch := omega) only [pk_us, pk_un]]
    exact hr
theorem q_V.set_bound (h : q_V pr dy now room bound drift br lt fl sw ps lo z L n c T t) (x : Int32) : q_V pr dy now room x drift br lt fl sw ps lo (upd z 3 x) L n c T t := by
  have hn := h.n4
  obtain ⟨⟨a1, a2⟩, b, sc, d, e, f⟩ := h
  obtain ⟨s1, s2, s3, s4, s5, s6, s7, s8, s9, s10, s11⟩ := sc
  refine ⟨⟨a1, a2.cong hn (fun i hi => by simp only [upd]; (repeat' split) <;> first | rfl | (exfalso; omega))⟩, b.cong (fun i hi => by simp only [upd]; (repeat' split) <;> first | rfl | (exfalso; omega)), ⟨s1, Eq.trans (by simp (disch := omega) only [pk_us, pk_un]) s2, s3.trans (Eq.symm (by simp (disch := omega) only [pk_us, pk_un])), (by rw [pk_us]), s5.trans (Eq.symm (by simp (disch := omega) only [pk_us, pk_un])), ?_, s7.trans (Eq.symm (by simp (disch := omega) only [pk_us, pk_un])), s8.trans (Eq.symm (by simp (disch := omega) only [pk_us, pk_un])), s9.trans (Eq.symm (by simp (disch := omega) only [pk_us, pk_un])), s10.trans (Eq.symm (by simp (disch := omega) only [pk_us, pk_un])), s11.trans (Eq.symm (by simp (disch := omega) only [pk_us, pk_un]))⟩, d.cong (fun i hi => by simp only [upd]; (repeat' split) <;> first | rfl | (exfalso; omega)), e.cong hn (Nat.le_refl _) (fun i hi => by simp only [upd]; (repeat' split) <;> first | rfl | (exfalso; omega)) (fun q hq => Or.inl (by simp (disch := omega) only [pk_un])) ?_, ?_⟩
  · rw [s6]
    congr 1
    exact q_cn_cong n (fun q hq => by simp (disch := omega) only [pk_un])
  · intro j hj p hp
    have := ((b.2.1 j (by omega)).2.2 p hp).1
    exact Or.inl ⟨hp, by simp (disch := omega) only [pk_us, pk_un]⟩
  · rw [show upd z 3 x 2 = z 2 from by simp (disch := omega) only [pk_us, pk_un]]
    exact f
theorem q_V.set_drift (h : q_V pr dy now room bound drift br lt fl sw ps lo z L n c T t) (x : Int32) : q_V pr dy now room bound x br lt fl sw ps lo (upd z 4 x) L n c T t := by
  have hn := h.n4
  obtain ⟨⟨a1, a2⟩, b, sc, d, e, f⟩ := h
  obtain ⟨s1, s2, s3, s4, s5, s6, s7, s8, s9, s10, s11⟩ := sc
  refine ⟨⟨a1, a2.cong hn (fun i hi => by simp only [upd]; (repeat' split) <;> first | rfl | (exfalso; omega))⟩, b.cong (fun i hi => by simp only [upd]; (repeat' split) <;> first | rfl | (exfalso; omega)), ⟨s1, Eq.trans (by simp (disch := omega) only [pk_us, pk_un]) s2, s3.trans (Eq.symm (by simp (disch := omega) only [pk_us, pk_un])), s4.trans (Eq.symm (by simp (disch := omega) only [pk_us, pk_un])), (by rw [pk_us]), ?_, s7.trans (Eq.symm (by simp (disch := omega) only [pk_us, pk_un])), s8.trans (Eq.symm (by simp (disch := omega) only [pk_us, pk_un])), s9.trans (Eq.symm (by simp (disch := omega) only [pk_us, pk_un])), s10.trans (Eq.symm (by simp (disch := omega) only [pk_us, pk_un])), s11.trans (Eq.symm (by simp (disch := omega) only [pk_us, pk_un]))⟩, d.cong (fun i hi => by simp only [upd]; (repeat' split) <;> first | rfl | (exfalso; omega)), e.cong hn (Nat.le_refl _) (fun i hi => by simp only [upd]; (repeat' split) <;> first | rfl | (exfalso; omega)) (fun q hq => Or.inl (by simp (disch := omega) only [pk_un])) ?_, ?_⟩
  · rw [s6]
    congr 1
    exact q_cn_cong n (fun q hq => by simp (disch := omega) only [pk_un])
  · intro j hj p hp
    have := ((b.2.1 j (by omega)).2.2 p hp).1
    exact Or.inl ⟨hp, by simp (disch := omega) only [pk_us, pk_un]⟩
  · rw [show upd z 4 x 2 = z 2 from by simp (disch := omega) only [pk_us, pk_un]]
    exact f
theorem q_V.set_lt (h : q_V pr dy now room bound drift br lt fl sw ps lo z L n c T t) (x : Int32) : q_V pr dy now room bound drift br x fl sw ps lo (upd z 6 x) L n c T t := by
  have hn := h.n4
  obtain ⟨⟨a1, a2⟩, b, sc, d, e, f⟩ := h
  obtain ⟨s1, s2, s3, s4, s5, s6, s7, s8, s9, s10, s11⟩ := sc
  refine ⟨⟨a1, a2.cong hn (fun i hi => by simp only [upd]; (repeat' split) <;> first | rfl | (exfalso; omega))⟩, b.cong (fun i hi => by simp only [upd]; (repeat' split) <;> first | rfl | (exfalso; omega)), ⟨s1, Eq.trans (by simp (disch := omega) only [pk_us, pk_un]) s2, s3.trans (Eq.symm (by simp (disch := omega) only [pk_us, pk_un])), s4.trans (Eq.symm (by simp (disch := omega) only [pk_us, pk_un])), s5.trans (Eq.symm (by simp (disch := omega) only [pk_us, pk_un])), ?_, (by rw [pk_us]), s8.trans (Eq.symm (by simp (disch := omega) only [pk_us, pk_un])), s9.trans (Eq.symm (by simp (disch := omega) only [pk_us, pk_un])), s10.trans (Eq.symm (by simp (disch := omega) only [pk_us, pk_un])), s11.trans (Eq.symm (by simp (disch := omega) only [pk_us, pk_un]))⟩, d.cong (fun i hi => by simp only [upd]; (repeat' split) <;> first | rfl | (exfalso; omega)), e.cong hn (Nat.le_refl _) (fun i hi => by simp only [upd]; (repeat' split) <;> first | rfl | (exfalso; omega)) (fun q hq => Or.inl (by simp (disch := omega) only [pk_un])) ?_, ?_⟩
  · rw [s6]
    congr 1
    exact q_cn_cong n (fun q hq => by simp (disch := omega) only [pk_un])
  · intro j hj p hp
    have := ((b.2.1 j (by omega)).2.2 p hp).1
    exact Or.inl ⟨hp, by simp (disch := omega) only [pk_us, pk_un]⟩
  · rw [show upd z 6 x 2 = z 2 from by simp (disch := omega) only [pk_us, pk_un]]
    exact f
theorem q_V.set_fl (h : q_V pr dy now room bound drift br lt fl sw ps lo z L n c T t) (x : Int32) : q_V pr dy now room bound drift br lt x sw ps lo (upd z 7 x) L n c T t := by
  have hn := h.n4
  obtain ⟨⟨a1, a2⟩, b, sc, d, e, f⟩ := h
  obtain ⟨s1, s2, s3, s4, s5, s6, s7, s8, s9, s10, s11⟩ := sc
  refine ⟨⟨a1, a2.cong hn (fun i hi => by simp only [upd]; (repeat' split) <;> first | rfl | (exfalso; omega))⟩, b.cong (fun i hi => by simp only [upd]; (repeat' split) <;> first | rfl | (exfalso; omega)), ⟨s1, Eq.trans (by simp (disch := omega) only [pk_us, pk_un]) s2, s3.trans (Eq.symm (by simp (disch := omega) only [pk_us, pk_un])), s4.trans (Eq.symm (by simp (disch := omega) only [pk_us, pk_un])), s5.trans (Eq.symm (by simp (disch := omega) only [pk_us, pk_un])), ?_, s7.trans (Eq.symm (by simp (disch := omega) only [pk_us, pk_un])), (by rw [pk_us]), s9.trans (Eq.symm (by simp (disch := omega) only [pk_us, pk_un])), s10.trans (Eq.symm (by simp (disch := omega) only [pk_us, pk_un])), s11.trans (Eq.symm (by simp (disch := omega) only [pk_us, pk_un]))⟩, d.cong (fun i hi => by simp only [upd]; (repeat' split) <;> first | rfl | (exfalso; omega)), e.cong hn (Nat.le_refl _) (fun i hi => by simp only [upd]; (repeat' split) <;> first | rfl | (exfalso; omega)) (fun q hq => Or.inl (by simp (disch := omega) only [pk_un])) ?_, ?_⟩
  · rw [s6]
    congr 1
    exact q_cn_cong n (fun q hq => by simp (disch := omega) only [pk_un])
  · intro j hj p hp
    have := ((b.2.1 j (by omega)).2.2 p hp).1
    exact Or.inl ⟨hp, by simp (disch := omega) only [pk_us, pk_un]⟩
  · rw [show upd z 7 x 2 = z 2 from by simp (disch := omega) only [pk_us, pk_un]]
    exact f
theorem q_V.set_ps (h : q_V pr dy now room bound drift br lt fl sw ps lo z L n c T t) (x : Int32) : q_V pr dy now room bound drift br lt fl sw x lo (upd z 9 x) L n c T t := by
  have hn := h.n4
  obtain ⟨⟨a1, a2⟩, b, sc, d, e, f⟩ := h
  obtain ⟨s1, s2, s3, s4, s5, s6, s7, s8, s9, s10, s11⟩ := sc
  refine ⟨⟨a1, a2.cong hn (fun i hi => by simp only [upd]; (repeat' split) <;> first | rfl | (exfalso; omega))⟩, b.cong (fun i hi => by simp only [upd]; (repeat' split) <;> first | rfl | (exfalso; omega)), ⟨s1, Eq.trans (by simp (disch := omega) only [pk_us, pk_un]) s2, s3.trans (Eq.symm (by simp (disch := omega) only [pk_us, pk_un])), s4.trans (Eq.symm (by simp (disch := omega) only [pk_us, pk_un])), s5.trans (Eq.symm (by simp (disch := omega) only [pk_us, pk_un])), ?_, s7.trans (Eq.symm (by simp (disch := omega) only [pk_us, pk_un])), s8.trans (Eq.symm (by simp (disch := omega) only [pk_us, pk_un])), s9.trans (Eq.symm (by simp (disch := omega) only [pk_us, pk_un])), (by rw [pk_us]), s11.trans (Eq.symm (by simp (disch := omega) only [pk_us, pk_un]))⟩, d.cong (fun i hi => by simp only [upd]; (repeat' split) <;> first | rfl | (exfalso; omega)), e.cong hn (Nat.le_refl _) (fun i hi => by simp only [upd]; (repeat' split) <;> first | rfl | (exfalso; omega)) (fun q hq => Or.inl (by simp (disch := omega) only [pk_un])) ?_, ?_⟩
  · rw [s6]
    congr 1
    exact q_cn_cong n (fun q hq => by simp (disch := omega) only [pk_un])
  · intro j hj p hp
    have := ((b.2.1 j (by omega)).2.2 p hp).1
    exact Or.inl ⟨hp, by simp (disch := omega) only [pk_us, pk_un]⟩
  · rw [show upd z 9 x 2 = z 2 from by simp (disch := omega) only [pk_us, pk_un]]
    exact f
theorem q_V.set_lo (h : q_V pr dy now room bound drift br lt fl sw ps lo z L n c T t) (x : Int32) : q_V pr dy now room bound drift br lt fl sw ps x (upd z 10 x) L n c T t := by
  have hn := h.n4
  obtain ⟨⟨a1, a2⟩, b, sc, d, e, f⟩ := h
  obtain ⟨s1, s2, s3, s4, s5, s6, s7, s8, s9, s10, s11⟩ := sc
  refine ⟨⟨a1, a2.cong hn (fun i hi => by simp only [upd]; (repeat' split) <;> first | rfl | (exfalso; omega))⟩, b.cong (fun i hi => by simp only [upd]; (repeat' split) <;> first | rfl | (exfalso; omega)), ⟨s1, Eq.trans (by simp (disch := omega) only [pk_us, pk_un]) s2, s3.trans (Eq.symm (by simp (disch := omega) only [pk_us, pk_un])), s4.trans (Eq.symm (by simp (disch := omega) only [pk_us, pk_un])), s5.trans (Eq.symm (by simp (disch := omega) only [pk_us, pk_un])), ?_, s7.trans (Eq.symm (by simp (disch := omega) only [pk_us, pk_un])), s8.trans (Eq.symm (by simp (disch := omega) only [pk_us, pk_un])), s9.trans (Eq.symm (by simp (disch := omega) only [pk_us, pk_un])), s10.trans (Eq.symm (by simp (disch := omega) only [pk_us, pk_un])), (by rw [pk_us])⟩, d.cong (fun i hi => by simp only [upd]; (repeat' split) <;> first | rfl | (exfalso; omega)), e.cong hn (Nat.le_refl _) (fun i hi => by simp only [upd]; (repeat' split) <;> first | rfl | (exfalso; omega)) (fun q hq => Or.inl (by simp (disch := omega) only [pk_un])) ?_, ?_⟩
  · rw [s6]
    congr 1
    exact q_cn_cong n (fun q hq => by simp (disch := omega) only [pk_un])
  · intro j hj p hp
    have := ((b.2.1 j (by omega)).2.2 p hp).1
    exact Or.inl ⟨hp, by simp (disch := omega) only [pk_us, pk_un]⟩
  · rw [show upd z 10 x 2 = z 2 from by simp (disch := omega) only [pk_us, pk_un]]
    exact f
theorem q_V.tick (h : q_V pr dy now room bound drift br lt fl sw ps lo z L n c T t) : q_V pr dy (now + 1) room bound drift br lt fl sw ps lo (upd z 0 (z 0 + 1)) L n c T (t + 1) := by
  have hn := h.n4
  obtain ⟨⟨a1, a2⟩, b, sc, d, e, f⟩ := h
  obtain ⟨s1, s2, s3, s4, s5, s6, s7, s8, s9, s10, s11⟩ := sc
  refine ⟨⟨a1, a2.cong hn (fun i hi => by simp only [upd]; (repeat' split) <;> first | rfl | (exfalso; omega))⟩, b.cong (fun i hi => by simp only [upd]; (repeat' split) <;> first | rfl | (exfalso; omega)), ⟨(by rw [s1, nI_1]), (by rw [pk_us, s2, nI_1]), s3.trans (Eq.symm (by simp (disch := omega) only [pk_us, pk_un])), s4.trans (Eq.symm (by simp (disch := omega) only [pk_us, pk_un])), s5.trans (Eq.symm (by simp (disch := omega) only [pk_us, pk_un])), ?_, s7.trans (Eq.symm (by simp (disch := omega) only [pk_us, pk_un])), s8.trans (Eq.symm (by simp (disch := omega) only [pk_us, pk_un])), s9.trans (Eq.symm (by simp (disch := omega) only [pk_us, pk_un])), s10.trans (Eq.symm (by simp (disch := omega) only [pk_us, pk_un])), s11.trans (Eq.symm (by simp (disch := omega) only [pk_us, pk_un]))⟩, d.cong (fun i hi => by simp only [upd]; (repeat' split) <;> first | rfl | (exfalso; omega)), e.cong hn (Nat.le_refl _) (fun i hi => by simp only [upd]; (repeat' split) <;> first | rfl | (exfalso; omega)) (fun q hq => Or.inl (by simp (disch := omega) only [pk_un])) ?_, ?_⟩
  · rw [s6]
    congr 1
    exact q_cn_cong n (fun q hq => by simp (disch := omega) only [pk_un])
  · intro j hj p hp
    have := ((b.2.1 j (by omega)).2.2 p hp).1
    exact Or.inl ⟨hp, by simp (disch := omega) only [pk_us, pk_un]⟩
  · rw [show upd z 0 (z 0 + 1) 2 = z 2 from by simp (disch := omega) only [pk_us, pk_un]]
    exact f
theorem q_V.set_state (h : q_V pr dy now room bound drift br lt fl sw ps lo z L n c T t) {p : Nat} (hp : p < n) (x : Int32) (h3 : z (132 + p) ≠ 3) (hx3 : x ≠ 3) (hx0 : ¬ x < 0) (hl : ∀ j, j < 24 → p ∈ L j → x = 0) : q_V (upd pr.1 (p * 6 + 0) x, pr.2) dy now room bound drift br lt fl sw ps lo (upd z (132 + p) x) L n c T t := by
  have hn := h.n4
  obtain ⟨⟨a1, a2⟩, b, sc, d, e, f⟩ := h
  refine ⟨⟨a1, a2.set0 hn (by omega) x⟩, b.cong (fun i hi => by simp only [upd]; (repeat' split) <;> first | rfl | (exfalso; omega)), sc.cong (fun i hi => by simp only [upd]; (repeat' split) <;> first | rfl | (exfalso; omega)) (fun q hq => ?_), d.cong (fun i hi => by simp only [upd]; (repeat' split) <;> first | rfl | (exfalso; omega)), e.cong hn (Nat.le_refl _) (fun i hi => by simp only [upd]; (repeat' split) <;> first | rfl | (exfalso; omega)) (fun q hq => by
    by_cases y : q = p
    · subst y
      right
      rw [pk_us]
      exact hx0
    · left
      simp (disch := omega) only [pk_un]) ?_, ?_⟩
  · by_cases y : q = p
    · subst y
      rw [pk_us]
      exact ⟨fun y => absurd y hx3, fun y => absurd y h3⟩
    · simp (disch := omega) only [pk_un]
  · intro j hj q hq
    have := ((b.2.1 j (by omega)).2.2 q hq).1
    by_cases y : q = p
    · subst y
      rw [pk_us]
      exact Or.inr (Or.inl (hl j hj hq))
    · exact Or.inl ⟨hq, by simp (disch := omega) only [pk_us, pk_un]⟩
  · rw [show upd z (132 + p) x 2 = z 2 from by simp (disch := omega) only [pk_us, pk_un]]
    exact f
theorem q_V.set_due (h : q_V pr dy now room bound drift br lt fl sw ps lo z L n c T t) {p : Nat} (hp : p < n) (x : Int32) (hx : ∃ d, x = nI d ∧ d ≤ 21200 + 511 * c) : q_V (upd pr.1 (p * 6 + 1) x, pr.2) dy now room bound drift br lt fl sw ps lo (upd z (12 + p) x) L n c T t := by
  have hn := h.n4
  obtain ⟨⟨a1, a2⟩, b, sc, d, e, f⟩ := h
  refine ⟨⟨a1, a2.set1 hn (by omega) x⟩, b.cong (fun i hi => by simp only [upd]; (repeat' split) <;> first | rfl | (exfalso; omega)), sc.cong (fun i hi => by simp only [upd]; (repeat' split) <;> first | rfl | (exfalso; omega)) (fun q hq => ?_), d.cong (fun i hi => by simp only [upd]; (repeat' split) <;> first | rfl | (exfalso; omega)), ?_, ?_⟩
  · simp (disch := omega) only [pk_un]
  · obtain ⟨e1, e2, e3, e4⟩ := e
    refine ⟨fun q hq => ?_, fun q hq hq4 => ?_, fun j hj q hq => ?_, fun q hq => ?_⟩
    · by_cases y : q = p
      · subst y
        simp (disch := omega) only [pk_us, pk_un]
        exact ⟨hx, (e1 q hq).2⟩
      · simp (disch := omega) only [pk_un]
        exact e1 q hq
    · simp (disch := omega) only [pk_un]
      exact e2 q hq hq4
    · have := ((b.2.1 j (by omega)).2.2 q hq).1
      simp (disch := omega) only [pk_un]
      exact e3 j hj q hq
    · simp (disch := omega) only [pk_un]
      exact e4 q hq
  · rw [show upd z (12 + p) x 2 = z 2 from by simp (disch := omega) only [pk_us, pk_un]]
    exact f
theorem q_V.set_left (h : q_V pr dy now room bound drift br lt fl sw ps lo z L n c T t) {p : Nat} (hp : p < n) (x : Int32) (hx : ∃ d, x = nI d ∧ d ≤ 99) (hq0 : x ≠ 0 → z (52 + p) ≠ 0) : q_V (upd pr.1 (p * 6 + 3) x, pr.2) dy now room bound drift br lt fl sw ps lo (upd z (92 + p) x) L n c T t := by
  have hn := h.n4
  obtain ⟨⟨a1, a2⟩, b, sc, d, e, f⟩ := h
  refine ⟨⟨a1, a2.set3 hn (by omega) x⟩, b.cong (fun i hi => by simp only [upd]; (repeat' split) <;> first | rfl | (exfalso; omega)), sc.cong (fun i hi => by simp only [upd]; (repeat' split) <;> first | rfl | (exfalso; omega)) (fun q hq => ?_), d.cong (fun i hi => by simp only [upd]; (repeat' split) <;> first | rfl | (exfalso; omega)), ?_, ?_⟩
  · simp (disch := omega) only [pk_un]
  · obtain ⟨e1, e2, e3, e4⟩ := e
    refine ⟨fun q hq => ?_, fun q hq hq4 => ?_, fun j hj q hq => ?_, fun q hq => ?_⟩
    · by_cases y : q = p
      · subst y
        simp (disch := omega) only [pk_us, pk_un]
        exact ⟨(e1 q hq).1, (e1 q hq).2.1, hx, hq0⟩
      · simp (disch := omega) only [pk_un]
        exact e1 q hq
    · simp (disch := omega) only [pk_un]
      exact e2 q hq hq4
    · have := ((b.2.1 j (by omega)).2.2 q hq).1
      simp (disch := omega) only [pk_un]
      exact e3 j hj q hq
    · simp (disch := omega) only [pk_un]
      exact e4 q hq
  · rw [show upd z (92 + p) x 2 = z 2 from by simp (disch := omega) only [pk_us, pk_un]]
    exact f
theorem q_V.set_called (h : q_V pr dy now room bound drift br lt fl sw ps lo z L n c T t) {p : Nat} (hp : p < n) (x : Int32) (hx : ∃ d, x = nI d ∧ d ≤ c) : q_V (upd pr.1 (p * 6 + 4) x, pr.2) dy now room bound drift br lt fl sw ps lo (upd z (252 + p) x) L n c T t := by
  have hn := h.n4
  obtain ⟨⟨a1, a2⟩, b, sc, d, e, f⟩ := h
  refine ⟨⟨a1, a2.set4 hn (by omega) x⟩, b.cong (fun i hi => by simp only [upd]; (repeat' split) <;> first | rfl | (exfalso; omega)), sc.cong (fun i hi => by simp only [upd]; (repeat' split) <;> first | rfl | (exfalso; omega)) (fun q hq => ?_), ⟨d.1, Eq.trans (by simp (disch := omega) only [pk_un]) d.2.1, fun k hk hkc i hi => Eq.trans (d.2.2.1 k hk hkc i hi) (Eq.symm (by simp (disch := omega) only [pk_un])), fun q hq => ?_⟩, ?_, ?_⟩
  · simp (disch := omega) only [pk_un]
  · by_cases y : q = p
    · subst y
      rw [pk_us]
      exact hx
    · simp (disch := omega) only [pk_un]
      exact d.2.2.2 q hq
  · obtain ⟨e1, e2, e3, e4⟩ := e
    refine ⟨fun q hq => ?_, fun q hq hq4 => ?_, fun j hj q hq => ?_, fun q hq => ?_⟩
    · by_cases y : q = p
      · subst y
        simp (disch := omega) only [pk_us, pk_un]
        exact e1 q hq
      · simp (disch := omega) only [pk_un]
        exact e1 q hq
    · simp (disch := omega) only [pk_un]
      exact e2 q hq hq4
    · have := ((b.2.1 j (by omega)).2.2 q hq).1
      simp (disch := omega) only [pk_un]
      exact e3 j hj q hq
    · simp (disch := omega) only [pk_un]
      exact e4 q hq
  · rw [show upd z (252 + p) x 2 = z 2 from by simp (disch := omega) only [pk_us, pk_un]]
    exact f
theorem q_V.set_late (h : q_V pr dy now room bound drift br lt fl sw ps lo z L n c T t) {p : Nat} (hp : p < n) (x : Int32)  : q_V (upd pr.1 (p * 6 + 5) x, pr.2) dy now room bound drift br lt fl sw ps lo (upd z (292 + p) x) L n c T t := by
  have hn := h.n4
  obtain ⟨⟨a1, a2⟩, b, sc, d, e, f⟩ := h
  refine ⟨⟨a1, a2.set5 hn (by omega) x⟩, b.cong (fun i hi => by simp only [upd]; (repeat' split) <;> first | rfl | (exfalso; omega)), sc.cong (fun i hi => by simp only [upd]; (repeat' split) <;> first | rfl | (exfalso; omega)) (fun q hq => ?_), d.cong (fun i hi => by simp only [upd]; (repeat' split) <;> first | rfl | (exfalso; omega)), ?_, ?_⟩
  · simp (disch := omega) only [pk_un]
  · obtain ⟨e1, e2, e3, e4⟩ := e
    refine ⟨fun q hq => ?_, fun q hq hq4 => ?_, fun j hj q hq => ?_, fun q hq => ?_⟩
    · by_cases y : q = p
      · subst y
        simp (disch := omega) only [pk_us, pk_un]
        exact e1 q hq
      · simp (disch := omega) only [pk_un]
        exact e1 q hq
    · simp (disch := omega) only [pk_un]
      exact e2 q hq hq4
    · have := ((b.2.1 j (by omega)).2.2 q hq).1
      simp (disch := omega) only [pk_un]
      exact e3 j hj q hq
    · simp (disch := omega) only [pk_un]
      exact e4 q hq
  · rw [show upd z (292 + p) x 2 = z 2 from by simp (disch := omega) only [pk_us, pk_un]]
    exact f
end QV