/-! PURE PART: the model's counts over its row, and its lines' changes -/
theorem q_m1 : (1 : Int32) = nI 1 := rfl
theorem q_p0 (x : Int32) : x + 0 = x := by simp
theorem q_cn_s {P : Nat → Bool} {m : Nat} : nI (q_cn P m) + (if P m = true then 1 else 0) = nI (q_cn P (m + 1)) := by
  show _ = nI (q_cn P m + if P m = true then 1 else 0)
  split
  · exact nI_1 _
  · exact q_p0 _
theorem q_cn_st {P : Nat → Bool} {m : Nat} (h : P m = true) : nI (q_cn P m + 1) = nI (q_cn P (m + 1)) := by rw [← nI_1, ← q_cn_s, if_pos h]
theorem q_cn_sf {P : Nat → Bool} {m : Nat} (h : ¬ P m = true) : nI (q_cn P m) = nI (q_cn P (m + 1)) := by rw [← q_cn_s, if_neg h, q_p0]
theorem q_cn_sf0 {P : Nat → Bool} {m : Nat} (h : ¬ P m = true) : nI (q_cn P m) + 0 = nI (q_cn P (m + 1)) := by rw [q_p0, q_cn_sf h]
theorem q_many {z : Nat → Int32} {n : Nat} (h1 : z 1 = nI n) (hn : n ≤ 40) (x : Int32) : f_X10_manyAt x z = some (nI (q_cn (fun q => decide (z (172 + q) = x)) n)) := by
  unfold f_X10_manyAt
  refine q_scan (n := n) (fun m => (nI (q_cn (fun q => decide (z (172 + q) = x)) m), nI m)) _ ?_ ?_ n 0 zk_N (by omega) (by unfold zk_N; omega)
  · intro k m hm
    unfold F_X10_manyAt_4 f_X10_manyAt_34
    simp (disch := omega) only [q_n1, q_k1, h1, if_neg (nI_ge hm (by omega)), q_a172, q_ck, q_cl, zk_let, nI_1]
    by_cases c : z (172 + m) = x
    · rw [if_pos c, q_cn_st (P := fun q => decide (z (172 + q) = x)) (decide_eq_true c)]
    · rw [if_neg c, q_cn_sf0 (P := fun q => decide (z (172 + q) = x)) (fun y => c (of_decide_eq_true y))]
  · intro k
    unfold F_X10_manyAt_4
    simp (disch := omega) only [q_n1, q_k1, h1]
    rw [if_pos (nI_le (Nat.le_refl _) (by omega))]
theorem q_inState {z : Nat → Int32} {n : Nat} (h1 : z 1 = nI n) (hn : n ≤ 40) (x : Int32) : f_X10_inState x z = some (nI (q_cn (fun q => decide (z (132 + q) = x)) n)) := by
  unfold f_X10_inState
  refine q_scan (n := n) (fun m => (nI (q_cn (fun q => decide (z (132 + q) = x)) m), nI m)) _ ?_ ?_ n 0 zk_N (by omega) (by unfold zk_N; omega)
  · intro k m hm
    unfold F_X10_inState_4 f_X10_inState_34
    simp (disch := omega) only [q_n1, q_k1, h1, if_neg (nI_ge hm (by omega)), q_a132, q_ck, q_cl, zk_let, nI_1]
    by_cases c : z (132 + m) = x
    · rw [if_pos c, q_cn_st (P := fun q => decide (z (132 + q) = x)) (decide_eq_true c)]
    · rw [if_neg c, q_cn_sf0 (P := fun q => decide (z (132 + q) = x)) (fun y => c (of_decide_eq_true y))]
  · intro k
    unfold F_X10_inState_4
    simp (disch := omega) only [q_n1, q_k1, h1]
    rw [if_pos (nI_le (Nat.le_refl _) (by omega))]
theorem q_howMany {f z : Nat → Int32} {n : Nat} (hn : n ≤ 40) (hf : q_PF f z n) (x : Int32) : f_X5_howManyIn x f (nI n) = some (nI (q_cn (fun q => decide (z (132 + q) = x)) n)) := by
  unfold f_X5_howManyIn
  refine q_scan (n := n) (fun m => (nI (q_cn (fun q => decide (z (132 + q) = x)) m), nI m)) _ ?_ ?_ n 0 zk_N (by omega) (by unfold zk_N; omega)
  · intro k m hm
    unfold F_X5_howManyIn_4 f_X5_howManyIn_24
    simp (disch := omega) only [if_neg (nI_ge hm (by omega)), q_isIn (p := m) (by omega), Option.bind_some, nI_1, (hf m hm).1]
    by_cases c : z (132 + m) = x
    · rw [if_pos c, if_neg (by decide), q_cn_st (P := fun q => decide (z (132 + q) = x)) (decide_eq_true c)]
    · rw [if_neg c, if_pos rfl, q_cn_sf (P := fun q => decide (z (132 + q) = x)) (fun y => c (of_decide_eq_true y))]
  · intro k
    unfold F_X5_howManyIn_4
    dsimp only
    rw [if_pos (nI_le (Nat.le_refl _) (by omega))]
theorem q_manyAt {z : Nat → Int32} {L : Nat → List Nat} {n T : Nat} (h : q_ML z L n T) {j : Nat} (hj : j < 25) : f_X10_manyAt (nI j) z = some (nI (L j).length) := by
  rw [q_many h.2.2.2.1 h.2.2.2.2.1]
  congr 2
  exact q_cn_len n (L j) (h.2.1 j hj).1 (fun q => ⟨fun hq => ⟨((h.2.1 j hj).2.2 q hq).1, decide_eq_true ((h.at ((h.2.1 j hj).2.2 q hq).1 hj).mpr hq)⟩, fun ⟨a, b⟩ => (h.at a hj).mp (of_decide_eq_true b)⟩)
theorem q_placeOf {z : Nat → Int32} {L : Nat → List Nat} {n T : Nat} (h : q_ML z L n T) {j p : Nat} (hj : j < 25) {pre post : List Nat} (e : L j = pre ++ p :: post) : f_X10_placeOf (nI p) z = some (nI pre.length) := by
  have hpm : p ∈ L j := by rw [e]; simp
  have g := h.2.1 j hj
  have hp := (g.2.2 p hpm).1
  have h1 := h.2.2.2.1
  have hn := h.2.2.2.2.1
  have hzp := (h.at hp hj).mpr hpm
  have g1 := g.1
  have g2 := g.2.1
  rw [e] at g1 g2
  obtain ⟨n1, n2, n3⟩ := List.nodup_append.mp g1
  obtain ⟨p1, p2, p3⟩ := List.pairwise_append.mp g2
  have hc : q_cn (fun q => decide (z (172 + q) = nI j ∧ ¬ z (212 + p) ≤ z (212 + q))) n = pre.length := by
    refine q_cn_len n pre n1 (fun q => ⟨fun hq => ?_, fun ⟨a, b⟩ => ?_⟩)
    · have hqm : q ∈ L j := by rw [e]; exact List.mem_append_left _ hq
      have hqn := (g.2.2 q hqm).1
      refine ⟨hqn, decide_eq_true ⟨(h.at hqn hj).mpr hqm, fun y => ?_⟩⟩
      have := p3 q hq p List.mem_cons_self
      have := Int32.le_iff_toInt_le.mp y
      omega
    · obtain ⟨b1, b2⟩ := of_decide_eq_true b
      have hqm := (h.at a hj).mp b1
      rw [e] at hqm
      rcases List.mem_append.mp hqm with y | y
      · exact y
      · exfalso
        have b3 : ¬ (z (212 + p)).toInt ≤ (z (212 + q)).toInt := fun x => b2 (Int32.le_iff_toInt_le.mpr x)
        rcases List.mem_cons.mp y with y | y
        · rw [y] at b3
          omega
        · have := (List.pairwise_cons.mp p2).1 q y
          omega
  unfold f_X10_placeOf
  rw [← hc]
  refine q_scan (n := n) (fun m => (nI (q_cn (fun q => decide (z (172 + q) = nI j ∧ ¬ z (212 + p) ≤ z (212 + q))) m), nI m)) _ ?_ ?_ n 0 zk_N (by omega) (by unfold zk_N; omega)
  · intro k m hm
    unfold F_X10_placeOf_4 f_X10_placeOf_65 f_X10_placeOf_66
    simp (disch := omega) only [q_n1, q_k1, h1, if_neg (nI_ge hm (by omega)), q_a172, q_a212, q_ck, q_cl, zk_let, nI_1, hzp]
    by_cases c : z (172 + m) = nI j
    · rw [if_pos c]
      by_cases d : z (212 + p) ≤ z (212 + m)
      · rw [if_pos d, q_cn_sf0 (P := fun q => decide (z (172 + q) = nI j ∧ ¬ z (212 + p) ≤ z (212 + q))) (fun y => (of_decide_eq_true y).2 d)]
      · rw [if_neg d, q_cn_st (P := fun q => decide (z (172 + q) = nI j ∧ ¬ z (212 + p) ≤ z (212 + q))) (decide_eq_true ⟨c, d⟩)]
    · rw [if_neg c, q_cn_sf0 (P := fun q => decide (z (172 + q) = nI j ∧ ¬ z (212 + p) ≤ z (212 + q))) (fun y => c (of_decide_eq_true y).1)]
  · intro k
    unfold F_X10_placeOf_4
    simp (disch := omega) only [q_n1, q_k1, h1]
    rw [if_pos (nI_le (Nat.le_refl _) (by omega))]

/-! changes of the model's lines -/
/-- the lines without p -/
def q_Lx (L L0 : Nat → List Nat) (p : Nat) : Prop := ∀ i, i < 25 → (L0 i).Sublist (L i) ∧ p ∉ L0 i ∧ ∀ q ∈ L i, q ≠ p → q ∈ L0 i
theorem q_Lx_erase {z : Nat → Int32} {L : Nat → List Nat} {n T : Nat} (h : q_ML z L n T) {j p : Nat} (hj : j < 25) (hm : p ∈ L j) : q_Lx L (va_up L j ((L j).erase p)) p := by
  intro i hi
  by_cases e : i = j
  · subst e
    rw [q_up_s]
    refine ⟨List.erase_sublist, fun y => ?_, fun q hq hne => (List.mem_erase_of_ne hne).mpr hq⟩
    exact (((h.2.1 i hi).1.mem_erase_iff).mp y).1 rfl
  · rw [q_up_n e]
    exact ⟨List.Sublist.refl _, fun y => e (h.2.2.2.2.2 i j p hi hj y hm), fun q hq _ => hq⟩
theorem q_Lx_id {L : Nat → List Nat} {p : Nat} (h : ∀ i, i < 25 → p ∉ L i) : q_Lx L L p := fun i hi => ⟨List.Sublist.refl _, h i hi, fun q hq _ => hq⟩
theorem q_ML.cong {z z' : Nat → Int32} {L : Nat → List Nat} {n T : Nat} (h : q_ML z L n T) (e : ∀ i, 172 ≤ i ∧ i < 252 ∨ i = 11 ∨ i = 1 → z' i = z i) : q_ML z' L n T := by
  obtain ⟨h1, h2, h3, h4, h5, h6⟩ := h
  refine ⟨fun p hp => ?_, fun j hj => ?_, (e 11 (by omega)).trans h3, (e 1 (by omega)).trans h4, h5, h6⟩
  · rw [e (172 + p) (by omega)]
    exact h1 p hp
  · obtain ⟨a, b, c⟩ := h2 j hj
    refine ⟨a, ?_, fun p hp => ?_⟩
    · refine b.imp_of_mem (fun {p q} hp hq hpq => ?_)
      have := (c p hp).1
      have := (c q hq).1
      rw [e (212 + p) (by omega), e (212 + q) (by omega)]
      exact hpq
    · have := (c p hp).1
      rw [e (212 + p) (by omega)]
      exact c p hp
/-- p stands behind all others of line j -/
theorem q_ML.stand {z z' : Nat → Int32} {L L0 : Nat → List Nat} {n n' T p j : Nat} (h : q_ML z L n T) (hx : q_Lx L L0 p) (hj : j < 25) (hp : p < n') (hn : n ≤ n') (hn4 : n' ≤ 40) (hn' : ∀ q, q < n' → q = p ∨ q < n) (hT : T < 2 ^ 31) (e1 : z' (172 + p) = nI j) (e2 : z' (212 + p) = nI T) (e3 : z' 11 = nI (T + 1)) (e4 : z' 1 = nI n') (e : ∀ q, q < 40 → q ≠ p → z' (172 + q) = z (172 + q) ∧ z' (212 + q) = z (212 + q)) : q_ML z' (va_up L0 j (L0 j ++ [p])) n' (T + 1) := by
  obtain ⟨h1, h2, h3, h4, h5, h6⟩ := h
  have mem : ∀ i, i < 25 → ∀ q, q ∈ va_up L0 j (L0 j ++ [p]) i → (q ∈ L0 i ∧ q ≠ p) ∨ (q = p ∧ i = j) := by
    intro i hi q hq
    by_cases y : i = j
    · subst y
      rw [q_up_s] at hq
      rcases List.mem_append.mp hq with x | x
      · exact Or.inl ⟨x, fun w => (hx i hi).2.1 (by rw [← w]; exact x)⟩
      · exact Or.inr ⟨List.mem_singleton.mp x, rfl⟩
    · rw [q_up_n y] at hq
      exact Or.inl ⟨hq, fun w => (hx i hi).2.1 (by rw [← w]; exact hq)⟩
  have mem2 : ∀ i, i < 25 → ∀ q, q ∈ L0 i → q ∈ va_up L0 j (L0 j ++ [p]) i := by
    intro i hi q hq
    by_cases y : i = j
    · subst y
      rw [q_up_s]
      exact List.mem_append_left _ hq
    · rw [q_up_n y]
      exact hq
  have old : ∀ i, i < 25 → ∀ q, q ∈ L0 i → q ∈ L i := fun i hi q hq => (hx i hi).1.subset hq
  refine ⟨fun q hq => ⟨fun i hi hm => ?_, fun hz => ?_⟩, fun i hi => ?_, e3, e4, hn4, fun i k q hi hk hm1 hm2 => ?_⟩
  · rcases mem i hi q hm with ⟨a, b⟩ | ⟨a, b⟩
    · rw [(e q (by omega) b).1]
      have hqn := ((h2 i hi).2.2 q (old i hi q a)).1
      exact (h1 q hqn).1 i hi (old i hi q a)
    · rw [a, b]
      exact e1
  · have hqp : q ≠ p := fun y => hz j hj (by rw [q_up_s, y]; simp)
    rcases hn' q hq with y | y
    · exact absurd y hqp
    · rw [(e q (by omega) hqp).1]
      exact (h1 q y).2 (fun i hi hm => hz i hi (mem2 i hi q ((hx i hi).2.2 q hm hqp)))
  · obtain ⟨a, b, c⟩ := h2 i hi
    have sub := (hx i hi).1
    have b0 : (L0 i).Pairwise (fun p q => (z' (212 + p)).toInt < (z' (212 + q)).toInt) := by
      refine (b.sublist sub).imp_of_mem (fun {r q} hr hq hrq => ?_)
      have r1 : r ≠ p := fun y => (hx i hi).2.1 (by rw [← y]; exact hr)
      have q1 : q ≠ p := fun y => (hx i hi).2.1 (by rw [← y]; exact hq)
      have := (c r (sub.subset hr)).1
      have := (c q (sub.subset hq)).1
      rw [(e r (by omega) r1).2, (e q (by omega) q1).2]
      exact hrq
    have c0 : ∀ q ∈ L0 i, q < n' ∧ (z' (212 + q)).toInt < (T : Int) := by
      intro q hq
      have q1 : q ≠ p := fun y => (hx i hi).2.1 (by rw [← y]; exact hq)
      have := c q (sub.subset hq)
      rw [(e q (by omega) q1).2]
      exact ⟨by omega, this.2⟩
    have eT : (z' (212 + p)).toInt = (T : Int) := by rw [e2, nI_toInt hT]
    by_cases y : i = j
    · subst y
      rw [q_up_s]
      refine ⟨List.nodup_append.mpr ⟨a.sublist sub, by simp, fun r hr q hq w => ?_⟩, List.pairwise_append.mpr ⟨b0, by simp, fun r hr q hq => ?_⟩, fun q hq => ?_⟩
      · rw [List.mem_singleton.mp hq] at w
        exact (hx i hi).2.1 (by rw [← w]; exact hr)
      · rw [List.mem_singleton.mp hq, eT]
        exact (c0 r hr).2
      · rcases List.mem_append.mp hq with w | w
        · have := c0 q w
          exact ⟨this.1, by omega⟩
        · rw [List.mem_singleton.mp w, eT]
          exact ⟨hp, by omega⟩
    · rw [q_up_n y]
      refine ⟨a.sublist sub, b0, fun q hq => ?_⟩
      have := c0 q hq
      exact ⟨this.1, by omega⟩
  · rcases mem i hi q hm1 with ⟨a, b⟩ | ⟨a, b⟩
    · rcases mem k hk q hm2 with ⟨a2, b2⟩ | ⟨a2, b2⟩
      · exact h6 i k q hi hk (old i hi q a) (old k hk q a2)
      · exact absurd a2 b
    · rcases mem k hk q hm2 with ⟨a2, b2⟩ | ⟨a2, b2⟩
      · exact absurd a b2
      · omega
/-- p is in no line any more -/
theorem q_ML.off {z z' : Nat → Int32} {L L0 : Nat → List Nat} {n T p : Nat} (h : q_ML z L n T) (hx : q_Lx L L0 p) (e1 : z' (172 + p) = -1) (e3 : z' 11 = z 11) (e4 : z' 1 = z 1) (e : ∀ q, q < 40 → q ≠ p → z' (172 + q) = z (172 + q)) (e5 : ∀ q, q < 40 → z' (212 + q) = z (212 + q)) : q_ML z' L0 n T := by
  obtain ⟨h1, h2, h3, h4, h5, h6⟩ := h
  have old : ∀ i, i < 25 → ∀ q, q ∈ L0 i → q ∈ L i := fun i hi q hq => (hx i hi).1.subset hq
  have neq : ∀ i, i < 25 → ∀ q, q ∈ L0 i → q ≠ p := fun i hi q hq y => (hx i hi).2.1 (by rw [← y]; exact hq)
  refine ⟨fun q hq => ⟨fun i hi hm => ?_, fun hz => ?_⟩, fun i hi => ?_, e3.trans h3, e4.trans h4, h5, fun i k q hi hk hm1 hm2 => h6 i k q hi hk (old i hi q hm1) (old k hk q hm2)⟩
  · rw [e q (by omega) (neq i hi q hm)]
    exact (h1 q hq).1 i hi (old i hi q hm)
  · by_cases y : q = p
    · rw [y]
      exact e1
    · rw [e q (by omega) y]
      exact (h1 q hq).2 (fun i hi hm => hz i hi ((hx i hi).2.2 q hm y))
  · obtain ⟨a, b, c⟩ := h2 i hi
    have sub := (hx i hi).1
    refine ⟨a.sublist sub, (b.sublist sub).imp_of_mem (fun {r q} hr hq hrq => ?_), fun q hq => ?_⟩
    · have := (c r (sub.subset hr)).1
      have := (c q (sub.subset hq)).1
      rw [e5 r (by omega), e5 q (by omega)]
      exact hrq
    · have := c q (sub.subset hq)
      rw [e5 q (by omega)]
      exact this
