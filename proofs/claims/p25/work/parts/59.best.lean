/-! PURE PART: looking: the best of some promises -/
/-- r is the best of those in S: the smallest due, then the smallest number; -1 if there is none -/
def q_isB (z : Nat → Int32) (S : Nat → Prop) (r : Int32) : Prop := (r = -1 ∧ ∀ p, ¬ S p) ∨ ∃ b, b < 40 ∧ S b ∧ r = nI b ∧ ∀ p, S p → (z (12 + b)).toInt < (z (12 + p)).toInt ∨ (z (12 + b)).toInt = (z (12 + p)).toInt ∧ b ≤ p
theorem q_isB.uniq {z : Nat → Int32} {S : Nat → Prop} {r r' : Int32} (h : q_isB z S r) (h' : q_isB z S r') : r = r' := by
  rcases h with ⟨e, h⟩ | ⟨b, hb, hs, e, h⟩
  · rcases h' with ⟨e', -⟩ | ⟨b', hb', hs', e', h'⟩
    · rw [e, e']
    · exact absurd hs' (h b')
  · rcases h' with ⟨e', h'⟩ | ⟨b', hb', hs', e', h'⟩
    · exact absurd hs (h' b)
    · have h1 := h b' hs'
      have h2 := h' b hs
      rw [e, e', show b = b' by omega]
theorem q_isB.congr {z : Nat → Int32} {S S' : Nat → Prop} {r : Int32} (h : q_isB z S r) (e : ∀ p, S p ↔ S' p) : q_isB z S' r := by
  rw [show S' = S from funext fun p => propext (e p).symm]
  exact h
theorem q_isB.one {z : Nat → Int32} {p : Nat} (hp : p < 40) : q_isB z (fun q => q = p) (nI p) := by
  refine Or.inr ⟨p, hp, rfl, rfl, fun q e => ?_⟩
  rw [e]
  exact Or.inr ⟨rfl, Nat.le_refl _⟩
theorem q_isB.nil {z : Nat → Int32} {S : Nat → Prop} (h : ∀ p, ¬ S p) : q_isB z S (-1) := Or.inl ⟨rfl, h⟩
theorem q_nm1 {p : Nat} (hp : p < 40) : ¬ nI p = -1 := fun y => nI_pos (n := p) (by omega) (by rw [y]; decide)
theorem q_earlier {f z : Nat → Int32} {S1 S2 : Nat → Prop} {r1 r2 : Int32} (h1 : q_isB z S1 r1) (h2 : q_isB z S2 r2) (e : ∀ p, S1 p ∨ S2 p → f (p * 6 + 1) = z (12 + p)) : ∃ r, f_X5_earlier r1 r2 f = some r ∧ q_isB z (fun p => S1 p ∨ S2 p) r := by
  unfold f_X5_earlier
  rcases h1 with ⟨rfl, h1⟩ | ⟨b1, hb1, hs1, rfl, h1⟩
  · exact ⟨r2, by rw [if_pos rfl], h2.congr (fun p => ⟨Or.inr, fun y => y.elim (fun x => absurd x (h1 p)) id⟩)⟩
  · rw [if_neg (q_nm1 hb1)]
    rcases h2 with ⟨rfl, h2⟩ | ⟨b2, hb2, hs2, rfl, h2⟩
    · exact ⟨nI b1, by rw [if_pos rfl], Or.inr ⟨b1, hb1, Or.inl hs1, rfl, fun p y => y.elim (h1 p) (fun x => absurd x (h2 p))⟩⟩
    · rw [if_neg (q_nm1 hb2), q_fact1 hb1, q_fact1 hb2, Option.bind_some, Option.bind_some, e b1 (Or.inl hs1), e b2 (Or.inr hs2)]
      by_cases c : z (12 + b1) = z (12 + b2)
      · rw [if_pos c]
        have c' : (z (12 + b1)).toInt = (z (12 + b2)).toInt := by rw [c]
        by_cases d : b2 < b1
        · refine ⟨nI b2, by rw [if_pos (nI_lt d (by omega))], Or.inr ⟨b2, hb2, Or.inr hs2, rfl, fun p y => ?_⟩⟩
          rcases y with y | y
          · have := h1 p y
            omega
          · exact h2 p y
        · refine ⟨nI b1, by rw [if_neg (nI_nlt (by omega) (by omega))], Or.inr ⟨b1, hb1, Or.inl hs1, rfl, fun p y => ?_⟩⟩
          rcases y with y | y
          · exact h1 p y
          · have := h2 p y
            omega
      · rw [if_neg c]
        have c' : ¬ (z (12 + b1)).toInt = (z (12 + b2)).toInt := fun y => c (Int32.toInt_inj.mp y)
        by_cases d : z (12 + b2) ≤ z (12 + b1)
        · have d' := Int32.le_iff_toInt_le.mp d
          refine ⟨nI b2, by rw [if_pos d], Or.inr ⟨b2, hb2, Or.inr hs2, rfl, fun p y => ?_⟩⟩
          rcases y with y | y
          · have := h1 p y
            omega
          · exact h2 p y
        · have d' : ¬ (z (12 + b2)).toInt ≤ (z (12 + b1)).toInt := fun y => d (Int32.le_iff_toInt_le.mpr y)
          refine ⟨nI b1, by rw [if_neg d], Or.inr ⟨b1, hb1, Or.inl hs1, rfl, fun p y => ?_⟩⟩
          rcases y with y | y
          · exact h1 p y
          · have := h2 p y
            omega
theorem q_better {z : Nat → Int32} {S1 S2 : Nat → Prop} {r1 r2 : Int32} (h1 : q_isB z S1 r1) (h2 : q_isB z S2 r2) : ∃ r, f_X10_better r1 r2 z = some r ∧ q_isB z (fun p => S1 p ∨ S2 p) r := by
  unfold f_X10_better f_X10_better_65 f_X10_better_69 f_X10_better_70 f_X10_better_8
  rcases h1 with ⟨rfl, h1⟩ | ⟨b1, hb1, hs1, rfl, h1⟩
  · exact ⟨r2, by rw [if_pos (by decide), if_neg (by decide)], h2.congr (fun p => ⟨Or.inr, fun y => y.elim (fun x => absurd x (h1 p)) id⟩)⟩
  · rw [if_neg (nI_pos (n := b1) (by omega))]
    rcases h2 with ⟨rfl, h2⟩ | ⟨b2, hb2, hs2, rfl, h2⟩
    · exact ⟨nI b1, by rw [if_neg (by decide), if_pos (nI_pos' (by omega))], Or.inr ⟨b1, hb1, Or.inl hs1, rfl, fun p y => y.elim (h1 p) (fun x => absurd x (h2 p))⟩⟩
    · rw [if_pos (nI_pos' (by omega)), q_a12, q_a12]
      simp (disch := omega) only [q_ck, q_cl, if_neg (show ¬ (1 : Int32) = 0 by decide), ↓reduceIte]
      by_cases d : z (12 + b1) < z (12 + b2)
      · have d' := Int32.lt_iff_toInt_lt.mp d
        refine ⟨nI b1, by rw [if_pos d], Or.inr ⟨b1, hb1, Or.inl hs1, rfl, fun p y => ?_⟩⟩
        rcases y with y | y
        · exact h1 p y
        · have := h2 p y
          omega
      · have d' : ¬ (z (12 + b1)).toInt < (z (12 + b2)).toInt := fun y => d (Int32.lt_iff_toInt_lt.mpr y)
        rw [if_neg d]
        by_cases c : z (12 + b1) = z (12 + b2)
        · have c' : (z (12 + b1)).toInt = (z (12 + b2)).toInt := by rw [c]
          rw [if_pos c]
          by_cases g : b2 ≤ b1
          · refine ⟨nI b2, by rw [if_pos (nI_le g (by omega))], Or.inr ⟨b2, hb2, Or.inr hs2, rfl, fun p y => ?_⟩⟩
            rcases y with y | y
            · have := h1 p y
              omega
            · exact h2 p y
          · refine ⟨nI b1, by rw [if_neg (nI_ge (by omega) (by omega))], Or.inr ⟨b1, hb1, Or.inl hs1, rfl, fun p y => ?_⟩⟩
            rcases y with y | y
            · exact h1 p y
            · have := h2 p y
              omega
        · have c' : ¬ (z (12 + b1)).toInt = (z (12 + b2)).toInt := fun y => c (Int32.toInt_inj.mp y)
          refine ⟨nI b2, by rw [if_neg c], Or.inr ⟨b2, hb2, Or.inr hs2, rfl, fun p y => ?_⟩⟩
          rcases y with y | y
          · have := h1 p y
            omega
          · exact h2 p y
/-- a walk along a line -/
theorem q_walk {behind : Nat → Int32} {l : List Nat} (hl : l.length ≤ 40) {F : (Int32 × Int32 × Int32 → Option Int32) → Int32 × Int32 × Int32 → Option Int32} (A : List Nat → Int32 → Prop) (step : ∀ pre p post acc, l = pre ++ p :: post → A pre acc → ∃ acc', A (pre ++ [p]) acc' ∧ ∀ k, F k (nI p, acc, nI pre.length) = k (behind p, acc', nI (pre.length + 1))) (fin : ∀ k here acc, F k (here, acc, nI l.length) = some acc) {here acc0 : Int32} (hc : q_ch behind here l) (h0 : A [] acc0) : ∃ r, zk_fx F zk_N (here, acc0, 0) = some r ∧ A l r := by
  refine q_loop (n := l.length) (P := fun o => ∃ r, o = some r ∧ A l r) (fun m s => ∃ pre post, l = pre ++ post ∧ pre.length = m ∧ q_ch behind s.1 post ∧ s.2.2 = nI m ∧ A pre s.2.1) ?_ l.length 0 zk_N (here, acc0, 0) (by omega) (by unfold zk_N; omega) ⟨[], l, rfl, rfl, hc, rfl, h0⟩
  intro m s hi
  obtain ⟨x1, x2, x3⟩ := s
  obtain ⟨pre, post, e, hm, hch, e3, ha⟩ := hi
  dsimp only at hch e3 ha
  subst e3 hm
  cases post with
  | nil =>
    right
    intro k
    rw [List.append_nil] at e
    subst e
    exact ⟨x2, fin k x1 x2, ha⟩
  | cons p post =>
    left
    have hlen : l.length = pre.length + (post.length + 1) := by rw [e, List.length_append, List.length_cons]
    refine ⟨by omega, ?_⟩
    obtain ⟨acc', h1, h2⟩ := step pre p post x2 e ha
    refine ⟨(behind p, acc', nI (pre.length + 1)), ⟨pre ++ [p], post, by rw [e]; simp, by simp, hch.2, rfl, h1⟩, fun k => ?_⟩
    rw [← h2 k, hch.1]
section QB
variable {pr : VX5} {dy : VX0} {ln : VX3} {now room bound drift br lt fl sw ps lo : Int32} {z : Nat → Int32} {L L0 : Nat → List Nat} {n k c T t : Nat}
theorem q_earliestIn (h : q_V pr dy now room bound drift br lt fl sw ps lo z L n c T t) (hcl : q_CL ln L) {j : Nat} (hj : j < 25) : ∃ r, f_X8_earliestIn (nI j) pr ln = some r ∧ q_isB z (fun p => p ∈ L j ∧ ¬ z (132 + p) = 3) r := by
  have hn := h.n4
  have hlen := hcl.len hj
  obtain ⟨g1, g2, g3, g4, g5⟩ := hcl.1 j hj
  unfold f_X8_earliestIn
  rw [q_lengthOf hj, Option.bind_some, q_frontOf hj, Option.bind_some, g1]
  exact q_walk (F := F_X8_earliestIn_24 pr ln (nI (L j).length)) (behind := ln.2.2.2.2) hlen (fun pre acc => q_isB z (fun p => p ∈ pre ∧ ¬ z (132 + p) = 3) acc) (fun pre p post acc e ha => by
    have hm : p ∈ L j := by rw [e]; simp
    have hmem : ∀ q, q ∈ pre → q ∈ L j := fun q hq => by rw [e]; exact List.mem_append_left _ hq
    have hp := ((h.2.1.2.1 j hj).2.2 p hm).1
    have hl : pre.length < (L j).length := by rw [e, List.length_append, List.length_cons]; omega
    by_cases c : z (132 + p) = 3
    · refine ⟨acc, ha.congr (fun q => ?_), fun k => ?_⟩
      · rw [List.mem_append, List.mem_singleton]
        exact ⟨fun ⟨a, b⟩ => ⟨Or.inl a, b⟩, fun ⟨a, b⟩ => ⟨a.elim id (fun y => absurd (y ▸ c) b), b⟩⟩
      · unfold F_X8_earliestIn_24 f_X8_earliestIn_54
        dsimp only
        rw [if_neg (nI_ge hl (by omega)), q_isIn (by omega), Option.bind_some, (h.1.2 p hp).1, if_pos c, if_neg (by decide), q_follower (by omega), Option.bind_some, nI_1]
    · obtain ⟨r, k1, k2⟩ := q_earlier (f := pr.1) ha (q_isB.one (z := z) (p := p) (by omega)) (fun q y => by
        have hq : q ∈ L j := y.elim (fun w => hmem q w.1) (fun w => by rw [w]; exact hm)
        exact (h.1.2 q ((h.2.1.2.1 j hj).2.2 q hq).1).2.1)
      refine ⟨r, k2.congr (fun q => ?_), fun k => ?_⟩
      · rw [List.mem_append, List.mem_singleton]
        exact ⟨fun y => y.elim (fun w => ⟨Or.inl w.1, w.2⟩) (fun w => ⟨Or.inr w, by rw [w]; exact c⟩), fun ⟨a, b⟩ => a.elim (fun y => Or.inl ⟨y, b⟩) Or.inr⟩
      · unfold F_X8_earliestIn_24 f_X8_earliestIn_54
        dsimp only
        rw [if_neg (nI_ge hl (by omega)), q_isIn (by omega), Option.bind_some, (h.1.2 p hp).1, if_neg c, if_pos rfl, k1, Option.bind_some, q_follower (by omega), Option.bind_some, nI_1]) (fun k here acc => by
    unfold F_X8_earliestIn_24
    dsimp only
    rw [if_pos (nI_le (Nat.le_refl _) (by omega))]) g2 (q_isB.nil (fun p y => by cases y.1))
theorem q_earliestOfAll (h : q_V pr dy now room bound drift br lt fl sw ps lo z L n c T t) : ∃ r, f_X8_earliestOfAll pr = some r ∧ q_isB z (fun p => p < n ∧ z (132 + p) = 0) r := by
  have hn := h.n4
  have hg := h.1.1
  unfold f_X8_earliestOfAll
  refine q_loop (n := n) (P := fun o => ∃ r, o = some r ∧ q_isB z (fun p => p < n ∧ z (132 + p) = 0) r) (fun m s => m ≤ n ∧ s.2 = nI m ∧ q_isB z (fun p => p < m ∧ z (132 + p) = 0) s.1) ?_ n 0 zk_N _ (by omega) (by unfold zk_N; omega) ⟨by omega, rfl, q_isB.nil (fun p y => Nat.not_lt_zero p y.1)⟩
  intro m s hi
  obtain ⟨x1, x2⟩ := s
  obtain ⟨hm, e2, ha⟩ := hi
  dsimp only at e2 ha
  subst e2
  by_cases hmn : m < n
  · left
    refine ⟨hmn, ?_⟩
    have c1 : ¬ nI n ≤ nI m := nI_ge hmn (by omega)
    by_cases c : z (132 + m) = 0
    · obtain ⟨r, k1, k2⟩ := q_earlier (f := pr.1) ha (q_isB.one (z := z) (p := m) (by omega)) (fun q y => (h.1.2 q (y.elim (fun w => Nat.lt_trans w.1 hmn) (fun w => by rw [w]; exact hmn))).2.1)
      refine ⟨(r, nI (m + 1)), ⟨by omega, rfl, k2.congr (fun q => ?_)⟩, fun k => ?_⟩
      · exact ⟨fun y => y.elim (fun w => ⟨by omega, w.2⟩) (fun w => by rw [w]; exact ⟨by omega, c⟩), fun ⟨a, b⟩ => (Nat.lt_or_eq_of_le (Nat.le_of_lt_succ a)).elim (fun w => Or.inl ⟨w, b⟩) Or.inr⟩
      · unfold F_X8_earliestOfAll_4 f_X8_earliestOfAll_37 f_X5_given
        simp only [hg, Option.bind_some, if_neg c1, q_isIn (p := m) (by omega), (h.1.2 m hmn).1, if_pos c, if_neg (show ¬ (1 : Int32) = 0 by decide), k1, nI_1]
    · refine ⟨(x1, nI (m + 1)), ⟨by omega, rfl, ha.congr (fun q => ?_)⟩, fun k => ?_⟩
      · exact ⟨fun w => ⟨by omega, w.2⟩, fun ⟨a, b⟩ => (Nat.lt_or_eq_of_le (Nat.le_of_lt_succ a)).elim (fun w => ⟨w, b⟩) (fun w => absurd (w ▸ b) c)⟩
      · unfold F_X8_earliestOfAll_4 f_X8_earliestOfAll_37 f_X5_given
        simp only [hg, Option.bind_some, if_neg c1, q_isIn (p := m) (by omega), (h.1.2 m hmn).1, if_neg c, ↓reduceIte, nI_1]
  · right
    intro k
    have e : m = n := by omega
    subst e
    refine ⟨x1, ?_, ha⟩
    unfold F_X8_earliestOfAll_4 f_X5_given
    simp only [hg, Option.bind_some, if_pos (nI_le (Nat.le_refl m) (show m < 2 ^ 31 by omega))]
theorem q_bestAt {z : Nat → Int32} {n : Nat} (h1 : z 1 = nI n) (hn : n ≤ 40) (x : Int32) : ∃ r, f_X10_bestAt x z = some r ∧ q_isB z (fun p => p < n ∧ z (132 + p) = 0 ∧ (x < 0 ∨ z (172 + p) = x)) r := by
  unfold f_X10_bestAt
  refine q_loop (n := n) (P := fun o => ∃ r, o = some r ∧ q_isB z (fun p => p < n ∧ z (132 + p) = 0 ∧ (x < 0 ∨ z (172 + p) = x)) r) (fun m s => m ≤ n ∧ s.2 = nI m ∧ q_isB z (fun p => p < m ∧ z (132 + p) = 0 ∧ (x < 0 ∨ z (172 + p) = x)) s.1) ?_ n 0 zk_N _ (by omega) (by unfold zk_N; omega) ⟨by omega, rfl, q_isB.nil (fun p y => Nat.not_lt_zero p y.1)⟩
  intro m s hi
  obtain ⟨x1, x2⟩ := s
  obtain ⟨hm, e2, ha⟩ := hi
  dsimp only at e2 ha
  subst e2
  by_cases hmn : m < n
  · left
    refine ⟨hmn, ?_⟩
    have c1 : ¬ nI n ≤ nI m := nI_ge hmn (by omega)
    by_cases c : z (132 + m) = 0 ∧ (x < 0 ∨ z (172 + m) = x)
    · obtain ⟨r, k1, k2⟩ := q_better ha (q_isB.one (z := z) (p := m) (by omega))
      refine ⟨(r, nI (m + 1)), ⟨by omega, rfl, k2.congr (fun q => ?_)⟩, fun k => ?_⟩
      · exact ⟨fun y => y.elim (fun w => ⟨by omega, w.2⟩) (fun w => by rw [w]; exact ⟨by omega, c⟩), fun ⟨a, b⟩ => (Nat.lt_or_eq_of_le (Nat.le_of_lt_succ a)).elim (fun w => Or.inl ⟨w, b⟩) Or.inr⟩
      · unfold F_X10_bestAt_4 f_X10_bestAt_45 f_X10_bestAt_52
        simp (disch := omega) only [q_n1, q_k1, h1, if_neg c1, q_a132, q_a172, q_ck, q_cl, if_pos c.1, k1, Option.bind_some, nI_1]
        by_cases d : x < 0
        · rw [if_pos d]
        · rw [if_neg d, if_pos (c.2.resolve_left d)]
    · refine ⟨(x1, nI (m + 1)), ⟨by omega, rfl, ha.congr (fun q => ?_)⟩, fun k => ?_⟩
      · exact ⟨fun w => ⟨by omega, w.2⟩, fun ⟨a, b⟩ => (Nat.lt_or_eq_of_le (Nat.le_of_lt_succ a)).elim (fun w => ⟨w, b⟩) (fun w => absurd (w ▸ b) c)⟩
      · unfold F_X10_bestAt_4 f_X10_bestAt_52
        simp (disch := omega) only [q_n1, q_k1, h1, if_neg c1, q_a132, q_a172, q_ck, q_cl, nI_1]
        by_cases d : z (132 + m) = 0
        · rw [if_pos d, if_neg (fun y => c ⟨d, Or.inl y⟩), if_neg (fun y => c ⟨d, Or.inr y⟩)]
        · rw [if_neg d]
  · right
    intro k
    have e : m = n := by omega
    subst e
    refine ⟨x1, ?_, ha⟩
    unfold F_X10_bestAt_4
    simp only [q_n1, q_k1, h1, if_pos (nI_le (Nat.le_refl m) (show m < 2 ^ 31 by omega))]
end QB
