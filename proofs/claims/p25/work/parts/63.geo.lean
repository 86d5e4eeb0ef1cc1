/-! PURE PART of p25: where each promise stands, by its due (rows alone) -/
/-- a place's number; 25 is nowhere -/
def gw_c (c : Nat) : Int32 := if c = 25 then -1 else nI c
theorem gw_c25 : gw_c 25 = -1 := if_pos rfl
theorem gw_cn {c : Nat} (h : c < 25) : gw_c c = nI c := if_neg (by omega)
theorem gw_eq {c j : Nat} (hc : c ≤ 25) (hj : j < 25) : gw_c c = nI j ↔ c = j := by
  by_cases e : c = 25
  · subst e
    rw [gw_c25]
    exact ⟨fun y => absurd y (fun w => nI_pos (n := j) (by omega) (by rw [← w]; decide)), fun y => by omega⟩
  · rw [gw_cn (by omega)]
    exact nI_eq (by omega) (by omega)
/-- a promise: its place's number, its state, its due; a, b, c: the least due, due by 8, due by 64 of the three rings; t: the tick -/
def gw_at (a b c t wc sc due : Nat) : Prop := sc ≤ 4 ∧ wc ≤ 25 ∧ due ≤ t + 511 ∧ (wc < 24 → sc = 0 ∨ sc = 3) ∧ (wc = 24 → (sc = 1 ∨ sc = 3) ∧ due ≤ t) ∧ (wc = 25 → sc = 2 ∨ sc = 4) ∧ (wc < 8 → a ≤ due ∧ due < a + 8 ∧ due % 8 = wc) ∧ (8 ≤ wc ∧ wc < 16 → b ≤ due / 8 ∧ due / 8 < b + 8 ∧ due / 8 % 8 = wc - 8) ∧ (16 ≤ wc ∧ wc < 24 → c ≤ due / 64 ∧ due / 64 < c + 8 ∧ due / 64 % 8 = wc - 16)
def gw_P (a b c t : Nat) (z : Nat → Int32) (p : Nat) : Prop := ∃ wc sc due, z (172 + p) = gw_c wc ∧ z (132 + p) = nI sc ∧ z (12 + p) = nI due ∧ gw_at a b c t wc sc due
def gw_G (a b c t n : Nat) (z : Nat → Int32) : Prop := ∀ p, p < n → gw_P a b c t z p
/-- what else holds of a row -/
def gw_B (n t : Nat) (z : Nat → Int32) : Prop := z 0 = nI t ∧ z 1 = nI n ∧ n ≤ 40 ∧ t ≤ 25000 ∧ (∃ r, z 2 = nI r ∧ 1 ≤ r ∧ r ≤ 20) ∧ ¬ z 3 < 0 ∧ ∀ p, p < n → ∃ q m, z (52 + p) = nI q ∧ z (92 + p) = nI m ∧ q ≤ 511 ∧ m ≤ 99 ∧ (m ≠ 0 → q ≠ 0)
/-- what a fall, an arrival, a sweep leave as it is -/
def gw_fr (z z' : Nat → Int32) : Prop := ∀ i, i < 7 ∨ 12 ≤ i ∧ i < 132 ∨ 252 ≤ i ∧ i < 368 → z' i = z i
theorem gw_fr.refl {z : Nat → Int32} : gw_fr z z := fun _ _ => rfl
theorem gw_fr.trans {z z1 z2 : Nat → Int32} (h : gw_fr z z1) (g : gw_fr z1 z2) : gw_fr z z2 := fun i hi => (g i hi).trans (h i hi)
theorem gw_B.fr {n t : Nat} {z z' : Nat → Int32} (h : gw_B n t z) (f : gw_fr z z') : gw_B n t z' := by
  obtain ⟨h0, h1, h2, h3, h4, h5, h6⟩ := h
  refine ⟨(f 0 (by omega)).trans h0, (f 1 (by omega)).trans h1, h2, h3, ?_, ?_, fun p hp => ?_⟩
  · rw [f 2 (by omega)]
    exact h4
  · rw [f 3 (by omega)]
    exact h5
  · rw [f (52 + p) (by omega), f (92 + p) (by omega)]
    exact h6 p hp
theorem gw_P.cong {a b c t p : Nat} {z z' : Nat → Int32} (h : gw_P a b c t z p) (e1 : z' (172 + p) = z (172 + p)) (e2 : z' (132 + p) = z (132 + p)) (e3 : z' (12 + p) = z (12 + p)) : gw_P a b c t z' p := by
  obtain ⟨wc, sc, due, h1, h2, h3, h4⟩ := h
  exact ⟨wc, sc, due, e1.trans h1, e2.trans h2, e3.trans h3, h4⟩
theorem gw_G.one {a b c t n p : Nat} {z z' : Nat → Int32} (h : gw_G a b c t n z) (hn : n ≤ 40) (e : ∀ q, q < 40 → q ≠ p → z' (172 + q) = z (172 + q) ∧ z' (132 + q) = z (132 + q) ∧ z' (12 + q) = z (12 + q)) (hp : p < n → gw_P a b c t z' p) : gw_G a b c t n z' := by
  intro q hq
  by_cases y : q = p
  · subst y
    exact hp hq
  · obtain ⟨e1, e2, e3⟩ := e q (by omega) y
    exact (h q hq).cong e1 e2 e3
/-! counts -/
theorem gw_cn0 {P : Nat → Bool} : ∀ n, q_cn P n = 0 → ∀ q, q < n → P q = false
  | 0, _, q, hq => absurd hq (Nat.not_lt_zero q)
  | n + 1, h, q, hq => by
    unfold q_cn at h
    by_cases y : P n = true
    · rw [if_pos y] at h
      omega
    · rw [if_neg y] at h
      by_cases e : q = n
      · subst e
        exact Bool.eq_false_iff.mpr y
      · exact gw_cn0 n (by omega) q (by omega)
theorem gw_cnz {P : Nat → Bool} : ∀ n, (∀ q, q < n → P q = false) → q_cn P n = 0
  | 0, _ => rfl
  | n + 1, h => by
    unfold q_cn
    rw [gw_cnz n (fun q hq => h q (by omega)), h n (by omega)]
    rfl
/-! who is at the front -/
theorem gw_front {n : Nat} {z : Nat → Int32} (h1 : z 1 = nI n) (hn : n ≤ 40) (x : Int32) : ∃ r, f_X10_front x z = some r ∧ ((r = -1 ∧ ∀ p, p < n → z (172 + p) ≠ x) ∨ ∃ p, p < n ∧ r = nI p ∧ z (172 + p) = x) := by
  unfold f_X10_front
  refine q_loop (n := n) (P := fun o => ∃ r, o = some r ∧ ((r = -1 ∧ ∀ p, p < n → z (172 + p) ≠ x) ∨ ∃ p, p < n ∧ r = nI p ∧ z (172 + p) = x)) (fun m (s : Int32 × Int32) => m ≤ n ∧ s.2 = nI m ∧ ((s.1 = -1 ∧ ∀ p, p < m → z (172 + p) ≠ x) ∨ ∃ p, p < m ∧ s.1 = nI p ∧ z (172 + p) = x)) ?_ n 0 zk_N ((-1), 0) (by omega) (by unfold zk_N; omega) ⟨by omega, rfl, Or.inl ⟨rfl, fun p hp => absurd hp (Nat.not_lt_zero p)⟩⟩
  intro m s hi
  obtain ⟨x2, x3⟩ := s
  obtain ⟨hm, e3, hi⟩ := hi
  dsimp only at e3 hi
  subst e3
  unfold F_X10_front_4
  dsimp only
  by_cases hmn : m < n
  · refine Or.inl ⟨hmn, ?_⟩
    have c1 : ¬ nI n ≤ nI m := nI_ge hmn (by omega)
    have k59 : ∀ (k : Int32 × Int32 → Option Int32) (y : Int32), f_X10_front_59 k y (nI m) = k (y, nI m + 1) := fun k y => by
      unfold f_X10_front_59 f_X10_front_60 f_X10_front_72
      rw [if_pos rfl]
    have k55 : ∀ (k : Int32 × Int32 → Option Int32) (y : Int32), f_X10_front_55 k y (nI m) = k (nI m, nI m + 1) := fun k y => by
      unfold f_X10_front_55 f_X10_front_60 f_X10_front_72
      rw [if_neg (by decide)]
    simp (disch := omega) only [q_n1, q_k1, h1, if_neg c1, q_a172, q_a212, q_ck, q_cl, k59, k55]
    by_cases hin : z (172 + m) = x
    · simp only [if_pos hin]
      rcases hi with ⟨rfl, hi⟩ | ⟨b, hb, rfl, hbx⟩
      · refine ⟨(nI m, nI m + 1), ⟨by omega, nI_1 m, Or.inr ⟨m, by omega, rfl, hin⟩⟩, fun k => ?_⟩
        rw [if_pos (by decide)]
      · simp (disch := omega) only [if_neg (nI_pos (n := b) (by omega)), q_a212, q_ck, q_cl]
        by_cases hle : z (212 + b) ≤ z (212 + m)
        · refine ⟨(nI b, nI m + 1), ⟨by omega, nI_1 m, Or.inr ⟨b, by omega, rfl, hbx⟩⟩, fun k => ?_⟩
          rw [if_pos hle]
        · refine ⟨(nI m, nI m + 1), ⟨by omega, nI_1 m, Or.inr ⟨m, by omega, rfl, hin⟩⟩, fun k => ?_⟩
          rw [if_neg hle]
    · simp only [if_neg hin]
      refine ⟨(x2, nI m + 1), ⟨by omega, nI_1 m, ?_⟩, fun k => rfl⟩
      rcases hi with ⟨e, hi⟩ | ⟨b, hb, e, hbx⟩
      · refine Or.inl ⟨e, fun p hp => ?_⟩
        by_cases y : p = m
        · rw [y]
          exact hin
        · exact hi p (by omega)
      · exact Or.inr ⟨b, by omega, e, hbx⟩
  · right
    intro k
    have e : m = n := by omega
    subst e
    simp (disch := omega) only [q_n1, q_k1, h1]
    rw [if_pos (nI_le (Nat.le_refl _) (by omega))]
    exact ⟨x2, rfl, hi⟩
/-! a place by distance -/
def gw_j (d t : Nat) : Nat := if d - t < 8 then d % 8 else if d - t < 64 then 8 + d / 8 % 8 else 16 + d / 64 % 8
theorem gw_j24 (d t : Nat) : gw_j d t < 24 := by
  unfold gw_j
  split
  · omega
  · split <;> omega
theorem gw_dist {d t p : Nat} {z : Nat → Int32} (htd : t ≤ d) (hd : d < 2 ^ 30) (hp : p < 40) (h1 : z (12 + p) = nI d) (h2 : z 0 = nI t) : f_X10_standByDistance (nI p) z = some (upd (upd (upd z (172 + p) (nI (gw_j d t))) (212 + p) (z 11)) 11 (z 11 + 1)) := by
  unfold f_X10_standByDistance gw_j
  simp only [zk_let]
  have e1 : nI d - nI t = nI (d - t) := pk_sub htd
  by_cases c1 : d - t < 8
  · have k1 : ¬ (8 : Int32) ≤ nI (d - t) := nI_ge (b := 8) c1 (by omega)
    simp (disch := omega) only [q_a12, q_ck, q_cl, q_n0, q_k0, h1, h2, e1, if_neg k1, if_pos c1, q_rem8, q_stand hp, Option.bind_some]
  · have k1 : (8 : Int32) ≤ nI (d - t) := nI_le (a := 8) (by omega) (by omega)
    by_cases c2 : d - t < 64
    · have k2 : ¬ (64 : Int32) ≤ nI (d - t) := nI_ge (b := 64) c2 (by omega)
      simp (disch := omega) only [q_a12, q_ck, q_cl, q_n0, q_k0, h1, h2, e1, if_pos k1, if_neg k2, if_neg c1, if_pos c2, q_div8, q_rem8, q_a8, q_stand hp, Option.bind_some]
    · have k2 : (64 : Int32) ≤ nI (d - t) := nI_le (a := 64) (by omega) (by omega)
      simp (disch := omega) only [q_a12, q_ck, q_cl, q_n0, q_k0, h1, h2, e1, if_pos k1, if_pos k2, if_neg c1, if_neg c2, q_div64, q_rem8, q_a16, q_stand hp, Option.bind_some]
theorem gw_j_at {a b c t d : Nat} (h0 : t ≤ d) (h1 : d ≤ t + 511) (h2 : d - t < 8 → a ≤ d ∧ d < a + 8) (h3 : 8 ≤ d - t → d - t < 64 → b ≤ d / 8 ∧ d / 8 < b + 8) (h4 : 64 ≤ d - t → c ≤ d / 64 ∧ d / 64 < c + 8) : gw_at a b c t (gw_j d t) 0 d := by
  unfold gw_at gw_j
  by_cases c1 : d - t < 8
  · rw [if_pos c1]
    have := h2 c1
    refine ⟨by omega, by omega, h1, fun _ => Or.inl rfl, fun y => by omega, fun y => by omega, fun _ => ⟨by omega, by omega, rfl⟩, fun y => by omega, fun y => by omega⟩
  · rw [if_neg c1]
    by_cases c2 : d - t < 64
    · rw [if_pos c2]
      have := h3 (by omega) c2
      refine ⟨by omega, by omega, h1, fun _ => Or.inl rfl, fun y => by omega, fun y => by omega, fun y => by omega, fun _ => ⟨by omega, by omega, by omega⟩, fun y => by omega⟩
    · rw [if_neg c2]
      have := h4 (by omega)
      refine ⟨by omega, by omega, h1, fun _ => Or.inl rfl, fun y => by omega, fun y => by omega, fun y => by omega, fun y => by omega, fun _ => ⟨by omega, by omega, by omega⟩⟩
/-- a sweep of one -/
theorem gw_G.swept {a b c t n p : Nat} {z : Nat → Int32} (h : gw_G a b c t n z) (hn : n ≤ 40) (hp4 : p < 40) (x : Int32) : gw_G a b c t n (upd (upd (upd z (172 + p) (-1)) (132 + p) 4) 8 x) := by
  refine h.one (p := p) hn (fun q hq y => ?_) (fun hp => ?_)
  · simp (disch := omega) only [pk_un]
    exact ⟨trivial, trivial, trivial⟩
  · obtain ⟨wc, sc, due, h1, h2, h3, h4⟩ := h p hp
    refine ⟨25, 4, due, ?_, ?_, ?_, ?_⟩
    · simp (disch := omega) only [pk_un, pk_us]
      rfl
    · simp (disch := omega) only [pk_un, pk_us]
      rfl
    · simp (disch := omega) only [pk_un]
      exact h3
    · have := h4.2.2.1
      exact ⟨by omega, by omega, this, fun y => by omega, fun y => by omega, fun _ => Or.inr rfl, fun y => by omega, fun y => by omega, fun y => by omega⟩
theorem gw_fr.swept {p : Nat} {z : Nat → Int32} (hp : p < 40) (x : Int32) : gw_fr z (upd (upd (upd z (172 + p) (-1)) (132 + p) 4) 8 x) := by
  intro i hi
  simp (disch := omega) only [pk_un]
/-- a fall: nobody is left there -/
theorem gw_fall {a b c t n x : Nat} {z : Nat → Int32} (hB : gw_B n t z) (hG : gw_G a b c t n z) (hx : x < 24) (hd : ∀ due, gw_at a b c t x 0 due → t ≤ due ∧ gw_at a b c t (gw_j due t) 0 due ∧ gw_j due t ≠ x) : q_po (fun z' => gw_G a b c t n z' ∧ gw_fr z z' ∧ ∀ p, p < n → z' (172 + p) ≠ nI x) (f_X10_fall (nI x) z) := by
  have hn := hB.2.2.1
  have ht := hB.2.2.2.1
  unfold f_X10_fall
  rw [q_many hB.2.1 hn, Option.bind_some]
  generalize hr : q_cn (fun q => decide (z (172 + q) = nI x)) n = r
  have hr4 : r ≤ 40 := by
    rw [← hr]
    exact Nat.le_trans (q_cn_le _ n) hn
  refine q_po.fx (N := zk_N) (fun _ (s : Int32 × (Nat → Int32)) => ∃ m, m ≤ r ∧ s.1 = nI m ∧ gw_G a b c t n s.2 ∧ gw_fr z s.2 ∧ q_cn (fun q => decide (s.2 (172 + q) = nI x)) n + m = r) ?_ zk_N 0 (0, z) (by omega) ⟨0, by omega, rfl, hG, gw_fr.refl, by omega⟩
  clear hr hG
  intro kk mm s _ hi hk
  obtain ⟨x3, y⟩ := s
  obtain ⟨m, hm, e3, hG, hF, hcn⟩ := hi
  dsimp only at e3 hG hF hcn
  subst e3
  have hBy := hB.fr hF
  unfold F_X10_fall_8 f_X10_fall_61
  dsimp only
  by_cases hmr : m < r
  · rw [if_neg (nI_ge hmr (by omega))]
    obtain ⟨fr, k1, k2⟩ := gw_front hBy.2.1 hn (nI x)
    rw [k1, Option.bind_some]
    rcases k2 with ⟨-, k2⟩ | ⟨p, hp, rfl, hpx⟩
    · exfalso
      rw [gw_cnz n (fun q hq => decide_eq_false (k2 q hq))] at hcn
      omega
    · have hp4 : p < 40 := by omega
      obtain ⟨wc, sc, due, g1, g2, g3, g4⟩ := hG p hp
      have ew : wc = x := (gw_eq g4.2.1 (by omega)).mp (g1.symm.trans hpx)
      subst ew
      simp (disch := omega) only [q_a132, q_ck, q_cl]
      by_cases h3 : y (132 + p) = 3
      · rw [if_pos h3, q_sweepOne hp4, Option.bind_some, nI_1]
        refine hk _ ⟨m + 1, by omega, rfl, hG.swept hn hp4 _, hF.trans (gw_fr.swept hp4 _), ?_⟩
        dsimp only
        have := q_cn_flip (P := fun q => decide (upd (upd (upd y (172 + p) (-1)) (132 + p) 4) 8 (y 8 + 1) (172 + q) = nI wc)) (R := fun q => decide (y (172 + q) = nI wc)) n hp (decide_eq_false (by
          simp (disch := omega) only [pk_un, pk_us]
          exact fun w => nI_pos (n := wc) (by omega) (by rw [← w]; decide))) (decide_eq_true hpx) (fun q hq hne => by simp (disch := omega) only [pk_un])
        omega
      · have hsc : sc = 0 := by
          rcases g4.2.2.2.1 hx with w | w
          · exact w
          · rw [g2, w] at h3
            exact absurd rfl h3
        subst hsc
        obtain ⟨d1, d2, d3⟩ := hd due g4
        have hdl := g4.2.2.1
        rw [if_neg h3, gw_dist d1 (by omega) hp4 g3 hBy.1, Option.bind_some, q_k7, q_k7]
        simp only [zk_let, nI_1]
        have hj := gw_j24 due t
        refine hk _ ⟨m + 1, by omega, rfl, ?_, ?_, ?_⟩
        · dsimp only
          refine hG.one (p := p) hn (fun q hq w => ?_) (fun _ => ⟨gw_j due t, 0, due, ?_, ?_, ?_, d2⟩)
          · simp (disch := omega) only [q_n7, pk_un]
            exact ⟨trivial, trivial, trivial⟩
          · simp (disch := omega) only [q_n7, pk_un, pk_us]
            exact (gw_cn (by omega)).symm
          · simp (disch := omega) only [q_n7, pk_un, pk_us]
            exact g2
          · simp (disch := omega) only [q_n7, pk_un, pk_us]
            exact g3
        · refine hF.trans (fun i hi => ?_)
          dsimp only
          simp (disch := omega) only [q_n7, pk_un]
        · dsimp only
          have := q_cn_flip (P := fun q => decide (upd (upd (upd (upd y (172 + p) (nI (gw_j due t))) (212 + p) (y 11)) 11 (y 11 + 1)) (7 : Int32).toNatClampNeg (upd (upd (upd y (172 + p) (nI (gw_j due t))) (212 + p) (y 11)) 11 (y 11 + 1) (7 : Int32).toNatClampNeg + 1) (172 + q) = nI wc)) (R := fun q => decide (y (172 + q) = nI wc)) n hp (decide_eq_false (by
            simp (disch := omega) only [q_n7, pk_un, pk_us]
            exact fun w => d3 ((nI_eq (by omega) (by omega)).mp w))) (decide_eq_true hpx) (fun q hq hne => by simp (disch := omega) only [q_n7, pk_un])
          omega
  · rw [if_pos (nI_le (by omega) (by omega))]
    refine q_po.some ⟨hG, hF, fun p hp => ?_⟩
    exact of_decide_eq_false (gw_cn0 (P := fun q => decide (y (172 + q) = nI x)) n (by omega) p hp)
/-- an arrival: nobody is left there -/
theorem gw_ready {a b c t n x : Nat} {z : Nat → Int32} (hB : gw_B n t z) (hG : gw_G a b c t n z) (hx : x < 24) (hd : ∀ due, gw_at a b c t x 0 due → due ≤ t) : q_po (fun z' => gw_G a b c t n z' ∧ gw_fr z z' ∧ ∀ p, p < n → z' (172 + p) ≠ nI x) (f_X10_getReady (nI x) z) := by
  have hn := hB.2.2.1
  have ht := hB.2.2.2.1
  unfold f_X10_getReady
  rw [q_many hB.2.1 hn, Option.bind_some]
  generalize hr : q_cn (fun q => decide (z (172 + q) = nI x)) n = r
  have hr4 : r ≤ 40 := by
    rw [← hr]
    exact Nat.le_trans (q_cn_le _ n) hn
  refine q_po.fx (N := zk_N) (fun _ (s : Int32 × (Nat → Int32)) => ∃ m, m ≤ r ∧ s.1 = nI m ∧ gw_G a b c t n s.2 ∧ gw_fr z s.2 ∧ q_cn (fun q => decide (s.2 (172 + q) = nI x)) n + m = r) ?_ zk_N 0 (0, z) (by omega) ⟨0, by omega, rfl, hG, gw_fr.refl, by omega⟩
  clear hr hG
  intro kk mm s _ hi hk
  obtain ⟨x3, y⟩ := s
  obtain ⟨m, hm, e3, hG, hF, hcn⟩ := hi
  dsimp only at e3 hG hF hcn
  subst e3
  have hBy := hB.fr hF
  unfold F_X10_getReady_8 f_X10_getReady_64
  dsimp only
  by_cases hmr : m < r
  · rw [if_neg (nI_ge hmr (by omega))]
    obtain ⟨fr, k1, k2⟩ := gw_front hBy.2.1 hn (nI x)
    rw [k1, Option.bind_some]
    rcases k2 with ⟨-, k2⟩ | ⟨p, hp, rfl, hpx⟩
    · exfalso
      rw [gw_cnz n (fun q hq => decide_eq_false (k2 q hq))] at hcn
      omega
    · have hp4 : p < 40 := by omega
      obtain ⟨wc, sc, due, g1, g2, g3, g4⟩ := hG p hp
      have ew : wc = x := (gw_eq g4.2.1 (by omega)).mp (g1.symm.trans hpx)
      subst ew
      simp (disch := omega) only [q_a132, q_ck, q_cl]
      by_cases h3 : y (132 + p) = 3
      · rw [if_pos h3, q_sweepOne hp4, Option.bind_some, nI_1]
        refine hk _ ⟨m + 1, by omega, rfl, hG.swept hn hp4 _, hF.trans (gw_fr.swept hp4 _), ?_⟩
        dsimp only
        have := q_cn_flip (P := fun q => decide (upd (upd (upd y (172 + p) (-1)) (132 + p) 4) 8 (y 8 + 1) (172 + q) = nI wc)) (R := fun q => decide (y (172 + q) = nI wc)) n hp (decide_eq_false (by
          simp (disch := omega) only [pk_un, pk_us]
          exact fun w => nI_pos (n := wc) (by omega) (by rw [← w]; decide))) (decide_eq_true hpx) (fun q hq hne => by simp (disch := omega) only [pk_un])
        omega
      · have hsc : sc = 0 := by
          rcases g4.2.2.2.1 hx with w | w
          · exact w
          · rw [g2, w] at h3
            exact absurd rfl h3
        subst hsc
        have d1 := hd due g4
        have hdl := g4.2.2.1
        have hsd : f_X10_stand (nI p) 24 y = some (upd (upd (upd y (172 + p) (nI 24)) (212 + p) (y 11)) 11 (y 11 + 1)) := q_stand hp4 24
        rw [if_neg h3, hsd, Option.bind_some]
        simp only [zk_let, nI_1]
        refine hk _ ⟨m + 1, by omega, rfl, ?_, ?_, ?_⟩
        · dsimp only
          refine hG.one (p := p) hn (fun q hq w => ?_) (fun _ => ⟨24, 1, due, ?_, ?_, ?_, ?_⟩)
          · simp (disch := omega) only [pk_un]
            exact ⟨trivial, trivial, trivial⟩
          · simp (disch := omega) only [pk_un, pk_us]
            rfl
          · simp (disch := omega) only [pk_us]
            rfl
          · simp (disch := omega) only [pk_un, pk_us]
            exact g3
          · exact ⟨by omega, by omega, hdl, fun w => by omega, fun _ => ⟨Or.inl rfl, d1⟩, fun w => by omega, fun w => by omega, fun w => by omega, fun w => by omega⟩
        · refine hF.trans (fun i hi => ?_)
          dsimp only
          simp (disch := omega) only [pk_un]
        · dsimp only
          have := q_cn_flip (P := fun q => decide (upd (upd (upd (upd y (172 + p) (nI 24)) (212 + p) (y 11)) 11 (y 11 + 1)) (132 + p) 1 (172 + q) = nI wc)) (R := fun q => decide (y (172 + q) = nI wc)) n hp (decide_eq_false (by
            simp (disch := omega) only [pk_un, pk_us]
            exact fun w => absurd ((nI_eq (a := 24) (by omega) (by omega)).mp w) (by omega))) (decide_eq_true hpx) (fun q hq hne => by simp (disch := omega) only [pk_un])
          omega
  · rw [if_pos (nI_le (by omega) (by omega))]
    refine q_po.some ⟨hG, hF, fun p hp => ?_⟩
    exact of_decide_eq_false (gw_cn0 (P := fun q => decide (y (172 + q) = nI x)) n (by omega) p hp)
/-- all broken ones are swept -/
theorem gw_sweep {a b c t n : Nat} {z : Nat → Int32} (hB : gw_B n t z) (hG : gw_G a b c t n z) : q_po (fun r => r.1 = nI (q_cn (fun q => decide (z (132 + q) = 3)) n) ∧ gw_G a b c t n r.2 ∧ gw_fr z r.2 ∧ ∀ p, p < n → r.2 (132 + p) ≠ 3) (f_X10_sweepAll z) := by
  have hn := hB.2.2.1
  unfold f_X10_sweepAll
  refine q_po.fx (N := zk_N) (fun _ (s : Int32 × Int32 × (Nat → Int32)) => ∃ m, m ≤ n ∧ s.2.1 = nI m ∧ s.1 = nI (q_cn (fun q => decide (z (132 + q) = 3)) m) ∧ gw_G a b c t n s.2.2 ∧ gw_fr z s.2.2 ∧ (∀ p, p < m → s.2.2 (132 + p) ≠ 3) ∧ ∀ p, m ≤ p → p < n → s.2.2 (132 + p) = z (132 + p)) ?_ zk_N 0 (0, 0, z) (by omega) ⟨0, by omega, rfl, rfl, hG, gw_fr.refl, fun p hp => absurd hp (Nat.not_lt_zero p), fun _ _ _ => rfl⟩
  clear hG
  intro kk mm s _ hi hk
  obtain ⟨x1, x2, y⟩ := s
  obtain ⟨m, hm, e2, e1, hG, hF, hd, hu⟩ := hi
  dsimp only at e1 e2 hG hF hd hu
  subst e1 e2
  have hBy := hB.fr hF
  unfold F_X10_sweepAll_4 f_X10_sweepAll_36
  dsimp only
  simp only [q_k1, q_n1, hBy.2.1]
  by_cases hmn : m < n
  · have hm4 : m < 40 := by omega
    simp (disch := omega) only [if_neg (nI_ge hmn (by omega)), q_a132, q_ck, q_cl]
    by_cases h3 : y (132 + m) = 3
    · rw [if_pos h3, q_sweepOne hm4, Option.bind_some, nI_1, q_cn_st (P := fun q => decide (z (132 + q) = 3)) (decide_eq_true ((hu m (by omega) hmn).symm.trans h3)), nI_1]
      refine hk _ ⟨m + 1, by omega, rfl, rfl, hG.swept hn hm4 _, hF.trans (gw_fr.swept hm4 _), fun p hp => ?_, fun p hp1 hp2 => ?_⟩
      · dsimp only
        by_cases e : p = m
        · subst e
          simp (disch := omega) only [pk_un, pk_us]
          decide
        · simp (disch := omega) only [pk_un]
          exact hd p (by omega)
      · dsimp only
        simp (disch := omega) only [pk_un]
        exact hu p (by omega) hp2
    · rw [if_neg h3, q_cn_sf (P := fun q => decide (z (132 + q) = 3)) (m := m) (fun w => h3 ((hu m (by omega) hmn).trans (of_decide_eq_true w))), nI_1]
      refine hk _ ⟨m + 1, by omega, rfl, rfl, hG, hF, fun p hp => ?_, fun p hp1 hp2 => hu p (by omega) hp2⟩
      dsimp only
      by_cases e : p = m
      · rw [e]
        exact h3
      · exact hd p (by omega)
  · have e : m = n := by omega
    subst e
    rw [if_pos (nI_le (Nat.le_refl _) (by omega))]
    exact q_po.some ⟨rfl, hG, hF, hd⟩
