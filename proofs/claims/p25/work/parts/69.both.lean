/-! PURE PART of p25: the next one in both ways, and as the law finds it -/
/-- the waiting ones; those of a ring -/
def gw_S (n : Nat) (z : Nat → Int32) (p : Nat) : Prop := p < n ∧ z (132 + p) = 0
def gw_Sg (n g : Nat) (z : Nat → Int32) (p : Nat) : Prop := gw_S n z p ∧ ∃ j, j < 8 ∧ z (172 + p) = nI (g * 8 + j)
/-- a ring's unit -/
def gw_bl (g d : Nat) : Nat := if g = 0 then d else if g = 1 then d / 8 else d / 64
theorem gw_bl_lt {g d e : Nat} (h : gw_bl g d < gw_bl g e) : d < e := by
  unfold gw_bl at h
  split at h
  · omega
  · split at h
    · omega
    · omega
theorem gw_bl_le (g d : Nat) : gw_bl g d ≤ d := by
  unfold gw_bl
  split
  · omega
  · split <;> omega
/-- where a waiting one of a ring stands tells its due's unit -/
theorem gw_where {n t g p : Nat} {z : Nat → Int32} (hI : gw_I n t z) (hg : g < 3) (h : gw_Sg n g z p) : ∃ d s, z (12 + p) = nI d ∧ d ≤ t + 511 ∧ 1 ≤ s ∧ s ≤ 8 ∧ gw_bl g d = gw_bl g t + s ∧ z (172 + p) = nI (g * 8 + (gw_bl g t + s) % 8) := by
  obtain ⟨⟨hp, h0⟩, j, hj, hw⟩ := h
  obtain ⟨wc, sc, d, g1, g2, g3, i1, i2, i3, i4, i5, i6, i7, i8, i9⟩ := hI.2 p hp
  have ew : wc = g * 8 + j := (gw_eq i2 (by omega)).mp (g1.symm.trans hw)
  subst ew
  unfold gw_bl
  rcases (show g = 0 ∨ g = 1 ∨ g = 2 by omega) with rfl | rfl | rfl
  · have := i7 (by omega)
    refine ⟨d, d - t, g3, i3, by omega, by omega, by simp only [if_pos]; omega, ?_⟩
    rw [hw]
    simp only [if_pos]
    congr 1
    omega
  · have := i8 (by omega)
    refine ⟨d, d / 8 - t / 8, g3, i3, by omega, by omega, by simp only [if_neg (show ¬ (1 = 0) by omega), if_pos]; omega, ?_⟩
    rw [hw]
    simp only [if_neg (show ¬ (1 = 0) by omega), if_pos]
    congr 1
    omega
  · have := i9 (by omega)
    refine ⟨d, d / 64 - t / 64, g3, i3, by omega, by omega, by simp only [if_neg (show ¬ (2 = 0) by omega), if_neg (show ¬ (2 = 1) by omega)]; omega, ?_⟩
    rw [hw]
    simp only [if_neg (show ¬ (2 = 0) by omega), if_neg (show ¬ (2 = 1) by omega)]
    congr 1
    omega
theorem gw_ringB {pr : VX5} {dy : VX0} {ln : VX3} {now room bound drift br lt fl sw ps lo : Int32} {z : Nat → Int32} {L : Nat → List Nat} {n c T t : Nat} {t0 : Nat} (h : q_V pr dy now room bound drift br lt fl sw ps lo z L n c T t0) (hcl : q_CL ln L) (hI : gw_I n t z) {g a : Nat} (hg : g < 3) (ha : a < 8) (hab : a = gw_bl g t % 8) : ∃ r, zk_fx (F_X8_earliestInRing_11 (nI g) pr ln (nI a)) zk_N (-1, 1) = some r ∧ q_isB z (gw_Sg n g z) r := by
  have hn := h.n4
  have htb := hI.1.2.2.2.1
  refine q_loop (n := 8) (P := fun o => ∃ r, o = some r ∧ q_isB z (gw_Sg n g z) r) (fun m (s : Int32 × Int32) => m ≤ 8 ∧ s.2 = nI (m + 1) ∧ ((s.1 = -1 ∧ ∀ p, gw_Sg n g z p → ∀ s, 1 ≤ s → s ≤ m → z (172 + p) ≠ nI (g * 8 + (gw_bl g t + s) % 8)) ∨ (s.1 ≠ -1 ∧ q_isB z (gw_Sg n g z) s.1))) ?_ 8 0 zk_N (-1, 1) (by omega) (by unfold zk_N; omega) ⟨by omega, rfl, Or.inl ⟨rfl, fun p _ s h1 h2 => by omega⟩⟩
  intro m s hi
  obtain ⟨x3, x4⟩ := s
  obtain ⟨hm, e2, hi⟩ := hi
  dsimp only at e2 hi
  subst e2
  by_cases hm8 : m < 8
  · have c1 : ¬ (8 : Int32) < nI (m + 1) := nI_nlt (a := 8) (by omega) (by omega)
    rcases hi with ⟨rfl, hi⟩ | ⟨hne, hi⟩
    · left
      have em : zk_rem (nI a + nI (m + 1)) 8 = nI ((gw_bl g t + (m + 1)) % 8) := by
        rw [nI_add, q_rem8 (by omega), show (a + (m + 1)) % 8 = (gw_bl g t + (m + 1)) % 8 by omega]
      obtain ⟨r, k1, -, k3⟩ := q_bestIn h hcl (j := g * 8 + (gw_bl g t + (m + 1)) % 8) (by omega)
      have e1 : nI g * 8 + nI ((gw_bl g t + (m + 1)) % 8) = nI (g * 8 + (gw_bl g t + (m + 1)) % 8) := by
        rw [show nI g * 8 = nI (g * 8) from pk_mul g 8, nI_add]
      refine ⟨hm8, (r, nI (m + 1 + 1)), ⟨by omega, rfl, ?_⟩, fun k => ?_⟩
      · dsimp only
        rcases k3 with ⟨er, k3⟩ | ⟨b, hb, ⟨b1, b2, b3⟩, er, k3⟩
        · left
          refine ⟨er, fun p hp s h1 h2 => ?_⟩
          by_cases y : s = m + 1
          · subst y
            exact fun w => k3 p ⟨hp.1.1, hp.1.2, Or.inr w⟩
          · exact hi p hp s h1 (by omega)
        · right
          have b4 := b3.resolve_left (nI_pos (by omega))
          have hbS : gw_Sg n g z b := ⟨⟨b1, b2⟩, _, by omega, b4⟩
          refine ⟨by rw [er]; exact q_nm1 hb, Or.inr ⟨b, hb, hbS, er, fun p hp => ?_⟩⟩
          obtain ⟨d, s, d1, d2, d3, d4, d5, d6⟩ := gw_where hI hg hp
          obtain ⟨d', s', f1, f2, f3, f4, f5, f6⟩ := gw_where hI hg hbS
          have es' : s' = m + 1 := by
            have := (nI_eq (by omega) (by omega)).mp (f6.symm.trans b4)
            omega
          by_cases y : s ≤ m
          · exact absurd d6 (hi p hp s d3 y)
          · by_cases y2 : s = m + 1
            · subst y2
              exact k3 p ⟨hp.1.1, hp.1.2, Or.inr d6⟩
            · left
              have hlt : d' < d := gw_bl_lt (g := g) (by omega)
              rw [f1, d1, nI_toInt (by omega), nI_toInt (by omega)]
              omega
      · unfold F_X8_earliestInRing_11
        dsimp only
        rw [if_neg c1, if_pos rfl, em, e1, k1, Option.bind_some, nI_1]
    · right
      intro k
      refine ⟨x3, ?_, hi⟩
      unfold F_X8_earliestInRing_11
      dsimp only
      rw [if_neg c1, if_neg hne]
  · right
    intro k
    have e : m = 8 := by omega
    subst e
    refine ⟨x3, ?_, ?_⟩
    · unfold F_X8_earliestInRing_11
      dsimp only
      rw [if_pos (show (8 : Int32) < nI (8 + 1) by decide)]
    · rcases hi with ⟨e, hi⟩ | ⟨-, hi⟩
      · refine Or.inl ⟨e, fun p hp => ?_⟩
        obtain ⟨d, s, d1, d2, d3, d4, d5, d6⟩ := gw_where hI hg hp
        exact hi p hp s d3 d4 d6
      · exact hi
theorem gw_Sany {n t p : Nat} {z : Nat → Int32} (hI : gw_I n t z) (h : gw_S n z p) : gw_Sg n 0 z p ∨ gw_Sg n 1 z p ∨ gw_Sg n 2 z p := by
  obtain ⟨wc, sc, d, g1, g2, g3, i1, i2, i3, i4, i5, i6, i7, i8, i9⟩ := hI.2 p h.1
  have hs : sc = 0 := (nI_eq (b := 0) (by omega) (by omega)).mp (g2.symm.trans h.2)
  have hw : wc < 24 := by
    by_cases a : wc < 24
    · exact a
    · by_cases b : wc = 24
      · have := (i5 b).1
        omega
      · have := i6 (by omega)
        omega
  rw [gw_cn (by omega)] at g1
  by_cases a : wc < 8
  · exact Or.inl ⟨h, wc, a, by rw [g1]; congr 1; omega⟩
  · by_cases b : wc < 16
    · exact Or.inr (Or.inl ⟨h, wc - 8, by omega, by rw [g1]; congr 1; omega⟩)
    · exact Or.inr (Or.inr ⟨h, wc - 16, by omega, by rw [g1]; congr 1; omega⟩)
def gw_nx (z : Nat → Int32) (r y : Int32) : Int32 := if r = -1 then -9 else if y = 0 then r else z (12 + r.toNatClampNeg)
theorem gw_next {n t B : Nat} {st : VX6} {z : Nat → Int32} (hS : q_S B st z gw_0 gw_0) (hI : gw_I n t z) (ht : t ≤ 20000) : ∃ r, q_isB z (gw_S n z) r ∧ ∀ y, ¬ y < 0 → y ≤ 1 → f_X9_next 0 y st = some (gw_nx z r y) ∧ f_X9_next 1 y st = some (gw_nx z r y) := by
  have hQ := gw_qQ hS hI
  obtain ⟨k, t0, ⟨L, c, T', hV, hcl, hc, hT⟩, ht0⟩ := hQ
  have hn := hV.n4
  have et : t0 = t := (nI_eq (by omega) (by omega)).mp (hV.2.2.1.2.1.symm.trans hI.1.1)
  subst et
  have enow := hV.2.2.1.1
  obtain ⟨r, k1, w1⟩ := q_earliestOfAll hV
  have hB : q_isB z (gw_S n z) r := w1
  refine ⟨r, hB, fun y y0 y1 => ?_⟩
  have e43 : f_X9_next_43 y st r = some (gw_nx z r y) := by
    unfold f_X9_next_43 gw_nx
    rcases hB with ⟨rfl, -⟩ | ⟨b, hb, hbs, rfl, -⟩
    · rw [if_pos rfl, if_pos rfl]
    · rw [if_neg (q_nm1 hb), if_neg (q_nm1 hb), q_fact1 hb, (hV.1.2 b hbs.1).2.1, q_cl (by omega)]
      by_cases d : y = 0
      · rw [if_pos d, if_pos d]
      · rw [if_neg d, if_neg d, Option.bind_some]
  unfold f_X9_next
  refine ⟨?_, ?_⟩
  · rw [if_neg (by decide), if_neg (by decide), if_neg y0, if_pos y1, if_pos rfl, k1, Option.bind_some, e43]
  · rw [if_neg (by decide), if_neg (by decide), if_neg y0, if_pos y1, if_neg (by decide)]
    have hr : f_X8_earliestByRings st.1.1 st.1.2.1 st.1.2.2.2.1 = some r := by
      obtain ⟨a0, m0, v0⟩ := gw_ringB hV hcl hI (g := 0) (a := t0 % 8) (by omega) (by omega) rfl
      obtain ⟨a1, m1, v1⟩ := gw_ringB hV hcl hI (g := 1) (a := t0 / 8 % 8) (by omega) (by omega) rfl
      obtain ⟨a2, m2, v2⟩ := gw_ringB hV hcl hI (g := 2) (a := t0 / 64 % 8) (by omega) (by omega) rfl
      obtain ⟨b1, f1, u1⟩ := q_earlier (f := st.1.1.1) v0 v1 (fun p w => (hV.1.2 p (w.elim (fun x => x.1.1) (fun x => x.1.1))).2.1)
      obtain ⟨b2, f2, u2⟩ := q_earlier (f := st.1.1.1) u1 v2 (fun p w => (hV.1.2 p (w.elim (fun x => x.elim (fun x => x.1.1) (fun x => x.1.1)) (fun x => x.1.1))).2.1)
      have er : b2 = r := (u2.congr (fun p => ⟨fun w => w.elim (fun x => x.elim (fun x => x.1) (fun x => x.1)) (fun x => x.1), fun w => by
        rcases gw_Sany hI w with x | x | x
        · exact Or.inl (Or.inl x)
        · exact Or.inl (Or.inr x)
        · exact Or.inr x⟩)).uniq hB
      have m0 : zk_fx (F_X8_earliestInRing_11 0 st.1.1 st.1.2.1 (nI (t0 % 8))) zk_N (-1, 1) = some a0 := m0
      have m1 : zk_fx (F_X8_earliestInRing_11 1 st.1.1 st.1.2.1 (nI (t0 / 8 % 8))) zk_N (-1, 1) = some a1 := m1
      have m2 : zk_fx (F_X8_earliestInRing_11 2 st.1.1 st.1.2.1 (nI (t0 / 64 % 8))) zk_N (-1, 1) = some a2 := m2
      rw [← er]
      unfold f_X8_earliestByRings
      refine q_scan (n := 3) (F := F_X8_earliestByRings_4 st.1.1 st.1.2.1 st.1.2.2.2.1) (fun m => (if m = 0 then -1 else if m = 1 then a0 else if m = 2 then b1 else b2, nI m)) (some b2) (fun k m hm => ?_) (fun k => ?_) 3 0 zk_N (by omega) (by unfold zk_N; omega)
      · unfold F_X8_earliestByRings_4 f_X8_earliestInRing
        rw [enow]
        rcases (show m = 0 ∨ m = 1 ∨ m = 2 by omega) with rfl | rfl | rfl
        · dsimp only
          rw [if_neg (show ¬ (3 : Int32) ≤ nI 0 by decide), show nI 0 = (0 : Int32) from rfl, q_slot0 (by omega), Option.bind_some, m0, Option.bind_some, if_pos rfl, show f_X5_earlier (-1) a0 st.1.1.1 = some a0 from if_pos rfl, Option.bind_some]
          rfl
        · dsimp only
          rw [if_neg (show ¬ (3 : Int32) ≤ nI 1 by decide), show nI 1 = (1 : Int32) from rfl, q_slot1 (by omega), Option.bind_some, m1, Option.bind_some, if_neg (show ¬ (1 = 0) by omega), if_pos rfl, f1, Option.bind_some]
          rfl
        · dsimp only
          rw [if_neg (show ¬ (3 : Int32) ≤ nI 2 by decide), show nI 2 = (2 : Int32) from rfl, q_slot2 (by omega), Option.bind_some, m2, Option.bind_some, if_neg (show ¬ (2 = 0) by omega), if_neg (show ¬ (2 = 1) by omega), if_pos rfl, f2, Option.bind_some]
          rfl
      · unfold F_X8_earliestByRings_4
        dsimp only
        rw [if_pos (show (3 : Int32) ≤ nI 3 by decide), if_neg (show ¬ (3 = 0) by omega), if_neg (show ¬ (3 = 1) by omega), if_neg (show ¬ (3 = 2) by omega)]
    rw [hr, Option.bind_some, e43]
/-- as the law finds it -/
theorem gw_first {n t B : Nat} {st : VX6} {hi : VX2} {pg : VX4} {z : Nat → Int32} (hS : q_S B st z gw_0 gw_0) (hI : gw_I n t z) (ht : t ≤ 20000) : ∃ r, f_L_first st hi pg = some r ∧ q_isB z (gw_S n z) r := by
  have hn := hI.1.2.2.1
  have hz1 := hI.1.2.1
  unfold f_L_first
  refine q_loop (n := n) (P := fun o => ∃ r, o = some r ∧ q_isB z (gw_S n z) r) (fun m (s : Int32 × Int32) => m ≤ n ∧ s.2 = nI m ∧ q_isB z (fun p => p < m ∧ z (132 + p) = 0) s.1) ?_ n 0 zk_N _ (by omega) (by unfold zk_N; omega) ⟨by omega, rfl, q_isB.nil (fun p y => Nat.not_lt_zero p y.1)⟩
  intro m s hi'
  obtain ⟨x1, x2⟩ := s
  obtain ⟨hm, e2, ha⟩ := hi'
  dsimp only at e2 ha
  subst e2
  have k45 : ∀ (k : Int32 × Int32 → Option Int32) (y : Int32), f_L_first_45 k y (nI m) = k (y, nI (m + 1)) := fun k y => by
    unfold f_L_first_45 f_L_first_46 f_L_first_56
    rw [if_pos rfl, nI_1]
  have k41 : ∀ (k : Int32 × Int32 → Option Int32) (y : Int32), f_L_first_41 k y (nI m) = k (nI m, nI (m + 1)) := fun k y => by
    unfold f_L_first_41 f_L_first_46 f_L_first_56
    rw [if_neg (by decide), nI_1]
  by_cases hmn : m < n
  · left
    refine ⟨hmn, ?_⟩
    have c1 : ¬ nI n ≤ nI m := nI_ge hmn (by omega)
    by_cases c : z (132 + m) = 0
    · rcases ha with ⟨rfl, ha⟩ | ⟨b, hb, ⟨hbm, hb0⟩, rfl, ha⟩
      · refine ⟨(nI m, nI (m + 1)), ⟨by omega, rfl, Or.inr ⟨m, by omega, ⟨by omega, c⟩, rfl, fun p hp => ?_⟩⟩, fun k => ?_⟩
        · by_cases y : p = m
          · subst y
            exact Or.inr ⟨rfl, Nat.le_refl _⟩
          · exact absurd ⟨by omega, hp.2⟩ (ha p)
        · unfold F_L_first_4
          dsimp only
          rw [gw_c1 hS hI, Option.bind_some, hz1, if_neg c1, gw_p0 hS hI hmn, Option.bind_some, if_pos c, if_pos (by decide), k41]
      · by_cases d : z (12 + b) ≤ z (12 + m)
        · have d' := Int32.le_iff_toInt_le.mp d
          refine ⟨(nI b, nI (m + 1)), ⟨by omega, rfl, Or.inr ⟨b, hb, ⟨by omega, hb0⟩, rfl, fun p hp => ?_⟩⟩, fun k => ?_⟩
          · by_cases y : p = m
            · subst y
              omega
            · exact ha p ⟨by omega, hp.2⟩
          · unfold F_L_first_4
            dsimp only
            rw [gw_c1 hS hI, Option.bind_some, hz1, if_neg c1, gw_p0 hS hI hmn, Option.bind_some, if_pos c, if_neg (nI_pos (n := b) (by omega)), gw_p1 hS hI hmn, Option.bind_some, gw_p1 hS hI (p := b) (by omega), Option.bind_some, if_pos d, k45]
        · have d' : ¬ (z (12 + b)).toInt ≤ (z (12 + m)).toInt := fun y => d (Int32.le_iff_toInt_le.mpr y)
          refine ⟨(nI m, nI (m + 1)), ⟨by omega, rfl, Or.inr ⟨m, by omega, ⟨by omega, c⟩, rfl, fun p hp => ?_⟩⟩, fun k => ?_⟩
          · by_cases y : p = m
            · subst y
              exact Or.inr ⟨rfl, Nat.le_refl _⟩
            · have := ha p ⟨by omega, hp.2⟩
              omega
          · unfold F_L_first_4
            dsimp only
            rw [gw_c1 hS hI, Option.bind_some, hz1, if_neg c1, gw_p0 hS hI hmn, Option.bind_some, if_pos c, if_neg (nI_pos (n := b) (by omega)), gw_p1 hS hI hmn, Option.bind_some, gw_p1 hS hI (p := b) (by omega), Option.bind_some, if_neg d, k41]
    · refine ⟨(x1, nI (m + 1)), ⟨by omega, rfl, ha.congr (fun q => ?_)⟩, fun k => ?_⟩
      · exact ⟨fun w => ⟨by omega, w.2⟩, fun ⟨a, b⟩ => (Nat.lt_or_eq_of_le (Nat.le_of_lt_succ a)).elim (fun w => ⟨w, b⟩) (fun w => absurd (w ▸ b) c)⟩
      · unfold F_L_first_4
        dsimp only
        rw [gw_c1 hS hI, Option.bind_some, hz1, if_neg c1, gw_p0 hS hI hmn, Option.bind_some, if_neg c, k45]
  · right
    intro k
    have e : m = n := by omega
    subst e
    refine ⟨x1, ?_, ha⟩
    unfold F_L_first_4
    dsimp only
    rw [gw_c1 hS hI, Option.bind_some, hz1, if_pos (nI_le (Nat.le_refl m) (by omega))]
theorem gw_areNext {n t B : Nat} {st : VX6} {hi : VX2} {pg : VX4} {z : Nat → Int32} (hS : q_S B st z gw_0 gw_0) (hI : gw_I n t z) (ht : t ≤ 20000) : f_L_areNext st hi pg = some 1 := by
  obtain ⟨r, k1, h1⟩ := gw_first (hi := hi) (pg := pg) hS hI ht
  obtain ⟨r', h2, k2⟩ := gw_next hS hI ht
  have e := h1.uniq h2
  subst e
  obtain ⟨n00, n10⟩ := k2 0 (by decide) (by decide)
  obtain ⟨n01, n11⟩ := k2 1 (by decide) (by decide)
  have h31 : ∀ p d, gw_nx z r 0 = p → gw_nx z r 1 = d → f_L_areNext_31 st p d = some 1 := by
    intro p d e1 e2
    unfold f_L_areNext_31
    rw [n00, Option.bind_some, if_pos e1, n10, Option.bind_some, if_pos e1, n01, Option.bind_some, if_pos e2, n11, Option.bind_some, if_pos e2]
  unfold f_L_areNext f_L_areNext_20
  rw [k1, Option.bind_some]
  rcases h1 with ⟨rfl, -⟩ | ⟨b, hb, hbs, rfl, -⟩
  · rw [if_neg (show ¬ (0 : Int32) ≤ -1 by decide), if_neg (show ¬ (0 : Int32) ≤ -1 by decide)]
    refine h31 _ _ ?_ ?_
    · unfold gw_nx
      rw [if_pos rfl]
    · unfold gw_nx
      rw [if_pos rfl]
  · have c : (0 : Int32) ≤ nI b := nI_pos' (by omega)
    rw [if_pos c, gw_p1 hS hI hbs.1, Option.bind_some]
    rw [if_pos c]
    refine h31 _ _ ?_ ?_
    · unfold gw_nx
      rw [if_neg (q_nm1 hb), if_pos rfl]
    · unfold gw_nx
      rw [if_neg (q_nm1 hb), if_neg (by decide), q_cl (by omega)]
