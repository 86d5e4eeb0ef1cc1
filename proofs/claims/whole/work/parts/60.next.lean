/-! PURE PART: looking: next, slot -/
section QN
variable {pr : VX5} {dy : VX0} {ln : VX3} {now room bound drift br lt fl sw ps lo : Int32} {z : Nat → Int32} {L L0 : Nat → List Nat} {n k c T t : Nat}
theorem q_bestIn (h : q_V pr dy now room bound drift br lt fl sw ps lo z L n c T t) (hcl : q_CL ln L) {j : Nat} (hj : j < 24) : ∃ r, f_X8_earliestIn (nI j) pr ln = some r ∧ f_X10_bestAt (nI j) z = some r ∧ q_isB z (fun p => p < n ∧ z (132 + p) = 0 ∧ (nI j < 0 ∨ z (172 + p) = nI j)) r := by
  obtain ⟨r, k1, k2⟩ := q_earliestIn h hcl (j := j) (by omega)
  obtain ⟨r', k3, k4⟩ := q_bestAt h.2.1.2.2.2.1 h.n4 (nI j)
  have e : r = r' := (k2.congr (fun p => ⟨fun ⟨a, b⟩ => by
    have hp := ((h.2.1.2.1 j (by omega)).2.2 p a).1
    exact ⟨hp, (h.2.2.2.2.1.2.2.1 j hj p a).resolve_right b, Or.inr ((h.2.1.at hp (by omega)).mpr a)⟩, fun ⟨a, b, d⟩ => by
    refine ⟨(h.2.1.at a (by omega)).mp (d.resolve_left (nI_pos (by omega))), fun y => ?_⟩
    rw [b] at y
    exact absurd y (by decide)⟩)).uniq k4
  exact ⟨r, k1, by rw [e]; exact k3, by rw [e]; exact k4⟩
/-- none, or one of those given -/
def q_W (n : Nat) (r : Int32) : Prop := r = -1 ∨ ∃ b, b < n ∧ r = nI b
theorem q_isB.w {z : Nat → Int32} {S : Nat → Prop} {r : Int32} {n : Nat} (h : q_isB z S r) (hS : ∀ p, S p → p < n) : q_W n r := by
  rcases h with ⟨e, -⟩ | ⟨b, -, hs, e, -⟩
  · exact Or.inl e
  · exact Or.inr ⟨b, hS b hs, e⟩
theorem q_W.isB {z : Nat → Int32} {r : Int32} (hn : n ≤ 40) (h : q_W n r) : ∃ S, q_isB z S r ∧ ∀ p, S p → p < n := by
  rcases h with e | ⟨b, hb, e⟩
  · exact ⟨fun _ => False, Or.inl ⟨e, fun p y => y⟩, fun p y => absurd y id⟩
  · refine ⟨fun q => q = b, ?_, fun p y => by rw [y]; exact hb⟩
    rw [e]
    exact q_isB.one (by omega)
theorem q_both (h : q_V pr dy now room bound drift br lt fl sw ps lo z L n c T t) {r1 r2 : Int32} (h1 : q_W n r1) (h2 : q_W n r2) : ∃ r, f_X5_earlier r1 r2 pr.1 = some r ∧ f_X10_better r1 r2 z = some r ∧ q_W n r := by
  have hn := h.n4
  obtain ⟨S1, a1, b1⟩ := h1.isB (z := z) hn
  obtain ⟨S2, a2, b2⟩ := h2.isB (z := z) hn
  have hS : ∀ p, S1 p ∨ S2 p → p < n := fun p y => y.elim (b1 p) (b2 p)
  obtain ⟨r, k1, k2⟩ := q_earlier (f := pr.1) a1 a2 (fun p y => (h.1.2 p (hS p y)).2.1)
  obtain ⟨r', k3, k4⟩ := q_better a1 a2
  have e := k2.uniq k4
  exact ⟨r, k1, by rw [e]; exact k3, k2.w hS⟩
theorem q_ring (h : q_V pr dy now room bound drift br lt fl sw ps lo z L n c T t) (hcl : q_CL ln L) {g a b : Nat} (hg : g < 3) (ha : a < 2 ^ 30) (hb : b < 2 ^ 30) (hab : a % 8 = b % 8) : ∃ r1 r2, (r1 = r2 ∧ q_W n r1) ∧ zk_fx (F_X8_earliestInRing_11 (nI g) pr ln (nI a)) zk_N (-1, 1) = some r1 ∧ zk_fx (F_X10_bestOfRing_45 (nI g) z (nI b)) zk_N (-1, 1) = some r2 := by
  refine q_loop2 (n := 8) (P := fun r1 r2 => r1 = r2 ∧ q_W n r1) (fun m (s1 s2 : Int32 × Int32) => m ≤ 8 ∧ s2 = s1 ∧ s1.2 = nI (m + 1) ∧ q_W n s1.1) ?_ 8 0 zk_N zk_N _ _ (by omega) (by unfold zk_N; omega) (by unfold zk_N; omega) ⟨by omega, rfl, rfl, Or.inl rfl⟩
  intro m s1 s2 hi
  obtain ⟨x1, x2⟩ := s1
  obtain ⟨hm, rfl, e2, hw⟩ := hi
  dsimp only at e2 hw
  subst e2
  have hn := h.n4
  by_cases hm8 : m < 8
  · have c1 : ¬ (8 : Int32) < nI (m + 1) := nI_nlt (a := 8) (by omega) (by omega)
    rcases hw with rfl | ⟨p, hp, rfl⟩
    · left
      have em : ∀ x, x % 8 = a % 8 → x < 2 ^ 30 → zk_rem (nI x + nI (m + 1)) 8 = nI ((a + (m + 1)) % 8) := by
        intro x e hx
        rw [nI_add, q_rem8 (by omega), show (x + (m + 1)) % 8 = (a + (m + 1)) % 8 by omega]
      obtain ⟨r, k1, k2, k3⟩ := q_bestIn h hcl (j := g * 8 + (a + (m + 1)) % 8) (by omega)
      have e1 : nI g * 8 + nI ((a + (m + 1)) % 8) = nI (g * 8 + (a + (m + 1)) % 8) := by
        rw [show nI g * 8 = nI (g * 8) from pk_mul g 8, nI_add]
      have e2 : 8 * nI g + nI ((a + (m + 1)) % 8) = nI (g * 8 + (a + (m + 1)) % 8) := by
        rw [show 8 * nI g = nI (8 * g) from pk_mul 8 g, nI_add, Nat.mul_comm]
      refine ⟨hm8, (r, nI (m + 1 + 1)), (r, nI (m + 1 + 1)), ⟨by omega, rfl, rfl, k3.w (fun p y => y.1)⟩, fun k => ?_, fun k => ?_⟩
      · unfold F_X8_earliestInRing_11
        dsimp only
        rw [if_neg c1, if_pos rfl, em a rfl ha, e1, k1, Option.bind_some, nI_1]
      · unfold F_X10_bestOfRing_45
        dsimp only
        rw [if_neg c1, if_neg (by decide), em b hab.symm hb, e2, k2, Option.bind_some, nI_1]
    · right
      refine ⟨nI p, nI p, ⟨rfl, Or.inr ⟨p, hp, rfl⟩⟩, fun k => ?_, fun k => ?_⟩
      · unfold F_X8_earliestInRing_11
        dsimp only
        rw [if_neg c1, if_neg (q_nm1 (by omega))]
      · unfold F_X10_bestOfRing_45
        dsimp only
        rw [if_neg c1, if_pos (nI_pos' (by omega))]
  · right
    have c1 : (8 : Int32) < nI (m + 1) := nI_lt (a := 8) (by omega) (by omega)
    refine ⟨x1, x1, ⟨rfl, hw⟩, fun k => ?_, fun k => ?_⟩
    · unfold F_X8_earliestInRing_11
      dsimp only
      rw [if_pos c1]
    · unfold F_X10_bestOfRing_45
      dsimp only
      rw [if_pos c1]
theorem q_rings (h : q_V pr dy now room bound drift br lt fl sw ps lo z L n c T t) (hcl : q_CL ln L) (ht : t < 2 ^ 30) : ∃ r, f_X8_earliestByRings pr ln now = some r ∧ q_W n r ∧ ∀ {α : Type} (K : Int32 → Option α), ((f_X10_bestOfRing 0 z).bind fun r34 => (f_X10_bestOfRing 1 z).bind fun r39 => (f_X10_better r34 r39 z).bind fun r42 => (f_X10_bestOfRing 2 z).bind fun r50 => (f_X10_better r42 r50 z).bind fun r53 => K r53) = K r := by
  have e1 := h.2.2.1.1
  have e2 := h.2.2.1.2.1
  obtain ⟨a0, _, ⟨rfl, w0⟩, k0, m0⟩ := q_ring h hcl (g := 0) (a := t % 8) (b := t) (by omega) (by omega) (by omega) (by omega)
  obtain ⟨a1, _, ⟨rfl, w1⟩, k1, m1⟩ := q_ring h hcl (g := 1) (a := t / 8 % 8) (b := t / 8) (by omega) (by omega) (by omega) (by omega)
  obtain ⟨a2, _, ⟨rfl, w2⟩, k2, m2⟩ := q_ring h hcl (g := 2) (a := t / 64 % 8) (b := t / 64) (by omega) (by omega) (by omega) (by omega)
  obtain ⟨b1, f1, g1, v1⟩ := q_both h w0 w1
  obtain ⟨b2, f2, g2, v2⟩ := q_both h v1 w2
  refine ⟨b2, ?_, v2, fun K => ?_⟩
  · have k0 : zk_fx (F_X8_earliestInRing_11 0 pr ln (nI (t % 8))) zk_N (-1, 1) = some a0 := k0
    have k1 : zk_fx (F_X8_earliestInRing_11 1 pr ln (nI (t / 8 % 8))) zk_N (-1, 1) = some a1 := k1
    have k2 : zk_fx (F_X8_earliestInRing_11 2 pr ln (nI (t / 64 % 8))) zk_N (-1, 1) = some a2 := k2
    unfold f_X8_earliestByRings
    refine q_scan (n := 3) (F := F_X8_earliestByRings_4 pr ln now) (fun m => (if m = 0 then -1 else if m = 1 then a0 else if m = 2 then b1 else b2, nI m)) (some b2) (fun k m hm => ?_) (fun k => ?_) 3 0 zk_N (by omega) (by unfold zk_N; omega)
    · unfold F_X8_earliestByRings_4 f_X8_earliestInRing
      rw [e1]
      rcases (show m = 0 ∨ m = 1 ∨ m = 2 by omega) with rfl | rfl | rfl
      · dsimp only
        rw [if_neg (show ¬ (3 : Int32) ≤ nI 0 by decide), show nI 0 = (0 : Int32) from rfl, q_slot0 ht, Option.bind_some, k0, Option.bind_some, if_pos rfl, show f_X5_earlier (-1) a0 pr.1 = some a0 from if_pos rfl, Option.bind_some]
        rfl
      · dsimp only
        rw [if_neg (show ¬ (3 : Int32) ≤ nI 1 by decide), show nI 1 = (1 : Int32) from rfl, q_slot1 ht, Option.bind_some, k1, Option.bind_some, if_neg (show ¬ (1 = 0) by omega), if_pos rfl, f1, Option.bind_some]
        rfl
      · dsimp only
        rw [if_neg (show ¬ (3 : Int32) ≤ nI 2 by decide), show nI 2 = (2 : Int32) from rfl, q_slot2 ht, Option.bind_some, k2, Option.bind_some, if_neg (show ¬ (2 = 0) by omega), if_neg (show ¬ (2 = 1) by omega), if_pos rfl, f2, Option.bind_some]
        rfl
    · unfold F_X8_earliestByRings_4
      dsimp only
      rw [if_pos (show (3 : Int32) ≤ nI 3 by decide), if_neg (show ¬ (3 = 0) by omega), if_neg (show ¬ (3 = 1) by omega), if_neg (show ¬ (3 = 2) by omega)]
  · unfold f_X10_bestOfRing f_X10_bestOfRing_39
    rw [if_pos rfl, if_neg (show ¬ (1 : Int32) = 0 by decide), if_pos rfl, if_neg (show ¬ (2 : Int32) = 0 by decide), if_neg (show ¬ (2 : Int32) = 1 by decide)]
    simp only [q_k0, q_n0, e2]
    rw [q_div8 (by omega), q_div64 (by omega)]
    have m0 : zk_fx (F_X10_bestOfRing_45 0 z (nI t)) zk_N (-1, 1) = some a0 := m0
    have m1 : zk_fx (F_X10_bestOfRing_45 1 z (nI (t / 8))) zk_N (-1, 1) = some a1 := m1
    have m2 : zk_fx (F_X10_bestOfRing_45 2 z (nI (t / 64))) zk_N (-1, 1) = some a2 := m2
    rw [m0, m1, m2, Option.bind_some, Option.bind_some, g1, Option.bind_some, Option.bind_some, g2, Option.bind_some]
theorem q_nextEnd (h : q_V pr dy now room bound drift br lt fl sw ps lo z L n c T t) {st : VX6} (hs : st.1.1 = pr) {r : Int32} (hw : q_W n r) (y : Int32) : ∃ r', f_X9_next_43 y st r = some r' ∧ f_X10_next_57 y z r = some r' := by
  have hn := h.n4
  unfold f_X9_next_43 f_X10_next_57
  rcases hw with rfl | ⟨p, hp, rfl⟩
  · exact ⟨-9, by rw [if_pos rfl], by rw [if_neg (by decide)]⟩
  · rw [if_neg (q_nm1 (by omega)), if_pos (nI_pos' (by omega)), hs, q_fact1 (by omega), (h.1.2 p hp).2.1, q_a12, q_ck (by omega) (by omega), q_cl (by omega), Option.bind_some]
    by_cases c : y = 0
    · exact ⟨nI p, by rw [if_pos c], by rw [if_pos c]⟩
    · exact ⟨z (12 + p), by rw [if_neg c], by rw [if_neg c]⟩
end QN
theorem q_c_next {B tm : Nat} {st : VX6} {z : Nat → Int32} (h : q_R B tm st.1 z) (htm : tm ≤ 20600) (x y : Int32) : ∃ r, f_X9_next x y st = some r ∧ f_X10_next x y z = some r := by
  obtain ⟨n, k, t, ⟨L, c, T', hV, hcl, hc, hT⟩, ht, -⟩ := h
  have hz1 := hV.2.1.2.2.2.1
  have hn := hV.n4
  unfold f_X9_next f_X10_next
  by_cases c1 : x < 0
  · exact ⟨-1, by rw [if_pos c1], by rw [if_pos c1]⟩
  by_cases c2 : 1 < x
  · exact ⟨-1, by rw [if_neg c1, if_pos c2], by rw [if_neg c1, if_pos c2]⟩
  by_cases c3 : y < 0
  · exact ⟨-1, by rw [if_neg c1, if_neg c2, if_pos c3], by rw [if_neg c1, if_neg c2, if_pos c3]⟩
  by_cases c4 : y ≤ 1
  · rw [if_neg c1, if_neg c2, if_neg c3, if_pos c4, if_neg c1, if_neg c2, if_neg c3, if_pos c4]
    obtain ⟨r0, k0, w0⟩ := q_bestAt hz1 hn (-1)
    rw [k0, Option.bind_some]
    obtain ⟨a, ha, rfl⟩ := nI_of2 (M := 1) (n := 1) rfl c1 (Int32.not_lt.mp c2)
    rcases (show a = 0 ∨ a = 1 by omega) with rfl | rfl
    · rw [if_pos (show nI 0 = 0 from rfl), if_neg (show ¬ nI 0 = 1 by decide)]
      obtain ⟨r1, k1, w1⟩ := q_earliestOfAll hV
      have e : r1 = r0 := (w1.congr (fun p => ⟨fun w => ⟨w.1, w.2, Or.inl (by decide)⟩, fun w => ⟨w.1, w.2.1⟩⟩)).uniq w0
      rw [k1, Option.bind_some, e]
      exact q_nextEnd hV rfl (w0.w (fun p w => w.1)) y
    · rw [if_neg (show ¬ nI 1 = 0 by decide), if_pos (show nI 1 = 1 from rfl)]
      obtain ⟨r1, k1, w1, m1⟩ := q_rings hV hcl (by omega)
      rw [m1, k1, Option.bind_some]
      exact q_nextEnd hV rfl w1 y
  · exact ⟨-1, by rw [if_neg c1, if_neg c2, if_neg c3, if_neg c4], by rw [if_neg c1, if_neg c2, if_neg c3, if_neg c4]⟩
/-! slot -/
/-- r is the smallest due of those in S, -9 if there is none -/
def q_isM (z : Nat → Int32) (S : Nat → Prop) (r : Int32) : Prop := (r = -9 ∧ ∀ p, ¬ S p) ∨ ∃ b, S b ∧ r = z (12 + b) ∧ ∀ p, S p → (z (12 + b)).toInt ≤ (z (12 + p)).toInt
theorem q_isM.uniq {z : Nat → Int32} {S : Nat → Prop} {r r' : Int32} (h : q_isM z S r) (h' : q_isM z S r') : r = r' := by
  rcases h with ⟨e, h⟩ | ⟨b, hs, e, h⟩
  · rcases h' with ⟨e', -⟩ | ⟨b', hs', e', h'⟩
    · rw [e, e']
    · exact absurd hs' (h b')
  · rcases h' with ⟨e', h'⟩ | ⟨b', hs', e', h'⟩
    · exact absurd hs (h' b)
    · have h1 := h b' hs'
      have h2 := h' b hs
      rw [e, e']
      exact Int32.toInt_inj.mp (by omega)
theorem q_isM.congr {z : Nat → Int32} {S S' : Nat → Prop} {r : Int32} (h : q_isM z S r) (e : ∀ p, S p ↔ S' p) : q_isM z S' r := by
  rw [show S' = S from funext fun p => propext (e p).symm]
  exact h
theorem q_slotStep {z : Nat → Int32} {n j m : Nat} (h1 : z 1 = nI n) (hn : n ≤ 40) (hm : m < n) (w x5 x6 : Int32) (k : Int32 × Int32 × Int32 → Option Int32) : F_X10_slot_48 w z (nI j) k (x5, x6, nI m) = k (if z (172 + m) = nI j ∧ z (132 + m) = 3 then x5 + 1 else x5, if z (172 + m) = nI j ∧ ¬ z (132 + m) = 3 ∧ (x6 = -9 ∨ ¬ x6 ≤ z (12 + m)) then z (12 + m) else x6, nI (m + 1)) := by
  have c0 : ¬ nI n ≤ nI m := nI_ge hm (by omega)
  unfold F_X10_slot_48 f_X10_slot_80 f_X10_slot_102 f_X10_slot_120 f_X10_slot_121 f_X10_slot_160 f_X10_slot_156 f_X10_slot_161 f_X10_slot_183
  simp (disch := omega) only [q_n1, q_k1, h1, if_neg c0, q_a172, q_a132, q_a12, q_ck, q_cl, zk_let, nI_1, ↓reduceIte, if_neg (show ¬ (1 : Int32) = 0 by decide), q_p0]
  have yes1 : z (172 + m) = nI j ∧ z (132 + m) = 3 → (if z (172 + m) = nI j ∧ z (132 + m) = 3 then x5 + 1 else x5) = x5 + 1 := fun y => if_pos y
  have no1 : ¬ (z (172 + m) = nI j ∧ z (132 + m) = 3) → (if z (172 + m) = nI j ∧ z (132 + m) = 3 then x5 + 1 else x5) = x5 := fun y => if_neg y
  have yes2 : z (172 + m) = nI j ∧ ¬ z (132 + m) = 3 ∧ (x6 = -9 ∨ ¬ x6 ≤ z (12 + m)) → (if z (172 + m) = nI j ∧ ¬ z (132 + m) = 3 ∧ (x6 = -9 ∨ ¬ x6 ≤ z (12 + m)) then z (12 + m) else x6) = z (12 + m) := fun y => if_pos y
  have no2 : ¬ (z (172 + m) = nI j ∧ ¬ z (132 + m) = 3 ∧ (x6 = -9 ∨ ¬ x6 ≤ z (12 + m))) → (if z (172 + m) = nI j ∧ ¬ z (132 + m) = 3 ∧ (x6 = -9 ∨ ¬ x6 ≤ z (12 + m)) then z (12 + m) else x6) = x6 := fun y => if_neg y
  by_cases c1 : z (172 + m) = nI j
  · by_cases c2 : z (132 + m) = 3
    · rw [yes1 ⟨c1, c2⟩, no2 (fun y => y.2.1 c2)]
      simp only [if_pos c1, if_pos c2]
    · rw [no1 (fun y => c2 y.2)]
      by_cases c3 : x6 = -9
      · rw [yes2 ⟨c1, c2, Or.inl c3⟩]
        simp only [if_pos c1, if_neg c2, if_pos c3]
      · by_cases c4 : x6 ≤ z (12 + m)
        · rw [no2 (fun y => y.2.2.elim c3 (fun g => g c4))]
          simp only [if_pos c1, if_neg c2, if_neg c3, if_pos c4]
        · rw [yes2 ⟨c1, c2, Or.inr c4⟩]
          simp only [if_pos c1, if_neg c2, if_neg c3, if_neg c4]
  · rw [no1 (fun y => c1 y.1), no2 (fun y => c1 y.1)]
    by_cases c2 : z (132 + m) = 3
    · simp only [if_neg c1, if_pos c2]
    · simp only [if_neg c1, if_neg c2]
section QT
variable {pr : VX5} {dy : VX0} {ln : VX3} {now room bound drift br lt fl sw ps lo : Int32} {z : Nat → Int32} {L L0 : Nat → List Nat} {n k c T t : Nat}
theorem q_slotLoop (h : q_V pr dy now room bound drift br lt fl sw ps lo z L n c T t) (hc : c ≤ 500000) {j : Nat} (hj : j < 24) (w : Int32) : ∃ r6, q_isM z (fun p => p ∈ L j ∧ ¬ z (132 + p) = 3) r6 ∧ zk_fx (F_X10_slot_48 w z (nI j)) zk_N (0, -9, 0) = if w = 0 then some (nI (L j).length) else if w = 1 then some (nI (q_cn (fun q => decide (z (172 + q) = nI j ∧ z (132 + q) = 3)) n)) else some r6 := by
  have hn := h.n4
  have h1 := h.2.1.2.2.2.1
  refine q_loop (n := n) (P := fun o => ∃ r6, q_isM z (fun p => p ∈ L j ∧ ¬ z (132 + p) = 3) r6 ∧ o = if w = 0 then some (nI (L j).length) else if w = 1 then some (nI (q_cn (fun q => decide (z (172 + q) = nI j ∧ z (132 + q) = 3)) n)) else some r6) (fun m s => m ≤ n ∧ s.2.2 = nI m ∧ s.1 = nI (q_cn (fun q => decide (z (172 + q) = nI j ∧ z (132 + q) = 3)) m) ∧ q_isM z (fun p => p < m ∧ p ∈ L j ∧ ¬ z (132 + p) = 3) s.2.1) ?_ n 0 zk_N _ (by omega) (by unfold zk_N; omega) ⟨by omega, rfl, rfl, Or.inl ⟨rfl, fun p y => Nat.not_lt_zero p y.1⟩⟩
  intro m s hi
  obtain ⟨x5, x6, x7⟩ := s
  obtain ⟨hm, e3, e1, hM⟩ := hi
  dsimp only at e1 e3 hM
  subst e1 e3
  by_cases hmn : m < n
  · left
    refine ⟨hmn, _, ⟨by omega, rfl, ?_, ?_⟩, fun k => q_slotStep h1 hn hmn w _ _ k⟩
    · by_cases d : z (172 + m) = nI j ∧ z (132 + m) = 3
      · rw [if_pos d]
        exact (nI_1 _).trans (q_cn_st (P := fun q => decide (z (172 + q) = nI j ∧ z (132 + q) = 3)) (decide_eq_true d))
      · rw [if_neg d]
        exact q_cn_sf (P := fun q => decide (z (172 + q) = nI j ∧ z (132 + q) = 3)) (fun y => d (of_decide_eq_true y))
    · dsimp only
      by_cases d : m ∈ L j ∧ ¬ z (132 + m) = 3
      · have d1 := (h.2.1.at hmn (show j < 25 by omega)).mpr d.1
        rcases hM with ⟨rfl, hM⟩ | ⟨b, hb, rfl, hM⟩
        · rw [if_pos ⟨d1, d.2, Or.inl rfl⟩]
          refine Or.inr ⟨m, ⟨by omega, d⟩, rfl, fun p y => ?_⟩
          have : p = m := by
            refine Classical.byContradiction (fun g => hM p ⟨by omega, y.2⟩)
          rw [this]
          exact Int.le_refl _
        · have n9 : ¬ z (12 + b) = -9 := by
            obtain ⟨dd, e, hd⟩ := (h.2.2.2.2.1.1 b (by omega)).1
            rw [e]
            exact fun y => nI_pos (n := dd) (by omega) (by rw [y]; decide)
          by_cases g : z (12 + b) ≤ z (12 + m)
          · rw [if_neg (fun y => y.2.2.elim n9 (fun g' => g' g))]
            have g' := Int32.le_iff_toInt_le.mp g
            refine Or.inr ⟨b, ⟨by omega, hb.2⟩, rfl, fun p y => ?_⟩
            by_cases e : p = m
            · rw [e]
              exact g'
            · exact hM p ⟨by omega, y.2⟩
          · rw [if_pos ⟨d1, d.2, Or.inr g⟩]
            have g' : ¬ (z (12 + b)).toInt ≤ (z (12 + m)).toInt := fun y => g (Int32.le_iff_toInt_le.mpr y)
            refine Or.inr ⟨m, ⟨by omega, d⟩, rfl, fun p y => ?_⟩
            by_cases e : p = m
            · rw [e]
              exact Int.le_refl _
            · have := hM p ⟨by omega, y.2⟩
              omega
      · rw [if_neg (fun y => d ⟨(h.2.1.at hmn (show j < 25 by omega)).mp y.1, y.2.1⟩)]
        refine hM.congr (fun p => ⟨fun y => ⟨by omega, y.2⟩, fun y => ⟨?_, y.2⟩⟩)
        by_cases e : p = m
        · exact absurd (e ▸ y.2) d
        · omega
  · right
    intro k
    have e : m = n := by omega
    subst e
    refine ⟨x6, hM.congr (fun p => ⟨fun y => y.2, fun y => ⟨((h.2.1.2.1 j (by omega)).2.2 p y.1).1, y⟩⟩), ?_⟩
    unfold F_X10_slot_48
    simp only [q_n1, q_k1, h1, if_pos (nI_le (Nat.le_refl m) (show m < 2 ^ 31 by omega)), q_manyAt h.2.1 (show j < 25 by omega), Option.bind_some]
theorem q_tellLine (h : q_V pr dy now room bound drift br lt fl sw ps lo z L n c T t) (hcl : q_CL ln L) (hc : c ≤ 500000) {j : Nat} (hj : j < 24) (w : Int32) : ∃ r, f_X8_tellLine (nI j) w pr ln = some r ∧ zk_fx (F_X10_slot_48 w z (nI j)) zk_N (0, -9, 0) = some r := by
  obtain ⟨r6, hM, k6⟩ := q_slotLoop h hc hj w
  unfold f_X8_tellLine
  rw [k6]
  by_cases c0 : w = 0
  · exact ⟨nI (L j).length, by rw [if_pos c0, q_lengthOf (by omega), Option.bind_some, (hcl.1 j (by omega)).1], by rw [if_pos c0]⟩
  by_cases c1 : w = 1
  · exact ⟨_, by rw [if_neg c0, if_pos c1, q_brokenIn h hcl (by omega), Option.bind_some], by rw [if_neg c0, if_pos c1]⟩
  refine ⟨r6, ?_, by rw [if_neg c0, if_neg c1]⟩
  rw [if_neg c0, if_neg c1]
  obtain ⟨r, k1, k2⟩ := q_earliestIn h hcl (j := j) (by omega)
  rw [k1, Option.bind_some]
  rcases k2 with ⟨rfl, hS⟩ | ⟨b, hb, hs, rfl, hS⟩
  · rw [if_pos rfl]
    exact congrArg some ((show q_isM z _ (-9) from Or.inl ⟨rfl, hS⟩).uniq hM)
  · rw [if_neg (q_nm1 hb), q_fact1 hb, Option.bind_some, (h.1.2 b ((h.2.1.2.1 j (by omega)).2.2 b hs.1).1).2.1]
    exact congrArg some ((show q_isM z _ (z (12 + b)) from Or.inr ⟨b, hs, rfl, fun p y => by have := hS p y; omega⟩).uniq hM)
end QT
theorem q_c_slot {B tm : Nat} {st : VX6} {z : Nat → Int32} (h : q_R B tm st.1 z) (htm : tm ≤ 20600) (x y u : Int32) : ∃ r, f_X9_slot x y u st = some r ∧ f_X10_slot x y u z = some r := by
  obtain ⟨n, k, t, ⟨L, c, T', hV, hcl, hc, hT⟩, ht, -⟩ := h
  unfold f_X9_slot f_X10_slot
  by_cases c1 : x < 0
  · exact ⟨-1, by rw [if_pos c1], by rw [if_pos c1]⟩
  obtain ⟨a, ha, rfl⟩ := nI_of c1
  by_cases c2 : ¬ a < 3
  · exact ⟨-1, by rw [if_neg c1, if_pos (show (3 : Int32) ≤ nI a from nI_le (a := 3) (by omega) ha)], by rw [if_neg c1, if_pos (show (2 : Int32) < nI a from nI_lt (a := 2) (by omega) ha)]⟩
  have c2 := Classical.not_not.mp c2
  rw [if_neg c1, if_neg (show ¬ (3 : Int32) ≤ nI a from nI_ge (b := 3) c2 (by omega)), if_neg c1, if_neg (show ¬ (2 : Int32) < nI a from nI_nlt (a := 2) (by omega) (by omega))]
  by_cases c3 : y < 0
  · exact ⟨-1, by rw [if_pos c3], by rw [if_pos c3]⟩
  obtain ⟨b, hb, rfl⟩ := nI_of c3
  by_cases c4 : ¬ b < 8
  · exact ⟨-1, by rw [if_neg c3, if_pos (show (8 : Int32) ≤ nI b from nI_le (a := 8) (by omega) hb)], by rw [if_neg c3, if_pos (show (7 : Int32) < nI b from nI_lt (a := 7) (by omega) hb)]⟩
  have c4 := Classical.not_not.mp c4
  rw [if_neg c3, if_neg (show ¬ (8 : Int32) ≤ nI b from nI_ge (b := 8) c4 (by omega)), if_neg c3, if_neg (show ¬ (7 : Int32) < nI b from nI_nlt (a := 7) (by omega) (by omega))]
  by_cases c5 : u < 0
  · exact ⟨-1, by rw [if_pos c5], by rw [if_pos c5]⟩
  by_cases c6 : u ≤ 2
  · obtain ⟨r, k1, k2⟩ := q_tellLine hV hcl (by omega) (j := a * 8 + b) (by omega) u
    refine ⟨r, ?_, ?_⟩
    · rw [if_neg c5, if_pos c6, show nI a * 8 = nI (a * 8) from pk_mul a 8, nI_add, k1, Option.bind_some]
    · rw [if_neg c5, if_pos c6, q_let, show 8 * nI a = nI (8 * a) from pk_mul 8 a, nI_add, Nat.mul_comm, k2]
  · exact ⟨-1, by rw [if_neg c5, if_neg c6], by rw [if_neg c5, if_neg c6]⟩
