/-! PURE PART: looking: next, slot -/
section QN
variable {pr : VX5} {dy : VX0} {ln : VX3} {now room bound drift br lt fl sw ps lo : Int32} {z : Nat → Int32} {L L0 : Nat → List Nat} {n k c T t : Nat}
theorem q_bestIn (h : q_V pr dy now room bound drift br lt fl sw ps lo z L n c T t) (hcl : q_CL ln L) {j : Nat} (hj : j < 24) : ∃ r, f_X8_earliestIn (nI j) pr ln = some r ∧ f_X10_bestAt (nI j) z = some r ∧ q_isB z (fun p => p < n ∧ z (132 + p) = 0 ∧ (nI j < 0 ∨ z (172 + p) = nI j)) r := by
  obtain ⟨r, k1, k2⟩ := q_earliestIn h hcl (j := j) (by omega)
  obtain ⟨r', k3, k4⟩ := q_bestAt h.2.1.2.2.2.1 h.n4 (nI j)
  have e : r = r' := (k2.congr (fun p => ⟨fun ⟨a, b⟩ => by
    have hp := ((h.2.1.2.1 j (by omega)).2.2 p a).1
    exact ⟨hp, (h.2.2.2.2.1.2.2.1 j hj p a).resolve_right b, Or.inr ((h.2.1.at hp (by omega)).mpr a)⟩, fun ⟨a, b, d⟩ => by
    refine ⟨(h.2.1.at a (by omega)).mp (d.resolve_left (nI_pos (by omega))), fun y => ?_⟩
    rw [b] at y
    exact absurd y (by decide)⟩)).uniq k4
  exact ⟨r, k1, by rw [e]; exact k3, by rw [e]; exact k4⟩
/-- none, or one of those given -/
def q_W (n : Nat) (r : Int32) : Prop := r = -1 ∨ ∃ b, b < n ∧ r = nI b
theorem q_isB.w {z : Nat → Int32} {S : Nat → Prop} {r : Int32} {n : Nat} (h : q_isB z S r) (hS : ∀ p, S p → p < n) : q_W n r := by
  rcases h with ⟨e, -⟩ | ⟨b, -, hs, e, -⟩
  · exact Or.inl e
  · exact Or.inr ⟨b, hS b hs, e⟩
theorem q_W.isB {z : Nat → Int32} {r : Int32} (hn : n ≤ 40) (h : q_W n r) : ∃ S, q_isB z S r ∧ ∀ p, S p → p < n := by
  rcases h with e | ⟨b, hb, e⟩
  · exact ⟨fun _ => False, Or.inl ⟨e, fun p y => y⟩, fun p y => absurd y id⟩
  · refine ⟨fun q => q = b, ?_, fun p y => by rw [y]; exact hb⟩
    rw [e]
    exact q_isB.one (by omega)
theorem q_both (h : q_V pr dy now room bound drift br lt fl sw ps lo z L n c T t) {r1 r2 : Int32} (h1 : q_W n r1) (h2 : q_W n r2) : ∃ r, f_X5_earlier r1 r2 pr.1 = some r ∧ f_X10_better r1 r2 z = some r ∧ q_W n r := by
  have hn := h.n4
  obtain ⟨S1, a1, b1⟩ := h1.isB (z := z) hn
  obtain ⟨S2, a2, b2⟩ := h2.isB (z := z) hn
  have hS : ∀ p, S1 p ∨ S2 p → p < n := fun p y => y.elim (b1 p) (b2 p)
  obtain ⟨r, k1, k2⟩ := q_earlier (f := pr.1) a1 a2 (fun p y => (h.1.2 p (hS p y)).2.1)
  obtain ⟨r', k3, k4⟩ := q_better a1 a2
  have e := k2.uniq k4
  exact ⟨r, k1, by rw [e]; exact k3, k2.w hS⟩
theorem q_ring (h : q_V pr dy now room bound drift br lt fl sw ps lo z L n c T t) (hcl : q_CL ln L) {g a b : Nat} (hg : g < 3) (ha : a < 2 ^ 30) (hb : b < 2 ^ 30) (hab : a % 8 = b % 8) : ∃ r1 r2, (r1 = r2 ∧ q_W n r1) ∧ zk_fx (F_X8_earliestInRing_11 (nI g) pr ln (nI a)) zk_N (-1, 1) = some r1 ∧ zk_fx (F_X10_bestOfRing_45 (nI g) z (nI b)) zk_N (-1, 1) = some r2 := by
  refine q_loop2 (n := 8) (P := fun r1 r2 => r1 = r2 ∧ q_W n r1) (fun m (s1 s2 : Int32 × Int32) => m ≤ 8 ∧ s2 = s1 ∧ s1.2 = nI (m + 1) ∧ q_W n s1.1) ?_ 8 0 zk_N zk_N _ _ (by omega) (by unfold zk_N; omega) (by unfold zk_N; omega) ⟨by omega, rfl, rfl, Or.inl rfl⟩
  intro m s1 s2 hi
  obtain ⟨x1, x2⟩ := s1
  obtain ⟨hm, rfl, e2, hw⟩ := hi
  dsimp only at e2 hw
  subst e2
  have hn := h.n4
  by_cases hm8 : m < 8
  · have c1 : ¬ (8 : Int32) < nI (m + 1) := nI_nlt (a := 8) (by omega) (by omega)
    rcases hw with rfl | ⟨p, hp, rfl⟩
    · left
      have em : ∀ x, x % 8 = a % 8 → x < 2 ^ 30 → zk_rem (nI x + nI (m + 1)) 8 = nI ((a + (m + 1)) % 8) := by
        intro x e hx
        rw [nI_add, q_rem8 (by omega), show (x + (m + 1)) % 8 = (a + (m + 1)) % 8 by omega]
      obtain ⟨r, k1, k2, k3⟩ := q_bestIn h hcl (j := g * 8 + (a + (m + 1)) % 8) (by omega)
      have e1 : nI g * 8 + nI ((a + (m + 1)) % 8) = nI (g * 8 + (a + (m + 1)) % 8) := by
        rw [show nI g * 8 = nI (g * 8) from pk_mul g 8, nI_add]
      have e2 : 8 * nI g + nI ((a + (m + 1)) % 8) = nI (g * 8 + (a + (m + 1)) % 8) := by
        rw [show 8 * nI g = nI (8 * g) from pk_mul 8 g, nI_add, Nat.mul_comm]
      refine ⟨hm8, (r, nI (m + 1 + 1)), (r, nI (m + 1 + 1)), ⟨by omega, rfl, rfl, k3.w (fun p y => y.1)⟩, fun k => ?_, fun k => ?_⟩
      · unfold F_X8_earliestInRing_11
        dsimp only
        rw [if_neg c1, if_pos rfl, em a rfl ha, e1, k1, Option.bind_some, nI_1]
      · unfold F_X10_bestOfRing_45
        dsimp only
        rw [if_neg c1, if_neg (by decide), em b hab.symm hb, e2, k2, Option.bind_some, nI_1]
    · right
      refine ⟨nI p, nI p, ⟨rfl, Or.inr ⟨p, hp, rfl⟩⟩, fun k => ?_, fun k => ?_⟩
      · unfold F_X8_earliestInRing_11
        dsimp only
        rw [if_neg c1, if_neg (q_nm1 (by omega))]
      · unfold F_X10_bestOfRing_45
        dsimp only
        rw [if_neg c1, if_pos (nI_pos' (by omega))]
  · right
    have c1 : (8 : Int32) < nI (m + 1) := nI_lt (a := 8) (by omega) (by omega)
    refine ⟨x1, x1, ⟨rfl, hw⟩, fun k => ?_, fun k => ?_⟩
    · unfold F_X8_earliestInRing_11
      dsimp only
      rw [if_pos c1]
    · unfold F_X10_bestOfRing_45
      dsimp only
      rw [if_pos c1]
theorem q_rings (h : q_V pr dy now room bound drift br lt fl sw ps lo z L n c T t) (hcl : q_CL ln L) (ht : t < 2 ^ 30) : ∃ r, f_X8_earliestByRings pr ln now = some r ∧ q_W n r ∧ ∀ {α : Type} (K : Int32 → Option α), ((f_X10_bestOfRing 0 z).bind fun r34 => (f_X10_bestOfRing 1 z).bind fun r39 => (f_X10_better r34 r39 z).bind fun r42 => (f_X10_bestOfRing 2 z).bind fun r50 => (f_X10_better r42 r50 z).bind fun r53 => K r53) = K r := by
  have e1 := h.2.2.1.1
  have e2 := h.2.2.1.2.1
  obtain ⟨a0, _, ⟨rfl, w0⟩, k0, m0⟩ := q_ring h hcl (g := 0) (a := t % 8) (b := t) (by omega) (by omega) (by omega) (by omega)
  obtain ⟨a1, _, ⟨rfl, w1⟩, k1, m1⟩ := q_ring h hcl (g := 1) (a := t / 8 % 8) (b := t / 8) (by omega) (by omega) (by omega) (by omega)
  obtain ⟨a2, _, ⟨rfl, w2⟩, k2, m2⟩ := q_ring h hcl (g := 2) (a := t / 64 % 8) (b := t / 64) (by omega) (by omega) (by omega) (by omega)
  obtain ⟨b1, f1, g1, v1⟩ := q_both h w0 w1
  obtain ⟨b2, f2, g2, v2⟩ := q_both h v1 w2
  refine ⟨b2, ?_, v2, fun K => ?_⟩
  · have k0 : zk_fx (F_X8_earliestInRing_11 0 pr ln (nI (t % 8))) zk_N (-1, 1) = some a0 := k0
    have k1 : zk_fx (F_X8_earliestInRing_11 1 pr ln (nI (t / 8 % 8))) zk_N (-1, 1) = some a1 := k1
    have k2 : zk_fx (F_X8_earliestInRing_11 2 pr ln (nI (t / 64 % 8))) zk_N (-1, 1) = some a2 := k2
    unfold f_X8_earliestByRings
    refine q_scan (n := 3) (F := F_X8_earliestByRings_4 pr ln now) (fun m => (if m = 0 then -1 else if m = 1 then a0 else if m = 2 then b1 else b2, nI m)) (some b2) (fun k m hm => ?_) (fun k => ?_) 3 0 zk_N (by omega) (by unfold zk_N; omega)
    · unfold F_X8_earliestByRings_4 f_X8_earliestInRing
      rw [e1]
      rcases (show m = 0 ∨ m = 1 ∨ m = 2 by omega) with rfl | rfl | rfl
      · dsimp only
        rw [if_neg (show ¬ (3 : Int32) ≤ nI 0 by decide), show nI 0 = (0 : Int32) from rfl, q_slot0 ht, Option.bind_some, k0, Option.bind_some, if_pos rfl, show f_X5_earlier (-1) a0 pr.1 = some a0 from if_pos rfl, Option.bind_some]
        rfl
      · dsimp only
        rw [if_neg (show ¬ (3 : Int32) ≤ nI 1 by decide), show nI 1 = (1 : Int32) from rfl, q_slot1 ht, Option.bind_some, k1, Option.bind_some, if_neg (show ¬ (1 = 0) by omega), if_pos rfl, f1, Option.bind_some]
        rfl
      · dsimp only
        rw [if_neg (show ¬ (3 : Int32) ≤ nI 2 by decide), show nI 2 = (2 : Int32) from rfl, q_slot2 ht, Option.bind_some, k2, Option.bind_some, if_neg (show ¬ (2 = 0) by omega), if_neg (show ¬ (2 = 1) by omega), if_pos rfl, f2, Option.bind_some]
        rfl
    · unfold F_X8_earliestByRings_4
      dsimp only
      rw [if_pos (show (3 : Int32) ≤ nI 3 by decide), if_neg (show ¬ (3 = 0) by omega), if_neg (show ¬ (3 = 1) by omega), if_neg (show ¬ (3 = 2) by omega)]
  · unfold f_X10_bestOfRing f_X10_bestOfRing_39
    rw [if_pos rfl, if_neg (show ¬ (1 : Int32) = 0 by decide), if_pos rfl, if_neg (show ¬ (2 : Int32) = 0 by decide), if_neg (show ¬ (2 : Int32) = 1 by decide)]
    simp only [q_k0, q_n0, e2]
    rw [q_div8 (by omega), q_div64 (by omega)]
    have m0 : zk_fx (F_X10_bestOfRing_45 0 z (nI t)) zk_N (-1, 1) = some a0 := m0
    have m1 : zk_fx (F_X10_bestOfRing_45 1 z (nI (t / 8))) zk_N (-1, 1) = some a1 := m1
    have m2 : zk_fx (F_X10_bestOfRing_45 2 z (nI (t / 64))) zk_N (-1, 1) = some a2 := m2
    rw [m0, m1, m2, Option.bind_some, Option.bind_some, g1, Option.bind_some, Option.bind_some, g2, Option.bind_some]
theorem q_nextEnd (h : q_V pr dy now room bound drift br lt fl sw ps lo z L n c T t) {st : VX6} (hs : st.1.1 = pr) {r : Int32} (hw : q_W n r) (y : Int32) : ∃ r', f_X9_next_43 y st r = some r' ∧ f_X10_next_57 y z r = some r' := by
  have hn := h.n4
  unfold f_X9_next_43 f_X10_next_57
  rcases hw with rfl | ⟨p, hp, rfl⟩
  · exact ⟨-9, by rw [if_pos rfl], by rw [if_neg (by decide)]⟩
  · rw [if_neg (q_nm1 (by omega)), if_pos (nI_pos' (by omega)), hs, q_fact1 (by omega), (h.1.2 p hp).2.1, q_a12, q_ck (by omega) (by omega), q_cl (by omega), Option.bind_some]
    by_cases c : y = 0
    · exact ⟨nI p, by rw [if_pos c], by rw [if_pos c]⟩
    · exact ⟨z (12 + p), by rw [if_neg c], by rw [if_neg c]⟩
end QN
theorem q_c_next {B tm : Nat} {st : VX6} {z : Nat → Int32} (h : q_R B tm st.1 z) (htm : tm ≤ 20600) (x y : Int32) : ∃ r, f_X9_next x y st = some r ∧ f_X10_next x y z = some r := by
  obtain ⟨n, k, t, ⟨L, c, T', hV, hcl, hc, hT⟩, ht, -⟩ := h
  have hz1 := hV.2.1.2.2.2.1
  have hn := hV.n4
  unfold f_X9_next f_X10_next
  by_cases c1 : x < 0
  · exact ⟨-1, by rw [if_pos c1], by rw [if_pos c1]⟩
  by_cases c2 : 1 < x
  · exact ⟨-1, by rw [if_neg c1, if_pos c2], by rw [if_neg c1, if_pos c2]⟩
  by_cases c3 : y < 0
  · exact ⟨-1, by rw [if_neg c1, if_neg c2, if_pos c3], by rw [if_neg c1, if_neg c2, if_pos c3]⟩
  by_cases c4 : y ≤ 1
  · rw [if_neg c1, if_neg c2, if_neg c3, if_pos c4, if_neg c1, if_neg c2, if_neg c3, if_pos c4]
    obtain ⟨r0, k0, w0⟩ := q_bestAt hz1 hn (-1)
    rw [k0, Option.bind_some]
    obtain ⟨a, ha, rfl⟩ := nI_of2 (M := 1) (n := 1) rfl c1 (Int32.not_lt.mp c2)
    rcases (show a = 0 ∨ a = 1 by omega) with rfl | rfl
    · rw [if_pos (show nI 0 = 0 from rfl), if_neg (show ¬ nI 0 = 1 by decide)]
      obtain ⟨r1, k1, w1⟩ := q_earliestOfAll hV
      have e : r1 = r0 := (w1.congr (fun p => ⟨fun w => ⟨w.1, w.2, Or.inl (by decide)⟩, fun w => ⟨w.1, w.2.1⟩⟩)).uniq w0
      rw [k1, Option.bind_some, e]
      exact q_nextEnd hV rfl (w0.w (fun p w => w.1)) y
    · rw [if_neg (show ¬ nI 1 = 0 by decide), if_pos (show nI 1 = 1 from rfl)]
      obtain ⟨r1, k1, w1, m1⟩ := q_rings hV hcl (by omega)
      rw [m1, k1, Option.bind_some]
      exact q_nextEnd hV rfl w1 y
  · exact ⟨-1, by rw [if_neg c1, if_neg c2, if_neg c3, if_neg c4], by rw [if_neg c1, if_neg c2, if_neg c3, if_neg c4]⟩
