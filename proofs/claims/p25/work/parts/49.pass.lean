/-! PURE PART: pass, and the state as a whole -/
section QW
variable {pr : VX5} {dy : VX0} {ln : VX3} {now room bound drift br lt fl sw ps lo : Int32} {z : Nat → Int32} {L L0 : Nat → List Nat} {n k c T t : Nat}
theorem q_le20000 {a : Nat} (ha : a < 2 ^ 31) (h : nI a ≤ 20000) : a ≤ 20000 := by
  rw [Int32.le_iff_toInt_le, nI_toInt ha, show (20000 : Int32).toInt = 20000 from rfl] at h
  omega
theorem q_bT {T i : Nat} (hT : T < 500000000) (hi : i < 600) : T + 140 * i + 120 < 2 ^ 29 := by omega
theorem q_bc {c i : Nat} (hc : c ≤ 500000) (hi : i < 600) : 21200 + 511 * (c + 20 * i + 21) < 2 ^ 29 := by omega
theorem q_X.calls (h : q_X pr ln dy now room bound drift br lt fl sw ps lo z n k c T t) : ∃ c', k ≤ c' ∧ c' ≤ c ∧ dy.2 = nI c' ∧ z 5 = nI c' := by
  obtain ⟨L, c', T', h, hcl, hc, hT⟩ := h
  exact ⟨c', hc.1, hc.2, h.2.2.2.1.1, h.2.2.2.1.2.1⟩
theorem q_X.time (h : q_X pr ln dy now room bound drift br lt fl sw ps lo z n k c T t) : now = nI t ∧ z 0 = nI t := by
  obtain ⟨L, c', T', h, hcl, hc, hT⟩ := h
  exact ⟨h.2.2.1.1, h.2.2.1.2.1⟩
theorem q_X.low (h : q_X pr ln dy now room bound drift br lt fl sw ps lo z n k c T t) : ∃ c', c' ≤ c ∧ dy.2 = nI c' ∧ z 5 = nI c' ∧ q_X pr ln dy now room bound drift br lt fl sw ps lo z n c' c T t := by
  obtain ⟨L, c', T', h, hcl, hc, hT⟩ := h
  exact ⟨c', hc.2, h.2.2.2.1.1, h.2.2.2.1.2.1, L, c', T', h, hcl, ⟨Nat.le_refl _, hc.2⟩, hT⟩
set_option maxHeartbeats 2000000 in
theorem q_pass_loop (h : q_X pr ln dy now room bound drift br lt fl sw ps lo z n k c T t) (m : Nat) (hm : m ≤ 600) (hk : z 5 = nI k) (hT : T < 500000000) (hc : c ≤ 500000) (ht : t + m ≤ 20600) (x y : Nat → Int32) (u : Int32) : ∃ r1 r2, (¬ r1.1 < 0 ∧ r2 = (r1.1, r2.2.1, x, y, u) ∧ q_X r1.2.1 r1.2.2.1 r1.2.2.2.1 r1.2.2.2.2.1 room bound drift r1.2.2.2.2.2.1 r1.2.2.2.2.2.2.1 r1.2.2.2.2.2.2.2.1 r1.2.2.2.2.2.2.2.2.1 r1.2.2.2.2.2.2.2.2.2.1 r1.2.2.2.2.2.2.2.2.2.2 r2.2.1 n k (c + 20 * m) (T + 140 * m) (t + m)) ∧ zk_fx (F_X8_passTicks_39 (nI m) room bound drift (nI k)) zk_N (0, pr, ln, dy, now, br, lt, fl, sw, ps, lo) = some r1 ∧ zk_fx (F_X10_pass_44 (nI m) (nI k) x y u) zk_N (0, z) = some r2 := by
  refine q_loop2 (n := m) (P := fun (r1 : Int32 × VX5 × VX3 × VX0 × Int32 × Int32 × Int32 × Int32 × Int32 × Int32 × Int32) (r2 : Int32 × (Nat → Int32) × (Nat → Int32) × (Nat → Int32) × Int32) => ¬ r1.1 < 0 ∧ r2 = (r1.1, r2.2.1, x, y, u) ∧ q_X r1.2.1 r1.2.2.1 r1.2.2.2.1 r1.2.2.2.2.1 room bound drift r1.2.2.2.2.2.1 r1.2.2.2.2.2.2.1 r1.2.2.2.2.2.2.2.1 r1.2.2.2.2.2.2.2.2.1 r1.2.2.2.2.2.2.2.2.2.1 r1.2.2.2.2.2.2.2.2.2.2 r2.2.1 n k (c + 20 * m) (T + 140 * m) (t + m)) (fun i (s1 : Int32 × VX5 × VX3 × VX0 × Int32 × Int32 × Int32 × Int32 × Int32 × Int32 × Int32) (s2 : Int32 × (Nat → Int32)) => i ≤ m ∧ s1.1 = nI i ∧ s2.1 = nI i ∧ q_X s1.2.1 s1.2.2.1 s1.2.2.2.1 s1.2.2.2.2.1 room bound drift s1.2.2.2.2.2.1 s1.2.2.2.2.2.2.1 s1.2.2.2.2.2.2.2.1 s1.2.2.2.2.2.2.2.2.1 s1.2.2.2.2.2.2.2.2.2.1 s1.2.2.2.2.2.2.2.2.2.2 s2.2 n k (c + 20 * i) (T + 140 * i) (t + i)) ?_ m 0 zk_N zk_N _ _ (by omega) (by unfold zk_N; omega) (by unfold zk_N; omega) ⟨by omega, rfl, rfl, h⟩
  clear h
  intro i s1 s2 hi
  obtain ⟨x3, pr, ln, dy, now, br, lt, fl, sw, ps, lo⟩ := s1
  obtain ⟨y3, z⟩ := s2
  obtain ⟨him, e1, e2, h⟩ := hi
  dsimp only at e1 e2 h
  subst e1 e2
  by_cases hmr : i < m
  · left
    refine ⟨hmr, ?_⟩
    have c1 : ¬ nI m ≤ nI i := nI_ge hmr (by omega)
    obtain ⟨r1, r2, hx, k1, k2⟩ := q_tick h (q_bT hT (by omega)) (q_bc hc (by omega)) (by omega)
    refine ⟨(nI i + 1, r1), (nI i + 1, r2), ⟨by omega, nI_1 i, nI_1 i, ?_⟩, fun k => ?_, fun k => ?_⟩
    · exact hx.mono (by omega) (by omega)
    · unfold F_X8_passTicks_39
      simp only [if_neg c1, k1, Option.bind_some]
    · unfold F_X10_pass_44
      simp only [if_neg c1, k2, Option.bind_some]
  · right
    have e : i = m := by omega
    subst e
    have c1 : nI i ≤ nI i := nI_le (Nat.le_refl _) (by omega)
    obtain ⟨c', hc1, hc2, hd, hz⟩ := h.calls
    have es : nI c' - nI k = nI (c' - k) := pk_sub hc1
    refine ⟨(nI (c' - k), pr, ln, dy, now, br, lt, fl, sw, ps, lo), (nI (c' - k), z, x, y, u), ⟨nI_pos (by omega), rfl, h⟩, fun k => ?_, fun k => ?_⟩
    · unfold F_X8_passTicks_39 f_X0_calls
      simp only [if_pos c1, Option.bind_some, hd, es]
    · unfold F_X10_pass_44
      simp only [if_pos c1, q_k5, q_n5, hz, es]
theorem q_opPass (h : q_X pr ln dy now room bound drift br lt fl sw ps lo z n k c T t) (hT : T < 500000000) (hc : c ≤ 500000) (ht : t ≤ 20000) (x : Int32) : ∃ r1, f_X8_passTicks x pr ln dy now room bound drift br lt fl sw ps lo = some r1 ∧ ((r1.1 < 0 ∧ r1 = (r1.1, pr, ln, dy, now, br, lt, fl, sw, ps, lo) ∧ ∀ sn hs pa ph pm be q, f_X10_pass x z sn hs pa ph pm be q = some (r1.1, z, pa, ph, pm)) ∨ (¬ r1.1 < 0 ∧ ∀ sn hs pa ph pm be q, ∃ z' m, t + m ≤ 20000 ∧ q_X r1.2.1 r1.2.2.1 r1.2.2.2.1 r1.2.2.2.2.1 room bound drift r1.2.2.2.2.2.1 r1.2.2.2.2.2.2.1 r1.2.2.2.2.2.2.2.1 r1.2.2.2.2.2.2.2.2.1 r1.2.2.2.2.2.2.2.2.2.1 r1.2.2.2.2.2.2.2.2.2.2 z' n k (c + 20 * m) (T + 140 * m) (t + m) ∧ f_X10_pass x z sn hs pa ph pm be q = q_kept r1.1 z' (f_X10_record z sn hs pa ph pm be q))) := by
  unfold f_X8_passTicks f_X10_pass
  by_cases c1 : x < 1
  · exact ⟨_, by rw [if_pos c1], Or.inl ⟨by show (-1 : Int32) < 0; decide, rfl, fun sn hs pa ph pm be q => by rw [if_pos c1]⟩⟩
  by_cases c2 : ¬ x ≤ 600
  · exact ⟨_, by rw [if_neg c1, if_neg c2], Or.inl ⟨by show (-1 : Int32) < 0; decide, rfl, fun sn hs pa ph pm be q => by rw [if_neg c1, if_neg c2]⟩⟩
  have c2 := Classical.not_not.mp c2
  obtain ⟨m, hm, rfl⟩ := nI_of2 (x := x) (M := 600) (n := 600) rfl (fun w => c1 (Int32.lt_trans w (by decide))) c2
  obtain ⟨e1, e2⟩ := h.time
  simp only [if_neg c1, if_pos c2, e1, q_k0, q_n0, e2, nI_add]
  by_cases c3 : nI (t + m) ≤ 20000
  · simp only [if_pos c3]
    have ht2 : t + m ≤ 20000 := q_le20000 (by omega) c3
    obtain ⟨c', hc', hd, hz5, hl⟩ := h.low
    rw [e1] at hl
    unfold f_X0_calls
    simp only [hd, Option.bind_some, q_k5, q_n5, hz5, zk_let]
    obtain ⟨r1, r2, ⟨hr, -, -⟩, k1, -⟩ := q_pass_loop hl m hm hz5 hT hc (by omega) z z 0
    refine ⟨r1, k1, Or.inr ⟨hr, fun sn hs pa ph pm be q => ?_⟩⟩
    have hlow : ∀ z', q_X r1.2.1 r1.2.2.1 r1.2.2.2.1 r1.2.2.2.2.1 room bound drift r1.2.2.2.2.2.1 r1.2.2.2.2.2.2.1 r1.2.2.2.2.2.2.2.1 r1.2.2.2.2.2.2.2.2.1 r1.2.2.2.2.2.2.2.2.2.1 r1.2.2.2.2.2.2.2.2.2.2 z' n c' (c + 20 * m) (T + 140 * m) (t + m) → q_X r1.2.1 r1.2.2.1 r1.2.2.2.1 r1.2.2.2.2.1 room bound drift r1.2.2.2.2.2.1 r1.2.2.2.2.2.2.1 r1.2.2.2.2.2.2.2.1 r1.2.2.2.2.2.2.2.2.1 r1.2.2.2.2.2.2.2.2.2.1 r1.2.2.2.2.2.2.2.2.2.2 z' n k (c + 20 * m) (T + 140 * m) (t + m) := by
      intro z' hq
      obtain ⟨c0, g1, g2, g3, g4⟩ := h.calls
      have e : c0 = c' := by
        rw [hz5] at g4
        exact ((nI_eq (by omega) (by omega)).mp g4).symm
      obtain ⟨L, c2, T2, a, b, d, f⟩ := hq
      exact ⟨L, c2, T2, a, b, by omega, f⟩
    cases hrec : f_X10_record z sn hs pa ph pm be q with
    | none =>
      obtain ⟨r1', r2, ⟨hr', e, hx⟩, k1', k2⟩ := q_pass_loop hl m hm hz5 hT hc (by omega) z z 0
      have er : r1' = r1 := Option.some.inj (k1'.symm.trans k1)
      subst er
      exact ⟨r2.2.1, m, ht2, hlow _ hx, rfl⟩
    | some rc =>
      obtain ⟨r1', r2, ⟨hr', e, hx⟩, k1', k2⟩ := q_pass_loop hl m hm hz5 hT hc (by omega) rc.1 rc.2.1 rc.2.2
      have er : r1' = r1 := Option.some.inj (k1'.symm.trans k1)
      subst er
      refine ⟨r2.2.1, m, ht2, hlow _ hx, ?_⟩
      rw [Option.bind_some, k2, e]
      rfl
  · simp only [if_neg c3]
    exact ⟨_, rfl, Or.inl ⟨by show (-3 : Int32) < 0; decide, rfl, fun sn hs pa ph pm be q => rfl⟩⟩
end QW
/-- a wheel's value beside a row -/
def q_R (B tm : Nat) (v : VX8) (z : Nat → Int32) : Prop := ∃ n k t, q_X v.1 v.2.1 v.2.2.1 v.2.2.2.1 v.2.2.2.2.1 v.2.2.2.2.2.1 v.2.2.2.2.2.2.1 v.2.2.2.2.2.2.2.1 v.2.2.2.2.2.2.2.2.1 v.2.2.2.2.2.2.2.2.2.1 v.2.2.2.2.2.2.2.2.2.2.1 v.2.2.2.2.2.2.2.2.2.2.2.1 v.2.2.2.2.2.2.2.2.2.2.2.2 z n k (20 * t) (200 * t + B) t ∧ t ≤ tm ∧ ¬ v.2.2.2.2.2.1 < 0 ∧ ¬ v.2.2.2.2.2.2.1 < 0
theorem q_R.cong {B tm : Nat} {v : VX8} {z z' : Nat → Int32} (h : q_R B tm v z) (e : ∀ i, i < 368 → z' i = z i) : q_R B tm v z' := by
  obtain ⟨n, k, t, h, r⟩ := h
  exact ⟨n, k, t, h.cong e, r⟩
theorem q_R.mono {B B' tm : Nat} {v : VX8} {z : Nat → Int32} (h : q_R B tm v z) (e : B ≤ B') : q_R B' tm v z := by
  obtain ⟨n, k, t, h, r⟩ := h
  exact ⟨n, k, t, h.mono (Nat.le_refl _) (by omega), r⟩
theorem q_R.copy {B tm : Nat} {u : VX8} {z : Nat → Int32} (h : q_R B tm u z) (pv : VX5) (lv : VX3) (dv : VX0) : ∃ v', f_X8_copyFrom pv lv dv u.1 u.2.1 u.2.2.1 u.2.2.2.1 u.2.2.2.2.1 u.2.2.2.2.2.1 u.2.2.2.2.2.2.1 u.2.2.2.2.2.2.2.1 u.2.2.2.2.2.2.2.2.1 u.2.2.2.2.2.2.2.2.2.1 u.2.2.2.2.2.2.2.2.2.2.1 u.2.2.2.2.2.2.2.2.2.2.2.1 u.2.2.2.2.2.2.2.2.2.2.2.2 = some v' ∧ q_R B tm v' z ∧ v'.2.2.2 = u.2.2.2 := by
  obtain ⟨n, k, t, h, r⟩ := h
  obtain ⟨pr', ln', dy', e, hx⟩ := q_copy pv lv dv h
  exact ⟨_, e, ⟨n, k, t, hx, r⟩, rfl⟩
/-- the whole state beside row, snapshots, and which are taken -/
def q_S (B : Nat) (s : VX6) (z sn hs : Nat → Int32) : Prop := q_R B 20000 s.1 z ∧ ∀ i, i < 2 → s.2.2 i = hs i ∧ (hs i = 0 ∨ hs i = 1) ∧ (hs i ≠ 0 → q_R B 20000 (s.2.1 i) (fun k => sn (368 * i + k)))
theorem q_S.mono {B B' : Nat} {s : VX6} {z sn hs : Nat → Int32} (h : q_S B s z sn hs) (e : B ≤ B') : q_S B' s z sn hs := ⟨h.1.mono e, fun i hi => ⟨(h.2 i hi).1, (h.2 i hi).2.1, fun y => ((h.2 i hi).2.2 y).mono e⟩⟩
theorem q_S.cong {B : Nat} {s : VX6} {z sn hs z' sn' hs' : Nat → Int32} (h : q_S B s z sn hs) (e1 : ∀ i, i < 368 → z' i = z i) (e2 : ∀ i, i < 736 → sn' i = sn i) (e3 : ∀ i, i < 2 → hs' i = hs i) : q_S B s z' sn' hs' := by
  refine ⟨h.1.cong e1, fun i hi => ?_⟩
  rw [e3 i hi]
  exact ⟨(h.2 i hi).1, (h.2 i hi).2.1, fun y => ((h.2 i hi).2.2 y).cong (fun k hk => e2 _ (by omega))⟩
theorem q_nar {x : Int32} (h : x = 0 ∨ x = 1) : vp_nar .boolean x = x := by
  rcases h with rfl | rfl <;> decide
set_option maxHeartbeats 2000000 in
theorem q_S.copy {B : Nat} {u : VX6} {z sn hs : Nat → Int32} (h : q_S B u z sn hs) (v : VX6) : ∃ v', f_X6_copyFrom v.1 v.2.1 v.2.2 u.1 u.2.1 u.2.2 = some v' ∧ q_S B v' z sn hs := by
  obtain ⟨w', ew, hw, -⟩ := h.1.copy v.1.1 v.1.2.1 v.1.2.2.1
  unfold f_X6_copyFrom
  rw [ew, Option.bind_some]
  refine q_loop (n := 2) (P := fun r => ∃ v', r = some v' ∧ q_S B v' z sn hs) (fun m (s : Int32 × (Nat → VX8) × (Nat → Int32)) => m ≤ 2 ∧ s.1 = nI m ∧ ∀ i, i < m → s.2.2 i = hs i ∧ (hs i = 0 ∨ hs i = 1) ∧ (hs i ≠ 0 → q_R B 20000 (s.2.1 i) (fun k => sn (368 * i + k)))) ?_ 2 0 zk_N _ (by omega) (by unfold zk_N; omega) ⟨by omega, rfl, fun i hi => absurd hi (Nat.not_lt_zero _)⟩
  intro m s hi
  obtain ⟨x2, sv, tv⟩ := s
  obtain ⟨hm, e1, h2⟩ := hi
  dsimp only at e1 h2
  subst e1
  by_cases hmr : m < 2
  · left
    refine ⟨hmr, ?_⟩
    have c1 : ¬ (2 : Int32) ≤ nI m := nI_ge (b := 2) hmr (by omega)
    obtain ⟨g1, g2, g3⟩ := h.2 m hmr
    have en : vp_nar .boolean (u.2.2 m) = hs m := by rw [g1, q_nar g2]
    by_cases c : hs m = 0
    · refine ⟨(nI m + 1, sv, upd tv m (hs m)), ⟨by omega, nI_1 m, fun i hi => ?_⟩, fun k => ?_⟩
      · dsimp only
        by_cases y : i = m
        · subst y
          rw [pk_us]
          exact ⟨rfl, g2, fun w => absurd c w⟩
        · rw [pk_un y]
          exact h2 i (by omega)
      · unfold F_X6_copyFrom_13 f_X6_copyFrom_69
        simp (disch := omega) only [if_neg c1, q_ck, q_cl, zk_let, en, pk_us, if_pos c]
    · obtain ⟨w2, ew2, hw2, -⟩ := (g3 c).copy (sv m).1 (sv m).2.1 (sv m).2.2.1
      refine ⟨(nI m + 1, va_up sv m w2, upd tv m (hs m)), ⟨by omega, nI_1 m, fun i hi => ?_⟩, fun k => ?_⟩
      · dsimp only
        by_cases y : i = m
        · subst y
          rw [pk_us, q_up_s]
          exact ⟨rfl, g2, fun _ => hw2⟩
        · rw [pk_un y, q_up_n y]
          exact h2 i (by omega)
      · unfold F_X6_copyFrom_13 f_X6_copyFrom_69
        simp (disch := omega) only [if_neg c1, q_ck, q_cl, zk_let, en, pk_us, if_neg c, ew2, Option.bind_some]
  · right
    intro k
    have e : m = 2 := by omega
    subst e
    refine ⟨(w', sv, tv), ?_, hw, h2⟩
    unfold F_X6_copyFrom_13
    simp only [if_pos (show (2 : Int32) ≤ nI 2 from nI_le (a := 2) (Nat.le_refl _) (by omega))]
