/-! PURE PART of p25: the actions beside a row; a history's numbers -/
def gw_0 : Nat → Int32 := fun _ => 0
def gw_H (hi : VX2) : Prop := ∃ m h, m < 6 ∧ h ≤ 5 ∧ hi.2.1 = nI m ∧ hi.2.2 = nI h
theorem gw_H.note {B : Nat} {hi : VX2} {s : VX6} {z sn hs : Nat → Int32} (h : gw_H hi) (hs0 : q_S B s z sn hs) : ∃ rows, f_X2_note hi.1 hi.2.1 s.1 s.2.1 s.2.2 = some rows ∧ gw_H (rows, hi.2) ∧ ∀ m, m < 6 → hi.2.1 = nI m → q_S B (rows m) z sn hs := by
  obtain ⟨m, n, a, b, c, d⟩ := h
  obtain ⟨v', e, hv⟩ := hs0.copy (hi.1 m)
  refine ⟨va_up hi.1 m v', ?_, ⟨m, n, a, b, c, d⟩, fun m' hm' y => ?_⟩
  · unfold f_X2_note f_X2_rowAt zk_oc
    simp (disch := omega) only [c, if_neg (nI_pos (n := m) (by omega)), if_pos (show nI m < 6 from nI_lt (b := 6) a (by omega)), q_ck, q_cl, Option.bind_some, if_pos a, e]
  · rw [c] at y
    have := (nI_eq (by omega) (by omega)).mp y
    subst this
    rw [q_up_s]
    exact hv
theorem gw_H.keep {hi : VX2} (h : gw_H hi) : ∃ no sa, f_X2_keepNoted hi.2.1 hi.2.2 = some (no, sa) ∧ (∀ rows, gw_H (rows, no, sa)) ∧ ∃ m k, m < 6 ∧ hi.2.1 = nI m ∧ no = nI ((m + 1) % 6) ∧ 1 ≤ k ∧ k ≤ 5 ∧ sa = nI k := by
  obtain ⟨m, n, a, b, c, d⟩ := h
  refine ⟨nI ((m + 1) % 6), nI (if n = 5 then 5 else n + 1), by rw [c, d]; exact q_keep a b, fun rows => ⟨(m + 1) % 6, _, by omega, ?_, rfl, rfl⟩, m, _, a, c, rfl, ?_, ?_, rfl⟩
  · split <;> omega
  · split <;> omega
  · split <;> omega
theorem gw_rec1 (z sn hs pa ph be : Nat → Int32) (pm : Int32) : f_X10_record z sn hs pa ph pm be 1 = some (pa, ph, pm) := by
  unfold f_X10_record
  rw [if_neg (by decide)]
theorem gw_o_give {B : Nat} {st : VX6} {hi : VX2} {z : Nat → Int32} (hS : q_S B st z gw_0 gw_0) (hH : gw_H hi) (hB : B ≤ 400000000) (x y u : Int32) : ∃ r st' hi' z', f_X9_give x y u st hi = some (r, st', hi') ∧ f_X10_give x y u z gw_0 gw_0 gw_0 gw_0 0 gw_0 1 = some (r, z', gw_0, gw_0, 0) ∧ q_S (B + 1) st' z' gw_0 gw_0 ∧ gw_H hi' ∧ (¬ r < 0 → ∃ m k, m < 6 ∧ hi'.2.1 = nI ((m + 1) % 6) ∧ 1 ≤ k ∧ k ≤ 5 ∧ hi'.2.2 = nI k ∧ q_S (B + 1) (hi'.1 m) z gw_0 gw_0) := by
  obtain ⟨rows, hN, hH1, hrow⟩ := hH.note hS
  obtain ⟨⟨n, k, t, hX, ht, hb, hd⟩, hS2⟩ := id hS
  obtain ⟨r, pr', ln', e1, h⟩ := q_opGive hX (q_b2 ht hB) (q_b1 ht) (q_b5 ht) x y u
  unfold f_X9_give
  rw [hN, Option.bind_some, e1, Option.bind_some]
  rcases h with ⟨hr, rfl, rfl, hm⟩ | ⟨hr, z', hX', hm⟩
  · refine ⟨r, st, (rows, hi.2), z, ?_, hm gw_0 gw_0 gw_0 gw_0 0 gw_0 1, hS.mono (Nat.le_succ B), hH1, fun w => absurd hr w⟩
    rw [q_rec_neg hr, Option.bind_some]
  · obtain ⟨no, sa, k2, k3, m0, k0, a1, a2, a3, a4, a5, a6⟩ := hH1.keep
    refine ⟨r, ((pr', ln', st.1.2.2), st.2), (rows, no, sa), z', ?_, ?_, ⟨⟨n + 1, k, t, hX'.mono (Nat.le_refl _) q_b6, ht, hb, hd⟩, fun i hi => ⟨(hS2 i hi).1, (hS2 i hi).2.1, fun y => ((hS2 i hi).2.2 y).mono (Nat.le_succ B)⟩⟩, k3 rows, fun _ => ⟨m0, k0, a1, a3, a4, a5, a6, (hrow m0 a1 a2).mono (Nat.le_succ B)⟩⟩
    · rw [q_rec_pos hr k2, Option.bind_some]
    · rw [hm gw_0 gw_0 gw_0 gw_0 0 gw_0 1, gw_rec1]
      rfl
theorem gw_o_move {B : Nat} {st : VX6} {hi : VX2} {z : Nat → Int32} (hS : q_S B st z gw_0 gw_0) (hH : gw_H hi) (hB : B ≤ 400000000) (x y : Int32) : ∃ r st' hi' z', f_X9_move x y st hi = some (r, st', hi') ∧ f_X10_move x y z gw_0 gw_0 gw_0 gw_0 0 gw_0 1 = some (r, z', gw_0, gw_0, 0) ∧ q_S (B + 1) st' z' gw_0 gw_0 ∧ gw_H hi' ∧ (¬ r < 0 → ∃ m k, m < 6 ∧ hi'.2.1 = nI ((m + 1) % 6) ∧ 1 ≤ k ∧ k ≤ 5 ∧ hi'.2.2 = nI k ∧ q_S (B + 1) (hi'.1 m) z gw_0 gw_0) := by
  obtain ⟨rows, hN, hH1, hrow⟩ := hH.note hS
  obtain ⟨⟨n, k, t, hX, ht, hb, hd⟩, hS2⟩ := id hS
  obtain ⟨r, pr', ln', e1, h⟩ := q_opMove hX (q_b2 ht hB) (q_b1 ht) (q_b5 ht) x y
  unfold f_X9_move
  rw [hN, Option.bind_some, e1, Option.bind_some]
  rcases h with ⟨hr, rfl, rfl, hm⟩ | ⟨hr, z', hX', hm⟩
  · refine ⟨r, st, (rows, hi.2), z, ?_, hm gw_0 gw_0 gw_0 gw_0 0 gw_0 1, hS.mono (Nat.le_succ B), hH1, fun w => absurd hr w⟩
    rw [q_rec_neg hr, Option.bind_some]
  · obtain ⟨no, sa, k2, k3, m0, k0, a1, a2, a3, a4, a5, a6⟩ := hH1.keep
    refine ⟨r, ((pr', ln', st.1.2.2), st.2), (rows, no, sa), z', ?_, ?_, ⟨⟨n, k, t, hX'.mono (Nat.le_refl _) q_b6, ht, hb, hd⟩, fun i hi => ⟨(hS2 i hi).1, (hS2 i hi).2.1, fun y => ((hS2 i hi).2.2 y).mono (Nat.le_succ B)⟩⟩, k3 rows, fun _ => ⟨m0, k0, a1, a3, a4, a5, a6, (hrow m0 a1 a2).mono (Nat.le_succ B)⟩⟩
    · rw [q_rec_pos hr k2, Option.bind_some]
    · rw [hm gw_0 gw_0 gw_0 gw_0 0 gw_0 1, gw_rec1]
      rfl
theorem gw_o_break {B : Nat} {st : VX6} {hi : VX2} {z : Nat → Int32} (hS : q_S B st z gw_0 gw_0) (hH : gw_H hi) (hB : B ≤ 400000000) (x : Int32) : ∃ r st' hi' z', f_X9_breakOff x st hi = some (r, st', hi') ∧ f_X10_breakOff x z gw_0 gw_0 gw_0 gw_0 0 gw_0 1 = some (r, z', gw_0, gw_0, 0) ∧ q_S (B + 1) st' z' gw_0 gw_0 ∧ gw_H hi' ∧ (¬ r < 0 → ∃ m k, m < 6 ∧ hi'.2.1 = nI ((m + 1) % 6) ∧ 1 ≤ k ∧ k ≤ 5 ∧ hi'.2.2 = nI k ∧ q_S (B + 1) (hi'.1 m) z gw_0 gw_0) := by
  obtain ⟨rows, hN, hH1, hrow⟩ := hH.note hS
  obtain ⟨⟨n, k, t, hX, ht, hb, hd⟩, hS2⟩ := id hS
  obtain ⟨r, pr', br', e1, h⟩ := q_opBreak hX x
  unfold f_X9_breakOff
  rw [hN, Option.bind_some, e1, Option.bind_some]
  rcases h with ⟨hr, rfl, rfl, hm⟩ | ⟨hr, z', hX', hm⟩
  · refine ⟨r, st, (rows, hi.2), z, ?_, hm gw_0 gw_0 gw_0 gw_0 0 gw_0 1, hS.mono (Nat.le_succ B), hH1, fun w => absurd hr w⟩
    rw [q_rec_neg hr, Option.bind_some]
  · obtain ⟨no, sa, k2, k3, m0, k0, a1, a2, a3, a4, a5, a6⟩ := hH1.keep
    refine ⟨r, ((pr', st.1.2.1, st.1.2.2.1, st.1.2.2.2.1, st.1.2.2.2.2.1, st.1.2.2.2.2.2.1, st.1.2.2.2.2.2.2.1, br', st.1.2.2.2.2.2.2.2.2), st.2), (rows, no, sa), z', ?_, ?_, ⟨⟨n, k, t, hX'.mono (Nat.le_refl _) q_b7, ht, hb, hd⟩, fun i hi => ⟨(hS2 i hi).1, (hS2 i hi).2.1, fun y => ((hS2 i hi).2.2 y).mono (Nat.le_succ B)⟩⟩, k3 rows, fun _ => ⟨m0, k0, a1, a3, a4, a5, a6, (hrow m0 a1 a2).mono (Nat.le_succ B)⟩⟩
    · rw [q_rec_pos hr k2, Option.bind_some]
    · rw [hm gw_0 gw_0 gw_0 gw_0 0 gw_0 1, gw_rec1]
      rfl
theorem gw_o_sweep {B : Nat} {st : VX6} {hi : VX2} {z : Nat → Int32} (hS : q_S B st z gw_0 gw_0) (hH : gw_H hi) (hB : B ≤ 400000000) : ∃ r st' hi' z', f_X9_sweep  st hi = some (r, st', hi') ∧ f_X10_sweep  z gw_0 gw_0 gw_0 gw_0 0 gw_0 1 = some (r, z', gw_0, gw_0, 0) ∧ q_S (B + 1) st' z' gw_0 gw_0 ∧ gw_H hi' ∧ (¬ r < 0 → ∃ m k, m < 6 ∧ hi'.2.1 = nI ((m + 1) % 6) ∧ 1 ≤ k ∧ k ≤ 5 ∧ hi'.2.2 = nI k ∧ q_S (B + 1) (hi'.1 m) z gw_0 gw_0) := by
  obtain ⟨rows, hN, hH1, hrow⟩ := hH.note hS
  obtain ⟨⟨n, k, t, hX, ht, hb, hd⟩, hS2⟩ := id hS
  obtain ⟨r, pr', ln', br', sw', e1, h⟩ := q_opSweep hX 
  unfold f_X9_sweep
  rw [hN, Option.bind_some, e1, Option.bind_some]
  obtain ⟨hr, z', hX', hm⟩ := h
  obtain ⟨no, sa, k2, k3, m0, k0, a1, a2, a3, a4, a5, a6⟩ := hH1.keep
  refine ⟨r, ((pr', ln', st.1.2.2.1, st.1.2.2.2.1, st.1.2.2.2.2.1, st.1.2.2.2.2.2.1, st.1.2.2.2.2.2.2.1, br', st.1.2.2.2.2.2.2.2.2.1, st.1.2.2.2.2.2.2.2.2.2.1, sw', st.1.2.2.2.2.2.2.2.2.2.2.2), st.2), (rows, no, sa), z', ?_, ?_, ⟨⟨n, k, t, hX'.mono (Nat.le_refl _) q_b7, ht, hb, hd⟩, fun i hi => ⟨(hS2 i hi).1, (hS2 i hi).2.1, fun y => ((hS2 i hi).2.2 y).mono (Nat.le_succ B)⟩⟩, k3 rows, fun _ => ⟨m0, k0, a1, a3, a4, a5, a6, (hrow m0 a1 a2).mono (Nat.le_succ B)⟩⟩
  · rw [q_rec_pos hr k2, Option.bind_some]
  · rw [hm gw_0 gw_0 gw_0 gw_0 0 gw_0 1, gw_rec1]
    rfl
theorem gw_o_set {B : Nat} {st : VX6} {hi : VX2} {z : Nat → Int32} (hS : q_S B st z gw_0 gw_0) (hH : gw_H hi) (hB : B ≤ 400000000) (x y : Int32) : ∃ r st' hi' z', f_X9_set x y st hi = some (r, st', hi') ∧ f_X10_set x y z gw_0 gw_0 gw_0 gw_0 0 gw_0 1 = some (r, z', gw_0, gw_0, 0) ∧ q_S (B + 1) st' z' gw_0 gw_0 ∧ gw_H hi' ∧ (¬ r < 0 → ∃ m k, m < 6 ∧ hi'.2.1 = nI ((m + 1) % 6) ∧ 1 ≤ k ∧ k ≤ 5 ∧ hi'.2.2 = nI k ∧ q_S (B + 1) (hi'.1 m) z gw_0 gw_0) := by
  obtain ⟨rows, hN, hH1, hrow⟩ := hH.note hS
  obtain ⟨⟨n, k, t, hX, ht, hb, hd⟩, hS2⟩ := id hS
  obtain ⟨r, ro, bo, dr, e1, h⟩ := q_opSet hX hb hd x y
  unfold f_X9_set
  rw [hN, Option.bind_some, e1, Option.bind_some]
  rcases h with ⟨hr, rfl, rfl, rfl, hm⟩ | ⟨hr, hb', hd', z', hX', hm⟩
  · refine ⟨r, st, (rows, hi.2), z, ?_, hm gw_0 gw_0 gw_0 gw_0 0 gw_0 1, hS.mono (Nat.le_succ B), hH1, fun w => absurd hr w⟩
    rw [q_rec_neg hr, Option.bind_some]
  · obtain ⟨no, sa, k2, k3, m0, k0, a1, a2, a3, a4, a5, a6⟩ := hH1.keep
    refine ⟨r, ((st.1.1, st.1.2.1, st.1.2.2.1, st.1.2.2.2.1, ro, bo, dr, st.1.2.2.2.2.2.2.2), st.2), (rows, no, sa), z', ?_, ?_, ⟨⟨n, k, t, hX'.mono (Nat.le_refl _) q_b7, ht, hb', hd'⟩, fun i hi => ⟨(hS2 i hi).1, (hS2 i hi).2.1, fun y => ((hS2 i hi).2.2 y).mono (Nat.le_succ B)⟩⟩, k3 rows, fun _ => ⟨m0, k0, a1, a3, a4, a5, a6, (hrow m0 a1 a2).mono (Nat.le_succ B)⟩⟩
    · rw [q_rec_pos hr k2, Option.bind_some]
    · rw [hm gw_0 gw_0 gw_0 gw_0 0 gw_0 1, gw_rec1]
      rfl
theorem gw_o_pass {B : Nat} {st : VX6} {hi : VX2} {z : Nat → Int32} (hS : q_S B st z gw_0 gw_0) (hH : gw_H hi) (hB : B ≤ 400000000) (x : Int32) : ∃ r st' hi' z', f_X9_pass x st hi = some (r, st', hi') ∧ f_X10_pass x z gw_0 gw_0 gw_0 gw_0 0 gw_0 1 = some (r, z', gw_0, gw_0, 0) ∧ q_S (B + 1) st' z' gw_0 gw_0 ∧ gw_H hi' ∧ (¬ r < 0 → ∃ m k, m < 6 ∧ hi'.2.1 = nI ((m + 1) % 6) ∧ 1 ≤ k ∧ k ≤ 5 ∧ hi'.2.2 = nI k ∧ q_S (B + 1) (hi'.1 m) z gw_0 gw_0) := by
  obtain ⟨rows, hN, hH1, hrow⟩ := hH.note hS
  obtain ⟨⟨n, k, t, hX, ht, hb, hd⟩, hS2⟩ := id hS
  obtain ⟨⟨r, pr', ln', dy', now', br', lt', fl', sw', ps', lo'⟩, e1, h⟩ := q_opPass hX (q_b3 ht hB) (q_b4 ht) ht x
  unfold f_X9_pass
  rw [hN, Option.bind_some, e1, Option.bind_some]
  rcases h with ⟨hr, he, hm⟩ | ⟨hr, hq⟩
  · simp only [Prod.mk.injEq] at he
    obtain ⟨-, rfl, rfl, rfl, rfl, rfl, rfl, rfl, rfl, rfl, rfl⟩ := he
    refine ⟨r, st, (rows, hi.2), z, ?_, hm gw_0 gw_0 gw_0 gw_0 0 gw_0 1, hS.mono (Nat.le_succ B), hH1, fun w => absurd hr w⟩
    rw [q_rec_neg hr, Option.bind_some]
  · obtain ⟨z', m, htm, hX', hm⟩ := hq gw_0 gw_0 gw_0 gw_0 0 gw_0 1
    obtain ⟨no, sa, k2, k3, m0, k0, a1, a2, a3, a4, a5, a6⟩ := hH1.keep
    refine ⟨r, ((pr', ln', dy', now', st.1.2.2.2.2.1, st.1.2.2.2.2.2.1, st.1.2.2.2.2.2.2.1, br', lt', fl', sw', ps', lo'), st.2), (rows, no, sa), z', ?_, ?_, ⟨⟨n, k, t + m, hX'.mono q_b8 q_b9, htm, hb, hd⟩, fun i hi => ⟨(hS2 i hi).1, (hS2 i hi).2.1, fun y => ((hS2 i hi).2.2 y).mono (Nat.le_succ B)⟩⟩, k3 rows, fun _ => ⟨m0, k0, a1, a3, a4, a5, a6, (hrow m0 a1 a2).mono (Nat.le_succ B)⟩⟩
    · rw [q_rec_pos hr k2, Option.bind_some]
    · rw [hm, gw_rec1]
      rfl
