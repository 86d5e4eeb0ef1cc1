/-! PURE PART: the calls that are kept in the history -/
theorem q_rec_neg {r : Int32} {hi : VX2} (h : r < 0) : f_X9_recorded r hi = some (r, hi) := if_pos h
theorem q_rec_pos {r no sa : Int32} {hi : VX2} (h : ¬ r < 0) (hk : f_X2_keepNoted hi.2.1 hi.2.2 = some (no, sa)) : f_X9_recorded r hi = some (r, (hi.1, no, sa)) := by
  unfold f_X9_recorded
  rw [if_neg h, hk, Option.bind_some]
theorem q_b1 {t : Nat} (h : t ≤ 20000) : 21200 + 511 * (20 * t) < 2 ^ 29 := by omega
theorem q_b2 {t B : Nat} (h : t ≤ 20000) (hB : B ≤ 400000000) : 200 * t + B < 2 ^ 29 := by omega
theorem q_b3 {t B : Nat} (h : t ≤ 20000) (hB : B ≤ 400000000) : 200 * t + B < 500000000 := by omega
theorem q_b4 {t : Nat} (h : t ≤ 20000) : 20 * t ≤ 500000 := by omega
theorem q_b5 {t : Nat} (h : t ≤ 20000) : t ≤ 20600 := by omega
theorem q_b6 {t B : Nat} : 200 * t + B + 1 ≤ 200 * t + (B + 1) := by omega
theorem q_b7 {t B : Nat} : 200 * t + B ≤ 200 * t + (B + 1) := by omega
theorem q_b8 {t m : Nat} : 20 * t + 20 * m ≤ 20 * (t + m) := by omega
theorem q_b9 {t m B : Nat} : 200 * t + B + 140 * m ≤ 200 * (t + m) + (B + 1) := by omega

theorem q_c_give {B : Nat} {st : VX6} {hi : VX2} {z sn hs pa ph : Nat → Int32} {pm : Int32} (be : Nat → Int32) (hS : q_S B st z sn hs) (hH : q_H B hi pa ph pm) (hB : B ≤ 400000000) (x y u : Int32) : ∃ r st' hi' z' pa' ph' pm', f_X9_give x y u st hi = some (r, st', hi') ∧ f_X10_give x y u z sn hs pa ph pm be 0 = some (r, z', pa', ph', pm') ∧ q_S (B + 1) st' z' sn hs ∧ q_H (B + 1) hi' pa' ph' pm' := by
  obtain ⟨rows, hN, hH1, hrow⟩ := hH.note hS
  obtain ⟨⟨n, k, t, hX, ht, hb, hd⟩, hS2⟩ := id hS
  obtain ⟨r, pr', ln', e1, h⟩ := q_opGive hX (q_b2 ht hB) (q_b1 ht) (q_b5 ht) x y u
  unfold f_X9_give
  rw [hN, Option.bind_some, e1, Option.bind_some]
  rcases h with ⟨hr, rfl, rfl, hm⟩ | ⟨hr, z', hX', hm⟩
  · refine ⟨r, st, (rows, hi.2), z, pa, ph, pm, ?_, hm sn hs pa ph pm be 0, hS.mono (Nat.le_succ B), hH1.mono (Nat.le_succ B)⟩
    rw [q_rec_neg hr, Option.bind_some]
  · obtain ⟨pa', ph', pm', no, sa, k1, k2, k3⟩ := hH1.record hrow be
    refine ⟨r, ((pr', ln', st.1.2.2), st.2), (rows, no, sa), z', pa', ph', pm', ?_, ?_, ⟨⟨n + 1, k, t, hX'.mono (Nat.le_refl _) q_b6, ht, hb, hd⟩, fun i hi => ⟨(hS2 i hi).1, (hS2 i hi).2.1, fun y => ((hS2 i hi).2.2 y).mono (Nat.le_succ B)⟩⟩, k3.mono (Nat.le_succ B)⟩
    · rw [q_rec_pos hr k2, Option.bind_some]
    · rw [hm sn hs pa ph pm be 0, k1]
      rfl
theorem q_c_move {B : Nat} {st : VX6} {hi : VX2} {z sn hs pa ph : Nat → Int32} {pm : Int32} (be : Nat → Int32) (hS : q_S B st z sn hs) (hH : q_H B hi pa ph pm) (hB : B ≤ 400000000) (x y : Int32) : ∃ r st' hi' z' pa' ph' pm', f_X9_move x y st hi = some (r, st', hi') ∧ f_X10_move x y z sn hs pa ph pm be 0 = some (r, z', pa', ph', pm') ∧ q_S (B + 1) st' z' sn hs ∧ q_H (B + 1) hi' pa' ph' pm' := by
  obtain ⟨rows, hN, hH1, hrow⟩ := hH.note hS
  obtain ⟨⟨n, k, t, hX, ht, hb, hd⟩, hS2⟩ := id hS
  obtain ⟨r, pr', ln', e1, h⟩ := q_opMove hX (q_b2 ht hB) (q_b1 ht) (q_b5 ht) x y
  unfold f_X9_move
  rw [hN, Option.bind_some, e1, Option.bind_some]
  rcases h with ⟨hr, rfl, rfl, hm⟩ | ⟨hr, z', hX', hm⟩
  · refine ⟨r, st, (rows, hi.2), z, pa, ph, pm, ?_, hm sn hs pa ph pm be 0, hS.mono (Nat.le_succ B), hH1.mono (Nat.le_succ B)⟩
    rw [q_rec_neg hr, Option.bind_some]
  · obtain ⟨pa', ph', pm', no, sa, k1, k2, k3⟩ := hH1.record hrow be
    refine ⟨r, ((pr', ln', st.1.2.2), st.2), (rows, no, sa), z', pa', ph', pm', ?_, ?_, ⟨⟨n, k, t, hX'.mono (Nat.le_refl _) q_b6, ht, hb, hd⟩, fun i hi => ⟨(hS2 i hi).1, (hS2 i hi).2.1, fun y => ((hS2 i hi).2.2 y).mono (Nat.le_succ B)⟩⟩, k3.mono (Nat.le_succ B)⟩
    · rw [q_rec_pos hr k2, Option.bind_some]
    · rw [hm sn hs pa ph pm be 0, k1]
      rfl
theorem q_c_break {B : Nat} {st : VX6} {hi : VX2} {z sn hs pa ph : Nat → Int32} {pm : Int32} (be : Nat → Int32) (hS : q_S B st z sn hs) (hH : q_H B hi pa ph pm) (hB : B ≤ 400000000) (x : Int32) : ∃ r st' hi' z' pa' ph' pm', f_X9_breakOff x st hi = some (r, st', hi') ∧ f_X10_breakOff x z sn hs pa ph pm be 0 = some (r, z', pa', ph', pm') ∧ q_S (B + 1) st' z' sn hs ∧ q_H (B + 1) hi' pa' ph' pm' := by
  obtain ⟨rows, hN, hH1, hrow⟩ := hH.note hS
  obtain ⟨⟨n, k, t, hX, ht, hb, hd⟩, hS2⟩ := id hS
  obtain ⟨r, pr', br', e1, h⟩ := q_opBreak hX x
  unfold f_X9_breakOff
  rw [hN, Option.bind_some, e1, Option.bind_some]
  rcases h with ⟨hr, rfl, rfl, hm⟩ | ⟨hr, z', hX', hm⟩
  · refine ⟨r, st, (rows, hi.2), z, pa, ph, pm, ?_, hm sn hs pa ph pm be 0, hS.mono (Nat.le_succ B), hH1.mono (Nat.le_succ B)⟩
    rw [q_rec_neg hr, Option.bind_some]
  · obtain ⟨pa', ph', pm', no, sa, k1, k2, k3⟩ := hH1.record hrow be
    refine ⟨r, ((pr', st.1.2.1, st.1.2.2.1, st.1.2.2.2.1, st.1.2.2.2.2.1, st.1.2.2.2.2.2.1, st.1.2.2.2.2.2.2.1, br', st.1.2.2.2.2.2.2.2.2), st.2), (rows, no, sa), z', pa', ph', pm', ?_, ?_, ⟨⟨n, k, t, hX'.mono (Nat.le_refl _) q_b7, ht, hb, hd⟩, fun i hi => ⟨(hS2 i hi).1, (hS2 i hi).2.1, fun y => ((hS2 i hi).2.2 y).mono (Nat.le_succ B)⟩⟩, k3.mono (Nat.le_succ B)⟩
    · rw [q_rec_pos hr k2, Option.bind_some]
    · rw [hm sn hs pa ph pm be 0, k1]
      rfl
theorem q_c_sweep {B : Nat} {st : VX6} {hi : VX2} {z sn hs pa ph : Nat → Int32} {pm : Int32} (be : Nat → Int32) (hS : q_S B st z sn hs) (hH : q_H B hi pa ph pm) (hB : B ≤ 400000000) : ∃ r st' hi' z' pa' ph' pm', f_X9_sweep  st hi = some (r, st', hi') ∧ f_X10_sweep  z sn hs pa ph pm be 0 = some (r, z', pa', ph', pm') ∧ q_S (B + 1) st' z' sn hs ∧ q_H (B + 1) hi' pa' ph' pm' := by
  obtain ⟨rows, hN, hH1, hrow⟩ := hH.note hS
  obtain ⟨⟨n, k, t, hX, ht, hb, hd⟩, hS2⟩ := id hS
  obtain ⟨r, pr', ln', br', sw', e1, h⟩ := q_opSweep hX 
  unfold f_X9_sweep
  rw [hN, Option.bind_some, e1, Option.bind_some]
  obtain ⟨hr, z', hX', hm⟩ := h
  obtain ⟨pa', ph', pm', no, sa, k1, k2, k3⟩ := hH1.record hrow be
  refine ⟨r, ((pr', ln', st.1.2.2.1, st.1.2.2.2.1, st.1.2.2.2.2.1, st.1.2.2.2.2.2.1, st.1.2.2.2.2.2.2.1, br', st.1.2.2.2.2.2.2.2.2.1, st.1.2.2.2.2.2.2.2.2.2.1, sw', st.1.2.2.2.2.2.2.2.2.2.2.2), st.2), (rows, no, sa), z', pa', ph', pm', ?_, ?_, ⟨⟨n, k, t, hX'.mono (Nat.le_refl _) q_b7, ht, hb, hd⟩, fun i hi => ⟨(hS2 i hi).1, (hS2 i hi).2.1, fun y => ((hS2 i hi).2.2 y).mono (Nat.le_succ B)⟩⟩, k3.mono (Nat.le_succ B)⟩
  · rw [q_rec_pos hr k2, Option.bind_some]
  · rw [hm sn hs pa ph pm be 0, k1]
    rfl
theorem q_c_set {B : Nat} {st : VX6} {hi : VX2} {z sn hs pa ph : Nat → Int32} {pm : Int32} (be : Nat → Int32) (hS : q_S B st z sn hs) (hH : q_H B hi pa ph pm) (hB : B ≤ 400000000) (x y : Int32) : ∃ r st' hi' z' pa' ph' pm', f_X9_set x y st hi = some (r, st', hi') ∧ f_X10_set x y z sn hs pa ph pm be 0 = some (r, z', pa', ph', pm') ∧ q_S (B + 1) st' z' sn hs ∧ q_H (B + 1) hi' pa' ph' pm' := by
  obtain ⟨rows, hN, hH1, hrow⟩ := hH.note hS
  obtain ⟨⟨n, k, t, hX, ht, hb, hd⟩, hS2⟩ := id hS
  obtain ⟨r, ro, bo, dr, e1, h⟩ := q_opSet hX hb hd x y
  unfold f_X9_set
  rw [hN, Option.bind_some, e1, Option.bind_some]
  rcases h with ⟨hr, rfl, rfl, rfl, hm⟩ | ⟨hr, hb', hd', z', hX', hm⟩
  · refine ⟨r, st, (rows, hi.2), z, pa, ph, pm, ?_, hm sn hs pa ph pm be 0, hS.mono (Nat.le_succ B), hH1.mono (Nat.le_succ B)⟩
    rw [q_rec_neg hr, Option.bind_some]
  · obtain ⟨pa', ph', pm', no, sa, k1, k2, k3⟩ := hH1.record hrow be
    refine ⟨r, ((st.1.1, st.1.2.1, st.1.2.2.1, st.1.2.2.2.1, ro, bo, dr, st.1.2.2.2.2.2.2.2), st.2), (rows, no, sa), z', pa', ph', pm', ?_, ?_, ⟨⟨n, k, t, hX'.mono (Nat.le_refl _) q_b7, ht, hb', hd'⟩, fun i hi => ⟨(hS2 i hi).1, (hS2 i hi).2.1, fun y => ((hS2 i hi).2.2 y).mono (Nat.le_succ B)⟩⟩, k3.mono (Nat.le_succ B)⟩
    · rw [q_rec_pos hr k2, Option.bind_some]
    · rw [hm sn hs pa ph pm be 0, k1]
      rfl
