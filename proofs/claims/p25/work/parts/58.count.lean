/-! PURE PART: looking: count -/
theorem q_snaps {B : Nat} {st : VX6} {z sn hs : Nat → Int32} (hS : q_S B st z sn hs) : ∃ r, f_X6_snapshotsTaken st.2.2 = some r ∧ f_X10_snapshots hs = some r := by
  obtain ⟨a1, a2, -⟩ := hS.2 0 (by omega)
  obtain ⟨b1, b2, -⟩ := hS.2 1 (by omega)
  have l := q_scan (n := 2) (F := F_X6_snapshotsTaken_4 st.2.2) (fun m => (if m = 0 then 0 else if m = 1 then (if hs 0 = 0 then 0 else 1) else if hs 1 = 0 then (if hs 0 = 0 then 0 else 1) else (if hs 0 = 0 then 0 else 1) + 1, nI m)) (some (if hs 1 = 0 then (if hs 0 = 0 then 0 else 1) else (if hs 0 = 0 then 0 else 1) + 1)) (fun k m hm => by
    unfold F_X6_snapshotsTaken_4 f_X6_snapshotsTaken_21
    rcases (show m = 0 ∨ m = 1 by omega) with rfl | rfl
    · simp (disch := omega) only [if_neg (show ¬ (2 : Int32) ≤ nI 0 by decide), q_ck, q_cl, nI_1, a1, ↓reduceIte, if_neg (show ¬ (0 + 1 = 0) by decide), if_pos (show 0 + 1 = 1 from rfl)]
      by_cases c : hs 0 = 0
      · rw [if_pos c, if_pos c]
      · rw [if_neg c, if_neg c]
        rfl
    · simp (disch := omega) only [if_neg (show ¬ (2 : Int32) ≤ nI 1 by decide), q_ck, q_cl, nI_1, b1, if_neg (show ¬ (1 = 0) by decide), ↓reduceIte, if_neg (show ¬ (1 + 1 = 0) by decide), if_neg (show ¬ (1 + 1 = 1) by decide)]
      by_cases c : hs 1 = 0
      · rw [if_pos c, if_pos c]
      · rw [if_neg c, if_neg c]) (fun k => by
    unfold F_X6_snapshotsTaken_4
    simp only [if_pos (show (2 : Int32) ≤ nI 2 by decide), if_neg (show ¬ (2 = 0) by decide), if_neg (show ¬ (2 = 1) by decide)]) 2 0 zk_N (by omega) (by unfold zk_N; omega)
  refine ⟨_, l, ?_⟩
  unfold f_X10_snapshots f_X10_snapshots_14
  rw [q_k (i := 0) (N := 2) (by decide), q_k (i := 1) (N := 2) (by decide), q_n0, q_n1]
  by_cases c : hs 0 = 0
  · by_cases d : hs 1 = 0
    · simp only [if_pos c, if_pos d]
    · simp only [if_pos c, if_neg d]
  · by_cases d : hs 1 = 0
    · simp only [if_neg c, if_pos d, q_k (i := 1) (N := 2) (by decide)]
    · simp only [if_neg c, if_neg d, q_k (i := 1) (N := 2) (by decide)]
theorem q_c_count {B : Nat} {st : VX6} {hi : VX2} {pg : VX4} {z sn hs pa ph : Nat → Int32} {pm typed : Int32} (hS : q_S B st z sn hs) (hH : q_H B hi pa ph pm) (hT : pg.1.2.1 = typed) (x : Int32) : ∃ r, f_X9_count x st hi pg = some r ∧ f_X10_count x z hs pm typed = some r := by
  by_cases c1 : x < 0
  · refine ⟨-1, ?_, ?_⟩
    · unfold f_X9_count
      rw [if_pos c1]
    · unfold f_X10_count
      rw [if_pos c1]
  by_cases c2 : ¬ x ≤ 16
  · refine ⟨-1, ?_, ?_⟩
    · unfold f_X9_count
      rw [if_neg c1, if_neg c2]
    · unfold f_X10_count
      rw [if_neg c1, if_neg c2]
  have c2 := Classical.not_not.mp c2
  obtain ⟨b, hb, rfl⟩ := nI_of2 (M := 16) (n := 16) rfl c1 c2
  obtain ⟨m, h, -, -, -, hh, hp, -⟩ := hH
  unfold f_X9_count
  rw [if_neg c1, if_pos c2]
  by_cases h1 : b = 11
  · subst h1
    obtain ⟨r, k1, k2⟩ := q_snaps hS
    refine ⟨r, by rw [if_pos (show nI 11 = 11 from rfl), k1, Option.bind_some], ?_⟩
    unfold f_X10_count
    simp only [if_neg (show ¬ nI 11 = 0 by decide), if_neg (show ¬ nI 11 = 1 by decide), if_neg (show ¬ nI 11 = 2 by decide), if_neg (show ¬ nI 11 = 3 by decide), if_neg (show ¬ nI 11 = 4 by decide), if_neg (show ¬ nI 11 = 5 by decide), if_neg (show ¬ nI 11 = 6 by decide), if_neg (show ¬ nI 11 = 7 by decide), if_neg (show ¬ nI 11 = 8 by decide), if_neg (show ¬ nI 11 = 9 by decide), if_neg (show ¬ nI 11 = 10 by decide), if_pos (show nI 11 = 11 from rfl), k2, Option.bind_some, if_neg c1, if_pos c2]
  by_cases h2 : b = 12
  · subst h2
    refine ⟨pm, ?_, ?_⟩
    · unfold f_X2_size
      rw [if_neg (show ¬ nI 12 = 11 by decide), if_pos (show nI 12 = 12 from rfl), Option.bind_some, hh, hp]
    · unfold f_X10_count
      simp only [if_neg (show ¬ nI 12 = 0 by decide), if_neg (show ¬ nI 12 = 1 by decide), if_neg (show ¬ nI 12 = 2 by decide), if_neg (show ¬ nI 12 = 3 by decide), if_neg (show ¬ nI 12 = 4 by decide), if_neg (show ¬ nI 12 = 5 by decide), if_neg (show ¬ nI 12 = 6 by decide), if_neg (show ¬ nI 12 = 7 by decide), if_neg (show ¬ nI 12 = 8 by decide), if_neg (show ¬ nI 12 = 9 by decide), if_neg (show ¬ nI 12 = 10 by decide), if_neg (show ¬ nI 12 = 11 by decide), if_pos (show nI 12 = 12 from rfl), if_neg c1, if_pos c2]
  by_cases h3 : b = 13
  · subst h3
    refine ⟨typed, ?_, ?_⟩
    · unfold f_X7_length
      rw [if_neg (show ¬ nI 13 = 11 by decide), if_neg (show ¬ nI 13 = 12 by decide), if_pos (show nI 13 = 13 from rfl), Option.bind_some, hT]
    · unfold f_X10_count
      simp only [if_neg (show ¬ nI 13 = 0 by decide), if_neg (show ¬ nI 13 = 1 by decide), if_neg (show ¬ nI 13 = 2 by decide), if_neg (show ¬ nI 13 = 3 by decide), if_neg (show ¬ nI 13 = 4 by decide), if_neg (show ¬ nI 13 = 5 by decide), if_neg (show ¬ nI 13 = 6 by decide), if_neg (show ¬ nI 13 = 7 by decide), if_neg (show ¬ nI 13 = 8 by decide), if_neg (show ¬ nI 13 = 9 by decide), if_neg (show ¬ nI 13 = 10 by decide), if_neg (show ¬ nI 13 = 11 by decide), if_neg (show ¬ nI 13 = 12 by decide), if_pos (show nI 13 = 13 from rfl), if_neg c1, if_pos c2]
  obtain ⟨n, k, t, ⟨L, c, T', hV, -⟩, -⟩ := hS.1
  obtain ⟨r, k1, k2⟩ := q_figure (ln := st.1.2.1) hV hs pm typed hb h1 h2 h3
  have d1 : ¬ nI b = 11 := fun y => h1 ((nI_eq (b := 11) (by omega) (by omega)).mp y)
  have d2 : ¬ nI b = 12 := fun y => h2 ((nI_eq (b := 12) (by omega) (by omega)).mp y)
  have d3 : ¬ nI b = 13 := fun y => h3 ((nI_eq (b := 13) (by omega) (by omega)).mp y)
  exact ⟨r, by rw [if_neg d1, if_neg d2, if_neg d3, k1, Option.bind_some], k2⟩
