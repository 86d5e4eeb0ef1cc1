/-! PURE PART: the start, and the whole law -/
theorem q_fill {n : Nat} (hn : n ≤ 100) (x : Int32) (f : Nat → Int32) : ∃ g, f_J7_fill n x f = some g ∧ ∀ k, k < n → g k = x := by
  unfold f_J7_fill
  refine q_loop (n := n) (P := fun o => ∃ g : Nat → Int32, o = some g ∧ ∀ k, k < n → g k = x) (fun m (s : (Nat → Int32) × Int32) => m ≤ n ∧ s.2 = nI m ∧ ∀ k, k < m → s.1 k = x) ?_ n 0 zk_N (f, 0) (by omega) (by unfold zk_N; omega) ⟨by omega, rfl, fun k hk => absurd hk (Nat.not_lt_zero k)⟩
  intro m s hi
  obtain ⟨g, x2⟩ := s
  obtain ⟨hm, e2, hg⟩ := hi
  dsimp only at e2 hg
  subst e2
  by_cases hmn : m < n
  · left
    refine ⟨hmn, (upd g m x, nI (m + 1)), ⟨by omega, rfl, fun k hk => ?_⟩, fun kk => ?_⟩
    · dsimp only
      by_cases e : k = m
      · rw [e, pk_us]
      · rw [pk_un e]
        exact hg k (by omega)
    · unfold F_J7_fill_5
      dsimp only
      rw [if_neg (show ¬ Int32.ofNat n ≤ nI m from nI_ge hmn (by omega)), q_ck hmn (by omega), q_let, q_cl (by omega), nI_1]
  · right
    intro kk
    have e : m = n := by omega
    subst e
    refine ⟨g, ?_, hg⟩
    unfold F_J7_fill_5
    dsimp only
    rw [if_pos (show Int32.ofNat m ≤ nI m from nI_le (Nat.le_refl _) (by omega))]
/-- the model's row at the start -/
def q_Z0 (z : Nat → Int32) : Prop := z 2 = 3 ∧ z 3 = 5 ∧ (∀ p, p < 40 → z (172 + p) = -1) ∧ ∀ i, i < 368 → i ≠ 2 → i ≠ 3 → (i < 172 ∨ 212 ≤ i) → z i = 0
theorem q_wInit {z : Nat → Int32} (hz : q_Z0 z) : ∃ v, f_X8_init = some v ∧ q_R 0 20000 v z := by
  obtain ⟨h2, h3, h4, h5⟩ := hz
  obtain ⟨g1, a1, b1⟩ := q_fill (n := 25) (by omega) (-1) (fun _ => 0)
  obtain ⟨g2, a2, b2⟩ := q_fill (n := 40) (by omega) (-1) (fun _ => 0)
  refine ⟨(((fun _ => 0), 0), (g1, g1, (fun _ => 0), g2, g2), ((fun _ => 0), 0), 0, 3, 5, 0, 0, 0, 0, 0, 0, 0), ?_, ?_⟩
  · unfold f_X8_init f_X5_init f_X3_init f_X0_init
    rw [a1, a2]
    rfl
  · refine ⟨0, 0, 0, ⟨fun _ => [], 0, 0, ⟨⟨rfl, fun p hp => absurd hp (Nat.not_lt_zero p)⟩, ⟨fun p hp => absurd hp (Nat.not_lt_zero p), fun j hj => ⟨List.nodup_nil, List.Pairwise.nil, fun p hp => (by cases hp)⟩, ?_, ?_, by omega, fun i j p hi hj hp => (by cases hp)⟩, ⟨rfl, ?_, h2.symm, h3.symm, ?_, rfl, ?_, ?_, ?_, ?_, ?_⟩, ⟨rfl, ?_, fun k hk hc => absurd hc (Nat.not_lt_zero k), fun p hp => ⟨0, ?_, Nat.le_refl _⟩⟩, ⟨fun p hp => absurd hp (Nat.not_lt_zero p), fun p hp hp4 => ⟨?_, ?_⟩, fun j hj p hp => (by cases hp), fun p hp => absurd hp (Nat.not_lt_zero p)⟩, 3, h2, by omega, by omega⟩, ⟨fun j hj => ⟨rfl, b1 j hj, b1 j hj, List.nodup_nil, fun p hp => (by cases hp)⟩, fun p hp _ => b2 p hp⟩, ⟨by omega, by omega⟩, by omega⟩, by omega, ?_, ?_⟩
    · exact h5 11 (by omega) (by omega) (by omega) (by omega)
    · exact h5 1 (by omega) (by omega) (by omega) (by omega)
    · exact h5 0 (by omega) (by omega) (by omega) (by omega)
    · exact (h5 4 (by omega) (by omega) (by omega) (by omega)).symm
    · exact (h5 6 (by omega) (by omega) (by omega) (by omega)).symm
    · exact (h5 7 (by omega) (by omega) (by omega) (by omega)).symm
    · exact (h5 8 (by omega) (by omega) (by omega) (by omega)).symm
    · exact (h5 9 (by omega) (by omega) (by omega) (by omega)).symm
    · exact (h5 10 (by omega) (by omega) (by omega) (by omega)).symm
    · exact h5 5 (by omega) (by omega) (by omega) (by omega)
    · exact h5 (252 + p) (by omega) (by omega) (by omega) (by omega)
    · exact h5 (252 + p) (by omega) (by omega) (by omega) (by omega)
    · exact h5 (292 + p) (by omega) (by omega) (by omega) (by omega)
    · show ¬ (5 : Int32) < 0
      decide
    · show ¬ (0 : Int32) < 0
      decide
