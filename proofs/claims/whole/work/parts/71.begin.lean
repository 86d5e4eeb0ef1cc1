/-! PURE PART: the start, and the whole law -/
theorem q_fill {n : Nat} (hn : n ≤ 100) (x : Int32) (f : Nat → Int32) : ∃ g, f_J7_fill n x f = some g ∧ ∀ k, k < n → g k = x := by
  unfold f_J7_fill
  refine q_loop (n := n) (P := fun o => ∃ g : Nat → Int32, o = some g ∧ ∀ k, k < n → g k = x) (fun m (s : (Nat → Int32) × Int32) => m ≤ n ∧ s.2 = nI m ∧ ∀ k, k < m → s.1 k = x) ?_ n 0 zk_N (f, 0) (by omega) (by unfold zk_N; omega) ⟨by omega, rfl, fun k hk => absurd hk (Nat.not_lt_zero k)⟩
  intro m s hi
  obtain ⟨g, x2⟩ := s
  obtain ⟨hm, e2, hg⟩ := hi
  dsimp only at e2 hg
  subst e2
  by_cases hmn : m < n
  · left
    refine ⟨hmn, (upd g m x, nI (m + 1)), ⟨by omega, rfl, fun k hk => ?_⟩, fun kk => ?_⟩
    · dsimp only
      by_cases e : k = m
      · rw [e, pk_us]
      · rw [pk_un e]
        exact hg k (by omega)
    · unfold F_J7_fill_5
      dsimp only
      rw [if_neg (show ¬ Int32.ofNat n ≤ nI m from nI_ge hmn (by omega)), q_ck hmn (by omega), q_let, q_cl (by omega), nI_1]
  · right
    intro kk
    have e : m = n := by omega
    subst e
    refine ⟨g, ?_, hg⟩
    unfold F_J7_fill_5
    dsimp only
    rw [if_pos (show Int32.ofNat m ≤ nI m from nI_le (Nat.le_refl _) (by omega))]
/-- the model's row at the start -/
def q_Z0 (z : Nat → Int32) : Prop := z 2 = 3 ∧ z 3 = 5 ∧ (∀ p, p < 40 → z (172 + p) = -1) ∧ ∀ i, i < 368 → i ≠ 2 → i ≠ 3 → (i < 172 ∨ 212 ≤ i) → z i = 0
theorem q_mInit : ∃ z, f_X10_init = some (z, (fun _ => 0), (fun _ => 0), (fun _ => 0), (fun _ => 0), 0, (fun _ => 0), (fun _ => 0), (fun _ => 0), 0, (fun _ => 0), 0, 0, 0, 0, (fun _ => 0)) ∧ q_Z0 z := by
  unfold f_X10_init
  rw [q_k2, q_let, q_k3, q_let, q_n2, q_n3]
  refine q_loop (n := 40) (P := fun o => ∃ z, o = some (z, (fun _ => 0), (fun _ => 0), (fun _ => 0), (fun _ => 0), 0, (fun _ => 0), (fun _ => 0), (fun _ => 0), 0, (fun _ => 0), 0, 0, 0, 0, (fun _ => 0)) ∧ q_Z0 z) (fun m (s : Int32 × (Nat → Int32)) => m ≤ 40 ∧ s.1 = nI m ∧ s.2 2 = 3 ∧ s.2 3 = 5 ∧ (∀ p, p < m → s.2 (172 + p) = -1) ∧ ∀ i, i < 368 → i ≠ 2 → i ≠ 3 → (i < 172 ∨ 212 ≤ i) → s.2 i = 0) ?_ 40 0 zk_N _ (by omega) (by unfold zk_N; omega) ⟨by omega, rfl, ?_, ?_, fun p hp => absurd hp (Nat.not_lt_zero p), fun i h1 h2 h3 h4 => ?_⟩
  · intro m s hi
    obtain ⟨x1, z⟩ := s
    obtain ⟨hm, e1, h2, h3, h4, h5⟩ := hi
    dsimp only at e1 h2 h3 h4 h5
    subst e1
    by_cases hmn : m < 40
    · left
      refine ⟨hmn, (nI (m + 1), upd z (172 + m) (-1)), ⟨by omega, rfl, ?_, ?_, fun p hp => ?_, fun i i1 i2 i3 i4 => ?_⟩, fun kk => ?_⟩
      · dsimp only
        rw [pk_un (by omega)]
        exact h2
      · dsimp only
        rw [pk_un (by omega)]
        exact h3
      · dsimp only
        by_cases e : p = m
        · rw [e, pk_us]
        · rw [pk_un (by omega)]
          exact h4 p (by omega)
      · dsimp only
        rw [pk_un (by omega)]
        exact h5 i i1 i2 i3 i4
      · unfold F_X10_init_102
        dsimp only
        rw [if_neg (show ¬ (40 : Int32) ≤ nI m from nI_ge (b := 40) hmn (by omega)), q_a172, q_ck (by omega) (by omega), q_let, q_cl (by omega), nI_1]
    · right
      intro kk
      have e : m = 40 := by omega
      subst e
      refine ⟨z, ?_, h2, h3, h4, h5⟩
      unfold F_X10_init_102
      dsimp only
      rw [if_pos (show (40 : Int32) ≤ nI 40 by decide)]
  · dsimp only
    rw [pk_un (by omega), pk_us]
  · dsimp only
    rw [pk_us]
  · dsimp only
    rw [pk_un h3, pk_un h2]
theorem q_wInit {z : Nat → Int32} (hz : q_Z0 z) : ∃ v, f_X8_init = some v ∧ q_R 0 20000 v z := by
  obtain ⟨h2, h3, h4, h5⟩ := hz
  obtain ⟨g1, a1, b1⟩ := q_fill (n := 25) (by omega) (-1) (fun _ => 0)
  obtain ⟨g2, a2, b2⟩ := q_fill (n := 40) (by omega) (-1) (fun _ => 0)
  refine ⟨(((fun _ => 0), 0), (g1, g1, (fun _ => 0), g2, g2), ((fun _ => 0), 0), 0, 3, 5, 0, 0, 0, 0, 0, 0, 0), ?_, ?_⟩
  · unfold f_X8_init f_X5_init f_X3_init f_X0_init
    rw [a1, a2]
    rfl
  · refine ⟨0, 0, 0, ⟨fun _ => [], 0, 0, ⟨⟨rfl, fun p hp => absurd hp (Nat.not_lt_zero p)⟩, ⟨fun p hp => absurd hp (Nat.not_lt_zero p), fun j hj => ⟨List.nodup_nil, List.Pairwise.nil, fun p hp => (by cases hp)⟩, ?_, ?_, by omega, fun i j p hi hj hp => (by cases hp)⟩, ⟨rfl, ?_, h2.symm, h3.symm, ?_, rfl, ?_, ?_, ?_, ?_, ?_⟩, ⟨rfl, ?_, fun k hk hc => absurd hc (Nat.not_lt_zero k), fun p hp => ⟨0, ?_, Nat.le_refl _⟩⟩, ⟨fun p hp => absurd hp (Nat.not_lt_zero p), fun p hp hp4 => ⟨?_, ?_⟩, fun j hj p hp => (by cases hp), fun p hp => absurd hp (Nat.not_lt_zero p)⟩, 3, h2, by omega, by omega⟩, ⟨fun j hj => ⟨rfl, b1 j hj, b1 j hj, List.nodup_nil, fun p hp => (by cases hp)⟩, fun p hp _ => b2 p hp⟩, ⟨by omega, by omega⟩, by omega⟩, by omega, ?_, ?_⟩
    · exact h5 11 (by omega) (by omega) (by omega) (by omega)
    · exact h5 1 (by omega) (by omega) (by omega) (by omega)
    · exact h5 0 (by omega) (by omega) (by omega) (by omega)
    · exact (h5 4 (by omega) (by omega) (by omega) (by omega)).symm
    · exact (h5 6 (by omega) (by omega) (by omega) (by omega)).symm
    · exact (h5 7 (by omega) (by omega) (by omega) (by omega)).symm
    · exact (h5 8 (by omega) (by omega) (by omega) (by omega)).symm
    · exact (h5 9 (by omega) (by omega) (by omega) (by omega)).symm
    · exact (h5 10 (by omega) (by omega) (by omega) (by omega)).symm
    · exact h5 5 (by omega) (by omega) (by omega) (by omega)
    · exact h5 (252 + p) (by omega) (by omega) (by omega) (by omega)
    · exact h5 (252 + p) (by omega) (by omega) (by omega) (by omega)
    · exact h5 (292 + p) (by omega) (by omega) (by omega) (by omega)
    · show ¬ (5 : Int32) < 0
      decide
    · show ¬ (0 : Int32) < 0
      decide
theorem q_init : ∃ vx vm, f_X9_init = some vx ∧ f_X10_init = some vm ∧ q_LI 0 (0, vx.1, vx.2.1, vx.2.2.1, vx.2.2.2, vm.1, vm.2.1, vm.2.2.1, vm.2.2.2.1, vm.2.2.2.2.1, vm.2.2.2.2.2.1, vm.2.2.2.2.2.2.1, vm.2.2.2.2.2.2.2.1, vm.2.2.2.2.2.2.2.2.1, vm.2.2.2.2.2.2.2.2.2.1, vm.2.2.2.2.2.2.2.2.2.2.1, vm.2.2.2.2.2.2.2.2.2.2.2.1, vm.2.2.2.2.2.2.2.2.2.2.2.2.1, vm.2.2.2.2.2.2.2.2.2.2.2.2.2.1, vm.2.2.2.2.2.2.2.2.2.2.2.2.2.2.1, vm.2.2.2.2.2.2.2.2.2.2.2.2.2.2.2) := by
  obtain ⟨z, m1, hz⟩ := q_mInit
  obtain ⟨v, w1, hv⟩ := q_wInit hz
  have s1 : f_X6_init = some (v, (fun i => if i = 0 then v else v), (fun _ => 0)) := by
    unfold f_X6_init
    rw [w1]
    rfl
  have t1 : f_X4_init = some (((fun _ => 0), 0, 0, 0, 0), (fun _ => 0), (fun _ => 0), 0, 0, 0, 0, 0) := rfl
  refine ⟨((v, (fun i => if i = 0 then v else v), (fun _ => 0)), ((fun i => if i = 0 then (v, (fun i => if i = 0 then v else v), (fun _ => 0)) else if i = 1 then (v, (fun i => if i = 0 then v else v), (fun _ => 0)) else if i = 2 then (v, (fun i => if i = 0 then v else v), (fun _ => 0)) else if i = 3 then (v, (fun i => if i = 0 then v else v), (fun _ => 0)) else if i = 4 then (v, (fun i => if i = 0 then v else v), (fun _ => 0)) else (v, (fun i => if i = 0 then v else v), (fun _ => 0))), 0, 0), (((fun _ => 0), 0, 0, 0, 0), (fun _ => 0), (fun _ => 0), 0, 0, 0, 0, 0), v), _, ?_, m1, ?_⟩
  · unfold f_X9_init f_X2_init f_X1_init
    rw [s1, t1, w1]
    rfl
  · refine ⟨_, _, _, _, _, _, _, _, _, _, _, _, _, _, _, _, _, _, _, rfl, ⟨hv, fun i hi => ⟨rfl, Or.inl rfl, fun y => absurd rfl y⟩⟩, ⟨0, 0, by omega, by omega, rfl, rfl, rfl, fun e he => absurd he (Nat.not_lt_zero e)⟩, ⟨0, fun _ => 0, ⟨by omega, fun k hk => absurd hk (Nat.not_lt_zero k)⟩, rfl, rfl, rfl, Or.inl rfl, fun y => absurd rfl y⟩⟩
theorem zf_true {L : Nat} {xs : Nat → Int32} (hL : L ≤ 2048) : zf_pure L xs := by
  obtain ⟨vx, vm, e1, e2, hI⟩ := q_init
  unfold zf_pure
  rw [e1, Option.bind_some, e2, Option.bind_some]
  unfold f_L_law
  refine q_loop (n := 512) (P := fun o => o = some 1) (fun m s => m ≤ 512 ∧ q_LI m s) ?_ 512 0 zk_N _ (by omega) (by unfold zk_N; omega) ⟨by omega, hI⟩
  intro m s hi
  obtain ⟨hm5, hi⟩ := hi
  by_cases hm : 4 * m + 4 ≤ L
  · left
    obtain ⟨s', h1, h2⟩ := q_lawStep (xs := xs) hm hL hi
    exact ⟨by omega, s', ⟨by omega, h1⟩, h2⟩
  · right
    intro k
    obtain ⟨st, hi, pg, fc, z, sn, hs, pa, ph, pm, be, sp, tx, ty, fa, hf, fr, en, nu, rfl, hS, hH, hT⟩ := hi
    have x0 : (Int32.ofNat L) - 4 < nI (4 * m) := by
      have a : (nI L - nI 4).toInt = (L : Int) - ((4 : Nat) : Int) := pk_sub_toInt (by omega) (by omega)
      have b : (nI (4 * m)).toInt = ((4 * m : Nat) : Int) := nI_toInt (by omega)
      show nI L - nI 4 < nI (4 * m)
      rw [Int32.lt_iff_toInt_lt, a, b]
      omega
    unfold F_L_law_18
    dsimp only
    rw [if_pos x0]
