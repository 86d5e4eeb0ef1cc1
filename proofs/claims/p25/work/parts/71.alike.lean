/-! PURE PART of p25: areAlike, leastRoom -/
section GA
variable {n t B : Nat} {z : Nat → Int32} {sa sb : VX6} {ha hb : VX2}
theorem gw_alike42 (hSa : q_S B sa z gw_0 gw_0) (hSb : q_S B sb z gw_0 gw_0) (x : Int32) (k : Int32 → Option Int32) : zk_fx (F_L_areAlike_42 sa sb x k) zk_N 0 = k (x + 1) := by
  refine q_scan (n := 9) (F := F_L_areAlike_42 sa sb x k) (fun m => nI m) (k (x + 1)) (fun kk m hm => ?_) (fun kk => ?_) 9 0 zk_N (by omega) (by unfold zk_N; omega)
  · obtain ⟨r, k1, k2⟩ := q_c_promise hSa.1 x (nI m)
    obtain ⟨r', k3, k4⟩ := q_c_promise hSb.1 x (nI m)
    have e : r = r' := Option.some.inj (k2.symm.trans k4)
    unfold F_L_areAlike_42
    rw [if_neg (show ¬ (9 : Int32) ≤ nI m from nI_ge (b := 9) hm (by omega)), k1, Option.bind_some, k3, Option.bind_some, if_pos e, nI_1]
  · unfold F_L_areAlike_42
    rw [if_pos (show (9 : Int32) ≤ nI 9 by decide)]
theorem gw_alike (hSa : q_S B sa z gw_0 gw_0) (hSb : q_S B sb z gw_0 gw_0) (hI : gw_I n t z) (pa pb : VX4) : f_L_areAlike sa ha pa sb hb pb = some 1 := by
  have hn := hI.1.2.2.1
  have h31 : zk_fx (F_L_areAlike_31 sa ha pa sb) zk_N 0 = some 1 := by
    refine q_scan (n := n) (F := F_L_areAlike_31 sa ha pa sb) (fun m => nI m) (some 1) (fun kk m hm => ?_) (fun kk => ?_) n 0 zk_N (by omega) (by unfold zk_N; omega)
    · unfold F_L_areAlike_31
      rw [gw_c1 hSa hI, Option.bind_some, hI.1.2.1, if_neg (nI_ge hm (by omega)), gw_alike42 hSa hSb, nI_1]
    · unfold F_L_areAlike_31
      rw [gw_c1 hSa hI, Option.bind_some, hI.1.2.1, if_pos (nI_le (Nat.le_refl n) (by omega))]
  unfold f_L_areAlike
  refine q_scan (n := 11) (F := F_L_areAlike_2 sa ha pa sb hb pb) (fun m => nI m) (some 1) (fun kk m hm => ?_) (fun kk => ?_) 11 0 zk_N (by omega) (by unfold zk_N; omega)
  · obtain ⟨r, k1, k2⟩ := gw_fig (hi := ha) (pg := pa) hSa (b := m) (by omega) (by omega) (by omega) (by omega)
    obtain ⟨r', k3, k4⟩ := gw_fig (hi := hb) (pg := pb) hSb (b := m) (by omega) (by omega) (by omega) (by omega)
    have e : r = r' := Option.some.inj (k2.symm.trans k4)
    unfold F_L_areAlike_2
    rw [if_neg (show ¬ (11 : Int32) ≤ nI m from nI_ge (b := 11) hm (by omega)), k1, Option.bind_some, k3, Option.bind_some, if_pos e, nI_1]
  · unfold F_L_areAlike_2
    rw [if_pos (show (11 : Int32) ≤ nI 11 by decide)]
    exact h31
/-- set the room, ask, and back -/
theorem gw_swu {st : VX6} {hi : VX2} {r m : Nat} (hS : q_S B st z gw_0 gw_0) (hH : gw_H hi) (hI : gw_I n t z) (hB : B ≤ 300000000) (h1 : 1 ≤ r) (h2 : r ≤ 20) (m1 : 1 ≤ m) (m2 : m ≤ 600) (ht : t + m ≤ 25000) (fc : VX1) : ∃ st1 hi1 fc' e st2 hi2, f_X9_set 0 (nI r) st hi = some (z 2, st1, hi1) ∧ f_X9_would (nI m) 1 st1 fc = some (gw_q (upd z 2 (nI r)) m 6 - z 6, fc') ∧ f_X9_undo st1 hi1 = some (e, st2, hi2) ∧ ¬ e < 0 ∧ q_S (B + 1) st2 z gw_0 gw_0 ∧ gw_H hi2 ∧ ∃ d, d ≤ 12000 ∧ gw_q (upd z 2 (nI r)) m 6 = z 6 + nI d := by
  obtain ⟨x, st1, hi1, z1, a1, a2, a3, a4, a5⟩ := gw_o_set hS hH (by omega) 0 (nI r)
  have hz := a2.symm.trans (gw_r_set0 hI h1 h2)
  simp only [Option.some.injEq, Prod.mk.injEq] at hz
  obtain ⟨rfl, rfl, -⟩ := hz
  have hI' := hI.room (r := r) h1 h2
  obtain ⟨q, hq, q1, q2⟩ := hI.1.2.2.2.2.1
  obtain ⟨k, j, b1, b2, b3, b4, b5, b6⟩ := a5 (by rw [hq]; exact nI_pos (by omega))
  obtain ⟨e, st2, hi2, u1, u2, u3, u4⟩ := gw_o_undo (st := st1) b1 b2 b3 b4 b5 b6
  obtain ⟨fc', w1⟩ := gw_would a3 hI' (by omega) m1 m2 fc 1 (by decide) (by decide)
  rw [if_neg (show ¬ (1 : Int32) = 0 by decide), if_pos rfl, pk_un (show 6 ≠ 2 by omega)] at w1
  have hok := (gw_okQ (gw_qQ a3 hI') (by omega) m (by omega)).2
  obtain ⟨d, d1, d2⟩ := hok.late hI' ht m 0 (by omega)
  rw [Nat.zero_add] at d2
  have d2 : gw_q (upd z 2 (nI r)) m 6 = upd z 2 (nI r) 6 + nI d := d2
  rw [pk_un (show 6 ≠ 2 by omega)] at d2
  exact ⟨st1, hi1, fc', e, st2, hi2, a1, w1, u1, u2, u3, u4, d, by omega, d2⟩
theorem gw_lr66 {st : VX6} {hi : VX2} {j m : Nat} (hS : q_S B st z gw_0 gw_0) (hH : gw_H hi) (hI : gw_I n t z) (hB : B ≤ 300000000) (h2 : j ≤ 20) (m1 : 1 ≤ m) (m2 : m ≤ 600) (ht : t + m ≤ 25000) (hne : 1 ≤ j → gw_q (upd z 2 (nI j)) m 6 ≠ z 6) (pg : VX4) (fc : VX1) : ∃ st' hi' fc', f_L_leastRoom_66 (nI m) pg 1 (z 2) (nI j) st hi fc = some (1, st', hi', fc') ∧ q_S (B + 1) st' z gw_0 gw_0 ∧ gw_H hi' := by
  have fin : ∀ (st : VX6) (hi : VX2) (fc : VX1) (B' : Nat), q_S B' st z gw_0 gw_0 → f_L_leastRoom_105 pg (z 2) st hi fc = some (1, st, hi, fc) := by
    intro st hi fc B' hS
    unfold f_L_leastRoom_105 f_L_leastRoom_110
    rw [if_neg (by decide), gw_c14 hS hI, Option.bind_some, if_pos rfl]
  unfold f_L_leastRoom_66
  rw [if_neg (show ¬ (1 : Int32) = 0 by decide)]
  by_cases c : j = 0
  · subst c
    exact ⟨st, hi, fc, by rw [if_pos (show nI 0 = 0 from rfl)]; exact fin st hi fc B hS, hS.mono (Nat.le_succ B), hH⟩
  · obtain ⟨st1, hi1, fc', e, st2, hi2, a1, a2, a3, a4, a5, a6, d, d1, d2⟩ := gw_swu hS hH hI hB (r := j) (by omega) h2 m1 m2 ht fc
    have hd : d ≠ 0 := fun w => hne (by omega) (by rw [d2, w, gw_ad0])
    rw [d2, gw_subz] at a2
    refine ⟨st2, hi2, fc', ?_, a5, a6⟩
    rw [if_neg (nI_ne0 (by omega) (by omega)), a1, Option.bind_some, if_pos rfl, a2, Option.bind_some, if_neg (nI_nle (by omega) (by omega)), a3, Option.bind_some, if_neg a4]
    exact fin st2 hi2 fc' (B + 1) a5
theorem gw_lr {st : VX6} {hi : VX2} {m : Nat} (hS : q_S B st z gw_0 gw_0) (hH : gw_H hi) (hI : gw_I n t z) (hB : B ≤ 200000000) (m1 : 1 ≤ m) (m2 : m ≤ 200) (ht : t + m ≤ 25000) (pg : VX4) (fc : VX1) : ∃ st' hi' fc', f_L_leastRoom (nI m) st hi pg fc = some (1, st', hi', fc') ∧ q_S (B + 2) st' z gw_0 gw_0 ∧ gw_H hi' := by
  obtain ⟨r, fc1, k1, k2⟩ := gw_lroom hS hI (by omega) m1 m2 ht fc
  unfold f_L_leastRoom
  rw [k1, Option.bind_some, gw_c14 hS hI, Option.bind_some]
  unfold f_L_leastRoom_27 f_L_leastRoom_61
  rcases k2 with ⟨rfl, k2⟩ | ⟨i, i1, i2, rfl, k2, k3⟩
  · rw [if_pos rfl, if_pos rfl]
    obtain ⟨st', hi', fc', a1, a2, a3⟩ := gw_lr66 hS hH hI (by omega) (j := 20) (by omega) m1 (by omega) ht (fun _ => k2 20 (by omega) (by omega)) pg fc1
    exact ⟨st', hi', fc', a1, a2.mono (by omega), a3⟩
  · have hne : ¬ nI i = -9 := fun w => nI_pos (n := i) (by omega) (by rw [w]; decide)
    have ei : nI i - 1 = nI (i - 1) := by
      rw [show i = i - 1 + 1 by omega]
      exact nI_pred _
    rw [if_neg hne, if_neg hne, ei]
    obtain ⟨st1, hi1, fc', e, st2, hi2, a1, a2, a3, a4, a5, a6, d, d1, d2⟩ := gw_swu hS hH hI (by omega) (r := i) i1 i2 m1 (by omega) ht fc1
    rw [k2, Int32.sub_self] at a2
    rw [a1, Option.bind_some, if_pos rfl, a2, Option.bind_some, if_pos rfl, a3, Option.bind_some, if_neg a4]
    obtain ⟨st', hi', fc2, b1, b2, b3⟩ := gw_lr66 a5 a6 hI (by omega) (j := i - 1) (by omega) m1 (by omega) ht (fun w => k3 (i - 1) w (by omega)) pg fc'
    exact ⟨st', hi', fc2, b1, b2, b3⟩
end GA
