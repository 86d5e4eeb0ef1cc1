/-! PURE PART: undo -/
theorem q_undo_loop {h : Nat} (hh : h < 5) (z sn hs pa ph : Nat → Int32) : zk_fx (F_X10_undo_22 pa ph sn hs (nI h)) zk_N (0, z) = some (nI h, va_cpy pa z (1104 * h) 0 368, va_cpy pa sn (1104 * h + 368) 0 736, upd (upd hs 0 (vp_nar .boolean (ph (2 * h)))) 1 (vp_nar .boolean (ph (2 * h + 1))), nI h) := by
  have l1 := q_scan (n := 368) (F := F_X10_undo_22 pa ph sn hs (nI h)) (fun m => (nI m, va_cpy pa z (1104 * h) 0 m)) (zk_fx (F_X10_undo_58 pa ph (va_cpy pa z (1104 * h) 0 368) hs (nI h)) zk_N (0, sn)) (fun k m hm => by
    unfold F_X10_undo_22
    simp only [q_let]
    simp (disch := omega) only [q_l368, if_neg (nI_ge (b := 368) hm (by omega)), q_x1104, nI_add, q_ck, q_cl, nI_1]
    have e := q_cp (f := pa) (g := z) (s := 1104 * h) (a := 0) (m := m)
    rw [Nat.zero_add] at e
    rw [e]) (fun k => by
    unfold F_X10_undo_22
    simp only [q_l368, if_pos (nI_le (Nat.le_refl 368) (by omega))]) 368 0 zk_N (by omega) (by unfold zk_N; omega)
  rw [q_cp0] at l1
  have l1 : zk_fx (F_X10_undo_22 pa ph sn hs (nI h)) zk_N (0, z) = _ := l1
  rw [l1]
  have l2 := q_scan (n := 736) (F := F_X10_undo_58 pa ph (va_cpy pa z (1104 * h) 0 368) hs (nI h)) (fun m => (nI m, va_cpy pa sn (1104 * h + 368) 0 m)) (some (nI h, va_cpy pa z (1104 * h) 0 368, va_cpy pa sn (1104 * h + 368) 0 736, upd (upd hs 0 (vp_nar .boolean (ph (2 * h)))) 1 (vp_nar .boolean (ph (2 * h + 1))), nI h)) (fun k m hm => by
    unfold F_X10_undo_58
    simp only [q_let]
    simp (disch := omega) only [q_l736, if_neg (nI_ge (b := 736) hm (by omega)), q_x1104, q_p368, nI_add, q_ck, q_cl, nI_1]
    have e := q_cp (f := pa) (g := sn) (s := 1104 * h + 368) (a := 0) (m := m)
    rw [Nat.zero_add] at e
    rw [e]) (fun k => by
    unfold F_X10_undo_58
    simp only [q_let]
    simp (disch := omega) only [q_l736, if_pos (nI_le (Nat.le_refl 736) (by omega)), q_x2, nI_1, q_k (i := 0) (N := 2) (by decide), q_k (i := 1) (N := 2) (by decide), q_n0, q_n1, q_ck, q_cl]) 736 0 zk_N (by omega) (by unfold zk_N; omega)
  rw [q_cp0] at l2
  exact l2
set_option maxHeartbeats 1000000 in
theorem q_c_undo {B : Nat} {st : VX6} {hi : VX2} {z sn hs pa ph : Nat → Int32} {pm : Int32} (hS : q_S B st z sn hs) (hH : q_H B hi pa ph pm) : ∃ r st' hi' z' sn' hs' pm', f_X9_undo st hi = some (r, st', hi') ∧ f_X10_undo z sn hs pa ph pm = some (r, z', sn', hs', pm') ∧ q_S B st' z' sn' hs' ∧ q_H B hi' pa ph pm' := by
  obtain ⟨m, h, a, b, c, d, f, g⟩ := hH
  subst f
  unfold f_X9_undo f_X10_undo f_X2_stepBack
  rw [c, d]
  by_cases h0 : h = 0
  · subst h0
    refine ⟨-2, st, hi, z, sn, hs, nI 0, ?_, by rw [if_pos (show nI 0 = 0 from rfl)], hS, m, 0, a, b, c, d, rfl, g⟩
    rw [if_neg (by decide), Option.bind_some, ← c, ← d]
  · obtain ⟨h', rfl⟩ : ∃ k, h = k + 1 := ⟨h - 1, by omega⟩
    have c1 : (1 : Int32) ≤ nI (h' + 1) := nI_le (a := 1) (by omega) (by omega)
    have c2 : ¬ nI (h' + 1) = 0 := nI_ne0 (by omega) (by omega)
    have gs := g h' (by omega)
    rw [show (m + 6 - (h' + 1 - h')) % 6 = (m + 5) % 6 by omega] at gs
    obtain ⟨v', ev, hv⟩ := gs.copy st
    have er : zk_rem (nI m + 6 - 1) 6 = nI ((m + 5) % 6) := by
      rw [show nI m + 6 = nI (m + 5 + 1) from nI_add m 6, nI_pred]
      exact pk_rem (d := 6) (by omega) (by decide) (by decide)
    have hm6 : (m + 5) % 6 < 6 := Nat.mod_lt _ (by omega)
    have e0 := (gs.2 0 (by omega)).2.1
    have e1 := (gs.2 1 (by omega)).2.1
    refine ⟨nI h', v', (hi.1, nI ((m + 5) % 6), nI h'), va_cpy pa z (1104 * h') 0 368, va_cpy pa sn (1104 * h' + 368) 0 736, upd (upd hs 0 (vp_nar .boolean (ph (2 * h')))) 1 (vp_nar .boolean (ph (2 * h' + 1))), nI h', ?_, ?_, ?_, (m + 5) % 6, h', hm6, by omega, rfl, rfl, rfl, fun i hi' => ?_⟩
    · rw [if_pos c1, q_let, er, q_let, nI_pred]
      unfold f_X2_copyNotedInto f_X2_rowAt zk_oc
      rw [if_neg (nI_pos (by omega)), if_pos (show nI ((m + 5) % 6) < 6 from nI_lt (b := 6) hm6 (by omega)), q_ck hm6 (by omega), q_cl (by omega), Option.bind_some]
      dsimp only
      rw [if_pos hm6, ev]
      rfl
    · rw [if_neg c2, q_let, nI_pred, q_undo_loop (by omega)]
    · refine hv.cong (fun j hj => ?_) (fun j hj => ?_) (fun j hj => ?_)
      · rw [pk_cpy_in (by omega) (by omega)]
        exact congrArg _ (by omega)
      · rw [pk_cpy_in (by omega) (by omega)]
        exact congrArg _ (by omega)
      · rcases (show j = 0 ∨ j = 1 by omega) with rfl | rfl
        · rw [pk_un (by omega), pk_us]
          exact q_nar e0
        · rw [pk_us]
          exact q_nar e1
    · have gi := g i (by omega)
      rw [show ((m + 5) % 6 + 6 - (h' - i)) % 6 = (m + 6 - (h' + 1 - i)) % 6 by omega]
      exact gi
