/-! PURE PART: pass, take, restore, undo -/
theorem q_c_pass {B : Nat} {st : VX6} {hi : VX2} {z sn hs pa ph : Nat → Int32} {pm : Int32} (be : Nat → Int32) (hS : q_S B st z sn hs) (hH : q_H B hi pa ph pm) (hB : B ≤ 400000000) (x : Int32) : ∃ r st' hi' z' pa' ph' pm', f_X9_pass x st hi = some (r, st', hi') ∧ f_X10_pass x z sn hs pa ph pm be 0 = some (r, z', pa', ph', pm') ∧ q_S (B + 1) st' z' sn hs ∧ q_H (B + 1) hi' pa' ph' pm' := by
  obtain ⟨rows, hN, hH1, hrow⟩ := hH.note hS
  obtain ⟨⟨n, k, t, hX, ht, hb, hd⟩, hS2⟩ := id hS
  obtain ⟨⟨r, pr', ln', dy', now', br', lt', fl', sw', ps', lo'⟩, e1, h⟩ := q_opPass hX (q_b3 ht hB) (q_b4 ht) ht x
  unfold f_X9_pass
  rw [hN, Option.bind_some, e1, Option.bind_some]
  rcases h with ⟨hr, he, hm⟩ | ⟨hr, hq⟩
  · simp only [Prod.mk.injEq] at he
    obtain ⟨-, rfl, rfl, rfl, rfl, rfl, rfl, rfl, rfl, rfl, rfl⟩ := he
    refine ⟨r, st, (rows, hi.2), z, pa, ph, pm, ?_, hm sn hs pa ph pm be 0, hS.mono (Nat.le_succ B), hH1.mono (Nat.le_succ B)⟩
    rw [q_rec_neg hr, Option.bind_some]
  · obtain ⟨z', m, htm, hX', hm⟩ := hq sn hs pa ph pm be 0
    obtain ⟨pa', ph', pm', no, sa, k1, k2, k3⟩ := hH1.record hrow be
    refine ⟨r, ((pr', ln', dy', now', st.1.2.2.2.2.1, st.1.2.2.2.2.2.1, st.1.2.2.2.2.2.2.1, br', lt', fl', sw', ps', lo'), st.2), (rows, no, sa), z', pa', ph', pm', ?_, ?_, ⟨⟨n, k, t + m, hX'.mono q_b8 q_b9, htm, hb, hd⟩, fun i hi => ⟨(hS2 i hi).1, (hS2 i hi).2.1, fun y => ((hS2 i hi).2.2 y).mono (Nat.le_succ B)⟩⟩, k3.mono (Nat.le_succ B)⟩
    · rw [q_rec_pos hr k2, Option.bind_some]
    · rw [hm, k1]
      rfl
theorem q_x368 (h : Nat) : (368 : Int32) * nI h = nI (368 * h) := pk_mul 368 h
theorem q_take_loop {p : Nat} (hp : p < 2) (z sn hs pa ph : Nat → Int32) (pm : Int32) : zk_fx (F_X10_take_24 (nI p) z hs pa ph pm) zk_N (0, sn) = some (z 0, va_cpy z sn 0 (368 * p) 368, hs, pa, ph, pm) := by
  have l1 := q_scan (n := 368) (F := F_X10_take_24 (nI p) z hs pa ph pm) (fun m => (nI m, va_cpy z sn 0 (368 * p) m)) (some (z 0, va_cpy z sn 0 (368 * p) 368, hs, pa, ph, pm)) (fun k m hm => by
    unfold F_X10_take_24
    simp only [q_let]
    simp (disch := omega) only [q_l368, if_neg (nI_ge (b := 368) hm (by omega))]
    simp (disch := omega) only [show nI 368 * nI p = nI (368 * p) from q_x368 p, nI_add, q_ck, q_cl, nI_1]
    have e := q_cp (f := z) (g := sn) (s := 0) (a := 368 * p) (m := m)
    rw [Nat.zero_add] at e
    rw [e]) (fun k => by
    unfold F_X10_take_24
    simp only [q_l368, if_pos (nI_le (Nat.le_refl 368) (by omega)), q_k0, q_n0]) 368 0 zk_N (by omega) (by unfold zk_N; omega)
  rw [q_cp0] at l1
  exact l1
theorem q_restore_loop {p : Nat} (hp : p < 2) (z sn pa ph : Nat → Int32) (pm : Int32) : zk_fx (F_X10_restore_29 (nI p) sn pa ph pm) zk_N (0, z) = some (va_cpy sn z (368 * p) 0 368 0, va_cpy sn z (368 * p) 0 368, pa, ph, pm) := by
  have l1 := q_scan (n := 368) (F := F_X10_restore_29 (nI p) sn pa ph pm) (fun m => (nI m, va_cpy sn z (368 * p) 0 m)) (some (va_cpy sn z (368 * p) 0 368 0, va_cpy sn z (368 * p) 0 368, pa, ph, pm)) (fun k m hm => by
    unfold F_X10_restore_29
    simp only [q_let]
    simp (disch := omega) only [q_l368, if_neg (nI_ge (b := 368) hm (by omega))]
    simp (disch := omega) only [show nI 368 * nI p = nI (368 * p) from q_x368 p, nI_add, q_ck, q_cl, nI_1]
    have e := q_cp (f := sn) (g := z) (s := 368 * p) (a := 0) (m := m)
    rw [Nat.zero_add] at e
    rw [e]) (fun k => by
    unfold F_X10_restore_29
    simp only [q_l368, if_pos (nI_le (Nat.le_refl 368) (by omega)), q_k0, q_n0]) 368 0 zk_N (by omega) (by unfold zk_N; omega)
  rw [q_cp0] at l1
  exact l1
theorem q_two {x : Int32} : x < 0 ∨ (¬ x < 0 ∧ ¬ x ≤ 1 ∧ ¬ x < 2) ∨ ∃ p, p < 2 ∧ x = nI p := by
  by_cases c : x < 0
  · exact Or.inl c
  · obtain ⟨s, hs, rfl⟩ := nI_of c
    by_cases c2 : s < 2
    · exact Or.inr (Or.inr ⟨s, c2, rfl⟩)
    · exact Or.inr (Or.inl ⟨c, nI_ge (b := s) (a := 1) (by omega) hs, nI_nlt (b := 2) (a := s) (by omega) hs⟩)
set_option maxHeartbeats 1000000 in
theorem q_c_take {B : Nat} {st : VX6} {hi : VX2} {z sn hs pa ph : Nat → Int32} {pm : Int32} (be : Nat → Int32) (hS : q_S B st z sn hs) (hH : q_H B hi pa ph pm) (x : Int32) : ∃ r st' hi' sn' hs' pa' ph' pm', f_X9_take x st hi = some (r, st', hi') ∧ f_X10_take x z sn hs pa ph pm be 0 = some (r, sn', hs', pa', ph', pm') ∧ q_S B st' z sn' hs' ∧ q_H B hi' pa' ph' pm' := by
  obtain ⟨rows, hN, hH1, hrow⟩ := hH.note hS
  unfold f_X9_take f_X10_take f_X6_takeSnapshot f_X6_takeSnapshot_30
  rw [hN, Option.bind_some]
  rcases q_two (x := x) with c | ⟨c1, c2, c3⟩ | ⟨p, hp, rfl⟩
  · refine ⟨-1, st, (rows, hi.2), sn, hs, pa, ph, pm, ?_, by rw [if_pos c], hS, hH1⟩
    rw [if_pos c, Option.bind_some, q_rec_neg (show (-1 : Int32) < 0 by decide), Option.bind_some]
  · refine ⟨-1, st, (rows, hi.2), sn, hs, pa, ph, pm, ?_, by rw [if_neg c1, if_neg c2], hS, hH1⟩
    rw [if_neg c1, if_neg c3, Option.bind_some, q_rec_neg (show (-1 : Int32) < 0 by decide), Option.bind_some]
  · obtain ⟨pa', ph', pm', no, sa, k1, k2, k3⟩ := hH1.record hrow be
    have c1 : ¬ nI p < 0 := nI_pos (by omega)
    have c2 : nI p ≤ 1 := nI_le (b := 1) (by omega) (by omega)
    have c3 : nI p < 2 := nI_lt (b := 2) hp (by omega)
    obtain ⟨v', ev, hv, -⟩ := hS.1.copy (st.2.1 p).1 (st.2.1 p).2.1 (st.2.1 p).2.2.1
    obtain ⟨n, k, t, hX, ht, hb, hd⟩ := id hS.1
    obtain ⟨t1, t2⟩ := hX.time
    have en : vp_nar .boolean 1 = 1 := by decide
    refine ⟨st.1.2.2.2.1, (st.1, va_up st.2.1 p v', upd st.2.2 p 1), (rows, no, sa), va_cpy z sn 0 (368 * p) 368, upd hs p 1, pa', ph', pm', ?_, ?_, ⟨hS.1, fun i hi => ?_⟩, k3⟩
    · simp only [q_let]
      simp (disch := omega) only [if_neg c1, if_pos c3, q_ck, q_cl, ev, Option.bind_some, en]
      rw [q_rec_pos (by rw [t1]; exact nI_pos (by omega)) k2, Option.bind_some]
    · rw [if_neg c1, if_pos c2, k1, Option.bind_some, q_ck hp (by omega), q_let, q_cl (by omega), en, q_take_loop hp, t1, t2]
    · dsimp only
      by_cases y : i = p
      · subst y
        rw [pk_us, pk_us, q_up_s]
        refine ⟨rfl, Or.inr rfl, fun _ => hv.cong (fun j hj => ?_)⟩
        rw [pk_cpy_in (by omega) (by omega)]
        exact congrArg _ (by omega)
      · rw [pk_un y, pk_un y, q_up_n y]
        refine ⟨(hS.2 i hi).1, (hS.2 i hi).2.1, fun w => ((hS.2 i hi).2.2 w).cong (fun j hj => ?_)⟩
        rw [pk_cpy_out (by omega)]
set_option maxHeartbeats 1000000 in
theorem q_c_restore {B : Nat} {st : VX6} {hi : VX2} {z sn hs pa ph : Nat → Int32} {pm : Int32} (be : Nat → Int32) (hS : q_S B st z sn hs) (hH : q_H B hi pa ph pm) (x : Int32) : ∃ r st' hi' z' pa' ph' pm', f_X9_restore x st hi = some (r, st', hi') ∧ f_X10_restore x z sn hs pa ph pm be 0 = some (r, z', pa', ph', pm') ∧ q_S B st' z' sn hs ∧ q_H B hi' pa' ph' pm' := by
  obtain ⟨rows, hN, hH1, hrow⟩ := hH.note hS
  unfold f_X9_restore f_X10_restore f_X6_restoreSnapshot
  rw [hN, Option.bind_some]
  rcases q_two (x := x) with c | ⟨c1, c2, c3⟩ | ⟨p, hp, rfl⟩
  · refine ⟨-1, st, (rows, hi.2), z, pa, ph, pm, ?_, by rw [if_pos c], hS, hH1⟩
    rw [if_pos c, Option.bind_some, q_rec_neg (show (-1 : Int32) < 0 by decide), Option.bind_some]
  · refine ⟨-1, st, (rows, hi.2), z, pa, ph, pm, ?_, by rw [if_neg c1, if_neg c2], hS, hH1⟩
    rw [if_neg c1, if_neg c3, Option.bind_some, q_rec_neg (show (-1 : Int32) < 0 by decide), Option.bind_some]
  · have c1 : ¬ nI p < 0 := nI_pos (by omega)
    have c2 : nI p ≤ 1 := nI_le (b := 1) (by omega) (by omega)
    have c3 : nI p < 2 := nI_lt (b := 2) hp (by omega)
    obtain ⟨g1, g2, g3⟩ := hS.2 p hp
    by_cases c4 : hs p = 0
    · refine ⟨-2, st, (rows, hi.2), z, pa, ph, pm, ?_, ?_, hS, hH1⟩
      · simp (disch := omega) only [if_neg c1, if_pos c3, q_ck, q_cl, g1, if_pos c4, Option.bind_some]
        rw [q_rec_neg (show (-2 : Int32) < 0 by decide), Option.bind_some]
      · simp (disch := omega) only [if_neg c1, if_pos c2, q_ck, q_cl, if_pos c4]
    · obtain ⟨pa', ph', pm', no, sa, k1, k2, k3⟩ := hH1.record hrow be
      obtain ⟨v', ev, hv, hv2⟩ := (g3 c4).copy st.1.1 st.1.2.1 st.1.2.2.1
      have hv := hv.cong (z' := va_cpy sn z (368 * p) 0 368) (fun j hj => by
        rw [pk_cpy_in (by omega) (by omega)]
        exact congrArg _ (by omega))
      obtain ⟨n, k, t, hX, ht, hb, hd⟩ := id hv
      obtain ⟨t1, t2⟩ := hX.time
      refine ⟨v'.2.2.2.1, (v', st.2), (rows, no, sa), va_cpy sn z (368 * p) 0 368, pa', ph', pm', ?_, ?_, ⟨hv, hS.2⟩, k3⟩
      · simp (disch := omega) only [if_neg c1, if_pos c3, q_ck, q_cl, g1, if_neg c4, ev, Option.bind_some]
        rw [q_rec_pos (by rw [t1]; exact nI_pos (by omega)) k2, Option.bind_some]
      · rw [if_neg c1, if_pos c2, q_ck hp (by omega), q_cl (by omega), if_neg c4, k1, Option.bind_some, q_restore_loop hp, t1, t2]

