/-! PURE PART: what could be -/
/-- a wheel's value beside a row, at n promises -/
def q_Q (n B tm : Nat) (v : VX8) (z : Nat → Int32) : Prop := ∃ k t, q_X v.1 v.2.1 v.2.2.1 v.2.2.2.1 v.2.2.2.2.1 v.2.2.2.2.2.1 v.2.2.2.2.2.2.1 v.2.2.2.2.2.2.2.1 v.2.2.2.2.2.2.2.2.1 v.2.2.2.2.2.2.2.2.2.1 v.2.2.2.2.2.2.2.2.2.2.1 v.2.2.2.2.2.2.2.2.2.2.2.1 v.2.2.2.2.2.2.2.2.2.2.2.2 z n k (20 * t) (200 * t + B) t ∧ t ≤ tm
theorem q_R.q {B tm : Nat} {v : VX8} {z : Nat → Int32} (h : q_R B tm v z) : ∃ n, q_Q n B tm v z := by
  obtain ⟨n, k, t, hX, ht, -⟩ := h
  exact ⟨n, k, t, hX, ht⟩
theorem q_b10 {t B : Nat} (h : t < 20600) (hB : B ≤ 400000000) : 200 * t + B + 120 < 2 ^ 29 := by omega
theorem q_b11 {t : Nat} (h : t < 20600) : 21200 + 511 * (20 * t + 21) < 2 ^ 29 := by omega
theorem q_b12 {t B : Nat} : 200 * t + B + 140 ≤ 200 * (t + 1) + B := by omega
theorem q_b13 {t : Nat} : 20 * t + 20 ≤ 20 * (t + 1) := by omega
/-- a wheel behind a tick -/
def q_tk (v : VX8) (r : VX5 × VX3 × VX0 × Int32 × Int32 × Int32 × Int32 × Int32 × Int32 × Int32) : VX8 := (r.1, r.2.1, r.2.2.1, r.2.2.2.1, v.2.2.2.2.1, v.2.2.2.2.2.1, v.2.2.2.2.2.2.1, r.2.2.2.2.1, r.2.2.2.2.2.1, r.2.2.2.2.2.2.1, r.2.2.2.2.2.2.2.1, r.2.2.2.2.2.2.2.2.1, r.2.2.2.2.2.2.2.2.2)
section QE
variable {n B tm : Nat} {v u : VX8} {z z' : Nat → Int32}
theorem q_Q.tick (h : q_Q n B tm v z) (htm : tm < 20600) (hB : B ≤ 400000000) : ∃ r z', f_X8_passTick v.1 v.2.1 v.2.2.1 v.2.2.2.1 v.2.2.2.2.1 v.2.2.2.2.2.1 v.2.2.2.2.2.2.1 v.2.2.2.2.2.2.2.1 v.2.2.2.2.2.2.2.2.1 v.2.2.2.2.2.2.2.2.2.1 v.2.2.2.2.2.2.2.2.2.2.1 v.2.2.2.2.2.2.2.2.2.2.2.1 v.2.2.2.2.2.2.2.2.2.2.2.2 = some r ∧ f_X10_tick z = some z' ∧ q_Q n B (tm + 1) (q_tk v r) z' ∧ ∀ p, p < n → z' (252 + p) = z (252 + p) ∨ z (252 + p) < z' (252 + p) := by
  obtain ⟨k, t, hX, ht⟩ := h
  obtain ⟨r1, r2, hx, k1, k2⟩ := q_tick hX (q_b10 (by omega) hB) (q_b11 (by omega)) (by omega)
  refine ⟨r1, r2, k1, k2, ⟨k, t + 1, hx.mono q_b13 q_b12, by omega⟩, fun p hp => ?_⟩
  obtain ⟨L, c, T', hV, hcl, hc, hT⟩ := hX
  obtain ⟨L', c', T'', hV', hcl', hc', hT'⟩ := hx
  have hn := hV.n4
  obtain ⟨e, he, ee⟩ := q_g_tick _ _ _ _ _ _ _ _ _ _ _ _ _ r1 k1 p (by omega)
  obtain ⟨d, ed, hd⟩ := hV.2.2.2.1.2.2.2 p (by omega)
  have a1 := (hV.1.2 p hp).2.2.2.2.1
  have a2 := (hV'.1.2 p hp).2.2.2.2.1
  have he : e ≤ 10000 := he
  rw [← a2, ee, a1, ed, nI_add]
  by_cases e0 : e = 0
  · rw [e0]
    exact Or.inl rfl
  · exact Or.inr (nI_lt (by omega) (by omega))
theorem q_Q.num (h : q_Q n B tm v z) : z 1 = nI n ∧ n ≤ 40 ∧ v.1.2 = nI n := by
  obtain ⟨k, t, ⟨L, c, T', hV, -⟩, -⟩ := h
  exact ⟨hV.2.1.2.2.2.1, hV.n4, hV.1.1⟩
theorem q_Q.time (h : q_Q n B tm v z) : v.2.2.2.1 = z 0 := by
  obtain ⟨k, t, ⟨L, c, T', hV, -⟩, -⟩ := h
  exact hV.2.2.1.1.trans hV.2.2.1.2.1.symm
theorem q_Q.calls (h : q_Q n B tm v z) : v.2.2.1.2 = z 5 := by
  obtain ⟨k, t, ⟨L, c, T', hV, -⟩, -⟩ := h
  exact hV.2.2.2.1.1.trans hV.2.2.2.1.2.1.symm
theorem q_Q.late (h : q_Q n B tm v z) : v.2.2.2.2.2.2.2.2.1 = z 6 := by
  obtain ⟨k, t, ⟨L, c, T', hV, -⟩, -⟩ := h
  exact hV.2.2.1.2.2.2.2.2.2.1
theorem q_Q.called (h : q_Q n B tm v z) {p : Nat} (hp : p < n) : f_X5_fact (nI p) 4 v.1.1 = some (z (252 + p)) := by
  obtain ⟨k, t, ⟨L, c, T', hV, -⟩, -⟩ := h
  have hn := hV.n4
  rw [q_fact4 (by omega), (hV.1.2 p hp).2.2.2.2.1]
theorem q_Q.state (h : q_Q n B tm v z) {p : Nat} (hp : p < n) : v.1.1 (p * 6 + 0) = z (132 + p) ∧ ¬ z (132 + p) < 0 := by
  obtain ⟨k, t, ⟨L, c, T', hV, -⟩, -⟩ := h
  exact ⟨(hV.1.2 p hp).1, hV.2.2.2.2.1.2.2.2 p hp⟩
theorem q_Q.ready (h : q_Q n B tm v z) : ∃ a, a ≤ 40 ∧ f_X5_howManyIn 1 v.1.1 v.1.2 = some (nI a) ∧ f_X10_inState 1 z = some (nI a) := by
  obtain ⟨k, t, ⟨L, c, T', hV, -⟩, -⟩ := h
  have hn := hV.n4
  refine ⟨_, Nat.le_trans (q_cn_le _ n) hn, ?_, q_inState hV.2.1.2.2.2.1 hn 1⟩
  rw [hV.1.1]
  exact q_howMany hn hV.1.2 1
theorem q_Q.cong (h : q_Q n B tm v z) (e : ∀ i, i < 368 → z' i = z i) : q_Q n B tm v z' := by
  obtain ⟨k, t, hX, ht⟩ := h
  exact ⟨k, t, hX.cong e, ht⟩
theorem q_Q.copy (h : q_Q n B tm u z) (pv : VX5) (lv : VX3) (dv : VX0) : ∃ v', f_X8_copyFrom pv lv dv u.1 u.2.1 u.2.2.1 u.2.2.2.1 u.2.2.2.2.1 u.2.2.2.2.2.1 u.2.2.2.2.2.2.1 u.2.2.2.2.2.2.2.1 u.2.2.2.2.2.2.2.2.1 u.2.2.2.2.2.2.2.2.2.1 u.2.2.2.2.2.2.2.2.2.2.1 u.2.2.2.2.2.2.2.2.2.2.2.1 u.2.2.2.2.2.2.2.2.2.2.2.2 = some v' ∧ q_Q n B tm v' z := by
  obtain ⟨k, t, hX, ht⟩ := h
  obtain ⟨pr', ln', dy', e, hx⟩ := q_copy pv lv dv hX
  exact ⟨_, e, k, t, hx, ht⟩
theorem q_Q.room (h : q_Q n B tm v z) {r : Nat} (h1 : 1 ≤ r) (h2 : r ≤ 20) : q_Q n B tm (v.1, v.2.1, v.2.2.1, v.2.2.2.1, nI r, v.2.2.2.2.2) (upd z 2 (nI r)) := by
  obtain ⟨k, t, ⟨L, c, T', hV, hr⟩, ht⟩ := h
  exact ⟨k, t, ⟨L, c, T', hV.set_room (nI r) ⟨r, rfl, h1, h2⟩, hr⟩, ht⟩
end QE
theorem q_keepAside (z sp : Nat → Int32) : f_X10_keepAside z sp = some (va_cpy z sp 0 0 368) := by
  unfold f_X10_keepAside
  have l1 := q_scan (n := 368) (F := F_X10_keepAside_2 z) (fun m => (nI m, va_cpy z sp 0 0 m)) (some (va_cpy z sp 0 0 368)) (fun k m hm => by
    unfold F_X10_keepAside_2
    simp only [q_let]
    simp (disch := omega) only [q_l368, if_neg (nI_ge (b := 368) hm (by omega)), q_ck, q_cl, nI_1]
    have e := q_cp (f := z) (g := sp) (s := 0) (a := 0) (m := m)
    rw [Nat.zero_add] at e
    rw [e]) (fun k => by
    unfold F_X10_keepAside_2
    simp only [q_l368, if_pos (nI_le (Nat.le_refl 368) (by omega))]) 368 0 zk_N (by omega) (by unfold zk_N; omega)
  rw [q_cp0] at l1
  exact l1
theorem q_bringBack (z sp : Nat → Int32) : f_X10_bringBack z sp = some (va_cpy sp z 0 0 368) := by
  unfold f_X10_bringBack
  have l1 := q_scan (n := 368) (F := F_X10_bringBack_2 sp) (fun m => (nI m, va_cpy sp z 0 0 m)) (some (va_cpy sp z 0 0 368)) (fun k m hm => by
    unfold F_X10_bringBack_2
    simp only [q_let]
    simp (disch := omega) only [q_l368, if_neg (nI_ge (b := 368) hm (by omega)), q_ck, q_cl, nI_1]
    have e := q_cp (f := sp) (g := z) (s := 0) (a := 0) (m := m)
    rw [Nat.zero_add] at e
    rw [e]) (fun k => by
    unfold F_X10_bringBack_2
    simp only [q_l368, if_pos (nI_le (Nat.le_refl 368) (by omega))]) 368 0 zk_N (by omega) (by unfold zk_N; omega)
  rw [q_cp0] at l1
  exact l1
theorem q_back {z sp : Nat → Int32} : ∀ j, j < 368 → va_cpy sp z 0 0 368 j = sp j := fun j hj => by
  rw [pk_cpy_in (by omega) (by omega)]
  exact congrArg _ (by omega)
/-! when -/
theorem q_when75 {p : Nat} (hp : p < 40) (had : Int32) (z sp : Nat → Int32) : f_X10_when_75 (nI p) had z sp = some (if z (252 + p) ≤ had then -9 else z 0, va_cpy sp z 0 0 368, sp) := by
  unfold f_X10_when_75 f_X10_when_100
  rw [q_a252, q_ck (by omega) (by omega), q_cl (by omega), q_bringBack, Option.bind_some]
  by_cases c : z (252 + p) ≤ had
  · rw [if_pos c, if_pos c]
  · rw [if_neg c, if_neg c, q_k0, q_n0, Option.bind_some]
theorem q_l600 : (600 : Int32) = nI 600 := by decide +kernel
theorem q_when_loop {n B p : Nat} (hB : B ≤ 400000000) (hp : p < n) (hn : n ≤ 40) {had : Int32} {sp : Nat → Int32} : ∀ (d i f1 f2 tm : Nat) (v : VX8) (z : Nat → Int32), i + d = 600 → d < f1 → d + 1 < f2 → tm + d ≤ 20600 → q_Q n B tm v z → z (252 + p) = had → ∃ r v' z', zk_fx (F_X1_tickOfCall_24 (nI p) had) f1 (nI i, v) = some (r, v') ∧ zk_fx (F_X10_when_44 (nI p) had sp) f2 (nI i, z) = some (r, z', sp) ∧ ∀ j, j < 368 → z' j = sp j
  | 0, i, f1, f2, tm, v, z, hi, h1, h2, ht, hQ, hz => by
    obtain ⟨f1, rfl⟩ : ∃ k, f1 = k + 1 := ⟨f1 - 1, by omega⟩
    obtain ⟨f2, rfl⟩ : ∃ k, f2 = k + 1 := ⟨f2 - 1, by omega⟩
    have c1 : (600 : Int32) ≤ nI i := by
      rw [q_l600]
      exact nI_le (by omega) (by omega)
    have e1 : ∀ kk, F_X1_tickOfCall_24 (nI p) had kk (nI i, v) = some (-9, v) := fun kk => by
      unfold F_X1_tickOfCall_24
      dsimp only
      rw [if_pos c1]
    have e2 : ∀ kk, F_X10_when_44 (nI p) had sp kk (nI i, z) = some (-9, va_cpy sp z 0 0 368, sp) := fun kk => by
      unfold F_X10_when_44
      dsimp only
      rw [if_pos c1, q_when75 (by omega), hz, if_pos (Int32.le_refl _)]
    exact ⟨-9, v, va_cpy sp z 0 0 368, by rw [zk_fx_s, e1], by rw [zk_fx_s, e2], q_back⟩
  | d + 1, i, f1, f2, tm, v, z, hi, h1, h2, ht, hQ, hz => by
    obtain ⟨f1, rfl⟩ : ∃ k, f1 = k + 1 := ⟨f1 - 1, by omega⟩
    obtain ⟨f2, rfl⟩ : ∃ k, f2 = k + 1 := ⟨f2 - 1, by omega⟩
    have c1 : ¬ (600 : Int32) ≤ nI i := by
      rw [q_l600]
      exact nI_ge (by omega) (by omega)
    obtain ⟨r, z', k1, k2, hQ', hmo⟩ := hQ.tick (by omega) hB
    have hmo := hmo p hp
    rw [hz] at hmo
    have hc : f_X5_fact (nI p) 4 r.1.1 = some (z' (252 + p)) := hQ'.called hp
    have htm : r.2.2.2.1 = z' 0 := hQ'.time
    have e2 : ∀ kk, F_X10_when_44 (nI p) had sp kk (nI i, z) = kk (nI (i + 1), z') := fun kk => by
      unfold F_X10_when_44
      dsimp only
      rw [if_neg c1, q_a252, q_ck (by omega) (by omega), q_cl (by omega), if_pos hz, k2, Option.bind_some, nI_1]
    by_cases c : z' (252 + p) = had
    · have e1 : ∀ kk, F_X1_tickOfCall_24 (nI p) had kk (nI i, v) = kk (nI (i + 1), q_tk v r) := fun kk => by
        unfold F_X1_tickOfCall_24
        dsimp only
        rw [if_neg c1, k1, Option.bind_some, hc, Option.bind_some, if_pos c, nI_1]
        rfl
      rw [zk_fx_s, e1, zk_fx_s, e2]
      exact q_when_loop hB hp hn d (i + 1) f1 f2 (tm + 1) (q_tk v r) z' (by omega) (by omega) (by omega) (by omega) hQ' c
    · have hlt := hmo.resolve_left c
      have e1 : ∀ kk, F_X1_tickOfCall_24 (nI p) had kk (nI i, v) = some (z' 0, q_tk v r) := fun kk => by
        unfold F_X1_tickOfCall_24
        dsimp only
        rw [if_neg c1, k1, Option.bind_some, hc, Option.bind_some, if_neg c, htm]
        exact congrArg some (congrArg (Prod.mk (z' 0)) (by rw [← htm]; rfl))
      obtain ⟨f2, rfl⟩ : ∃ k, f2 = k + 1 := ⟨f2 - 1, by omega⟩
      have e3 : ∀ kk, F_X10_when_44 (nI p) had sp kk (nI (i + 1), z') = some (z' 0, va_cpy sp z' 0 0 368, sp) := fun kk => by
        unfold F_X10_when_44
        dsimp only
        rw [q_when75 (by omega), if_neg (Int32.not_le.mpr hlt), q_a252, q_ck (by omega) (by omega), q_cl (by omega), if_neg c]
        exact ite_self _
      exact ⟨z' 0, q_tk v r, va_cpy sp z' 0 0 368, by rw [zk_fx_s, e1], by rw [zk_fx_s, e2, zk_fx_s, e3], q_back⟩
theorem q_c_when {B : Nat} {st : VX6} {z : Nat → Int32} (h : q_R B 20000 st.1 z) (hB : B ≤ 400000000) (fc : VX1) (sp : Nat → Int32) (x : Int32) : ∃ r fc' z' sp', f_X9_when x st fc = some (r, fc') ∧ f_X10_when x z sp = some (r, z', sp') ∧ ∀ i, i < 368 → z' i = z i := by
  obtain ⟨n, hQ⟩ := h.q
  obtain ⟨hz1, hn, hv⟩ := hQ.num
  unfold f_X9_when f_X10_when
  rw [hv]
  rcases q_isP hz1 hn x with ⟨e1, e2⟩ | ⟨p, hp, rfl, e1, e2⟩
  · exact ⟨-1, fc, z, sp, by rw [e1, Option.bind_some, if_pos rfl], by rw [e2, Option.bind_some, if_pos rfl], fun _ _ => rfl⟩
  obtain ⟨s1, s2⟩ := hQ.state hp
  rw [e1, e2, Option.bind_some, Option.bind_some, if_neg (show ¬ (1 : Int32) = 0 by decide), if_neg (show ¬ (1 : Int32) = 0 by decide), q_isAlive (by omega) _ (by rw [s1]; exact s2), s1, Option.bind_some, q_a132, q_ck (by omega) (by omega), q_cl (by omega)]
  by_cases c : z (132 + p) ≤ 1
  · obtain ⟨v', k1, hQ'⟩ := hQ.copy fc.1 fc.2.1 fc.2.2.1
    obtain ⟨r, v2, z2, l1, l2, l3⟩ := q_when_loop hB hp hn (sp := va_cpy z sp 0 0 368) 600 0 zk_N zk_N 20000 v' z (by omega) (by unfold zk_N; omega) (by unfold zk_N; omega) (by omega) hQ' rfl
    refine ⟨r, v2, z2, va_cpy z sp 0 0 368, ?_, ?_, fun i hi => (l3 i hi).trans (q_back i hi)⟩
    · rw [if_pos c, if_neg (show ¬ (1 : Int32) = 0 by decide)]
      unfold f_X1_tickOfCall
      rw [k1, Option.bind_some, hQ'.called hp, Option.bind_some]
      have l1 : zk_fx (F_X1_tickOfCall_24 (nI p) (z (252 + p))) zk_N (0, v') = _ := l1
      rw [l1, Option.bind_some]
    · rw [if_pos c, q_keepAside, Option.bind_some, q_a252, q_ck (by omega) (by omega), q_cl (by omega), q_let]
      exact l2
  · exact ⟨-2, fc, z, sp, by rw [if_neg c, if_pos rfl], by rw [if_neg c], fun _ _ => rfl⟩
/-! would -/
theorem q_would112 (x : Int32) (z sp : Nat → Int32) : f_X10_would_112 x z sp = some (x, va_cpy sp z 0 0 368, sp) := by
  unfold f_X10_would_112
  rw [q_bringBack, Option.bind_some]
theorem q_would_loop {n B m : Nat} (hB : B ≤ 400000000) (hm : m ≤ 600) {u : VX8} {sp : Nat → Int32} (h5 : u.2.2.1.2 = sp 5) (h6 : u.2.2.2.2.2.2.2.2.1 = sp 6) (w : Int32) {v : VX8} {z : Nat → Int32} (h : q_Q n B 20000 v z) : ∃ r1 r2, (r1.1 = r2.1 ∧ r2.2.2 = sp ∧ ∀ j, j < 368 → r2.2.1 j = sp j) ∧ zk_fx (F_X1_outcome_14 (nI m) w u.2.2.1 u.2.2.2.2.2.2.2.2.1) zk_N (0, 0, v) = some r1 ∧ zk_fx (F_X10_would_32 (nI m) w sp) zk_N (0, 0, z) = some r2 := by
  refine q_loop2 (n := m) (P := fun (r1 : Int32 × VX8) (r2 : Int32 × (Nat → Int32) × (Nat → Int32)) => r1.1 = r2.1 ∧ r2.2.2 = sp ∧ ∀ j, j < 368 → r2.2.1 j = sp j) (fun i (s1 : Int32 × Int32 × VX8) (s2 : Int32 × Int32 × (Nat → Int32)) => i ≤ m ∧ s1.2.1 = nI i ∧ s2.2.1 = nI i ∧ (∃ a, a ≤ 40 ∧ s1.1 = nI a ∧ s2.1 = nI a) ∧ q_Q n B (20000 + i) s1.2.2 s2.2.2) ?_ m 0 zk_N zk_N _ _ (by omega) (by unfold zk_N; omega) (by unfold zk_N; omega) ⟨by omega, rfl, rfl, ⟨0, by omega, rfl, rfl⟩, h⟩
  clear h
  intro i s1 s2 hi
  obtain ⟨x1, x2, v⟩ := s1
  obtain ⟨y1, y2, z⟩ := s2
  obtain ⟨him, e1, e2, ⟨a, ha, e3, e4⟩, hQ⟩ := hi
  dsimp only at e1 e2 e3 e4 hQ
  subst e1 e2 e3 e4
  by_cases hmi : i < m
  · left
    refine ⟨hmi, ?_⟩
    have c1 : ¬ nI m ≤ nI i := nI_ge hmi (by omega)
    obtain ⟨r, z', k1, k2, hQ', -⟩ := hQ.tick (by omega) hB
    obtain ⟨b, hb, g1, g2⟩ := hQ'.ready
    have g1 : f_X5_howManyIn 1 r.1.1 r.1.2 = some (nI b) := g1
    by_cases c : a < b
    · refine ⟨(nI b, nI (i + 1), q_tk v r), (nI b, nI (i + 1), z'), ⟨by omega, rfl, rfl, ⟨b, hb, rfl, rfl⟩, hQ'⟩, fun kk => ?_, fun kk => ?_⟩
      · unfold F_X1_outcome_14
        dsimp only
        rw [if_neg c1, k1, Option.bind_some, g1, Option.bind_some, q_let, if_pos (show nI a < nI b from nI_lt c (by omega)), nI_1]
        rfl
      · unfold F_X10_would_32 f_X10_would_61
        dsimp only
        rw [if_neg c1, k2, Option.bind_some, g2, Option.bind_some, if_neg (nI_ge c (by omega)), nI_1]
    · refine ⟨(nI a, nI (i + 1), q_tk v r), (nI a, nI (i + 1), z'), ⟨by omega, rfl, rfl, ⟨a, ha, rfl, rfl⟩, hQ'⟩, fun kk => ?_, fun kk => ?_⟩
      · unfold F_X1_outcome_14
        dsimp only
        rw [if_neg c1, k1, Option.bind_some, g1, Option.bind_some, q_let, if_neg (show ¬ nI a < nI b from nI_nlt (by omega) (by omega)), nI_1]
        rfl
      · unfold F_X10_would_32 f_X10_would_61
        dsimp only
        rw [if_neg c1, k2, Option.bind_some, g2, Option.bind_some, if_pos (show nI b ≤ nI a from nI_le (by omega) (by omega)), nI_1]
  · right
    have e : i = m := by omega
    subst e
    have c1 : nI i ≤ nI i := nI_le (Nat.le_refl _) (by omega)
    have q5 := hQ.calls
    have q6 := hQ.late
    by_cases w0 : w = 0
    · refine ⟨(z 5 - sp 5, v), (z 5 - sp 5, va_cpy sp z 0 0 368, sp), ⟨rfl, rfl, q_back⟩, fun kk => ?_, fun kk => ?_⟩
      · unfold F_X1_outcome_14 f_X0_calls
        dsimp only
        rw [if_pos c1, if_pos w0, Option.bind_some, Option.bind_some, q5, h5]
      · unfold F_X10_would_32
        dsimp only
        rw [if_pos c1, if_pos w0, q_k5, q_k5, q_n5, q_would112]
    by_cases w1 : w = 1
    · refine ⟨(z 6 - sp 6, v), (z 6 - sp 6, va_cpy sp z 0 0 368, sp), ⟨rfl, rfl, q_back⟩, fun kk => ?_, fun kk => ?_⟩
      · unfold F_X1_outcome_14
        dsimp only
        rw [if_pos c1, if_neg w0, if_pos w1, q6, h6]
      · unfold F_X10_would_32
        dsimp only
        rw [if_pos c1, if_neg w0, if_pos w1, q_k6, q_k6, q_n6, q_would112]
    refine ⟨(nI a, v), (nI a, va_cpy sp z 0 0 368, sp), ⟨rfl, rfl, q_back⟩, fun kk => ?_, fun kk => ?_⟩
    · unfold F_X1_outcome_14
      dsimp only
      rw [if_pos c1, if_neg w0, if_neg w1]
    · unfold F_X10_would_32
      dsimp only
      rw [if_pos c1, if_neg w0, if_neg w1, q_would112]
theorem q_c_would {B : Nat} {st : VX6} {z : Nat → Int32} (h : q_R B 20000 st.1 z) (hB : B ≤ 400000000) (fc : VX1) (sp : Nat → Int32) (x y : Int32) : ∃ r fc' z' sp', f_X9_would x y st fc = some (r, fc') ∧ f_X10_would x y z sp = some (r, z', sp') ∧ ∀ i, i < 368 → z' i = z i := by
  obtain ⟨n, hQ⟩ := h.q
  unfold f_X9_would f_X10_would
  by_cases c1 : x < 1
  · exact ⟨-1, fc, z, sp, by rw [if_pos c1], by rw [if_pos c1], fun _ _ => rfl⟩
  by_cases c2 : 600 < x
  · exact ⟨-1, fc, z, sp, by rw [if_neg c1, if_pos c2], by rw [if_neg c1, if_pos c2], fun _ _ => rfl⟩
  by_cases c3 : y < 0
  · exact ⟨-1, fc, z, sp, by rw [if_neg c1, if_neg c2, if_pos c3], by rw [if_neg c1, if_neg c2, if_pos c3], fun _ _ => rfl⟩
  by_cases c4 : y ≤ 2
  · obtain ⟨m, hm, rfl⟩ := nI_of2 (x := x) (M := 600) (n := 600) rfl (fun w => c1 (Int32.lt_trans w (by decide))) (Int32.not_lt.mp c2)
    obtain ⟨v', k1, hQ'⟩ := hQ.copy fc.1 fc.2.1 fc.2.2.1
    obtain ⟨r1, r2, ⟨a1, a2, a3⟩, l1, l2⟩ := q_would_loop hB hm (u := st.1) (sp := va_cpy z sp 0 0 368) (by rw [hQ.calls, q_back 5 (by omega)]) (by rw [hQ.late, q_back 6 (by omega)]) y hQ'
    refine ⟨r1.1, r1.2, r2.2.1, r2.2.2, ?_, ?_, fun i hi => (a3 i hi).trans (q_back i hi)⟩
    · rw [if_neg c1, if_neg c2, if_neg c3, if_pos c4]
      unfold f_X1_outcome
      rw [k1, Option.bind_some, l1, Option.bind_some]
    · rw [if_neg c1, if_neg c2, if_neg c3, if_pos c4, q_keepAside, Option.bind_some, l2, a1]
  · exact ⟨-1, fc, z, sp, by rw [if_neg c1, if_neg c2, if_neg c3, if_neg c4], by rw [if_neg c1, if_neg c2, if_neg c3, if_neg c4], fun _ _ => rfl⟩
/-! leastRoom -/
theorem q_timely {n B m : Nat} (hB : B ≤ 400000000) (hm : m ≤ 600) {sp : Nat → Int32} {v : VX8} {z : Nat → Int32} (h : q_Q n B 20000 v z) : ∃ r1 r2, (r1.1 = r2.1 ∧ (∀ j, j < 368 → r2.2.1 j = sp j)) ∧ zk_fx (F_X1_isTimely_10 (nI m) (sp 6)) zk_N (0, v) = some r1 ∧ zk_fx (F_X10_isNeverLate_13 (nI m) sp) zk_N (0, z) = some r2 := by
  have fin : ∀ (v : VX8) (z : Nat → Int32) (tm : Nat), q_Q n B tm v z → ∃ r1 r2, (r1.1 = r2.1 ∧ (∀ j, j < 368 → r2.2.1 j = sp j)) ∧ f_X1_isTimely_39 (sp 6) v = some r1 ∧ f_X10_isNeverLate_45 z sp = some r2 := by
    intro v z tm hQ
    have q6 := hQ.late
    unfold f_X1_isTimely_39 f_X10_isNeverLate_45 f_X10_isNeverLate_67 zk_bz
    rw [q6, q_k6, q_k6, q_n6, q_bringBack, Option.bind_some, Option.bind_some, if_pos (Or.inr rfl), if_pos (Or.inl rfl)]
    by_cases c : z 6 = sp 6
    · exact ⟨(1, v), (1, va_cpy sp z 0 0 368, sp), ⟨rfl, q_back⟩, by rw [if_pos c], by rw [if_pos c]⟩
    · exact ⟨(0, v), (0, va_cpy sp z 0 0 368, sp), ⟨rfl, q_back⟩, by rw [if_neg c], by rw [if_neg c]⟩
  refine q_loop2 (n := m) (P := fun (r1 : Int32 × VX8) (r2 : Int32 × (Nat → Int32) × (Nat → Int32)) => r1.1 = r2.1 ∧ (∀ j, j < 368 → r2.2.1 j = sp j)) (fun i (s1 : Int32 × VX8) (s2 : Int32 × (Nat → Int32)) => i ≤ m ∧ s1.1 = nI i ∧ s2.1 = nI i ∧ q_Q n B (20000 + i) s1.2 s2.2) ?_ m 0 zk_N zk_N _ _ (by omega) (by unfold zk_N; omega) (by unfold zk_N; omega) ⟨by omega, rfl, rfl, h⟩
  clear h
  intro i s1 s2 hi
  obtain ⟨x1, v⟩ := s1
  obtain ⟨y1, z⟩ := s2
  obtain ⟨him, e1, e2, hQ⟩ := hi
  dsimp only at e1 e2 hQ
  subst e1 e2
  have q6 := hQ.late
  by_cases c : i < m ∧ z 6 = sp 6
  · left
    obtain ⟨hmi, c6⟩ := c
    refine ⟨hmi, ?_⟩
    have c1 : ¬ nI m ≤ nI i := nI_ge hmi (by omega)
    obtain ⟨r, z', k1, k2, hQ', -⟩ := hQ.tick (by omega) hB
    refine ⟨(nI (i + 1), q_tk v r), (nI (i + 1), z'), ⟨by omega, rfl, rfl, hQ'⟩, fun kk => ?_, fun kk => ?_⟩
    · unfold F_X1_isTimely_10
      dsimp only
      rw [if_neg c1, if_pos (q6.trans c6), k1, Option.bind_some, nI_1]
      rfl
    · unfold F_X10_isNeverLate_13
      dsimp only
      rw [if_neg c1, q_k6, q_k6, q_n6, if_pos c6, k2, Option.bind_some, nI_1]
  · right
    obtain ⟨r1, r2, a, b1, b2⟩ := fin v z _ hQ
    refine ⟨r1, r2, a, fun kk => ?_, fun kk => ?_⟩
    · unfold F_X1_isTimely_10
      dsimp only
      by_cases d : i < m
      · rw [if_neg (nI_ge d (by omega)), if_neg (fun y => c ⟨d, q6.symm.trans y⟩)]
        exact b1
      · rw [if_pos (nI_le (by omega) (by omega))]
        exact b1
    · unfold F_X10_isNeverLate_13
      dsimp only
      by_cases d : i < m
      · rw [if_neg (nI_ge d (by omega)), q_k6, q_k6, q_n6, if_neg (fun y => c ⟨d, y⟩)]
        exact b2
      · rw [if_pos (nI_le (by omega) (by omega))]
        exact b2
theorem q_least_loop {n B m : Nat} (hB : B ≤ 400000000) (hm : m ≤ 600) {u : VX8} : ∀ (d i f1 f2 : Nat) (v : VX8) (z sp : Nat → Int32), i + d = 20 → d < f1 → d + 1 < f2 → q_Q n B 20000 u z → ∃ r v' z' sp', zk_fx (F_X1_leastTimelyRoom_2 (nI m) u.1 u.2.1 u.2.2.1 u.2.2.2.1 u.2.2.2.2.1 u.2.2.2.2.2.1 u.2.2.2.2.2.2.1 u.2.2.2.2.2.2.2.1 u.2.2.2.2.2.2.2.2.1 u.2.2.2.2.2.2.2.2.2.1 u.2.2.2.2.2.2.2.2.2.2.1 u.2.2.2.2.2.2.2.2.2.2.2.1 u.2.2.2.2.2.2.2.2.2.2.2.2) f1 (nI (i + 1), v) = some (r, v') ∧ zk_fx (F_X10_leastRoom_19 (nI m)) f2 (-9, nI (i + 1), z, sp) = some (r, z', sp') ∧ ∀ j, j < 368 → z' j = z j
  | 0, i, f1, f2, v, z, sp, hi, h1, h2, hQ => by
    obtain ⟨f1, rfl⟩ : ∃ k, f1 = k + 1 := ⟨f1 - 1, by omega⟩
    obtain ⟨f2, rfl⟩ : ∃ k, f2 = k + 1 := ⟨f2 - 1, by omega⟩
    have c1 : (20 : Int32) < nI (i + 1) := nI_lt (a := 20) (by omega) (by omega)
    refine ⟨-9, v, z, sp, ?_, ?_, fun _ _ => rfl⟩
    · rw [zk_fx_s, F_X1_leastTimelyRoom_2]
      try dsimp only
      rw [if_pos c1]
    · rw [zk_fx_s, F_X10_leastRoom_19]
      try dsimp only
      rw [if_pos c1]
  | d + 1, i, f1, f2, v, z, sp, hi, h1, h2, hQ => by
    obtain ⟨f1, rfl⟩ : ∃ k, f1 = k + 1 := ⟨f1 - 1, by omega⟩
    obtain ⟨f2, rfl⟩ : ∃ k, f2 = k + 1 := ⟨f2 - 1, by omega⟩
    have c1 : ¬ (20 : Int32) < nI (i + 1) := nI_nlt (a := 20) (by omega) (by omega)
    obtain ⟨w, k1, hQ'⟩ := hQ.copy v.1 v.2.1 v.2.2.1
    have hR := hQ'.room (r := i + 1) (by omega) (by omega)
    obtain ⟨r1, r2, ⟨a1, a2⟩, l1, l2⟩ := q_timely hB hm (sp := va_cpy z sp 0 0 368) hR
    rw [q_back 6 (by omega), ← hQ'.late] at l1
    have hl : f_X10_isNeverLate (nI (i + 1)) (nI m) z sp = some r2 := by
      unfold f_X10_isNeverLate
      rw [q_keepAside, Option.bind_some, q_k2, q_let, q_n2]
      exact l2
    have hc : f_X1_isTimely (nI m) (w.1, w.2.1, w.2.2.1, w.2.2.2.1, nI (i + 1), w.2.2.2.2.2) = some r1 := l1
    have hz : ∀ j, j < 368 → r2.2.1 j = z j := fun j hj => (a2 j hj).trans (q_back j hj)
    by_cases c : r2.1 = 0
    · have e1 : ∀ kk, F_X1_leastTimelyRoom_2 (nI m) u.1 u.2.1 u.2.2.1 u.2.2.2.1 u.2.2.2.2.1 u.2.2.2.2.2.1 u.2.2.2.2.2.2.1 u.2.2.2.2.2.2.2.1 u.2.2.2.2.2.2.2.2.1 u.2.2.2.2.2.2.2.2.2.1 u.2.2.2.2.2.2.2.2.2.2.1 u.2.2.2.2.2.2.2.2.2.2.2.1 u.2.2.2.2.2.2.2.2.2.2.2.2 kk (nI (i + 1), v) = kk (nI (i + 1 + 1), r1.2) := fun kk => by
        unfold F_X1_leastTimelyRoom_2
        dsimp only
        rw [if_neg c1, k1, Option.bind_some, hc, Option.bind_some, if_pos (a1.trans c), nI_1]
      have e2 : ∀ kk, F_X10_leastRoom_19 (nI m) kk (-9, nI (i + 1), z, sp) = kk (-9, nI (i + 1 + 1), r2.2.1, r2.2.2) := fun kk => by
        unfold F_X10_leastRoom_19 f_X10_leastRoom_46
        dsimp only
        rw [if_neg c1, if_pos rfl, hl, Option.bind_some, if_pos c, nI_1]
      rw [zk_fx_s, e1, zk_fx_s, e2]
      obtain ⟨r, v', z', sp', g1, g2, g3⟩ := q_least_loop hB hm d (i + 1) f1 f2 r1.2 r2.2.1 r2.2.2 (by omega) (by omega) (by omega) (hQ.cong hz)
      exact ⟨r, v', z', sp', g1, g2, fun j hj => (g3 j hj).trans (hz j hj)⟩
    · obtain ⟨f2, rfl⟩ : ∃ k, f2 = k + 1 := ⟨f2 - 1, by omega⟩
      have e1 : ∀ kk, F_X1_leastTimelyRoom_2 (nI m) u.1 u.2.1 u.2.2.1 u.2.2.2.1 u.2.2.2.2.1 u.2.2.2.2.2.1 u.2.2.2.2.2.2.1 u.2.2.2.2.2.2.2.1 u.2.2.2.2.2.2.2.2.1 u.2.2.2.2.2.2.2.2.2.1 u.2.2.2.2.2.2.2.2.2.2.1 u.2.2.2.2.2.2.2.2.2.2.2.1 u.2.2.2.2.2.2.2.2.2.2.2.2 kk (nI (i + 1), v) = some (nI (i + 1), r1.2) := fun kk => by
        unfold F_X1_leastTimelyRoom_2
        dsimp only
        rw [if_neg c1, k1, Option.bind_some, hc, Option.bind_some, if_neg (fun y => c (a1.symm.trans y))]
      have e2 : ∀ kk, F_X10_leastRoom_19 (nI m) kk (-9, nI (i + 1), z, sp) = kk (nI (i + 1), nI (i + 1 + 1), r2.2.1, r2.2.2) := fun kk => by
        unfold F_X10_leastRoom_19 f_X10_leastRoom_46
        dsimp only
        rw [if_neg c1, if_pos rfl, hl, Option.bind_some, if_neg c, nI_1]
      have e3 : ∀ kk, F_X10_leastRoom_19 (nI m) kk (nI (i + 1), nI (i + 1 + 1), r2.2.1, r2.2.2) = some (nI (i + 1), r2.2.1, r2.2.2) := fun kk => by
        unfold F_X10_leastRoom_19
        dsimp only
        rw [if_neg (show ¬ nI (i + 1) = -9 from fun y => nI_pos (n := i + 1) (by omega) (by rw [y]; decide))]
        exact ite_self _
      exact ⟨nI (i + 1), r1.2, r2.2.1, r2.2.2, by rw [zk_fx_s, e1], by rw [zk_fx_s, e2, zk_fx_s, e3], hz⟩
theorem q_c_least {B : Nat} {st : VX6} {z : Nat → Int32} (h : q_R B 20000 st.1 z) (hB : B ≤ 400000000) (fc : VX1) (sp : Nat → Int32) (x : Int32) : ∃ r fc' z' sp', f_X9_leastRoom x st fc = some (r, fc') ∧ f_X10_leastRoom x z sp = some (r, z', sp') ∧ ∀ i, i < 368 → z' i = z i := by
  obtain ⟨n, hQ⟩ := h.q
  unfold f_X9_leastRoom f_X10_leastRoom
  by_cases c1 : x < 1
  · exact ⟨-1, fc, z, sp, by rw [if_pos c1], by rw [if_pos c1], fun _ _ => rfl⟩
  by_cases c2 : x ≤ 200
  · obtain ⟨m, hm, rfl⟩ := nI_of2 (x := x) (M := 200) (n := 200) rfl (fun w => c1 (Int32.lt_trans w (by decide))) c2
    obtain ⟨r, v', z', sp', g1, g2, g3⟩ := q_least_loop hB (m := m) (by omega) (u := st.1) 20 0 zk_N zk_N fc z sp (by omega) (by unfold zk_N; omega) (by unfold zk_N; omega) hQ
    refine ⟨r, v', z', sp', ?_, ?_, g3⟩
    · rw [if_neg c1, if_pos c2]
      unfold f_X1_leastTimelyRoom
      rw [show nI (0 + 1) = 1 from rfl] at g1
      rw [g1, Option.bind_some]
    · rw [if_neg c1, if_pos c2]
      exact g2
  · exact ⟨-1, fc, z, sp, by rw [if_neg c1, if_neg c2], by rw [if_neg c1, if_neg c2], fun _ _ => rfl⟩
