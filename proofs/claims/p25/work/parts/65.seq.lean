/-! PURE PART of p25: ticks one behind another; would, when, leastRoom -/
def gw_q (z : Nat → Int32) : Nat → (Nat → Int32)
  | 0 => z
  | k + 1 => (f_X10_tick (gw_q z k)).getD (gw_q z k)
theorem gw_q_s {z z' : Nat → Int32} {k : Nat} (h : f_X10_tick (gw_q z k) = some z') : gw_q z (k + 1) = z' := by
  show (f_X10_tick (gw_q z k)).getD (gw_q z k) = z'
  rw [h]
  rfl
/-- the ticks up to M are there -/
def gw_OK (z : Nat → Int32) (M : Nat) : Prop := ∀ i, i < M → f_X10_tick (gw_q z i) = some (gw_q z (i + 1))
theorem gw_OK.mono {z : Nat → Int32} {M M' : Nat} (h : gw_OK z M) (e : M' ≤ M) : gw_OK z M' := fun i hi => h i (by omega)
theorem gw_OK.run {n t M : Nat} {z : Nat → Int32} (h : gw_OK z M) (hI : gw_I n t z) (ht : t + M ≤ 25000) : ∀ k, k ≤ M → gw_I n (t + k) (gw_q z k)
  | 0, _ => hI
  | k + 1, hk => by
    have ih := gw_OK.run h hI ht k (by omega)
    obtain ⟨⟨a, r, -, -, -, K⟩, -⟩ := gw_tick ih (by omega) _ (h k (by omega))
    exact K.1
theorem gw_OK.tick {n t M k : Nat} {z : Nat → Int32} (h : gw_OK z M) (hI : gw_I n t z) (ht : t + M ≤ 25000) (hk : k < M) : gw_T n (t + k + 1) (gw_q z k) (gw_q z (k + 1)) := gw_tick (h.run hI ht k (by omega)) (by omega) _ (h k hk)
/-- the late ones -/
theorem gw_OK.late {n t M : Nat} {z : Nat → Int32} (h : gw_OK z M) (hI : gw_I n t z) (ht : t + M ≤ 25000) : ∀ d i, i + d ≤ M → ∃ e, e ≤ 20 * d ∧ gw_q z (i + d) 6 = gw_q z i 6 + nI e
  | 0, i, _ => ⟨0, by omega, (gw_ad0 _).symm⟩
  | d + 1, i, hd => by
    obtain ⟨e, he, h1⟩ := gw_OK.late h hI ht d i (by omega)
    obtain ⟨⟨a, r, -, hr, ha, K⟩, -⟩ := h.tick hI ht (k := i + d) (by omega)
    obtain ⟨b, hb, h2⟩ := K.2.2.2.2.2.1
    refine ⟨e + b, by omega, ?_⟩
    rw [show i + (d + 1) = i + d + 1 by omega, h2, h1, Int32.add_assoc, nI_add]
theorem gw_addz {x : Int32} {d : Nat} (hd : d < 2 ^ 31) (h : x + nI d = x) : d = 0 := by
  have h2 : nI d + x - x = x - x := by rw [Int32.add_comm, h]
  rw [Int32.add_sub_cancel, Int32.sub_self] at h2
  exact (nI_eq (b := 0) hd (by omega)).mp h2
theorem gw_subz {x : Int32} {d : Nat} : x + nI d - x = nI d := by rw [Int32.add_comm, Int32.add_sub_cancel]
theorem gw_OK.lateNe {n t M i : Nat} {z : Nat → Int32} (h : gw_OK z M) (hI : gw_I n t z) (ht : t + M ≤ 25000) (hM : M ≤ 600) (hi : i ≤ M) (hne : gw_q z i 6 ≠ z 6) : gw_q z M 6 ≠ z 6 := by
  obtain ⟨d1, a1, a2⟩ := h.late hI ht i 0 (by omega)
  obtain ⟨d2, b1, b2⟩ := h.late hI ht (M - i) i (by omega)
  rw [Nat.zero_add] at a2
  have a2 : gw_q z i 6 = z 6 + nI d1 := a2
  rw [show i + (M - i) = M by omega, a2, Int32.add_assoc, nI_add] at b2
  intro y
  have h0 := gw_addz (by omega) (b2.symm.trans y)
  have hd : d1 = 0 := by omega
  rw [hd, gw_ad0] at a2
  exact hne a2
section GQ
variable {n B tm t m : Nat} {v u : VX8} {z : Nat → Int32}
theorem gw_step {k : Nat} (h : q_Q n B tm v (gw_q z k)) (htm : tm < 20600) (hB : B ≤ 400000000) : ∃ r, f_X8_passTick v.1 v.2.1 v.2.2.1 v.2.2.2.1 v.2.2.2.2.1 v.2.2.2.2.2.1 v.2.2.2.2.2.2.1 v.2.2.2.2.2.2.2.1 v.2.2.2.2.2.2.2.2.1 v.2.2.2.2.2.2.2.2.2.1 v.2.2.2.2.2.2.2.2.2.2.1 v.2.2.2.2.2.2.2.2.2.2.2.1 v.2.2.2.2.2.2.2.2.2.2.2.2 = some r ∧ q_Q n B (tm + 1) (q_tk v r) (gw_q z (k + 1)) ∧ f_X10_tick (gw_q z k) = some (gw_q z (k + 1)) := by
  obtain ⟨r, z', k1, k2, hQ, -⟩ := h.tick htm hB
  have e := gw_q_s k2
  exact ⟨r, k1, by rw [e]; exact hQ, by rw [e]; exact k2⟩
theorem gw_okQ (h : q_Q n B tm v z) (hB : B ≤ 400000000) : ∀ M, tm + M ≤ 20600 → (∃ v', q_Q n B (tm + M) v' (gw_q z M)) ∧ gw_OK z M
  | 0, _ => ⟨⟨v, h⟩, fun i hi => absurd hi (Nat.not_lt_zero i)⟩
  | M + 1, hM => by
    obtain ⟨⟨v', hv⟩, hk⟩ := gw_okQ h hB M (by omega)
    obtain ⟨r, -, k2, k3⟩ := gw_step hv (by omega) hB
    refine ⟨⟨_, k2⟩, fun i hi => ?_⟩
    by_cases e : i = M
    · rw [e]
      exact k3
    · exact hk i (by omega)
/-- how many are ready -/
def gw_rd (n : Nat) (z : Nat → Int32) : Nat := q_cn (fun q => decide (z (132 + q) = 1)) n
def gw_mx (n : Nat) (z : Nat → Int32) : Nat → Nat
  | 0 => 0
  | k + 1 => if gw_mx n z k < gw_rd n (gw_q z (k + 1)) then gw_rd n (gw_q z (k + 1)) else gw_mx n z k
theorem gw_rd_le (n : Nat) (z : Nat → Int32) (hn : n ≤ 40) : gw_rd n z ≤ 40 := Nat.le_trans (q_cn_le _ n) hn
theorem gw_mx_le (n : Nat) (z : Nat → Int32) (hn : n ≤ 40) : ∀ k, gw_mx n z k ≤ 40
  | 0 => by unfold gw_mx; omega
  | k + 1 => by
    unfold gw_mx
    split
    · exact gw_rd_le n _ hn
    · exact gw_mx_le n z hn k
theorem gw_rdy (h : q_Q n B tm v z) : f_X5_howManyIn 1 v.1.1 v.1.2 = some (nI (gw_rd n z)) := by
  obtain ⟨k, t, ⟨L, c, T', hV, -⟩, -⟩ := h
  rw [hV.1.1]
  exact q_howMany hV.n4 hV.1.2 1
theorem gw_outcome (hB : B ≤ 400000000) (hm : m ≤ 600) (htm : tm + m ≤ 20600) (h : q_Q n B tm v z) (w : Int32) (u5 : VX0) (u6 : Int32) : ∃ v', zk_fx (F_X1_outcome_14 (nI m) w u5 u6) zk_N (0, 0, v) = some (if w = 0 then gw_q z m 5 - u5.2 else if w = 1 then gw_q z m 6 - u6 else nI (gw_mx n z m), v') := by
  have hn := h.num.2.1
  refine q_loop (n := m) (P := fun o => ∃ v', o = some (if w = 0 then gw_q z m 5 - u5.2 else if w = 1 then gw_q z m 6 - u6 else nI (gw_mx n z m), v')) (fun i (s : Int32 × Int32 × VX8) => i ≤ m ∧ s.2.1 = nI i ∧ s.1 = nI (gw_mx n z i) ∧ q_Q n B (tm + i) s.2.2 (gw_q z i)) ?_ m 0 zk_N _ (by omega) (by unfold zk_N; omega) ⟨by omega, rfl, rfl, h⟩
  clear h
  intro i s hi
  obtain ⟨x4, x5, v⟩ := s
  obtain ⟨him, e1, e2, hQ⟩ := hi
  dsimp only at e1 e2 hQ
  subst e1 e2
  by_cases hmi : i < m
  · left
    obtain ⟨r, k1, hQ', -⟩ := gw_step hQ (by omega) hB
    have g1 : f_X5_howManyIn 1 r.1.1 r.1.2 = some (nI (gw_rd n (gw_q z (i + 1)))) := gw_rdy hQ'
    have b1 := gw_mx_le n z hn i
    have b2 := gw_rd_le n (gw_q z (i + 1)) hn
    refine ⟨hmi, (nI (gw_mx n z (i + 1)), nI (i + 1), q_tk v r), ⟨by omega, rfl, rfl, hQ'⟩, fun kk => ?_⟩
    have e : (if nI (gw_mx n z i) < nI (gw_rd n (gw_q z (i + 1))) then nI (gw_rd n (gw_q z (i + 1))) else nI (gw_mx n z i)) = nI (gw_mx n z (i + 1)) := by
      show _ = nI (if gw_mx n z i < gw_rd n (gw_q z (i + 1)) then gw_rd n (gw_q z (i + 1)) else gw_mx n z i)
      by_cases c : gw_mx n z i < gw_rd n (gw_q z (i + 1))
      · rw [if_pos c, if_pos (nI_lt c (by omega))]
      · rw [if_neg c, if_neg (nI_nlt (by omega) (by omega))]
    unfold F_X1_outcome_14
    dsimp only
    rw [if_neg (nI_ge hmi (by omega)), k1, Option.bind_some, g1, Option.bind_some, q_let, e, nI_1]
    rfl
  · right
    intro kk
    have e : i = m := by omega
    subst e
    refine ⟨v, ?_⟩
    unfold F_X1_outcome_14 f_X0_calls
    dsimp only
    rw [if_pos (nI_le (Nat.le_refl _) (by omega)), Option.bind_some, Option.bind_some, hQ.calls, hQ.late]
    by_cases w0 : w = 0
    · rw [if_pos w0, if_pos w0]
    · rw [if_neg w0, if_neg w0]
      by_cases w1 : w = 1
      · rw [if_pos w1, if_pos w1]
      · rw [if_neg w1, if_neg w1]
theorem gw_when_loop {p : Nat} (hB : B ≤ 400000000) (hp : p < n) {had : Int32} : ∀ (d i f1 tm : Nat) (v : VX8), i + d = 600 → d < f1 → tm + d ≤ 20600 → q_Q n B tm v (gw_q z i) → (∀ j, j ≤ i → gw_q z j (252 + p) = had) → ∃ r v', zk_fx (F_X1_tickOfCall_24 (nI p) had) f1 (nI i, v) = some (r, v') ∧ ((r = -9 ∧ ∀ j, j ≤ 600 → gw_q z j (252 + p) = had) ∨ ∃ k, 1 ≤ k ∧ k ≤ 600 ∧ r = gw_q z k 0 ∧ gw_q z k (252 + p) ≠ had ∧ ∀ j, j < k → gw_q z j (252 + p) = had)
  | 0, i, f1, tm, v, hi, h1, ht, hQ, hz => by
    obtain ⟨f1, rfl⟩ : ∃ k, f1 = k + 1 := ⟨f1 - 1, by omega⟩
    have c1 : (600 : Int32) ≤ nI i := by
      rw [q_l600]
      exact nI_le (by omega) (by omega)
    have e1 : ∀ kk, F_X1_tickOfCall_24 (nI p) had kk (nI i, v) = some (-9, v) := fun kk => by
      unfold F_X1_tickOfCall_24
      dsimp only
      rw [if_pos c1]
    exact ⟨-9, v, by rw [zk_fx_s, e1], Or.inl ⟨rfl, fun j hj => hz j (by omega)⟩⟩
  | d + 1, i, f1, tm, v, hi, h1, ht, hQ, hz => by
    obtain ⟨f1, rfl⟩ : ∃ k, f1 = k + 1 := ⟨f1 - 1, by omega⟩
    have c1 : ¬ (600 : Int32) ≤ nI i := by
      rw [q_l600]
      exact nI_ge (by omega) (by omega)
    obtain ⟨r, k1, hQ', -⟩ := gw_step hQ (by omega) hB
    have hc : f_X5_fact (nI p) 4 r.1.1 = some (gw_q z (i + 1) (252 + p)) := hQ'.called hp
    have htm : r.2.2.2.1 = gw_q z (i + 1) 0 := hQ'.time
    by_cases c : gw_q z (i + 1) (252 + p) = had
    · have e1 : ∀ kk, F_X1_tickOfCall_24 (nI p) had kk (nI i, v) = kk (nI (i + 1), q_tk v r) := fun kk => by
        unfold F_X1_tickOfCall_24
        dsimp only
        rw [if_neg c1, k1, Option.bind_some, hc, Option.bind_some, if_pos c, nI_1]
        rfl
      rw [zk_fx_s, e1]
      refine gw_when_loop hB hp d (i + 1) f1 (tm + 1) (q_tk v r) (by omega) (by omega) (by omega) hQ' (fun j hj => ?_)
      by_cases y : j = i + 1
      · rw [y]
        exact c
      · exact hz j (by omega)
    · have e1 : ∀ kk, F_X1_tickOfCall_24 (nI p) had kk (nI i, v) = some (gw_q z (i + 1) 0, q_tk v r) := fun kk => by
        unfold F_X1_tickOfCall_24
        dsimp only
        rw [if_neg c1, k1, Option.bind_some, hc, Option.bind_some, if_neg c, htm]
        exact congrArg some (congrArg (Prod.mk (gw_q z (i + 1) 0)) (by rw [← htm]; rfl))
      exact ⟨_, _, by rw [zk_fx_s, e1], Or.inr ⟨i + 1, by omega, by omega, rfl, c, fun j hj => hz j (by omega)⟩⟩
theorem gw_timely (hB : B ≤ 400000000) (hm : m ≤ 600) (htm : tm + m ≤ 20600) (h : q_Q n B tm v z) (hI : gw_I n t z) (ht : t + m ≤ 25000) : ∃ v', zk_fx (F_X1_isTimely_10 (nI m) (z 6)) zk_N (0, v) = some (if gw_q z m 6 = z 6 then 1 else 0, v') := by
  have hok := (gw_okQ h hB m htm).2
  refine q_loop (n := m) (P := fun o => ∃ v', o = some (if gw_q z m 6 = z 6 then 1 else 0, v')) (fun i (s : Int32 × VX8) => i ≤ m ∧ s.1 = nI i ∧ q_Q n B (tm + i) s.2 (gw_q z i)) ?_ m 0 zk_N _ (by omega) (by unfold zk_N; omega) ⟨by omega, rfl, h⟩
  clear h
  intro i s hi
  obtain ⟨x3, v⟩ := s
  obtain ⟨him, e1, hQ⟩ := hi
  dsimp only at e1 hQ
  subst e1
  have q6 := hQ.late
  have e39 : f_X1_isTimely_39 (z 6) v = some (if gw_q z i 6 = z 6 then 1 else 0, v) := by
    unfold f_X1_isTimely_39
    rw [q6]
    by_cases c : gw_q z i 6 = z 6
    · rw [if_pos c, if_pos c]
    · rw [if_neg c, if_neg c]
  by_cases hmi : i < m
  · by_cases c6 : gw_q z i 6 = z 6
    · left
      obtain ⟨r, k1, hQ', -⟩ := gw_step hQ (by omega) hB
      refine ⟨hmi, (nI (i + 1), q_tk v r), ⟨by omega, rfl, hQ'⟩, fun kk => ?_⟩
      unfold F_X1_isTimely_10
      dsimp only
      rw [if_neg (nI_ge hmi (by omega)), if_pos (q6.trans c6), k1, Option.bind_some, nI_1]
      rfl
    · right
      intro kk
      refine ⟨v, ?_⟩
      unfold F_X1_isTimely_10
      dsimp only
      rw [if_neg (nI_ge hmi (by omega)), if_neg (fun y => c6 (q6.symm.trans y)), e39, if_neg c6, if_neg (hok.lateNe hI ht hm him c6)]
  · right
    intro kk
    have e : i = m := by omega
    subst e
    refine ⟨v, ?_⟩
    unfold F_X1_isTimely_10
    dsimp only
    rw [if_pos (nI_le (Nat.le_refl _) (by omega)), e39]
theorem gw_I.room (hI : gw_I n t z) {r : Nat} (h1 : 1 ≤ r) (h2 : r ≤ 20) : gw_I n t (upd z 2 (nI r)) := by
  obtain ⟨⟨a0, a1, a2, a3, a4, a5, a6⟩, hG⟩ := hI
  refine ⟨⟨(pk_un (by omega)).trans a0, (pk_un (by omega)).trans a1, a2, a3, ⟨r, pk_us, h1, h2⟩, by rw [pk_un (by omega)]; exact a5, fun p hp => ?_⟩, fun p hp => (hG p hp).cong (pk_un (by omega)) (pk_un (by omega)) (pk_un (by omega))⟩
  rw [pk_un (by omega), pk_un (by omega)]
  exact a6 p hp
theorem gw_least (hB : B ≤ 400000000) (hm : m ≤ 600) (htm : tm + m ≤ 20600) (hQ : q_Q n B tm u z) (hI : gw_I n t z) (ht : t + m ≤ 25000) (v : VX8) : ∃ r v', zk_fx (F_X1_leastTimelyRoom_2 (nI m) u.1 u.2.1 u.2.2.1 u.2.2.2.1 u.2.2.2.2.1 u.2.2.2.2.2.1 u.2.2.2.2.2.2.1 u.2.2.2.2.2.2.2.1 u.2.2.2.2.2.2.2.2.1 u.2.2.2.2.2.2.2.2.2.1 u.2.2.2.2.2.2.2.2.2.2.1 u.2.2.2.2.2.2.2.2.2.2.2.1 u.2.2.2.2.2.2.2.2.2.2.2.2) zk_N (1, v) = some (r, v') ∧ ((r = -9 ∧ ∀ j, 1 ≤ j → j ≤ 20 → gw_q (upd z 2 (nI j)) m 6 ≠ z 6) ∨ ∃ i, 1 ≤ i ∧ i ≤ 20 ∧ r = nI i ∧ gw_q (upd z 2 (nI i)) m 6 = z 6 ∧ ∀ j, 1 ≤ j → j < i → gw_q (upd z 2 (nI j)) m 6 ≠ z 6) := by
  refine q_loop (n := 20) (P := fun o => ∃ r v', o = some (r, v') ∧ ((r = -9 ∧ ∀ j, 1 ≤ j → j ≤ 20 → gw_q (upd z 2 (nI j)) m 6 ≠ z 6) ∨ ∃ i, 1 ≤ i ∧ i ≤ 20 ∧ r = nI i ∧ gw_q (upd z 2 (nI i)) m 6 = z 6 ∧ ∀ j, 1 ≤ j → j < i → gw_q (upd z 2 (nI j)) m 6 ≠ z 6)) (fun i (s : Int32 × VX8) => i ≤ 20 ∧ s.1 = nI (i + 1) ∧ ∀ j, 1 ≤ j → j ≤ i → gw_q (upd z 2 (nI j)) m 6 ≠ z 6) ?_ 20 0 zk_N (1, v) (by omega) (by unfold zk_N; omega) ⟨by omega, rfl, fun j h1 h2 => by omega⟩
  intro i s hi
  obtain ⟨x3, v⟩ := s
  obtain ⟨hi20, e1, hj⟩ := hi
  dsimp only at e1
  subst e1
  by_cases c20 : i < 20
  · have c1 : ¬ (20 : Int32) < nI (i + 1) := nI_nlt (a := 20) (by omega) (by omega)
    obtain ⟨w, k1, hQ'⟩ := hQ.copy v.1 v.2.1 v.2.2.1
    have hR := hQ'.room (r := i + 1) (by omega) (by omega)
    obtain ⟨v', l1⟩ := gw_timely hB hm htm hR (hI.room (r := i + 1) (by omega) (by omega)) ht
    rw [pk_un (show 6 ≠ 2 by omega), ← hQ'.late] at l1
    have hc : f_X1_isTimely (nI m) (w.1, w.2.1, w.2.2.1, w.2.2.2.1, nI (i + 1), w.2.2.2.2.2) = _ := l1
    rw [hQ'.late] at hc
    by_cases c : gw_q (upd z 2 (nI (i + 1))) m 6 = z 6
    · right
      intro kk
      rw [if_pos c] at hc
      refine ⟨nI (i + 1), v', ?_, Or.inr ⟨i + 1, by omega, by omega, rfl, c, fun j h1 h2 => hj j h1 (by omega)⟩⟩
      unfold F_X1_leastTimelyRoom_2
      dsimp only
      rw [if_neg c1, k1, Option.bind_some, hc, Option.bind_some, if_neg (show ¬ (1 : Int32) = 0 by decide)]
    · left
      rw [if_neg c] at hc
      refine ⟨c20, (nI (i + 1 + 1), v'), ⟨by omega, rfl, fun j h1 h2 => ?_⟩, fun kk => ?_⟩
      · by_cases y : j = i + 1
        · rw [y]
          exact c
        · exact hj j h1 (by omega)
      · unfold F_X1_leastTimelyRoom_2
        dsimp only
        rw [if_neg c1, k1, Option.bind_some, hc, Option.bind_some, if_pos rfl, nI_1]
  · right
    intro kk
    have e : i = 20 := by omega
    subst e
    refine ⟨-9, v, ?_, Or.inl ⟨rfl, hj⟩⟩
    unfold F_X1_leastTimelyRoom_2
    dsimp only
    rw [if_pos (show (20 : Int32) < nI (20 + 1) by decide)]
end GQ
