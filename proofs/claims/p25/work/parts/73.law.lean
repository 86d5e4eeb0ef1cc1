/-! PURE PART of p25: the law -/
theorem gw_cell {j L : Nat} {xs : Nat → Int32} (hj : j < 2 ^ 31) (hL : L ≤ 260) : ∃ v, f_L_cell (nI j) L xs = some v := by
  unfold f_L_cell
  by_cases c : j < L
  · rw [if_neg (show ¬ Int32.ofNat L ≤ nI j from nI_ge c (by omega)), q_ck c (by omega)]
    exact ⟨_, rfl⟩
  · rw [if_pos (show Int32.ofNat L ≤ nI j from nI_le (by omega) (by omega))]
    exact ⟨_, rfl⟩
/-- both objects, behind some rounds -/
def gw_LW (m b : Nat) (sa : VX6) (ha : VX2) (sb : VX6) (hb : VX2) : Prop := ∃ n t z, gw_W n t (100 * m + b) z sa ha sb hb ∧ t ≤ 70 * m
theorem gw_law131 {m : Nat} (hm : m < 6) {pa pb : VX4} {k24 : Int32 × VX6 × VX2 × VX1 × VX6 × VX2 × (Nat → Int32) → Option Int32} {g : Int32} {q : Nat} (hq1 : 1 ≤ q) (hq2 : q ≤ 70) {sa sb : VX6} {ha hb : VX2} (h : gw_LW m 7 sa ha sb hb) (fc : VX1) (w : Nat → Int32) (kk : ∀ sa' ha' fc' sb' hb' w', gw_LW (m + 1) 0 sa' ha' sb' hb' → k24 (nI (m + 1), sa', ha', fc', sb', hb', w') = some 1) : f_L_law_131 pa pb k24 1 g (nI q) (nI m) g sa ha fc sb hb w = some 1 := by
  obtain ⟨n, t, z, hW, ht⟩ := h
  obtain ⟨j, hj, ej⟩ := gw_low g (m := q) hq1 (by omega)
  unfold f_L_law_131
  rw [ej, Option.bind_some, show (1 : Int32) + nI j = nI (j + 1) by rw [Int32.add_comm, nI_1]]
  obtain ⟨sa', ha', fc', sb', hb', w', k1, hW'⟩ := gw_pass hW (m := j + 1) (by omega) (by omega) (by omega) (by omega) pa pb fc w
  obtain ⟨hSa, hHa, hSb, hHb, hI, r, hr, hr1, hr2⟩ := hW'
  rw [k1, Option.bind_some]
  dsimp only
  rw [if_neg (show ¬ (1 : Int32) = 0 by decide), gw_alike hSa hSb hI pa pb, Option.bind_some, if_neg (show ¬ (1 : Int32) = 0 by decide), gw_areNext hSb hI (by omega), Option.bind_some, if_neg (show ¬ (1 : Int32) = 0 by decide)]
  obtain ⟨a, ha1, ea⟩ := gw_low (g >>> (16 &&& 31)) (m := 3) (by omega) (by omega)
  have ea : f_L_low (g >>> (16 &&& 31)) 3 = some (nI a) := ea
  rw [ea, Option.bind_some]
  unfold f_L_law_192
  by_cases c : nI a = 0
  · rw [if_pos c]
    obtain ⟨b, hb1, eb⟩ := gw_low (g >>> (18 &&& 31)) (m := 40) (by omega) (by omega)
    have eb : f_L_low (g >>> (18 &&& 31)) 40 = some (nI b) := eb
    rw [eb, Option.bind_some, show (1 : Int32) + nI b = nI (b + 1) by rw [Int32.add_comm, nI_1]]
    obtain ⟨s2, h2, f2, l1, l2, l3⟩ := gw_lr hSa hHa hI (by omega) (m := b + 1) (by omega) (by omega) (by omega) pa fc'
    rw [l1, Option.bind_some]
    dsimp only
    rw [if_neg (show ¬ (1 : Int32) = 0 by decide), nI_1]
    exact kk s2 h2 f2 sb' hb' w' ⟨n, t + (j + 1), _, ⟨l2.mono (by omega), l3, hSb.mono (by omega), hHb, hI, r, hr, hr1, hr2⟩, by omega⟩
  · rw [if_neg c, nI_1]
    exact kk sa' ha' fc' sb' hb' w' ⟨n, t + (j + 1), _, ⟨hSa.mono (by omega), hHa, hSb.mono (by omega), hHb, hI, r, hr, hr1, hr2⟩, by omega⟩
theorem gw_W.mono {n t B B' : Nat} {z : Nat → Int32} {sa sb : VX6} {ha hb : VX2} (h : gw_W n t B z sa ha sb hb) (e : B ≤ B') : gw_W n t B' z sa ha sb hb := ⟨h.1.mono e, h.2.1, h.2.2.1.mono e, h.2.2.2⟩
theorem gw_law52 {m many L : Nat} {xs : Nat → Int32} (hm : m < 6) (hmany : many ≤ 7) (hL : L ≤ 260) {pa pb : VX4} {k24 : Int32 × VX6 × VX2 × VX1 × VX6 × VX2 × (Nat → Int32) → Option Int32} {sa sb : VX6} {ha hb : VX2} (h : gw_LW m 0 sa ha sb hb) (fc : VX1) (w : Nat → Int32) (kk : ∀ sa' ha' fc' sb' hb' w', gw_LW (m + 1) 0 sa' ha' sb' hb' → k24 (nI (m + 1), sa', ha', fc', sb', hb', w') = some 1) : zk_fx (F_L_law_52 L xs pa pb (nI m) (nI many) fc w k24) zk_N (0, sa, ha, sb, hb) = some 1 := by
  refine q_loop (n := many) (P := fun o => o = some 1) (fun k (s : Int32 × VX6 × VX2 × VX6 × VX2) => k ≤ many ∧ s.1 = nI k ∧ gw_LW m k s.2.1 s.2.2.1 s.2.2.2.1 s.2.2.2.2) ?_ many 0 zk_N (0, sa, ha, sb, hb) (by omega) (by unfold zk_N; omega) ⟨by omega, rfl, h⟩
  clear h
  intro k s hi
  obtain ⟨x6, sa, ha, sb, hb⟩ := s
  obtain ⟨hk, e1, n, t, z, hW, ht⟩ := hi
  dsimp only at e1 hW
  subst e1
  by_cases hkm : k < many
  · left
    obtain ⟨v, ev⟩ := gw_cell (j := 6 * m + k + 1) (L := L) (xs := xs) (by omega) hL
    obtain ⟨sa', ha', sb', hb', n', z', k1, hW'⟩ := gw_change hW (by omega) (by omega) pa v
    refine ⟨hkm, (nI (k + 1), sa', ha', sb', hb'), ⟨by omega, rfl, n', t, z', hW', ht⟩, fun c => ?_⟩
    unfold F_L_law_52
    dsimp only
    rw [if_neg (nI_ge hkm (by omega)), show (6 : Int32) * nI m = nI (6 * m) from pk_mul 6 m, nI_add, nI_1, ev, Option.bind_some, k1, Option.bind_some]
    dsimp only
    rw [if_neg (show ¬ (1 : Int32) = 0 by decide), nI_1]
  · right
    intro c
    have e : k = many := by omega
    subst e
    obtain ⟨v, ev⟩ := gw_cell (j := 50 + m) (L := L) (xs := xs) (by omega) hL
    have hLW : gw_LW m 7 sa ha sb hb := ⟨n, t, z, hW.mono (by omega), ht⟩
    obtain ⟨b, hb1, eb⟩ := gw_low (v >>> (10 &&& 31)) (m := 2) (by omega) (by omega)
    have eb : f_L_low (v >>> (10 &&& 31)) 2 = some (nI b) := eb
    unfold F_L_law_52
    dsimp only
    rw [if_pos (nI_le (Nat.le_refl k) (by omega)), show (50 : Int32) + nI m = nI (50 + m) from nI_add 50 m, ev, Option.bind_some, gw_areNext hW.1 hW.2.2.2.2.1 (by omega), Option.bind_some, if_neg (show ¬ (1 : Int32) = 0 by decide), eb, Option.bind_some]
    by_cases c : nI b = 0
    · rw [if_pos c]
      exact gw_law131 hm (q := 10) (by omega) (by omega) hLW fc w kk
    · rw [if_neg c]
      exact gw_law131 hm (q := 70) (by omega) (by omega) hLW fc w kk
theorem gw_law {L : Nat} {xs : Nat → Int32} (hL : L ≤ 260) {pa pb : VX4} : ∀ (d m fuel : Nat) (sa : VX6) (ha : VX2) (fc : VX1) (sb : VX6) (hb : VX2) (w : Nat → Int32), m + d = 6 → d < fuel → gw_LW m 0 sa ha sb hb → zk_fx (F_L_law_24 L xs pa pb) fuel (nI m, sa, ha, fc, sb, hb, w) = some 1
  | 0, m, fuel, sa, ha, fc, sb, hb, w, hmd, hf, h => by
    obtain ⟨fuel, rfl⟩ : ∃ k, fuel = k + 1 := ⟨fuel - 1, by omega⟩
    obtain ⟨n, t, z, hW, ht⟩ := h
    have e : m = 6 := by omega
    subst e
    have e : ∀ k, F_L_law_24 L xs pa pb k (nI 6, sa, ha, fc, sb, hb, w) = some 1 := fun k => by
      unfold F_L_law_24
      dsimp only
      rw [if_pos (show (6 : Int32) ≤ nI 6 by decide), gw_alike hW.1 hW.2.2.1 hW.2.2.2.2.1 pa pb, Option.bind_some]
    rw [zk_fx_s, e]
  | d + 1, m, fuel, sa, ha, fc, sb, hb, w, hmd, hf, h => by
    obtain ⟨fuel, rfl⟩ : ∃ k, fuel = k + 1 := ⟨fuel - 1, by omega⟩
    have e : ∀ k : Int32 × VX6 × VX2 × VX1 × VX6 × VX2 × (Nat → Int32) → Option Int32, (∀ sa' ha' fc' sb' hb' w', gw_LW (m + 1) 0 sa' ha' sb' hb' → k (nI (m + 1), sa', ha', fc', sb', hb', w') = some 1) → F_L_law_24 L xs pa pb k (nI m, sa, ha, fc, sb, hb, w) = some 1 := fun k hk => by
      obtain ⟨v, ev⟩ := gw_cell (j := 40 + m) (L := L) (xs := xs) (by omega) hL
      obtain ⟨a, ha1, ea⟩ := gw_low v (m := 7) (by omega) (by omega)
      have ea : f_L_low v 7 = some (nI a) := ea
      unfold F_L_law_24
      dsimp only
      rw [if_neg (show ¬ (6 : Int32) ≤ nI m from nI_ge (b := 6) (by omega) (by omega)), show (40 : Int32) + nI m = nI (40 + m) from nI_add 40 m, ev, Option.bind_some, ea, Option.bind_some, q_let, show (1 : Int32) + nI a = nI (a + 1) by rw [Int32.add_comm, nI_1]]
      exact gw_law52 (by omega) (by omega) hL h fc w hk
    rw [zk_fx_s]
    exact e _ (fun sa' ha' fc' sb' hb' w' h' => gw_law hL d (m + 1) fuel sa' ha' fc' sb' hb' w' (by omega) (by omega) h')
/-- the row at the start -/
def gw_z0 : Nat → Int32 := fun i => if i = 2 then 3 else if i = 3 then 5 else if 172 ≤ i ∧ i < 212 then -1 else 0
theorem gw_z0Z : q_Z0 gw_z0 := by
  refine ⟨rfl, rfl, fun p hp => ?_, fun i h1 h2 h3 h4 => ?_⟩
  · unfold gw_z0
    rw [if_neg (by omega), if_neg (by omega), if_pos (by omega)]
  · unfold gw_z0
    rw [if_neg h2, if_neg h3, if_neg (by omega)]
theorem gw_z0I : gw_I 0 0 gw_z0 := ⟨⟨rfl, rfl, by omega, by omega, ⟨3, rfl, by omega, by omega⟩, by decide, fun p hp => absurd hp (Nat.not_lt_zero p)⟩, fun p hp => absurd hp (Nat.not_lt_zero p)⟩
theorem gw_init : ∃ vx, f_X9_init = some vx ∧ q_S 0 vx.1 gw_z0 gw_0 gw_0 ∧ gw_H vx.2.1 := by
  obtain ⟨v, w1, hv⟩ := q_wInit gw_z0Z
  have s1 : f_X6_init = some (v, (fun i => if i = 0 then v else v), (fun _ => 0)) := by
    unfold f_X6_init
    rw [w1]
    rfl
  have t1 : f_X4_init = some (((fun _ => 0), 0, 0, 0, 0), (fun _ => 0), (fun _ => 0), 0, 0, 0, 0, 0) := rfl
  refine ⟨((v, (fun i => if i = 0 then v else v), (fun _ => 0)), ((fun i => if i = 0 then (v, (fun i => if i = 0 then v else v), (fun _ => 0)) else if i = 1 then (v, (fun i => if i = 0 then v else v), (fun _ => 0)) else if i = 2 then (v, (fun i => if i = 0 then v else v), (fun _ => 0)) else if i = 3 then (v, (fun i => if i = 0 then v else v), (fun _ => 0)) else if i = 4 then (v, (fun i => if i = 0 then v else v), (fun _ => 0)) else (v, (fun i => if i = 0 then v else v), (fun _ => 0))), 0, 0), (((fun _ => 0), 0, 0, 0, 0), (fun _ => 0), (fun _ => 0), 0, 0, 0, 0, 0), v), ?_, ⟨hv, fun i hi => ⟨rfl, Or.inl rfl, fun y => absurd rfl y⟩⟩, ⟨0, 0, by omega, by omega, rfl, rfl⟩⟩
  unfold f_X9_init f_X2_init f_X1_init
  rw [s1, t1, w1]
  rfl
theorem zf_true {L : Nat} {xs : Nat → Int32} (hL : L ≤ 260) : zf_pure L xs := by
  obtain ⟨vx, k, hS, hH⟩ := gw_init
  unfold zf_pure
  rw [k, Option.bind_some, Option.bind_some]
  exact gw_law hL 6 0 zk_N vx.1 vx.2.1 vx.2.2.2 vx.1 vx.2.1 (fun _ => 0) (by omega) (by unfold zk_N; omega) ⟨0, 0, gw_z0, ⟨hS, hH, hS, hH, gw_z0I, 3, rfl, by omega, by omega⟩, by omega⟩
