/-! PURE PART of p25: ticks pass in both -/
theorem gw_OK.two {n t M : Nat} {z : Nat → Int32} (h : gw_OK z M) (hI : gw_I n t z) (ht : t + M ≤ 25000) : ∀ k, k ≤ M → gw_q z k 2 = z 2
  | 0, _ => rfl
  | k + 1, hk => by
    obtain ⟨⟨a, r, -, -, -, K⟩, -⟩ := h.tick hI ht (k := k) (by omega)
    exact K.2.1.trans (gw_OK.two h hI ht k (by omega))
theorem gw_calls {B : Nat} {st : VX6} {z : Nat → Int32} (hS : q_S B st z gw_0 gw_0) : ∃ c, z 5 = nI c ∧ c ≤ 400000 := by
  obtain ⟨⟨n, k, t, ⟨L, c, T', hV, hcl, hc, hT⟩, ht, -⟩, -⟩ := hS
  exact ⟨c, hV.2.2.2.1.2.1, by omega⟩
theorem gw_sac (a b c : Int32) : a - b + c = a + c - b := by
  rw [Int32.sub_eq_add_neg, Int32.sub_eq_add_neg, Int32.add_assoc, Int32.add_assoc, Int32.add_comm (-b) c]
/-- what the law keeps of the ticks that were foretold, behind i ticks -/
def gw_Wn (n t : Nat) (z : Nat → Int32) (i : Nat) (w : Nat → Int32) : Prop := ∀ p, p < n → w p = -9 ∨ ∃ k, i < k ∧ k ≤ 600 ∧ w p = nI (t + k) ∧ gw_q z k (252 + p) ≠ z (252 + p) ∧ ∀ j, j < k → gw_q z j (252 + p) = z (252 + p)
abbrev gw_R : Type := Int32 × VX6 × VX2 × VX1 × VX6 × VX2 × (Nat → Int32)
/-- what was foretold of those that were called is struck out -/
def gw_clr (z w : Nat → Int32) : Nat → (Nat → Int32)
  | 0 => w
  | k + 1 => upd (gw_clr z w k) (z (332 + k)).toNatClampNeg (-9)
theorem gw_clr_q {n : Nat} {z w : Nat → Int32} (hn : n ≤ 40) : ∀ a, (∀ k, k < a → ∃ p, p < n ∧ z (332 + k) = nI p) → ∀ q, q < 40 → (gw_clr z w a q = -9 ∧ ∃ k, k < a ∧ z (332 + k) = nI q) ∨ (gw_clr z w a q = w q ∧ ∀ k, k < a → z (332 + k) ≠ nI q)
  | 0, _, q, _ => Or.inr ⟨rfl, fun k hk => absurd hk (Nat.not_lt_zero k)⟩
  | a + 1, hd, q, hq => by
    obtain ⟨p, hp, d1⟩ := hd a (by omega)
    have e : gw_clr z w (a + 1) = upd (gw_clr z w a) p (-9) := by
      show upd (gw_clr z w a) (z (332 + a)).toNatClampNeg (-9) = _
      rw [d1, q_cl (by omega)]
    rw [e]
    by_cases y : q = p
    · subst y
      exact Or.inl ⟨pk_us, a, by omega, d1⟩
    · rw [pk_un y]
      rcases gw_clr_q hn a (fun k hk => hd k (by omega)) q hq with ⟨f1, k, f2, f3⟩ | ⟨f1, f2⟩
      · exact Or.inl ⟨f1, k, by omega, f3⟩
      · refine Or.inr ⟨f1, fun k hk => ?_⟩
        by_cases g : k = a
        · subst g
          exact fun v => y ((nI_eq (by omega) (by omega)).mp (v.symm.trans d1))
        · exact f2 k (by omega)
section GP
variable {n t B m : Nat} {z : Nat → Int32} {sa sb : VX6} {ha hb : VX2}
theorem gw_ps162 {a : Nat} (hS : q_S B sb z gw_0 gw_0) (hI : gw_I n t z) (ha12 : a ≤ 12) (hc : ∀ k, k < a → nI k < z 5) (w : Nat → Int32) (hd : ∀ k, k < a → (∃ p, p < n ∧ z (332 + k) = nI p ∧ (w p < 0 ∨ w p = nI t)) ∧ (∃ d, z (344 + k) = nI d ∧ d ≤ t) ∧ z (356 + k) = nI t) (pg : VX4) (x4 x5 x6 x7 x8 x9 x10 x11 : Int32) (fc : VX1) (k114 : Int32 × Int32 × Int32 × VX6 × VX2 × (Nat → Int32) → Option gw_R) : zk_fx (F_L_pass_162 pg x4 x5 x6 x7 x8 sa ha fc x9 x10 x11 (nI a) sb hb w k114) zk_N 0 = f_L_pass_242 pg x4 x5 x6 x7 x8 sa ha fc k114 x9 x10 x11 (nI a) sb hb w := by
  have hn := hI.1.2.2.1
  have htb := hI.1.2.2.2.1
  refine q_scan (n := a) (F := F_L_pass_162 pg x4 x5 x6 x7 x8 sa ha fc x9 x10 x11 (nI a) sb hb w k114) (fun m => nI m) _ (fun kk m hm => ?_) (fun kk => ?_) a 0 zk_N (by omega) (by unfold zk_N; omega)
  · obtain ⟨⟨p, hp, d1, d2⟩, ⟨d, d3, d4⟩, d5⟩ := hd m hm
    have hcm := hc m hm
    have r0 : f_X9_call (nI m) 0 sb = some (nI p) := by
      have := gw_rc hS (k := m) (w := 0) (by omega) (by omega) hcm
      rw [show 332 + 12 * 0 + m = 332 + m by omega, d1] at this
      exact this
    have r1 : f_X9_call (nI m) 1 sb = some (nI d) := by
      have := gw_rc hS (k := m) (w := 1) (by omega) (by omega) hcm
      rw [show 332 + 12 * 1 + m = 344 + m by omega, d3] at this
      exact this
    have r2 : f_X9_call (nI m) 2 sb = some (nI t) := by
      have := gw_rc hS (k := m) (w := 2) (by omega) (by omega) hcm
      rw [show 332 + 12 * 2 + m = 356 + m by omega, d5] at this
      exact this
    have e0 : f_X9_count 0 sb hb pg = some (nI t) := (gw_c0 hS hI).trans (by rw [hI.1.1])
    unfold F_L_pass_162 f_L_pass_236
    rw [if_neg (nI_ge hm (by omega)), if_neg (show ¬ (12 : Int32) ≤ nI m from nI_ge (b := 12) (by omega) (by omega)), r0, Option.bind_some, r2, Option.bind_some, e0, Option.bind_some, if_pos rfl, r1, Option.bind_some, Option.bind_some, if_neg (show ¬ nI t < nI d from nI_nlt d4 (by omega)), q_ck (by omega) (by omega), q_cl (by omega), nI_1]
    rcases d2 with d2 | d2
    · rw [if_pos d2]
    · rw [d2, if_neg (nI_pos (n := t) (by omega)), q_ck (by omega) (by omega), Option.bind_some, if_pos rfl]
  · unfold F_L_pass_162
    rw [if_pos (nI_le (Nat.le_refl a) (by omega))]
theorem gw_ps242 {a : Nat} (hS : q_S B sb z gw_0 gw_0) (hI : gw_I n t z) (ha12 : a ≤ 12) (hc : ∀ k, k < a → nI k < z 5) (w : Nat → Int32) (hd : ∀ k, k < a → ∃ p, p < n ∧ z (332 + k) = nI p) (pg : VX4) (x4 x5 x6 x7 x8 x9 x10 x11 : Int32) (fc : VX1) (k114 : Int32 × Int32 × Int32 × VX6 × VX2 × (Nat → Int32) → Option gw_R) : f_L_pass_242 pg x4 x5 x6 x7 x8 sa ha fc k114 x9 x10 x11 (nI a) sb hb w = f_L_pass_276 pg x4 x5 x6 x7 x8 sa ha fc k114 x9 x10 x11 (nI a) sb hb (gw_clr z w a) := by
  have hn := hI.1.2.2.1
  unfold f_L_pass_242
  refine q_scan (n := a) (F := F_L_pass_245 pg x4 x5 x6 x7 x8 sa ha fc x9 x10 x11 (nI a) sb hb k114) (fun m => (nI m, gw_clr z w m)) _ (fun kk m hm => ?_) (fun kk => ?_) a 0 zk_N (by omega) (by unfold zk_N; omega)
  · obtain ⟨p, hp, d1⟩ := hd m hm
    have r0 : f_X9_call (nI m) 0 sb = some (nI p) := by
      have := gw_rc hS (k := m) (w := 0) (by omega) (by omega) (hc m hm)
      rw [show 332 + 12 * 0 + m = 332 + m by omega, d1] at this
      exact this
    unfold F_L_pass_245
    dsimp only
    rw [if_neg (nI_ge hm (by omega)), if_neg (show ¬ (12 : Int32) ≤ nI m from nI_ge (b := 12) (by omega) (by omega)), r0, Option.bind_some, q_ck (by omega) (by omega), q_let, nI_1]
    show kk (nI (m + 1), upd (gw_clr z w m) (nI p).toNatClampNeg (-9)) = kk (nI (m + 1), upd (gw_clr z w m) (z (332 + m)).toNatClampNeg (-9))
    rw [d1]
  · unfold F_L_pass_245
    dsimp only
    rw [if_pos (nI_le (Nat.le_refl a) (by omega))]
theorem gw_ps114 (hm1 : 1 ≤ m) (hm2 : m ≤ 70) (ht : t + m ≤ 20000) (hB : B ≤ 200000000) (hSa : q_S B sa z gw_0 gw_0) (hHa : gw_H ha) (hSb : q_S B sb z gw_0 gw_0) (hHb : gw_H hb) (hI : gw_I n t z) (hok : gw_OK z 600) {r0 : Nat} (hr : z 2 = nI r0) (hr12 : r0 ≤ 12) (pg : VX4) (fc : VX1) (w : Nat → Int32) (hw : gw_Wn n t z 0 w) : ∃ sa' ha' sb' hb' w', zk_fx (F_L_pass_114 (nI m) pg (gw_q z m 5 - z 5) (gw_q z m 6 - z 6) (nI (gw_mx n z m)) (nI n) (z 6) sa ha fc) zk_N (0, 0, 0, sb, hb, w) = some (1, sa', ha', fc, sb', hb', w') ∧ q_S (B + m + 1) sa' (gw_q z m) gw_0 gw_0 ∧ gw_H ha' ∧ q_S (B + m + 1) sb' (gw_q z m) gw_0 gw_0 ∧ gw_H hb' := by
  have hn := hI.1.2.2.1
  refine q_loop (n := m) (P := fun o => ∃ sa' ha' sb' hb' w', o = some (1, sa', ha', fc, sb', hb', w') ∧ q_S (B + m + 1) sa' (gw_q z m) gw_0 gw_0 ∧ gw_H ha' ∧ q_S (B + m + 1) sb' (gw_q z m) gw_0 gw_0 ∧ gw_H hb') (fun i (s : Int32 × Int32 × Int32 × VX6 × VX2 × (Nat → Int32)) => i ≤ m ∧ s.1 = gw_q z i 5 - z 5 ∧ s.2.1 = nI (gw_mx n z i) ∧ s.2.2.1 = nI i ∧ q_S (B + i) s.2.2.2.1 (gw_q z i) gw_0 gw_0 ∧ gw_H s.2.2.2.2.1 ∧ gw_Wn n t z i s.2.2.2.2.2) ?_ m 0 zk_N (0, 0, 0, sb, hb, w) (by omega) (by unfold zk_N; omega) ⟨by omega, (Int32.sub_self _).symm, rfl, rfl, hSb, hHb, hw⟩
  clear hw hSb hHb w
  intro i s hi
  obtain ⟨x9, x10, x11, ub, hb, w⟩ := s
  obtain ⟨him, e9, e10, e11, hS, hH, hw⟩ := hi
  dsimp only at e9 e10 e11 hS hH hw
  subst e9 e10 e11
  have hIi := hok.run hI (by omega) i (by omega)
  by_cases hmi : i < m
  · left
    refine ⟨hmi, ?_⟩
    obtain ⟨⟨a, r', h2, hr', har, hK⟩, hbk⟩ := hok.tick hI (by omega) (k := i) (by omega)
    have er : r' = r0 := (nI_eq (by omega) (by omega)).mp (h2.symm.trans ((hok.two hI (by omega) i (by omega)).trans hr))
    subst er
    have ha12 : a ≤ 12 := by omega
    obtain ⟨hI2, f2, f3, f4, f5, -, f7, f8⟩ := hK
    obtain ⟨c0, hc0, hc1⟩ := gw_calls hS
    obtain ⟨x, ub', hb', z', b1, b2, b3, b4, -⟩ := gw_o_pass hS hH (by omega) 1
    have hok1 : gw_OK (gw_q z i) 1 := fun j hj => by
      have : j = 0 := by omega
      subst this
      exact hok i (by omega)
    have hz := b2.symm.trans (gw_r_pass (t := t + i) (m := 1) hIi.1.1 hok1 (by omega) (by omega) (by omega))
    simp only [Option.some.injEq, Prod.mk.injEq] at hz
    obtain ⟨ex, ez, -⟩ := hz
    have ez : z' = gw_q z (i + 1) := ez
    have ex : x = gw_q z (i + 1) 5 - gw_q z i 5 := ex
    subst ez
    rw [f5, gw_subz] at ex
    subst ex
    have hcc : ∀ k, k < a → nI k < gw_q z (i + 1) 5 := fun k hk => by
      rw [f5, hc0, nI_add]
      exact nI_lt (by omega) (by omega)
    -- what was foretold, at this tick
    have now : ∀ k p, k < a → p < n → gw_q z (i + 1) (332 + k) = nI p → w p < 0 ∨ w p = nI (t + i + 1) := by
      intro k p hk hp hkp
      rcases hw p hp with y | ⟨q, q1, q2, q3, q4, q5⟩
      · left
        rw [y]
        decide
      · right
        obtain ⟨e, e1, e2, e3⟩ := f8 p hp
        have he : e ≠ 0 := fun v => (e3 ha12).mp v k hk hkp
        have hq : q = i + 1 := by
          by_cases y : i + 1 < q
          · exfalso
            have g1 := q5 (i + 1) y
            have g2 := q5 i (by omega)
            rw [e2, g2] at g1
            exact he (gw_addz (by omega) g1)
          · omega
        rw [q3, hq]
        rfl
    have hd := fun k hk => (f7 k hk (by omega)).1
    have hw' := gw_clr_q (w := w) hn a hd
    refine ⟨(gw_q z (i + 1) 5 - z 5, nI (gw_mx n z (i + 1)), nI (i + 1), ub', hb', gw_clr (gw_q z (i + 1)) w a), ⟨by omega, rfl, rfl, rfl, b3, b4, fun p hp => ?_⟩, fun kk => ?_⟩
    · dsimp only
      rcases hw' p (by omega) with ⟨y, -⟩ | ⟨y, yn⟩
      · exact Or.inl y
      · rcases hw p hp with v | ⟨q, q1, q2, q3, q4, q5⟩
        · exact Or.inl (y.trans v)
        · right
          refine ⟨q, ?_, q2, y.trans q3, q4, q5⟩
          by_cases v : q = i + 1
          · exfalso
            subst v
            obtain ⟨e, e1, e2, e3⟩ := f8 p hp
            have he : e = 0 := (e3 ha12).mpr yn
            rw [he, gw_ad0, q5 i (by omega)] at e2
            exact q4 e2
          · omega
    · have k162 := gw_ps162 (sa := sa) (ha := ha) (hb := hb') b3 hI2 ha12 hcc w (fun k hk => by
        obtain ⟨⟨p, hp, g1⟩, g2, g3⟩ := f7 k hk (by omega)
        exact ⟨⟨p, hp, g1, now k p hk hp g1⟩, g2, g3⟩) pg (gw_q z m 5 - z 5) (gw_q z m 6 - z 6) (nI (gw_mx n z m)) (nI n) (z 6) (gw_q z i 5 - z 5) (nI (gw_mx n z i)) (nI i) fc kk
      have k242 := gw_ps242 (sa := sa) (ha := ha) (hb := hb') b3 hI2 ha12 hcc w hd pg (gw_q z m 5 - z 5) (gw_q z m 6 - z 6) (nI (gw_mx n z m)) (nI n) (z 6) (gw_q z i 5 - z 5) (nI (gw_mx n z i)) (nI i) fc kk
      have m1 := gw_mx_le n z hn i
      have m2 := gw_rd_le n (gw_q z (i + 1)) hn
      have e2 : ¬ gw_q z (i + 1) 2 < nI a := by
        rw [f2, h2]
        exact nI_nlt har (by omega)
      unfold F_L_pass_114
      dsimp only
      rw [if_neg (nI_ge hmi (by omega)), b1, Option.bind_some]
      dsimp only
      rw [if_neg (nI_pos (n := a) (by omega)), gw_c14 b3 hI2, Option.bind_some, if_neg e2, gw_c4 b3 hI2, Option.bind_some, gw_c15 b3 hI2, Option.bind_some, if_pos (show nI (gw_bk n (gw_q z (i + 1))) ≤ gw_q z (i + 1) 3 from Int32.not_lt.mp hbk), k162, k242]
      unfold f_L_pass_276 f_L_pass_303
      have e5 : gw_q z i 5 - z 5 + nI a = gw_q z (i + 1) 5 - z 5 := by rw [gw_sac, f5]
      rw [q_let, e5, gw_c3 b3 hI2, Option.bind_some, nI_1]
      by_cases c : gw_mx n z i < gw_rd n (gw_q z (i + 1))
      · rw [if_neg (nI_ge c (by omega)), Option.bind_some]
        show kk (_, nI (gw_rd n (gw_q z (i + 1))), _) = kk (_, nI (if gw_mx n z i < gw_rd n (gw_q z (i + 1)) then gw_rd n (gw_q z (i + 1)) else gw_mx n z i), _)
        rw [if_pos c]
      · rw [if_pos (nI_le (by omega) (by omega))]
        show kk (_, nI (gw_mx n z i), _) = kk (_, nI (if gw_mx n z i < gw_rd n (gw_q z (i + 1)) then gw_rd n (gw_q z (i + 1)) else gw_mx n z i), _)
        rw [if_neg c]
  · right
    intro kk
    have e : i = m := by omega
    subst e
    obtain ⟨x, sa', ha', z', p1, p2, p3, p4, -⟩ := gw_o_pass hSa hHa (by omega) (nI i)
    have hz := p2.symm.trans (gw_r_pass (t := t) (m := i) hI.1.1 (hok.mono (by omega)) hm1 (by omega) ht)
    simp only [Option.some.injEq, Prod.mk.injEq] at hz
    obtain ⟨rfl, rfl, -⟩ := hz
    refine ⟨sa', ha', ub, hb, w, ?_, p3.mono (by omega), p4, hS.mono (by omega), hH⟩
    unfold F_L_pass_114
    dsimp only
    rw [if_pos (nI_le (Nat.le_refl i) (by omega))]
    refine q_scan (n := n) (F := F_L_pass_314 (nI i) pg (gw_q z i 5 - z 5) (gw_q z i 6 - z 6) (nI (gw_mx n z i)) (nI n) (z 6) (gw_q z i 5 - z 5) (nI (gw_mx n z i)) sa ha fc ub hb w) (fun p => nI p) _ (fun kk p hp => ?_) (fun kk => ?_) n 0 zk_N (by omega) (by unfold zk_N; omega)
    · unfold F_L_pass_314 f_L_pass_353
      rw [if_neg (nI_ge hp (by omega)), q_ck (by omega) (by omega), q_cl (by omega), nI_1]
      rcases hw p hp with y | ⟨q, q1, q2, q3, q4, q5⟩
      · rw [y, if_pos (by decide)]
      · rw [q3, if_neg (nI_pos (n := t + q) (by omega)), q_ck (by omega) (by omega), gw_c0 hS hIi, Option.bind_some, hIi.1.1, if_pos (nI_lt (by omega) (by omega))]
    · unfold F_L_pass_314
      rw [if_pos (nI_le (Nat.le_refl n) (by omega)), if_pos rfl, if_pos rfl, gw_c6 hS hIi, Option.bind_some, if_pos rfl, p1, Option.bind_some, if_pos rfl]
theorem gw_ps34 (hm1 : 1 ≤ m) (hm2 : m ≤ 70) (ht : t + m ≤ 20000) (hB : B ≤ 200000000) (hSa : q_S B sa z gw_0 gw_0) (hHa : gw_H ha) (hSb : q_S B sb z gw_0 gw_0) (hHb : gw_H hb) (hI : gw_I n t z) (hok : gw_OK z 600) {r0 : Nat} (hr : z 2 = nI r0) (hr12 : r0 ≤ 12) (pa pb : VX4) (fc : VX1) (w : Nat → Int32) : ∃ sa' ha' fc' sb' hb' w', zk_fx (F_L_pass_34 (nI m) pa pb (gw_q z m 5 - z 5) (gw_q z m 6 - z 6) (nI (gw_mx n z m)) (nI n) sa ha sb hb) zk_N (0, fc, w) = some (1, sa', ha', fc', sb', hb', w') ∧ q_S (B + m + 1) sa' (gw_q z m) gw_0 gw_0 ∧ gw_H ha' ∧ q_S (B + m + 1) sb' (gw_q z m) gw_0 gw_0 ∧ gw_H hb' := by
  have hn := hI.1.2.2.1
  refine q_loop (n := n) (P := fun o => ∃ sa' ha' fc' sb' hb' w', o = some (1, sa', ha', fc', sb', hb', w') ∧ q_S (B + m + 1) sa' (gw_q z m) gw_0 gw_0 ∧ gw_H ha' ∧ q_S (B + m + 1) sb' (gw_q z m) gw_0 gw_0 ∧ gw_H hb') (fun i (s : Int32 × VX1 × (Nat → Int32)) => i ≤ n ∧ s.1 = nI i ∧ gw_Wn i t z 0 s.2.2) ?_ n 0 zk_N (0, fc, w) (by omega) (by unfold zk_N; omega) ⟨by omega, rfl, fun p hp => absurd hp (Nat.not_lt_zero p)⟩
  clear fc w
  intro i s hi
  obtain ⟨x8, fc, w⟩ := s
  obtain ⟨hin, e1, hw⟩ := hi
  dsimp only at e1 hw
  subst e1
  by_cases hmi : i < n
  · left
    refine ⟨hmi, ?_⟩
    obtain ⟨r, fc1, k1, k2, k3⟩ := gw_when hSa hI (by omega) hmi fc
    obtain ⟨wc, sc, due, g1, g2, g3, g4⟩ := hI.2 i hmi
    have hsc := g4.1
    have e0 := gw_p0 hSa hI hmi
    have wn : ∀ x : Int32, (x = -9 ∨ ∃ k, 0 < k ∧ k ≤ 600 ∧ x = nI (t + k) ∧ gw_q z k (252 + i) ≠ z (252 + i) ∧ ∀ j, j < k → gw_q z j (252 + i) = z (252 + i)) → gw_Wn (i + 1) t z 0 (upd w i x) := by
      intro x hx p hp
      by_cases y : p = i
      · subst y
        rw [pk_us]
        exact hx
      · rw [pk_un y]
        exact hw p (by omega)
    by_cases c : sc ≤ 1
    · have c1 : z (132 + i) ≤ 1 := by
        rw [g2]
        exact nI_le (b := 1) c (by omega)
      refine ⟨(nI (i + 1), fc1, upd w i r), ⟨by omega, rfl, wn r ?_⟩, fun kk => ?_⟩
      · rcases k3 c1 with ⟨y, -⟩ | ⟨k, a1, a2, a3, a4, a5⟩
        · exact Or.inl y
        · refine Or.inr ⟨k, a1, a2, ?_, a4, a5⟩
          rw [a3]
          exact (hok.run hI (by omega) k a2).1.1
      · unfold F_L_pass_34 f_L_pass_66 f_L_pass_91
        dsimp only
        rw [if_neg (nI_ge hmi (by omega)), e0, Option.bind_some, g2, if_neg (show ¬ (2 : Int32) ≤ nI sc from nI_ge (b := 2) (by omega) (by omega)), k1, Option.bind_some, q_ck (by omega) (by omega), q_let, Option.bind_some, if_pos (show nI sc < 2 from nI_lt (b := 2) (by omega) (by omega)), nI_1, q_cl (by omega)]
    · have c1 : ¬ z (132 + i) ≤ 1 := by
        rw [g2]
        exact nI_ge (a := 1) (by omega) (by omega)
      refine ⟨(nI (i + 1), fc1, upd w i (-9)), ⟨by omega, rfl, wn (-9) (Or.inl rfl)⟩, fun kk => ?_⟩
      unfold F_L_pass_34 f_L_pass_66 f_L_pass_91
      dsimp only
      rw [if_neg (nI_ge hmi (by omega)), e0, Option.bind_some, g2, if_pos (show (2 : Int32) ≤ nI sc from nI_le (a := 2) (by omega) (by omega)), q_ck (by omega) (by omega), q_let, Option.bind_some, if_neg (show ¬ nI sc < 2 from nI_nlt (b := 2) (by omega) (by omega)), k1, Option.bind_some, if_pos (k2 c1), nI_1, q_cl (by omega)]
  · right
    intro kk
    have e : i = n := by omega
    subst e
    obtain ⟨sa', ha', sb', hb', w', a1, a2, a3, a4, a5⟩ := gw_ps114 hm1 hm2 ht hB hSa hHa hSb hHb hI hok hr hr12 pb fc w hw
    refine ⟨sa', ha', fc, sb', hb', w', ?_, a2, a3, a4, a5⟩
    unfold F_L_pass_34
    dsimp only
    rw [if_pos (nI_le (Nat.le_refl i) (by omega)), gw_c6 hSa hI, Option.bind_some, a1]
theorem gw_pass (hW : gw_W n t B z sa ha sb hb) (hm1 : 1 ≤ m) (hm2 : m ≤ 70) (ht : t + m ≤ 20000) (hB : B ≤ 200000000) (pa pb : VX4) (fc : VX1) (w : Nat → Int32) : ∃ sa' ha' fc' sb' hb' w', f_L_pass (nI m) sa ha pa fc sb hb pb w = some (1, sa', ha', fc', sb', hb', w') ∧ gw_W n (t + m) (B + m + 1) (gw_q z m) sa' ha' sb' hb' := by
  obtain ⟨hSa, hHa, hSb, hHb, hI, r0, hr, hr1, hr2⟩ := hW
  have hok := (gw_okQ (gw_qQ hSa hI) (by omega) 600 (by omega)).2
  obtain ⟨f1, k1⟩ := gw_would hSa hI (by omega) hm1 (by omega) fc 0 (by decide) (by decide)
  obtain ⟨f2, k2⟩ := gw_would hSa hI (by omega) hm1 (by omega) f1 1 (by decide) (by decide)
  obtain ⟨f3, k3⟩ := gw_would hSa hI (by omega) hm1 (by omega) f2 2 (by decide) (by decide)
  rw [if_pos rfl] at k1
  rw [if_neg (show ¬ (1 : Int32) = 0 by decide), if_pos rfl] at k2
  rw [if_neg (show ¬ (2 : Int32) = 0 by decide), if_neg (show ¬ (2 : Int32) = 1 by decide)] at k3
  obtain ⟨sa', ha', fc', sb', hb', w', a1, a2, a3, a4, a5⟩ := gw_ps34 hm1 hm2 ht hB hSa hHa hSb hHb hI hok hr hr2 pa pb f3 w
  refine ⟨sa', ha', fc', sb', hb', w', ?_, a2, a3, a4, a5, hok.run hI (by omega) m (by omega), r0, (hok.two hI (by omega) m (by omega)).trans hr, hr1, hr2⟩
  unfold f_L_pass
  rw [k1, Option.bind_some, k2, Option.bind_some, k3, Option.bind_some, gw_c1 hSa hI, Option.bind_some, hI.1.2.1]
  exact a1
end GP
