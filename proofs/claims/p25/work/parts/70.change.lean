/-! PURE PART of p25: a change in both objects -/
theorem gw_low (x : Int32) {m : Nat} (h1 : 1 ≤ m) (h2 : m < 2 ^ 31) : ∃ j, j < m ∧ f_L_low x (nI m) = some (nI j) := by
  obtain ⟨k, hk, e⟩ := pk_andE x (m := 2147483647) 31 (by decide)
  refine ⟨k % m, Nat.mod_lt _ h1, ?_⟩
  unfold f_L_low zk_dv
  rw [e, if_neg (nI_ne0 (by omega) h2), show zk_rem (nI k) (nI m) = nI (k % m) from pk_rem hk h1 h2]
/-- the two objects beside one row -/
def gw_W (n t B : Nat) (z : Nat → Int32) (sa : VX6) (ha : VX2) (sb : VX6) (hb : VX2) : Prop := q_S B sa z gw_0 gw_0 ∧ gw_H ha ∧ q_S B sb z gw_0 gw_0 ∧ gw_H hb ∧ gw_I n t z ∧ ∃ r, z 2 = nI r ∧ 1 ≤ r ∧ r ≤ 12
section GC
variable {n t B : Nat} {z : Nat → Int32} {sa sb : VX6} {ha hb : VX2}
theorem gw_ch_give (hW : gw_W n t B z sa ha sb hb) (ht : t ≤ 20000) (hB : B ≤ 300000000) (pg : VX4) {d q m : Nat} (hd1 : 1 ≤ d) (hd2 : d ≤ 511) (hq : q ≤ 511) (hm : m ≤ 99) (hqm : m ≠ 0 → q ≠ 0) : ∃ sa' ha' sb' hb' n' z', f_L_change_163 pg (nI m) (nI n) (nI d) (nI q) sa ha sb hb = some (1, sa', ha', sb', hb') ∧ gw_W n' t (B + 1) z' sa' ha' sb' hb' := by
  obtain ⟨hSa, hHa, hSb, hHb, hI, r, hr, hr1, hr2⟩ := hW
  have hn := hI.1.2.2.1
  obtain ⟨ra, sa', ha', za, a1, a2, a3, a4, -⟩ := gw_o_give hSa hHa (by omega) (nI d) (nI q) (nI m)
  obtain ⟨rb, sb', hb', zb, b1, b2, b3, b4, -⟩ := gw_o_give hSb hHb (by omega) (nI d) (nI q) (nI m)
  have hab := a2.symm.trans b2
  simp only [Option.some.injEq, Prod.mk.injEq] at hab
  obtain ⟨rfl, rfl, -⟩ := hab
  unfold f_L_change_163 f_L_change_191
  by_cases c : n < 40
  · obtain ⟨z', e, hI', e2, e132, e12, e92⟩ := gw_r_give hI c ht hd1 hd2 hq hm hqm
    have hz := a2.symm.trans e
    simp only [Option.some.injEq, Prod.mk.injEq] at hz
    obtain ⟨rfl, rfl, -⟩ := hz
    refine ⟨sa', ha', sb', hb', n + 1, za, ?_, a3, a4, b3, b4, hI', r, e2.trans hr, hr1, hr2⟩
    rw [a1, Option.bind_some, if_neg (show ¬ (40 : Int32) ≤ nI n from nI_ge (b := 40) c (by omega)), if_pos rfl, b1, Option.bind_some, if_pos rfl]
    unfold f_L_change_214
    rw [if_neg (by decide), if_neg (nI_pos (n := n) (by omega)), gw_p0 a3 hI' (Nat.lt_succ_self n), Option.bind_some, if_pos e132, gw_p1 a3 hI' (Nat.lt_succ_self n), Option.bind_some, gw_c0 a3 hI', Option.bind_some, if_pos (by rw [e12, hI'.1.1, nI_add]), gw_p3 a3 hI' (Nat.lt_succ_self n), Option.bind_some, if_pos e92]
  · have e40 : n = 40 := by omega
    subst e40
    have hz := a2.symm.trans (gw_r_give40 (t := t) hI.1.2.1 hd1 hd2 hq hm hqm)
    simp only [Option.some.injEq, Prod.mk.injEq] at hz
    obtain ⟨rfl, rfl, -⟩ := hz
    refine ⟨sa', ha', sb', hb', 40, za, ?_, a3, a4, b3, b4, hI, r, hr, hr1, hr2⟩
    rw [a1, Option.bind_some, if_pos (show (40 : Int32) ≤ nI 40 by decide), if_pos rfl, b1, Option.bind_some, if_pos rfl]
    unfold f_L_change_214
    rw [if_neg (show ¬ (1 : Int32) = 0 by decide), if_pos (show (-3 : Int32) < 0 by decide)]
theorem gw_ch_break (hW : gw_W n t B z sa ha sb hb) (ht : t ≤ 20000) (hB : B ≤ 300000000) (pg : VX4) {p : Nat} (hp : p ≤ n) {s : Int32} (hs : (p = n ∧ s = 9) ∨ (p < n ∧ s = z (132 + p))) : ∃ sa' ha' sb' hb' n' z', f_L_change_290 pg s (nI p) sa ha sb hb = some (1, sa', ha', sb', hb') ∧ gw_W n' t (B + 1) z' sa' ha' sb' hb' := by
  obtain ⟨hSa, hHa, hSb, hHb, hI, r, hr, hr1, hr2⟩ := hW
  have hn := hI.1.2.2.1
  obtain ⟨ra, sa', ha', za, a1, a2, a3, a4, -⟩ := gw_o_break hSa hHa (by omega) (nI p)
  obtain ⟨rb, sb', hb', zb, b1, b2, b3, b4, -⟩ := gw_o_break hSb hHb (by omega) (nI p)
  have hab := a2.symm.trans b2
  simp only [Option.some.injEq, Prod.mk.injEq] at hab
  obtain ⟨rfl, rfl, -⟩ := hab
  have e335 : ∀ x, ra = x → f_L_change_335 ra x (nI p) ra sa' ha' sb hb = some (1, sa', ha', sb', hb') := by
    intro x hx
    unfold f_L_change_335
    rw [if_pos hx, b1, Option.bind_some, if_pos rfl]
  unfold f_L_change_290
  rw [gw_c4 hSa hI, Option.bind_some, a1, Option.bind_some]
  rcases gw_r_break hI hp with ⟨e, k⟩ | ⟨c, c1, k⟩ | ⟨c, c1, k, hI'⟩
  · have hz := a2.symm.trans k
    simp only [Option.some.injEq, Prod.mk.injEq] at hz
    obtain ⟨rfl, rfl, -⟩ := hz
    have es : s = 9 := hs.elim (fun w => w.2) (fun w => by omega)
    refine ⟨sa', ha', sb', hb', n, za, ?_, a3, a4, b3, b4, hI, r, hr, hr1, hr2⟩
    rw [if_pos es]
    exact e335 _ rfl
  · have hz := a2.symm.trans k
    simp only [Option.some.injEq, Prod.mk.injEq] at hz
    obtain ⟨rfl, rfl, -⟩ := hz
    have es : s = za (132 + p) := hs.elim (fun w => by omega) (fun w => w.2)
    obtain ⟨wc, sc, due, g1, g2, g3, g4⟩ := hI.2 p c
    have h4 := g4.1
    rw [g2] at c1
    have h1 : ¬ sc ≤ 1 := fun w => c1 (nI_le (b := 1) w (by omega))
    refine ⟨sa', ha', sb', hb', n, za, ?_, a3, a4, b3, b4, hI, r, hr, hr1, hr2⟩
    rw [es, g2, if_neg (show ¬ nI sc = 9 from fun w => by have := (nI_eq (b := 9) (by omega) (by omega)).mp w; omega), if_pos (show (2 : Int32) ≤ nI sc from nI_le (a := 2) (by omega) (by omega))]
    exact e335 _ rfl
  · have hz := a2.symm.trans k
    simp only [Option.some.injEq, Prod.mk.injEq] at hz
    obtain ⟨rfl, rfl, -⟩ := hz
    have es : s = z (132 + p) := hs.elim (fun w => by omega) (fun w => w.2)
    obtain ⟨wc, sc, due, g1, g2, g3, g4⟩ := hI.2 p c
    have h4 := g4.1
    rw [g2] at c1
    have h1 : sc ≤ 1 := (nI_leI (b := 1) (by omega) (by omega)).mp c1
    refine ⟨sa', ha', sb', hb', n, _, ?_, a3, a4, b3, b4, hI', r, (pk_un (by omega)).trans hr, hr1, hr2⟩
    rw [es, g2, if_neg (show ¬ nI sc = 9 from fun w => by have := (nI_eq (b := 9) (by omega) (by omega)).mp w; omega), if_neg (show ¬ (2 : Int32) ≤ nI sc from nI_ge (b := 2) (by omega) (by omega)), nI_1]
    exact e335 _ rfl
theorem gw_ch_move (hW : gw_W n t B z sa ha sb hb) (ht : t ≤ 20000) (hB : B ≤ 300000000) {p d : Nat} (hp : p ≤ n) (hd1 : 1 ≤ d) (hd2 : d ≤ 511) {s : Int32} (hs : (p = n ∧ s = 9) ∨ (p < n ∧ s = z (132 + p))) : ∃ sa' ha' sb' hb' n' z', f_L_change_373 s (nI p) (nI d) sa ha sb hb = some (1, sa', ha', sb', hb') ∧ gw_W n' t (B + 1) z' sa' ha' sb' hb' := by
  obtain ⟨hSa, hHa, hSb, hHb, hI, r, hr, hr1, hr2⟩ := hW
  have hn := hI.1.2.2.1
  obtain ⟨ra, sa', ha', za, a1, a2, a3, a4, -⟩ := gw_o_move hSa hHa (by omega) (nI p) (nI d)
  obtain ⟨rb, sb', hb', zb, b1, b2, b3, b4, -⟩ := gw_o_move hSb hHb (by omega) (nI p) (nI d)
  have hab := a2.symm.trans b2
  simp only [Option.some.injEq, Prod.mk.injEq] at hab
  obtain ⟨rfl, rfl, -⟩ := hab
  have e428 : ∀ x, ra = x → f_L_change_428 ra x (nI p) (nI d) ra sa' ha' sb hb = some (1, sa', ha', sb', hb') := by
    intro x hx
    unfold f_L_change_428
    rw [if_pos hx, b1, Option.bind_some, if_pos rfl]
  unfold f_L_change_373 f_L_change_391
  rcases gw_r_move hI hp ht hd1 hd2 with ⟨e, k⟩ | ⟨c, c1, k⟩ | ⟨c, c1, z', k, hI', e2⟩
  · have hz := a2.symm.trans k
    simp only [Option.some.injEq, Prod.mk.injEq] at hz
    obtain ⟨rfl, rfl, -⟩ := hz
    have es : s = 9 := hs.elim (fun w => w.2) (fun w => by omega)
    subst es
    refine ⟨sa', ha', sb', hb', n, za, ?_, a3, a4, b3, b4, hI, r, hr, hr1, hr2⟩
    rw [if_neg (by decide), a1, Option.bind_some, if_pos rfl]
    exact e428 _ rfl
  · have hz := a2.symm.trans k
    simp only [Option.some.injEq, Prod.mk.injEq] at hz
    obtain ⟨rfl, rfl, -⟩ := hz
    have es : s = za (132 + p) := hs.elim (fun w => by omega) (fun w => w.2)
    obtain ⟨wc, sc, due, g1, g2, g3, g4⟩ := hI.2 p c
    have h4 := g4.1
    refine ⟨sa', ha', sb', hb', n, za, ?_, a3, a4, b3, b4, hI, r, hr, hr1, hr2⟩
    have c9 : ¬ s = 9 := fun w => by
      have := (nI_eq (b := 9) (by omega) (by omega)).mp (g2.symm.trans (es.symm.trans w))
      omega
    rw [if_neg (fun w => c1 (es.symm.trans w)), a1, Option.bind_some, if_neg c9, if_neg (fun w => c1 (es.symm.trans w))]
    exact e428 _ rfl
  · have hz := a2.symm.trans k
    simp only [Option.some.injEq, Prod.mk.injEq] at hz
    obtain ⟨rfl, rfl, -⟩ := hz
    have es : s = 0 := hs.elim (fun w => by omega) (fun w => w.2.trans c1)
    subst es
    refine ⟨sa', ha', sb', hb', n, _, ?_, a3, a4, b3, b4, hI', r, e2.trans hr, hr1, hr2⟩
    rw [if_pos rfl, gw_p1 hSa hI c, Option.bind_some, a1, Option.bind_some, if_neg (by decide), if_pos rfl]
    exact e428 _ rfl
theorem gw_ch_set (hW : gw_W n t B z sa ha sb hb) (hB : B ≤ 300000000) (pg : VX4) {w v : Nat} (hw : (w = 1 ∧ v ≤ 40) ∨ (w = 2 ∧ v ≤ 1)) : ∃ sa' ha' sb' hb' n' z', f_L_change_550 pg (nI v) (nI w) sa ha sb hb = some (1, sa', ha', sb', hb') ∧ gw_W n' t (B + 1) z' sa' ha' sb' hb' := by
  obtain ⟨hSa, hHa, hSb, hHb, hI, r, hr, hr1, hr2⟩ := hW
  obtain ⟨ra, sa', ha', za, a1, a2, a3, a4, -⟩ := gw_o_set hSa hHa (by omega) (nI w) (nI v)
  obtain ⟨rb, sb', hb', zb, b1, b2, b3, b4, -⟩ := gw_o_set hSb hHb (by omega) (nI w) (nI v)
  have hab := a2.symm.trans b2
  simp only [Option.some.injEq, Prod.mk.injEq] at hab
  obtain ⟨rfl, rfl, -⟩ := hab
  unfold f_L_change_550
  rcases hw with ⟨rfl, hv⟩ | ⟨rfl, hv⟩
  · obtain ⟨k, hI'⟩ := gw_r_set1 hI hv
    have hz := a2.symm.trans k
    simp only [Option.some.injEq, Prod.mk.injEq] at hz
    obtain ⟨rfl, rfl, -⟩ := hz
    refine ⟨sa', ha', sb', hb', n, _, ?_, a3, a4, b3, b4, hI', r, (pk_un (by omega)).trans hr, hr1, hr2⟩
    rw [show (14 : Int32) + nI 1 = 15 by decide, gw_c15 hSa hI, Option.bind_some, a1, Option.bind_some, if_pos rfl, b1, Option.bind_some, if_pos rfl]
  · obtain ⟨k, hI'⟩ := gw_r_set2 hI hv
    have hz := a2.symm.trans k
    simp only [Option.some.injEq, Prod.mk.injEq] at hz
    obtain ⟨rfl, rfl, -⟩ := hz
    refine ⟨sa', ha', sb', hb', n, _, ?_, a3, a4, b3, b4, hI', r, (pk_un (by omega)).trans hr, hr1, hr2⟩
    rw [show (14 : Int32) + nI 2 = 16 by decide, gw_c16 hSa hI, Option.bind_some, a1, Option.bind_some, if_pos rfl, b1, Option.bind_some, if_pos rfl]
theorem gw_ch_41 (hW : gw_W n t B z sa ha sb hb) (ht : t ≤ 20000) (hB : B ≤ 300000000) (pg : VX4) (g x : Int32) {m p : Nat} (hm1 : 1 ≤ m) (hm2 : m ≤ 511) (hp : p ≤ n) : ∃ sa' ha' sb' hb' n' z', f_L_change_41 g pg 1 x (nI m) (nI n) (nI p) sa ha sb hb = some (1, sa', ha', sb', hb') ∧ gw_W n' t (B + 1) z' sa' ha' sb' hb' := by
  have hI := hW.2.2.2.2.1
  have hn := hI.1.2.2.1
  obtain ⟨j, hj, ej⟩ := gw_low x (m := m) hm1 (by omega)
  have ed : (1 : Int32) + nI j = nI (j + 1) := by rw [Int32.add_comm, nI_1]
  unfold f_L_change_41
  rw [ej, Option.bind_some, q_let, ed]
  obtain ⟨w, hw, ew⟩ := gw_low g (m := 9) (by omega) (by omega)
  have ew : f_L_low g 9 = some (nI w) := ew
  rw [ew, Option.bind_some]
  -- a gift
  have give : ∃ sa' ha' sb' hb' n' z', ((f_L_low (g >>> (18 &&& 31)) 3).bind fun r105 => if r105 = 0 then f_L_change_143 g pg 0 (nI n) (nI (j + 1)) sa ha sb hb else (f_L_low (g >>> (21 &&& 31)) 2).bind fun r125 => if r125 = 0 then f_L_change_139 g pg 1 (g >>> (13 &&& 31)) 9 (nI n) (nI (j + 1)) sa ha sb hb else f_L_change_139 g pg 1 (g >>> (13 &&& 31)) 200 (nI n) (nI (j + 1)) sa ha sb hb) = some (1, sa', ha', sb', hb') ∧ gw_W n' t (B + 1) z' sa' ha' sb' hb' := by
    obtain ⟨a, ha1, ea⟩ := gw_low (g >>> (18 &&& 31)) (m := 3) (by omega) (by omega)
    have ea : f_L_low (g >>> (18 &&& 31)) 3 = some (nI a) := ea
    rw [ea, Option.bind_some]
    by_cases c : nI a = 0
    · rw [if_pos c]
      unfold f_L_change_143
      rw [if_pos rfl]
      exact gw_ch_give hW ht hB pg (d := j + 1) (q := 0) (m := 0) (by omega) (by omega) (by omega) (by omega) (fun w => absurd rfl w)
    · rw [if_neg c]
      obtain ⟨b, hb1, eb⟩ := gw_low (g >>> (21 &&& 31)) (m := 2) (by omega) (by omega)
      have eb : f_L_low (g >>> (21 &&& 31)) 2 = some (nI b) := eb
      rw [eb, Option.bind_some]
      have e139 : ∀ (k : Nat), 1 ≤ k → k ≤ 200 → ∃ sa' ha' sb' hb' n' z', f_L_change_139 g pg 1 (g >>> (13 &&& 31)) (nI k) (nI n) (nI (j + 1)) sa ha sb hb = some (1, sa', ha', sb', hb') ∧ gw_W n' t (B + 1) z' sa' ha' sb' hb' := by
        intro k k1 k2
        unfold f_L_change_139 f_L_change_143
        obtain ⟨e, he, ee⟩ := gw_low (g >>> (13 &&& 31)) (m := k) k1 (by omega)
        rw [ee, Option.bind_some, show (1 : Int32) + nI e = nI (e + 1) by rw [Int32.add_comm, nI_1], if_neg (nI_ne0 (by omega) (by omega))]
        obtain ⟨f, hf, ef⟩ := gw_low (g >>> (23 &&& 31)) (m := 9) (by omega) (by omega)
        have ef : f_L_low (g >>> (23 &&& 31)) 9 = some (nI f) := ef
        rw [ef, Option.bind_some]
        exact gw_ch_give hW ht hB pg (d := j + 1) (q := e + 1) (m := f) (by omega) (by omega) (by omega) (by omega) (fun _ => by omega)
      by_cases c2 : nI b = 0
      · rw [if_pos c2]
        exact e139 9 (by omega) (by omega)
      · rw [if_neg c2]
        exact e139 200 (by omega) (by omega)
  have state : ∀ {α : Type} (K : Int32 → Option α), ∃ s, ((p = n ∧ s = 9) ∨ (p < n ∧ s = z (132 + p))) ∧ (if nI n ≤ nI p then K 9 else (f_X9_promise (nI p) 0 sa).bind fun r => K r) = K s := by
    intro α K
    by_cases c : p < n
    · exact ⟨z (132 + p), Or.inr ⟨c, rfl⟩, by rw [if_neg (nI_ge c (by omega)), gw_p0 hW.1 hI c, Option.bind_some]⟩
    · exact ⟨9, Or.inl ⟨by omega, rfl⟩, by rw [if_pos (nI_le (by omega) (by omega))]⟩
  rcases (show w = 0 ∨ w = 1 ∨ w = 2 ∨ w = 3 ∨ w = 4 ∨ w = 5 ∨ w = 6 ∨ w = 7 ∨ w = 8 by omega) with rfl | rfl | rfl | rfl | rfl | rfl | rfl | rfl | rfl
  · rw [if_pos (show nI 0 = 0 from rfl)]
    exact give
  · rw [if_neg (show ¬ nI 1 = 0 by decide), if_pos (show nI 1 = 1 from rfl)]
    exact give
  · rw [if_neg (show ¬ nI 2 = 0 by decide), if_neg (show ¬ nI 2 = 1 by decide), if_pos (show nI 2 = 2 from rfl)]
    exact give
  · rw [if_neg (show ¬ nI 3 = 0 by decide), if_neg (show ¬ nI 3 = 1 by decide), if_neg (show ¬ nI 3 = 2 by decide), if_pos (show nI 3 = 3 from rfl)]
    exact give
  · rw [if_neg (show ¬ nI 4 = 0 by decide), if_neg (show ¬ nI 4 = 1 by decide), if_neg (show ¬ nI 4 = 2 by decide), if_neg (show ¬ nI 4 = 3 by decide), if_pos (show nI 4 = 4 from rfl)]
    obtain ⟨s, hs, e⟩ := state (fun s => f_L_change_290 pg s (nI p) sa ha sb hb)
    rw [e]
    exact gw_ch_break hW ht hB pg hp hs
  · rw [if_neg (show ¬ nI 5 = 0 by decide), if_neg (show ¬ nI 5 = 1 by decide), if_neg (show ¬ nI 5 = 2 by decide), if_neg (show ¬ nI 5 = 3 by decide), if_neg (show ¬ nI 5 = 4 by decide), if_pos (show nI 5 = 5 from rfl)]
    obtain ⟨s, hs, e⟩ := state (fun s => f_L_change_373 s (nI p) (nI (j + 1)) sa ha sb hb)
    rw [e]
    exact gw_ch_move hW ht hB hp (by omega) (by omega) hs
  · rw [if_neg (show ¬ nI 6 = 0 by decide), if_neg (show ¬ nI 6 = 1 by decide), if_neg (show ¬ nI 6 = 2 by decide), if_neg (show ¬ nI 6 = 3 by decide), if_neg (show ¬ nI 6 = 4 by decide), if_neg (show ¬ nI 6 = 5 by decide), if_pos (show nI 6 = 6 from rfl)]
    obtain ⟨a, ha1, ea⟩ := gw_low (g >>> (8 &&& 31)) (m := 12) (by omega) (by omega)
    have ea : f_L_low (g >>> (8 &&& 31)) 12 = some (nI a) := ea
    obtain ⟨hSa, hHa, hSb, hHb, hI, r, hr, hr1, hr2⟩ := hW
    rw [gw_c14 hSa hI, Option.bind_some, ea, Option.bind_some, q_let, show (1 : Int32) + nI a = nI (a + 1) by rw [Int32.add_comm, nI_1]]
    obtain ⟨ra, sa', ha', za, a1, a2, a3, a4, -⟩ := gw_o_set hSa hHa (by omega) 0 (nI (a + 1))
    obtain ⟨rb, sb', hb', zb, b1, b2, b3, b4, -⟩ := gw_o_set hSb hHb (by omega) 0 (nI (a + 1))
    have hab := a2.symm.trans b2
    simp only [Option.some.injEq, Prod.mk.injEq] at hab
    obtain ⟨rfl, rfl, -⟩ := hab
    have hz := a2.symm.trans (gw_r_set0 hI (r := a + 1) (by omega) (by omega))
    simp only [Option.some.injEq, Prod.mk.injEq] at hz
    obtain ⟨rfl, rfl, -⟩ := hz
    have hI' := hI.room (r := a + 1) (by omega) (by omega)
    refine ⟨sa', ha', sb', hb', n, _, ?_, a3, a4, b3, b4, hI', a + 1, pk_us, by omega, by omega⟩
    rw [a1, Option.bind_some, if_pos rfl, b1, Option.bind_some, if_pos rfl, gw_c14 a3 hI', Option.bind_some, if_pos pk_us]
  · rw [if_neg (show ¬ nI 7 = 0 by decide), if_neg (show ¬ nI 7 = 1 by decide), if_neg (show ¬ nI 7 = 2 by decide), if_neg (show ¬ nI 7 = 3 by decide), if_neg (show ¬ nI 7 = 4 by decide), if_neg (show ¬ nI 7 = 5 by decide), if_neg (show ¬ nI 7 = 6 by decide), if_pos (show nI 7 = 7 from rfl)]
    obtain ⟨a, ha1, ea⟩ := gw_low (g >>> (6 &&& 31)) (m := 2) (by omega) (by omega)
    have ea : f_L_low (g >>> (6 &&& 31)) 2 = some (nI a) := ea
    rw [ea, Option.bind_some, q_let, show (1 : Int32) + nI a = nI (a + 1) by rw [Int32.add_comm, nI_1]]
    rcases (show a = 0 ∨ a = 1 by omega) with rfl | rfl
    · rw [if_pos (show nI (0 + 1) = 1 from rfl)]
      obtain ⟨b, hb1, eb⟩ := gw_low (g >>> (8 &&& 31)) (m := 41) (by omega) (by omega)
      have eb : f_L_low (g >>> (8 &&& 31)) 41 = some (nI b) := eb
      rw [eb, Option.bind_some]
      exact gw_ch_set hW hB pg (Or.inl ⟨rfl, by omega⟩)
    · rw [if_neg (show ¬ nI (1 + 1) = 1 by decide)]
      obtain ⟨b, hb1, eb⟩ := gw_low (g >>> (8 &&& 31)) (m := 2) (by omega) (by omega)
      have eb : f_L_low (g >>> (8 &&& 31)) 2 = some (nI b) := eb
      rw [eb, Option.bind_some]
      exact gw_ch_set hW hB pg (Or.inr ⟨rfl, by omega⟩)
  · rw [if_neg (show ¬ nI 8 = 0 by decide), if_neg (show ¬ nI 8 = 1 by decide), if_neg (show ¬ nI 8 = 2 by decide), if_neg (show ¬ nI 8 = 3 by decide), if_neg (show ¬ nI 8 = 4 by decide), if_neg (show ¬ nI 8 = 5 by decide), if_neg (show ¬ nI 8 = 6 by decide), if_neg (show ¬ nI 8 = 7 by decide)]
    obtain ⟨hSa, hHa, hSb, hHb, hI, r, hr, hr1, hr2⟩ := hW
    obtain ⟨ra, sa', ha', za, a1, a2, a3, a4, -⟩ := gw_o_sweep hSa hHa (by omega)
    obtain ⟨rb, sb', hb', zb, b1, b2, b3, b4, -⟩ := gw_o_sweep hSb hHb (by omega)
    have hab := a2.symm.trans b2
    simp only [Option.some.injEq, Prod.mk.injEq] at hab
    obtain ⟨rfl, rfl, -⟩ := hab
    obtain ⟨er, hI', e2, e0⟩ := gw_r_sweep hI a2
    refine ⟨sa', ha', sb', hb', n, za, ?_, a3, a4, b3, b4, hI', r, e2.trans hr, hr1, hr2⟩
    rw [gw_c4 hSa hI, Option.bind_some, a1, Option.bind_some, if_pos er, b1, Option.bind_some, if_pos er, gw_c4 a3 hI', Option.bind_some, if_pos (by rw [e0]; rfl)]
theorem gw_change (hW : gw_W n t B z sa ha sb hb) (ht : t ≤ 20000) (hB : B ≤ 300000000) (pg : VX4) (g : Int32) : ∃ sa' ha' sb' hb' n' z', f_L_change g sa ha pg sb hb = some (1, sa', ha', sb', hb') ∧ gw_W n' t (B + 1) z' sa' ha' sb' hb' := by
  have hI := hW.2.2.2.2.1
  have hn := hI.1.2.2.1
  unfold f_L_change
  rw [gw_c1 hW.1 hI, Option.bind_some, hI.1.2.1, nI_1]
  obtain ⟨p, hp, ep⟩ := gw_low (g >>> (4 &&& 31)) (m := n + 1) (by omega) (by omega)
  rw [ep, Option.bind_some]
  obtain ⟨b, hb1, eb⟩ := gw_low (g >>> (20 &&& 31)) (m := 2) (by omega) (by omega)
  have eb : f_L_low (g >>> (20 &&& 31)) 2 = some (nI b) := eb
  rw [eb, Option.bind_some]
  by_cases c : nI b = 0
  · rw [if_pos c]
    exact gw_ch_41 hW ht hB pg g _ (m := 12) (by omega) (by omega) (by omega)
  · rw [if_neg c]
    exact gw_ch_41 hW ht hB pg g _ (m := 511) (by omega) (by omega) (by omega)
end GC
