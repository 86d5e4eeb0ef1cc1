/-! PURE PART: the calls that change a wheel -/
theorem q_PF.congf {f f' z : Nat → Int32} {n : Nat} (hn : n ≤ 40) (h : q_PF f z n) (e : ∀ i, i < 240 → f' i = f i) : q_PF f' z n := by
  intro p hp
  rw [e _ (by omega), e _ (by omega), e _ (by omega), e _ (by omega), e _ (by omega), e _ (by omega)]
  exact h p hp
section QO
variable {pr : VX5} {dy : VX0} {ln : VX3} {now room bound drift br lt fl sw ps lo : Int32} {z : Nat → Int32} {L L0 : Nat → List Nat} {n k c T t : Nat}
theorem q_V.cong {z' : Nat → Int32} (h : q_V pr dy now room bound drift br lt fl sw ps lo z L n c T t) (e : ∀ i, i < 368 → z' i = z i) : q_V pr dy now room bound drift br lt fl sw ps lo z' L n c T t := by
  have hn := h.n4
  obtain ⟨⟨a1, a2⟩, b, sc, d, e4, f⟩ := h
  refine ⟨⟨a1, a2.cong hn (fun i hi => e i (by omega))⟩, b.cong (fun i hi => e i (by omega)), sc.cong (fun i hi => e i (by omega)) (fun q hq => by rw [e (132 + q) (by omega)]), d.cong (fun i hi => e i (by omega)), e4.cong hn (Nat.le_refl _) (fun i hi => e i (by omega)) (fun q hq => Or.inl (e _ (by omega))) (fun j hj p hp => Or.inl ⟨hp, e _ ?_⟩), ?_⟩
  · have := ((b.2.1 j (by omega)).2.2 p hp).1
    omega
  · rw [e 2 (by omega)]
    exact f
theorem q_X.cong {z' : Nat → Int32} (h : q_X pr ln dy now room bound drift br lt fl sw ps lo z n k c T t) (e : ∀ i, i < 368 → z' i = z i) : q_X pr ln dy now room bound drift br lt fl sw ps lo z' n k c T t := by
  obtain ⟨L, c', T', a, b⟩ := h
  exact ⟨L, c', T', a.cong e, b⟩
theorem q_copy (pv : VX5) (lv : VX3) (dv : VX0) (h : q_X pr ln dy now room bound drift br lt fl sw ps lo z n k c T t) : ∃ pr' ln' dy', f_X8_copyFrom pv lv dv pr ln dy now room bound drift br lt fl sw ps lo = some (pr', ln', dy', now, room, bound, drift, br, lt, fl, sw, ps, lo) ∧ q_X pr' ln' dy' now room bound drift br lt fl sw ps lo z n k c T t := by
  obtain ⟨L, c', T', h, hcl, hc⟩ := h
  obtain ⟨ln', hl⟩ : ∃ v', f_X3_copyFrom lv.1 lv.2.1 lv.2.2.1 lv.2.2.2.1 lv.2.2.2.2 ln.1 ln.2.1 ln.2.2.1 ln.2.2.2.1 ln.2.2.2.2 = some v' := ⟨_, rfl⟩
  have hn := h.n4
  refine ⟨(va_cpy pr.1 pv.1 0 0 240, pr.2), ln', (va_cpy dy.1 dv.1 0 0 36, dy.2), ?_, L, c', T', ?_, q_CL_copy hcl hl, hc⟩
  · unfold f_X8_copyFrom f_X5_copyFrom f_X0_copyFrom
    simp only [zk_let, Option.bind_some, hl]
  · obtain ⟨⟨a1, a2⟩, b, sc, d, e, f⟩ := h
    refine ⟨⟨a1, a2.congf hn (fun i hi => sb_cpy0 hi)⟩, b, sc, ⟨d.1, d.2.1, fun k hk hkc i hi => ?_, d.2.2.2⟩, e, f⟩
    rw [← d.2.2.1 k hk hkc i hi]
    exact sb_cpy0 (by omega)
/-- a promise is broken -/
theorem q_V.broken (h : q_V pr dy now room bound drift br lt fl sw ps lo z L n c T t) {p : Nat} (hp : p < n) (h3 : z (132 + p) ≠ 3) : q_V (upd pr.1 (p * 6 + 0) 3, pr.2) dy now room bound drift (br + 1) lt fl sw ps lo (upd z (132 + p) 3) L n c T t := by
  have hn := h.n4
  obtain ⟨⟨a1, a2⟩, b, sc, d, e, f⟩ := h
  obtain ⟨s1, s2, s3, s4, s5, s6, s7, s8, s9, s10, s11⟩ := sc
  refine ⟨⟨a1, a2.set0 hn (by omega) 3⟩, b.cong (fun i hi => by simp only [upd]; (repeat' split) <;> first | rfl | (exfalso; omega)), ⟨s1, Eq.trans (by simp (disch := omega) only [pk_us, pk_un]) s2, s3.trans (Eq.symm (by simp (disch := omega) only [pk_us, pk_un])), s4.trans (Eq.symm (by simp (disch := omega) only [pk_us, pk_un])), s5.trans (Eq.symm (by simp (disch := omega) only [pk_us, pk_un])), ?_, s7.trans (Eq.symm (by simp (disch := omega) only [pk_us, pk_un])), s8.trans (Eq.symm (by simp (disch := omega) only [pk_us, pk_un])), s9.trans (Eq.symm (by simp (disch := omega) only [pk_us, pk_un])), s10.trans (Eq.symm (by simp (disch := omega) only [pk_us, pk_un])), s11.trans (Eq.symm (by simp (disch := omega) only [pk_us, pk_un]))⟩, d.cong (fun i hi => by simp only [upd]; (repeat' split) <;> first | rfl | (exfalso; omega)), e.cong hn (Nat.le_refl _) (fun i hi => by simp only [upd]; (repeat' split) <;> first | rfl | (exfalso; omega)) (fun q hq => ?_) (fun j hj q hq => ?_), ?_⟩
  · rw [s6, nI_1]
    congr 1
    exact (q_cn_flip (P := fun q => decide (z (132 + q) = 3)) (R := fun q => decide (upd z (132 + p) 3 (132 + q) = 3)) n hp (decide_eq_false h3) (decide_eq_true (by simp (disch := omega) only [pk_us, pk_un])) (fun q hq hne => by simp (disch := omega) only [pk_un])).symm
  · by_cases y : q = p
    · subst y
      right
      rw [pk_us]
      decide
    · left
      simp (disch := omega) only [pk_un]
  · have := ((b.2.1 j (by omega)).2.2 q hq).1
    by_cases y : q = p
    · subst y
      right
      right
      simp (disch := omega) only [pk_us, pk_un]
    · exact Or.inl ⟨hq, by simp (disch := omega) only [pk_us, pk_un]⟩
  · rw [show upd z (132 + p) 3 2 = z 2 from by simp (disch := omega) only [pk_us, pk_un]]
    exact f
theorem q_isP (hz1 : z 1 = nI n) (hn : n ≤ 40) (x : Int32) : (f_X5_has x (nI n) = some 0 ∧ f_X10_isPromise x z = some 0) ∨ ∃ p, p < n ∧ x = nI p ∧ f_X5_has x (nI n) = some 1 ∧ f_X10_isPromise x z = some 1 := by
  rcases q_has hn x with ⟨a, b⟩ | ⟨p, a, b, d⟩
  · refine Or.inl ⟨a, ?_⟩
    unfold f_X10_isPromise
    by_cases c : x < 0
    · rw [if_pos c]
    · rw [if_neg c, q_k1, q_n1, hz1, if_pos (b.resolve_left c)]
  · refine Or.inr ⟨p, a, b, d, ?_⟩
    unfold f_X10_isPromise
    subst b
    rw [if_neg (nI_pos (by omega)), q_k1, q_n1, hz1, if_neg (nI_ge a (by omega))]
theorem q_alive {x : Int32} (h : ¬ x < 0) : x ≤ 1 ↔ x = 0 ∨ x = 1 := by
  obtain ⟨s, hs, rfl⟩ := nI_of h
  constructor
  · intro y
    have := (nI_leI (b := 1) hs (by omega)).mp y
    rcases (show s = 0 ∨ s = 1 by omega) with rfl | rfl
    · exact Or.inl rfl
    · exact Or.inr rfl
  · rintro (y | y)
    · rw [y]
      decide
    · rw [y]
      decide
theorem q_isAlive {p : Nat} (hp : p < 40) (f : Nat → Int32) (h : ¬ f (p * 6 + 0) < 0) : f_X5_isAlive (nI p) f = some (if f (p * 6 + 0) ≤ 1 then 1 else 0) := by
  unfold f_X5_isAlive
  rw [q_fact0 hp, Option.bind_some]
  by_cases c : f (p * 6 + 0) ≤ 1
  · rw [if_pos c]
    rcases (q_alive h).mp c with y | y
    · rw [if_pos y]
    · rw [if_neg (by rw [y]; decide), if_pos y]
  · rw [if_neg c]
    have c2 := fun y => c ((q_alive h).mpr y)
    rw [if_neg (fun y => c2 (Or.inl y)), if_neg (fun y => c2 (Or.inr y))]
/-- what the model does with its past when a call is done -/
def q_kept (r : Int32) (z' : Nat → Int32) (m : Option ((Nat → Int32) × (Nat → Int32) × Int32)) : Option (Int32 × (Nat → Int32) × (Nat → Int32) × (Nat → Int32) × Int32) := m.bind fun r1 => some (r, z', r1.1, r1.2.1, r1.2.2)
theorem q_opBreak (h : q_X pr ln dy now room bound drift br lt fl sw ps lo z n k c T t) (x : Int32) : ∃ r pr' br', f_X8_breakPromise x pr br = some (r, pr', br') ∧ ((r < 0 ∧ pr' = pr ∧ br' = br ∧ ∀ sn hs pa ph pm be q, f_X10_breakOff x z sn hs pa ph pm be q = some (r, z, pa, ph, pm)) ∨ (¬ r < 0 ∧ ∃ z', q_X pr' ln dy now room bound drift br' lt fl sw ps lo z' n k c T t ∧ ∀ sn hs pa ph pm be q, f_X10_breakOff x z sn hs pa ph pm be q = q_kept r z' (f_X10_record z sn hs pa ph pm be q))) := by
  obtain ⟨L, c', T', h, hcl, hc⟩ := h
  have hn := h.n4
  unfold f_X8_breakPromise f_X10_breakOff
  rw [h.1.1]
  rcases q_isP h.2.1.2.2.2.1 hn x with ⟨e1, e2⟩ | ⟨p, hp, rfl, e1, e2⟩
  · refine ⟨-1, pr, br, ?_, Or.inl ⟨by decide, rfl, rfl, fun sn hs pa ph pm be q => ?_⟩⟩
    · rw [e1, Option.bind_some, if_pos rfl]
    · rw [e2, Option.bind_some, if_pos rfl]
  · have hpf := (h.1.2 p hp).1
    have h0 := h.2.2.2.2.1.2.2.2 p hp
    rw [e1, e2]
    simp (disch := omega) only [Option.bind_some, if_neg (show ¬ (1 : Int32) = 0 by decide), q_isAlive (p := p) (by omega) pr.1 (by rw [hpf]; exact h0), hpf, q_a132, q_ck, q_cl]
    by_cases ca : z (132 + p) ≤ 1
    · have h3 : z (132 + p) ≠ 3 := fun y => by rw [y] at ca; exact absurd ca (by decide)
      have hV := h.broken hp h3
      have hcnt := hV.2.2.1.2.2.2.2.2.1
      refine ⟨br + 1, (upd pr.1 (p * 6 + 0) 3, pr.2), br + 1, ?_, Or.inr ⟨?_, upd z (132 + p) 3, ⟨L, c', T', hV, hcl, hc⟩, fun sn hs pa ph pm be q => ?_⟩⟩
      · simp only [if_pos ca, if_neg (show ¬ (1 : Int32) = 0 by decide), q_write0 (p := p) (by omega), Option.bind_some, zk_let, h.1.1]
      · rw [hcnt]
        have := q_cn_le (fun q => decide (upd z (132 + p) 3 (132 + q) = 3)) n
        exact nI_pos (by omega)
      · simp only [if_pos ca, zk_let, q_inState hV.2.1.2.2.2.1 hn, Option.bind_some, ← hcnt]
        rfl
    · refine ⟨-2, pr, br, ?_, Or.inl ⟨by decide, rfl, rfl, fun sn hs pa ph pm be q => ?_⟩⟩
      · simp only [if_neg ca, if_pos]
      · simp only [if_neg ca]
set_option maxHeartbeats 1000000 in
theorem q_opMove (h : q_X pr ln dy now room bound drift br lt fl sw ps lo z n k c T t) (hT : T < 2 ^ 29) (hc0 : 21200 + 511 * c < 2 ^ 29) (ht : t ≤ 20600) (x y : Int32) : ∃ r pr' ln', f_X8_movePromise x y pr ln now = some (r, pr', ln') ∧ ((r < 0 ∧ pr' = pr ∧ ln' = ln ∧ ∀ sn hs pa ph pm be q, f_X10_move x y z sn hs pa ph pm be q = some (r, z, pa, ph, pm)) ∨ (¬ r < 0 ∧ ∃ z', q_X pr' ln' dy now room bound drift br lt fl sw ps lo z' n k c (T + 1) t ∧ ∀ sn hs pa ph pm be q, f_X10_move x y z sn hs pa ph pm be q = q_kept r z' (f_X10_record z sn hs pa ph pm be q))) := by
  obtain ⟨L, c', T', h, hcl, hc, hT'⟩ := h
  have hn := h.n4
  unfold f_X8_movePromise f_X10_move
  rw [h.1.1]
  rcases q_isP h.2.1.2.2.2.1 hn x with ⟨e1, e2⟩ | ⟨p, hp, rfl, e1, e2⟩
  · refine ⟨-1, pr, ln, ?_, Or.inl ⟨by decide, rfl, rfl, fun sn hs pa ph pm be q => ?_⟩⟩
    · rw [e1, Option.bind_some, if_pos rfl]
    · rw [e2, Option.bind_some, if_pos rfl]
  · rw [e1, e2]
    simp only [Option.bind_some, if_neg (show ¬ (1 : Int32) = 0 by decide)]
    by_cases c1 : y < 1
    · exact ⟨-1, pr, ln, by rw [if_pos c1], Or.inl ⟨by decide, rfl, rfl, fun sn hs pa ph pm be q => by rw [if_pos c1]⟩⟩
    by_cases c2 : y ≤ 511
    · have hpf := h.1.2 p hp
      have hp4 : p < 40 := by omega
      obtain ⟨⟨d, hd, hdb⟩, -⟩ := h.2.2.2.2.1.1 p hp
      simp (disch := omega) only [if_neg c1, if_pos c2, q_isIn hp4, hpf.1, Option.bind_some, q_a132, q_a12, q_ck, q_cl]
      by_cases c3 : z (132 + p) = 0
      · obtain ⟨y', hy', hyy⟩ := nI_of2 (x := y) (M := 511) (n := 511) rfl (fun w => c1 (Int32.lt_trans w (by decide))) c2
        have hnow := h.2.2.1.1
        have hz0 := h.2.2.1.2.1
        obtain ⟨ln1, L0, hlv, hcl1, hx⟩ : ∃ ln1 L0, f_X3_leave (nI p) ln.1 ln.2.1 ln.2.2.1 ln.2.2.2.1 ln.2.2.2.2 = some ln1 ∧ q_CL ln1 L0 ∧ q_Lx L L0 p := by
          by_cases hz : ∀ j, j < 25 → p ∉ L j
          · exact ⟨ln, L, q_leave_no hcl (by omega) hz, hcl, q_Lx_id hz⟩
          · obtain ⟨j, hz⟩ := Classical.not_forall.mp hz
            obtain ⟨hj, hmm⟩ := Classical.not_imp.mp hz
            have hmm := Classical.not_not.mp hmm
            obtain ⟨ln1, hlv, hcl1⟩ := q_leave hcl hj hmm
            exact ⟨ln1, _, hlv, hcl1, q_Lx_erase h.2.1 hj hmm⟩
        have ed : nI t + y = nI (t + y') := by rw [hyy, nI_add]
        have hD := h.set_due hp (nI (t + y')) ⟨t + y', rfl, by omega⟩
        obtain ⟨j', hj', hlf, hsd⟩ := q_dist (d := t + y') (t := t) (by omega) (by omega)
        obtain ⟨ln2, hjn, hcl2⟩ := q_join hcl1 (j := j') (p := p) (by omega) hp4 (fun i hi => (hx i hi).2.1)
        have hV := hD.stand (j := j') hp (by omega) (fun _ => Or.inl (by simp (disch := omega) only [pk_un]; exact c3)) (by omega) hx
        have hsd2 := hsd (upd z (12 + p) (nI (t + y'))) p hp4 (pk_us) (by simp (disch := omega) only [pk_un]; exact hz0)
        refine ⟨nI d, (upd pr.1 (p * 6 + 1) (nI (t + y')), pr.2), ln2, ?_, Or.inr ⟨nI_pos (by omega), _, ⟨_, c', T' + 1, hV, hcl2, hc, by omega⟩, fun sn hs pa ph pm be q => ?_⟩⟩
        · simp only [if_pos c3, if_neg (show ¬ (1 : Int32) = 0 by decide), q_fact1 hp4, hpf.2.1, hd, Option.bind_some, zk_let, hlv, hnow, ed, q_write1 hp4, hlf, hjn, h.1.1]
        · simp only [if_pos c3, zk_let, q_k0, q_n0, hz0, ed, hd, hsd2, Option.bind_some]
          rfl
      · refine ⟨-2, pr, ln, ?_, Or.inl ⟨by decide, rfl, rfl, fun sn hs pa ph pm be q => ?_⟩⟩
        · simp only [if_neg c3, if_pos]
        · simp only [if_neg c3]
    · exact ⟨-1, pr, ln, by rw [if_neg c1, if_neg c2], Or.inl ⟨by decide, rfl, rfl, fun sn hs pa ph pm be q => by rw [if_neg c1, if_neg c2]⟩⟩
theorem q_opSweep (h : q_X pr ln dy now room bound drift br lt fl sw ps lo z n k c T t) : ∃ r pr' ln' br' sw', f_X8_sweepAll pr ln br sw = some (r, pr', ln', br', sw') ∧ ¬ r < 0 ∧ ∃ z', q_X pr' ln' dy now room bound drift br' lt fl sw' ps lo z' n k c T t ∧ ∀ sn hs pa ph pm be q, f_X10_sweep z sn hs pa ph pm be q = q_kept r z' (f_X10_record z sn hs pa ph pm be q) := by
  obtain ⟨r1, r2, ⟨e, hr, hx⟩, k1, k2⟩ := q_sweepAll h
  obtain ⟨r, pr', ln', br', sw'⟩ := r1
  refine ⟨r, pr', ln', br', sw', k1, hr, r2.2, hx, fun sn hs pa ph pm be q => ?_⟩
  unfold f_X10_sweep
  rw [k2, show r = r2.1 from e]
  rfl
theorem q_three {x : Int32} (h : ¬ x < 0) (h2 : x ≤ 2) : x = 0 ∨ x = 1 ∨ x = 2 := by
  obtain ⟨s, hs, rfl⟩ := nI_of2 (M := 2) (n := 2) rfl h h2
  rcases (show s = 0 ∨ s = 1 ∨ s = 2 by omega) with rfl | rfl | rfl
  · exact Or.inl rfl
  · exact Or.inr (Or.inl rfl)
  · exact Or.inr (Or.inr rfl)
theorem q_opSet (h : q_X pr ln dy now room bound drift br lt fl sw ps lo z n k c T t) (hb : ¬ bound < 0) (hd : ¬ drift < 0) (x y : Int32) : ∃ r ro bo dr, f_X8_changeSetting x y room bound drift = some (r, ro, bo, dr) ∧ ((r < 0 ∧ ro = room ∧ bo = bound ∧ dr = drift ∧ ∀ sn hs pa ph pm be q, f_X10_set x y z sn hs pa ph pm be q = some (r, z, pa, ph, pm)) ∨ (¬ r < 0 ∧ ¬ bo < 0 ∧ ¬ dr < 0 ∧ ∃ z', q_X pr ln dy now ro bo dr br lt fl sw ps lo z' n k c T t ∧ ∀ sn hs pa ph pm be q, f_X10_set x y z sn hs pa ph pm be q = q_kept r z' (f_X10_record z sn hs pa ph pm be q))) := by
  obtain ⟨L, c', T', h, hr⟩ := h
  have e2 := h.2.2.1.2.2.1
  have e3 := h.2.2.1.2.2.2.1
  have e4 := h.2.2.1.2.2.2.2.1
  obtain ⟨ro, hro, hr1, hr2⟩ := h.2.2.2.2.2
  unfold f_X8_changeSetting f_X8_setting f_X10_set f_X10_set_20 f_X10_set_41
  by_cases c0 : x = 0
  · subst c0
    simp only [↓reduceIte, Option.bind_some, if_neg (show ¬ (0 : Int32) < 0 by decide), if_pos (show (0 : Int32) ≤ 2 by decide), show (2 : Int32) + 0 = 2 by decide, q_k2, q_n2, zk_let]
    by_cases c1 : y < 1
    · exact ⟨-1, room, bound, drift, by rw [if_pos c1], Or.inl ⟨by decide, rfl, rfl, rfl, fun sn hs pa ph pm be q => by rw [if_pos c1]⟩⟩
    · by_cases c2 : y ≤ 20
      · obtain ⟨y', hy', hyy⟩ := nI_of2 (x := y) (M := 20) (n := 20) rfl (fun w => c1 (Int32.lt_trans w (by decide))) c2
        have hy1 : 1 ≤ y' := by
          rcases Nat.eq_zero_or_pos y' with w | w
          · subst w
            rw [hyy] at c1
            exact absurd (by decide) c1
          · exact w
        refine ⟨room, y, bound, drift, by rw [if_neg c1, if_pos c2], Or.inr ⟨?_, hb, hd, _, ⟨L, c', T', h.set_room y ⟨y', hyy, hy1, hy'⟩, hr⟩, fun sn hs pa ph pm be q => ?_⟩⟩
        · rw [e2, hro]
          exact nI_pos (by omega)
        · rw [if_neg c1, if_pos c2, e2]
          rfl
      · exact ⟨-1, room, bound, drift, by rw [if_neg c1, if_neg c2], Or.inl ⟨by decide, rfl, rfl, rfl, fun sn hs pa ph pm be q => by rw [if_neg c1, if_neg c2]⟩⟩
  · by_cases c0 : x = 1
    · subst c0
      simp only [↓reduceIte, if_neg (show ¬ (1 : Int32) = 0 by decide), Option.bind_some, if_neg (show ¬ (1 : Int32) < 0 by decide), if_pos (show (1 : Int32) ≤ 2 by decide), show (2 : Int32) + 1 = 3 by decide, q_k3, q_n3, zk_let]
      by_cases c1 : y < 0
      · exact ⟨-1, room, bound, drift, by rw [if_pos c1], Or.inl ⟨by decide, rfl, rfl, rfl, fun sn hs pa ph pm be q => by rw [if_pos c1]⟩⟩
      · by_cases c2 : y ≤ 40
        · refine ⟨bound, room, y, drift, by rw [if_neg c1, if_pos c2], Or.inr ⟨hb, c1, hd, _, ⟨L, c', T', h.set_bound y, hr⟩, fun sn hs pa ph pm be q => ?_⟩⟩
          rw [if_neg c1, if_pos c2, e3]
          rfl
        · exact ⟨-1, room, bound, drift, by rw [if_neg c1, if_neg c2], Or.inl ⟨by decide, rfl, rfl, rfl, fun sn hs pa ph pm be q => by rw [if_neg c1, if_neg c2]⟩⟩
    · by_cases c0 : x = 2
      · subst c0
        simp only [↓reduceIte, if_neg (show ¬ (2 : Int32) = 0 by decide), if_neg (show ¬ (2 : Int32) = 1 by decide), Option.bind_some, if_neg (show ¬ (2 : Int32) < 0 by decide), if_pos (show (2 : Int32) ≤ 2 by decide), show (2 : Int32) + 2 = 4 by decide, q_k4, q_n4, zk_let]
        by_cases c1 : y < 0
        · exact ⟨-1, room, bound, drift, by rw [if_pos c1], Or.inl ⟨by decide, rfl, rfl, rfl, fun sn hs pa ph pm be q => by rw [if_pos c1]⟩⟩
        · by_cases c2 : y ≤ 1
          · refine ⟨drift, room, bound, y, by rw [if_neg c1, if_pos c2], Or.inr ⟨hd, hb, c1, _, ⟨L, c', T', h.set_drift y, hr⟩, fun sn hs pa ph pm be q => ?_⟩⟩
            rw [if_neg c1, if_pos c2, e4]
            rfl
          · exact ⟨-1, room, bound, drift, by rw [if_neg c1, if_neg c2], Or.inl ⟨by decide, rfl, rfl, rfl, fun sn hs pa ph pm be q => by rw [if_neg c1, if_neg c2]⟩⟩
      · refine ⟨-1, room, bound, drift, ?_, Or.inl ⟨by decide, rfl, rfl, rfl, fun sn hs pa ph pm be q => ?_⟩⟩
        · simp only [*, ↓reduceIte, Option.bind_some]
        · by_cases c5 : x < 0
          · rw [if_pos c5]
          · rw [if_neg c5, if_neg (fun w => (q_three c5 w).elim (fun y => by contradiction) (fun y => y.elim (fun y => by contradiction) (fun y => by contradiction)))]
end QO
