/-! PURE PART: falling and arriving -/
theorem q_rem8 {a : Nat} (h : a < 2 ^ 31) : zk_rem (nI a) 8 = nI (a % 8) := pk_rem (d := 8) h (by decide) (by decide)
theorem q_rem64 {a : Nat} (h : a < 2 ^ 31) : zk_rem (nI a) 64 = nI (a % 64) := pk_rem (d := 64) h (by decide) (by decide)
theorem q_div8 {a : Nat} (h : a < 2 ^ 31) : nI a / 8 = nI (a / 8) := pk_div (d := 8) h (by decide) (by decide)
theorem q_div64 {a : Nat} (h : a < 2 ^ 31) : nI a / 64 = nI (a / 64) := pk_div (d := 64) h (by decide) (by decide)
theorem q_a8 (p : Nat) : (8 : Int32) + nI p = nI (8 + p) := nI_add 8 p
theorem q_a16 (p : Nat) : (16 : Int32) + nI p = nI (16 + p) := nI_add 16 p
theorem q_dist {d t : Nat} (hd : d < 2 ^ 30) (ht : t < 2 ^ 30) : ∃ j, j < 24 ∧ f_X8_lineFor (nI d) (nI t) = some (nI j) ∧ ∀ (z : Nat → Int32) (p : Nat), p < 40 → z (12 + p) = nI d → z 0 = nI t → f_X10_standByDistance (nI p) z = some (upd (upd (upd z (172 + p) (nI j)) (212 + p) (z 11)) 11 (z 11 + 1)) := by
  unfold f_X8_lineFor f_X10_standByDistance
  simp only [zk_let]
  by_cases c1 : 8 ≤ nI d - nI t
  · by_cases c2 : 64 ≤ nI d - nI t
    · refine ⟨16 + d / 64 % 8, by omega, ?_, fun z p hp h1 h2 => ?_⟩
      · rw [if_pos c1, if_pos c2, q_div64 (by omega), q_rem8 (by omega), q_a16]
      · simp (disch := omega) only [q_a12, q_ck, q_cl, q_n0, q_k0, h1, h2, if_pos c1, if_pos c2, q_div64, q_rem8, q_a16, q_stand hp, Option.bind_some]
    · refine ⟨8 + d / 8 % 8, by omega, ?_, fun z p hp h1 h2 => ?_⟩
      · rw [if_pos c1, if_neg c2, q_div8 (by omega), q_rem8 (by omega), q_a8]
      · simp (disch := omega) only [q_a12, q_ck, q_cl, q_n0, q_k0, h1, h2, if_pos c1, if_neg c2, q_div8, q_rem8, q_a8, q_stand hp, Option.bind_some]
  · refine ⟨d % 8, by omega, ?_, fun z p hp h1 h2 => ?_⟩
    · rw [if_neg c1, q_rem8 (by omega)]
    · simp (disch := omega) only [q_a12, q_ck, q_cl, q_n0, q_k0, h1, h2, if_neg c1, q_rem8, q_stand hp, Option.bind_some]
theorem q_slot0 {t : Nat} (h : t < 2 ^ 30) : f_X8_presentSlot 0 (nI t) = some (nI (t % 8)) := by
  unfold f_X8_presentSlot
  rw [pk_shrN (by omega) _ 0 (by decide), pk_andN (by omega) 3 (by decide), Nat.pow_zero, Nat.div_one]
theorem q_slot1 {t : Nat} (h : t < 2 ^ 30) : f_X8_presentSlot 1 (nI t) = some (nI (t / 8 % 8)) := by
  unfold f_X8_presentSlot
  rw [pk_shrN (by omega) _ 3 (by decide), pk_andN (by omega) 3 (by decide)]
theorem q_slot2 {t : Nat} (h : t < 2 ^ 30) : f_X8_presentSlot 2 (nI t) = some (nI (t / 64 % 8)) := by
  unfold f_X8_presentSlot
  rw [pk_shrN (by omega) _ 6 (by decide), pk_andN (by omega) 3 (by decide)]
theorem q_CL.front {v : VX3} {L : Nat → List Nat} (h : q_CL v L) {j p : Nat} {tl : List Nat} (hj : j < 25) (e : L j = p :: tl) : f_X3_frontOf (nI j) v.1 = some (nI p) := by
  rw [q_frontOf hj]
  have := (h.1 j hj).2.1
  rw [e] at this
  rw [this.1]
theorem q_ne {l : List Nat} {k : Nat} (h : k + 1 ≤ l.length) : ∃ p tl, l = p :: tl := by
  cases l with
  | nil => simp at h
  | cons p tl => exact ⟨p, tl, rfl⟩
theorem q_CL.lx {v : VX3} {L : Nat → List Nat} (h : q_CL v L) {j p : Nat} (hj : j < 25) (hm : p ∈ L j) : ∀ i, i < 25 → p ∉ va_up L j ((L j).erase p) i := by
  intro i hi
  by_cases e : i = j
  · subst e
    rw [q_up_s]
    exact fun y => (((h.1 i hi).2.2.2.1.mem_erase_iff).mp y).1 rfl
  · rw [q_up_n e]
    exact fun y => e (h.one hi hj y hm)
section QT
variable {pr : VX5} {dy : VX0} {ln : VX3} {now room bound drift br lt fl sw ps lo : Int32} {z : Nat → Int32} {L : Nat → List Nat} {n c T t : Nat}
set_option maxHeartbeats 4000000 in
theorem q_fall_loop {j r : Nat} (hj : j < 24) (h : q_V pr dy now room bound drift br lt fl sw ps lo z L n c T t) (hcl : q_CL ln L) (hr : (L j).length = r) (hr4 : r ≤ 40) (hT : T < 2 ^ 30) (hc : 21200 + 511 * c < 2 ^ 30) (ht : t < 2 ^ 30) : ∃ r1 r2, (∃ L' T', q_V r1.1 dy now room bound drift r1.2.2.1 lt r1.2.2.2.1 r1.2.2.2.2 ps lo r2 L' n c T' t ∧ q_CL r1.2.1 L' ∧ T' ≤ T + r) ∧ zk_fx (F_X8_letFall_23 now (nI j) (nI r)) zk_N (0, pr, ln, br, fl, sw) = some r1 ∧ zk_fx (F_X10_fall_8 (nI j) (nI r)) zk_N (0, z) = some r2 := by
  refine q_loop2 (n := r) (P := fun (r1 : VX5 × VX3 × Int32 × Int32 × Int32) (r2 : Nat → Int32) => ∃ L' T', q_V r1.1 dy now room bound drift r1.2.2.1 lt r1.2.2.2.1 r1.2.2.2.2 ps lo r2 L' n c T' t ∧ q_CL r1.2.1 L' ∧ T' ≤ T + r) (fun m (s1 : Int32 × VX5 × VX3 × Int32 × Int32 × Int32) (s2 : Int32 × (Nat → Int32)) => m ≤ r ∧ s1.1 = nI m ∧ s2.1 = nI m ∧ ∃ L' T', q_V s1.2.1 dy now room bound drift s1.2.2.2.1 lt s1.2.2.2.2.1 s1.2.2.2.2.2 ps lo s2.2 L' n c T' t ∧ q_CL s1.2.2.1 L' ∧ T' ≤ T + m ∧ r - m ≤ (L' j).length) ?_ r 0 zk_N zk_N _ _ (by omega) (by unfold zk_N; omega) (by unfold zk_N; omega) ⟨by omega, rfl, rfl, L, T, h, hcl, by omega, by omega⟩
  clear h hcl hr
  intro m s1 s2 hi
  obtain ⟨x4, pr, ln, br, fl, sw⟩ := s1
  obtain ⟨x3, z⟩ := s2
  obtain ⟨hm, e1, e2, L, T', h, hcl, hT', hl⟩ := hi
  dsimp only at e1 e2 h hcl hl
  subst e1 e2
  by_cases hmr : m < r
  · left
    refine ⟨hmr, ?_⟩
    have c1 : ¬ nI r ≤ nI m := nI_ge hmr (by omega)
    obtain ⟨p, tl, e⟩ := q_ne (l := L j) (k := r - m - 1) (by omega)
    have hpm : p ∈ L j := by rw [e]; exact List.mem_cons_self
    have hml := h.2.1
    have hn := h.n4
    have hp := ((hml.2.1 j (by omega)).2.2 p hpm).1
    have hfr := q_front hml (j := j) (by omega)
    rw [e] at hfr
    obtain ⟨ln1, hlv, hcl1⟩ := q_leave hcl (j := j) (by omega) hpm
    have hx := q_Lx_erase hml (j := j) (by omega) hpm
    have hpf := h.1.2 p hp
    have hst := h.2.2.2.2.1.2.2.1 j hj p hpm
    by_cases h3 : z (132 + p) = 3
    · refine ⟨(nI m + 1, (upd pr.1 (p * 6 + 0) 4, pr.2), ln1, br - 1, fl, sw + 1), (nI m + 1, upd (upd (upd z (172 + p) (-1)) (132 + p) 4) 8 (z 8 + 1)), ⟨by omega, nI_1 m, nI_1 m, _, T', h.sweep hp h3 hx, hcl1, by omega, ?_⟩, fun k => ?_, fun k => ?_⟩
      · rw [q_up_s, List.length_erase_of_mem hpm]
        omega
      · unfold F_X8_letFall_23 f_X8_letFall_103
        simp only [if_neg c1, hcl.front (j := j) (by omega) e, Option.bind_some, hlv, q_isIn (p := p) (by omega), hpf.1, h3, q_noteSwept (p := p) (by omega), ↓reduceIte, if_neg (show ¬ (1 : Int32) = 0 by decide)]
      · unfold F_X10_fall_8 f_X10_fall_61
        simp (disch := omega) only [if_neg c1, hfr, Option.bind_some, q_a132, q_ck, q_cl, h3, q_sweepOne (p := p) (by omega), ↓reduceIte]
    · have h0 : z (132 + p) = 0 := hst.resolve_right h3
      obtain ⟨⟨d, hd, hdb⟩, -⟩ := h.2.2.2.2.1.1 p hp
      obtain ⟨j', hj', hlf, hsd⟩ := q_dist (d := d) (t := t) (by omega) ht
      obtain ⟨ln2, hjn, hcl2⟩ := q_join hcl1 (j := j') (p := p) (by omega) (by omega) (hcl.lx (by omega) hpm)
      have hnow := h.2.2.1.1
      have hz0 := h.2.2.1.2.1
      have hV := (h.stand (j := j') hp (by omega) (fun _ => Or.inl h0) (by omega) hx).set_fl (fl + 1)
      refine ⟨(nI m + 1, pr, ln2, br, fl + 1, sw), (nI m + 1, upd (upd (upd (upd z (172 + p) (nI j')) (212 + p) (z 11)) 11 (z 11 + 1)) 7 (z 7 + 1)), ⟨by omega, nI_1 m, nI_1 m, _, T' + 1, ?_, hcl2, by omega, ?_⟩, fun k => ?_, fun k => ?_⟩
      · have e7 := h.2.2.1.2.2.2.2.2.2.2.1
        rw [e7] at hV ⊢
        exact hV
      · by_cases y : j = j'
        · subst y
          rw [q_up_s, q_up_s, List.length_append, List.length_erase_of_mem hpm]
          omega
        · rw [q_up_n y, q_up_s, List.length_erase_of_mem hpm]
          omega
      · unfold F_X8_letFall_23 f_X8_letFall_103
        simp only [if_neg c1, hcl.front (j := j) (by omega) e, Option.bind_some, hlv, q_isIn (p := p) (by omega), hpf.1, if_neg h3, if_pos, q_fact1 (p := p) (by omega), hpf.2.1, hd, hnow, hlf, hjn, zk_let]
      · unfold F_X10_fall_8 f_X10_fall_61
        simp (disch := omega) only [if_neg c1, hfr, Option.bind_some, q_a132, q_ck, q_cl, if_neg h3, hsd z p (by omega) hd hz0, q_n7, q_k7, zk_let, pk_un]
  · right
    have e : m = r := by omega
    subst e
    have c1 : nI m ≤ nI m := nI_le (Nat.le_refl _) (by omega)
    refine ⟨(pr, ln, br, fl, sw), z, ⟨L, T', h, hcl, hT'⟩, fun k => ?_, fun k => ?_⟩
    · unfold F_X8_letFall_23
      simp only [if_pos c1]
    · unfold F_X10_fall_8
      simp only [if_pos c1]
set_option maxHeartbeats 4000000 in
theorem q_arrive_loop {j r : Nat} (hj : j < 24) (h : q_V pr dy now room bound drift br lt fl sw ps lo z L n c T t) (hcl : q_CL ln L) (hr : (L j).length = r) (hr4 : r ≤ 40) (hT : T < 2 ^ 30) : ∃ r1 r2, (∃ L' T', q_V r1.1 dy now room bound drift r1.2.2.1 lt fl r1.2.2.2 ps lo r2 L' n c T' t ∧ q_CL r1.2.1 L' ∧ T' ≤ T + r) ∧ zk_fx (F_X8_letArrive_17 (nI j) (nI r)) zk_N (0, pr, ln, br, sw) = some r1 ∧ zk_fx (F_X10_getReady_8 (nI j) (nI r)) zk_N (0, z) = some r2 := by
  refine q_loop2 (n := r) (P := fun (r1 : VX5 × VX3 × Int32 × Int32) (r2 : Nat → Int32) => ∃ L' T', q_V r1.1 dy now room bound drift r1.2.2.1 lt fl r1.2.2.2 ps lo r2 L' n c T' t ∧ q_CL r1.2.1 L' ∧ T' ≤ T + r) (fun m (s1 : Int32 × VX5 × VX3 × Int32 × Int32) (s2 : Int32 × (Nat → Int32)) => m ≤ r ∧ s1.1 = nI m ∧ s2.1 = nI m ∧ ∃ L' T', q_V s1.2.1 dy now room bound drift s1.2.2.2.1 lt fl s1.2.2.2.2 ps lo s2.2 L' n c T' t ∧ q_CL s1.2.2.1 L' ∧ T' ≤ T + m ∧ r - m ≤ (L' j).length) ?_ r 0 zk_N zk_N _ _ (by omega) (by unfold zk_N; omega) (by unfold zk_N; omega) ⟨by omega, rfl, rfl, L, T, h, hcl, by omega, by omega⟩
  clear h hcl hr
  intro m s1 s2 hi
  obtain ⟨x4, pr, ln, br, sw⟩ := s1
  obtain ⟨x3, z⟩ := s2
  obtain ⟨hm, e1, e2, L, T', h, hcl, hT', hl⟩ := hi
  dsimp only at e1 e2 h hcl hl
  subst e1 e2
  by_cases hmr : m < r
  · left
    refine ⟨hmr, ?_⟩
    have c1 : ¬ nI r ≤ nI m := nI_ge hmr (by omega)
    obtain ⟨p, tl, e⟩ := q_ne (l := L j) (k := r - m - 1) (by omega)
    have hpm : p ∈ L j := by rw [e]; exact List.mem_cons_self
    have hml := h.2.1
    have hn := h.n4
    have hp := ((hml.2.1 j (by omega)).2.2 p hpm).1
    have hfr := q_front hml (j := j) (by omega)
    rw [e] at hfr
    obtain ⟨ln1, hlv, hcl1⟩ := q_leave hcl (j := j) (by omega) hpm
    have hx := q_Lx_erase hml (j := j) (by omega) hpm
    have hpf := h.1.2 p hp
    have hst := h.2.2.2.2.1.2.2.1 j hj p hpm
    by_cases h3 : z (132 + p) = 3
    · refine ⟨(nI m + 1, (upd pr.1 (p * 6 + 0) 4, pr.2), ln1, br - 1, sw + 1), (nI m + 1, upd (upd (upd z (172 + p) (-1)) (132 + p) 4) 8 (z 8 + 1)), ⟨by omega, nI_1 m, nI_1 m, _, T', h.sweep hp h3 hx, hcl1, by omega, ?_⟩, fun k => ?_, fun k => ?_⟩
      · rw [q_up_s, List.length_erase_of_mem hpm]
        omega
      · unfold F_X8_letArrive_17 f_X8_letArrive_85
        simp only [if_neg c1, hcl.front (j := j) (by omega) e, Option.bind_some, hlv, q_isIn (p := p) (by omega), hpf.1, h3, q_noteSwept (p := p) (by omega), ↓reduceIte, if_neg (show ¬ (1 : Int32) = 0 by decide)]
      · unfold F_X10_getReady_8 f_X10_getReady_64
        simp (disch := omega) only [if_neg c1, hfr, Option.bind_some, q_a132, q_ck, q_cl, h3, q_sweepOne (p := p) (by omega), ↓reduceIte]
    · have h0 : z (132 + p) = 0 := hst.resolve_right h3
      obtain ⟨ln2, hjn, hcl2⟩ := q_join hcl1 (j := 24) (p := p) (by omega) (by omega) (hcl.lx (by omega) hpm)
      have hV := (h.stand (j := 24) hp (by omega) (fun y => absurd y (by omega)) (by omega) hx).set_state hp 1 (by simp (disch := omega) only [pk_un]; exact h3) (by decide) (by decide) (fun i hi hm => by
        exfalso
        rw [q_up_n (by omega)] at hm
        exact (hx i (by omega)).2.1 hm)
      refine ⟨(nI m + 1, (upd pr.1 (p * 6 + 0) 1, pr.2), ln2, br, sw), (nI m + 1, upd (upd (upd (upd z (172 + p) (nI 24)) (212 + p) (z 11)) 11 (z 11 + 1)) (132 + p) 1), ⟨by omega, nI_1 m, nI_1 m, _, T' + 1, hV, hcl2, by omega, ?_⟩, fun k => ?_, fun k => ?_⟩
      · rw [q_up_n (by omega), q_up_s, List.length_erase_of_mem hpm]
        omega
      · have hjn : f_X3_join 24 (nI p) ln1.1 ln1.2.1 ln1.2.2.1 ln1.2.2.2.1 ln1.2.2.2.2 = some ln2 := hjn
        unfold F_X8_letArrive_17 f_X8_letArrive_85
        simp only [if_neg c1, hcl.front (j := j) (by omega) e, Option.bind_some, hlv, q_isIn (p := p) (by omega), hpf.1, if_neg h3, if_pos, q_write0 (p := p) (by omega), hjn]
      · have hsd : f_X10_stand (nI p) 24 z = some (upd (upd (upd z (172 + p) (nI 24)) (212 + p) (z 11)) 11 (z 11 + 1)) := q_stand (by omega) 24
        unfold F_X10_getReady_8 f_X10_getReady_64
        simp (disch := omega) only [if_neg c1, hfr, Option.bind_some, q_a132, q_ck, q_cl, if_neg h3, hsd, zk_let, pk_un]
  · right
    have e : m = r := by omega
    subst e
    have c1 : nI m ≤ nI m := nI_le (Nat.le_refl _) (by omega)
    refine ⟨(pr, ln, br, sw), z, ⟨L, T', h, hcl, hT'⟩, fun k => ?_, fun k => ?_⟩
    · unfold F_X8_letArrive_17
      simp only [if_pos c1]
    · unfold F_X10_getReady_8
      simp only [if_pos c1]
end QT
