/-! PURE PART: serving, sweeping, a tick -/
theorem q_leave_no {v : VX3} {L : Nat → List Nat} (h : q_CL v L) {p : Nat} (hp : p < 40) (hn : ∀ j, j < 25 → p ∉ L j) : f_X3_leave (nI p) v.1 v.2.1 v.2.2.1 v.2.2.2.1 v.2.2.2.2 = some v := by
  unfold f_X3_leave
  rw [q_lineOf hp, Option.bind_some, h.2 p hp hn, if_pos (by decide)]
/-- a line's head -/
def q_hd (l : List Nat) : Int32 := match l with
  | [] => -1
  | p :: _ => nI p
theorem q_fronth {z : Nat → Int32} {L : Nat → List Nat} {n T : Nat} (h : q_ML z L n T) {j : Nat} (hj : j < 25) : f_X10_front (nI j) z = some (q_hd (L j)) := by
  rw [q_front h hj]
  unfold q_hd
  cases L j <;> rfl
/-- a wheel of the class beside the model's row: with caps -/
def q_X (pr : VX5) (ln : VX3) (dy : VX0) (now room bound drift br lt fl sw ps lo : Int32) (z : Nat → Int32) (n k c T t : Nat) : Prop := ∃ L c' T', q_V pr dy now room bound drift br lt fl sw ps lo z L n c' T' t ∧ q_CL ln L ∧ (k ≤ c' ∧ c' ≤ c) ∧ T' ≤ T
section QS
variable {pr : VX5} {dy : VX0} {ln : VX3} {now room bound drift br lt fl sw ps lo : Int32} {z : Nat → Int32} {L L0 : Nat → List Nat} {n k c T t : Nat}
set_option maxRecDepth 20000 in
set_option maxHeartbeats 4000000 in
theorem q_serve_loop {r : Nat} (h : q_V pr dy now room bound drift br lt fl sw ps lo z L n c T t) (hcl : q_CL ln L) (hr : (L 24).length = r) (hr4 : r ≤ 40) (hT : T < 2 ^ 29) (hc : 21200 + 511 * (c + 21) < 2 ^ 29) (ht : t ≤ 20600) : ∃ r1 r2, q_X r1.1 r1.2.1 r1.2.2.1 now room bound drift r1.2.2.2.1 r1.2.2.2.2.1 fl r1.2.2.2.2.2.1 r1.2.2.2.2.2.2 lo r2 n c (c + 20) (T + 20) t ∧ zk_fx (F_X8_serveQueue_14 now room drift (nI r)) zk_N (0, 0, pr, ln, dy, br, lt, sw, ps) = some r1 ∧ zk_fx F_X10_callSome_9 zk_N (0, q_hd (L 24), z) = some r2 := by
  refine q_loop2 (n := r) (P := fun (r1 : VX5 × VX3 × VX0 × Int32 × Int32 × Int32 × Int32) (r2 : Nat → Int32) => q_X r1.1 r1.2.1 r1.2.2.1 now room bound drift r1.2.2.2.1 r1.2.2.2.2.1 fl r1.2.2.2.2.2.1 r1.2.2.2.2.2.2 lo r2 n c (c + 20) (T + 20) t) (fun m (s1 : Int32 × Int32 × VX5 × VX3 × VX0 × Int32 × Int32 × Int32 × Int32) (s2 : Int32 × Int32 × (Nat → Int32)) => m ≤ r ∧ s1.2.1 = nI m ∧ ∃ a, a ≤ m ∧ a ≤ 20 ∧ s1.1 = nI a ∧ s2.1 = nI a ∧ ∃ L' T', q_V s1.2.2.1 s1.2.2.2.2.1 now room bound drift s1.2.2.2.2.2.1 s1.2.2.2.2.2.2.1 fl s1.2.2.2.2.2.2.2.1 s1.2.2.2.2.2.2.2.2 lo s2.2.2 L' n (c + a) T' t ∧ q_CL s1.2.2.2.1 L' ∧ T' ≤ T + a ∧ (L' 24).length = r - m ∧ s2.2.1 = q_hd (L' 24)) ?_ r 0 zk_N zk_N _ _ (by omega) (by unfold zk_N; omega) (by unfold zk_N; omega) ⟨by omega, rfl, 0, by omega, by omega, rfl, rfl, L, T, h, hcl, by omega, by omega, rfl⟩
  clear h hcl hr
  intro m s1 s2 hi
  obtain ⟨x2, x3, pr, ln, dy, br, lt, sw, ps⟩ := s1
  obtain ⟨y1, y2, z⟩ := s2
  obtain ⟨hm, e1, a, ham, ha20, e2, e3, L, T', h, hcl, hT', hl, e4⟩ := hi
  dsimp only at e1 e2 e3 e4 h hcl hl
  subst e1 e2 e3
  by_cases hmr : m < r
  · have c1 : ¬ nI r ≤ nI m := nI_ge hmr (by omega)
    obtain ⟨p, tl, e⟩ := q_ne (l := L 24) (k := r - m - 1) (by omega)
    rw [e] at e4
    have e4 : y2 = nI p := e4
    subst e4
    have hpm : p ∈ L 24 := by rw [e]; exact List.mem_cons_self
    have hml := h.2.1
    have hn := h.n4
    have hp := ((hml.2.1 24 (by omega)).2.2 p hpm).1
    have hpn : ¬ nI p < 0 := nI_pos (by omega)
    have hrm := h.2.2.1.2.2.1
    obtain ⟨rr, hz2, hr1, hr2⟩ := h.2.2.2.2.2
    by_cases c2 : room ≤ nI a
    · right
      have c3 : z 2 ≤ nI a := hrm ▸ c2
      refine ⟨(pr, ln, dy, br, lt, sw, ps), z, ⟨L, c + a, T', h, hcl, by omega, by omega⟩, fun k => ?_, fun k => ?_⟩
      · unfold F_X8_serveQueue_14
        simp only [if_neg c1, if_pos c2]
      · unfold F_X10_callSome_9
        simp only [if_neg hpn, q_k2, q_n2, if_pos c3]
    · left
      refine ⟨hmr, ?_⟩
      have c3 : ¬ z 2 ≤ nI a := hrm ▸ c2
      have ha : a < rr := by
        rw [hz2] at c3
        exact Nat.lt_of_not_le (fun y => c3 (nI_le y (by omega)))
      obtain ⟨ln1, hlv, hcl1⟩ := q_leave hcl (j := 24) (by omega) hpm
      have hx := q_Lx_erase hml (j := 24) (by omega) hpm
      have hpf := h.1.2 p hp
      have hfr : f_X3_frontOf 24 ln.1 = some (nI p) := hcl.front (j := 24) (by omega) e
      have hlen : (va_up L 24 ((L 24).erase p) 24).length = r - (m + 1) := by
        rw [q_up_s, List.length_erase_of_mem hpm]
        omega
      by_cases h3 : z (132 + p) = 3
      · have hV := h.sweep hp h3 hx
        have hf2 := q_fronth hV.2.1 (j := 24) (by omega)
        refine ⟨(nI a, nI m + 1, (upd pr.1 (p * 6 + 0) 4, pr.2), ln1, dy, br - 1, lt, sw + 1, ps), (nI a, q_hd (va_up L 24 ((L 24).erase p) 24), upd (upd (upd z (172 + p) (-1)) (132 + p) 4) 8 (z 8 + 1)), ⟨by omega, nI_1 m, a, by omega, ha20, rfl, rfl, _, T', hV, hcl1, by omega, hlen, rfl⟩, fun k => ?_, fun k => ?_⟩
        · unfold F_X8_serveQueue_14 f_X8_serveQueue_78
          simp only [if_neg c1, if_neg c2, hfr, Option.bind_some, hlv, q_isIn (p := p) (by omega), hpf.1, h3, q_noteSwept (p := p) (by omega), ↓reduceIte, if_neg (show ¬ (1 : Int32) = 0 by decide)]
        · have hf2 : f_X10_front 24 (upd (upd (upd z (172 + p) (-1)) (132 + p) 4) 8 (z 8 + 1)) = _ := hf2
          unfold F_X10_callSome_9 f_X10_callSome_53
          simp (disch := omega) only [if_neg hpn, q_k2, q_n2, if_neg c3, q_a132, q_ck, q_cl, h3, q_sweepOne (p := p) (by omega), ↓reduceIte, Option.bind_some, hf2]
      · obtain ⟨r1, r2, k1, k2, L2, T2, hV, hcl2, hT2, hL2⟩ := q_call h hcl1 hx hp hpm h3 (by omega) (by omega) ht
        have hf2 := q_fronth hV.2.1 (j := 24) (by omega)
        refine ⟨(nI a + 1, nI m + 1, r1.1, r1.2.1, r1.2.2.1, br, r1.2.2.2.1, sw, r1.2.2.2.2), (nI a + 1, q_hd (L2 24), r2), ⟨by omega, nI_1 m, a + 1, by omega, by omega, nI_1 a, nI_1 a, L2, T2, hV, hcl2, by omega, by rw [hL2]; exact hlen, rfl⟩, fun k => ?_, fun k => ?_⟩
        · unfold F_X8_serveQueue_14 f_X8_serveQueue_78
          simp only [if_neg c1, if_neg c2, hfr, Option.bind_some, hlv, q_isIn (p := p) (by omega), hpf.1, if_neg h3, ↓reduceIte, k1]
        · have hf2 : f_X10_front 24 r2 = _ := hf2
          unfold F_X10_callSome_9 f_X10_callSome_53
          simp (disch := omega) only [if_neg hpn, q_k2, q_n2, if_neg c3, q_a132, q_ck, q_cl, if_neg h3, k2, Option.bind_some, hf2]
  · right
    have e : m = r := by omega
    subst e
    have c1 : nI m ≤ nI m := nI_le (Nat.le_refl _) (by omega)
    have el : L 24 = [] := List.eq_nil_of_length_eq_zero (by omega)
    rw [el] at e4
    have e4 : y2 = -1 := e4
    subst e4
    refine ⟨(pr, ln, dy, br, lt, sw, ps), z, ⟨L, c + a, T', h, hcl, by omega, by omega⟩, fun k => ?_, fun k => ?_⟩
    · unfold F_X8_serveQueue_14
      simp only [if_pos c1]
    · unfold F_X10_callSome_9
      simp only [if_pos (show (-1 : Int32) < 0 by decide)]
theorem q_x1s (x s : Int32) : x + s + 1 = x + 1 + s := by
  rw [Int32.add_assoc, Int32.add_comm s 1, ← Int32.add_assoc]
set_option maxHeartbeats 4000000 in
theorem q_sweepAll (h : q_X pr ln dy now room bound drift br lt fl sw ps lo z n k c T t) : ∃ r1 r2, (r1.1 = r2.1 ∧ ¬ r1.1 < 0 ∧ q_X r1.2.1 r1.2.2.1 dy now room bound drift r1.2.2.2.1 lt fl r1.2.2.2.2 ps lo r2.2 n k c T t) ∧ f_X8_sweepAll pr ln br sw = some r1 ∧ f_X10_sweepAll z = some r2 := by
  obtain ⟨L, c', T', h, hcl, hc, hT⟩ := h
  have hn := h.n4
  unfold f_X8_sweepAll f_X10_sweepAll
  refine q_loop2 (n := n) (P := fun (r1 : Int32 × VX5 × VX3 × Int32 × Int32) (r2 : Int32 × (Nat → Int32)) => r1.1 = r2.1 ∧ ¬ r1.1 < 0 ∧ q_X r1.2.1 r1.2.2.1 dy now room bound drift r1.2.2.2.1 lt fl r1.2.2.2.2 ps lo r2.2 n k c T t) (fun m (s1 : Int32 × VX5 × VX3 × Int32 × Int32) (s2 : Int32 × Int32 × (Nat → Int32)) => m ≤ n ∧ s1.1 = nI m ∧ s2.2.1 = nI m ∧ s1.2.2.2.2 = s2.1 + sw ∧ (∃ k, k ≤ m ∧ s2.1 = nI k) ∧ ∃ L', q_V s1.2.1 dy now room bound drift s1.2.2.2.1 lt fl s1.2.2.2.2 ps lo s2.2.2 L' n c' T' t ∧ q_CL s1.2.2.1 L') ?_ n 0 zk_N zk_N _ _ (by omega) (by unfold zk_N; omega) (by unfold zk_N; omega) ⟨by omega, rfl, rfl, (by simp), ⟨0, by omega, rfl⟩, L, h, hcl⟩
  clear h hcl
  intro m s1 s2 hi
  obtain ⟨x2, pr, ln, br, sw2⟩ := s1
  obtain ⟨y1, y2, z⟩ := s2
  obtain ⟨hm, e1, e2, e3, ⟨kk, hkk, e4⟩, L, h, hcl⟩ := hi
  dsimp only at e1 e2 e3 e4 h hcl
  subst e1 e2
  have hg := h.1.1
  have hz1 := h.2.1.2.2.2.1
  by_cases hmr : m < n
  · left
    refine ⟨hmr, ?_⟩
    have c1 : ¬ nI n ≤ nI m := nI_ge hmr (by omega)
    have hpf := h.1.2 m hmr
    by_cases h3 : z (132 + m) = 3
    · obtain ⟨ln1, L0, hlv, hcl1, hx⟩ : ∃ ln1 L0, f_X3_leave (nI m) ln.1 ln.2.1 ln.2.2.1 ln.2.2.2.1 ln.2.2.2.2 = some ln1 ∧ q_CL ln1 L0 ∧ q_Lx L L0 m := by
        by_cases hz : ∀ j, j < 25 → m ∉ L j
        · exact ⟨ln, L, q_leave_no hcl (by omega) hz, hcl, q_Lx_id hz⟩
        · obtain ⟨j, hz⟩ := Classical.not_forall.mp hz
          obtain ⟨hj, hmm⟩ := Classical.not_imp.mp hz
          have hmm := Classical.not_not.mp hmm
          obtain ⟨ln1, hlv, hcl1⟩ := q_leave hcl hj hmm
          exact ⟨ln1, _, hlv, hcl1, q_Lx_erase h.2.1 hj hmm⟩
      refine ⟨(nI m + 1, (upd pr.1 (m * 6 + 0) 4, pr.2), ln1, br - 1, sw2 + 1), (y1 + 1, nI m + 1, upd (upd (upd z (172 + m) (-1)) (132 + m) 4) 8 (z 8 + 1)), ⟨by omega, nI_1 m, nI_1 m, ?_, ⟨kk + 1, by omega, by rw [e4, nI_1]⟩, L0, h.sweep hmr h3 hx, hcl1⟩, fun k => ?_, fun k => ?_⟩
      · rw [e3]
        exact q_x1s _ _
      · unfold F_X8_sweepAll_7 f_X8_sweepAll_43 f_X5_given
        simp only [hg, Option.bind_some, if_neg c1, q_isIn (p := m) (by omega), hpf.1, h3, ↓reduceIte, if_neg (show ¬ (1 : Int32) = 0 by decide), hlv, q_noteSwept (p := m) (by omega)]
      · unfold F_X10_sweepAll_4 f_X10_sweepAll_36
        simp (disch := omega) only [q_k1, q_n1, hz1, if_neg c1, q_a132, q_ck, q_cl, h3, ↓reduceIte, q_sweepOne (p := m) (by omega), Option.bind_some]
    · refine ⟨(nI m + 1, pr, ln, br, sw2), (y1, nI m + 1, z), ⟨by omega, nI_1 m, nI_1 m, e3, ⟨kk, by omega, e4⟩, L, h, hcl⟩, fun k => ?_, fun k => ?_⟩
      · unfold F_X8_sweepAll_7 f_X8_sweepAll_43 f_X5_given
        simp only [hg, Option.bind_some, if_neg c1, q_isIn (p := m) (by omega), hpf.1, if_neg h3, ↓reduceIte]
      · unfold F_X10_sweepAll_4 f_X10_sweepAll_36
        simp (disch := omega) only [q_k1, q_n1, hz1, if_neg c1, q_a132, q_ck, q_cl, if_neg h3]
  · right
    have e : m = n := by omega
    subst e
    have c1 : nI m ≤ nI m := nI_le (Nat.le_refl _) (by omega)
    have es : sw2 - sw = y1 := by
      rw [e3]
      exact Int32.add_sub_cancel _ _
    refine ⟨(sw2 - sw, pr, ln, br, sw2), (y1, z), ⟨es, ?_, L, c', T', h, hcl, hc, hT⟩, fun k => ?_, fun k => ?_⟩
    · rw [es, e4]
      exact nI_pos (by omega)
    · unfold F_X8_sweepAll_7 f_X5_given
      simp only [hg, Option.bind_some, if_pos c1]
    · unfold F_X10_sweepAll_4
      simp only [q_k1, q_n1, hz1, if_pos c1]

theorem q_fall2 (h : q_X pr ln dy now room bound drift br lt fl sw ps lo z n k c T t) (hT : T < 2 ^ 30) (hc : 21200 + 511 * c < 2 ^ 30) (ht : t < 2 ^ 30) : ∃ r1 r2, q_X r1.1 r1.2.1 dy now room bound drift r1.2.2.1 lt r1.2.2.2.1 r1.2.2.2.2 ps lo r2 n k c (T + 40) t ∧ f_X8_letFall 2 pr ln now br fl sw = some r1 ∧ f_X10_fall (16 + zk_rem (z 0 / 64) 8) z = some r2 := by
  obtain ⟨L, c', T', h, hcl, hc', hT'⟩ := h
  have hj : 16 + t / 64 % 8 < 24 := by omega
  have hlen := hcl.len (j := 16 + t / 64 % 8) (by omega)
  obtain ⟨r1, r2, ⟨L2, T2, a, b, d⟩, k1, k2⟩ := q_fall_loop (j := 16 + t / 64 % 8) hj h hcl rfl hlen (by omega) (by omega) ht
  refine ⟨r1, r2, ⟨L2, c', T2, a, b, hc', by omega⟩, ?_, ?_⟩
  · rw [← k1]
    unfold f_X8_letFall
    rw [h.2.2.1.1, q_slot2 ht, Option.bind_some]
    simp only [zk_let]
    rw [show (2 : Int32) * 8 = 16 by decide, q_a16, q_lengthOf (by omega), Option.bind_some, (hcl.1 _ (by omega)).1]
  · rw [← k2]
    unfold f_X10_fall
    rw [h.2.2.1.2.1, q_div64 (by omega), q_rem8 (by omega), q_a16, q_manyAt h.2.1 (by omega), Option.bind_some]
theorem q_fall1 (h : q_X pr ln dy now room bound drift br lt fl sw ps lo z n k c T t) (hT : T < 2 ^ 30) (hc : 21200 + 511 * c < 2 ^ 30) (ht : t < 2 ^ 30) : ∃ r1 r2, q_X r1.1 r1.2.1 dy now room bound drift r1.2.2.1 lt r1.2.2.2.1 r1.2.2.2.2 ps lo r2 n k c (T + 40) t ∧ f_X8_letFall 1 pr ln now br fl sw = some r1 ∧ f_X10_fall (8 + zk_rem (z 0 / 8) 8) z = some r2 := by
  obtain ⟨L, c', T', h, hcl, hc', hT'⟩ := h
  have hj : 8 + t / 8 % 8 < 24 := by omega
  have hlen := hcl.len (j := 8 + t / 8 % 8) (by omega)
  obtain ⟨r1, r2, ⟨L2, T2, a, b, d⟩, k1, k2⟩ := q_fall_loop (j := 8 + t / 8 % 8) hj h hcl rfl hlen (by omega) (by omega) ht
  refine ⟨r1, r2, ⟨L2, c', T2, a, b, hc', by omega⟩, ?_, ?_⟩
  · rw [← k1]
    unfold f_X8_letFall
    rw [h.2.2.1.1, q_slot1 ht, Option.bind_some]
    simp only [zk_let]
    rw [show (1 : Int32) * 8 = 8 by decide, q_a8, q_lengthOf (by omega), Option.bind_some, (hcl.1 _ (by omega)).1]
  · rw [← k2]
    unfold f_X10_fall
    rw [h.2.2.1.2.1, q_div8 (by omega), q_rem8 (by omega), q_a8, q_manyAt h.2.1 (by omega), Option.bind_some]
theorem q_arrive (h : q_X pr ln dy now room bound drift br lt fl sw ps lo z n k c T t) (hT : T < 2 ^ 29) (ht : t < 2 ^ 30) : ∃ r1 r2, q_X r1.1 r1.2.1 dy now room bound drift r1.2.2.1 lt fl r1.2.2.2 ps lo r2 n k c (T + 40) t ∧ f_X8_letArrive pr ln now br sw = some r1 ∧ f_X10_getReady (zk_rem (z 0) 8) z = some r2 := by
  obtain ⟨L, c', T', h, hcl, hc', hT'⟩ := h
  have hlen := hcl.len (j := t % 8) (by omega)
  obtain ⟨r1, r2, ⟨L2, T2, a, b, d⟩, k1, k2⟩ := q_arrive_loop (j := t % 8) (by omega) h hcl rfl hlen (by omega)
  refine ⟨r1, r2, ⟨L2, c', T2, a, b, hc', by omega⟩, ?_, ?_⟩
  · rw [← k1]
    unfold f_X8_letArrive
    rw [h.2.2.1.1, q_slot0 ht, Option.bind_some, q_lengthOf (by omega), Option.bind_some, (hcl.1 _ (by omega)).1]
  · rw [← k2]
    unfold f_X10_getReady
    rw [h.2.2.1.2.1, q_rem8 (by omega), q_manyAt h.2.1 (by omega), Option.bind_some]
set_option maxRecDepth 20000 in
theorem q_serve (h : q_X pr ln dy now room bound drift br lt fl sw ps lo z n k c T t) (hT : T < 2 ^ 29) (hc : 21200 + 511 * (c + 21) < 2 ^ 29) (ht : t ≤ 20600) : ∃ r1 r2, q_X r1.1 r1.2.1 r1.2.2.1 now room bound drift r1.2.2.2.1 r1.2.2.2.2.1 fl r1.2.2.2.2.2.1 r1.2.2.2.2.2.2 lo r2 n k (c + 20) (T + 20) t ∧ f_X8_serveQueue pr ln dy now room drift br lt sw ps = some r1 ∧ f_X10_callSome z = some r2 := by
  obtain ⟨L, c', T', h, hcl, hc', hT'⟩ := h
  have hlen := hcl.len (j := 24) (by omega)
  obtain ⟨r1, r2, ⟨L2, c2, T2, a, b, d, e⟩, k1, k2⟩ := q_serve_loop h hcl rfl hlen (Nat.lt_of_le_of_lt hT' hT) (Nat.lt_of_le_of_lt (Nat.add_le_add_left (Nat.mul_le_mul_left _ (Nat.add_le_add_right hc'.2 _)) _) hc) ht
  refine ⟨r1, r2, ⟨L2, c2, T2, a, b, by omega, by omega⟩, ?_, ?_⟩
  · rw [← k1]
    unfold f_X8_serveQueue
    rw [show (24 : Int32) = nI 24 from rfl, q_lengthOf (by omega), Option.bind_some, (hcl.1 24 (by omega)).1]
  · rw [← k2]
    unfold f_X10_callSome
    rw [show (24 : Int32) = nI 24 from rfl, q_fronth h.2.1 (by omega), Option.bind_some]
theorem q_X.mono {c2 T2 : Nat} (h : q_X pr ln dy now room bound drift br lt fl sw ps lo z n k c T t) (hc : c ≤ c2) (hT : T ≤ T2) : q_X pr ln dy now room bound drift br lt fl sw ps lo z n k c2 T2 t := by
  obtain ⟨L, c', T', a, b, d, e⟩ := h
  exact ⟨L, c', T', a, b, by omega, by omega⟩
theorem q_tick64 (h : q_X pr ln dy now room bound drift br lt fl sw ps lo z n k c T t) : ∃ r1 r2, q_X r1.1 r1.2.1 r1.2.2.1 r1.2.2.2.1 room bound drift r1.2.2.2.2.1 r1.2.2.2.2.2.1 r1.2.2.2.2.2.2.1 r1.2.2.2.2.2.2.2.1 r1.2.2.2.2.2.2.2.2.1 r1.2.2.2.2.2.2.2.2.2 r2 n k c T t ∧ f_X8_passTick_64 pr ln dy now br lt fl sw ps lo = some r1 ∧ f_X10_tick_108 z = some r2 := by
  obtain ⟨L, c', T', h, hcl, hc', hT'⟩ := h
  have hlo := h.2.2.1.2.2.2.2.2.2.2.2.2.2
  refine ⟨(pr, ln, dy, now, br, lt, fl, sw, ps, if lo < nI (L 24).length then nI (L 24).length else lo), upd z 10 (if lo < nI (L 24).length then nI (L 24).length else lo), ⟨L, c', T', h.set_lo _, hcl, hc', hT'⟩, ?_, ?_⟩
  · unfold f_X8_passTick_64
    rw [show (24 : Int32) = nI 24 from rfl, q_lengthOf (by omega), Option.bind_some, (hcl.1 24 (by omega)).1]
    rfl
  · unfold f_X10_tick_108 f_X10_tick_143
    rw [show (24 : Int32) = nI 24 from rfl, q_manyAt h.2.1 (by omega), Option.bind_some]
    simp only [q_k10, q_n10, zk_let, ← hlo]
    by_cases c : nI (L 24).length ≤ lo
    · rw [if_pos c, if_neg (Int32.not_lt.mpr c)]
    · rw [if_neg c, if_pos (Int32.not_le.mp c)]
set_option maxHeartbeats 2000000 in
theorem q_tick40 (h : q_X pr ln dy now room bound drift br lt fl sw ps lo z n k c T t) (hT : T + 40 < 2 ^ 29) (hc : 21200 + 511 * (c + 21) < 2 ^ 29) (ht : t ≤ 20600) : ∃ r1 r2, q_X r1.1 r1.2.1 r1.2.2.1 r1.2.2.2.1 room bound drift r1.2.2.2.2.1 r1.2.2.2.2.2.1 r1.2.2.2.2.2.2.1 r1.2.2.2.2.2.2.2.1 r1.2.2.2.2.2.2.2.2.1 r1.2.2.2.2.2.2.2.2.2 r2 n k (c + 20) (T + 60) t ∧ f_X8_passTick_40 room bound drift pr ln dy now br lt fl sw ps lo = some r1 ∧ f_X10_tick_72 z = some r2 := by
  obtain ⟨r1, z1, h1, k1, j1⟩ := q_arrive h (by omega) (by omega)
  obtain ⟨r2, z2, h2, k2, j2⟩ := q_serve h1 (by omega) hc ht
  have hcount : f_X10_inState 3 z2 = some r2.2.2.2.1 ∧ bound = z2 3 := by
    obtain ⟨L, c', T', h, hcl, hc', hT'⟩ := h2
    rw [q_inState h.2.1.2.2.2.1 h.n4 3, h.2.2.1.2.2.2.2.2.1]
    exact ⟨rfl, h.2.2.1.2.2.2.1⟩
  unfold f_X8_passTick_40 f_X10_tick_72
  simp only [k1, Option.bind_some, k2, q_k0, q_n0, j1, j2, hcount.1, q_k3, q_n3, ← hcount.2]
  by_cases cb : r2.2.2.2.1 ≤ bound
  · simp only [if_pos cb]
    obtain ⟨r3, z3, h3, k3, j3⟩ := q_tick64 h2
    exact ⟨r3, z3, h3.mono (by omega) (by omega), k3, j3⟩
  · simp only [if_neg cb]
    obtain ⟨r3, z3, ⟨-, -, h3⟩, k3, j3⟩ := q_sweepAll h2
    simp only [k3, j3, Option.bind_some]
    obtain ⟨r4, z4, h4, k4, j4⟩ := q_tick64 h3
    exact ⟨r4, z4, h4.mono (by omega) (by omega), k4, j4⟩
theorem q_tick25 (h : q_X pr ln dy now room bound drift br lt fl sw ps lo z n k c T t) (hT : T + 80 < 2 ^ 29) (hc : 21200 + 511 * (c + 21) < 2 ^ 29) (ht : t ≤ 20600) : ∃ r1 r2, q_X r1.1 r1.2.1 r1.2.2.1 r1.2.2.2.1 room bound drift r1.2.2.2.2.1 r1.2.2.2.2.2.1 r1.2.2.2.2.2.2.1 r1.2.2.2.2.2.2.2.1 r1.2.2.2.2.2.2.2.2.1 r1.2.2.2.2.2.2.2.2.2 r2 n k (c + 20) (T + 100) t ∧ f_X8_passTick_25 room bound drift pr ln dy now br lt fl sw ps lo = some r1 ∧ f_X10_tick_41 z = some r2 := by
  have hnow : now = z 0 := by
    obtain ⟨L, c', T', h, -⟩ := h
    exact h.2.2.1.1.trans h.2.2.1.2.1.symm
  unfold f_X8_passTick_25 f_X10_tick_41
  simp only [q_k0, q_n0]
  by_cases cz : zk_rem (z 0) 8 = 0
  · obtain ⟨r1, z1, h1, k1, j1⟩ := q_fall1 h (by omega) (by omega) (by omega)
    obtain ⟨r2, z2, h2, k2, j2⟩ := q_tick40 h1 (by omega) hc ht
    refine ⟨r2, z2, h2.mono (by omega) (by omega), ?_, ?_⟩
    · rw [if_pos (hnow ▸ cz), k1, Option.bind_some, k2]
    · rw [if_pos cz, j1, Option.bind_some, j2]
  · obtain ⟨r2, z2, h2, k2, j2⟩ := q_tick40 h (by omega) hc ht
    refine ⟨r2, z2, h2.mono (by omega) (by omega), ?_, ?_⟩
    · rw [if_neg (hnow ▸ cz), k2]
    · rw [if_neg cz, j2]
/-- a tick -/
theorem q_tick (h : q_X pr ln dy now room bound drift br lt fl sw ps lo z n k c T t) (hT : T + 120 < 2 ^ 29) (hc : 21200 + 511 * (c + 21) < 2 ^ 29) (ht : t < 20600) : ∃ r1 r2, q_X r1.1 r1.2.1 r1.2.2.1 r1.2.2.2.1 room bound drift r1.2.2.2.2.1 r1.2.2.2.2.2.1 r1.2.2.2.2.2.2.1 r1.2.2.2.2.2.2.2.1 r1.2.2.2.2.2.2.2.2.1 r1.2.2.2.2.2.2.2.2.2 r2 n k (c + 20) (T + 140) (t + 1) ∧ f_X8_passTick pr ln dy now room bound drift br lt fl sw ps lo = some r1 ∧ f_X10_tick z = some r2 := by
  have h : q_X pr ln dy (now + 1) room bound drift br lt fl sw ps lo (upd z 0 (z 0 + 1)) n k c T (t + 1) := by
    obtain ⟨L, c', T', h, hr⟩ := h
    exact ⟨L, c', T', h.tick, hr⟩
  have hnow : now + 1 = upd z 0 (z 0 + 1) 0 := by
    obtain ⟨L, c', T', h, -⟩ := h
    exact h.2.2.1.1.trans h.2.2.1.2.1.symm
  unfold f_X8_passTick f_X10_tick
  simp only [q_k0, q_n0, zk_let]
  by_cases cz : zk_rem (upd z 0 (z 0 + 1) 0) 64 = 0
  · obtain ⟨r1, z1, h1, k1, j1⟩ := q_fall2 h (by omega) (by omega) (by omega)
    obtain ⟨r2, z2, h2, k2, j2⟩ := q_tick25 h1 (by omega) hc (by omega)
    refine ⟨r2, z2, h2.mono (by omega) (by omega), ?_, ?_⟩
    · rw [if_pos (by rw [hnow]; exact cz), k1, Option.bind_some, k2]
    · rw [if_pos cz, j1, Option.bind_some, j2]
  · obtain ⟨r2, z2, h2, k2, j2⟩ := q_tick25 h (by omega) hc (by omega)
    refine ⟨r2, z2, h2.mono (by omega) (by omega), ?_, ?_⟩
    · rw [if_neg (by rw [hnow]; exact cz), k2]
    · rw [if_neg cz, j2]
end QS
