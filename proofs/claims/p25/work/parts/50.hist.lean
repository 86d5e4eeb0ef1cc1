/-! PURE PART: the history -/
theorem q_let {α β : Type} (x : α) (f : α → Option β) : zk_let x f = f x := Eq.trans (Eq.refl (zk_let x f)) (Eq.refl (f x))
theorem q_l4416 : (4416 : Int32) = nI 4416 := by decide +kernel
theorem q_l736 : (736 : Int32) = nI 736 := by decide +kernel
theorem q_l368 : (368 : Int32) = nI 368 := by decide +kernel
theorem q_l8 : (8 : Int32) = nI 8 := by decide +kernel
theorem q_x1104 (h : Nat) : (1104 : Int32) * nI h = nI (1104 * h) := pk_mul 1104 h
theorem q_x2 (h : Nat) : (2 : Int32) * nI h = nI (2 * h) := pk_mul 2 h
theorem q_p368 (a : Nat) : nI a + 368 = nI (a + 368) := nI_add a 368
theorem q_p1104 (a : Nat) : nI a + 1104 = nI (a + 1104) := nI_add a 1104
theorem q_p2 (a : Nat) : nI a + 2 = nI (a + 2) := nI_add a 2
theorem q_cp {f g : Nat → Int32} {s a m : Nat} : upd (va_cpy f g s a m) (a + m) (f (s + m)) = va_cpy f g s a (m + 1) := by
  funext j
  unfold upd va_cpy
  by_cases e : j = a + m
  · subst e
    rw [if_pos rfl, if_pos ⟨by omega, by omega⟩]
    congr 1
    omega
  · rw [if_neg e]
    by_cases c : a ≤ j ∧ j < a + m
    · rw [if_pos c, if_pos ⟨c.1, by omega⟩]
    · rw [if_neg c, if_neg (by omega)]
theorem q_cp0 {f g : Nat → Int32} {s a : Nat} : va_cpy f g s a 0 = g := by
  funext j
  unfold va_cpy
  rw [if_neg (by omega)]
/-- a row of the past is filled -/
theorem q_push77 {h : Nat} (hh : h < 5) (z sn hs be pa ph : Nat → Int32) : f_X10_push_77 0 z sn hs be pa ph (nI h) = some (va_cpy sn (va_cpy z pa 0 (1104 * h) 368) 0 (1104 * h + 368) 736, upd (upd ph (2 * h) (vp_nar .boolean (hs 0))) (2 * h + 1) (vp_nar .boolean (hs 1)), nI (h + 1)) := by
  unfold f_X10_push_77
  have l1 := q_scan (n := 368) (F := F_X10_push_79 0 z sn hs be ph (nI h)) (fun m => (nI m, va_cpy z pa 0 (1104 * h) m)) (zk_fx (F_X10_push_128 sn hs ph (nI h)) zk_N (0, va_cpy z pa 0 (1104 * h) 368)) (fun k m hm => by
    unfold F_X10_push_79 f_X10_push_119
    simp (disch := omega) only [q_l368, if_neg (nI_ge (b := 368) hm (by omega)), ↓reduceIte, q_x1104, nI_add, q_ck, q_cl, zk_let, nI_1]
    have e := q_cp (f := z) (g := pa) (s := 0) (a := 1104 * h) (m := m)
    rw [Nat.zero_add] at e
    rw [e]) (fun k => by
    unfold F_X10_push_79
    simp only [q_l368, if_pos (nI_le (Nat.le_refl 368) (by omega))]) 368 0 zk_N (by omega) (by unfold zk_N; omega)
  rw [q_cp0] at l1
  have l1 : zk_fx (F_X10_push_79 0 z sn hs be ph (nI h)) zk_N (0, pa) = _ := l1
  rw [l1]
  have l2 := q_scan (n := 736) (F := F_X10_push_128 sn hs ph (nI h)) (fun m => (nI m, va_cpy sn (va_cpy z pa 0 (1104 * h) 368) 0 (1104 * h + 368) m)) (some (va_cpy sn (va_cpy z pa 0 (1104 * h) 368) 0 (1104 * h + 368) 736, upd (upd ph (2 * h) (vp_nar .boolean (hs 0))) (2 * h + 1) (vp_nar .boolean (hs 1)), nI (h + 1))) (fun k m hm => by
    unfold F_X10_push_128
    simp (disch := omega) only [q_l736, if_neg (nI_ge (b := 736) hm (by omega)), q_x1104, q_p368, nI_add, q_ck, q_cl, zk_let, nI_1]
    have e := q_cp (f := sn) (g := va_cpy z pa 0 (1104 * h) 368) (s := 0) (a := 1104 * h + 368) (m := m)
    rw [Nat.zero_add] at e
    rw [e]) (fun k => by
    unfold F_X10_push_128
    simp only [zk_let]
    simp (disch := omega) only [q_l736, if_pos (nI_le (Nat.le_refl 736) (by omega)), q_x2, nI_1, q_k (i := 0) (N := 2) (by decide), q_k (i := 1) (N := 2) (by decide), q_n0, q_n1, q_ck, q_cl]) 736 0 zk_N (by omega) (by unfold zk_N; omega)
  rw [q_cp0] at l2
  exact l2
/-- the past's rows move down -/
theorem q_push5a (z sn hs be pa ph : Nat → Int32) : zk_fx (F_X10_push_10 0 z sn hs be ph (nI 5)) zk_N (0, pa) = zk_fx (F_X10_push_41 0 z sn hs be (va_cpy pa pa 1104 0 4416) (nI 5)) zk_N (0, ph) := by
  have l1 := q_scan (n := 4416) (F := F_X10_push_10 0 z sn hs be ph (nI 5)) (fun m => (nI m, va_cpy pa pa 1104 0 m)) (zk_fx (F_X10_push_41 0 z sn hs be (va_cpy pa pa 1104 0 4416) (nI 5)) zk_N (0, ph)) (fun k m hm => by
    unfold F_X10_push_10
    have er : va_cpy pa pa 1104 0 m (m + 1104) = pa (m + 1104) := by
      unfold va_cpy
      rw [if_neg (by omega)]
    simp (disch := omega) only [q_l4416, if_neg (nI_ge (b := 4416) hm (by omega)), q_p1104, q_ck, q_cl, zk_let, nI_1, er]
    have e := q_cp (f := pa) (g := pa) (s := 1104) (a := 0) (m := m)
    rw [Nat.zero_add, Nat.add_comm 1104 m] at e
    rw [e]) (fun k => by
    unfold F_X10_push_10
    simp only [q_l4416, if_pos (nI_le (Nat.le_refl 4416) (by omega))]) 4416 0 zk_N (by omega) (by unfold zk_N; omega)
  rw [q_cp0] at l1
  exact l1
theorem q_push5b (z sn hs be pb ph : Nat → Int32) : zk_fx (F_X10_push_41 0 z sn hs be pb (nI 5)) zk_N (0, ph) = f_X10_push_77 0 z sn hs be pb (fun j => if j < 8 then vp_nar .boolean (ph (j + 2)) else ph j) (nI 4) := by
  have l2 := q_scan (n := 8) (F := F_X10_push_41 0 z sn hs be pb (nI 5)) (fun m => (nI m, fun j => if j < m then vp_nar .boolean (ph (j + 2)) else ph j)) (f_X10_push_77 0 z sn hs be pb (fun j => if j < 8 then vp_nar .boolean (ph (j + 2)) else ph j) (nI 4)) (fun k m hm => by
    unfold F_X10_push_41
    simp only [q_let]
    simp (disch := omega) only [q_l8, if_neg (nI_ge (b := 8) hm (by omega)), q_p2, q_ck, q_cl, nI_1, if_neg (show ¬ m + 2 < m by omega)]
    have ef : upd (fun j => if j < m then vp_nar .boolean (ph (j + 2)) else ph j) m (vp_nar .boolean (ph (m + 2))) = fun j => if j < m + 1 then vp_nar .boolean (ph (j + 2)) else ph j := by
      funext j
      unfold upd
      by_cases e : j = m
      · subst e
        rw [if_pos rfl, if_pos (by omega)]
      · rw [if_neg e]
        by_cases c : j < m
        · exact (if_pos c).trans (if_pos (show j < m + 1 by omega)).symm
        · exact (if_neg c).trans (if_neg (show ¬ j < m + 1 by omega)).symm
    rw [ef]) (fun k => by
    unfold F_X10_push_41
    simp only [q_let]
    simp only [q_l8, if_pos (nI_le (Nat.le_refl 8) (by omega)), show nI 5 - 1 = nI 4 by decide]) 8 0 zk_N (by omega) (by unfold zk_N; omega)
  have e0 : (fun j => if j < 0 then vp_nar .boolean (ph (j + 2)) else ph j) = ph := by
    funext j
    rw [if_neg (Nat.not_lt_zero j)]
  rw [e0] at l2
  exact l2
theorem q_push5 (z sn hs be pa ph : Nat → Int32) : f_X10_push 0 z sn hs pa ph (nI 5) be = f_X10_push_77 0 z sn hs be (va_cpy pa pa 1104 0 4416) (fun j => if j < 8 then vp_nar .boolean (ph (j + 2)) else ph j) (nI 4) := by
  unfold f_X10_push
  rw [if_pos (show nI 5 = 5 from rfl), q_push5a, q_push5b]
/-- the class's history beside the model's past -/
def q_H (B : Nat) (hi : VX2) (pa ph : Nat → Int32) (pm : Int32) : Prop := ∃ m h, m < 6 ∧ h ≤ 5 ∧ hi.2.1 = nI m ∧ hi.2.2 = nI h ∧ pm = nI h ∧ ∀ e, e < h → q_S B (hi.1 ((m + 6 - (h - e)) % 6)) (fun i => pa (1104 * e + i)) (fun i => pa (1104 * e + 368 + i)) (fun i => ph (2 * e + i))
theorem q_H.mono {B B' : Nat} {hi : VX2} {pa ph : Nat → Int32} {pm : Int32} (h : q_H B hi pa ph pm) (e : B ≤ B') : q_H B' hi pa ph pm := by
  obtain ⟨m, n, a, b, c, d, f, g⟩ := h
  exact ⟨m, n, a, b, c, d, f, fun i hi => (g i hi).mono e⟩
/-- the class notes its state; what it kept before stays -/
theorem q_H.note {B : Nat} {hi : VX2} {pa ph : Nat → Int32} {pm : Int32} {s : VX6} {z sn hs : Nat → Int32} (h : q_H B hi pa ph pm) (hs0 : q_S B s z sn hs) : ∃ rows, f_X2_note hi.1 hi.2.1 s.1 s.2.1 s.2.2 = some rows ∧ q_H B (rows, hi.2) pa ph pm ∧ ∀ m, m < 6 → hi.2.1 = nI m → q_S B (rows m) z sn hs := by
  obtain ⟨m, n, a, b, c, d, f, g⟩ := h
  obtain ⟨v', e, hv⟩ := hs0.copy (hi.1 m)
  refine ⟨va_up hi.1 m v', ?_, ⟨m, n, a, b, c, d, f, fun i hin => ?_⟩, fun m' hm' y => ?_⟩
  · unfold f_X2_note f_X2_rowAt zk_oc
    simp (disch := omega) only [c, if_neg (nI_pos (n := m) (by omega)), if_pos (show nI m < 6 from nI_lt (b := 6) a (by omega)), q_ck, q_cl, Option.bind_some, if_pos a, e]
  · dsimp only
    rw [q_up_n (by omega)]
    exact g i hin
  · rw [c] at y
    have := (nI_eq (by omega) (by omega)).mp y
    subst this
    rw [q_up_s]
    exact hv

theorem q_keep {m n : Nat} (hm : m < 6) (hn : n ≤ 5) : f_X2_keepNoted (nI m) (nI n) = some (nI ((m + 1) % 6), nI (if n = 5 then 5 else n + 1)) := by
  unfold f_X2_keepNoted
  simp only [zk_let, nI_1]
  rw [show zk_rem (nI (m + 1)) 6 = nI ((m + 1) % 6) from pk_rem (d := 6) (by omega) (by decide) (by decide)]
  by_cases e : n = 5
  · subst e
    rw [if_pos (show (5 : Int32) < nI (5 + 1) by decide), if_pos rfl]
    rfl
  · rw [if_neg (show ¬ (5 : Int32) < nI (n + 1) from nI_nlt (a := 5) (by omega) (by omega)), if_neg e]
theorem q_ph {x : Int32} (h : x = 0 ∨ x = 1) : vp_nar .boolean x = x := q_nar h
set_option maxHeartbeats 2000000 in
theorem q_H.record {B : Nat} {hi : VX2} {pa ph : Nat → Int32} {pm : Int32} {z sn hs : Nat → Int32} (h : q_H B hi pa ph pm) (hrow : ∀ m, m < 6 → hi.2.1 = nI m → q_S B (hi.1 m) z sn hs) (be : Nat → Int32) : ∃ pa' ph' pm' no st, f_X10_record z sn hs pa ph pm be 0 = some (pa', ph', pm') ∧ f_X2_keepNoted hi.2.1 hi.2.2 = some (no, st) ∧ q_H B (hi.1, no, st) pa' ph' pm' := by
  obtain ⟨m, n, a, b, c, d, f, g⟩ := h
  have hr := hrow m a c
  have h0 := (hr.2 0 (by omega)).2.1
  have h1 := (hr.2 1 (by omega)).2.1
  subst f
  by_cases e : n = 5
  · subst e
    refine ⟨va_cpy sn (va_cpy z (va_cpy pa pa 1104 0 4416) 0 (1104 * 4) 368) 0 (1104 * 4 + 368) 736, upd (upd (fun j => if j < 8 then vp_nar .boolean (ph (j + 2)) else ph j) (2 * 4) (vp_nar .boolean (hs 0))) (2 * 4 + 1) (vp_nar .boolean (hs 1)), nI 5, nI ((m + 1) % 6), nI 5, ?_, by rw [c, d]; exact q_keep a b, (m + 1) % 6, 5, by omega, by omega, rfl, rfl, rfl, fun i hi5 => ?_⟩
    · unfold f_X10_record
      rw [if_pos rfl, q_push5, q_push77 (h := 4) (by omega), Option.bind_some]
    · dsimp only
      by_cases i4 : i = 4
      · subst i4
        rw [show ((m + 1) % 6 + 6 - (5 - 4)) % 6 = m by omega]
        refine hr.cong (fun j hj => ?_) (fun j hj => ?_) (fun j hj => ?_)
        · rw [pk_cpy_out (by omega), pk_cpy_in (by omega) (by omega)]
          exact congrArg _ (by omega)
        · rw [pk_cpy_in (by omega) (by omega)]
          exact congrArg _ (by omega)
        · rcases (show j = 0 ∨ j = 1 by omega) with rfl | rfl
          · rw [pk_un (by omega), show 2 * 4 + 0 = 2 * 4 from rfl, pk_us, q_nar h0]
          · rw [pk_us, q_nar h1]
      · have gi := g (i + 1) (by omega)
        rw [show ((m + 1) % 6 + 6 - (5 - i)) % 6 = (m + 6 - (5 - (i + 1))) % 6 by omega]
        refine gi.cong (fun j hj => ?_) (fun j hj => ?_) (fun j hj => ?_)
        · rw [pk_cpy_out (by omega), pk_cpy_out (by omega), pk_cpy_in (by omega) (by omega)]
          exact congrArg _ (by omega)
        · rw [pk_cpy_out (by omega), pk_cpy_out (by omega), pk_cpy_in (by omega) (by omega)]
          exact congrArg _ (by omega)
        · rw [pk_un (by omega), pk_un (by omega), if_pos (by omega)]
          have gj := (gi.2 j hj).2.1
          dsimp only at gj
          rw [show 2 * i + j + 2 = 2 * (i + 1) + j by omega, q_nar gj]
  · refine ⟨va_cpy sn (va_cpy z pa 0 (1104 * n) 368) 0 (1104 * n + 368) 736, upd (upd ph (2 * n) (vp_nar .boolean (hs 0))) (2 * n + 1) (vp_nar .boolean (hs 1)), nI (n + 1), nI ((m + 1) % 6), nI (n + 1), ?_, by rw [c, d, q_keep a b, if_neg e], (m + 1) % 6, n + 1, by omega, by omega, rfl, rfl, rfl, fun i hin => ?_⟩
    · unfold f_X10_record f_X10_push
      rw [if_pos rfl, if_neg (show ¬ nI n = 5 from fun y => e ((nI_eq (b := 5) (by omega) (by omega)).mp y)), q_push77 (h := n) (by omega), Option.bind_some]
    · dsimp only
      by_cases i4 : i = n
      · subst i4
        rw [show ((m + 1) % 6 + 6 - (i + 1 - i)) % 6 = m by omega]
        refine hr.cong (fun j hj => ?_) (fun j hj => ?_) (fun j hj => ?_)
        · rw [pk_cpy_out (by omega), pk_cpy_in (by omega) (by omega)]
          exact congrArg _ (by omega)
        · rw [pk_cpy_in (by omega) (by omega)]
          exact congrArg _ (by omega)
        · rcases (show j = 0 ∨ j = 1 by omega) with rfl | rfl
          · rw [pk_un (by omega), Nat.add_zero, pk_us, q_nar h0]
          · rw [pk_us, q_nar h1]
      · have gi := g i (by omega)
        rw [show ((m + 1) % 6 + 6 - (n + 1 - i)) % 6 = (m + 6 - (n - i)) % 6 by omega]
        refine gi.cong (fun j hj => ?_) (fun j hj => ?_) (fun j hj => ?_)
        · rw [pk_cpy_out (by omega), pk_cpy_out (by omega)]
        · rw [pk_cpy_out (by omega), pk_cpy_out (by omega)]
        · rw [pk_un (by omega), pk_un (by omega)]
