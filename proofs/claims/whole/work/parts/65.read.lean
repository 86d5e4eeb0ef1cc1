/-! PURE PART: a command is read -/
/-- a failure's parts -/
def q_fa (fp : Nat → Int32) (kind place done code : Int32) : Nat → Int32 := upd (upd (upd (upd fp 0 kind) 1 place) 2 done) 3 code
theorem q_cfail (x1 x2 x3 : Int32) (fp : Nat → Int32) (done : Int32) : f_X4_fail x1 x2 x3 fp done = some (q_fa fp x1 x2 done x3, 1, 1) := by
  unfold f_X4_fail q_fa
  rw [q_k (i := 0) (N := 4) (by decide), q_let, q_n0, q_k (i := 1) (N := 4) (by decide), q_let, q_n1, q_k (i := 2) (N := 4) (by decide), q_let, q_n2, q_k (i := 3) (N := 4) (by decide), q_let, q_n3]
theorem q_cfailT (ch : Nat → Int32) (n a b kd : Int32) (fp : Nat → Int32) (done : Int32) : f_X4_failAtToken (ch, n, a, b, kd) fp done = some (0, q_fa fp 1 a done (-9), 1, 1) := by
  unfold f_X4_failAtToken f_X7_tokenStart
  try dsimp only
  rw [Option.bind_some, q_cfail, Option.bind_some]
/-- how many numbers a command has -/
def q_due (cc : Nat) : Nat := if cc = 1 then 3 else if cc = 3 then 2 else if cc = 5 then 0 else 1
theorem q_numOf {cc : Nat} (h1 : 1 ≤ cc) (h5 : cc ≤ 5) : q_due cc ≤ 3 ∧ f_X4_numbersOf (nI cc) = some (nI (q_due cc)) ∧ f_X10_numbersOf (nI (cc - 1)) = some (nI (q_due cc)) := by
  rcases (show cc = 1 ∨ cc = 2 ∨ cc = 3 ∨ cc = 4 ∨ cc = 5 by omega) with rfl | rfl | rfl | rfl | rfl <;> decide +kernel
/-- what both read behind a word: a command, or a failure at a token -/
def q_RN (ch : Nat → Int32) (n e due : Nat) (fp : Nat → Int32) (ev fd cm cp done : Int32) (r1 : Int32 × VX7 × (Nat → Int32) × (Nat → Int32) × Int32 × Int32 × Int32 × Int32) (r2 : Int32 × Int32 × Int32 × (Nat → Int32)) : Prop := (∃ st kd e' N fr M, e < e' ∧ e' ≤ n ∧ r1 = (1, (ch, nI n, st, nI e', kd), N, fp, ev, fd, cm, cp) ∧ r2 = (1, fr, nI e', M) ∧ ∀ k, k < due → N k = M k) ∨ ∃ st en kd N pl e' M, r1 = (0, (ch, nI n, st, en, kd), N, q_fa fp 1 (nI pl) done (-9), 1, 1, cm, cp) ∧ pl ≤ n ∧ r2 = (0, nI pl, e', M)
section QRC
variable {ch tx : Nat → Int32} {n : Nat} {s : Nat → Nat}
set_option maxHeartbeats 1000000 in
theorem q_nums (h : q_TX ch tx n s) {e due : Nat} (he : e ≤ n) (hdue : due ≤ 3) (st0 kd0 fr0 : Int32) (N M fp : Nat → Int32) (ev fd cm cp done : Int32) : ∃ r1 r2, q_RN ch n e due fp ev fd cm cp done r1 r2 ∧ zk_fx (F_X4_readCommand_69 done (nI due) fp ev fd cm cp) zk_N (0, (ch, nI n, st0, nI e, kd0), N) = some r1 ∧ zk_fx (F_X10_readNumbers_2 (nI due) tx (nI n)) zk_N (0, fr0, nI e, M) = some r2 := by
  have hn := h.1
  refine q_loop2 (n := due) (P := fun r1 r2 => q_RN ch n e due fp ev fd cm cp done r1 r2) (fun m (s1 : Int32 × VX7 × (Nat → Int32)) (s2 : Int32 × Int32 × Int32 × (Nat → Int32)) => m ≤ due ∧ s1.1 = nI m ∧ s2.1 = nI m ∧ ∃ st kd em, e ≤ em ∧ em ≤ n ∧ s1.2.1 = (ch, nI n, st, nI em, kd) ∧ s2.2.2.1 = nI em ∧ ∀ k, k < m → s1.2.2 k = s2.2.2.2 k) ?_ due 0 zk_N zk_N _ _ (by omega) (by unfold zk_N; omega) (by unfold zk_N; omega) ⟨by omega, rfl, rfl, st0, kd0, e, by omega, he, rfl, rfl, fun k hk => absurd hk (Nat.not_lt_zero k)⟩
  intro m s1 s2 hi
  obtain ⟨x2, T, N⟩ := s1
  obtain ⟨y2, fr, en, M⟩ := s2
  obtain ⟨hm, e1, e2, st, kd, em, h1, h2, e3, e4, hN⟩ := hi
  dsimp only at e1 e2 e3 e4 hN
  subst e1 e2 e3 e4
  obtain ⟨a, b, kd', ha, hT, k1, k2⟩ := q_token h h2 kd
  obtain ⟨t1, t2, -⟩ := id hT
  by_cases hmd : m < due
  · have c1 : ¬ nI due ≤ nI m := nI_ge hmd (by omega)
    have c2 : ¬ (3 : Int32) ≤ nI m := nI_ge (b := 3) (by omega) (by omega)
    obtain ⟨r, j1, j2, hr⟩ := q_isNum h hT
    rcases hr with rfl | ⟨rfl, hab, hb4, hdg⟩
    · right
      refine ⟨(0, (ch, nI n, nI a, nI b, nI kd'), N, q_fa fp 1 (nI a) done (-9), 1, 1, cm, cp), (0, nI a, nI b, M), Or.inr ⟨nI a, nI b, nI kd', N, a, nI b, M, rfl, by omega, rfl⟩, fun kk => ?_, fun kk => ?_⟩
      · unfold F_X4_readCommand_69
        try dsimp only
        rw [if_neg c1, if_neg c2, k1, Option.bind_some]
        try dsimp only
        rw [j1, Option.bind_some, if_pos rfl, q_cfailT, Option.bind_some]
        exact if_pos (Or.inl rfl)
      · unfold F_X10_readNumbers_2
        try dsimp only
        rw [if_neg c1, k2, Option.bind_some]
        try dsimp only
        rw [j2, Option.bind_some, if_pos rfl]
    · left
      have l1 := q_numC h t1 t2 hb4 hdg
      have l2 := q_numM h t1 t2 hdg
      refine ⟨hmd, (nI (m + 1), (ch, nI n, nI a, nI b, nI kd'), upd N m (nI (q_nv s a (b - a)))), (nI (m + 1), nI a, nI b, upd M m (nI (q_nv s a (b - a)))), ⟨by omega, rfl, rfl, nI a, nI kd', b, by omega, t2, rfl, rfl, fun k hk => ?_⟩, fun kk => ?_, fun kk => ?_⟩
      · dsimp only
        by_cases g : k = m
        · rw [g, pk_us, pk_us]
        · rw [pk_un g, pk_un g]
          exact hN k (by omega)
      · unfold F_X4_readCommand_69
        try dsimp only
        rw [if_neg c1, if_neg c2, k1, Option.bind_some]
        try dsimp only
        rw [j1, Option.bind_some, if_neg (by decide), l1, Option.bind_some, q_ck (by omega) (by omega), q_let, q_cl (by omega), nI_1]
      · unfold F_X10_readNumbers_2
        try dsimp only
        rw [if_neg c1, k2, Option.bind_some]
        try dsimp only
        rw [j2, Option.bind_some, if_neg (by decide), l2, Option.bind_some, q_ck (by omega) (by omega), q_let, q_cl (by omega), nI_1]
  · right
    have em' : m = due := by omega
    subst em'
    have c1 : nI m ≤ nI m := nI_le (Nat.le_refl _) (by omega)
    rcases q_semi h hT with ⟨j1, j2, j3⟩ | ⟨j1, j2⟩
    · refine ⟨(1, (ch, nI n, nI a, nI b, nI kd'), N, fp, ev, fd, cm, cp), (1, nI a, nI b, M), Or.inl ⟨nI a, nI kd', b, N, nI a, M, by omega, t2, rfl, rfl, hN⟩, fun kk => ?_, fun kk => ?_⟩
      · unfold F_X4_readCommand_69 f_X4_readCommand_120
        try dsimp only
        rw [if_pos c1, k1, Option.bind_some]
        try dsimp only
        rw [j1, Option.bind_some, if_neg (by decide)]
      · unfold F_X10_readNumbers_2
        try dsimp only
        rw [if_pos c1, k2, Option.bind_some]
        try dsimp only
        rw [if_neg (nI_ge j2 (by omega)), q_ck (by omega) (by omega), q_cl (by omega), if_pos j3]
    · refine ⟨(0, (ch, nI n, nI a, nI b, nI kd'), N, q_fa fp 1 (nI a) done (-9), 1, 1, cm, cp), (0, nI a, nI b, M), Or.inr ⟨nI a, nI b, nI kd', N, a, nI b, M, rfl, by omega, rfl⟩, fun kk => ?_, fun kk => ?_⟩
      · unfold F_X4_readCommand_69 f_X4_readCommand_120
        try dsimp only
        rw [if_pos c1, k1, Option.bind_some]
        try dsimp only
        rw [j1, Option.bind_some, if_pos rfl, q_cfailT, Option.bind_some]
        try dsimp only
        rw [if_pos rfl]
      · unfold F_X10_readNumbers_2
        try dsimp only
        rw [if_pos c1, k2, Option.bind_some]
        try dsimp only
        by_cases g : b ≤ a
        · rw [if_pos (nI_le g (by omega))]
        · rw [if_neg (nI_ge (by omega) (by omega)), q_ck (by omega) (by omega), q_cl (by omega), if_neg (j2.resolve_left g).2]
theorem q_readC (h : q_TX ch tx n s) {e : Nat} (he : e ≤ n) (st0 k0 : Int32) (N fp M : Nat → Int32) (ev cm cp done : Int32) : ∃ a b, e ≤ a ∧ a ≤ b ∧ b ≤ n ∧ f_X10_readToken tx (nI n) (nI e) = some (nI a, nI b) ∧ ((b ≤ a ∧ ∃ T, T.1 = ch ∧ T.2.1 = nI n ∧ f_X4_readCommand (ch, nI n, st0, nI e, k0) N fp ev 0 cm cp done = some (0, T, N, fp, ev, 0, cm, cp)) ∨ (a < b ∧ f_X10_command tx (nI n) (nI a) (nI b) = some (-1) ∧ ∃ T c p, T.1 = ch ∧ T.2.1 = nI n ∧ f_X4_readCommand (ch, nI n, st0, nI e, k0) N fp ev 0 cm cp done = some (0, T, N, q_fa fp 1 (nI a) done (-9), 1, 1, c, p)) ∨ (a < b ∧ ∃ cc, 1 ≤ cc ∧ cc ≤ 5 ∧ f_X10_command tx (nI n) (nI a) (nI b) = some (nI (cc - 1)) ∧ ∃ r1 r2, q_RN ch n b (q_due cc) fp ev 0 (nI cc) (nI a) done r1 r2 ∧ f_X4_readCommand (ch, nI n, st0, nI e, k0) N fp ev 0 cm cp done = some r1 ∧ f_X10_readNumbers (nI (q_due cc)) tx (nI n) (nI a) (nI b) M = some r2)) := by
  have hn := h.1
  obtain ⟨a, b, kd, ha, hT, k1, k2⟩ := q_token h he k0
  obtain ⟨t1, t2, t3⟩ := id hT
  refine ⟨a, b, ha, t1, t2, k2, ?_⟩
  unfold f_X4_readCommand f_X7_isAtEnd f_X7_tokenStart
  rw [if_pos rfl]
  try dsimp only
  rw [k1, Option.bind_some]
  try dsimp only
  rcases t3 with ⟨e1, e2, e3⟩ | ⟨e1, e2, -, -⟩
  · left
    refine ⟨by omega, (ch, nI n, nI a, nI b, nI kd), rfl, rfl, ?_⟩
    rw [e3, if_pos (show nI 0 = 0 from rfl), Option.bind_some, if_neg (by decide)]
  · right
    have hb := q_kc_b (s a)
    rw [if_neg (nI_ne0 (n := kd) (by omega) (by omega)), Option.bind_some, if_pos rfl]
    obtain ⟨cc, c5, j1, j2⟩ := q_command h hT e1
    rw [j1, Option.bind_some, Option.bind_some]
    by_cases c0 : cc = 0
    · left
      subst c0
      refine ⟨e1, by rw [j2, if_pos rfl], (ch, nI n, nI a, nI b, nI kd), nI 0, nI a, rfl, rfl, ?_⟩
      rw [if_pos (show nI 0 = 0 from rfl), q_cfailT, Option.bind_some]
      exact if_pos (Or.inl rfl)
    · right
      obtain ⟨d3, g1, g2⟩ := q_numOf (cc := cc) (by omega) c5
      obtain ⟨r1, r2, q1, q2, q3⟩ := q_nums h t2 d3 (nI a) (nI kd) (nI a) N M fp ev 0 (nI cc) (nI a) done
      refine ⟨e1, cc, by omega, c5, by rw [j2, if_neg c0], r1, r2, q1, ?_, q3⟩
      rw [if_neg (nI_ne0 (n := cc) (by omega) (by omega)), g1, Option.bind_some]
      exact q2
end QRC
