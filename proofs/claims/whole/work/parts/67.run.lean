/-! PURE PART: run, and the text's other calls -/
/-- the class's program beside the model's text and failure -/
def q_T (pg : VX4) (tx : Nat → Int32) (typed : Int32) (fa : Nat → Int32) (hf : Int32) : Prop := ∃ n s, q_TX pg.1.1 tx n s ∧ pg.1.2.1 = nI n ∧ typed = nI n ∧ pg.2.2.2.1 = hf ∧ (hf = 0 ∨ hf = 1) ∧ (hf ≠ 0 → ∀ k, k < 4 → pg.2.2.1 k = fa k)
/-- what a run leaves -/
def q_RE (B : Nat) (sn hs tx : Nat → Int32) (r1 : Int32 × VX6 × VX2 × VX4) (r2 : Int32 × (Nat → Int32) × (Nat → Int32) × (Nat → Int32) × Int32 × (Nat → Int32) × Int32 × (Nat → Int32) × Int32 × Int32 × Int32 × Int32 × (Nat → Int32)) : Prop := r1.1 = r2.1 ∧ q_S (B + 60) r1.2.1 r2.2.1 sn hs ∧ q_H (B + 60) r1.2.2.1 r2.2.2.1 r2.2.2.2.1 r2.2.2.2.2.1 ∧ q_T r1.2.2.2 tx r2.2.2.2.2.2.2.1 r2.2.2.2.2.2.2.2.1 r2.2.2.2.2.2.2.2.2.1 ∧ r2.2.2.2.2.2.2.2.2.2.1 = 0
section QRN
variable {B n m : Nat} {hi : VX2} {pa ph be sn hs z tx fa fp N : Nat → Int32} {pm hf ev cm cp : Int32} {st : VX6} {T : VX7} {s : Nat → Nat}
theorem q_fin_ok (hH : q_H B hi pa ph pm) (hrow : ∀ m, m < 6 → hi.2.1 = nI m → q_S B (hi.1 m) be sn hs) (hTX : q_TX T.1 tx n s) (hS : q_S (B + m) st z sn hs) (hm : m ≤ 60) (he : ev = hf) (hf01 : hf = 0 ∨ hf = 1) (hff : hf ≠ 0 → ∀ k, k < 4 → fp k = fa k) (a b : Int32) (M : Nat → Int32) : ∃ r1 r2, q_RE B sn hs tx r1 r2 ∧ f_X9_run_53 st hi (T, N, fp, ev, 0, cm, cp, nI m) = some r1 ∧ ((f_X10_push 1 z sn hs pa ph pm be).bind fun r131 => some (nI m, z, r131.1, r131.2.1, r131.2.2, be, 0, fa, hf, 0, a, b, M)) = some r2 := by
  obtain ⟨pa', ph', pm', no, sa, k1, k2, k3⟩ := hH.record hrow be
  have kp : f_X10_push 1 z sn hs pa ph pm be = some (pa', ph', pm') := by
    rw [q_pushB]
    unfold f_X10_record at k1
    rw [if_pos rfl] at k1
    cases e : f_X10_push 0 be sn hs pa ph pm be with
    | none =>
      rw [e] at k1
      cases k1
    | some r =>
      rw [e, Option.bind_some] at k1
      exact k1
  refine ⟨(nI m, st, (hi.1, no, sa), ((T.1, 0, T.2.2), N, fp, ev, 0, cm, cp, nI m)), (nI m, z, pa', ph', pm', be, 0, fa, hf, 0, a, b, M), ⟨rfl, hS.mono (by omega), k3.mono (by omega), ⟨0, s, ⟨by omega, fun k hk => absurd hk (Nat.not_lt_zero k)⟩, rfl, rfl, he, hf01, hff⟩, rfl⟩, ?_, ?_⟩
  · unfold f_X9_run_53 f_X4_hasFailed f_X7_makeEmpty f_X4_commandsDone zk_bz
    try dsimp only
    rw [if_pos (Or.inl rfl), Option.bind_some, if_pos rfl, Option.bind_some, Option.bind_some, q_rec_pos (nI_pos (by omega)) k2, Option.bind_some]
  · rw [kp, Option.bind_some]
theorem q_fin_bad (hH : q_H B hi pa ph pm) (hrow : ∀ m, m < 6 → hi.2.1 = nI m → q_S B (hi.1 m) be sn hs) (hTX : q_TX T.1 tx n s) (hTn : T.2.1 = nI n) (kd code dn : Int32) (pl : Nat) (a b : Int32) (M : Nat → Int32) : ∃ r1 r2, q_RE B sn hs tx r1 r2 ∧ f_X9_run_53 st hi (T, N, q_fa fp kd (nI pl) dn code, 1, 1, cm, cp, dn) = some r1 ∧ ((f_X10_fail kd (nI pl) dn code z be fa hf).bind fun r => some (r.1, r.2.1, pa, ph, pm, be, nI n, r.2.2.1, r.2.2.2.1, r.2.2.2.2, a, b, M)) = some r2 := by
  obtain ⟨v', e, hv⟩ := hH.back hrow st
  refine ⟨(-1000 - nI pl, v', hi, (T, N, q_fa fp kd (nI pl) dn code, 1, 1, cm, cp, dn)), (-1000 - nI pl, va_cpy be z 0 0 368, pa, ph, pm, be, nI n, q_fa fa kd (nI pl) dn code, 1, 0, a, b, M), ⟨rfl, (hv.cong q_back (fun _ _ => rfl) (fun _ _ => rfl)).mono (by omega), hH.mono (by omega), ⟨n, s, hTX, hTn, rfl, rfl, Or.inr rfl, fun _ => q_fa_eq _ _ _ _ _ _⟩, rfl⟩, ?_, ?_⟩
  · unfold f_X9_run_53 f_X4_hasFailed f_X4_part zk_bz
    try dsimp only
    rw [if_pos (Or.inr rfl), Option.bind_some, if_neg (by decide), e, Option.bind_some, if_neg (by decide), if_pos (by decide), if_neg (by decide), q_k (i := 1) (N := 4) (by decide), q_n1, q_fa1, Option.bind_some]
  · rw [q_fail, Option.bind_some]
end QRN
theorem q_next1 {B : Nat} {st : VX6} {T : VX7} {N fp : Nat → Int32} {ev cm cp dn : Int32} (hi : VX2) (m : Nat) (hm : m ≤ 61) (k : Int32 × VX6 × VX4 → Option (Int32 × VX6 × VX2 × VX4)) : F_X9_run_20 hi k (nI m, st, (T, N, fp, ev, 1, cm, cp, dn)) = f_X9_run_53 st hi (T, N, fp, ev, 1, cm, cp, dn) := by
  unfold F_X9_run_20 f_X4_readCommand
  try dsimp only
  rw [if_neg (show ¬ (120 : Int32) ≤ nI m from nI_ge (b := 120) (by omega) (by omega)), if_neg (show ¬ (1 : Int32) = 0 by decide), Option.bind_some]
  exact if_pos rfl
set_option maxHeartbeats 4000000 in
theorem q_run_loop {B n : Nat} {hi : VX2} {pa ph be sn hs z tx fa N0 M0 fp ch : Nat → Int32} {pm hf ev cm cp : Int32} {st : VX6} {s : Nat → Nat} (hB : B + 60 ≤ 400000000) (hH : q_H B hi pa ph pm) (hrow : ∀ m, m < 6 → hi.2.1 = nI m → q_S B (hi.1 m) be sn hs) (hTX : q_TX ch tx n s) (he : ev = hf) (hf01 : hf = 0 ∨ hf = 1) (hff : hf ≠ 0 → ∀ k, k < 4 → fp k = fa k) (hS : q_S B st z sn hs) {a0 b0 : Nat} (st0 kd0 : Int32) (hr : f_X10_readToken tx (nI n) 0 = some (nI a0, nI b0)) : ∃ r1 r2, q_RE B sn hs tx r1 r2 ∧ zk_fx (F_X9_run_20 hi) zk_N (0, st, ((ch, nI n, st0, 0, kd0), N0, fp, ev, 0, cm, cp, 0)) = some r1 ∧ zk_fx (F_X10_run_43 sn hs tx be (nI n) fa hf 1) zk_N (0, z, pa, ph, pm, nI a0, nI b0, M0) = some r2 := by
  have hn := hTX.1
  refine q_loop3 (n := 60) (P := fun r1 r2 => q_RE B sn hs tx r1 r2) (fun m (s1 : Int32 × VX6 × VX4) (s2 : Int32 × (Nat → Int32) × (Nat → Int32) × (Nat → Int32) × Int32 × Int32 × Int32 × (Nat → Int32)) => ∃ e a b st z N M cm cp st0 kd0, 2 * m ≤ e ∧ e ≤ n ∧ s1 = (nI m, st, ((ch, nI n, st0, nI e, kd0), N, fp, ev, 0, cm, cp, nI m)) ∧ s2 = (nI m, z, pa, ph, pm, nI a, nI b, M) ∧ f_X10_readToken tx (nI n) (nI e) = some (nI a, nI b) ∧ q_S (B + m) st z sn hs ∧ a ≤ b ∧ b ≤ n) ?_ 60 0 zk_N zk_N _ _ (by omega) (by unfold zk_N; omega) (by unfold zk_N; omega) ?_
  · intro m s1 s2 hI
    clear hS hr
    obtain ⟨e, a', b', st, z, N, M, cm, cp, st0, kd0, h1, h2, rfl, rfl, hr, hS, hab', hbn'⟩ := hI
    have hm : m ≤ 60 := by omega
    have c1 : ¬ (120 : Int32) ≤ nI m := nI_ge (b := 120) (by omega) (by omega)
    obtain ⟨a, b, ha, hab, hbn, k1, hc⟩ := q_readC hTX h2 st0 kd0 N fp M ev cm cp (nI m)
    have ep := hr.symm.trans k1
    injection ep with ep
    injection ep with ea eb
    have ea := (nI_eq (by omega) (by omega)).mp ea
    have eb := (nI_eq (by omega) (by omega)).mp eb
    subst ea eb
    rcases hc with ⟨hba, T, hT1, hT2, hc⟩ | ⟨hlt, hcm, T, c, p, hT1, hT2, hc⟩ | ⟨hlt, cc, hc1, hc5, hcm, q1, q2, hRN, hc, hq⟩
    · right
      obtain ⟨r1, r2, hP, l1, l2⟩ := q_fin_ok (T := T) (N := N) (cm := cm) (cp := cp) hH hrow (by rw [hT1]; exact hTX) hS hm he hf01 hff (nI a') (nI b') M
      refine ⟨r1, r2, hP, fun k => ?_, fun k => ?_⟩
      · unfold F_X9_run_20
        try dsimp only
        rw [if_neg c1, hc, Option.bind_some]
        try dsimp only
        rw [if_pos rfl]
        exact l1
      · unfold F_X10_run_43
        try dsimp only
        rw [if_pos (nI_le hba (by omega))]
        exact l2
    · right
      obtain ⟨r1, r2, hP, l1, l2⟩ := q_fin_bad (st := st) (T := T) (N := N) (cm := c) (cp := p) (fp := fp) (fa := fa) (hf := hf) (z := z) hH hrow (by rw [hT1]; exact hTX) hT2 1 (-9) (nI m) a' (nI a') (nI b') M
      refine ⟨r1, r2, hP, fun k => ?_, fun k => ?_⟩
      · unfold F_X9_run_20
        try dsimp only
        rw [if_neg c1, hc, Option.bind_some]
        try dsimp only
        rw [if_pos rfl]
        exact l1
      · unfold F_X10_run_43 f_X10_run_79
        try dsimp only
        rw [if_neg (nI_ge hlt (by omega)), hcm, Option.bind_some, if_pos (by decide)]
        exact l2
    · obtain ⟨-, -, hno⟩ := q_numOf hc1 hc5
      rcases hRN with ⟨st1, kd1, e', N', fr, M', he1, he2, rfl, rfl, hNM⟩ | ⟨st1, en1, kd1, N', pl, en2, M', rfl, hpl, rfl⟩
      · obtain ⟨r, st', z', g1, g2, hS'⟩ := q_perform hS (by omega) hc1 hc5 (ch, nI n, st1, nI e', kd1) N' fp ev 0 (nI a') (nI m) M' hNM pa ph pm be
        obtain ⟨a2, b2, kd2, ha2, hT2, j1, j2⟩ := q_token hTX he2 kd1
        by_cases c : 0 ≤ r
        · left
          have h3 : 2 * (m + 1) ≤ e' := by omega
          refine ⟨by omega, (nI (m + 1), st', ((ch, nI n, st1, nI e', kd1), N', fp, ev, 0, nI cc, nI a', nI (m + 1))), (nI (m + 1), z', pa, ph, pm, nI a2, nI b2, M'), ⟨e', a2, b2, st', z', N', M', nI cc, nI a', st1, kd1, h3, he2, rfl, rfl, j2, hS', hT2.1, hT2.2.1⟩, fun k => ?_, fun k => ?_⟩
          · unfold F_X9_run_20
            try dsimp only
            rw [if_neg c1, hc, Option.bind_some]
            try dsimp only
            rw [if_neg (by decide), g1, Option.bind_some]
            unfold f_X4_finishCommand
            try dsimp only
            rw [if_pos c, q_let, Option.bind_some, nI_1]
          · unfold F_X10_run_43
            try dsimp only
            rw [if_neg (nI_ge hlt (by omega)), hcm, Option.bind_some, if_neg (nI_pos (by omega)), hno, Option.bind_some, hq, Option.bind_some]
            try dsimp only
            rw [if_neg (by decide), g2, Option.bind_some]
            try dsimp only
            rw [if_pos c, j2, Option.bind_some, nI_1]
        · right
          obtain ⟨r1, r2, hP, l1, l2⟩ := q_fin_bad (st := st') (T := (ch, nI n, st1, nI e', kd1)) (N := N') (cm := nI cc) (cp := nI a') (fp := fp) (fa := fa) (hf := hf) (z := z') hH hrow hTX rfl 2 r (nI m) a' fr (nI e') M'
          refine ⟨r1, r2, hP, fun k => ?_, fun k => ?_⟩
          · have en : F_X9_run_20 hi (F_X9_run_20 hi k) (nI m, st, ((ch, nI n, st0, nI e, kd0), N, fp, ev, 0, cm, cp, nI m)) = F_X9_run_20 hi k (nI (m + 1), st', ((ch, nI n, st1, nI e', kd1), N', q_fa fp 2 (nI a') (nI m) r, 1, 1, nI cc, nI a', nI m)) := by
              generalize F_X9_run_20 hi k = kk
              unfold F_X9_run_20
              try dsimp only
              rw [if_neg c1, hc, Option.bind_some]
              try dsimp only
              rw [if_neg (by decide), g1, Option.bind_some]
              unfold f_X4_finishCommand
              try dsimp only
              rw [if_neg c, q_cfail, Option.bind_some, Option.bind_some, nI_1]
            rw [en, q_next1 (B := B) hi (m + 1) (by omega)]
            exact l1
          · unfold F_X10_run_43
            try dsimp only
            rw [if_neg (nI_ge hlt (by omega)), hcm, Option.bind_some, if_neg (nI_pos (by omega)), hno, Option.bind_some, hq, Option.bind_some]
            try dsimp only
            rw [if_neg (by decide), g2, Option.bind_some]
            try dsimp only
            rw [if_neg c]
            exact l2
      · right
        obtain ⟨r1, r2, hP, l1, l2⟩ := q_fin_bad (st := st) (T := (ch, nI n, st1, en1, kd1)) (N := N') (cm := nI cc) (cp := nI a') (fp := fp) (fa := fa) (hf := hf) (z := z) hH hrow hTX rfl 1 (-9) (nI m) pl (nI pl) en2 M'
        refine ⟨r1, r2, hP, fun k => ?_, fun k => ?_⟩
        · unfold F_X9_run_20
          try dsimp only
          rw [if_neg c1, hc, Option.bind_some]
          try dsimp only
          rw [if_pos rfl]
          exact l1
        · unfold F_X10_run_43 f_X10_run_79
          try dsimp only
          rw [if_neg (nI_ge hlt (by omega)), hcm, Option.bind_some, if_neg (nI_pos (by omega)), hno, Option.bind_some, hq, Option.bind_some]
          try dsimp only
          rw [if_pos rfl]
          exact l2
  · obtain ⟨a, b, kd, -, hT, k1, k2⟩ := q_token hTX (e := 0) (by omega) kd0
    have ep := hr.symm.trans k2
    injection ep with ep
    injection ep with ea eb
    refine ⟨0, a, b, st, z, N0, M0, cm, cp, st0, kd0, by omega, by omega, rfl, ?_, k2, hS, hT.1, hT.2.1⟩
    rw [← ea, ← eb]
    rfl
theorem q_c_run {B : Nat} {st : VX6} {hi : VX2} {pg : VX4} {z sn hs pa ph tx fa : Nat → Int32} {pm typed hf : Int32} (hS : q_S B st z sn hs) (hH : q_H B hi pa ph pm) (hT : q_T pg tx typed fa hf) (hB : B + 60 ≤ 400000000) (be nu : Nat → Int32) (fr en : Int32) : ∃ r st' hi' pg' z' pa' ph' pm' be' typed' fa' hf' fr' en' nu', f_X9_run st hi pg = some (r, st', hi', pg') ∧ f_X10_run z sn hs pa ph pm be tx typed fa hf 0 fr en nu = some (r, z', pa', ph', pm', be', typed', fa', hf', 0, fr', en', nu') ∧ q_S (B + 60) st' z' sn hs ∧ q_H (B + 60) hi' pa' ph' pm' ∧ q_T pg' tx typed' fa' hf' := by
  obtain ⟨rows, hN, hH1, hrow⟩ := hH.note hS
  obtain ⟨n, s, hTX, t1, t2, t3, t4, t5⟩ := hT
  subst t2
  obtain ⟨a, b, kd, -, hTK, k1, k2⟩ := q_token hTX (e := 0) (by omega) 0
  have k2 : f_X10_readToken tx (nI n) 0 = some (nI a, nI b) := k2
  obtain ⟨r1, r2, ⟨p1, p2, p3, p4, p5⟩, l1, l2⟩ := q_run_loop (cm := 0) (cp := 0) (N0 := pg.2.1) (M0 := nu) (be := va_cpy z be 0 0 368) hB hH1 (fun m hm e => (hrow m hm e).cong q_back (fun _ _ => rfl) (fun _ _ => rfl)) hTX t3 t4 t5 hS 0 0 k2
  obtain ⟨x1, x2, x3, x4⟩ := r1
  obtain ⟨y1, y2, y3, y4, y5, y6, y7, y8, y9, y10, y11, y12, y13⟩ := r2
  dsimp only at p1 p2 p3 p4 p5
  subst p1 p5
  refine ⟨x1, x2, x3, x4, y2, y3, y4, y5, y6, y7, y8, y9, y11, y12, y13, ?_, ?_, p2, p3, p4⟩
  · unfold f_X9_run f_X4_begin f_X7_beginReading
    rw [hN, Option.bind_some, Option.bind_some, Option.bind_some, t1]
    exact l1
  · unfold f_X10_run
    have l := q_scan (n := 368) (F := F_X10_run_2 sn hs tx z pa ph pm (nI n) fa hf 0 fr en nu) (fun m => (nI m, va_cpy z be 0 0 m)) (some (x1, y2, y3, y4, y5, y6, y7, y8, y9, 0, y11, y12, y13)) (fun k m hm => by
      unfold F_X10_run_2
      simp only [q_let]
      simp (disch := omega) only [q_l368, if_neg (nI_ge (b := 368) hm (by omega)), q_ck, q_cl, nI_1]
      have e := q_cp (f := z) (g := be) (s := 0) (a := 0) (m := m)
      rw [Nat.zero_add] at e
      rw [e]) (fun k => by
      unfold F_X10_run_2
      try dsimp only
      rw [q_l368, if_pos (nI_le (Nat.le_refl 368) (by omega)), k2, Option.bind_some]
      exact l2) 368 0 zk_N (by omega) (by unfold zk_N; omega)
    rw [q_cp0] at l
    exact l
/-! append, clearText, failure -/
theorem q_c_append {pg : VX4} {tx fa : Nat → Int32} {typed hf : Int32} (h : q_T pg tx typed fa hf) (x : Int32) : ∃ r pg' tx' typed', f_X9_append x pg = some (r, pg') ∧ f_X10_append x tx typed = some (r, tx', typed') ∧ q_T pg' tx' typed' fa hf := by
  obtain ⟨n, s, hTX, t1, t2, t3, t4, t5⟩ := id h
  have hn := hTX.1
  unfold f_X9_append f_X10_append f_X7_add
  by_cases c1 : x < 1
  · exact ⟨-1, pg, tx, typed, by rw [if_pos c1], by rw [if_pos c1], h⟩
  by_cases c2 : x ≤ 255
  · obtain ⟨c, hc, rfl⟩ := nI_of2 (x := x) (M := 255) (n := 255) rfl (fun w => c1 (Int32.lt_trans w (by decide))) c2
    have hc1 : 1 ≤ c := by
      refine Nat.pos_of_ne_zero (fun y => c1 ?_)
      rw [y]
      decide
    subst t2
    rw [if_neg c1, if_pos c2, if_neg c1, if_pos c2, t1, if_neg (nI_pos (n := n) (by omega))]
    by_cases c3 : n < 120
    · have e : vp_nar .char (((nI c).toUInt32 % 65536).toInt32) = nI c := by
        rw [pk_vc, pk_char, pk_tn (by omega), Nat.mod_eq_of_lt (by omega)]
      refine ⟨nI (n + 1), ((upd pg.1.1 n (nI c), nI (n + 1), pg.1.2.2), pg.2), upd tx n (nI c), nI (n + 1), ?_, ?_, n + 1, fun k => if k = n then c else s k, ⟨by omega, fun k hk => ?_⟩, rfl, rfl, t3, t4, t5⟩
      · rw [if_pos (show nI n < 120 from nI_lt (b := 120) c3 (by omega)), q_ck c3 (by omega), q_cl (by omega), q_let, q_let, nI_1, Option.bind_some]
      · rw [if_neg (show ¬ nI n = 120 from fun y => by have := (nI_eq (b := 120) (by omega) (by omega)).mp y; omega), q_ck c3 (by omega), q_cl (by omega), q_let, q_let, nI_1, e]
      · dsimp only
        by_cases g : k = n
        · subst g
          rw [pk_us, pk_us, if_pos rfl]
          exact ⟨rfl, rfl, hc1, hc⟩
        · rw [pk_un g, pk_un g, if_neg g]
          exact hTX.2 k (by omega)
    · refine ⟨-3, pg, tx, nI n, ?_, ?_, h⟩
      · rw [if_neg (show ¬ nI n < 120 from nI_nlt (b := 120) (by omega) (by omega)), Option.bind_some, ← t1]
      · rw [if_pos (show nI n = 120 by rw [show n = 120 by omega]; rfl)]
  · exact ⟨-1, pg, tx, typed, by rw [if_neg c1, if_neg c2], by rw [if_neg c1, if_neg c2], h⟩
theorem q_c_clear {pg : VX4} {tx fa : Nat → Int32} {typed hf : Int32} (h : q_T pg tx typed fa hf) : ∃ r pg' typed', f_X9_clearText pg = some (r, pg') ∧ f_X10_clearText typed = some (r, typed') ∧ q_T pg' tx typed' fa hf := by
  obtain ⟨n, s, hTX, t1, t2, t3, t4, t5⟩ := h
  refine ⟨nI n, ((pg.1.1, 0, pg.1.2.2), pg.2), 0, ?_, ?_, 0, s, ⟨by omega, fun k hk => absurd hk (Nat.not_lt_zero k)⟩, rfl, rfl, t3, t4, t5⟩
  · unfold f_X9_clearText f_X7_makeEmpty
    rw [Option.bind_some, t1]
  · unfold f_X10_clearText
    rw [t2]
theorem q_c_failure {pg : VX4} {tx fa : Nat → Int32} {typed hf : Int32} (h : q_T pg tx typed fa hf) (x : Int32) : ∃ r, f_X9_failure x pg = some r ∧ f_X10_failure x fa hf = some r := by
  obtain ⟨n, s, hTX, t1, t2, t3, t4, t5⟩ := h
  unfold f_X9_failure f_X4_part f_X10_failure
  by_cases c1 : x < 0
  · exact ⟨-1, by rw [if_pos c1, Option.bind_some], by rw [if_pos c1]⟩
  obtain ⟨k, hk, rfl⟩ := nI_of c1
  by_cases c2 : k < 4
  · have d1 : nI k < 4 := nI_lt (b := 4) c2 (by omega)
    have d2 : nI k ≤ 3 := nI_le (b := 3) (by omega) (by omega)
    rw [if_neg c1, if_pos d1, if_neg c1, if_pos d2, t3]
    by_cases c3 : hf = 0
    · exact ⟨-9, by rw [if_pos c3, Option.bind_some], by rw [if_pos c3]⟩
    · refine ⟨fa k, ?_, ?_⟩
      · rw [if_neg c3, q_ck c2 (by omega), q_cl hk, t5 c3 k c2, Option.bind_some]
      · rw [if_neg c3, q_ck c2 (by omega), q_cl hk]
  · have d1 : ¬ nI k < 4 := nI_nlt (b := 4) (by omega) (by omega)
    have d2 : ¬ nI k ≤ 3 := nI_ge (a := 3) (by omega) (by omega)
    exact ⟨-1, by rw [if_neg c1, if_neg d1, Option.bind_some], by rw [if_neg c1, if_neg d2]⟩
