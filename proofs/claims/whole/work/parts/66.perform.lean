/-! PURE PART: a command is run -/
theorem q_quiet (z sn hs pa ph : Nat → Int32) (pm : Int32) (be : Nat → Int32) : f_X10_record z sn hs pa ph pm be 1 = some (pa, ph, pm) := by
  unfold f_X10_record
  rw [if_neg (by decide)]
theorem q_num {N : Nat → Int32} {k : Nat} (hk : k < 3) : f_X4_number (nI k) N = some (N k) := by
  unfold f_X4_number
  rw [if_neg (nI_pos (by omega)), if_pos (show nI k < 3 from nI_lt (b := 3) hk (by omega)), q_ck hk (by omega), q_cl (by omega)]
set_option maxHeartbeats 2000000 in
theorem q_perform {B : Nat} {st : VX6} {z sn hs : Nat → Int32} (hS : q_S B st z sn hs) (hB : B ≤ 400000000) {cc : Nat} (h1 : 1 ≤ cc) (h5 : cc ≤ 5) (T : VX7) (N fp : Nat → Int32) (ev fd cp dn : Int32) (M : Nat → Int32) (hNM : ∀ k, k < q_due cc → N k = M k) (pa ph : Nat → Int32) (pm : Int32) (be : Nat → Int32) : ∃ r st' z', f_X9_performCommand st (T, N, fp, ev, fd, nI cc, cp, dn) = some (r, st') ∧ f_X10_does (nI (cc - 1)) z sn hs pa ph pm be 1 M = some (r, z', pa, ph, pm) ∧ q_S (B + 1) st' z' sn hs := by
  obtain ⟨⟨n, k, t, hX, ht, hb, hd⟩, hS2⟩ := id hS
  have hS3 : ∀ i, i < 2 → st.2.2 i = hs i ∧ (hs i = 0 ∨ hs i = 1) ∧ (hs i ≠ 0 → q_R (B + 1) 20000 (st.2.1 i) (fun k => sn (368 * i + k))) := fun i hi => ⟨(hS2 i hi).1, (hS2 i hi).2.1, fun y => ((hS2 i hi).2.2 y).mono (Nat.le_succ B)⟩
  have n0 : f_X4_number 0 N = some (N 0) := q_num (k := 0) (by omega)
  have n1 : f_X4_number 1 N = some (N 1) := q_num (k := 1) (by omega)
  have n2 : f_X4_number 2 N = some (N 2) := q_num (k := 2) (by omega)
  have m0 : ∀ {α : Type} {k : Option α}, zk_ck 0 3 k = k := q_k (by decide)
  have m1 : ∀ {α : Type} {k : Option α}, zk_ck 1 3 k = k := q_k (by decide)
  have m2 : ∀ {α : Type} {k : Option α}, zk_ck 2 3 k = k := q_k (by decide)
  unfold f_X9_performCommand f_X4_command f_X10_does
  try dsimp only
  rw [n0, n1, n2, Option.bind_some, Option.bind_some, Option.bind_some, Option.bind_some, Option.bind_some, Option.bind_some, Option.bind_some, Option.bind_some, m0, m1, m2, m0, m0, m1, m0, q_n0, q_n1, q_n2]
  rcases (show cc = 1 ∨ cc = 2 ∨ cc = 3 ∨ cc = 4 ∨ cc = 5 by omega) with rfl | rfl | rfl | rfl | rfl
  · rw [if_pos (show nI 1 = 1 from rfl), if_pos (show nI (1 - 1) = 0 from rfl), ← hNM 0 (by decide), ← hNM 1 (by decide), ← hNM 2 (by decide)]
    obtain ⟨r, pr', ln', e1, h⟩ := q_opGive hX (q_b2 ht hB) (q_b1 ht) (q_b5 ht) (N 0) (N 1) (N 2)
    rw [e1, Option.bind_some]
    rcases h with ⟨hr, rfl, rfl, hm⟩ | ⟨hr, z', hX', hm⟩
    · exact ⟨r, st, z, rfl, by rw [hm sn hs pa ph pm be 1, Option.bind_some], hS.mono (Nat.le_succ B)⟩
    · exact ⟨r, ((pr', ln', st.1.2.2), st.2), z', rfl, by rw [hm sn hs pa ph pm be 1, q_quiet]; rfl, ⟨n + 1, k, t, hX'.mono (Nat.le_refl _) q_b6, ht, hb, hd⟩, hS3⟩
  · rw [if_neg (show ¬ nI 2 = 1 by decide), if_pos (show nI 2 = 2 from rfl), if_neg (show ¬ nI (2 - 1) = 0 by decide), if_pos (show nI (2 - 1) = 1 from rfl), ← hNM 0 (by decide)]
    obtain ⟨r, pr', br', e1, h⟩ := q_opBreak hX (N 0)
    rw [e1, Option.bind_some]
    rcases h with ⟨hr, rfl, rfl, hm⟩ | ⟨hr, z', hX', hm⟩
    · exact ⟨r, st, z, rfl, by rw [hm sn hs pa ph pm be 1, Option.bind_some], hS.mono (Nat.le_succ B)⟩
    · exact ⟨r, ((pr', st.1.2.1, st.1.2.2.1, st.1.2.2.2.1, st.1.2.2.2.2.1, st.1.2.2.2.2.2.1, st.1.2.2.2.2.2.2.1, br', st.1.2.2.2.2.2.2.2.2), st.2), z', rfl, by rw [hm sn hs pa ph pm be 1, q_quiet]; rfl, ⟨n, k, t, hX'.mono (Nat.le_refl _) q_b7, ht, hb, hd⟩, hS3⟩
  · rw [if_neg (show ¬ nI 3 = 1 by decide), if_neg (show ¬ nI 3 = 2 by decide), if_pos (show nI 3 = 3 from rfl), if_neg (show ¬ nI (3 - 1) = 0 by decide), if_neg (show ¬ nI (3 - 1) = 1 by decide), if_pos (show nI (3 - 1) = 2 from rfl), ← hNM 0 (by decide), ← hNM 1 (by decide)]
    obtain ⟨r, pr', ln', e1, h⟩ := q_opMove hX (q_b2 ht hB) (q_b1 ht) (q_b5 ht) (N 0) (N 1)
    rw [e1, Option.bind_some]
    rcases h with ⟨hr, rfl, rfl, hm⟩ | ⟨hr, z', hX', hm⟩
    · exact ⟨r, st, z, rfl, by rw [hm sn hs pa ph pm be 1, Option.bind_some], hS.mono (Nat.le_succ B)⟩
    · exact ⟨r, ((pr', ln', st.1.2.2), st.2), z', rfl, by rw [hm sn hs pa ph pm be 1, q_quiet]; rfl, ⟨n, k, t, hX'.mono (Nat.le_refl _) q_b6, ht, hb, hd⟩, hS3⟩
  · rw [if_neg (show ¬ nI 4 = 1 by decide), if_neg (show ¬ nI 4 = 2 by decide), if_neg (show ¬ nI 4 = 3 by decide), if_pos (show nI 4 = 4 from rfl), if_neg (show ¬ nI (4 - 1) = 0 by decide), if_neg (show ¬ nI (4 - 1) = 1 by decide), if_neg (show ¬ nI (4 - 1) = 2 by decide), if_pos (show nI (4 - 1) = 3 from rfl), ← hNM 0 (by decide)]
    obtain ⟨⟨r, pr', ln', dy', now', br', lt', fl', sw', ps', lo'⟩, e1, h⟩ := q_opPass hX (q_b3 ht hB) (q_b4 ht) ht (N 0)
    rw [e1, Option.bind_some]
    rcases h with ⟨hr, he, hm⟩ | ⟨hr, hq⟩
    · simp only [Prod.mk.injEq] at he
      obtain ⟨-, rfl, rfl, rfl, rfl, rfl, rfl, rfl, rfl, rfl, rfl⟩ := he
      exact ⟨r, st, z, rfl, by rw [hm sn hs pa ph pm be 1, Option.bind_some], hS.mono (Nat.le_succ B)⟩
    · obtain ⟨z', m, htm, hX', hm⟩ := hq sn hs pa ph pm be 1
      exact ⟨r, ((pr', ln', dy', now', st.1.2.2.2.2.1, st.1.2.2.2.2.2.1, st.1.2.2.2.2.2.2.1, br', lt', fl', sw', ps', lo'), st.2), z', rfl, by rw [hm, q_quiet]; rfl, ⟨n, k, t + m, hX'.mono q_b8 q_b9, htm, hb, hd⟩, hS3⟩
  · rw [if_neg (show ¬ nI 5 = 1 by decide), if_neg (show ¬ nI 5 = 2 by decide), if_neg (show ¬ nI 5 = 3 by decide), if_neg (show ¬ nI 5 = 4 by decide), if_pos (show nI 5 = 5 from rfl), if_neg (show ¬ nI (5 - 1) = 0 by decide), if_neg (show ¬ nI (5 - 1) = 1 by decide), if_neg (show ¬ nI (5 - 1) = 2 by decide), if_neg (show ¬ nI (5 - 1) = 3 by decide)]
    obtain ⟨r, pr', ln', br', sw', e1, hr, z', hX', hm⟩ := q_opSweep hX
    rw [e1, Option.bind_some]
    exact ⟨r, ((pr', ln', st.1.2.2.1, st.1.2.2.2.1, st.1.2.2.2.2.1, st.1.2.2.2.2.2.1, st.1.2.2.2.2.2.2.1, br', st.1.2.2.2.2.2.2.2.2.1, st.1.2.2.2.2.2.2.2.2.2.1, sw', st.1.2.2.2.2.2.2.2.2.2.2.2), st.2), z', rfl, by rw [hm sn hs pa ph pm be 1, q_quiet]; rfl, ⟨n, k, t, hX'.mono (Nat.le_refl _) q_b7, ht, hb, hd⟩, hS3⟩
/-- the row of before goes into the past -/
theorem q_pushB (z sn hs pa ph : Nat → Int32) (pm : Int32) (be : Nat → Int32) : f_X10_push 1 z sn hs pa ph pm be = f_X10_push 0 be sn hs pa ph pm be := by
  have e79 : ∀ ph pm, F_X10_push_79 1 z sn hs be ph pm = F_X10_push_79 0 be sn hs be ph pm := by
    intro ph pm
    funext k s
    obtain ⟨x2, y⟩ := s
    unfold F_X10_push_79
    try dsimp only
    by_cases c : (368 : Int32) ≤ x2
    · rw [if_pos c, if_pos c]
    · rw [if_neg c, if_neg c, if_neg (show ¬ (1 : Int32) = 0 by decide), if_pos rfl]
  have e77 : ∀ pa ph pm, f_X10_push_77 1 z sn hs be pa ph pm = f_X10_push_77 0 be sn hs be pa ph pm := by
    intro pa ph pm
    unfold f_X10_push_77
    rw [e79]
  have e41 : ∀ pa pm, F_X10_push_41 1 z sn hs be pa pm = F_X10_push_41 0 be sn hs be pa pm := by
    intro pa pm
    funext k s
    obtain ⟨x2, y⟩ := s
    unfold F_X10_push_41
    simp only [e77]
  have e10 : ∀ ph pm, F_X10_push_10 1 z sn hs be ph pm = F_X10_push_10 0 be sn hs be ph pm := by
    intro ph pm
    funext k s
    obtain ⟨x2, y⟩ := s
    unfold F_X10_push_10
    try dsimp only
    rw [e41]
  unfold f_X10_push
  rw [e10, e77]
theorem q_H.back {B : Nat} {hi : VX2} {pa ph : Nat → Int32} {pm : Int32} {z sn hs : Nat → Int32} (h : q_H B hi pa ph pm) (hrow : ∀ m, m < 6 → hi.2.1 = nI m → q_S B (hi.1 m) z sn hs) (v : VX6) : ∃ v', f_X2_copyNotedInto hi.1 hi.2.1 v.1 v.2.1 v.2.2 = some v' ∧ q_S B v' z sn hs := by
  obtain ⟨m, n, a, b, c, d, f, g⟩ := h
  obtain ⟨v', e, hv⟩ := (hrow m a c).copy v
  refine ⟨v', ?_, hv⟩
  unfold f_X2_copyNotedInto f_X2_rowAt zk_oc
  rw [c, if_neg (nI_pos (by omega)), if_pos (show nI m < 6 from nI_lt (b := 6) a (by omega)), q_ck a (by omega), q_cl (by omega), Option.bind_some]
  try dsimp only
  rw [if_pos a, e]
  rfl
theorem q_fail (x1 x2 x3 x4 : Int32) (z be fa : Nat → Int32) (hf : Int32) : f_X10_fail x1 x2 x3 x4 z be fa hf = some (-1000 - x2, va_cpy be z 0 0 368, q_fa fa x1 x2 x3 x4, 1, 0) := by
  unfold f_X10_fail
  have l1 := q_scan (n := 368) (F := F_X10_fail_8 x1 x2 x3 x4 be fa hf 0) (fun m => (nI m, va_cpy be z 0 0 m)) (some (-1000 - x2, va_cpy be z 0 0 368, q_fa fa x1 x2 x3 x4, 1, 0)) (fun k m hm => by
    unfold F_X10_fail_8
    simp only [q_let]
    simp (disch := omega) only [q_l368, if_neg (nI_ge (b := 368) hm (by omega)), q_ck, q_cl, nI_1]
    have e := q_cp (f := be) (g := z) (s := 0) (a := 0) (m := m)
    rw [Nat.zero_add] at e
    rw [e]) (fun k => by
    unfold F_X10_fail_8 q_fa
    try dsimp only
    rw [q_l368, if_pos (nI_le (Nat.le_refl 368) (by omega)), q_k (i := 0) (N := 4) (by decide), q_let, q_n0, q_k (i := 1) (N := 4) (by decide), q_let, q_n1, q_k (i := 2) (N := 4) (by decide), q_let, q_n2, q_k (i := 3) (N := 4) (by decide), q_let, q_n3]) 368 0 zk_N (by omega) (by unfold zk_N; omega)
  rw [q_cp0] at l1
  exact l1
theorem q_fa1 (fp : Nat → Int32) (a b c d : Int32) : q_fa fp a b c d 1 = b := by
  unfold q_fa
  rw [pk_un (by omega), pk_un (by omega), pk_us]
theorem q_fa_eq (fp fq : Nat → Int32) (a b c d : Int32) : ∀ k, k < 4 → q_fa fp a b c d k = q_fa fq a b c d k := by
  intro k hk
  unfold q_fa
  rcases (show k = 0 ∨ k = 1 ∨ k = 2 ∨ k = 3 by omega) with rfl | rfl | rfl | rfl
  · rw [pk_un (by omega), pk_un (by omega), pk_un (by omega), pk_us, pk_un (by omega), pk_un (by omega), pk_un (by omega), pk_us]
  · rw [pk_un (by omega), pk_un (by omega), pk_us, pk_un (by omega), pk_un (by omega), pk_us]
  · rw [pk_un (by omega), pk_us, pk_un (by omega), pk_us]
  · rw [pk_us, pk_us]
/-- two loops side by side, the first may need one more turn -/
theorem q_loop3 {S1 S2 α β : Type} {F1 : (S1 → Option α) → S1 → Option α} {F2 : (S2 → Option β) → S2 → Option β} {n : Nat} {P : α → β → Prop} (I : Nat → S1 → S2 → Prop) (h : ∀ m s1 s2, I m s1 s2 → (m < n ∧ ∃ s1' s2', I (m + 1) s1' s2' ∧ (∀ k, F1 k s1 = k s1') ∧ ∀ k, F2 k s2 = k s2') ∨ ∃ r1 r2, P r1 r2 ∧ (∀ k, F1 (F1 k) s1 = some r1) ∧ ∀ k, F2 k s2 = some r2) : ∀ (d m f1 f2 : Nat) (s1 : S1) (s2 : S2), m + d = n → d + 1 < f1 → d < f2 → I m s1 s2 → ∃ r1 r2, P r1 r2 ∧ zk_fx F1 f1 s1 = some r1 ∧ zk_fx F2 f2 s2 = some r2
  | 0, m, f1, f2, s1, s2, hm, hf, hg, hi => by
    obtain ⟨f1, rfl⟩ : ∃ k, f1 = k + 1 + 1 := ⟨f1 - 2, by omega⟩
    obtain ⟨f2, rfl⟩ : ∃ k, f2 = k + 1 := ⟨f2 - 1, by omega⟩
    rcases h m s1 s2 hi with ⟨h1, -⟩ | ⟨r1, r2, a, b, c⟩
    · omega
    · exact ⟨r1, r2, a, b (zk_fx F1 f1), c (zk_fx F2 f2)⟩
  | d + 1, m, f1, f2, s1, s2, hm, hf, hg, hi => by
    obtain ⟨f1, rfl⟩ : ∃ k, f1 = k + 1 + 1 := ⟨f1 - 2, by omega⟩
    obtain ⟨f2, rfl⟩ : ∃ k, f2 = k + 1 := ⟨f2 - 1, by omega⟩
    rcases h m s1 s2 hi with ⟨h1, s1', s2', a, b, c⟩ | ⟨r1, r2, a, b, c⟩
    · rw [zk_fx_s F1 (f1 + 1) s1, b, zk_fx_s F2 f2 s2, c]
      exact q_loop3 I h d (m + 1) (f1 + 1) f2 s1' s2' (by omega) (by omega) (by omega) a
    · exact ⟨r1, r2, a, b (zk_fx F1 f1), c (zk_fx F2 f2)⟩
