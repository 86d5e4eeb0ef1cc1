/-! PURE PART: looking: who stands -/
def q_tg (o : Option Nat) (m : Nat) : Int32 := match o with
  | some p => if p < m then nI p else -9
  | none => -9
theorem q_tg0 (o : Option Nat) : q_tg o 0 = -9 := by
  cases o with
  | none => rfl
  | some p =>
    show (if p < 0 then nI p else -9) = -9
    rw [if_neg (Nat.not_lt_zero p)]
theorem q_tg_same {o : Option Nat} {m : Nat} (h : o = some m) : q_tg o (m + 1) = nI m := by
  subst h
  exact if_pos (Nat.lt_succ_self m)
theorem q_tg_other {o : Option Nat} {m : Nat} (h : o ≠ some m) : q_tg o (m + 1) = q_tg o m := by
  cases o with
  | none => rfl
  | some p =>
    have hne : p ≠ m := fun y => h (by rw [y])
    show (if p < m + 1 then nI p else -9) = (if p < m then nI p else -9)
    by_cases c : p < m
    · rw [if_pos c, if_pos (by omega)]
    · rw [if_neg c, if_neg (by omega)]
theorem q_idx {l pre post : List Nat} {m k : Nat} (hn : l.Nodup) (e : l = pre ++ m :: post) : l[k]? = some m ↔ k = pre.length := by
  subst e
  obtain ⟨n1, n2, n3⟩ := List.nodup_append.mp hn
  constructor
  · intro h
    rcases Nat.lt_trichotomy k pre.length with c | c | c
    · rw [List.getElem?_append_left c] at h
      exact absurd rfl (n3 m (List.mem_of_getElem? h) m List.mem_cons_self)
    · exact c
    · rw [List.getElem?_append_right (by omega)] at h
      obtain ⟨i, hi⟩ : ∃ i, k - pre.length = i + 1 := ⟨k - pre.length - 1, by omega⟩
      rw [hi, List.getElem?_cons_succ] at h
      exact absurd (List.mem_of_getElem? h) (List.nodup_cons.mp n2).1
  · intro h
    rw [h, List.getElem?_append_right (Nat.le_refl _), Nat.sub_self]
    rfl
theorem q_stands_loop {z : Nat → Int32} {L : Nat → List Nat} {n T : Nat} (h : q_ML z L n T) {j k : Nat} (hj : j < 25) (hk : k < 2 ^ 31) : f_X10_stands_50 (nI k) z (nI j) = some (q_tg (L j)[k]? n) := by
  have hn := h.2.2.2.2.1
  have h1 := h.2.2.2.1
  unfold f_X10_stands_50
  have l := q_scan (n := n) (F := F_X10_stands_59 (nI k) z (nI j)) (fun m => (q_tg (L j)[k]? m, nI m)) (some (q_tg (L j)[k]? n)) (fun kk m hm => by
    unfold F_X10_stands_59 f_X10_stands_101 f_X10_stands_103
    simp (disch := omega) only [q_n1, q_k1, h1, if_neg (nI_ge hm (by omega)), q_a172, q_ck, q_cl, nI_1]
    by_cases c : m ∈ L j
    · rw [if_pos ((h.at hm hj).mpr c)]
      obtain ⟨pre, post, e⟩ := List.append_of_mem c
      have hl : pre.length ≤ n := by
        have := List.Nodup.length_le_of_subset (h.2.1 j hj).1 (l₂ := List.range n) (fun p hp => List.mem_range.mpr ((h.2.1 j hj).2.2 p hp).1)
        rw [e, List.length_append, List.length_range] at this
        omega
      rw [q_placeOf h hj e, Option.bind_some]
      by_cases w : pre.length = k
      · rw [if_pos (show nI pre.length = nI k by rw [w]), q_tg_same ((q_idx (h.2.1 j hj).1 e).mpr w.symm)]
      · rw [if_neg (fun y => w ((nI_eq (by omega) hk).mp y)), q_tg_other (fun y => w ((q_idx (h.2.1 j hj).1 e).mp y).symm)]
    · rw [if_neg (fun y => c ((h.at hm hj).mp y)), q_tg_other (fun y => c (List.mem_of_getElem? y))]) (fun kk => by
    unfold F_X10_stands_59
    simp (disch := omega) only [q_n1, q_k1, h1]
    rw [if_pos (nI_le (Nat.le_refl _) (by omega))]) n 0 zk_N (by omega) (by unfold zk_N; omega)
  rw [q_tg0] at l
  exact l
theorem q_stands_at {pr : VX5} {dy : VX0} {ln : VX3} {now room bound drift br lt fl sw ps lo : Int32} {z : Nat → Int32} {L : Nat → List Nat} {n c T t : Nat} (h : q_V pr dy now room bound drift br lt fl sw ps lo z L n c T t) (hcl : q_CL ln L) {j k : Nat} (hj : j < 25) (hk : k < 2 ^ 31) : ∃ r, ((f_X3_at (nI j) (nI k) ln.1 ln.2.2.1 ln.2.2.2.2).bind fun r77 => if r77 = -1 then some (-9) else some r77) = some r ∧ f_X10_stands_50 (nI k) z (nI j) = some r := by
  refine ⟨_, ?_, q_stands_loop h.2.1 hj hk⟩
  rw [q_at hcl hj hk, Option.bind_some]
  cases e : (L j)[k]? with
  | none => rfl
  | some p =>
    have hp := ((h.2.1.2.1 j hj).2.2 p (List.mem_of_getElem? e)).1
    have hn := h.n4
    dsimp only
    rw [if_neg (show ¬ nI p = -1 from fun y => nI_pos (n := p) (by omega) (by rw [y]; decide))]
    exact congrArg some (if_pos hp).symm
set_option maxHeartbeats 1000000 in
theorem q_c_stands {B tm : Nat} {st : VX6} {z : Nat → Int32} (h : q_R B tm st.1 z) (x y u : Int32) : ∃ r, f_X9_stands x y u st = some r ∧ f_X10_stands x y u z = some r := by
  obtain ⟨n, k, t, ⟨L, c, T', hV, hcl, hc, hT⟩, ht, -⟩ := h
  unfold f_X9_stands f_X9_stands_10 f_X10_stands f_X10_stands_28
  by_cases c1 : x < 0
  · have c0 : ¬ x = 3 := fun w => by rw [w] at c1; exact absurd c1 (by decide)
    refine ⟨-1, ?_, by rw [if_pos c1]⟩
    unfold f_X9_stands_23
    simp only [if_neg c0, ↓reduceIte, if_pos c1]
  by_cases c2 : 3 < x
  · have c0 : ¬ x = 3 := fun w => by rw [w] at c2; exact absurd c2 (by decide)
    refine ⟨-1, ?_, by rw [if_neg c1, if_pos c2]⟩
    unfold f_X9_stands_23
    simp only [if_neg c0, ↓reduceIte, if_neg c1, if_pos c2]
  obtain ⟨a, ha, rfl⟩ := nI_of2 (M := 3) (n := 3) rfl c1 (Int32.not_lt.mp c2)
  by_cases c3 : y < 0
  · refine ⟨-1, ?_, by rw [if_neg c1, if_neg c2, if_pos c3]⟩
    unfold f_X9_stands_23
    by_cases c0 : nI a = 3
    · simp only [if_pos c0, if_neg (show ¬ (1 : Int32) = 0 by decide), if_neg c1, if_neg c2, if_pos c3]
    · simp only [if_neg c0, ↓reduceIte, if_neg c1, if_neg c2, if_pos c3]
  obtain ⟨b, hb, rfl⟩ := nI_of c3
  by_cases c0 : a = 3
  · subst c0
    have d0 : nI 3 = 3 := rfl
    by_cases c4 : b = 0
    · subst c4
      by_cases c5 : 0 ≤ u
      · obtain ⟨k', hk', rfl⟩ := nI_of (Int32.not_lt.mpr c5)
        obtain ⟨r, k1, k2⟩ := q_stands_at hV hcl (j := 24) (k := k') (by omega) hk'
        refine ⟨r, ?_, ?_⟩
        · unfold f_X9_stands_23 f_X9_stands_76
          rw [if_pos d0, if_neg (show ¬ (1 : Int32) = 0 by decide), if_neg c1, if_neg c2, if_neg c3, if_neg (show ¬ (1 : Int32) ≤ nI 0 by decide), if_pos c5, if_neg (show ¬ (1 : Int32) = 0 by decide)]
          exact k1
        · rw [if_neg c1, if_neg c2, if_neg c3, if_neg (show ¬ (7 : Int32) < nI 0 by decide), if_pos d0, if_neg (show ¬ (0 : Int32) < nI 0 by decide), if_pos c5, if_pos d0]
          exact k2
      · refine ⟨-1, ?_, ?_⟩
        · unfold f_X9_stands_23
          rw [if_pos d0, if_neg (show ¬ (1 : Int32) = 0 by decide), if_neg c1, if_neg c2, if_neg c3, if_neg (show ¬ (1 : Int32) ≤ nI 0 by decide), if_neg c5]
        · rw [if_neg c1, if_neg c2, if_neg c3, if_neg (show ¬ (7 : Int32) < nI 0 by decide), if_pos d0, if_neg (show ¬ (0 : Int32) < nI 0 by decide), if_neg c5]
    · have e1 : (1 : Int32) ≤ nI b := nI_le (a := 1) (by omega) hb
      have e2 : (0 : Int32) < nI b := nI_lt (a := 0) (by omega) hb
      refine ⟨-1, ?_, ?_⟩
      · unfold f_X9_stands_23
        rw [if_pos d0, if_neg (show ¬ (1 : Int32) = 0 by decide), if_neg c1, if_neg c2, if_neg c3, if_pos e1]
      · rw [if_neg c1, if_neg c2, if_neg c3]
        by_cases w : 7 < nI b
        · rw [if_pos w]
        · rw [if_neg w, if_pos d0, if_pos e2]
  · have d0 : ¬ nI a = 3 := fun w => c0 ((nI_eq (b := 3) (by omega) (by omega)).mp w)
    by_cases c4 : b < 8
    · have e1 : ¬ (8 : Int32) ≤ nI b := nI_ge (b := 8) c4 (by omega)
      have e2 : ¬ (7 : Int32) < nI b := nI_nlt (a := 7) (by omega) (by omega)
      by_cases c5 : 0 ≤ u
      · obtain ⟨k', hk', rfl⟩ := nI_of (Int32.not_lt.mpr c5)
        obtain ⟨r, k1, k2⟩ := q_stands_at hV hcl (j := a * 8 + b) (k := k') (by omega) hk'
        have e3 : nI a * 8 + nI b = nI (a * 8 + b) := by
          rw [show nI a * 8 = nI (a * 8) from pk_mul a 8, nI_add]
        have e4 : 8 * nI a + nI b = nI (a * 8 + b) := by
          rw [show 8 * nI a = nI (8 * a) from pk_mul 8 a, nI_add, Nat.mul_comm]
        refine ⟨r, ?_, ?_⟩
        · unfold f_X9_stands_23 f_X9_stands_76
          rw [if_neg d0, if_pos rfl, if_neg c1, if_neg c2, if_neg c3, if_neg e1, if_pos c5, if_pos rfl, e3]
          exact k1
        · rw [if_neg c1, if_neg c2, if_neg c3, if_neg e2, if_neg d0, if_pos c5, if_neg d0, e4]
          exact k2
      · refine ⟨-1, ?_, ?_⟩
        · unfold f_X9_stands_23
          rw [if_neg d0, if_pos rfl, if_neg c1, if_neg c2, if_neg c3, if_neg e1, if_neg c5]
        · rw [if_neg c1, if_neg c2, if_neg c3, if_neg e2, if_neg d0, if_neg c5]
    · have e1 : (8 : Int32) ≤ nI b := nI_le (a := 8) (by omega) hb
      have e2 : (7 : Int32) < nI b := nI_lt (a := 7) (by omega) hb
      refine ⟨-1, ?_, ?_⟩
      · unfold f_X9_stands_23
        rw [if_neg d0, if_pos rfl, if_neg c1, if_neg c2, if_neg c3, if_pos e1]
      · rw [if_neg c1, if_neg c2, if_neg c3, if_pos e2]
