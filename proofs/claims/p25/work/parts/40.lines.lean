/-! PURE PART: the lines of the class as lists -/
theorem q_ck {α : Type} {i N : Nat} {k : Option α} (h : i < N) (hN : N < 2 ^ 31) : zk_ck (nI i) N k = k := if_neg (nI_in h hN)
theorem q_cl {n : Nat} (h : n < 2 ^ 31) : (nI n).toNatClampNeg = n := nI_clamp h
def q_ch (g : Nat → Int32) : Int32 → List Nat → Prop
  | h, [] => h = -1
  | h, p :: t => h = nI p ∧ q_ch g (g p) t
def q_last (l : List Nat) : Int32 := match l.getLast? with
  | none => -1
  | some p => nI p
/-- the class's lines hold the lists L -/
def q_CL (v : VX3) (L : Nat → List Nat) : Prop :=
  (∀ j, j < 25 → v.2.2.1 j = nI (L j).length ∧ q_ch v.2.2.2.2 (v.1 j) (L j) ∧ v.2.1 j = q_last (L j) ∧ (L j).Nodup ∧ ∀ p ∈ L j, p < 40 ∧ v.2.2.2.1 p = nI j) ∧ ∀ p, p < 40 → (∀ j, j < 25 → p ∉ L j) → v.2.2.2.1 p = -1
theorem q_CL.one {v : VX3} {L : Nat → List Nat} (h : q_CL v L) {i j p : Nat} (hi : i < 25) (hj : j < 25) (h1 : p ∈ L i) (h2 : p ∈ L j) : i = j := by
  have a := ((h.1 i hi).2.2.2.2 p h1).2
  have b := ((h.1 j hj).2.2.2.2 p h2).2
  exact (nI_eq (by omega) (by omega)).mp (a.symm.trans b)
theorem q_CL.len {v : VX3} {L : Nat → List Nat} (h : q_CL v L) {j : Nat} (hj : j < 25) : (L j).length ≤ 40 := by
  have h1 := List.Nodup.length_le_of_subset (h.1 j hj).2.2.2.1 (l₂ := List.range 40) (fun p hp => List.mem_range.mpr ((h.1 j hj).2.2.2.2 p hp).1)
  simpa using h1
theorem q_ch_keep {g g' : Nat → Int32} : ∀ {l : List Nat} {h : Int32}, q_ch g h l → (∀ q ∈ l, g' q = g q) → q_ch g' h l
  | [], _, a, _ => a
  | p :: t, _, a, k => ⟨a.1, by rw [k p List.mem_cons_self]; exact q_ch_keep a.2 (fun q hq => k q (List.mem_cons_of_mem _ hq))⟩
theorem q_ch_snoc {g g' : Nat → Int32} {p : Nat} : ∀ {l : List Nat} {h : Int32} {q : Nat}, q_ch g h (l ++ [q]) → (∀ r ∈ l, g' r = g r) → g' q = nI p → g' p = -1 → q_ch g' h (l ++ [q] ++ [p])
  | [], _, _, a, _, e1, e2 => ⟨a.1, e1, e2⟩
  | r :: l, _, _, a, k, e1, e2 => ⟨a.1, by rw [k r List.mem_cons_self]; exact q_ch_snoc a.2 (fun q hq => k q (List.mem_cons_of_mem _ hq)) e1 e2⟩
theorem q_ch_del {g g' : Nat → Int32} {p a : Nat} {post : List Nat} : ∀ {pre : List Nat} {h : Int32}, q_ch g h (pre ++ a :: p :: post) → (∀ r ∈ pre, g' r = g r) → g' a = g p → (∀ r ∈ post, g' r = g r) → q_ch g' h (pre ++ a :: post)
  | [], _, c, _, e, k => ⟨c.1, by rw [e]; exact q_ch_keep c.2.2 k⟩
  | r :: l, _, c, k, e, k2 => ⟨c.1, by rw [k r List.mem_cons_self]; exact q_ch_del c.2 (fun q hq => k q (List.mem_cons_of_mem _ hq)) e k2⟩
theorem q_ch_head {g : Nat → Int32} {h : Int32} {p : Nat} {t : List Nat} (c : q_ch g h (p :: t)) : h = nI p := c.1
theorem q_last_nil : q_last [] = -1 := rfl
theorem q_last_snoc (l : List Nat) (p : Nat) : q_last (l ++ [p]) = nI p := by
  unfold q_last
  rw [List.getLast?_append]
  rfl
theorem q_follower {p : Nat} (h : p < 40) (g : Nat → Int32) : f_X3_follower (nI p) g = some (g p) := by
  unfold f_X3_follower
  rw [if_neg (nI_pos (by omega)), if_pos (show nI p < 40 from nI_lt (b := 40) h (by omega)), q_ck h (by omega), q_cl (by omega)]
theorem q_lineOf {p : Nat} (h : p < 40) (g : Nat → Int32) : f_X3_lineOf (nI p) g = some (g p) := by
  unfold f_X3_lineOf
  rw [if_neg (nI_pos (by omega)), if_pos (show nI p < 40 from nI_lt (b := 40) h (by omega)), q_ck h (by omega), q_cl (by omega)]
theorem q_lengthOf {j : Nat} (h : j < 25) (g : Nat → Int32) : f_X3_lengthOf (nI j) g = some (g j) := by
  unfold f_X3_lengthOf
  rw [if_neg (nI_pos (by omega)), if_pos (show nI j < 25 from nI_lt (b := 25) h (by omega)), q_ck h (by omega), q_cl (by omega)]
theorem q_frontOf {j : Nat} (h : j < 25) (g : Nat → Int32) : f_X3_frontOf (nI j) g = some (g j) := by
  unfold f_X3_frontOf
  rw [if_neg (nI_pos (by omega)), if_pos (show nI j < 25 from nI_lt (b := 25) h (by omega)), q_ck h (by omega), q_cl (by omega)]
theorem q_up_s {α : Type} {f : Nat → α} {k : Nat} {x : α} : va_up f k x k = x := if_pos rfl
theorem q_up_n {α : Type} {f : Nat → α} {k i : Nat} {x : α} (h : i ≠ k) : va_up f k x i = f i := if_neg h
theorem q_join {v : VX3} {L : Nat → List Nat} {j p : Nat} (h : q_CL v L) (hj : j < 25) (hp : p < 40) (hn : ∀ i, i < 25 → p ∉ L i) : ∃ v', f_X3_join (nI j) (nI p) v.1 v.2.1 v.2.2.1 v.2.2.2.1 v.2.2.2.2 = some v' ∧ q_CL v' (va_up L j (L j ++ [p])) := by
  have hone := @q_CL.one v L h
  obtain ⟨first, last, length, line, behind⟩ := v
  obtain ⟨h1, h2⟩ := h
  dsimp only at h1 h2 ⊢
  have fin : ∀ (first' behind' : Nat → Int32), (∀ i, i < 25 → i ≠ j → first' i = first i) → (∀ q, q ∉ L j → behind' q = behind q) → q_ch (upd behind' p (-1)) (first' j) (L j ++ [p]) → ∃ v', f_X3_join_55 (nI j) (nI p) first' last length line behind' = some v' ∧ q_CL v' (va_up L j (L j ++ [p])) := by
    intro first' behind' hf hb hc
    refine ⟨(first', upd last j (nI p), upd length j (length j + 1), upd line p (nI j), upd behind' p (-1)), ?_, ?_, ?_⟩
    · unfold f_X3_join_55
      simp only [q_ck (N := 25) hj (by omega), q_ck (N := 40) hp (by omega), q_cl (n := j) (by omega), q_cl (n := p) (by omega), zk_let]
    · intro i hi
      dsimp only
      by_cases e : i = j
      · subst e
        rw [q_up_s, pk_us, pk_us, (h1 i hi).1, nI_1, List.length_append]
        refine ⟨rfl, hc, (q_last_snoc _ _).symm, ?_, ?_⟩
        · exact List.nodup_append.mpr ⟨(h1 i hi).2.2.2.1, by simp, fun a ha b hb e => hn i hi (by rw [List.mem_singleton.mp hb] at e; rw [← e]; exact ha)⟩
        · intro q hq
          rcases List.mem_append.mp hq with hq | hq
          · have g := (h1 i hi).2.2.2.2 q hq
            exact ⟨g.1, by rw [pk_un (fun e => hn i hi (by rw [← e]; exact hq))]; exact g.2⟩
          · rw [List.mem_singleton.mp hq]
            exact ⟨hp, pk_us⟩
      · rw [q_up_n e, pk_un e, pk_un e, hf i hi e]
        have g := h1 i hi
        refine ⟨g.1, q_ch_keep g.2.1 (fun q hq => ?_), g.2.2.1, g.2.2.2.1, fun q hq => ⟨(g.2.2.2.2 q hq).1, ?_⟩⟩
        · rw [pk_un (fun e => hn i hi (by rw [← e]; exact hq))]
          exact hb q (fun z => e (hone hi hj hq z))
        · rw [pk_un (fun e => hn i hi (by rw [← e]; exact hq))]
          exact (g.2.2.2.2 q hq).2
    · intro q hq hz
      dsimp only
      have hqp : q ≠ p := fun e => hz j hj (by rw [q_up_s, e]; exact List.mem_append_right _ (List.mem_singleton.mpr rfl))
      rw [pk_un hqp]
      refine h2 q hq (fun i hi hm => ?_)
      by_cases e : i = j
      · subst e
        exact hz i hi (by rw [q_up_s]; exact List.mem_append_left _ hm)
      · exact hz i hi (by rw [q_up_n e]; exact hm)
  unfold f_X3_join
  rw [if_neg (nI_pos (by omega)), if_neg (show ¬ (25 : Int32) ≤ nI j from nI_ge (b := 25) hj (by omega)), if_neg (nI_pos (by omega)), if_pos (show nI p < 40 from nI_lt (b := 40) hp (by omega)), q_ck hj (by omega), q_cl (by omega)]
  simp only [zk_let]
  have g := h1 j hj
  rcases List.eq_nil_or_concat (L j) with e | ⟨l, q, e⟩
  · have el : last j = -1 := by rw [g.2.2.1, e]; rfl
    rw [el, if_pos (by decide)]
    unfold f_X3_join_38
    rw [q_ck hj (by omega), q_cl (by omega)]
    simp only [zk_let]
    refine fin _ _ (fun i hi hne => pk_un hne) (fun q _ => rfl) ?_
    rw [e, pk_us]
    exact ⟨rfl, pk_us⟩
  · rw [List.concat_eq_append] at e
    have hq40 : q < 40 := (g.2.2.2.2 q (by rw [e]; simp)).1
    have el : last j = nI q := by rw [g.2.2.1, e]; exact q_last_snoc _ _
    have hqp : q ≠ p := fun z => hn j hj (by rw [e, ← z]; simp)
    rw [el, if_neg (nI_pos (by omega)), if_pos (show nI q < 40 from nI_lt (b := 40) hq40 (by omega)), q_ck hq40 (by omega), q_cl (by omega)]
    refine fin _ _ (fun i hi hne => rfl) (fun r hr => pk_un (fun z => hr (by rw [e, z]; simp))) ?_
    have hc := g.2.1
    have hnd := g.2.2.2.1
    rw [e] at hc hnd ⊢
    refine q_ch_snoc hc (fun r hr => ?_) ?_ pk_us
    · have hrq : r ≠ q := (List.nodup_append.mp hnd).2.2 r hr q (by simp)
      have hrp : r ≠ p := fun z => hn j hj (by rw [e, ← z]; exact List.mem_append_left _ hr)
      rw [pk_un hrp, pk_un hrq]
    · rw [pk_un hqp, pk_us]
theorem q_leave_loop {p j : Nat} (hp : p < 40) {first last length line behind : Nat → Int32} {post : List Nat} : ∀ (pre : List Nat) (n m : Nat) (ah here : Int32), q_ch behind here (pre ++ p :: post) → (∀ q ∈ pre, q < 40 ∧ q ≠ p) → m + pre.length < 40 → pre.length < n → zk_fx (F_X3_leave_40 (nI p) (nI j) first last length line behind) n (ah, here, nI m) = f_X3_leave_70 (nI p) (nI j) ((pre.getLast?.map nI).getD ah) first last length line behind
  | [], n, m, ah, here, hc, hq, hm, hn => by
    obtain ⟨n, rfl⟩ : ∃ k, n = k + 1 := ⟨n - 1, by simp at hn; omega⟩
    rw [zk_fx_s]
    rw [F_X3_leave_40]
    try dsimp only
    rw [if_neg (show ¬ (40 : Int32) ≤ nI m from nI_ge (b := 40) (by simpa using hm) (by omega)), if_pos hc.1]
    rfl
  | a :: pre, n, m, ah, here, hc, hq, hm, hn => by
    rw [List.length_cons] at hm hn
    obtain ⟨n, rfl⟩ : ∃ k, n = k + 1 := ⟨n - 1, by omega⟩
    have ha := hq a List.mem_cons_self
    have hh : here = nI a := hc.1
    rw [zk_fx_s]
    rw [F_X3_leave_40]
    try dsimp only
    rw [if_neg (show ¬ (40 : Int32) ≤ nI m from nI_ge (b := 40) (by omega) (by omega)), hh, if_neg (fun z => ha.2 ((nI_eq (by omega) (by omega)).mp z)), q_follower ha.1, Option.bind_some, nI_1]
    rw [q_leave_loop hp pre n (m + 1) (nI a) (behind a) hc.2 (fun q h => hq q (List.mem_cons_of_mem _ h)) (by omega) (by omega)]
    cases pre with
    | nil => rfl
    | cons b pre => rw [List.getLast?_cons_cons]; simp [List.getLast?_cons]
theorem q_leave {v : VX3} {L : Nat → List Nat} {j p : Nat} (h : q_CL v L) (hj : j < 25) (hm : p ∈ L j) : ∃ v', f_X3_leave (nI p) v.1 v.2.1 v.2.2.1 v.2.2.2.1 v.2.2.2.2 = some v' ∧ q_CL v' (va_up L j ((L j).erase p)) := by
  have hone := @q_CL.one v L h
  have hlen := h.len hj
  obtain ⟨first, last, length, line, behind⟩ := v
  obtain ⟨h1, h2⟩ := h
  dsimp only at h1 h2 ⊢
  obtain ⟨g1, g2, g3, g4, g5⟩ := h1 j hj
  have hp := (g5 p hm).1
  obtain ⟨pre, post, e⟩ := List.append_of_mem hm
  have hnd := g4
  rw [e] at hnd
  obtain ⟨n1, n2, n3⟩ := List.nodup_append.mp hnd
  have hpre : p ∉ pre := fun z => n3 p z p List.mem_cons_self rfl
  have hpost : p ∉ post := (List.nodup_cons.mp n2).1
  have hpp : ∀ q ∈ pre, q ∉ post := fun q hq z => n3 q hq q (List.mem_cons_of_mem _ z) rfl
  have he : (L j).erase p = pre ++ post := by rw [e, List.erase_append_right _ hpre, List.erase_cons_head]
  have hlast : post ≠ [] → last j ≠ nI p ∧ last j = q_last (pre ++ post) := by
    intro hne
    rcases List.eq_nil_or_concat post with z | ⟨l, q, z⟩
    · exact absurd z hne
    · rw [List.concat_eq_append] at z
      have e1 : last j = nI q := by rw [g3, e, z, show pre ++ p :: (l ++ [q]) = (pre ++ p :: l) ++ [q] by simp]; exact q_last_snoc _ _
      have hq := (g5 q (by rw [e, z]; simp)).1
      refine ⟨fun y => hpost ?_, ?_⟩
      · rw [e1] at y
        rw [← (nI_eq (by omega) (by omega)).mp y, z]
        simp
      · rw [e1, z, ← List.append_assoc]
        exact (q_last_snoc _ _).symm
  have hlast0 : post = [] → last j = nI p := by
    intro z
    rw [g3, e, z]
    exact q_last_snoc _ _
  -- the end that all ways have in common
  have fin : ∀ (first' behind' : Nat → Int32) (x3 : Int32), x3 = q_last pre → (∀ i, i < 25 → i ≠ j → first' i = first i) → (∀ q, q ∉ L j → behind' q = behind q) → q_ch (upd behind' p (-1)) (first' j) (pre ++ post) → ∃ v', f_X3_leave_107 (nI p) (nI j) x3 first' last length line behind' = some v' ∧ q_CL v' (va_up L j ((L j).erase p)) := by
    intro first' behind' x3 hx hf hb hc
    have fin2 : ∀ last' : Nat → Int32, last' j = q_last (pre ++ post) → (∀ i, i ≠ j → last' i = last i) → ∃ v', f_X3_leave_124 (nI p) (nI j) first' last' length line behind' = some v' ∧ q_CL v' (va_up L j ((L j).erase p)) := by
      intro last' hl1 hl2
      refine ⟨(first', last', upd length j (length j - 1), upd line p (-1), upd behind' p (-1)), ?_, ?_, ?_⟩
      · unfold f_X3_leave_124
        simp only [q_ck (N := 25) hj (by omega), q_ck (N := 40) hp (by omega), q_cl (n := j) (by omega), q_cl (n := p) (by omega), zk_let]
      · intro i hi
        dsimp only
        by_cases y : i = j
        · subst y
          rw [q_up_s, pk_us, he, g1, e]
          refine ⟨?_, hc, hl1, ?_, fun q hq => ?_⟩
          · rw [show (pre ++ p :: post).length = (pre ++ post).length + 1 by simp; omega]
            exact nI_pred _
          · exact List.nodup_append.mpr ⟨n1, (List.nodup_cons.mp n2).2, fun a ha b hb z => n3 a ha b (List.mem_cons_of_mem _ hb) z⟩
          · have hqp : q ≠ p := fun z => (List.mem_append.mp hq).elim (fun y => hpre (by rw [← z]; exact y)) (fun y => hpost (by rw [← z]; exact y))
            have hq2 : q ∈ L i := by
              rw [e]
              exact (List.mem_append.mp hq).elim (fun y => List.mem_append_left _ y) (fun y => List.mem_append_right _ (List.mem_cons_of_mem _ y))
            rw [pk_un hqp]
            exact g5 q hq2
        · have hpi : p ∉ L i := fun z => y (hone hi hj z hm)
          rw [q_up_n y, pk_un y, hf i hi y, hl2 i y]
          have g := h1 i hi
          refine ⟨g.1, q_ch_keep g.2.1 (fun q hq => ?_), g.2.2.1, g.2.2.2.1, fun q hq => ⟨(g.2.2.2.2 q hq).1, ?_⟩⟩
          · rw [pk_un (fun z => hpi (by rw [← z]; exact hq))]
            exact hb q (fun z => y (hone hi hj hq z))
          · rw [pk_un (fun z => hpi (by rw [← z]; exact hq))]
            exact (g.2.2.2.2 q hq).2
      · intro q hq hz
        dsimp only
        by_cases y : q = p
        · subst y
          exact pk_us
        · rw [pk_un y]
          refine h2 q hq (fun i hi hmi => ?_)
          by_cases z : i = j
          · subst z
            refine hz i hi ?_
            rw [q_up_s]
            exact (List.mem_erase_of_ne y).mpr hmi
          · exact hz i hi (by rw [q_up_n z]; exact hmi)
    unfold f_X3_leave_107
    rw [q_ck hj (by omega), q_cl (by omega)]
    by_cases z : post = []
    · rw [if_pos (hlast0 z), q_ck hj (by omega)]
      simp only [zk_let]
      exact fin2 _ (by rw [pk_us, hx, z, List.append_nil]) (fun i hi => pk_un hi)
    · rw [if_neg (hlast z).1]
      exact fin2 _ (hlast z).2 (fun _ _ => rfl)
  unfold f_X3_leave
  rw [q_lineOf hp, Option.bind_some, (g5 p hm).2, if_neg (nI_pos (by omega)), if_neg (show ¬ (25 : Int32) ≤ nI j from nI_ge (b := 25) hj (by omega)), if_neg (nI_pos (by omega)), if_pos (show nI p < 40 from nI_lt (b := 40) hp (by omega)), q_ck hj (by omega), q_cl (by omega)]
  simp only [zk_let]
  have hc := g2
  rw [e] at hc
  have hl2 : pre.length + 1 ≤ 40 := by
    have := hlen
    rw [e, List.length_append, List.length_cons] at this
    omega
  rw [show (0 : Int32) = nI 0 from rfl, q_leave_loop (j := j) hp pre zk_N 0 (-1) (first j) hc (fun q hq => ⟨(g5 q (by rw [e]; exact List.mem_append_left _ hq)).1, fun z => hpre (by rw [← z]; exact hq)⟩) (by omega) (by unfold zk_N; omega)]
  unfold f_X3_leave_70
  rcases List.eq_nil_or_concat pre with z | ⟨l, a, z⟩
  · subst z
    have hc2 : q_ch behind (behind p) post := hc.2
    rw [show (([] : List Nat).getLast?.map nI).getD (-1) = -1 from rfl, if_pos (by decide)]
    unfold f_X3_leave_80
    rw [q_ck hp (by omega), q_ck hj (by omega), q_cl (by omega), q_cl (by omega)]
    simp only [zk_let]
    refine fin _ _ _ rfl (fun i hi hne => pk_un hne) (fun q _ => rfl) ?_
    rw [pk_us]
    exact q_ch_keep hc2 (fun q hq => pk_un (fun y => hpost (by rw [← y]; exact hq)))
  · rw [List.concat_eq_append] at z
    subst z
    have ha : a < 40 := (g5 a (by rw [e]; simp)).1
    have hap : a ≠ p := fun y => hpre (by rw [← y]; simp)
    have ea : (((l ++ [a]).getLast?).map nI).getD (-1) = nI a := by simp
    rw [ea, if_neg (nI_pos (by omega)), if_pos (show nI a < 40 from nI_lt (b := 40) ha (by omega)), q_ck hp (by omega), q_ck ha (by omega), q_cl (by omega), q_cl (by omega)]
    simp only [zk_let]
    refine fin _ _ _ (q_last_snoc _ _).symm (fun i hi hne => rfl) (fun q hq => pk_un (fun y => hq (by rw [e, y]; simp))) ?_
    rw [List.append_assoc] at hc ⊢
    refine q_ch_del hc (fun r hr => ?_) ?_ (fun r hr => ?_)
    · have hra : r ≠ a := (List.nodup_append.mp n1).2.2 r hr a (by simp)
      have hrp : r ≠ p := fun y => hpre (by rw [← y]; exact List.mem_append_left _ hr)
      rw [pk_un hrp, pk_un hra]
    · rw [pk_un hap, pk_us]
    · have hrp : r ≠ p := fun y => hpost (by rw [← y]; exact hr)
      have hra : r ≠ a := fun y => hpp a (by simp) (by rw [← y]; exact hr)
      rw [pk_un hrp, pk_un hra]
theorem q_place_loop {behind : Nat → Int32} {p N : Nat} (hp : p < 40) (hN : N < 2 ^ 31) : ∀ (pre : List Nat) (post : List Nat) (m n : Nat) (here : Int32), q_ch behind here (pre ++ p :: post) → (∀ q ∈ pre, q < 40 ∧ q ≠ p) → m + pre.length < N → pre.length < n → zk_fx (F_X3_placeOf_22 (nI p) behind (nI N)) n (here, nI m) = some (nI (m + pre.length))
  | [], post, m, n, here, hc, hq, hm, hn => by
    obtain ⟨n, rfl⟩ : ∃ k, n = k + 1 := ⟨n - 1, by simp at hn; omega⟩
    rw [zk_fx_s]
    rw [F_X3_placeOf_22]
    try dsimp only
    rw [if_neg (nI_ge (by simpa using hm) (by omega)), if_pos hc.1]
    rfl
  | a :: pre, post, m, n, here, hc, hq, hm, hn => by
    rw [List.length_cons] at hm hn
    obtain ⟨n, rfl⟩ : ∃ k, n = k + 1 := ⟨n - 1, by omega⟩
    have ha := hq a List.mem_cons_self
    rw [zk_fx_s]
    rw [F_X3_placeOf_22]
    try dsimp only
    have hh : here = nI a := hc.1
    rw [if_neg (nI_ge (by omega) (by omega)), hh, if_neg (fun z => ha.2 ((nI_eq (by omega) (by omega)).mp z)), q_follower ha.1, Option.bind_some, nI_1]
    have ih := q_place_loop hp hN pre post (m + 1) n (behind a) hc.2 (fun q h => hq q (List.mem_cons_of_mem _ h)) (by omega) (by omega)
    rw [ih, List.length_cons, show m + 1 + pre.length = m + (pre.length + 1) by omega]
theorem q_place {v : VX3} {L : Nat → List Nat} {j p : Nat} (h : q_CL v L) (hj : j < 25) (pre post : List Nat) (e : L j = pre ++ p :: post) : f_X3_placeOf (nI p) v.1 v.2.2.1 v.2.2.2.1 v.2.2.2.2 = some (nI pre.length) := by
  have hlen := h.len hj
  obtain ⟨g1, g2, g3, g4, g5⟩ := h.1 j hj
  have hm : p ∈ L j := by rw [e]; simp
  have hp := (g5 p hm).1
  rw [e] at g4 g2
  have hpre : p ∉ pre := fun z => (List.nodup_append.mp g4).2.2 p z p List.mem_cons_self rfl
  unfold f_X3_placeOf
  rw [q_lineOf hp, Option.bind_some, (g5 p hm).2, q_lengthOf hj, Option.bind_some, q_frontOf hj, Option.bind_some, g1]
  have ih := q_place_loop (N := (L j).length) hp (by omega) pre post 0 zk_N (v.1 j) g2 (fun q hq => ⟨(g5 q (by rw [e]; exact List.mem_append_left _ hq)).1, fun z => hpre (by rw [← z]; exact hq)⟩) (by rw [e]; simp) (by rw [e, List.length_append] at hlen; unfold zk_N; omega)
  rw [show (0 : Int32) = nI 0 from rfl, ih, Nat.zero_add]
theorem q_place_no {v : VX3} {L : Nat → List Nat} {p : Nat} (h : q_CL v L) (hp : p < 40) (hn : ∀ j, j < 25 → p ∉ L j) : f_X3_placeOf (nI p) v.1 v.2.2.1 v.2.2.2.1 v.2.2.2.2 = some (-9) := by
  unfold f_X3_placeOf
  rw [q_lineOf hp, Option.bind_some, h.2 p hp hn]
  unfold f_X3_lengthOf f_X3_frontOf
  rw [if_pos (by decide), if_pos (by decide), Option.bind_some, Option.bind_some]
  rw [show zk_N = 9999 + 1 from rfl, zk_fx_s]
  rw [F_X3_placeOf_22]
  try dsimp only
  rw [if_pos (by decide)]
/-- a copy holds the same lists -/
theorem q_CL_copy {u v v' : VX3} {L : Nat → List Nat} (h : q_CL u L) (e : f_X3_copyFrom v.1 v.2.1 v.2.2.1 v.2.2.2.1 v.2.2.2.2 u.1 u.2.1 u.2.2.1 u.2.2.2.1 u.2.2.2.2 = some v') : q_CL v' L := by
  unfold f_X3_copyFrom zk_let at e
  cases e
  have c25 : ∀ (f g : Nat → Int32) (i : Nat), i < 25 → va_cpy f g 0 0 25 i = f i := fun f g i hi => sb_cpy0 hi
  have c40 : ∀ (f g : Nat → Int32) (i : Nat), i < 40 → va_cpy f g 0 0 40 i = f i := fun f g i hi => sb_cpy0 hi
  refine ⟨fun j hj => ?_, fun p hp hn => ?_⟩
  · obtain ⟨g1, g2, g3, g4, g5⟩ := h.1 j hj
    dsimp only
    rw [c25 _ _ j hj, c25 _ _ j hj, c25 _ _ j hj]
    exact ⟨g1, q_ch_keep g2 (fun q hq => c40 _ _ q (g5 q hq).1), g3, g4, fun p hp => ⟨(g5 p hp).1, by rw [c40 _ _ p (g5 p hp).1]; exact (g5 p hp).2⟩⟩
  · dsimp only
    rw [c40 _ _ p hp]
    exact h.2 p hp hn
