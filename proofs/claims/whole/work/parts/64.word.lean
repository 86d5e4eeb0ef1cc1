/-! PURE PART: the text's words and numbers -/
theorem q_wl : (f_J0_length 0 = some (nI 4) ∧ f_J0_length 1 = some (nI 5)) ∧ (f_J0_length 2 = some (nI 4) ∧ f_J0_length 3 = some (nI 4)) ∧ f_J0_length 4 = some (nI 5) := by decide +kernel
def q_w0 : List Nat := [103, 105, 118, 101]
def q_w1 : List Nat := [98, 114, 101, 97, 107]
def q_w2 : List Nat := [109, 111, 118, 101]
def q_w3 : List Nat := [112, 97, 115, 115]
def q_w4 : List Nat := [115, 119, 101, 101, 112]
theorem q_wc0 : ∀ k, k < 4 → f_J0_charAt 0 (nI k) = some (nI (q_w0.getD k 0)) ∧ q_w0.getD k 0 ≤ 255 := by decide +kernel
theorem q_wc1 : ∀ k, k < 5 → f_J0_charAt 1 (nI k) = some (nI (q_w1.getD k 0)) ∧ q_w1.getD k 0 ≤ 255 := by decide +kernel
theorem q_wc2 : ∀ k, k < 4 → f_J0_charAt 2 (nI k) = some (nI (q_w2.getD k 0)) ∧ q_w2.getD k 0 ≤ 255 := by decide +kernel
theorem q_wc3 : ∀ k, k < 4 → f_J0_charAt 3 (nI k) = some (nI (q_w3.getD k 0)) ∧ q_w3.getD k 0 ≤ 255 := by decide +kernel
theorem q_wc4 : ∀ k, k < 5 → f_J0_charAt 4 (nI k) = some (nI (q_w4.getD k 0)) ∧ q_w4.getD k 0 ≤ 255 := by decide +kernel
def q_isW (s : Nat → Nat) (w : List Nat) (l a b kd : Nat) : Prop := kd = 1 ∧ b = a + l ∧ ∀ k, k < l → s (a + k) = w.getD k 0
section QTW
variable {ch tx : Nat → Int32} {n : Nat} {s : Nat → Nat} {a b kd : Nat}
theorem q_word (h : q_TX ch tx n s) (hT : q_TK s n a b kd) (i l : Nat) (w : List Nat) (hl : f_J0_length i = some (nI l)) (hc : ∀ k, k < l → f_J0_charAt i (nI k) = some (nI (w.getD k 0)) ∧ w.getD k 0 ≤ 255) (h5 : l ≤ 5) : (f_X7_isWord i ch (nI n) (nI a) (nI b) (nI kd) = some 1 ∧ q_isW s w l a b kd) ∨ (f_X7_isWord i ch (nI n) (nI a) (nI b) (nI kd) = some 0 ∧ ¬ q_isW s w l a b kd) := by
  have hn := h.1
  obtain ⟨t1, t2, t3⟩ := hT
  have hkd : kd ≤ 3 := by
    rcases t3 with ⟨-, -, e⟩ | ⟨-, e, -⟩
    · omega
    · have := q_kc_b (s a)
      omega
  unfold f_X7_isWord
  by_cases k1 : kd = 1
  · rw [if_pos (show nI kd = 1 by rw [k1]; rfl), hl, Option.bind_some, pk_sub t1]
    by_cases k2 : b - a = l
    · rw [if_pos (by rw [k2])]
      have k3 : b = a + l := by omega
      refine q_loop (n := l) (P := fun o => (o = some 1 ∧ q_isW s w l a b kd) ∨ (o = some 0 ∧ ¬ q_isW s w l a b kd)) (fun m x => m ≤ l ∧ x = nI m ∧ ∀ k, k < m → s (a + k) = w.getD k 0) ?_ l 0 zk_N 0 (by omega) (by unfold zk_N; omega) ⟨by omega, rfl, fun k hk => absurd hk (Nat.not_lt_zero k)⟩
      intro m x hi
      obtain ⟨hm, rfl, hx⟩ := hi
      by_cases hml : m < l
      · obtain ⟨c1, c2⟩ := hc m hml
        have hs := (h.2 (a + m) (by omega)).2.2
        by_cases g : s (a + m) = w.getD m 0
        · left
          refine ⟨hml, nI (m + 1), ⟨by omega, rfl, fun k hk => ?_⟩, fun kk => ?_⟩
          · by_cases e : k = m
            · rw [e]
              exact g
            · exact hx k (by omega)
          · unfold F_X7_isWord_28
            try dsimp only
            rw [hl, Option.bind_some, if_neg (nI_ge hml (by omega)), nI_add, q_tat h (by omega), Option.bind_some, c1, Option.bind_some, if_pos (by rw [g]), nI_1]
        · right
          intro kk
          right
          refine ⟨?_, fun y => g (y.2.2 m hml)⟩
          unfold F_X7_isWord_28
          try dsimp only
          rw [hl, Option.bind_some, if_neg (nI_ge hml (by omega)), nI_add, q_tat h (by omega), Option.bind_some, c1, Option.bind_some, if_neg (fun y => g ((nI_eq (by omega) (by omega)).mp y))]
      · right
        intro kk
        left
        have e : m = l := by omega
        subst e
        refine ⟨?_, k1, k3, hx⟩
        unfold F_X7_isWord_28
        try dsimp only
        rw [hl, Option.bind_some, if_pos (nI_le (Nat.le_refl _) (by omega))]
    · right
      rw [if_neg (fun y => k2 ((nI_eq (by omega) (by omega)).mp y))]
      exact ⟨rfl, fun y => k2 (by have := y.2.1; omega)⟩
  · right
    rw [if_neg (show ¬ nI kd = 1 from fun y => k1 ((nI_eq (b := 1) (by omega) (by omega)).mp y))]
    exact ⟨rfl, fun y => k1 y.1⟩
theorem q_spells (h : q_TX ch tx n s) {a j x y : Nat} (hj : a + j + 1 < n) (hx : x ≤ 255) (hy : y ≤ 255) : f_X10_spells (nI j) (nI x) (nI y) tx (nI a) = some (if s (a + j) = x ∧ s (a + j + 1) = y then 1 else 0) := by
  have hn := h.1
  have h0 := h.2 (a + j) (by omega)
  have h1 := h.2 (a + j + 1) (by omega)
  unfold f_X10_spells
  rw [nI_add, nI_1, q_ck (by omega) (by omega), q_ck (by omega) (by omega), q_cl (by omega), q_cl (by omega), h0.2.1, h1.2.1]
  by_cases c : s (a + j) = x
  · rw [if_pos (by rw [c])]
    by_cases d : s (a + j + 1) = y
    · rw [if_pos (by rw [d]), if_pos ⟨c, d⟩]
    · rw [if_neg (fun z => d ((nI_eq (by omega) (by omega)).mp z)), if_neg (fun z => d z.2)]
  · rw [if_neg (fun z => c ((nI_eq (by omega) (by omega)).mp z)), if_neg (fun z => c z.1)]
theorem q_chr (h : q_TX ch tx n s) {k x : Nat} (hk : k < n) (hx : x ≤ 255) : (tx k = nI x) ↔ s k = x := by
  obtain ⟨-, e, -, hs⟩ := h.2 k hk
  rw [e]
  exact nI_eq (by omega) (by omega)
theorem q_or {o : Option Int32} {P : Prop} (h : (o = some 1 ∧ P) ∨ (o = some 0 ∧ ¬ P)) (hp : P) : o = some 1 := h.elim (fun y => y.1) (fun y => absurd hp y.2)
theorem q_or0 {o : Option Int32} {P : Prop} (h : (o = some 1 ∧ P) ∨ (o = some 0 ∧ ¬ P)) (hp : ¬ P) : o = some 0 := h.elim (fun y => absurd y.2 hp) (fun y => y.1)
set_option maxHeartbeats 2000000 in
theorem q_command (h : q_TX ch tx n s) (hT : q_TK s n a b kd) (hab : a < b) : ∃ cc, cc ≤ 5 ∧ f_X4_commandOfWord (ch, nI n, nI a, nI b, nI kd) = some (nI cc) ∧ f_X10_command tx (nI n) (nI a) (nI b) = some (if cc = 0 then -1 else nI (cc - 1)) := by
  have hn := h.1
  obtain ⟨t1, t2, t3⟩ := id hT
  have hk : kd = q_kc (s a) := by
    rcases t3 with ⟨e1, e2, -⟩ | ⟨-, e, -⟩
    · omega
    · exact e
  have w0 := q_word h hT 0 4 q_w0 q_wl.1.1 q_wc0 (by omega)
  have w1 := q_word h hT 1 5 q_w1 q_wl.1.2 q_wc1 (by omega)
  have w2 := q_word h hT 2 4 q_w2 q_wl.2.1.1 q_wc2 (by omega)
  have w3 := q_word h hT 3 4 q_w3 q_wl.2.1.2 q_wc3 (by omega)
  have w4 := q_word h hT 4 5 q_w4 q_wl.2.2 q_wc4 (by omega)
  have n1 : ¬ (1 : Int32) = 0 := by decide
  unfold f_X4_commandOfWord f_X10_command
  rw [q_let, q_isSm h (by omega), Option.bind_some, pk_sub t1, ← hk]
  try dsimp only
  by_cases k1 : kd = 1
  · rw [if_pos k1, if_neg n1]
    by_cases k4 : b = a + 4
    · have x1 := q_or0 w1 (fun y => by have := y.2.1; omega)
      have x4 := q_or0 w4 (fun y => by have := y.2.1; omega)
      have i0 : q_isW s q_w0 4 a b kd ↔ (s (a + 0) = 103 ∧ s (a + 0 + 1) = 105) ∧ (s (a + 2) = 118 ∧ s (a + 2 + 1) = 101) := by
        refine ⟨fun y => ⟨⟨y.2.2 0 (by omega), y.2.2 1 (by omega)⟩, y.2.2 2 (by omega), y.2.2 3 (by omega)⟩, fun y => ⟨k1, k4, fun k hk => ?_⟩⟩
        rcases (show k = 0 ∨ k = 1 ∨ k = 2 ∨ k = 3 by omega) with rfl | rfl | rfl | rfl
        · exact y.1.1
        · exact y.1.2
        · exact y.2.1
        · exact y.2.2
      have i2 : q_isW s q_w2 4 a b kd ↔ (s (a + 0) = 109 ∧ s (a + 0 + 1) = 111) ∧ (s (a + 2) = 118 ∧ s (a + 2 + 1) = 101) := by
        refine ⟨fun y => ⟨⟨y.2.2 0 (by omega), y.2.2 1 (by omega)⟩, y.2.2 2 (by omega), y.2.2 3 (by omega)⟩, fun y => ⟨k1, k4, fun k hk => ?_⟩⟩
        rcases (show k = 0 ∨ k = 1 ∨ k = 2 ∨ k = 3 by omega) with rfl | rfl | rfl | rfl
        · exact y.1.1
        · exact y.1.2
        · exact y.2.1
        · exact y.2.2
      have i3 : q_isW s q_w3 4 a b kd ↔ (s (a + 0) = 112 ∧ s (a + 0 + 1) = 97) ∧ (s (a + 2) = 115 ∧ s (a + 2 + 1) = 115) := by
        refine ⟨fun y => ⟨⟨y.2.2 0 (by omega), y.2.2 1 (by omega)⟩, y.2.2 2 (by omega), y.2.2 3 (by omega)⟩, fun y => ⟨k1, k4, fun k hk => ?_⟩⟩
        rcases (show k = 0 ∨ k = 1 ∨ k = 2 ∨ k = 3 by omega) with rfl | rfl | rfl | rfl
        · exact y.1.1
        · exact y.1.2
        · exact y.2.1
        · exact y.2.2
      have p1 : f_X10_spells 0 103 105 tx (nI a) = _ := q_spells h (a := a) (j := 0) (x := 103) (y := 105) (by omega) (by omega) (by omega)
      have p2 : f_X10_spells 2 118 101 tx (nI a) = _ := q_spells h (a := a) (j := 2) (x := 118) (y := 101) (by omega) (by omega) (by omega)
      have p3 : f_X10_spells 0 109 111 tx (nI a) = _ := q_spells h (a := a) (j := 0) (x := 109) (y := 111) (by omega) (by omega) (by omega)
      have p4 : f_X10_spells 0 112 97 tx (nI a) = _ := q_spells h (a := a) (j := 0) (x := 112) (y := 97) (by omega) (by omega) (by omega)
      have p5 : f_X10_spells 2 115 115 tx (nI a) = _ := q_spells h (a := a) (j := 2) (x := 115) (y := 115) (by omega) (by omega) (by omega)
      rw [i0] at w0
      rw [i2] at w2
      rw [i3] at w3
      unfold f_X10_command_56 f_X10_command_57 f_X10_command_86 f_X10_command_87 f_X10_command_116 f_X10_command_117
      rw [if_pos (show nI (b - a) = 4 by rw [show b - a = 4 by omega]; rfl), p1, p2, p3, p4, p5, x1, x4]
      simp only [Option.bind_some]
      clear p1 p2 p3 p4 p5 x1 x4 i0 i2 i3 w1 w4
      by_cases G : s (a + 0) = 103 ∧ s (a + 0 + 1) = 105
      · by_cases V : s (a + 2) = 118 ∧ s (a + 2 + 1) = 101
        · refine ⟨1, by omega, ?_, ?_⟩
          · rw [q_or w0 ⟨G, V⟩, Option.bind_some, if_neg n1]
            rfl
          · have M : ¬ (s (a + 0) = 109 ∧ s (a + 0 + 1) = 111) := fun y => by omega
            have Q : ¬ (s (a + 0) = 112 ∧ s (a + 0 + 1) = 97) := fun y => by omega
            simp only [if_pos G, if_pos V, if_neg M, if_neg Q, if_neg n1, ↓reduceIte]
            rfl
        · have M : ¬ (s (a + 0) = 109 ∧ s (a + 0 + 1) = 111) := fun y => by omega
          have Q : ¬ (s (a + 0) = 112 ∧ s (a + 0 + 1) = 97) := fun y => by omega
          refine ⟨0, by omega, ?_, ?_⟩
          · rw [q_or0 w0 (fun y => V y.2), q_or0 w2 (fun y => V y.2), q_or0 w3 (fun y => Q y.1)]
            simp only [Option.bind_some, ↓reduceIte]
            rfl
          · simp only [if_pos G, if_neg V, if_neg M, if_neg Q, if_neg n1, ↓reduceIte]
      · by_cases M : s (a + 0) = 109 ∧ s (a + 0 + 1) = 111
        · have Q : ¬ (s (a + 0) = 112 ∧ s (a + 0 + 1) = 97) := fun y => by omega
          by_cases V : s (a + 2) = 118 ∧ s (a + 2 + 1) = 101
          · refine ⟨3, by omega, ?_, ?_⟩
            · rw [q_or0 w0 (fun y => G y.1), q_or w2 ⟨M, V⟩]
              simp only [Option.bind_some, ↓reduceIte, if_neg n1]
              rfl
            · simp only [if_neg G, if_pos V, if_pos M, if_neg Q, if_neg n1, ↓reduceIte]
              rfl
          · refine ⟨0, by omega, ?_, ?_⟩
            · rw [q_or0 w0 (fun y => G y.1), q_or0 w2 (fun y => V y.2), q_or0 w3 (fun y => Q y.1)]
              simp only [Option.bind_some, ↓reduceIte]
              rfl
            · simp only [if_neg G, if_neg V, if_pos M, if_neg Q, if_neg n1, ↓reduceIte]
        · by_cases Q : (s (a + 0) = 112 ∧ s (a + 0 + 1) = 97) ∧ (s (a + 2) = 115 ∧ s (a + 2 + 1) = 115)
          · refine ⟨4, by omega, ?_, ?_⟩
            · rw [q_or0 w0 (fun y => G y.1), q_or0 w2 (fun y => M y.1), q_or w3 Q]
              simp only [Option.bind_some, ↓reduceIte, if_neg n1]
              rfl
            · simp only [if_neg G, if_neg M, if_pos Q.1, if_pos Q.2, if_neg n1, ↓reduceIte]
              rfl
          · refine ⟨0, by omega, ?_, ?_⟩
            · rw [q_or0 w0 (fun y => G y.1), q_or0 w2 (fun y => M y.1), q_or0 w3 Q]
              simp only [Option.bind_some, ↓reduceIte]
              rfl
            · by_cases Q1 : s (a + 0) = 112 ∧ s (a + 0 + 1) = 97
              · simp only [if_neg G, if_neg M, if_pos Q1, if_neg (fun y => Q ⟨Q1, y⟩), if_neg n1, ↓reduceIte]
              · simp only [if_neg G, if_neg M, if_neg Q1, ↓reduceIte]
    · have x0 := q_or0 w0 (fun y => by have := y.2.1; omega)
      have x2 := q_or0 w2 (fun y => by have := y.2.1; omega)
      have x3 := q_or0 w3 (fun y => by have := y.2.1; omega)
      rw [if_neg (show ¬ nI (b - a) = 4 from fun y => k4 (by have := (nI_eq (b := 4) (by omega) (by omega)).mp y; omega)), x0, x2, x3]
      by_cases k5 : b = a + 5
      · have i1 : q_isW s q_w1 5 a b kd ↔ (s (a + 0) = 98 ∧ s (a + 0 + 1) = 114) ∧ (s (a + 2) = 101 ∧ s (a + 2 + 1) = 97) ∧ s (a + 4) = 107 := by
          refine ⟨fun y => ⟨⟨y.2.2 0 (by omega), y.2.2 1 (by omega)⟩, ⟨y.2.2 2 (by omega), y.2.2 3 (by omega)⟩, y.2.2 4 (by omega)⟩, fun y => ⟨k1, k5, fun k hk => ?_⟩⟩
          rcases (show k = 0 ∨ k = 1 ∨ k = 2 ∨ k = 3 ∨ k = 4 by omega) with rfl | rfl | rfl | rfl | rfl
          · exact y.1.1
          · exact y.1.2
          · exact y.2.1.1
          · exact y.2.1.2
          · exact y.2.2
        have i4 : q_isW s q_w4 5 a b kd ↔ (s (a + 0) = 115 ∧ s (a + 0 + 1) = 119) ∧ (s (a + 2) = 101 ∧ s (a + 2 + 1) = 101) ∧ s (a + 4) = 112 := by
          refine ⟨fun y => ⟨⟨y.2.2 0 (by omega), y.2.2 1 (by omega)⟩, ⟨y.2.2 2 (by omega), y.2.2 3 (by omega)⟩, y.2.2 4 (by omega)⟩, fun y => ⟨k1, k5, fun k hk => ?_⟩⟩
          rcases (show k = 0 ∨ k = 1 ∨ k = 2 ∨ k = 3 ∨ k = 4 by omega) with rfl | rfl | rfl | rfl | rfl
          · exact y.1.1
          · exact y.1.2
          · exact y.2.1.1
          · exact y.2.1.2
          · exact y.2.2
        have p1 : f_X10_spells 0 98 114 tx (nI a) = _ := q_spells h (a := a) (j := 0) (x := 98) (y := 114) (by omega) (by omega) (by omega)
        have p2 : f_X10_spells 2 101 97 tx (nI a) = _ := q_spells h (a := a) (j := 2) (x := 101) (y := 97) (by omega) (by omega) (by omega)
        have p3 : f_X10_spells 0 115 119 tx (nI a) = _ := q_spells h (a := a) (j := 0) (x := 115) (y := 119) (by omega) (by omega) (by omega)
        have p4 : f_X10_spells 2 101 101 tx (nI a) = _ := q_spells h (a := a) (j := 2) (x := 101) (y := 101) (by omega) (by omega) (by omega)
        have c7 : tx (a + 4) = 107 ↔ s (a + 4) = 107 := q_chr h (x := 107) (by omega) (by omega)
        have c2 : tx (a + 4) = 112 ↔ s (a + 4) = 112 := q_chr h (x := 112) (by omega) (by omega)
        rw [i1] at w1
        rw [i4] at w4
        unfold f_X10_command_195 f_X10_command_196 f_X10_command_241 f_X10_command_242
        rw [if_pos (show nI (b - a) = 5 by rw [show b - a = 5 by omega]; rfl), p1, p2, p3, p4, show nI a + 4 = nI (a + 4) from nI_add a 4, q_ck (by omega) (by omega), q_ck (by omega) (by omega), q_cl (by omega)]
        simp only [Option.bind_some, c7, c2, ↓reduceIte]
        clear p1 p2 p3 p4 x0 x2 x3 i1 i4 w0 w2 w3
        by_cases K1 : (s (a + 0) = 98 ∧ s (a + 0 + 1) = 114) ∧ (s (a + 2) = 101 ∧ s (a + 2 + 1) = 97) ∧ s (a + 4) = 107
        · have S1 : ¬ (s (a + 0) = 115 ∧ s (a + 0 + 1) = 119) := fun y => by omega
          refine ⟨2, by omega, ?_, ?_⟩
          · rw [q_or w1 K1, Option.bind_some, if_neg n1]
            rfl
          · simp only [if_pos K1.1, if_pos K1.2.1, if_pos K1.2.2, if_neg S1, if_neg n1, ↓reduceIte]
            rfl
        · by_cases S : (s (a + 0) = 115 ∧ s (a + 0 + 1) = 119) ∧ (s (a + 2) = 101 ∧ s (a + 2 + 1) = 101) ∧ s (a + 4) = 112
          · have K : ¬ (s (a + 0) = 98 ∧ s (a + 0 + 1) = 114) := fun y => by omega
            refine ⟨5, by omega, ?_, ?_⟩
            · rw [q_or0 w1 K1, Option.bind_some, if_pos rfl, q_or w4 S, Option.bind_some, if_neg n1]
              rfl
            · simp only [if_neg K, if_pos S.1, if_pos S.2.1, if_pos S.2.2, if_neg n1, ↓reduceIte]
              rfl
          · refine ⟨0, by omega, ?_, ?_⟩
            · rw [q_or0 w1 K1, Option.bind_some, if_pos rfl, q_or0 w4 S, Option.bind_some, if_pos rfl]
              rfl
            · rw [if_pos rfl]
              by_cases A1 : s (a + 0) = 98 ∧ s (a + 0 + 1) = 114
              · have S1 : ¬ (s (a + 0) = 115 ∧ s (a + 0 + 1) = 119) := fun y => by omega
                by_cases A2 : s (a + 2) = 101 ∧ s (a + 2 + 1) = 97
                · have A3 : ¬ s (a + 4) = 107 := fun y => K1 ⟨A1, A2, y⟩
                  simp only [if_pos A1, if_pos A2, if_neg A3, if_neg S1, if_neg n1, ↓reduceIte]
                · simp only [if_pos A1, if_neg A2, if_neg S1, if_neg n1, ↓reduceIte]
              · by_cases B1 : s (a + 0) = 115 ∧ s (a + 0 + 1) = 119
                · by_cases B2 : s (a + 2) = 101 ∧ s (a + 2 + 1) = 101
                  · have B3 : ¬ s (a + 4) = 112 := fun y => S ⟨B1, B2, y⟩
                    simp only [if_neg A1, if_pos B1, if_pos B2, if_neg B3, if_neg n1, ↓reduceIte]
                  · simp only [if_neg A1, if_pos B1, if_neg B2, if_neg n1, ↓reduceIte]
                · simp only [if_neg A1, if_neg B1, ↓reduceIte]
      · refine ⟨0, by omega, ?_, ?_⟩
        · rw [q_or0 w1 (fun y => by have := y.2.1; omega), q_or0 w4 (fun y => by have := y.2.1; omega)]
          simp only [Option.bind_some, ↓reduceIte]
          rfl
        · rw [if_neg (show ¬ nI (b - a) = 5 from fun y => k5 (by have := (nI_eq (b := 5) (by omega) (by omega)).mp y; omega)), if_pos rfl]
  · refine ⟨0, by omega, ?_, ?_⟩
    · rw [q_or0 w0 (fun y => k1 y.1), q_or0 w1 (fun y => k1 y.1), q_or0 w2 (fun y => k1 y.1), q_or0 w3 (fun y => k1 y.1), q_or0 w4 (fun y => k1 y.1)]
      simp only [Option.bind_some, ↓reduceIte]
      rfl
    · rw [if_neg k1, if_pos rfl, if_pos rfl]
theorem q_isNum (h : q_TX ch tx n s) (hT : q_TK s n a b kd) : ∃ r, f_X7_isNumber ch (nI n) (nI a) (nI b) (nI kd) = some r ∧ f_X10_isNumber tx (nI n) (nI a) (nI b) = some r ∧ (r = 0 ∨ (r = 1 ∧ a < b ∧ b ≤ a + 4 ∧ ∀ k, a ≤ k → k < b → 48 ≤ s k ∧ s k ≤ 57)) := by
  have hn := h.1
  obtain ⟨t1, t2, t3⟩ := hT
  unfold f_X7_isNumber f_X10_isNumber
  rw [q_let, q_let, pk_sub t1]
  rcases t3 with ⟨e1, e2, e3⟩ | ⟨e1, e2, e3, -⟩
  · refine ⟨0, ?_, ?_, Or.inl rfl⟩
    · rw [e3, if_neg (show ¬ nI 0 = 2 by decide)]
    · rw [q_isDg0 (by omega) (by omega), Option.bind_some, if_pos rfl]
  · have hb := q_kc_b (s a)
    rw [q_isDg h (by omega), Option.bind_some]
    by_cases k2 : kd = 2
    · rw [if_pos (show nI kd = 2 by rw [k2]; rfl), if_pos (show q_kc (s a) = 2 by omega), if_neg (show ¬ (1 : Int32) = 0 by decide)]
      by_cases c4 : 4 < b - a
      · have c4' : (4 : Int32) < nI (b - a) := nI_lt (a := 4) c4 (by omega)
        exact ⟨0, by rw [if_pos c4'], by rw [if_pos c4'], Or.inl rfl⟩
      · have c4' : ¬ (4 : Int32) < nI (b - a) := nI_nlt (a := 4) (by omega) (by omega)
        rw [if_neg c4', if_neg c4']
        have dg : ∀ k, a ≤ k → k < b → 48 ≤ s k ∧ s k ≤ 57 := fun k w1 w2 => q_kc2.mp ((e3 k w1 w2).trans k2)
        by_cases c1 : nI (b - a) = 1
        · exact ⟨1, by rw [if_pos c1], by rw [if_pos c1], Or.inr ⟨rfl, e1, by omega, dg⟩⟩
        · rw [if_neg c1, if_neg c1, q_tat h (by omega), Option.bind_some, q_ck (by omega) (by omega), q_cl (by omega), (h.2 a (by omega)).2.1]
          by_cases c8 : nI (s a) = 48
          · exact ⟨0, by rw [if_pos c8], by rw [if_pos c8], Or.inl rfl⟩
          · exact ⟨1, by rw [if_neg c8], by rw [if_neg c8], Or.inr ⟨rfl, e1, by omega, dg⟩⟩
    · refine ⟨0, ?_, ?_, Or.inl rfl⟩
      · rw [if_neg (show ¬ nI kd = 2 from fun y => k2 ((nI_eq (b := 2) (by omega) (by omega)).mp y))]
      · rw [if_neg (show ¬ q_kc (s a) = 2 by omega), if_pos rfl]
def q_nv (s : Nat → Nat) (a : Nat) : Nat → Nat
  | 0 => 0
  | m + 1 => q_nv s a m * 10 + (s (a + m) - 48)

theorem q_numC (h : q_TX ch tx n s) (hab : a ≤ b) (hb : b ≤ n) (h4 : b ≤ a + 4) (hd : ∀ k, a ≤ k → k < b → 48 ≤ s k ∧ s k ≤ 57) : f_X7_numberValue ch (nI n) (nI a) (nI b) = some (nI (q_nv s a (b - a))) := by
  have hn := h.1
  unfold f_X7_numberValue
  have l := q_scan (n := b - a) (F := F_X7_numberValue_4 ch (nI n) (nI a) (nI b)) (fun m => (nI (q_nv s a m), nI m)) (some (nI (q_nv s a (b - a)))) (fun k m hm => by
    unfold F_X7_numberValue_4
    try dsimp only
    have hs := hd (a + m) (by omega) (by omega)
    rw [if_neg (show ¬ (4 : Int32) ≤ nI m from nI_ge (b := 4) (by omega) (by omega)), nI_add, if_neg (nI_ge (by omega) (by omega)), q_tat h (by omega), Option.bind_some, q_let, show nI (s (a + m)) - 48 = nI (s (a + m) - 48) from pk_sub (b := 48) hs.1, show nI (q_nv s a m) * 10 = nI (q_nv s a m * 10) from pk_mul _ 10, nI_add, nI_1]
    rfl) (fun k => by
    unfold F_X7_numberValue_4
    try dsimp only
    rw [nI_add, show a + (b - a) = b by omega, if_pos (nI_le (Nat.le_refl b) (show b < 2 ^ 31 by omega))]
    exact ite_self _) (b - a) 0 zk_N (by omega) (by unfold zk_N; omega)
  exact l
theorem q_numM (h : q_TX ch tx n s) (hab : a ≤ b) (hb : b ≤ n) (hd : ∀ k, a ≤ k → k < b → 48 ≤ s k ∧ s k ≤ 57) : f_X10_number tx (nI a) (nI b) = some (nI (q_nv s a (b - a))) := by
  have hn := h.1
  unfold f_X10_number
  have l := q_scan (n := b - a) (F := F_X10_number_7 tx (nI b)) (fun m => (nI (q_nv s a m), nI (a + m))) (some (nI (q_nv s a (b - a)))) (fun k m hm => by
    unfold F_X10_number_7
    try dsimp only
    have hs := hd (a + m) (by omega) (by omega)
    rw [if_neg (nI_ge (show a + m < b by omega) (by omega)), q_ck (by omega) (by omega), q_cl (by omega), (h.2 (a + m) (by omega)).2.1, q_let, show 10 * nI (q_nv s a m) = nI (10 * q_nv s a m) from pk_mul 10 _, nI_add, show nI (10 * q_nv s a m + s (a + m)) - 48 = nI (10 * q_nv s a m + s (a + m) - 48) from pk_sub (b := 48) (by omega), nI_1, show 10 * q_nv s a m + s (a + m) - 48 = q_nv s a m * 10 + (s (a + m) - 48) by omega]
    rfl) (fun k => by
    unfold F_X10_number_7
    try dsimp only
    rw [show a + (b - a) = b by omega, if_pos (nI_le (Nat.le_refl b) (show b < 2 ^ 31 by omega))]) (b - a) 0 zk_N (by omega) (by unfold zk_N; omega)
  exact l
theorem q_semi (h : q_TX ch tx n s) (hT : q_TK s n a b kd) : (f_X7_isSemicolon ch (nI n) (nI a) (nI kd) = some 1 ∧ a < b ∧ tx a = 59) ∨ (f_X7_isSemicolon ch (nI n) (nI a) (nI kd) = some 0 ∧ (b ≤ a ∨ (a < b ∧ ¬ tx a = 59))) := by
  have hn := h.1
  obtain ⟨t1, t2, t3⟩ := hT
  unfold f_X7_isSemicolon
  rcases t3 with ⟨e1, e2, e3⟩ | ⟨e1, e2, e3, -⟩
  · right
    rw [e3, if_neg (show ¬ nI 0 = 3 by decide)]
    exact ⟨rfl, Or.inl (by omega)⟩
  · have hb := q_kc_b (s a)
    have c9 : tx a = 59 ↔ s a = 59 := q_chr h (x := 59) (by omega) (by omega)
    have hs := (h.2 a (by omega)).2.2
    by_cases g : s a = 59
    · left
      have k3 : kd = 3 := by rw [e2, g]; rfl
      rw [k3, if_pos (show nI 3 = 3 from rfl), q_tat h (by omega), Option.bind_some, g, if_pos (show nI 59 = 59 from rfl)]
      exact ⟨rfl, e1, c9.mpr g⟩
    · right
      refine ⟨?_, Or.inr ⟨e1, fun y => g (c9.mp y)⟩⟩
      by_cases k3 : kd = 3
      · rw [k3, if_pos (show nI 3 = 3 from rfl), q_tat h (by omega), Option.bind_some, if_neg (show ¬ nI (s a) = 59 from fun y => g ((nI_eq (b := 59) (by omega) (by omega)).mp y))]
      · rw [if_neg (show ¬ nI kd = 3 from fun y => k3 ((nI_eq (b := 3) (by omega) (by omega)).mp y))]
end QTW
