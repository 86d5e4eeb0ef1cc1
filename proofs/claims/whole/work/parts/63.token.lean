/-! PURE PART: the text's tokens -/
/-- the text of both -/
def q_TX (ch tx : Nat → Int32) (n : Nat) (s : Nat → Nat) : Prop := n ≤ 120 ∧ ∀ k, k < n → ch k = nI (s k) ∧ tx k = nI (s k) ∧ 1 ≤ s k ∧ s k ≤ 255
/-- the kind of a character: 1 a letter, 2 a digit, 3 another -/
def q_kc (c : Nat) : Nat := if 97 ≤ c ∧ c ≤ 122 then 1 else if 48 ≤ c ∧ c ≤ 57 then 2 else 3
theorem q_kc_b (c : Nat) : 1 ≤ q_kc c ∧ q_kc c ≤ 3 := by
  unfold q_kc
  split
  · omega
  · split <;> omega
theorem q_kc1 {c : Nat} : q_kc c = 1 ↔ 97 ≤ c ∧ c ≤ 122 := by
  unfold q_kc
  split
  · exact ⟨fun _ => by assumption, fun _ => rfl⟩
  · split
    · exact ⟨fun y => by omega, fun y => by contradiction⟩
    · exact ⟨fun y => by omega, fun y => by contradiction⟩
theorem q_kc2 {c : Nat} : q_kc c = 2 ↔ 48 ≤ c ∧ c ≤ 57 := by
  unfold q_kc
  split
  · exact ⟨fun y => by omega, fun y => by omega⟩
  · split
    · exact ⟨fun _ => by assumption, fun _ => rfl⟩
    · exact ⟨fun y => by omega, fun y => by contradiction⟩
theorem q_first (P : Nat → Prop) : ∀ (d e : Nat), ∃ a, e ≤ a ∧ a ≤ e + d ∧ (∀ k, e ≤ k → k < a → P k) ∧ (a = e + d ∨ ¬ P a)
  | 0, e => ⟨e, Nat.le_refl _, Nat.le_refl _, fun k h1 h2 => by omega, Or.inl rfl⟩
  | d + 1, e => by
    by_cases h : P e
    · obtain ⟨a, h1, h2, h3, h4⟩ := q_first P d (e + 1)
      refine ⟨a, by omega, by omega, fun k k1 k2 => ?_, ?_⟩
      · by_cases g : k = e
        · rw [g]
          exact h
        · exact h3 k (by omega) k2
      · rcases h4 with g | g
        · exact Or.inl (by omega)
        · exact Or.inr g
    · exact ⟨e, by omega, by omega, fun k h1 h2 => by omega, Or.inr h⟩
theorem q_tat0 {ch : Nat → Int32} {n k : Nat} (hn : n ≤ k) (hk : k < 2 ^ 31) : f_X7_at (nI k) ch (nI n) = some 0 := by
  unfold f_X7_at
  rw [if_neg (nI_pos hk), if_pos (nI_le hn hk)]
theorem q_kind0 : f_X7_kindOf 0 = some 0 := by
  unfold f_X7_kindOf
  rw [if_pos rfl]
theorem q_kind {c : Nat} (h1 : 1 ≤ c) (h2 : c ≤ 255) : f_X7_kindOf (nI c) = some (nI (q_kc c)) := by
  unfold f_X7_kindOf f_X7_kindOf_20 q_kc
  rw [if_neg (nI_ne0 h1 (by omega))]
  by_cases a : c < 97
  · rw [if_pos (show nI c < 97 from nI_lt (b := 97) a (by omega)), if_neg (show ¬ (97 ≤ c ∧ c ≤ 122) by omega)]
    by_cases b : c < 48
    · rw [if_pos (show nI c < 48 from nI_lt (b := 48) b (by omega)), if_neg (show ¬ (48 ≤ c ∧ c ≤ 57) by omega)]
      rfl
    · rw [if_neg (show ¬ nI c < 48 from nI_nlt (b := 48) (by omega) (by omega))]
      by_cases d : 57 < c
      · rw [if_pos (show 57 < nI c from nI_lt (a := 57) d (by omega)), if_neg (show ¬ (48 ≤ c ∧ c ≤ 57) by omega)]
        rfl
      · rw [if_neg (show ¬ 57 < nI c from nI_nlt (a := 57) (by omega) (by omega)), if_pos (show 48 ≤ c ∧ c ≤ 57 by omega)]
        rfl
  · rw [if_neg (show ¬ nI c < 97 from nI_nlt (b := 97) (by omega) (by omega))]
    by_cases d : 122 < c
    · rw [if_pos (show 122 < nI c from nI_lt (a := 122) d (by omega)), if_neg (show ¬ nI c < 48 from nI_nlt (b := 48) (by omega) (by omega)), if_pos (show 57 < nI c from nI_lt (a := 57) (by omega) (by omega)), if_neg (show ¬ (97 ≤ c ∧ c ≤ 122) by omega), if_neg (show ¬ (48 ≤ c ∧ c ≤ 57) by omega)]
      rfl
    · rw [if_neg (show ¬ 122 < nI c from nI_nlt (a := 122) (by omega) (by omega)), if_pos (show 97 ≤ c ∧ c ≤ 122 by omega)]
      rfl
section QTK
variable {ch tx : Nat → Int32} {n : Nat} {s : Nat → Nat}
theorem q_tat (h : q_TX ch tx n s) {k : Nat} (hk : k < n) : f_X7_at (nI k) ch (nI n) = some (nI (s k)) := by
  have hn := h.1
  unfold f_X7_at
  rw [if_neg (nI_pos (by omega)), if_neg (nI_ge hk (by omega)), if_pos (show nI k < 120 from nI_lt (b := 120) (by omega) (by omega)), q_ck (by omega) (by omega), q_cl (by omega), (h.2 k hk).1]
theorem q_isSm (h : q_TX ch tx n s) {k : Nat} (hk : k < n) : f_X10_isSmall (nI k) tx (nI n) = some (if q_kc (s k) = 1 then 1 else 0) := by
  have hn := h.1
  obtain ⟨-, e, h1, h2⟩ := h.2 k hk
  unfold f_X10_isSmall
  rw [if_neg (nI_ge hk (by omega)), q_ck (by omega) (by omega), q_ck (by omega) (by omega), q_cl (by omega), e]
  by_cases a : s k < 97
  · rw [if_pos (show nI (s k) < 97 from nI_lt (b := 97) a (by omega)), if_neg (fun y => by have := q_kc1.mp y; omega)]
  · rw [if_neg (show ¬ nI (s k) < 97 from nI_nlt (b := 97) (by omega) (by omega))]
    by_cases d : 122 < s k
    · rw [if_pos (show 122 < nI (s k) from nI_lt (a := 122) d (by omega)), if_neg (fun y => by have := q_kc1.mp y; omega)]
    · rw [if_neg (show ¬ 122 < nI (s k) from nI_nlt (a := 122) (by omega) (by omega)), if_pos (q_kc1.mpr (by omega))]
theorem q_isSm0 {k : Nat} (hn : n ≤ k) (hk : k < 2 ^ 31) : f_X10_isSmall (nI k) tx (nI n) = some 0 := by
  unfold f_X10_isSmall
  rw [if_pos (nI_le hn hk)]
theorem q_isDg (h : q_TX ch tx n s) {k : Nat} (hk : k < n) : f_X10_isDigit (nI k) tx (nI n) = some (if q_kc (s k) = 2 then 1 else 0) := by
  have hn := h.1
  obtain ⟨-, e, h1, h2⟩ := h.2 k hk
  unfold f_X10_isDigit
  rw [if_neg (nI_ge hk (by omega)), q_ck (by omega) (by omega), q_ck (by omega) (by omega), q_cl (by omega), e]
  by_cases a : s k < 48
  · rw [if_pos (show nI (s k) < 48 from nI_lt (b := 48) a (by omega)), if_neg (fun y => by have := q_kc2.mp y; omega)]
  · rw [if_neg (show ¬ nI (s k) < 48 from nI_nlt (b := 48) (by omega) (by omega))]
    by_cases d : 57 < s k
    · rw [if_pos (show 57 < nI (s k) from nI_lt (a := 57) d (by omega)), if_neg (fun y => by have := q_kc2.mp y; omega)]
    · rw [if_neg (show ¬ 57 < nI (s k) from nI_nlt (a := 57) (by omega) (by omega)), if_pos (q_kc2.mpr (by omega))]
theorem q_isDg0 {k : Nat} (hn : n ≤ k) (hk : k < 2 ^ 31) : f_X10_isDigit (nI k) tx (nI n) = some 0 := by
  unfold f_X10_isDigit
  rw [if_pos (nI_le hn hk)]
/-- a token from a to b of kind kd; at the end of the text it is empty -/
def q_TK (s : Nat → Nat) (n a b kd : Nat) : Prop := a ≤ b ∧ b ≤ n ∧ ((a = n ∧ b = n ∧ kd = 0) ∨ (a < b ∧ kd = q_kc (s a) ∧ (∀ k, a ≤ k → k < b → q_kc (s k) = kd) ∧ (kd = 3 → b = a + 1)))
theorem q_skip1 (h : q_TX ch tx n s) {e a : Nat} (he : e ≤ n) (h1 : e ≤ a) (h2 : a ≤ n) (h3 : ∀ k, e ≤ k → k < a → s k = 32) (h4 : a = n ∨ ¬ s a = 32) (k0 : Int32) : f_X7_readToken ch (nI n) (nI e) k0 = f_X7_readToken_45 ch (nI n) (nI a) (nI e) k0 := by
  have hn := h.1
  unfold f_X7_readToken
  have l := q_scan (n := a - e) (F := F_X7_readToken_10 ch (nI n) (nI e) k0) (fun m => (nI m, nI (e + m))) (f_X7_readToken_45 ch (nI n) (nI a) (nI e) k0) (fun k m hm => by
    unfold F_X7_readToken_10
    dsimp only
    rw [if_neg (show ¬ (120 : Int32) ≤ nI m from nI_ge (b := 120) (by omega) (by omega)), q_tat h (k := e + m) (by omega), Option.bind_some, h3 (e + m) (by omega) (by omega), if_pos (show nI 32 = 32 from rfl), q_let, nI_1, nI_1]
    rfl) (fun k => by
    unfold F_X7_readToken_10
    dsimp only
    rw [show e + (a - e) = a by omega]
    by_cases c : (120 : Int32) ≤ nI (a - e)
    · rw [if_pos c]
    · rw [if_neg c]
      by_cases g : a < n
      · have hs := (h.2 a g).2.2
        rw [q_tat h g, Option.bind_some, if_neg (show ¬ nI (s a) = 32 from fun y => (h4.resolve_left (by omega)) ((nI_eq (b := 32) (by omega) (by omega)).mp y))]
      · rw [q_tat0 (by omega) (by omega), Option.bind_some, if_neg (by decide)]) (a - e) 0 zk_N (by omega) (by unfold zk_N; omega)
  exact l
theorem q_skip2 (h : q_TX ch tx n s) {e a : Nat} (he : e ≤ n) (h1 : e ≤ a) (h2 : a ≤ n) (h3 : ∀ k, e ≤ k → k < a → s k = 32) (h4 : a = n ∨ ¬ s a = 32) : f_X10_readToken tx (nI n) (nI e) = f_X10_readToken_46 tx (nI n) (nI a) (nI e) := by
  have hn := h.1
  unfold f_X10_readToken
  have l := q_scan (n := a - e) (F := F_X10_readToken_8 tx (nI n) (nI e)) (fun m => nI (e + m)) (f_X10_readToken_46 tx (nI n) (nI a) (nI e)) (fun k m hm => by
    unfold F_X10_readToken_8
    try dsimp only
    rw [if_neg (nI_ge (show e + m < n by omega) (by omega)), q_ck (by omega) (by omega), q_cl (by omega), (h.2 (e + m) (by omega)).2.1, h3 (e + m) (by omega) (by omega), if_pos (show nI 32 = 32 from rfl), q_let, nI_1]
    rfl) (fun k => by
    unfold F_X10_readToken_8
    try dsimp only
    rw [show e + (a - e) = a by omega]
    by_cases g : a < n
    · have hs := (h.2 a g).2
      rw [if_neg (nI_ge g (by omega)), q_ck (by omega) (by omega), q_cl (by omega), hs.1, if_neg (show ¬ nI (s a) = 32 from fun y => (h4.resolve_left (by omega)) ((nI_eq (b := 32) (by omega) (by omega)).mp y))]
    · rw [if_pos (nI_le (by omega) (by omega))]) (a - e) 0 zk_N (by omega) (by unfold zk_N; omega)
  exact l
theorem q_run1 (h : q_TX ch tx n s) {a b kd : Nat} (hk1 : 1 ≤ kd) (hk3 : kd ≤ 3) (h1 : a + 1 ≤ b) (h2 : b ≤ n) (h3 : ∀ k, a + 1 ≤ k → k < b → q_kc (s k) = kd) (h4 : b = n ∨ ¬ q_kc (s b) = kd) : zk_fx (F_X7_readToken_97 ch (nI n) (nI a) (nI kd)) zk_N (0, nI (a + 1)) = some (nI a, nI b, nI kd) := by
  have hn := h.1
  have l := q_scan (n := b - (a + 1)) (F := F_X7_readToken_97 ch (nI n) (nI a) (nI kd)) (fun m => (nI m, nI (a + 1 + m))) (some (nI a, nI b, nI kd)) (fun k m hm => by
    unfold F_X7_readToken_97
    dsimp only
    have hs := (h.2 (a + 1 + m) (by omega)).2.2
    rw [if_neg (show ¬ (120 : Int32) ≤ nI m from nI_ge (b := 120) (by omega) (by omega)), q_tat h (k := a + 1 + m) (by omega), Option.bind_some, q_kind hs.1 hs.2, Option.bind_some, h3 (a + 1 + m) (by omega) (by omega), if_pos rfl, q_let, nI_1, nI_1]
    rfl) (fun k => by
    unfold F_X7_readToken_97
    dsimp only
    rw [show a + 1 + (b - (a + 1)) = b by omega, if_neg (show ¬ (120 : Int32) ≤ nI (b - (a + 1)) from nI_ge (b := 120) (by omega) (by omega))]
    by_cases g : b < n
    · have hs := (h.2 b g).2.2
      have hb := q_kc_b (s b)
      rw [q_tat h g, Option.bind_some, q_kind hs.1 hs.2, Option.bind_some, if_neg (fun y => (h4.resolve_left (by omega)) ((nI_eq (by omega) (by omega)).mp y))]
    · rw [q_tat0 (by omega) (by omega), Option.bind_some, q_kind0, Option.bind_some, if_neg (fun y => nI_ne0 (n := kd) (by omega) (by omega) y.symm)]) (b - (a + 1)) 0 zk_N (by omega) (by unfold zk_N; omega)
  exact l
theorem q_runS (h : q_TX ch tx n s) {a b : Nat} (h1 : a ≤ b) (h2 : b ≤ n) (h3 : ∀ k, a ≤ k → k < b → q_kc (s k) = 1) (h4 : b = n ∨ ¬ q_kc (s b) = 1) : zk_fx (F_X10_readToken_65 tx (nI n) (nI a)) zk_N (nI a) = some (nI a, nI b) := by
  have hn := h.1
  have l := q_scan (n := b - a) (F := F_X10_readToken_65 tx (nI n) (nI a)) (fun m => nI (a + m)) (some (nI a, nI b)) (fun k m hm => by
    unfold F_X10_readToken_65
    try dsimp only
    rw [q_isSm h (k := a + m) (by omega), Option.bind_some, if_pos (h3 (a + m) (by omega) (by omega)), if_neg (by decide), q_let, nI_1]
    rfl) (fun k => by
    unfold F_X10_readToken_65
    try dsimp only
    rw [show a + (b - a) = b by omega]
    by_cases g : b < n
    · rw [q_isSm h g, Option.bind_some, if_neg (h4.resolve_left (by omega)), if_pos rfl]
    · rw [q_isSm0 (by omega) (by omega), Option.bind_some, if_pos rfl]) (b - a) 0 zk_N (by omega) (by unfold zk_N; omega)
  exact l
theorem q_runD (h : q_TX ch tx n s) {a b : Nat} (h1 : a ≤ b) (h2 : b ≤ n) (h3 : ∀ k, a ≤ k → k < b → q_kc (s k) = 2) (h4 : b = n ∨ ¬ q_kc (s b) = 2) : zk_fx (F_X10_readToken_100 tx (nI n) (nI a)) zk_N (nI a) = some (nI a, nI b) := by
  have hn := h.1
  have l := q_scan (n := b - a) (F := F_X10_readToken_100 tx (nI n) (nI a)) (fun m => nI (a + m)) (some (nI a, nI b)) (fun k m hm => by
    unfold F_X10_readToken_100
    try dsimp only
    rw [q_isDg h (k := a + m) (by omega), Option.bind_some, if_pos (h3 (a + m) (by omega) (by omega)), if_neg (by decide), q_let, nI_1]
    rfl) (fun k => by
    unfold F_X10_readToken_100
    try dsimp only
    rw [show a + (b - a) = b by omega]
    by_cases g : b < n
    · rw [q_isDg h g, Option.bind_some, if_neg (h4.resolve_left (by omega)), if_pos rfl]
    · rw [q_isDg0 (by omega) (by omega), Option.bind_some, if_pos rfl]) (b - a) 0 zk_N (by omega) (by unfold zk_N; omega)
  exact l
theorem q_token (h : q_TX ch tx n s) {e : Nat} (he : e ≤ n) (k0 : Int32) : ∃ a b kd, e ≤ a ∧ q_TK s n a b kd ∧ f_X7_readToken ch (nI n) (nI e) k0 = some (nI a, nI b, nI kd) ∧ f_X10_readToken tx (nI n) (nI e) = some (nI a, nI b) := by
  have hn := h.1
  obtain ⟨a, h1, h2, h3, h4⟩ := q_first (fun k => s k = 32) (n - e) e
  rw [show e + (n - e) = n by omega] at h2 h4
  rw [q_skip1 h he h1 h2 h3 h4 k0, q_skip2 h he h1 h2 h3 h4]
  unfold f_X7_readToken_45 f_X10_readToken_46 f_X10_readToken_145
  by_cases g : a < n
  · obtain ⟨-, -, s1, s2⟩ := h.2 a g
    have hb := q_kc_b (s a)
    rw [q_tat h g, Option.bind_some, q_kind s1 s2, Option.bind_some, if_neg (nI_ne0 (n := q_kc (s a)) (by omega) (by omega)), q_let, nI_1, q_isSm h g, Option.bind_some, q_isDg h g, Option.bind_some]
    by_cases k3 : q_kc (s a) = 3
    · refine ⟨a, a + 1, 3, h1, ⟨by omega, by omega, Or.inr ⟨by omega, k3.symm, fun k w1 w2 => ?_, fun _ => rfl⟩⟩, ?_, ?_⟩
      · rw [show k = a by omega]
        exact k3
      · rw [k3, if_pos (show nI 3 = 3 from rfl)]
      · rw [if_neg (show ¬ q_kc (s a) = 1 by omega), if_pos rfl, if_neg (show ¬ q_kc (s a) = 2 by omega), if_pos rfl, if_neg (nI_ge g (by omega)), q_let]
    · obtain ⟨b, b1, b2, b3, b4⟩ := q_first (fun k => q_kc (s k) = q_kc (s a)) (n - (a + 1)) (a + 1)
      rw [show a + 1 + (n - (a + 1)) = n by omega] at b2 b4
      have b5 : ∀ k, a ≤ k → k < b → q_kc (s k) = q_kc (s a) := fun k w1 w2 => by
        by_cases e : k = a
        · rw [e]
        · exact b3 k (by omega) w2
      refine ⟨a, b, q_kc (s a), h1, ⟨by omega, b2, Or.inr ⟨by omega, rfl, b5, fun y => absurd y k3⟩⟩, ?_, ?_⟩
      · rw [if_neg (show ¬ nI (q_kc (s a)) = 3 from fun y => k3 ((nI_eq (b := 3) (by omega) (by omega)).mp y))]
        exact q_run1 h hb.1 hb.2 b1 b2 b3 b4
      · by_cases k1 : q_kc (s a) = 1
        · rw [if_pos k1, if_neg (by decide)]
          rw [k1] at b5 b4
          exact q_runS h (by omega) b2 b5 b4
        · have k2 : q_kc (s a) = 2 := by omega
          rw [if_neg k1, if_pos rfl, if_pos k2, if_neg (by decide)]
          rw [k2] at b5 b4
          exact q_runD h (by omega) b2 b5 b4
  · have e : a = n := by omega
    subst e
    refine ⟨a, a, 0, h1, ⟨Nat.le_refl _, Nat.le_refl _, Or.inl ⟨rfl, rfl, rfl⟩⟩, ?_, ?_⟩
    · rw [q_tat0 (Nat.le_refl _) (by omega), Option.bind_some, q_kind0, Option.bind_some, if_pos rfl]
      rfl
    · rw [q_isSm0 (Nat.le_refl _) (by omega), Option.bind_some, if_pos rfl, q_isDg0 (Nat.le_refl _) (by omega), Option.bind_some, if_pos rfl, if_pos (nI_le (Nat.le_refl _) (by omega)), q_let, q_p0]
end QTK
