/-! PURE PART: words for the model's row -/
theorem q_k {α : Type} {i : Int32} {N : Nat} {k : Option α} (h : ¬ (i < 0 ∨ N ≤ i.toNatClampNeg)) : zk_ck i N k = k := if_neg h
theorem q_a12 (p : Nat) : (12 : Int32) + nI p = nI (12 + p) := nI_add 12 p
theorem q_a52 (p : Nat) : (52 : Int32) + nI p = nI (52 + p) := nI_add 52 p
theorem q_a92 (p : Nat) : (92 : Int32) + nI p = nI (92 + p) := nI_add 92 p
theorem q_a132 (p : Nat) : (132 : Int32) + nI p = nI (132 + p) := nI_add 132 p
theorem q_a172 (p : Nat) : (172 : Int32) + nI p = nI (172 + p) := nI_add 172 p
theorem q_a212 (p : Nat) : (212 : Int32) + nI p = nI (212 + p) := nI_add 212 p
theorem q_a252 (p : Nat) : (252 : Int32) + nI p = nI (252 + p) := nI_add 252 p
theorem q_a292 (p : Nat) : (292 : Int32) + nI p = nI (292 + p) := nI_add 292 p
theorem q_a332 (p : Nat) : (332 : Int32) + nI p = nI (332 + p) := nI_add 332 p
theorem q_a344 (p : Nat) : (344 : Int32) + nI p = nI (344 + p) := nI_add 344 p
theorem q_a356 (p : Nat) : (356 : Int32) + nI p = nI (356 + p) := nI_add 356 p
theorem q_n0 : (0 : Int32).toNatClampNeg = 0 := by decide
theorem q_k0 {α : Type} {k : Option α} : zk_ck 0 368 k = k := q_k (by decide)
theorem q_n1 : (1 : Int32).toNatClampNeg = 1 := by decide
theorem q_k1 {α : Type} {k : Option α} : zk_ck 1 368 k = k := q_k (by decide)
theorem q_n2 : (2 : Int32).toNatClampNeg = 2 := by decide
theorem q_k2 {α : Type} {k : Option α} : zk_ck 2 368 k = k := q_k (by decide)
theorem q_n3 : (3 : Int32).toNatClampNeg = 3 := by decide
theorem q_k3 {α : Type} {k : Option α} : zk_ck 3 368 k = k := q_k (by decide)
theorem q_n4 : (4 : Int32).toNatClampNeg = 4 := by decide
theorem q_k4 {α : Type} {k : Option α} : zk_ck 4 368 k = k := q_k (by decide)
theorem q_n5 : (5 : Int32).toNatClampNeg = 5 := by decide
theorem q_k5 {α : Type} {k : Option α} : zk_ck 5 368 k = k := q_k (by decide)
theorem q_n6 : (6 : Int32).toNatClampNeg = 6 := by decide
theorem q_k6 {α : Type} {k : Option α} : zk_ck 6 368 k = k := q_k (by decide)
theorem q_n7 : (7 : Int32).toNatClampNeg = 7 := by decide
theorem q_k7 {α : Type} {k : Option α} : zk_ck 7 368 k = k := q_k (by decide)
theorem q_n8 : (8 : Int32).toNatClampNeg = 8 := by decide
theorem q_k8 {α : Type} {k : Option α} : zk_ck 8 368 k = k := q_k (by decide)
theorem q_n9 : (9 : Int32).toNatClampNeg = 9 := by decide
theorem q_k9 {α : Type} {k : Option α} : zk_ck 9 368 k = k := q_k (by decide)
theorem q_n10 : (10 : Int32).toNatClampNeg = 10 := by decide
theorem q_k10 {α : Type} {k : Option α} : zk_ck 10 368 k = k := q_k (by decide)
theorem q_n11 : (11 : Int32).toNatClampNeg = 11 := by decide
theorem q_k11 {α : Type} {k : Option α} : zk_ck 11 368 k = k := q_k (by decide)
theorem q_n332 : (332 : Int32).toNatClampNeg = 332 := by decide
theorem q_k332 {α : Type} {k : Option α} : zk_ck 332 368 k = k := q_k (by decide)
theorem q_n344 : (344 : Int32).toNatClampNeg = 344 := by decide
theorem q_k344 {α : Type} {k : Option α} : zk_ck 344 368 k = k := q_k (by decide)
theorem q_n356 : (356 : Int32).toNatClampNeg = 356 := by decide
theorem q_k356 {α : Type} {k : Option α} : zk_ck 356 368 k = k := q_k (by decide)
/-- a loop over the places below n: its state is known at each -/
theorem q_scan {S α : Type} {F : (S → Option α) → S → Option α} {n : Nat} (st : Nat → S) (res : Option α) (h1 : ∀ k m, m < n → F k (st m) = k (st (m + 1))) (h2 : ∀ k, F k (st n) = res) : ∀ (d m fuel : Nat), m + d = n → d < fuel → zk_fx F fuel (st m) = res
  | 0, m, fuel, hm, hf => by
    obtain ⟨f, rfl⟩ : ∃ k, fuel = k + 1 := ⟨fuel - 1, by omega⟩
    rw [zk_fx_s, show m = n by omega]
    exact h2 _
  | d + 1, m, fuel, hm, hf => by
    obtain ⟨f, rfl⟩ : ∃ k, fuel = k + 1 := ⟨fuel - 1, by omega⟩
    rw [zk_fx_s, h1 _ m (by omega)]
    exact q_scan st res h1 h2 d (m + 1) f (by omega) (by omega)
/-- a loop whose state keeps an invariant -/
theorem q_loop {S α : Type} {F : (S → Option α) → S → Option α} {n : Nat} {P : Option α → Prop} (I : Nat → S → Prop) (h : ∀ m s, I m s → (m < n ∧ ∃ s', I (m + 1) s' ∧ ∀ k, F k s = k s') ∨ ∀ k, P (F k s)) : ∀ (d m fuel : Nat) (s : S), m + d = n → d < fuel → I m s → P (zk_fx F fuel s)
  | 0, m, fuel, s, hm, hf, hi => by
    obtain ⟨f, rfl⟩ : ∃ k, fuel = k + 1 := ⟨fuel - 1, by omega⟩
    rw [zk_fx_s]
    rcases h m s hi with ⟨h1, -⟩ | h1
    · omega
    · exact h1 _
  | d + 1, m, fuel, s, hm, hf, hi => by
    obtain ⟨f, rfl⟩ : ∃ k, fuel = k + 1 := ⟨fuel - 1, by omega⟩
    rw [zk_fx_s]
    rcases h m s hi with ⟨h1, s', h2, h3⟩ | h1
    · rw [h3]
      exact q_loop I h d (m + 1) f s' (by omega) (by omega) h2
    · exact h1 _
/-- two loops side by side -/
theorem q_loop2 {S1 S2 α β : Type} {F1 : (S1 → Option α) → S1 → Option α} {F2 : (S2 → Option β) → S2 → Option β} {n : Nat} {P : α → β → Prop} (I : Nat → S1 → S2 → Prop) (h : ∀ m s1 s2, I m s1 s2 → (m < n ∧ ∃ s1' s2', I (m + 1) s1' s2' ∧ (∀ k, F1 k s1 = k s1') ∧ ∀ k, F2 k s2 = k s2') ∨ ∃ r1 r2, P r1 r2 ∧ (∀ k, F1 k s1 = some r1) ∧ ∀ k, F2 k s2 = some r2) : ∀ (d m f1 f2 : Nat) (s1 : S1) (s2 : S2), m + d = n → d < f1 → d < f2 → I m s1 s2 → ∃ r1 r2, P r1 r2 ∧ zk_fx F1 f1 s1 = some r1 ∧ zk_fx F2 f2 s2 = some r2
  | 0, m, f1, f2, s1, s2, hm, hf, hg, hi => by
    obtain ⟨f1, rfl⟩ : ∃ k, f1 = k + 1 := ⟨f1 - 1, by omega⟩
    obtain ⟨f2, rfl⟩ : ∃ k, f2 = k + 1 := ⟨f2 - 1, by omega⟩
    rw [zk_fx_s, zk_fx_s]
    rcases h m s1 s2 hi with ⟨h1, -⟩ | ⟨r1, r2, a, b, c⟩
    · omega
    · exact ⟨r1, r2, a, b _, c _⟩
  | d + 1, m, f1, f2, s1, s2, hm, hf, hg, hi => by
    obtain ⟨f1, rfl⟩ : ∃ k, f1 = k + 1 := ⟨f1 - 1, by omega⟩
    obtain ⟨f2, rfl⟩ : ∃ k, f2 = k + 1 := ⟨f2 - 1, by omega⟩
    rw [zk_fx_s, zk_fx_s]
    rcases h m s1 s2 hi with ⟨h1, s1', s2', a, b, c⟩ | ⟨r1, r2, a, b, c⟩
    · rw [b, c]
      exact q_loop2 I h d (m + 1) f1 f2 s1' s2' (by omega) (by omega) (by omega) a
    · exact ⟨r1, r2, a, b _, c _⟩
/-- how many places below n -/
def q_cn (P : Nat → Bool) : Nat → Nat
  | 0 => 0
  | n + 1 => q_cn P n + if P n = true then 1 else 0

theorem q_cn_le (P : Nat → Bool) : ∀ n, q_cn P n ≤ n
  | 0 => Nat.le_refl _
  | n + 1 => by
    have := q_cn_le P n
    unfold q_cn
    split <;> omega
theorem q_cn_cong {P R : Nat → Bool} : ∀ n, (∀ q, q < n → P q = R q) → q_cn P n = q_cn R n
  | 0, _ => rfl
  | n + 1, h => by
    unfold q_cn
    rw [q_cn_cong n (fun q hq => h q (by omega)), h n (by omega)]
theorem q_cn_len {P : Nat → Bool} : ∀ (n : Nat) (l : List Nat), l.Nodup → (∀ q, q ∈ l ↔ q < n ∧ P q = true) → q_cn P n = l.length
  | 0, l, hn, h => by
    cases l with
    | nil => rfl
    | cons a t => exact absurd ((h a).mp List.mem_cons_self).1 (Nat.not_lt_zero _)
  | n + 1, l, hn, h => by
    unfold q_cn
    by_cases hp : P n = true
    · have hm : n ∈ l := (h n).mpr ⟨Nat.lt_succ_self n, hp⟩
      have ih := q_cn_len n (l.erase n) (hn.erase n) (fun q => by
        rw [hn.mem_erase_iff, h q]
        constructor
        · rintro ⟨a, b, c⟩
          exact ⟨by omega, c⟩
        · rintro ⟨a, b⟩
          exact ⟨by omega, by omega, b⟩)
      rw [List.length_erase_of_mem hm] at ih
      have hl : 0 < l.length := List.length_pos_of_mem hm
      rw [if_pos hp, ih]
      omega
    · rw [if_neg hp, Nat.add_zero]
      exact q_cn_len n l hn (fun q => by
        rw [h q]
        constructor
        · rintro ⟨a, b⟩
          have : q ≠ n := fun z => hp (by rw [← z]; exact b)
          exact ⟨by omega, b⟩
        · rintro ⟨a, b⟩
          exact ⟨by omega, b⟩)
/-- one place changes its answer -/
theorem q_cn_flip {P R : Nat → Bool} {p : Nat} : ∀ n, p < n → P p = false → R p = true → (∀ q, q < n → q ≠ p → P q = R q) → q_cn R n = q_cn P n + 1
  | 0, h, _, _, _ => absurd h (Nat.not_lt_zero _)
  | n + 1, h, a, b, c => by
    unfold q_cn
    by_cases e : p = n
    · subst e
      rw [if_pos b, a, q_cn_cong p (P := P) (R := R) (fun q hq => c q (by omega) (by omega))]
      rfl
    · rw [q_cn_flip n (by omega) a b (fun q hq => c q (by omega)), c n (by omega) (by omega)]
      omega

theorem q_fact0 {p : Nat} (h : p < 40) (f : Nat → Int32) : f_X5_fact (nI p) 0 f = some (f (p * 6 + 0)) := by
  unfold f_X5_fact
  rw [if_neg (nI_pos (by omega)), if_neg (show ¬ (40 : Int32) ≤ nI p from nI_ge (b := 40) h (by omega)), if_neg (by decide), if_pos (by decide), show nI p * 6 + 0 = nI (p * 6 + 0) from by rw [show (6 : Int32) = nI 6 from rfl, show (0 : Int32) = nI 0 from rfl, pk_mul, nI_add], q_ck (by omega) (by omega), q_cl (by omega)]
theorem q_write0 {p : Nat} (h : p < 40) (x : Int32) (f : Nat → Int32) : f_X5_write (nI p) 0 x f = some (upd f (p * 6 + 0) x) := by
  unfold f_X5_write
  rw [if_neg (nI_pos (by omega)), if_neg (show ¬ (40 : Int32) ≤ nI p from nI_ge (b := 40) h (by omega)), if_neg (by decide), if_pos (by decide), show nI p * 6 + 0 = nI (p * 6 + 0) from by rw [show (6 : Int32) = nI 6 from rfl, show (0 : Int32) = nI 0 from rfl, pk_mul, nI_add], q_ck (by omega) (by omega), q_cl (by omega)]
  rfl
theorem q_fact1 {p : Nat} (h : p < 40) (f : Nat → Int32) : f_X5_fact (nI p) 1 f = some (f (p * 6 + 1)) := by
  unfold f_X5_fact
  rw [if_neg (nI_pos (by omega)), if_neg (show ¬ (40 : Int32) ≤ nI p from nI_ge (b := 40) h (by omega)), if_neg (by decide), if_pos (by decide), show nI p * 6 + 1 = nI (p * 6 + 1) from by rw [show (6 : Int32) = nI 6 from rfl, show (1 : Int32) = nI 1 from rfl, pk_mul, nI_add], q_ck (by omega) (by omega), q_cl (by omega)]
theorem q_write1 {p : Nat} (h : p < 40) (x : Int32) (f : Nat → Int32) : f_X5_write (nI p) 1 x f = some (upd f (p * 6 + 1) x) := by
  unfold f_X5_write
  rw [if_neg (nI_pos (by omega)), if_neg (show ¬ (40 : Int32) ≤ nI p from nI_ge (b := 40) h (by omega)), if_neg (by decide), if_pos (by decide), show nI p * 6 + 1 = nI (p * 6 + 1) from by rw [show (6 : Int32) = nI 6 from rfl, show (1 : Int32) = nI 1 from rfl, pk_mul, nI_add], q_ck (by omega) (by omega), q_cl (by omega)]
  rfl
theorem q_fact2 {p : Nat} (h : p < 40) (f : Nat → Int32) : f_X5_fact (nI p) 2 f = some (f (p * 6 + 2)) := by
  unfold f_X5_fact
  rw [if_neg (nI_pos (by omega)), if_neg (show ¬ (40 : Int32) ≤ nI p from nI_ge (b := 40) h (by omega)), if_neg (by decide), if_pos (by decide), show nI p * 6 + 2 = nI (p * 6 + 2) from by rw [show (6 : Int32) = nI 6 from rfl, show (2 : Int32) = nI 2 from rfl, pk_mul, nI_add], q_ck (by omega) (by omega), q_cl (by omega)]
theorem q_write2 {p : Nat} (h : p < 40) (x : Int32) (f : Nat → Int32) : f_X5_write (nI p) 2 x f = some (upd f (p * 6 + 2) x) := by
  unfold f_X5_write
  rw [if_neg (nI_pos (by omega)), if_neg (show ¬ (40 : Int32) ≤ nI p from nI_ge (b := 40) h (by omega)), if_neg (by decide), if_pos (by decide), show nI p * 6 + 2 = nI (p * 6 + 2) from by rw [show (6 : Int32) = nI 6 from rfl, show (2 : Int32) = nI 2 from rfl, pk_mul, nI_add], q_ck (by omega) (by omega), q_cl (by omega)]
  rfl
theorem q_fact3 {p : Nat} (h : p < 40) (f : Nat → Int32) : f_X5_fact (nI p) 3 f = some (f (p * 6 + 3)) := by
  unfold f_X5_fact
  rw [if_neg (nI_pos (by omega)), if_neg (show ¬ (40 : Int32) ≤ nI p from nI_ge (b := 40) h (by omega)), if_neg (by decide), if_pos (by decide), show nI p * 6 + 3 = nI (p * 6 + 3) from by rw [show (6 : Int32) = nI 6 from rfl, show (3 : Int32) = nI 3 from rfl, pk_mul, nI_add], q_ck (by omega) (by omega), q_cl (by omega)]
theorem q_write3 {p : Nat} (h : p < 40) (x : Int32) (f : Nat → Int32) : f_X5_write (nI p) 3 x f = some (upd f (p * 6 + 3) x) := by
  unfold f_X5_write
  rw [if_neg (nI_pos (by omega)), if_neg (show ¬ (40 : Int32) ≤ nI p from nI_ge (b := 40) h (by omega)), if_neg (by decide), if_pos (by decide), show nI p * 6 + 3 = nI (p * 6 + 3) from by rw [show (6 : Int32) = nI 6 from rfl, show (3 : Int32) = nI 3 from rfl, pk_mul, nI_add], q_ck (by omega) (by omega), q_cl (by omega)]
  rfl
theorem q_fact4 {p : Nat} (h : p < 40) (f : Nat → Int32) : f_X5_fact (nI p) 4 f = some (f (p * 6 + 4)) := by
  unfold f_X5_fact
  rw [if_neg (nI_pos (by omega)), if_neg (show ¬ (40 : Int32) ≤ nI p from nI_ge (b := 40) h (by omega)), if_neg (by decide), if_pos (by decide), show nI p * 6 + 4 = nI (p * 6 + 4) from by rw [show (6 : Int32) = nI 6 from rfl, show (4 : Int32) = nI 4 from rfl, pk_mul, nI_add], q_ck (by omega) (by omega), q_cl (by omega)]
theorem q_write4 {p : Nat} (h : p < 40) (x : Int32) (f : Nat → Int32) : f_X5_write (nI p) 4 x f = some (upd f (p * 6 + 4) x) := by
  unfold f_X5_write
  rw [if_neg (nI_pos (by omega)), if_neg (show ¬ (40 : Int32) ≤ nI p from nI_ge (b := 40) h (by omega)), if_neg (by decide), if_pos (by decide), show nI p * 6 + 4 = nI (p * 6 + 4) from by rw [show (6 : Int32) = nI 6 from rfl, show (4 : Int32) = nI 4 from rfl, pk_mul, nI_add], q_ck (by omega) (by omega), q_cl (by omega)]
  rfl
theorem q_fact5 {p : Nat} (h : p < 40) (f : Nat → Int32) : f_X5_fact (nI p) 5 f = some (f (p * 6 + 5)) := by
  unfold f_X5_fact
  rw [if_neg (nI_pos (by omega)), if_neg (show ¬ (40 : Int32) ≤ nI p from nI_ge (b := 40) h (by omega)), if_neg (by decide), if_pos (by decide), show nI p * 6 + 5 = nI (p * 6 + 5) from by rw [show (6 : Int32) = nI 6 from rfl, show (5 : Int32) = nI 5 from rfl, pk_mul, nI_add], q_ck (by omega) (by omega), q_cl (by omega)]
theorem q_write5 {p : Nat} (h : p < 40) (x : Int32) (f : Nat → Int32) : f_X5_write (nI p) 5 x f = some (upd f (p * 6 + 5) x) := by
  unfold f_X5_write
  rw [if_neg (nI_pos (by omega)), if_neg (show ¬ (40 : Int32) ≤ nI p from nI_ge (b := 40) h (by omega)), if_neg (by decide), if_pos (by decide), show nI p * 6 + 5 = nI (p * 6 + 5) from by rw [show (6 : Int32) = nI 6 from rfl, show (5 : Int32) = nI 5 from rfl, pk_mul, nI_add], q_ck (by omega) (by omega), q_cl (by omega)]
  rfl
theorem q_isIn {p : Nat} (h : p < 40) (x : Int32) (f : Nat → Int32) : f_X5_isIn (nI p) x f = some (if f (p * 6 + 0) = x then 1 else 0) := by
  unfold f_X5_isIn
  rw [q_fact0 h, Option.bind_some]
  split <;> rfl
theorem q_has {n : Nat} (hn : n ≤ 40) (x : Int32) : (f_X5_has x (nI n) = some 0 ∧ (x < 0 ∨ nI n ≤ x)) ∨ ∃ p, p < n ∧ x = nI p ∧ f_X5_has x (nI n) = some 1 := by
  unfold f_X5_has
  rcases pk_ix x (n := n) (by omega) with h | h | ⟨p, h, rfl⟩
  · exact Or.inl ⟨if_pos h, Or.inl h⟩
  · refine Or.inl ⟨?_, Or.inr h⟩
    by_cases c : x < 0
    · exact if_pos c
    · rw [if_neg c, if_pos h]
  · exact Or.inr ⟨p, h, rfl, by rw [if_neg (nI_pos (by omega)), if_neg (nI_ge h (by omega))]⟩

/-! the relation -/
/-- the facts of the promises -/
def q_PF (f z : Nat → Int32) (n : Nat) : Prop := ∀ p, p < n → f (p * 6 + 0) = z (132 + p) ∧ f (p * 6 + 1) = z (12 + p) ∧ f (p * 6 + 2) = z (52 + p) ∧ f (p * 6 + 3) = z (92 + p) ∧ f (p * 6 + 4) = z (252 + p) ∧ f (p * 6 + 5) = z (292 + p)
/-- the model's lines -/
def q_ML (z : Nat → Int32) (L : Nat → List Nat) (n T : Nat) : Prop := (∀ p, p < n → (∀ j, j < 25 → p ∈ L j → z (172 + p) = nI j) ∧ ((∀ j, j < 25 → p ∉ L j) → z (172 + p) = -1)) ∧ (∀ j, j < 25 → (L j).Nodup ∧ (L j).Pairwise (fun p q => (z (212 + p)).toInt < (z (212 + q)).toInt) ∧ ∀ p ∈ L j, p < n ∧ (z (212 + p)).toInt < (T : Int)) ∧ z 11 = nI T ∧ z 1 = nI n ∧ n ≤ 40 ∧ ∀ i j p, i < 25 → j < 25 → p ∈ L i → p ∈ L j → i = j
theorem q_ML.at {z : Nat → Int32} {L : Nat → List Nat} {n T : Nat} (h : q_ML z L n T) {p j : Nat} (hp : p < n) (hj : j < 25) : z (172 + p) = nI j ↔ p ∈ L j := by
  constructor
  · intro e
    by_cases hz : ∀ i, i < 25 → p ∉ L i
    · exfalso
      rw [(h.1 p hp).2 hz] at e
      exact nI_pos (n := j) (by omega) (by rw [← e]; decide)
    · obtain ⟨i, hz⟩ := Classical.not_forall.mp hz
      obtain ⟨hi, hm⟩ := Classical.not_imp.mp hz
      have hm := Classical.not_not.mp hm
      have g := (h.1 p hp).1 i hi hm
      rw [e] at g
      rw [(nI_eq (by omega) (by omega)).mp g]
      exact hm
  · exact fun hm => (h.1 p hp).1 j hj hm

theorem q_pw {s : Nat → Int} : ∀ {l : List Nat}, l.Pairwise (fun p q => s p < s q) → ∀ {a b : Nat}, a ∈ l → b ∈ l → a ≠ b → s a ≠ s b
  | [], _, a, b, ha, _, _ => by cases ha
  | c :: t, h, a, b, ha, hb, hne => by
    obtain ⟨h1, h2⟩ := List.pairwise_cons.mp h
    rcases List.mem_cons.mp ha with e | e
    · rcases List.mem_cons.mp hb with y | y
      · exact absurd (e.trans y.symm) hne
      · have := h1 b y
        rw [e]
        omega
    · rcases List.mem_cons.mp hb with y | y
      · have := h1 a e
        rw [y]
        omega
      · exact q_pw h2 e y hne
theorem q_front {z : Nat → Int32} {L : Nat → List Nat} {n T : Nat} (h : q_ML z L n T) {j : Nat} (hj : j < 25) : f_X10_front (nI j) z = some (match L j with | [] => -1 | p :: _ => nI p) := by
  obtain ⟨g1, g2, g3⟩ := h.2.1 j hj
  have hn := h.2.2.2.2.1
  have hz1 := h.2.2.2.1
  unfold f_X10_front
  refine q_loop (n := n) (P := fun r => r = some (match L j with | [] => -1 | p :: _ => nI p)) (fun m s => m ≤ n ∧ s.2 = nI m ∧ ((s.1 = -1 ∧ ∀ p, p < m → p ∉ L j) ∨ ∃ b, b < m ∧ b ∈ L j ∧ s.1 = nI b ∧ ∀ p, p < m → p ∈ L j → p = b ∨ (z (212 + b)).toInt < (z (212 + p)).toInt)) ?_ n 0 zk_N ((-1), 0) (by omega) (by unfold zk_N; omega) ⟨by omega, rfl, Or.inl ⟨rfl, fun p hp => absurd hp (Nat.not_lt_zero p)⟩⟩
  intro m s hi
  obtain ⟨x2, x3⟩ := s
  obtain ⟨hm, e3, hi⟩ := hi
  dsimp only at e3 hi
  subst e3
  unfold F_X10_front_4
  dsimp only
  by_cases hmn : m < n
  · refine Or.inl ⟨hmn, ?_⟩
    have c1 : ¬ nI n ≤ nI m := nI_ge hmn (by omega)
    simp (disch := omega) only [q_n1, q_k1, hz1, if_neg c1, q_a172, q_a212, q_ck, q_cl]
    by_cases hin : m ∈ L j
    · simp only [if_pos ((h.at hmn hj).mpr hin)]
      rcases hi with ⟨rfl, hi⟩ | ⟨b, hb, hbl, rfl, hi⟩
      · refine ⟨(nI m, nI m + 1), ⟨by omega, nI_1 m, Or.inr ⟨m, by omega, hin, rfl, fun p hp hpl => ?_⟩⟩, fun k => ?_⟩
        · by_cases e : p = m
          · exact Or.inl e
          · exact absurd hpl (hi p (by omega))
        · rw [if_pos (by decide)]
          rfl
      · simp (disch := omega) only [if_neg (nI_pos (n := b) (by omega)), q_a212, q_ck, q_cl]
        by_cases hle : z (212 + b) ≤ z (212 + m)
        · refine ⟨(nI b, nI m + 1), ⟨by omega, nI_1 m, Or.inr ⟨b, by omega, hbl, rfl, fun p hp hpl => ?_⟩⟩, fun k => ?_⟩
          · by_cases e : p = m
            · subst e
              right
              have hne : (z (212 + b)).toInt ≠ (z (212 + p)).toInt := q_pw (s := fun p => (z (212 + p)).toInt) g2 hbl hpl (by omega)
              have := Int32.le_iff_toInt_le.mp hle
              omega
            · exact hi p (by omega) hpl
          · rw [if_pos hle]
            unfold f_X10_front_59 f_X10_front_60 f_X10_front_72
            rw [if_pos rfl]
        · refine ⟨(nI m, nI m + 1), ⟨by omega, nI_1 m, Or.inr ⟨m, by omega, hin, rfl, fun p hp hpl => ?_⟩⟩, fun k => ?_⟩
          · by_cases e : p = m
            · exact Or.inl e
            · right
              have h1 : ¬ (z (212 + b)).toInt ≤ (z (212 + m)).toInt := fun y => hle (Int32.le_iff_toInt_le.mpr y)
              rcases hi p (by omega) hpl with e1 | e1
              · rw [e1]
                omega
              · omega
          · rw [if_neg hle]
            rfl
    · simp only [if_neg (fun y => hin ((h.at hmn hj).mp y))]
      refine ⟨(x2, nI m + 1), ⟨by omega, nI_1 m, ?_⟩, fun k => ?_⟩
      · rcases hi with ⟨e, hi⟩ | ⟨b, hb, hbl, e, hi⟩
        · refine Or.inl ⟨e, fun p hp => ?_⟩
          by_cases y : p = m
          · rw [y]
            exact hin
          · exact hi p (by omega)
        · refine Or.inr ⟨b, by omega, hbl, e, fun p hp hpl => ?_⟩
          by_cases y : p = m
          · exact absurd (y ▸ hpl) hin
          · exact hi p (by omega) hpl
      · unfold f_X10_front_59 f_X10_front_60 f_X10_front_72
        rw [if_pos rfl]
  · right
    intro k
    have e : m = n := by omega
    subst e
    simp (disch := omega) only [q_n1, q_k1, hz1]
    rw [if_pos (nI_le (Nat.le_refl _) (by omega))]
    congr 1
    rcases hi with ⟨e, hi⟩ | ⟨b, hb, hbl, e, hi⟩
    · cases hl : L j with
      | nil => exact e
      | cons a t => exact absurd (by rw [hl]; exact List.mem_cons_self) (hi a (g3 a (by rw [hl]; exact List.mem_cons_self)).1)
    · cases hl : L j with
      | nil => rw [hl] at hbl; cases hbl
      | cons a t =>
        rw [e]
        congr 1
        have ha : a ∈ L j := by rw [hl]; exact List.mem_cons_self
        rcases hi a (g3 a ha).1 ha with y | y
        · exact y.symm
        · exfalso
          rw [hl] at g2 hbl
          rcases List.mem_cons.mp hbl with z1 | z1
          · rw [z1] at y
            omega
          · have := (List.pairwise_cons.mp g2).1 b z1
            omega
