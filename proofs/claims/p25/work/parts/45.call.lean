/-! PURE PART: a call -/
theorem q_xor {c : Nat} (h : c < 2 ^ 31) : (0 : Int32) ≤ nI c ^^^ 12 := by
  have e : nI c ^^^ 12 = nI (c ^^^ 12) := Int32.toBitVec_inj.mp (BitVec.ofNat_xor (x := c) (y := 12)).symm
  rw [e]
  exact nI_pos' (Nat.xor_lt_two_pow h (by decide))
theorem q_fm {c : Nat} (h : c < 2 ^ 31) : f_J9_floorMod_7cf53 (nI c) 12 = some (nI (c % 12)) := by
  unfold f_J9_floorMod_7cf53 zk_dv
  rw [if_neg (by decide)]
  simp only [zk_let]
  rw [if_pos (q_xor h), show zk_rem (nI c) 12 = nI (c % 12) from pk_rem (d := 12) h (by decide) (by decide)]
theorem q_diary {c : Nat} (h : c < 2 ^ 30) (x1 x2 x3 : Int32) (f : Nat → Int32) : f_X0_write x1 x2 x3 f (nI c) = some (upd (upd (upd f (c % 12 * 3 + 0) x1) (c % 12 * 3 + 1) x2) (c % 12 * 3 + 2) x3, nI (c + 1)) := by
  unfold f_X0_write
  rw [q_fm (by omega), Option.bind_some]
  have e : nI (c % 12) * 3 = nI (c % 12 * 3) := pk_mul _ 3
  have e1 : nI (c % 12 * 3) + 1 = nI (c % 12 * 3 + 1) := nI_1 _
  have e2 : nI (c % 12 * 3) + 2 = nI (c % 12 * 3 + 2) := nI_add _ 2
  simp (disch := omega) only [zk_let, e, e1, e2, q_ck, q_cl, nI_1]
  rfl
theorem q_upc {f : Nat → Int32} {a b : Nat} {x y : Int32} (h : a ≠ b) : upd (upd f a x) b y = upd (upd f b y) a x := by
  funext j
  unfold upd
  by_cases e1 : j = a
  · by_cases e2 : j = b
    · omega
    · rw [if_neg e2, if_pos e1, if_pos e1]
  · by_cases e2 : j = b
    · rw [if_pos e2, if_neg e1, if_pos e2]
    · rw [if_neg e2, if_neg e1, if_neg e1, if_neg e2]
theorem q_bm {x : Int} (h1 : -(2 ^ 31) ≤ x) (h2 : x < 2 ^ 31) : x.bmod (2 ^ 32) = x := Int.bmod_eq_of_le (by omega) (by omega)
/-- the due of a repetition -/
theorem q_rep {d t q : Nat} (hd : d < 2 ^ 29) (ht : t < 2 ^ 29) (h1 : 1 ≤ q) (h2 : q ≤ 511) : ∃ d', nI d + ((nI t - nI d) / nI q + 1) * nI q = nI d' ∧ (d' ≤ d + 511 ∨ d' ≤ t + 511) := by
  by_cases c : d ≤ t
  · refine ⟨d + ((t - d) / q + 1) * q, ?_, ?_⟩
    · rw [pk_sub c, pk_div (by omega) (by omega) (by omega), nI_1, pk_mul, nI_add]
    · right
      have := Nat.div_mul_le_self (t - d) q
      rw [Nat.add_mul, Nat.one_mul]
      omega
  · have hk := Nat.div_mul_le_self (d - t) q
    have hk2 : (d - t) / q ≤ d - t := Nat.div_le_self _ _
    have e1 : ((nI t - nI d) / nI q).toInt = -(((d - t) / q : Nat) : Int) := by
      rw [Int32.toInt_div_of_ne_right _ _ (fun y => nI_pos (n := q) (by omega) (by rw [y]; decide)), pk_sub_toInt (by omega) (by omega), nI_toInt (by omega), show (t : Int) - d = -((d - t : Nat) : Int) by omega, Int.neg_tdiv, ← Int.ofNat_tdiv]
    generalize (d - t) / q = kq at hk hk2 e1 ⊢
    have e2 : ((nI t - nI d) / nI q + 1).toInt = 1 - (kq : Int) := by
      rw [Int32.toInt_add, e1, show (1 : Int32).toInt = 1 from rfl, q_bm (x := -(kq : Int) + 1) (by omega) (by omega)]
      omega
    refine ⟨d + q - kq * q, ?_, Or.inl (by omega)⟩
    apply Int32.toInt_inj.mp
    have e3 : (1 - (kq : Int)) * (q : Int) = (q : Int) - ((kq * q : Nat) : Int) := by
      rw [Int.sub_mul, Int.one_mul, Int.natCast_mul]
    rw [Int32.toInt_add, Int32.toInt_mul, e2, nI_toInt (n := d) (by omega), nI_toInt (n := q) (by omega), e3, q_bm (x := (q : Int) - ((kq * q : Nat) : Int)) (by omega) (by omega), nI_toInt (n := d + q - kq * q) (by omega), q_bm (x := (d : Int) + ((q : Int) - ((kq * q : Nat) : Int))) (by omega) (by omega)]
    omega
theorem q_prx (a k : Nat) : nI (a + (k + 1)) - 1 = nI (a + k) := nI_pred (a + k)
/-- the diary's row moved by one -/
def q_sh (z z1 : Nat → Int32) : Prop := (∀ i, i < 332 → z1 i = z i) ∧ ∀ k, 1 ≤ k → k < 12 → z1 (332 + k) = z (332 + (k - 1)) ∧ z1 (344 + k) = z (344 + (k - 1)) ∧ z1 (356 + k) = z (356 + (k - 1))
def q_z2 (p : Nat) (z z1 : Nat → Int32) : Nat → Int32 := upd (upd (upd (upd z1 332 (nI p)) 344 (z (12 + p))) 356 (z 0)) 5 (z 5 + 1)
theorem q_noteCall {p : Nat} (hp : p < 40) (z : Nat → Int32) : ∃ z1, q_sh z z1 ∧ f_X10_noteCall (nI p) z = some (if z 0 ≤ z (12 + p) then upd (q_z2 p z z1) (252 + p) (z (252 + p) + 1) else upd (upd (upd (q_z2 p z z1) (252 + p) (z (252 + p) + 1)) 6 (z 6 + 1)) (292 + p) (z (292 + p) + (z 0 - z (12 + p)))) := by
  unfold f_X10_noteCall
  refine q_loop (n := 11) (P := fun r => ∃ z1, q_sh z z1 ∧ r = some (if z 0 ≤ z (12 + p) then upd (q_z2 p z z1) (252 + p) (z (252 + p) + 1) else upd (upd (upd (q_z2 p z z1) (252 + p) (z (252 + p) + 1)) 6 (z 6 + 1)) (292 + p) (z (292 + p) + (z 0 - z (12 + p))))) (fun m (s : Int32 × (Nat → Int32)) => m ≤ 11 ∧ s.1 = nI (11 - m) ∧ (∀ i, i < 332 → s.2 i = z i) ∧ ∀ k, k < 12 → (s.2 (332 + k) = if 11 - m < k then z (332 + (k - 1)) else z (332 + k)) ∧ (s.2 (344 + k) = if 11 - m < k then z (344 + (k - 1)) else z (344 + k)) ∧ (s.2 (356 + k) = if 11 - m < k then z (356 + (k - 1)) else z (356 + k))) ?_ 11 0 zk_N (11, z) (by omega) (by unfold zk_N; omega) ⟨by omega, rfl, fun _ _ => rfl, fun k hk => by rw [if_neg (by omega), if_neg (by omega), if_neg (by omega)]; exact ⟨rfl, rfl, rfl⟩⟩
  intro m s hi
  obtain ⟨x2, y⟩ := s
  obtain ⟨hm, e1, h1, h2⟩ := hi
  dsimp only at e1 h1 h2
  subst e1
  by_cases hmr : m < 11
  · left
    obtain ⟨k, hk⟩ : ∃ k, 11 - m = k + 1 := ⟨10 - m, by omega⟩
    rw [hk] at h2 ⊢
    have hk11 : k < 11 := by omega
    refine ⟨hmr, (nI k, upd (upd (upd y (332 + (k + 1)) (y (332 + k))) (344 + (k + 1)) (y (344 + k))) (356 + (k + 1)) (y (356 + k))), ⟨by omega, (by rw [show 11 - (m + 1) = k by omega]), fun i hi => ?_, fun j hj => ?_⟩, fun kk => ?_⟩
    · simp (disch := omega) only [pk_un]
      exact h1 i hi
    · have hko : 11 - (m + 1) = k := by omega
      rw [hko]
      have g0 := h2 j hj
      have g := h2 k (by omega)
      dsimp only
      by_cases hjk : j = k + 1
      · subst hjk
        rw [if_pos (by omega), if_pos (by omega), if_pos (by omega)]
        rw [if_neg (by omega), if_neg (by omega), if_neg (by omega)] at g
        rw [show k + 1 - 1 = k by omega, ← g.1, ← g.2.1, ← g.2.2]
        simp (disch := omega) only [pk_us, pk_un]
        trivial
      · rw [show upd (upd (upd y (332 + (k + 1)) (y (332 + k))) (344 + (k + 1)) (y (344 + k))) (356 + (k + 1)) (y (356 + k)) (332 + j) = y (332 + j) from by simp (disch := omega) only [pk_un], show upd (upd (upd y (332 + (k + 1)) (y (332 + k))) (344 + (k + 1)) (y (344 + k))) (356 + (k + 1)) (y (356 + k)) (344 + j) = y (344 + j) from by simp (disch := omega) only [pk_un], show upd (upd (upd y (332 + (k + 1)) (y (332 + k))) (344 + (k + 1)) (y (344 + k))) (356 + (k + 1)) (y (356 + k)) (356 + j) = y (356 + j) from by simp (disch := omega) only [pk_un]]
        by_cases hlt : k + 1 < j
        · rw [if_pos hlt, if_pos hlt, if_pos hlt] at g0
          rw [if_pos (by omega), if_pos (by omega), if_pos (by omega)]
          exact g0
        · rw [if_neg hlt, if_neg hlt, if_neg hlt] at g0
          rw [if_neg (by omega), if_neg (by omega), if_neg (by omega)]
          exact g0
    · unfold F_X10_noteCall_3
      simp (disch := omega) only [if_neg (nI_nle (n := k + 1) (by omega) (by omega)), q_prx, q_a332, q_a344, q_a356, q_ck, q_cl, zk_let, pk_un, pk_m1]
  · right
    intro kk
    have e : m = 11 := by omega
    subst e
    refine ⟨y, ⟨h1, fun k hk1 hk2 => ?_⟩, ?_⟩
    · have g := h2 k hk2
      rw [if_pos (by omega), if_pos (by omega), if_pos (by omega)] at g
      exact g
    · unfold F_X10_noteCall_3 q_z2
      rw [← h1 0 (by omega), ← h1 (12 + p) (by omega), ← h1 5 (by omega), ← h1 (252 + p) (by omega), ← h1 6 (by omega), ← h1 (292 + p) (by omega)]
      simp only [zk_let, show nI (11 - 11) ≤ 0 from by decide, ↓reduceIte]
      simp (disch := omega) only [q_n332, q_k332, q_n344, q_k344, q_n356, q_k356, q_n0, q_k0, q_n5, q_k5, q_n6, q_k6, q_a12, q_a252, q_a292, q_ck, q_cl, pk_us, pk_un]
      by_cases hle : y 0 ≤ y (12 + p)
      · rw [if_pos hle, if_pos hle]
      · rw [if_neg hle, if_neg hle]
section QC
variable {pr : VX5} {dy : VX0} {ln : VX3} {now room bound drift br lt fl sw ps lo : Int32} {z : Nat → Int32} {L L0 : Nat → List Nat} {n c T t : Nat}
theorem q_V.diary (h : q_V pr dy now room bound drift br lt fl sw ps lo z L n c T t) {p : Nat} {z1 : Nat → Int32} (hz : q_sh z z1) : q_V pr (upd (upd (upd dy.1 (c % 12 * 3 + 0) (nI p)) (c % 12 * 3 + 1) (z (12 + p))) (c % 12 * 3 + 2) now, nI (c + 1)) now room bound drift br lt fl sw ps lo (q_z2 p z z1) L n (c + 1) T t := by
  have hn := h.n4
  obtain ⟨⟨a1, a2⟩, b, sc, d, e, f⟩ := h
  have hz2 : ∀ i, i < 332 → i ≠ 5 → q_z2 p z z1 i = z i := by
    intro i hi h5
    unfold q_z2
    simp (disch := omega) only [pk_un]
    exact hz.1 i hi
  refine ⟨⟨a1, a2.cong hn (fun i hi => hz2 i (by omega) (by omega))⟩, b.cong (fun i hi => hz2 i (by omega) (by omega)), sc.cong (fun i hi => hz2 i (by omega) (by omega)) (fun q hq => by rw [hz2 (132 + q) (by omega) (by omega)]), ⟨rfl, ?_, fun k hk hc i hi => ?_, fun q hq => ?_⟩, e.cong hn (by omega) (fun i hi => hz2 i (by omega) (by omega)) (fun q hq => Or.inl (hz2 _ (by omega) (by omega))) (fun j hj q hq => ?_), ?_⟩
  · unfold q_z2
    rw [pk_us, d.2.1, nI_1]
  · dsimp only
    by_cases h0 : k = 0
    · subst h0
      have ec : (c + 1 - 1 - 0) % 12 = c % 12 := rfl
      rw [ec]
      unfold q_z2
      rcases (show i = 0 ∨ i = 1 ∨ i = 2 by omega) with rfl | rfl | rfl
      · simp (disch := omega) only [pk_us, pk_un, Nat.mul_zero, Nat.add_zero]
      · simp (disch := omega) only [pk_us, pk_un, Nat.mul_one, Nat.add_zero]
      · simp (disch := omega) only [pk_us, pk_un, Nat.add_zero]
        rw [sc.1, sc.2.1]
    · have g := d.2.2.1 (k - 1) (by omega) (by omega) i hi
      have ec : c + 1 - 1 - k = c - 1 - (k - 1) := by omega
      rw [ec]
      have hne : (c - 1 - (k - 1)) % 12 ≠ c % 12 := by omega
      have gz := hz.2 k (by omega) hk
      rw [show q_z2 p z z1 (332 + 12 * i + k) = z1 (332 + 12 * i + k) from by unfold q_z2; simp (disch := omega) only [pk_un]]
      rw [show z1 (332 + 12 * i + k) = z (332 + 12 * i + (k - 1)) from by
        rcases (show i = 0 ∨ i = 1 ∨ i = 2 by omega) with rfl | rfl | rfl
        · exact gz.1
        · exact gz.2.1
        · exact gz.2.2, ← g]
      simp (disch := omega) only [pk_un]
  · rw [hz2 (252 + q) (by omega) (by omega)]
    obtain ⟨d', w1, w2⟩ := d.2.2.2 q hq
    exact ⟨d', w1, by omega⟩
  · have := ((b.2.1 j (by omega)).2.2 q hq).1
    exact Or.inl ⟨hq, hz2 _ (by omega) (by omega)⟩
  · rw [hz2 2 (by omega) (by omega)]
    exact f
/-- a promise leaves the row's lines -/
theorem q_V.off (h : q_V pr dy now room bound drift br lt fl sw ps lo z L n c T t) {p : Nat} (hp : p < n) (hx : q_Lx L L0 p) : q_V pr dy now room bound drift br lt fl sw ps lo (upd z (172 + p) (-1)) L0 n c T t := by
  have hn := h.n4
  obtain ⟨⟨a1, a2⟩, b, sc, d, e, f⟩ := h
  refine ⟨⟨a1, a2.cong hn (fun i hi => by simp (disch := omega) only [pk_un])⟩, b.off hx (by simp (disch := omega) only [pk_us, pk_un]) (by simp (disch := omega) only [pk_us, pk_un]) (by simp (disch := omega) only [pk_us, pk_un]) (fun q hq hne => by simp (disch := omega) only [pk_us, pk_un]) (fun q hq => by simp (disch := omega) only [pk_us, pk_un]), sc.cong (fun i hi => by simp (disch := omega) only [pk_un]) (fun q hq => by simp (disch := omega) only [pk_un]), d.cong (fun i hi => by simp (disch := omega) only [pk_un]), e.cong hn (Nat.le_refl _) (fun i hi => by simp (disch := omega) only [pk_un]) (fun q hq => Or.inl (by simp (disch := omega) only [pk_un])) (fun j hj q hq => ?_), ?_⟩
  · have hqn := ((b.2.1 j (by omega)).2.2 q ((hx j (by omega)).1.subset hq)).1
    exact Or.inl ⟨(hx j (by omega)).1.subset hq, by simp (disch := omega) only [pk_us, pk_un]⟩
  · rw [show upd z (172 + p) (-1) 2 = z 2 from by simp (disch := omega) only [pk_us, pk_un]]
    exact f
/-- what a call does behind its note: in the class, and in the model -/
def q_rest (x1 v_now v_drift x2 : Int32) (p2 : Int32) (v_lines : VX3) (r61 : VX0) (v_lateCalls v_passedOver : Int32) (r81 : Nat → Int32) : Option (VX5 × VX3 × VX0 × Int32 × Int32) := (f_X5_fact x1 3 r81).bind fun r90 => if 1 ≤ r90 then (f_X5_fact x1 2 r81).bind fun r120 => (f_X8_dueOfRepetition x2 r120 v_now v_drift v_passedOver).bind fun r123 => (f_X5_write x1 3 (r90 - 1) r81).bind fun r138 => (f_X5_write x1 1 r123.1 r138).bind fun r149 => (f_X5_write x1 0 0 r149).bind fun r159 => (f_X8_lineFor r123.1 v_now).bind fun r169 => (f_X3_join r169 x1 v_lines.1 v_lines.2.1 v_lines.2.2.1 v_lines.2.2.2.1 v_lines.2.2.2.2).bind fun r173 => some ((r159, p2), r173, r61, v_lateCalls, r123.2) else (f_X5_write x1 0 2 r81).bind fun r108 => some ((r108, p2), v_lines, r61, v_lateCalls, v_passedOver)
def q_tail (x1 : Int32) (r2 : Nat → Int32) : Option (Nat → Int32) := zk_ck (92 + x1) 368 (if (r2 (92 + x1).toNatClampNeg) = 0 then zk_ck (132 + x1) 368 (zk_let (upd r2 (132 + x1).toNatClampNeg 2) fun v_z_1 => zk_ck (172 + x1) 368 (zk_let (upd v_z_1 (172 + x1).toNatClampNeg (-1)) fun v_z_2 => some v_z_2)) else zk_ck (92 + x1) 368 (zk_ck (92 + x1) 368 (zk_let (upd r2 (92 + x1).toNatClampNeg ((r2 (92 + x1).toNatClampNeg) - 1)) fun v_z_3 => zk_ck 4 368 (if (v_z_3 (4 : Int32).toNatClampNeg) = 1 then zk_ck 0 368 (zk_ck (52 + x1) 368 (zk_ck (12 + x1) 368 (zk_let (upd v_z_3 (12 + x1).toNatClampNeg ((v_z_3 (0 : Int32).toNatClampNeg) + (v_z_3 (52 + x1).toNatClampNeg))) fun v_z_4 => f_X10_callOne_156 x1 v_z_4))) else zk_ck 0 368 (zk_ck (12 + x1) 368 (zk_ck (52 + x1) 368 (zk_dv (v_z_3 (52 + x1).toNatClampNeg) (zk_let ((((v_z_3 (0 : Int32).toNatClampNeg) - (v_z_3 (12 + x1).toNatClampNeg)) / (v_z_3 (52 + x1).toNatClampNeg)) + 1) fun x2_5 => zk_ck (12 + x1) 368 (zk_ck (52 + x1) 368 (zk_ck (12 + x1) 368 (zk_let (upd v_z_3 (12 + x1).toNatClampNeg ((v_z_3 (12 + x1).toNatClampNeg) + (x2_5 * (v_z_3 (52 + x1).toNatClampNeg)))) fun v_z_6 => zk_ck 9 368 (zk_ck 9 368 (zk_let (upd v_z_6 (9 : Int32).toNatClampNeg ((v_z_6 (9 : Int32).toNatClampNeg) + (x2_5 - 1))) fun v_z_7 => f_X10_callOne_156 x1 v_z_7)))))))))))))
theorem q_tail_e (x1 : Int32) (z : Nat → Int32) : f_X10_callOne x1 z = (f_X10_noteCall x1 z).bind fun r2 => q_tail x1 r2 := rfl

set_option maxHeartbeats 4000000 in
theorem q_rest_ok (h : q_V pr dy now room bound drift br lt fl sw ps lo z L n c T t) (hcl : q_CL ln L0) {p : Nat} (hx : q_Lx L L0 p) (hp : p < n) (hpl : p ∈ L 24) (h3 : z (132 + p) ≠ 3) (hT : T < 2 ^ 30) (hc : 21200 + 511 * c < 2 ^ 29) (ht : t ≤ 20600) (hdd : ∃ d, z (12 + p) = nI d ∧ d + 511 ≤ 21200 + 511 * c) : ∃ r1 r2, q_rest (nI p) now drift (z (12 + p)) pr.2 ln dy lt ps pr.1 = some r1 ∧ q_tail (nI p) z = some r2 ∧ ∃ L' T', q_V r1.1 r1.2.2.1 now room bound drift br r1.2.2.2.1 fl sw r1.2.2.2.2 lo r2 L' n c T' t ∧ q_CL r1.2.1 L' ∧ T' ≤ T + 1 ∧ L' 24 = L0 24 := by
  have hn := h.n4
  have hp4 : p < 40 := by omega
  have hpf := h.1.2 p hp
  obtain ⟨d, hd, hdb⟩ := hdd
  obtain ⟨-, ⟨q, hq, hqb⟩, ⟨m, hm, hmb⟩, hpos⟩ := h.2.2.2.2.1.1 p hp
  have hnl : ∀ j, j < 24 → p ∉ L j := fun j hj y => by
    have := h.2.1.2.2.2.2.2 j 24 p (by omega) (by omega) y hpl
    omega
  have hn0 : ∀ i, i < 25 → p ∉ L0 i := fun i hi => (hx i hi).2.1
  have hnow := h.2.2.1.1
  have hz0 := h.2.2.1.2.1
  have hdr := h.2.2.1.2.2.2.2.1
  have hps := h.2.2.1.2.2.2.2.2.2.2.2.2.1
  unfold q_rest q_tail
  by_cases hm0 : m = 0
  · subst hm0
    have e0 : z (92 + p) = 0 := hm
    have hV := (h.set_state hp 2 h3 (by decide) (by decide) (fun j hj y => absurd y (hnl j hj))).off hp hx
    refine ⟨((upd pr.1 (p * 6 + 0) 2, pr.2), ln, dy, lt, ps), upd (upd z (132 + p) 2) (172 + p) (-1), ?_, ?_, L0, T, hV, hcl, by omega, rfl⟩
    · simp only [q_fact3 hp4, Option.bind_some, hpf.2.2.2.1, e0, if_neg (show ¬ (1 : Int32) ≤ 0 by decide), q_write0 hp4]
    · simp (disch := omega) only [q_a92, q_ck, q_cl, e0, ↓reduceIte, q_a132, q_a172, zk_let]
  · have c1 : (1 : Int32) ≤ nI m := nI_le (a := 1) (by omega) (by omega)
    have c2 : ¬ nI m = 0 := nI_ne0 (by omega) (by omega)
    have hq0 : q ≠ 0 := by
      rintro rfl
      exact hpos (by rw [hm]; exact c2) hq
    have cq1 : (1 : Int32) ≤ nI q := nI_le (a := 1) (by omega) (by omega)
    have cq2 : ¬ nI q = 0 := nI_ne0 (by omega) (by omega)
    have em : nI m - 1 = nI (m - 1) := by
      rw [show m = m - 1 + 1 by omega]
      exact nI_pred _
    have hL := h.set_left hp (nI m - 1) ⟨m - 1, em, by omega⟩ (fun _ => by rw [hq]; exact cq2)
    by_cases c4 : drift = 1
    · have hD := hL.set_due hp (nI t + nI q) ⟨t + q, nI_add _ _, by omega⟩
      have hS := hD.set_state hp 0 (by simp (disch := omega) only [pk_un]; exact h3) (by decide) (by decide) (fun _ _ _ => rfl)
      obtain ⟨j', hj', hlf, hsd⟩ := q_dist (d := t + q) (t := t) (by omega) (by omega)
      obtain ⟨ln2, hjn, hcl2⟩ := q_join hcl (j := j') (p := p) (by omega) hp4 hn0
      have hV := hS.stand (j := j') hp (by omega) (fun _ => Or.inl (by simp (disch := omega) only [pk_us, pk_un])) (by omega) hx
      have hsd2 := hsd (upd (upd (upd z (92 + p) (nI m - 1)) (12 + p) (nI t + nI q)) (132 + p) 0) p hp4 (by simp (disch := omega) only [pk_us, pk_un]; exact nI_add _ _) (by simp (disch := omega) only [pk_un]; exact hz0)
      refine ⟨((upd (upd (upd pr.1 (p * 6 + 3) (nI m - 1)) (p * 6 + 1) (nI t + nI q)) (p * 6 + 0) 0, pr.2), ln2, dy, lt, ps), _, ?_, ?_, _, T + 1, hV, hcl2, by omega, by rw [q_up_n (by omega)]⟩
      · unfold f_X8_dueOfRepetition
        simp only [q_fact3 hp4, Option.bind_some, hpf.2.2.2.1, hm, if_pos c1, q_fact2 hp4, hpf.2.2.1, hq, if_pos c4, hnow, q_write3 hp4, q_write1 hp4, q_write0 hp4, nI_add, hlf, hjn]
      · unfold f_X10_callOne_156
        have c4' : z 4 = 1 := hdr ▸ c4
        simp only [zk_let]
        simp (disch := omega) only [q_a92, q_ck, q_cl, hm, if_neg c2, q_n4, q_k4, pk_un, c4', ↓reduceIte, q_n0, q_k0, q_a52, q_a12, q_a132, hz0, hq, hsd2, Option.bind_some]
    · obtain ⟨d', hd', hdb'⟩ := q_rep (d := d) (t := t) (q := q) (by omega) (by omega) (by omega) hqb
      have hD := (hL.set_due hp (nI d') ⟨d', rfl, by omega⟩).set_ps (ps + ((nI t - nI d) / nI q + 1 - 1))
      have hS := hD.set_state hp 0 (by simp (disch := omega) only [pk_un]; exact h3) (by decide) (by decide) (fun _ _ _ => rfl)
      obtain ⟨j', hj', hlf, hsd⟩ := q_dist (d := d') (t := t) (by omega) (by omega)
      obtain ⟨ln2, hjn, hcl2⟩ := q_join hcl (j := j') (p := p) (by omega) hp4 hn0
      have hV := hS.stand (j := j') hp (by omega) (fun _ => Or.inl (by simp (disch := omega) only [pk_us, pk_un])) (by omega) hx
      have hsd2 := hsd (upd (upd (upd (upd z (92 + p) (nI m - 1)) (12 + p) (nI d')) 9 (ps + ((nI t - nI d) / nI q + 1 - 1))) (132 + p) 0) p hp4 (by simp (disch := omega) only [pk_us, pk_un]) (by simp (disch := omega) only [pk_un]; exact hz0)
      refine ⟨((upd (upd (upd pr.1 (p * 6 + 3) (nI m - 1)) (p * 6 + 1) (nI d')) (p * 6 + 0) 0, pr.2), ln2, dy, lt, ps + ((nI t - nI d) / nI q + 1 - 1)), _, ?_, ?_, _, T + 1, hV, hcl2, by omega, by rw [q_up_n (by omega)]⟩
      · unfold f_X8_dueOfRepetition zk_dv
        simp only [q_fact3 hp4, Option.bind_some, hpf.2.2.2.1, hm, if_pos c1, q_fact2 hp4, hpf.2.2.1, hq, if_neg c4, if_pos cq1, if_neg cq2, hd, hnow, zk_let, hd', q_write3 hp4, q_write1 hp4, q_write0 hp4, hlf, hjn]
      · unfold f_X10_callOne_156 zk_dv
        have c4' : ¬ z 4 = 1 := hdr ▸ c4
        rw [hps] at hsd2 ⊢
        simp only [zk_let]
        simp (disch := omega) only [q_a92, q_ck, q_cl, hm, if_neg c2, q_n4, q_k4, pk_un, if_neg c4', q_n0, q_k0, q_a52, q_a12, q_a132, hz0, hq, hd, if_neg cq2, hd', q_n9, q_k9, hsd2, Option.bind_some]
set_option maxHeartbeats 4000000 in
theorem q_call (h : q_V pr dy now room bound drift br lt fl sw ps lo z L n c T t) (hcl : q_CL ln L0) {p : Nat} (hx : q_Lx L L0 p) (hp : p < n) (hpl : p ∈ L 24) (h3 : z (132 + p) ≠ 3) (hT : T < 2 ^ 30) (hc : 21200 + 511 * (c + 1) < 2 ^ 29) (ht : t ≤ 20600) : ∃ r1 r2, f_X8_callPromise (nI p) pr ln dy now drift lt ps = some r1 ∧ f_X10_callOne (nI p) z = some r2 ∧ ∃ L' T', q_V r1.1 r1.2.2.1 now room bound drift br r1.2.2.2.1 fl sw r1.2.2.2.2 lo r2 L' n (c + 1) T' t ∧ q_CL r1.2.1 L' ∧ T' ≤ T + 1 ∧ L' 24 = L0 24 := by
  have hn := h.n4
  have hp4 : p < 40 := by omega
  have hpf := h.1.2 p hp
  have hnow := h.2.2.1.1
  have hz0 := h.2.2.1.2.1
  have hdy := h.2.2.2.1.1
  have hz5 := h.2.2.2.1.2.1
  have hlt := h.2.2.1.2.2.2.2.2.2.1
  obtain ⟨⟨d, hd, hdb⟩, -⟩ := h.2.2.2.2.1.1 p hp
  obtain ⟨z1, hsh, hnc⟩ := q_noteCall hp4 z
  have e12 : q_z2 p z z1 (12 + p) = z (12 + p) := by unfold q_z2; simp (disch := omega) only [pk_un]; exact hsh.1 _ (by omega)
  have e132 : q_z2 p z z1 (132 + p) = z (132 + p) := by unfold q_z2; simp (disch := omega) only [pk_un]; exact hsh.1 _ (by omega)
  have hB := (h.diary hsh (p := p)).set_called hp (z (252 + p) + 1) (by
    obtain ⟨dd, w1, w2⟩ := h.2.2.2.1.2.2.2 p hp4
    exact ⟨dd + 1, by rw [w1, nI_1], by omega⟩)
  rw [q_tail_e, hnc]
  by_cases hl : z 0 ≤ z (12 + p)
  · rw [if_pos hl, Option.bind_some]
    have htd : t ≤ d := by
      rw [hz0, hd] at hl
      exact (nI_leI (by omega) (by omega)).mp hl
    have hle : nI t - nI d ≤ 0 := by
      rw [Int32.le_iff_toInt_le, pk_sub_toInt (by omega) (by omega), show (0 : Int32).toInt = 0 from rfl]
      omega
    obtain ⟨r1, r2, k1, k2, k3⟩ := q_rest_ok hB hcl hx hp hpl (by simp (disch := omega) only [pk_un]; rw [e132]; exact h3) hT (by omega) ht ⟨d, by simp (disch := omega) only [pk_un]; rw [e12]; exact hd, by omega⟩
    refine ⟨r1, r2, ?_, k2, k3⟩
    rw [← k1]
    unfold f_X8_callPromise f_X8_callPromise_51 q_rest
    simp (disch := omega) only [q_fact1 hp4, Option.bind_some, hpf.2.1, hd, hnow, zk_let, if_pos hle, hdy, q_diary, q_fact4 hp4, hpf.2.2.2.2.1, q_write4 hp4, pk_un, e12]
  · rw [if_neg hl, Option.bind_some]
    have htd : ¬ t ≤ d := fun y => hl (by rw [hz0, hd]; exact nI_le y (by omega))
    have hle : ¬ nI t - nI d ≤ 0 := by
      rw [Int32.le_iff_toInt_le, pk_sub_toInt (by omega) (by omega), show (0 : Int32).toInt = 0 from rfl]
      omega
    have hC := (hB.set_lt (lt + 1)).set_late hp (z (292 + p) + (nI t - nI d))
    obtain ⟨r1, r2, k1, k2, k3⟩ := q_rest_ok hC hcl hx hp hpl (by simp (disch := omega) only [pk_un]; rw [e132]; exact h3) hT (by omega) ht ⟨d, by simp (disch := omega) only [pk_un]; rw [e12]; exact hd, by omega⟩
    refine ⟨r1, r2, ?_, ?_, k3⟩
    · rw [← k1]
      unfold f_X8_callPromise f_X8_callPromise_51 q_rest
      simp (disch := omega) only [q_fact1 hp4, Option.bind_some, hpf.2.1, hd, hnow, zk_let, if_neg hle, hdy, q_diary, q_fact5 hp4, hpf.2.2.2.2.2, q_write5 hp4, q_fact4 hp4, hpf.2.2.2.2.1, q_write4 hp4, pk_un, e12, q_upc (f := pr.1) (a := p * 6 + 4) (b := p * 6 + 5)]
    · rw [← k2, hlt, hz0, hd]
end QC
