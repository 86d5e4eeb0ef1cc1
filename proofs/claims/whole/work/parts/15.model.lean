def F_X10_push_128 (v_snaps : (Nat → Int32)) (v_hasSnap : (Nat → Int32)) (v_pastHas : (Nat → Int32)) (v_pastMany : Int32) (k128 : Int32 × (Nat → Int32) → Option ((Nat → Int32) × (Nat → Int32) × Int32)) : Int32 × (Nat → Int32) → Option ((Nat → Int32) × (Nat → Int32) × Int32) := fun s => match s with
  | (x2, v_past) => if 736 ≤ x2 then zk_ck 0 2 (zk_ck (2 * v_pastMany) 10 (zk_let (upd v_pastHas (2 * v_pastMany).toNatClampNeg (vp_nar .boolean (v_hasSnap (0 : Int32).toNatClampNeg))) fun v_pastHas_2 => zk_ck 1 2 (zk_ck ((2 * v_pastMany) + 1) 10 (zk_let (upd v_pastHas_2 ((2 * v_pastMany) + 1).toNatClampNeg (vp_nar .boolean (v_hasSnap (1 : Int32).toNatClampNeg))) fun v_pastHas_3 => zk_let (v_pastMany + 1) fun v_pastMany_4 => some (v_past, v_pastHas_3, v_pastMany_4))))) else zk_ck x2 736 (zk_ck (((1104 * v_pastMany) + 368) + x2) 5520 (zk_let (upd v_past (((1104 * v_pastMany) + 368) + x2).toNatClampNeg (v_snaps x2.toNatClampNeg)) fun v_past_5 => k128 ((x2 + 1), v_past_5)))
def f_X10_push_119 (v_pastHas : (Nat → Int32)) (v_pastMany : Int32) (k79 : Int32 × (Nat → Int32) → Option ((Nat → Int32) × (Nat → Int32) × Int32)) (s119_1 : Int32) (s119_2 : Int32) (x2 : Int32) (v_past : (Nat → Int32)) : Option ((Nat → Int32) × (Nat → Int32) × Int32) := zk_ck s119_1 5520 (zk_let (upd v_past s119_1.toNatClampNeg s119_2) fun v_past_1 => k79 ((x2 + 1), v_past_1))
def F_X10_push_79 (x1 : Int32) (v_z : (Nat → Int32)) (v_snaps : (Nat → Int32)) (v_hasSnap : (Nat → Int32)) (v_before : (Nat → Int32)) (v_pastHas : (Nat → Int32)) (v_pastMany : Int32) (k79 : Int32 × (Nat → Int32) → Option ((Nat → Int32) × (Nat → Int32) × Int32)) : Int32 × (Nat → Int32) → Option ((Nat → Int32) × (Nat → Int32) × Int32) := fun s => match s with
  | (x2, v_past) => if 368 ≤ x2 then zk_fx (F_X10_push_128 v_snaps v_hasSnap v_pastHas v_pastMany ) zk_N (0, v_past) else if x1 = 0 then zk_ck x2 368 (f_X10_push_119 v_pastHas v_pastMany k79 ((1104 * v_pastMany) + x2) (v_z x2.toNatClampNeg) x2 v_past) else zk_ck x2 368 (f_X10_push_119 v_pastHas v_pastMany k79 ((1104 * v_pastMany) + x2) (v_before x2.toNatClampNeg) x2 v_past)
def f_X10_push_77 (x1 : Int32) (v_z : (Nat → Int32)) (v_snaps : (Nat → Int32)) (v_hasSnap : (Nat → Int32)) (v_before : (Nat → Int32)) (v_past : (Nat → Int32)) (v_pastHas : (Nat → Int32)) (v_pastMany : Int32) : Option ((Nat → Int32) × (Nat → Int32) × Int32) := zk_fx (F_X10_push_79 x1 v_z v_snaps v_hasSnap v_before v_pastHas v_pastMany ) zk_N (0, v_past)
def F_X10_push_41 (x1 : Int32) (v_z : (Nat → Int32)) (v_snaps : (Nat → Int32)) (v_hasSnap : (Nat → Int32)) (v_before : (Nat → Int32)) (v_past : (Nat → Int32)) (v_pastMany : Int32) (k41 : Int32 × (Nat → Int32) → Option ((Nat → Int32) × (Nat → Int32) × Int32)) : Int32 × (Nat → Int32) → Option ((Nat → Int32) × (Nat → Int32) × Int32) := fun s => match s with
  | (x2, v_pastHas) => if 8 ≤ x2 then zk_let (v_pastMany - 1) fun v_pastMany_7 => f_X10_push_77 x1 v_z v_snaps v_hasSnap v_before v_past v_pastHas v_pastMany_7 else zk_ck (x2 + 2) 10 (zk_ck x2 10 (zk_let (upd v_pastHas x2.toNatClampNeg (vp_nar .boolean (v_pastHas (x2 + 2).toNatClampNeg))) fun v_pastHas_8 => k41 ((x2 + 1), v_pastHas_8)))
def F_X10_push_10 (x1 : Int32) (v_z : (Nat → Int32)) (v_snaps : (Nat → Int32)) (v_hasSnap : (Nat → Int32)) (v_before : (Nat → Int32)) (v_pastHas : (Nat → Int32)) (v_pastMany : Int32) (k10 : Int32 × (Nat → Int32) → Option ((Nat → Int32) × (Nat → Int32) × Int32)) : Int32 × (Nat → Int32) → Option ((Nat → Int32) × (Nat → Int32) × Int32) := fun s => match s with
  | (x2, v_past) => if 4416 ≤ x2 then zk_fx (F_X10_push_41 x1 v_z v_snaps v_hasSnap v_before v_past v_pastMany ) zk_N (0, v_pastHas) else zk_ck (x2 + 1104) 5520 (zk_ck x2 5520 (zk_let (upd v_past x2.toNatClampNeg (v_past (x2 + 1104).toNatClampNeg)) fun v_past_6 => k10 ((x2 + 1), v_past_6)))
def f_X10_push (x1 : Int32) (v_z : (Nat → Int32)) (v_snaps : (Nat → Int32)) (v_hasSnap : (Nat → Int32)) (v_past : (Nat → Int32)) (v_pastHas : (Nat → Int32)) (v_pastMany : Int32) (v_before : (Nat → Int32)) : Option ((Nat → Int32) × (Nat → Int32) × Int32) := if v_pastMany = 5 then zk_fx (F_X10_push_10 x1 v_z v_snaps v_hasSnap v_before v_pastHas v_pastMany ) zk_N (0, v_past) else f_X10_push_77 x1 v_z v_snaps v_hasSnap v_before v_past v_pastHas v_pastMany
theorem kX10_push_inX10 : ∀ w ∈ u_ws RX10 TX10 16, w ∈ wsX10_push := by decide +kernel
theorem kX10_push_1 : Cond.fieldLink RX10 42 (TX10 5).1 (TX10 5).2.1 (TX10 5).2.2.1 ∈ wsX10_push := by decide +kernel
theorem kX10_push_2 : Cond.fieldLink RX10 20 (TX10 3).1 (TX10 3).2.1 (TX10 3).2.2.1 ∈ wsX10_push := by decide +kernel
theorem kX10_push_3 : Cond.fieldLink RX10 7 (TX10 0).1 (TX10 0).2.1 (TX10 0).2.2.1 ∈ wsX10_push := by decide +kernel
theorem kX10_push_4 : Cond.fieldLink RX10 26 (TX10 6).1 (TX10 6).2.1 (TX10 6).2.2.1 ∈ wsX10_push := by decide +kernel
theorem kX10_push_5 : Cond.fieldLink RX10 23 (TX10 4).1 (TX10 4).2.1 (TX10 4).2.2.1 ∈ wsX10_push := by decide +kernel
theorem kX10_push_6 : Cond.fieldLink RX10 16 (TX10 2).1 (TX10 2).2.1 (TX10 2).2.2.1 ∈ wsX10_push := by decide +kernel
theorem kX10_push_7 : Cond.fieldLink RX10 13 (TX10 1).1 (TX10 1).2.1 (TX10 1).2.2.1 ∈ wsX10_push := by decide +kernel
theorem cd_X10_push : yX10_push.cls = RX10 ∧ yX10_push.cls ≠ "java/lang/invoke/MethodHandle" ∧ yX10_push.cls ≠ "java/lang/invoke/VarHandle" ∧ (parseMethodDescriptor yX10_push.desc).map (fun d => d.parameters.length) = some 1 := by decide +kernel
set_option maxRecDepth 100000 in
set_option maxHeartbeats 4000000 in
theorem c_X10_push (E : zk_Env) (l : Launch) (a : aX10) (v : VX10) (x1 : Int32) : zk_Mc E l yX10_push wsX10_push ({ frames := 0, cells := 0, slots := 0, locals := 0 } : Room) [.ref a.1, .int x1] (gX10 E a v) (f_X10_push x1 v.1 v.2.1 v.2.2.1 v.2.2.2.1 v.2.2.2.2.1 v.2.2.2.2.2.1 v.2.2.2.2.2.2.1) (fun _ => none) (fun r => (gX10 E a (v.1, v.2.1, v.2.2.1, r.1, r.2.1, r.2.2, v.2.2.2.2.2.2))) := by
  obtain ⟨v_z, v_snaps, v_hasSnap, v_past, v_pastHas, v_pastMany, v_before, v_spare, v_text, v_typed, v_failure, v_hasFailed, v_isQuiet, v_from, v_end, v_numbers⟩ := v
  refine zk_M (cc := cX10_push) (nL := 3) (ret := none) (by decide) rfl (Nat.le_of_ble_eq_true rfl) (fun X Q hQ => ?_)
  have J128 : ∀ (v_pastHas : (Nat → Int32)) (v_pastMany : Int32) (n : Nat) (x2 : Int32) (v_past : (Nat → Int32)), zk_G E l X cX10_push 3 none yX10_push.cls wsX10_push ({ frames := 0, cells := 0, slots := 0, locals := 0 } : Room) 0 0 Q (gX10 E a (v_z, v_snaps, v_hasSnap, v_past, v_pastHas, v_pastMany, v_before, v_spare, v_text, v_typed, v_failure, v_hasFailed, v_isQuiet, v_from, v_end, v_numbers)) [(0, .ref a.1), (2, .int x2)] 128 [] (zk_fx (F_X10_push_128 v_snaps v_hasSnap v_pastHas v_pastMany ) n (x2, v_past)) := by
    intro v_pastHas v_pastMany n x2 v_past
    refine zk_loop (S := Int32 × (Nat → Int32)) (F := F_X10_push_128 v_snaps v_hasSnap v_pastHas v_pastMany) (wS := fun s => (gX10 E a (v_z, v_snaps, v_hasSnap, s.2, v_pastHas, v_pastMany, v_before, v_spare, v_text, v_typed, v_failure, v_hasFailed, v_isQuiet, v_from, v_end, v_numbers))) (lS := fun s => [(0, .ref a.1), (2, .int s.1)]) (sS := fun _ => []) (fun k128 hk128 s => ?_) n (x2, v_past)
    obtain ⟨x2, v_past⟩ := s
    unfold F_X10_push_128
    try dsimp only
    refine zk_iload_n dX10_push_128 1 rfl 129 rfl ?_
    refine zk_sipush 736 dX10_push_129 (by decide) 132 rfl ?_
    refine zk_icmp_ge dX10_push_132 166 (by decide) 135 rfl (fun _ => ?_) (fun _ => ?_)
    · refine zk_aload_n dX10_push_166 0 rfl 167 rfl ?_
      refine zk_get dX10_push_167 0 rfl rfl kX10_push_inX10 4 (by decide) kX10_push_5 rfl 170 rfl ?_
      refine zk_iconst 2 dX10_push_170 (by decide) 171 rfl ?_
      refine zk_aload_n dX10_push_171 0 rfl 172 rfl ?_
      refine zk_get dX10_push_172 0 rfl rfl kX10_push_inX10 5 (by decide) kX10_push_1 rfl 175 rfl ?_
      refine zk_imul dX10_push_175 176 rfl ?_
      refine zk_aload_n dX10_push_176 0 rfl 177 rfl ?_
      refine zk_get dX10_push_177 0 rfl rfl kX10_push_inX10 2 (by decide) kX10_push_6 rfl 180 rfl ?_
      refine zk_iconst 0 dX10_push_180 (by decide) 181 rfl ?_
      refine zk_zald dX10_push_181 3 rfl 182 rfl ?_
      refine zk_zast (gX10 E a (v_z, v_snaps, v_hasSnap, v_past, (upd v_pastHas (2 * v_pastMany).toNatClampNeg (vp_nar .boolean (v_hasSnap (0 : Int32).toNatClampNeg))), v_pastMany, v_before, v_spare, v_text, v_typed, v_failure, v_hasFailed, v_isQuiet, v_from, v_end, v_numbers)) dX10_push_182 5 rfl rfl 183 rfl ?_
      refine zk_nmw (fun v_pastHas_2 => (gX10 E a (v_z, v_snaps, v_hasSnap, v_past, v_pastHas_2, v_pastMany, v_before, v_spare, v_text, v_typed, v_failure, v_hasFailed, v_isQuiet, v_from, v_end, v_numbers))) _ rfl (fun v_pastHas_2 => ?_)
      refine zk_aload_n dX10_push_183 0 rfl 184 rfl ?_
      refine zk_get dX10_push_184 0 rfl rfl kX10_push_inX10 4 (by decide) kX10_push_5 rfl 187 rfl ?_
      refine zk_iconst 2 dX10_push_187 (by decide) 188 rfl ?_
      refine zk_aload_n dX10_push_188 0 rfl 189 rfl ?_
      refine zk_get dX10_push_189 0 rfl rfl kX10_push_inX10 5 (by decide) kX10_push_1 rfl 192 rfl ?_
      refine zk_imul dX10_push_192 193 rfl ?_
      refine zk_iconst 1 dX10_push_193 (by decide) 194 rfl ?_
      refine zk_iadd dX10_push_194 195 rfl ?_
      refine zk_aload_n dX10_push_195 0 rfl 196 rfl ?_
      refine zk_get dX10_push_196 0 rfl rfl kX10_push_inX10 2 (by decide) kX10_push_6 rfl 199 rfl ?_
      refine zk_iconst 1 dX10_push_199 (by decide) 200 rfl ?_
      refine zk_zald dX10_push_200 3 rfl 201 rfl ?_
      refine zk_zast (gX10 E a (v_z, v_snaps, v_hasSnap, v_past, (upd v_pastHas_2 ((2 * v_pastMany) + 1).toNatClampNeg (vp_nar .boolean (v_hasSnap (1 : Int32).toNatClampNeg))), v_pastMany, v_before, v_spare, v_text, v_typed, v_failure, v_hasFailed, v_isQuiet, v_from, v_end, v_numbers)) dX10_push_201 5 rfl rfl 202 rfl ?_
      refine zk_nmw (fun v_pastHas_3 => (gX10 E a (v_z, v_snaps, v_hasSnap, v_past, v_pastHas_3, v_pastMany, v_before, v_spare, v_text, v_typed, v_failure, v_hasFailed, v_isQuiet, v_from, v_end, v_numbers))) _ rfl (fun v_pastHas_3 => ?_)
      refine zk_aload_n dX10_push_202 0 rfl 203 rfl ?_
      refine zk_dup dX10_push_203 rfl 204 rfl ?_
      refine zk_get dX10_push_204 0 rfl rfl kX10_push_inX10 5 (by decide) kX10_push_1 rfl 207 rfl ?_
      refine zk_iconst 1 dX10_push_207 (by decide) 208 rfl ?_
      refine zk_iadd dX10_push_208 209 rfl ?_
      refine zk_nm (fun v_pastMany_4 => ?_)
      refine zk_put_ tyX10 (gX10 E a (v_z, v_snaps, v_hasSnap, v_past, v_pastHas_3, v_pastMany_4, v_before, v_spare, v_text, v_typed, v_failure, v_hasFailed, v_isQuiet, v_from, v_end, v_numbers)) dX10_push_209 0 rfl rfl kX10_push_inX10 tyX10_ok nmX10 5 (by decide) kX10_push_1 rfl (tyX10_ok 5 (by decide)) rfl rfl (Nat.le_of_ble_eq_true rfl) rfl 212 rfl ?_
      exact zk_vret hQ dX10_push_212 rfl rfl
    · refine zk_aload_n dX10_push_135 0 rfl 136 rfl ?_
      refine zk_get dX10_push_136 0 rfl rfl kX10_push_inX10 3 (by decide) kX10_push_2 rfl 139 rfl ?_
      refine zk_sipush 1104 dX10_push_139 (by decide) 142 rfl ?_
      refine zk_aload_n dX10_push_142 0 rfl 143 rfl ?_
      refine zk_get dX10_push_143 0 rfl rfl kX10_push_inX10 5 (by decide) kX10_push_1 rfl 146 rfl ?_
      refine zk_imul dX10_push_146 147 rfl ?_
      refine zk_sipush 368 dX10_push_147 (by decide) 150 rfl ?_
      refine zk_iadd dX10_push_150 151 rfl ?_
      refine zk_iload_n dX10_push_151 1 rfl 152 rfl ?_
      refine zk_iadd dX10_push_152 153 rfl ?_
      refine zk_aload_n dX10_push_153 0 rfl 154 rfl ?_
      refine zk_get dX10_push_154 0 rfl rfl kX10_push_inX10 1 (by decide) kX10_push_7 rfl 157 rfl ?_
      refine zk_iload_n dX10_push_157 1 rfl 158 rfl ?_
      refine zk_iald dX10_push_158 2 rfl 159 rfl ?_
      refine zk_iast (gX10 E a (v_z, v_snaps, v_hasSnap, (upd v_past (((1104 * v_pastMany) + 368) + x2).toNatClampNeg (v_snaps x2.toNatClampNeg)), v_pastHas, v_pastMany, v_before, v_spare, v_text, v_typed, v_failure, v_hasFailed, v_isQuiet, v_from, v_end, v_numbers)) dX10_push_159 4 rfl rfl 160 rfl ?_
      refine zk_nmw (fun v_past_5 => (gX10 E a (v_z, v_snaps, v_hasSnap, v_past_5, v_pastHas, v_pastMany, v_before, v_spare, v_text, v_typed, v_failure, v_hasFailed, v_isQuiet, v_from, v_end, v_numbers))) _ rfl (fun v_past_5 => ?_)
      refine zk_iinc (x2 + 1) [(2, .int (x2 + 1)), (0, .ref a.1)] dX10_push_160 1 rfl rfl (by decide) rfl 163 rfl ?_
      refine zk_goto dX10_push_163 128 (by decide) ?_
      refine zk_lv [1, 0] rfl ?_
      exact hk128 ((x2 + 1), v_past_5)
  have J119 : ∀ (v_pastHas : (Nat → Int32)) (v_pastMany : Int32) (k79 : Int32 × (Nat → Int32) → Option ((Nat → Int32) × (Nat → Int32) × Int32)) (hk79 : ∀ s : Int32 × (Nat → Int32), zk_G E l X cX10_push 3 none yX10_push.cls wsX10_push ({ frames := 0, cells := 0, slots := 0, locals := 0 } : Room) 0 0 Q (gX10 E a (v_z, v_snaps, v_hasSnap, s.2, v_pastHas, v_pastMany, v_before, v_spare, v_text, v_typed, v_failure, v_hasFailed, v_isQuiet, v_from, v_end, v_numbers)) [(0, .ref a.1), (1, .int x1), (2, .int s.1)] 79 [] (k79 s)) (s119_1 : Int32) (s119_2 : Int32) (x2 : Int32) (v_past : (Nat → Int32)), zk_G E l X cX10_push 3 none yX10_push.cls wsX10_push ({ frames := 0, cells := 0, slots := 0, locals := 0 } : Room) 0 0 Q (gX10 E a (v_z, v_snaps, v_hasSnap, v_past, v_pastHas, v_pastMany, v_before, v_spare, v_text, v_typed, v_failure, v_hasFailed, v_isQuiet, v_from, v_end, v_numbers)) [(0, .ref a.1), (1, .int x1), (2, .int x2)] 119 [.int s119_2, .int s119_1, .ref a.2.2.2.2.1] (f_X10_push_119 v_pastHas v_pastMany k79 s119_1 s119_2 x2 v_past) := by
    intro v_pastHas v_pastMany k79 hk79 s119_1 s119_2 x2 v_past
    unfold f_X10_push_119
    refine zk_iast (gX10 E a (v_z, v_snaps, v_hasSnap, (upd v_past s119_1.toNatClampNeg s119_2), v_pastHas, v_pastMany, v_before, v_spare, v_text, v_typed, v_failure, v_hasFailed, v_isQuiet, v_from, v_end, v_numbers)) dX10_push_119 4 rfl rfl 120 rfl ?_
    refine zk_nmw (fun v_past_1 => (gX10 E a (v_z, v_snaps, v_hasSnap, v_past_1, v_pastHas, v_pastMany, v_before, v_spare, v_text, v_typed, v_failure, v_hasFailed, v_isQuiet, v_from, v_end, v_numbers))) _ rfl (fun v_past_1 => ?_)
    refine zk_iinc (x2 + 1) [(2, .int (x2 + 1)), (0, .ref a.1), (1, .int x1)] dX10_push_120 2 rfl rfl (by decide) rfl 123 rfl ?_
    refine zk_goto dX10_push_123 79 (by decide) ?_
    refine zk_lv [1, 2, 0] rfl ?_
    exact hk79 ((x2 + 1), v_past_1)
  have J79 : ∀ (v_pastHas : (Nat → Int32)) (v_pastMany : Int32) (n : Nat) (x2 : Int32) (v_past : (Nat → Int32)), zk_G E l X cX10_push 3 none yX10_push.cls wsX10_push ({ frames := 0, cells := 0, slots := 0, locals := 0 } : Room) 0 0 Q (gX10 E a (v_z, v_snaps, v_hasSnap, v_past, v_pastHas, v_pastMany, v_before, v_spare, v_text, v_typed, v_failure, v_hasFailed, v_isQuiet, v_from, v_end, v_numbers)) [(0, .ref a.1), (1, .int x1), (2, .int x2)] 79 [] (zk_fx (F_X10_push_79 x1 v_z v_snaps v_hasSnap v_before v_pastHas v_pastMany ) n (x2, v_past)) := by
    intro v_pastHas v_pastMany n x2 v_past
    refine zk_loop (S := Int32 × (Nat → Int32)) (F := F_X10_push_79 x1 v_z v_snaps v_hasSnap v_before v_pastHas v_pastMany) (wS := fun s => (gX10 E a (v_z, v_snaps, v_hasSnap, s.2, v_pastHas, v_pastMany, v_before, v_spare, v_text, v_typed, v_failure, v_hasFailed, v_isQuiet, v_from, v_end, v_numbers))) (lS := fun s => [(0, .ref a.1), (1, .int x1), (2, .int s.1)]) (sS := fun _ => []) (fun k79 hk79 s => ?_) n (x2, v_past)
    obtain ⟨x2, v_past⟩ := s
    unfold F_X10_push_79
    try dsimp only
    refine zk_iload_n dX10_push_79 2 rfl 80 rfl ?_
    refine zk_sipush 368 dX10_push_80 (by decide) 83 rfl ?_
    refine zk_icmp_ge dX10_push_83 126 (by decide) 86 rfl (fun _ => ?_) (fun _ => ?_)
    · refine zk_iconst 0 dX10_push_126 (by decide) 127 rfl ?_
      refine zk_istore_n [(2, .int 0), (0, .ref a.1), (1, .int x1)] dX10_push_127 (by decide) rfl 128 rfl ?_
      refine zk_lv [1, 0] rfl ?_
      exact J128   v_pastHas v_pastMany zk_N 0 v_past
    · refine zk_aload_n dX10_push_86 0 rfl 87 rfl ?_
      refine zk_get dX10_push_87 0 rfl rfl kX10_push_inX10 3 (by decide) kX10_push_2 rfl 90 rfl ?_
      refine zk_sipush 1104 dX10_push_90 (by decide) 93 rfl ?_
      refine zk_aload_n dX10_push_93 0 rfl 94 rfl ?_
      refine zk_get dX10_push_94 0 rfl rfl kX10_push_inX10 5 (by decide) kX10_push_1 rfl 97 rfl ?_
      refine zk_imul dX10_push_97 98 rfl ?_
      refine zk_iload_n dX10_push_98 2 rfl 99 rfl ?_
      refine zk_iadd dX10_push_99 100 rfl ?_
      refine zk_iload_n dX10_push_100 1 rfl 101 rfl ?_
      refine zk_if_eq dX10_push_101 113 (by decide) 104 rfl (fun _ => ?_) (fun _ => ?_)
      · refine zk_aload_n dX10_push_113 0 rfl 114 rfl ?_
        refine zk_get dX10_push_114 0 rfl rfl kX10_push_inX10 0 (by decide) kX10_push_3 rfl 117 rfl ?_
        refine zk_iload_n dX10_push_117 2 rfl 118 rfl ?_
        refine zk_iald dX10_push_118 1 rfl 119 rfl ?_
        exact J119 v_pastHas v_pastMany k79 hk79 ((1104 * v_pastMany) + x2) (v_z x2.toNatClampNeg) x2 v_past
      · refine zk_aload_n dX10_push_104 0 rfl 105 rfl ?_
        refine zk_get dX10_push_105 0 rfl rfl kX10_push_inX10 6 (by decide) kX10_push_4 rfl 108 rfl ?_
        refine zk_iload_n dX10_push_108 2 rfl 109 rfl ?_
        refine zk_iald dX10_push_109 6 rfl 110 rfl ?_
        refine zk_goto dX10_push_110 119 (by decide) ?_
        exact J119 v_pastHas v_pastMany k79 hk79 ((1104 * v_pastMany) + x2) (v_before x2.toNatClampNeg) x2 v_past
  have J77 : ∀ (v_past : (Nat → Int32)) (v_pastHas : (Nat → Int32)) (v_pastMany : Int32), zk_G E l X cX10_push 3 none yX10_push.cls wsX10_push ({ frames := 0, cells := 0, slots := 0, locals := 0 } : Room) 0 0 Q (gX10 E a (v_z, v_snaps, v_hasSnap, v_past, v_pastHas, v_pastMany, v_before, v_spare, v_text, v_typed, v_failure, v_hasFailed, v_isQuiet, v_from, v_end, v_numbers)) [(0, .ref a.1), (1, .int x1)] 77 [] (f_X10_push_77 x1 v_z v_snaps v_hasSnap v_before v_past v_pastHas v_pastMany) := by
    intro v_past v_pastHas v_pastMany
    unfold f_X10_push_77
    refine zk_iconst 0 dX10_push_77 (by decide) 78 rfl ?_
    refine zk_istore_n [(2, .int 0), (0, .ref a.1), (1, .int x1)] dX10_push_78 (by decide) rfl 79 rfl ?_
    refine zk_lv [1, 2, 0] rfl ?_
    exact J79   v_pastHas v_pastMany zk_N 0 v_past
  have J41 : ∀ (v_past : (Nat → Int32)) (v_pastMany : Int32) (n : Nat) (x2 : Int32) (v_pastHas : (Nat → Int32)), zk_G E l X cX10_push 3 none yX10_push.cls wsX10_push ({ frames := 0, cells := 0, slots := 0, locals := 0 } : Room) 0 0 Q (gX10 E a (v_z, v_snaps, v_hasSnap, v_past, v_pastHas, v_pastMany, v_before, v_spare, v_text, v_typed, v_failure, v_hasFailed, v_isQuiet, v_from, v_end, v_numbers)) [(0, .ref a.1), (1, .int x1), (2, .int x2)] 41 [] (zk_fx (F_X10_push_41 x1 v_z v_snaps v_hasSnap v_before v_past v_pastMany ) n (x2, v_pastHas)) := by
    intro v_past v_pastMany n x2 v_pastHas
    refine zk_loop (S := Int32 × (Nat → Int32)) (F := F_X10_push_41 x1 v_z v_snaps v_hasSnap v_before v_past v_pastMany) (wS := fun s => (gX10 E a (v_z, v_snaps, v_hasSnap, v_past, s.2, v_pastMany, v_before, v_spare, v_text, v_typed, v_failure, v_hasFailed, v_isQuiet, v_from, v_end, v_numbers))) (lS := fun s => [(0, .ref a.1), (1, .int x1), (2, .int s.1)]) (sS := fun _ => []) (fun k41 hk41 s => ?_) n (x2, v_pastHas)
    obtain ⟨x2, v_pastHas⟩ := s
    unfold F_X10_push_41
    try dsimp only
    refine zk_iload_n dX10_push_41 2 rfl 42 rfl ?_
    refine zk_bipush 8 dX10_push_42 (by decide) 44 rfl ?_
    refine zk_icmp_ge dX10_push_44 67 (by decide) 47 rfl (fun _ => ?_) (fun _ => ?_)
    · refine zk_aload_n dX10_push_67 0 rfl 68 rfl ?_
      refine zk_dup dX10_push_68 rfl 69 rfl ?_
      refine zk_get dX10_push_69 0 rfl rfl kX10_push_inX10 5 (by decide) kX10_push_1 rfl 72 rfl ?_
      refine zk_iconst 1 dX10_push_72 (by decide) 73 rfl ?_
      refine zk_isub dX10_push_73 74 rfl ?_
      refine zk_nm (fun v_pastMany_7 => ?_)
      refine zk_put_ tyX10 (gX10 E a (v_z, v_snaps, v_hasSnap, v_past, v_pastHas, v_pastMany_7, v_before, v_spare, v_text, v_typed, v_failure, v_hasFailed, v_isQuiet, v_from, v_end, v_numbers)) dX10_push_74 0 rfl rfl kX10_push_inX10 tyX10_ok nmX10 5 (by decide) kX10_push_1 rfl (tyX10_ok 5 (by decide)) rfl rfl (Nat.le_of_ble_eq_true rfl) rfl 77 rfl ?_
      refine zk_lv [0, 1] rfl ?_
      exact J77   v_past v_pastHas v_pastMany_7
    · refine zk_aload_n dX10_push_47 0 rfl 48 rfl ?_
      refine zk_get dX10_push_48 0 rfl rfl kX10_push_inX10 4 (by decide) kX10_push_5 rfl 51 rfl ?_
      refine zk_iload_n dX10_push_51 2 rfl 52 rfl ?_
      refine zk_aload_n dX10_push_52 0 rfl 53 rfl ?_
      refine zk_get dX10_push_53 0 rfl rfl kX10_push_inX10 4 (by decide) kX10_push_5 rfl 56 rfl ?_
      refine zk_iload_n dX10_push_56 2 rfl 57 rfl ?_
      refine zk_iconst 2 dX10_push_57 (by decide) 58 rfl ?_
      refine zk_iadd dX10_push_58 59 rfl ?_
      refine zk_zald dX10_push_59 5 rfl 60 rfl ?_
      refine zk_zast (gX10 E a (v_z, v_snaps, v_hasSnap, v_past, (upd v_pastHas x2.toNatClampNeg (vp_nar .boolean (v_pastHas (x2 + 2).toNatClampNeg))), v_pastMany, v_before, v_spare, v_text, v_typed, v_failure, v_hasFailed, v_isQuiet, v_from, v_end, v_numbers)) dX10_push_60 5 rfl rfl 61 rfl ?_
      refine zk_nmw (fun v_pastHas_8 => (gX10 E a (v_z, v_snaps, v_hasSnap, v_past, v_pastHas_8, v_pastMany, v_before, v_spare, v_text, v_typed, v_failure, v_hasFailed, v_isQuiet, v_from, v_end, v_numbers))) _ rfl (fun v_pastHas_8 => ?_)
      refine zk_iinc (x2 + 1) [(2, .int (x2 + 1)), (0, .ref a.1), (1, .int x1)] dX10_push_61 2 rfl rfl (by decide) rfl 64 rfl ?_
      refine zk_goto dX10_push_64 41 (by decide) ?_
      refine zk_lv [1, 2, 0] rfl ?_
      exact hk41 ((x2 + 1), v_pastHas_8)
  have J10 : ∀ (v_pastHas : (Nat → Int32)) (v_pastMany : Int32) (n : Nat) (x2 : Int32) (v_past : (Nat → Int32)), zk_G E l X cX10_push 3 none yX10_push.cls wsX10_push ({ frames := 0, cells := 0, slots := 0, locals := 0 } : Room) 0 0 Q (gX10 E a (v_z, v_snaps, v_hasSnap, v_past, v_pastHas, v_pastMany, v_before, v_spare, v_text, v_typed, v_failure, v_hasFailed, v_isQuiet, v_from, v_end, v_numbers)) [(0, .ref a.1), (1, .int x1), (2, .int x2)] 10 [] (zk_fx (F_X10_push_10 x1 v_z v_snaps v_hasSnap v_before v_pastHas v_pastMany ) n (x2, v_past)) := by
    intro v_pastHas v_pastMany n x2 v_past
    refine zk_loop (S := Int32 × (Nat → Int32)) (F := F_X10_push_10 x1 v_z v_snaps v_hasSnap v_before v_pastHas v_pastMany) (wS := fun s => (gX10 E a (v_z, v_snaps, v_hasSnap, s.2, v_pastHas, v_pastMany, v_before, v_spare, v_text, v_typed, v_failure, v_hasFailed, v_isQuiet, v_from, v_end, v_numbers))) (lS := fun s => [(0, .ref a.1), (1, .int x1), (2, .int s.1)]) (sS := fun _ => []) (fun k10 hk10 s => ?_) n (x2, v_past)
    obtain ⟨x2, v_past⟩ := s
    unfold F_X10_push_10
    try dsimp only
    refine zk_iload_n dX10_push_10 2 rfl 11 rfl ?_
    refine zk_sipush 4416 dX10_push_11 (by decide) 14 rfl ?_
    refine zk_icmp_ge dX10_push_14 39 (by decide) 17 rfl (fun _ => ?_) (fun _ => ?_)
    · refine zk_iconst 0 dX10_push_39 (by decide) 40 rfl ?_
      refine zk_istore_n [(2, .int 0), (0, .ref a.1), (1, .int x1)] dX10_push_40 (by decide) rfl 41 rfl ?_
      refine zk_lv [1, 2, 0] rfl ?_
      exact J41   v_past v_pastMany zk_N 0 v_pastHas
    · refine zk_aload_n dX10_push_17 0 rfl 18 rfl ?_
      refine zk_get dX10_push_18 0 rfl rfl kX10_push_inX10 3 (by decide) kX10_push_2 rfl 21 rfl ?_
      refine zk_iload_n dX10_push_21 2 rfl 22 rfl ?_
      refine zk_aload_n dX10_push_22 0 rfl 23 rfl ?_
      refine zk_get dX10_push_23 0 rfl rfl kX10_push_inX10 3 (by decide) kX10_push_2 rfl 26 rfl ?_
      refine zk_iload_n dX10_push_26 2 rfl 27 rfl ?_
      refine zk_sipush 1104 dX10_push_27 (by decide) 30 rfl ?_
      refine zk_iadd dX10_push_30 31 rfl ?_
      refine zk_iald dX10_push_31 4 rfl 32 rfl ?_
      refine zk_iast (gX10 E a (v_z, v_snaps, v_hasSnap, (upd v_past x2.toNatClampNeg (v_past (x2 + 1104).toNatClampNeg)), v_pastHas, v_pastMany, v_before, v_spare, v_text, v_typed, v_failure, v_hasFailed, v_isQuiet, v_from, v_end, v_numbers)) dX10_push_32 4 rfl rfl 33 rfl ?_
      refine zk_nmw (fun v_past_6 => (gX10 E a (v_z, v_snaps, v_hasSnap, v_past_6, v_pastHas, v_pastMany, v_before, v_spare, v_text, v_typed, v_failure, v_hasFailed, v_isQuiet, v_from, v_end, v_numbers))) _ rfl (fun v_past_6 => ?_)
      refine zk_iinc (x2 + 1) [(2, .int (x2 + 1)), (0, .ref a.1), (1, .int x1)] dX10_push_33 2 rfl rfl (by decide) rfl 36 rfl ?_
      refine zk_goto dX10_push_36 10 (by decide) ?_
      refine zk_lv [1, 2, 0] rfl ?_
      exact hk10 ((x2 + 1), v_past_6)
  refine zk_eqv (w1 := (gX10 E a (v_z, v_snaps, v_hasSnap, v_past, v_pastHas, v_pastMany, v_before, v_spare, v_text, v_typed, v_failure, v_hasFailed, v_isQuiet, v_from, v_end, v_numbers))) (lv1 := [(0, .ref a.1), (1, .int x1)]) (st1 := []) (o1 := f_X10_push x1 v_z v_snaps v_hasSnap v_past v_pastHas v_pastMany v_before) rfl rfl rfl rfl ?_
  unfold f_X10_push
  refine zk_aload_n dX10_push_0 0 rfl 1 rfl ?_
  refine zk_get dX10_push_1 0 rfl rfl kX10_push_inX10 5 (by decide) kX10_push_1 rfl 4 rfl ?_
  refine zk_iconst 5 dX10_push_4 (by decide) 5 rfl ?_
  refine zk_icmp_ne dX10_push_5 77 (by decide) 8 rfl (fun _ => ?_) (fun _ => ?_)
  · refine zk_iconst 0 dX10_push_8 (by decide) 9 rfl ?_
    refine zk_istore_n [(2, .int 0), (0, .ref a.1), (1, .int x1)] dX10_push_9 (by decide) rfl 10 rfl ?_
    refine zk_lv [1, 2, 0] rfl ?_
    exact J10   v_pastHas v_pastMany zk_N 0 v_past
  · exact J77   v_past v_pastHas v_pastMany
def f_X10_record (v_z : (Nat → Int32)) (v_snaps : (Nat → Int32)) (v_hasSnap : (Nat → Int32)) (v_past : (Nat → Int32)) (v_pastHas : (Nat → Int32)) (v_pastMany : Int32) (v_before : (Nat → Int32)) (v_isQuiet : Int32) : Option ((Nat → Int32) × (Nat → Int32) × Int32) := if v_isQuiet = 0 then (f_X10_push 0 v_z v_snaps v_hasSnap v_past v_pastHas v_pastMany v_before).bind fun r9 => some (r9.1, r9.2.1, r9.2.2) else some (v_past, v_pastHas, v_pastMany)
theorem kX10_record_inX10 : ∀ w ∈ u_ws RX10 TX10 16, w ∈ wsX10_record := by decide +kernel
theorem kX10_record_1 : Cond.fieldLink RX10 46 (TX10 12).1 (TX10 12).2.1 (TX10 12).2.2.1 ∈ wsX10_record := by decide +kernel
theorem cd_X10_record : yX10_record.cls = RX10 ∧ yX10_record.cls ≠ "java/lang/invoke/MethodHandle" ∧ yX10_record.cls ≠ "java/lang/invoke/VarHandle" ∧ (parseMethodDescriptor yX10_record.desc).map (fun d => d.parameters.length) = some 0 := by decide +kernel
set_option maxRecDepth 100000 in
set_option maxHeartbeats 4000000 in
theorem c_X10_record (E : zk_Env) (l : Launch) (a : aX10) (v : VX10)  : zk_Mc E l yX10_record wsX10_record ({ frames := 1, cells := 0, slots := 0, locals := 22 } : Room) [.ref a.1] (gX10 E a v) (f_X10_record v.1 v.2.1 v.2.2.1 v.2.2.2.1 v.2.2.2.2.1 v.2.2.2.2.2.1 v.2.2.2.2.2.2.1 v.2.2.2.2.2.2.2.2.2.2.2.2.1) (fun _ => none) (fun r => (gX10 E a (v.1, v.2.1, v.2.2.1, r.1, r.2.1, r.2.2, v.2.2.2.2.2.2))) := by
  obtain ⟨v_z, v_snaps, v_hasSnap, v_past, v_pastHas, v_pastMany, v_before, v_spare, v_text, v_typed, v_failure, v_hasFailed, v_isQuiet, v_from, v_end, v_numbers⟩ := v
  refine zk_M (cc := cX10_record) (nL := 1) (ret := none) (by decide) rfl (Nat.le_of_ble_eq_true rfl) (fun X Q hQ => ?_)
  refine zk_eqv (w1 := (gX10 E a (v_z, v_snaps, v_hasSnap, v_past, v_pastHas, v_pastMany, v_before, v_spare, v_text, v_typed, v_failure, v_hasFailed, v_isQuiet, v_from, v_end, v_numbers))) (lv1 := [(0, .ref a.1)]) (st1 := []) (o1 := f_X10_record v_z v_snaps v_hasSnap v_past v_pastHas v_pastMany v_before v_isQuiet) rfl rfl rfl rfl ?_
  unfold f_X10_record
  refine zk_aload_n dX10_record_0 0 rfl 1 rfl ?_
  refine zk_get dX10_record_1 0 rfl rfl kX10_record_inX10 12 (by decide) kX10_record_1 rfl 4 rfl ?_
  refine zk_if_ne dX10_record_4 12 (by decide) 7 rfl (fun _ => ?_) (fun _ => ?_)
  · refine zk_aload_n dX10_record_7 0 rfl 8 rfl ?_
    refine zk_iconst 0 dX10_record_8 (by decide) 9 rfl ?_
    refine zk_callV (ci := 10) (st := []) (c_X10_push E l a (v_z, v_snaps, v_hasSnap, v_past, v_pastHas, v_pastMany, v_before, v_spare, v_text, v_typed, v_failure, v_hasFailed, v_isQuiet, v_from, v_end, v_numbers) 0) dX10_record_9 1 gX10_record_X10_push rfl rfl rfl cd_X10_push ⟨Nat.le_of_ble_eq_true rfl, Nat.le_of_ble_eq_true rfl⟩ ⟨Nat.zero_le _, Nat.zero_le _⟩ _ (fun r9 => (gX10 E a (v_z, v_snaps, v_hasSnap, r9.1, r9.2.1, r9.2.2, v_before, v_spare, v_text, v_typed, v_failure, v_hasFailed, v_isQuiet, v_from, v_end, v_numbers))) zk_pa (fun r9 => zk_qa) rfl rfl rfl rfl (Nat.le_of_ble_eq_true rfl) (fun r9 => []) (fun _ => rfl) 12 rfl (fun r9 => ?_)
    exact zk_vret hQ dX10_record_12 rfl rfl
  · exact zk_vret hQ dX10_record_12 rfl rfl
def F_X10_undo_58 (v_past : (Nat → Int32)) (v_pastHas : (Nat → Int32)) (v_z : (Nat → Int32)) (v_hasSnap : (Nat → Int32)) (v_pastMany : Int32) (k58 : Int32 × (Nat → Int32) → Option (Int32 × (Nat → Int32) × (Nat → Int32) × (Nat → Int32) × Int32)) : Int32 × (Nat → Int32) → Option (Int32 × (Nat → Int32) × (Nat → Int32) × (Nat → Int32) × Int32) := fun s => match s with
  | (x1, v_snaps) => if 736 ≤ x1 then zk_ck (2 * v_pastMany) 10 (zk_ck 0 2 (zk_let (upd v_hasSnap (0 : Int32).toNatClampNeg (vp_nar .boolean (v_pastHas (2 * v_pastMany).toNatClampNeg))) fun v_hasSnap_3 => zk_ck ((2 * v_pastMany) + 1) 10 (zk_ck 1 2 (zk_let (upd v_hasSnap_3 (1 : Int32).toNatClampNeg (vp_nar .boolean (v_pastHas ((2 * v_pastMany) + 1).toNatClampNeg))) fun v_hasSnap_4 => some (v_pastMany, v_z, v_snaps, v_hasSnap_4, v_pastMany))))) else zk_ck (((1104 * v_pastMany) + 368) + x1) 5520 (zk_ck x1 736 (zk_let (upd v_snaps x1.toNatClampNeg (v_past (((1104 * v_pastMany) + 368) + x1).toNatClampNeg)) fun v_snaps_5 => k58 ((x1 + 1), v_snaps_5)))
def F_X10_undo_22 (v_past : (Nat → Int32)) (v_pastHas : (Nat → Int32)) (v_snaps : (Nat → Int32)) (v_hasSnap : (Nat → Int32)) (v_pastMany : Int32) (k22 : Int32 × (Nat → Int32) → Option (Int32 × (Nat → Int32) × (Nat → Int32) × (Nat → Int32) × Int32)) : Int32 × (Nat → Int32) → Option (Int32 × (Nat → Int32) × (Nat → Int32) × (Nat → Int32) × Int32) := fun s => match s with
  | (x1, v_z) => if 368 ≤ x1 then zk_fx (F_X10_undo_58 v_past v_pastHas v_z v_hasSnap v_pastMany ) zk_N (0, v_snaps) else zk_ck ((1104 * v_pastMany) + x1) 5520 (zk_ck x1 368 (zk_let (upd v_z x1.toNatClampNeg (v_past ((1104 * v_pastMany) + x1).toNatClampNeg)) fun v_z_2 => k22 ((x1 + 1), v_z_2)))
def f_X10_undo (v_z : (Nat → Int32)) (v_snaps : (Nat → Int32)) (v_hasSnap : (Nat → Int32)) (v_past : (Nat → Int32)) (v_pastHas : (Nat → Int32)) (v_pastMany : Int32) : Option (Int32 × (Nat → Int32) × (Nat → Int32) × (Nat → Int32) × Int32) := if v_pastMany = 0 then some ((-2), v_z, v_snaps, v_hasSnap, v_pastMany) else zk_let (v_pastMany - 1) fun v_pastMany_1 => zk_fx (F_X10_undo_22 v_past v_pastHas v_snaps v_hasSnap v_pastMany_1 ) zk_N (0, v_z)
theorem kX10_undo_inX10 : ∀ w ∈ u_ws RX10 TX10 16, w ∈ wsX10_undo := by decide +kernel
theorem kX10_undo_1 : Cond.fieldLink RX10 42 (TX10 5).1 (TX10 5).2.1 (TX10 5).2.2.1 ∈ wsX10_undo := by decide +kernel
theorem kX10_undo_2 : Cond.fieldLink RX10 7 (TX10 0).1 (TX10 0).2.1 (TX10 0).2.2.1 ∈ wsX10_undo := by decide +kernel
theorem kX10_undo_3 : Cond.fieldLink RX10 20 (TX10 3).1 (TX10 3).2.1 (TX10 3).2.2.1 ∈ wsX10_undo := by decide +kernel
theorem kX10_undo_4 : Cond.fieldLink RX10 16 (TX10 2).1 (TX10 2).2.1 (TX10 2).2.2.1 ∈ wsX10_undo := by decide +kernel
theorem kX10_undo_5 : Cond.fieldLink RX10 23 (TX10 4).1 (TX10 4).2.1 (TX10 4).2.2.1 ∈ wsX10_undo := by decide +kernel
theorem kX10_undo_6 : Cond.fieldLink RX10 13 (TX10 1).1 (TX10 1).2.1 (TX10 1).2.2.1 ∈ wsX10_undo := by decide +kernel
theorem cd_X10_undo : yX10_undo.cls = RX10 ∧ yX10_undo.cls ≠ "java/lang/invoke/MethodHandle" ∧ yX10_undo.cls ≠ "java/lang/invoke/VarHandle" ∧ (parseMethodDescriptor yX10_undo.desc).map (fun d => d.parameters.length) = some 0 := by decide +kernel
set_option maxRecDepth 100000 in
set_option maxHeartbeats 4000000 in
theorem c_X10_undo (E : zk_Env) (l : Launch) (a : aX10) (v : VX10)  : zk_Mc E l yX10_undo wsX10_undo ({ frames := 0, cells := 0, slots := 0, locals := 0 } : Room) [.ref a.1] (gX10 E a v) (f_X10_undo v.1 v.2.1 v.2.2.1 v.2.2.2.1 v.2.2.2.2.1 v.2.2.2.2.2.1) (fun r => some (.int r.1)) (fun r => (gX10 E a (r.2.1, r.2.2.1, r.2.2.2.1, v.2.2.2.1, v.2.2.2.2.1, r.2.2.2.2, v.2.2.2.2.2.2))) := by
  obtain ⟨v_z, v_snaps, v_hasSnap, v_past, v_pastHas, v_pastMany, v_before, v_spare, v_text, v_typed, v_failure, v_hasFailed, v_isQuiet, v_from, v_end, v_numbers⟩ := v
  refine zk_M (cc := cX10_undo) (nL := 2) (ret := (some .int)) (by decide) rfl (Nat.le_of_ble_eq_true rfl) (fun X Q hQ => ?_)
  have J58 : ∀ (v_z : (Nat → Int32)) (v_hasSnap : (Nat → Int32)) (v_pastMany : Int32) (n : Nat) (x1 : Int32) (v_snaps : (Nat → Int32)), zk_G E l X cX10_undo 2 (some .int) yX10_undo.cls wsX10_undo ({ frames := 0, cells := 0, slots := 0, locals := 0 } : Room) 0 0 Q (gX10 E a (v_z, v_snaps, v_hasSnap, v_past, v_pastHas, v_pastMany, v_before, v_spare, v_text, v_typed, v_failure, v_hasFailed, v_isQuiet, v_from, v_end, v_numbers)) [(0, .ref a.1), (1, .int x1)] 58 [] (zk_fx (F_X10_undo_58 v_past v_pastHas v_z v_hasSnap v_pastMany ) n (x1, v_snaps)) := by
    intro v_z v_hasSnap v_pastMany n x1 v_snaps
    refine zk_loop (S := Int32 × (Nat → Int32)) (F := F_X10_undo_58 v_past v_pastHas v_z v_hasSnap v_pastMany) (wS := fun s => (gX10 E a (v_z, s.2, v_hasSnap, v_past, v_pastHas, v_pastMany, v_before, v_spare, v_text, v_typed, v_failure, v_hasFailed, v_isQuiet, v_from, v_end, v_numbers))) (lS := fun s => [(0, .ref a.1), (1, .int s.1)]) (sS := fun _ => []) (fun k58 hk58 s => ?_) n (x1, v_snaps)
    obtain ⟨x1, v_snaps⟩ := s
    unfold F_X10_undo_58
    try dsimp only
    refine zk_iload_n dX10_undo_58 1 rfl 59 rfl ?_
    refine zk_sipush 736 dX10_undo_59 (by decide) 62 rfl ?_
    refine zk_icmp_ge dX10_undo_62 96 (by decide) 65 rfl (fun _ => ?_) (fun _ => ?_)
    · refine zk_aload_n dX10_undo_96 0 rfl 97 rfl ?_
      refine zk_get dX10_undo_97 0 rfl rfl kX10_undo_inX10 2 (by decide) kX10_undo_4 rfl 100 rfl ?_
      refine zk_iconst 0 dX10_undo_100 (by decide) 101 rfl ?_
      refine zk_aload_n dX10_undo_101 0 rfl 102 rfl ?_
      refine zk_get dX10_undo_102 0 rfl rfl kX10_undo_inX10 4 (by decide) kX10_undo_5 rfl 105 rfl ?_
      refine zk_iconst 2 dX10_undo_105 (by decide) 106 rfl ?_
      refine zk_aload_n dX10_undo_106 0 rfl 107 rfl ?_
      refine zk_get dX10_undo_107 0 rfl rfl kX10_undo_inX10 5 (by decide) kX10_undo_1 rfl 110 rfl ?_
      refine zk_imul dX10_undo_110 111 rfl ?_
      refine zk_zald dX10_undo_111 5 rfl 112 rfl ?_
      refine zk_zast (gX10 E a (v_z, v_snaps, (upd v_hasSnap (0 : Int32).toNatClampNeg (vp_nar .boolean (v_pastHas (2 * v_pastMany).toNatClampNeg))), v_past, v_pastHas, v_pastMany, v_before, v_spare, v_text, v_typed, v_failure, v_hasFailed, v_isQuiet, v_from, v_end, v_numbers)) dX10_undo_112 3 rfl rfl 113 rfl ?_
      refine zk_nmw (fun v_hasSnap_3 => (gX10 E a (v_z, v_snaps, v_hasSnap_3, v_past, v_pastHas, v_pastMany, v_before, v_spare, v_text, v_typed, v_failure, v_hasFailed, v_isQuiet, v_from, v_end, v_numbers))) _ rfl (fun v_hasSnap_3 => ?_)
      refine zk_aload_n dX10_undo_113 0 rfl 114 rfl ?_
      refine zk_get dX10_undo_114 0 rfl rfl kX10_undo_inX10 2 (by decide) kX10_undo_4 rfl 117 rfl ?_
      refine zk_iconst 1 dX10_undo_117 (by decide) 118 rfl ?_
      refine zk_aload_n dX10_undo_118 0 rfl 119 rfl ?_
      refine zk_get dX10_undo_119 0 rfl rfl kX10_undo_inX10 4 (by decide) kX10_undo_5 rfl 122 rfl ?_
      refine zk_iconst 2 dX10_undo_122 (by decide) 123 rfl ?_
      refine zk_aload_n dX10_undo_123 0 rfl 124 rfl ?_
      refine zk_get dX10_undo_124 0 rfl rfl kX10_undo_inX10 5 (by decide) kX10_undo_1 rfl 127 rfl ?_
      refine zk_imul dX10_undo_127 128 rfl ?_
      refine zk_iconst 1 dX10_undo_128 (by decide) 129 rfl ?_
      refine zk_iadd dX10_undo_129 130 rfl ?_
      refine zk_zald dX10_undo_130 5 rfl 131 rfl ?_
      refine zk_zast (gX10 E a (v_z, v_snaps, (upd v_hasSnap_3 (1 : Int32).toNatClampNeg (vp_nar .boolean (v_pastHas ((2 * v_pastMany) + 1).toNatClampNeg))), v_past, v_pastHas, v_pastMany, v_before, v_spare, v_text, v_typed, v_failure, v_hasFailed, v_isQuiet, v_from, v_end, v_numbers)) dX10_undo_131 3 rfl rfl 132 rfl ?_
      refine zk_nmw (fun v_hasSnap_4 => (gX10 E a (v_z, v_snaps, v_hasSnap_4, v_past, v_pastHas, v_pastMany, v_before, v_spare, v_text, v_typed, v_failure, v_hasFailed, v_isQuiet, v_from, v_end, v_numbers))) _ rfl (fun v_hasSnap_4 => ?_)
      refine zk_aload_n dX10_undo_132 0 rfl 133 rfl ?_
      refine zk_get dX10_undo_133 0 rfl rfl kX10_undo_inX10 5 (by decide) kX10_undo_1 rfl 136 rfl ?_
      exact zk_iret hQ dX10_undo_136 rfl rfl
    · refine zk_aload_n dX10_undo_65 0 rfl 66 rfl ?_
      refine zk_get dX10_undo_66 0 rfl rfl kX10_undo_inX10 1 (by decide) kX10_undo_6 rfl 69 rfl ?_
      refine zk_iload_n dX10_undo_69 1 rfl 70 rfl ?_
      refine zk_aload_n dX10_undo_70 0 rfl 71 rfl ?_
      refine zk_get dX10_undo_71 0 rfl rfl kX10_undo_inX10 3 (by decide) kX10_undo_3 rfl 74 rfl ?_
      refine zk_sipush 1104 dX10_undo_74 (by decide) 77 rfl ?_
      refine zk_aload_n dX10_undo_77 0 rfl 78 rfl ?_
      refine zk_get dX10_undo_78 0 rfl rfl kX10_undo_inX10 5 (by decide) kX10_undo_1 rfl 81 rfl ?_
      refine zk_imul dX10_undo_81 82 rfl ?_
      refine zk_sipush 368 dX10_undo_82 (by decide) 85 rfl ?_
      refine zk_iadd dX10_undo_85 86 rfl ?_
      refine zk_iload_n dX10_undo_86 1 rfl 87 rfl ?_
      refine zk_iadd dX10_undo_87 88 rfl ?_
      refine zk_iald dX10_undo_88 4 rfl 89 rfl ?_
      refine zk_iast (gX10 E a (v_z, (upd v_snaps x1.toNatClampNeg (v_past (((1104 * v_pastMany) + 368) + x1).toNatClampNeg)), v_hasSnap, v_past, v_pastHas, v_pastMany, v_before, v_spare, v_text, v_typed, v_failure, v_hasFailed, v_isQuiet, v_from, v_end, v_numbers)) dX10_undo_89 2 rfl rfl 90 rfl ?_
      refine zk_nmw (fun v_snaps_5 => (gX10 E a (v_z, v_snaps_5, v_hasSnap, v_past, v_pastHas, v_pastMany, v_before, v_spare, v_text, v_typed, v_failure, v_hasFailed, v_isQuiet, v_from, v_end, v_numbers))) _ rfl (fun v_snaps_5 => ?_)
      refine zk_iinc (x1 + 1) [(1, .int (x1 + 1)), (0, .ref a.1)] dX10_undo_90 1 rfl rfl (by decide) rfl 93 rfl ?_
      refine zk_goto dX10_undo_93 58 (by decide) ?_
      refine zk_lv [1, 0] rfl ?_
      exact hk58 ((x1 + 1), v_snaps_5)
  have J22 : ∀ (v_snaps : (Nat → Int32)) (v_hasSnap : (Nat → Int32)) (v_pastMany : Int32) (n : Nat) (x1 : Int32) (v_z : (Nat → Int32)), zk_G E l X cX10_undo 2 (some .int) yX10_undo.cls wsX10_undo ({ frames := 0, cells := 0, slots := 0, locals := 0 } : Room) 0 0 Q (gX10 E a (v_z, v_snaps, v_hasSnap, v_past, v_pastHas, v_pastMany, v_before, v_spare, v_text, v_typed, v_failure, v_hasFailed, v_isQuiet, v_from, v_end, v_numbers)) [(0, .ref a.1), (1, .int x1)] 22 [] (zk_fx (F_X10_undo_22 v_past v_pastHas v_snaps v_hasSnap v_pastMany ) n (x1, v_z)) := by
    intro v_snaps v_hasSnap v_pastMany n x1 v_z
    refine zk_loop (S := Int32 × (Nat → Int32)) (F := F_X10_undo_22 v_past v_pastHas v_snaps v_hasSnap v_pastMany) (wS := fun s => (gX10 E a (s.2, v_snaps, v_hasSnap, v_past, v_pastHas, v_pastMany, v_before, v_spare, v_text, v_typed, v_failure, v_hasFailed, v_isQuiet, v_from, v_end, v_numbers))) (lS := fun s => [(0, .ref a.1), (1, .int s.1)]) (sS := fun _ => []) (fun k22 hk22 s => ?_) n (x1, v_z)
    obtain ⟨x1, v_z⟩ := s
    unfold F_X10_undo_22
    try dsimp only
    refine zk_iload_n dX10_undo_22 1 rfl 23 rfl ?_
    refine zk_sipush 368 dX10_undo_23 (by decide) 26 rfl ?_
    refine zk_icmp_ge dX10_undo_26 56 (by decide) 29 rfl (fun _ => ?_) (fun _ => ?_)
    · refine zk_iconst 0 dX10_undo_56 (by decide) 57 rfl ?_
      refine zk_istore_n [(1, .int 0), (0, .ref a.1)] dX10_undo_57 (by decide) rfl 58 rfl ?_
      refine zk_lv [1, 0] rfl ?_
      exact J58   v_z v_hasSnap v_pastMany zk_N 0 v_snaps
    · refine zk_aload_n dX10_undo_29 0 rfl 30 rfl ?_
      refine zk_get dX10_undo_30 0 rfl rfl kX10_undo_inX10 0 (by decide) kX10_undo_2 rfl 33 rfl ?_
      refine zk_iload_n dX10_undo_33 1 rfl 34 rfl ?_
      refine zk_aload_n dX10_undo_34 0 rfl 35 rfl ?_
      refine zk_get dX10_undo_35 0 rfl rfl kX10_undo_inX10 3 (by decide) kX10_undo_3 rfl 38 rfl ?_
      refine zk_sipush 1104 dX10_undo_38 (by decide) 41 rfl ?_
      refine zk_aload_n dX10_undo_41 0 rfl 42 rfl ?_
      refine zk_get dX10_undo_42 0 rfl rfl kX10_undo_inX10 5 (by decide) kX10_undo_1 rfl 45 rfl ?_
      refine zk_imul dX10_undo_45 46 rfl ?_
      refine zk_iload_n dX10_undo_46 1 rfl 47 rfl ?_
      refine zk_iadd dX10_undo_47 48 rfl ?_
      refine zk_iald dX10_undo_48 4 rfl 49 rfl ?_
      refine zk_iast (gX10 E a ((upd v_z x1.toNatClampNeg (v_past ((1104 * v_pastMany) + x1).toNatClampNeg)), v_snaps, v_hasSnap, v_past, v_pastHas, v_pastMany, v_before, v_spare, v_text, v_typed, v_failure, v_hasFailed, v_isQuiet, v_from, v_end, v_numbers)) dX10_undo_49 1 rfl rfl 50 rfl ?_
      refine zk_nmw (fun v_z_2 => (gX10 E a (v_z_2, v_snaps, v_hasSnap, v_past, v_pastHas, v_pastMany, v_before, v_spare, v_text, v_typed, v_failure, v_hasFailed, v_isQuiet, v_from, v_end, v_numbers))) _ rfl (fun v_z_2 => ?_)
      refine zk_iinc (x1 + 1) [(1, .int (x1 + 1)), (0, .ref a.1)] dX10_undo_50 1 rfl rfl (by decide) rfl 53 rfl ?_
      refine zk_goto dX10_undo_53 22 (by decide) ?_
      refine zk_lv [1, 0] rfl ?_
      exact hk22 ((x1 + 1), v_z_2)
  refine zk_eqv (w1 := (gX10 E a (v_z, v_snaps, v_hasSnap, v_past, v_pastHas, v_pastMany, v_before, v_spare, v_text, v_typed, v_failure, v_hasFailed, v_isQuiet, v_from, v_end, v_numbers))) (lv1 := [(0, .ref a.1)]) (st1 := []) (o1 := f_X10_undo v_z v_snaps v_hasSnap v_past v_pastHas v_pastMany) rfl rfl rfl rfl ?_
  unfold f_X10_undo
  refine zk_aload_n dX10_undo_0 0 rfl 1 rfl ?_
  refine zk_get dX10_undo_1 0 rfl rfl kX10_undo_inX10 5 (by decide) kX10_undo_1 rfl 4 rfl ?_
  refine zk_if_ne dX10_undo_4 10 (by decide) 7 rfl (fun _ => ?_) (fun _ => ?_)
  · refine zk_bipush (-2) dX10_undo_7 (by decide) 9 rfl ?_
    exact zk_iret hQ dX10_undo_9 rfl rfl
  · refine zk_aload_n dX10_undo_10 0 rfl 11 rfl ?_
    refine zk_dup dX10_undo_11 rfl 12 rfl ?_
    refine zk_get dX10_undo_12 0 rfl rfl kX10_undo_inX10 5 (by decide) kX10_undo_1 rfl 15 rfl ?_
    refine zk_iconst 1 dX10_undo_15 (by decide) 16 rfl ?_
    refine zk_isub dX10_undo_16 17 rfl ?_
    refine zk_nm (fun v_pastMany_1 => ?_)
    refine zk_put_ tyX10 (gX10 E a (v_z, v_snaps, v_hasSnap, v_past, v_pastHas, v_pastMany_1, v_before, v_spare, v_text, v_typed, v_failure, v_hasFailed, v_isQuiet, v_from, v_end, v_numbers)) dX10_undo_17 0 rfl rfl kX10_undo_inX10 tyX10_ok nmX10 5 (by decide) kX10_undo_1 rfl (tyX10_ok 5 (by decide)) rfl rfl (Nat.le_of_ble_eq_true rfl) rfl 20 rfl ?_
    refine zk_iconst 0 dX10_undo_20 (by decide) 21 rfl ?_
    refine zk_istore_n [(1, .int 0), (0, .ref a.1)] dX10_undo_21 (by decide) rfl 22 rfl ?_
    refine zk_lv [1, 0] rfl ?_
    exact J22   v_snaps v_hasSnap v_pastMany_1 zk_N 0 v_z
def F_X10_take_24 (x1 : Int32) (v_z : (Nat → Int32)) (v_hasSnap : (Nat → Int32)) (v_past : (Nat → Int32)) (v_pastHas : (Nat → Int32)) (v_pastMany : Int32) (k24 : Int32 × (Nat → Int32) → Option (Int32 × (Nat → Int32) × (Nat → Int32) × (Nat → Int32) × (Nat → Int32) × Int32)) : Int32 × (Nat → Int32) → Option (Int32 × (Nat → Int32) × (Nat → Int32) × (Nat → Int32) × (Nat → Int32) × Int32) := fun s => match s with
  | (x2, v_snaps) => if 368 ≤ x2 then zk_ck 0 368 (some ((v_z (0 : Int32).toNatClampNeg), v_snaps, v_hasSnap, v_past, v_pastHas, v_pastMany)) else zk_ck x2 368 (zk_ck ((368 * x1) + x2) 736 (zk_let (upd v_snaps ((368 * x1) + x2).toNatClampNeg (v_z x2.toNatClampNeg)) fun v_snaps_2 => k24 ((x2 + 1), v_snaps_2)))
def f_X10_take (x1 : Int32) (v_z : (Nat → Int32)) (v_snaps : (Nat → Int32)) (v_hasSnap : (Nat → Int32)) (v_past : (Nat → Int32)) (v_pastHas : (Nat → Int32)) (v_pastMany : Int32) (v_before : (Nat → Int32)) (v_isQuiet : Int32) : Option (Int32 × (Nat → Int32) × (Nat → Int32) × (Nat → Int32) × (Nat → Int32) × Int32) := if x1 < 0 then some ((-1), v_snaps, v_hasSnap, v_past, v_pastHas, v_pastMany) else if x1 ≤ 1 then (f_X10_record v_z v_snaps v_hasSnap v_past v_pastHas v_pastMany v_before v_isQuiet).bind fun r12 => zk_ck x1 2 (zk_let (upd v_hasSnap x1.toNatClampNeg (vp_nar .boolean 1)) fun v_hasSnap_1 => zk_fx (F_X10_take_24 x1 v_z v_hasSnap_1 r12.1 r12.2.1 r12.2.2 ) zk_N (0, v_snaps)) else some ((-1), v_snaps, v_hasSnap, v_past, v_pastHas, v_pastMany)
theorem kX10_take_inX10 : ∀ w ∈ u_ws RX10 TX10 16, w ∈ wsX10_take := by decide +kernel
theorem kX10_take_1 : Cond.fieldLink RX10 16 (TX10 2).1 (TX10 2).2.1 (TX10 2).2.2.1 ∈ wsX10_take := by decide +kernel
theorem kX10_take_2 : Cond.fieldLink RX10 7 (TX10 0).1 (TX10 0).2.1 (TX10 0).2.2.1 ∈ wsX10_take := by decide +kernel
theorem kX10_take_3 : Cond.fieldLink RX10 13 (TX10 1).1 (TX10 1).2.1 (TX10 1).2.2.1 ∈ wsX10_take := by decide +kernel
theorem cd_X10_take : yX10_take.cls = RX10 ∧ yX10_take.cls ≠ "java/lang/invoke/MethodHandle" ∧ yX10_take.cls ≠ "java/lang/invoke/VarHandle" ∧ (parseMethodDescriptor yX10_take.desc).map (fun d => d.parameters.length) = some 1 := by decide +kernel
set_option maxRecDepth 100000 in
set_option maxHeartbeats 4000000 in
theorem c_X10_take (E : zk_Env) (l : Launch) (a : aX10) (v : VX10) (x1 : Int32) : zk_Mc E l yX10_take wsX10_take ({ frames := 2, cells := 0, slots := 0, locals := 42 } : Room) [.ref a.1, .int x1] (gX10 E a v) (f_X10_take x1 v.1 v.2.1 v.2.2.1 v.2.2.2.1 v.2.2.2.2.1 v.2.2.2.2.2.1 v.2.2.2.2.2.2.1 v.2.2.2.2.2.2.2.2.2.2.2.2.1) (fun r => some (.int r.1)) (fun r => (gX10 E a (v.1, r.2.1, r.2.2.1, r.2.2.2.1, r.2.2.2.2.1, r.2.2.2.2.2, v.2.2.2.2.2.2))) := by
  obtain ⟨v_z, v_snaps, v_hasSnap, v_past, v_pastHas, v_pastMany, v_before, v_spare, v_text, v_typed, v_failure, v_hasFailed, v_isQuiet, v_from, v_end, v_numbers⟩ := v
  refine zk_M (cc := cX10_take) (nL := 3) (ret := (some .int)) (by decide) rfl (Nat.le_of_ble_eq_true rfl) (fun X Q hQ => ?_)
  have J24 : ∀ (v_hasSnap : (Nat → Int32)) (v_past : (Nat → Int32)) (v_pastHas : (Nat → Int32)) (v_pastMany : Int32) (n : Nat) (x2 : Int32) (v_snaps : (Nat → Int32)), zk_G E l X cX10_take 3 (some .int) yX10_take.cls wsX10_take ({ frames := 2, cells := 0, slots := 0, locals := 42 } : Room) 0 0 Q (gX10 E a (v_z, v_snaps, v_hasSnap, v_past, v_pastHas, v_pastMany, v_before, v_spare, v_text, v_typed, v_failure, v_hasFailed, v_isQuiet, v_from, v_end, v_numbers)) [(0, .ref a.1), (1, .int x1), (2, .int x2)] 24 [] (zk_fx (F_X10_take_24 x1 v_z v_hasSnap v_past v_pastHas v_pastMany ) n (x2, v_snaps)) := by
    intro v_hasSnap v_past v_pastHas v_pastMany n x2 v_snaps
    refine zk_loop (S := Int32 × (Nat → Int32)) (F := F_X10_take_24 x1 v_z v_hasSnap v_past v_pastHas v_pastMany) (wS := fun s => (gX10 E a (v_z, s.2, v_hasSnap, v_past, v_pastHas, v_pastMany, v_before, v_spare, v_text, v_typed, v_failure, v_hasFailed, v_isQuiet, v_from, v_end, v_numbers))) (lS := fun s => [(0, .ref a.1), (1, .int x1), (2, .int s.1)]) (sS := fun _ => []) (fun k24 hk24 s => ?_) n (x2, v_snaps)
    obtain ⟨x2, v_snaps⟩ := s
    unfold F_X10_take_24
    try dsimp only
    refine zk_iload_n dX10_take_24 2 rfl 25 rfl ?_
    refine zk_sipush 368 dX10_take_25 (by decide) 28 rfl ?_
    refine zk_icmp_ge dX10_take_28 55 (by decide) 31 rfl (fun _ => ?_) (fun _ => ?_)
    · refine zk_aload_n dX10_take_55 0 rfl 56 rfl ?_
      refine zk_get dX10_take_56 0 rfl rfl kX10_take_inX10 0 (by decide) kX10_take_2 rfl 59 rfl ?_
      refine zk_iconst 0 dX10_take_59 (by decide) 60 rfl ?_
      refine zk_iald dX10_take_60 1 rfl 61 rfl ?_
      exact zk_iret hQ dX10_take_61 rfl rfl
    · refine zk_aload_n dX10_take_31 0 rfl 32 rfl ?_
      refine zk_get dX10_take_32 0 rfl rfl kX10_take_inX10 1 (by decide) kX10_take_3 rfl 35 rfl ?_
      refine zk_sipush 368 dX10_take_35 (by decide) 38 rfl ?_
      refine zk_iload_n dX10_take_38 1 rfl 39 rfl ?_
      refine zk_imul dX10_take_39 40 rfl ?_
      refine zk_iload_n dX10_take_40 2 rfl 41 rfl ?_
      refine zk_iadd dX10_take_41 42 rfl ?_
      refine zk_aload_n dX10_take_42 0 rfl 43 rfl ?_
      refine zk_get dX10_take_43 0 rfl rfl kX10_take_inX10 0 (by decide) kX10_take_2 rfl 46 rfl ?_
      refine zk_iload_n dX10_take_46 2 rfl 47 rfl ?_
      refine zk_iald dX10_take_47 1 rfl 48 rfl ?_
      refine zk_iast (gX10 E a (v_z, (upd v_snaps ((368 * x1) + x2).toNatClampNeg (v_z x2.toNatClampNeg)), v_hasSnap, v_past, v_pastHas, v_pastMany, v_before, v_spare, v_text, v_typed, v_failure, v_hasFailed, v_isQuiet, v_from, v_end, v_numbers)) dX10_take_48 2 rfl rfl 49 rfl ?_
      refine zk_nmw (fun v_snaps_2 => (gX10 E a (v_z, v_snaps_2, v_hasSnap, v_past, v_pastHas, v_pastMany, v_before, v_spare, v_text, v_typed, v_failure, v_hasFailed, v_isQuiet, v_from, v_end, v_numbers))) _ rfl (fun v_snaps_2 => ?_)
      refine zk_iinc (x2 + 1) [(2, .int (x2 + 1)), (0, .ref a.1), (1, .int x1)] dX10_take_49 2 rfl rfl (by decide) rfl 52 rfl ?_
      refine zk_goto dX10_take_52 24 (by decide) ?_
      refine zk_lv [1, 2, 0] rfl ?_
      exact hk24 ((x2 + 1), v_snaps_2)
  refine zk_eqv (w1 := (gX10 E a (v_z, v_snaps, v_hasSnap, v_past, v_pastHas, v_pastMany, v_before, v_spare, v_text, v_typed, v_failure, v_hasFailed, v_isQuiet, v_from, v_end, v_numbers))) (lv1 := [(0, .ref a.1), (1, .int x1)]) (st1 := []) (o1 := f_X10_take x1 v_z v_snaps v_hasSnap v_past v_pastHas v_pastMany v_before v_isQuiet) rfl rfl rfl rfl ?_
  unfold f_X10_take
  refine zk_iload_n dX10_take_0 1 rfl 1 rfl ?_
  refine zk_if_lt dX10_take_1 9 (by decide) 4 rfl (fun _ => ?_) (fun _ => ?_)
  · refine zk_iconst (-1) dX10_take_9 (by decide) 10 rfl ?_
    exact zk_iret hQ dX10_take_10 rfl rfl
  · refine zk_iload_n dX10_take_4 1 rfl 5 rfl ?_
    refine zk_iconst 1 dX10_take_5 (by decide) 6 rfl ?_
    refine zk_icmp_le dX10_take_6 11 (by decide) 9 rfl (fun _ => ?_) (fun _ => ?_)
    · refine zk_aload_n dX10_take_11 0 rfl 12 rfl ?_
      refine zk_callV (ci := 10) (st := []) (c_X10_record E l a (v_z, v_snaps, v_hasSnap, v_past, v_pastHas, v_pastMany, v_before, v_spare, v_text, v_typed, v_failure, v_hasFailed, v_isQuiet, v_from, v_end, v_numbers)) dX10_take_12 0 gX10_take_X10_record rfl rfl rfl cd_X10_record ⟨Nat.le_of_ble_eq_true rfl, Nat.le_of_ble_eq_true rfl⟩ ⟨Nat.zero_le _, Nat.zero_le _⟩ _ (fun r12 => (gX10 E a (v_z, v_snaps, v_hasSnap, r12.1, r12.2.1, r12.2.2, v_before, v_spare, v_text, v_typed, v_failure, v_hasFailed, v_isQuiet, v_from, v_end, v_numbers))) zk_pa (fun r12 => zk_qa) rfl rfl rfl rfl (Nat.le_of_ble_eq_true rfl) (fun r12 => []) (fun _ => rfl) 15 rfl (fun r12 => ?_)
      refine zk_aload_n dX10_take_15 0 rfl 16 rfl ?_
      refine zk_get dX10_take_16 0 rfl rfl kX10_take_inX10 2 (by decide) kX10_take_1 rfl 19 rfl ?_
      refine zk_iload_n dX10_take_19 1 rfl 20 rfl ?_
      refine zk_iconst 1 dX10_take_20 (by decide) 21 rfl ?_
      refine zk_zast (gX10 E a (v_z, v_snaps, (upd v_hasSnap x1.toNatClampNeg (vp_nar .boolean 1)), r12.1, r12.2.1, r12.2.2, v_before, v_spare, v_text, v_typed, v_failure, v_hasFailed, v_isQuiet, v_from, v_end, v_numbers)) dX10_take_21 3 rfl rfl 22 rfl ?_
      refine zk_nmw (fun v_hasSnap_1 => (gX10 E a (v_z, v_snaps, v_hasSnap_1, r12.1, r12.2.1, r12.2.2, v_before, v_spare, v_text, v_typed, v_failure, v_hasFailed, v_isQuiet, v_from, v_end, v_numbers))) _ rfl (fun v_hasSnap_1 => ?_)
      refine zk_iconst 0 dX10_take_22 (by decide) 23 rfl ?_
      refine zk_istore_n [(2, .int 0), (0, .ref a.1), (1, .int x1)] dX10_take_23 (by decide) rfl 24 rfl ?_
      refine zk_lv [1, 2, 0] rfl ?_
      exact J24   v_hasSnap_1 r12.1 r12.2.1 r12.2.2 zk_N 0 v_snaps
    · refine zk_iconst (-1) dX10_take_9 (by decide) 10 rfl ?_
      exact zk_iret hQ dX10_take_10 rfl rfl
def F_X10_restore_29 (x1 : Int32) (v_snaps : (Nat → Int32)) (v_past : (Nat → Int32)) (v_pastHas : (Nat → Int32)) (v_pastMany : Int32) (k29 : Int32 × (Nat → Int32) → Option (Int32 × (Nat → Int32) × (Nat → Int32) × (Nat → Int32) × Int32)) : Int32 × (Nat → Int32) → Option (Int32 × (Nat → Int32) × (Nat → Int32) × (Nat → Int32) × Int32) := fun s => match s with
  | (x2, v_z) => if 368 ≤ x2 then zk_ck 0 368 (some ((v_z (0 : Int32).toNatClampNeg), v_z, v_past, v_pastHas, v_pastMany)) else zk_ck ((368 * x1) + x2) 736 (zk_ck x2 368 (zk_let (upd v_z x2.toNatClampNeg (v_snaps ((368 * x1) + x2).toNatClampNeg)) fun v_z_1 => k29 ((x2 + 1), v_z_1)))
def f_X10_restore (x1 : Int32) (v_z : (Nat → Int32)) (v_snaps : (Nat → Int32)) (v_hasSnap : (Nat → Int32)) (v_past : (Nat → Int32)) (v_pastHas : (Nat → Int32)) (v_pastMany : Int32) (v_before : (Nat → Int32)) (v_isQuiet : Int32) : Option (Int32 × (Nat → Int32) × (Nat → Int32) × (Nat → Int32) × Int32) := if x1 < 0 then some ((-1), v_z, v_past, v_pastHas, v_pastMany) else if x1 ≤ 1 then zk_ck x1 2 (if (v_hasSnap x1.toNatClampNeg) = 0 then some ((-2), v_z, v_past, v_pastHas, v_pastMany) else (f_X10_record v_z v_snaps v_hasSnap v_past v_pastHas v_pastMany v_before v_isQuiet).bind fun r24 => zk_fx (F_X10_restore_29 x1 v_snaps r24.1 r24.2.1 r24.2.2 ) zk_N (0, v_z)) else some ((-1), v_z, v_past, v_pastHas, v_pastMany)
theorem kX10_restore_inX10 : ∀ w ∈ u_ws RX10 TX10 16, w ∈ wsX10_restore := by decide +kernel
theorem kX10_restore_1 : Cond.fieldLink RX10 16 (TX10 2).1 (TX10 2).2.1 (TX10 2).2.2.1 ∈ wsX10_restore := by decide +kernel
theorem kX10_restore_2 : Cond.fieldLink RX10 7 (TX10 0).1 (TX10 0).2.1 (TX10 0).2.2.1 ∈ wsX10_restore := by decide +kernel
theorem kX10_restore_3 : Cond.fieldLink RX10 13 (TX10 1).1 (TX10 1).2.1 (TX10 1).2.2.1 ∈ wsX10_restore := by decide +kernel
theorem cd_X10_restore : yX10_restore.cls = RX10 ∧ yX10_restore.cls ≠ "java/lang/invoke/MethodHandle" ∧ yX10_restore.cls ≠ "java/lang/invoke/VarHandle" ∧ (parseMethodDescriptor yX10_restore.desc).map (fun d => d.parameters.length) = some 1 := by decide +kernel
set_option maxRecDepth 100000 in
set_option maxHeartbeats 4000000 in
theorem c_X10_restore (E : zk_Env) (l : Launch) (a : aX10) (v : VX10) (x1 : Int32) : zk_Mc E l yX10_restore wsX10_restore ({ frames := 2, cells := 0, slots := 0, locals := 42 } : Room) [.ref a.1, .int x1] (gX10 E a v) (f_X10_restore x1 v.1 v.2.1 v.2.2.1 v.2.2.2.1 v.2.2.2.2.1 v.2.2.2.2.2.1 v.2.2.2.2.2.2.1 v.2.2.2.2.2.2.2.2.2.2.2.2.1) (fun r => some (.int r.1)) (fun r => (gX10 E a (r.2.1, v.2.1, v.2.2.1, r.2.2.1, r.2.2.2.1, r.2.2.2.2, v.2.2.2.2.2.2))) := by
  obtain ⟨v_z, v_snaps, v_hasSnap, v_past, v_pastHas, v_pastMany, v_before, v_spare, v_text, v_typed, v_failure, v_hasFailed, v_isQuiet, v_from, v_end, v_numbers⟩ := v
  refine zk_M (cc := cX10_restore) (nL := 3) (ret := (some .int)) (by decide) rfl (Nat.le_of_ble_eq_true rfl) (fun X Q hQ => ?_)
  have J29 : ∀ (v_past : (Nat → Int32)) (v_pastHas : (Nat → Int32)) (v_pastMany : Int32) (n : Nat) (x2 : Int32) (v_z : (Nat → Int32)), zk_G E l X cX10_restore 3 (some .int) yX10_restore.cls wsX10_restore ({ frames := 2, cells := 0, slots := 0, locals := 42 } : Room) 0 0 Q (gX10 E a (v_z, v_snaps, v_hasSnap, v_past, v_pastHas, v_pastMany, v_before, v_spare, v_text, v_typed, v_failure, v_hasFailed, v_isQuiet, v_from, v_end, v_numbers)) [(0, .ref a.1), (1, .int x1), (2, .int x2)] 29 [] (zk_fx (F_X10_restore_29 x1 v_snaps v_past v_pastHas v_pastMany ) n (x2, v_z)) := by
    intro v_past v_pastHas v_pastMany n x2 v_z
    refine zk_loop (S := Int32 × (Nat → Int32)) (F := F_X10_restore_29 x1 v_snaps v_past v_pastHas v_pastMany) (wS := fun s => (gX10 E a (s.2, v_snaps, v_hasSnap, v_past, v_pastHas, v_pastMany, v_before, v_spare, v_text, v_typed, v_failure, v_hasFailed, v_isQuiet, v_from, v_end, v_numbers))) (lS := fun s => [(0, .ref a.1), (1, .int x1), (2, .int s.1)]) (sS := fun _ => []) (fun k29 hk29 s => ?_) n (x2, v_z)
    obtain ⟨x2, v_z⟩ := s
    unfold F_X10_restore_29
    try dsimp only
    refine zk_iload_n dX10_restore_29 2 rfl 30 rfl ?_
    refine zk_sipush 368 dX10_restore_30 (by decide) 33 rfl ?_
    refine zk_icmp_ge dX10_restore_33 60 (by decide) 36 rfl (fun _ => ?_) (fun _ => ?_)
    · refine zk_aload_n dX10_restore_60 0 rfl 61 rfl ?_
      refine zk_get dX10_restore_61 0 rfl rfl kX10_restore_inX10 0 (by decide) kX10_restore_2 rfl 64 rfl ?_
      refine zk_iconst 0 dX10_restore_64 (by decide) 65 rfl ?_
      refine zk_iald dX10_restore_65 1 rfl 66 rfl ?_
      exact zk_iret hQ dX10_restore_66 rfl rfl
    · refine zk_aload_n dX10_restore_36 0 rfl 37 rfl ?_
      refine zk_get dX10_restore_37 0 rfl rfl kX10_restore_inX10 0 (by decide) kX10_restore_2 rfl 40 rfl ?_
      refine zk_iload_n dX10_restore_40 2 rfl 41 rfl ?_
      refine zk_aload_n dX10_restore_41 0 rfl 42 rfl ?_
      refine zk_get dX10_restore_42 0 rfl rfl kX10_restore_inX10 1 (by decide) kX10_restore_3 rfl 45 rfl ?_
      refine zk_sipush 368 dX10_restore_45 (by decide) 48 rfl ?_
      refine zk_iload_n dX10_restore_48 1 rfl 49 rfl ?_
      refine zk_imul dX10_restore_49 50 rfl ?_
      refine zk_iload_n dX10_restore_50 2 rfl 51 rfl ?_
      refine zk_iadd dX10_restore_51 52 rfl ?_
      refine zk_iald dX10_restore_52 2 rfl 53 rfl ?_
      refine zk_iast (gX10 E a ((upd v_z x2.toNatClampNeg (v_snaps ((368 * x1) + x2).toNatClampNeg)), v_snaps, v_hasSnap, v_past, v_pastHas, v_pastMany, v_before, v_spare, v_text, v_typed, v_failure, v_hasFailed, v_isQuiet, v_from, v_end, v_numbers)) dX10_restore_53 1 rfl rfl 54 rfl ?_
      refine zk_nmw (fun v_z_1 => (gX10 E a (v_z_1, v_snaps, v_hasSnap, v_past, v_pastHas, v_pastMany, v_before, v_spare, v_text, v_typed, v_failure, v_hasFailed, v_isQuiet, v_from, v_end, v_numbers))) _ rfl (fun v_z_1 => ?_)
      refine zk_iinc (x2 + 1) [(2, .int (x2 + 1)), (0, .ref a.1), (1, .int x1)] dX10_restore_54 2 rfl rfl (by decide) rfl 57 rfl ?_
      refine zk_goto dX10_restore_57 29 (by decide) ?_
      refine zk_lv [1, 2, 0] rfl ?_
      exact hk29 ((x2 + 1), v_z_1)
  refine zk_eqv (w1 := (gX10 E a (v_z, v_snaps, v_hasSnap, v_past, v_pastHas, v_pastMany, v_before, v_spare, v_text, v_typed, v_failure, v_hasFailed, v_isQuiet, v_from, v_end, v_numbers))) (lv1 := [(0, .ref a.1), (1, .int x1)]) (st1 := []) (o1 := f_X10_restore x1 v_z v_snaps v_hasSnap v_past v_pastHas v_pastMany v_before v_isQuiet) rfl rfl rfl rfl ?_
  unfold f_X10_restore
  refine zk_iload_n dX10_restore_0 1 rfl 1 rfl ?_
  refine zk_if_lt dX10_restore_1 9 (by decide) 4 rfl (fun _ => ?_) (fun _ => ?_)
  · refine zk_iconst (-1) dX10_restore_9 (by decide) 10 rfl ?_
    exact zk_iret hQ dX10_restore_10 rfl rfl
  · refine zk_iload_n dX10_restore_4 1 rfl 5 rfl ?_
    refine zk_iconst 1 dX10_restore_5 (by decide) 6 rfl ?_
    refine zk_icmp_le dX10_restore_6 11 (by decide) 9 rfl (fun _ => ?_) (fun _ => ?_)
    · refine zk_aload_n dX10_restore_11 0 rfl 12 rfl ?_
      refine zk_get dX10_restore_12 0 rfl rfl kX10_restore_inX10 2 (by decide) kX10_restore_1 rfl 15 rfl ?_
      refine zk_iload_n dX10_restore_15 1 rfl 16 rfl ?_
      refine zk_zald dX10_restore_16 3 rfl 17 rfl ?_
      refine zk_if_ne dX10_restore_17 23 (by decide) 20 rfl (fun _ => ?_) (fun _ => ?_)
      · refine zk_bipush (-2) dX10_restore_20 (by decide) 22 rfl ?_
        exact zk_iret hQ dX10_restore_22 rfl rfl
      · refine zk_aload_n dX10_restore_23 0 rfl 24 rfl ?_
        refine zk_callV (ci := 10) (st := []) (c_X10_record E l a (v_z, v_snaps, v_hasSnap, v_past, v_pastHas, v_pastMany, v_before, v_spare, v_text, v_typed, v_failure, v_hasFailed, v_isQuiet, v_from, v_end, v_numbers)) dX10_restore_24 0 gX10_restore_X10_record rfl rfl rfl cd_X10_record ⟨Nat.le_of_ble_eq_true rfl, Nat.le_of_ble_eq_true rfl⟩ ⟨Nat.zero_le _, Nat.zero_le _⟩ _ (fun r24 => (gX10 E a (v_z, v_snaps, v_hasSnap, r24.1, r24.2.1, r24.2.2, v_before, v_spare, v_text, v_typed, v_failure, v_hasFailed, v_isQuiet, v_from, v_end, v_numbers))) zk_pa (fun r24 => zk_qa) rfl rfl rfl rfl (Nat.le_of_ble_eq_true rfl) (fun r24 => []) (fun _ => rfl) 27 rfl (fun r24 => ?_)
        refine zk_iconst 0 dX10_restore_27 (by decide) 28 rfl ?_
        refine zk_istore_n [(2, .int 0), (0, .ref a.1), (1, .int x1)] dX10_restore_28 (by decide) rfl 29 rfl ?_
        refine zk_lv [1, 2, 0] rfl ?_
        exact J29   r24.1 r24.2.1 r24.2.2 zk_N 0 v_z
    · refine zk_iconst (-1) dX10_restore_9 (by decide) 10 rfl ?_
      exact zk_iret hQ dX10_restore_10 rfl rfl
def f_X10_isPromise (x1 : Int32) (v_z : (Nat → Int32)) : Option (Int32) := if x1 < 0 then some 0 else zk_ck 1 368 (if (v_z (1 : Int32).toNatClampNeg) ≤ x1 then some 0 else some 1)
theorem kX10_isPromise_inX10 : ∀ w ∈ u_ws RX10 TX10 16, w ∈ wsX10_isPromise := by decide +kernel
theorem kX10_isPromise_1 : Cond.fieldLink RX10 7 (TX10 0).1 (TX10 0).2.1 (TX10 0).2.2.1 ∈ wsX10_isPromise := by decide +kernel
theorem cd_X10_isPromise : yX10_isPromise.cls = RX10 ∧ yX10_isPromise.cls ≠ "java/lang/invoke/MethodHandle" ∧ yX10_isPromise.cls ≠ "java/lang/invoke/VarHandle" ∧ (parseMethodDescriptor yX10_isPromise.desc).map (fun d => d.parameters.length) = some 1 := by decide +kernel
set_option maxRecDepth 100000 in
set_option maxHeartbeats 4000000 in
theorem c_X10_isPromise (E : zk_Env) (l : Launch) (a : aX10) (v : VX10) (x1 : Int32) : zk_Mc E l yX10_isPromise wsX10_isPromise ({ frames := 0, cells := 0, slots := 0, locals := 0 } : Room) [.ref a.1, .int x1] (gX10 E a v) (f_X10_isPromise x1 v.1) (fun r => some (.int r)) (fun r => (gX10 E a v)) := by
  obtain ⟨v_z, v_snaps, v_hasSnap, v_past, v_pastHas, v_pastMany, v_before, v_spare, v_text, v_typed, v_failure, v_hasFailed, v_isQuiet, v_from, v_end, v_numbers⟩ := v
  refine zk_M (cc := cX10_isPromise) (nL := 2) (ret := (some .boolean)) (by decide) rfl (Nat.le_of_ble_eq_true rfl) (fun X Q hQ => ?_)
  refine zk_eqv (w1 := (gX10 E a (v_z, v_snaps, v_hasSnap, v_past, v_pastHas, v_pastMany, v_before, v_spare, v_text, v_typed, v_failure, v_hasFailed, v_isQuiet, v_from, v_end, v_numbers))) (lv1 := [(0, .ref a.1), (1, .int x1)]) (st1 := []) (o1 := f_X10_isPromise x1 v_z) rfl rfl rfl rfl ?_
  unfold f_X10_isPromise
  refine zk_iload_n dX10_isPromise_0 1 rfl 1 rfl ?_
  refine zk_if_lt dX10_isPromise_1 18 (by decide) 4 rfl (fun _ => ?_) (fun _ => ?_)
  · refine zk_iconst 0 dX10_isPromise_18 (by decide) 19 rfl ?_
    exact zk_zretL hQ dX10_isPromise_19 (Or.inl rfl) rfl rfl
  · refine zk_iload_n dX10_isPromise_4 1 rfl 5 rfl ?_
    refine zk_aload_n dX10_isPromise_5 0 rfl 6 rfl ?_
    refine zk_get dX10_isPromise_6 0 rfl rfl kX10_isPromise_inX10 0 (by decide) kX10_isPromise_1 rfl 9 rfl ?_
    refine zk_iconst 1 dX10_isPromise_9 (by decide) 10 rfl ?_
    refine zk_iald dX10_isPromise_10 1 rfl 11 rfl ?_
    refine zk_icmp_ge dX10_isPromise_11 18 (by decide) 14 rfl (fun _ => ?_) (fun _ => ?_)
    · refine zk_iconst 0 dX10_isPromise_18 (by decide) 19 rfl ?_
      exact zk_zretL hQ dX10_isPromise_19 (Or.inl rfl) rfl rfl
    · refine zk_iconst 1 dX10_isPromise_14 (by decide) 15 rfl ?_
      refine zk_goto dX10_isPromise_15 19 (by decide) ?_
      exact zk_zretL hQ dX10_isPromise_19 (Or.inr rfl) rfl rfl
def f_X10_stand (x1 : Int32) (x2 : Int32) (v_z : (Nat → Int32)) : Option ((Nat → Int32)) := zk_ck (172 + x1) 368 (zk_let (upd v_z (172 + x1).toNatClampNeg x2) fun v_z_1 => zk_ck 11 368 (zk_ck (212 + x1) 368 (zk_let (upd v_z_1 (212 + x1).toNatClampNeg (v_z_1 (11 : Int32).toNatClampNeg)) fun v_z_2 => zk_ck 11 368 (zk_ck 11 368 (zk_let (upd v_z_2 (11 : Int32).toNatClampNeg ((v_z_2 (11 : Int32).toNatClampNeg) + 1)) fun v_z_3 => some v_z_3)))))
theorem kX10_stand_inX10 : ∀ w ∈ u_ws RX10 TX10 16, w ∈ wsX10_stand := by decide +kernel
theorem kX10_stand_1 : Cond.fieldLink RX10 7 (TX10 0).1 (TX10 0).2.1 (TX10 0).2.2.1 ∈ wsX10_stand := by decide +kernel
theorem cd_X10_stand : yX10_stand.cls = RX10 ∧ yX10_stand.cls ≠ "java/lang/invoke/MethodHandle" ∧ yX10_stand.cls ≠ "java/lang/invoke/VarHandle" ∧ (parseMethodDescriptor yX10_stand.desc).map (fun d => d.parameters.length) = some 2 := by decide +kernel
set_option maxRecDepth 100000 in
set_option maxHeartbeats 4000000 in
theorem c_X10_stand (E : zk_Env) (l : Launch) (a : aX10) (v : VX10) (x1 : Int32) (x2 : Int32) : zk_Mc E l yX10_stand wsX10_stand ({ frames := 0, cells := 0, slots := 0, locals := 0 } : Room) [.ref a.1, .int x1, .int x2] (gX10 E a v) (f_X10_stand x1 x2 v.1) (fun _ => none) (fun r => (gX10 E a (r, v.2))) := by
  obtain ⟨v_z, v_snaps, v_hasSnap, v_past, v_pastHas, v_pastMany, v_before, v_spare, v_text, v_typed, v_failure, v_hasFailed, v_isQuiet, v_from, v_end, v_numbers⟩ := v
  refine zk_M (cc := cX10_stand) (nL := 3) (ret := none) (by decide) rfl (Nat.le_of_ble_eq_true rfl) (fun X Q hQ => ?_)
  refine zk_eqv (w1 := (gX10 E a (v_z, v_snaps, v_hasSnap, v_past, v_pastHas, v_pastMany, v_before, v_spare, v_text, v_typed, v_failure, v_hasFailed, v_isQuiet, v_from, v_end, v_numbers))) (lv1 := [(0, .ref a.1), (1, .int x1), (2, .int x2)]) (st1 := []) (o1 := f_X10_stand x1 x2 v_z) rfl rfl rfl rfl ?_
  unfold f_X10_stand
  refine zk_aload_n dX10_stand_0 0 rfl 1 rfl ?_
  refine zk_get dX10_stand_1 0 rfl rfl kX10_stand_inX10 0 (by decide) kX10_stand_1 rfl 4 rfl ?_
  refine zk_sipush 172 dX10_stand_4 (by decide) 7 rfl ?_
  refine zk_iload_n dX10_stand_7 1 rfl 8 rfl ?_
  refine zk_iadd dX10_stand_8 9 rfl ?_
  refine zk_iload_n dX10_stand_9 2 rfl 10 rfl ?_
  refine zk_iast (gX10 E a ((upd v_z (172 + x1).toNatClampNeg x2), v_snaps, v_hasSnap, v_past, v_pastHas, v_pastMany, v_before, v_spare, v_text, v_typed, v_failure, v_hasFailed, v_isQuiet, v_from, v_end, v_numbers)) dX10_stand_10 1 rfl rfl 11 rfl ?_
  refine zk_nmw (fun v_z_1 => (gX10 E a (v_z_1, v_snaps, v_hasSnap, v_past, v_pastHas, v_pastMany, v_before, v_spare, v_text, v_typed, v_failure, v_hasFailed, v_isQuiet, v_from, v_end, v_numbers))) _ rfl (fun v_z_1 => ?_)
  refine zk_aload_n dX10_stand_11 0 rfl 12 rfl ?_
  refine zk_get dX10_stand_12 0 rfl rfl kX10_stand_inX10 0 (by decide) kX10_stand_1 rfl 15 rfl ?_
  refine zk_sipush 212 dX10_stand_15 (by decide) 18 rfl ?_
  refine zk_iload_n dX10_stand_18 1 rfl 19 rfl ?_
  refine zk_iadd dX10_stand_19 20 rfl ?_
  refine zk_aload_n dX10_stand_20 0 rfl 21 rfl ?_
  refine zk_get dX10_stand_21 0 rfl rfl kX10_stand_inX10 0 (by decide) kX10_stand_1 rfl 24 rfl ?_
  refine zk_bipush 11 dX10_stand_24 (by decide) 26 rfl ?_
  refine zk_iald dX10_stand_26 1 rfl 27 rfl ?_
  refine zk_iast (gX10 E a ((upd v_z_1 (212 + x1).toNatClampNeg (v_z_1 (11 : Int32).toNatClampNeg)), v_snaps, v_hasSnap, v_past, v_pastHas, v_pastMany, v_before, v_spare, v_text, v_typed, v_failure, v_hasFailed, v_isQuiet, v_from, v_end, v_numbers)) dX10_stand_27 1 rfl rfl 28 rfl ?_
  refine zk_nmw (fun v_z_2 => (gX10 E a (v_z_2, v_snaps, v_hasSnap, v_past, v_pastHas, v_pastMany, v_before, v_spare, v_text, v_typed, v_failure, v_hasFailed, v_isQuiet, v_from, v_end, v_numbers))) _ rfl (fun v_z_2 => ?_)
  refine zk_aload_n dX10_stand_28 0 rfl 29 rfl ?_
  refine zk_get dX10_stand_29 0 rfl rfl kX10_stand_inX10 0 (by decide) kX10_stand_1 rfl 32 rfl ?_
  refine zk_bipush 11 dX10_stand_32 (by decide) 34 rfl ?_
  refine zk_dup2 dX10_stand_34 rfl rfl 35 rfl ?_
  refine zk_iald dX10_stand_35 1 rfl 36 rfl ?_
  refine zk_iconst 1 dX10_stand_36 (by decide) 37 rfl ?_
  refine zk_iadd dX10_stand_37 38 rfl ?_
  refine zk_iast (gX10 E a ((upd v_z_2 (11 : Int32).toNatClampNeg ((v_z_2 (11 : Int32).toNatClampNeg) + 1)), v_snaps, v_hasSnap, v_past, v_pastHas, v_pastMany, v_before, v_spare, v_text, v_typed, v_failure, v_hasFailed, v_isQuiet, v_from, v_end, v_numbers)) dX10_stand_38 1 rfl rfl 39 rfl ?_
  refine zk_nmw (fun v_z_3 => (gX10 E a (v_z_3, v_snaps, v_hasSnap, v_past, v_pastHas, v_pastMany, v_before, v_spare, v_text, v_typed, v_failure, v_hasFailed, v_isQuiet, v_from, v_end, v_numbers))) _ rfl (fun v_z_3 => ?_)
  exact zk_vret hQ dX10_stand_39 rfl rfl
def f_X10_standByDistance (x1 : Int32) (v_z : (Nat → Int32)) : Option ((Nat → Int32)) := zk_ck (12 + x1) 368 (zk_let (v_z (12 + x1).toNatClampNeg) fun x2_1 => zk_ck 0 368 (zk_let (x2_1 - (v_z (0 : Int32).toNatClampNeg)) fun x3_2 => if 8 ≤ x3_2 then if 64 ≤ x3_2 then (f_X10_stand x1 (16 + (zk_rem (x2_1 / 64) 8)) v_z).bind fun r73 => some r73 else (f_X10_stand x1 (8 + (zk_rem (x2_1 / 8) 8)) v_z).bind fun r55 => some r55 else (f_X10_stand x1 (zk_rem x2_1 8) v_z).bind fun r31 => some r31))
theorem kX10_standByDistance_inX10 : ∀ w ∈ u_ws RX10 TX10 16, w ∈ wsX10_standByDistance := by decide +kernel
theorem kX10_standByDistance_1 : Cond.fieldLink RX10 7 (TX10 0).1 (TX10 0).2.1 (TX10 0).2.2.1 ∈ wsX10_standByDistance := by decide +kernel
theorem cd_X10_standByDistance : yX10_standByDistance.cls = RX10 ∧ yX10_standByDistance.cls ≠ "java/lang/invoke/MethodHandle" ∧ yX10_standByDistance.cls ≠ "java/lang/invoke/VarHandle" ∧ (parseMethodDescriptor yX10_standByDistance.desc).map (fun d => d.parameters.length) = some 1 := by decide +kernel
set_option maxRecDepth 100000 in
set_option maxHeartbeats 4000000 in
theorem c_X10_standByDistance (E : zk_Env) (l : Launch) (a : aX10) (v : VX10) (x1 : Int32) : zk_Mc E l yX10_standByDistance wsX10_standByDistance ({ frames := 1, cells := 0, slots := 0, locals := 22 } : Room) [.ref a.1, .int x1] (gX10 E a v) (f_X10_standByDistance x1 v.1) (fun _ => none) (fun r => (gX10 E a (r, v.2))) := by
  obtain ⟨v_z, v_snaps, v_hasSnap, v_past, v_pastHas, v_pastMany, v_before, v_spare, v_text, v_typed, v_failure, v_hasFailed, v_isQuiet, v_from, v_end, v_numbers⟩ := v
  refine zk_M (cc := cX10_standByDistance) (nL := 4) (ret := none) (by decide) rfl (Nat.le_of_ble_eq_true rfl) (fun X Q hQ => ?_)
  refine zk_eqv (w1 := (gX10 E a (v_z, v_snaps, v_hasSnap, v_past, v_pastHas, v_pastMany, v_before, v_spare, v_text, v_typed, v_failure, v_hasFailed, v_isQuiet, v_from, v_end, v_numbers))) (lv1 := [(0, .ref a.1), (1, .int x1)]) (st1 := []) (o1 := f_X10_standByDistance x1 v_z) rfl rfl rfl rfl ?_
  unfold f_X10_standByDistance
  refine zk_aload_n dX10_standByDistance_0 0 rfl 1 rfl ?_
  refine zk_get dX10_standByDistance_1 0 rfl rfl kX10_standByDistance_inX10 0 (by decide) kX10_standByDistance_1 rfl 4 rfl ?_
  refine zk_bipush 12 dX10_standByDistance_4 (by decide) 6 rfl ?_
  refine zk_iload_n dX10_standByDistance_6 1 rfl 7 rfl ?_
  refine zk_iadd dX10_standByDistance_7 8 rfl ?_
  refine zk_iald dX10_standByDistance_8 1 rfl 9 rfl ?_
  refine zk_nm (fun x2_1 => ?_)
  refine zk_istore_n [(2, .int x2_1), (0, .ref a.1), (1, .int x1)] dX10_standByDistance_9 (by decide) rfl 10 rfl ?_
  refine zk_iload_n dX10_standByDistance_10 0 rfl 11 rfl ?_
  refine zk_aload_n dX10_standByDistance_11 1 rfl 12 rfl ?_
  refine zk_get dX10_standByDistance_12 0 rfl rfl kX10_standByDistance_inX10 0 (by decide) kX10_standByDistance_1 rfl 15 rfl ?_
  refine zk_iconst 0 dX10_standByDistance_15 (by decide) 16 rfl ?_
  refine zk_iald dX10_standByDistance_16 1 rfl 17 rfl ?_
  refine zk_isub dX10_standByDistance_17 18 rfl ?_
  refine zk_nm (fun x3_2 => ?_)
  refine zk_istore_n [(3, .int x3_2), (2, .int x2_1), (0, .ref a.1), (1, .int x1)] dX10_standByDistance_18 (by decide) rfl 19 rfl ?_
  refine zk_iload_n dX10_standByDistance_19 0 rfl 20 rfl ?_
  refine zk_bipush 8 dX10_standByDistance_20 (by decide) 22 rfl ?_
  refine zk_icmp_ge dX10_standByDistance_22 37 (by decide) 25 rfl (fun _ => ?_) (fun _ => ?_)
  · refine zk_iload_n dX10_standByDistance_37 0 rfl 38 rfl ?_
    refine zk_bipush 64 dX10_standByDistance_38 (by decide) 40 rfl ?_
    refine zk_icmp_ge dX10_standByDistance_40 61 (by decide) 43 rfl (fun _ => ?_) (fun _ => ?_)
    · refine zk_aload_n dX10_standByDistance_61 2 rfl 62 rfl ?_
      refine zk_iload_n dX10_standByDistance_62 3 rfl 63 rfl ?_
      refine zk_bipush 16 dX10_standByDistance_63 (by decide) 65 rfl ?_
      refine zk_iload_n dX10_standByDistance_65 1 rfl 66 rfl ?_
      refine zk_bipush 64 dX10_standByDistance_66 (by decide) 68 rfl ?_
      refine zk_idivL dX10_standByDistance_68 (by decide) 69 rfl ?_
      refine zk_bipush 8 dX10_standByDistance_69 (by decide) 71 rfl ?_
      refine zk_iremL dX10_standByDistance_71 (by decide) 72 rfl ?_
      refine zk_iadd dX10_standByDistance_72 73 rfl ?_
      refine zk_callV (ci := 10) (st := []) (c_X10_stand E l a (v_z, v_snaps, v_hasSnap, v_past, v_pastHas, v_pastMany, v_before, v_spare, v_text, v_typed, v_failure, v_hasFailed, v_isQuiet, v_from, v_end, v_numbers) x1 (16 + (zk_rem (x2_1 / 64) 8))) dX10_standByDistance_73 2 gX10_standByDistance_X10_stand rfl rfl rfl cd_X10_stand ⟨Nat.le_of_ble_eq_true rfl, Nat.le_of_ble_eq_true rfl⟩ ⟨Nat.zero_le _, Nat.zero_le _⟩ _ (fun r73 => (gX10 E a (r73, v_snaps, v_hasSnap, v_past, v_pastHas, v_pastMany, v_before, v_spare, v_text, v_typed, v_failure, v_hasFailed, v_isQuiet, v_from, v_end, v_numbers))) zk_pa (fun r73 => zk_qa) rfl rfl rfl rfl (Nat.le_of_ble_eq_true rfl) (fun r73 => []) (fun _ => rfl) 76 rfl (fun r73 => ?_)
      exact zk_vret hQ dX10_standByDistance_76 rfl rfl
    · refine zk_aload_n dX10_standByDistance_43 2 rfl 44 rfl ?_
      refine zk_iload_n dX10_standByDistance_44 3 rfl 45 rfl ?_
      refine zk_bipush 8 dX10_standByDistance_45 (by decide) 47 rfl ?_
      refine zk_iload_n dX10_standByDistance_47 1 rfl 48 rfl ?_
      refine zk_bipush 8 dX10_standByDistance_48 (by decide) 50 rfl ?_
      refine zk_idivL dX10_standByDistance_50 (by decide) 51 rfl ?_
      refine zk_bipush 8 dX10_standByDistance_51 (by decide) 53 rfl ?_
      refine zk_iremL dX10_standByDistance_53 (by decide) 54 rfl ?_
      refine zk_iadd dX10_standByDistance_54 55 rfl ?_
      refine zk_callV (ci := 10) (st := []) (c_X10_stand E l a (v_z, v_snaps, v_hasSnap, v_past, v_pastHas, v_pastMany, v_before, v_spare, v_text, v_typed, v_failure, v_hasFailed, v_isQuiet, v_from, v_end, v_numbers) x1 (8 + (zk_rem (x2_1 / 8) 8))) dX10_standByDistance_55 2 gX10_standByDistance_X10_stand rfl rfl rfl cd_X10_stand ⟨Nat.le_of_ble_eq_true rfl, Nat.le_of_ble_eq_true rfl⟩ ⟨Nat.zero_le _, Nat.zero_le _⟩ _ (fun r55 => (gX10 E a (r55, v_snaps, v_hasSnap, v_past, v_pastHas, v_pastMany, v_before, v_spare, v_text, v_typed, v_failure, v_hasFailed, v_isQuiet, v_from, v_end, v_numbers))) zk_pa (fun r55 => zk_qa) rfl rfl rfl rfl (Nat.le_of_ble_eq_true rfl) (fun r55 => []) (fun _ => rfl) 58 rfl (fun r55 => ?_)
      refine zk_goto dX10_standByDistance_58 76 (by decide) ?_
      exact zk_vret hQ dX10_standByDistance_76 rfl rfl
  · refine zk_aload_n dX10_standByDistance_25 2 rfl 26 rfl ?_
    refine zk_iload_n dX10_standByDistance_26 3 rfl 27 rfl ?_
    refine zk_iload_n dX10_standByDistance_27 1 rfl 28 rfl ?_
    refine zk_bipush 8 dX10_standByDistance_28 (by decide) 30 rfl ?_
    refine zk_iremL dX10_standByDistance_30 (by decide) 31 rfl ?_
    refine zk_callV (ci := 10) (st := []) (c_X10_stand E l a (v_z, v_snaps, v_hasSnap, v_past, v_pastHas, v_pastMany, v_before, v_spare, v_text, v_typed, v_failure, v_hasFailed, v_isQuiet, v_from, v_end, v_numbers) x1 (zk_rem x2_1 8)) dX10_standByDistance_31 2 gX10_standByDistance_X10_stand rfl rfl rfl cd_X10_stand ⟨Nat.le_of_ble_eq_true rfl, Nat.le_of_ble_eq_true rfl⟩ ⟨Nat.zero_le _, Nat.zero_le _⟩ _ (fun r31 => (gX10 E a (r31, v_snaps, v_hasSnap, v_past, v_pastHas, v_pastMany, v_before, v_spare, v_text, v_typed, v_failure, v_hasFailed, v_isQuiet, v_from, v_end, v_numbers))) zk_pa (fun r31 => zk_qa) rfl rfl rfl rfl (Nat.le_of_ble_eq_true rfl) (fun r31 => []) (fun _ => rfl) 34 rfl (fun r31 => ?_)
    refine zk_goto dX10_standByDistance_34 76 (by decide) ?_
    exact zk_vret hQ dX10_standByDistance_76 rfl rfl
def f_X10_front_72 (k4 : Int32 × Int32 → Option (Int32)) (s72_0 : Int32) (x3 : Int32) : Option (Int32) := k4 (s72_0, (x3 + 1))
def f_X10_front_60 (k4 : Int32 × Int32 → Option (Int32)) (s60_0 : Int32) (x2 : Int32) (x3 : Int32) : Option (Int32) := if s60_0 = 0 then f_X10_front_72 k4 x2 x3 else f_X10_front_72 k4 x3 x3
def f_X10_front_59 (k4 : Int32 × Int32 → Option (Int32)) (x2 : Int32) (x3 : Int32) : Option (Int32) := f_X10_front_60 k4 0 x2 x3
def f_X10_front_55 (k4 : Int32 × Int32 → Option (Int32)) (x2 : Int32) (x3 : Int32) : Option (Int32) := f_X10_front_60 k4 1 x2 x3
def F_X10_front_4 (x1 : Int32) (v_z : (Nat → Int32)) (k4 : Int32 × Int32 → Option (Int32)) : Int32 × Int32 → Option (Int32) := fun s => match s with
  | (x2, x3) => zk_ck 1 368 (if (v_z (1 : Int32).toNatClampNeg) ≤ x3 then some x2 else zk_ck (172 + x3) 368 (if (v_z (172 + x3).toNatClampNeg) = x1 then if x2 < 0 then f_X10_front_55 k4 x2 x3 else zk_ck (212 + x3) 368 (zk_ck (212 + x2) 368 (if (v_z (212 + x2).toNatClampNeg) ≤ (v_z (212 + x3).toNatClampNeg) then f_X10_front_59 k4 x2 x3 else f_X10_front_55 k4 x2 x3)) else f_X10_front_59 k4 x2 x3))
def f_X10_front (x1 : Int32) (v_z : (Nat → Int32)) : Option (Int32) := zk_fx (F_X10_front_4 x1 v_z ) zk_N ((-1), 0)
theorem kX10_front_inX10 : ∀ w ∈ u_ws RX10 TX10 16, w ∈ wsX10_front := by decide +kernel
theorem kX10_front_1 : Cond.fieldLink RX10 7 (TX10 0).1 (TX10 0).2.1 (TX10 0).2.2.1 ∈ wsX10_front := by decide +kernel
theorem cd_X10_front : yX10_front.cls = RX10 ∧ yX10_front.cls ≠ "java/lang/invoke/MethodHandle" ∧ yX10_front.cls ≠ "java/lang/invoke/VarHandle" ∧ (parseMethodDescriptor yX10_front.desc).map (fun d => d.parameters.length) = some 1 := by decide +kernel
set_option maxRecDepth 100000 in
set_option maxHeartbeats 4000000 in
theorem c_X10_front (E : zk_Env) (l : Launch) (a : aX10) (v : VX10) (x1 : Int32) : zk_Mc E l yX10_front wsX10_front ({ frames := 0, cells := 0, slots := 0, locals := 0 } : Room) [.ref a.1, .int x1] (gX10 E a v) (f_X10_front x1 v.1) (fun r => some (.int r)) (fun r => (gX10 E a v)) := by
  obtain ⟨v_z, v_snaps, v_hasSnap, v_past, v_pastHas, v_pastMany, v_before, v_spare, v_text, v_typed, v_failure, v_hasFailed, v_isQuiet, v_from, v_end, v_numbers⟩ := v
  refine zk_M (cc := cX10_front) (nL := 5) (ret := (some .int)) (by decide) rfl (Nat.le_of_ble_eq_true rfl) (fun X Q hQ => ?_)
  have J72 : ∀ (k4 : Int32 × Int32 → Option (Int32)) (hk4 : ∀ s : Int32 × Int32, zk_G E l X cX10_front 5 (some .int) yX10_front.cls wsX10_front ({ frames := 0, cells := 0, slots := 0, locals := 0 } : Room) 0 0 Q (gX10 E a (v_z, v_snaps, v_hasSnap, v_past, v_pastHas, v_pastMany, v_before, v_spare, v_text, v_typed, v_failure, v_hasFailed, v_isQuiet, v_from, v_end, v_numbers)) [(0, .ref a.1), (1, .int x1), (2, .int s.1), (3, .int s.2)] 4 [] (k4 s)) (s72_0 : Int32) (x3 : Int32), zk_G E l X cX10_front 5 (some .int) yX10_front.cls wsX10_front ({ frames := 0, cells := 0, slots := 0, locals := 0 } : Room) 0 0 Q (gX10 E a (v_z, v_snaps, v_hasSnap, v_past, v_pastHas, v_pastMany, v_before, v_spare, v_text, v_typed, v_failure, v_hasFailed, v_isQuiet, v_from, v_end, v_numbers)) [(0, .ref a.1), (1, .int x1), (3, .int x3)] 72 [.int s72_0] (f_X10_front_72 k4 s72_0 x3) := by
    intro k4 hk4 s72_0 x3
    unfold f_X10_front_72
    refine zk_istore_n [(2, .int s72_0), (0, .ref a.1), (1, .int x1), (3, .int x3)] dX10_front_72 (by decide) rfl 73 rfl ?_
    refine zk_iinc (x3 + 1) [(3, .int (x3 + 1)), (2, .int s72_0), (0, .ref a.1), (1, .int x1)] dX10_front_73 3 rfl rfl (by decide) rfl 76 rfl ?_
    refine zk_goto dX10_front_76 4 (by decide) ?_
    refine zk_lv [2, 3, 1, 0] rfl ?_
    exact hk4 (s72_0, (x3 + 1))
  have J60 : ∀ (k4 : Int32 × Int32 → Option (Int32)) (hk4 : ∀ s : Int32 × Int32, zk_G E l X cX10_front 5 (some .int) yX10_front.cls wsX10_front ({ frames := 0, cells := 0, slots := 0, locals := 0 } : Room) 0 0 Q (gX10 E a (v_z, v_snaps, v_hasSnap, v_past, v_pastHas, v_pastMany, v_before, v_spare, v_text, v_typed, v_failure, v_hasFailed, v_isQuiet, v_from, v_end, v_numbers)) [(0, .ref a.1), (1, .int x1), (2, .int s.1), (3, .int s.2)] 4 [] (k4 s)) (s60_0 : Int32) (x2 : Int32) (x3 : Int32), zk_G E l X cX10_front 5 (some .int) yX10_front.cls wsX10_front ({ frames := 0, cells := 0, slots := 0, locals := 0 } : Room) 0 0 Q (gX10 E a (v_z, v_snaps, v_hasSnap, v_past, v_pastHas, v_pastMany, v_before, v_spare, v_text, v_typed, v_failure, v_hasFailed, v_isQuiet, v_from, v_end, v_numbers)) [(0, .ref a.1), (1, .int x1), (2, .int x2), (3, .int x3)] 60 [.int s60_0] (f_X10_front_60 k4 s60_0 x2 x3) := by
    intro k4 hk4 s60_0 x2 x3
    unfold f_X10_front_60
    refine zk_istore [(4, .int s60_0), (0, .ref a.1), (1, .int x1), (2, .int x2), (3, .int x3)] dX10_front_60 (by decide) rfl 62 rfl ?_
    refine zk_iload dX10_front_62 0 rfl 64 rfl ?_
    refine zk_if_eq dX10_front_64 71 (by decide) 67 rfl (fun _ => ?_) (fun _ => ?_)
    · refine zk_iload_n dX10_front_71 3 rfl 72 rfl ?_
      refine zk_lv [1, 2, 4] rfl ?_
      exact J72  k4 hk4 x2 x3
    · refine zk_iload_n dX10_front_67 4 rfl 68 rfl ?_
      refine zk_goto dX10_front_68 72 (by decide) ?_
      refine zk_lv [1, 2, 4] rfl ?_
      exact J72  k4 hk4 x3 x3
  have J59 : ∀ (k4 : Int32 × Int32 → Option (Int32)) (hk4 : ∀ s : Int32 × Int32, zk_G E l X cX10_front 5 (some .int) yX10_front.cls wsX10_front ({ frames := 0, cells := 0, slots := 0, locals := 0 } : Room) 0 0 Q (gX10 E a (v_z, v_snaps, v_hasSnap, v_past, v_pastHas, v_pastMany, v_before, v_spare, v_text, v_typed, v_failure, v_hasFailed, v_isQuiet, v_from, v_end, v_numbers)) [(0, .ref a.1), (1, .int x1), (2, .int s.1), (3, .int s.2)] 4 [] (k4 s)) (x2 : Int32) (x3 : Int32), zk_G E l X cX10_front 5 (some .int) yX10_front.cls wsX10_front ({ frames := 0, cells := 0, slots := 0, locals := 0 } : Room) 0 0 Q (gX10 E a (v_z, v_snaps, v_hasSnap, v_past, v_pastHas, v_pastMany, v_before, v_spare, v_text, v_typed, v_failure, v_hasFailed, v_isQuiet, v_from, v_end, v_numbers)) [(0, .ref a.1), (1, .int x1), (2, .int x2), (3, .int x3)] 59 [] (f_X10_front_59 k4 x2 x3) := by
    intro k4 hk4 x2 x3
    unfold f_X10_front_59
    refine zk_iconst 0 dX10_front_59 (by decide) 60 rfl ?_
    exact J60  k4 hk4 0 x2 x3
  have J55 : ∀ (k4 : Int32 × Int32 → Option (Int32)) (hk4 : ∀ s : Int32 × Int32, zk_G E l X cX10_front 5 (some .int) yX10_front.cls wsX10_front ({ frames := 0, cells := 0, slots := 0, locals := 0 } : Room) 0 0 Q (gX10 E a (v_z, v_snaps, v_hasSnap, v_past, v_pastHas, v_pastMany, v_before, v_spare, v_text, v_typed, v_failure, v_hasFailed, v_isQuiet, v_from, v_end, v_numbers)) [(0, .ref a.1), (1, .int x1), (2, .int s.1), (3, .int s.2)] 4 [] (k4 s)) (x2 : Int32) (x3 : Int32), zk_G E l X cX10_front 5 (some .int) yX10_front.cls wsX10_front ({ frames := 0, cells := 0, slots := 0, locals := 0 } : Room) 0 0 Q (gX10 E a (v_z, v_snaps, v_hasSnap, v_past, v_pastHas, v_pastMany, v_before, v_spare, v_text, v_typed, v_failure, v_hasFailed, v_isQuiet, v_from, v_end, v_numbers)) [(0, .ref a.1), (1, .int x1), (2, .int x2), (3, .int x3)] 55 [] (f_X10_front_55 k4 x2 x3) := by
    intro k4 hk4 x2 x3
    unfold f_X10_front_55
    refine zk_iconst 1 dX10_front_55 (by decide) 56 rfl ?_
    refine zk_goto dX10_front_56 60 (by decide) ?_
    exact J60  k4 hk4 1 x2 x3
  have J4 : ∀ (n : Nat) (x2 : Int32) (x3 : Int32), zk_G E l X cX10_front 5 (some .int) yX10_front.cls wsX10_front ({ frames := 0, cells := 0, slots := 0, locals := 0 } : Room) 0 0 Q (gX10 E a (v_z, v_snaps, v_hasSnap, v_past, v_pastHas, v_pastMany, v_before, v_spare, v_text, v_typed, v_failure, v_hasFailed, v_isQuiet, v_from, v_end, v_numbers)) [(0, .ref a.1), (1, .int x1), (2, .int x2), (3, .int x3)] 4 [] (zk_fx (F_X10_front_4 x1 v_z ) n (x2, x3)) := by
    intro n x2 x3
    refine zk_loop (S := Int32 × Int32) (F := F_X10_front_4 x1 v_z) (wS := fun s => (gX10 E a (v_z, v_snaps, v_hasSnap, v_past, v_pastHas, v_pastMany, v_before, v_spare, v_text, v_typed, v_failure, v_hasFailed, v_isQuiet, v_from, v_end, v_numbers))) (lS := fun s => [(0, .ref a.1), (1, .int x1), (2, .int s.1), (3, .int s.2)]) (sS := fun _ => []) (fun k4 hk4 s => ?_) n (x2, x3)
    obtain ⟨x2, x3⟩ := s
    unfold F_X10_front_4
    try dsimp only
    refine zk_iload_n dX10_front_4 3 rfl 5 rfl ?_
    refine zk_aload_n dX10_front_5 0 rfl 6 rfl ?_
    refine zk_get dX10_front_6 0 rfl rfl kX10_front_inX10 0 (by decide) kX10_front_1 rfl 9 rfl ?_
    refine zk_iconst 1 dX10_front_9 (by decide) 10 rfl ?_
    refine zk_iald dX10_front_10 1 rfl 11 rfl ?_
    refine zk_icmp_ge dX10_front_11 79 (by decide) 14 rfl (fun _ => ?_) (fun _ => ?_)
    · refine zk_iload_n dX10_front_79 2 rfl 80 rfl ?_
      exact zk_iret hQ dX10_front_80 rfl rfl
    · refine zk_aload_n dX10_front_14 0 rfl 15 rfl ?_
      refine zk_get dX10_front_15 0 rfl rfl kX10_front_inX10 0 (by decide) kX10_front_1 rfl 18 rfl ?_
      refine zk_sipush 172 dX10_front_18 (by decide) 21 rfl ?_
      refine zk_iload_n dX10_front_21 3 rfl 22 rfl ?_
      refine zk_iadd dX10_front_22 23 rfl ?_
      refine zk_iald dX10_front_23 1 rfl 24 rfl ?_
      refine zk_iload_n dX10_front_24 1 rfl 25 rfl ?_
      refine zk_icmp_ne dX10_front_25 59 (by decide) 28 rfl (fun _ => ?_) (fun _ => ?_)
      · refine zk_iload_n dX10_front_28 2 rfl 29 rfl ?_
        refine zk_if_lt dX10_front_29 55 (by decide) 32 rfl (fun _ => ?_) (fun _ => ?_)
        · exact J55  k4 hk4 x2 x3
        · refine zk_aload_n dX10_front_32 0 rfl 33 rfl ?_
          refine zk_get dX10_front_33 0 rfl rfl kX10_front_inX10 0 (by decide) kX10_front_1 rfl 36 rfl ?_
          refine zk_sipush 212 dX10_front_36 (by decide) 39 rfl ?_
          refine zk_iload_n dX10_front_39 3 rfl 40 rfl ?_
          refine zk_iadd dX10_front_40 41 rfl ?_
          refine zk_iald dX10_front_41 1 rfl 42 rfl ?_
          refine zk_aload_n dX10_front_42 0 rfl 43 rfl ?_
          refine zk_get dX10_front_43 0 rfl rfl kX10_front_inX10 0 (by decide) kX10_front_1 rfl 46 rfl ?_
          refine zk_sipush 212 dX10_front_46 (by decide) 49 rfl ?_
          refine zk_iload_n dX10_front_49 2 rfl 50 rfl ?_
          refine zk_iadd dX10_front_50 51 rfl ?_
          refine zk_iald dX10_front_51 1 rfl 52 rfl ?_
          refine zk_icmp_ge dX10_front_52 59 (by decide) 55 rfl (fun _ => ?_) (fun _ => ?_)
          · exact J59  k4 hk4 x2 x3
          · exact J55  k4 hk4 x2 x3
      · exact J59  k4 hk4 x2 x3
  refine zk_eqv (w1 := (gX10 E a (v_z, v_snaps, v_hasSnap, v_past, v_pastHas, v_pastMany, v_before, v_spare, v_text, v_typed, v_failure, v_hasFailed, v_isQuiet, v_from, v_end, v_numbers))) (lv1 := [(0, .ref a.1), (1, .int x1)]) (st1 := []) (o1 := f_X10_front x1 v_z) rfl rfl rfl rfl ?_
  unfold f_X10_front
  refine zk_iconst (-1) dX10_front_0 (by decide) 1 rfl ?_
  refine zk_istore_n [(2, .int (-1)), (0, .ref a.1), (1, .int x1)] dX10_front_1 (by decide) rfl 2 rfl ?_
  refine zk_iconst 0 dX10_front_2 (by decide) 3 rfl ?_
  refine zk_istore_n [(3, .int 0), (2, .int (-1)), (0, .ref a.1), (1, .int x1)] dX10_front_3 (by decide) rfl 4 rfl ?_
  refine zk_lv [2, 3, 1, 0] rfl ?_
  exact J4    zk_N (-1) 0
def f_X10_manyAt_34 (k4 : Int32 × Int32 → Option (Int32)) (s34_0 : Int32) (s34_1 : Int32) (x3 : Int32) : Option (Int32) := zk_let (s34_0 + s34_1) fun x2_1 => k4 (x2_1, (x3 + 1))
def F_X10_manyAt_4 (x1 : Int32) (v_z : (Nat → Int32)) (k4 : Int32 × Int32 → Option (Int32)) : Int32 × Int32 → Option (Int32) := fun s => match s with
  | (x2, x3) => zk_ck 1 368 (if (v_z (1 : Int32).toNatClampNeg) ≤ x3 then some x2 else zk_ck (172 + x3) 368 (if (v_z (172 + x3).toNatClampNeg) = x1 then f_X10_manyAt_34 k4 x2 1 x3 else f_X10_manyAt_34 k4 x2 0 x3))
def f_X10_manyAt (x1 : Int32) (v_z : (Nat → Int32)) : Option (Int32) := zk_fx (F_X10_manyAt_4 x1 v_z ) zk_N (0, 0)
theorem kX10_manyAt_inX10 : ∀ w ∈ u_ws RX10 TX10 16, w ∈ wsX10_manyAt := by decide +kernel
theorem kX10_manyAt_1 : Cond.fieldLink RX10 7 (TX10 0).1 (TX10 0).2.1 (TX10 0).2.2.1 ∈ wsX10_manyAt := by decide +kernel
theorem cd_X10_manyAt : yX10_manyAt.cls = RX10 ∧ yX10_manyAt.cls ≠ "java/lang/invoke/MethodHandle" ∧ yX10_manyAt.cls ≠ "java/lang/invoke/VarHandle" ∧ (parseMethodDescriptor yX10_manyAt.desc).map (fun d => d.parameters.length) = some 1 := by decide +kernel
set_option maxRecDepth 100000 in
set_option maxHeartbeats 4000000 in
theorem c_X10_manyAt (E : zk_Env) (l : Launch) (a : aX10) (v : VX10) (x1 : Int32) : zk_Mc E l yX10_manyAt wsX10_manyAt ({ frames := 0, cells := 0, slots := 0, locals := 0 } : Room) [.ref a.1, .int x1] (gX10 E a v) (f_X10_manyAt x1 v.1) (fun r => some (.int r)) (fun r => (gX10 E a v)) := by
  obtain ⟨v_z, v_snaps, v_hasSnap, v_past, v_pastHas, v_pastMany, v_before, v_spare, v_text, v_typed, v_failure, v_hasFailed, v_isQuiet, v_from, v_end, v_numbers⟩ := v
  refine zk_M (cc := cX10_manyAt) (nL := 4) (ret := (some .int)) (by decide) rfl (Nat.le_of_ble_eq_true rfl) (fun X Q hQ => ?_)
  have J34 : ∀ (k4 : Int32 × Int32 → Option (Int32)) (hk4 : ∀ s : Int32 × Int32, zk_G E l X cX10_manyAt 4 (some .int) yX10_manyAt.cls wsX10_manyAt ({ frames := 0, cells := 0, slots := 0, locals := 0 } : Room) 0 0 Q (gX10 E a (v_z, v_snaps, v_hasSnap, v_past, v_pastHas, v_pastMany, v_before, v_spare, v_text, v_typed, v_failure, v_hasFailed, v_isQuiet, v_from, v_end, v_numbers)) [(0, .ref a.1), (1, .int x1), (2, .int s.1), (3, .int s.2)] 4 [] (k4 s)) (s34_0 : Int32) (s34_1 : Int32) (x3 : Int32), zk_G E l X cX10_manyAt 4 (some .int) yX10_manyAt.cls wsX10_manyAt ({ frames := 0, cells := 0, slots := 0, locals := 0 } : Room) 0 0 Q (gX10 E a (v_z, v_snaps, v_hasSnap, v_past, v_pastHas, v_pastMany, v_before, v_spare, v_text, v_typed, v_failure, v_hasFailed, v_isQuiet, v_from, v_end, v_numbers)) [(0, .ref a.1), (1, .int x1), (3, .int x3)] 34 [.int s34_1, .int s34_0] (f_X10_manyAt_34 k4 s34_0 s34_1 x3) := by
    intro k4 hk4 s34_0 s34_1 x3
    unfold f_X10_manyAt_34
    refine zk_iadd dX10_manyAt_34 35 rfl ?_
    refine zk_nm (fun x2_1 => ?_)
    refine zk_istore_n [(2, .int x2_1), (0, .ref a.1), (1, .int x1), (3, .int x3)] dX10_manyAt_35 (by decide) rfl 36 rfl ?_
    refine zk_iinc (x3 + 1) [(3, .int (x3 + 1)), (2, .int x2_1), (0, .ref a.1), (1, .int x1)] dX10_manyAt_36 3 rfl rfl (by decide) rfl 39 rfl ?_
    refine zk_goto dX10_manyAt_39 4 (by decide) ?_
    refine zk_lv [2, 3, 1, 0] rfl ?_
    exact hk4 (x2_1, (x3 + 1))
  have J4 : ∀ (n : Nat) (x2 : Int32) (x3 : Int32), zk_G E l X cX10_manyAt 4 (some .int) yX10_manyAt.cls wsX10_manyAt ({ frames := 0, cells := 0, slots := 0, locals := 0 } : Room) 0 0 Q (gX10 E a (v_z, v_snaps, v_hasSnap, v_past, v_pastHas, v_pastMany, v_before, v_spare, v_text, v_typed, v_failure, v_hasFailed, v_isQuiet, v_from, v_end, v_numbers)) [(0, .ref a.1), (1, .int x1), (2, .int x2), (3, .int x3)] 4 [] (zk_fx (F_X10_manyAt_4 x1 v_z ) n (x2, x3)) := by
    intro n x2 x3
    refine zk_loop (S := Int32 × Int32) (F := F_X10_manyAt_4 x1 v_z) (wS := fun s => (gX10 E a (v_z, v_snaps, v_hasSnap, v_past, v_pastHas, v_pastMany, v_before, v_spare, v_text, v_typed, v_failure, v_hasFailed, v_isQuiet, v_from, v_end, v_numbers))) (lS := fun s => [(0, .ref a.1), (1, .int x1), (2, .int s.1), (3, .int s.2)]) (sS := fun _ => []) (fun k4 hk4 s => ?_) n (x2, x3)
    obtain ⟨x2, x3⟩ := s
    unfold F_X10_manyAt_4
    try dsimp only
    refine zk_iload_n dX10_manyAt_4 3 rfl 5 rfl ?_
    refine zk_aload_n dX10_manyAt_5 0 rfl 6 rfl ?_
    refine zk_get dX10_manyAt_6 0 rfl rfl kX10_manyAt_inX10 0 (by decide) kX10_manyAt_1 rfl 9 rfl ?_
    refine zk_iconst 1 dX10_manyAt_9 (by decide) 10 rfl ?_
    refine zk_iald dX10_manyAt_10 1 rfl 11 rfl ?_
    refine zk_icmp_ge dX10_manyAt_11 42 (by decide) 14 rfl (fun _ => ?_) (fun _ => ?_)
    · refine zk_iload_n dX10_manyAt_42 2 rfl 43 rfl ?_
      exact zk_iret hQ dX10_manyAt_43 rfl rfl
    · refine zk_iload_n dX10_manyAt_14 2 rfl 15 rfl ?_
      refine zk_aload_n dX10_manyAt_15 0 rfl 16 rfl ?_
      refine zk_get dX10_manyAt_16 0 rfl rfl kX10_manyAt_inX10 0 (by decide) kX10_manyAt_1 rfl 19 rfl ?_
      refine zk_sipush 172 dX10_manyAt_19 (by decide) 22 rfl ?_
      refine zk_iload_n dX10_manyAt_22 3 rfl 23 rfl ?_
      refine zk_iadd dX10_manyAt_23 24 rfl ?_
      refine zk_iald dX10_manyAt_24 1 rfl 25 rfl ?_
      refine zk_iload_n dX10_manyAt_25 1 rfl 26 rfl ?_
      refine zk_icmp_ne dX10_manyAt_26 33 (by decide) 29 rfl (fun _ => ?_) (fun _ => ?_)
      · refine zk_iconst 1 dX10_manyAt_29 (by decide) 30 rfl ?_
        refine zk_goto dX10_manyAt_30 34 (by decide) ?_
        refine zk_lv [0, 1, 3] rfl ?_
        exact J34  k4 hk4 x2 1 x3
      · refine zk_iconst 0 dX10_manyAt_33 (by decide) 34 rfl ?_
        refine zk_lv [0, 1, 3] rfl ?_
        exact J34  k4 hk4 x2 0 x3
  refine zk_eqv (w1 := (gX10 E a (v_z, v_snaps, v_hasSnap, v_past, v_pastHas, v_pastMany, v_before, v_spare, v_text, v_typed, v_failure, v_hasFailed, v_isQuiet, v_from, v_end, v_numbers))) (lv1 := [(0, .ref a.1), (1, .int x1)]) (st1 := []) (o1 := f_X10_manyAt x1 v_z) rfl rfl rfl rfl ?_
  unfold f_X10_manyAt
  refine zk_iconst 0 dX10_manyAt_0 (by decide) 1 rfl ?_
  refine zk_istore_n [(2, .int 0), (0, .ref a.1), (1, .int x1)] dX10_manyAt_1 (by decide) rfl 2 rfl ?_
  refine zk_iconst 0 dX10_manyAt_2 (by decide) 3 rfl ?_
  refine zk_istore_n [(3, .int 0), (2, .int 0), (0, .ref a.1), (1, .int x1)] dX10_manyAt_3 (by decide) rfl 4 rfl ?_
  refine zk_lv [2, 3, 1, 0] rfl ?_
  exact J4    zk_N 0 0
def f_X10_placeOf_66 (k4 : Int32 × Int32 → Option (Int32)) (s66_0 : Int32) (s66_1 : Int32) (x3 : Int32) : Option (Int32) := zk_let (s66_0 + s66_1) fun x2_1 => k4 (x2_1, (x3 + 1))
def f_X10_placeOf_65 (k4 : Int32 × Int32 → Option (Int32)) (s65_0 : Int32) (x3 : Int32) : Option (Int32) := f_X10_placeOf_66 k4 s65_0 0 x3
def F_X10_placeOf_4 (x1 : Int32) (v_z : (Nat → Int32)) (k4 : Int32 × Int32 → Option (Int32)) : Int32 × Int32 → Option (Int32) := fun s => match s with
  | (x2, x3) => zk_ck 1 368 (if (v_z (1 : Int32).toNatClampNeg) ≤ x3 then some x2 else zk_ck (172 + x3) 368 (zk_ck (172 + x1) 368 (if (v_z (172 + x3).toNatClampNeg) = (v_z (172 + x1).toNatClampNeg) then zk_ck (212 + x3) 368 (zk_ck (212 + x1) 368 (if (v_z (212 + x1).toNatClampNeg) ≤ (v_z (212 + x3).toNatClampNeg) then f_X10_placeOf_65 k4 x2 x3 else f_X10_placeOf_66 k4 x2 1 x3)) else f_X10_placeOf_65 k4 x2 x3)))
def f_X10_placeOf (x1 : Int32) (v_z : (Nat → Int32)) : Option (Int32) := zk_fx (F_X10_placeOf_4 x1 v_z ) zk_N (0, 0)
theorem kX10_placeOf_inX10 : ∀ w ∈ u_ws RX10 TX10 16, w ∈ wsX10_placeOf := by decide +kernel
theorem kX10_placeOf_1 : Cond.fieldLink RX10 7 (TX10 0).1 (TX10 0).2.1 (TX10 0).2.2.1 ∈ wsX10_placeOf := by decide +kernel
theorem cd_X10_placeOf : yX10_placeOf.cls = RX10 ∧ yX10_placeOf.cls ≠ "java/lang/invoke/MethodHandle" ∧ yX10_placeOf.cls ≠ "java/lang/invoke/VarHandle" ∧ (parseMethodDescriptor yX10_placeOf.desc).map (fun d => d.parameters.length) = some 1 := by decide +kernel
set_option maxRecDepth 100000 in
set_option maxHeartbeats 4000000 in
theorem c_X10_placeOf (E : zk_Env) (l : Launch) (a : aX10) (v : VX10) (x1 : Int32) : zk_Mc E l yX10_placeOf wsX10_placeOf ({ frames := 0, cells := 0, slots := 0, locals := 0 } : Room) [.ref a.1, .int x1] (gX10 E a v) (f_X10_placeOf x1 v.1) (fun r => some (.int r)) (fun r => (gX10 E a v)) := by
  obtain ⟨v_z, v_snaps, v_hasSnap, v_past, v_pastHas, v_pastMany, v_before, v_spare, v_text, v_typed, v_failure, v_hasFailed, v_isQuiet, v_from, v_end, v_numbers⟩ := v
  refine zk_M (cc := cX10_placeOf) (nL := 4) (ret := (some .int)) (by decide) rfl (Nat.le_of_ble_eq_true rfl) (fun X Q hQ => ?_)
  have J66 : ∀ (k4 : Int32 × Int32 → Option (Int32)) (hk4 : ∀ s : Int32 × Int32, zk_G E l X cX10_placeOf 4 (some .int) yX10_placeOf.cls wsX10_placeOf ({ frames := 0, cells := 0, slots := 0, locals := 0 } : Room) 0 0 Q (gX10 E a (v_z, v_snaps, v_hasSnap, v_past, v_pastHas, v_pastMany, v_before, v_spare, v_text, v_typed, v_failure, v_hasFailed, v_isQuiet, v_from, v_end, v_numbers)) [(0, .ref a.1), (1, .int x1), (2, .int s.1), (3, .int s.2)] 4 [] (k4 s)) (s66_0 : Int32) (s66_1 : Int32) (x3 : Int32), zk_G E l X cX10_placeOf 4 (some .int) yX10_placeOf.cls wsX10_placeOf ({ frames := 0, cells := 0, slots := 0, locals := 0 } : Room) 0 0 Q (gX10 E a (v_z, v_snaps, v_hasSnap, v_past, v_pastHas, v_pastMany, v_before, v_spare, v_text, v_typed, v_failure, v_hasFailed, v_isQuiet, v_from, v_end, v_numbers)) [(0, .ref a.1), (1, .int x1), (3, .int x3)] 66 [.int s66_1, .int s66_0] (f_X10_placeOf_66 k4 s66_0 s66_1 x3) := by
    intro k4 hk4 s66_0 s66_1 x3
    unfold f_X10_placeOf_66
    refine zk_iadd dX10_placeOf_66 67 rfl ?_
    refine zk_nm (fun x2_1 => ?_)
    refine zk_istore_n [(2, .int x2_1), (0, .ref a.1), (1, .int x1), (3, .int x3)] dX10_placeOf_67 (by decide) rfl 68 rfl ?_
    refine zk_iinc (x3 + 1) [(3, .int (x3 + 1)), (2, .int x2_1), (0, .ref a.1), (1, .int x1)] dX10_placeOf_68 3 rfl rfl (by decide) rfl 71 rfl ?_
    refine zk_goto dX10_placeOf_71 4 (by decide) ?_
    refine zk_lv [2, 3, 1, 0] rfl ?_
    exact hk4 (x2_1, (x3 + 1))
  have J65 : ∀ (k4 : Int32 × Int32 → Option (Int32)) (hk4 : ∀ s : Int32 × Int32, zk_G E l X cX10_placeOf 4 (some .int) yX10_placeOf.cls wsX10_placeOf ({ frames := 0, cells := 0, slots := 0, locals := 0 } : Room) 0 0 Q (gX10 E a (v_z, v_snaps, v_hasSnap, v_past, v_pastHas, v_pastMany, v_before, v_spare, v_text, v_typed, v_failure, v_hasFailed, v_isQuiet, v_from, v_end, v_numbers)) [(0, .ref a.1), (1, .int x1), (2, .int s.1), (3, .int s.2)] 4 [] (k4 s)) (s65_0 : Int32) (x3 : Int32), zk_G E l X cX10_placeOf 4 (some .int) yX10_placeOf.cls wsX10_placeOf ({ frames := 0, cells := 0, slots := 0, locals := 0 } : Room) 0 0 Q (gX10 E a (v_z, v_snaps, v_hasSnap, v_past, v_pastHas, v_pastMany, v_before, v_spare, v_text, v_typed, v_failure, v_hasFailed, v_isQuiet, v_from, v_end, v_numbers)) [(0, .ref a.1), (1, .int x1), (3, .int x3)] 65 [.int s65_0] (f_X10_placeOf_65 k4 s65_0 x3) := by
    intro k4 hk4 s65_0 x3
    unfold f_X10_placeOf_65
    refine zk_iconst 0 dX10_placeOf_65 (by decide) 66 rfl ?_
    exact J66  k4 hk4 s65_0 0 x3
  have J4 : ∀ (n : Nat) (x2 : Int32) (x3 : Int32), zk_G E l X cX10_placeOf 4 (some .int) yX10_placeOf.cls wsX10_placeOf ({ frames := 0, cells := 0, slots := 0, locals := 0 } : Room) 0 0 Q (gX10 E a (v_z, v_snaps, v_hasSnap, v_past, v_pastHas, v_pastMany, v_before, v_spare, v_text, v_typed, v_failure, v_hasFailed, v_isQuiet, v_from, v_end, v_numbers)) [(0, .ref a.1), (1, .int x1), (2, .int x2), (3, .int x3)] 4 [] (zk_fx (F_X10_placeOf_4 x1 v_z ) n (x2, x3)) := by
    intro n x2 x3
    refine zk_loop (S := Int32 × Int32) (F := F_X10_placeOf_4 x1 v_z) (wS := fun s => (gX10 E a (v_z, v_snaps, v_hasSnap, v_past, v_pastHas, v_pastMany, v_before, v_spare, v_text, v_typed, v_failure, v_hasFailed, v_isQuiet, v_from, v_end, v_numbers))) (lS := fun s => [(0, .ref a.1), (1, .int x1), (2, .int s.1), (3, .int s.2)]) (sS := fun _ => []) (fun k4 hk4 s => ?_) n (x2, x3)
    obtain ⟨x2, x3⟩ := s
    unfold F_X10_placeOf_4
    try dsimp only
    refine zk_iload_n dX10_placeOf_4 3 rfl 5 rfl ?_
    refine zk_aload_n dX10_placeOf_5 0 rfl 6 rfl ?_
    refine zk_get dX10_placeOf_6 0 rfl rfl kX10_placeOf_inX10 0 (by decide) kX10_placeOf_1 rfl 9 rfl ?_
    refine zk_iconst 1 dX10_placeOf_9 (by decide) 10 rfl ?_
    refine zk_iald dX10_placeOf_10 1 rfl 11 rfl ?_
    refine zk_icmp_ge dX10_placeOf_11 74 (by decide) 14 rfl (fun _ => ?_) (fun _ => ?_)
    · refine zk_iload_n dX10_placeOf_74 2 rfl 75 rfl ?_
      exact zk_iret hQ dX10_placeOf_75 rfl rfl
    · refine zk_iload_n dX10_placeOf_14 2 rfl 15 rfl ?_
      refine zk_aload_n dX10_placeOf_15 0 rfl 16 rfl ?_
      refine zk_get dX10_placeOf_16 0 rfl rfl kX10_placeOf_inX10 0 (by decide) kX10_placeOf_1 rfl 19 rfl ?_
      refine zk_sipush 172 dX10_placeOf_19 (by decide) 22 rfl ?_
      refine zk_iload_n dX10_placeOf_22 3 rfl 23 rfl ?_
      refine zk_iadd dX10_placeOf_23 24 rfl ?_
      refine zk_iald dX10_placeOf_24 1 rfl 25 rfl ?_
      refine zk_aload_n dX10_placeOf_25 0 rfl 26 rfl ?_
      refine zk_get dX10_placeOf_26 0 rfl rfl kX10_placeOf_inX10 0 (by decide) kX10_placeOf_1 rfl 29 rfl ?_
      refine zk_sipush 172 dX10_placeOf_29 (by decide) 32 rfl ?_
      refine zk_iload_n dX10_placeOf_32 1 rfl 33 rfl ?_
      refine zk_iadd dX10_placeOf_33 34 rfl ?_
      refine zk_iald dX10_placeOf_34 1 rfl 35 rfl ?_
      refine zk_icmp_ne dX10_placeOf_35 65 (by decide) 38 rfl (fun _ => ?_) (fun _ => ?_)
      · refine zk_aload_n dX10_placeOf_38 0 rfl 39 rfl ?_
        refine zk_get dX10_placeOf_39 0 rfl rfl kX10_placeOf_inX10 0 (by decide) kX10_placeOf_1 rfl 42 rfl ?_
        refine zk_sipush 212 dX10_placeOf_42 (by decide) 45 rfl ?_
        refine zk_iload_n dX10_placeOf_45 3 rfl 46 rfl ?_
        refine zk_iadd dX10_placeOf_46 47 rfl ?_
        refine zk_iald dX10_placeOf_47 1 rfl 48 rfl ?_
        refine zk_aload_n dX10_placeOf_48 0 rfl 49 rfl ?_
        refine zk_get dX10_placeOf_49 0 rfl rfl kX10_placeOf_inX10 0 (by decide) kX10_placeOf_1 rfl 52 rfl ?_
        refine zk_sipush 212 dX10_placeOf_52 (by decide) 55 rfl ?_
        refine zk_iload_n dX10_placeOf_55 1 rfl 56 rfl ?_
        refine zk_iadd dX10_placeOf_56 57 rfl ?_
        refine zk_iald dX10_placeOf_57 1 rfl 58 rfl ?_
        refine zk_icmp_ge dX10_placeOf_58 65 (by decide) 61 rfl (fun _ => ?_) (fun _ => ?_)
        · refine zk_lv [0, 1, 3] rfl ?_
          exact J65  k4 hk4 x2 x3
        · refine zk_iconst 1 dX10_placeOf_61 (by decide) 62 rfl ?_
          refine zk_goto dX10_placeOf_62 66 (by decide) ?_
          refine zk_lv [0, 1, 3] rfl ?_
          exact J66  k4 hk4 x2 1 x3
      · refine zk_lv [0, 1, 3] rfl ?_
        exact J65  k4 hk4 x2 x3
  refine zk_eqv (w1 := (gX10 E a (v_z, v_snaps, v_hasSnap, v_past, v_pastHas, v_pastMany, v_before, v_spare, v_text, v_typed, v_failure, v_hasFailed, v_isQuiet, v_from, v_end, v_numbers))) (lv1 := [(0, .ref a.1), (1, .int x1)]) (st1 := []) (o1 := f_X10_placeOf x1 v_z) rfl rfl rfl rfl ?_
  unfold f_X10_placeOf
  refine zk_iconst 0 dX10_placeOf_0 (by decide) 1 rfl ?_
  refine zk_istore_n [(2, .int 0), (0, .ref a.1), (1, .int x1)] dX10_placeOf_1 (by decide) rfl 2 rfl ?_
  refine zk_iconst 0 dX10_placeOf_2 (by decide) 3 rfl ?_
  refine zk_istore_n [(3, .int 0), (2, .int 0), (0, .ref a.1), (1, .int x1)] dX10_placeOf_3 (by decide) rfl 4 rfl ?_
  refine zk_lv [2, 3, 1, 0] rfl ?_
  exact J4    zk_N 0 0
def f_X10_sweepOne (x1 : Int32) (v_z : (Nat → Int32)) : Option ((Nat → Int32)) := zk_ck (172 + x1) 368 (zk_let (upd v_z (172 + x1).toNatClampNeg (-1)) fun v_z_1 => zk_ck (132 + x1) 368 (zk_let (upd v_z_1 (132 + x1).toNatClampNeg 4) fun v_z_2 => zk_ck 8 368 (zk_ck 8 368 (zk_let (upd v_z_2 (8 : Int32).toNatClampNeg ((v_z_2 (8 : Int32).toNatClampNeg) + 1)) fun v_z_3 => some v_z_3))))
theorem kX10_sweepOne_inX10 : ∀ w ∈ u_ws RX10 TX10 16, w ∈ wsX10_sweepOne := by decide +kernel
theorem kX10_sweepOne_1 : Cond.fieldLink RX10 7 (TX10 0).1 (TX10 0).2.1 (TX10 0).2.2.1 ∈ wsX10_sweepOne := by decide +kernel
theorem cd_X10_sweepOne : yX10_sweepOne.cls = RX10 ∧ yX10_sweepOne.cls ≠ "java/lang/invoke/MethodHandle" ∧ yX10_sweepOne.cls ≠ "java/lang/invoke/VarHandle" ∧ (parseMethodDescriptor yX10_sweepOne.desc).map (fun d => d.parameters.length) = some 1 := by decide +kernel
set_option maxRecDepth 100000 in
set_option maxHeartbeats 4000000 in
theorem c_X10_sweepOne (E : zk_Env) (l : Launch) (a : aX10) (v : VX10) (x1 : Int32) : zk_Mc E l yX10_sweepOne wsX10_sweepOne ({ frames := 0, cells := 0, slots := 0, locals := 0 } : Room) [.ref a.1, .int x1] (gX10 E a v) (f_X10_sweepOne x1 v.1) (fun _ => none) (fun r => (gX10 E a (r, v.2))) := by
  obtain ⟨v_z, v_snaps, v_hasSnap, v_past, v_pastHas, v_pastMany, v_before, v_spare, v_text, v_typed, v_failure, v_hasFailed, v_isQuiet, v_from, v_end, v_numbers⟩ := v
  refine zk_M (cc := cX10_sweepOne) (nL := 2) (ret := none) (by decide) rfl (Nat.le_of_ble_eq_true rfl) (fun X Q hQ => ?_)
  refine zk_eqv (w1 := (gX10 E a (v_z, v_snaps, v_hasSnap, v_past, v_pastHas, v_pastMany, v_before, v_spare, v_text, v_typed, v_failure, v_hasFailed, v_isQuiet, v_from, v_end, v_numbers))) (lv1 := [(0, .ref a.1), (1, .int x1)]) (st1 := []) (o1 := f_X10_sweepOne x1 v_z) rfl rfl rfl rfl ?_
  unfold f_X10_sweepOne
  refine zk_aload_n dX10_sweepOne_0 0 rfl 1 rfl ?_
  refine zk_get dX10_sweepOne_1 0 rfl rfl kX10_sweepOne_inX10 0 (by decide) kX10_sweepOne_1 rfl 4 rfl ?_
  refine zk_sipush 172 dX10_sweepOne_4 (by decide) 7 rfl ?_
  refine zk_iload_n dX10_sweepOne_7 1 rfl 8 rfl ?_
  refine zk_iadd dX10_sweepOne_8 9 rfl ?_
  refine zk_iconst (-1) dX10_sweepOne_9 (by decide) 10 rfl ?_
  refine zk_iast (gX10 E a ((upd v_z (172 + x1).toNatClampNeg (-1)), v_snaps, v_hasSnap, v_past, v_pastHas, v_pastMany, v_before, v_spare, v_text, v_typed, v_failure, v_hasFailed, v_isQuiet, v_from, v_end, v_numbers)) dX10_sweepOne_10 1 rfl rfl 11 rfl ?_
  refine zk_nmw (fun v_z_1 => (gX10 E a (v_z_1, v_snaps, v_hasSnap, v_past, v_pastHas, v_pastMany, v_before, v_spare, v_text, v_typed, v_failure, v_hasFailed, v_isQuiet, v_from, v_end, v_numbers))) _ rfl (fun v_z_1 => ?_)
  refine zk_aload_n dX10_sweepOne_11 0 rfl 12 rfl ?_
  refine zk_get dX10_sweepOne_12 0 rfl rfl kX10_sweepOne_inX10 0 (by decide) kX10_sweepOne_1 rfl 15 rfl ?_
  refine zk_sipush 132 dX10_sweepOne_15 (by decide) 18 rfl ?_
  refine zk_iload_n dX10_sweepOne_18 1 rfl 19 rfl ?_
  refine zk_iadd dX10_sweepOne_19 20 rfl ?_
  refine zk_iconst 4 dX10_sweepOne_20 (by decide) 21 rfl ?_
  refine zk_iast (gX10 E a ((upd v_z_1 (132 + x1).toNatClampNeg 4), v_snaps, v_hasSnap, v_past, v_pastHas, v_pastMany, v_before, v_spare, v_text, v_typed, v_failure, v_hasFailed, v_isQuiet, v_from, v_end, v_numbers)) dX10_sweepOne_21 1 rfl rfl 22 rfl ?_
  refine zk_nmw (fun v_z_2 => (gX10 E a (v_z_2, v_snaps, v_hasSnap, v_past, v_pastHas, v_pastMany, v_before, v_spare, v_text, v_typed, v_failure, v_hasFailed, v_isQuiet, v_from, v_end, v_numbers))) _ rfl (fun v_z_2 => ?_)
  refine zk_aload_n dX10_sweepOne_22 0 rfl 23 rfl ?_
  refine zk_get dX10_sweepOne_23 0 rfl rfl kX10_sweepOne_inX10 0 (by decide) kX10_sweepOne_1 rfl 26 rfl ?_
  refine zk_bipush 8 dX10_sweepOne_26 (by decide) 28 rfl ?_
  refine zk_dup2 dX10_sweepOne_28 rfl rfl 29 rfl ?_
  refine zk_iald dX10_sweepOne_29 1 rfl 30 rfl ?_
  refine zk_iconst 1 dX10_sweepOne_30 (by decide) 31 rfl ?_
  refine zk_iadd dX10_sweepOne_31 32 rfl ?_
  refine zk_iast (gX10 E a ((upd v_z_2 (8 : Int32).toNatClampNeg ((v_z_2 (8 : Int32).toNatClampNeg) + 1)), v_snaps, v_hasSnap, v_past, v_pastHas, v_pastMany, v_before, v_spare, v_text, v_typed, v_failure, v_hasFailed, v_isQuiet, v_from, v_end, v_numbers)) dX10_sweepOne_32 1 rfl rfl 33 rfl ?_
  refine zk_nmw (fun v_z_3 => (gX10 E a (v_z_3, v_snaps, v_hasSnap, v_past, v_pastHas, v_pastMany, v_before, v_spare, v_text, v_typed, v_failure, v_hasFailed, v_isQuiet, v_from, v_end, v_numbers))) _ rfl (fun v_z_3 => ?_)
  exact zk_vret hQ dX10_sweepOne_33 rfl rfl
def f_X10_inState_34 (k4 : Int32 × Int32 → Option (Int32)) (s34_0 : Int32) (s34_1 : Int32) (x3 : Int32) : Option (Int32) := zk_let (s34_0 + s34_1) fun x2_1 => k4 (x2_1, (x3 + 1))
def F_X10_inState_4 (x1 : Int32) (v_z : (Nat → Int32)) (k4 : Int32 × Int32 → Option (Int32)) : Int32 × Int32 → Option (Int32) := fun s => match s with
  | (x2, x3) => zk_ck 1 368 (if (v_z (1 : Int32).toNatClampNeg) ≤ x3 then some x2 else zk_ck (132 + x3) 368 (if (v_z (132 + x3).toNatClampNeg) = x1 then f_X10_inState_34 k4 x2 1 x3 else f_X10_inState_34 k4 x2 0 x3))
def f_X10_inState (x1 : Int32) (v_z : (Nat → Int32)) : Option (Int32) := zk_fx (F_X10_inState_4 x1 v_z ) zk_N (0, 0)
theorem kX10_inState_inX10 : ∀ w ∈ u_ws RX10 TX10 16, w ∈ wsX10_inState := by decide +kernel
theorem kX10_inState_1 : Cond.fieldLink RX10 7 (TX10 0).1 (TX10 0).2.1 (TX10 0).2.2.1 ∈ wsX10_inState := by decide +kernel
theorem cd_X10_inState : yX10_inState.cls = RX10 ∧ yX10_inState.cls ≠ "java/lang/invoke/MethodHandle" ∧ yX10_inState.cls ≠ "java/lang/invoke/VarHandle" ∧ (parseMethodDescriptor yX10_inState.desc).map (fun d => d.parameters.length) = some 1 := by decide +kernel
set_option maxRecDepth 100000 in
set_option maxHeartbeats 4000000 in
theorem c_X10_inState (E : zk_Env) (l : Launch) (a : aX10) (v : VX10) (x1 : Int32) : zk_Mc E l yX10_inState wsX10_inState ({ frames := 0, cells := 0, slots := 0, locals := 0 } : Room) [.ref a.1, .int x1] (gX10 E a v) (f_X10_inState x1 v.1) (fun r => some (.int r)) (fun r => (gX10 E a v)) := by
  obtain ⟨v_z, v_snaps, v_hasSnap, v_past, v_pastHas, v_pastMany, v_before, v_spare, v_text, v_typed, v_failure, v_hasFailed, v_isQuiet, v_from, v_end, v_numbers⟩ := v
  refine zk_M (cc := cX10_inState) (nL := 4) (ret := (some .int)) (by decide) rfl (Nat.le_of_ble_eq_true rfl) (fun X Q hQ => ?_)
  have J34 : ∀ (k4 : Int32 × Int32 → Option (Int32)) (hk4 : ∀ s : Int32 × Int32, zk_G E l X cX10_inState 4 (some .int) yX10_inState.cls wsX10_inState ({ frames := 0, cells := 0, slots := 0, locals := 0 } : Room) 0 0 Q (gX10 E a (v_z, v_snaps, v_hasSnap, v_past, v_pastHas, v_pastMany, v_before, v_spare, v_text, v_typed, v_failure, v_hasFailed, v_isQuiet, v_from, v_end, v_numbers)) [(0, .ref a.1), (1, .int x1), (2, .int s.1), (3, .int s.2)] 4 [] (k4 s)) (s34_0 : Int32) (s34_1 : Int32) (x3 : Int32), zk_G E l X cX10_inState 4 (some .int) yX10_inState.cls wsX10_inState ({ frames := 0, cells := 0, slots := 0, locals := 0 } : Room) 0 0 Q (gX10 E a (v_z, v_snaps, v_hasSnap, v_past, v_pastHas, v_pastMany, v_before, v_spare, v_text, v_typed, v_failure, v_hasFailed, v_isQuiet, v_from, v_end, v_numbers)) [(0, .ref a.1), (1, .int x1), (3, .int x3)] 34 [.int s34_1, .int s34_0] (f_X10_inState_34 k4 s34_0 s34_1 x3) := by
    intro k4 hk4 s34_0 s34_1 x3
    unfold f_X10_inState_34
    refine zk_iadd dX10_inState_34 35 rfl ?_
    refine zk_nm (fun x2_1 => ?_)
    refine zk_istore_n [(2, .int x2_1), (0, .ref a.1), (1, .int x1), (3, .int x3)] dX10_inState_35 (by decide) rfl 36 rfl ?_
    refine zk_iinc (x3 + 1) [(3, .int (x3 + 1)), (2, .int x2_1), (0, .ref a.1), (1, .int x1)] dX10_inState_36 3 rfl rfl (by decide) rfl 39 rfl ?_
    refine zk_goto dX10_inState_39 4 (by decide) ?_
    refine zk_lv [2, 3, 1, 0] rfl ?_
    exact hk4 (x2_1, (x3 + 1))
  have J4 : ∀ (n : Nat) (x2 : Int32) (x3 : Int32), zk_G E l X cX10_inState 4 (some .int) yX10_inState.cls wsX10_inState ({ frames := 0, cells := 0, slots := 0, locals := 0 } : Room) 0 0 Q (gX10 E a (v_z, v_snaps, v_hasSnap, v_past, v_pastHas, v_pastMany, v_before, v_spare, v_text, v_typed, v_failure, v_hasFailed, v_isQuiet, v_from, v_end, v_numbers)) [(0, .ref a.1), (1, .int x1), (2, .int x2), (3, .int x3)] 4 [] (zk_fx (F_X10_inState_4 x1 v_z ) n (x2, x3)) := by
    intro n x2 x3
    refine zk_loop (S := Int32 × Int32) (F := F_X10_inState_4 x1 v_z) (wS := fun s => (gX10 E a (v_z, v_snaps, v_hasSnap, v_past, v_pastHas, v_pastMany, v_before, v_spare, v_text, v_typed, v_failure, v_hasFailed, v_isQuiet, v_from, v_end, v_numbers))) (lS := fun s => [(0, .ref a.1), (1, .int x1), (2, .int s.1), (3, .int s.2)]) (sS := fun _ => []) (fun k4 hk4 s => ?_) n (x2, x3)
    obtain ⟨x2, x3⟩ := s
    unfold F_X10_inState_4
    try dsimp only
    refine zk_iload_n dX10_inState_4 3 rfl 5 rfl ?_
    refine zk_aload_n dX10_inState_5 0 rfl 6 rfl ?_
    refine zk_get dX10_inState_6 0 rfl rfl kX10_inState_inX10 0 (by decide) kX10_inState_1 rfl 9 rfl ?_
    refine zk_iconst 1 dX10_inState_9 (by decide) 10 rfl ?_
    refine zk_iald dX10_inState_10 1 rfl 11 rfl ?_
    refine zk_icmp_ge dX10_inState_11 42 (by decide) 14 rfl (fun _ => ?_) (fun _ => ?_)
    · refine zk_iload_n dX10_inState_42 2 rfl 43 rfl ?_
      exact zk_iret hQ dX10_inState_43 rfl rfl
    · refine zk_iload_n dX10_inState_14 2 rfl 15 rfl ?_
      refine zk_aload_n dX10_inState_15 0 rfl 16 rfl ?_
      refine zk_get dX10_inState_16 0 rfl rfl kX10_inState_inX10 0 (by decide) kX10_inState_1 rfl 19 rfl ?_
      refine zk_sipush 132 dX10_inState_19 (by decide) 22 rfl ?_
      refine zk_iload_n dX10_inState_22 3 rfl 23 rfl ?_
      refine zk_iadd dX10_inState_23 24 rfl ?_
      refine zk_iald dX10_inState_24 1 rfl 25 rfl ?_
      refine zk_iload_n dX10_inState_25 1 rfl 26 rfl ?_
      refine zk_icmp_ne dX10_inState_26 33 (by decide) 29 rfl (fun _ => ?_) (fun _ => ?_)
      · refine zk_iconst 1 dX10_inState_29 (by decide) 30 rfl ?_
        refine zk_goto dX10_inState_30 34 (by decide) ?_
        refine zk_lv [0, 1, 3] rfl ?_
        exact J34  k4 hk4 x2 1 x3
      · refine zk_iconst 0 dX10_inState_33 (by decide) 34 rfl ?_
        refine zk_lv [0, 1, 3] rfl ?_
        exact J34  k4 hk4 x2 0 x3
  refine zk_eqv (w1 := (gX10 E a (v_z, v_snaps, v_hasSnap, v_past, v_pastHas, v_pastMany, v_before, v_spare, v_text, v_typed, v_failure, v_hasFailed, v_isQuiet, v_from, v_end, v_numbers))) (lv1 := [(0, .ref a.1), (1, .int x1)]) (st1 := []) (o1 := f_X10_inState x1 v_z) rfl rfl rfl rfl ?_
  unfold f_X10_inState
  refine zk_iconst 0 dX10_inState_0 (by decide) 1 rfl ?_
  refine zk_istore_n [(2, .int 0), (0, .ref a.1), (1, .int x1)] dX10_inState_1 (by decide) rfl 2 rfl ?_
  refine zk_iconst 0 dX10_inState_2 (by decide) 3 rfl ?_
  refine zk_istore_n [(3, .int 0), (2, .int 0), (0, .ref a.1), (1, .int x1)] dX10_inState_3 (by decide) rfl 4 rfl ?_
  refine zk_lv [2, 3, 1, 0] rfl ?_
  exact J4    zk_N 0 0
def f_X10_sweepAll_36 (k4 : Int32 × Int32 × (Nat → Int32) → Option (Int32 × (Nat → Int32))) (x1 : Int32) (x2 : Int32) (v_z : (Nat → Int32)) : Option (Int32 × (Nat → Int32)) := k4 (x1, (x2 + 1), v_z)
def F_X10_sweepAll_4 (k4 : Int32 × Int32 × (Nat → Int32) → Option (Int32 × (Nat → Int32))) : Int32 × Int32 × (Nat → Int32) → Option (Int32 × (Nat → Int32)) := fun s => match s with
  | (x1, x2, v_z) => zk_ck 1 368 (if (v_z (1 : Int32).toNatClampNeg) ≤ x2 then some (x1, v_z) else zk_ck (132 + x2) 368 (if (v_z (132 + x2).toNatClampNeg) = 3 then (f_X10_sweepOne x2 v_z).bind fun r30 => f_X10_sweepAll_36 k4 (x1 + 1) x2 r30 else f_X10_sweepAll_36 k4 x1 x2 v_z))
def f_X10_sweepAll (v_z : (Nat → Int32)) : Option (Int32 × (Nat → Int32)) := zk_fx (F_X10_sweepAll_4 ) zk_N (0, 0, v_z)
theorem kX10_sweepAll_inX10 : ∀ w ∈ u_ws RX10 TX10 16, w ∈ wsX10_sweepAll := by decide +kernel
theorem kX10_sweepAll_1 : Cond.fieldLink RX10 7 (TX10 0).1 (TX10 0).2.1 (TX10 0).2.2.1 ∈ wsX10_sweepAll := by decide +kernel
theorem cd_X10_sweepAll : yX10_sweepAll.cls = RX10 ∧ yX10_sweepAll.cls ≠ "java/lang/invoke/MethodHandle" ∧ yX10_sweepAll.cls ≠ "java/lang/invoke/VarHandle" ∧ (parseMethodDescriptor yX10_sweepAll.desc).map (fun d => d.parameters.length) = some 0 := by decide +kernel
set_option maxRecDepth 100000 in
set_option maxHeartbeats 4000000 in
theorem c_X10_sweepAll (E : zk_Env) (l : Launch) (a : aX10) (v : VX10)  : zk_Mc E l yX10_sweepAll wsX10_sweepAll ({ frames := 1, cells := 0, slots := 0, locals := 21 } : Room) [.ref a.1] (gX10 E a v) (f_X10_sweepAll v.1) (fun r => some (.int r.1)) (fun r => (gX10 E a (r.2, v.2))) := by
  obtain ⟨v_z, v_snaps, v_hasSnap, v_past, v_pastHas, v_pastMany, v_before, v_spare, v_text, v_typed, v_failure, v_hasFailed, v_isQuiet, v_from, v_end, v_numbers⟩ := v
  refine zk_M (cc := cX10_sweepAll) (nL := 3) (ret := (some .int)) (by decide) rfl (Nat.le_of_ble_eq_true rfl) (fun X Q hQ => ?_)
  have J36 : ∀ (k4 : Int32 × Int32 × (Nat → Int32) → Option (Int32 × (Nat → Int32))) (hk4 : ∀ s : Int32 × Int32 × (Nat → Int32), zk_G E l X cX10_sweepAll 3 (some .int) yX10_sweepAll.cls wsX10_sweepAll ({ frames := 1, cells := 0, slots := 0, locals := 21 } : Room) 0 0 Q (gX10 E a (s.2.2, v_snaps, v_hasSnap, v_past, v_pastHas, v_pastMany, v_before, v_spare, v_text, v_typed, v_failure, v_hasFailed, v_isQuiet, v_from, v_end, v_numbers)) [(0, .ref a.1), (1, .int s.1), (2, .int s.2.1)] 4 [] (k4 s)) (x1 : Int32) (x2 : Int32) (v_z : (Nat → Int32)), zk_G E l X cX10_sweepAll 3 (some .int) yX10_sweepAll.cls wsX10_sweepAll ({ frames := 1, cells := 0, slots := 0, locals := 21 } : Room) 0 0 Q (gX10 E a (v_z, v_snaps, v_hasSnap, v_past, v_pastHas, v_pastMany, v_before, v_spare, v_text, v_typed, v_failure, v_hasFailed, v_isQuiet, v_from, v_end, v_numbers)) [(0, .ref a.1), (1, .int x1), (2, .int x2)] 36 [] (f_X10_sweepAll_36 k4 x1 x2 v_z) := by
    intro k4 hk4 x1 x2 v_z
    unfold f_X10_sweepAll_36
    refine zk_iinc (x2 + 1) [(2, .int (x2 + 1)), (0, .ref a.1), (1, .int x1)] dX10_sweepAll_36 2 rfl rfl (by decide) rfl 39 rfl ?_
    refine zk_goto dX10_sweepAll_39 4 (by decide) ?_
    refine zk_lv [1, 2, 0] rfl ?_
    exact hk4 (x1, (x2 + 1), v_z)
  have J4 : ∀ (n : Nat) (x1 : Int32) (x2 : Int32) (v_z : (Nat → Int32)), zk_G E l X cX10_sweepAll 3 (some .int) yX10_sweepAll.cls wsX10_sweepAll ({ frames := 1, cells := 0, slots := 0, locals := 21 } : Room) 0 0 Q (gX10 E a (v_z, v_snaps, v_hasSnap, v_past, v_pastHas, v_pastMany, v_before, v_spare, v_text, v_typed, v_failure, v_hasFailed, v_isQuiet, v_from, v_end, v_numbers)) [(0, .ref a.1), (1, .int x1), (2, .int x2)] 4 [] (zk_fx (F_X10_sweepAll_4 ) n (x1, x2, v_z)) := by
    intro n x1 x2 v_z
    refine zk_loop (S := Int32 × Int32 × (Nat → Int32)) (F := F_X10_sweepAll_4) (wS := fun s => (gX10 E a (s.2.2, v_snaps, v_hasSnap, v_past, v_pastHas, v_pastMany, v_before, v_spare, v_text, v_typed, v_failure, v_hasFailed, v_isQuiet, v_from, v_end, v_numbers))) (lS := fun s => [(0, .ref a.1), (1, .int s.1), (2, .int s.2.1)]) (sS := fun _ => []) (fun k4 hk4 s => ?_) n (x1, x2, v_z)
    obtain ⟨x1, x2, v_z⟩ := s
    unfold F_X10_sweepAll_4
    try dsimp only
    refine zk_iload_n dX10_sweepAll_4 2 rfl 5 rfl ?_
    refine zk_aload_n dX10_sweepAll_5 0 rfl 6 rfl ?_
    refine zk_get dX10_sweepAll_6 0 rfl rfl kX10_sweepAll_inX10 0 (by decide) kX10_sweepAll_1 rfl 9 rfl ?_
    refine zk_iconst 1 dX10_sweepAll_9 (by decide) 10 rfl ?_
    refine zk_iald dX10_sweepAll_10 1 rfl 11 rfl ?_
    refine zk_icmp_ge dX10_sweepAll_11 42 (by decide) 14 rfl (fun _ => ?_) (fun _ => ?_)
    · refine zk_iload_n dX10_sweepAll_42 1 rfl 43 rfl ?_
      exact zk_iret hQ dX10_sweepAll_43 rfl rfl
    · refine zk_aload_n dX10_sweepAll_14 0 rfl 15 rfl ?_
      refine zk_get dX10_sweepAll_15 0 rfl rfl kX10_sweepAll_inX10 0 (by decide) kX10_sweepAll_1 rfl 18 rfl ?_
      refine zk_sipush 132 dX10_sweepAll_18 (by decide) 21 rfl ?_
      refine zk_iload_n dX10_sweepAll_21 2 rfl 22 rfl ?_
      refine zk_iadd dX10_sweepAll_22 23 rfl ?_
      refine zk_iald dX10_sweepAll_23 1 rfl 24 rfl ?_
      refine zk_iconst 3 dX10_sweepAll_24 (by decide) 25 rfl ?_
      refine zk_icmp_ne dX10_sweepAll_25 36 (by decide) 28 rfl (fun _ => ?_) (fun _ => ?_)
      · refine zk_aload_n dX10_sweepAll_28 0 rfl 29 rfl ?_
        refine zk_iload_n dX10_sweepAll_29 2 rfl 30 rfl ?_
        refine zk_callV (ci := 10) (st := []) (c_X10_sweepOne E l a (v_z, v_snaps, v_hasSnap, v_past, v_pastHas, v_pastMany, v_before, v_spare, v_text, v_typed, v_failure, v_hasFailed, v_isQuiet, v_from, v_end, v_numbers) x2) dX10_sweepAll_30 1 gX10_sweepAll_X10_sweepOne rfl rfl rfl cd_X10_sweepOne ⟨Nat.le_of_ble_eq_true rfl, Nat.le_of_ble_eq_true rfl⟩ ⟨Nat.zero_le _, Nat.zero_le _⟩ _ (fun r30 => (gX10 E a (r30, v_snaps, v_hasSnap, v_past, v_pastHas, v_pastMany, v_before, v_spare, v_text, v_typed, v_failure, v_hasFailed, v_isQuiet, v_from, v_end, v_numbers))) zk_pa (fun r30 => zk_qa) rfl rfl rfl rfl (Nat.le_of_ble_eq_true rfl) (fun r30 => []) (fun _ => rfl) 33 rfl (fun r30 => ?_)
        refine zk_iinc (x1 + 1) [(1, .int (x1 + 1)), (0, .ref a.1), (2, .int x2)] dX10_sweepAll_33 1 rfl rfl (by decide) rfl 36 rfl ?_
        refine zk_lv [1, 0, 2] rfl ?_
        exact J36  k4 hk4 (x1 + 1) x2 r30
      · exact J36  k4 hk4 x1 x2 v_z
  refine zk_eqv (w1 := (gX10 E a (v_z, v_snaps, v_hasSnap, v_past, v_pastHas, v_pastMany, v_before, v_spare, v_text, v_typed, v_failure, v_hasFailed, v_isQuiet, v_from, v_end, v_numbers))) (lv1 := [(0, .ref a.1)]) (st1 := []) (o1 := f_X10_sweepAll v_z) rfl rfl rfl rfl ?_
  unfold f_X10_sweepAll
  refine zk_iconst 0 dX10_sweepAll_0 (by decide) 1 rfl ?_
  refine zk_istore_n [(1, .int 0), (0, .ref a.1)] dX10_sweepAll_1 (by decide) rfl 2 rfl ?_
  refine zk_iconst 0 dX10_sweepAll_2 (by decide) 3 rfl ?_
  refine zk_istore_n [(2, .int 0), (1, .int 0), (0, .ref a.1)] dX10_sweepAll_3 (by decide) rfl 4 rfl ?_
  refine zk_lv [2, 1, 0] rfl ?_
  exact J4    zk_N 0 0 v_z
def f_X10_fall_61 (x2 : Int32) (k8 : Int32 × (Nat → Int32) → Option ((Nat → Int32))) (x3 : Int32) (v_z : (Nat → Int32)) : Option ((Nat → Int32)) := k8 ((x3 + 1), v_z)
def F_X10_fall_8 (x1 : Int32) (x2 : Int32) (k8 : Int32 × (Nat → Int32) → Option ((Nat → Int32))) : Int32 × (Nat → Int32) → Option ((Nat → Int32)) := fun s => match s with
  | (x3, v_z) => if x2 ≤ x3 then some v_z else (f_X10_front x1 v_z).bind fun r15 => zk_ck (132 + r15) 368 (if (v_z (132 + r15).toNatClampNeg) = 3 then (f_X10_sweepOne r15 v_z).bind fun r38 => f_X10_fall_61 x2 k8 x3 r38 else (f_X10_standByDistance r15 v_z).bind fun r47 => zk_ck 7 368 (zk_ck 7 368 (zk_let (upd r47 (7 : Int32).toNatClampNeg ((r47 (7 : Int32).toNatClampNeg) + 1)) fun v_z_1 => f_X10_fall_61 x2 k8 x3 v_z_1)))
def f_X10_fall (x1 : Int32) (v_z : (Nat → Int32)) : Option ((Nat → Int32)) := (f_X10_manyAt x1 v_z).bind fun r2 => zk_fx (F_X10_fall_8 x1 r2 ) zk_N (0, v_z)
theorem kX10_fall_inX10 : ∀ w ∈ u_ws RX10 TX10 16, w ∈ wsX10_fall := by decide +kernel
theorem kX10_fall_1 : Cond.fieldLink RX10 7 (TX10 0).1 (TX10 0).2.1 (TX10 0).2.2.1 ∈ wsX10_fall := by decide +kernel
theorem cd_X10_fall : yX10_fall.cls = RX10 ∧ yX10_fall.cls ≠ "java/lang/invoke/MethodHandle" ∧ yX10_fall.cls ≠ "java/lang/invoke/VarHandle" ∧ (parseMethodDescriptor yX10_fall.desc).map (fun d => d.parameters.length) = some 1 := by decide +kernel
set_option maxRecDepth 100000 in
set_option maxHeartbeats 4000000 in
theorem c_X10_fall (E : zk_Env) (l : Launch) (a : aX10) (v : VX10) (x1 : Int32) : zk_Mc E l yX10_fall wsX10_fall ({ frames := 2, cells := 0, slots := 0, locals := 45 } : Room) [.ref a.1, .int x1] (gX10 E a v) (f_X10_fall x1 v.1) (fun _ => none) (fun r => (gX10 E a (r, v.2))) := by
  obtain ⟨v_z, v_snaps, v_hasSnap, v_past, v_pastHas, v_pastMany, v_before, v_spare, v_text, v_typed, v_failure, v_hasFailed, v_isQuiet, v_from, v_end, v_numbers⟩ := v
  refine zk_M (cc := cX10_fall) (nL := 5) (ret := none) (by decide) rfl (Nat.le_of_ble_eq_true rfl) (fun X Q hQ => ?_)
  have J61 : ∀ (x2 : Int32) (k8 : Int32 × (Nat → Int32) → Option ((Nat → Int32))) (hk8 : ∀ s : Int32 × (Nat → Int32), zk_G E l X cX10_fall 5 none yX10_fall.cls wsX10_fall ({ frames := 2, cells := 0, slots := 0, locals := 45 } : Room) 0 0 Q (gX10 E a (s.2, v_snaps, v_hasSnap, v_past, v_pastHas, v_pastMany, v_before, v_spare, v_text, v_typed, v_failure, v_hasFailed, v_isQuiet, v_from, v_end, v_numbers)) [(0, .ref a.1), (1, .int x1), (2, .int x2), (3, .int s.1)] 8 [] (k8 s)) (x3 : Int32) (v_z : (Nat → Int32)), zk_G E l X cX10_fall 5 none yX10_fall.cls wsX10_fall ({ frames := 2, cells := 0, slots := 0, locals := 45 } : Room) 0 0 Q (gX10 E a (v_z, v_snaps, v_hasSnap, v_past, v_pastHas, v_pastMany, v_before, v_spare, v_text, v_typed, v_failure, v_hasFailed, v_isQuiet, v_from, v_end, v_numbers)) [(0, .ref a.1), (1, .int x1), (2, .int x2), (3, .int x3)] 61 [] (f_X10_fall_61 x2 k8 x3 v_z) := by
    intro x2 k8 hk8 x3 v_z
    unfold f_X10_fall_61
    refine zk_iinc (x3 + 1) [(3, .int (x3 + 1)), (0, .ref a.1), (1, .int x1), (2, .int x2)] dX10_fall_61 3 rfl rfl (by decide) rfl 64 rfl ?_
    refine zk_goto dX10_fall_64 8 (by decide) ?_
    refine zk_lv [1, 2, 3, 0] rfl ?_
    exact hk8 ((x3 + 1), v_z)
  have J8 : ∀ (x2 : Int32) (n : Nat) (x3 : Int32) (v_z : (Nat → Int32)), zk_G E l X cX10_fall 5 none yX10_fall.cls wsX10_fall ({ frames := 2, cells := 0, slots := 0, locals := 45 } : Room) 0 0 Q (gX10 E a (v_z, v_snaps, v_hasSnap, v_past, v_pastHas, v_pastMany, v_before, v_spare, v_text, v_typed, v_failure, v_hasFailed, v_isQuiet, v_from, v_end, v_numbers)) [(0, .ref a.1), (1, .int x1), (2, .int x2), (3, .int x3)] 8 [] (zk_fx (F_X10_fall_8 x1 x2 ) n (x3, v_z)) := by
    intro x2 n x3 v_z
    refine zk_loop (S := Int32 × (Nat → Int32)) (F := F_X10_fall_8 x1 x2) (wS := fun s => (gX10 E a (s.2, v_snaps, v_hasSnap, v_past, v_pastHas, v_pastMany, v_before, v_spare, v_text, v_typed, v_failure, v_hasFailed, v_isQuiet, v_from, v_end, v_numbers))) (lS := fun s => [(0, .ref a.1), (1, .int x1), (2, .int x2), (3, .int s.1)]) (sS := fun _ => []) (fun k8 hk8 s => ?_) n (x3, v_z)
    obtain ⟨x3, v_z⟩ := s
    unfold F_X10_fall_8
    try dsimp only
    refine zk_iload_n dX10_fall_8 3 rfl 9 rfl ?_
    refine zk_iload_n dX10_fall_9 2 rfl 10 rfl ?_
    refine zk_icmp_ge dX10_fall_10 67 (by decide) 13 rfl (fun _ => ?_) (fun _ => ?_)
    · exact zk_vret hQ dX10_fall_67 rfl rfl
    · refine zk_aload_n dX10_fall_13 0 rfl 14 rfl ?_
      refine zk_iload_n dX10_fall_14 1 rfl 15 rfl ?_
      refine zk_callV (ci := 10) (st := []) (c_X10_front E l a (v_z, v_snaps, v_hasSnap, v_past, v_pastHas, v_pastMany, v_before, v_spare, v_text, v_typed, v_failure, v_hasFailed, v_isQuiet, v_from, v_end, v_numbers) x1) dX10_fall_15 1 gX10_fall_X10_front rfl rfl rfl cd_X10_front ⟨Nat.le_of_ble_eq_true rfl, Nat.le_of_ble_eq_true rfl⟩ ⟨Nat.zero_le _, Nat.zero_le _⟩ _ (fun r15 => (gX10 E a (v_z, v_snaps, v_hasSnap, v_past, v_pastHas, v_pastMany, v_before, v_spare, v_text, v_typed, v_failure, v_hasFailed, v_isQuiet, v_from, v_end, v_numbers))) zk_pa (fun r15 => zk_qa) rfl rfl rfl rfl (Nat.le_of_ble_eq_true rfl) (fun r15 => [.int r15]) (fun _ => rfl) 18 rfl (fun r15 => ?_)
      refine zk_istore [(4, .int r15), (0, .ref a.1), (1, .int x1), (2, .int x2), (3, .int x3)] dX10_fall_18 (by decide) rfl 20 rfl ?_
      refine zk_aload_n dX10_fall_20 1 rfl 21 rfl ?_
      refine zk_get dX10_fall_21 0 rfl rfl kX10_fall_inX10 0 (by decide) kX10_fall_1 rfl 24 rfl ?_
      refine zk_sipush 132 dX10_fall_24 (by decide) 27 rfl ?_
      refine zk_iload dX10_fall_27 0 rfl 29 rfl ?_
      refine zk_iadd dX10_fall_29 30 rfl ?_
      refine zk_iald dX10_fall_30 1 rfl 31 rfl ?_
      refine zk_iconst 3 dX10_fall_31 (by decide) 32 rfl ?_
      refine zk_icmp_ne dX10_fall_32 44 (by decide) 35 rfl (fun _ => ?_) (fun _ => ?_)
      · refine zk_aload_n dX10_fall_35 1 rfl 36 rfl ?_
        refine zk_iload dX10_fall_36 0 rfl 38 rfl ?_
        refine zk_callV (ci := 10) (st := []) (c_X10_sweepOne E l a (v_z, v_snaps, v_hasSnap, v_past, v_pastHas, v_pastMany, v_before, v_spare, v_text, v_typed, v_failure, v_hasFailed, v_isQuiet, v_from, v_end, v_numbers) r15) dX10_fall_38 1 gX10_fall_X10_sweepOne rfl rfl rfl cd_X10_sweepOne ⟨Nat.le_of_ble_eq_true rfl, Nat.le_of_ble_eq_true rfl⟩ ⟨Nat.zero_le _, Nat.zero_le _⟩ _ (fun r38 => (gX10 E a (r38, v_snaps, v_hasSnap, v_past, v_pastHas, v_pastMany, v_before, v_spare, v_text, v_typed, v_failure, v_hasFailed, v_isQuiet, v_from, v_end, v_numbers))) zk_pa (fun r38 => zk_qa) rfl rfl rfl rfl (Nat.le_of_ble_eq_true rfl) (fun r38 => []) (fun _ => rfl) 41 rfl (fun r38 => ?_)
        refine zk_goto dX10_fall_41 61 (by decide) ?_
        refine zk_lv [1, 2, 3, 4] rfl ?_
        exact J61 x2 k8 hk8 x3 r38
      · refine zk_aload_n dX10_fall_44 1 rfl 45 rfl ?_
        refine zk_iload dX10_fall_45 0 rfl 47 rfl ?_
        refine zk_callV (ci := 10) (st := []) (c_X10_standByDistance E l a (v_z, v_snaps, v_hasSnap, v_past, v_pastHas, v_pastMany, v_before, v_spare, v_text, v_typed, v_failure, v_hasFailed, v_isQuiet, v_from, v_end, v_numbers) r15) dX10_fall_47 1 gX10_fall_X10_standByDistance rfl rfl rfl cd_X10_standByDistance ⟨Nat.le_of_ble_eq_true rfl, Nat.le_of_ble_eq_true rfl⟩ ⟨Nat.zero_le _, Nat.zero_le _⟩ _ (fun r47 => (gX10 E a (r47, v_snaps, v_hasSnap, v_past, v_pastHas, v_pastMany, v_before, v_spare, v_text, v_typed, v_failure, v_hasFailed, v_isQuiet, v_from, v_end, v_numbers))) zk_pa (fun r47 => zk_qa) rfl rfl rfl rfl (Nat.le_of_ble_eq_true rfl) (fun r47 => []) (fun _ => rfl) 50 rfl (fun r47 => ?_)
        refine zk_aload_n dX10_fall_50 1 rfl 51 rfl ?_
        refine zk_get dX10_fall_51 0 rfl rfl kX10_fall_inX10 0 (by decide) kX10_fall_1 rfl 54 rfl ?_
        refine zk_bipush 7 dX10_fall_54 (by decide) 56 rfl ?_
        refine zk_dup2 dX10_fall_56 rfl rfl 57 rfl ?_
        refine zk_iald dX10_fall_57 1 rfl 58 rfl ?_
        refine zk_iconst 1 dX10_fall_58 (by decide) 59 rfl ?_
        refine zk_iadd dX10_fall_59 60 rfl ?_
        refine zk_iast (gX10 E a ((upd r47 (7 : Int32).toNatClampNeg ((r47 (7 : Int32).toNatClampNeg) + 1)), v_snaps, v_hasSnap, v_past, v_pastHas, v_pastMany, v_before, v_spare, v_text, v_typed, v_failure, v_hasFailed, v_isQuiet, v_from, v_end, v_numbers)) dX10_fall_60 1 rfl rfl 61 rfl ?_
        refine zk_nmw (fun v_z_1 => (gX10 E a (v_z_1, v_snaps, v_hasSnap, v_past, v_pastHas, v_pastMany, v_before, v_spare, v_text, v_typed, v_failure, v_hasFailed, v_isQuiet, v_from, v_end, v_numbers))) _ rfl (fun v_z_1 => ?_)
        refine zk_lv [1, 2, 3, 4] rfl ?_
        exact J61 x2 k8 hk8 x3 v_z_1
  refine zk_eqv (w1 := (gX10 E a (v_z, v_snaps, v_hasSnap, v_past, v_pastHas, v_pastMany, v_before, v_spare, v_text, v_typed, v_failure, v_hasFailed, v_isQuiet, v_from, v_end, v_numbers))) (lv1 := [(0, .ref a.1), (1, .int x1)]) (st1 := []) (o1 := f_X10_fall x1 v_z) rfl rfl rfl rfl ?_
  unfold f_X10_fall
  refine zk_aload_n dX10_fall_0 0 rfl 1 rfl ?_
  refine zk_iload_n dX10_fall_1 1 rfl 2 rfl ?_
  refine zk_callV (ci := 10) (st := []) (c_X10_manyAt E l a (v_z, v_snaps, v_hasSnap, v_past, v_pastHas, v_pastMany, v_before, v_spare, v_text, v_typed, v_failure, v_hasFailed, v_isQuiet, v_from, v_end, v_numbers) x1) dX10_fall_2 1 gX10_fall_X10_manyAt rfl rfl rfl cd_X10_manyAt ⟨Nat.le_of_ble_eq_true rfl, Nat.le_of_ble_eq_true rfl⟩ ⟨Nat.zero_le _, Nat.zero_le _⟩ _ (fun r2 => (gX10 E a (v_z, v_snaps, v_hasSnap, v_past, v_pastHas, v_pastMany, v_before, v_spare, v_text, v_typed, v_failure, v_hasFailed, v_isQuiet, v_from, v_end, v_numbers))) zk_pa (fun r2 => zk_qa) rfl rfl rfl rfl (Nat.le_of_ble_eq_true rfl) (fun r2 => [.int r2]) (fun _ => rfl) 5 rfl (fun r2 => ?_)
  refine zk_istore_n [(2, .int r2), (0, .ref a.1), (1, .int x1)] dX10_fall_5 (by decide) rfl 6 rfl ?_
  refine zk_iconst 0 dX10_fall_6 (by decide) 7 rfl ?_
  refine zk_istore_n [(3, .int 0), (2, .int r2), (0, .ref a.1), (1, .int x1)] dX10_fall_7 (by decide) rfl 8 rfl ?_
  refine zk_lv [2, 3, 1, 0] rfl ?_
  exact J8   r2 zk_N 0 v_z
def f_X10_getReady_64 (x2 : Int32) (k8 : Int32 × (Nat → Int32) → Option ((Nat → Int32))) (x3 : Int32) (v_z : (Nat → Int32)) : Option ((Nat → Int32)) := k8 ((x3 + 1), v_z)
def F_X10_getReady_8 (x1 : Int32) (x2 : Int32) (k8 : Int32 × (Nat → Int32) → Option ((Nat → Int32))) : Int32 × (Nat → Int32) → Option ((Nat → Int32)) := fun s => match s with
  | (x3, v_z) => if x2 ≤ x3 then some v_z else (f_X10_front x1 v_z).bind fun r15 => zk_ck (132 + r15) 368 (if (v_z (132 + r15).toNatClampNeg) = 3 then (f_X10_sweepOne r15 v_z).bind fun r38 => f_X10_getReady_64 x2 k8 x3 r38 else (f_X10_stand r15 24 v_z).bind fun r49 => zk_ck (132 + r15) 368 (zk_let (upd r49 (132 + r15).toNatClampNeg 1) fun v_z_1 => f_X10_getReady_64 x2 k8 x3 v_z_1))
def f_X10_getReady (x1 : Int32) (v_z : (Nat → Int32)) : Option ((Nat → Int32)) := (f_X10_manyAt x1 v_z).bind fun r2 => zk_fx (F_X10_getReady_8 x1 r2 ) zk_N (0, v_z)
theorem kX10_getReady_inX10 : ∀ w ∈ u_ws RX10 TX10 16, w ∈ wsX10_getReady := by decide +kernel
theorem kX10_getReady_1 : Cond.fieldLink RX10 7 (TX10 0).1 (TX10 0).2.1 (TX10 0).2.2.1 ∈ wsX10_getReady := by decide +kernel
theorem cd_X10_getReady : yX10_getReady.cls = RX10 ∧ yX10_getReady.cls ≠ "java/lang/invoke/MethodHandle" ∧ yX10_getReady.cls ≠ "java/lang/invoke/VarHandle" ∧ (parseMethodDescriptor yX10_getReady.desc).map (fun d => d.parameters.length) = some 1 := by decide +kernel
set_option maxRecDepth 100000 in
set_option maxHeartbeats 4000000 in
theorem c_X10_getReady (E : zk_Env) (l : Launch) (a : aX10) (v : VX10) (x1 : Int32) : zk_Mc E l yX10_getReady wsX10_getReady ({ frames := 1, cells := 0, slots := 0, locals := 24 } : Room) [.ref a.1, .int x1] (gX10 E a v) (f_X10_getReady x1 v.1) (fun _ => none) (fun r => (gX10 E a (r, v.2))) := by
  obtain ⟨v_z, v_snaps, v_hasSnap, v_past, v_pastHas, v_pastMany, v_before, v_spare, v_text, v_typed, v_failure, v_hasFailed, v_isQuiet, v_from, v_end, v_numbers⟩ := v
  refine zk_M (cc := cX10_getReady) (nL := 5) (ret := none) (by decide) rfl (Nat.le_of_ble_eq_true rfl) (fun X Q hQ => ?_)
  have J64 : ∀ (x2 : Int32) (k8 : Int32 × (Nat → Int32) → Option ((Nat → Int32))) (hk8 : ∀ s : Int32 × (Nat → Int32), zk_G E l X cX10_getReady 5 none yX10_getReady.cls wsX10_getReady ({ frames := 1, cells := 0, slots := 0, locals := 24 } : Room) 0 0 Q (gX10 E a (s.2, v_snaps, v_hasSnap, v_past, v_pastHas, v_pastMany, v_before, v_spare, v_text, v_typed, v_failure, v_hasFailed, v_isQuiet, v_from, v_end, v_numbers)) [(0, .ref a.1), (1, .int x1), (2, .int x2), (3, .int s.1)] 8 [] (k8 s)) (x3 : Int32) (v_z : (Nat → Int32)), zk_G E l X cX10_getReady 5 none yX10_getReady.cls wsX10_getReady ({ frames := 1, cells := 0, slots := 0, locals := 24 } : Room) 0 0 Q (gX10 E a (v_z, v_snaps, v_hasSnap, v_past, v_pastHas, v_pastMany, v_before, v_spare, v_text, v_typed, v_failure, v_hasFailed, v_isQuiet, v_from, v_end, v_numbers)) [(0, .ref a.1), (1, .int x1), (2, .int x2), (3, .int x3)] 64 [] (f_X10_getReady_64 x2 k8 x3 v_z) := by
    intro x2 k8 hk8 x3 v_z
    unfold f_X10_getReady_64
    refine zk_iinc (x3 + 1) [(3, .int (x3 + 1)), (0, .ref a.1), (1, .int x1), (2, .int x2)] dX10_getReady_64 3 rfl rfl (by decide) rfl 67 rfl ?_
    refine zk_goto dX10_getReady_67 8 (by decide) ?_
    refine zk_lv [1, 2, 3, 0] rfl ?_
    exact hk8 ((x3 + 1), v_z)
  have J8 : ∀ (x2 : Int32) (n : Nat) (x3 : Int32) (v_z : (Nat → Int32)), zk_G E l X cX10_getReady 5 none yX10_getReady.cls wsX10_getReady ({ frames := 1, cells := 0, slots := 0, locals := 24 } : Room) 0 0 Q (gX10 E a (v_z, v_snaps, v_hasSnap, v_past, v_pastHas, v_pastMany, v_before, v_spare, v_text, v_typed, v_failure, v_hasFailed, v_isQuiet, v_from, v_end, v_numbers)) [(0, .ref a.1), (1, .int x1), (2, .int x2), (3, .int x3)] 8 [] (zk_fx (F_X10_getReady_8 x1 x2 ) n (x3, v_z)) := by
    intro x2 n x3 v_z
    refine zk_loop (S := Int32 × (Nat → Int32)) (F := F_X10_getReady_8 x1 x2) (wS := fun s => (gX10 E a (s.2, v_snaps, v_hasSnap, v_past, v_pastHas, v_pastMany, v_before, v_spare, v_text, v_typed, v_failure, v_hasFailed, v_isQuiet, v_from, v_end, v_numbers))) (lS := fun s => [(0, .ref a.1), (1, .int x1), (2, .int x2), (3, .int s.1)]) (sS := fun _ => []) (fun k8 hk8 s => ?_) n (x3, v_z)
    obtain ⟨x3, v_z⟩ := s
    unfold F_X10_getReady_8
    try dsimp only
    refine zk_iload_n dX10_getReady_8 3 rfl 9 rfl ?_
    refine zk_iload_n dX10_getReady_9 2 rfl 10 rfl ?_
    refine zk_icmp_ge dX10_getReady_10 70 (by decide) 13 rfl (fun _ => ?_) (fun _ => ?_)
    · exact zk_vret hQ dX10_getReady_70 rfl rfl
    · refine zk_aload_n dX10_getReady_13 0 rfl 14 rfl ?_
      refine zk_iload_n dX10_getReady_14 1 rfl 15 rfl ?_
      refine zk_callV (ci := 10) (st := []) (c_X10_front E l a (v_z, v_snaps, v_hasSnap, v_past, v_pastHas, v_pastMany, v_before, v_spare, v_text, v_typed, v_failure, v_hasFailed, v_isQuiet, v_from, v_end, v_numbers) x1) dX10_getReady_15 1 gX10_getReady_X10_front rfl rfl rfl cd_X10_front ⟨Nat.le_of_ble_eq_true rfl, Nat.le_of_ble_eq_true rfl⟩ ⟨Nat.zero_le _, Nat.zero_le _⟩ _ (fun r15 => (gX10 E a (v_z, v_snaps, v_hasSnap, v_past, v_pastHas, v_pastMany, v_before, v_spare, v_text, v_typed, v_failure, v_hasFailed, v_isQuiet, v_from, v_end, v_numbers))) zk_pa (fun r15 => zk_qa) rfl rfl rfl rfl (Nat.le_of_ble_eq_true rfl) (fun r15 => [.int r15]) (fun _ => rfl) 18 rfl (fun r15 => ?_)
      refine zk_istore [(4, .int r15), (0, .ref a.1), (1, .int x1), (2, .int x2), (3, .int x3)] dX10_getReady_18 (by decide) rfl 20 rfl ?_
      refine zk_aload_n dX10_getReady_20 1 rfl 21 rfl ?_
      refine zk_get dX10_getReady_21 0 rfl rfl kX10_getReady_inX10 0 (by decide) kX10_getReady_1 rfl 24 rfl ?_
      refine zk_sipush 132 dX10_getReady_24 (by decide) 27 rfl ?_
      refine zk_iload dX10_getReady_27 0 rfl 29 rfl ?_
      refine zk_iadd dX10_getReady_29 30 rfl ?_
      refine zk_iald dX10_getReady_30 1 rfl 31 rfl ?_
      refine zk_iconst 3 dX10_getReady_31 (by decide) 32 rfl ?_
      refine zk_icmp_ne dX10_getReady_32 44 (by decide) 35 rfl (fun _ => ?_) (fun _ => ?_)
      · refine zk_aload_n dX10_getReady_35 1 rfl 36 rfl ?_
        refine zk_iload dX10_getReady_36 0 rfl 38 rfl ?_
        refine zk_callV (ci := 10) (st := []) (c_X10_sweepOne E l a (v_z, v_snaps, v_hasSnap, v_past, v_pastHas, v_pastMany, v_before, v_spare, v_text, v_typed, v_failure, v_hasFailed, v_isQuiet, v_from, v_end, v_numbers) r15) dX10_getReady_38 1 gX10_getReady_X10_sweepOne rfl rfl rfl cd_X10_sweepOne ⟨Nat.le_of_ble_eq_true rfl, Nat.le_of_ble_eq_true rfl⟩ ⟨Nat.zero_le _, Nat.zero_le _⟩ _ (fun r38 => (gX10 E a (r38, v_snaps, v_hasSnap, v_past, v_pastHas, v_pastMany, v_before, v_spare, v_text, v_typed, v_failure, v_hasFailed, v_isQuiet, v_from, v_end, v_numbers))) zk_pa (fun r38 => zk_qa) rfl rfl rfl rfl (Nat.le_of_ble_eq_true rfl) (fun r38 => []) (fun _ => rfl) 41 rfl (fun r38 => ?_)
        refine zk_goto dX10_getReady_41 64 (by decide) ?_
        refine zk_lv [1, 2, 3, 4] rfl ?_
        exact J64 x2 k8 hk8 x3 r38
      · refine zk_aload_n dX10_getReady_44 1 rfl 45 rfl ?_
        refine zk_iload dX10_getReady_45 0 rfl 47 rfl ?_
        refine zk_bipush 24 dX10_getReady_47 (by decide) 49 rfl ?_
        refine zk_callV (ci := 10) (st := []) (c_X10_stand E l a (v_z, v_snaps, v_hasSnap, v_past, v_pastHas, v_pastMany, v_before, v_spare, v_text, v_typed, v_failure, v_hasFailed, v_isQuiet, v_from, v_end, v_numbers) r15 24) dX10_getReady_49 2 gX10_getReady_X10_stand rfl rfl rfl cd_X10_stand ⟨Nat.le_of_ble_eq_true rfl, Nat.le_of_ble_eq_true rfl⟩ ⟨Nat.zero_le _, Nat.zero_le _⟩ _ (fun r49 => (gX10 E a (r49, v_snaps, v_hasSnap, v_past, v_pastHas, v_pastMany, v_before, v_spare, v_text, v_typed, v_failure, v_hasFailed, v_isQuiet, v_from, v_end, v_numbers))) zk_pa (fun r49 => zk_qa) rfl rfl rfl rfl (Nat.le_of_ble_eq_true rfl) (fun r49 => []) (fun _ => rfl) 52 rfl (fun r49 => ?_)
        refine zk_aload_n dX10_getReady_52 1 rfl 53 rfl ?_
        refine zk_get dX10_getReady_53 0 rfl rfl kX10_getReady_inX10 0 (by decide) kX10_getReady_1 rfl 56 rfl ?_
        refine zk_sipush 132 dX10_getReady_56 (by decide) 59 rfl ?_
        refine zk_iload dX10_getReady_59 0 rfl 61 rfl ?_
        refine zk_iadd dX10_getReady_61 62 rfl ?_
        refine zk_iconst 1 dX10_getReady_62 (by decide) 63 rfl ?_
        refine zk_iast (gX10 E a ((upd r49 (132 + r15).toNatClampNeg 1), v_snaps, v_hasSnap, v_past, v_pastHas, v_pastMany, v_before, v_spare, v_text, v_typed, v_failure, v_hasFailed, v_isQuiet, v_from, v_end, v_numbers)) dX10_getReady_63 1 rfl rfl 64 rfl ?_
        refine zk_nmw (fun v_z_1 => (gX10 E a (v_z_1, v_snaps, v_hasSnap, v_past, v_pastHas, v_pastMany, v_before, v_spare, v_text, v_typed, v_failure, v_hasFailed, v_isQuiet, v_from, v_end, v_numbers))) _ rfl (fun v_z_1 => ?_)
        refine zk_lv [1, 2, 3, 4] rfl ?_
        exact J64 x2 k8 hk8 x3 v_z_1
  refine zk_eqv (w1 := (gX10 E a (v_z, v_snaps, v_hasSnap, v_past, v_pastHas, v_pastMany, v_before, v_spare, v_text, v_typed, v_failure, v_hasFailed, v_isQuiet, v_from, v_end, v_numbers))) (lv1 := [(0, .ref a.1), (1, .int x1)]) (st1 := []) (o1 := f_X10_getReady x1 v_z) rfl rfl rfl rfl ?_
  unfold f_X10_getReady
  refine zk_aload_n dX10_getReady_0 0 rfl 1 rfl ?_
  refine zk_iload_n dX10_getReady_1 1 rfl 2 rfl ?_
  refine zk_callV (ci := 10) (st := []) (c_X10_manyAt E l a (v_z, v_snaps, v_hasSnap, v_past, v_pastHas, v_pastMany, v_before, v_spare, v_text, v_typed, v_failure, v_hasFailed, v_isQuiet, v_from, v_end, v_numbers) x1) dX10_getReady_2 1 gX10_getReady_X10_manyAt rfl rfl rfl cd_X10_manyAt ⟨Nat.le_of_ble_eq_true rfl, Nat.le_of_ble_eq_true rfl⟩ ⟨Nat.zero_le _, Nat.zero_le _⟩ _ (fun r2 => (gX10 E a (v_z, v_snaps, v_hasSnap, v_past, v_pastHas, v_pastMany, v_before, v_spare, v_text, v_typed, v_failure, v_hasFailed, v_isQuiet, v_from, v_end, v_numbers))) zk_pa (fun r2 => zk_qa) rfl rfl rfl rfl (Nat.le_of_ble_eq_true rfl) (fun r2 => [.int r2]) (fun _ => rfl) 5 rfl (fun r2 => ?_)
  refine zk_istore_n [(2, .int r2), (0, .ref a.1), (1, .int x1)] dX10_getReady_5 (by decide) rfl 6 rfl ?_
  refine zk_iconst 0 dX10_getReady_6 (by decide) 7 rfl ?_
  refine zk_istore_n [(3, .int 0), (2, .int r2), (0, .ref a.1), (1, .int x1)] dX10_getReady_7 (by decide) rfl 8 rfl ?_
  refine zk_lv [2, 3, 1, 0] rfl ?_
  exact J8   r2 zk_N 0 v_z
def F_X10_noteCall_3 (x1 : Int32) (k3 : Int32 × (Nat → Int32) → Option ((Nat → Int32))) : Int32 × (Nat → Int32) → Option ((Nat → Int32)) := fun s => match s with
  | (x2, v_z) => if x2 ≤ 0 then zk_ck 332 368 (zk_let (upd v_z (332 : Int32).toNatClampNeg x1) fun v_z_1 => zk_ck (12 + x1) 368 (zk_ck 344 368 (zk_let (upd v_z_1 (344 : Int32).toNatClampNeg (v_z_1 (12 + x1).toNatClampNeg)) fun v_z_2 => zk_ck 0 368 (zk_ck 356 368 (zk_let (upd v_z_2 (356 : Int32).toNatClampNeg (v_z_2 (0 : Int32).toNatClampNeg)) fun v_z_3 => zk_ck 5 368 (zk_ck 5 368 (zk_let (upd v_z_3 (5 : Int32).toNatClampNeg ((v_z_3 (5 : Int32).toNatClampNeg) + 1)) fun v_z_4 => zk_ck (252 + x1) 368 (zk_ck (252 + x1) 368 (zk_let (upd v_z_4 (252 + x1).toNatClampNeg ((v_z_4 (252 + x1).toNatClampNeg) + 1)) fun v_z_5 => zk_ck (12 + x1) 368 (zk_ck 0 368 (if (v_z_5 (0 : Int32).toNatClampNeg) ≤ (v_z_5 (12 + x1).toNatClampNeg) then some v_z_5 else zk_ck 6 368 (zk_ck 6 368 (zk_let (upd v_z_5 (6 : Int32).toNatClampNeg ((v_z_5 (6 : Int32).toNatClampNeg) + 1)) fun v_z_6 => zk_ck (292 + x1) 368 (zk_ck 0 368 (zk_ck (12 + x1) 368 (zk_ck (292 + x1) 368 (zk_let (upd v_z_6 (292 + x1).toNatClampNeg ((v_z_6 (292 + x1).toNatClampNeg) + ((v_z_6 (0 : Int32).toNatClampNeg) - (v_z_6 (12 + x1).toNatClampNeg)))) fun v_z_7 => some v_z_7))))))))))))))))) else zk_ck ((332 + x2) - 1) 368 (zk_ck (332 + x2) 368 (zk_let (upd v_z (332 + x2).toNatClampNeg (v_z ((332 + x2) - 1).toNatClampNeg)) fun v_z_8 => zk_ck ((344 + x2) - 1) 368 (zk_ck (344 + x2) 368 (zk_let (upd v_z_8 (344 + x2).toNatClampNeg (v_z_8 ((344 + x2) - 1).toNatClampNeg)) fun v_z_9 => zk_ck ((356 + x2) - 1) 368 (zk_ck (356 + x2) 368 (zk_let (upd v_z_9 (356 + x2).toNatClampNeg (v_z_9 ((356 + x2) - 1).toNatClampNeg)) fun v_z_10 => k3 ((x2 + (-1)), v_z_10)))))))
def f_X10_noteCall (x1 : Int32) (v_z : (Nat → Int32)) : Option ((Nat → Int32)) := zk_fx (F_X10_noteCall_3 x1 ) zk_N (11, v_z)
theorem kX10_noteCall_inX10 : ∀ w ∈ u_ws RX10 TX10 16, w ∈ wsX10_noteCall := by decide +kernel
theorem kX10_noteCall_1 : Cond.fieldLink RX10 7 (TX10 0).1 (TX10 0).2.1 (TX10 0).2.2.1 ∈ wsX10_noteCall := by decide +kernel
theorem cd_X10_noteCall : yX10_noteCall.cls = RX10 ∧ yX10_noteCall.cls ≠ "java/lang/invoke/MethodHandle" ∧ yX10_noteCall.cls ≠ "java/lang/invoke/VarHandle" ∧ (parseMethodDescriptor yX10_noteCall.desc).map (fun d => d.parameters.length) = some 1 := by decide +kernel
set_option maxRecDepth 100000 in
set_option maxHeartbeats 4000000 in
theorem c_X10_noteCall (E : zk_Env) (l : Launch) (a : aX10) (v : VX10) (x1 : Int32) : zk_Mc E l yX10_noteCall wsX10_noteCall ({ frames := 0, cells := 0, slots := 0, locals := 0 } : Room) [.ref a.1, .int x1] (gX10 E a v) (f_X10_noteCall x1 v.1) (fun _ => none) (fun r => (gX10 E a (r, v.2))) := by
  obtain ⟨v_z, v_snaps, v_hasSnap, v_past, v_pastHas, v_pastMany, v_before, v_spare, v_text, v_typed, v_failure, v_hasFailed, v_isQuiet, v_from, v_end, v_numbers⟩ := v
  refine zk_M (cc := cX10_noteCall) (nL := 3) (ret := none) (by decide) rfl (Nat.le_of_ble_eq_true rfl) (fun X Q hQ => ?_)
  have J3 : ∀ (n : Nat) (x2 : Int32) (v_z : (Nat → Int32)), zk_G E l X cX10_noteCall 3 none yX10_noteCall.cls wsX10_noteCall ({ frames := 0, cells := 0, slots := 0, locals := 0 } : Room) 0 0 Q (gX10 E a (v_z, v_snaps, v_hasSnap, v_past, v_pastHas, v_pastMany, v_before, v_spare, v_text, v_typed, v_failure, v_hasFailed, v_isQuiet, v_from, v_end, v_numbers)) [(0, .ref a.1), (1, .int x1), (2, .int x2)] 3 [] (zk_fx (F_X10_noteCall_3 x1 ) n (x2, v_z)) := by
    intro n x2 v_z
    refine zk_loop (S := Int32 × (Nat → Int32)) (F := F_X10_noteCall_3 x1) (wS := fun s => (gX10 E a (s.2, v_snaps, v_hasSnap, v_past, v_pastHas, v_pastMany, v_before, v_spare, v_text, v_typed, v_failure, v_hasFailed, v_isQuiet, v_from, v_end, v_numbers))) (lS := fun s => [(0, .ref a.1), (1, .int x1), (2, .int s.1)]) (sS := fun _ => []) (fun k3 hk3 s => ?_) n (x2, v_z)
    obtain ⟨x2, v_z⟩ := s
    unfold F_X10_noteCall_3
    try dsimp only
    refine zk_iload_n dX10_noteCall_3 2 rfl 4 rfl ?_
    refine zk_if_le dX10_noteCall_4 79 (by decide) 7 rfl (fun _ => ?_) (fun _ => ?_)
    · refine zk_aload_n dX10_noteCall_79 0 rfl 80 rfl ?_
      refine zk_get dX10_noteCall_80 0 rfl rfl kX10_noteCall_inX10 0 (by decide) kX10_noteCall_1 rfl 83 rfl ?_
      refine zk_sipush 332 dX10_noteCall_83 (by decide) 86 rfl ?_
      refine zk_iload_n dX10_noteCall_86 1 rfl 87 rfl ?_
      refine zk_iast (gX10 E a ((upd v_z (332 : Int32).toNatClampNeg x1), v_snaps, v_hasSnap, v_past, v_pastHas, v_pastMany, v_before, v_spare, v_text, v_typed, v_failure, v_hasFailed, v_isQuiet, v_from, v_end, v_numbers)) dX10_noteCall_87 1 rfl rfl 88 rfl ?_
      refine zk_nmw (fun v_z_1 => (gX10 E a (v_z_1, v_snaps, v_hasSnap, v_past, v_pastHas, v_pastMany, v_before, v_spare, v_text, v_typed, v_failure, v_hasFailed, v_isQuiet, v_from, v_end, v_numbers))) _ rfl (fun v_z_1 => ?_)
      refine zk_aload_n dX10_noteCall_88 0 rfl 89 rfl ?_
      refine zk_get dX10_noteCall_89 0 rfl rfl kX10_noteCall_inX10 0 (by decide) kX10_noteCall_1 rfl 92 rfl ?_
      refine zk_sipush 344 dX10_noteCall_92 (by decide) 95 rfl ?_
      refine zk_aload_n dX10_noteCall_95 0 rfl 96 rfl ?_
      refine zk_get dX10_noteCall_96 0 rfl rfl kX10_noteCall_inX10 0 (by decide) kX10_noteCall_1 rfl 99 rfl ?_
      refine zk_bipush 12 dX10_noteCall_99 (by decide) 101 rfl ?_
      refine zk_iload_n dX10_noteCall_101 1 rfl 102 rfl ?_
      refine zk_iadd dX10_noteCall_102 103 rfl ?_
      refine zk_iald dX10_noteCall_103 1 rfl 104 rfl ?_
      refine zk_iast (gX10 E a ((upd v_z_1 (344 : Int32).toNatClampNeg (v_z_1 (12 + x1).toNatClampNeg)), v_snaps, v_hasSnap, v_past, v_pastHas, v_pastMany, v_before, v_spare, v_text, v_typed, v_failure, v_hasFailed, v_isQuiet, v_from, v_end, v_numbers)) dX10_noteCall_104 1 rfl rfl 105 rfl ?_
      refine zk_nmw (fun v_z_2 => (gX10 E a (v_z_2, v_snaps, v_hasSnap, v_past, v_pastHas, v_pastMany, v_before, v_spare, v_text, v_typed, v_failure, v_hasFailed, v_isQuiet, v_from, v_end, v_numbers))) _ rfl (fun v_z_2 => ?_)
      refine zk_aload_n dX10_noteCall_105 0 rfl 106 rfl ?_
      refine zk_get dX10_noteCall_106 0 rfl rfl kX10_noteCall_inX10 0 (by decide) kX10_noteCall_1 rfl 109 rfl ?_
      refine zk_sipush 356 dX10_noteCall_109 (by decide) 112 rfl ?_
      refine zk_aload_n dX10_noteCall_112 0 rfl 113 rfl ?_
      refine zk_get dX10_noteCall_113 0 rfl rfl kX10_noteCall_inX10 0 (by decide) kX10_noteCall_1 rfl 116 rfl ?_
      refine zk_iconst 0 dX10_noteCall_116 (by decide) 117 rfl ?_
      refine zk_iald dX10_noteCall_117 1 rfl 118 rfl ?_
      refine zk_iast (gX10 E a ((upd v_z_2 (356 : Int32).toNatClampNeg (v_z_2 (0 : Int32).toNatClampNeg)), v_snaps, v_hasSnap, v_past, v_pastHas, v_pastMany, v_before, v_spare, v_text, v_typed, v_failure, v_hasFailed, v_isQuiet, v_from, v_end, v_numbers)) dX10_noteCall_118 1 rfl rfl 119 rfl ?_
      refine zk_nmw (fun v_z_3 => (gX10 E a (v_z_3, v_snaps, v_hasSnap, v_past, v_pastHas, v_pastMany, v_before, v_spare, v_text, v_typed, v_failure, v_hasFailed, v_isQuiet, v_from, v_end, v_numbers))) _ rfl (fun v_z_3 => ?_)
      refine zk_aload_n dX10_noteCall_119 0 rfl 120 rfl ?_
      refine zk_get dX10_noteCall_120 0 rfl rfl kX10_noteCall_inX10 0 (by decide) kX10_noteCall_1 rfl 123 rfl ?_
      refine zk_iconst 5 dX10_noteCall_123 (by decide) 124 rfl ?_
      refine zk_dup2 dX10_noteCall_124 rfl rfl 125 rfl ?_
      refine zk_iald dX10_noteCall_125 1 rfl 126 rfl ?_
      refine zk_iconst 1 dX10_noteCall_126 (by decide) 127 rfl ?_
      refine zk_iadd dX10_noteCall_127 128 rfl ?_
      refine zk_iast (gX10 E a ((upd v_z_3 (5 : Int32).toNatClampNeg ((v_z_3 (5 : Int32).toNatClampNeg) + 1)), v_snaps, v_hasSnap, v_past, v_pastHas, v_pastMany, v_before, v_spare, v_text, v_typed, v_failure, v_hasFailed, v_isQuiet, v_from, v_end, v_numbers)) dX10_noteCall_128 1 rfl rfl 129 rfl ?_
      refine zk_nmw (fun v_z_4 => (gX10 E a (v_z_4, v_snaps, v_hasSnap, v_past, v_pastHas, v_pastMany, v_before, v_spare, v_text, v_typed, v_failure, v_hasFailed, v_isQuiet, v_from, v_end, v_numbers))) _ rfl (fun v_z_4 => ?_)
      refine zk_aload_n dX10_noteCall_129 0 rfl 130 rfl ?_
      refine zk_get dX10_noteCall_130 0 rfl rfl kX10_noteCall_inX10 0 (by decide) kX10_noteCall_1 rfl 133 rfl ?_
      refine zk_sipush 252 dX10_noteCall_133 (by decide) 136 rfl ?_
      refine zk_iload_n dX10_noteCall_136 1 rfl 137 rfl ?_
      refine zk_iadd dX10_noteCall_137 138 rfl ?_
      refine zk_dup2 dX10_noteCall_138 rfl rfl 139 rfl ?_
      refine zk_iald dX10_noteCall_139 1 rfl 140 rfl ?_
      refine zk_iconst 1 dX10_noteCall_140 (by decide) 141 rfl ?_
      refine zk_iadd dX10_noteCall_141 142 rfl ?_
      refine zk_iast (gX10 E a ((upd v_z_4 (252 + x1).toNatClampNeg ((v_z_4 (252 + x1).toNatClampNeg) + 1)), v_snaps, v_hasSnap, v_past, v_pastHas, v_pastMany, v_before, v_spare, v_text, v_typed, v_failure, v_hasFailed, v_isQuiet, v_from, v_end, v_numbers)) dX10_noteCall_142 1 rfl rfl 143 rfl ?_
      refine zk_nmw (fun v_z_5 => (gX10 E a (v_z_5, v_snaps, v_hasSnap, v_past, v_pastHas, v_pastMany, v_before, v_spare, v_text, v_typed, v_failure, v_hasFailed, v_isQuiet, v_from, v_end, v_numbers))) _ rfl (fun v_z_5 => ?_)
      refine zk_aload_n dX10_noteCall_143 0 rfl 144 rfl ?_
      refine zk_get dX10_noteCall_144 0 rfl rfl kX10_noteCall_inX10 0 (by decide) kX10_noteCall_1 rfl 147 rfl ?_
      refine zk_bipush 12 dX10_noteCall_147 (by decide) 149 rfl ?_
      refine zk_iload_n dX10_noteCall_149 1 rfl 150 rfl ?_
      refine zk_iadd dX10_noteCall_150 151 rfl ?_
      refine zk_iald dX10_noteCall_151 1 rfl 152 rfl ?_
      refine zk_aload_n dX10_noteCall_152 0 rfl 153 rfl ?_
      refine zk_get dX10_noteCall_153 0 rfl rfl kX10_noteCall_inX10 0 (by decide) kX10_noteCall_1 rfl 156 rfl ?_
      refine zk_iconst 0 dX10_noteCall_156 (by decide) 157 rfl ?_
      refine zk_iald dX10_noteCall_157 1 rfl 158 rfl ?_
      refine zk_icmp_ge dX10_noteCall_158 201 (by decide) 161 rfl (fun _ => ?_) (fun _ => ?_)
      · exact zk_vret hQ dX10_noteCall_201 rfl rfl
      · refine zk_aload_n dX10_noteCall_161 0 rfl 162 rfl ?_
        refine zk_get dX10_noteCall_162 0 rfl rfl kX10_noteCall_inX10 0 (by decide) kX10_noteCall_1 rfl 165 rfl ?_
        refine zk_bipush 6 dX10_noteCall_165 (by decide) 167 rfl ?_
        refine zk_dup2 dX10_noteCall_167 rfl rfl 168 rfl ?_
        refine zk_iald dX10_noteCall_168 1 rfl 169 rfl ?_
        refine zk_iconst 1 dX10_noteCall_169 (by decide) 170 rfl ?_
        refine zk_iadd dX10_noteCall_170 171 rfl ?_
        refine zk_iast (gX10 E a ((upd v_z_5 (6 : Int32).toNatClampNeg ((v_z_5 (6 : Int32).toNatClampNeg) + 1)), v_snaps, v_hasSnap, v_past, v_pastHas, v_pastMany, v_before, v_spare, v_text, v_typed, v_failure, v_hasFailed, v_isQuiet, v_from, v_end, v_numbers)) dX10_noteCall_171 1 rfl rfl 172 rfl ?_
        refine zk_nmw (fun v_z_6 => (gX10 E a (v_z_6, v_snaps, v_hasSnap, v_past, v_pastHas, v_pastMany, v_before, v_spare, v_text, v_typed, v_failure, v_hasFailed, v_isQuiet, v_from, v_end, v_numbers))) _ rfl (fun v_z_6 => ?_)
        refine zk_aload_n dX10_noteCall_172 0 rfl 173 rfl ?_
        refine zk_get dX10_noteCall_173 0 rfl rfl kX10_noteCall_inX10 0 (by decide) kX10_noteCall_1 rfl 176 rfl ?_
        refine zk_sipush 292 dX10_noteCall_176 (by decide) 179 rfl ?_
        refine zk_iload_n dX10_noteCall_179 1 rfl 180 rfl ?_
        refine zk_iadd dX10_noteCall_180 181 rfl ?_
        refine zk_dup2 dX10_noteCall_181 rfl rfl 182 rfl ?_
        refine zk_iald dX10_noteCall_182 1 rfl 183 rfl ?_
        refine zk_aload_n dX10_noteCall_183 0 rfl 184 rfl ?_
        refine zk_get dX10_noteCall_184 0 rfl rfl kX10_noteCall_inX10 0 (by decide) kX10_noteCall_1 rfl 187 rfl ?_
        refine zk_iconst 0 dX10_noteCall_187 (by decide) 188 rfl ?_
        refine zk_iald dX10_noteCall_188 1 rfl 189 rfl ?_
        refine zk_aload_n dX10_noteCall_189 0 rfl 190 rfl ?_
        refine zk_get dX10_noteCall_190 0 rfl rfl kX10_noteCall_inX10 0 (by decide) kX10_noteCall_1 rfl 193 rfl ?_
        refine zk_bipush 12 dX10_noteCall_193 (by decide) 195 rfl ?_
        refine zk_iload_n dX10_noteCall_195 1 rfl 196 rfl ?_
        refine zk_iadd dX10_noteCall_196 197 rfl ?_
        refine zk_iald dX10_noteCall_197 1 rfl 198 rfl ?_
        refine zk_isub dX10_noteCall_198 199 rfl ?_
        refine zk_iadd dX10_noteCall_199 200 rfl ?_
        refine zk_iast (gX10 E a ((upd v_z_6 (292 + x1).toNatClampNeg ((v_z_6 (292 + x1).toNatClampNeg) + ((v_z_6 (0 : Int32).toNatClampNeg) - (v_z_6 (12 + x1).toNatClampNeg)))), v_snaps, v_hasSnap, v_past, v_pastHas, v_pastMany, v_before, v_spare, v_text, v_typed, v_failure, v_hasFailed, v_isQuiet, v_from, v_end, v_numbers)) dX10_noteCall_200 1 rfl rfl 201 rfl ?_
        refine zk_nmw (fun v_z_7 => (gX10 E a (v_z_7, v_snaps, v_hasSnap, v_past, v_pastHas, v_pastMany, v_before, v_spare, v_text, v_typed, v_failure, v_hasFailed, v_isQuiet, v_from, v_end, v_numbers))) _ rfl (fun v_z_7 => ?_)
        exact zk_vret hQ dX10_noteCall_201 rfl rfl
    · refine zk_aload_n dX10_noteCall_7 0 rfl 8 rfl ?_
      refine zk_get dX10_noteCall_8 0 rfl rfl kX10_noteCall_inX10 0 (by decide) kX10_noteCall_1 rfl 11 rfl ?_
      refine zk_sipush 332 dX10_noteCall_11 (by decide) 14 rfl ?_
      refine zk_iload_n dX10_noteCall_14 2 rfl 15 rfl ?_
      refine zk_iadd dX10_noteCall_15 16 rfl ?_
      refine zk_aload_n dX10_noteCall_16 0 rfl 17 rfl ?_
      refine zk_get dX10_noteCall_17 0 rfl rfl kX10_noteCall_inX10 0 (by decide) kX10_noteCall_1 rfl 20 rfl ?_
      refine zk_sipush 332 dX10_noteCall_20 (by decide) 23 rfl ?_
      refine zk_iload_n dX10_noteCall_23 2 rfl 24 rfl ?_
      refine zk_iadd dX10_noteCall_24 25 rfl ?_
      refine zk_iconst 1 dX10_noteCall_25 (by decide) 26 rfl ?_
      refine zk_isub dX10_noteCall_26 27 rfl ?_
      refine zk_iald dX10_noteCall_27 1 rfl 28 rfl ?_
      refine zk_iast (gX10 E a ((upd v_z (332 + x2).toNatClampNeg (v_z ((332 + x2) - 1).toNatClampNeg)), v_snaps, v_hasSnap, v_past, v_pastHas, v_pastMany, v_before, v_spare, v_text, v_typed, v_failure, v_hasFailed, v_isQuiet, v_from, v_end, v_numbers)) dX10_noteCall_28 1 rfl rfl 29 rfl ?_
      refine zk_nmw (fun v_z_8 => (gX10 E a (v_z_8, v_snaps, v_hasSnap, v_past, v_pastHas, v_pastMany, v_before, v_spare, v_text, v_typed, v_failure, v_hasFailed, v_isQuiet, v_from, v_end, v_numbers))) _ rfl (fun v_z_8 => ?_)
      refine zk_aload_n dX10_noteCall_29 0 rfl 30 rfl ?_
      refine zk_get dX10_noteCall_30 0 rfl rfl kX10_noteCall_inX10 0 (by decide) kX10_noteCall_1 rfl 33 rfl ?_
      refine zk_sipush 344 dX10_noteCall_33 (by decide) 36 rfl ?_
      refine zk_iload_n dX10_noteCall_36 2 rfl 37 rfl ?_
      refine zk_iadd dX10_noteCall_37 38 rfl ?_
      refine zk_aload_n dX10_noteCall_38 0 rfl 39 rfl ?_
      refine zk_get dX10_noteCall_39 0 rfl rfl kX10_noteCall_inX10 0 (by decide) kX10_noteCall_1 rfl 42 rfl ?_
      refine zk_sipush 344 dX10_noteCall_42 (by decide) 45 rfl ?_
      refine zk_iload_n dX10_noteCall_45 2 rfl 46 rfl ?_
      refine zk_iadd dX10_noteCall_46 47 rfl ?_
      refine zk_iconst 1 dX10_noteCall_47 (by decide) 48 rfl ?_
      refine zk_isub dX10_noteCall_48 49 rfl ?_
      refine zk_iald dX10_noteCall_49 1 rfl 50 rfl ?_
      refine zk_iast (gX10 E a ((upd v_z_8 (344 + x2).toNatClampNeg (v_z_8 ((344 + x2) - 1).toNatClampNeg)), v_snaps, v_hasSnap, v_past, v_pastHas, v_pastMany, v_before, v_spare, v_text, v_typed, v_failure, v_hasFailed, v_isQuiet, v_from, v_end, v_numbers)) dX10_noteCall_50 1 rfl rfl 51 rfl ?_
      refine zk_nmw (fun v_z_9 => (gX10 E a (v_z_9, v_snaps, v_hasSnap, v_past, v_pastHas, v_pastMany, v_before, v_spare, v_text, v_typed, v_failure, v_hasFailed, v_isQuiet, v_from, v_end, v_numbers))) _ rfl (fun v_z_9 => ?_)
      refine zk_aload_n dX10_noteCall_51 0 rfl 52 rfl ?_
      refine zk_get dX10_noteCall_52 0 rfl rfl kX10_noteCall_inX10 0 (by decide) kX10_noteCall_1 rfl 55 rfl ?_
      refine zk_sipush 356 dX10_noteCall_55 (by decide) 58 rfl ?_
      refine zk_iload_n dX10_noteCall_58 2 rfl 59 rfl ?_
      refine zk_iadd dX10_noteCall_59 60 rfl ?_
      refine zk_aload_n dX10_noteCall_60 0 rfl 61 rfl ?_
      refine zk_get dX10_noteCall_61 0 rfl rfl kX10_noteCall_inX10 0 (by decide) kX10_noteCall_1 rfl 64 rfl ?_
      refine zk_sipush 356 dX10_noteCall_64 (by decide) 67 rfl ?_
      refine zk_iload_n dX10_noteCall_67 2 rfl 68 rfl ?_
      refine zk_iadd dX10_noteCall_68 69 rfl ?_
      refine zk_iconst 1 dX10_noteCall_69 (by decide) 70 rfl ?_
      refine zk_isub dX10_noteCall_70 71 rfl ?_
      refine zk_iald dX10_noteCall_71 1 rfl 72 rfl ?_
      refine zk_iast (gX10 E a ((upd v_z_9 (356 + x2).toNatClampNeg (v_z_9 ((356 + x2) - 1).toNatClampNeg)), v_snaps, v_hasSnap, v_past, v_pastHas, v_pastMany, v_before, v_spare, v_text, v_typed, v_failure, v_hasFailed, v_isQuiet, v_from, v_end, v_numbers)) dX10_noteCall_72 1 rfl rfl 73 rfl ?_
      refine zk_nmw (fun v_z_10 => (gX10 E a (v_z_10, v_snaps, v_hasSnap, v_past, v_pastHas, v_pastMany, v_before, v_spare, v_text, v_typed, v_failure, v_hasFailed, v_isQuiet, v_from, v_end, v_numbers))) _ rfl (fun v_z_10 => ?_)
      refine zk_iinc (x2 + (-1)) [(2, .int (x2 + (-1))), (0, .ref a.1), (1, .int x1)] dX10_noteCall_73 2 rfl rfl (by decide) rfl 76 rfl ?_
      refine zk_goto dX10_noteCall_76 3 (by decide) ?_
      refine zk_lv [1, 2, 0] rfl ?_
      exact hk3 ((x2 + (-1)), v_z_10)
  refine zk_eqv (w1 := (gX10 E a (v_z, v_snaps, v_hasSnap, v_past, v_pastHas, v_pastMany, v_before, v_spare, v_text, v_typed, v_failure, v_hasFailed, v_isQuiet, v_from, v_end, v_numbers))) (lv1 := [(0, .ref a.1), (1, .int x1)]) (st1 := []) (o1 := f_X10_noteCall x1 v_z) rfl rfl rfl rfl ?_
  unfold f_X10_noteCall
  refine zk_bipush 11 dX10_noteCall_0 (by decide) 2 rfl ?_
  refine zk_istore_n [(2, .int 11), (0, .ref a.1), (1, .int x1)] dX10_noteCall_2 (by decide) rfl 3 rfl ?_
  refine zk_lv [1, 2, 0] rfl ?_
  exact J3    zk_N 11 v_z
def f_X10_callOne_156 (x1 : Int32) (v_z : (Nat → Int32)) : Option ((Nat → Int32)) := zk_ck (132 + x1) 368 (zk_let (upd v_z (132 + x1).toNatClampNeg 0) fun v_z_8 => (f_X10_standByDistance x1 v_z_8).bind fun r169 => some r169)
def f_X10_callOne (x1 : Int32) (v_z : (Nat → Int32)) : Option ((Nat → Int32)) := (f_X10_noteCall x1 v_z).bind fun r2 => zk_ck (92 + x1) 368 (if (r2 (92 + x1).toNatClampNeg) = 0 then zk_ck (132 + x1) 368 (zk_let (upd r2 (132 + x1).toNatClampNeg 2) fun v_z_1 => zk_ck (172 + x1) 368 (zk_let (upd v_z_1 (172 + x1).toNatClampNeg (-1)) fun v_z_2 => some v_z_2)) else zk_ck (92 + x1) 368 (zk_ck (92 + x1) 368 (zk_let (upd r2 (92 + x1).toNatClampNeg ((r2 (92 + x1).toNatClampNeg) - 1)) fun v_z_3 => zk_ck 4 368 (if (v_z_3 (4 : Int32).toNatClampNeg) = 1 then zk_ck 0 368 (zk_ck (52 + x1) 368 (zk_ck (12 + x1) 368 (zk_let (upd v_z_3 (12 + x1).toNatClampNeg ((v_z_3 (0 : Int32).toNatClampNeg) + (v_z_3 (52 + x1).toNatClampNeg))) fun v_z_4 => f_X10_callOne_156 x1 v_z_4))) else zk_ck 0 368 (zk_ck (12 + x1) 368 (zk_ck (52 + x1) 368 (zk_dv (v_z_3 (52 + x1).toNatClampNeg) (zk_let ((((v_z_3 (0 : Int32).toNatClampNeg) - (v_z_3 (12 + x1).toNatClampNeg)) / (v_z_3 (52 + x1).toNatClampNeg)) + 1) fun x2_5 => zk_ck (12 + x1) 368 (zk_ck (52 + x1) 368 (zk_ck (12 + x1) 368 (zk_let (upd v_z_3 (12 + x1).toNatClampNeg ((v_z_3 (12 + x1).toNatClampNeg) + (x2_5 * (v_z_3 (52 + x1).toNatClampNeg)))) fun v_z_6 => zk_ck 9 368 (zk_ck 9 368 (zk_let (upd v_z_6 (9 : Int32).toNatClampNeg ((v_z_6 (9 : Int32).toNatClampNeg) + (x2_5 - 1))) fun v_z_7 => f_X10_callOne_156 x1 v_z_7)))))))))))))
theorem kX10_callOne_inX10 : ∀ w ∈ u_ws RX10 TX10 16, w ∈ wsX10_callOne := by decide +kernel
theorem kX10_callOne_1 : Cond.fieldLink RX10 7 (TX10 0).1 (TX10 0).2.1 (TX10 0).2.2.1 ∈ wsX10_callOne := by decide +kernel
theorem cd_X10_callOne : yX10_callOne.cls = RX10 ∧ yX10_callOne.cls ≠ "java/lang/invoke/MethodHandle" ∧ yX10_callOne.cls ≠ "java/lang/invoke/VarHandle" ∧ (parseMethodDescriptor yX10_callOne.desc).map (fun d => d.parameters.length) = some 1 := by decide +kernel
set_option maxRecDepth 100000 in
set_option maxHeartbeats 4000000 in
theorem c_X10_callOne (E : zk_Env) (l : Launch) (a : aX10) (v : VX10) (x1 : Int32) : zk_Mc E l yX10_callOne wsX10_callOne ({ frames := 2, cells := 0, slots := 0, locals := 45 } : Room) [.ref a.1, .int x1] (gX10 E a v) (f_X10_callOne x1 v.1) (fun _ => none) (fun r => (gX10 E a (r, v.2))) := by
  obtain ⟨v_z, v_snaps, v_hasSnap, v_past, v_pastHas, v_pastMany, v_before, v_spare, v_text, v_typed, v_failure, v_hasFailed, v_isQuiet, v_from, v_end, v_numbers⟩ := v
  refine zk_M (cc := cX10_callOne) (nL := 3) (ret := none) (by decide) rfl (Nat.le_of_ble_eq_true rfl) (fun X Q hQ => ?_)
  have J156 : ∀ (v_z : (Nat → Int32)), zk_G E l X cX10_callOne 3 none yX10_callOne.cls wsX10_callOne ({ frames := 2, cells := 0, slots := 0, locals := 45 } : Room) 0 0 Q (gX10 E a (v_z, v_snaps, v_hasSnap, v_past, v_pastHas, v_pastMany, v_before, v_spare, v_text, v_typed, v_failure, v_hasFailed, v_isQuiet, v_from, v_end, v_numbers)) [(0, .ref a.1), (1, .int x1)] 156 [] (f_X10_callOne_156 x1 v_z) := by
    intro v_z
    unfold f_X10_callOne_156
    refine zk_aload_n dX10_callOne_156 0 rfl 157 rfl ?_
    refine zk_get dX10_callOne_157 0 rfl rfl kX10_callOne_inX10 0 (by decide) kX10_callOne_1 rfl 160 rfl ?_
    refine zk_sipush 132 dX10_callOne_160 (by decide) 163 rfl ?_
    refine zk_iload_n dX10_callOne_163 1 rfl 164 rfl ?_
    refine zk_iadd dX10_callOne_164 165 rfl ?_
    refine zk_iconst 0 dX10_callOne_165 (by decide) 166 rfl ?_
    refine zk_iast (gX10 E a ((upd v_z (132 + x1).toNatClampNeg 0), v_snaps, v_hasSnap, v_past, v_pastHas, v_pastMany, v_before, v_spare, v_text, v_typed, v_failure, v_hasFailed, v_isQuiet, v_from, v_end, v_numbers)) dX10_callOne_166 1 rfl rfl 167 rfl ?_
    refine zk_nmw (fun v_z_8 => (gX10 E a (v_z_8, v_snaps, v_hasSnap, v_past, v_pastHas, v_pastMany, v_before, v_spare, v_text, v_typed, v_failure, v_hasFailed, v_isQuiet, v_from, v_end, v_numbers))) _ rfl (fun v_z_8 => ?_)
    refine zk_aload_n dX10_callOne_167 0 rfl 168 rfl ?_
    refine zk_iload_n dX10_callOne_168 1 rfl 169 rfl ?_
    refine zk_callV (ci := 10) (st := []) (c_X10_standByDistance E l a (v_z_8, v_snaps, v_hasSnap, v_past, v_pastHas, v_pastMany, v_before, v_spare, v_text, v_typed, v_failure, v_hasFailed, v_isQuiet, v_from, v_end, v_numbers) x1) dX10_callOne_169 1 gX10_callOne_X10_standByDistance rfl rfl rfl cd_X10_standByDistance ⟨Nat.le_of_ble_eq_true rfl, Nat.le_of_ble_eq_true rfl⟩ ⟨Nat.zero_le _, Nat.zero_le _⟩ _ (fun r169 => (gX10 E a (r169, v_snaps, v_hasSnap, v_past, v_pastHas, v_pastMany, v_before, v_spare, v_text, v_typed, v_failure, v_hasFailed, v_isQuiet, v_from, v_end, v_numbers))) zk_pa (fun r169 => zk_qa) rfl rfl rfl rfl (Nat.le_of_ble_eq_true rfl) (fun r169 => []) (fun _ => rfl) 172 rfl (fun r169 => ?_)
    exact zk_vret hQ dX10_callOne_172 rfl rfl
  refine zk_eqv (w1 := (gX10 E a (v_z, v_snaps, v_hasSnap, v_past, v_pastHas, v_pastMany, v_before, v_spare, v_text, v_typed, v_failure, v_hasFailed, v_isQuiet, v_from, v_end, v_numbers))) (lv1 := [(0, .ref a.1), (1, .int x1)]) (st1 := []) (o1 := f_X10_callOne x1 v_z) rfl rfl rfl rfl ?_
  unfold f_X10_callOne
  refine zk_aload_n dX10_callOne_0 0 rfl 1 rfl ?_
  refine zk_iload_n dX10_callOne_1 1 rfl 2 rfl ?_
  refine zk_callV (ci := 10) (st := []) (c_X10_noteCall E l a (v_z, v_snaps, v_hasSnap, v_past, v_pastHas, v_pastMany, v_before, v_spare, v_text, v_typed, v_failure, v_hasFailed, v_isQuiet, v_from, v_end, v_numbers) x1) dX10_callOne_2 1 gX10_callOne_X10_noteCall rfl rfl rfl cd_X10_noteCall ⟨Nat.le_of_ble_eq_true rfl, Nat.le_of_ble_eq_true rfl⟩ ⟨Nat.zero_le _, Nat.zero_le _⟩ _ (fun r2 => (gX10 E a (r2, v_snaps, v_hasSnap, v_past, v_pastHas, v_pastMany, v_before, v_spare, v_text, v_typed, v_failure, v_hasFailed, v_isQuiet, v_from, v_end, v_numbers))) zk_pa (fun r2 => zk_qa) rfl rfl rfl rfl (Nat.le_of_ble_eq_true rfl) (fun r2 => []) (fun _ => rfl) 5 rfl (fun r2 => ?_)
  refine zk_aload_n dX10_callOne_5 0 rfl 6 rfl ?_
  refine zk_get dX10_callOne_6 0 rfl rfl kX10_callOne_inX10 0 (by decide) kX10_callOne_1 rfl 9 rfl ?_
  refine zk_bipush 92 dX10_callOne_9 (by decide) 11 rfl ?_
  refine zk_iload_n dX10_callOne_11 1 rfl 12 rfl ?_
  refine zk_iadd dX10_callOne_12 13 rfl ?_
  refine zk_iald dX10_callOne_13 1 rfl 14 rfl ?_
  refine zk_if_ne dX10_callOne_14 40 (by decide) 17 rfl (fun _ => ?_) (fun _ => ?_)
  · refine zk_aload_n dX10_callOne_17 0 rfl 18 rfl ?_
    refine zk_get dX10_callOne_18 0 rfl rfl kX10_callOne_inX10 0 (by decide) kX10_callOne_1 rfl 21 rfl ?_
    refine zk_sipush 132 dX10_callOne_21 (by decide) 24 rfl ?_
    refine zk_iload_n dX10_callOne_24 1 rfl 25 rfl ?_
    refine zk_iadd dX10_callOne_25 26 rfl ?_
    refine zk_iconst 2 dX10_callOne_26 (by decide) 27 rfl ?_
    refine zk_iast (gX10 E a ((upd r2 (132 + x1).toNatClampNeg 2), v_snaps, v_hasSnap, v_past, v_pastHas, v_pastMany, v_before, v_spare, v_text, v_typed, v_failure, v_hasFailed, v_isQuiet, v_from, v_end, v_numbers)) dX10_callOne_27 1 rfl rfl 28 rfl ?_
    refine zk_nmw (fun v_z_1 => (gX10 E a (v_z_1, v_snaps, v_hasSnap, v_past, v_pastHas, v_pastMany, v_before, v_spare, v_text, v_typed, v_failure, v_hasFailed, v_isQuiet, v_from, v_end, v_numbers))) _ rfl (fun v_z_1 => ?_)
    refine zk_aload_n dX10_callOne_28 0 rfl 29 rfl ?_
    refine zk_get dX10_callOne_29 0 rfl rfl kX10_callOne_inX10 0 (by decide) kX10_callOne_1 rfl 32 rfl ?_
    refine zk_sipush 172 dX10_callOne_32 (by decide) 35 rfl ?_
    refine zk_iload_n dX10_callOne_35 1 rfl 36 rfl ?_
    refine zk_iadd dX10_callOne_36 37 rfl ?_
    refine zk_iconst (-1) dX10_callOne_37 (by decide) 38 rfl ?_
    refine zk_iast (gX10 E a ((upd v_z_1 (172 + x1).toNatClampNeg (-1)), v_snaps, v_hasSnap, v_past, v_pastHas, v_pastMany, v_before, v_spare, v_text, v_typed, v_failure, v_hasFailed, v_isQuiet, v_from, v_end, v_numbers)) dX10_callOne_38 1 rfl rfl 39 rfl ?_
    refine zk_nmw (fun v_z_2 => (gX10 E a (v_z_2, v_snaps, v_hasSnap, v_past, v_pastHas, v_pastMany, v_before, v_spare, v_text, v_typed, v_failure, v_hasFailed, v_isQuiet, v_from, v_end, v_numbers))) _ rfl (fun v_z_2 => ?_)
    exact zk_vret hQ dX10_callOne_39 rfl rfl
  · refine zk_aload_n dX10_callOne_40 0 rfl 41 rfl ?_
    refine zk_get dX10_callOne_41 0 rfl rfl kX10_callOne_inX10 0 (by decide) kX10_callOne_1 rfl 44 rfl ?_
    refine zk_bipush 92 dX10_callOne_44 (by decide) 46 rfl ?_
    refine zk_iload_n dX10_callOne_46 1 rfl 47 rfl ?_
    refine zk_iadd dX10_callOne_47 48 rfl ?_
    refine zk_dup2 dX10_callOne_48 rfl rfl 49 rfl ?_
    refine zk_iald dX10_callOne_49 1 rfl 50 rfl ?_
    refine zk_iconst 1 dX10_callOne_50 (by decide) 51 rfl ?_
    refine zk_isub dX10_callOne_51 52 rfl ?_
    refine zk_iast (gX10 E a ((upd r2 (92 + x1).toNatClampNeg ((r2 (92 + x1).toNatClampNeg) - 1)), v_snaps, v_hasSnap, v_past, v_pastHas, v_pastMany, v_before, v_spare, v_text, v_typed, v_failure, v_hasFailed, v_isQuiet, v_from, v_end, v_numbers)) dX10_callOne_52 1 rfl rfl 53 rfl ?_
    refine zk_nmw (fun v_z_3 => (gX10 E a (v_z_3, v_snaps, v_hasSnap, v_past, v_pastHas, v_pastMany, v_before, v_spare, v_text, v_typed, v_failure, v_hasFailed, v_isQuiet, v_from, v_end, v_numbers))) _ rfl (fun v_z_3 => ?_)
    refine zk_aload_n dX10_callOne_53 0 rfl 54 rfl ?_
    refine zk_get dX10_callOne_54 0 rfl rfl kX10_callOne_inX10 0 (by decide) kX10_callOne_1 rfl 57 rfl ?_
    refine zk_iconst 4 dX10_callOne_57 (by decide) 58 rfl ?_
    refine zk_iald dX10_callOne_58 1 rfl 59 rfl ?_
    refine zk_iconst 1 dX10_callOne_59 (by decide) 60 rfl ?_
    refine zk_icmp_ne dX10_callOne_60 91 (by decide) 63 rfl (fun _ => ?_) (fun _ => ?_)
    · refine zk_aload_n dX10_callOne_63 0 rfl 64 rfl ?_
      refine zk_get dX10_callOne_64 0 rfl rfl kX10_callOne_inX10 0 (by decide) kX10_callOne_1 rfl 67 rfl ?_
      refine zk_bipush 12 dX10_callOne_67 (by decide) 69 rfl ?_
      refine zk_iload_n dX10_callOne_69 1 rfl 70 rfl ?_
      refine zk_iadd dX10_callOne_70 71 rfl ?_
      refine zk_aload_n dX10_callOne_71 0 rfl 72 rfl ?_
      refine zk_get dX10_callOne_72 0 rfl rfl kX10_callOne_inX10 0 (by decide) kX10_callOne_1 rfl 75 rfl ?_
      refine zk_iconst 0 dX10_callOne_75 (by decide) 76 rfl ?_
      refine zk_iald dX10_callOne_76 1 rfl 77 rfl ?_
      refine zk_aload_n dX10_callOne_77 0 rfl 78 rfl ?_
      refine zk_get dX10_callOne_78 0 rfl rfl kX10_callOne_inX10 0 (by decide) kX10_callOne_1 rfl 81 rfl ?_
      refine zk_bipush 52 dX10_callOne_81 (by decide) 83 rfl ?_
      refine zk_iload_n dX10_callOne_83 1 rfl 84 rfl ?_
      refine zk_iadd dX10_callOne_84 85 rfl ?_
      refine zk_iald dX10_callOne_85 1 rfl 86 rfl ?_
      refine zk_iadd dX10_callOne_86 87 rfl ?_
      refine zk_iast (gX10 E a ((upd v_z_3 (12 + x1).toNatClampNeg ((v_z_3 (0 : Int32).toNatClampNeg) + (v_z_3 (52 + x1).toNatClampNeg))), v_snaps, v_hasSnap, v_past, v_pastHas, v_pastMany, v_before, v_spare, v_text, v_typed, v_failure, v_hasFailed, v_isQuiet, v_from, v_end, v_numbers)) dX10_callOne_87 1 rfl rfl 88 rfl ?_
      refine zk_nmw (fun v_z_4 => (gX10 E a (v_z_4, v_snaps, v_hasSnap, v_past, v_pastHas, v_pastMany, v_before, v_spare, v_text, v_typed, v_failure, v_hasFailed, v_isQuiet, v_from, v_end, v_numbers))) _ rfl (fun v_z_4 => ?_)
      refine zk_goto dX10_callOne_88 156 (by decide) ?_
      exact J156   v_z_4
    · refine zk_aload_n dX10_callOne_91 0 rfl 92 rfl ?_
      refine zk_get dX10_callOne_92 0 rfl rfl kX10_callOne_inX10 0 (by decide) kX10_callOne_1 rfl 95 rfl ?_
      refine zk_iconst 0 dX10_callOne_95 (by decide) 96 rfl ?_
      refine zk_iald dX10_callOne_96 1 rfl 97 rfl ?_
      refine zk_aload_n dX10_callOne_97 0 rfl 98 rfl ?_
      refine zk_get dX10_callOne_98 0 rfl rfl kX10_callOne_inX10 0 (by decide) kX10_callOne_1 rfl 101 rfl ?_
      refine zk_bipush 12 dX10_callOne_101 (by decide) 103 rfl ?_
      refine zk_iload_n dX10_callOne_103 1 rfl 104 rfl ?_
      refine zk_iadd dX10_callOne_104 105 rfl ?_
      refine zk_iald dX10_callOne_105 1 rfl 106 rfl ?_
      refine zk_isub dX10_callOne_106 107 rfl ?_
      refine zk_aload_n dX10_callOne_107 0 rfl 108 rfl ?_
      refine zk_get dX10_callOne_108 0 rfl rfl kX10_callOne_inX10 0 (by decide) kX10_callOne_1 rfl 111 rfl ?_
      refine zk_bipush 52 dX10_callOne_111 (by decide) 113 rfl ?_
      refine zk_iload_n dX10_callOne_113 1 rfl 114 rfl ?_
      refine zk_iadd dX10_callOne_114 115 rfl ?_
      refine zk_iald dX10_callOne_115 1 rfl 116 rfl ?_
      refine zk_idiv dX10_callOne_116 117 rfl ?_
      refine zk_iconst 1 dX10_callOne_117 (by decide) 118 rfl ?_
      refine zk_iadd dX10_callOne_118 119 rfl ?_
      refine zk_nm (fun x2_5 => ?_)
      refine zk_istore_n [(2, .int x2_5), (0, .ref a.1), (1, .int x1)] dX10_callOne_119 (by decide) rfl 120 rfl ?_
      refine zk_aload_n dX10_callOne_120 1 rfl 121 rfl ?_
      refine zk_get dX10_callOne_121 0 rfl rfl kX10_callOne_inX10 0 (by decide) kX10_callOne_1 rfl 124 rfl ?_
      refine zk_bipush 12 dX10_callOne_124 (by decide) 126 rfl ?_
      refine zk_iload_n dX10_callOne_126 2 rfl 127 rfl ?_
      refine zk_iadd dX10_callOne_127 128 rfl ?_
      refine zk_dup2 dX10_callOne_128 rfl rfl 129 rfl ?_
      refine zk_iald dX10_callOne_129 1 rfl 130 rfl ?_
      refine zk_iload_n dX10_callOne_130 0 rfl 131 rfl ?_
      refine zk_aload_n dX10_callOne_131 1 rfl 132 rfl ?_
      refine zk_get dX10_callOne_132 0 rfl rfl kX10_callOne_inX10 0 (by decide) kX10_callOne_1 rfl 135 rfl ?_
      refine zk_bipush 52 dX10_callOne_135 (by decide) 137 rfl ?_
      refine zk_iload_n dX10_callOne_137 2 rfl 138 rfl ?_
      refine zk_iadd dX10_callOne_138 139 rfl ?_
      refine zk_iald dX10_callOne_139 1 rfl 140 rfl ?_
      refine zk_imul dX10_callOne_140 141 rfl ?_
      refine zk_iadd dX10_callOne_141 142 rfl ?_
      refine zk_iast (gX10 E a ((upd v_z_3 (12 + x1).toNatClampNeg ((v_z_3 (12 + x1).toNatClampNeg) + (x2_5 * (v_z_3 (52 + x1).toNatClampNeg)))), v_snaps, v_hasSnap, v_past, v_pastHas, v_pastMany, v_before, v_spare, v_text, v_typed, v_failure, v_hasFailed, v_isQuiet, v_from, v_end, v_numbers)) dX10_callOne_142 1 rfl rfl 143 rfl ?_
      refine zk_nmw (fun v_z_6 => (gX10 E a (v_z_6, v_snaps, v_hasSnap, v_past, v_pastHas, v_pastMany, v_before, v_spare, v_text, v_typed, v_failure, v_hasFailed, v_isQuiet, v_from, v_end, v_numbers))) _ rfl (fun v_z_6 => ?_)
      refine zk_aload_n dX10_callOne_143 1 rfl 144 rfl ?_
      refine zk_get dX10_callOne_144 0 rfl rfl kX10_callOne_inX10 0 (by decide) kX10_callOne_1 rfl 147 rfl ?_
      refine zk_bipush 9 dX10_callOne_147 (by decide) 149 rfl ?_
      refine zk_dup2 dX10_callOne_149 rfl rfl 150 rfl ?_
      refine zk_iald dX10_callOne_150 1 rfl 151 rfl ?_
      refine zk_iload_n dX10_callOne_151 0 rfl 152 rfl ?_
      refine zk_iconst 1 dX10_callOne_152 (by decide) 153 rfl ?_
      refine zk_isub dX10_callOne_153 154 rfl ?_
      refine zk_iadd dX10_callOne_154 155 rfl ?_
      refine zk_iast (gX10 E a ((upd v_z_6 (9 : Int32).toNatClampNeg ((v_z_6 (9 : Int32).toNatClampNeg) + (x2_5 - 1))), v_snaps, v_hasSnap, v_past, v_pastHas, v_pastMany, v_before, v_spare, v_text, v_typed, v_failure, v_hasFailed, v_isQuiet, v_from, v_end, v_numbers)) dX10_callOne_155 1 rfl rfl 156 rfl ?_
      refine zk_nmw (fun v_z_7 => (gX10 E a (v_z_7, v_snaps, v_hasSnap, v_past, v_pastHas, v_pastMany, v_before, v_spare, v_text, v_typed, v_failure, v_hasFailed, v_isQuiet, v_from, v_end, v_numbers))) _ rfl (fun v_z_7 => ?_)
      refine zk_lv [1, 2] rfl ?_
      exact J156   v_z_7
def f_X10_callSome_53 (k9 : Int32 × Int32 × (Nat → Int32) → Option ((Nat → Int32))) (x1 : Int32) (v_z : (Nat → Int32)) : Option ((Nat → Int32)) := (f_X10_front 24 v_z).bind fun r56 => k9 (x1, r56, v_z)
def F_X10_callSome_9 (k9 : Int32 × Int32 × (Nat → Int32) → Option ((Nat → Int32))) : Int32 × Int32 × (Nat → Int32) → Option ((Nat → Int32)) := fun s => match s with
  | (x1, x2, v_z) => if x2 < 0 then some v_z else zk_ck 2 368 (if (v_z (2 : Int32).toNatClampNeg) ≤ x1 then some v_z else zk_ck (132 + x2) 368 (if (v_z (132 + x2).toNatClampNeg) = 3 then (f_X10_sweepOne x2 v_z).bind fun r39 => f_X10_callSome_53 k9 x1 r39 else (f_X10_callOne x2 v_z).bind fun r47 => f_X10_callSome_53 k9 (x1 + 1) r47))
def f_X10_callSome (v_z : (Nat → Int32)) : Option ((Nat → Int32)) := (f_X10_front 24 v_z).bind fun r5 => zk_fx (F_X10_callSome_9 ) zk_N (0, r5, v_z)
theorem kX10_callSome_inX10 : ∀ w ∈ u_ws RX10 TX10 16, w ∈ wsX10_callSome := by decide +kernel
theorem kX10_callSome_1 : Cond.fieldLink RX10 7 (TX10 0).1 (TX10 0).2.1 (TX10 0).2.2.1 ∈ wsX10_callSome := by decide +kernel
theorem cd_X10_callSome : yX10_callSome.cls = RX10 ∧ yX10_callSome.cls ≠ "java/lang/invoke/MethodHandle" ∧ yX10_callSome.cls ≠ "java/lang/invoke/VarHandle" ∧ (parseMethodDescriptor yX10_callSome.desc).map (fun d => d.parameters.length) = some 0 := by decide +kernel
set_option maxRecDepth 100000 in
set_option maxHeartbeats 4000000 in
theorem c_X10_callSome (E : zk_Env) (l : Launch) (a : aX10) (v : VX10)  : zk_Mc E l yX10_callSome wsX10_callSome ({ frames := 3, cells := 0, slots := 0, locals := 67 } : Room) [.ref a.1] (gX10 E a v) (f_X10_callSome v.1) (fun _ => none) (fun r => (gX10 E a (r, v.2))) := by
  obtain ⟨v_z, v_snaps, v_hasSnap, v_past, v_pastHas, v_pastMany, v_before, v_spare, v_text, v_typed, v_failure, v_hasFailed, v_isQuiet, v_from, v_end, v_numbers⟩ := v
  refine zk_M (cc := cX10_callSome) (nL := 3) (ret := none) (by decide) rfl (Nat.le_of_ble_eq_true rfl) (fun X Q hQ => ?_)
  have J53 : ∀ (k9 : Int32 × Int32 × (Nat → Int32) → Option ((Nat → Int32))) (hk9 : ∀ s : Int32 × Int32 × (Nat → Int32), zk_G E l X cX10_callSome 3 none yX10_callSome.cls wsX10_callSome ({ frames := 3, cells := 0, slots := 0, locals := 67 } : Room) 0 0 Q (gX10 E a (s.2.2, v_snaps, v_hasSnap, v_past, v_pastHas, v_pastMany, v_before, v_spare, v_text, v_typed, v_failure, v_hasFailed, v_isQuiet, v_from, v_end, v_numbers)) [(0, .ref a.1), (1, .int s.1), (2, .int s.2.1)] 9 [] (k9 s)) (x1 : Int32) (v_z : (Nat → Int32)), zk_G E l X cX10_callSome 3 none yX10_callSome.cls wsX10_callSome ({ frames := 3, cells := 0, slots := 0, locals := 67 } : Room) 0 0 Q (gX10 E a (v_z, v_snaps, v_hasSnap, v_past, v_pastHas, v_pastMany, v_before, v_spare, v_text, v_typed, v_failure, v_hasFailed, v_isQuiet, v_from, v_end, v_numbers)) [(0, .ref a.1), (1, .int x1)] 53 [] (f_X10_callSome_53 k9 x1 v_z) := by
    intro k9 hk9 x1 v_z
    unfold f_X10_callSome_53
    refine zk_aload_n dX10_callSome_53 0 rfl 54 rfl ?_
    refine zk_bipush 24 dX10_callSome_54 (by decide) 56 rfl ?_
    refine zk_callV (ci := 10) (st := []) (c_X10_front E l a (v_z, v_snaps, v_hasSnap, v_past, v_pastHas, v_pastMany, v_before, v_spare, v_text, v_typed, v_failure, v_hasFailed, v_isQuiet, v_from, v_end, v_numbers) 24) dX10_callSome_56 1 gX10_callSome_X10_front rfl rfl rfl cd_X10_front ⟨Nat.le_of_ble_eq_true rfl, Nat.le_of_ble_eq_true rfl⟩ ⟨Nat.zero_le _, Nat.zero_le _⟩ _ (fun r56 => (gX10 E a (v_z, v_snaps, v_hasSnap, v_past, v_pastHas, v_pastMany, v_before, v_spare, v_text, v_typed, v_failure, v_hasFailed, v_isQuiet, v_from, v_end, v_numbers))) zk_pa (fun r56 => zk_qa) rfl rfl rfl rfl (Nat.le_of_ble_eq_true rfl) (fun r56 => [.int r56]) (fun _ => rfl) 59 rfl (fun r56 => ?_)
    refine zk_istore_n [(2, .int r56), (0, .ref a.1), (1, .int x1)] dX10_callSome_59 (by decide) rfl 60 rfl ?_
    refine zk_goto dX10_callSome_60 9 (by decide) ?_
    refine zk_lv [1, 2, 0] rfl ?_
    exact hk9 (x1, r56, v_z)
  have J9 : ∀ (n : Nat) (x1 : Int32) (x2 : Int32) (v_z : (Nat → Int32)), zk_G E l X cX10_callSome 3 none yX10_callSome.cls wsX10_callSome ({ frames := 3, cells := 0, slots := 0, locals := 67 } : Room) 0 0 Q (gX10 E a (v_z, v_snaps, v_hasSnap, v_past, v_pastHas, v_pastMany, v_before, v_spare, v_text, v_typed, v_failure, v_hasFailed, v_isQuiet, v_from, v_end, v_numbers)) [(0, .ref a.1), (1, .int x1), (2, .int x2)] 9 [] (zk_fx (F_X10_callSome_9 ) n (x1, x2, v_z)) := by
    intro n x1 x2 v_z
    refine zk_loop (S := Int32 × Int32 × (Nat → Int32)) (F := F_X10_callSome_9) (wS := fun s => (gX10 E a (s.2.2, v_snaps, v_hasSnap, v_past, v_pastHas, v_pastMany, v_before, v_spare, v_text, v_typed, v_failure, v_hasFailed, v_isQuiet, v_from, v_end, v_numbers))) (lS := fun s => [(0, .ref a.1), (1, .int s.1), (2, .int s.2.1)]) (sS := fun _ => []) (fun k9 hk9 s => ?_) n (x1, x2, v_z)
    obtain ⟨x1, x2, v_z⟩ := s
    unfold F_X10_callSome_9
    try dsimp only
    refine zk_iload_n dX10_callSome_9 2 rfl 10 rfl ?_
    refine zk_if_lt dX10_callSome_10 63 (by decide) 13 rfl (fun _ => ?_) (fun _ => ?_)
    · exact zk_vret hQ dX10_callSome_63 rfl rfl
    · refine zk_iload_n dX10_callSome_13 1 rfl 14 rfl ?_
      refine zk_aload_n dX10_callSome_14 0 rfl 15 rfl ?_
      refine zk_get dX10_callSome_15 0 rfl rfl kX10_callSome_inX10 0 (by decide) kX10_callSome_1 rfl 18 rfl ?_
      refine zk_iconst 2 dX10_callSome_18 (by decide) 19 rfl ?_
      refine zk_iald dX10_callSome_19 1 rfl 20 rfl ?_
      refine zk_icmp_ge dX10_callSome_20 63 (by decide) 23 rfl (fun _ => ?_) (fun _ => ?_)
      · exact zk_vret hQ dX10_callSome_63 rfl rfl
      · refine zk_aload_n dX10_callSome_23 0 rfl 24 rfl ?_
        refine zk_get dX10_callSome_24 0 rfl rfl kX10_callSome_inX10 0 (by decide) kX10_callSome_1 rfl 27 rfl ?_
        refine zk_sipush 132 dX10_callSome_27 (by decide) 30 rfl ?_
        refine zk_iload_n dX10_callSome_30 2 rfl 31 rfl ?_
        refine zk_iadd dX10_callSome_31 32 rfl ?_
        refine zk_iald dX10_callSome_32 1 rfl 33 rfl ?_
        refine zk_iconst 3 dX10_callSome_33 (by decide) 34 rfl ?_
        refine zk_icmp_ne dX10_callSome_34 45 (by decide) 37 rfl (fun _ => ?_) (fun _ => ?_)
        · refine zk_aload_n dX10_callSome_37 0 rfl 38 rfl ?_
          refine zk_iload_n dX10_callSome_38 2 rfl 39 rfl ?_
          refine zk_callV (ci := 10) (st := []) (c_X10_sweepOne E l a (v_z, v_snaps, v_hasSnap, v_past, v_pastHas, v_pastMany, v_before, v_spare, v_text, v_typed, v_failure, v_hasFailed, v_isQuiet, v_from, v_end, v_numbers) x2) dX10_callSome_39 1 gX10_callSome_X10_sweepOne rfl rfl rfl cd_X10_sweepOne ⟨Nat.le_of_ble_eq_true rfl, Nat.le_of_ble_eq_true rfl⟩ ⟨Nat.zero_le _, Nat.zero_le _⟩ _ (fun r39 => (gX10 E a (r39, v_snaps, v_hasSnap, v_past, v_pastHas, v_pastMany, v_before, v_spare, v_text, v_typed, v_failure, v_hasFailed, v_isQuiet, v_from, v_end, v_numbers))) zk_pa (fun r39 => zk_qa) rfl rfl rfl rfl (Nat.le_of_ble_eq_true rfl) (fun r39 => []) (fun _ => rfl) 42 rfl (fun r39 => ?_)
          refine zk_goto dX10_callSome_42 53 (by decide) ?_
          refine zk_lv [0, 1] rfl ?_
          exact J53  k9 hk9 x1 r39
        · refine zk_aload_n dX10_callSome_45 0 rfl 46 rfl ?_
          refine zk_iload_n dX10_callSome_46 2 rfl 47 rfl ?_
          refine zk_callV (ci := 10) (st := []) (c_X10_callOne E l a (v_z, v_snaps, v_hasSnap, v_past, v_pastHas, v_pastMany, v_before, v_spare, v_text, v_typed, v_failure, v_hasFailed, v_isQuiet, v_from, v_end, v_numbers) x2) dX10_callSome_47 1 gX10_callSome_X10_callOne rfl rfl rfl cd_X10_callOne ⟨Nat.le_of_ble_eq_true rfl, Nat.le_of_ble_eq_true rfl⟩ ⟨Nat.zero_le _, Nat.zero_le _⟩ _ (fun r47 => (gX10 E a (r47, v_snaps, v_hasSnap, v_past, v_pastHas, v_pastMany, v_before, v_spare, v_text, v_typed, v_failure, v_hasFailed, v_isQuiet, v_from, v_end, v_numbers))) zk_pa (fun r47 => zk_qa) rfl rfl rfl rfl (Nat.le_of_ble_eq_true rfl) (fun r47 => []) (fun _ => rfl) 50 rfl (fun r47 => ?_)
          refine zk_iinc (x1 + 1) [(1, .int (x1 + 1)), (0, .ref a.1), (2, .int x2)] dX10_callSome_50 1 rfl rfl (by decide) rfl 53 rfl ?_
          refine zk_lv [1, 0] rfl ?_
          exact J53  k9 hk9 (x1 + 1) r47
  refine zk_eqv (w1 := (gX10 E a (v_z, v_snaps, v_hasSnap, v_past, v_pastHas, v_pastMany, v_before, v_spare, v_text, v_typed, v_failure, v_hasFailed, v_isQuiet, v_from, v_end, v_numbers))) (lv1 := [(0, .ref a.1)]) (st1 := []) (o1 := f_X10_callSome v_z) rfl rfl rfl rfl ?_
  unfold f_X10_callSome
  refine zk_iconst 0 dX10_callSome_0 (by decide) 1 rfl ?_
  refine zk_istore_n [(1, .int 0), (0, .ref a.1)] dX10_callSome_1 (by decide) rfl 2 rfl ?_
  refine zk_aload_n dX10_callSome_2 1 rfl 3 rfl ?_
  refine zk_bipush 24 dX10_callSome_3 (by decide) 5 rfl ?_
  refine zk_callV (ci := 10) (st := []) (c_X10_front E l a (v_z, v_snaps, v_hasSnap, v_past, v_pastHas, v_pastMany, v_before, v_spare, v_text, v_typed, v_failure, v_hasFailed, v_isQuiet, v_from, v_end, v_numbers) 24) dX10_callSome_5 1 gX10_callSome_X10_front rfl rfl rfl cd_X10_front ⟨Nat.le_of_ble_eq_true rfl, Nat.le_of_ble_eq_true rfl⟩ ⟨Nat.zero_le _, Nat.zero_le _⟩ _ (fun r5 => (gX10 E a (v_z, v_snaps, v_hasSnap, v_past, v_pastHas, v_pastMany, v_before, v_spare, v_text, v_typed, v_failure, v_hasFailed, v_isQuiet, v_from, v_end, v_numbers))) zk_pa (fun r5 => zk_qa) rfl rfl rfl rfl (Nat.le_of_ble_eq_true rfl) (fun r5 => [.int r5]) (fun _ => rfl) 8 rfl (fun r5 => ?_)
  refine zk_istore_n [(2, .int r5), (1, .int 0), (0, .ref a.1)] dX10_callSome_8 (by decide) rfl 9 rfl ?_
  refine zk_lv [2, 1, 0] rfl ?_
  exact J9    zk_N 0 r5 v_z
def f_X10_tick_143 (s143_1 : Int32) (s143_2 : Int32) (v_z : (Nat → Int32)) : Option ((Nat → Int32)) := zk_ck s143_1 368 (zk_let (upd v_z s143_1.toNatClampNeg s143_2) fun v_z_2 => some v_z_2)
def f_X10_tick_108 (v_z : (Nat → Int32)) : Option ((Nat → Int32)) := (f_X10_manyAt 24 v_z).bind fun r111 => zk_ck 10 368 (if r111 ≤ (v_z (10 : Int32).toNatClampNeg) then zk_ck 10 368 (f_X10_tick_143 10 (v_z (10 : Int32).toNatClampNeg) v_z) else f_X10_tick_143 10 r111 v_z)
def f_X10_tick_72 (v_z : (Nat → Int32)) : Option ((Nat → Int32)) := zk_ck 0 368 ((f_X10_getReady (zk_rem (v_z (0 : Int32).toNatClampNeg) 8) v_z).bind fun r82 => (f_X10_callSome r82).bind fun r86 => (f_X10_inState 3 r86).bind fun r91 => zk_ck 3 368 (if r91 ≤ (r86 (3 : Int32).toNatClampNeg) then f_X10_tick_108 r86 else (f_X10_sweepAll r86).bind fun r104 => f_X10_tick_108 r104.2))
def f_X10_tick_41 (v_z : (Nat → Int32)) : Option ((Nat → Int32)) := zk_ck 0 368 (if (zk_rem (v_z (0 : Int32).toNatClampNeg) 8) = 0 then zk_ck 0 368 ((f_X10_fall (8 + (zk_rem ((v_z (0 : Int32).toNatClampNeg) / 8) 8)) v_z).bind fun r69 => f_X10_tick_72 r69) else f_X10_tick_72 v_z)
def f_X10_tick (v_z : (Nat → Int32)) : Option ((Nat → Int32)) := zk_ck 0 368 (zk_ck 0 368 (zk_let (upd v_z (0 : Int32).toNatClampNeg ((v_z (0 : Int32).toNatClampNeg) + 1)) fun v_z_1 => zk_ck 0 368 (if (zk_rem (v_z_1 (0 : Int32).toNatClampNeg) 64) = 0 then zk_ck 0 368 ((f_X10_fall (16 + (zk_rem ((v_z_1 (0 : Int32).toNatClampNeg) / 64) 8)) v_z_1).bind fun r38 => f_X10_tick_41 r38) else f_X10_tick_41 v_z_1)))
theorem kX10_tick_inX10 : ∀ w ∈ u_ws RX10 TX10 16, w ∈ wsX10_tick := by decide +kernel
theorem kX10_tick_1 : Cond.fieldLink RX10 7 (TX10 0).1 (TX10 0).2.1 (TX10 0).2.2.1 ∈ wsX10_tick := by decide +kernel
theorem cd_X10_tick : yX10_tick.cls = RX10 ∧ yX10_tick.cls ≠ "java/lang/invoke/MethodHandle" ∧ yX10_tick.cls ≠ "java/lang/invoke/VarHandle" ∧ (parseMethodDescriptor yX10_tick.desc).map (fun d => d.parameters.length) = some 0 := by decide +kernel
set_option maxRecDepth 100000 in
set_option maxHeartbeats 4000000 in
theorem c_X10_tick (E : zk_Env) (l : Launch) (a : aX10) (v : VX10)  : zk_Mc E l yX10_tick wsX10_tick ({ frames := 4, cells := 0, slots := 0, locals := 89 } : Room) [.ref a.1] (gX10 E a v) (f_X10_tick v.1) (fun _ => none) (fun r => (gX10 E a (r, v.2))) := by
  obtain ⟨v_z, v_snaps, v_hasSnap, v_past, v_pastHas, v_pastMany, v_before, v_spare, v_text, v_typed, v_failure, v_hasFailed, v_isQuiet, v_from, v_end, v_numbers⟩ := v
  refine zk_M (cc := cX10_tick) (nL := 2) (ret := none) (by decide) rfl (Nat.le_of_ble_eq_true rfl) (fun X Q hQ => ?_)
  have J143 : ∀ (s143_1 : Int32) (s143_2 : Int32) (v_z : (Nat → Int32)), zk_G E l X cX10_tick 2 none yX10_tick.cls wsX10_tick ({ frames := 4, cells := 0, slots := 0, locals := 89 } : Room) 0 0 Q (gX10 E a (v_z, v_snaps, v_hasSnap, v_past, v_pastHas, v_pastMany, v_before, v_spare, v_text, v_typed, v_failure, v_hasFailed, v_isQuiet, v_from, v_end, v_numbers)) [] 143 [.int s143_2, .int s143_1, .ref a.2.1] (f_X10_tick_143 s143_1 s143_2 v_z) := by
    intro s143_1 s143_2 v_z
    unfold f_X10_tick_143
    refine zk_iast (gX10 E a ((upd v_z s143_1.toNatClampNeg s143_2), v_snaps, v_hasSnap, v_past, v_pastHas, v_pastMany, v_before, v_spare, v_text, v_typed, v_failure, v_hasFailed, v_isQuiet, v_from, v_end, v_numbers)) dX10_tick_143 1 rfl rfl 144 rfl ?_
    refine zk_nmw (fun v_z_2 => (gX10 E a (v_z_2, v_snaps, v_hasSnap, v_past, v_pastHas, v_pastMany, v_before, v_spare, v_text, v_typed, v_failure, v_hasFailed, v_isQuiet, v_from, v_end, v_numbers))) _ rfl (fun v_z_2 => ?_)
    exact zk_vret hQ dX10_tick_144 rfl rfl
  have J108 : ∀ (v_z : (Nat → Int32)), zk_G E l X cX10_tick 2 none yX10_tick.cls wsX10_tick ({ frames := 4, cells := 0, slots := 0, locals := 89 } : Room) 0 0 Q (gX10 E a (v_z, v_snaps, v_hasSnap, v_past, v_pastHas, v_pastMany, v_before, v_spare, v_text, v_typed, v_failure, v_hasFailed, v_isQuiet, v_from, v_end, v_numbers)) [(0, .ref a.1)] 108 [] (f_X10_tick_108 v_z) := by
    intro v_z
    unfold f_X10_tick_108
    refine zk_aload_n dX10_tick_108 0 rfl 109 rfl ?_
    refine zk_bipush 24 dX10_tick_109 (by decide) 111 rfl ?_
    refine zk_callV (ci := 10) (st := []) (c_X10_manyAt E l a (v_z, v_snaps, v_hasSnap, v_past, v_pastHas, v_pastMany, v_before, v_spare, v_text, v_typed, v_failure, v_hasFailed, v_isQuiet, v_from, v_end, v_numbers) 24) dX10_tick_111 1 gX10_tick_X10_manyAt rfl rfl rfl cd_X10_manyAt ⟨Nat.le_of_ble_eq_true rfl, Nat.le_of_ble_eq_true rfl⟩ ⟨Nat.zero_le _, Nat.zero_le _⟩ _ (fun r111 => (gX10 E a (v_z, v_snaps, v_hasSnap, v_past, v_pastHas, v_pastMany, v_before, v_spare, v_text, v_typed, v_failure, v_hasFailed, v_isQuiet, v_from, v_end, v_numbers))) zk_pa (fun r111 => zk_qa) rfl rfl rfl rfl (Nat.le_of_ble_eq_true rfl) (fun r111 => [.int r111]) (fun _ => rfl) 114 rfl (fun r111 => ?_)
    refine zk_istore_n [(1, .int r111), (0, .ref a.1)] dX10_tick_114 (by decide) rfl 115 rfl ?_
    refine zk_aload_n dX10_tick_115 1 rfl 116 rfl ?_
    refine zk_get dX10_tick_116 0 rfl rfl kX10_tick_inX10 0 (by decide) kX10_tick_1 rfl 119 rfl ?_
    refine zk_bipush 10 dX10_tick_119 (by decide) 121 rfl ?_
    refine zk_iload_n dX10_tick_121 0 rfl 122 rfl ?_
    refine zk_aload_n dX10_tick_122 1 rfl 123 rfl ?_
    refine zk_get dX10_tick_123 0 rfl rfl kX10_tick_inX10 0 (by decide) kX10_tick_1 rfl 126 rfl ?_
    refine zk_bipush 10 dX10_tick_126 (by decide) 128 rfl ?_
    refine zk_iald dX10_tick_128 1 rfl 129 rfl ?_
    refine zk_icmp_le dX10_tick_129 136 (by decide) 132 rfl (fun _ => ?_) (fun _ => ?_)
    · refine zk_aload_n dX10_tick_136 1 rfl 137 rfl ?_
      refine zk_get dX10_tick_137 0 rfl rfl kX10_tick_inX10 0 (by decide) kX10_tick_1 rfl 140 rfl ?_
      refine zk_bipush 10 dX10_tick_140 (by decide) 142 rfl ?_
      refine zk_iald dX10_tick_142 1 rfl 143 rfl ?_
      refine zk_lv [] rfl ?_
      exact J143   10 (v_z (10 : Int32).toNatClampNeg) v_z
    · refine zk_iload_n dX10_tick_132 0 rfl 133 rfl ?_
      refine zk_goto dX10_tick_133 143 (by decide) ?_
      refine zk_lv [] rfl ?_
      exact J143   10 r111 v_z
  have J72 : ∀ (v_z : (Nat → Int32)), zk_G E l X cX10_tick 2 none yX10_tick.cls wsX10_tick ({ frames := 4, cells := 0, slots := 0, locals := 89 } : Room) 0 0 Q (gX10 E a (v_z, v_snaps, v_hasSnap, v_past, v_pastHas, v_pastMany, v_before, v_spare, v_text, v_typed, v_failure, v_hasFailed, v_isQuiet, v_from, v_end, v_numbers)) [(0, .ref a.1)] 72 [] (f_X10_tick_72 v_z) := by
    intro v_z
    unfold f_X10_tick_72
    refine zk_aload_n dX10_tick_72 0 rfl 73 rfl ?_
    refine zk_aload_n dX10_tick_73 0 rfl 74 rfl ?_
    refine zk_get dX10_tick_74 0 rfl rfl kX10_tick_inX10 0 (by decide) kX10_tick_1 rfl 77 rfl ?_
    refine zk_iconst 0 dX10_tick_77 (by decide) 78 rfl ?_
    refine zk_iald dX10_tick_78 1 rfl 79 rfl ?_
    refine zk_bipush 8 dX10_tick_79 (by decide) 81 rfl ?_
    refine zk_iremL dX10_tick_81 (by decide) 82 rfl ?_
    refine zk_callV (ci := 10) (st := []) (c_X10_getReady E l a (v_z, v_snaps, v_hasSnap, v_past, v_pastHas, v_pastMany, v_before, v_spare, v_text, v_typed, v_failure, v_hasFailed, v_isQuiet, v_from, v_end, v_numbers) (zk_rem (v_z (0 : Int32).toNatClampNeg) 8)) dX10_tick_82 1 gX10_tick_X10_getReady rfl rfl rfl cd_X10_getReady ⟨Nat.le_of_ble_eq_true rfl, Nat.le_of_ble_eq_true rfl⟩ ⟨Nat.zero_le _, Nat.zero_le _⟩ _ (fun r82 => (gX10 E a (r82, v_snaps, v_hasSnap, v_past, v_pastHas, v_pastMany, v_before, v_spare, v_text, v_typed, v_failure, v_hasFailed, v_isQuiet, v_from, v_end, v_numbers))) zk_pa (fun r82 => zk_qa) rfl rfl rfl rfl (Nat.le_of_ble_eq_true rfl) (fun r82 => []) (fun _ => rfl) 85 rfl (fun r82 => ?_)
    refine zk_aload_n dX10_tick_85 0 rfl 86 rfl ?_
    refine zk_callV (ci := 10) (st := []) (c_X10_callSome E l a (r82, v_snaps, v_hasSnap, v_past, v_pastHas, v_pastMany, v_before, v_spare, v_text, v_typed, v_failure, v_hasFailed, v_isQuiet, v_from, v_end, v_numbers)) dX10_tick_86 0 gX10_tick_X10_callSome rfl rfl rfl cd_X10_callSome ⟨Nat.le_of_ble_eq_true rfl, Nat.le_of_ble_eq_true rfl⟩ ⟨Nat.zero_le _, Nat.zero_le _⟩ _ (fun r86 => (gX10 E a (r86, v_snaps, v_hasSnap, v_past, v_pastHas, v_pastMany, v_before, v_spare, v_text, v_typed, v_failure, v_hasFailed, v_isQuiet, v_from, v_end, v_numbers))) zk_pa (fun r86 => zk_qa) rfl rfl rfl rfl (Nat.le_of_ble_eq_true rfl) (fun r86 => []) (fun _ => rfl) 89 rfl (fun r86 => ?_)
    refine zk_aload_n dX10_tick_89 0 rfl 90 rfl ?_
    refine zk_iconst 3 dX10_tick_90 (by decide) 91 rfl ?_
    refine zk_callV (ci := 10) (st := []) (c_X10_inState E l a (r86, v_snaps, v_hasSnap, v_past, v_pastHas, v_pastMany, v_before, v_spare, v_text, v_typed, v_failure, v_hasFailed, v_isQuiet, v_from, v_end, v_numbers) 3) dX10_tick_91 1 gX10_tick_X10_inState rfl rfl rfl cd_X10_inState ⟨Nat.le_of_ble_eq_true rfl, Nat.le_of_ble_eq_true rfl⟩ ⟨Nat.zero_le _, Nat.zero_le _⟩ _ (fun r91 => (gX10 E a (r86, v_snaps, v_hasSnap, v_past, v_pastHas, v_pastMany, v_before, v_spare, v_text, v_typed, v_failure, v_hasFailed, v_isQuiet, v_from, v_end, v_numbers))) zk_pa (fun r91 => zk_qa) rfl rfl rfl rfl (Nat.le_of_ble_eq_true rfl) (fun r91 => [.int r91]) (fun _ => rfl) 94 rfl (fun r91 => ?_)
    refine zk_aload_n dX10_tick_94 0 rfl 95 rfl ?_
    refine zk_get dX10_tick_95 0 rfl rfl kX10_tick_inX10 0 (by decide) kX10_tick_1 rfl 98 rfl ?_
    refine zk_iconst 3 dX10_tick_98 (by decide) 99 rfl ?_
    refine zk_iald dX10_tick_99 1 rfl 100 rfl ?_
    refine zk_icmp_le dX10_tick_100 108 (by decide) 103 rfl (fun _ => ?_) (fun _ => ?_)
    · exact J108   r86
    · refine zk_aload_n dX10_tick_103 0 rfl 104 rfl ?_
      refine zk_callV (ci := 10) (st := []) (c_X10_sweepAll E l a (r86, v_snaps, v_hasSnap, v_past, v_pastHas, v_pastMany, v_before, v_spare, v_text, v_typed, v_failure, v_hasFailed, v_isQuiet, v_from, v_end, v_numbers)) dX10_tick_104 0 gX10_tick_X10_sweepAll rfl rfl rfl cd_X10_sweepAll ⟨Nat.le_of_ble_eq_true rfl, Nat.le_of_ble_eq_true rfl⟩ ⟨Nat.zero_le _, Nat.zero_le _⟩ _ (fun r104 => (gX10 E a (r104.2, v_snaps, v_hasSnap, v_past, v_pastHas, v_pastMany, v_before, v_spare, v_text, v_typed, v_failure, v_hasFailed, v_isQuiet, v_from, v_end, v_numbers))) zk_pa (fun r104 => zk_qa) rfl rfl rfl rfl (Nat.le_of_ble_eq_true rfl) (fun r104 => [.int r104.1]) (fun _ => rfl) 107 rfl (fun r104 => ?_)
      refine zk_pop dX10_tick_107 rfl 108 rfl ?_
      exact J108   r104.2
  have J41 : ∀ (v_z : (Nat → Int32)), zk_G E l X cX10_tick 2 none yX10_tick.cls wsX10_tick ({ frames := 4, cells := 0, slots := 0, locals := 89 } : Room) 0 0 Q (gX10 E a (v_z, v_snaps, v_hasSnap, v_past, v_pastHas, v_pastMany, v_before, v_spare, v_text, v_typed, v_failure, v_hasFailed, v_isQuiet, v_from, v_end, v_numbers)) [(0, .ref a.1)] 41 [] (f_X10_tick_41 v_z) := by
    intro v_z
    unfold f_X10_tick_41
    refine zk_aload_n dX10_tick_41 0 rfl 42 rfl ?_
    refine zk_get dX10_tick_42 0 rfl rfl kX10_tick_inX10 0 (by decide) kX10_tick_1 rfl 45 rfl ?_
    refine zk_iconst 0 dX10_tick_45 (by decide) 46 rfl ?_
    refine zk_iald dX10_tick_46 1 rfl 47 rfl ?_
    refine zk_bipush 8 dX10_tick_47 (by decide) 49 rfl ?_
    refine zk_iremL dX10_tick_49 (by decide) 50 rfl ?_
    refine zk_if_ne dX10_tick_50 72 (by decide) 53 rfl (fun _ => ?_) (fun _ => ?_)
    · refine zk_aload_n dX10_tick_53 0 rfl 54 rfl ?_
      refine zk_bipush 8 dX10_tick_54 (by decide) 56 rfl ?_
      refine zk_aload_n dX10_tick_56 0 rfl 57 rfl ?_
      refine zk_get dX10_tick_57 0 rfl rfl kX10_tick_inX10 0 (by decide) kX10_tick_1 rfl 60 rfl ?_
      refine zk_iconst 0 dX10_tick_60 (by decide) 61 rfl ?_
      refine zk_iald dX10_tick_61 1 rfl 62 rfl ?_
      refine zk_bipush 8 dX10_tick_62 (by decide) 64 rfl ?_
      refine zk_idivL dX10_tick_64 (by decide) 65 rfl ?_
      refine zk_bipush 8 dX10_tick_65 (by decide) 67 rfl ?_
      refine zk_iremL dX10_tick_67 (by decide) 68 rfl ?_
      refine zk_iadd dX10_tick_68 69 rfl ?_
      refine zk_callV (ci := 10) (st := []) (c_X10_fall E l a (v_z, v_snaps, v_hasSnap, v_past, v_pastHas, v_pastMany, v_before, v_spare, v_text, v_typed, v_failure, v_hasFailed, v_isQuiet, v_from, v_end, v_numbers) (8 + (zk_rem ((v_z (0 : Int32).toNatClampNeg) / 8) 8))) dX10_tick_69 1 gX10_tick_X10_fall rfl rfl rfl cd_X10_fall ⟨Nat.le_of_ble_eq_true rfl, Nat.le_of_ble_eq_true rfl⟩ ⟨Nat.zero_le _, Nat.zero_le _⟩ _ (fun r69 => (gX10 E a (r69, v_snaps, v_hasSnap, v_past, v_pastHas, v_pastMany, v_before, v_spare, v_text, v_typed, v_failure, v_hasFailed, v_isQuiet, v_from, v_end, v_numbers))) zk_pa (fun r69 => zk_qa) rfl rfl rfl rfl (Nat.le_of_ble_eq_true rfl) (fun r69 => []) (fun _ => rfl) 72 rfl (fun r69 => ?_)
      exact J72   r69
    · exact J72   v_z
  refine zk_eqv (w1 := (gX10 E a (v_z, v_snaps, v_hasSnap, v_past, v_pastHas, v_pastMany, v_before, v_spare, v_text, v_typed, v_failure, v_hasFailed, v_isQuiet, v_from, v_end, v_numbers))) (lv1 := [(0, .ref a.1)]) (st1 := []) (o1 := f_X10_tick v_z) rfl rfl rfl rfl ?_
  unfold f_X10_tick
  refine zk_aload_n dX10_tick_0 0 rfl 1 rfl ?_
  refine zk_get dX10_tick_1 0 rfl rfl kX10_tick_inX10 0 (by decide) kX10_tick_1 rfl 4 rfl ?_
  refine zk_iconst 0 dX10_tick_4 (by decide) 5 rfl ?_
  refine zk_dup2 dX10_tick_5 rfl rfl 6 rfl ?_
  refine zk_iald dX10_tick_6 1 rfl 7 rfl ?_
  refine zk_iconst 1 dX10_tick_7 (by decide) 8 rfl ?_
  refine zk_iadd dX10_tick_8 9 rfl ?_
  refine zk_iast (gX10 E a ((upd v_z (0 : Int32).toNatClampNeg ((v_z (0 : Int32).toNatClampNeg) + 1)), v_snaps, v_hasSnap, v_past, v_pastHas, v_pastMany, v_before, v_spare, v_text, v_typed, v_failure, v_hasFailed, v_isQuiet, v_from, v_end, v_numbers)) dX10_tick_9 1 rfl rfl 10 rfl ?_
  refine zk_nmw (fun v_z_1 => (gX10 E a (v_z_1, v_snaps, v_hasSnap, v_past, v_pastHas, v_pastMany, v_before, v_spare, v_text, v_typed, v_failure, v_hasFailed, v_isQuiet, v_from, v_end, v_numbers))) _ rfl (fun v_z_1 => ?_)
  refine zk_aload_n dX10_tick_10 0 rfl 11 rfl ?_
  refine zk_get dX10_tick_11 0 rfl rfl kX10_tick_inX10 0 (by decide) kX10_tick_1 rfl 14 rfl ?_
  refine zk_iconst 0 dX10_tick_14 (by decide) 15 rfl ?_
  refine zk_iald dX10_tick_15 1 rfl 16 rfl ?_
  refine zk_bipush 64 dX10_tick_16 (by decide) 18 rfl ?_
  refine zk_iremL dX10_tick_18 (by decide) 19 rfl ?_
  refine zk_if_ne dX10_tick_19 41 (by decide) 22 rfl (fun _ => ?_) (fun _ => ?_)
  · refine zk_aload_n dX10_tick_22 0 rfl 23 rfl ?_
    refine zk_bipush 16 dX10_tick_23 (by decide) 25 rfl ?_
    refine zk_aload_n dX10_tick_25 0 rfl 26 rfl ?_
    refine zk_get dX10_tick_26 0 rfl rfl kX10_tick_inX10 0 (by decide) kX10_tick_1 rfl 29 rfl ?_
    refine zk_iconst 0 dX10_tick_29 (by decide) 30 rfl ?_
    refine zk_iald dX10_tick_30 1 rfl 31 rfl ?_
    refine zk_bipush 64 dX10_tick_31 (by decide) 33 rfl ?_
    refine zk_idivL dX10_tick_33 (by decide) 34 rfl ?_
    refine zk_bipush 8 dX10_tick_34 (by decide) 36 rfl ?_
    refine zk_iremL dX10_tick_36 (by decide) 37 rfl ?_
    refine zk_iadd dX10_tick_37 38 rfl ?_
    refine zk_callV (ci := 10) (st := []) (c_X10_fall E l a (v_z_1, v_snaps, v_hasSnap, v_past, v_pastHas, v_pastMany, v_before, v_spare, v_text, v_typed, v_failure, v_hasFailed, v_isQuiet, v_from, v_end, v_numbers) (16 + (zk_rem ((v_z_1 (0 : Int32).toNatClampNeg) / 64) 8))) dX10_tick_38 1 gX10_tick_X10_fall rfl rfl rfl cd_X10_fall ⟨Nat.le_of_ble_eq_true rfl, Nat.le_of_ble_eq_true rfl⟩ ⟨Nat.zero_le _, Nat.zero_le _⟩ _ (fun r38 => (gX10 E a (r38, v_snaps, v_hasSnap, v_past, v_pastHas, v_pastMany, v_before, v_spare, v_text, v_typed, v_failure, v_hasFailed, v_isQuiet, v_from, v_end, v_numbers))) zk_pa (fun r38 => zk_qa) rfl rfl rfl rfl (Nat.le_of_ble_eq_true rfl) (fun r38 => []) (fun _ => rfl) 41 rfl (fun r38 => ?_)
    exact J41   r38
  · exact J41   v_z_1
def f_X10_give_55 (x1 : Int32) (x2 : Int32) (x3 : Int32) (v_snaps : (Nat → Int32)) (v_hasSnap : (Nat → Int32)) (v_before : (Nat → Int32)) (v_isQuiet : Int32) (v_z : (Nat → Int32)) (v_past : (Nat → Int32)) (v_pastHas : (Nat → Int32)) (v_pastMany : Int32) : Option (Int32 × (Nat → Int32) × (Nat → Int32) × (Nat → Int32) × Int32) := zk_ck 1 368 (if (v_z (1 : Int32).toNatClampNeg) = 40 then some ((-3), v_z, v_past, v_pastHas, v_pastMany) else (f_X10_record v_z v_snaps v_hasSnap v_past v_pastHas v_pastMany v_before v_isQuiet).bind fun r70 => zk_ck 1 368 (zk_let (v_z (1 : Int32).toNatClampNeg) fun x5_1 => zk_ck 1 368 (zk_ck 1 368 (zk_let (upd v_z (1 : Int32).toNatClampNeg ((v_z (1 : Int32).toNatClampNeg) + 1)) fun v_z_2 => zk_ck 0 368 (zk_ck (12 + x5_1) 368 (zk_let (upd v_z_2 (12 + x5_1).toNatClampNeg ((v_z_2 (0 : Int32).toNatClampNeg) + x1)) fun v_z_3 => zk_ck (52 + x5_1) 368 (zk_let (upd v_z_3 (52 + x5_1).toNatClampNeg x2) fun v_z_4 => zk_ck (92 + x5_1) 368 (zk_let (upd v_z_4 (92 + x5_1).toNatClampNeg x3) fun v_z_5 => zk_ck (132 + x5_1) 368 (zk_let (upd v_z_5 (132 + x5_1).toNatClampNeg 0) fun v_z_6 => (f_X10_standByDistance x5_1 v_z_6).bind fun r146 => some (x5_1, r146, r70.1, r70.2.1, r70.2.2))))))))))
def f_X10_give_38 (x1 : Int32) (x2 : Int32) (x3 : Int32) (v_snaps : (Nat → Int32)) (v_hasSnap : (Nat → Int32)) (v_before : (Nat → Int32)) (v_isQuiet : Int32) (s38_0 : Int32) (v_z : (Nat → Int32)) (v_past : (Nat → Int32)) (v_pastHas : (Nat → Int32)) (v_pastMany : Int32) : Option (Int32 × (Nat → Int32) × (Nat → Int32) × (Nat → Int32) × Int32) := if s38_0 = 0 then some ((-1), v_z, v_past, v_pastHas, v_pastMany) else if x2 = 0 then if x3 ≤ 0 then f_X10_give_55 x1 x2 x3 v_snaps v_hasSnap v_before v_isQuiet v_z v_past v_pastHas v_pastMany else some ((-1), v_z, v_past, v_pastHas, v_pastMany) else f_X10_give_55 x1 x2 x3 v_snaps v_hasSnap v_before v_isQuiet v_z v_past v_pastHas v_pastMany
def f_X10_give_37 (x1 : Int32) (x2 : Int32) (x3 : Int32) (v_snaps : (Nat → Int32)) (v_hasSnap : (Nat → Int32)) (v_before : (Nat → Int32)) (v_isQuiet : Int32) (v_z : (Nat → Int32)) (v_past : (Nat → Int32)) (v_pastHas : (Nat → Int32)) (v_pastMany : Int32) : Option (Int32 × (Nat → Int32) × (Nat → Int32) × (Nat → Int32) × Int32) := f_X10_give_38 x1 x2 x3 v_snaps v_hasSnap v_before v_isQuiet 0 v_z v_past v_pastHas v_pastMany
def f_X10_give (x1 : Int32) (x2 : Int32) (x3 : Int32) (v_z : (Nat → Int32)) (v_snaps : (Nat → Int32)) (v_hasSnap : (Nat → Int32)) (v_past : (Nat → Int32)) (v_pastHas : (Nat → Int32)) (v_pastMany : Int32) (v_before : (Nat → Int32)) (v_isQuiet : Int32) : Option (Int32 × (Nat → Int32) × (Nat → Int32) × (Nat → Int32) × Int32) := if x1 < 1 then f_X10_give_37 x1 x2 x3 v_snaps v_hasSnap v_before v_isQuiet v_z v_past v_pastHas v_pastMany else if 511 < x1 then f_X10_give_37 x1 x2 x3 v_snaps v_hasSnap v_before v_isQuiet v_z v_past v_pastHas v_pastMany else if x2 < 0 then f_X10_give_37 x1 x2 x3 v_snaps v_hasSnap v_before v_isQuiet v_z v_past v_pastHas v_pastMany else if 511 < x2 then f_X10_give_37 x1 x2 x3 v_snaps v_hasSnap v_before v_isQuiet v_z v_past v_pastHas v_pastMany else if x3 < 0 then f_X10_give_37 x1 x2 x3 v_snaps v_hasSnap v_before v_isQuiet v_z v_past v_pastHas v_pastMany else if 99 < x3 then f_X10_give_37 x1 x2 x3 v_snaps v_hasSnap v_before v_isQuiet v_z v_past v_pastHas v_pastMany else f_X10_give_38 x1 x2 x3 v_snaps v_hasSnap v_before v_isQuiet 1 v_z v_past v_pastHas v_pastMany
theorem kX10_give_inX10 : ∀ w ∈ u_ws RX10 TX10 16, w ∈ wsX10_give := by decide +kernel
theorem kX10_give_1 : Cond.fieldLink RX10 7 (TX10 0).1 (TX10 0).2.1 (TX10 0).2.2.1 ∈ wsX10_give := by decide +kernel
theorem cd_X10_give : yX10_give.cls = RX10 ∧ yX10_give.cls ≠ "java/lang/invoke/MethodHandle" ∧ yX10_give.cls ≠ "java/lang/invoke/VarHandle" ∧ (parseMethodDescriptor yX10_give.desc).map (fun d => d.parameters.length) = some 3 := by decide +kernel
set_option maxRecDepth 100000 in
set_option maxHeartbeats 4000000 in
theorem c_X10_give (E : zk_Env) (l : Launch) (a : aX10) (v : VX10) (x1 : Int32) (x2 : Int32) (x3 : Int32) : zk_Mc E l yX10_give wsX10_give ({ frames := 2, cells := 0, slots := 0, locals := 45 } : Room) [.ref a.1, .int x1, .int x2, .int x3] (gX10 E a v) (f_X10_give x1 x2 x3 v.1 v.2.1 v.2.2.1 v.2.2.2.1 v.2.2.2.2.1 v.2.2.2.2.2.1 v.2.2.2.2.2.2.1 v.2.2.2.2.2.2.2.2.2.2.2.2.1) (fun r => some (.int r.1)) (fun r => (gX10 E a (r.2.1, v.2.1, v.2.2.1, r.2.2.1, r.2.2.2.1, r.2.2.2.2, v.2.2.2.2.2.2))) := by
  obtain ⟨v_z, v_snaps, v_hasSnap, v_past, v_pastHas, v_pastMany, v_before, v_spare, v_text, v_typed, v_failure, v_hasFailed, v_isQuiet, v_from, v_end, v_numbers⟩ := v
  refine zk_M (cc := cX10_give) (nL := 6) (ret := (some .int)) (by decide) rfl (Nat.le_of_ble_eq_true rfl) (fun X Q hQ => ?_)
  have J55 : ∀ (v_z : (Nat → Int32)) (v_past : (Nat → Int32)) (v_pastHas : (Nat → Int32)) (v_pastMany : Int32), zk_G E l X cX10_give 6 (some .int) yX10_give.cls wsX10_give ({ frames := 2, cells := 0, slots := 0, locals := 45 } : Room) 0 0 Q (gX10 E a (v_z, v_snaps, v_hasSnap, v_past, v_pastHas, v_pastMany, v_before, v_spare, v_text, v_typed, v_failure, v_hasFailed, v_isQuiet, v_from, v_end, v_numbers)) [(0, .ref a.1), (1, .int x1), (2, .int x2), (3, .int x3)] 55 [] (f_X10_give_55 x1 x2 x3 v_snaps v_hasSnap v_before v_isQuiet v_z v_past v_pastHas v_pastMany) := by
    intro v_z v_past v_pastHas v_pastMany
    unfold f_X10_give_55
    refine zk_aload_n dX10_give_55 0 rfl 56 rfl ?_
    refine zk_get dX10_give_56 0 rfl rfl kX10_give_inX10 0 (by decide) kX10_give_1 rfl 59 rfl ?_
    refine zk_iconst 1 dX10_give_59 (by decide) 60 rfl ?_
    refine zk_iald dX10_give_60 1 rfl 61 rfl ?_
    refine zk_bipush 40 dX10_give_61 (by decide) 63 rfl ?_
    refine zk_icmp_ne dX10_give_63 69 (by decide) 66 rfl (fun _ => ?_) (fun _ => ?_)
    · refine zk_bipush (-3) dX10_give_66 (by decide) 68 rfl ?_
      exact zk_iret hQ dX10_give_68 rfl rfl
    · refine zk_aload_n dX10_give_69 0 rfl 70 rfl ?_
      refine zk_callV (ci := 10) (st := []) (c_X10_record E l a (v_z, v_snaps, v_hasSnap, v_past, v_pastHas, v_pastMany, v_before, v_spare, v_text, v_typed, v_failure, v_hasFailed, v_isQuiet, v_from, v_end, v_numbers)) dX10_give_70 0 gX10_give_X10_record rfl rfl rfl cd_X10_record ⟨Nat.le_of_ble_eq_true rfl, Nat.le_of_ble_eq_true rfl⟩ ⟨Nat.zero_le _, Nat.zero_le _⟩ _ (fun r70 => (gX10 E a (v_z, v_snaps, v_hasSnap, r70.1, r70.2.1, r70.2.2, v_before, v_spare, v_text, v_typed, v_failure, v_hasFailed, v_isQuiet, v_from, v_end, v_numbers))) zk_pa (fun r70 => zk_qa) rfl rfl rfl rfl (Nat.le_of_ble_eq_true rfl) (fun r70 => []) (fun _ => rfl) 73 rfl (fun r70 => ?_)
      refine zk_aload_n dX10_give_73 0 rfl 74 rfl ?_
      refine zk_get dX10_give_74 0 rfl rfl kX10_give_inX10 0 (by decide) kX10_give_1 rfl 77 rfl ?_
      refine zk_iconst 1 dX10_give_77 (by decide) 78 rfl ?_
      refine zk_iald dX10_give_78 1 rfl 79 rfl ?_
      refine zk_nm (fun x5_1 => ?_)
      refine zk_istore [(5, .int x5_1), (0, .ref a.1), (1, .int x1), (2, .int x2), (3, .int x3)] dX10_give_79 (by decide) rfl 81 rfl ?_
      refine zk_aload_n dX10_give_81 1 rfl 82 rfl ?_
      refine zk_get dX10_give_82 0 rfl rfl kX10_give_inX10 0 (by decide) kX10_give_1 rfl 85 rfl ?_
      refine zk_iconst 1 dX10_give_85 (by decide) 86 rfl ?_
      refine zk_dup2 dX10_give_86 rfl rfl 87 rfl ?_
      refine zk_iald dX10_give_87 1 rfl 88 rfl ?_
      refine zk_iconst 1 dX10_give_88 (by decide) 89 rfl ?_
      refine zk_iadd dX10_give_89 90 rfl ?_
      refine zk_iast (gX10 E a ((upd v_z (1 : Int32).toNatClampNeg ((v_z (1 : Int32).toNatClampNeg) + 1)), v_snaps, v_hasSnap, r70.1, r70.2.1, r70.2.2, v_before, v_spare, v_text, v_typed, v_failure, v_hasFailed, v_isQuiet, v_from, v_end, v_numbers)) dX10_give_90 1 rfl rfl 91 rfl ?_
      refine zk_nmw (fun v_z_2 => (gX10 E a (v_z_2, v_snaps, v_hasSnap, r70.1, r70.2.1, r70.2.2, v_before, v_spare, v_text, v_typed, v_failure, v_hasFailed, v_isQuiet, v_from, v_end, v_numbers))) _ rfl (fun v_z_2 => ?_)
      refine zk_aload_n dX10_give_91 1 rfl 92 rfl ?_
      refine zk_get dX10_give_92 0 rfl rfl kX10_give_inX10 0 (by decide) kX10_give_1 rfl 95 rfl ?_
      refine zk_bipush 12 dX10_give_95 (by decide) 97 rfl ?_
      refine zk_iload dX10_give_97 0 rfl 99 rfl ?_
      refine zk_iadd dX10_give_99 100 rfl ?_
      refine zk_aload_n dX10_give_100 1 rfl 101 rfl ?_
      refine zk_get dX10_give_101 0 rfl rfl kX10_give_inX10 0 (by decide) kX10_give_1 rfl 104 rfl ?_
      refine zk_iconst 0 dX10_give_104 (by decide) 105 rfl ?_
      refine zk_iald dX10_give_105 1 rfl 106 rfl ?_
      refine zk_iload_n dX10_give_106 2 rfl 107 rfl ?_
      refine zk_iadd dX10_give_107 108 rfl ?_
      refine zk_iast (gX10 E a ((upd v_z_2 (12 + x5_1).toNatClampNeg ((v_z_2 (0 : Int32).toNatClampNeg) + x1)), v_snaps, v_hasSnap, r70.1, r70.2.1, r70.2.2, v_before, v_spare, v_text, v_typed, v_failure, v_hasFailed, v_isQuiet, v_from, v_end, v_numbers)) dX10_give_108 1 rfl rfl 109 rfl ?_
      refine zk_nmw (fun v_z_3 => (gX10 E a (v_z_3, v_snaps, v_hasSnap, r70.1, r70.2.1, r70.2.2, v_before, v_spare, v_text, v_typed, v_failure, v_hasFailed, v_isQuiet, v_from, v_end, v_numbers))) _ rfl (fun v_z_3 => ?_)
      refine zk_aload_n dX10_give_109 1 rfl 110 rfl ?_
      refine zk_get dX10_give_110 0 rfl rfl kX10_give_inX10 0 (by decide) kX10_give_1 rfl 113 rfl ?_
      refine zk_bipush 52 dX10_give_113 (by decide) 115 rfl ?_
      refine zk_iload dX10_give_115 0 rfl 117 rfl ?_
      refine zk_iadd dX10_give_117 118 rfl ?_
      refine zk_iload_n dX10_give_118 3 rfl 119 rfl ?_
      refine zk_iast (gX10 E a ((upd v_z_3 (52 + x5_1).toNatClampNeg x2), v_snaps, v_hasSnap, r70.1, r70.2.1, r70.2.2, v_before, v_spare, v_text, v_typed, v_failure, v_hasFailed, v_isQuiet, v_from, v_end, v_numbers)) dX10_give_119 1 rfl rfl 120 rfl ?_
      refine zk_nmw (fun v_z_4 => (gX10 E a (v_z_4, v_snaps, v_hasSnap, r70.1, r70.2.1, r70.2.2, v_before, v_spare, v_text, v_typed, v_failure, v_hasFailed, v_isQuiet, v_from, v_end, v_numbers))) _ rfl (fun v_z_4 => ?_)
      refine zk_aload_n dX10_give_120 1 rfl 121 rfl ?_
      refine zk_get dX10_give_121 0 rfl rfl kX10_give_inX10 0 (by decide) kX10_give_1 rfl 124 rfl ?_
      refine zk_bipush 92 dX10_give_124 (by decide) 126 rfl ?_
      refine zk_iload dX10_give_126 0 rfl 128 rfl ?_
      refine zk_iadd dX10_give_128 129 rfl ?_
      refine zk_iload_n dX10_give_129 4 rfl 130 rfl ?_
      refine zk_iast (gX10 E a ((upd v_z_4 (92 + x5_1).toNatClampNeg x3), v_snaps, v_hasSnap, r70.1, r70.2.1, r70.2.2, v_before, v_spare, v_text, v_typed, v_failure, v_hasFailed, v_isQuiet, v_from, v_end, v_numbers)) dX10_give_130 1 rfl rfl 131 rfl ?_
      refine zk_nmw (fun v_z_5 => (gX10 E a (v_z_5, v_snaps, v_hasSnap, r70.1, r70.2.1, r70.2.2, v_before, v_spare, v_text, v_typed, v_failure, v_hasFailed, v_isQuiet, v_from, v_end, v_numbers))) _ rfl (fun v_z_5 => ?_)
      refine zk_aload_n dX10_give_131 1 rfl 132 rfl ?_
      refine zk_get dX10_give_132 0 rfl rfl kX10_give_inX10 0 (by decide) kX10_give_1 rfl 135 rfl ?_
      refine zk_sipush 132 dX10_give_135 (by decide) 138 rfl ?_
      refine zk_iload dX10_give_138 0 rfl 140 rfl ?_
      refine zk_iadd dX10_give_140 141 rfl ?_
      refine zk_iconst 0 dX10_give_141 (by decide) 142 rfl ?_
      refine zk_iast (gX10 E a ((upd v_z_5 (132 + x5_1).toNatClampNeg 0), v_snaps, v_hasSnap, r70.1, r70.2.1, r70.2.2, v_before, v_spare, v_text, v_typed, v_failure, v_hasFailed, v_isQuiet, v_from, v_end, v_numbers)) dX10_give_142 1 rfl rfl 143 rfl ?_
      refine zk_nmw (fun v_z_6 => (gX10 E a (v_z_6, v_snaps, v_hasSnap, r70.1, r70.2.1, r70.2.2, v_before, v_spare, v_text, v_typed, v_failure, v_hasFailed, v_isQuiet, v_from, v_end, v_numbers))) _ rfl (fun v_z_6 => ?_)
      refine zk_aload_n dX10_give_143 1 rfl 144 rfl ?_
      refine zk_iload dX10_give_144 0 rfl 146 rfl ?_
      refine zk_callV (ci := 10) (st := []) (c_X10_standByDistance E l a (v_z_6, v_snaps, v_hasSnap, r70.1, r70.2.1, r70.2.2, v_before, v_spare, v_text, v_typed, v_failure, v_hasFailed, v_isQuiet, v_from, v_end, v_numbers) x5_1) dX10_give_146 1 gX10_give_X10_standByDistance rfl rfl rfl cd_X10_standByDistance ⟨Nat.le_of_ble_eq_true rfl, Nat.le_of_ble_eq_true rfl⟩ ⟨Nat.zero_le _, Nat.zero_le _⟩ _ (fun r146 => (gX10 E a (r146, v_snaps, v_hasSnap, r70.1, r70.2.1, r70.2.2, v_before, v_spare, v_text, v_typed, v_failure, v_hasFailed, v_isQuiet, v_from, v_end, v_numbers))) zk_pa (fun r146 => zk_qa) rfl rfl rfl rfl (Nat.le_of_ble_eq_true rfl) (fun r146 => []) (fun _ => rfl) 149 rfl (fun r146 => ?_)
      refine zk_iload dX10_give_149 0 rfl 151 rfl ?_
      exact zk_iret hQ dX10_give_151 rfl rfl
  have J38 : ∀ (s38_0 : Int32) (v_z : (Nat → Int32)) (v_past : (Nat → Int32)) (v_pastHas : (Nat → Int32)) (v_pastMany : Int32), zk_G E l X cX10_give 6 (some .int) yX10_give.cls wsX10_give ({ frames := 2, cells := 0, slots := 0, locals := 45 } : Room) 0 0 Q (gX10 E a (v_z, v_snaps, v_hasSnap, v_past, v_pastHas, v_pastMany, v_before, v_spare, v_text, v_typed, v_failure, v_hasFailed, v_isQuiet, v_from, v_end, v_numbers)) [(0, .ref a.1), (1, .int x1), (2, .int x2), (3, .int x3)] 38 [.int s38_0] (f_X10_give_38 x1 x2 x3 v_snaps v_hasSnap v_before v_isQuiet s38_0 v_z v_past v_pastHas v_pastMany) := by
    intro s38_0 v_z v_past v_pastHas v_pastMany
    unfold f_X10_give_38
    refine zk_istore [(4, .int s38_0), (0, .ref a.1), (1, .int x1), (2, .int x2), (3, .int x3)] dX10_give_38 (by decide) rfl 40 rfl ?_
    refine zk_iload dX10_give_40 0 rfl 42 rfl ?_
    refine zk_if_eq dX10_give_42 53 (by decide) 45 rfl (fun _ => ?_) (fun _ => ?_)
    · refine zk_iconst (-1) dX10_give_53 (by decide) 54 rfl ?_
      exact zk_iret hQ dX10_give_54 rfl rfl
    · refine zk_iload_n dX10_give_45 3 rfl 46 rfl ?_
      refine zk_if_ne dX10_give_46 55 (by decide) 49 rfl (fun _ => ?_) (fun _ => ?_)
      · refine zk_iload_n dX10_give_49 4 rfl 50 rfl ?_
        refine zk_if_le dX10_give_50 55 (by decide) 53 rfl (fun _ => ?_) (fun _ => ?_)
        · refine zk_lv [1, 2, 3, 4] rfl ?_
          exact J55   v_z v_past v_pastHas v_pastMany
        · refine zk_iconst (-1) dX10_give_53 (by decide) 54 rfl ?_
          exact zk_iret hQ dX10_give_54 rfl rfl
      · refine zk_lv [1, 2, 3, 4] rfl ?_
        exact J55   v_z v_past v_pastHas v_pastMany
  have J37 : ∀ (v_z : (Nat → Int32)) (v_past : (Nat → Int32)) (v_pastHas : (Nat → Int32)) (v_pastMany : Int32), zk_G E l X cX10_give 6 (some .int) yX10_give.cls wsX10_give ({ frames := 2, cells := 0, slots := 0, locals := 45 } : Room) 0 0 Q (gX10 E a (v_z, v_snaps, v_hasSnap, v_past, v_pastHas, v_pastMany, v_before, v_spare, v_text, v_typed, v_failure, v_hasFailed, v_isQuiet, v_from, v_end, v_numbers)) [(0, .ref a.1), (1, .int x1), (2, .int x2), (3, .int x3)] 37 [] (f_X10_give_37 x1 x2 x3 v_snaps v_hasSnap v_before v_isQuiet v_z v_past v_pastHas v_pastMany) := by
    intro v_z v_past v_pastHas v_pastMany
    unfold f_X10_give_37
    refine zk_iconst 0 dX10_give_37 (by decide) 38 rfl ?_
    exact J38   0 v_z v_past v_pastHas v_pastMany
  refine zk_eqv (w1 := (gX10 E a (v_z, v_snaps, v_hasSnap, v_past, v_pastHas, v_pastMany, v_before, v_spare, v_text, v_typed, v_failure, v_hasFailed, v_isQuiet, v_from, v_end, v_numbers))) (lv1 := [(0, .ref a.1), (1, .int x1), (2, .int x2), (3, .int x3)]) (st1 := []) (o1 := f_X10_give x1 x2 x3 v_z v_snaps v_hasSnap v_past v_pastHas v_pastMany v_before v_isQuiet) rfl rfl rfl rfl ?_
  unfold f_X10_give
  refine zk_iload_n dX10_give_0 1 rfl 1 rfl ?_
  refine zk_iconst 1 dX10_give_1 (by decide) 2 rfl ?_
  refine zk_icmp_lt dX10_give_2 37 (by decide) 5 rfl (fun _ => ?_) (fun _ => ?_)
  · exact J37   v_z v_past v_pastHas v_pastMany
  · refine zk_iload_n dX10_give_5 1 rfl 6 rfl ?_
    refine zk_sipush 511 dX10_give_6 (by decide) 9 rfl ?_
    refine zk_icmp_gt dX10_give_9 37 (by decide) 12 rfl (fun _ => ?_) (fun _ => ?_)
    · exact J37   v_z v_past v_pastHas v_pastMany
    · refine zk_iload_n dX10_give_12 2 rfl 13 rfl ?_
      refine zk_if_lt dX10_give_13 37 (by decide) 16 rfl (fun _ => ?_) (fun _ => ?_)
      · exact J37   v_z v_past v_pastHas v_pastMany
      · refine zk_iload_n dX10_give_16 2 rfl 17 rfl ?_
        refine zk_sipush 511 dX10_give_17 (by decide) 20 rfl ?_
        refine zk_icmp_gt dX10_give_20 37 (by decide) 23 rfl (fun _ => ?_) (fun _ => ?_)
        · exact J37   v_z v_past v_pastHas v_pastMany
        · refine zk_iload_n dX10_give_23 3 rfl 24 rfl ?_
          refine zk_if_lt dX10_give_24 37 (by decide) 27 rfl (fun _ => ?_) (fun _ => ?_)
          · exact J37   v_z v_past v_pastHas v_pastMany
          · refine zk_iload_n dX10_give_27 3 rfl 28 rfl ?_
            refine zk_bipush 99 dX10_give_28 (by decide) 30 rfl ?_
            refine zk_icmp_gt dX10_give_30 37 (by decide) 33 rfl (fun _ => ?_) (fun _ => ?_)
            · exact J37   v_z v_past v_pastHas v_pastMany
            · refine zk_iconst 1 dX10_give_33 (by decide) 34 rfl ?_
              refine zk_goto dX10_give_34 38 (by decide) ?_
              exact J38   1 v_z v_past v_pastHas v_pastMany
def f_X10_breakOff (x1 : Int32) (v_z : (Nat → Int32)) (v_snaps : (Nat → Int32)) (v_hasSnap : (Nat → Int32)) (v_past : (Nat → Int32)) (v_pastHas : (Nat → Int32)) (v_pastMany : Int32) (v_before : (Nat → Int32)) (v_isQuiet : Int32) : Option (Int32 × (Nat → Int32) × (Nat → Int32) × (Nat → Int32) × Int32) := (f_X10_isPromise x1 v_z).bind fun r2 => if r2 = 0 then some ((-1), v_z, v_past, v_pastHas, v_pastMany) else zk_ck (132 + x1) 368 (if (v_z (132 + x1).toNatClampNeg) ≤ 1 then (f_X10_record v_z v_snaps v_hasSnap v_past v_pastHas v_pastMany v_before v_isQuiet).bind fun r28 => zk_ck (132 + x1) 368 (zk_let (upd v_z (132 + x1).toNatClampNeg 3) fun v_z_1 => (f_X10_inState 3 v_z_1).bind fun r44 => some (r44, v_z_1, r28.1, r28.2.1, r28.2.2)) else some ((-2), v_z, v_past, v_pastHas, v_pastMany))
theorem kX10_breakOff_inX10 : ∀ w ∈ u_ws RX10 TX10 16, w ∈ wsX10_breakOff := by decide +kernel
theorem kX10_breakOff_1 : Cond.fieldLink RX10 7 (TX10 0).1 (TX10 0).2.1 (TX10 0).2.2.1 ∈ wsX10_breakOff := by decide +kernel
theorem cd_X10_breakOff : yX10_breakOff.cls = RX10 ∧ yX10_breakOff.cls ≠ "java/lang/invoke/MethodHandle" ∧ yX10_breakOff.cls ≠ "java/lang/invoke/VarHandle" ∧ (parseMethodDescriptor yX10_breakOff.desc).map (fun d => d.parameters.length) = some 1 := by decide +kernel
set_option maxRecDepth 100000 in
set_option maxHeartbeats 4000000 in
theorem c_X10_breakOff (E : zk_Env) (l : Launch) (a : aX10) (v : VX10) (x1 : Int32) : zk_Mc E l yX10_breakOff wsX10_breakOff ({ frames := 2, cells := 0, slots := 0, locals := 42 } : Room) [.ref a.1, .int x1] (gX10 E a v) (f_X10_breakOff x1 v.1 v.2.1 v.2.2.1 v.2.2.2.1 v.2.2.2.2.1 v.2.2.2.2.2.1 v.2.2.2.2.2.2.1 v.2.2.2.2.2.2.2.2.2.2.2.2.1) (fun r => some (.int r.1)) (fun r => (gX10 E a (r.2.1, v.2.1, v.2.2.1, r.2.2.1, r.2.2.2.1, r.2.2.2.2, v.2.2.2.2.2.2))) := by
  obtain ⟨v_z, v_snaps, v_hasSnap, v_past, v_pastHas, v_pastMany, v_before, v_spare, v_text, v_typed, v_failure, v_hasFailed, v_isQuiet, v_from, v_end, v_numbers⟩ := v
  refine zk_M (cc := cX10_breakOff) (nL := 2) (ret := (some .int)) (by decide) rfl (Nat.le_of_ble_eq_true rfl) (fun X Q hQ => ?_)
  refine zk_eqv (w1 := (gX10 E a (v_z, v_snaps, v_hasSnap, v_past, v_pastHas, v_pastMany, v_before, v_spare, v_text, v_typed, v_failure, v_hasFailed, v_isQuiet, v_from, v_end, v_numbers))) (lv1 := [(0, .ref a.1), (1, .int x1)]) (st1 := []) (o1 := f_X10_breakOff x1 v_z v_snaps v_hasSnap v_past v_pastHas v_pastMany v_before v_isQuiet) rfl rfl rfl rfl ?_
  unfold f_X10_breakOff
  refine zk_aload_n dX10_breakOff_0 0 rfl 1 rfl ?_
  refine zk_iload_n dX10_breakOff_1 1 rfl 2 rfl ?_
  refine zk_callV (ci := 10) (st := []) (c_X10_isPromise E l a (v_z, v_snaps, v_hasSnap, v_past, v_pastHas, v_pastMany, v_before, v_spare, v_text, v_typed, v_failure, v_hasFailed, v_isQuiet, v_from, v_end, v_numbers) x1) dX10_breakOff_2 1 gX10_breakOff_X10_isPromise rfl rfl rfl cd_X10_isPromise ⟨Nat.le_of_ble_eq_true rfl, Nat.le_of_ble_eq_true rfl⟩ ⟨Nat.zero_le _, Nat.zero_le _⟩ _ (fun r2 => (gX10 E a (v_z, v_snaps, v_hasSnap, v_past, v_pastHas, v_pastMany, v_before, v_spare, v_text, v_typed, v_failure, v_hasFailed, v_isQuiet, v_from, v_end, v_numbers))) zk_pa (fun r2 => zk_qa) rfl rfl rfl rfl (Nat.le_of_ble_eq_true rfl) (fun r2 => [.int r2]) (fun _ => rfl) 5 rfl (fun r2 => ?_)
  refine zk_if_ne dX10_breakOff_5 10 (by decide) 8 rfl (fun _ => ?_) (fun _ => ?_)
  · refine zk_iconst (-1) dX10_breakOff_8 (by decide) 9 rfl ?_
    exact zk_iret hQ dX10_breakOff_9 rfl rfl
  · refine zk_aload_n dX10_breakOff_10 0 rfl 11 rfl ?_
    refine zk_get dX10_breakOff_11 0 rfl rfl kX10_breakOff_inX10 0 (by decide) kX10_breakOff_1 rfl 14 rfl ?_
    refine zk_sipush 132 dX10_breakOff_14 (by decide) 17 rfl ?_
    refine zk_iload_n dX10_breakOff_17 1 rfl 18 rfl ?_
    refine zk_iadd dX10_breakOff_18 19 rfl ?_
    refine zk_iald dX10_breakOff_19 1 rfl 20 rfl ?_
    refine zk_iconst 1 dX10_breakOff_20 (by decide) 21 rfl ?_
    refine zk_icmp_le dX10_breakOff_21 27 (by decide) 24 rfl (fun _ => ?_) (fun _ => ?_)
    · refine zk_aload_n dX10_breakOff_27 0 rfl 28 rfl ?_
      refine zk_callV (ci := 10) (st := []) (c_X10_record E l a (v_z, v_snaps, v_hasSnap, v_past, v_pastHas, v_pastMany, v_before, v_spare, v_text, v_typed, v_failure, v_hasFailed, v_isQuiet, v_from, v_end, v_numbers)) dX10_breakOff_28 0 gX10_breakOff_X10_record rfl rfl rfl cd_X10_record ⟨Nat.le_of_ble_eq_true rfl, Nat.le_of_ble_eq_true rfl⟩ ⟨Nat.zero_le _, Nat.zero_le _⟩ _ (fun r28 => (gX10 E a (v_z, v_snaps, v_hasSnap, r28.1, r28.2.1, r28.2.2, v_before, v_spare, v_text, v_typed, v_failure, v_hasFailed, v_isQuiet, v_from, v_end, v_numbers))) zk_pa (fun r28 => zk_qa) rfl rfl rfl rfl (Nat.le_of_ble_eq_true rfl) (fun r28 => []) (fun _ => rfl) 31 rfl (fun r28 => ?_)
      refine zk_aload_n dX10_breakOff_31 0 rfl 32 rfl ?_
      refine zk_get dX10_breakOff_32 0 rfl rfl kX10_breakOff_inX10 0 (by decide) kX10_breakOff_1 rfl 35 rfl ?_
      refine zk_sipush 132 dX10_breakOff_35 (by decide) 38 rfl ?_
      refine zk_iload_n dX10_breakOff_38 1 rfl 39 rfl ?_
      refine zk_iadd dX10_breakOff_39 40 rfl ?_
      refine zk_iconst 3 dX10_breakOff_40 (by decide) 41 rfl ?_
      refine zk_iast (gX10 E a ((upd v_z (132 + x1).toNatClampNeg 3), v_snaps, v_hasSnap, r28.1, r28.2.1, r28.2.2, v_before, v_spare, v_text, v_typed, v_failure, v_hasFailed, v_isQuiet, v_from, v_end, v_numbers)) dX10_breakOff_41 1 rfl rfl 42 rfl ?_
      refine zk_nmw (fun v_z_1 => (gX10 E a (v_z_1, v_snaps, v_hasSnap, r28.1, r28.2.1, r28.2.2, v_before, v_spare, v_text, v_typed, v_failure, v_hasFailed, v_isQuiet, v_from, v_end, v_numbers))) _ rfl (fun v_z_1 => ?_)
      refine zk_aload_n dX10_breakOff_42 0 rfl 43 rfl ?_
      refine zk_iconst 3 dX10_breakOff_43 (by decide) 44 rfl ?_
      refine zk_callV (ci := 10) (st := []) (c_X10_inState E l a (v_z_1, v_snaps, v_hasSnap, r28.1, r28.2.1, r28.2.2, v_before, v_spare, v_text, v_typed, v_failure, v_hasFailed, v_isQuiet, v_from, v_end, v_numbers) 3) dX10_breakOff_44 1 gX10_breakOff_X10_inState rfl rfl rfl cd_X10_inState ⟨Nat.le_of_ble_eq_true rfl, Nat.le_of_ble_eq_true rfl⟩ ⟨Nat.zero_le _, Nat.zero_le _⟩ _ (fun r44 => (gX10 E a (v_z_1, v_snaps, v_hasSnap, r28.1, r28.2.1, r28.2.2, v_before, v_spare, v_text, v_typed, v_failure, v_hasFailed, v_isQuiet, v_from, v_end, v_numbers))) zk_pa (fun r44 => zk_qa) rfl rfl rfl rfl (Nat.le_of_ble_eq_true rfl) (fun r44 => [.int r44]) (fun _ => rfl) 47 rfl (fun r44 => ?_)
      exact zk_iret hQ dX10_breakOff_47 rfl rfl
    · refine zk_bipush (-2) dX10_breakOff_24 (by decide) 26 rfl ?_
      exact zk_iret hQ dX10_breakOff_26 rfl rfl
def f_X10_move (x1 : Int32) (x2 : Int32) (v_z : (Nat → Int32)) (v_snaps : (Nat → Int32)) (v_hasSnap : (Nat → Int32)) (v_past : (Nat → Int32)) (v_pastHas : (Nat → Int32)) (v_pastMany : Int32) (v_before : (Nat → Int32)) (v_isQuiet : Int32) : Option (Int32 × (Nat → Int32) × (Nat → Int32) × (Nat → Int32) × Int32) := (f_X10_isPromise x1 v_z).bind fun r2 => if r2 = 0 then some ((-1), v_z, v_past, v_pastHas, v_pastMany) else if x2 < 1 then some ((-1), v_z, v_past, v_pastHas, v_pastMany) else if x2 ≤ 511 then zk_ck (132 + x1) 368 (if (v_z (132 + x1).toNatClampNeg) = 0 then (f_X10_record v_z v_snaps v_hasSnap v_past v_pastHas v_pastMany v_before v_isQuiet).bind fun r39 => zk_ck (12 + x1) 368 (zk_let (v_z (12 + x1).toNatClampNeg) fun x3_1 => zk_ck 0 368 (zk_ck (12 + x1) 368 (zk_let (upd v_z (12 + x1).toNatClampNeg ((v_z (0 : Int32).toNatClampNeg) + x2)) fun v_z_2 => (f_X10_standByDistance x1 v_z_2).bind fun r71 => some (x3_1, r71, r39.1, r39.2.1, r39.2.2)))) else some ((-2), v_z, v_past, v_pastHas, v_pastMany)) else some ((-1), v_z, v_past, v_pastHas, v_pastMany)
theorem kX10_move_inX10 : ∀ w ∈ u_ws RX10 TX10 16, w ∈ wsX10_move := by decide +kernel
theorem kX10_move_1 : Cond.fieldLink RX10 7 (TX10 0).1 (TX10 0).2.1 (TX10 0).2.2.1 ∈ wsX10_move := by decide +kernel
theorem cd_X10_move : yX10_move.cls = RX10 ∧ yX10_move.cls ≠ "java/lang/invoke/MethodHandle" ∧ yX10_move.cls ≠ "java/lang/invoke/VarHandle" ∧ (parseMethodDescriptor yX10_move.desc).map (fun d => d.parameters.length) = some 2 := by decide +kernel
set_option maxRecDepth 100000 in
set_option maxHeartbeats 4000000 in
theorem c_X10_move (E : zk_Env) (l : Launch) (a : aX10) (v : VX10) (x1 : Int32) (x2 : Int32) : zk_Mc E l yX10_move wsX10_move ({ frames := 2, cells := 0, slots := 0, locals := 45 } : Room) [.ref a.1, .int x1, .int x2] (gX10 E a v) (f_X10_move x1 x2 v.1 v.2.1 v.2.2.1 v.2.2.2.1 v.2.2.2.2.1 v.2.2.2.2.2.1 v.2.2.2.2.2.2.1 v.2.2.2.2.2.2.2.2.2.2.2.2.1) (fun r => some (.int r.1)) (fun r => (gX10 E a (r.2.1, v.2.1, v.2.2.1, r.2.2.1, r.2.2.2.1, r.2.2.2.2, v.2.2.2.2.2.2))) := by
  obtain ⟨v_z, v_snaps, v_hasSnap, v_past, v_pastHas, v_pastMany, v_before, v_spare, v_text, v_typed, v_failure, v_hasFailed, v_isQuiet, v_from, v_end, v_numbers⟩ := v
  refine zk_M (cc := cX10_move) (nL := 4) (ret := (some .int)) (by decide) rfl (Nat.le_of_ble_eq_true rfl) (fun X Q hQ => ?_)
  refine zk_eqv (w1 := (gX10 E a (v_z, v_snaps, v_hasSnap, v_past, v_pastHas, v_pastMany, v_before, v_spare, v_text, v_typed, v_failure, v_hasFailed, v_isQuiet, v_from, v_end, v_numbers))) (lv1 := [(0, .ref a.1), (1, .int x1), (2, .int x2)]) (st1 := []) (o1 := f_X10_move x1 x2 v_z v_snaps v_hasSnap v_past v_pastHas v_pastMany v_before v_isQuiet) rfl rfl rfl rfl ?_
  unfold f_X10_move
  refine zk_aload_n dX10_move_0 0 rfl 1 rfl ?_
  refine zk_iload_n dX10_move_1 1 rfl 2 rfl ?_
  refine zk_callV (ci := 10) (st := []) (c_X10_isPromise E l a (v_z, v_snaps, v_hasSnap, v_past, v_pastHas, v_pastMany, v_before, v_spare, v_text, v_typed, v_failure, v_hasFailed, v_isQuiet, v_from, v_end, v_numbers) x1) dX10_move_2 1 gX10_move_X10_isPromise rfl rfl rfl cd_X10_isPromise ⟨Nat.le_of_ble_eq_true rfl, Nat.le_of_ble_eq_true rfl⟩ ⟨Nat.zero_le _, Nat.zero_le _⟩ _ (fun r2 => (gX10 E a (v_z, v_snaps, v_hasSnap, v_past, v_pastHas, v_pastMany, v_before, v_spare, v_text, v_typed, v_failure, v_hasFailed, v_isQuiet, v_from, v_end, v_numbers))) zk_pa (fun r2 => zk_qa) rfl rfl rfl rfl (Nat.le_of_ble_eq_true rfl) (fun r2 => [.int r2]) (fun _ => rfl) 5 rfl (fun r2 => ?_)
  refine zk_if_eq dX10_move_5 20 (by decide) 8 rfl (fun _ => ?_) (fun _ => ?_)
  · refine zk_iconst (-1) dX10_move_20 (by decide) 21 rfl ?_
    exact zk_iret hQ dX10_move_21 rfl rfl
  · refine zk_iload_n dX10_move_8 2 rfl 9 rfl ?_
    refine zk_iconst 1 dX10_move_9 (by decide) 10 rfl ?_
    refine zk_icmp_lt dX10_move_10 20 (by decide) 13 rfl (fun _ => ?_) (fun _ => ?_)
    · refine zk_iconst (-1) dX10_move_20 (by decide) 21 rfl ?_
      exact zk_iret hQ dX10_move_21 rfl rfl
    · refine zk_iload_n dX10_move_13 2 rfl 14 rfl ?_
      refine zk_sipush 511 dX10_move_14 (by decide) 17 rfl ?_
      refine zk_icmp_le dX10_move_17 22 (by decide) 20 rfl (fun _ => ?_) (fun _ => ?_)
      · refine zk_aload_n dX10_move_22 0 rfl 23 rfl ?_
        refine zk_get dX10_move_23 0 rfl rfl kX10_move_inX10 0 (by decide) kX10_move_1 rfl 26 rfl ?_
        refine zk_sipush 132 dX10_move_26 (by decide) 29 rfl ?_
        refine zk_iload_n dX10_move_29 1 rfl 30 rfl ?_
        refine zk_iadd dX10_move_30 31 rfl ?_
        refine zk_iald dX10_move_31 1 rfl 32 rfl ?_
        refine zk_if_eq dX10_move_32 38 (by decide) 35 rfl (fun _ => ?_) (fun _ => ?_)
        · refine zk_aload_n dX10_move_38 0 rfl 39 rfl ?_
          refine zk_callV (ci := 10) (st := []) (c_X10_record E l a (v_z, v_snaps, v_hasSnap, v_past, v_pastHas, v_pastMany, v_before, v_spare, v_text, v_typed, v_failure, v_hasFailed, v_isQuiet, v_from, v_end, v_numbers)) dX10_move_39 0 gX10_move_X10_record rfl rfl rfl cd_X10_record ⟨Nat.le_of_ble_eq_true rfl, Nat.le_of_ble_eq_true rfl⟩ ⟨Nat.zero_le _, Nat.zero_le _⟩ _ (fun r39 => (gX10 E a (v_z, v_snaps, v_hasSnap, r39.1, r39.2.1, r39.2.2, v_before, v_spare, v_text, v_typed, v_failure, v_hasFailed, v_isQuiet, v_from, v_end, v_numbers))) zk_pa (fun r39 => zk_qa) rfl rfl rfl rfl (Nat.le_of_ble_eq_true rfl) (fun r39 => []) (fun _ => rfl) 42 rfl (fun r39 => ?_)
          refine zk_aload_n dX10_move_42 0 rfl 43 rfl ?_
          refine zk_get dX10_move_43 0 rfl rfl kX10_move_inX10 0 (by decide) kX10_move_1 rfl 46 rfl ?_
          refine zk_bipush 12 dX10_move_46 (by decide) 48 rfl ?_
          refine zk_iload_n dX10_move_48 1 rfl 49 rfl ?_
          refine zk_iadd dX10_move_49 50 rfl ?_
          refine zk_iald dX10_move_50 1 rfl 51 rfl ?_
          refine zk_nm (fun x3_1 => ?_)
          refine zk_istore_n [(3, .int x3_1), (0, .ref a.1), (1, .int x1), (2, .int x2)] dX10_move_51 (by decide) rfl 52 rfl ?_
          refine zk_aload_n dX10_move_52 1 rfl 53 rfl ?_
          refine zk_get dX10_move_53 0 rfl rfl kX10_move_inX10 0 (by decide) kX10_move_1 rfl 56 rfl ?_
          refine zk_bipush 12 dX10_move_56 (by decide) 58 rfl ?_
          refine zk_iload_n dX10_move_58 2 rfl 59 rfl ?_
          refine zk_iadd dX10_move_59 60 rfl ?_
          refine zk_aload_n dX10_move_60 1 rfl 61 rfl ?_
          refine zk_get dX10_move_61 0 rfl rfl kX10_move_inX10 0 (by decide) kX10_move_1 rfl 64 rfl ?_
          refine zk_iconst 0 dX10_move_64 (by decide) 65 rfl ?_
          refine zk_iald dX10_move_65 1 rfl 66 rfl ?_
          refine zk_iload_n dX10_move_66 3 rfl 67 rfl ?_
          refine zk_iadd dX10_move_67 68 rfl ?_
          refine zk_iast (gX10 E a ((upd v_z (12 + x1).toNatClampNeg ((v_z (0 : Int32).toNatClampNeg) + x2)), v_snaps, v_hasSnap, r39.1, r39.2.1, r39.2.2, v_before, v_spare, v_text, v_typed, v_failure, v_hasFailed, v_isQuiet, v_from, v_end, v_numbers)) dX10_move_68 1 rfl rfl 69 rfl ?_
          refine zk_nmw (fun v_z_2 => (gX10 E a (v_z_2, v_snaps, v_hasSnap, r39.1, r39.2.1, r39.2.2, v_before, v_spare, v_text, v_typed, v_failure, v_hasFailed, v_isQuiet, v_from, v_end, v_numbers))) _ rfl (fun v_z_2 => ?_)
          refine zk_aload_n dX10_move_69 1 rfl 70 rfl ?_
          refine zk_iload_n dX10_move_70 2 rfl 71 rfl ?_
          refine zk_callV (ci := 10) (st := []) (c_X10_standByDistance E l a (v_z_2, v_snaps, v_hasSnap, r39.1, r39.2.1, r39.2.2, v_before, v_spare, v_text, v_typed, v_failure, v_hasFailed, v_isQuiet, v_from, v_end, v_numbers) x1) dX10_move_71 1 gX10_move_X10_standByDistance rfl rfl rfl cd_X10_standByDistance ⟨Nat.le_of_ble_eq_true rfl, Nat.le_of_ble_eq_true rfl⟩ ⟨Nat.zero_le _, Nat.zero_le _⟩ _ (fun r71 => (gX10 E a (r71, v_snaps, v_hasSnap, r39.1, r39.2.1, r39.2.2, v_before, v_spare, v_text, v_typed, v_failure, v_hasFailed, v_isQuiet, v_from, v_end, v_numbers))) zk_pa (fun r71 => zk_qa) rfl rfl rfl rfl (Nat.le_of_ble_eq_true rfl) (fun r71 => []) (fun _ => rfl) 74 rfl (fun r71 => ?_)
          refine zk_iload_n dX10_move_74 0 rfl 75 rfl ?_
          exact zk_iret hQ dX10_move_75 rfl rfl
        · refine zk_bipush (-2) dX10_move_35 (by decide) 37 rfl ?_
          exact zk_iret hQ dX10_move_37 rfl rfl
      · refine zk_iconst (-1) dX10_move_20 (by decide) 21 rfl ?_
        exact zk_iret hQ dX10_move_21 rfl rfl
def F_X10_pass_44 (x1 : Int32) (x2 : Int32) (v_past : (Nat → Int32)) (v_pastHas : (Nat → Int32)) (v_pastMany : Int32) (k44 : Int32 × (Nat → Int32) → Option (Int32 × (Nat → Int32) × (Nat → Int32) × (Nat → Int32) × Int32)) : Int32 × (Nat → Int32) → Option (Int32 × (Nat → Int32) × (Nat → Int32) × (Nat → Int32) × Int32) := fun s => match s with
  | (x3, v_z) => if x1 ≤ x3 then zk_ck 5 368 (some (((v_z (5 : Int32).toNatClampNeg) - x2), v_z, v_past, v_pastHas, v_pastMany)) else (f_X10_tick v_z).bind fun r50 => k44 ((x3 + 1), r50)
def f_X10_pass (x1 : Int32) (v_z : (Nat → Int32)) (v_snaps : (Nat → Int32)) (v_hasSnap : (Nat → Int32)) (v_past : (Nat → Int32)) (v_pastHas : (Nat → Int32)) (v_pastMany : Int32) (v_before : (Nat → Int32)) (v_isQuiet : Int32) : Option (Int32 × (Nat → Int32) × (Nat → Int32) × (Nat → Int32) × Int32) := if x1 < 1 then some ((-1), v_z, v_past, v_pastHas, v_pastMany) else if x1 ≤ 600 then zk_ck 0 368 (if ((v_z (0 : Int32).toNatClampNeg) + x1) ≤ 20000 then (f_X10_record v_z v_snaps v_hasSnap v_past v_pastHas v_pastMany v_before v_isQuiet).bind fun r32 => zk_ck 5 368 (zk_let (v_z (5 : Int32).toNatClampNeg) fun x2_1 => zk_fx (F_X10_pass_44 x1 x2_1 r32.1 r32.2.1 r32.2.2 ) zk_N (0, v_z)) else some ((-3), v_z, v_past, v_pastHas, v_pastMany)) else some ((-1), v_z, v_past, v_pastHas, v_pastMany)
theorem kX10_pass_inX10 : ∀ w ∈ u_ws RX10 TX10 16, w ∈ wsX10_pass := by decide +kernel
theorem kX10_pass_1 : Cond.fieldLink RX10 7 (TX10 0).1 (TX10 0).2.1 (TX10 0).2.2.1 ∈ wsX10_pass := by decide +kernel
theorem cd_X10_pass : yX10_pass.cls = RX10 ∧ yX10_pass.cls ≠ "java/lang/invoke/MethodHandle" ∧ yX10_pass.cls ≠ "java/lang/invoke/VarHandle" ∧ (parseMethodDescriptor yX10_pass.desc).map (fun d => d.parameters.length) = some 1 := by decide +kernel
set_option maxRecDepth 100000 in
set_option maxHeartbeats 4000000 in
theorem c_X10_pass (E : zk_Env) (l : Launch) (a : aX10) (v : VX10) (x1 : Int32) : zk_Mc E l yX10_pass wsX10_pass ({ frames := 5, cells := 0, slots := 0, locals := 110 } : Room) [.ref a.1, .int x1] (gX10 E a v) (f_X10_pass x1 v.1 v.2.1 v.2.2.1 v.2.2.2.1 v.2.2.2.2.1 v.2.2.2.2.2.1 v.2.2.2.2.2.2.1 v.2.2.2.2.2.2.2.2.2.2.2.2.1) (fun r => some (.int r.1)) (fun r => (gX10 E a (r.2.1, v.2.1, v.2.2.1, r.2.2.1, r.2.2.2.1, r.2.2.2.2, v.2.2.2.2.2.2))) := by
  obtain ⟨v_z, v_snaps, v_hasSnap, v_past, v_pastHas, v_pastMany, v_before, v_spare, v_text, v_typed, v_failure, v_hasFailed, v_isQuiet, v_from, v_end, v_numbers⟩ := v
  refine zk_M (cc := cX10_pass) (nL := 4) (ret := (some .int)) (by decide) rfl (Nat.le_of_ble_eq_true rfl) (fun X Q hQ => ?_)
  have J44 : ∀ (x2 : Int32) (v_past : (Nat → Int32)) (v_pastHas : (Nat → Int32)) (v_pastMany : Int32) (n : Nat) (x3 : Int32) (v_z : (Nat → Int32)), zk_G E l X cX10_pass 4 (some .int) yX10_pass.cls wsX10_pass ({ frames := 5, cells := 0, slots := 0, locals := 110 } : Room) 0 0 Q (gX10 E a (v_z, v_snaps, v_hasSnap, v_past, v_pastHas, v_pastMany, v_before, v_spare, v_text, v_typed, v_failure, v_hasFailed, v_isQuiet, v_from, v_end, v_numbers)) [(0, .ref a.1), (1, .int x1), (2, .int x2), (3, .int x3)] 44 [] (zk_fx (F_X10_pass_44 x1 x2 v_past v_pastHas v_pastMany ) n (x3, v_z)) := by
    intro x2 v_past v_pastHas v_pastMany n x3 v_z
    refine zk_loop (S := Int32 × (Nat → Int32)) (F := F_X10_pass_44 x1 x2 v_past v_pastHas v_pastMany) (wS := fun s => (gX10 E a (s.2, v_snaps, v_hasSnap, v_past, v_pastHas, v_pastMany, v_before, v_spare, v_text, v_typed, v_failure, v_hasFailed, v_isQuiet, v_from, v_end, v_numbers))) (lS := fun s => [(0, .ref a.1), (1, .int x1), (2, .int x2), (3, .int s.1)]) (sS := fun _ => []) (fun k44 hk44 s => ?_) n (x3, v_z)
    obtain ⟨x3, v_z⟩ := s
    unfold F_X10_pass_44
    try dsimp only
    refine zk_iload_n dX10_pass_44 3 rfl 45 rfl ?_
    refine zk_iload_n dX10_pass_45 1 rfl 46 rfl ?_
    refine zk_icmp_ge dX10_pass_46 59 (by decide) 49 rfl (fun _ => ?_) (fun _ => ?_)
    · refine zk_aload_n dX10_pass_59 0 rfl 60 rfl ?_
      refine zk_get dX10_pass_60 0 rfl rfl kX10_pass_inX10 0 (by decide) kX10_pass_1 rfl 63 rfl ?_
      refine zk_iconst 5 dX10_pass_63 (by decide) 64 rfl ?_
      refine zk_iald dX10_pass_64 1 rfl 65 rfl ?_
      refine zk_iload_n dX10_pass_65 2 rfl 66 rfl ?_
      refine zk_isub dX10_pass_66 67 rfl ?_
      exact zk_iret hQ dX10_pass_67 rfl rfl
    · refine zk_aload_n dX10_pass_49 0 rfl 50 rfl ?_
      refine zk_callV (ci := 10) (st := []) (c_X10_tick E l a (v_z, v_snaps, v_hasSnap, v_past, v_pastHas, v_pastMany, v_before, v_spare, v_text, v_typed, v_failure, v_hasFailed, v_isQuiet, v_from, v_end, v_numbers)) dX10_pass_50 0 gX10_pass_X10_tick rfl rfl rfl cd_X10_tick ⟨Nat.le_of_ble_eq_true rfl, Nat.le_of_ble_eq_true rfl⟩ ⟨Nat.zero_le _, Nat.zero_le _⟩ _ (fun r50 => (gX10 E a (r50, v_snaps, v_hasSnap, v_past, v_pastHas, v_pastMany, v_before, v_spare, v_text, v_typed, v_failure, v_hasFailed, v_isQuiet, v_from, v_end, v_numbers))) zk_pa (fun r50 => zk_qa) rfl rfl rfl rfl (Nat.le_of_ble_eq_true rfl) (fun r50 => []) (fun _ => rfl) 53 rfl (fun r50 => ?_)
      refine zk_iinc (x3 + 1) [(3, .int (x3 + 1)), (0, .ref a.1), (1, .int x1), (2, .int x2)] dX10_pass_53 3 rfl rfl (by decide) rfl 56 rfl ?_
      refine zk_goto dX10_pass_56 44 (by decide) ?_
      refine zk_lv [1, 2, 3, 0] rfl ?_
      exact hk44 ((x3 + 1), r50)
  refine zk_eqv (w1 := (gX10 E a (v_z, v_snaps, v_hasSnap, v_past, v_pastHas, v_pastMany, v_before, v_spare, v_text, v_typed, v_failure, v_hasFailed, v_isQuiet, v_from, v_end, v_numbers))) (lv1 := [(0, .ref a.1), (1, .int x1)]) (st1 := []) (o1 := f_X10_pass x1 v_z v_snaps v_hasSnap v_past v_pastHas v_pastMany v_before v_isQuiet) rfl rfl rfl rfl ?_
  unfold f_X10_pass
  refine zk_iload_n dX10_pass_0 1 rfl 1 rfl ?_
  refine zk_iconst 1 dX10_pass_1 (by decide) 2 rfl ?_
  refine zk_icmp_lt dX10_pass_2 12 (by decide) 5 rfl (fun _ => ?_) (fun _ => ?_)
  · refine zk_iconst (-1) dX10_pass_12 (by decide) 13 rfl ?_
    exact zk_iret hQ dX10_pass_13 rfl rfl
  · refine zk_iload_n dX10_pass_5 1 rfl 6 rfl ?_
    refine zk_sipush 600 dX10_pass_6 (by decide) 9 rfl ?_
    refine zk_icmp_le dX10_pass_9 14 (by decide) 12 rfl (fun _ => ?_) (fun _ => ?_)
    · refine zk_aload_n dX10_pass_14 0 rfl 15 rfl ?_
      refine zk_get dX10_pass_15 0 rfl rfl kX10_pass_inX10 0 (by decide) kX10_pass_1 rfl 18 rfl ?_
      refine zk_iconst 0 dX10_pass_18 (by decide) 19 rfl ?_
      refine zk_iald dX10_pass_19 1 rfl 20 rfl ?_
      refine zk_iload_n dX10_pass_20 1 rfl 21 rfl ?_
      refine zk_iadd dX10_pass_21 22 rfl ?_
      refine zk_sipush 20000 dX10_pass_22 (by decide) 25 rfl ?_
      refine zk_icmp_le dX10_pass_25 31 (by decide) 28 rfl (fun _ => ?_) (fun _ => ?_)
      · refine zk_aload_n dX10_pass_31 0 rfl 32 rfl ?_
        refine zk_callV (ci := 10) (st := []) (c_X10_record E l a (v_z, v_snaps, v_hasSnap, v_past, v_pastHas, v_pastMany, v_before, v_spare, v_text, v_typed, v_failure, v_hasFailed, v_isQuiet, v_from, v_end, v_numbers)) dX10_pass_32 0 gX10_pass_X10_record rfl rfl rfl cd_X10_record ⟨Nat.le_of_ble_eq_true rfl, Nat.le_of_ble_eq_true rfl⟩ ⟨Nat.zero_le _, Nat.zero_le _⟩ _ (fun r32 => (gX10 E a (v_z, v_snaps, v_hasSnap, r32.1, r32.2.1, r32.2.2, v_before, v_spare, v_text, v_typed, v_failure, v_hasFailed, v_isQuiet, v_from, v_end, v_numbers))) zk_pa (fun r32 => zk_qa) rfl rfl rfl rfl (Nat.le_of_ble_eq_true rfl) (fun r32 => []) (fun _ => rfl) 35 rfl (fun r32 => ?_)
        refine zk_aload_n dX10_pass_35 0 rfl 36 rfl ?_
        refine zk_get dX10_pass_36 0 rfl rfl kX10_pass_inX10 0 (by decide) kX10_pass_1 rfl 39 rfl ?_
        refine zk_iconst 5 dX10_pass_39 (by decide) 40 rfl ?_
        refine zk_iald dX10_pass_40 1 rfl 41 rfl ?_
        refine zk_nm (fun x2_1 => ?_)
        refine zk_istore_n [(2, .int x2_1), (0, .ref a.1), (1, .int x1)] dX10_pass_41 (by decide) rfl 42 rfl ?_
        refine zk_iconst 0 dX10_pass_42 (by decide) 43 rfl ?_
        refine zk_istore_n [(3, .int 0), (2, .int x2_1), (0, .ref a.1), (1, .int x1)] dX10_pass_43 (by decide) rfl 44 rfl ?_
        refine zk_lv [2, 3, 1, 0] rfl ?_
        exact J44   x2_1 r32.1 r32.2.1 r32.2.2 zk_N 0 v_z
      · refine zk_bipush (-3) dX10_pass_28 (by decide) 30 rfl ?_
        exact zk_iret hQ dX10_pass_30 rfl rfl
    · refine zk_iconst (-1) dX10_pass_12 (by decide) 13 rfl ?_
      exact zk_iret hQ dX10_pass_13 rfl rfl
def f_X10_sweep (v_z : (Nat → Int32)) (v_snaps : (Nat → Int32)) (v_hasSnap : (Nat → Int32)) (v_past : (Nat → Int32)) (v_pastHas : (Nat → Int32)) (v_pastMany : Int32) (v_before : (Nat → Int32)) (v_isQuiet : Int32) : Option (Int32 × (Nat → Int32) × (Nat → Int32) × (Nat → Int32) × Int32) := (f_X10_record v_z v_snaps v_hasSnap v_past v_pastHas v_pastMany v_before v_isQuiet).bind fun r1 => (f_X10_sweepAll v_z).bind fun r5 => some (r5.1, r5.2, r1.1, r1.2.1, r1.2.2)
theorem cd_X10_sweep : yX10_sweep.cls = RX10 ∧ yX10_sweep.cls ≠ "java/lang/invoke/MethodHandle" ∧ yX10_sweep.cls ≠ "java/lang/invoke/VarHandle" ∧ (parseMethodDescriptor yX10_sweep.desc).map (fun d => d.parameters.length) = some 0 := by decide +kernel
set_option maxRecDepth 100000 in
set_option maxHeartbeats 4000000 in
theorem c_X10_sweep (E : zk_Env) (l : Launch) (a : aX10) (v : VX10)  : zk_Mc E l yX10_sweep wsX10_sweep ({ frames := 2, cells := 0, slots := 0, locals := 43 } : Room) [.ref a.1] (gX10 E a v) (f_X10_sweep v.1 v.2.1 v.2.2.1 v.2.2.2.1 v.2.2.2.2.1 v.2.2.2.2.2.1 v.2.2.2.2.2.2.1 v.2.2.2.2.2.2.2.2.2.2.2.2.1) (fun r => some (.int r.1)) (fun r => (gX10 E a (r.2.1, v.2.1, v.2.2.1, r.2.2.1, r.2.2.2.1, r.2.2.2.2, v.2.2.2.2.2.2))) := by
  obtain ⟨v_z, v_snaps, v_hasSnap, v_past, v_pastHas, v_pastMany, v_before, v_spare, v_text, v_typed, v_failure, v_hasFailed, v_isQuiet, v_from, v_end, v_numbers⟩ := v
  refine zk_M (cc := cX10_sweep) (nL := 1) (ret := (some .int)) (by decide) rfl (Nat.le_of_ble_eq_true rfl) (fun X Q hQ => ?_)
  refine zk_eqv (w1 := (gX10 E a (v_z, v_snaps, v_hasSnap, v_past, v_pastHas, v_pastMany, v_before, v_spare, v_text, v_typed, v_failure, v_hasFailed, v_isQuiet, v_from, v_end, v_numbers))) (lv1 := [(0, .ref a.1)]) (st1 := []) (o1 := f_X10_sweep v_z v_snaps v_hasSnap v_past v_pastHas v_pastMany v_before v_isQuiet) rfl rfl rfl rfl ?_
  unfold f_X10_sweep
  refine zk_aload_n dX10_sweep_0 0 rfl 1 rfl ?_
  refine zk_callV (ci := 10) (st := []) (c_X10_record E l a (v_z, v_snaps, v_hasSnap, v_past, v_pastHas, v_pastMany, v_before, v_spare, v_text, v_typed, v_failure, v_hasFailed, v_isQuiet, v_from, v_end, v_numbers)) dX10_sweep_1 0 gX10_sweep_X10_record rfl rfl rfl cd_X10_record ⟨Nat.le_of_ble_eq_true rfl, Nat.le_of_ble_eq_true rfl⟩ ⟨Nat.zero_le _, Nat.zero_le _⟩ _ (fun r1 => (gX10 E a (v_z, v_snaps, v_hasSnap, r1.1, r1.2.1, r1.2.2, v_before, v_spare, v_text, v_typed, v_failure, v_hasFailed, v_isQuiet, v_from, v_end, v_numbers))) zk_pa (fun r1 => zk_qa) rfl rfl rfl rfl (Nat.le_of_ble_eq_true rfl) (fun r1 => []) (fun _ => rfl) 4 rfl (fun r1 => ?_)
  refine zk_aload_n dX10_sweep_4 0 rfl 5 rfl ?_
  refine zk_callV (ci := 10) (st := []) (c_X10_sweepAll E l a (v_z, v_snaps, v_hasSnap, r1.1, r1.2.1, r1.2.2, v_before, v_spare, v_text, v_typed, v_failure, v_hasFailed, v_isQuiet, v_from, v_end, v_numbers)) dX10_sweep_5 0 gX10_sweep_X10_sweepAll rfl rfl rfl cd_X10_sweepAll ⟨Nat.le_of_ble_eq_true rfl, Nat.le_of_ble_eq_true rfl⟩ ⟨Nat.zero_le _, Nat.zero_le _⟩ _ (fun r5 => (gX10 E a (r5.2, v_snaps, v_hasSnap, r1.1, r1.2.1, r1.2.2, v_before, v_spare, v_text, v_typed, v_failure, v_hasFailed, v_isQuiet, v_from, v_end, v_numbers))) zk_pa (fun r5 => zk_qa) rfl rfl rfl rfl (Nat.le_of_ble_eq_true rfl) (fun r5 => [.int r5.1]) (fun _ => rfl) 8 rfl (fun r5 => ?_)
  exact zk_iret hQ dX10_sweep_8 rfl rfl
def f_X10_set_41 (x1 : Int32) (x2 : Int32) (v_snaps : (Nat → Int32)) (v_hasSnap : (Nat → Int32)) (v_before : (Nat → Int32)) (v_isQuiet : Int32) (s41_0 : Int32) (x3 : Int32) (v_z : (Nat → Int32)) (v_past : (Nat → Int32)) (v_pastHas : (Nat → Int32)) (v_pastMany : Int32) : Option (Int32 × (Nat → Int32) × (Nat → Int32) × (Nat → Int32) × Int32) := if x2 < x3 then some ((-1), v_z, v_past, v_pastHas, v_pastMany) else if x2 ≤ s41_0 then (f_X10_record v_z v_snaps v_hasSnap v_past v_pastHas v_pastMany v_before v_isQuiet).bind fun r57 => zk_ck (2 + x1) 368 (zk_let (v_z (2 + x1).toNatClampNeg) fun x5_1 => zk_ck (2 + x1) 368 (zk_let (upd v_z (2 + x1).toNatClampNeg x2) fun v_z_2 => some (x5_1, v_z_2, r57.1, r57.2.1, r57.2.2))) else some ((-1), v_z, v_past, v_pastHas, v_pastMany)
def f_X10_set_20 (x1 : Int32) (x2 : Int32) (v_snaps : (Nat → Int32)) (v_hasSnap : (Nat → Int32)) (v_before : (Nat → Int32)) (v_isQuiet : Int32) (s20_0 : Int32) (v_z : (Nat → Int32)) (v_past : (Nat → Int32)) (v_pastHas : (Nat → Int32)) (v_pastMany : Int32) : Option (Int32 × (Nat → Int32) × (Nat → Int32) × (Nat → Int32) × Int32) := if x1 = 0 then f_X10_set_41 x1 x2 v_snaps v_hasSnap v_before v_isQuiet 20 s20_0 v_z v_past v_pastHas v_pastMany else if x1 = 1 then f_X10_set_41 x1 x2 v_snaps v_hasSnap v_before v_isQuiet 40 s20_0 v_z v_past v_pastHas v_pastMany else f_X10_set_41 x1 x2 v_snaps v_hasSnap v_before v_isQuiet 1 s20_0 v_z v_past v_pastHas v_pastMany
def f_X10_set (x1 : Int32) (x2 : Int32) (v_z : (Nat → Int32)) (v_snaps : (Nat → Int32)) (v_hasSnap : (Nat → Int32)) (v_past : (Nat → Int32)) (v_pastHas : (Nat → Int32)) (v_pastMany : Int32) (v_before : (Nat → Int32)) (v_isQuiet : Int32) : Option (Int32 × (Nat → Int32) × (Nat → Int32) × (Nat → Int32) × Int32) := if x1 < 0 then some ((-1), v_z, v_past, v_pastHas, v_pastMany) else if x1 ≤ 2 then if x1 = 0 then f_X10_set_20 x1 x2 v_snaps v_hasSnap v_before v_isQuiet 1 v_z v_past v_pastHas v_pastMany else f_X10_set_20 x1 x2 v_snaps v_hasSnap v_before v_isQuiet 0 v_z v_past v_pastHas v_pastMany else some ((-1), v_z, v_past, v_pastHas, v_pastMany)
theorem kX10_set_inX10 : ∀ w ∈ u_ws RX10 TX10 16, w ∈ wsX10_set := by decide +kernel
theorem kX10_set_1 : Cond.fieldLink RX10 7 (TX10 0).1 (TX10 0).2.1 (TX10 0).2.2.1 ∈ wsX10_set := by decide +kernel
theorem cd_X10_set : yX10_set.cls = RX10 ∧ yX10_set.cls ≠ "java/lang/invoke/MethodHandle" ∧ yX10_set.cls ≠ "java/lang/invoke/VarHandle" ∧ (parseMethodDescriptor yX10_set.desc).map (fun d => d.parameters.length) = some 2 := by decide +kernel
set_option maxRecDepth 100000 in
set_option maxHeartbeats 4000000 in
theorem c_X10_set (E : zk_Env) (l : Launch) (a : aX10) (v : VX10) (x1 : Int32) (x2 : Int32) : zk_Mc E l yX10_set wsX10_set ({ frames := 2, cells := 0, slots := 0, locals := 42 } : Room) [.ref a.1, .int x1, .int x2] (gX10 E a v) (f_X10_set x1 x2 v.1 v.2.1 v.2.2.1 v.2.2.2.1 v.2.2.2.2.1 v.2.2.2.2.2.1 v.2.2.2.2.2.2.1 v.2.2.2.2.2.2.2.2.2.2.2.2.1) (fun r => some (.int r.1)) (fun r => (gX10 E a (r.2.1, v.2.1, v.2.2.1, r.2.2.1, r.2.2.2.1, r.2.2.2.2, v.2.2.2.2.2.2))) := by
  obtain ⟨v_z, v_snaps, v_hasSnap, v_past, v_pastHas, v_pastMany, v_before, v_spare, v_text, v_typed, v_failure, v_hasFailed, v_isQuiet, v_from, v_end, v_numbers⟩ := v
  refine zk_M (cc := cX10_set) (nL := 6) (ret := (some .int)) (by decide) rfl (Nat.le_of_ble_eq_true rfl) (fun X Q hQ => ?_)
  have J41 : ∀ (s41_0 : Int32) (x3 : Int32) (v_z : (Nat → Int32)) (v_past : (Nat → Int32)) (v_pastHas : (Nat → Int32)) (v_pastMany : Int32), zk_G E l X cX10_set 6 (some .int) yX10_set.cls wsX10_set ({ frames := 2, cells := 0, slots := 0, locals := 42 } : Room) 0 0 Q (gX10 E a (v_z, v_snaps, v_hasSnap, v_past, v_pastHas, v_pastMany, v_before, v_spare, v_text, v_typed, v_failure, v_hasFailed, v_isQuiet, v_from, v_end, v_numbers)) [(0, .ref a.1), (1, .int x1), (2, .int x2), (3, .int x3)] 41 [.int s41_0] (f_X10_set_41 x1 x2 v_snaps v_hasSnap v_before v_isQuiet s41_0 x3 v_z v_past v_pastHas v_pastMany) := by
    intro s41_0 x3 v_z v_past v_pastHas v_pastMany
    unfold f_X10_set_41
    refine zk_istore [(4, .int s41_0), (0, .ref a.1), (1, .int x1), (2, .int x2), (3, .int x3)] dX10_set_41 (by decide) rfl 43 rfl ?_
    refine zk_iload_n dX10_set_43 3 rfl 44 rfl ?_
    refine zk_iload_n dX10_set_44 4 rfl 45 rfl ?_
    refine zk_icmp_lt dX10_set_45 54 (by decide) 48 rfl (fun _ => ?_) (fun _ => ?_)
    · refine zk_iconst (-1) dX10_set_54 (by decide) 55 rfl ?_
      exact zk_iret hQ dX10_set_55 rfl rfl
    · refine zk_iload_n dX10_set_48 3 rfl 49 rfl ?_
      refine zk_iload dX10_set_49 0 rfl 51 rfl ?_
      refine zk_icmp_le dX10_set_51 56 (by decide) 54 rfl (fun _ => ?_) (fun _ => ?_)
      · refine zk_aload_n dX10_set_56 1 rfl 57 rfl ?_
        refine zk_callV (ci := 10) (st := []) (c_X10_record E l a (v_z, v_snaps, v_hasSnap, v_past, v_pastHas, v_pastMany, v_before, v_spare, v_text, v_typed, v_failure, v_hasFailed, v_isQuiet, v_from, v_end, v_numbers)) dX10_set_57 0 gX10_set_X10_record rfl rfl rfl cd_X10_record ⟨Nat.le_of_ble_eq_true rfl, Nat.le_of_ble_eq_true rfl⟩ ⟨Nat.zero_le _, Nat.zero_le _⟩ _ (fun r57 => (gX10 E a (v_z, v_snaps, v_hasSnap, r57.1, r57.2.1, r57.2.2, v_before, v_spare, v_text, v_typed, v_failure, v_hasFailed, v_isQuiet, v_from, v_end, v_numbers))) zk_pa (fun r57 => zk_qa) rfl rfl rfl rfl (Nat.le_of_ble_eq_true rfl) (fun r57 => []) (fun _ => rfl) 60 rfl (fun r57 => ?_)
        refine zk_aload_n dX10_set_60 1 rfl 61 rfl ?_
        refine zk_get dX10_set_61 0 rfl rfl kX10_set_inX10 0 (by decide) kX10_set_1 rfl 64 rfl ?_
        refine zk_iconst 2 dX10_set_64 (by decide) 65 rfl ?_
        refine zk_iload_n dX10_set_65 2 rfl 66 rfl ?_
        refine zk_iadd dX10_set_66 67 rfl ?_
        refine zk_iald dX10_set_67 1 rfl 68 rfl ?_
        refine zk_nm (fun x5_1 => ?_)
        refine zk_istore [(5, .int x5_1), (4, .int s41_0), (0, .ref a.1), (1, .int x1), (2, .int x2), (3, .int x3)] dX10_set_68 (by decide) rfl 70 rfl ?_
        refine zk_aload_n dX10_set_70 2 rfl 71 rfl ?_
        refine zk_get dX10_set_71 0 rfl rfl kX10_set_inX10 0 (by decide) kX10_set_1 rfl 74 rfl ?_
        refine zk_iconst 2 dX10_set_74 (by decide) 75 rfl ?_
        refine zk_iload_n dX10_set_75 3 rfl 76 rfl ?_
        refine zk_iadd dX10_set_76 77 rfl ?_
        refine zk_iload_n dX10_set_77 4 rfl 78 rfl ?_
        refine zk_iast (gX10 E a ((upd v_z (2 + x1).toNatClampNeg x2), v_snaps, v_hasSnap, r57.1, r57.2.1, r57.2.2, v_before, v_spare, v_text, v_typed, v_failure, v_hasFailed, v_isQuiet, v_from, v_end, v_numbers)) dX10_set_78 1 rfl rfl 79 rfl ?_
        refine zk_nmw (fun v_z_2 => (gX10 E a (v_z_2, v_snaps, v_hasSnap, r57.1, r57.2.1, r57.2.2, v_before, v_spare, v_text, v_typed, v_failure, v_hasFailed, v_isQuiet, v_from, v_end, v_numbers))) _ rfl (fun v_z_2 => ?_)
        refine zk_iload dX10_set_79 0 rfl 81 rfl ?_
        exact zk_iret hQ dX10_set_81 rfl rfl
      · refine zk_iconst (-1) dX10_set_54 (by decide) 55 rfl ?_
        exact zk_iret hQ dX10_set_55 rfl rfl
  have J20 : ∀ (s20_0 : Int32) (v_z : (Nat → Int32)) (v_past : (Nat → Int32)) (v_pastHas : (Nat → Int32)) (v_pastMany : Int32), zk_G E l X cX10_set 6 (some .int) yX10_set.cls wsX10_set ({ frames := 2, cells := 0, slots := 0, locals := 42 } : Room) 0 0 Q (gX10 E a (v_z, v_snaps, v_hasSnap, v_past, v_pastHas, v_pastMany, v_before, v_spare, v_text, v_typed, v_failure, v_hasFailed, v_isQuiet, v_from, v_end, v_numbers)) [(0, .ref a.1), (1, .int x1), (2, .int x2)] 20 [.int s20_0] (f_X10_set_20 x1 x2 v_snaps v_hasSnap v_before v_isQuiet s20_0 v_z v_past v_pastHas v_pastMany) := by
    intro s20_0 v_z v_past v_pastHas v_pastMany
    unfold f_X10_set_20
    refine zk_istore_n [(3, .int s20_0), (0, .ref a.1), (1, .int x1), (2, .int x2)] dX10_set_20 (by decide) rfl 21 rfl ?_
    refine zk_iload_n dX10_set_21 2 rfl 22 rfl ?_
    refine zk_if_ne dX10_set_22 30 (by decide) 25 rfl (fun _ => ?_) (fun _ => ?_)
    · refine zk_bipush 20 dX10_set_25 (by decide) 27 rfl ?_
      refine zk_goto dX10_set_27 41 (by decide) ?_
      refine zk_lv [1, 2, 3, 0] rfl ?_
      exact J41   20 s20_0 v_z v_past v_pastHas v_pastMany
    · refine zk_iload_n dX10_set_30 2 rfl 31 rfl ?_
      refine zk_iconst 1 dX10_set_31 (by decide) 32 rfl ?_
      refine zk_icmp_ne dX10_set_32 40 (by decide) 35 rfl (fun _ => ?_) (fun _ => ?_)
      · refine zk_bipush 40 dX10_set_35 (by decide) 37 rfl ?_
        refine zk_goto dX10_set_37 41 (by decide) ?_
        refine zk_lv [1, 2, 3, 0] rfl ?_
        exact J41   40 s20_0 v_z v_past v_pastHas v_pastMany
      · refine zk_iconst 1 dX10_set_40 (by decide) 41 rfl ?_
        refine zk_lv [1, 2, 3, 0] rfl ?_
        exact J41   1 s20_0 v_z v_past v_pastHas v_pastMany
  refine zk_eqv (w1 := (gX10 E a (v_z, v_snaps, v_hasSnap, v_past, v_pastHas, v_pastMany, v_before, v_spare, v_text, v_typed, v_failure, v_hasFailed, v_isQuiet, v_from, v_end, v_numbers))) (lv1 := [(0, .ref a.1), (1, .int x1), (2, .int x2)]) (st1 := []) (o1 := f_X10_set x1 x2 v_z v_snaps v_hasSnap v_past v_pastHas v_pastMany v_before v_isQuiet) rfl rfl rfl rfl ?_
  unfold f_X10_set
  refine zk_iload_n dX10_set_0 1 rfl 1 rfl ?_
  refine zk_if_lt dX10_set_1 9 (by decide) 4 rfl (fun _ => ?_) (fun _ => ?_)
  · refine zk_iconst (-1) dX10_set_9 (by decide) 10 rfl ?_
    exact zk_iret hQ dX10_set_10 rfl rfl
  · refine zk_iload_n dX10_set_4 1 rfl 5 rfl ?_
    refine zk_iconst 2 dX10_set_5 (by decide) 6 rfl ?_
    refine zk_icmp_le dX10_set_6 11 (by decide) 9 rfl (fun _ => ?_) (fun _ => ?_)
    · refine zk_iload_n dX10_set_11 1 rfl 12 rfl ?_
      refine zk_if_ne dX10_set_12 19 (by decide) 15 rfl (fun _ => ?_) (fun _ => ?_)
      · refine zk_iconst 1 dX10_set_15 (by decide) 16 rfl ?_
        refine zk_goto dX10_set_16 20 (by decide) ?_
        exact J20   1 v_z v_past v_pastHas v_pastMany
      · refine zk_iconst 0 dX10_set_19 (by decide) 20 rfl ?_
        exact J20   0 v_z v_past v_pastHas v_pastMany
    · refine zk_iconst (-1) dX10_set_9 (by decide) 10 rfl ?_
      exact zk_iret hQ dX10_set_10 rfl rfl
def f_X10_append (x1 : Int32) (v_text : (Nat → Int32)) (v_typed : Int32) : Option (Int32 × (Nat → Int32) × Int32) := if x1 < 1 then some ((-1), v_text, v_typed) else if x1 ≤ 255 then if v_typed = 120 then some ((-3), v_text, v_typed) else zk_ck v_typed 120 (zk_let (upd v_text v_typed.toNatClampNeg (vp_nar .char (((x1).toUInt32 % 65536).toInt32))) fun v_text_1 => zk_let (v_typed + 1) fun v_typed_2 => some (v_typed_2, v_text_1, v_typed_2)) else some ((-1), v_text, v_typed)
theorem kX10_append_inX10 : ∀ w ∈ u_ws RX10 TX10 16, w ∈ wsX10_append := by decide +kernel
theorem kX10_append_1 : Cond.fieldLink RX10 104 (TX10 9).1 (TX10 9).2.1 (TX10 9).2.2.1 ∈ wsX10_append := by decide +kernel
theorem kX10_append_2 : Cond.fieldLink RX10 32 (TX10 8).1 (TX10 8).2.1 (TX10 8).2.2.1 ∈ wsX10_append := by decide +kernel
theorem cd_X10_append : yX10_append.cls = RX10 ∧ yX10_append.cls ≠ "java/lang/invoke/MethodHandle" ∧ yX10_append.cls ≠ "java/lang/invoke/VarHandle" ∧ (parseMethodDescriptor yX10_append.desc).map (fun d => d.parameters.length) = some 1 := by decide +kernel
set_option maxRecDepth 100000 in
set_option maxHeartbeats 4000000 in
theorem c_X10_append (E : zk_Env) (l : Launch) (a : aX10) (v : VX10) (x1 : Int32) : zk_Mc E l yX10_append wsX10_append ({ frames := 0, cells := 0, slots := 0, locals := 0 } : Room) [.ref a.1, .int x1] (gX10 E a v) (f_X10_append x1 v.2.2.2.2.2.2.2.2.1 v.2.2.2.2.2.2.2.2.2.1) (fun r => some (.int r.1)) (fun r => (gX10 E a (v.1, v.2.1, v.2.2.1, v.2.2.2.1, v.2.2.2.2.1, v.2.2.2.2.2.1, v.2.2.2.2.2.2.1, v.2.2.2.2.2.2.2.1, r.2.1, r.2.2, v.2.2.2.2.2.2.2.2.2.2))) := by
  obtain ⟨v_z, v_snaps, v_hasSnap, v_past, v_pastHas, v_pastMany, v_before, v_spare, v_text, v_typed, v_failure, v_hasFailed, v_isQuiet, v_from, v_end, v_numbers⟩ := v
  refine zk_M (cc := cX10_append) (nL := 2) (ret := (some .int)) (by decide) rfl (Nat.le_of_ble_eq_true rfl) (fun X Q hQ => ?_)
  refine zk_eqv (w1 := (gX10 E a (v_z, v_snaps, v_hasSnap, v_past, v_pastHas, v_pastMany, v_before, v_spare, v_text, v_typed, v_failure, v_hasFailed, v_isQuiet, v_from, v_end, v_numbers))) (lv1 := [(0, .ref a.1), (1, .int x1)]) (st1 := []) (o1 := f_X10_append x1 v_text v_typed) rfl rfl rfl rfl ?_
  unfold f_X10_append
  refine zk_iload_n dX10_append_0 1 rfl 1 rfl ?_
  refine zk_iconst 1 dX10_append_1 (by decide) 2 rfl ?_
  refine zk_icmp_lt dX10_append_2 12 (by decide) 5 rfl (fun _ => ?_) (fun _ => ?_)
  · refine zk_iconst (-1) dX10_append_12 (by decide) 13 rfl ?_
    exact zk_iret hQ dX10_append_13 rfl rfl
  · refine zk_iload_n dX10_append_5 1 rfl 6 rfl ?_
    refine zk_sipush 255 dX10_append_6 (by decide) 9 rfl ?_
    refine zk_icmp_le dX10_append_9 14 (by decide) 12 rfl (fun _ => ?_) (fun _ => ?_)
    · refine zk_aload_n dX10_append_14 0 rfl 15 rfl ?_
      refine zk_get dX10_append_15 0 rfl rfl kX10_append_inX10 9 (by decide) kX10_append_1 rfl 18 rfl ?_
      refine zk_bipush 120 dX10_append_18 (by decide) 20 rfl ?_
      refine zk_icmp_ne dX10_append_20 26 (by decide) 23 rfl (fun _ => ?_) (fun _ => ?_)
      · refine zk_bipush (-3) dX10_append_23 (by decide) 25 rfl ?_
        exact zk_iret hQ dX10_append_25 rfl rfl
      · refine zk_aload_n dX10_append_26 0 rfl 27 rfl ?_
        refine zk_get dX10_append_27 0 rfl rfl kX10_append_inX10 8 (by decide) kX10_append_2 rfl 30 rfl ?_
        refine zk_aload_n dX10_append_30 0 rfl 31 rfl ?_
        refine zk_get dX10_append_31 0 rfl rfl kX10_append_inX10 9 (by decide) kX10_append_1 rfl 34 rfl ?_
        refine zk_iload_n dX10_append_34 1 rfl 35 rfl ?_
        refine zk_i2c dX10_append_35 36 rfl ?_
        refine zk_cast (gX10 E a (v_z, v_snaps, v_hasSnap, v_past, v_pastHas, v_pastMany, v_before, v_spare, (upd v_text v_typed.toNatClampNeg (vp_nar .char (((x1).toUInt32 % 65536).toInt32))), v_typed, v_failure, v_hasFailed, v_isQuiet, v_from, v_end, v_numbers)) dX10_append_36 8 rfl rfl 37 rfl ?_
        refine zk_nmw (fun v_text_1 => (gX10 E a (v_z, v_snaps, v_hasSnap, v_past, v_pastHas, v_pastMany, v_before, v_spare, v_text_1, v_typed, v_failure, v_hasFailed, v_isQuiet, v_from, v_end, v_numbers))) _ rfl (fun v_text_1 => ?_)
        refine zk_aload_n dX10_append_37 0 rfl 38 rfl ?_
        refine zk_dup dX10_append_38 rfl 39 rfl ?_
        refine zk_get dX10_append_39 0 rfl rfl kX10_append_inX10 9 (by decide) kX10_append_1 rfl 42 rfl ?_
        refine zk_iconst 1 dX10_append_42 (by decide) 43 rfl ?_
        refine zk_iadd dX10_append_43 44 rfl ?_
        refine zk_nm (fun v_typed_2 => ?_)
        refine zk_put_ tyX10 (gX10 E a (v_z, v_snaps, v_hasSnap, v_past, v_pastHas, v_pastMany, v_before, v_spare, v_text_1, v_typed_2, v_failure, v_hasFailed, v_isQuiet, v_from, v_end, v_numbers)) dX10_append_44 0 rfl rfl kX10_append_inX10 tyX10_ok nmX10 9 (by decide) kX10_append_1 rfl (tyX10_ok 9 (by decide)) rfl rfl (Nat.le_of_ble_eq_true rfl) rfl 47 rfl ?_
        refine zk_aload_n dX10_append_47 0 rfl 48 rfl ?_
        refine zk_get dX10_append_48 0 rfl rfl kX10_append_inX10 9 (by decide) kX10_append_1 rfl 51 rfl ?_
        exact zk_iret hQ dX10_append_51 rfl rfl
    · refine zk_iconst (-1) dX10_append_12 (by decide) 13 rfl ?_
      exact zk_iret hQ dX10_append_13 rfl rfl
def f_X10_clearText (v_typed : Int32) : Option (Int32 × Int32) := some (v_typed, 0)
theorem kX10_clearText_inX10 : ∀ w ∈ u_ws RX10 TX10 16, w ∈ wsX10_clearText := by decide +kernel
theorem kX10_clearText_1 : Cond.fieldLink RX10 104 (TX10 9).1 (TX10 9).2.1 (TX10 9).2.2.1 ∈ wsX10_clearText := by decide +kernel
theorem cd_X10_clearText : yX10_clearText.cls = RX10 ∧ yX10_clearText.cls ≠ "java/lang/invoke/MethodHandle" ∧ yX10_clearText.cls ≠ "java/lang/invoke/VarHandle" ∧ (parseMethodDescriptor yX10_clearText.desc).map (fun d => d.parameters.length) = some 0 := by decide +kernel
set_option maxRecDepth 100000 in
set_option maxHeartbeats 4000000 in
theorem c_X10_clearText (E : zk_Env) (l : Launch) (a : aX10) (v : VX10)  : zk_Mc E l yX10_clearText wsX10_clearText ({ frames := 0, cells := 0, slots := 0, locals := 0 } : Room) [.ref a.1] (gX10 E a v) (f_X10_clearText v.2.2.2.2.2.2.2.2.2.1) (fun r => some (.int r.1)) (fun r => (gX10 E a (v.1, v.2.1, v.2.2.1, v.2.2.2.1, v.2.2.2.2.1, v.2.2.2.2.2.1, v.2.2.2.2.2.2.1, v.2.2.2.2.2.2.2.1, v.2.2.2.2.2.2.2.2.1, r.2, v.2.2.2.2.2.2.2.2.2.2))) := by
  obtain ⟨v_z, v_snaps, v_hasSnap, v_past, v_pastHas, v_pastMany, v_before, v_spare, v_text, v_typed, v_failure, v_hasFailed, v_isQuiet, v_from, v_end, v_numbers⟩ := v
  refine zk_M (cc := cX10_clearText) (nL := 2) (ret := (some .int)) (by decide) rfl (Nat.le_of_ble_eq_true rfl) (fun X Q hQ => ?_)
  refine zk_eqv (w1 := (gX10 E a (v_z, v_snaps, v_hasSnap, v_past, v_pastHas, v_pastMany, v_before, v_spare, v_text, v_typed, v_failure, v_hasFailed, v_isQuiet, v_from, v_end, v_numbers))) (lv1 := [(0, .ref a.1)]) (st1 := []) (o1 := f_X10_clearText v_typed) rfl rfl rfl rfl ?_
  unfold f_X10_clearText
  refine zk_aload_n dX10_clearText_0 0 rfl 1 rfl ?_
  refine zk_get dX10_clearText_1 0 rfl rfl kX10_clearText_inX10 9 (by decide) kX10_clearText_1 rfl 4 rfl ?_
  refine zk_istore_n [(1, .int v_typed), (0, .ref a.1)] dX10_clearText_4 (by decide) rfl 5 rfl ?_
  refine zk_aload_n dX10_clearText_5 1 rfl 6 rfl ?_
  refine zk_iconst 0 dX10_clearText_6 (by decide) 7 rfl ?_
  refine zk_put_ tyX10 (gX10 E a (v_z, v_snaps, v_hasSnap, v_past, v_pastHas, v_pastMany, v_before, v_spare, v_text, 0, v_failure, v_hasFailed, v_isQuiet, v_from, v_end, v_numbers)) dX10_clearText_7 0 rfl rfl kX10_clearText_inX10 tyX10_ok nmX10 9 (by decide) kX10_clearText_1 rfl (tyX10_ok 9 (by decide)) rfl rfl (Nat.le_of_ble_eq_true rfl) rfl 10 rfl ?_
  refine zk_iload_n dX10_clearText_10 0 rfl 11 rfl ?_
  exact zk_iret hQ dX10_clearText_11 rfl rfl
def f_X10_isSmall (x1 : Int32) (v_text : (Nat → Int32)) (v_typed : Int32) : Option (Int32) := if v_typed ≤ x1 then some 0 else zk_ck x1 120 (if (v_text x1.toNatClampNeg) < 97 then some 0 else zk_ck x1 120 (if 122 < (v_text x1.toNatClampNeg) then some 0 else some 1))
theorem kX10_isSmall_inX10 : ∀ w ∈ u_ws RX10 TX10 16, w ∈ wsX10_isSmall := by decide +kernel
theorem kX10_isSmall_1 : Cond.fieldLink RX10 104 (TX10 9).1 (TX10 9).2.1 (TX10 9).2.2.1 ∈ wsX10_isSmall := by decide +kernel
theorem kX10_isSmall_2 : Cond.fieldLink RX10 32 (TX10 8).1 (TX10 8).2.1 (TX10 8).2.2.1 ∈ wsX10_isSmall := by decide +kernel
theorem cd_X10_isSmall : yX10_isSmall.cls = RX10 ∧ yX10_isSmall.cls ≠ "java/lang/invoke/MethodHandle" ∧ yX10_isSmall.cls ≠ "java/lang/invoke/VarHandle" ∧ (parseMethodDescriptor yX10_isSmall.desc).map (fun d => d.parameters.length) = some 1 := by decide +kernel
set_option maxRecDepth 100000 in
set_option maxHeartbeats 4000000 in
theorem c_X10_isSmall (E : zk_Env) (l : Launch) (a : aX10) (v : VX10) (x1 : Int32) : zk_Mc E l yX10_isSmall wsX10_isSmall ({ frames := 0, cells := 0, slots := 0, locals := 0 } : Room) [.ref a.1, .int x1] (gX10 E a v) (f_X10_isSmall x1 v.2.2.2.2.2.2.2.2.1 v.2.2.2.2.2.2.2.2.2.1) (fun r => some (.int r)) (fun r => (gX10 E a v)) := by
  obtain ⟨v_z, v_snaps, v_hasSnap, v_past, v_pastHas, v_pastMany, v_before, v_spare, v_text, v_typed, v_failure, v_hasFailed, v_isQuiet, v_from, v_end, v_numbers⟩ := v
  refine zk_M (cc := cX10_isSmall) (nL := 2) (ret := (some .boolean)) (by decide) rfl (Nat.le_of_ble_eq_true rfl) (fun X Q hQ => ?_)
  refine zk_eqv (w1 := (gX10 E a (v_z, v_snaps, v_hasSnap, v_past, v_pastHas, v_pastMany, v_before, v_spare, v_text, v_typed, v_failure, v_hasFailed, v_isQuiet, v_from, v_end, v_numbers))) (lv1 := [(0, .ref a.1), (1, .int x1)]) (st1 := []) (o1 := f_X10_isSmall x1 v_text v_typed) rfl rfl rfl rfl ?_
  unfold f_X10_isSmall
  refine zk_iload_n dX10_isSmall_0 1 rfl 1 rfl ?_
  refine zk_aload_n dX10_isSmall_1 0 rfl 2 rfl ?_
  refine zk_get dX10_isSmall_2 0 rfl rfl kX10_isSmall_inX10 9 (by decide) kX10_isSmall_1 rfl 5 rfl ?_
  refine zk_icmp_ge dX10_isSmall_5 34 (by decide) 8 rfl (fun _ => ?_) (fun _ => ?_)
  · refine zk_iconst 0 dX10_isSmall_34 (by decide) 35 rfl ?_
    exact zk_zretL hQ dX10_isSmall_35 (Or.inl rfl) rfl rfl
  · refine zk_aload_n dX10_isSmall_8 0 rfl 9 rfl ?_
    refine zk_get dX10_isSmall_9 0 rfl rfl kX10_isSmall_inX10 8 (by decide) kX10_isSmall_2 rfl 12 rfl ?_
    refine zk_iload_n dX10_isSmall_12 1 rfl 13 rfl ?_
    refine zk_cald dX10_isSmall_13 8 rfl 14 rfl ?_
    refine zk_bipush 97 dX10_isSmall_14 (by decide) 16 rfl ?_
    refine zk_icmp_lt dX10_isSmall_16 34 (by decide) 19 rfl (fun _ => ?_) (fun _ => ?_)
    · refine zk_iconst 0 dX10_isSmall_34 (by decide) 35 rfl ?_
      exact zk_zretL hQ dX10_isSmall_35 (Or.inl rfl) rfl rfl
    · refine zk_aload_n dX10_isSmall_19 0 rfl 20 rfl ?_
      refine zk_get dX10_isSmall_20 0 rfl rfl kX10_isSmall_inX10 8 (by decide) kX10_isSmall_2 rfl 23 rfl ?_
      refine zk_iload_n dX10_isSmall_23 1 rfl 24 rfl ?_
      refine zk_cald dX10_isSmall_24 8 rfl 25 rfl ?_
      refine zk_bipush 122 dX10_isSmall_25 (by decide) 27 rfl ?_
      refine zk_icmp_gt dX10_isSmall_27 34 (by decide) 30 rfl (fun _ => ?_) (fun _ => ?_)
      · refine zk_iconst 0 dX10_isSmall_34 (by decide) 35 rfl ?_
        exact zk_zretL hQ dX10_isSmall_35 (Or.inl rfl) rfl rfl
      · refine zk_iconst 1 dX10_isSmall_30 (by decide) 31 rfl ?_
        refine zk_goto dX10_isSmall_31 35 (by decide) ?_
        exact zk_zretL hQ dX10_isSmall_35 (Or.inr rfl) rfl rfl
def f_X10_isDigit (x1 : Int32) (v_text : (Nat → Int32)) (v_typed : Int32) : Option (Int32) := if v_typed ≤ x1 then some 0 else zk_ck x1 120 (if (v_text x1.toNatClampNeg) < 48 then some 0 else zk_ck x1 120 (if 57 < (v_text x1.toNatClampNeg) then some 0 else some 1))
theorem kX10_isDigit_inX10 : ∀ w ∈ u_ws RX10 TX10 16, w ∈ wsX10_isDigit := by decide +kernel
theorem kX10_isDigit_1 : Cond.fieldLink RX10 104 (TX10 9).1 (TX10 9).2.1 (TX10 9).2.2.1 ∈ wsX10_isDigit := by decide +kernel
theorem kX10_isDigit_2 : Cond.fieldLink RX10 32 (TX10 8).1 (TX10 8).2.1 (TX10 8).2.2.1 ∈ wsX10_isDigit := by decide +kernel
theorem cd_X10_isDigit : yX10_isDigit.cls = RX10 ∧ yX10_isDigit.cls ≠ "java/lang/invoke/MethodHandle" ∧ yX10_isDigit.cls ≠ "java/lang/invoke/VarHandle" ∧ (parseMethodDescriptor yX10_isDigit.desc).map (fun d => d.parameters.length) = some 1 := by decide +kernel
set_option maxRecDepth 100000 in
set_option maxHeartbeats 4000000 in
theorem c_X10_isDigit (E : zk_Env) (l : Launch) (a : aX10) (v : VX10) (x1 : Int32) : zk_Mc E l yX10_isDigit wsX10_isDigit ({ frames := 0, cells := 0, slots := 0, locals := 0 } : Room) [.ref a.1, .int x1] (gX10 E a v) (f_X10_isDigit x1 v.2.2.2.2.2.2.2.2.1 v.2.2.2.2.2.2.2.2.2.1) (fun r => some (.int r)) (fun r => (gX10 E a v)) := by
  obtain ⟨v_z, v_snaps, v_hasSnap, v_past, v_pastHas, v_pastMany, v_before, v_spare, v_text, v_typed, v_failure, v_hasFailed, v_isQuiet, v_from, v_end, v_numbers⟩ := v
  refine zk_M (cc := cX10_isDigit) (nL := 2) (ret := (some .boolean)) (by decide) rfl (Nat.le_of_ble_eq_true rfl) (fun X Q hQ => ?_)
  refine zk_eqv (w1 := (gX10 E a (v_z, v_snaps, v_hasSnap, v_past, v_pastHas, v_pastMany, v_before, v_spare, v_text, v_typed, v_failure, v_hasFailed, v_isQuiet, v_from, v_end, v_numbers))) (lv1 := [(0, .ref a.1), (1, .int x1)]) (st1 := []) (o1 := f_X10_isDigit x1 v_text v_typed) rfl rfl rfl rfl ?_
  unfold f_X10_isDigit
  refine zk_iload_n dX10_isDigit_0 1 rfl 1 rfl ?_
  refine zk_aload_n dX10_isDigit_1 0 rfl 2 rfl ?_
  refine zk_get dX10_isDigit_2 0 rfl rfl kX10_isDigit_inX10 9 (by decide) kX10_isDigit_1 rfl 5 rfl ?_
  refine zk_icmp_ge dX10_isDigit_5 34 (by decide) 8 rfl (fun _ => ?_) (fun _ => ?_)
  · refine zk_iconst 0 dX10_isDigit_34 (by decide) 35 rfl ?_
    exact zk_zretL hQ dX10_isDigit_35 (Or.inl rfl) rfl rfl
  · refine zk_aload_n dX10_isDigit_8 0 rfl 9 rfl ?_
    refine zk_get dX10_isDigit_9 0 rfl rfl kX10_isDigit_inX10 8 (by decide) kX10_isDigit_2 rfl 12 rfl ?_
    refine zk_iload_n dX10_isDigit_12 1 rfl 13 rfl ?_
    refine zk_cald dX10_isDigit_13 8 rfl 14 rfl ?_
    refine zk_bipush 48 dX10_isDigit_14 (by decide) 16 rfl ?_
    refine zk_icmp_lt dX10_isDigit_16 34 (by decide) 19 rfl (fun _ => ?_) (fun _ => ?_)
    · refine zk_iconst 0 dX10_isDigit_34 (by decide) 35 rfl ?_
      exact zk_zretL hQ dX10_isDigit_35 (Or.inl rfl) rfl rfl
    · refine zk_aload_n dX10_isDigit_19 0 rfl 20 rfl ?_
      refine zk_get dX10_isDigit_20 0 rfl rfl kX10_isDigit_inX10 8 (by decide) kX10_isDigit_2 rfl 23 rfl ?_
      refine zk_iload_n dX10_isDigit_23 1 rfl 24 rfl ?_
      refine zk_cald dX10_isDigit_24 8 rfl 25 rfl ?_
      refine zk_bipush 57 dX10_isDigit_25 (by decide) 27 rfl ?_
      refine zk_icmp_gt dX10_isDigit_27 34 (by decide) 30 rfl (fun _ => ?_) (fun _ => ?_)
      · refine zk_iconst 0 dX10_isDigit_34 (by decide) 35 rfl ?_
        exact zk_zretL hQ dX10_isDigit_35 (Or.inl rfl) rfl rfl
      · refine zk_iconst 1 dX10_isDigit_30 (by decide) 31 rfl ?_
        refine zk_goto dX10_isDigit_31 35 (by decide) ?_
        exact zk_zretL hQ dX10_isDigit_35 (Or.inr rfl) rfl rfl
def f_X10_readToken_145 (s145_1 : Int32) (s145_2 : Int32) (v_from : Int32) (v_end : Int32) : Option (Int32 × Int32) := zk_let (s145_1 + s145_2) fun v_end_4 => some (v_from, v_end_4)
def F_X10_readToken_100 (v_text : (Nat → Int32)) (v_typed : Int32) (v_from : Int32) (k100 : Int32 → Option (Int32 × Int32)) : Int32 → Option (Int32 × Int32) := fun v_end => (f_X10_isDigit v_end v_text v_typed).bind fun r105 => if r105 = 0 then some (v_from, v_end) else zk_let (v_end + 1) fun v_end_3 => k100 v_end_3
def F_X10_readToken_65 (v_text : (Nat → Int32)) (v_typed : Int32) (v_from : Int32) (k65 : Int32 → Option (Int32 × Int32)) : Int32 → Option (Int32 × Int32) := fun v_end => (f_X10_isSmall v_end v_text v_typed).bind fun r70 => if r70 = 0 then some (v_from, v_end) else zk_let (v_end + 1) fun v_end_2 => k65 v_end_2
def f_X10_readToken_46 (v_text : (Nat → Int32)) (v_typed : Int32) (v_from : Int32) (v_end : Int32) : Option (Int32 × Int32) := (f_X10_isSmall v_from v_text v_typed).bind fun r59 => if r59 = 0 then (f_X10_isDigit v_from v_text v_typed).bind fun r94 => if r94 = 0 then if v_typed ≤ v_from then f_X10_readToken_145 v_from 0 v_from v_from else f_X10_readToken_145 v_from 1 v_from v_from else zk_fx (F_X10_readToken_100 v_text v_typed v_from ) zk_N v_from else zk_fx (F_X10_readToken_65 v_text v_typed v_from ) zk_N v_from
def F_X10_readToken_8 (v_text : (Nat → Int32)) (v_typed : Int32) (v_end : Int32) (k8 : Int32 → Option (Int32 × Int32)) : Int32 → Option (Int32 × Int32) := fun v_from => if v_typed ≤ v_from then f_X10_readToken_46 v_text v_typed v_from v_end else zk_ck v_from 120 (if (v_text v_from.toNatClampNeg) = 32 then zk_let (v_from + 1) fun v_from_1 => k8 v_from_1 else f_X10_readToken_46 v_text v_typed v_from v_end)
def f_X10_readToken (v_text : (Nat → Int32)) (v_typed : Int32) (v_end : Int32) : Option (Int32 × Int32) := zk_fx (F_X10_readToken_8 v_text v_typed v_end ) zk_N v_end
theorem kX10_readToken_inX10 : ∀ w ∈ u_ws RX10 TX10 16, w ∈ wsX10_readToken := by decide +kernel
theorem kX10_readToken_1 : Cond.fieldLink RX10 107 (TX10 14).1 (TX10 14).2.1 (TX10 14).2.2.1 ∈ wsX10_readToken := by decide +kernel
theorem kX10_readToken_2 : Cond.fieldLink RX10 110 (TX10 13).1 (TX10 13).2.1 (TX10 13).2.2.1 ∈ wsX10_readToken := by decide +kernel
theorem kX10_readToken_3 : Cond.fieldLink RX10 104 (TX10 9).1 (TX10 9).2.1 (TX10 9).2.2.1 ∈ wsX10_readToken := by decide +kernel
theorem kX10_readToken_4 : Cond.fieldLink RX10 32 (TX10 8).1 (TX10 8).2.1 (TX10 8).2.2.1 ∈ wsX10_readToken := by decide +kernel
theorem cd_X10_readToken : yX10_readToken.cls = RX10 ∧ yX10_readToken.cls ≠ "java/lang/invoke/MethodHandle" ∧ yX10_readToken.cls ≠ "java/lang/invoke/VarHandle" ∧ (parseMethodDescriptor yX10_readToken.desc).map (fun d => d.parameters.length) = some 0 := by decide +kernel
set_option maxRecDepth 100000 in
set_option maxHeartbeats 4000000 in
theorem c_X10_readToken (E : zk_Env) (l : Launch) (a : aX10) (v : VX10)  : zk_Mc E l yX10_readToken wsX10_readToken ({ frames := 1, cells := 0, slots := 0, locals := 21 } : Room) [.ref a.1] (gX10 E a v) (f_X10_readToken v.2.2.2.2.2.2.2.2.1 v.2.2.2.2.2.2.2.2.2.1 v.2.2.2.2.2.2.2.2.2.2.2.2.2.2.1) (fun _ => none) (fun r => (gX10 E a (v.1, v.2.1, v.2.2.1, v.2.2.2.1, v.2.2.2.2.1, v.2.2.2.2.2.1, v.2.2.2.2.2.2.1, v.2.2.2.2.2.2.2.1, v.2.2.2.2.2.2.2.2.1, v.2.2.2.2.2.2.2.2.2.1, v.2.2.2.2.2.2.2.2.2.2.1, v.2.2.2.2.2.2.2.2.2.2.2.1, v.2.2.2.2.2.2.2.2.2.2.2.2.1, r.1, r.2, v.2.2.2.2.2.2.2.2.2.2.2.2.2.2.2))) := by
  obtain ⟨v_z, v_snaps, v_hasSnap, v_past, v_pastHas, v_pastMany, v_before, v_spare, v_text, v_typed, v_failure, v_hasFailed, v_isQuiet, v_from, v_end, v_numbers⟩ := v
  refine zk_M (cc := cX10_readToken) (nL := 1) (ret := none) (by decide) rfl (Nat.le_of_ble_eq_true rfl) (fun X Q hQ => ?_)
  have J145 : ∀ (s145_1 : Int32) (s145_2 : Int32) (v_from : Int32) (v_end : Int32), zk_G E l X cX10_readToken 1 none yX10_readToken.cls wsX10_readToken ({ frames := 1, cells := 0, slots := 0, locals := 21 } : Room) 0 0 Q (gX10 E a (v_z, v_snaps, v_hasSnap, v_past, v_pastHas, v_pastMany, v_before, v_spare, v_text, v_typed, v_failure, v_hasFailed, v_isQuiet, v_from, v_end, v_numbers)) [] 145 [.int s145_2, .int s145_1, .ref a.1] (f_X10_readToken_145 s145_1 s145_2 v_from v_end) := by
    intro s145_1 s145_2 v_from v_end
    unfold f_X10_readToken_145
    refine zk_iadd dX10_readToken_145 146 rfl ?_
    refine zk_nm (fun v_end_4 => ?_)
    refine zk_put_ tyX10 (gX10 E a (v_z, v_snaps, v_hasSnap, v_past, v_pastHas, v_pastMany, v_before, v_spare, v_text, v_typed, v_failure, v_hasFailed, v_isQuiet, v_from, v_end_4, v_numbers)) dX10_readToken_146 0 rfl rfl kX10_readToken_inX10 tyX10_ok nmX10 14 (by decide) kX10_readToken_1 rfl (tyX10_ok 14 (by decide)) rfl rfl (Nat.le_of_ble_eq_true rfl) rfl 149 rfl ?_
    exact zk_vret hQ dX10_readToken_149 rfl rfl
  have J100 : ∀ (v_from : Int32) (n : Nat) (v_end : Int32), zk_G E l X cX10_readToken 1 none yX10_readToken.cls wsX10_readToken ({ frames := 1, cells := 0, slots := 0, locals := 21 } : Room) 0 0 Q (gX10 E a (v_z, v_snaps, v_hasSnap, v_past, v_pastHas, v_pastMany, v_before, v_spare, v_text, v_typed, v_failure, v_hasFailed, v_isQuiet, v_from, v_end, v_numbers)) [(0, .ref a.1)] 100 [] (zk_fx (F_X10_readToken_100 v_text v_typed v_from ) n v_end) := by
    intro v_from n v_end
    refine zk_loop (S := Int32) (F := F_X10_readToken_100 v_text v_typed v_from) (wS := fun s => (gX10 E a (v_z, v_snaps, v_hasSnap, v_past, v_pastHas, v_pastMany, v_before, v_spare, v_text, v_typed, v_failure, v_hasFailed, v_isQuiet, v_from, s, v_numbers))) (lS := fun s => [(0, .ref a.1)]) (sS := fun _ => []) (fun k100 hk100 v_end => ?_) n v_end
    unfold F_X10_readToken_100
    try dsimp only
    refine zk_aload_n dX10_readToken_100 0 rfl 101 rfl ?_
    refine zk_aload_n dX10_readToken_101 0 rfl 102 rfl ?_
    refine zk_get dX10_readToken_102 0 rfl rfl kX10_readToken_inX10 14 (by decide) kX10_readToken_1 rfl 105 rfl ?_
    refine zk_callV (ci := 10) (st := []) (c_X10_isDigit E l a (v_z, v_snaps, v_hasSnap, v_past, v_pastHas, v_pastMany, v_before, v_spare, v_text, v_typed, v_failure, v_hasFailed, v_isQuiet, v_from, v_end, v_numbers) v_end) dX10_readToken_105 1 gX10_readToken_X10_isDigit rfl rfl rfl cd_X10_isDigit ⟨Nat.le_of_ble_eq_true rfl, Nat.le_of_ble_eq_true rfl⟩ ⟨Nat.zero_le _, Nat.zero_le _⟩ _ (fun r105 => (gX10 E a (v_z, v_snaps, v_hasSnap, v_past, v_pastHas, v_pastMany, v_before, v_spare, v_text, v_typed, v_failure, v_hasFailed, v_isQuiet, v_from, v_end, v_numbers))) zk_pa (fun r105 => zk_qa) rfl rfl rfl rfl (Nat.le_of_ble_eq_true rfl) (fun r105 => [.int r105]) (fun _ => rfl) 108 rfl (fun r105 => ?_)
    refine zk_if_eq dX10_readToken_108 149 (by decide) 111 rfl (fun _ => ?_) (fun _ => ?_)
    · exact zk_vret hQ dX10_readToken_149 rfl rfl
    · refine zk_aload_n dX10_readToken_111 0 rfl 112 rfl ?_
      refine zk_dup dX10_readToken_112 rfl 113 rfl ?_
      refine zk_get dX10_readToken_113 0 rfl rfl kX10_readToken_inX10 14 (by decide) kX10_readToken_1 rfl 116 rfl ?_
      refine zk_iconst 1 dX10_readToken_116 (by decide) 117 rfl ?_
      refine zk_iadd dX10_readToken_117 118 rfl ?_
      refine zk_nm (fun v_end_3 => ?_)
      refine zk_put_ tyX10 (gX10 E a (v_z, v_snaps, v_hasSnap, v_past, v_pastHas, v_pastMany, v_before, v_spare, v_text, v_typed, v_failure, v_hasFailed, v_isQuiet, v_from, v_end_3, v_numbers)) dX10_readToken_118 0 rfl rfl kX10_readToken_inX10 tyX10_ok nmX10 14 (by decide) kX10_readToken_1 rfl (tyX10_ok 14 (by decide)) rfl rfl (Nat.le_of_ble_eq_true rfl) rfl 121 rfl ?_
      refine zk_goto dX10_readToken_121 100 (by decide) ?_
      exact hk100 v_end_3
  have J65 : ∀ (v_from : Int32) (n : Nat) (v_end : Int32), zk_G E l X cX10_readToken 1 none yX10_readToken.cls wsX10_readToken ({ frames := 1, cells := 0, slots := 0, locals := 21 } : Room) 0 0 Q (gX10 E a (v_z, v_snaps, v_hasSnap, v_past, v_pastHas, v_pastMany, v_before, v_spare, v_text, v_typed, v_failure, v_hasFailed, v_isQuiet, v_from, v_end, v_numbers)) [(0, .ref a.1)] 65 [] (zk_fx (F_X10_readToken_65 v_text v_typed v_from ) n v_end) := by
    intro v_from n v_end
    refine zk_loop (S := Int32) (F := F_X10_readToken_65 v_text v_typed v_from) (wS := fun s => (gX10 E a (v_z, v_snaps, v_hasSnap, v_past, v_pastHas, v_pastMany, v_before, v_spare, v_text, v_typed, v_failure, v_hasFailed, v_isQuiet, v_from, s, v_numbers))) (lS := fun s => [(0, .ref a.1)]) (sS := fun _ => []) (fun k65 hk65 v_end => ?_) n v_end
    unfold F_X10_readToken_65
    try dsimp only
    refine zk_aload_n dX10_readToken_65 0 rfl 66 rfl ?_
    refine zk_aload_n dX10_readToken_66 0 rfl 67 rfl ?_
    refine zk_get dX10_readToken_67 0 rfl rfl kX10_readToken_inX10 14 (by decide) kX10_readToken_1 rfl 70 rfl ?_
    refine zk_callV (ci := 10) (st := []) (c_X10_isSmall E l a (v_z, v_snaps, v_hasSnap, v_past, v_pastHas, v_pastMany, v_before, v_spare, v_text, v_typed, v_failure, v_hasFailed, v_isQuiet, v_from, v_end, v_numbers) v_end) dX10_readToken_70 1 gX10_readToken_X10_isSmall rfl rfl rfl cd_X10_isSmall ⟨Nat.le_of_ble_eq_true rfl, Nat.le_of_ble_eq_true rfl⟩ ⟨Nat.zero_le _, Nat.zero_le _⟩ _ (fun r70 => (gX10 E a (v_z, v_snaps, v_hasSnap, v_past, v_pastHas, v_pastMany, v_before, v_spare, v_text, v_typed, v_failure, v_hasFailed, v_isQuiet, v_from, v_end, v_numbers))) zk_pa (fun r70 => zk_qa) rfl rfl rfl rfl (Nat.le_of_ble_eq_true rfl) (fun r70 => [.int r70]) (fun _ => rfl) 73 rfl (fun r70 => ?_)
    refine zk_if_eq dX10_readToken_73 149 (by decide) 76 rfl (fun _ => ?_) (fun _ => ?_)
    · exact zk_vret hQ dX10_readToken_149 rfl rfl
    · refine zk_aload_n dX10_readToken_76 0 rfl 77 rfl ?_
      refine zk_dup dX10_readToken_77 rfl 78 rfl ?_
      refine zk_get dX10_readToken_78 0 rfl rfl kX10_readToken_inX10 14 (by decide) kX10_readToken_1 rfl 81 rfl ?_
      refine zk_iconst 1 dX10_readToken_81 (by decide) 82 rfl ?_
      refine zk_iadd dX10_readToken_82 83 rfl ?_
      refine zk_nm (fun v_end_2 => ?_)
      refine zk_put_ tyX10 (gX10 E a (v_z, v_snaps, v_hasSnap, v_past, v_pastHas, v_pastMany, v_before, v_spare, v_text, v_typed, v_failure, v_hasFailed, v_isQuiet, v_from, v_end_2, v_numbers)) dX10_readToken_83 0 rfl rfl kX10_readToken_inX10 tyX10_ok nmX10 14 (by decide) kX10_readToken_1 rfl (tyX10_ok 14 (by decide)) rfl rfl (Nat.le_of_ble_eq_true rfl) rfl 86 rfl ?_
      refine zk_goto dX10_readToken_86 65 (by decide) ?_
      exact hk65 v_end_2
  have J46 : ∀ (v_from : Int32) (v_end : Int32), zk_G E l X cX10_readToken 1 none yX10_readToken.cls wsX10_readToken ({ frames := 1, cells := 0, slots := 0, locals := 21 } : Room) 0 0 Q (gX10 E a (v_z, v_snaps, v_hasSnap, v_past, v_pastHas, v_pastMany, v_before, v_spare, v_text, v_typed, v_failure, v_hasFailed, v_isQuiet, v_from, v_end, v_numbers)) [(0, .ref a.1)] 46 [] (f_X10_readToken_46 v_text v_typed v_from v_end) := by
    intro v_from v_end
    unfold f_X10_readToken_46
    refine zk_aload_n dX10_readToken_46 0 rfl 47 rfl ?_
    refine zk_aload_n dX10_readToken_47 0 rfl 48 rfl ?_
    refine zk_get dX10_readToken_48 0 rfl rfl kX10_readToken_inX10 13 (by decide) kX10_readToken_2 rfl 51 rfl ?_
    refine zk_put_ tyX10 (gX10 E a (v_z, v_snaps, v_hasSnap, v_past, v_pastHas, v_pastMany, v_before, v_spare, v_text, v_typed, v_failure, v_hasFailed, v_isQuiet, v_from, v_from, v_numbers)) dX10_readToken_51 0 rfl rfl kX10_readToken_inX10 tyX10_ok nmX10 14 (by decide) kX10_readToken_1 rfl (tyX10_ok 14 (by decide)) rfl rfl (Nat.le_of_ble_eq_true rfl) rfl 54 rfl ?_
    refine zk_aload_n dX10_readToken_54 0 rfl 55 rfl ?_
    refine zk_aload_n dX10_readToken_55 0 rfl 56 rfl ?_
    refine zk_get dX10_readToken_56 0 rfl rfl kX10_readToken_inX10 13 (by decide) kX10_readToken_2 rfl 59 rfl ?_
    refine zk_callV (ci := 10) (st := []) (c_X10_isSmall E l a (v_z, v_snaps, v_hasSnap, v_past, v_pastHas, v_pastMany, v_before, v_spare, v_text, v_typed, v_failure, v_hasFailed, v_isQuiet, v_from, v_from, v_numbers) v_from) dX10_readToken_59 1 gX10_readToken_X10_isSmall rfl rfl rfl cd_X10_isSmall ⟨Nat.le_of_ble_eq_true rfl, Nat.le_of_ble_eq_true rfl⟩ ⟨Nat.zero_le _, Nat.zero_le _⟩ _ (fun r59 => (gX10 E a (v_z, v_snaps, v_hasSnap, v_past, v_pastHas, v_pastMany, v_before, v_spare, v_text, v_typed, v_failure, v_hasFailed, v_isQuiet, v_from, v_from, v_numbers))) zk_pa (fun r59 => zk_qa) rfl rfl rfl rfl (Nat.le_of_ble_eq_true rfl) (fun r59 => [.int r59]) (fun _ => rfl) 62 rfl (fun r59 => ?_)
    refine zk_if_eq dX10_readToken_62 89 (by decide) 65 rfl (fun _ => ?_) (fun _ => ?_)
    · refine zk_aload_n dX10_readToken_89 0 rfl 90 rfl ?_
      refine zk_aload_n dX10_readToken_90 0 rfl 91 rfl ?_
      refine zk_get dX10_readToken_91 0 rfl rfl kX10_readToken_inX10 13 (by decide) kX10_readToken_2 rfl 94 rfl ?_
      refine zk_callV (ci := 10) (st := []) (c_X10_isDigit E l a (v_z, v_snaps, v_hasSnap, v_past, v_pastHas, v_pastMany, v_before, v_spare, v_text, v_typed, v_failure, v_hasFailed, v_isQuiet, v_from, v_from, v_numbers) v_from) dX10_readToken_94 1 gX10_readToken_X10_isDigit rfl rfl rfl cd_X10_isDigit ⟨Nat.le_of_ble_eq_true rfl, Nat.le_of_ble_eq_true rfl⟩ ⟨Nat.zero_le _, Nat.zero_le _⟩ _ (fun r94 => (gX10 E a (v_z, v_snaps, v_hasSnap, v_past, v_pastHas, v_pastMany, v_before, v_spare, v_text, v_typed, v_failure, v_hasFailed, v_isQuiet, v_from, v_from, v_numbers))) zk_pa (fun r94 => zk_qa) rfl rfl rfl rfl (Nat.le_of_ble_eq_true rfl) (fun r94 => [.int r94]) (fun _ => rfl) 97 rfl (fun r94 => ?_)
      refine zk_if_eq dX10_readToken_97 124 (by decide) 100 rfl (fun _ => ?_) (fun _ => ?_)
      · refine zk_aload_n dX10_readToken_124 0 rfl 125 rfl ?_
        refine zk_dup dX10_readToken_125 rfl 126 rfl ?_
        refine zk_get dX10_readToken_126 0 rfl rfl kX10_readToken_inX10 14 (by decide) kX10_readToken_1 rfl 129 rfl ?_
        refine zk_aload_n dX10_readToken_129 0 rfl 130 rfl ?_
        refine zk_get dX10_readToken_130 0 rfl rfl kX10_readToken_inX10 13 (by decide) kX10_readToken_2 rfl 133 rfl ?_
        refine zk_aload_n dX10_readToken_133 0 rfl 134 rfl ?_
        refine zk_get dX10_readToken_134 0 rfl rfl kX10_readToken_inX10 9 (by decide) kX10_readToken_3 rfl 137 rfl ?_
        refine zk_icmp_ge dX10_readToken_137 144 (by decide) 140 rfl (fun _ => ?_) (fun _ => ?_)
        · refine zk_iconst 0 dX10_readToken_144 (by decide) 145 rfl ?_
          refine zk_lv [] rfl ?_
          exact J145   v_from 0 v_from v_from
        · refine zk_iconst 1 dX10_readToken_140 (by decide) 141 rfl ?_
          refine zk_goto dX10_readToken_141 145 (by decide) ?_
          refine zk_lv [] rfl ?_
          exact J145   v_from 1 v_from v_from
      · exact J100   v_from zk_N v_from
    · exact J65   v_from zk_N v_from
  have J8 : ∀ (v_end : Int32) (n : Nat) (v_from : Int32), zk_G E l X cX10_readToken 1 none yX10_readToken.cls wsX10_readToken ({ frames := 1, cells := 0, slots := 0, locals := 21 } : Room) 0 0 Q (gX10 E a (v_z, v_snaps, v_hasSnap, v_past, v_pastHas, v_pastMany, v_before, v_spare, v_text, v_typed, v_failure, v_hasFailed, v_isQuiet, v_from, v_end, v_numbers)) [(0, .ref a.1)] 8 [] (zk_fx (F_X10_readToken_8 v_text v_typed v_end ) n v_from) := by
    intro v_end n v_from
    refine zk_loop (S := Int32) (F := F_X10_readToken_8 v_text v_typed v_end) (wS := fun s => (gX10 E a (v_z, v_snaps, v_hasSnap, v_past, v_pastHas, v_pastMany, v_before, v_spare, v_text, v_typed, v_failure, v_hasFailed, v_isQuiet, s, v_end, v_numbers))) (lS := fun s => [(0, .ref a.1)]) (sS := fun _ => []) (fun k8 hk8 v_from => ?_) n v_from
    unfold F_X10_readToken_8
    try dsimp only
    refine zk_aload_n dX10_readToken_8 0 rfl 9 rfl ?_
    refine zk_get dX10_readToken_9 0 rfl rfl kX10_readToken_inX10 13 (by decide) kX10_readToken_2 rfl 12 rfl ?_
    refine zk_aload_n dX10_readToken_12 0 rfl 13 rfl ?_
    refine zk_get dX10_readToken_13 0 rfl rfl kX10_readToken_inX10 9 (by decide) kX10_readToken_3 rfl 16 rfl ?_
    refine zk_icmp_ge dX10_readToken_16 46 (by decide) 19 rfl (fun _ => ?_) (fun _ => ?_)
    · exact J46   v_from v_end
    · refine zk_aload_n dX10_readToken_19 0 rfl 20 rfl ?_
      refine zk_get dX10_readToken_20 0 rfl rfl kX10_readToken_inX10 8 (by decide) kX10_readToken_4 rfl 23 rfl ?_
      refine zk_aload_n dX10_readToken_23 0 rfl 24 rfl ?_
      refine zk_get dX10_readToken_24 0 rfl rfl kX10_readToken_inX10 13 (by decide) kX10_readToken_2 rfl 27 rfl ?_
      refine zk_cald dX10_readToken_27 8 rfl 28 rfl ?_
      refine zk_bipush 32 dX10_readToken_28 (by decide) 30 rfl ?_
      refine zk_icmp_ne dX10_readToken_30 46 (by decide) 33 rfl (fun _ => ?_) (fun _ => ?_)
      · refine zk_aload_n dX10_readToken_33 0 rfl 34 rfl ?_
        refine zk_dup dX10_readToken_34 rfl 35 rfl ?_
        refine zk_get dX10_readToken_35 0 rfl rfl kX10_readToken_inX10 13 (by decide) kX10_readToken_2 rfl 38 rfl ?_
        refine zk_iconst 1 dX10_readToken_38 (by decide) 39 rfl ?_
        refine zk_iadd dX10_readToken_39 40 rfl ?_
        refine zk_nm (fun v_from_1 => ?_)
        refine zk_put_ tyX10 (gX10 E a (v_z, v_snaps, v_hasSnap, v_past, v_pastHas, v_pastMany, v_before, v_spare, v_text, v_typed, v_failure, v_hasFailed, v_isQuiet, v_from_1, v_end, v_numbers)) dX10_readToken_40 0 rfl rfl kX10_readToken_inX10 tyX10_ok nmX10 13 (by decide) kX10_readToken_2 rfl (tyX10_ok 13 (by decide)) rfl rfl (Nat.le_of_ble_eq_true rfl) rfl 43 rfl ?_
        refine zk_goto dX10_readToken_43 8 (by decide) ?_
        exact hk8 v_from_1
      · exact J46   v_from v_end
  refine zk_eqv (w1 := (gX10 E a (v_z, v_snaps, v_hasSnap, v_past, v_pastHas, v_pastMany, v_before, v_spare, v_text, v_typed, v_failure, v_hasFailed, v_isQuiet, v_from, v_end, v_numbers))) (lv1 := [(0, .ref a.1)]) (st1 := []) (o1 := f_X10_readToken v_text v_typed v_end) rfl rfl rfl rfl ?_
  unfold f_X10_readToken
  refine zk_aload_n dX10_readToken_0 0 rfl 1 rfl ?_
  refine zk_aload_n dX10_readToken_1 0 rfl 2 rfl ?_
  refine zk_get dX10_readToken_2 0 rfl rfl kX10_readToken_inX10 14 (by decide) kX10_readToken_1 rfl 5 rfl ?_
  refine zk_put_ tyX10 (gX10 E a (v_z, v_snaps, v_hasSnap, v_past, v_pastHas, v_pastMany, v_before, v_spare, v_text, v_typed, v_failure, v_hasFailed, v_isQuiet, v_end, v_end, v_numbers)) dX10_readToken_5 0 rfl rfl kX10_readToken_inX10 tyX10_ok nmX10 13 (by decide) kX10_readToken_2 rfl (tyX10_ok 13 (by decide)) rfl rfl (Nat.le_of_ble_eq_true rfl) rfl 8 rfl ?_
  exact J8   v_end zk_N v_end
def f_X10_spells (x1 : Int32) (x2 : Int32) (x3 : Int32) (v_text : (Nat → Int32)) (v_from : Int32) : Option (Int32) := zk_ck (v_from + x1) 120 (if (v_text (v_from + x1).toNatClampNeg) = x2 then zk_ck ((v_from + x1) + 1) 120 (if (v_text ((v_from + x1) + 1).toNatClampNeg) = x3 then some 1 else some 0) else some 0)
theorem kX10_spells_inX10 : ∀ w ∈ u_ws RX10 TX10 16, w ∈ wsX10_spells := by decide +kernel
theorem kX10_spells_1 : Cond.fieldLink RX10 32 (TX10 8).1 (TX10 8).2.1 (TX10 8).2.2.1 ∈ wsX10_spells := by decide +kernel
theorem kX10_spells_2 : Cond.fieldLink RX10 110 (TX10 13).1 (TX10 13).2.1 (TX10 13).2.2.1 ∈ wsX10_spells := by decide +kernel
theorem cd_X10_spells : yX10_spells.cls = RX10 ∧ yX10_spells.cls ≠ "java/lang/invoke/MethodHandle" ∧ yX10_spells.cls ≠ "java/lang/invoke/VarHandle" ∧ (parseMethodDescriptor yX10_spells.desc).map (fun d => d.parameters.length) = some 3 := by decide +kernel
set_option maxRecDepth 100000 in
set_option maxHeartbeats 4000000 in
theorem c_X10_spells (E : zk_Env) (l : Launch) (a : aX10) (v : VX10) (x1 : Int32) (x2 : Int32) (x3 : Int32) : zk_Mc E l yX10_spells wsX10_spells ({ frames := 0, cells := 0, slots := 0, locals := 0 } : Room) [.ref a.1, .int x1, .int x2, .int x3] (gX10 E a v) (f_X10_spells x1 x2 x3 v.2.2.2.2.2.2.2.2.1 v.2.2.2.2.2.2.2.2.2.2.2.2.2.1) (fun r => some (.int r)) (fun r => (gX10 E a v)) := by
  obtain ⟨v_z, v_snaps, v_hasSnap, v_past, v_pastHas, v_pastMany, v_before, v_spare, v_text, v_typed, v_failure, v_hasFailed, v_isQuiet, v_from, v_end, v_numbers⟩ := v
  refine zk_M (cc := cX10_spells) (nL := 4) (ret := (some .boolean)) (by decide) rfl (Nat.le_of_ble_eq_true rfl) (fun X Q hQ => ?_)
  refine zk_eqv (w1 := (gX10 E a (v_z, v_snaps, v_hasSnap, v_past, v_pastHas, v_pastMany, v_before, v_spare, v_text, v_typed, v_failure, v_hasFailed, v_isQuiet, v_from, v_end, v_numbers))) (lv1 := [(0, .ref a.1), (1, .int x1), (2, .int x2), (3, .int x3)]) (st1 := []) (o1 := f_X10_spells x1 x2 x3 v_text v_from) rfl rfl rfl rfl ?_
  unfold f_X10_spells
  refine zk_aload_n dX10_spells_0 0 rfl 1 rfl ?_
  refine zk_get dX10_spells_1 0 rfl rfl kX10_spells_inX10 8 (by decide) kX10_spells_1 rfl 4 rfl ?_
  refine zk_aload_n dX10_spells_4 0 rfl 5 rfl ?_
  refine zk_get dX10_spells_5 0 rfl rfl kX10_spells_inX10 13 (by decide) kX10_spells_2 rfl 8 rfl ?_
  refine zk_iload_n dX10_spells_8 1 rfl 9 rfl ?_
  refine zk_iadd dX10_spells_9 10 rfl ?_
  refine zk_cald dX10_spells_10 8 rfl 11 rfl ?_
  refine zk_iload_n dX10_spells_11 2 rfl 12 rfl ?_
  refine zk_icmp_ne dX10_spells_12 36 (by decide) 15 rfl (fun _ => ?_) (fun _ => ?_)
  · refine zk_aload_n dX10_spells_15 0 rfl 16 rfl ?_
    refine zk_get dX10_spells_16 0 rfl rfl kX10_spells_inX10 8 (by decide) kX10_spells_1 rfl 19 rfl ?_
    refine zk_aload_n dX10_spells_19 0 rfl 20 rfl ?_
    refine zk_get dX10_spells_20 0 rfl rfl kX10_spells_inX10 13 (by decide) kX10_spells_2 rfl 23 rfl ?_
    refine zk_iload_n dX10_spells_23 1 rfl 24 rfl ?_
    refine zk_iadd dX10_spells_24 25 rfl ?_
    refine zk_iconst 1 dX10_spells_25 (by decide) 26 rfl ?_
    refine zk_iadd dX10_spells_26 27 rfl ?_
    refine zk_cald dX10_spells_27 8 rfl 28 rfl ?_
    refine zk_iload_n dX10_spells_28 3 rfl 29 rfl ?_
    refine zk_icmp_ne dX10_spells_29 36 (by decide) 32 rfl (fun _ => ?_) (fun _ => ?_)
    · refine zk_iconst 1 dX10_spells_32 (by decide) 33 rfl ?_
      refine zk_goto dX10_spells_33 37 (by decide) ?_
      exact zk_zretL hQ dX10_spells_37 (Or.inr rfl) rfl rfl
    · refine zk_iconst 0 dX10_spells_36 (by decide) 37 rfl ?_
      exact zk_zretL hQ dX10_spells_37 (Or.inl rfl) rfl rfl
  · refine zk_iconst 0 dX10_spells_36 (by decide) 37 rfl ?_
    exact zk_zretL hQ dX10_spells_37 (Or.inl rfl) rfl rfl
def f_X10_command_242 (s242_0 : Int32) (x2 : Int32) : Option (Int32) := if x2 = 0 then if s242_0 = 0 then some (-1) else some 4 else some 1
def f_X10_command_241 (x2 : Int32) : Option (Int32) := f_X10_command_242 0 x2
def f_X10_command_196 (v_text : (Nat → Int32)) (v_from : Int32) (s196_0 : Int32) : Option (Int32) := (f_X10_spells 0 115 119 v_text v_from).bind fun r203 => if r203 = 0 then f_X10_command_241 s196_0 else (f_X10_spells 2 101 101 v_text v_from).bind fun r215 => if r215 = 0 then f_X10_command_241 s196_0 else zk_ck (v_from + 4) 120 (if (v_text (v_from + 4).toNatClampNeg) = 112 then f_X10_command_242 1 s196_0 else f_X10_command_241 s196_0)
def f_X10_command_195 (v_text : (Nat → Int32)) (v_from : Int32) : Option (Int32) := f_X10_command_196 v_text v_from 0
def f_X10_command_117 (s117_0 : Int32) (x2 : Int32) (x3 : Int32) : Option (Int32) := if x2 = 0 then if x3 = 0 then if s117_0 = 0 then some (-1) else some 3 else some 2 else some 0
def f_X10_command_116 (x2 : Int32) (x3 : Int32) : Option (Int32) := f_X10_command_117 0 x2 x3
def f_X10_command_87 (v_text : (Nat → Int32)) (v_from : Int32) (s87_0 : Int32) (x2 : Int32) : Option (Int32) := (f_X10_spells 0 112 97 v_text v_from).bind fun r94 => if r94 = 0 then f_X10_command_116 x2 s87_0 else (f_X10_spells 2 115 115 v_text v_from).bind fun r106 => if r106 = 0 then f_X10_command_116 x2 s87_0 else f_X10_command_117 1 x2 s87_0
def f_X10_command_86 (v_text : (Nat → Int32)) (v_from : Int32) (x2 : Int32) : Option (Int32) := f_X10_command_87 v_text v_from 0 x2
def f_X10_command_57 (v_text : (Nat → Int32)) (v_from : Int32) (s57_0 : Int32) : Option (Int32) := (f_X10_spells 0 109 111 v_text v_from).bind fun r64 => if r64 = 0 then f_X10_command_86 v_text v_from s57_0 else (f_X10_spells 2 118 101 v_text v_from).bind fun r76 => if r76 = 0 then f_X10_command_86 v_text v_from s57_0 else f_X10_command_87 v_text v_from 1 s57_0
def f_X10_command_56 (v_text : (Nat → Int32)) (v_from : Int32) : Option (Int32) := f_X10_command_57 v_text v_from 0
def f_X10_command (v_text : (Nat → Int32)) (v_typed : Int32) (v_from : Int32) (v_end : Int32) : Option (Int32) := zk_let (v_end - v_from) fun x1_1 => (f_X10_isSmall v_from v_text v_typed).bind fun r15 => if r15 = 0 then some (-1) else if x1_1 = 4 then (f_X10_spells 0 103 105 v_text v_from).bind fun r34 => if r34 = 0 then f_X10_command_56 v_text v_from else (f_X10_spells 2 118 101 v_text v_from).bind fun r46 => if r46 = 0 then f_X10_command_56 v_text v_from else f_X10_command_57 v_text v_from 1 else if x1_1 = 5 then (f_X10_spells 0 98 114 v_text v_from).bind fun r157 => if r157 = 0 then f_X10_command_195 v_text v_from else (f_X10_spells 2 101 97 v_text v_from).bind fun r169 => if r169 = 0 then f_X10_command_195 v_text v_from else zk_ck (v_from + 4) 120 (if (v_text (v_from + 4).toNatClampNeg) = 107 then f_X10_command_196 v_text v_from 1 else f_X10_command_195 v_text v_from ) else some (-1)
theorem kX10_command_inX10 : ∀ w ∈ u_ws RX10 TX10 16, w ∈ wsX10_command := by decide +kernel
theorem kX10_command_1 : Cond.fieldLink RX10 107 (TX10 14).1 (TX10 14).2.1 (TX10 14).2.2.1 ∈ wsX10_command := by decide +kernel
theorem kX10_command_2 : Cond.fieldLink RX10 110 (TX10 13).1 (TX10 13).2.1 (TX10 13).2.2.1 ∈ wsX10_command := by decide +kernel
theorem kX10_command_3 : Cond.fieldLink RX10 32 (TX10 8).1 (TX10 8).2.1 (TX10 8).2.2.1 ∈ wsX10_command := by decide +kernel
theorem cd_X10_command : yX10_command.cls = RX10 ∧ yX10_command.cls ≠ "java/lang/invoke/MethodHandle" ∧ yX10_command.cls ≠ "java/lang/invoke/VarHandle" ∧ (parseMethodDescriptor yX10_command.desc).map (fun d => d.parameters.length) = some 0 := by decide +kernel
set_option maxRecDepth 100000 in
set_option maxHeartbeats 4000000 in
theorem c_X10_command (E : zk_Env) (l : Launch) (a : aX10) (v : VX10)  : zk_Mc E l yX10_command wsX10_command ({ frames := 1, cells := 0, slots := 0, locals := 23 } : Room) [.ref a.1] (gX10 E a v) (f_X10_command v.2.2.2.2.2.2.2.2.1 v.2.2.2.2.2.2.2.2.2.1 v.2.2.2.2.2.2.2.2.2.2.2.2.2.1 v.2.2.2.2.2.2.2.2.2.2.2.2.2.2.1) (fun r => some (.int r)) (fun r => (gX10 E a v)) := by
  obtain ⟨v_z, v_snaps, v_hasSnap, v_past, v_pastHas, v_pastMany, v_before, v_spare, v_text, v_typed, v_failure, v_hasFailed, v_isQuiet, v_from, v_end, v_numbers⟩ := v
  refine zk_M (cc := cX10_command) (nL := 5) (ret := (some .int)) (by decide) rfl (Nat.le_of_ble_eq_true rfl) (fun X Q hQ => ?_)
  have J242 : ∀ (s242_0 : Int32) (x2 : Int32), zk_G E l X cX10_command 5 (some .int) yX10_command.cls wsX10_command ({ frames := 1, cells := 0, slots := 0, locals := 23 } : Room) 0 0 Q (gX10 E a (v_z, v_snaps, v_hasSnap, v_past, v_pastHas, v_pastMany, v_before, v_spare, v_text, v_typed, v_failure, v_hasFailed, v_isQuiet, v_from, v_end, v_numbers)) [(2, .int x2)] 242 [.int s242_0] (f_X10_command_242 s242_0 x2) := by
    intro s242_0 x2
    unfold f_X10_command_242
    refine zk_istore_n [(3, .int s242_0), (2, .int x2)] dX10_command_242 (by decide) rfl 243 rfl ?_
    refine zk_iload_n dX10_command_243 1 rfl 244 rfl ?_
    refine zk_if_eq dX10_command_244 251 (by decide) 247 rfl (fun _ => ?_) (fun _ => ?_)
    · refine zk_iload_n dX10_command_251 0 rfl 252 rfl ?_
      refine zk_if_eq dX10_command_252 259 (by decide) 255 rfl (fun _ => ?_) (fun _ => ?_)
      · refine zk_iconst (-1) dX10_command_259 (by decide) 260 rfl ?_
        exact zk_iret hQ dX10_command_260 rfl rfl
      · refine zk_iconst 4 dX10_command_255 (by decide) 256 rfl ?_
        refine zk_goto dX10_command_256 260 (by decide) ?_
        exact zk_iret hQ dX10_command_260 rfl rfl
    · refine zk_iconst 1 dX10_command_247 (by decide) 248 rfl ?_
      refine zk_goto dX10_command_248 260 (by decide) ?_
      exact zk_iret hQ dX10_command_260 rfl rfl
  have J241 : ∀ (x2 : Int32), zk_G E l X cX10_command 5 (some .int) yX10_command.cls wsX10_command ({ frames := 1, cells := 0, slots := 0, locals := 23 } : Room) 0 0 Q (gX10 E a (v_z, v_snaps, v_hasSnap, v_past, v_pastHas, v_pastMany, v_before, v_spare, v_text, v_typed, v_failure, v_hasFailed, v_isQuiet, v_from, v_end, v_numbers)) [(2, .int x2)] 241 [] (f_X10_command_241 x2) := by
    intro x2
    unfold f_X10_command_241
    refine zk_iconst 0 dX10_command_241 (by decide) 242 rfl ?_
    exact J242   0 x2
  have J196 : ∀ (s196_0 : Int32), zk_G E l X cX10_command 5 (some .int) yX10_command.cls wsX10_command ({ frames := 1, cells := 0, slots := 0, locals := 23 } : Room) 0 0 Q (gX10 E a (v_z, v_snaps, v_hasSnap, v_past, v_pastHas, v_pastMany, v_before, v_spare, v_text, v_typed, v_failure, v_hasFailed, v_isQuiet, v_from, v_end, v_numbers)) [(0, .ref a.1)] 196 [.int s196_0] (f_X10_command_196 v_text v_from s196_0) := by
    intro s196_0
    unfold f_X10_command_196
    refine zk_istore_n [(2, .int s196_0), (0, .ref a.1)] dX10_command_196 (by decide) rfl 197 rfl ?_
    refine zk_aload_n dX10_command_197 1 rfl 198 rfl ?_
    refine zk_iconst 0 dX10_command_198 (by decide) 199 rfl ?_
    refine zk_bipush 115 dX10_command_199 (by decide) 201 rfl ?_
    refine zk_bipush 119 dX10_command_201 (by decide) 203 rfl ?_
    refine zk_callV (ci := 10) (st := []) (c_X10_spells E l a (v_z, v_snaps, v_hasSnap, v_past, v_pastHas, v_pastMany, v_before, v_spare, v_text, v_typed, v_failure, v_hasFailed, v_isQuiet, v_from, v_end, v_numbers) 0 115 119) dX10_command_203 3 gX10_command_X10_spells rfl rfl rfl cd_X10_spells ⟨Nat.le_of_ble_eq_true rfl, Nat.le_of_ble_eq_true rfl⟩ ⟨Nat.zero_le _, Nat.zero_le _⟩ _ (fun r203 => (gX10 E a (v_z, v_snaps, v_hasSnap, v_past, v_pastHas, v_pastMany, v_before, v_spare, v_text, v_typed, v_failure, v_hasFailed, v_isQuiet, v_from, v_end, v_numbers))) zk_pa (fun r203 => zk_qa) rfl rfl rfl rfl (Nat.le_of_ble_eq_true rfl) (fun r203 => [.int r203]) (fun _ => rfl) 206 rfl (fun r203 => ?_)
    refine zk_if_eq dX10_command_206 241 (by decide) 209 rfl (fun _ => ?_) (fun _ => ?_)
    · refine zk_lv [0] rfl ?_
      exact J241   s196_0
    · refine zk_aload_n dX10_command_209 1 rfl 210 rfl ?_
      refine zk_iconst 2 dX10_command_210 (by decide) 211 rfl ?_
      refine zk_bipush 101 dX10_command_211 (by decide) 213 rfl ?_
      refine zk_bipush 101 dX10_command_213 (by decide) 215 rfl ?_
      refine zk_callV (ci := 10) (st := []) (c_X10_spells E l a (v_z, v_snaps, v_hasSnap, v_past, v_pastHas, v_pastMany, v_before, v_spare, v_text, v_typed, v_failure, v_hasFailed, v_isQuiet, v_from, v_end, v_numbers) 2 101 101) dX10_command_215 3 gX10_command_X10_spells rfl rfl rfl cd_X10_spells ⟨Nat.le_of_ble_eq_true rfl, Nat.le_of_ble_eq_true rfl⟩ ⟨Nat.zero_le _, Nat.zero_le _⟩ _ (fun r215 => (gX10 E a (v_z, v_snaps, v_hasSnap, v_past, v_pastHas, v_pastMany, v_before, v_spare, v_text, v_typed, v_failure, v_hasFailed, v_isQuiet, v_from, v_end, v_numbers))) zk_pa (fun r215 => zk_qa) rfl rfl rfl rfl (Nat.le_of_ble_eq_true rfl) (fun r215 => [.int r215]) (fun _ => rfl) 218 rfl (fun r215 => ?_)
      refine zk_if_eq dX10_command_218 241 (by decide) 221 rfl (fun _ => ?_) (fun _ => ?_)
      · refine zk_lv [0] rfl ?_
        exact J241   s196_0
      · refine zk_aload_n dX10_command_221 1 rfl 222 rfl ?_
        refine zk_get dX10_command_222 0 rfl rfl kX10_command_inX10 8 (by decide) kX10_command_3 rfl 225 rfl ?_
        refine zk_aload_n dX10_command_225 1 rfl 226 rfl ?_
        refine zk_get dX10_command_226 0 rfl rfl kX10_command_inX10 13 (by decide) kX10_command_2 rfl 229 rfl ?_
        refine zk_iconst 4 dX10_command_229 (by decide) 230 rfl ?_
        refine zk_iadd dX10_command_230 231 rfl ?_
        refine zk_cald dX10_command_231 8 rfl 232 rfl ?_
        refine zk_bipush 112 dX10_command_232 (by decide) 234 rfl ?_
        refine zk_icmp_ne dX10_command_234 241 (by decide) 237 rfl (fun _ => ?_) (fun _ => ?_)
        · refine zk_iconst 1 dX10_command_237 (by decide) 238 rfl ?_
          refine zk_goto dX10_command_238 242 (by decide) ?_
          refine zk_lv [0] rfl ?_
          exact J242   1 s196_0
        · refine zk_lv [0] rfl ?_
          exact J241   s196_0
  have J195 : zk_G E l X cX10_command 5 (some .int) yX10_command.cls wsX10_command ({ frames := 1, cells := 0, slots := 0, locals := 23 } : Room) 0 0 Q (gX10 E a (v_z, v_snaps, v_hasSnap, v_past, v_pastHas, v_pastMany, v_before, v_spare, v_text, v_typed, v_failure, v_hasFailed, v_isQuiet, v_from, v_end, v_numbers)) [(0, .ref a.1)] 195 [] (f_X10_command_195 v_text v_from ) := by
    unfold f_X10_command_195
    refine zk_iconst 0 dX10_command_195 (by decide) 196 rfl ?_
    exact J196   0
  have J117 : ∀ (s117_0 : Int32) (x2 : Int32) (x3 : Int32), zk_G E l X cX10_command 5 (some .int) yX10_command.cls wsX10_command ({ frames := 1, cells := 0, slots := 0, locals := 23 } : Room) 0 0 Q (gX10 E a (v_z, v_snaps, v_hasSnap, v_past, v_pastHas, v_pastMany, v_before, v_spare, v_text, v_typed, v_failure, v_hasFailed, v_isQuiet, v_from, v_end, v_numbers)) [(2, .int x2), (3, .int x3)] 117 [.int s117_0] (f_X10_command_117 s117_0 x2 x3) := by
    intro s117_0 x2 x3
    unfold f_X10_command_117
    refine zk_istore [(4, .int s117_0), (2, .int x2), (3, .int x3)] dX10_command_117 (by decide) rfl 119 rfl ?_
    refine zk_iload_n dX10_command_119 1 rfl 120 rfl ?_
    refine zk_if_eq dX10_command_120 127 (by decide) 123 rfl (fun _ => ?_) (fun _ => ?_)
    · refine zk_iload_n dX10_command_127 2 rfl 128 rfl ?_
      refine zk_if_eq dX10_command_128 135 (by decide) 131 rfl (fun _ => ?_) (fun _ => ?_)
      · refine zk_iload dX10_command_135 0 rfl 137 rfl ?_
        refine zk_if_eq dX10_command_137 144 (by decide) 140 rfl (fun _ => ?_) (fun _ => ?_)
        · refine zk_iconst (-1) dX10_command_144 (by decide) 145 rfl ?_
          exact zk_iret hQ dX10_command_145 rfl rfl
        · refine zk_iconst 3 dX10_command_140 (by decide) 141 rfl ?_
          refine zk_goto dX10_command_141 145 (by decide) ?_
          exact zk_iret hQ dX10_command_145 rfl rfl
      · refine zk_iconst 2 dX10_command_131 (by decide) 132 rfl ?_
        refine zk_goto dX10_command_132 145 (by decide) ?_
        exact zk_iret hQ dX10_command_145 rfl rfl
    · refine zk_iconst 0 dX10_command_123 (by decide) 124 rfl ?_
      refine zk_goto dX10_command_124 145 (by decide) ?_
      exact zk_iret hQ dX10_command_145 rfl rfl
  have J116 : ∀ (x2 : Int32) (x3 : Int32), zk_G E l X cX10_command 5 (some .int) yX10_command.cls wsX10_command ({ frames := 1, cells := 0, slots := 0, locals := 23 } : Room) 0 0 Q (gX10 E a (v_z, v_snaps, v_hasSnap, v_past, v_pastHas, v_pastMany, v_before, v_spare, v_text, v_typed, v_failure, v_hasFailed, v_isQuiet, v_from, v_end, v_numbers)) [(2, .int x2), (3, .int x3)] 116 [] (f_X10_command_116 x2 x3) := by
    intro x2 x3
    unfold f_X10_command_116
    refine zk_iconst 0 dX10_command_116 (by decide) 117 rfl ?_
    exact J117   0 x2 x3
  have J87 : ∀ (s87_0 : Int32) (x2 : Int32), zk_G E l X cX10_command 5 (some .int) yX10_command.cls wsX10_command ({ frames := 1, cells := 0, slots := 0, locals := 23 } : Room) 0 0 Q (gX10 E a (v_z, v_snaps, v_hasSnap, v_past, v_pastHas, v_pastMany, v_before, v_spare, v_text, v_typed, v_failure, v_hasFailed, v_isQuiet, v_from, v_end, v_numbers)) [(0, .ref a.1), (2, .int x2)] 87 [.int s87_0] (f_X10_command_87 v_text v_from s87_0 x2) := by
    intro s87_0 x2
    unfold f_X10_command_87
    refine zk_istore_n [(3, .int s87_0), (0, .ref a.1), (2, .int x2)] dX10_command_87 (by decide) rfl 88 rfl ?_
    refine zk_aload_n dX10_command_88 1 rfl 89 rfl ?_
    refine zk_iconst 0 dX10_command_89 (by decide) 90 rfl ?_
    refine zk_bipush 112 dX10_command_90 (by decide) 92 rfl ?_
    refine zk_bipush 97 dX10_command_92 (by decide) 94 rfl ?_
    refine zk_callV (ci := 10) (st := []) (c_X10_spells E l a (v_z, v_snaps, v_hasSnap, v_past, v_pastHas, v_pastMany, v_before, v_spare, v_text, v_typed, v_failure, v_hasFailed, v_isQuiet, v_from, v_end, v_numbers) 0 112 97) dX10_command_94 3 gX10_command_X10_spells rfl rfl rfl cd_X10_spells ⟨Nat.le_of_ble_eq_true rfl, Nat.le_of_ble_eq_true rfl⟩ ⟨Nat.zero_le _, Nat.zero_le _⟩ _ (fun r94 => (gX10 E a (v_z, v_snaps, v_hasSnap, v_past, v_pastHas, v_pastMany, v_before, v_spare, v_text, v_typed, v_failure, v_hasFailed, v_isQuiet, v_from, v_end, v_numbers))) zk_pa (fun r94 => zk_qa) rfl rfl rfl rfl (Nat.le_of_ble_eq_true rfl) (fun r94 => [.int r94]) (fun _ => rfl) 97 rfl (fun r94 => ?_)
    refine zk_if_eq dX10_command_97 116 (by decide) 100 rfl (fun _ => ?_) (fun _ => ?_)
    · refine zk_lv [2, 0] rfl ?_
      exact J116   x2 s87_0
    · refine zk_aload_n dX10_command_100 1 rfl 101 rfl ?_
      refine zk_iconst 2 dX10_command_101 (by decide) 102 rfl ?_
      refine zk_bipush 115 dX10_command_102 (by decide) 104 rfl ?_
      refine zk_bipush 115 dX10_command_104 (by decide) 106 rfl ?_
      refine zk_callV (ci := 10) (st := []) (c_X10_spells E l a (v_z, v_snaps, v_hasSnap, v_past, v_pastHas, v_pastMany, v_before, v_spare, v_text, v_typed, v_failure, v_hasFailed, v_isQuiet, v_from, v_end, v_numbers) 2 115 115) dX10_command_106 3 gX10_command_X10_spells rfl rfl rfl cd_X10_spells ⟨Nat.le_of_ble_eq_true rfl, Nat.le_of_ble_eq_true rfl⟩ ⟨Nat.zero_le _, Nat.zero_le _⟩ _ (fun r106 => (gX10 E a (v_z, v_snaps, v_hasSnap, v_past, v_pastHas, v_pastMany, v_before, v_spare, v_text, v_typed, v_failure, v_hasFailed, v_isQuiet, v_from, v_end, v_numbers))) zk_pa (fun r106 => zk_qa) rfl rfl rfl rfl (Nat.le_of_ble_eq_true rfl) (fun r106 => [.int r106]) (fun _ => rfl) 109 rfl (fun r106 => ?_)
      refine zk_if_eq dX10_command_109 116 (by decide) 112 rfl (fun _ => ?_) (fun _ => ?_)
      · refine zk_lv [2, 0] rfl ?_
        exact J116   x2 s87_0
      · refine zk_iconst 1 dX10_command_112 (by decide) 113 rfl ?_
        refine zk_goto dX10_command_113 117 (by decide) ?_
        refine zk_lv [2, 0] rfl ?_
        exact J117   1 x2 s87_0
  have J86 : ∀ (x2 : Int32), zk_G E l X cX10_command 5 (some .int) yX10_command.cls wsX10_command ({ frames := 1, cells := 0, slots := 0, locals := 23 } : Room) 0 0 Q (gX10 E a (v_z, v_snaps, v_hasSnap, v_past, v_pastHas, v_pastMany, v_before, v_spare, v_text, v_typed, v_failure, v_hasFailed, v_isQuiet, v_from, v_end, v_numbers)) [(0, .ref a.1), (2, .int x2)] 86 [] (f_X10_command_86 v_text v_from x2) := by
    intro x2
    unfold f_X10_command_86
    refine zk_iconst 0 dX10_command_86 (by decide) 87 rfl ?_
    exact J87   0 x2
  have J57 : ∀ (s57_0 : Int32), zk_G E l X cX10_command 5 (some .int) yX10_command.cls wsX10_command ({ frames := 1, cells := 0, slots := 0, locals := 23 } : Room) 0 0 Q (gX10 E a (v_z, v_snaps, v_hasSnap, v_past, v_pastHas, v_pastMany, v_before, v_spare, v_text, v_typed, v_failure, v_hasFailed, v_isQuiet, v_from, v_end, v_numbers)) [(0, .ref a.1)] 57 [.int s57_0] (f_X10_command_57 v_text v_from s57_0) := by
    intro s57_0
    unfold f_X10_command_57
    refine zk_istore_n [(2, .int s57_0), (0, .ref a.1)] dX10_command_57 (by decide) rfl 58 rfl ?_
    refine zk_aload_n dX10_command_58 1 rfl 59 rfl ?_
    refine zk_iconst 0 dX10_command_59 (by decide) 60 rfl ?_
    refine zk_bipush 109 dX10_command_60 (by decide) 62 rfl ?_
    refine zk_bipush 111 dX10_command_62 (by decide) 64 rfl ?_
    refine zk_callV (ci := 10) (st := []) (c_X10_spells E l a (v_z, v_snaps, v_hasSnap, v_past, v_pastHas, v_pastMany, v_before, v_spare, v_text, v_typed, v_failure, v_hasFailed, v_isQuiet, v_from, v_end, v_numbers) 0 109 111) dX10_command_64 3 gX10_command_X10_spells rfl rfl rfl cd_X10_spells ⟨Nat.le_of_ble_eq_true rfl, Nat.le_of_ble_eq_true rfl⟩ ⟨Nat.zero_le _, Nat.zero_le _⟩ _ (fun r64 => (gX10 E a (v_z, v_snaps, v_hasSnap, v_past, v_pastHas, v_pastMany, v_before, v_spare, v_text, v_typed, v_failure, v_hasFailed, v_isQuiet, v_from, v_end, v_numbers))) zk_pa (fun r64 => zk_qa) rfl rfl rfl rfl (Nat.le_of_ble_eq_true rfl) (fun r64 => [.int r64]) (fun _ => rfl) 67 rfl (fun r64 => ?_)
    refine zk_if_eq dX10_command_67 86 (by decide) 70 rfl (fun _ => ?_) (fun _ => ?_)
    · refine zk_lv [1, 0] rfl ?_
      exact J86   s57_0
    · refine zk_aload_n dX10_command_70 1 rfl 71 rfl ?_
      refine zk_iconst 2 dX10_command_71 (by decide) 72 rfl ?_
      refine zk_bipush 118 dX10_command_72 (by decide) 74 rfl ?_
      refine zk_bipush 101 dX10_command_74 (by decide) 76 rfl ?_
      refine zk_callV (ci := 10) (st := []) (c_X10_spells E l a (v_z, v_snaps, v_hasSnap, v_past, v_pastHas, v_pastMany, v_before, v_spare, v_text, v_typed, v_failure, v_hasFailed, v_isQuiet, v_from, v_end, v_numbers) 2 118 101) dX10_command_76 3 gX10_command_X10_spells rfl rfl rfl cd_X10_spells ⟨Nat.le_of_ble_eq_true rfl, Nat.le_of_ble_eq_true rfl⟩ ⟨Nat.zero_le _, Nat.zero_le _⟩ _ (fun r76 => (gX10 E a (v_z, v_snaps, v_hasSnap, v_past, v_pastHas, v_pastMany, v_before, v_spare, v_text, v_typed, v_failure, v_hasFailed, v_isQuiet, v_from, v_end, v_numbers))) zk_pa (fun r76 => zk_qa) rfl rfl rfl rfl (Nat.le_of_ble_eq_true rfl) (fun r76 => [.int r76]) (fun _ => rfl) 79 rfl (fun r76 => ?_)
      refine zk_if_eq dX10_command_79 86 (by decide) 82 rfl (fun _ => ?_) (fun _ => ?_)
      · refine zk_lv [1, 0] rfl ?_
        exact J86   s57_0
      · refine zk_iconst 1 dX10_command_82 (by decide) 83 rfl ?_
        refine zk_goto dX10_command_83 87 (by decide) ?_
        refine zk_lv [1, 0] rfl ?_
        exact J87   1 s57_0
  have J56 : zk_G E l X cX10_command 5 (some .int) yX10_command.cls wsX10_command ({ frames := 1, cells := 0, slots := 0, locals := 23 } : Room) 0 0 Q (gX10 E a (v_z, v_snaps, v_hasSnap, v_past, v_pastHas, v_pastMany, v_before, v_spare, v_text, v_typed, v_failure, v_hasFailed, v_isQuiet, v_from, v_end, v_numbers)) [(0, .ref a.1)] 56 [] (f_X10_command_56 v_text v_from ) := by
    unfold f_X10_command_56
    refine zk_iconst 0 dX10_command_56 (by decide) 57 rfl ?_
    exact J57   0
  refine zk_eqv (w1 := (gX10 E a (v_z, v_snaps, v_hasSnap, v_past, v_pastHas, v_pastMany, v_before, v_spare, v_text, v_typed, v_failure, v_hasFailed, v_isQuiet, v_from, v_end, v_numbers))) (lv1 := [(0, .ref a.1)]) (st1 := []) (o1 := f_X10_command v_text v_typed v_from v_end) rfl rfl rfl rfl ?_
  unfold f_X10_command
  refine zk_aload_n dX10_command_0 0 rfl 1 rfl ?_
  refine zk_get dX10_command_1 0 rfl rfl kX10_command_inX10 14 (by decide) kX10_command_1 rfl 4 rfl ?_
  refine zk_aload_n dX10_command_4 0 rfl 5 rfl ?_
  refine zk_get dX10_command_5 0 rfl rfl kX10_command_inX10 13 (by decide) kX10_command_2 rfl 8 rfl ?_
  refine zk_isub dX10_command_8 9 rfl ?_
  refine zk_nm (fun x1_1 => ?_)
  refine zk_istore_n [(1, .int x1_1), (0, .ref a.1)] dX10_command_9 (by decide) rfl 10 rfl ?_
  refine zk_aload_n dX10_command_10 1 rfl 11 rfl ?_
  refine zk_aload_n dX10_command_11 1 rfl 12 rfl ?_
  refine zk_get dX10_command_12 0 rfl rfl kX10_command_inX10 13 (by decide) kX10_command_2 rfl 15 rfl ?_
  refine zk_callV (ci := 10) (st := []) (c_X10_isSmall E l a (v_z, v_snaps, v_hasSnap, v_past, v_pastHas, v_pastMany, v_before, v_spare, v_text, v_typed, v_failure, v_hasFailed, v_isQuiet, v_from, v_end, v_numbers) v_from) dX10_command_15 1 gX10_command_X10_isSmall rfl rfl rfl cd_X10_isSmall ⟨Nat.le_of_ble_eq_true rfl, Nat.le_of_ble_eq_true rfl⟩ ⟨Nat.zero_le _, Nat.zero_le _⟩ _ (fun r15 => (gX10 E a (v_z, v_snaps, v_hasSnap, v_past, v_pastHas, v_pastMany, v_before, v_spare, v_text, v_typed, v_failure, v_hasFailed, v_isQuiet, v_from, v_end, v_numbers))) zk_pa (fun r15 => zk_qa) rfl rfl rfl rfl (Nat.le_of_ble_eq_true rfl) (fun r15 => [.int r15]) (fun _ => rfl) 18 rfl (fun r15 => ?_)
  refine zk_if_ne dX10_command_18 23 (by decide) 21 rfl (fun _ => ?_) (fun _ => ?_)
  · refine zk_iconst (-1) dX10_command_21 (by decide) 22 rfl ?_
    exact zk_iret hQ dX10_command_22 rfl rfl
  · refine zk_iload_n dX10_command_23 0 rfl 24 rfl ?_
    refine zk_iconst 4 dX10_command_24 (by decide) 25 rfl ?_
    refine zk_icmp_ne dX10_command_25 146 (by decide) 28 rfl (fun _ => ?_) (fun _ => ?_)
    · refine zk_aload_n dX10_command_28 1 rfl 29 rfl ?_
      refine zk_iconst 0 dX10_command_29 (by decide) 30 rfl ?_
      refine zk_bipush 103 dX10_command_30 (by decide) 32 rfl ?_
      refine zk_bipush 105 dX10_command_32 (by decide) 34 rfl ?_
      refine zk_callV (ci := 10) (st := []) (c_X10_spells E l a (v_z, v_snaps, v_hasSnap, v_past, v_pastHas, v_pastMany, v_before, v_spare, v_text, v_typed, v_failure, v_hasFailed, v_isQuiet, v_from, v_end, v_numbers) 0 103 105) dX10_command_34 3 gX10_command_X10_spells rfl rfl rfl cd_X10_spells ⟨Nat.le_of_ble_eq_true rfl, Nat.le_of_ble_eq_true rfl⟩ ⟨Nat.zero_le _, Nat.zero_le _⟩ _ (fun r34 => (gX10 E a (v_z, v_snaps, v_hasSnap, v_past, v_pastHas, v_pastMany, v_before, v_spare, v_text, v_typed, v_failure, v_hasFailed, v_isQuiet, v_from, v_end, v_numbers))) zk_pa (fun r34 => zk_qa) rfl rfl rfl rfl (Nat.le_of_ble_eq_true rfl) (fun r34 => [.int r34]) (fun _ => rfl) 37 rfl (fun r34 => ?_)
      refine zk_if_eq dX10_command_37 56 (by decide) 40 rfl (fun _ => ?_) (fun _ => ?_)
      · refine zk_lv [1] rfl ?_
        exact J56   
      · refine zk_aload_n dX10_command_40 1 rfl 41 rfl ?_
        refine zk_iconst 2 dX10_command_41 (by decide) 42 rfl ?_
        refine zk_bipush 118 dX10_command_42 (by decide) 44 rfl ?_
        refine zk_bipush 101 dX10_command_44 (by decide) 46 rfl ?_
        refine zk_callV (ci := 10) (st := []) (c_X10_spells E l a (v_z, v_snaps, v_hasSnap, v_past, v_pastHas, v_pastMany, v_before, v_spare, v_text, v_typed, v_failure, v_hasFailed, v_isQuiet, v_from, v_end, v_numbers) 2 118 101) dX10_command_46 3 gX10_command_X10_spells rfl rfl rfl cd_X10_spells ⟨Nat.le_of_ble_eq_true rfl, Nat.le_of_ble_eq_true rfl⟩ ⟨Nat.zero_le _, Nat.zero_le _⟩ _ (fun r46 => (gX10 E a (v_z, v_snaps, v_hasSnap, v_past, v_pastHas, v_pastMany, v_before, v_spare, v_text, v_typed, v_failure, v_hasFailed, v_isQuiet, v_from, v_end, v_numbers))) zk_pa (fun r46 => zk_qa) rfl rfl rfl rfl (Nat.le_of_ble_eq_true rfl) (fun r46 => [.int r46]) (fun _ => rfl) 49 rfl (fun r46 => ?_)
        refine zk_if_eq dX10_command_49 56 (by decide) 52 rfl (fun _ => ?_) (fun _ => ?_)
        · refine zk_lv [1] rfl ?_
          exact J56   
        · refine zk_iconst 1 dX10_command_52 (by decide) 53 rfl ?_
          refine zk_goto dX10_command_53 57 (by decide) ?_
          refine zk_lv [1] rfl ?_
          exact J57   1
    · refine zk_iload_n dX10_command_146 0 rfl 147 rfl ?_
      refine zk_iconst 5 dX10_command_147 (by decide) 148 rfl ?_
      refine zk_icmp_ne dX10_command_148 261 (by decide) 151 rfl (fun _ => ?_) (fun _ => ?_)
      · refine zk_aload_n dX10_command_151 1 rfl 152 rfl ?_
        refine zk_iconst 0 dX10_command_152 (by decide) 153 rfl ?_
        refine zk_bipush 98 dX10_command_153 (by decide) 155 rfl ?_
        refine zk_bipush 114 dX10_command_155 (by decide) 157 rfl ?_
        refine zk_callV (ci := 10) (st := []) (c_X10_spells E l a (v_z, v_snaps, v_hasSnap, v_past, v_pastHas, v_pastMany, v_before, v_spare, v_text, v_typed, v_failure, v_hasFailed, v_isQuiet, v_from, v_end, v_numbers) 0 98 114) dX10_command_157 3 gX10_command_X10_spells rfl rfl rfl cd_X10_spells ⟨Nat.le_of_ble_eq_true rfl, Nat.le_of_ble_eq_true rfl⟩ ⟨Nat.zero_le _, Nat.zero_le _⟩ _ (fun r157 => (gX10 E a (v_z, v_snaps, v_hasSnap, v_past, v_pastHas, v_pastMany, v_before, v_spare, v_text, v_typed, v_failure, v_hasFailed, v_isQuiet, v_from, v_end, v_numbers))) zk_pa (fun r157 => zk_qa) rfl rfl rfl rfl (Nat.le_of_ble_eq_true rfl) (fun r157 => [.int r157]) (fun _ => rfl) 160 rfl (fun r157 => ?_)
        refine zk_if_eq dX10_command_160 195 (by decide) 163 rfl (fun _ => ?_) (fun _ => ?_)
        · refine zk_lv [1] rfl ?_
          exact J195   
        · refine zk_aload_n dX10_command_163 1 rfl 164 rfl ?_
          refine zk_iconst 2 dX10_command_164 (by decide) 165 rfl ?_
          refine zk_bipush 101 dX10_command_165 (by decide) 167 rfl ?_
          refine zk_bipush 97 dX10_command_167 (by decide) 169 rfl ?_
          refine zk_callV (ci := 10) (st := []) (c_X10_spells E l a (v_z, v_snaps, v_hasSnap, v_past, v_pastHas, v_pastMany, v_before, v_spare, v_text, v_typed, v_failure, v_hasFailed, v_isQuiet, v_from, v_end, v_numbers) 2 101 97) dX10_command_169 3 gX10_command_X10_spells rfl rfl rfl cd_X10_spells ⟨Nat.le_of_ble_eq_true rfl, Nat.le_of_ble_eq_true rfl⟩ ⟨Nat.zero_le _, Nat.zero_le _⟩ _ (fun r169 => (gX10 E a (v_z, v_snaps, v_hasSnap, v_past, v_pastHas, v_pastMany, v_before, v_spare, v_text, v_typed, v_failure, v_hasFailed, v_isQuiet, v_from, v_end, v_numbers))) zk_pa (fun r169 => zk_qa) rfl rfl rfl rfl (Nat.le_of_ble_eq_true rfl) (fun r169 => [.int r169]) (fun _ => rfl) 172 rfl (fun r169 => ?_)
          refine zk_if_eq dX10_command_172 195 (by decide) 175 rfl (fun _ => ?_) (fun _ => ?_)
          · refine zk_lv [1] rfl ?_
            exact J195   
          · refine zk_aload_n dX10_command_175 1 rfl 176 rfl ?_
            refine zk_get dX10_command_176 0 rfl rfl kX10_command_inX10 8 (by decide) kX10_command_3 rfl 179 rfl ?_
            refine zk_aload_n dX10_command_179 1 rfl 180 rfl ?_
            refine zk_get dX10_command_180 0 rfl rfl kX10_command_inX10 13 (by decide) kX10_command_2 rfl 183 rfl ?_
            refine zk_iconst 4 dX10_command_183 (by decide) 184 rfl ?_
            refine zk_iadd dX10_command_184 185 rfl ?_
            refine zk_cald dX10_command_185 8 rfl 186 rfl ?_
            refine zk_bipush 107 dX10_command_186 (by decide) 188 rfl ?_
            refine zk_icmp_ne dX10_command_188 195 (by decide) 191 rfl (fun _ => ?_) (fun _ => ?_)
            · refine zk_iconst 1 dX10_command_191 (by decide) 192 rfl ?_
              refine zk_goto dX10_command_192 196 (by decide) ?_
              refine zk_lv [1] rfl ?_
              exact J196   1
            · refine zk_lv [1] rfl ?_
              exact J195   
      · refine zk_iconst (-1) dX10_command_261 (by decide) 262 rfl ?_
        exact zk_iret hQ dX10_command_262 rfl rfl
def f_X10_isNumber (v_text : (Nat → Int32)) (v_typed : Int32) (v_from : Int32) (v_end : Int32) : Option (Int32) := zk_let (v_end - v_from) fun x1_1 => (f_X10_isDigit v_from v_text v_typed).bind fun r15 => if r15 = 0 then some 0 else if 4 < x1_1 then some 0 else if x1_1 = 1 then some 1 else zk_ck v_from 120 (if (v_text v_from.toNatClampNeg) = 48 then some 0 else some 1)
theorem kX10_isNumber_inX10 : ∀ w ∈ u_ws RX10 TX10 16, w ∈ wsX10_isNumber := by decide +kernel
theorem kX10_isNumber_1 : Cond.fieldLink RX10 107 (TX10 14).1 (TX10 14).2.1 (TX10 14).2.2.1 ∈ wsX10_isNumber := by decide +kernel
theorem kX10_isNumber_2 : Cond.fieldLink RX10 110 (TX10 13).1 (TX10 13).2.1 (TX10 13).2.2.1 ∈ wsX10_isNumber := by decide +kernel
theorem kX10_isNumber_3 : Cond.fieldLink RX10 32 (TX10 8).1 (TX10 8).2.1 (TX10 8).2.2.1 ∈ wsX10_isNumber := by decide +kernel
theorem cd_X10_isNumber : yX10_isNumber.cls = RX10 ∧ yX10_isNumber.cls ≠ "java/lang/invoke/MethodHandle" ∧ yX10_isNumber.cls ≠ "java/lang/invoke/VarHandle" ∧ (parseMethodDescriptor yX10_isNumber.desc).map (fun d => d.parameters.length) = some 0 := by decide +kernel
set_option maxRecDepth 100000 in
set_option maxHeartbeats 4000000 in
theorem c_X10_isNumber (E : zk_Env) (l : Launch) (a : aX10) (v : VX10)  : zk_Mc E l yX10_isNumber wsX10_isNumber ({ frames := 1, cells := 0, slots := 0, locals := 21 } : Room) [.ref a.1] (gX10 E a v) (f_X10_isNumber v.2.2.2.2.2.2.2.2.1 v.2.2.2.2.2.2.2.2.2.1 v.2.2.2.2.2.2.2.2.2.2.2.2.2.1 v.2.2.2.2.2.2.2.2.2.2.2.2.2.2.1) (fun r => some (.int r)) (fun r => (gX10 E a v)) := by
  obtain ⟨v_z, v_snaps, v_hasSnap, v_past, v_pastHas, v_pastMany, v_before, v_spare, v_text, v_typed, v_failure, v_hasFailed, v_isQuiet, v_from, v_end, v_numbers⟩ := v
  refine zk_M (cc := cX10_isNumber) (nL := 2) (ret := (some .boolean)) (by decide) rfl (Nat.le_of_ble_eq_true rfl) (fun X Q hQ => ?_)
  refine zk_eqv (w1 := (gX10 E a (v_z, v_snaps, v_hasSnap, v_past, v_pastHas, v_pastMany, v_before, v_spare, v_text, v_typed, v_failure, v_hasFailed, v_isQuiet, v_from, v_end, v_numbers))) (lv1 := [(0, .ref a.1)]) (st1 := []) (o1 := f_X10_isNumber v_text v_typed v_from v_end) rfl rfl rfl rfl ?_
  unfold f_X10_isNumber
  refine zk_aload_n dX10_isNumber_0 0 rfl 1 rfl ?_
  refine zk_get dX10_isNumber_1 0 rfl rfl kX10_isNumber_inX10 14 (by decide) kX10_isNumber_1 rfl 4 rfl ?_
  refine zk_aload_n dX10_isNumber_4 0 rfl 5 rfl ?_
  refine zk_get dX10_isNumber_5 0 rfl rfl kX10_isNumber_inX10 13 (by decide) kX10_isNumber_2 rfl 8 rfl ?_
  refine zk_isub dX10_isNumber_8 9 rfl ?_
  refine zk_nm (fun x1_1 => ?_)
  refine zk_istore_n [(1, .int x1_1), (0, .ref a.1)] dX10_isNumber_9 (by decide) rfl 10 rfl ?_
  refine zk_aload_n dX10_isNumber_10 1 rfl 11 rfl ?_
  refine zk_aload_n dX10_isNumber_11 1 rfl 12 rfl ?_
  refine zk_get dX10_isNumber_12 0 rfl rfl kX10_isNumber_inX10 13 (by decide) kX10_isNumber_2 rfl 15 rfl ?_
  refine zk_callV (ci := 10) (st := []) (c_X10_isDigit E l a (v_z, v_snaps, v_hasSnap, v_past, v_pastHas, v_pastMany, v_before, v_spare, v_text, v_typed, v_failure, v_hasFailed, v_isQuiet, v_from, v_end, v_numbers) v_from) dX10_isNumber_15 1 gX10_isNumber_X10_isDigit rfl rfl rfl cd_X10_isDigit ⟨Nat.le_of_ble_eq_true rfl, Nat.le_of_ble_eq_true rfl⟩ ⟨Nat.zero_le _, Nat.zero_le _⟩ _ (fun r15 => (gX10 E a (v_z, v_snaps, v_hasSnap, v_past, v_pastHas, v_pastMany, v_before, v_spare, v_text, v_typed, v_failure, v_hasFailed, v_isQuiet, v_from, v_end, v_numbers))) zk_pa (fun r15 => zk_qa) rfl rfl rfl rfl (Nat.le_of_ble_eq_true rfl) (fun r15 => [.int r15]) (fun _ => rfl) 18 rfl (fun r15 => ?_)
  refine zk_if_eq dX10_isNumber_18 49 (by decide) 21 rfl (fun _ => ?_) (fun _ => ?_)
  · refine zk_iconst 0 dX10_isNumber_49 (by decide) 50 rfl ?_
    exact zk_zretL hQ dX10_isNumber_50 (Or.inl rfl) rfl rfl
  · refine zk_iload_n dX10_isNumber_21 0 rfl 22 rfl ?_
    refine zk_iconst 4 dX10_isNumber_22 (by decide) 23 rfl ?_
    refine zk_icmp_gt dX10_isNumber_23 49 (by decide) 26 rfl (fun _ => ?_) (fun _ => ?_)
    · refine zk_iconst 0 dX10_isNumber_49 (by decide) 50 rfl ?_
      exact zk_zretL hQ dX10_isNumber_50 (Or.inl rfl) rfl rfl
    · refine zk_iload_n dX10_isNumber_26 0 rfl 27 rfl ?_
      refine zk_iconst 1 dX10_isNumber_27 (by decide) 28 rfl ?_
      refine zk_icmp_eq dX10_isNumber_28 45 (by decide) 31 rfl (fun _ => ?_) (fun _ => ?_)
      · refine zk_iconst 1 dX10_isNumber_45 (by decide) 46 rfl ?_
        refine zk_goto dX10_isNumber_46 50 (by decide) ?_
        exact zk_zretL hQ dX10_isNumber_50 (Or.inr rfl) rfl rfl
      · refine zk_aload_n dX10_isNumber_31 1 rfl 32 rfl ?_
        refine zk_get dX10_isNumber_32 0 rfl rfl kX10_isNumber_inX10 8 (by decide) kX10_isNumber_3 rfl 35 rfl ?_
        refine zk_aload_n dX10_isNumber_35 1 rfl 36 rfl ?_
        refine zk_get dX10_isNumber_36 0 rfl rfl kX10_isNumber_inX10 13 (by decide) kX10_isNumber_2 rfl 39 rfl ?_
        refine zk_cald dX10_isNumber_39 8 rfl 40 rfl ?_
        refine zk_bipush 48 dX10_isNumber_40 (by decide) 42 rfl ?_
        refine zk_icmp_eq dX10_isNumber_42 49 (by decide) 45 rfl (fun _ => ?_) (fun _ => ?_)
        · refine zk_iconst 0 dX10_isNumber_49 (by decide) 50 rfl ?_
          exact zk_zretL hQ dX10_isNumber_50 (Or.inl rfl) rfl rfl
        · refine zk_iconst 1 dX10_isNumber_45 (by decide) 46 rfl ?_
          refine zk_goto dX10_isNumber_46 50 (by decide) ?_
          exact zk_zretL hQ dX10_isNumber_50 (Or.inr rfl) rfl rfl
def F_X10_number_7 (v_text : (Nat → Int32)) (v_end : Int32) (k7 : Int32 × Int32 → Option (Int32)) : Int32 × Int32 → Option (Int32) := fun s => match s with
  | (x1, x2) => if v_end ≤ x2 then some x1 else zk_ck x2 120 (zk_let (((10 * x1) + (v_text x2.toNatClampNeg)) - 48) fun x1_1 => k7 (x1_1, (x2 + 1)))
def f_X10_number (v_text : (Nat → Int32)) (v_from : Int32) (v_end : Int32) : Option (Int32) := zk_fx (F_X10_number_7 v_text v_end ) zk_N (0, v_from)
theorem kX10_number_inX10 : ∀ w ∈ u_ws RX10 TX10 16, w ∈ wsX10_number := by decide +kernel
theorem kX10_number_1 : Cond.fieldLink RX10 110 (TX10 13).1 (TX10 13).2.1 (TX10 13).2.2.1 ∈ wsX10_number := by decide +kernel
theorem kX10_number_2 : Cond.fieldLink RX10 107 (TX10 14).1 (TX10 14).2.1 (TX10 14).2.2.1 ∈ wsX10_number := by decide +kernel
theorem kX10_number_3 : Cond.fieldLink RX10 32 (TX10 8).1 (TX10 8).2.1 (TX10 8).2.2.1 ∈ wsX10_number := by decide +kernel
theorem cd_X10_number : yX10_number.cls = RX10 ∧ yX10_number.cls ≠ "java/lang/invoke/MethodHandle" ∧ yX10_number.cls ≠ "java/lang/invoke/VarHandle" ∧ (parseMethodDescriptor yX10_number.desc).map (fun d => d.parameters.length) = some 0 := by decide +kernel
set_option maxRecDepth 100000 in
set_option maxHeartbeats 4000000 in
theorem c_X10_number (E : zk_Env) (l : Launch) (a : aX10) (v : VX10)  : zk_Mc E l yX10_number wsX10_number ({ frames := 0, cells := 0, slots := 0, locals := 0 } : Room) [.ref a.1] (gX10 E a v) (f_X10_number v.2.2.2.2.2.2.2.2.1 v.2.2.2.2.2.2.2.2.2.2.2.2.2.1 v.2.2.2.2.2.2.2.2.2.2.2.2.2.2.1) (fun r => some (.int r)) (fun r => (gX10 E a v)) := by
  obtain ⟨v_z, v_snaps, v_hasSnap, v_past, v_pastHas, v_pastMany, v_before, v_spare, v_text, v_typed, v_failure, v_hasFailed, v_isQuiet, v_from, v_end, v_numbers⟩ := v
  refine zk_M (cc := cX10_number) (nL := 3) (ret := (some .int)) (by decide) rfl (Nat.le_of_ble_eq_true rfl) (fun X Q hQ => ?_)
  have J7 : ∀ (n : Nat) (x1 : Int32) (x2 : Int32), zk_G E l X cX10_number 3 (some .int) yX10_number.cls wsX10_number ({ frames := 0, cells := 0, slots := 0, locals := 0 } : Room) 0 0 Q (gX10 E a (v_z, v_snaps, v_hasSnap, v_past, v_pastHas, v_pastMany, v_before, v_spare, v_text, v_typed, v_failure, v_hasFailed, v_isQuiet, v_from, v_end, v_numbers)) [(0, .ref a.1), (1, .int x1), (2, .int x2)] 7 [] (zk_fx (F_X10_number_7 v_text v_end ) n (x1, x2)) := by
    intro n x1 x2
    refine zk_loop (S := Int32 × Int32) (F := F_X10_number_7 v_text v_end) (wS := fun s => (gX10 E a (v_z, v_snaps, v_hasSnap, v_past, v_pastHas, v_pastMany, v_before, v_spare, v_text, v_typed, v_failure, v_hasFailed, v_isQuiet, v_from, v_end, v_numbers))) (lS := fun s => [(0, .ref a.1), (1, .int s.1), (2, .int s.2)]) (sS := fun _ => []) (fun k7 hk7 s => ?_) n (x1, x2)
    obtain ⟨x1, x2⟩ := s
    unfold F_X10_number_7
    try dsimp only
    refine zk_iload_n dX10_number_7 2 rfl 8 rfl ?_
    refine zk_aload_n dX10_number_8 0 rfl 9 rfl ?_
    refine zk_get dX10_number_9 0 rfl rfl kX10_number_inX10 14 (by decide) kX10_number_2 rfl 12 rfl ?_
    refine zk_icmp_ge dX10_number_12 36 (by decide) 15 rfl (fun _ => ?_) (fun _ => ?_)
    · refine zk_iload_n dX10_number_36 1 rfl 37 rfl ?_
      exact zk_iret hQ dX10_number_37 rfl rfl
    · refine zk_bipush 10 dX10_number_15 (by decide) 17 rfl ?_
      refine zk_iload_n dX10_number_17 1 rfl 18 rfl ?_
      refine zk_imul dX10_number_18 19 rfl ?_
      refine zk_aload_n dX10_number_19 0 rfl 20 rfl ?_
      refine zk_get dX10_number_20 0 rfl rfl kX10_number_inX10 8 (by decide) kX10_number_3 rfl 23 rfl ?_
      refine zk_iload_n dX10_number_23 2 rfl 24 rfl ?_
      refine zk_cald dX10_number_24 8 rfl 25 rfl ?_
      refine zk_iadd dX10_number_25 26 rfl ?_
      refine zk_bipush 48 dX10_number_26 (by decide) 28 rfl ?_
      refine zk_isub dX10_number_28 29 rfl ?_
      refine zk_nm (fun x1_1 => ?_)
      refine zk_istore_n [(1, .int x1_1), (0, .ref a.1), (2, .int x2)] dX10_number_29 (by decide) rfl 30 rfl ?_
      refine zk_iinc (x2 + 1) [(2, .int (x2 + 1)), (1, .int x1_1), (0, .ref a.1)] dX10_number_30 2 rfl rfl (by decide) rfl 33 rfl ?_
      refine zk_goto dX10_number_33 7 (by decide) ?_
      refine zk_lv [2, 1, 0] rfl ?_
      exact hk7 (x1_1, (x2 + 1))
  refine zk_eqv (w1 := (gX10 E a (v_z, v_snaps, v_hasSnap, v_past, v_pastHas, v_pastMany, v_before, v_spare, v_text, v_typed, v_failure, v_hasFailed, v_isQuiet, v_from, v_end, v_numbers))) (lv1 := [(0, .ref a.1)]) (st1 := []) (o1 := f_X10_number v_text v_from v_end) rfl rfl rfl rfl ?_
  unfold f_X10_number
  refine zk_iconst 0 dX10_number_0 (by decide) 1 rfl ?_
  refine zk_istore_n [(1, .int 0), (0, .ref a.1)] dX10_number_1 (by decide) rfl 2 rfl ?_
  refine zk_aload_n dX10_number_2 1 rfl 3 rfl ?_
  refine zk_get dX10_number_3 0 rfl rfl kX10_number_inX10 13 (by decide) kX10_number_1 rfl 6 rfl ?_
  refine zk_istore_n [(2, .int v_from), (1, .int 0), (0, .ref a.1)] dX10_number_6 (by decide) rfl 7 rfl ?_
  refine zk_lv [2, 1, 0] rfl ?_
  exact J7    zk_N 0 v_from
def F_X10_readNumbers_2 (x1 : Int32) (v_text : (Nat → Int32)) (v_typed : Int32) (k2 : Int32 × Int32 × Int32 × (Nat → Int32) → Option (Int32 × Int32 × Int32 × (Nat → Int32))) : Int32 × Int32 × Int32 × (Nat → Int32) → Option (Int32 × Int32 × Int32 × (Nat → Int32)) := fun s => match s with
  | (x2, v_from, v_end, v_numbers) => if x1 ≤ x2 then (f_X10_readToken v_text v_typed v_end).bind fun r37 => if r37.2 ≤ r37.1 then some (0, r37.1, r37.2, v_numbers) else zk_ck r37.1 120 (if (v_text r37.1.toNatClampNeg) = 59 then some (1, r37.1, r37.2, v_numbers) else some (0, r37.1, r37.2, v_numbers)) else (f_X10_readToken v_text v_typed v_end).bind fun r8 => (f_X10_isNumber v_text v_typed r8.1 r8.2).bind fun r12 => if r12 = 0 then some (0, r8.1, r8.2, v_numbers) else (f_X10_number v_text r8.1 r8.2).bind fun r26 => zk_ck x2 3 (zk_let (upd v_numbers x2.toNatClampNeg r26) fun v_numbers_1 => k2 ((x2 + 1), r8.1, r8.2, v_numbers_1))
def f_X10_readNumbers (x1 : Int32) (v_text : (Nat → Int32)) (v_typed : Int32) (v_from : Int32) (v_end : Int32) (v_numbers : (Nat → Int32)) : Option (Int32 × Int32 × Int32 × (Nat → Int32)) := zk_fx (F_X10_readNumbers_2 x1 v_text v_typed ) zk_N (0, v_from, v_end, v_numbers)
theorem kX10_readNumbers_inX10 : ∀ w ∈ u_ws RX10 TX10 16, w ∈ wsX10_readNumbers := by decide +kernel
theorem kX10_readNumbers_1 : Cond.fieldLink RX10 107 (TX10 14).1 (TX10 14).2.1 (TX10 14).2.2.1 ∈ wsX10_readNumbers := by decide +kernel
theorem kX10_readNumbers_2 : Cond.fieldLink RX10 110 (TX10 13).1 (TX10 13).2.1 (TX10 13).2.2.1 ∈ wsX10_readNumbers := by decide +kernel
theorem kX10_readNumbers_3 : Cond.fieldLink RX10 32 (TX10 8).1 (TX10 8).2.1 (TX10 8).2.2.1 ∈ wsX10_readNumbers := by decide +kernel
theorem kX10_readNumbers_4 : Cond.fieldLink RX10 39 (TX10 15).1 (TX10 15).2.1 (TX10 15).2.2.1 ∈ wsX10_readNumbers := by decide +kernel
theorem cd_X10_readNumbers : yX10_readNumbers.cls = RX10 ∧ yX10_readNumbers.cls ≠ "java/lang/invoke/MethodHandle" ∧ yX10_readNumbers.cls ≠ "java/lang/invoke/VarHandle" ∧ (parseMethodDescriptor yX10_readNumbers.desc).map (fun d => d.parameters.length) = some 1 := by decide +kernel
set_option maxRecDepth 100000 in
set_option maxHeartbeats 4000000 in
theorem c_X10_readNumbers (E : zk_Env) (l : Launch) (a : aX10) (v : VX10) (x1 : Int32) : zk_Mc E l yX10_readNumbers wsX10_readNumbers ({ frames := 2, cells := 0, slots := 0, locals := 42 } : Room) [.ref a.1, .int x1] (gX10 E a v) (f_X10_readNumbers x1 v.2.2.2.2.2.2.2.2.1 v.2.2.2.2.2.2.2.2.2.1 v.2.2.2.2.2.2.2.2.2.2.2.2.2.1 v.2.2.2.2.2.2.2.2.2.2.2.2.2.2.1 v.2.2.2.2.2.2.2.2.2.2.2.2.2.2.2) (fun r => some (.int r.1)) (fun r => (gX10 E a (v.1, v.2.1, v.2.2.1, v.2.2.2.1, v.2.2.2.2.1, v.2.2.2.2.2.1, v.2.2.2.2.2.2.1, v.2.2.2.2.2.2.2.1, v.2.2.2.2.2.2.2.2.1, v.2.2.2.2.2.2.2.2.2.1, v.2.2.2.2.2.2.2.2.2.2.1, v.2.2.2.2.2.2.2.2.2.2.2.1, v.2.2.2.2.2.2.2.2.2.2.2.2.1, r.2.1, r.2.2.1, r.2.2.2))) := by
  obtain ⟨v_z, v_snaps, v_hasSnap, v_past, v_pastHas, v_pastMany, v_before, v_spare, v_text, v_typed, v_failure, v_hasFailed, v_isQuiet, v_from, v_end, v_numbers⟩ := v
  refine zk_M (cc := cX10_readNumbers) (nL := 3) (ret := (some .boolean)) (by decide) rfl (Nat.le_of_ble_eq_true rfl) (fun X Q hQ => ?_)
  have J2 : ∀ (n : Nat) (x2 : Int32) (v_from : Int32) (v_end : Int32) (v_numbers : (Nat → Int32)), zk_G E l X cX10_readNumbers 3 (some .boolean) yX10_readNumbers.cls wsX10_readNumbers ({ frames := 2, cells := 0, slots := 0, locals := 42 } : Room) 0 0 Q (gX10 E a (v_z, v_snaps, v_hasSnap, v_past, v_pastHas, v_pastMany, v_before, v_spare, v_text, v_typed, v_failure, v_hasFailed, v_isQuiet, v_from, v_end, v_numbers)) [(0, .ref a.1), (1, .int x1), (2, .int x2)] 2 [] (zk_fx (F_X10_readNumbers_2 x1 v_text v_typed ) n (x2, v_from, v_end, v_numbers)) := by
    intro n x2 v_from v_end v_numbers
    refine zk_loop (S := Int32 × Int32 × Int32 × (Nat → Int32)) (F := F_X10_readNumbers_2 x1 v_text v_typed) (wS := fun s => (gX10 E a (v_z, v_snaps, v_hasSnap, v_past, v_pastHas, v_pastMany, v_before, v_spare, v_text, v_typed, v_failure, v_hasFailed, v_isQuiet, s.2.1, s.2.2.1, s.2.2.2))) (lS := fun s => [(0, .ref a.1), (1, .int x1), (2, .int s.1)]) (sS := fun _ => []) (fun k2 hk2 s => ?_) n (x2, v_from, v_end, v_numbers)
    obtain ⟨x2, v_from, v_end, v_numbers⟩ := s
    unfold F_X10_readNumbers_2
    try dsimp only
    refine zk_iload_n dX10_readNumbers_2 2 rfl 3 rfl ?_
    refine zk_iload_n dX10_readNumbers_3 1 rfl 4 rfl ?_
    refine zk_icmp_ge dX10_readNumbers_4 36 (by decide) 7 rfl (fun _ => ?_) (fun _ => ?_)
    · refine zk_aload_n dX10_readNumbers_36 0 rfl 37 rfl ?_
      refine zk_callV (ci := 10) (st := []) (c_X10_readToken E l a (v_z, v_snaps, v_hasSnap, v_past, v_pastHas, v_pastMany, v_before, v_spare, v_text, v_typed, v_failure, v_hasFailed, v_isQuiet, v_from, v_end, v_numbers)) dX10_readNumbers_37 0 gX10_readNumbers_X10_readToken rfl rfl rfl cd_X10_readToken ⟨Nat.le_of_ble_eq_true rfl, Nat.le_of_ble_eq_true rfl⟩ ⟨Nat.zero_le _, Nat.zero_le _⟩ _ (fun r37 => (gX10 E a (v_z, v_snaps, v_hasSnap, v_past, v_pastHas, v_pastMany, v_before, v_spare, v_text, v_typed, v_failure, v_hasFailed, v_isQuiet, r37.1, r37.2, v_numbers))) zk_pa (fun r37 => zk_qa) rfl rfl rfl rfl (Nat.le_of_ble_eq_true rfl) (fun r37 => []) (fun _ => rfl) 40 rfl (fun r37 => ?_)
      refine zk_aload_n dX10_readNumbers_40 0 rfl 41 rfl ?_
      refine zk_get dX10_readNumbers_41 0 rfl rfl kX10_readNumbers_inX10 14 (by decide) kX10_readNumbers_1 rfl 44 rfl ?_
      refine zk_aload_n dX10_readNumbers_44 0 rfl 45 rfl ?_
      refine zk_get dX10_readNumbers_45 0 rfl rfl kX10_readNumbers_inX10 13 (by decide) kX10_readNumbers_2 rfl 48 rfl ?_
      refine zk_icmp_le dX10_readNumbers_48 69 (by decide) 51 rfl (fun _ => ?_) (fun _ => ?_)
      · refine zk_iconst 0 dX10_readNumbers_69 (by decide) 70 rfl ?_
        exact zk_zretL hQ dX10_readNumbers_70 (Or.inl rfl) rfl rfl
      · refine zk_aload_n dX10_readNumbers_51 0 rfl 52 rfl ?_
        refine zk_get dX10_readNumbers_52 0 rfl rfl kX10_readNumbers_inX10 8 (by decide) kX10_readNumbers_3 rfl 55 rfl ?_
        refine zk_aload_n dX10_readNumbers_55 0 rfl 56 rfl ?_
        refine zk_get dX10_readNumbers_56 0 rfl rfl kX10_readNumbers_inX10 13 (by decide) kX10_readNumbers_2 rfl 59 rfl ?_
        refine zk_cald dX10_readNumbers_59 8 rfl 60 rfl ?_
        refine zk_bipush 59 dX10_readNumbers_60 (by decide) 62 rfl ?_
        refine zk_icmp_ne dX10_readNumbers_62 69 (by decide) 65 rfl (fun _ => ?_) (fun _ => ?_)
        · refine zk_iconst 1 dX10_readNumbers_65 (by decide) 66 rfl ?_
          refine zk_goto dX10_readNumbers_66 70 (by decide) ?_
          exact zk_zretL hQ dX10_readNumbers_70 (Or.inr rfl) rfl rfl
        · refine zk_iconst 0 dX10_readNumbers_69 (by decide) 70 rfl ?_
          exact zk_zretL hQ dX10_readNumbers_70 (Or.inl rfl) rfl rfl
    · refine zk_aload_n dX10_readNumbers_7 0 rfl 8 rfl ?_
      refine zk_callV (ci := 10) (st := []) (c_X10_readToken E l a (v_z, v_snaps, v_hasSnap, v_past, v_pastHas, v_pastMany, v_before, v_spare, v_text, v_typed, v_failure, v_hasFailed, v_isQuiet, v_from, v_end, v_numbers)) dX10_readNumbers_8 0 gX10_readNumbers_X10_readToken rfl rfl rfl cd_X10_readToken ⟨Nat.le_of_ble_eq_true rfl, Nat.le_of_ble_eq_true rfl⟩ ⟨Nat.zero_le _, Nat.zero_le _⟩ _ (fun r8 => (gX10 E a (v_z, v_snaps, v_hasSnap, v_past, v_pastHas, v_pastMany, v_before, v_spare, v_text, v_typed, v_failure, v_hasFailed, v_isQuiet, r8.1, r8.2, v_numbers))) zk_pa (fun r8 => zk_qa) rfl rfl rfl rfl (Nat.le_of_ble_eq_true rfl) (fun r8 => []) (fun _ => rfl) 11 rfl (fun r8 => ?_)
      refine zk_aload_n dX10_readNumbers_11 0 rfl 12 rfl ?_
      refine zk_callV (ci := 10) (st := []) (c_X10_isNumber E l a (v_z, v_snaps, v_hasSnap, v_past, v_pastHas, v_pastMany, v_before, v_spare, v_text, v_typed, v_failure, v_hasFailed, v_isQuiet, r8.1, r8.2, v_numbers)) dX10_readNumbers_12 0 gX10_readNumbers_X10_isNumber rfl rfl rfl cd_X10_isNumber ⟨Nat.le_of_ble_eq_true rfl, Nat.le_of_ble_eq_true rfl⟩ ⟨Nat.zero_le _, Nat.zero_le _⟩ _ (fun r12 => (gX10 E a (v_z, v_snaps, v_hasSnap, v_past, v_pastHas, v_pastMany, v_before, v_spare, v_text, v_typed, v_failure, v_hasFailed, v_isQuiet, r8.1, r8.2, v_numbers))) zk_pa (fun r12 => zk_qa) rfl rfl rfl rfl (Nat.le_of_ble_eq_true rfl) (fun r12 => [.int r12]) (fun _ => rfl) 15 rfl (fun r12 => ?_)
      refine zk_if_ne dX10_readNumbers_15 20 (by decide) 18 rfl (fun _ => ?_) (fun _ => ?_)
      · refine zk_iconst 0 dX10_readNumbers_18 (by decide) 19 rfl ?_
        exact zk_zretL hQ dX10_readNumbers_19 (Or.inl rfl) rfl rfl
      · refine zk_aload_n dX10_readNumbers_20 0 rfl 21 rfl ?_
        refine zk_get dX10_readNumbers_21 0 rfl rfl kX10_readNumbers_inX10 15 (by decide) kX10_readNumbers_4 rfl 24 rfl ?_
        refine zk_iload_n dX10_readNumbers_24 2 rfl 25 rfl ?_
        refine zk_aload_n dX10_readNumbers_25 0 rfl 26 rfl ?_
        refine zk_callV (ci := 10) (st := [.int x2, .ref a.2.2.2.2.2.2.2.2.2.2]) (c_X10_number E l a (v_z, v_snaps, v_hasSnap, v_past, v_pastHas, v_pastMany, v_before, v_spare, v_text, v_typed, v_failure, v_hasFailed, v_isQuiet, r8.1, r8.2, v_numbers)) dX10_readNumbers_26 0 gX10_readNumbers_X10_number rfl rfl rfl cd_X10_number ⟨Nat.le_of_ble_eq_true rfl, Nat.le_of_ble_eq_true rfl⟩ ⟨Nat.zero_le _, Nat.zero_le _⟩ _ (fun r26 => (gX10 E a (v_z, v_snaps, v_hasSnap, v_past, v_pastHas, v_pastMany, v_before, v_spare, v_text, v_typed, v_failure, v_hasFailed, v_isQuiet, r8.1, r8.2, v_numbers))) zk_pa (fun r26 => zk_qa) rfl rfl rfl rfl (Nat.le_of_ble_eq_true rfl) (fun r26 => [.int r26, .int x2, .ref a.2.2.2.2.2.2.2.2.2.2]) (fun _ => rfl) 29 rfl (fun r26 => ?_)
        refine zk_iast (gX10 E a (v_z, v_snaps, v_hasSnap, v_past, v_pastHas, v_pastMany, v_before, v_spare, v_text, v_typed, v_failure, v_hasFailed, v_isQuiet, r8.1, r8.2, (upd v_numbers x2.toNatClampNeg r26))) dX10_readNumbers_29 10 rfl rfl 30 rfl ?_
        refine zk_nmw (fun v_numbers_1 => (gX10 E a (v_z, v_snaps, v_hasSnap, v_past, v_pastHas, v_pastMany, v_before, v_spare, v_text, v_typed, v_failure, v_hasFailed, v_isQuiet, r8.1, r8.2, v_numbers_1))) _ rfl (fun v_numbers_1 => ?_)
        refine zk_iinc (x2 + 1) [(2, .int (x2 + 1)), (0, .ref a.1), (1, .int x1)] dX10_readNumbers_30 2 rfl rfl (by decide) rfl 33 rfl ?_
        refine zk_goto dX10_readNumbers_33 2 (by decide) ?_
        refine zk_lv [1, 2, 0] rfl ?_
        exact hk2 ((x2 + 1), r8.1, r8.2, v_numbers_1)
  refine zk_eqv (w1 := (gX10 E a (v_z, v_snaps, v_hasSnap, v_past, v_pastHas, v_pastMany, v_before, v_spare, v_text, v_typed, v_failure, v_hasFailed, v_isQuiet, v_from, v_end, v_numbers))) (lv1 := [(0, .ref a.1), (1, .int x1)]) (st1 := []) (o1 := f_X10_readNumbers x1 v_text v_typed v_from v_end v_numbers) rfl rfl rfl rfl ?_
  unfold f_X10_readNumbers
  refine zk_iconst 0 dX10_readNumbers_0 (by decide) 1 rfl ?_
  refine zk_istore_n [(2, .int 0), (0, .ref a.1), (1, .int x1)] dX10_readNumbers_1 (by decide) rfl 2 rfl ?_
  refine zk_lv [1, 2, 0] rfl ?_
  exact J2    zk_N 0 v_from v_end v_numbers
def f_X10_does (x1 : Int32) (v_z : (Nat → Int32)) (v_snaps : (Nat → Int32)) (v_hasSnap : (Nat → Int32)) (v_past : (Nat → Int32)) (v_pastHas : (Nat → Int32)) (v_pastMany : Int32) (v_before : (Nat → Int32)) (v_isQuiet : Int32) (v_numbers : (Nat → Int32)) : Option (Int32 × (Nat → Int32) × (Nat → Int32) × (Nat → Int32) × Int32) := if x1 = 0 then zk_ck 0 3 (zk_ck 1 3 (zk_ck 2 3 ((f_X10_give (v_numbers (0 : Int32).toNatClampNeg) (v_numbers (1 : Int32).toNatClampNeg) (v_numbers (2 : Int32).toNatClampNeg) v_z v_snaps v_hasSnap v_past v_pastHas v_pastMany v_before v_isQuiet).bind fun r51 => some (r51.1, r51.2.1, r51.2.2.1, r51.2.2.2.1, r51.2.2.2.2)))) else if x1 = 1 then zk_ck 0 3 ((f_X10_breakOff (v_numbers (0 : Int32).toNatClampNeg) v_z v_snaps v_hasSnap v_past v_pastHas v_pastMany v_before v_isQuiet).bind fun r62 => some (r62.1, r62.2.1, r62.2.2.1, r62.2.2.2.1, r62.2.2.2.2)) else if x1 = 2 then zk_ck 0 3 (zk_ck 1 3 ((f_X10_move (v_numbers (0 : Int32).toNatClampNeg) (v_numbers (1 : Int32).toNatClampNeg) v_z v_snaps v_hasSnap v_past v_pastHas v_pastMany v_before v_isQuiet).bind fun r79 => some (r79.1, r79.2.1, r79.2.2.1, r79.2.2.2.1, r79.2.2.2.2))) else if x1 = 3 then zk_ck 0 3 ((f_X10_pass (v_numbers (0 : Int32).toNatClampNeg) v_z v_snaps v_hasSnap v_past v_pastHas v_pastMany v_before v_isQuiet).bind fun r90 => some (r90.1, r90.2.1, r90.2.2.1, r90.2.2.2.1, r90.2.2.2.2)) else (f_X10_sweep v_z v_snaps v_hasSnap v_past v_pastHas v_pastMany v_before v_isQuiet).bind fun r95 => some (r95.1, r95.2.1, r95.2.2.1, r95.2.2.2.1, r95.2.2.2.2)
theorem kX10_does_inX10 : ∀ w ∈ u_ws RX10 TX10 16, w ∈ wsX10_does := by decide +kernel
theorem kX10_does_1 : Cond.fieldLink RX10 39 (TX10 15).1 (TX10 15).2.1 (TX10 15).2.2.1 ∈ wsX10_does := by decide +kernel
theorem cd_X10_does : yX10_does.cls = RX10 ∧ yX10_does.cls ≠ "java/lang/invoke/MethodHandle" ∧ yX10_does.cls ≠ "java/lang/invoke/VarHandle" ∧ (parseMethodDescriptor yX10_does.desc).map (fun d => d.parameters.length) = some 1 := by decide +kernel
set_option maxRecDepth 100000 in
set_option maxHeartbeats 4000000 in
theorem c_X10_does (E : zk_Env) (l : Launch) (a : aX10) (v : VX10) (x1 : Int32) : zk_Mc E l yX10_does wsX10_does ({ frames := 6, cells := 0, slots := 0, locals := 133 } : Room) [.ref a.1, .int x1] (gX10 E a v) (f_X10_does x1 v.1 v.2.1 v.2.2.1 v.2.2.2.1 v.2.2.2.2.1 v.2.2.2.2.2.1 v.2.2.2.2.2.2.1 v.2.2.2.2.2.2.2.2.2.2.2.2.1 v.2.2.2.2.2.2.2.2.2.2.2.2.2.2.2) (fun r => some (.int r.1)) (fun r => (gX10 E a (r.2.1, v.2.1, v.2.2.1, r.2.2.1, r.2.2.2.1, r.2.2.2.2, v.2.2.2.2.2.2))) := by
  obtain ⟨v_z, v_snaps, v_hasSnap, v_past, v_pastHas, v_pastMany, v_before, v_spare, v_text, v_typed, v_failure, v_hasFailed, v_isQuiet, v_from, v_end, v_numbers⟩ := v
  refine zk_M (cc := cX10_does) (nL := 2) (ret := (some .int)) (by decide) rfl (Nat.le_of_ble_eq_true rfl) (fun X Q hQ => ?_)
  refine zk_eqv (w1 := (gX10 E a (v_z, v_snaps, v_hasSnap, v_past, v_pastHas, v_pastMany, v_before, v_spare, v_text, v_typed, v_failure, v_hasFailed, v_isQuiet, v_from, v_end, v_numbers))) (lv1 := [(0, .ref a.1), (1, .int x1)]) (st1 := []) (o1 := f_X10_does x1 v_z v_snaps v_hasSnap v_past v_pastHas v_pastMany v_before v_isQuiet v_numbers) rfl rfl rfl rfl ?_
  unfold f_X10_does
  refine zk_iload_n dX10_does_0 1 rfl 1 rfl ?_
  refine zk_if (c := x1 = 0) (fun h1_0 => ?_) (fun h1_0 => ?_)
  · refine zk_tableIn (off := 31) dX10_does_1 32 (by rw [h1_0]; decide) (by rw [h1_0]; decide) (by rw [h1_0]; rfl) (by decide) ?_
    refine zk_aload_n dX10_does_32 0 rfl 33 rfl ?_
    refine zk_aload_n dX10_does_33 0 rfl 34 rfl ?_
    refine zk_get dX10_does_34 0 rfl rfl kX10_does_inX10 15 (by decide) kX10_does_1 rfl 37 rfl ?_
    refine zk_iconst 0 dX10_does_37 (by decide) 38 rfl ?_
    refine zk_iald dX10_does_38 10 rfl 39 rfl ?_
    refine zk_aload_n dX10_does_39 0 rfl 40 rfl ?_
    refine zk_get dX10_does_40 0 rfl rfl kX10_does_inX10 15 (by decide) kX10_does_1 rfl 43 rfl ?_
    refine zk_iconst 1 dX10_does_43 (by decide) 44 rfl ?_
    refine zk_iald dX10_does_44 10 rfl 45 rfl ?_
    refine zk_aload_n dX10_does_45 0 rfl 46 rfl ?_
    refine zk_get dX10_does_46 0 rfl rfl kX10_does_inX10 15 (by decide) kX10_does_1 rfl 49 rfl ?_
    refine zk_iconst 2 dX10_does_49 (by decide) 50 rfl ?_
    refine zk_iald dX10_does_50 10 rfl 51 rfl ?_
    refine zk_callV (ci := 10) (st := []) (c_X10_give E l a (v_z, v_snaps, v_hasSnap, v_past, v_pastHas, v_pastMany, v_before, v_spare, v_text, v_typed, v_failure, v_hasFailed, v_isQuiet, v_from, v_end, v_numbers) (v_numbers (0 : Int32).toNatClampNeg) (v_numbers (1 : Int32).toNatClampNeg) (v_numbers (2 : Int32).toNatClampNeg)) dX10_does_51 3 gX10_does_X10_give rfl rfl rfl cd_X10_give ⟨Nat.le_of_ble_eq_true rfl, Nat.le_of_ble_eq_true rfl⟩ ⟨Nat.zero_le _, Nat.zero_le _⟩ _ (fun r51 => (gX10 E a (r51.2.1, v_snaps, v_hasSnap, r51.2.2.1, r51.2.2.2.1, r51.2.2.2.2, v_before, v_spare, v_text, v_typed, v_failure, v_hasFailed, v_isQuiet, v_from, v_end, v_numbers))) zk_pa (fun r51 => zk_qa) rfl rfl rfl rfl (Nat.le_of_ble_eq_true rfl) (fun r51 => [.int r51.1]) (fun _ => rfl) 54 rfl (fun r51 => ?_)
    exact zk_iret hQ dX10_does_54 rfl rfl
  refine zk_if (c := x1 = 1) (fun h1_1 => ?_) (fun h1_1 => ?_)
  · refine zk_tableIn (off := 54) dX10_does_1 55 (by rw [h1_1]; decide) (by rw [h1_1]; decide) (by rw [h1_1]; rfl) (by decide) ?_
    refine zk_aload_n dX10_does_55 0 rfl 56 rfl ?_
    refine zk_aload_n dX10_does_56 0 rfl 57 rfl ?_
    refine zk_get dX10_does_57 0 rfl rfl kX10_does_inX10 15 (by decide) kX10_does_1 rfl 60 rfl ?_
    refine zk_iconst 0 dX10_does_60 (by decide) 61 rfl ?_
    refine zk_iald dX10_does_61 10 rfl 62 rfl ?_
    refine zk_callV (ci := 10) (st := []) (c_X10_breakOff E l a (v_z, v_snaps, v_hasSnap, v_past, v_pastHas, v_pastMany, v_before, v_spare, v_text, v_typed, v_failure, v_hasFailed, v_isQuiet, v_from, v_end, v_numbers) (v_numbers (0 : Int32).toNatClampNeg)) dX10_does_62 1 gX10_does_X10_breakOff rfl rfl rfl cd_X10_breakOff ⟨Nat.le_of_ble_eq_true rfl, Nat.le_of_ble_eq_true rfl⟩ ⟨Nat.zero_le _, Nat.zero_le _⟩ _ (fun r62 => (gX10 E a (r62.2.1, v_snaps, v_hasSnap, r62.2.2.1, r62.2.2.2.1, r62.2.2.2.2, v_before, v_spare, v_text, v_typed, v_failure, v_hasFailed, v_isQuiet, v_from, v_end, v_numbers))) zk_pa (fun r62 => zk_qa) rfl rfl rfl rfl (Nat.le_of_ble_eq_true rfl) (fun r62 => [.int r62.1]) (fun _ => rfl) 65 rfl (fun r62 => ?_)
    exact zk_iret hQ dX10_does_65 rfl rfl
  refine zk_if (c := x1 = 2) (fun h1_2 => ?_) (fun h1_2 => ?_)
  · refine zk_tableIn (off := 65) dX10_does_1 66 (by rw [h1_2]; decide) (by rw [h1_2]; decide) (by rw [h1_2]; rfl) (by decide) ?_
    refine zk_aload_n dX10_does_66 0 rfl 67 rfl ?_
    refine zk_aload_n dX10_does_67 0 rfl 68 rfl ?_
    refine zk_get dX10_does_68 0 rfl rfl kX10_does_inX10 15 (by decide) kX10_does_1 rfl 71 rfl ?_
    refine zk_iconst 0 dX10_does_71 (by decide) 72 rfl ?_
    refine zk_iald dX10_does_72 10 rfl 73 rfl ?_
    refine zk_aload_n dX10_does_73 0 rfl 74 rfl ?_
    refine zk_get dX10_does_74 0 rfl rfl kX10_does_inX10 15 (by decide) kX10_does_1 rfl 77 rfl ?_
    refine zk_iconst 1 dX10_does_77 (by decide) 78 rfl ?_
    refine zk_iald dX10_does_78 10 rfl 79 rfl ?_
    refine zk_callV (ci := 10) (st := []) (c_X10_move E l a (v_z, v_snaps, v_hasSnap, v_past, v_pastHas, v_pastMany, v_before, v_spare, v_text, v_typed, v_failure, v_hasFailed, v_isQuiet, v_from, v_end, v_numbers) (v_numbers (0 : Int32).toNatClampNeg) (v_numbers (1 : Int32).toNatClampNeg)) dX10_does_79 2 gX10_does_X10_move rfl rfl rfl cd_X10_move ⟨Nat.le_of_ble_eq_true rfl, Nat.le_of_ble_eq_true rfl⟩ ⟨Nat.zero_le _, Nat.zero_le _⟩ _ (fun r79 => (gX10 E a (r79.2.1, v_snaps, v_hasSnap, r79.2.2.1, r79.2.2.2.1, r79.2.2.2.2, v_before, v_spare, v_text, v_typed, v_failure, v_hasFailed, v_isQuiet, v_from, v_end, v_numbers))) zk_pa (fun r79 => zk_qa) rfl rfl rfl rfl (Nat.le_of_ble_eq_true rfl) (fun r79 => [.int r79.1]) (fun _ => rfl) 82 rfl (fun r79 => ?_)
    exact zk_iret hQ dX10_does_82 rfl rfl
  refine zk_if (c := x1 = 3) (fun h1_3 => ?_) (fun h1_3 => ?_)
  · refine zk_tableIn (off := 82) dX10_does_1 83 (by rw [h1_3]; decide) (by rw [h1_3]; decide) (by rw [h1_3]; rfl) (by decide) ?_
    refine zk_aload_n dX10_does_83 0 rfl 84 rfl ?_
    refine zk_aload_n dX10_does_84 0 rfl 85 rfl ?_
    refine zk_get dX10_does_85 0 rfl rfl kX10_does_inX10 15 (by decide) kX10_does_1 rfl 88 rfl ?_
    refine zk_iconst 0 dX10_does_88 (by decide) 89 rfl ?_
    refine zk_iald dX10_does_89 10 rfl 90 rfl ?_
    refine zk_callV (ci := 10) (st := []) (c_X10_pass E l a (v_z, v_snaps, v_hasSnap, v_past, v_pastHas, v_pastMany, v_before, v_spare, v_text, v_typed, v_failure, v_hasFailed, v_isQuiet, v_from, v_end, v_numbers) (v_numbers (0 : Int32).toNatClampNeg)) dX10_does_90 1 gX10_does_X10_pass rfl rfl rfl cd_X10_pass ⟨Nat.le_of_ble_eq_true rfl, Nat.le_of_ble_eq_true rfl⟩ ⟨Nat.zero_le _, Nat.zero_le _⟩ _ (fun r90 => (gX10 E a (r90.2.1, v_snaps, v_hasSnap, r90.2.2.1, r90.2.2.2.1, r90.2.2.2.2, v_before, v_spare, v_text, v_typed, v_failure, v_hasFailed, v_isQuiet, v_from, v_end, v_numbers))) zk_pa (fun r90 => zk_qa) rfl rfl rfl rfl (Nat.le_of_ble_eq_true rfl) (fun r90 => [.int r90.1]) (fun _ => rfl) 93 rfl (fun r90 => ?_)
    exact zk_iret hQ dX10_does_93 rfl rfl
  refine zk_tableOut dX10_does_1 94 (by have e0 : x1.toInt ≠ 0 := fun z => h1_0 (Int32.toInt_inj.mp z); have e1 : x1.toInt ≠ 1 := fun z => h1_1 (Int32.toInt_inj.mp z); have e2 : x1.toInt ≠ 2 := fun z => h1_2 (Int32.toInt_inj.mp z); have e3 : x1.toInt ≠ 3 := fun z => h1_3 (Int32.toInt_inj.mp z); omega) (by decide) ?_
  refine zk_aload_n dX10_does_94 0 rfl 95 rfl ?_
  refine zk_callV (ci := 10) (st := []) (c_X10_sweep E l a (v_z, v_snaps, v_hasSnap, v_past, v_pastHas, v_pastMany, v_before, v_spare, v_text, v_typed, v_failure, v_hasFailed, v_isQuiet, v_from, v_end, v_numbers)) dX10_does_95 0 gX10_does_X10_sweep rfl rfl rfl cd_X10_sweep ⟨Nat.le_of_ble_eq_true rfl, Nat.le_of_ble_eq_true rfl⟩ ⟨Nat.zero_le _, Nat.zero_le _⟩ _ (fun r95 => (gX10 E a (r95.2.1, v_snaps, v_hasSnap, r95.2.2.1, r95.2.2.2.1, r95.2.2.2.2, v_before, v_spare, v_text, v_typed, v_failure, v_hasFailed, v_isQuiet, v_from, v_end, v_numbers))) zk_pa (fun r95 => zk_qa) rfl rfl rfl rfl (Nat.le_of_ble_eq_true rfl) (fun r95 => [.int r95.1]) (fun _ => rfl) 98 rfl (fun r95 => ?_)
  exact zk_iret hQ dX10_does_98 rfl rfl
def f_X10_numbersOf (x0 : Int32) : Option (Int32) := if x0 = 0 then some 3 else if x0 = 2 then some 2 else if x0 = 4 then some 0 else some 1
theorem cd_X10_numbersOf : yX10_numbersOf.cls ≠ "java/lang/invoke/MethodHandle" ∧ yX10_numbersOf.cls ≠ "java/lang/invoke/VarHandle" ∧ (parseMethodDescriptor yX10_numbersOf.desc).map (fun d => d.parameters.length) = some 1 := by decide +kernel
set_option maxRecDepth 100000 in
set_option maxHeartbeats 4000000 in
theorem c_X10_numbersOf (E : zk_Env) (l : Launch) (x0 : Int32) : zk_Mc E l yX10_numbersOf wsX10_numbersOf ({ frames := 0, cells := 0, slots := 0, locals := 0 } : Room) [.int x0] [] (f_X10_numbersOf x0) (fun r => some (.int r)) (fun r => []) := by
  refine zk_M (cc := cX10_numbersOf) (nL := 1) (ret := (some .int)) (by decide) rfl (Nat.le_of_ble_eq_true rfl) (fun X Q hQ => ?_)
  refine zk_eqv (w1 := []) (lv1 := [(0, .int x0)]) (st1 := []) (o1 := f_X10_numbersOf x0) rfl rfl rfl rfl ?_
  unfold f_X10_numbersOf
  refine zk_iload_n dX10_numbersOf_0 0 rfl 1 rfl ?_
  refine zk_if_ne dX10_numbersOf_1 8 (by decide) 4 rfl (fun _ => ?_) (fun _ => ?_)
  · refine zk_iconst 3 dX10_numbersOf_4 (by decide) 5 rfl ?_
    refine zk_goto dX10_numbersOf_5 27 (by decide) ?_
    exact zk_iret hQ dX10_numbersOf_27 rfl rfl
  · refine zk_iload_n dX10_numbersOf_8 0 rfl 9 rfl ?_
    refine zk_iconst 2 dX10_numbersOf_9 (by decide) 10 rfl ?_
    refine zk_icmp_ne dX10_numbersOf_10 17 (by decide) 13 rfl (fun _ => ?_) (fun _ => ?_)
    · refine zk_iconst 2 dX10_numbersOf_13 (by decide) 14 rfl ?_
      refine zk_goto dX10_numbersOf_14 27 (by decide) ?_
      exact zk_iret hQ dX10_numbersOf_27 rfl rfl
    · refine zk_iload_n dX10_numbersOf_17 0 rfl 18 rfl ?_
      refine zk_iconst 4 dX10_numbersOf_18 (by decide) 19 rfl ?_
      refine zk_icmp_ne dX10_numbersOf_19 26 (by decide) 22 rfl (fun _ => ?_) (fun _ => ?_)
      · refine zk_iconst 0 dX10_numbersOf_22 (by decide) 23 rfl ?_
        refine zk_goto dX10_numbersOf_23 27 (by decide) ?_
        exact zk_iret hQ dX10_numbersOf_27 rfl rfl
      · refine zk_iconst 1 dX10_numbersOf_26 (by decide) 27 rfl ?_
        exact zk_iret hQ dX10_numbersOf_27 rfl rfl
def F_X10_fail_8 (x1 : Int32) (x2 : Int32) (x3 : Int32) (x4 : Int32) (v_before : (Nat → Int32)) (v_failure : (Nat → Int32)) (v_hasFailed : Int32) (v_isQuiet : Int32) (k8 : Int32 × (Nat → Int32) → Option (Int32 × (Nat → Int32) × (Nat → Int32) × Int32 × Int32)) : Int32 × (Nat → Int32) → Option (Int32 × (Nat → Int32) × (Nat → Int32) × Int32 × Int32) := fun s => match s with
  | (x5, v_z) => if 368 ≤ x5 then zk_ck 0 4 (zk_let (upd v_failure (0 : Int32).toNatClampNeg x1) fun v_failure_1 => zk_ck 1 4 (zk_let (upd v_failure_1 (1 : Int32).toNatClampNeg x2) fun v_failure_2 => zk_ck 2 4 (zk_let (upd v_failure_2 (2 : Int32).toNatClampNeg x3) fun v_failure_3 => zk_ck 3 4 (zk_let (upd v_failure_3 (3 : Int32).toNatClampNeg x4) fun v_failure_4 => some (((-1000) - x2), v_z, v_failure_4, 1, v_isQuiet))))) else zk_ck x5 368 (zk_ck x5 368 (zk_let (upd v_z x5.toNatClampNeg (v_before x5.toNatClampNeg)) fun v_z_5 => k8 ((x5 + 1), v_z_5)))
def f_X10_fail (x1 : Int32) (x2 : Int32) (x3 : Int32) (x4 : Int32) (v_z : (Nat → Int32)) (v_before : (Nat → Int32)) (v_failure : (Nat → Int32)) (v_hasFailed : Int32) : Option (Int32 × (Nat → Int32) × (Nat → Int32) × Int32 × Int32) := zk_fx (F_X10_fail_8 x1 x2 x3 x4 v_before v_failure v_hasFailed 0 ) zk_N (0, v_z)
theorem kX10_fail_0 : Cond.fieldLink RX10 46 (TX10 12).1 (TX10 12).2.1 (TX10 12).2.2.1 ∈ wsX10_fail := by decide +kernel
theorem kX10_fail_inX10 : ∀ w ∈ u_ws RX10 TX10 16, w ∈ wsX10_fail := by decide +kernel
theorem kX10_fail_2 : Cond.fieldLink RX10 150 (TX10 11).1 (TX10 11).2.1 (TX10 11).2.2.1 ∈ wsX10_fail := by decide +kernel
theorem kX10_fail_3 : Cond.fieldLink RX10 36 (TX10 10).1 (TX10 10).2.1 (TX10 10).2.2.1 ∈ wsX10_fail := by decide +kernel
theorem kX10_fail_4 : Cond.fieldLink RX10 7 (TX10 0).1 (TX10 0).2.1 (TX10 0).2.2.1 ∈ wsX10_fail := by decide +kernel
theorem kX10_fail_5 : Cond.fieldLink RX10 26 (TX10 6).1 (TX10 6).2.1 (TX10 6).2.2.1 ∈ wsX10_fail := by decide +kernel
theorem cd_X10_fail : yX10_fail.cls = RX10 ∧ yX10_fail.cls ≠ "java/lang/invoke/MethodHandle" ∧ yX10_fail.cls ≠ "java/lang/invoke/VarHandle" ∧ (parseMethodDescriptor yX10_fail.desc).map (fun d => d.parameters.length) = some 4 := by decide +kernel
set_option maxRecDepth 100000 in
set_option maxHeartbeats 4000000 in
theorem c_X10_fail (E : zk_Env) (l : Launch) (a : aX10) (v : VX10) (x1 : Int32) (x2 : Int32) (x3 : Int32) (x4 : Int32) : zk_Mc E l yX10_fail wsX10_fail ({ frames := 0, cells := 0, slots := 0, locals := 0 } : Room) [.ref a.1, .int x1, .int x2, .int x3, .int x4] (gX10 E a v) (f_X10_fail x1 x2 x3 x4 v.1 v.2.2.2.2.2.2.1 v.2.2.2.2.2.2.2.2.2.2.1 v.2.2.2.2.2.2.2.2.2.2.2.1) (fun r => some (.int r.1)) (fun r => (gX10 E a (r.2.1, v.2.1, v.2.2.1, v.2.2.2.1, v.2.2.2.2.1, v.2.2.2.2.2.1, v.2.2.2.2.2.2.1, v.2.2.2.2.2.2.2.1, v.2.2.2.2.2.2.2.2.1, v.2.2.2.2.2.2.2.2.2.1, r.2.2.1, r.2.2.2.1, r.2.2.2.2, v.2.2.2.2.2.2.2.2.2.2.2.2.2))) := by
  obtain ⟨v_z, v_snaps, v_hasSnap, v_past, v_pastHas, v_pastMany, v_before, v_spare, v_text, v_typed, v_failure, v_hasFailed, v_isQuiet, v_from, v_end, v_numbers⟩ := v
  refine zk_M (cc := cX10_fail) (nL := 6) (ret := (some .int)) (by decide) rfl (Nat.le_of_ble_eq_true rfl) (fun X Q hQ => ?_)
  have J8 : ∀ (v_failure : (Nat → Int32)) (v_hasFailed : Int32) (v_isQuiet : Int32) (n : Nat) (x5 : Int32) (v_z : (Nat → Int32)), zk_G E l X cX10_fail 6 (some .int) yX10_fail.cls wsX10_fail ({ frames := 0, cells := 0, slots := 0, locals := 0 } : Room) 0 0 Q (gX10 E a (v_z, v_snaps, v_hasSnap, v_past, v_pastHas, v_pastMany, v_before, v_spare, v_text, v_typed, v_failure, v_hasFailed, v_isQuiet, v_from, v_end, v_numbers)) [(0, .ref a.1), (1, .int x1), (2, .int x2), (3, .int x3), (4, .int x4), (5, .int x5)] 8 [] (zk_fx (F_X10_fail_8 x1 x2 x3 x4 v_before v_failure v_hasFailed v_isQuiet ) n (x5, v_z)) := by
    intro v_failure v_hasFailed v_isQuiet n x5 v_z
    refine zk_loop (S := Int32 × (Nat → Int32)) (F := F_X10_fail_8 x1 x2 x3 x4 v_before v_failure v_hasFailed v_isQuiet) (wS := fun s => (gX10 E a (s.2, v_snaps, v_hasSnap, v_past, v_pastHas, v_pastMany, v_before, v_spare, v_text, v_typed, v_failure, v_hasFailed, v_isQuiet, v_from, v_end, v_numbers))) (lS := fun s => [(0, .ref a.1), (1, .int x1), (2, .int x2), (3, .int x3), (4, .int x4), (5, .int s.1)]) (sS := fun _ => []) (fun k8 hk8 s => ?_) n (x5, v_z)
    obtain ⟨x5, v_z⟩ := s
    unfold F_X10_fail_8
    try dsimp only
    refine zk_iload dX10_fail_8 5 rfl 10 rfl ?_
    refine zk_sipush 368 dX10_fail_10 (by decide) 13 rfl ?_
    refine zk_icmp_ge dX10_fail_13 36 (by decide) 16 rfl (fun _ => ?_) (fun _ => ?_)
    · refine zk_aload_n dX10_fail_36 0 rfl 37 rfl ?_
      refine zk_iconst 1 dX10_fail_37 (by decide) 38 rfl ?_
      refine zk_put_ tyX10 (gX10 E a (v_z, v_snaps, v_hasSnap, v_past, v_pastHas, v_pastMany, v_before, v_spare, v_text, v_typed, v_failure, 1, v_isQuiet, v_from, v_end, v_numbers)) dX10_fail_38 0 rfl rfl kX10_fail_inX10 tyX10_ok nmX10 11 (by decide) kX10_fail_2 rfl (tyX10_ok 11 (by decide)) rfl rfl (Nat.le_of_ble_eq_true rfl) rfl 41 rfl ?_
      refine zk_aload_n dX10_fail_41 0 rfl 42 rfl ?_
      refine zk_get dX10_fail_42 0 rfl rfl kX10_fail_inX10 10 (by decide) kX10_fail_3 rfl 45 rfl ?_
      refine zk_iconst 0 dX10_fail_45 (by decide) 46 rfl ?_
      refine zk_iload_n dX10_fail_46 1 rfl 47 rfl ?_
      refine zk_iast (gX10 E a (v_z, v_snaps, v_hasSnap, v_past, v_pastHas, v_pastMany, v_before, v_spare, v_text, v_typed, (upd v_failure (0 : Int32).toNatClampNeg x1), 1, v_isQuiet, v_from, v_end, v_numbers)) dX10_fail_47 9 rfl rfl 48 rfl ?_
      refine zk_nmw (fun v_failure_1 => (gX10 E a (v_z, v_snaps, v_hasSnap, v_past, v_pastHas, v_pastMany, v_before, v_spare, v_text, v_typed, v_failure_1, 1, v_isQuiet, v_from, v_end, v_numbers))) _ rfl (fun v_failure_1 => ?_)
      refine zk_aload_n dX10_fail_48 0 rfl 49 rfl ?_
      refine zk_get dX10_fail_49 0 rfl rfl kX10_fail_inX10 10 (by decide) kX10_fail_3 rfl 52 rfl ?_
      refine zk_iconst 1 dX10_fail_52 (by decide) 53 rfl ?_
      refine zk_iload_n dX10_fail_53 2 rfl 54 rfl ?_
      refine zk_iast (gX10 E a (v_z, v_snaps, v_hasSnap, v_past, v_pastHas, v_pastMany, v_before, v_spare, v_text, v_typed, (upd v_failure_1 (1 : Int32).toNatClampNeg x2), 1, v_isQuiet, v_from, v_end, v_numbers)) dX10_fail_54 9 rfl rfl 55 rfl ?_
      refine zk_nmw (fun v_failure_2 => (gX10 E a (v_z, v_snaps, v_hasSnap, v_past, v_pastHas, v_pastMany, v_before, v_spare, v_text, v_typed, v_failure_2, 1, v_isQuiet, v_from, v_end, v_numbers))) _ rfl (fun v_failure_2 => ?_)
      refine zk_aload_n dX10_fail_55 0 rfl 56 rfl ?_
      refine zk_get dX10_fail_56 0 rfl rfl kX10_fail_inX10 10 (by decide) kX10_fail_3 rfl 59 rfl ?_
      refine zk_iconst 2 dX10_fail_59 (by decide) 60 rfl ?_
      refine zk_iload_n dX10_fail_60 3 rfl 61 rfl ?_
      refine zk_iast (gX10 E a (v_z, v_snaps, v_hasSnap, v_past, v_pastHas, v_pastMany, v_before, v_spare, v_text, v_typed, (upd v_failure_2 (2 : Int32).toNatClampNeg x3), 1, v_isQuiet, v_from, v_end, v_numbers)) dX10_fail_61 9 rfl rfl 62 rfl ?_
      refine zk_nmw (fun v_failure_3 => (gX10 E a (v_z, v_snaps, v_hasSnap, v_past, v_pastHas, v_pastMany, v_before, v_spare, v_text, v_typed, v_failure_3, 1, v_isQuiet, v_from, v_end, v_numbers))) _ rfl (fun v_failure_3 => ?_)
      refine zk_aload_n dX10_fail_62 0 rfl 63 rfl ?_
      refine zk_get dX10_fail_63 0 rfl rfl kX10_fail_inX10 10 (by decide) kX10_fail_3 rfl 66 rfl ?_
      refine zk_iconst 3 dX10_fail_66 (by decide) 67 rfl ?_
      refine zk_iload dX10_fail_67 4 rfl 69 rfl ?_
      refine zk_iast (gX10 E a (v_z, v_snaps, v_hasSnap, v_past, v_pastHas, v_pastMany, v_before, v_spare, v_text, v_typed, (upd v_failure_3 (3 : Int32).toNatClampNeg x4), 1, v_isQuiet, v_from, v_end, v_numbers)) dX10_fail_69 9 rfl rfl 70 rfl ?_
      refine zk_nmw (fun v_failure_4 => (gX10 E a (v_z, v_snaps, v_hasSnap, v_past, v_pastHas, v_pastMany, v_before, v_spare, v_text, v_typed, v_failure_4, 1, v_isQuiet, v_from, v_end, v_numbers))) _ rfl (fun v_failure_4 => ?_)
      refine zk_sipush (-1000) dX10_fail_70 (by decide) 73 rfl ?_
      refine zk_iload_n dX10_fail_73 2 rfl 74 rfl ?_
      refine zk_isub dX10_fail_74 75 rfl ?_
      exact zk_iret hQ dX10_fail_75 rfl rfl
    · refine zk_aload_n dX10_fail_16 0 rfl 17 rfl ?_
      refine zk_get dX10_fail_17 0 rfl rfl kX10_fail_inX10 0 (by decide) kX10_fail_4 rfl 20 rfl ?_
      refine zk_iload dX10_fail_20 5 rfl 22 rfl ?_
      refine zk_aload_n dX10_fail_22 0 rfl 23 rfl ?_
      refine zk_get dX10_fail_23 0 rfl rfl kX10_fail_inX10 6 (by decide) kX10_fail_5 rfl 26 rfl ?_
      refine zk_iload dX10_fail_26 5 rfl 28 rfl ?_
      refine zk_iald dX10_fail_28 6 rfl 29 rfl ?_
      refine zk_iast (gX10 E a ((upd v_z x5.toNatClampNeg (v_before x5.toNatClampNeg)), v_snaps, v_hasSnap, v_past, v_pastHas, v_pastMany, v_before, v_spare, v_text, v_typed, v_failure, v_hasFailed, v_isQuiet, v_from, v_end, v_numbers)) dX10_fail_29 1 rfl rfl 30 rfl ?_
      refine zk_nmw (fun v_z_5 => (gX10 E a (v_z_5, v_snaps, v_hasSnap, v_past, v_pastHas, v_pastMany, v_before, v_spare, v_text, v_typed, v_failure, v_hasFailed, v_isQuiet, v_from, v_end, v_numbers))) _ rfl (fun v_z_5 => ?_)
      refine zk_iinc (x5 + 1) [(5, .int (x5 + 1)), (0, .ref a.1), (1, .int x1), (2, .int x2), (3, .int x3), (4, .int x4)] dX10_fail_30 5 rfl rfl (by decide) rfl 33 rfl ?_
      refine zk_goto dX10_fail_33 8 (by decide) ?_
      refine zk_lv [1, 2, 3, 4, 5, 0] rfl ?_
      exact hk8 ((x5 + 1), v_z_5)
  refine zk_eqv (w1 := (gX10 E a (v_z, v_snaps, v_hasSnap, v_past, v_pastHas, v_pastMany, v_before, v_spare, v_text, v_typed, v_failure, v_hasFailed, v_isQuiet, v_from, v_end, v_numbers))) (lv1 := [(0, .ref a.1), (1, .int x1), (2, .int x2), (3, .int x3), (4, .int x4)]) (st1 := []) (o1 := f_X10_fail x1 x2 x3 x4 v_z v_before v_failure v_hasFailed) rfl rfl rfl rfl ?_
  unfold f_X10_fail
  refine zk_aload_n dX10_fail_0 0 rfl 1 rfl ?_
  refine zk_iconst 0 dX10_fail_1 (by decide) 2 rfl ?_
  refine zk_put_ tyX10 (gX10 E a (v_z, v_snaps, v_hasSnap, v_past, v_pastHas, v_pastMany, v_before, v_spare, v_text, v_typed, v_failure, v_hasFailed, 0, v_from, v_end, v_numbers)) dX10_fail_2 0 rfl rfl kX10_fail_inX10 tyX10_ok nmX10 12 (by decide) kX10_fail_0 rfl (tyX10_ok 12 (by decide)) rfl rfl (Nat.le_of_ble_eq_true rfl) rfl 5 rfl ?_
  refine zk_iconst 0 dX10_fail_5 (by decide) 6 rfl ?_
  refine zk_istore [(5, .int 0), (0, .ref a.1), (1, .int x1), (2, .int x2), (3, .int x3), (4, .int x4)] dX10_fail_6 (by decide) rfl 8 rfl ?_
  refine zk_lv [1, 2, 3, 4, 5, 0] rfl ?_
  exact J8   v_failure v_hasFailed 0 zk_N 0 v_z
def f_X10_run_79 (x1 : Int32) (v_z : (Nat → Int32)) (v_past : (Nat → Int32)) (v_pastHas : (Nat → Int32)) (v_pastMany : Int32) (v_before : (Nat → Int32)) (v_typed : Int32) (v_failure : (Nat → Int32)) (v_hasFailed : Int32) (v_isQuiet : Int32) (v_from : Int32) (v_end : Int32) (v_numbers : (Nat → Int32)) : Option (Int32 × (Nat → Int32) × (Nat → Int32) × (Nat → Int32) × Int32 × (Nat → Int32) × Int32 × (Nat → Int32) × Int32 × Int32 × Int32 × Int32 × (Nat → Int32)) := (f_X10_fail 1 v_from x1 (-9) v_z v_before v_failure v_hasFailed).bind fun r88 => some (r88.1, r88.2.1, v_past, v_pastHas, v_pastMany, v_before, v_typed, r88.2.2.1, r88.2.2.2.1, r88.2.2.2.2, v_from, v_end, v_numbers)
def F_X10_run_43 (v_snaps : (Nat → Int32)) (v_hasSnap : (Nat → Int32)) (v_text : (Nat → Int32)) (v_before : (Nat → Int32)) (v_typed : Int32) (v_failure : (Nat → Int32)) (v_hasFailed : Int32) (v_isQuiet : Int32) (k43 : Int32 × (Nat → Int32) × (Nat → Int32) × (Nat → Int32) × Int32 × Int32 × Int32 × (Nat → Int32) → Option (Int32 × (Nat → Int32) × (Nat → Int32) × (Nat → Int32) × Int32 × (Nat → Int32) × Int32 × (Nat → Int32) × Int32 × Int32 × Int32 × Int32 × (Nat → Int32))) : Int32 × (Nat → Int32) × (Nat → Int32) × (Nat → Int32) × Int32 × Int32 × Int32 × (Nat → Int32) → Option (Int32 × (Nat → Int32) × (Nat → Int32) × (Nat → Int32) × Int32 × (Nat → Int32) × Int32 × (Nat → Int32) × Int32 × Int32 × Int32 × Int32 × (Nat → Int32)) := fun s => match s with
  | (x1, v_z, v_past, v_pastHas, v_pastMany, v_from, v_end, v_numbers) => if v_end ≤ v_from then (f_X10_push 1 v_z v_snaps v_hasSnap v_past v_pastHas v_pastMany v_before).bind fun r131 => some (x1, v_z, r131.1, r131.2.1, r131.2.2, v_before, 0, v_failure, v_hasFailed, 0, v_from, v_end, v_numbers) else (f_X10_command v_text v_typed v_from v_end).bind fun r60 => if r60 < 0 then f_X10_run_79 x1 v_z v_past v_pastHas v_pastMany v_before v_typed v_failure v_hasFailed v_isQuiet v_from v_end v_numbers else (f_X10_numbersOf r60).bind fun r70 => (f_X10_readNumbers r70 v_text v_typed v_from v_end v_numbers).bind fun r73 => if r73.1 = 0 then f_X10_run_79 x1 v_z v_past v_pastHas v_pastMany v_before v_typed v_failure v_hasFailed v_isQuiet r73.2.1 r73.2.2.1 r73.2.2.2 else (f_X10_does r60 v_z v_snaps v_hasSnap v_past v_pastHas v_pastMany v_before v_isQuiet r73.2.2.2).bind fun r94 => if 0 ≤ r94.1 then (f_X10_readToken v_text v_typed r73.2.2.1).bind fun r118 => k43 ((x1 + 1), r94.2.1, r94.2.2.1, r94.2.2.2.1, r94.2.2.2.2, r118.1, r118.2, r73.2.2.2) else (f_X10_fail 2 v_from x1 r94.1 r94.2.1 v_before v_failure v_hasFailed).bind fun r110 => some (r110.1, r110.2.1, r94.2.2.1, r94.2.2.2.1, r94.2.2.2.2, v_before, v_typed, r110.2.2.1, r110.2.2.2.1, r110.2.2.2.2, r73.2.1, r73.2.2.1, r73.2.2.2)
def F_X10_run_2 (v_snaps : (Nat → Int32)) (v_hasSnap : (Nat → Int32)) (v_text : (Nat → Int32)) (v_z : (Nat → Int32)) (v_past : (Nat → Int32)) (v_pastHas : (Nat → Int32)) (v_pastMany : Int32) (v_typed : Int32) (v_failure : (Nat → Int32)) (v_hasFailed : Int32) (v_isQuiet : Int32) (v_from : Int32) (v_end : Int32) (v_numbers : (Nat → Int32)) (k2 : Int32 × (Nat → Int32) → Option (Int32 × (Nat → Int32) × (Nat → Int32) × (Nat → Int32) × Int32 × (Nat → Int32) × Int32 × (Nat → Int32) × Int32 × Int32 × Int32 × Int32 × (Nat → Int32))) : Int32 × (Nat → Int32) → Option (Int32 × (Nat → Int32) × (Nat → Int32) × (Nat → Int32) × Int32 × (Nat → Int32) × Int32 × (Nat → Int32) × Int32 × Int32 × Int32 × Int32 × (Nat → Int32)) := fun s => match s with
  | (x1, v_before) => if 368 ≤ x1 then (f_X10_readToken v_text v_typed 0).bind fun r40 => zk_fx (F_X10_run_43 v_snaps v_hasSnap v_text v_before v_typed v_failure v_hasFailed 1 ) zk_N (0, v_z, v_past, v_pastHas, v_pastMany, r40.1, r40.2, v_numbers) else zk_ck x1 368 (zk_ck x1 368 (zk_let (upd v_before x1.toNatClampNeg (v_z x1.toNatClampNeg)) fun v_before_1 => k2 ((x1 + 1), v_before_1)))
def f_X10_run (v_z : (Nat → Int32)) (v_snaps : (Nat → Int32)) (v_hasSnap : (Nat → Int32)) (v_past : (Nat → Int32)) (v_pastHas : (Nat → Int32)) (v_pastMany : Int32) (v_before : (Nat → Int32)) (v_text : (Nat → Int32)) (v_typed : Int32) (v_failure : (Nat → Int32)) (v_hasFailed : Int32) (v_isQuiet : Int32) (v_from : Int32) (v_end : Int32) (v_numbers : (Nat → Int32)) : Option (Int32 × (Nat → Int32) × (Nat → Int32) × (Nat → Int32) × Int32 × (Nat → Int32) × Int32 × (Nat → Int32) × Int32 × Int32 × Int32 × Int32 × (Nat → Int32)) := zk_fx (F_X10_run_2 v_snaps v_hasSnap v_text v_z v_past v_pastHas v_pastMany v_typed v_failure v_hasFailed v_isQuiet v_from v_end v_numbers ) zk_N (0, v_before)
theorem kX10_run_0 : Cond.fieldLink RX10 46 (TX10 12).1 (TX10 12).2.1 (TX10 12).2.2.1 ∈ wsX10_run := by decide +kernel
theorem kX10_run_inX10 : ∀ w ∈ u_ws RX10 TX10 16, w ∈ wsX10_run := by decide +kernel
theorem kX10_run_2 : Cond.fieldLink RX10 107 (TX10 14).1 (TX10 14).2.1 (TX10 14).2.2.1 ∈ wsX10_run := by decide +kernel
theorem kX10_run_3 : Cond.fieldLink RX10 26 (TX10 6).1 (TX10 6).2.1 (TX10 6).2.2.1 ∈ wsX10_run := by decide +kernel
theorem kX10_run_4 : Cond.fieldLink RX10 7 (TX10 0).1 (TX10 0).2.1 (TX10 0).2.2.1 ∈ wsX10_run := by decide +kernel
theorem kX10_run_5 : Cond.fieldLink RX10 110 (TX10 13).1 (TX10 13).2.1 (TX10 13).2.2.1 ∈ wsX10_run := by decide +kernel
theorem kX10_run_6 : Cond.fieldLink RX10 104 (TX10 9).1 (TX10 9).2.1 (TX10 9).2.2.1 ∈ wsX10_run := by decide +kernel
theorem cd_X10_run : yX10_run.cls = RX10 ∧ yX10_run.cls ≠ "java/lang/invoke/MethodHandle" ∧ yX10_run.cls ≠ "java/lang/invoke/VarHandle" ∧ (parseMethodDescriptor yX10_run.desc).map (fun d => d.parameters.length) = some 0 := by decide +kernel
set_option maxRecDepth 100000 in
set_option maxHeartbeats 4000000 in
theorem c_X10_run (E : zk_Env) (l : Launch) (a : aX10) (v : VX10)  : zk_Mc E l yX10_run wsX10_run ({ frames := 7, cells := 0, slots := 0, locals := 154 } : Room) [.ref a.1] (gX10 E a v) (f_X10_run v.1 v.2.1 v.2.2.1 v.2.2.2.1 v.2.2.2.2.1 v.2.2.2.2.2.1 v.2.2.2.2.2.2.1 v.2.2.2.2.2.2.2.2.1 v.2.2.2.2.2.2.2.2.2.1 v.2.2.2.2.2.2.2.2.2.2.1 v.2.2.2.2.2.2.2.2.2.2.2.1 v.2.2.2.2.2.2.2.2.2.2.2.2.1 v.2.2.2.2.2.2.2.2.2.2.2.2.2.1 v.2.2.2.2.2.2.2.2.2.2.2.2.2.2.1 v.2.2.2.2.2.2.2.2.2.2.2.2.2.2.2) (fun r => some (.int r.1)) (fun r => (gX10 E a (r.2.1, v.2.1, v.2.2.1, r.2.2.1, r.2.2.2.1, r.2.2.2.2.1, r.2.2.2.2.2.1, v.2.2.2.2.2.2.2.1, v.2.2.2.2.2.2.2.2.1, r.2.2.2.2.2.2.1, r.2.2.2.2.2.2.2.1, r.2.2.2.2.2.2.2.2.1, r.2.2.2.2.2.2.2.2.2.1, r.2.2.2.2.2.2.2.2.2.2.1, r.2.2.2.2.2.2.2.2.2.2.2.1, r.2.2.2.2.2.2.2.2.2.2.2.2))) := by
  obtain ⟨v_z, v_snaps, v_hasSnap, v_past, v_pastHas, v_pastMany, v_before, v_spare, v_text, v_typed, v_failure, v_hasFailed, v_isQuiet, v_from, v_end, v_numbers⟩ := v
  refine zk_M (cc := cX10_run) (nL := 5) (ret := (some .int)) (by decide) rfl (Nat.le_of_ble_eq_true rfl) (fun X Q hQ => ?_)
  have J79 : ∀ (x1 : Int32) (v_z : (Nat → Int32)) (v_past : (Nat → Int32)) (v_pastHas : (Nat → Int32)) (v_pastMany : Int32) (v_before : (Nat → Int32)) (v_typed : Int32) (v_failure : (Nat → Int32)) (v_hasFailed : Int32) (v_isQuiet : Int32) (v_from : Int32) (v_end : Int32) (v_numbers : (Nat → Int32)), zk_G E l X cX10_run 5 (some .int) yX10_run.cls wsX10_run ({ frames := 7, cells := 0, slots := 0, locals := 154 } : Room) 0 0 Q (gX10 E a (v_z, v_snaps, v_hasSnap, v_past, v_pastHas, v_pastMany, v_before, v_spare, v_text, v_typed, v_failure, v_hasFailed, v_isQuiet, v_from, v_end, v_numbers)) [(0, .ref a.1), (1, .int x1)] 79 [] (f_X10_run_79 x1 v_z v_past v_pastHas v_pastMany v_before v_typed v_failure v_hasFailed v_isQuiet v_from v_end v_numbers) := by
    intro x1 v_z v_past v_pastHas v_pastMany v_before v_typed v_failure v_hasFailed v_isQuiet v_from v_end v_numbers
    unfold f_X10_run_79
    refine zk_aload_n dX10_run_79 0 rfl 80 rfl ?_
    refine zk_iconst 1 dX10_run_80 (by decide) 81 rfl ?_
    refine zk_aload_n dX10_run_81 0 rfl 82 rfl ?_
    refine zk_get dX10_run_82 0 rfl rfl kX10_run_inX10 13 (by decide) kX10_run_5 rfl 85 rfl ?_
    refine zk_iload_n dX10_run_85 1 rfl 86 rfl ?_
    refine zk_bipush (-9) dX10_run_86 (by decide) 88 rfl ?_
    refine zk_callV (ci := 10) (st := []) (c_X10_fail E l a (v_z, v_snaps, v_hasSnap, v_past, v_pastHas, v_pastMany, v_before, v_spare, v_text, v_typed, v_failure, v_hasFailed, v_isQuiet, v_from, v_end, v_numbers) 1 v_from x1 (-9)) dX10_run_88 4 gX10_run_X10_fail rfl rfl rfl cd_X10_fail ⟨Nat.le_of_ble_eq_true rfl, Nat.le_of_ble_eq_true rfl⟩ ⟨Nat.zero_le _, Nat.zero_le _⟩ _ (fun r88 => (gX10 E a (r88.2.1, v_snaps, v_hasSnap, v_past, v_pastHas, v_pastMany, v_before, v_spare, v_text, v_typed, r88.2.2.1, r88.2.2.2.1, r88.2.2.2.2, v_from, v_end, v_numbers))) zk_pa (fun r88 => zk_qa) rfl rfl rfl rfl (Nat.le_of_ble_eq_true rfl) (fun r88 => [.int r88.1]) (fun _ => rfl) 91 rfl (fun r88 => ?_)
    exact zk_iret hQ dX10_run_91 rfl rfl
  have J43 : ∀ (v_before : (Nat → Int32)) (v_typed : Int32) (v_failure : (Nat → Int32)) (v_hasFailed : Int32) (v_isQuiet : Int32) (n : Nat) (x1 : Int32) (v_z : (Nat → Int32)) (v_past : (Nat → Int32)) (v_pastHas : (Nat → Int32)) (v_pastMany : Int32) (v_from : Int32) (v_end : Int32) (v_numbers : (Nat → Int32)), zk_G E l X cX10_run 5 (some .int) yX10_run.cls wsX10_run ({ frames := 7, cells := 0, slots := 0, locals := 154 } : Room) 0 0 Q (gX10 E a (v_z, v_snaps, v_hasSnap, v_past, v_pastHas, v_pastMany, v_before, v_spare, v_text, v_typed, v_failure, v_hasFailed, v_isQuiet, v_from, v_end, v_numbers)) [(0, .ref a.1), (1, .int x1)] 43 [] (zk_fx (F_X10_run_43 v_snaps v_hasSnap v_text v_before v_typed v_failure v_hasFailed v_isQuiet ) n (x1, v_z, v_past, v_pastHas, v_pastMany, v_from, v_end, v_numbers)) := by
    intro v_before v_typed v_failure v_hasFailed v_isQuiet n x1 v_z v_past v_pastHas v_pastMany v_from v_end v_numbers
    refine zk_loop (S := Int32 × (Nat → Int32) × (Nat → Int32) × (Nat → Int32) × Int32 × Int32 × Int32 × (Nat → Int32)) (F := F_X10_run_43 v_snaps v_hasSnap v_text v_before v_typed v_failure v_hasFailed v_isQuiet) (wS := fun s => (gX10 E a (s.2.1, v_snaps, v_hasSnap, s.2.2.1, s.2.2.2.1, s.2.2.2.2.1, v_before, v_spare, v_text, v_typed, v_failure, v_hasFailed, v_isQuiet, s.2.2.2.2.2.1, s.2.2.2.2.2.2.1, s.2.2.2.2.2.2.2))) (lS := fun s => [(0, .ref a.1), (1, .int s.1)]) (sS := fun _ => []) (fun k43 hk43 s => ?_) n (x1, v_z, v_past, v_pastHas, v_pastMany, v_from, v_end, v_numbers)
    obtain ⟨x1, v_z, v_past, v_pastHas, v_pastMany, v_from, v_end, v_numbers⟩ := s
    unfold F_X10_run_43
    try dsimp only
    refine zk_aload_n dX10_run_43 0 rfl 44 rfl ?_
    refine zk_get dX10_run_44 0 rfl rfl kX10_run_inX10 14 (by decide) kX10_run_2 rfl 47 rfl ?_
    refine zk_aload_n dX10_run_47 0 rfl 48 rfl ?_
    refine zk_get dX10_run_48 0 rfl rfl kX10_run_inX10 13 (by decide) kX10_run_5 rfl 51 rfl ?_
    refine zk_icmp_le dX10_run_51 124 (by decide) 54 rfl (fun _ => ?_) (fun _ => ?_)
    · refine zk_aload_n dX10_run_124 0 rfl 125 rfl ?_
      refine zk_iconst 0 dX10_run_125 (by decide) 126 rfl ?_
      refine zk_put_ tyX10 (gX10 E a (v_z, v_snaps, v_hasSnap, v_past, v_pastHas, v_pastMany, v_before, v_spare, v_text, v_typed, v_failure, v_hasFailed, 0, v_from, v_end, v_numbers)) dX10_run_126 0 rfl rfl kX10_run_inX10 tyX10_ok nmX10 12 (by decide) kX10_run_0 rfl (tyX10_ok 12 (by decide)) rfl rfl (Nat.le_of_ble_eq_true rfl) rfl 129 rfl ?_
      refine zk_aload_n dX10_run_129 0 rfl 130 rfl ?_
      refine zk_iconst 1 dX10_run_130 (by decide) 131 rfl ?_
      refine zk_callV (ci := 10) (st := []) (c_X10_push E l a (v_z, v_snaps, v_hasSnap, v_past, v_pastHas, v_pastMany, v_before, v_spare, v_text, v_typed, v_failure, v_hasFailed, 0, v_from, v_end, v_numbers) 1) dX10_run_131 1 gX10_run_X10_push rfl rfl rfl cd_X10_push ⟨Nat.le_of_ble_eq_true rfl, Nat.le_of_ble_eq_true rfl⟩ ⟨Nat.zero_le _, Nat.zero_le _⟩ _ (fun r131 => (gX10 E a (v_z, v_snaps, v_hasSnap, r131.1, r131.2.1, r131.2.2, v_before, v_spare, v_text, v_typed, v_failure, v_hasFailed, 0, v_from, v_end, v_numbers))) zk_pa (fun r131 => zk_qa) rfl rfl rfl rfl (Nat.le_of_ble_eq_true rfl) (fun r131 => []) (fun _ => rfl) 134 rfl (fun r131 => ?_)
      refine zk_aload_n dX10_run_134 0 rfl 135 rfl ?_
      refine zk_iconst 0 dX10_run_135 (by decide) 136 rfl ?_
      refine zk_put_ tyX10 (gX10 E a (v_z, v_snaps, v_hasSnap, r131.1, r131.2.1, r131.2.2, v_before, v_spare, v_text, 0, v_failure, v_hasFailed, 0, v_from, v_end, v_numbers)) dX10_run_136 0 rfl rfl kX10_run_inX10 tyX10_ok nmX10 9 (by decide) kX10_run_6 rfl (tyX10_ok 9 (by decide)) rfl rfl (Nat.le_of_ble_eq_true rfl) rfl 139 rfl ?_
      refine zk_iload_n dX10_run_139 1 rfl 140 rfl ?_
      exact zk_iret hQ dX10_run_140 rfl rfl
    · refine zk_aload_n dX10_run_54 0 rfl 55 rfl ?_
      refine zk_get dX10_run_55 0 rfl rfl kX10_run_inX10 13 (by decide) kX10_run_5 rfl 58 rfl ?_
      refine zk_istore_n [(2, .int v_from), (0, .ref a.1), (1, .int x1)] dX10_run_58 (by decide) rfl 59 rfl ?_
      refine zk_aload_n dX10_run_59 1 rfl 60 rfl ?_
      refine zk_callV (ci := 10) (st := []) (c_X10_command E l a (v_z, v_snaps, v_hasSnap, v_past, v_pastHas, v_pastMany, v_before, v_spare, v_text, v_typed, v_failure, v_hasFailed, v_isQuiet, v_from, v_end, v_numbers)) dX10_run_60 0 gX10_run_X10_command rfl rfl rfl cd_X10_command ⟨Nat.le_of_ble_eq_true rfl, Nat.le_of_ble_eq_true rfl⟩ ⟨Nat.zero_le _, Nat.zero_le _⟩ _ (fun r60 => (gX10 E a (v_z, v_snaps, v_hasSnap, v_past, v_pastHas, v_pastMany, v_before, v_spare, v_text, v_typed, v_failure, v_hasFailed, v_isQuiet, v_from, v_end, v_numbers))) zk_pa (fun r60 => zk_qa) rfl rfl rfl rfl (Nat.le_of_ble_eq_true rfl) (fun r60 => [.int r60]) (fun _ => rfl) 63 rfl (fun r60 => ?_)
      refine zk_istore_n [(3, .int r60), (2, .int v_from), (0, .ref a.1), (1, .int x1)] dX10_run_63 (by decide) rfl 64 rfl ?_
      refine zk_iload_n dX10_run_64 0 rfl 65 rfl ?_
      refine zk_if_lt dX10_run_65 79 (by decide) 68 rfl (fun _ => ?_) (fun _ => ?_)
      · refine zk_lv [2, 3] rfl ?_
        exact J79   x1 v_z v_past v_pastHas v_pastMany v_before v_typed v_failure v_hasFailed v_isQuiet v_from v_end v_numbers
      · refine zk_aload_n dX10_run_68 2 rfl 69 rfl ?_
        refine zk_iload_n dX10_run_69 0 rfl 70 rfl ?_
        refine zk_callS (st := [.ref a.1]) (c_X10_numbersOf E l r60) dX10_run_70 1 gX10_run_X10_numbersOf rfl rfl rfl cd_X10_numbersOf ⟨Nat.le_of_ble_eq_true rfl, Nat.le_of_ble_eq_true rfl⟩ ⟨Nat.zero_le _, Nat.zero_le _⟩ _ (fun r70 => (gX10 E a (v_z, v_snaps, v_hasSnap, v_past, v_pastHas, v_pastMany, v_before, v_spare, v_text, v_typed, v_failure, v_hasFailed, v_isQuiet, v_from, v_end, v_numbers))) zk_pn (fun r70 => (List.Perm.refl _)) rfl rfl (Nat.le_of_ble_eq_true rfl) (fun r70 => [.int r70, .ref a.1]) (fun _ => rfl) 73 rfl (fun r70 => ?_)
        refine zk_callV (ci := 10) (st := []) (c_X10_readNumbers E l a (v_z, v_snaps, v_hasSnap, v_past, v_pastHas, v_pastMany, v_before, v_spare, v_text, v_typed, v_failure, v_hasFailed, v_isQuiet, v_from, v_end, v_numbers) r70) dX10_run_73 1 gX10_run_X10_readNumbers rfl rfl rfl cd_X10_readNumbers ⟨Nat.le_of_ble_eq_true rfl, Nat.le_of_ble_eq_true rfl⟩ ⟨Nat.zero_le _, Nat.zero_le _⟩ _ (fun r73 => (gX10 E a (v_z, v_snaps, v_hasSnap, v_past, v_pastHas, v_pastMany, v_before, v_spare, v_text, v_typed, v_failure, v_hasFailed, v_isQuiet, r73.2.1, r73.2.2.1, r73.2.2.2))) zk_pa (fun r73 => zk_qa) rfl rfl rfl rfl (Nat.le_of_ble_eq_true rfl) (fun r73 => [.int r73.1]) (fun _ => rfl) 76 rfl (fun r73 => ?_)
        refine zk_if_ne dX10_run_76 92 (by decide) 79 rfl (fun _ => ?_) (fun _ => ?_)
        · refine zk_lv [2, 3] rfl ?_
          exact J79   x1 v_z v_past v_pastHas v_pastMany v_before v_typed v_failure v_hasFailed v_isQuiet r73.2.1 r73.2.2.1 r73.2.2.2
        · refine zk_aload_n dX10_run_92 2 rfl 93 rfl ?_
          refine zk_iload_n dX10_run_93 0 rfl 94 rfl ?_
          refine zk_callV (ci := 10) (st := []) (c_X10_does E l a (v_z, v_snaps, v_hasSnap, v_past, v_pastHas, v_pastMany, v_before, v_spare, v_text, v_typed, v_failure, v_hasFailed, v_isQuiet, r73.2.1, r73.2.2.1, r73.2.2.2) r60) dX10_run_94 1 gX10_run_X10_does rfl rfl rfl cd_X10_does ⟨Nat.le_of_ble_eq_true rfl, Nat.le_of_ble_eq_true rfl⟩ ⟨Nat.zero_le _, Nat.zero_le _⟩ _ (fun r94 => (gX10 E a (r94.2.1, v_snaps, v_hasSnap, r94.2.2.1, r94.2.2.2.1, r94.2.2.2.2, v_before, v_spare, v_text, v_typed, v_failure, v_hasFailed, v_isQuiet, r73.2.1, r73.2.2.1, r73.2.2.2))) zk_pa (fun r94 => zk_qa) rfl rfl rfl rfl (Nat.le_of_ble_eq_true rfl) (fun r94 => [.int r94.1]) (fun _ => rfl) 97 rfl (fun r94 => ?_)
          refine zk_istore [(4, .int r94.1), (3, .int r60), (2, .int v_from), (0, .ref a.1), (1, .int x1)] dX10_run_97 (by decide) rfl 99 rfl ?_
          refine zk_iload dX10_run_99 0 rfl 101 rfl ?_
          refine zk_if_ge dX10_run_101 114 (by decide) 104 rfl (fun _ => ?_) (fun _ => ?_)
          · refine zk_iinc (x1 + 1) [(1, .int (x1 + 1)), (4, .int r94.1), (3, .int r60), (2, .int v_from), (0, .ref a.1)] dX10_run_114 4 rfl rfl (by decide) rfl 117 rfl ?_
            refine zk_aload_n dX10_run_117 4 rfl 118 rfl ?_
            refine zk_callV (ci := 10) (st := []) (c_X10_readToken E l a (r94.2.1, v_snaps, v_hasSnap, r94.2.2.1, r94.2.2.2.1, r94.2.2.2.2, v_before, v_spare, v_text, v_typed, v_failure, v_hasFailed, v_isQuiet, r73.2.1, r73.2.2.1, r73.2.2.2)) dX10_run_118 0 gX10_run_X10_readToken rfl rfl rfl cd_X10_readToken ⟨Nat.le_of_ble_eq_true rfl, Nat.le_of_ble_eq_true rfl⟩ ⟨Nat.zero_le _, Nat.zero_le _⟩ _ (fun r118 => (gX10 E a (r94.2.1, v_snaps, v_hasSnap, r94.2.2.1, r94.2.2.2.1, r94.2.2.2.2, v_before, v_spare, v_text, v_typed, v_failure, v_hasFailed, v_isQuiet, r118.1, r118.2, r73.2.2.2))) zk_pa (fun r118 => zk_qa) rfl rfl rfl rfl (Nat.le_of_ble_eq_true rfl) (fun r118 => []) (fun _ => rfl) 121 rfl (fun r118 => ?_)
            refine zk_goto dX10_run_121 43 (by decide) ?_
            refine zk_lv [4, 0] rfl ?_
            exact hk43 ((x1 + 1), r94.2.1, r94.2.2.1, r94.2.2.2.1, r94.2.2.2.2, r118.1, r118.2, r73.2.2.2)
          · refine zk_aload_n dX10_run_104 3 rfl 105 rfl ?_
            refine zk_iconst 2 dX10_run_105 (by decide) 106 rfl ?_
            refine zk_iload_n dX10_run_106 2 rfl 107 rfl ?_
            refine zk_iload_n dX10_run_107 4 rfl 108 rfl ?_
            refine zk_iload dX10_run_108 0 rfl 110 rfl ?_
            refine zk_callV (ci := 10) (st := []) (c_X10_fail E l a (r94.2.1, v_snaps, v_hasSnap, r94.2.2.1, r94.2.2.2.1, r94.2.2.2.2, v_before, v_spare, v_text, v_typed, v_failure, v_hasFailed, v_isQuiet, r73.2.1, r73.2.2.1, r73.2.2.2) 2 v_from x1 r94.1) dX10_run_110 4 gX10_run_X10_fail rfl rfl rfl cd_X10_fail ⟨Nat.le_of_ble_eq_true rfl, Nat.le_of_ble_eq_true rfl⟩ ⟨Nat.zero_le _, Nat.zero_le _⟩ _ (fun r110 => (gX10 E a (r110.2.1, v_snaps, v_hasSnap, r94.2.2.1, r94.2.2.2.1, r94.2.2.2.2, v_before, v_spare, v_text, v_typed, r110.2.2.1, r110.2.2.2.1, r110.2.2.2.2, r73.2.1, r73.2.2.1, r73.2.2.2))) zk_pa (fun r110 => zk_qa) rfl rfl rfl rfl (Nat.le_of_ble_eq_true rfl) (fun r110 => [.int r110.1]) (fun _ => rfl) 113 rfl (fun r110 => ?_)
            exact zk_iret hQ dX10_run_113 rfl rfl
  have J2 : ∀ (v_z : (Nat → Int32)) (v_past : (Nat → Int32)) (v_pastHas : (Nat → Int32)) (v_pastMany : Int32) (v_typed : Int32) (v_failure : (Nat → Int32)) (v_hasFailed : Int32) (v_isQuiet : Int32) (v_from : Int32) (v_end : Int32) (v_numbers : (Nat → Int32)) (n : Nat) (x1 : Int32) (v_before : (Nat → Int32)), zk_G E l X cX10_run 5 (some .int) yX10_run.cls wsX10_run ({ frames := 7, cells := 0, slots := 0, locals := 154 } : Room) 0 0 Q (gX10 E a (v_z, v_snaps, v_hasSnap, v_past, v_pastHas, v_pastMany, v_before, v_spare, v_text, v_typed, v_failure, v_hasFailed, v_isQuiet, v_from, v_end, v_numbers)) [(0, .ref a.1), (1, .int x1)] 2 [] (zk_fx (F_X10_run_2 v_snaps v_hasSnap v_text v_z v_past v_pastHas v_pastMany v_typed v_failure v_hasFailed v_isQuiet v_from v_end v_numbers ) n (x1, v_before)) := by
    intro v_z v_past v_pastHas v_pastMany v_typed v_failure v_hasFailed v_isQuiet v_from v_end v_numbers n x1 v_before
    refine zk_loop (S := Int32 × (Nat → Int32)) (F := F_X10_run_2 v_snaps v_hasSnap v_text v_z v_past v_pastHas v_pastMany v_typed v_failure v_hasFailed v_isQuiet v_from v_end v_numbers) (wS := fun s => (gX10 E a (v_z, v_snaps, v_hasSnap, v_past, v_pastHas, v_pastMany, s.2, v_spare, v_text, v_typed, v_failure, v_hasFailed, v_isQuiet, v_from, v_end, v_numbers))) (lS := fun s => [(0, .ref a.1), (1, .int s.1)]) (sS := fun _ => []) (fun k2 hk2 s => ?_) n (x1, v_before)
    obtain ⟨x1, v_before⟩ := s
    unfold F_X10_run_2
    try dsimp only
    refine zk_iload_n dX10_run_2 1 rfl 3 rfl ?_
    refine zk_sipush 368 dX10_run_3 (by decide) 6 rfl ?_
    refine zk_icmp_ge dX10_run_6 27 (by decide) 9 rfl (fun _ => ?_) (fun _ => ?_)
    · refine zk_aload_n dX10_run_27 0 rfl 28 rfl ?_
      refine zk_iconst 1 dX10_run_28 (by decide) 29 rfl ?_
      refine zk_put_ tyX10 (gX10 E a (v_z, v_snaps, v_hasSnap, v_past, v_pastHas, v_pastMany, v_before, v_spare, v_text, v_typed, v_failure, v_hasFailed, 1, v_from, v_end, v_numbers)) dX10_run_29 0 rfl rfl kX10_run_inX10 tyX10_ok nmX10 12 (by decide) kX10_run_0 rfl (tyX10_ok 12 (by decide)) rfl rfl (Nat.le_of_ble_eq_true rfl) rfl 32 rfl ?_
      refine zk_aload_n dX10_run_32 0 rfl 33 rfl ?_
      refine zk_iconst 0 dX10_run_33 (by decide) 34 rfl ?_
      refine zk_put_ tyX10 (gX10 E a (v_z, v_snaps, v_hasSnap, v_past, v_pastHas, v_pastMany, v_before, v_spare, v_text, v_typed, v_failure, v_hasFailed, 1, v_from, 0, v_numbers)) dX10_run_34 0 rfl rfl kX10_run_inX10 tyX10_ok nmX10 14 (by decide) kX10_run_2 rfl (tyX10_ok 14 (by decide)) rfl rfl (Nat.le_of_ble_eq_true rfl) rfl 37 rfl ?_
      refine zk_iconst 0 dX10_run_37 (by decide) 38 rfl ?_
      refine zk_istore_n [(1, .int 0), (0, .ref a.1)] dX10_run_38 (by decide) rfl 39 rfl ?_
      refine zk_aload_n dX10_run_39 1 rfl 40 rfl ?_
      refine zk_callV (ci := 10) (st := []) (c_X10_readToken E l a (v_z, v_snaps, v_hasSnap, v_past, v_pastHas, v_pastMany, v_before, v_spare, v_text, v_typed, v_failure, v_hasFailed, 1, v_from, 0, v_numbers)) dX10_run_40 0 gX10_run_X10_readToken rfl rfl rfl cd_X10_readToken ⟨Nat.le_of_ble_eq_true rfl, Nat.le_of_ble_eq_true rfl⟩ ⟨Nat.zero_le _, Nat.zero_le _⟩ _ (fun r40 => (gX10 E a (v_z, v_snaps, v_hasSnap, v_past, v_pastHas, v_pastMany, v_before, v_spare, v_text, v_typed, v_failure, v_hasFailed, 1, r40.1, r40.2, v_numbers))) zk_pa (fun r40 => zk_qa) rfl rfl rfl rfl (Nat.le_of_ble_eq_true rfl) (fun r40 => []) (fun _ => rfl) 43 rfl (fun r40 => ?_)
      refine zk_lv [1, 0] rfl ?_
      exact J43   v_before v_typed v_failure v_hasFailed 1 zk_N 0 v_z v_past v_pastHas v_pastMany r40.1 r40.2 v_numbers
    · refine zk_aload_n dX10_run_9 0 rfl 10 rfl ?_
      refine zk_get dX10_run_10 0 rfl rfl kX10_run_inX10 6 (by decide) kX10_run_3 rfl 13 rfl ?_
      refine zk_iload_n dX10_run_13 1 rfl 14 rfl ?_
      refine zk_aload_n dX10_run_14 0 rfl 15 rfl ?_
      refine zk_get dX10_run_15 0 rfl rfl kX10_run_inX10 0 (by decide) kX10_run_4 rfl 18 rfl ?_
      refine zk_iload_n dX10_run_18 1 rfl 19 rfl ?_
      refine zk_iald dX10_run_19 1 rfl 20 rfl ?_
      refine zk_iast (gX10 E a (v_z, v_snaps, v_hasSnap, v_past, v_pastHas, v_pastMany, (upd v_before x1.toNatClampNeg (v_z x1.toNatClampNeg)), v_spare, v_text, v_typed, v_failure, v_hasFailed, v_isQuiet, v_from, v_end, v_numbers)) dX10_run_20 6 rfl rfl 21 rfl ?_
      refine zk_nmw (fun v_before_1 => (gX10 E a (v_z, v_snaps, v_hasSnap, v_past, v_pastHas, v_pastMany, v_before_1, v_spare, v_text, v_typed, v_failure, v_hasFailed, v_isQuiet, v_from, v_end, v_numbers))) _ rfl (fun v_before_1 => ?_)
      refine zk_iinc (x1 + 1) [(1, .int (x1 + 1)), (0, .ref a.1)] dX10_run_21 1 rfl rfl (by decide) rfl 24 rfl ?_
      refine zk_goto dX10_run_24 2 (by decide) ?_
      refine zk_lv [1, 0] rfl ?_
      exact hk2 ((x1 + 1), v_before_1)
  refine zk_eqv (w1 := (gX10 E a (v_z, v_snaps, v_hasSnap, v_past, v_pastHas, v_pastMany, v_before, v_spare, v_text, v_typed, v_failure, v_hasFailed, v_isQuiet, v_from, v_end, v_numbers))) (lv1 := [(0, .ref a.1)]) (st1 := []) (o1 := f_X10_run v_z v_snaps v_hasSnap v_past v_pastHas v_pastMany v_before v_text v_typed v_failure v_hasFailed v_isQuiet v_from v_end v_numbers) rfl rfl rfl rfl ?_
  unfold f_X10_run
  refine zk_iconst 0 dX10_run_0 (by decide) 1 rfl ?_
  refine zk_istore_n [(1, .int 0), (0, .ref a.1)] dX10_run_1 (by decide) rfl 2 rfl ?_
  refine zk_lv [1, 0] rfl ?_
  exact J2   v_z v_past v_pastHas v_pastMany v_typed v_failure v_hasFailed v_isQuiet v_from v_end v_numbers zk_N 0 v_before
def f_X10_failure (x1 : Int32) (v_failure : (Nat → Int32)) (v_hasFailed : Int32) : Option (Int32) := if x1 < 0 then some (-1) else if x1 ≤ 3 then if v_hasFailed = 0 then some (-9) else zk_ck x1 4 (some (v_failure x1.toNatClampNeg)) else some (-1)
theorem kX10_failure_inX10 : ∀ w ∈ u_ws RX10 TX10 16, w ∈ wsX10_failure := by decide +kernel
theorem kX10_failure_1 : Cond.fieldLink RX10 150 (TX10 11).1 (TX10 11).2.1 (TX10 11).2.2.1 ∈ wsX10_failure := by decide +kernel
theorem kX10_failure_2 : Cond.fieldLink RX10 36 (TX10 10).1 (TX10 10).2.1 (TX10 10).2.2.1 ∈ wsX10_failure := by decide +kernel
theorem cd_X10_failure : yX10_failure.cls = RX10 ∧ yX10_failure.cls ≠ "java/lang/invoke/MethodHandle" ∧ yX10_failure.cls ≠ "java/lang/invoke/VarHandle" ∧ (parseMethodDescriptor yX10_failure.desc).map (fun d => d.parameters.length) = some 1 := by decide +kernel
set_option maxRecDepth 100000 in
set_option maxHeartbeats 4000000 in
theorem c_X10_failure (E : zk_Env) (l : Launch) (a : aX10) (v : VX10) (x1 : Int32) : zk_Mc E l yX10_failure wsX10_failure ({ frames := 0, cells := 0, slots := 0, locals := 0 } : Room) [.ref a.1, .int x1] (gX10 E a v) (f_X10_failure x1 v.2.2.2.2.2.2.2.2.2.2.1 v.2.2.2.2.2.2.2.2.2.2.2.1) (fun r => some (.int r)) (fun r => (gX10 E a v)) := by
  obtain ⟨v_z, v_snaps, v_hasSnap, v_past, v_pastHas, v_pastMany, v_before, v_spare, v_text, v_typed, v_failure, v_hasFailed, v_isQuiet, v_from, v_end, v_numbers⟩ := v
  refine zk_M (cc := cX10_failure) (nL := 2) (ret := (some .int)) (by decide) rfl (Nat.le_of_ble_eq_true rfl) (fun X Q hQ => ?_)
  refine zk_eqv (w1 := (gX10 E a (v_z, v_snaps, v_hasSnap, v_past, v_pastHas, v_pastMany, v_before, v_spare, v_text, v_typed, v_failure, v_hasFailed, v_isQuiet, v_from, v_end, v_numbers))) (lv1 := [(0, .ref a.1), (1, .int x1)]) (st1 := []) (o1 := f_X10_failure x1 v_failure v_hasFailed) rfl rfl rfl rfl ?_
  unfold f_X10_failure
  refine zk_iload_n dX10_failure_0 1 rfl 1 rfl ?_
  refine zk_if_lt dX10_failure_1 9 (by decide) 4 rfl (fun _ => ?_) (fun _ => ?_)
  · refine zk_iconst (-1) dX10_failure_9 (by decide) 10 rfl ?_
    exact zk_iret hQ dX10_failure_10 rfl rfl
  · refine zk_iload_n dX10_failure_4 1 rfl 5 rfl ?_
    refine zk_iconst 3 dX10_failure_5 (by decide) 6 rfl ?_
    refine zk_icmp_le dX10_failure_6 11 (by decide) 9 rfl (fun _ => ?_) (fun _ => ?_)
    · refine zk_aload_n dX10_failure_11 0 rfl 12 rfl ?_
      refine zk_get dX10_failure_12 0 rfl rfl kX10_failure_inX10 11 (by decide) kX10_failure_1 rfl 15 rfl ?_
      refine zk_if_eq dX10_failure_15 27 (by decide) 18 rfl (fun _ => ?_) (fun _ => ?_)
      · refine zk_bipush (-9) dX10_failure_27 (by decide) 29 rfl ?_
        exact zk_iret hQ dX10_failure_29 rfl rfl
      · refine zk_aload_n dX10_failure_18 0 rfl 19 rfl ?_
        refine zk_get dX10_failure_19 0 rfl rfl kX10_failure_inX10 10 (by decide) kX10_failure_2 rfl 22 rfl ?_
        refine zk_iload_n dX10_failure_22 1 rfl 23 rfl ?_
        refine zk_iald dX10_failure_23 9 rfl 24 rfl ?_
        refine zk_goto dX10_failure_24 29 (by decide) ?_
        exact zk_iret hQ dX10_failure_29 rfl rfl
    · refine zk_iconst (-1) dX10_failure_9 (by decide) 10 rfl ?_
      exact zk_iret hQ dX10_failure_10 rfl rfl
def f_X10_snapshots_14 (v_hasSnap : (Nat → Int32)) (s14_0 : Int32) : Option (Int32) := zk_ck 1 2 (if (v_hasSnap (1 : Int32).toNatClampNeg) = 0 then some s14_0 else some (s14_0 + 1))
def f_X10_snapshots (v_hasSnap : (Nat → Int32)) : Option (Int32) := zk_ck 0 2 (if (v_hasSnap (0 : Int32).toNatClampNeg) = 0 then f_X10_snapshots_14 v_hasSnap 0 else f_X10_snapshots_14 v_hasSnap 1)
theorem kX10_snapshots_inX10 : ∀ w ∈ u_ws RX10 TX10 16, w ∈ wsX10_snapshots := by decide +kernel
theorem kX10_snapshots_1 : Cond.fieldLink RX10 16 (TX10 2).1 (TX10 2).2.1 (TX10 2).2.2.1 ∈ wsX10_snapshots := by decide +kernel
theorem cd_X10_snapshots : yX10_snapshots.cls = RX10 ∧ yX10_snapshots.cls ≠ "java/lang/invoke/MethodHandle" ∧ yX10_snapshots.cls ≠ "java/lang/invoke/VarHandle" ∧ (parseMethodDescriptor yX10_snapshots.desc).map (fun d => d.parameters.length) = some 0 := by decide +kernel
set_option maxRecDepth 100000 in
set_option maxHeartbeats 4000000 in
theorem c_X10_snapshots (E : zk_Env) (l : Launch) (a : aX10) (v : VX10)  : zk_Mc E l yX10_snapshots wsX10_snapshots ({ frames := 0, cells := 0, slots := 0, locals := 0 } : Room) [.ref a.1] (gX10 E a v) (f_X10_snapshots v.2.2.1) (fun r => some (.int r)) (fun r => (gX10 E a v)) := by
  obtain ⟨v_z, v_snaps, v_hasSnap, v_past, v_pastHas, v_pastMany, v_before, v_spare, v_text, v_typed, v_failure, v_hasFailed, v_isQuiet, v_from, v_end, v_numbers⟩ := v
  refine zk_M (cc := cX10_snapshots) (nL := 2) (ret := (some .int)) (by decide) rfl (Nat.le_of_ble_eq_true rfl) (fun X Q hQ => ?_)
  have J14 : ∀ (s14_0 : Int32), zk_G E l X cX10_snapshots 2 (some .int) yX10_snapshots.cls wsX10_snapshots ({ frames := 0, cells := 0, slots := 0, locals := 0 } : Room) 0 0 Q (gX10 E a (v_z, v_snaps, v_hasSnap, v_past, v_pastHas, v_pastMany, v_before, v_spare, v_text, v_typed, v_failure, v_hasFailed, v_isQuiet, v_from, v_end, v_numbers)) [(0, .ref a.1)] 14 [.int s14_0] (f_X10_snapshots_14 v_hasSnap s14_0) := by
    intro s14_0
    unfold f_X10_snapshots_14
    refine zk_istore_n [(1, .int s14_0), (0, .ref a.1)] dX10_snapshots_14 (by decide) rfl 15 rfl ?_
    refine zk_aload_n dX10_snapshots_15 1 rfl 16 rfl ?_
    refine zk_get dX10_snapshots_16 0 rfl rfl kX10_snapshots_inX10 2 (by decide) kX10_snapshots_1 rfl 19 rfl ?_
    refine zk_iconst 1 dX10_snapshots_19 (by decide) 20 rfl ?_
    refine zk_zald dX10_snapshots_20 3 rfl 21 rfl ?_
    refine zk_if_eq dX10_snapshots_21 30 (by decide) 24 rfl (fun _ => ?_) (fun _ => ?_)
    · refine zk_iload_n dX10_snapshots_30 0 rfl 31 rfl ?_
      exact zk_iret hQ dX10_snapshots_31 rfl rfl
    · refine zk_iload_n dX10_snapshots_24 0 rfl 25 rfl ?_
      refine zk_iconst 1 dX10_snapshots_25 (by decide) 26 rfl ?_
      refine zk_iadd dX10_snapshots_26 27 rfl ?_
      refine zk_goto dX10_snapshots_27 31 (by decide) ?_
      exact zk_iret hQ dX10_snapshots_31 rfl rfl
  refine zk_eqv (w1 := (gX10 E a (v_z, v_snaps, v_hasSnap, v_past, v_pastHas, v_pastMany, v_before, v_spare, v_text, v_typed, v_failure, v_hasFailed, v_isQuiet, v_from, v_end, v_numbers))) (lv1 := [(0, .ref a.1)]) (st1 := []) (o1 := f_X10_snapshots v_hasSnap) rfl rfl rfl rfl ?_
  unfold f_X10_snapshots
  refine zk_aload_n dX10_snapshots_0 0 rfl 1 rfl ?_
  refine zk_get dX10_snapshots_1 0 rfl rfl kX10_snapshots_inX10 2 (by decide) kX10_snapshots_1 rfl 4 rfl ?_
  refine zk_iconst 0 dX10_snapshots_4 (by decide) 5 rfl ?_
  refine zk_zald dX10_snapshots_5 3 rfl 6 rfl ?_
  refine zk_if_eq dX10_snapshots_6 13 (by decide) 9 rfl (fun _ => ?_) (fun _ => ?_)
  · refine zk_iconst 0 dX10_snapshots_13 (by decide) 14 rfl ?_
    exact J14   0
  · refine zk_iconst 1 dX10_snapshots_9 (by decide) 10 rfl ?_
    refine zk_goto dX10_snapshots_10 14 (by decide) ?_
    exact J14   1
def f_X10_count (x1 : Int32) (v_z : (Nat → Int32)) (v_hasSnap : (Nat → Int32)) (v_pastMany : Int32) (v_typed : Int32) : Option (Int32) := if x1 < 0 then some (-1) else if x1 ≤ 16 then if x1 = 0 then zk_ck 0 368 (some (v_z (0 : Int32).toNatClampNeg)) else if x1 = 1 then zk_ck 1 368 (some (v_z (1 : Int32).toNatClampNeg)) else if x1 = 2 then (f_X10_inState 0 v_z).bind fun r100 => some r100 else if x1 = 3 then (f_X10_inState 1 v_z).bind fun r106 => some r106 else if x1 = 4 then (f_X10_inState 3 v_z).bind fun r112 => some r112 else if x1 = 5 then if 11 ≤ x1 then zk_ck ((2 + x1) - 14) 368 (some (v_z ((2 + x1) - 14).toNatClampNeg)) else zk_ck ((5 + x1) - 5) 368 (some (v_z ((5 + x1) - 5).toNatClampNeg)) else if x1 = 6 then if 11 ≤ x1 then zk_ck ((2 + x1) - 14) 368 (some (v_z ((2 + x1) - 14).toNatClampNeg)) else zk_ck ((5 + x1) - 5) 368 (some (v_z ((5 + x1) - 5).toNatClampNeg)) else if x1 = 7 then if 11 ≤ x1 then zk_ck ((2 + x1) - 14) 368 (some (v_z ((2 + x1) - 14).toNatClampNeg)) else zk_ck ((5 + x1) - 5) 368 (some (v_z ((5 + x1) - 5).toNatClampNeg)) else if x1 = 8 then if 11 ≤ x1 then zk_ck ((2 + x1) - 14) 368 (some (v_z ((2 + x1) - 14).toNatClampNeg)) else zk_ck ((5 + x1) - 5) 368 (some (v_z ((5 + x1) - 5).toNatClampNeg)) else if x1 = 9 then if 11 ≤ x1 then zk_ck ((2 + x1) - 14) 368 (some (v_z ((2 + x1) - 14).toNatClampNeg)) else zk_ck ((5 + x1) - 5) 368 (some (v_z ((5 + x1) - 5).toNatClampNeg)) else if x1 = 10 then if 11 ≤ x1 then zk_ck ((2 + x1) - 14) 368 (some (v_z ((2 + x1) - 14).toNatClampNeg)) else zk_ck ((5 + x1) - 5) 368 (some (v_z ((5 + x1) - 5).toNatClampNeg)) else if x1 = 11 then (f_X10_snapshots v_hasSnap).bind fun r117 => some r117 else if x1 = 12 then some v_pastMany else if x1 = 13 then some v_typed else if 11 ≤ x1 then zk_ck ((2 + x1) - 14) 368 (some (v_z ((2 + x1) - 14).toNatClampNeg)) else zk_ck ((5 + x1) - 5) 368 (some (v_z ((5 + x1) - 5).toNatClampNeg)) else some (-1)
theorem kX10_count_inX10 : ∀ w ∈ u_ws RX10 TX10 16, w ∈ wsX10_count := by decide +kernel
theorem kX10_count_1 : Cond.fieldLink RX10 7 (TX10 0).1 (TX10 0).2.1 (TX10 0).2.2.1 ∈ wsX10_count := by decide +kernel
theorem kX10_count_2 : Cond.fieldLink RX10 42 (TX10 5).1 (TX10 5).2.1 (TX10 5).2.2.1 ∈ wsX10_count := by decide +kernel
theorem kX10_count_3 : Cond.fieldLink RX10 104 (TX10 9).1 (TX10 9).2.1 (TX10 9).2.2.1 ∈ wsX10_count := by decide +kernel
theorem cd_X10_count : yX10_count.cls = RX10 ∧ yX10_count.cls ≠ "java/lang/invoke/MethodHandle" ∧ yX10_count.cls ≠ "java/lang/invoke/VarHandle" ∧ (parseMethodDescriptor yX10_count.desc).map (fun d => d.parameters.length) = some 1 := by decide +kernel
set_option maxRecDepth 100000 in
set_option maxHeartbeats 4000000 in
theorem c_X10_count (E : zk_Env) (l : Launch) (a : aX10) (v : VX10) (x1 : Int32) : zk_Mc E l yX10_count wsX10_count ({ frames := 1, cells := 0, slots := 0, locals := 23 } : Room) [.ref a.1, .int x1] (gX10 E a v) (f_X10_count x1 v.1 v.2.2.1 v.2.2.2.2.2.1 v.2.2.2.2.2.2.2.2.2.1) (fun r => some (.int r)) (fun r => (gX10 E a v)) := by
  obtain ⟨v_z, v_snaps, v_hasSnap, v_past, v_pastHas, v_pastMany, v_before, v_spare, v_text, v_typed, v_failure, v_hasFailed, v_isQuiet, v_from, v_end, v_numbers⟩ := v
  refine zk_M (cc := cX10_count) (nL := 2) (ret := (some .int)) (by decide) rfl (Nat.le_of_ble_eq_true rfl) (fun X Q hQ => ?_)
  refine zk_eqv (w1 := (gX10 E a (v_z, v_snaps, v_hasSnap, v_past, v_pastHas, v_pastMany, v_before, v_spare, v_text, v_typed, v_failure, v_hasFailed, v_isQuiet, v_from, v_end, v_numbers))) (lv1 := [(0, .ref a.1), (1, .int x1)]) (st1 := []) (o1 := f_X10_count x1 v_z v_hasSnap v_pastMany v_typed) rfl rfl rfl rfl ?_
  unfold f_X10_count
  refine zk_iload_n dX10_count_0 1 rfl 1 rfl ?_
  refine zk_if_lt dX10_count_1 10 (by decide) 4 rfl (fun _ => ?_) (fun _ => ?_)
  · refine zk_iconst (-1) dX10_count_10 (by decide) 11 rfl ?_
    exact zk_iret hQ dX10_count_11 rfl rfl
  · refine zk_iload_n dX10_count_4 1 rfl 5 rfl ?_
    refine zk_bipush 16 dX10_count_5 (by decide) 7 rfl ?_
    refine zk_icmp_le dX10_count_7 12 (by decide) 10 rfl (fun _ => ?_) (fun _ => ?_)
    · refine zk_iload_n dX10_count_12 1 rfl 13 rfl ?_
      refine zk_if (c := x1 = 0) (fun h13_0 => ?_) (fun h13_0 => ?_)
      · refine zk_tableIn (off := 71) dX10_count_13 84 (by rw [h13_0]; decide) (by rw [h13_0]; decide) (by rw [h13_0]; rfl) (by decide) ?_
        refine zk_aload_n dX10_count_84 0 rfl 85 rfl ?_
        refine zk_get dX10_count_85 0 rfl rfl kX10_count_inX10 0 (by decide) kX10_count_1 rfl 88 rfl ?_
        refine zk_iconst 0 dX10_count_88 (by decide) 89 rfl ?_
        refine zk_iald dX10_count_89 1 rfl 90 rfl ?_
        exact zk_iret hQ dX10_count_90 rfl rfl
      refine zk_if (c := x1 = 1) (fun h13_1 => ?_) (fun h13_1 => ?_)
      · refine zk_tableIn (off := 78) dX10_count_13 91 (by rw [h13_1]; decide) (by rw [h13_1]; decide) (by rw [h13_1]; rfl) (by decide) ?_
        refine zk_aload_n dX10_count_91 0 rfl 92 rfl ?_
        refine zk_get dX10_count_92 0 rfl rfl kX10_count_inX10 0 (by decide) kX10_count_1 rfl 95 rfl ?_
        refine zk_iconst 1 dX10_count_95 (by decide) 96 rfl ?_
        refine zk_iald dX10_count_96 1 rfl 97 rfl ?_
        exact zk_iret hQ dX10_count_97 rfl rfl
      refine zk_if (c := x1 = 2) (fun h13_2 => ?_) (fun h13_2 => ?_)
      · refine zk_tableIn (off := 85) dX10_count_13 98 (by rw [h13_2]; decide) (by rw [h13_2]; decide) (by rw [h13_2]; rfl) (by decide) ?_
        refine zk_aload_n dX10_count_98 0 rfl 99 rfl ?_
        refine zk_iconst 0 dX10_count_99 (by decide) 100 rfl ?_
        refine zk_callV (ci := 10) (st := []) (c_X10_inState E l a (v_z, v_snaps, v_hasSnap, v_past, v_pastHas, v_pastMany, v_before, v_spare, v_text, v_typed, v_failure, v_hasFailed, v_isQuiet, v_from, v_end, v_numbers) 0) dX10_count_100 1 gX10_count_X10_inState rfl rfl rfl cd_X10_inState ⟨Nat.le_of_ble_eq_true rfl, Nat.le_of_ble_eq_true rfl⟩ ⟨Nat.zero_le _, Nat.zero_le _⟩ _ (fun r100 => (gX10 E a (v_z, v_snaps, v_hasSnap, v_past, v_pastHas, v_pastMany, v_before, v_spare, v_text, v_typed, v_failure, v_hasFailed, v_isQuiet, v_from, v_end, v_numbers))) zk_pa (fun r100 => zk_qa) rfl rfl rfl rfl (Nat.le_of_ble_eq_true rfl) (fun r100 => [.int r100]) (fun _ => rfl) 103 rfl (fun r100 => ?_)
        exact zk_iret hQ dX10_count_103 rfl rfl
      refine zk_if (c := x1 = 3) (fun h13_3 => ?_) (fun h13_3 => ?_)
      · refine zk_tableIn (off := 91) dX10_count_13 104 (by rw [h13_3]; decide) (by rw [h13_3]; decide) (by rw [h13_3]; rfl) (by decide) ?_
        refine zk_aload_n dX10_count_104 0 rfl 105 rfl ?_
        refine zk_iconst 1 dX10_count_105 (by decide) 106 rfl ?_
        refine zk_callV (ci := 10) (st := []) (c_X10_inState E l a (v_z, v_snaps, v_hasSnap, v_past, v_pastHas, v_pastMany, v_before, v_spare, v_text, v_typed, v_failure, v_hasFailed, v_isQuiet, v_from, v_end, v_numbers) 1) dX10_count_106 1 gX10_count_X10_inState rfl rfl rfl cd_X10_inState ⟨Nat.le_of_ble_eq_true rfl, Nat.le_of_ble_eq_true rfl⟩ ⟨Nat.zero_le _, Nat.zero_le _⟩ _ (fun r106 => (gX10 E a (v_z, v_snaps, v_hasSnap, v_past, v_pastHas, v_pastMany, v_before, v_spare, v_text, v_typed, v_failure, v_hasFailed, v_isQuiet, v_from, v_end, v_numbers))) zk_pa (fun r106 => zk_qa) rfl rfl rfl rfl (Nat.le_of_ble_eq_true rfl) (fun r106 => [.int r106]) (fun _ => rfl) 109 rfl (fun r106 => ?_)
        exact zk_iret hQ dX10_count_109 rfl rfl
      refine zk_if (c := x1 = 4) (fun h13_4 => ?_) (fun h13_4 => ?_)
      · refine zk_tableIn (off := 97) dX10_count_13 110 (by rw [h13_4]; decide) (by rw [h13_4]; decide) (by rw [h13_4]; rfl) (by decide) ?_
        refine zk_aload_n dX10_count_110 0 rfl 111 rfl ?_
        refine zk_iconst 3 dX10_count_111 (by decide) 112 rfl ?_
        refine zk_callV (ci := 10) (st := []) (c_X10_inState E l a (v_z, v_snaps, v_hasSnap, v_past, v_pastHas, v_pastMany, v_before, v_spare, v_text, v_typed, v_failure, v_hasFailed, v_isQuiet, v_from, v_end, v_numbers) 3) dX10_count_112 1 gX10_count_X10_inState rfl rfl rfl cd_X10_inState ⟨Nat.le_of_ble_eq_true rfl, Nat.le_of_ble_eq_true rfl⟩ ⟨Nat.zero_le _, Nat.zero_le _⟩ _ (fun r112 => (gX10 E a (v_z, v_snaps, v_hasSnap, v_past, v_pastHas, v_pastMany, v_before, v_spare, v_text, v_typed, v_failure, v_hasFailed, v_isQuiet, v_from, v_end, v_numbers))) zk_pa (fun r112 => zk_qa) rfl rfl rfl rfl (Nat.le_of_ble_eq_true rfl) (fun r112 => [.int r112]) (fun _ => rfl) 115 rfl (fun r112 => ?_)
        exact zk_iret hQ dX10_count_115 rfl rfl
      refine zk_if (c := x1 = 5) (fun h13_5 => ?_) (fun h13_5 => ?_)
      · refine zk_tableIn (off := 118) dX10_count_13 131 (by rw [h13_5]; decide) (by rw [h13_5]; decide) (by rw [h13_5]; rfl) (by decide) ?_
        refine zk_iload_n dX10_count_131 1 rfl 132 rfl ?_
        refine zk_bipush 11 dX10_count_132 (by decide) 134 rfl ?_
        refine zk_icmp_ge dX10_count_134 150 (by decide) 137 rfl (fun _ => ?_) (fun _ => ?_)
        · refine zk_aload_n dX10_count_150 0 rfl 151 rfl ?_
          refine zk_get dX10_count_151 0 rfl rfl kX10_count_inX10 0 (by decide) kX10_count_1 rfl 154 rfl ?_
          refine zk_iconst 2 dX10_count_154 (by decide) 155 rfl ?_
          refine zk_iload_n dX10_count_155 1 rfl 156 rfl ?_
          refine zk_iadd dX10_count_156 157 rfl ?_
          refine zk_bipush 14 dX10_count_157 (by decide) 159 rfl ?_
          refine zk_isub dX10_count_159 160 rfl ?_
          refine zk_iald dX10_count_160 1 rfl 161 rfl ?_
          exact zk_iret hQ dX10_count_161 rfl rfl
        · refine zk_aload_n dX10_count_137 0 rfl 138 rfl ?_
          refine zk_get dX10_count_138 0 rfl rfl kX10_count_inX10 0 (by decide) kX10_count_1 rfl 141 rfl ?_
          refine zk_iconst 5 dX10_count_141 (by decide) 142 rfl ?_
          refine zk_iload_n dX10_count_142 1 rfl 143 rfl ?_
          refine zk_iadd dX10_count_143 144 rfl ?_
          refine zk_iconst 5 dX10_count_144 (by decide) 145 rfl ?_
          refine zk_isub dX10_count_145 146 rfl ?_
          refine zk_iald dX10_count_146 1 rfl 147 rfl ?_
          refine zk_goto dX10_count_147 161 (by decide) ?_
          exact zk_iret hQ dX10_count_161 rfl rfl
      refine zk_if (c := x1 = 6) (fun h13_6 => ?_) (fun h13_6 => ?_)
      · refine zk_tableIn (off := 118) dX10_count_13 131 (by rw [h13_6]; decide) (by rw [h13_6]; decide) (by rw [h13_6]; rfl) (by decide) ?_
        refine zk_iload_n dX10_count_131 1 rfl 132 rfl ?_
        refine zk_bipush 11 dX10_count_132 (by decide) 134 rfl ?_
        refine zk_icmp_ge dX10_count_134 150 (by decide) 137 rfl (fun _ => ?_) (fun _ => ?_)
        · refine zk_aload_n dX10_count_150 0 rfl 151 rfl ?_
          refine zk_get dX10_count_151 0 rfl rfl kX10_count_inX10 0 (by decide) kX10_count_1 rfl 154 rfl ?_
          refine zk_iconst 2 dX10_count_154 (by decide) 155 rfl ?_
          refine zk_iload_n dX10_count_155 1 rfl 156 rfl ?_
          refine zk_iadd dX10_count_156 157 rfl ?_
          refine zk_bipush 14 dX10_count_157 (by decide) 159 rfl ?_
          refine zk_isub dX10_count_159 160 rfl ?_
          refine zk_iald dX10_count_160 1 rfl 161 rfl ?_
          exact zk_iret hQ dX10_count_161 rfl rfl
        · refine zk_aload_n dX10_count_137 0 rfl 138 rfl ?_
          refine zk_get dX10_count_138 0 rfl rfl kX10_count_inX10 0 (by decide) kX10_count_1 rfl 141 rfl ?_
          refine zk_iconst 5 dX10_count_141 (by decide) 142 rfl ?_
          refine zk_iload_n dX10_count_142 1 rfl 143 rfl ?_
          refine zk_iadd dX10_count_143 144 rfl ?_
          refine zk_iconst 5 dX10_count_144 (by decide) 145 rfl ?_
          refine zk_isub dX10_count_145 146 rfl ?_
          refine zk_iald dX10_count_146 1 rfl 147 rfl ?_
          refine zk_goto dX10_count_147 161 (by decide) ?_
          exact zk_iret hQ dX10_count_161 rfl rfl
      refine zk_if (c := x1 = 7) (fun h13_7 => ?_) (fun h13_7 => ?_)
      · refine zk_tableIn (off := 118) dX10_count_13 131 (by rw [h13_7]; decide) (by rw [h13_7]; decide) (by rw [h13_7]; rfl) (by decide) ?_
        refine zk_iload_n dX10_count_131 1 rfl 132 rfl ?_
        refine zk_bipush 11 dX10_count_132 (by decide) 134 rfl ?_
        refine zk_icmp_ge dX10_count_134 150 (by decide) 137 rfl (fun _ => ?_) (fun _ => ?_)
        · refine zk_aload_n dX10_count_150 0 rfl 151 rfl ?_
          refine zk_get dX10_count_151 0 rfl rfl kX10_count_inX10 0 (by decide) kX10_count_1 rfl 154 rfl ?_
          refine zk_iconst 2 dX10_count_154 (by decide) 155 rfl ?_
          refine zk_iload_n dX10_count_155 1 rfl 156 rfl ?_
          refine zk_iadd dX10_count_156 157 rfl ?_
          refine zk_bipush 14 dX10_count_157 (by decide) 159 rfl ?_
          refine zk_isub dX10_count_159 160 rfl ?_
          refine zk_iald dX10_count_160 1 rfl 161 rfl ?_
          exact zk_iret hQ dX10_count_161 rfl rfl
        · refine zk_aload_n dX10_count_137 0 rfl 138 rfl ?_
          refine zk_get dX10_count_138 0 rfl rfl kX10_count_inX10 0 (by decide) kX10_count_1 rfl 141 rfl ?_
          refine zk_iconst 5 dX10_count_141 (by decide) 142 rfl ?_
          refine zk_iload_n dX10_count_142 1 rfl 143 rfl ?_
          refine zk_iadd dX10_count_143 144 rfl ?_
          refine zk_iconst 5 dX10_count_144 (by decide) 145 rfl ?_
          refine zk_isub dX10_count_145 146 rfl ?_
          refine zk_iald dX10_count_146 1 rfl 147 rfl ?_
          refine zk_goto dX10_count_147 161 (by decide) ?_
          exact zk_iret hQ dX10_count_161 rfl rfl
      refine zk_if (c := x1 = 8) (fun h13_8 => ?_) (fun h13_8 => ?_)
      · refine zk_tableIn (off := 118) dX10_count_13 131 (by rw [h13_8]; decide) (by rw [h13_8]; decide) (by rw [h13_8]; rfl) (by decide) ?_
        refine zk_iload_n dX10_count_131 1 rfl 132 rfl ?_
        refine zk_bipush 11 dX10_count_132 (by decide) 134 rfl ?_
        refine zk_icmp_ge dX10_count_134 150 (by decide) 137 rfl (fun _ => ?_) (fun _ => ?_)
        · refine zk_aload_n dX10_count_150 0 rfl 151 rfl ?_
          refine zk_get dX10_count_151 0 rfl rfl kX10_count_inX10 0 (by decide) kX10_count_1 rfl 154 rfl ?_
          refine zk_iconst 2 dX10_count_154 (by decide) 155 rfl ?_
          refine zk_iload_n dX10_count_155 1 rfl 156 rfl ?_
          refine zk_iadd dX10_count_156 157 rfl ?_
          refine zk_bipush 14 dX10_count_157 (by decide) 159 rfl ?_
          refine zk_isub dX10_count_159 160 rfl ?_
          refine zk_iald dX10_count_160 1 rfl 161 rfl ?_
          exact zk_iret hQ dX10_count_161 rfl rfl
        · refine zk_aload_n dX10_count_137 0 rfl 138 rfl ?_
          refine zk_get dX10_count_138 0 rfl rfl kX10_count_inX10 0 (by decide) kX10_count_1 rfl 141 rfl ?_
          refine zk_iconst 5 dX10_count_141 (by decide) 142 rfl ?_
          refine zk_iload_n dX10_count_142 1 rfl 143 rfl ?_
          refine zk_iadd dX10_count_143 144 rfl ?_
          refine zk_iconst 5 dX10_count_144 (by decide) 145 rfl ?_
          refine zk_isub dX10_count_145 146 rfl ?_
          refine zk_iald dX10_count_146 1 rfl 147 rfl ?_
          refine zk_goto dX10_count_147 161 (by decide) ?_
          exact zk_iret hQ dX10_count_161 rfl rfl
      refine zk_if (c := x1 = 9) (fun h13_9 => ?_) (fun h13_9 => ?_)
      · refine zk_tableIn (off := 118) dX10_count_13 131 (by rw [h13_9]; decide) (by rw [h13_9]; decide) (by rw [h13_9]; rfl) (by decide) ?_
        refine zk_iload_n dX10_count_131 1 rfl 132 rfl ?_
        refine zk_bipush 11 dX10_count_132 (by decide) 134 rfl ?_
        refine zk_icmp_ge dX10_count_134 150 (by decide) 137 rfl (fun _ => ?_) (fun _ => ?_)
        · refine zk_aload_n dX10_count_150 0 rfl 151 rfl ?_
          refine zk_get dX10_count_151 0 rfl rfl kX10_count_inX10 0 (by decide) kX10_count_1 rfl 154 rfl ?_
          refine zk_iconst 2 dX10_count_154 (by decide) 155 rfl ?_
          refine zk_iload_n dX10_count_155 1 rfl 156 rfl ?_
          refine zk_iadd dX10_count_156 157 rfl ?_
          refine zk_bipush 14 dX10_count_157 (by decide) 159 rfl ?_
          refine zk_isub dX10_count_159 160 rfl ?_
          refine zk_iald dX10_count_160 1 rfl 161 rfl ?_
          exact zk_iret hQ dX10_count_161 rfl rfl
        · refine zk_aload_n dX10_count_137 0 rfl 138 rfl ?_
          refine zk_get dX10_count_138 0 rfl rfl kX10_count_inX10 0 (by decide) kX10_count_1 rfl 141 rfl ?_
          refine zk_iconst 5 dX10_count_141 (by decide) 142 rfl ?_
          refine zk_iload_n dX10_count_142 1 rfl 143 rfl ?_
          refine zk_iadd dX10_count_143 144 rfl ?_
          refine zk_iconst 5 dX10_count_144 (by decide) 145 rfl ?_
          refine zk_isub dX10_count_145 146 rfl ?_
          refine zk_iald dX10_count_146 1 rfl 147 rfl ?_
          refine zk_goto dX10_count_147 161 (by decide) ?_
          exact zk_iret hQ dX10_count_161 rfl rfl
      refine zk_if (c := x1 = 10) (fun h13_10 => ?_) (fun h13_10 => ?_)
      · refine zk_tableIn (off := 118) dX10_count_13 131 (by rw [h13_10]; decide) (by rw [h13_10]; decide) (by rw [h13_10]; rfl) (by decide) ?_
        refine zk_iload_n dX10_count_131 1 rfl 132 rfl ?_
        refine zk_bipush 11 dX10_count_132 (by decide) 134 rfl ?_
        refine zk_icmp_ge dX10_count_134 150 (by decide) 137 rfl (fun _ => ?_) (fun _ => ?_)
        · refine zk_aload_n dX10_count_150 0 rfl 151 rfl ?_
          refine zk_get dX10_count_151 0 rfl rfl kX10_count_inX10 0 (by decide) kX10_count_1 rfl 154 rfl ?_
          refine zk_iconst 2 dX10_count_154 (by decide) 155 rfl ?_
          refine zk_iload_n dX10_count_155 1 rfl 156 rfl ?_
          refine zk_iadd dX10_count_156 157 rfl ?_
          refine zk_bipush 14 dX10_count_157 (by decide) 159 rfl ?_
          refine zk_isub dX10_count_159 160 rfl ?_
          refine zk_iald dX10_count_160 1 rfl 161 rfl ?_
          exact zk_iret hQ dX10_count_161 rfl rfl
        · refine zk_aload_n dX10_count_137 0 rfl 138 rfl ?_
          refine zk_get dX10_count_138 0 rfl rfl kX10_count_inX10 0 (by decide) kX10_count_1 rfl 141 rfl ?_
          refine zk_iconst 5 dX10_count_141 (by decide) 142 rfl ?_
          refine zk_iload_n dX10_count_142 1 rfl 143 rfl ?_
          refine zk_iadd dX10_count_143 144 rfl ?_
          refine zk_iconst 5 dX10_count_144 (by decide) 145 rfl ?_
          refine zk_isub dX10_count_145 146 rfl ?_
          refine zk_iald dX10_count_146 1 rfl 147 rfl ?_
          refine zk_goto dX10_count_147 161 (by decide) ?_
          exact zk_iret hQ dX10_count_161 rfl rfl
      refine zk_if (c := x1 = 11) (fun h13_11 => ?_) (fun h13_11 => ?_)
      · refine zk_tableIn (off := 103) dX10_count_13 116 (by rw [h13_11]; decide) (by rw [h13_11]; decide) (by rw [h13_11]; rfl) (by decide) ?_
        refine zk_aload_n dX10_count_116 0 rfl 117 rfl ?_
        refine zk_callV (ci := 10) (st := []) (c_X10_snapshots E l a (v_z, v_snaps, v_hasSnap, v_past, v_pastHas, v_pastMany, v_before, v_spare, v_text, v_typed, v_failure, v_hasFailed, v_isQuiet, v_from, v_end, v_numbers)) dX10_count_117 0 gX10_count_X10_snapshots rfl rfl rfl cd_X10_snapshots ⟨Nat.le_of_ble_eq_true rfl, Nat.le_of_ble_eq_true rfl⟩ ⟨Nat.zero_le _, Nat.zero_le _⟩ _ (fun r117 => (gX10 E a (v_z, v_snaps, v_hasSnap, v_past, v_pastHas, v_pastMany, v_before, v_spare, v_text, v_typed, v_failure, v_hasFailed, v_isQuiet, v_from, v_end, v_numbers))) zk_pa (fun r117 => zk_qa) rfl rfl rfl rfl (Nat.le_of_ble_eq_true rfl) (fun r117 => [.int r117]) (fun _ => rfl) 120 rfl (fun r117 => ?_)
        exact zk_iret hQ dX10_count_120 rfl rfl
      refine zk_if (c := x1 = 12) (fun h13_12 => ?_) (fun h13_12 => ?_)
      · refine zk_tableIn (off := 108) dX10_count_13 121 (by rw [h13_12]; decide) (by rw [h13_12]; decide) (by rw [h13_12]; rfl) (by decide) ?_
        refine zk_aload_n dX10_count_121 0 rfl 122 rfl ?_
        refine zk_get dX10_count_122 0 rfl rfl kX10_count_inX10 5 (by decide) kX10_count_2 rfl 125 rfl ?_
        exact zk_iret hQ dX10_count_125 rfl rfl
      refine zk_if (c := x1 = 13) (fun h13_13 => ?_) (fun h13_13 => ?_)
      · refine zk_tableIn (off := 113) dX10_count_13 126 (by rw [h13_13]; decide) (by rw [h13_13]; decide) (by rw [h13_13]; rfl) (by decide) ?_
        refine zk_aload_n dX10_count_126 0 rfl 127 rfl ?_
        refine zk_get dX10_count_127 0 rfl rfl kX10_count_inX10 9 (by decide) kX10_count_3 rfl 130 rfl ?_
        exact zk_iret hQ dX10_count_130 rfl rfl
      refine zk_tableOut dX10_count_13 131 (by have e0 : x1.toInt ≠ 0 := fun z => h13_0 (Int32.toInt_inj.mp z); have e1 : x1.toInt ≠ 1 := fun z => h13_1 (Int32.toInt_inj.mp z); have e2 : x1.toInt ≠ 2 := fun z => h13_2 (Int32.toInt_inj.mp z); have e3 : x1.toInt ≠ 3 := fun z => h13_3 (Int32.toInt_inj.mp z); have e4 : x1.toInt ≠ 4 := fun z => h13_4 (Int32.toInt_inj.mp z); have e5 : x1.toInt ≠ 5 := fun z => h13_5 (Int32.toInt_inj.mp z); have e6 : x1.toInt ≠ 6 := fun z => h13_6 (Int32.toInt_inj.mp z); have e7 : x1.toInt ≠ 7 := fun z => h13_7 (Int32.toInt_inj.mp z); have e8 : x1.toInt ≠ 8 := fun z => h13_8 (Int32.toInt_inj.mp z); have e9 : x1.toInt ≠ 9 := fun z => h13_9 (Int32.toInt_inj.mp z); have e10 : x1.toInt ≠ 10 := fun z => h13_10 (Int32.toInt_inj.mp z); have e11 : x1.toInt ≠ 11 := fun z => h13_11 (Int32.toInt_inj.mp z); have e12 : x1.toInt ≠ 12 := fun z => h13_12 (Int32.toInt_inj.mp z); have e13 : x1.toInt ≠ 13 := fun z => h13_13 (Int32.toInt_inj.mp z); omega) (by decide) ?_
      refine zk_iload_n dX10_count_131 1 rfl 132 rfl ?_
      refine zk_bipush 11 dX10_count_132 (by decide) 134 rfl ?_
      refine zk_icmp_ge dX10_count_134 150 (by decide) 137 rfl (fun _ => ?_) (fun _ => ?_)
      · refine zk_aload_n dX10_count_150 0 rfl 151 rfl ?_
        refine zk_get dX10_count_151 0 rfl rfl kX10_count_inX10 0 (by decide) kX10_count_1 rfl 154 rfl ?_
        refine zk_iconst 2 dX10_count_154 (by decide) 155 rfl ?_
        refine zk_iload_n dX10_count_155 1 rfl 156 rfl ?_
        refine zk_iadd dX10_count_156 157 rfl ?_
        refine zk_bipush 14 dX10_count_157 (by decide) 159 rfl ?_
        refine zk_isub dX10_count_159 160 rfl ?_
        refine zk_iald dX10_count_160 1 rfl 161 rfl ?_
        exact zk_iret hQ dX10_count_161 rfl rfl
      · refine zk_aload_n dX10_count_137 0 rfl 138 rfl ?_
        refine zk_get dX10_count_138 0 rfl rfl kX10_count_inX10 0 (by decide) kX10_count_1 rfl 141 rfl ?_
        refine zk_iconst 5 dX10_count_141 (by decide) 142 rfl ?_
        refine zk_iload_n dX10_count_142 1 rfl 143 rfl ?_
        refine zk_iadd dX10_count_143 144 rfl ?_
        refine zk_iconst 5 dX10_count_144 (by decide) 145 rfl ?_
        refine zk_isub dX10_count_145 146 rfl ?_
        refine zk_iald dX10_count_146 1 rfl 147 rfl ?_
        refine zk_goto dX10_count_147 161 (by decide) ?_
        exact zk_iret hQ dX10_count_161 rfl rfl
    · refine zk_iconst (-1) dX10_count_10 (by decide) 11 rfl ?_
      exact zk_iret hQ dX10_count_11 rfl rfl
def f_X10_promise_46 (x1 : Int32) (x2 : Int32) (v_z : (Nat → Int32)) (s46_0 : Int32) (x3 : Int32) : Option (Int32) := if x2 = 0 then zk_ck (132 + x1) 368 (some (v_z (132 + x1).toNatClampNeg)) else if x2 = 1 then zk_ck (12 + x1) 368 (some (v_z (12 + x1).toNatClampNeg)) else if x2 = 2 then zk_ck (52 + x1) 368 (some (v_z (52 + x1).toNatClampNeg)) else if x2 = 3 then zk_ck (92 + x1) 368 (some (v_z (92 + x1).toNatClampNeg)) else if x2 = 4 then if s46_0 = 0 then some (-9) else some (x3 / 8) else if x2 = 5 then if s46_0 = 0 then some (-9) else some (zk_rem x3 8) else if x2 = 6 then if x3 = (-1) then some (-9) else (f_X10_placeOf x1 v_z).bind fun r179 => some r179 else if x2 = 7 then zk_ck (252 + x1) 368 (some (v_z (252 + x1).toNatClampNeg)) else zk_ck (292 + x1) 368 (some (v_z (292 + x1).toNatClampNeg))
def f_X10_promise_45 (x1 : Int32) (x2 : Int32) (v_z : (Nat → Int32)) (x3 : Int32) : Option (Int32) := f_X10_promise_46 x1 x2 v_z 0 x3
def f_X10_promise (x1 : Int32) (x2 : Int32) (v_z : (Nat → Int32)) : Option (Int32) := (f_X10_isPromise x1 v_z).bind fun r2 => if r2 = 0 then some (-1) else if x2 < 0 then some (-1) else if x2 ≤ 8 then zk_ck (172 + x1) 368 (zk_let (v_z (172 + x1).toNatClampNeg) fun x3_1 => if x3_1 < 0 then f_X10_promise_45 x1 x2 v_z x3_1 else if 24 ≤ x3_1 then f_X10_promise_45 x1 x2 v_z x3_1 else f_X10_promise_46 x1 x2 v_z 1 x3_1) else some (-1)
theorem kX10_promise_inX10 : ∀ w ∈ u_ws RX10 TX10 16, w ∈ wsX10_promise := by decide +kernel
theorem kX10_promise_1 : Cond.fieldLink RX10 7 (TX10 0).1 (TX10 0).2.1 (TX10 0).2.2.1 ∈ wsX10_promise := by decide +kernel
theorem cd_X10_promise : yX10_promise.cls = RX10 ∧ yX10_promise.cls ≠ "java/lang/invoke/MethodHandle" ∧ yX10_promise.cls ≠ "java/lang/invoke/VarHandle" ∧ (parseMethodDescriptor yX10_promise.desc).map (fun d => d.parameters.length) = some 2 := by decide +kernel
set_option maxRecDepth 100000 in
set_option maxHeartbeats 4000000 in
theorem c_X10_promise (E : zk_Env) (l : Launch) (a : aX10) (v : VX10) (x1 : Int32) (x2 : Int32) : zk_Mc E l yX10_promise wsX10_promise ({ frames := 1, cells := 0, slots := 0, locals := 23 } : Room) [.ref a.1, .int x1, .int x2] (gX10 E a v) (f_X10_promise x1 x2 v.1) (fun r => some (.int r)) (fun r => (gX10 E a v)) := by
  obtain ⟨v_z, v_snaps, v_hasSnap, v_past, v_pastHas, v_pastMany, v_before, v_spare, v_text, v_typed, v_failure, v_hasFailed, v_isQuiet, v_from, v_end, v_numbers⟩ := v
  refine zk_M (cc := cX10_promise) (nL := 5) (ret := (some .int)) (by decide) rfl (Nat.le_of_ble_eq_true rfl) (fun X Q hQ => ?_)
  have J46 : ∀ (s46_0 : Int32) (x3 : Int32), zk_G E l X cX10_promise 5 (some .int) yX10_promise.cls wsX10_promise ({ frames := 1, cells := 0, slots := 0, locals := 23 } : Room) 0 0 Q (gX10 E a (v_z, v_snaps, v_hasSnap, v_past, v_pastHas, v_pastMany, v_before, v_spare, v_text, v_typed, v_failure, v_hasFailed, v_isQuiet, v_from, v_end, v_numbers)) [(0, .ref a.1), (1, .int x1), (2, .int x2), (3, .int x3)] 46 [.int s46_0] (f_X10_promise_46 x1 x2 v_z s46_0 x3) := by
    intro s46_0 x3
    unfold f_X10_promise_46
    refine zk_istore [(4, .int s46_0), (0, .ref a.1), (1, .int x1), (2, .int x2), (3, .int x3)] dX10_promise_46 (by decide) rfl 48 rfl ?_
    refine zk_iload_n dX10_promise_48 3 rfl 49 rfl ?_
    refine zk_if (c := x2 = 0) (fun h49_0 => ?_) (fun h49_0 => ?_)
    · refine zk_tableIn (off := 47) dX10_promise_49 96 (by rw [h49_0]; decide) (by rw [h49_0]; decide) (by rw [h49_0]; rfl) (by decide) ?_
      refine zk_aload_n dX10_promise_96 1 rfl 97 rfl ?_
      refine zk_get dX10_promise_97 0 rfl rfl kX10_promise_inX10 0 (by decide) kX10_promise_1 rfl 100 rfl ?_
      refine zk_sipush 132 dX10_promise_100 (by decide) 103 rfl ?_
      refine zk_iload_n dX10_promise_103 2 rfl 104 rfl ?_
      refine zk_iadd dX10_promise_104 105 rfl ?_
      refine zk_iald dX10_promise_105 1 rfl 106 rfl ?_
      exact zk_iret hQ dX10_promise_106 rfl rfl
    refine zk_if (c := x2 = 1) (fun h49_1 => ?_) (fun h49_1 => ?_)
    · refine zk_tableIn (off := 58) dX10_promise_49 107 (by rw [h49_1]; decide) (by rw [h49_1]; decide) (by rw [h49_1]; rfl) (by decide) ?_
      refine zk_aload_n dX10_promise_107 1 rfl 108 rfl ?_
      refine zk_get dX10_promise_108 0 rfl rfl kX10_promise_inX10 0 (by decide) kX10_promise_1 rfl 111 rfl ?_
      refine zk_bipush 12 dX10_promise_111 (by decide) 113 rfl ?_
      refine zk_iload_n dX10_promise_113 2 rfl 114 rfl ?_
      refine zk_iadd dX10_promise_114 115 rfl ?_
      refine zk_iald dX10_promise_115 1 rfl 116 rfl ?_
      exact zk_iret hQ dX10_promise_116 rfl rfl
    refine zk_if (c := x2 = 2) (fun h49_2 => ?_) (fun h49_2 => ?_)
    · refine zk_tableIn (off := 68) dX10_promise_49 117 (by rw [h49_2]; decide) (by rw [h49_2]; decide) (by rw [h49_2]; rfl) (by decide) ?_
      refine zk_aload_n dX10_promise_117 1 rfl 118 rfl ?_
      refine zk_get dX10_promise_118 0 rfl rfl kX10_promise_inX10 0 (by decide) kX10_promise_1 rfl 121 rfl ?_
      refine zk_bipush 52 dX10_promise_121 (by decide) 123 rfl ?_
      refine zk_iload_n dX10_promise_123 2 rfl 124 rfl ?_
      refine zk_iadd dX10_promise_124 125 rfl ?_
      refine zk_iald dX10_promise_125 1 rfl 126 rfl ?_
      exact zk_iret hQ dX10_promise_126 rfl rfl
    refine zk_if (c := x2 = 3) (fun h49_3 => ?_) (fun h49_3 => ?_)
    · refine zk_tableIn (off := 78) dX10_promise_49 127 (by rw [h49_3]; decide) (by rw [h49_3]; decide) (by rw [h49_3]; rfl) (by decide) ?_
      refine zk_aload_n dX10_promise_127 1 rfl 128 rfl ?_
      refine zk_get dX10_promise_128 0 rfl rfl kX10_promise_inX10 0 (by decide) kX10_promise_1 rfl 131 rfl ?_
      refine zk_bipush 92 dX10_promise_131 (by decide) 133 rfl ?_
      refine zk_iload_n dX10_promise_133 2 rfl 134 rfl ?_
      refine zk_iadd dX10_promise_134 135 rfl ?_
      refine zk_iald dX10_promise_135 1 rfl 136 rfl ?_
      exact zk_iret hQ dX10_promise_136 rfl rfl
    refine zk_if (c := x2 = 4) (fun h49_4 => ?_) (fun h49_4 => ?_)
    · refine zk_tableIn (off := 88) dX10_promise_49 137 (by rw [h49_4]; decide) (by rw [h49_4]; decide) (by rw [h49_4]; rfl) (by decide) ?_
      refine zk_iload dX10_promise_137 0 rfl 139 rfl ?_
      refine zk_if_eq dX10_promise_139 149 (by decide) 142 rfl (fun _ => ?_) (fun _ => ?_)
      · refine zk_bipush (-9) dX10_promise_149 (by decide) 151 rfl ?_
        exact zk_iret hQ dX10_promise_151 rfl rfl
      · refine zk_iload_n dX10_promise_142 4 rfl 143 rfl ?_
        refine zk_bipush 8 dX10_promise_143 (by decide) 145 rfl ?_
        refine zk_idivL dX10_promise_145 (by decide) 146 rfl ?_
        refine zk_goto dX10_promise_146 151 (by decide) ?_
        exact zk_iret hQ dX10_promise_151 rfl rfl
    refine zk_if (c := x2 = 5) (fun h49_5 => ?_) (fun h49_5 => ?_)
    · refine zk_tableIn (off := 103) dX10_promise_49 152 (by rw [h49_5]; decide) (by rw [h49_5]; decide) (by rw [h49_5]; rfl) (by decide) ?_
      refine zk_iload dX10_promise_152 0 rfl 154 rfl ?_
      refine zk_if_eq dX10_promise_154 164 (by decide) 157 rfl (fun _ => ?_) (fun _ => ?_)
      · refine zk_bipush (-9) dX10_promise_164 (by decide) 166 rfl ?_
        exact zk_iret hQ dX10_promise_166 rfl rfl
      · refine zk_iload_n dX10_promise_157 4 rfl 158 rfl ?_
        refine zk_bipush 8 dX10_promise_158 (by decide) 160 rfl ?_
        refine zk_iremL dX10_promise_160 (by decide) 161 rfl ?_
        refine zk_goto dX10_promise_161 166 (by decide) ?_
        exact zk_iret hQ dX10_promise_166 rfl rfl
    refine zk_if (c := x2 = 6) (fun h49_6 => ?_) (fun h49_6 => ?_)
    · refine zk_tableIn (off := 118) dX10_promise_49 167 (by rw [h49_6]; decide) (by rw [h49_6]; decide) (by rw [h49_6]; rfl) (by decide) ?_
      refine zk_iload_n dX10_promise_167 4 rfl 168 rfl ?_
      refine zk_iconst (-1) dX10_promise_168 (by decide) 169 rfl ?_
      refine zk_icmp_ne dX10_promise_169 177 (by decide) 172 rfl (fun _ => ?_) (fun _ => ?_)
      · refine zk_bipush (-9) dX10_promise_172 (by decide) 174 rfl ?_
        refine zk_goto dX10_promise_174 182 (by decide) ?_
        exact zk_iret hQ dX10_promise_182 rfl rfl
      · refine zk_aload_n dX10_promise_177 1 rfl 178 rfl ?_
        refine zk_iload_n dX10_promise_178 2 rfl 179 rfl ?_
        refine zk_callV (ci := 10) (st := []) (c_X10_placeOf E l a (v_z, v_snaps, v_hasSnap, v_past, v_pastHas, v_pastMany, v_before, v_spare, v_text, v_typed, v_failure, v_hasFailed, v_isQuiet, v_from, v_end, v_numbers) x1) dX10_promise_179 1 gX10_promise_X10_placeOf rfl rfl rfl cd_X10_placeOf ⟨Nat.le_of_ble_eq_true rfl, Nat.le_of_ble_eq_true rfl⟩ ⟨Nat.zero_le _, Nat.zero_le _⟩ _ (fun r179 => (gX10 E a (v_z, v_snaps, v_hasSnap, v_past, v_pastHas, v_pastMany, v_before, v_spare, v_text, v_typed, v_failure, v_hasFailed, v_isQuiet, v_from, v_end, v_numbers))) zk_pa (fun r179 => zk_qa) rfl rfl rfl rfl (Nat.le_of_ble_eq_true rfl) (fun r179 => [.int r179]) (fun _ => rfl) 182 rfl (fun r179 => ?_)
        exact zk_iret hQ dX10_promise_182 rfl rfl
    refine zk_if (c := x2 = 7) (fun h49_7 => ?_) (fun h49_7 => ?_)
    · refine zk_tableIn (off := 134) dX10_promise_49 183 (by rw [h49_7]; decide) (by rw [h49_7]; decide) (by rw [h49_7]; rfl) (by decide) ?_
      refine zk_aload_n dX10_promise_183 1 rfl 184 rfl ?_
      refine zk_get dX10_promise_184 0 rfl rfl kX10_promise_inX10 0 (by decide) kX10_promise_1 rfl 187 rfl ?_
      refine zk_sipush 252 dX10_promise_187 (by decide) 190 rfl ?_
      refine zk_iload_n dX10_promise_190 2 rfl 191 rfl ?_
      refine zk_iadd dX10_promise_191 192 rfl ?_
      refine zk_iald dX10_promise_192 1 rfl 193 rfl ?_
      exact zk_iret hQ dX10_promise_193 rfl rfl
    refine zk_tableOut dX10_promise_49 194 (by have e0 : x2.toInt ≠ 0 := fun z => h49_0 (Int32.toInt_inj.mp z); have e1 : x2.toInt ≠ 1 := fun z => h49_1 (Int32.toInt_inj.mp z); have e2 : x2.toInt ≠ 2 := fun z => h49_2 (Int32.toInt_inj.mp z); have e3 : x2.toInt ≠ 3 := fun z => h49_3 (Int32.toInt_inj.mp z); have e4 : x2.toInt ≠ 4 := fun z => h49_4 (Int32.toInt_inj.mp z); have e5 : x2.toInt ≠ 5 := fun z => h49_5 (Int32.toInt_inj.mp z); have e6 : x2.toInt ≠ 6 := fun z => h49_6 (Int32.toInt_inj.mp z); have e7 : x2.toInt ≠ 7 := fun z => h49_7 (Int32.toInt_inj.mp z); omega) (by decide) ?_
    refine zk_aload_n dX10_promise_194 1 rfl 195 rfl ?_
    refine zk_get dX10_promise_195 0 rfl rfl kX10_promise_inX10 0 (by decide) kX10_promise_1 rfl 198 rfl ?_
    refine zk_sipush 292 dX10_promise_198 (by decide) 201 rfl ?_
    refine zk_iload_n dX10_promise_201 2 rfl 202 rfl ?_
    refine zk_iadd dX10_promise_202 203 rfl ?_
    refine zk_iald dX10_promise_203 1 rfl 204 rfl ?_
    exact zk_iret hQ dX10_promise_204 rfl rfl
  have J45 : ∀ (x3 : Int32), zk_G E l X cX10_promise 5 (some .int) yX10_promise.cls wsX10_promise ({ frames := 1, cells := 0, slots := 0, locals := 23 } : Room) 0 0 Q (gX10 E a (v_z, v_snaps, v_hasSnap, v_past, v_pastHas, v_pastMany, v_before, v_spare, v_text, v_typed, v_failure, v_hasFailed, v_isQuiet, v_from, v_end, v_numbers)) [(0, .ref a.1), (1, .int x1), (2, .int x2), (3, .int x3)] 45 [] (f_X10_promise_45 x1 x2 v_z x3) := by
    intro x3
    unfold f_X10_promise_45
    refine zk_iconst 0 dX10_promise_45 (by decide) 46 rfl ?_
    exact J46   0 x3
  refine zk_eqv (w1 := (gX10 E a (v_z, v_snaps, v_hasSnap, v_past, v_pastHas, v_pastMany, v_before, v_spare, v_text, v_typed, v_failure, v_hasFailed, v_isQuiet, v_from, v_end, v_numbers))) (lv1 := [(0, .ref a.1), (1, .int x1), (2, .int x2)]) (st1 := []) (o1 := f_X10_promise x1 x2 v_z) rfl rfl rfl rfl ?_
  unfold f_X10_promise
  refine zk_aload_n dX10_promise_0 0 rfl 1 rfl ?_
  refine zk_iload_n dX10_promise_1 1 rfl 2 rfl ?_
  refine zk_callV (ci := 10) (st := []) (c_X10_isPromise E l a (v_z, v_snaps, v_hasSnap, v_past, v_pastHas, v_pastMany, v_before, v_spare, v_text, v_typed, v_failure, v_hasFailed, v_isQuiet, v_from, v_end, v_numbers) x1) dX10_promise_2 1 gX10_promise_X10_isPromise rfl rfl rfl cd_X10_isPromise ⟨Nat.le_of_ble_eq_true rfl, Nat.le_of_ble_eq_true rfl⟩ ⟨Nat.zero_le _, Nat.zero_le _⟩ _ (fun r2 => (gX10 E a (v_z, v_snaps, v_hasSnap, v_past, v_pastHas, v_pastMany, v_before, v_spare, v_text, v_typed, v_failure, v_hasFailed, v_isQuiet, v_from, v_end, v_numbers))) zk_pa (fun r2 => zk_qa) rfl rfl rfl rfl (Nat.le_of_ble_eq_true rfl) (fun r2 => [.int r2]) (fun _ => rfl) 5 rfl (fun r2 => ?_)
  refine zk_if_eq dX10_promise_5 18 (by decide) 8 rfl (fun _ => ?_) (fun _ => ?_)
  · refine zk_iconst (-1) dX10_promise_18 (by decide) 19 rfl ?_
    exact zk_iret hQ dX10_promise_19 rfl rfl
  · refine zk_iload_n dX10_promise_8 2 rfl 9 rfl ?_
    refine zk_if_lt dX10_promise_9 18 (by decide) 12 rfl (fun _ => ?_) (fun _ => ?_)
    · refine zk_iconst (-1) dX10_promise_18 (by decide) 19 rfl ?_
      exact zk_iret hQ dX10_promise_19 rfl rfl
    · refine zk_iload_n dX10_promise_12 2 rfl 13 rfl ?_
      refine zk_bipush 8 dX10_promise_13 (by decide) 15 rfl ?_
      refine zk_icmp_le dX10_promise_15 20 (by decide) 18 rfl (fun _ => ?_) (fun _ => ?_)
      · refine zk_aload_n dX10_promise_20 0 rfl 21 rfl ?_
        refine zk_get dX10_promise_21 0 rfl rfl kX10_promise_inX10 0 (by decide) kX10_promise_1 rfl 24 rfl ?_
        refine zk_sipush 172 dX10_promise_24 (by decide) 27 rfl ?_
        refine zk_iload_n dX10_promise_27 1 rfl 28 rfl ?_
        refine zk_iadd dX10_promise_28 29 rfl ?_
        refine zk_iald dX10_promise_29 1 rfl 30 rfl ?_
        refine zk_nm (fun x3_1 => ?_)
        refine zk_istore_n [(3, .int x3_1), (0, .ref a.1), (1, .int x1), (2, .int x2)] dX10_promise_30 (by decide) rfl 31 rfl ?_
        refine zk_iload_n dX10_promise_31 0 rfl 32 rfl ?_
        refine zk_if_lt dX10_promise_32 45 (by decide) 35 rfl (fun _ => ?_) (fun _ => ?_)
        · refine zk_lv [1, 2, 3, 0] rfl ?_
          exact J45   x3_1
        · refine zk_iload_n dX10_promise_35 0 rfl 36 rfl ?_
          refine zk_bipush 24 dX10_promise_36 (by decide) 38 rfl ?_
          refine zk_icmp_ge dX10_promise_38 45 (by decide) 41 rfl (fun _ => ?_) (fun _ => ?_)
          · refine zk_lv [1, 2, 3, 0] rfl ?_
            exact J45   x3_1
          · refine zk_iconst 1 dX10_promise_41 (by decide) 42 rfl ?_
            refine zk_goto dX10_promise_42 46 (by decide) ?_
            refine zk_lv [1, 2, 3, 0] rfl ?_
            exact J46   1 x3_1
      · refine zk_iconst (-1) dX10_promise_18 (by decide) 19 rfl ?_
        exact zk_iret hQ dX10_promise_19 rfl rfl
def f_X10_slot_183 (x4 : Int32) (k48 : Int32 × Int32 × Int32 → Option (Int32)) (s183_0 : Int32) (x5 : Int32) (x7 : Int32) : Option (Int32) := k48 (x5, s183_0, (x7 + 1))
def f_X10_slot_161 (v_z : (Nat → Int32)) (x4 : Int32) (k48 : Int32 × Int32 × Int32 → Option (Int32)) (s161_0 : Int32) (x5 : Int32) (x6 : Int32) (x7 : Int32) : Option (Int32) := if s161_0 = 0 then f_X10_slot_183 x4 k48 x6 x5 x7 else zk_ck (12 + x7) 368 (f_X10_slot_183 x4 k48 (v_z (12 + x7).toNatClampNeg) x5 x7)
def f_X10_slot_160 (v_z : (Nat → Int32)) (x4 : Int32) (k48 : Int32 × Int32 × Int32 → Option (Int32)) (x5 : Int32) (x6 : Int32) (x7 : Int32) : Option (Int32) := f_X10_slot_161 v_z x4 k48 0 x5 x6 x7
def f_X10_slot_156 (v_z : (Nat → Int32)) (x4 : Int32) (k48 : Int32 × Int32 × Int32 → Option (Int32)) (x5 : Int32) (x6 : Int32) (x7 : Int32) : Option (Int32) := f_X10_slot_161 v_z x4 k48 1 x5 x6 x7
def f_X10_slot_121 (v_z : (Nat → Int32)) (x4 : Int32) (k48 : Int32 × Int32 × Int32 → Option (Int32)) (s121_0 : Int32) (s121_1 : Int32) (x6 : Int32) (x7 : Int32) (x8 : Int32) (x9 : Int32) : Option (Int32) := zk_let (s121_0 + s121_1) fun x5_2 => if x8 = 0 then f_X10_slot_160 v_z x4 k48 x5_2 x6 x7 else if x9 = 0 then if x6 = (-9) then f_X10_slot_156 v_z x4 k48 x5_2 x6 x7 else zk_ck (12 + x7) 368 (if x6 ≤ (v_z (12 + x7).toNatClampNeg) then f_X10_slot_160 v_z x4 k48 x5_2 x6 x7 else f_X10_slot_156 v_z x4 k48 x5_2 x6 x7) else f_X10_slot_160 v_z x4 k48 x5_2 x6 x7
def f_X10_slot_120 (v_z : (Nat → Int32)) (x4 : Int32) (k48 : Int32 × Int32 × Int32 → Option (Int32)) (s120_0 : Int32) (x6 : Int32) (x7 : Int32) (x8 : Int32) (x9 : Int32) : Option (Int32) := f_X10_slot_121 v_z x4 k48 s120_0 0 x6 x7 x8 x9
def f_X10_slot_102 (v_z : (Nat → Int32)) (x4 : Int32) (k48 : Int32 × Int32 × Int32 → Option (Int32)) (s102_0 : Int32) (x5 : Int32) (x6 : Int32) (x7 : Int32) (x8 : Int32) : Option (Int32) := if x8 = 0 then f_X10_slot_120 v_z x4 k48 x5 x6 x7 x8 s102_0 else if s102_0 = 0 then f_X10_slot_120 v_z x4 k48 x5 x6 x7 x8 s102_0 else f_X10_slot_121 v_z x4 k48 x5 1 x6 x7 x8 s102_0
def f_X10_slot_80 (v_z : (Nat → Int32)) (x4 : Int32) (k48 : Int32 × Int32 × Int32 → Option (Int32)) (s80_0 : Int32) (x5 : Int32) (x6 : Int32) (x7 : Int32) : Option (Int32) := zk_ck (132 + x7) 368 (if (v_z (132 + x7).toNatClampNeg) = 3 then f_X10_slot_102 v_z x4 k48 1 x5 x6 x7 s80_0 else f_X10_slot_102 v_z x4 k48 0 x5 x6 x7 s80_0)
def F_X10_slot_48 (x3 : Int32) (v_z : (Nat → Int32)) (x4 : Int32) (k48 : Int32 × Int32 × Int32 → Option (Int32)) : Int32 × Int32 × Int32 → Option (Int32) := fun s => match s with
  | (x5, x6, x7) => zk_ck 1 368 (if (v_z (1 : Int32).toNatClampNeg) ≤ x7 then if x3 = 0 then (f_X10_manyAt x4 v_z).bind fun r198 => some r198 else if x3 = 1 then some x5 else some x6 else zk_ck (172 + x7) 368 (if (v_z (172 + x7).toNatClampNeg) = x4 then f_X10_slot_80 v_z x4 k48 1 x5 x6 x7 else f_X10_slot_80 v_z x4 k48 0 x5 x6 x7))
def f_X10_slot (x1 : Int32) (x2 : Int32) (x3 : Int32) (v_z : (Nat → Int32)) : Option (Int32) := if x1 < 0 then some (-1) else if 2 < x1 then some (-1) else if x2 < 0 then some (-1) else if 7 < x2 then some (-1) else if x3 < 0 then some (-1) else if x3 ≤ 2 then zk_let ((8 * x1) + x2) fun x4_1 => zk_fx (F_X10_slot_48 x3 v_z x4_1 ) zk_N (0, (-9), 0) else some (-1)
theorem kX10_slot_inX10 : ∀ w ∈ u_ws RX10 TX10 16, w ∈ wsX10_slot := by decide +kernel
theorem kX10_slot_1 : Cond.fieldLink RX10 7 (TX10 0).1 (TX10 0).2.1 (TX10 0).2.2.1 ∈ wsX10_slot := by decide +kernel
theorem cd_X10_slot : yX10_slot.cls = RX10 ∧ yX10_slot.cls ≠ "java/lang/invoke/MethodHandle" ∧ yX10_slot.cls ≠ "java/lang/invoke/VarHandle" ∧ (parseMethodDescriptor yX10_slot.desc).map (fun d => d.parameters.length) = some 3 := by decide +kernel
set_option maxRecDepth 100000 in
set_option maxHeartbeats 4000000 in
theorem c_X10_slot (E : zk_Env) (l : Launch) (a : aX10) (v : VX10) (x1 : Int32) (x2 : Int32) (x3 : Int32) : zk_Mc E l yX10_slot wsX10_slot ({ frames := 1, cells := 0, slots := 0, locals := 23 } : Room) [.ref a.1, .int x1, .int x2, .int x3] (gX10 E a v) (f_X10_slot x1 x2 x3 v.1) (fun r => some (.int r)) (fun r => (gX10 E a v)) := by
  obtain ⟨v_z, v_snaps, v_hasSnap, v_past, v_pastHas, v_pastMany, v_before, v_spare, v_text, v_typed, v_failure, v_hasFailed, v_isQuiet, v_from, v_end, v_numbers⟩ := v
  refine zk_M (cc := cX10_slot) (nL := 11) (ret := (some .int)) (by decide) rfl (Nat.le_of_ble_eq_true rfl) (fun X Q hQ => ?_)
  have J183 : ∀ (x4 : Int32) (k48 : Int32 × Int32 × Int32 → Option (Int32)) (hk48 : ∀ s : Int32 × Int32 × Int32, zk_G E l X cX10_slot 11 (some .int) yX10_slot.cls wsX10_slot ({ frames := 1, cells := 0, slots := 0, locals := 23 } : Room) 0 0 Q (gX10 E a (v_z, v_snaps, v_hasSnap, v_past, v_pastHas, v_pastMany, v_before, v_spare, v_text, v_typed, v_failure, v_hasFailed, v_isQuiet, v_from, v_end, v_numbers)) [(0, .ref a.1), (3, .int x3), (4, .int x4), (5, .int s.1), (6, .int s.2.1), (7, .int s.2.2)] 48 [] (k48 s)) (s183_0 : Int32) (x5 : Int32) (x7 : Int32), zk_G E l X cX10_slot 11 (some .int) yX10_slot.cls wsX10_slot ({ frames := 1, cells := 0, slots := 0, locals := 23 } : Room) 0 0 Q (gX10 E a (v_z, v_snaps, v_hasSnap, v_past, v_pastHas, v_pastMany, v_before, v_spare, v_text, v_typed, v_failure, v_hasFailed, v_isQuiet, v_from, v_end, v_numbers)) [(0, .ref a.1), (3, .int x3), (4, .int x4), (5, .int x5), (7, .int x7)] 183 [.int s183_0] (f_X10_slot_183 x4 k48 s183_0 x5 x7) := by
    intro x4 k48 hk48 s183_0 x5 x7
    unfold f_X10_slot_183
    refine zk_istore [(6, .int s183_0), (0, .ref a.1), (3, .int x3), (4, .int x4), (5, .int x5), (7, .int x7)] dX10_slot_183 (by decide) rfl 185 rfl ?_
    refine zk_iinc (x7 + 1) [(7, .int (x7 + 1)), (6, .int s183_0), (0, .ref a.1), (3, .int x3), (4, .int x4), (5, .int x5)] dX10_slot_185 5 rfl rfl (by decide) rfl 188 rfl ?_
    refine zk_goto dX10_slot_188 48 (by decide) ?_
    refine zk_lv [2, 3, 4, 5, 1, 0] rfl ?_
    exact hk48 (x5, s183_0, (x7 + 1))
  have J161 : ∀ (x4 : Int32) (k48 : Int32 × Int32 × Int32 → Option (Int32)) (hk48 : ∀ s : Int32 × Int32 × Int32, zk_G E l X cX10_slot 11 (some .int) yX10_slot.cls wsX10_slot ({ frames := 1, cells := 0, slots := 0, locals := 23 } : Room) 0 0 Q (gX10 E a (v_z, v_snaps, v_hasSnap, v_past, v_pastHas, v_pastMany, v_before, v_spare, v_text, v_typed, v_failure, v_hasFailed, v_isQuiet, v_from, v_end, v_numbers)) [(0, .ref a.1), (3, .int x3), (4, .int x4), (5, .int s.1), (6, .int s.2.1), (7, .int s.2.2)] 48 [] (k48 s)) (s161_0 : Int32) (x5 : Int32) (x6 : Int32) (x7 : Int32), zk_G E l X cX10_slot 11 (some .int) yX10_slot.cls wsX10_slot ({ frames := 1, cells := 0, slots := 0, locals := 23 } : Room) 0 0 Q (gX10 E a (v_z, v_snaps, v_hasSnap, v_past, v_pastHas, v_pastMany, v_before, v_spare, v_text, v_typed, v_failure, v_hasFailed, v_isQuiet, v_from, v_end, v_numbers)) [(0, .ref a.1), (3, .int x3), (4, .int x4), (5, .int x5), (6, .int x6), (7, .int x7)] 161 [.int s161_0] (f_X10_slot_161 v_z x4 k48 s161_0 x5 x6 x7) := by
    intro x4 k48 hk48 s161_0 x5 x6 x7
    unfold f_X10_slot_161
    refine zk_istore [(10, .int s161_0), (0, .ref a.1), (3, .int x3), (4, .int x4), (5, .int x5), (6, .int x6), (7, .int x7)] dX10_slot_161 (by decide) rfl 163 rfl ?_
    refine zk_iload dX10_slot_163 0 rfl 165 rfl ?_
    refine zk_if_eq dX10_slot_165 181 (by decide) 168 rfl (fun _ => ?_) (fun _ => ?_)
    · refine zk_iload dX10_slot_181 5 rfl 183 rfl ?_
      refine zk_lv [1, 2, 3, 4, 6] rfl ?_
      exact J183 x4 k48 hk48 x6 x5 x7
    · refine zk_aload_n dX10_slot_168 1 rfl 169 rfl ?_
      refine zk_get dX10_slot_169 0 rfl rfl kX10_slot_inX10 0 (by decide) kX10_slot_1 rfl 172 rfl ?_
      refine zk_bipush 12 dX10_slot_172 (by decide) 174 rfl ?_
      refine zk_iload dX10_slot_174 6 rfl 176 rfl ?_
      refine zk_iadd dX10_slot_176 177 rfl ?_
      refine zk_iald dX10_slot_177 1 rfl 178 rfl ?_
      refine zk_goto dX10_slot_178 183 (by decide) ?_
      refine zk_lv [1, 2, 3, 4, 6] rfl ?_
      exact J183 x4 k48 hk48 (v_z (12 + x7).toNatClampNeg) x5 x7
  have J160 : ∀ (x4 : Int32) (k48 : Int32 × Int32 × Int32 → Option (Int32)) (hk48 : ∀ s : Int32 × Int32 × Int32, zk_G E l X cX10_slot 11 (some .int) yX10_slot.cls wsX10_slot ({ frames := 1, cells := 0, slots := 0, locals := 23 } : Room) 0 0 Q (gX10 E a (v_z, v_snaps, v_hasSnap, v_past, v_pastHas, v_pastMany, v_before, v_spare, v_text, v_typed, v_failure, v_hasFailed, v_isQuiet, v_from, v_end, v_numbers)) [(0, .ref a.1), (3, .int x3), (4, .int x4), (5, .int s.1), (6, .int s.2.1), (7, .int s.2.2)] 48 [] (k48 s)) (x5 : Int32) (x6 : Int32) (x7 : Int32), zk_G E l X cX10_slot 11 (some .int) yX10_slot.cls wsX10_slot ({ frames := 1, cells := 0, slots := 0, locals := 23 } : Room) 0 0 Q (gX10 E a (v_z, v_snaps, v_hasSnap, v_past, v_pastHas, v_pastMany, v_before, v_spare, v_text, v_typed, v_failure, v_hasFailed, v_isQuiet, v_from, v_end, v_numbers)) [(0, .ref a.1), (3, .int x3), (4, .int x4), (5, .int x5), (6, .int x6), (7, .int x7)] 160 [] (f_X10_slot_160 v_z x4 k48 x5 x6 x7) := by
    intro x4 k48 hk48 x5 x6 x7
    unfold f_X10_slot_160
    refine zk_iconst 0 dX10_slot_160 (by decide) 161 rfl ?_
    exact J161 x4 k48 hk48 0 x5 x6 x7
  have J156 : ∀ (x4 : Int32) (k48 : Int32 × Int32 × Int32 → Option (Int32)) (hk48 : ∀ s : Int32 × Int32 × Int32, zk_G E l X cX10_slot 11 (some .int) yX10_slot.cls wsX10_slot ({ frames := 1, cells := 0, slots := 0, locals := 23 } : Room) 0 0 Q (gX10 E a (v_z, v_snaps, v_hasSnap, v_past, v_pastHas, v_pastMany, v_before, v_spare, v_text, v_typed, v_failure, v_hasFailed, v_isQuiet, v_from, v_end, v_numbers)) [(0, .ref a.1), (3, .int x3), (4, .int x4), (5, .int s.1), (6, .int s.2.1), (7, .int s.2.2)] 48 [] (k48 s)) (x5 : Int32) (x6 : Int32) (x7 : Int32), zk_G E l X cX10_slot 11 (some .int) yX10_slot.cls wsX10_slot ({ frames := 1, cells := 0, slots := 0, locals := 23 } : Room) 0 0 Q (gX10 E a (v_z, v_snaps, v_hasSnap, v_past, v_pastHas, v_pastMany, v_before, v_spare, v_text, v_typed, v_failure, v_hasFailed, v_isQuiet, v_from, v_end, v_numbers)) [(0, .ref a.1), (3, .int x3), (4, .int x4), (5, .int x5), (6, .int x6), (7, .int x7)] 156 [] (f_X10_slot_156 v_z x4 k48 x5 x6 x7) := by
    intro x4 k48 hk48 x5 x6 x7
    unfold f_X10_slot_156
    refine zk_iconst 1 dX10_slot_156 (by decide) 157 rfl ?_
    refine zk_goto dX10_slot_157 161 (by decide) ?_
    exact J161 x4 k48 hk48 1 x5 x6 x7
  have J121 : ∀ (x4 : Int32) (k48 : Int32 × Int32 × Int32 → Option (Int32)) (hk48 : ∀ s : Int32 × Int32 × Int32, zk_G E l X cX10_slot 11 (some .int) yX10_slot.cls wsX10_slot ({ frames := 1, cells := 0, slots := 0, locals := 23 } : Room) 0 0 Q (gX10 E a (v_z, v_snaps, v_hasSnap, v_past, v_pastHas, v_pastMany, v_before, v_spare, v_text, v_typed, v_failure, v_hasFailed, v_isQuiet, v_from, v_end, v_numbers)) [(0, .ref a.1), (3, .int x3), (4, .int x4), (5, .int s.1), (6, .int s.2.1), (7, .int s.2.2)] 48 [] (k48 s)) (s121_0 : Int32) (s121_1 : Int32) (x6 : Int32) (x7 : Int32) (x8 : Int32) (x9 : Int32), zk_G E l X cX10_slot 11 (some .int) yX10_slot.cls wsX10_slot ({ frames := 1, cells := 0, slots := 0, locals := 23 } : Room) 0 0 Q (gX10 E a (v_z, v_snaps, v_hasSnap, v_past, v_pastHas, v_pastMany, v_before, v_spare, v_text, v_typed, v_failure, v_hasFailed, v_isQuiet, v_from, v_end, v_numbers)) [(0, .ref a.1), (3, .int x3), (4, .int x4), (6, .int x6), (7, .int x7), (8, .int x8), (9, .int x9)] 121 [.int s121_1, .int s121_0] (f_X10_slot_121 v_z x4 k48 s121_0 s121_1 x6 x7 x8 x9) := by
    intro x4 k48 hk48 s121_0 s121_1 x6 x7 x8 x9
    unfold f_X10_slot_121
    refine zk_iadd dX10_slot_121 122 rfl ?_
    refine zk_nm (fun x5_2 => ?_)
    refine zk_istore [(5, .int x5_2), (0, .ref a.1), (3, .int x3), (4, .int x4), (6, .int x6), (7, .int x7), (8, .int x8), (9, .int x9)] dX10_slot_122 (by decide) rfl 124 rfl ?_
    refine zk_iload dX10_slot_124 6 rfl 126 rfl ?_
    refine zk_if_eq dX10_slot_126 160 (by decide) 129 rfl (fun _ => ?_) (fun _ => ?_)
    · refine zk_lv [1, 2, 3, 0, 4, 5] rfl ?_
      exact J160 x4 k48 hk48 x5_2 x6 x7
    · refine zk_iload dX10_slot_129 7 rfl 131 rfl ?_
      refine zk_if_ne dX10_slot_131 160 (by decide) 134 rfl (fun _ => ?_) (fun _ => ?_)
      · refine zk_iload dX10_slot_134 4 rfl 136 rfl ?_
        refine zk_bipush (-9) dX10_slot_136 (by decide) 138 rfl ?_
        refine zk_icmp_eq dX10_slot_138 156 (by decide) 141 rfl (fun _ => ?_) (fun _ => ?_)
        · refine zk_lv [1, 2, 3, 0, 4, 5] rfl ?_
          exact J156 x4 k48 hk48 x5_2 x6 x7
        · refine zk_aload_n dX10_slot_141 1 rfl 142 rfl ?_
          refine zk_get dX10_slot_142 0 rfl rfl kX10_slot_inX10 0 (by decide) kX10_slot_1 rfl 145 rfl ?_
          refine zk_bipush 12 dX10_slot_145 (by decide) 147 rfl ?_
          refine zk_iload dX10_slot_147 5 rfl 149 rfl ?_
          refine zk_iadd dX10_slot_149 150 rfl ?_
          refine zk_iald dX10_slot_150 1 rfl 151 rfl ?_
          refine zk_iload dX10_slot_151 4 rfl 153 rfl ?_
          refine zk_icmp_ge dX10_slot_153 160 (by decide) 156 rfl (fun _ => ?_) (fun _ => ?_)
          · refine zk_lv [1, 2, 3, 0, 4, 5] rfl ?_
            exact J160 x4 k48 hk48 x5_2 x6 x7
          · refine zk_lv [1, 2, 3, 0, 4, 5] rfl ?_
            exact J156 x4 k48 hk48 x5_2 x6 x7
      · refine zk_lv [1, 2, 3, 0, 4, 5] rfl ?_
        exact J160 x4 k48 hk48 x5_2 x6 x7
  have J120 : ∀ (x4 : Int32) (k48 : Int32 × Int32 × Int32 → Option (Int32)) (hk48 : ∀ s : Int32 × Int32 × Int32, zk_G E l X cX10_slot 11 (some .int) yX10_slot.cls wsX10_slot ({ frames := 1, cells := 0, slots := 0, locals := 23 } : Room) 0 0 Q (gX10 E a (v_z, v_snaps, v_hasSnap, v_past, v_pastHas, v_pastMany, v_before, v_spare, v_text, v_typed, v_failure, v_hasFailed, v_isQuiet, v_from, v_end, v_numbers)) [(0, .ref a.1), (3, .int x3), (4, .int x4), (5, .int s.1), (6, .int s.2.1), (7, .int s.2.2)] 48 [] (k48 s)) (s120_0 : Int32) (x6 : Int32) (x7 : Int32) (x8 : Int32) (x9 : Int32), zk_G E l X cX10_slot 11 (some .int) yX10_slot.cls wsX10_slot ({ frames := 1, cells := 0, slots := 0, locals := 23 } : Room) 0 0 Q (gX10 E a (v_z, v_snaps, v_hasSnap, v_past, v_pastHas, v_pastMany, v_before, v_spare, v_text, v_typed, v_failure, v_hasFailed, v_isQuiet, v_from, v_end, v_numbers)) [(0, .ref a.1), (3, .int x3), (4, .int x4), (6, .int x6), (7, .int x7), (8, .int x8), (9, .int x9)] 120 [.int s120_0] (f_X10_slot_120 v_z x4 k48 s120_0 x6 x7 x8 x9) := by
    intro x4 k48 hk48 s120_0 x6 x7 x8 x9
    unfold f_X10_slot_120
    refine zk_iconst 0 dX10_slot_120 (by decide) 121 rfl ?_
    exact J121 x4 k48 hk48 s120_0 0 x6 x7 x8 x9
  have J102 : ∀ (x4 : Int32) (k48 : Int32 × Int32 × Int32 → Option (Int32)) (hk48 : ∀ s : Int32 × Int32 × Int32, zk_G E l X cX10_slot 11 (some .int) yX10_slot.cls wsX10_slot ({ frames := 1, cells := 0, slots := 0, locals := 23 } : Room) 0 0 Q (gX10 E a (v_z, v_snaps, v_hasSnap, v_past, v_pastHas, v_pastMany, v_before, v_spare, v_text, v_typed, v_failure, v_hasFailed, v_isQuiet, v_from, v_end, v_numbers)) [(0, .ref a.1), (3, .int x3), (4, .int x4), (5, .int s.1), (6, .int s.2.1), (7, .int s.2.2)] 48 [] (k48 s)) (s102_0 : Int32) (x5 : Int32) (x6 : Int32) (x7 : Int32) (x8 : Int32), zk_G E l X cX10_slot 11 (some .int) yX10_slot.cls wsX10_slot ({ frames := 1, cells := 0, slots := 0, locals := 23 } : Room) 0 0 Q (gX10 E a (v_z, v_snaps, v_hasSnap, v_past, v_pastHas, v_pastMany, v_before, v_spare, v_text, v_typed, v_failure, v_hasFailed, v_isQuiet, v_from, v_end, v_numbers)) [(0, .ref a.1), (3, .int x3), (4, .int x4), (5, .int x5), (6, .int x6), (7, .int x7), (8, .int x8)] 102 [.int s102_0] (f_X10_slot_102 v_z x4 k48 s102_0 x5 x6 x7 x8) := by
    intro x4 k48 hk48 s102_0 x5 x6 x7 x8
    unfold f_X10_slot_102
    refine zk_istore [(9, .int s102_0), (0, .ref a.1), (3, .int x3), (4, .int x4), (5, .int x5), (6, .int x6), (7, .int x7), (8, .int x8)] dX10_slot_102 (by decide) rfl 104 rfl ?_
    refine zk_iload dX10_slot_104 4 rfl 106 rfl ?_
    refine zk_iload dX10_slot_106 7 rfl 108 rfl ?_
    refine zk_if_eq dX10_slot_108 120 (by decide) 111 rfl (fun _ => ?_) (fun _ => ?_)
    · refine zk_lv [1, 2, 3, 5, 6, 7, 0] rfl ?_
      exact J120 x4 k48 hk48 x5 x6 x7 x8 s102_0
    · refine zk_iload dX10_slot_111 0 rfl 113 rfl ?_
      refine zk_if_eq dX10_slot_113 120 (by decide) 116 rfl (fun _ => ?_) (fun _ => ?_)
      · refine zk_lv [1, 2, 3, 5, 6, 7, 0] rfl ?_
        exact J120 x4 k48 hk48 x5 x6 x7 x8 s102_0
      · refine zk_iconst 1 dX10_slot_116 (by decide) 117 rfl ?_
        refine zk_goto dX10_slot_117 121 (by decide) ?_
        refine zk_lv [1, 2, 3, 5, 6, 7, 0] rfl ?_
        exact J121 x4 k48 hk48 x5 1 x6 x7 x8 s102_0
  have J80 : ∀ (x4 : Int32) (k48 : Int32 × Int32 × Int32 → Option (Int32)) (hk48 : ∀ s : Int32 × Int32 × Int32, zk_G E l X cX10_slot 11 (some .int) yX10_slot.cls wsX10_slot ({ frames := 1, cells := 0, slots := 0, locals := 23 } : Room) 0 0 Q (gX10 E a (v_z, v_snaps, v_hasSnap, v_past, v_pastHas, v_pastMany, v_before, v_spare, v_text, v_typed, v_failure, v_hasFailed, v_isQuiet, v_from, v_end, v_numbers)) [(0, .ref a.1), (3, .int x3), (4, .int x4), (5, .int s.1), (6, .int s.2.1), (7, .int s.2.2)] 48 [] (k48 s)) (s80_0 : Int32) (x5 : Int32) (x6 : Int32) (x7 : Int32), zk_G E l X cX10_slot 11 (some .int) yX10_slot.cls wsX10_slot ({ frames := 1, cells := 0, slots := 0, locals := 23 } : Room) 0 0 Q (gX10 E a (v_z, v_snaps, v_hasSnap, v_past, v_pastHas, v_pastMany, v_before, v_spare, v_text, v_typed, v_failure, v_hasFailed, v_isQuiet, v_from, v_end, v_numbers)) [(0, .ref a.1), (3, .int x3), (4, .int x4), (5, .int x5), (6, .int x6), (7, .int x7)] 80 [.int s80_0] (f_X10_slot_80 v_z x4 k48 s80_0 x5 x6 x7) := by
    intro x4 k48 hk48 s80_0 x5 x6 x7
    unfold f_X10_slot_80
    refine zk_istore [(8, .int s80_0), (0, .ref a.1), (3, .int x3), (4, .int x4), (5, .int x5), (6, .int x6), (7, .int x7)] dX10_slot_80 (by decide) rfl 82 rfl ?_
    refine zk_aload_n dX10_slot_82 1 rfl 83 rfl ?_
    refine zk_get dX10_slot_83 0 rfl rfl kX10_slot_inX10 0 (by decide) kX10_slot_1 rfl 86 rfl ?_
    refine zk_sipush 132 dX10_slot_86 (by decide) 89 rfl ?_
    refine zk_iload dX10_slot_89 6 rfl 91 rfl ?_
    refine zk_iadd dX10_slot_91 92 rfl ?_
    refine zk_iald dX10_slot_92 1 rfl 93 rfl ?_
    refine zk_iconst 3 dX10_slot_93 (by decide) 94 rfl ?_
    refine zk_icmp_ne dX10_slot_94 101 (by decide) 97 rfl (fun _ => ?_) (fun _ => ?_)
    · refine zk_iconst 1 dX10_slot_97 (by decide) 98 rfl ?_
      refine zk_goto dX10_slot_98 102 (by decide) ?_
      refine zk_lv [1, 2, 3, 4, 5, 6, 0] rfl ?_
      exact J102 x4 k48 hk48 1 x5 x6 x7 s80_0
    · refine zk_iconst 0 dX10_slot_101 (by decide) 102 rfl ?_
      refine zk_lv [1, 2, 3, 4, 5, 6, 0] rfl ?_
      exact J102 x4 k48 hk48 0 x5 x6 x7 s80_0
  have J48 : ∀ (x4 : Int32) (n : Nat) (x5 : Int32) (x6 : Int32) (x7 : Int32), zk_G E l X cX10_slot 11 (some .int) yX10_slot.cls wsX10_slot ({ frames := 1, cells := 0, slots := 0, locals := 23 } : Room) 0 0 Q (gX10 E a (v_z, v_snaps, v_hasSnap, v_past, v_pastHas, v_pastMany, v_before, v_spare, v_text, v_typed, v_failure, v_hasFailed, v_isQuiet, v_from, v_end, v_numbers)) [(0, .ref a.1), (3, .int x3), (4, .int x4), (5, .int x5), (6, .int x6), (7, .int x7)] 48 [] (zk_fx (F_X10_slot_48 x3 v_z x4 ) n (x5, x6, x7)) := by
    intro x4 n x5 x6 x7
    refine zk_loop (S := Int32 × Int32 × Int32) (F := F_X10_slot_48 x3 v_z x4) (wS := fun s => (gX10 E a (v_z, v_snaps, v_hasSnap, v_past, v_pastHas, v_pastMany, v_before, v_spare, v_text, v_typed, v_failure, v_hasFailed, v_isQuiet, v_from, v_end, v_numbers))) (lS := fun s => [(0, .ref a.1), (3, .int x3), (4, .int x4), (5, .int s.1), (6, .int s.2.1), (7, .int s.2.2)]) (sS := fun _ => []) (fun k48 hk48 s => ?_) n (x5, x6, x7)
    obtain ⟨x5, x6, x7⟩ := s
    unfold F_X10_slot_48
    try dsimp only
    refine zk_iload dX10_slot_48 5 rfl 50 rfl ?_
    refine zk_aload_n dX10_slot_50 0 rfl 51 rfl ?_
    refine zk_get dX10_slot_51 0 rfl rfl kX10_slot_inX10 0 (by decide) kX10_slot_1 rfl 54 rfl ?_
    refine zk_iconst 1 dX10_slot_54 (by decide) 55 rfl ?_
    refine zk_iald dX10_slot_55 1 rfl 56 rfl ?_
    refine zk_icmp_ge dX10_slot_56 191 (by decide) 59 rfl (fun _ => ?_) (fun _ => ?_)
    · refine zk_iload_n dX10_slot_191 1 rfl 192 rfl ?_
      refine zk_if_ne dX10_slot_192 204 (by decide) 195 rfl (fun _ => ?_) (fun _ => ?_)
      · refine zk_aload_n dX10_slot_195 0 rfl 196 rfl ?_
        refine zk_iload dX10_slot_196 2 rfl 198 rfl ?_
        refine zk_callV (ci := 10) (st := []) (c_X10_manyAt E l a (v_z, v_snaps, v_hasSnap, v_past, v_pastHas, v_pastMany, v_before, v_spare, v_text, v_typed, v_failure, v_hasFailed, v_isQuiet, v_from, v_end, v_numbers) x4) dX10_slot_198 1 gX10_slot_X10_manyAt rfl rfl rfl cd_X10_manyAt ⟨Nat.le_of_ble_eq_true rfl, Nat.le_of_ble_eq_true rfl⟩ ⟨Nat.zero_le _, Nat.zero_le _⟩ _ (fun r198 => (gX10 E a (v_z, v_snaps, v_hasSnap, v_past, v_pastHas, v_pastMany, v_before, v_spare, v_text, v_typed, v_failure, v_hasFailed, v_isQuiet, v_from, v_end, v_numbers))) zk_pa (fun r198 => zk_qa) rfl rfl rfl rfl (Nat.le_of_ble_eq_true rfl) (fun r198 => [.int r198]) (fun _ => rfl) 201 rfl (fun r198 => ?_)
        refine zk_goto dX10_slot_201 216 (by decide) ?_
        exact zk_iret hQ dX10_slot_216 rfl rfl
      · refine zk_iload_n dX10_slot_204 1 rfl 205 rfl ?_
        refine zk_iconst 1 dX10_slot_205 (by decide) 206 rfl ?_
        refine zk_icmp_ne dX10_slot_206 214 (by decide) 209 rfl (fun _ => ?_) (fun _ => ?_)
        · refine zk_iload dX10_slot_209 3 rfl 211 rfl ?_
          refine zk_goto dX10_slot_211 216 (by decide) ?_
          exact zk_iret hQ dX10_slot_216 rfl rfl
        · refine zk_iload dX10_slot_214 4 rfl 216 rfl ?_
          exact zk_iret hQ dX10_slot_216 rfl rfl
    · refine zk_aload_n dX10_slot_59 0 rfl 60 rfl ?_
      refine zk_get dX10_slot_60 0 rfl rfl kX10_slot_inX10 0 (by decide) kX10_slot_1 rfl 63 rfl ?_
      refine zk_sipush 172 dX10_slot_63 (by decide) 66 rfl ?_
      refine zk_iload dX10_slot_66 5 rfl 68 rfl ?_
      refine zk_iadd dX10_slot_68 69 rfl ?_
      refine zk_iald dX10_slot_69 1 rfl 70 rfl ?_
      refine zk_iload dX10_slot_70 2 rfl 72 rfl ?_
      refine zk_icmp_ne dX10_slot_72 79 (by decide) 75 rfl (fun _ => ?_) (fun _ => ?_)
      · refine zk_iconst 1 dX10_slot_75 (by decide) 76 rfl ?_
        refine zk_goto dX10_slot_76 80 (by decide) ?_
        exact J80 x4 k48 hk48 1 x5 x6 x7
      · refine zk_iconst 0 dX10_slot_79 (by decide) 80 rfl ?_
        exact J80 x4 k48 hk48 0 x5 x6 x7
  refine zk_eqv (w1 := (gX10 E a (v_z, v_snaps, v_hasSnap, v_past, v_pastHas, v_pastMany, v_before, v_spare, v_text, v_typed, v_failure, v_hasFailed, v_isQuiet, v_from, v_end, v_numbers))) (lv1 := [(0, .ref a.1), (1, .int x1), (2, .int x2), (3, .int x3)]) (st1 := []) (o1 := f_X10_slot x1 x2 x3 v_z) rfl rfl rfl rfl ?_
  unfold f_X10_slot
  refine zk_iload_n dX10_slot_0 1 rfl 1 rfl ?_
  refine zk_if_lt dX10_slot_1 28 (by decide) 4 rfl (fun _ => ?_) (fun _ => ?_)
  · refine zk_iconst (-1) dX10_slot_28 (by decide) 29 rfl ?_
    exact zk_iret hQ dX10_slot_29 rfl rfl
  · refine zk_iload_n dX10_slot_4 1 rfl 5 rfl ?_
    refine zk_iconst 2 dX10_slot_5 (by decide) 6 rfl ?_
    refine zk_icmp_gt dX10_slot_6 28 (by decide) 9 rfl (fun _ => ?_) (fun _ => ?_)
    · refine zk_iconst (-1) dX10_slot_28 (by decide) 29 rfl ?_
      exact zk_iret hQ dX10_slot_29 rfl rfl
    · refine zk_iload_n dX10_slot_9 2 rfl 10 rfl ?_
      refine zk_if_lt dX10_slot_10 28 (by decide) 13 rfl (fun _ => ?_) (fun _ => ?_)
      · refine zk_iconst (-1) dX10_slot_28 (by decide) 29 rfl ?_
        exact zk_iret hQ dX10_slot_29 rfl rfl
      · refine zk_iload_n dX10_slot_13 2 rfl 14 rfl ?_
        refine zk_bipush 7 dX10_slot_14 (by decide) 16 rfl ?_
        refine zk_icmp_gt dX10_slot_16 28 (by decide) 19 rfl (fun _ => ?_) (fun _ => ?_)
        · refine zk_iconst (-1) dX10_slot_28 (by decide) 29 rfl ?_
          exact zk_iret hQ dX10_slot_29 rfl rfl
        · refine zk_iload_n dX10_slot_19 3 rfl 20 rfl ?_
          refine zk_if_lt dX10_slot_20 28 (by decide) 23 rfl (fun _ => ?_) (fun _ => ?_)
          · refine zk_iconst (-1) dX10_slot_28 (by decide) 29 rfl ?_
            exact zk_iret hQ dX10_slot_29 rfl rfl
          · refine zk_iload_n dX10_slot_23 3 rfl 24 rfl ?_
            refine zk_iconst 2 dX10_slot_24 (by decide) 25 rfl ?_
            refine zk_icmp_le dX10_slot_25 30 (by decide) 28 rfl (fun _ => ?_) (fun _ => ?_)
            · refine zk_bipush 8 dX10_slot_30 (by decide) 32 rfl ?_
              refine zk_iload_n dX10_slot_32 1 rfl 33 rfl ?_
              refine zk_imul dX10_slot_33 34 rfl ?_
              refine zk_iload_n dX10_slot_34 2 rfl 35 rfl ?_
              refine zk_iadd dX10_slot_35 36 rfl ?_
              refine zk_nm (fun x4_1 => ?_)
              refine zk_istore [(4, .int x4_1), (0, .ref a.1), (1, .int x1), (2, .int x2), (3, .int x3)] dX10_slot_36 (by decide) rfl 38 rfl ?_
              refine zk_iconst 0 dX10_slot_38 (by decide) 39 rfl ?_
              refine zk_istore [(5, .int 0), (4, .int x4_1), (0, .ref a.1), (1, .int x1), (2, .int x2), (3, .int x3)] dX10_slot_39 (by decide) rfl 41 rfl ?_
              refine zk_bipush (-9) dX10_slot_41 (by decide) 43 rfl ?_
              refine zk_istore [(6, .int (-9)), (5, .int 0), (4, .int x4_1), (0, .ref a.1), (1, .int x1), (2, .int x2), (3, .int x3)] dX10_slot_43 (by decide) rfl 45 rfl ?_
              refine zk_iconst 0 dX10_slot_45 (by decide) 46 rfl ?_
              refine zk_istore [(7, .int 0), (6, .int (-9)), (5, .int 0), (4, .int x4_1), (0, .ref a.1), (1, .int x1), (2, .int x2), (3, .int x3)] dX10_slot_46 (by decide) rfl 48 rfl ?_
              refine zk_lv [4, 7, 3, 2, 1, 0] rfl ?_
              exact J48   x4_1 zk_N 0 (-9) 0
            · refine zk_iconst (-1) dX10_slot_28 (by decide) 29 rfl ?_
              exact zk_iret hQ dX10_slot_29 rfl rfl
def f_X10_stands_103 (x4 : Int32) (k59 : Int32 × Int32 → Option (Int32)) (s103_0 : Int32) (x6 : Int32) : Option (Int32) := k59 (s103_0, (x6 + 1))
def f_X10_stands_101 (x4 : Int32) (k59 : Int32 × Int32 → Option (Int32)) (x5 : Int32) (x6 : Int32) : Option (Int32) := f_X10_stands_103 x4 k59 x5 x6
def F_X10_stands_59 (x3 : Int32) (v_z : (Nat → Int32)) (x4 : Int32) (k59 : Int32 × Int32 → Option (Int32)) : Int32 × Int32 → Option (Int32) := fun s => match s with
  | (x5, x6) => zk_ck 1 368 (if (v_z (1 : Int32).toNatClampNeg) ≤ x6 then some x5 else zk_ck (172 + x6) 368 (if (v_z (172 + x6).toNatClampNeg) = x4 then (f_X10_placeOf x6 v_z).bind fun r89 => if r89 = x3 then f_X10_stands_103 x4 k59 x6 x6 else f_X10_stands_101 x4 k59 x5 x6 else f_X10_stands_101 x4 k59 x5 x6))
def f_X10_stands_50 (x3 : Int32) (v_z : (Nat → Int32)) (s50_0 : Int32) : Option (Int32) := zk_fx (F_X10_stands_59 x3 v_z s50_0 ) zk_N ((-9), 0)
def f_X10_stands_28 (x1 : Int32) (x2 : Int32) (x3 : Int32) (v_z : (Nat → Int32)) : Option (Int32) := if 0 ≤ x3 then if x1 = 3 then f_X10_stands_50 x3 v_z 24 else f_X10_stands_50 x3 v_z ((8 * x1) + x2) else some (-1)
def f_X10_stands (x1 : Int32) (x2 : Int32) (x3 : Int32) (v_z : (Nat → Int32)) : Option (Int32) := if x1 < 0 then some (-1) else if 3 < x1 then some (-1) else if x2 < 0 then some (-1) else if 7 < x2 then some (-1) else if x1 = 3 then if 0 < x2 then some (-1) else f_X10_stands_28 x1 x2 x3 v_z else f_X10_stands_28 x1 x2 x3 v_z 
theorem kX10_stands_inX10 : ∀ w ∈ u_ws RX10 TX10 16, w ∈ wsX10_stands := by decide +kernel
theorem kX10_stands_1 : Cond.fieldLink RX10 7 (TX10 0).1 (TX10 0).2.1 (TX10 0).2.2.1 ∈ wsX10_stands := by decide +kernel
theorem cd_X10_stands : yX10_stands.cls = RX10 ∧ yX10_stands.cls ≠ "java/lang/invoke/MethodHandle" ∧ yX10_stands.cls ≠ "java/lang/invoke/VarHandle" ∧ (parseMethodDescriptor yX10_stands.desc).map (fun d => d.parameters.length) = some 3 := by decide +kernel
set_option maxRecDepth 100000 in
set_option maxHeartbeats 4000000 in
theorem c_X10_stands (E : zk_Env) (l : Launch) (a : aX10) (v : VX10) (x1 : Int32) (x2 : Int32) (x3 : Int32) : zk_Mc E l yX10_stands wsX10_stands ({ frames := 1, cells := 0, slots := 0, locals := 23 } : Room) [.ref a.1, .int x1, .int x2, .int x3] (gX10 E a v) (f_X10_stands x1 x2 x3 v.1) (fun r => some (.int r)) (fun r => (gX10 E a v)) := by
  obtain ⟨v_z, v_snaps, v_hasSnap, v_past, v_pastHas, v_pastMany, v_before, v_spare, v_text, v_typed, v_failure, v_hasFailed, v_isQuiet, v_from, v_end, v_numbers⟩ := v
  refine zk_M (cc := cX10_stands) (nL := 7) (ret := (some .int)) (by decide) rfl (Nat.le_of_ble_eq_true rfl) (fun X Q hQ => ?_)
  have J103 : ∀ (x4 : Int32) (k59 : Int32 × Int32 → Option (Int32)) (hk59 : ∀ s : Int32 × Int32, zk_G E l X cX10_stands 7 (some .int) yX10_stands.cls wsX10_stands ({ frames := 1, cells := 0, slots := 0, locals := 23 } : Room) 0 0 Q (gX10 E a (v_z, v_snaps, v_hasSnap, v_past, v_pastHas, v_pastMany, v_before, v_spare, v_text, v_typed, v_failure, v_hasFailed, v_isQuiet, v_from, v_end, v_numbers)) [(0, .ref a.1), (3, .int x3), (4, .int x4), (5, .int s.1), (6, .int s.2)] 59 [] (k59 s)) (s103_0 : Int32) (x6 : Int32), zk_G E l X cX10_stands 7 (some .int) yX10_stands.cls wsX10_stands ({ frames := 1, cells := 0, slots := 0, locals := 23 } : Room) 0 0 Q (gX10 E a (v_z, v_snaps, v_hasSnap, v_past, v_pastHas, v_pastMany, v_before, v_spare, v_text, v_typed, v_failure, v_hasFailed, v_isQuiet, v_from, v_end, v_numbers)) [(0, .ref a.1), (3, .int x3), (4, .int x4), (6, .int x6)] 103 [.int s103_0] (f_X10_stands_103 x4 k59 s103_0 x6) := by
    intro x4 k59 hk59 s103_0 x6
    unfold f_X10_stands_103
    refine zk_istore [(5, .int s103_0), (0, .ref a.1), (3, .int x3), (4, .int x4), (6, .int x6)] dX10_stands_103 (by decide) rfl 105 rfl ?_
    refine zk_iinc (x6 + 1) [(6, .int (x6 + 1)), (5, .int s103_0), (0, .ref a.1), (3, .int x3), (4, .int x4)] dX10_stands_105 4 rfl rfl (by decide) rfl 108 rfl ?_
    refine zk_goto dX10_stands_108 59 (by decide) ?_
    refine zk_lv [2, 3, 4, 1, 0] rfl ?_
    exact hk59 (s103_0, (x6 + 1))
  have J101 : ∀ (x4 : Int32) (k59 : Int32 × Int32 → Option (Int32)) (hk59 : ∀ s : Int32 × Int32, zk_G E l X cX10_stands 7 (some .int) yX10_stands.cls wsX10_stands ({ frames := 1, cells := 0, slots := 0, locals := 23 } : Room) 0 0 Q (gX10 E a (v_z, v_snaps, v_hasSnap, v_past, v_pastHas, v_pastMany, v_before, v_spare, v_text, v_typed, v_failure, v_hasFailed, v_isQuiet, v_from, v_end, v_numbers)) [(0, .ref a.1), (3, .int x3), (4, .int x4), (5, .int s.1), (6, .int s.2)] 59 [] (k59 s)) (x5 : Int32) (x6 : Int32), zk_G E l X cX10_stands 7 (some .int) yX10_stands.cls wsX10_stands ({ frames := 1, cells := 0, slots := 0, locals := 23 } : Room) 0 0 Q (gX10 E a (v_z, v_snaps, v_hasSnap, v_past, v_pastHas, v_pastMany, v_before, v_spare, v_text, v_typed, v_failure, v_hasFailed, v_isQuiet, v_from, v_end, v_numbers)) [(0, .ref a.1), (3, .int x3), (4, .int x4), (5, .int x5), (6, .int x6)] 101 [] (f_X10_stands_101 x4 k59 x5 x6) := by
    intro x4 k59 hk59 x5 x6
    unfold f_X10_stands_101
    refine zk_iload dX10_stands_101 3 rfl 103 rfl ?_
    refine zk_lv [0, 1, 2, 4] rfl ?_
    exact J103 x4 k59 hk59 x5 x6
  have J59 : ∀ (x4 : Int32) (n : Nat) (x5 : Int32) (x6 : Int32), zk_G E l X cX10_stands 7 (some .int) yX10_stands.cls wsX10_stands ({ frames := 1, cells := 0, slots := 0, locals := 23 } : Room) 0 0 Q (gX10 E a (v_z, v_snaps, v_hasSnap, v_past, v_pastHas, v_pastMany, v_before, v_spare, v_text, v_typed, v_failure, v_hasFailed, v_isQuiet, v_from, v_end, v_numbers)) [(0, .ref a.1), (3, .int x3), (4, .int x4), (5, .int x5), (6, .int x6)] 59 [] (zk_fx (F_X10_stands_59 x3 v_z x4 ) n (x5, x6)) := by
    intro x4 n x5 x6
    refine zk_loop (S := Int32 × Int32) (F := F_X10_stands_59 x3 v_z x4) (wS := fun s => (gX10 E a (v_z, v_snaps, v_hasSnap, v_past, v_pastHas, v_pastMany, v_before, v_spare, v_text, v_typed, v_failure, v_hasFailed, v_isQuiet, v_from, v_end, v_numbers))) (lS := fun s => [(0, .ref a.1), (3, .int x3), (4, .int x4), (5, .int s.1), (6, .int s.2)]) (sS := fun _ => []) (fun k59 hk59 s => ?_) n (x5, x6)
    obtain ⟨x5, x6⟩ := s
    unfold F_X10_stands_59
    try dsimp only
    refine zk_iload dX10_stands_59 4 rfl 61 rfl ?_
    refine zk_aload_n dX10_stands_61 0 rfl 62 rfl ?_
    refine zk_get dX10_stands_62 0 rfl rfl kX10_stands_inX10 0 (by decide) kX10_stands_1 rfl 65 rfl ?_
    refine zk_iconst 1 dX10_stands_65 (by decide) 66 rfl ?_
    refine zk_iald dX10_stands_66 1 rfl 67 rfl ?_
    refine zk_icmp_ge dX10_stands_67 111 (by decide) 70 rfl (fun _ => ?_) (fun _ => ?_)
    · refine zk_iload dX10_stands_111 3 rfl 113 rfl ?_
      exact zk_iret hQ dX10_stands_113 rfl rfl
    · refine zk_aload_n dX10_stands_70 0 rfl 71 rfl ?_
      refine zk_get dX10_stands_71 0 rfl rfl kX10_stands_inX10 0 (by decide) kX10_stands_1 rfl 74 rfl ?_
      refine zk_sipush 172 dX10_stands_74 (by decide) 77 rfl ?_
      refine zk_iload dX10_stands_77 4 rfl 79 rfl ?_
      refine zk_iadd dX10_stands_79 80 rfl ?_
      refine zk_iald dX10_stands_80 1 rfl 81 rfl ?_
      refine zk_iload dX10_stands_81 2 rfl 83 rfl ?_
      refine zk_icmp_ne dX10_stands_83 101 (by decide) 86 rfl (fun _ => ?_) (fun _ => ?_)
      · refine zk_aload_n dX10_stands_86 0 rfl 87 rfl ?_
        refine zk_iload dX10_stands_87 4 rfl 89 rfl ?_
        refine zk_callV (ci := 10) (st := []) (c_X10_placeOf E l a (v_z, v_snaps, v_hasSnap, v_past, v_pastHas, v_pastMany, v_before, v_spare, v_text, v_typed, v_failure, v_hasFailed, v_isQuiet, v_from, v_end, v_numbers) x6) dX10_stands_89 1 gX10_stands_X10_placeOf rfl rfl rfl cd_X10_placeOf ⟨Nat.le_of_ble_eq_true rfl, Nat.le_of_ble_eq_true rfl⟩ ⟨Nat.zero_le _, Nat.zero_le _⟩ _ (fun r89 => (gX10 E a (v_z, v_snaps, v_hasSnap, v_past, v_pastHas, v_pastMany, v_before, v_spare, v_text, v_typed, v_failure, v_hasFailed, v_isQuiet, v_from, v_end, v_numbers))) zk_pa (fun r89 => zk_qa) rfl rfl rfl rfl (Nat.le_of_ble_eq_true rfl) (fun r89 => [.int r89]) (fun _ => rfl) 92 rfl (fun r89 => ?_)
        refine zk_iload_n dX10_stands_92 1 rfl 93 rfl ?_
        refine zk_icmp_ne dX10_stands_93 101 (by decide) 96 rfl (fun _ => ?_) (fun _ => ?_)
        · refine zk_iload dX10_stands_96 4 rfl 98 rfl ?_
          refine zk_goto dX10_stands_98 103 (by decide) ?_
          refine zk_lv [0, 1, 2, 4] rfl ?_
          exact J103 x4 k59 hk59 x6 x6
        · exact J101 x4 k59 hk59 x5 x6
      · exact J101 x4 k59 hk59 x5 x6
  have J50 : ∀ (s50_0 : Int32), zk_G E l X cX10_stands 7 (some .int) yX10_stands.cls wsX10_stands ({ frames := 1, cells := 0, slots := 0, locals := 23 } : Room) 0 0 Q (gX10 E a (v_z, v_snaps, v_hasSnap, v_past, v_pastHas, v_pastMany, v_before, v_spare, v_text, v_typed, v_failure, v_hasFailed, v_isQuiet, v_from, v_end, v_numbers)) [(0, .ref a.1), (3, .int x3)] 50 [.int s50_0] (f_X10_stands_50 x3 v_z s50_0) := by
    intro s50_0
    unfold f_X10_stands_50
    refine zk_istore [(4, .int s50_0), (0, .ref a.1), (3, .int x3)] dX10_stands_50 (by decide) rfl 52 rfl ?_
    refine zk_bipush (-9) dX10_stands_52 (by decide) 54 rfl ?_
    refine zk_istore [(5, .int (-9)), (4, .int s50_0), (0, .ref a.1), (3, .int x3)] dX10_stands_54 (by decide) rfl 56 rfl ?_
    refine zk_iconst 0 dX10_stands_56 (by decide) 57 rfl ?_
    refine zk_istore [(6, .int 0), (5, .int (-9)), (4, .int s50_0), (0, .ref a.1), (3, .int x3)] dX10_stands_57 (by decide) rfl 59 rfl ?_
    refine zk_lv [3, 4, 2, 1, 0] rfl ?_
    exact J59   s50_0 zk_N (-9) 0
  have J28 : zk_G E l X cX10_stands 7 (some .int) yX10_stands.cls wsX10_stands ({ frames := 1, cells := 0, slots := 0, locals := 23 } : Room) 0 0 Q (gX10 E a (v_z, v_snaps, v_hasSnap, v_past, v_pastHas, v_pastMany, v_before, v_spare, v_text, v_typed, v_failure, v_hasFailed, v_isQuiet, v_from, v_end, v_numbers)) [(0, .ref a.1), (1, .int x1), (2, .int x2), (3, .int x3)] 28 [] (f_X10_stands_28 x1 x2 x3 v_z ) := by
    unfold f_X10_stands_28
    refine zk_iload_n dX10_stands_28 3 rfl 29 rfl ?_
    refine zk_if_ge dX10_stands_29 34 (by decide) 32 rfl (fun _ => ?_) (fun _ => ?_)
    · refine zk_iload_n dX10_stands_34 1 rfl 35 rfl ?_
      refine zk_iconst 3 dX10_stands_35 (by decide) 36 rfl ?_
      refine zk_icmp_ne dX10_stands_36 44 (by decide) 39 rfl (fun _ => ?_) (fun _ => ?_)
      · refine zk_bipush 24 dX10_stands_39 (by decide) 41 rfl ?_
        refine zk_goto dX10_stands_41 50 (by decide) ?_
        refine zk_lv [0, 3] rfl ?_
        exact J50   24
      · refine zk_bipush 8 dX10_stands_44 (by decide) 46 rfl ?_
        refine zk_iload_n dX10_stands_46 1 rfl 47 rfl ?_
        refine zk_imul dX10_stands_47 48 rfl ?_
        refine zk_iload_n dX10_stands_48 2 rfl 49 rfl ?_
        refine zk_iadd dX10_stands_49 50 rfl ?_
        refine zk_lv [0, 3] rfl ?_
        exact J50   ((8 * x1) + x2)
    · refine zk_iconst (-1) dX10_stands_32 (by decide) 33 rfl ?_
      exact zk_iret hQ dX10_stands_33 rfl rfl
  refine zk_eqv (w1 := (gX10 E a (v_z, v_snaps, v_hasSnap, v_past, v_pastHas, v_pastMany, v_before, v_spare, v_text, v_typed, v_failure, v_hasFailed, v_isQuiet, v_from, v_end, v_numbers))) (lv1 := [(0, .ref a.1), (1, .int x1), (2, .int x2), (3, .int x3)]) (st1 := []) (o1 := f_X10_stands x1 x2 x3 v_z) rfl rfl rfl rfl ?_
  unfold f_X10_stands
  refine zk_iload_n dX10_stands_0 1 rfl 1 rfl ?_
  refine zk_if_lt dX10_stands_1 32 (by decide) 4 rfl (fun _ => ?_) (fun _ => ?_)
  · refine zk_iconst (-1) dX10_stands_32 (by decide) 33 rfl ?_
    exact zk_iret hQ dX10_stands_33 rfl rfl
  · refine zk_iload_n dX10_stands_4 1 rfl 5 rfl ?_
    refine zk_iconst 3 dX10_stands_5 (by decide) 6 rfl ?_
    refine zk_icmp_gt dX10_stands_6 32 (by decide) 9 rfl (fun _ => ?_) (fun _ => ?_)
    · refine zk_iconst (-1) dX10_stands_32 (by decide) 33 rfl ?_
      exact zk_iret hQ dX10_stands_33 rfl rfl
    · refine zk_iload_n dX10_stands_9 2 rfl 10 rfl ?_
      refine zk_if_lt dX10_stands_10 32 (by decide) 13 rfl (fun _ => ?_) (fun _ => ?_)
      · refine zk_iconst (-1) dX10_stands_32 (by decide) 33 rfl ?_
        exact zk_iret hQ dX10_stands_33 rfl rfl
      · refine zk_iload_n dX10_stands_13 2 rfl 14 rfl ?_
        refine zk_bipush 7 dX10_stands_14 (by decide) 16 rfl ?_
        refine zk_icmp_gt dX10_stands_16 32 (by decide) 19 rfl (fun _ => ?_) (fun _ => ?_)
        · refine zk_iconst (-1) dX10_stands_32 (by decide) 33 rfl ?_
          exact zk_iret hQ dX10_stands_33 rfl rfl
        · refine zk_iload_n dX10_stands_19 1 rfl 20 rfl ?_
          refine zk_iconst 3 dX10_stands_20 (by decide) 21 rfl ?_
          refine zk_icmp_ne dX10_stands_21 28 (by decide) 24 rfl (fun _ => ?_) (fun _ => ?_)
          · refine zk_iload_n dX10_stands_24 2 rfl 25 rfl ?_
            refine zk_if_gt dX10_stands_25 32 (by decide) 28 rfl (fun _ => ?_) (fun _ => ?_)
            · refine zk_iconst (-1) dX10_stands_32 (by decide) 33 rfl ?_
              exact zk_iret hQ dX10_stands_33 rfl rfl
            · exact J28   
          · exact J28   
def f_X10_call (x1 : Int32) (x2 : Int32) (v_z : (Nat → Int32)) : Option (Int32) := if x1 < 0 then some (-1) else if 12 ≤ x1 then some (-1) else if x2 < 0 then some (-1) else if x2 ≤ 2 then zk_ck 5 368 (if x1 < (v_z (5 : Int32).toNatClampNeg) then if x2 = 0 then zk_ck (332 + x1) 368 (some (v_z (332 + x1).toNatClampNeg)) else if x2 = 1 then zk_ck (344 + x1) 368 (some (v_z (344 + x1).toNatClampNeg)) else zk_ck (356 + x1) 368 (some (v_z (356 + x1).toNatClampNeg)) else some (-9)) else some (-1)
theorem kX10_call_inX10 : ∀ w ∈ u_ws RX10 TX10 16, w ∈ wsX10_call := by decide +kernel
theorem kX10_call_1 : Cond.fieldLink RX10 7 (TX10 0).1 (TX10 0).2.1 (TX10 0).2.2.1 ∈ wsX10_call := by decide +kernel
theorem cd_X10_call : yX10_call.cls = RX10 ∧ yX10_call.cls ≠ "java/lang/invoke/MethodHandle" ∧ yX10_call.cls ≠ "java/lang/invoke/VarHandle" ∧ (parseMethodDescriptor yX10_call.desc).map (fun d => d.parameters.length) = some 2 := by decide +kernel
set_option maxRecDepth 100000 in
set_option maxHeartbeats 4000000 in
theorem c_X10_call (E : zk_Env) (l : Launch) (a : aX10) (v : VX10) (x1 : Int32) (x2 : Int32) : zk_Mc E l yX10_call wsX10_call ({ frames := 0, cells := 0, slots := 0, locals := 0 } : Room) [.ref a.1, .int x1, .int x2] (gX10 E a v) (f_X10_call x1 x2 v.1) (fun r => some (.int r)) (fun r => (gX10 E a v)) := by
  obtain ⟨v_z, v_snaps, v_hasSnap, v_past, v_pastHas, v_pastMany, v_before, v_spare, v_text, v_typed, v_failure, v_hasFailed, v_isQuiet, v_from, v_end, v_numbers⟩ := v
  refine zk_M (cc := cX10_call) (nL := 3) (ret := (some .int)) (by decide) rfl (Nat.le_of_ble_eq_true rfl) (fun X Q hQ => ?_)
  refine zk_eqv (w1 := (gX10 E a (v_z, v_snaps, v_hasSnap, v_past, v_pastHas, v_pastMany, v_before, v_spare, v_text, v_typed, v_failure, v_hasFailed, v_isQuiet, v_from, v_end, v_numbers))) (lv1 := [(0, .ref a.1), (1, .int x1), (2, .int x2)]) (st1 := []) (o1 := f_X10_call x1 x2 v_z) rfl rfl rfl rfl ?_
  unfold f_X10_call
  refine zk_iload_n dX10_call_0 1 rfl 1 rfl ?_
  refine zk_if_lt dX10_call_1 19 (by decide) 4 rfl (fun _ => ?_) (fun _ => ?_)
  · refine zk_iconst (-1) dX10_call_19 (by decide) 20 rfl ?_
    exact zk_iret hQ dX10_call_20 rfl rfl
  · refine zk_iload_n dX10_call_4 1 rfl 5 rfl ?_
    refine zk_bipush 12 dX10_call_5 (by decide) 7 rfl ?_
    refine zk_icmp_ge dX10_call_7 19 (by decide) 10 rfl (fun _ => ?_) (fun _ => ?_)
    · refine zk_iconst (-1) dX10_call_19 (by decide) 20 rfl ?_
      exact zk_iret hQ dX10_call_20 rfl rfl
    · refine zk_iload_n dX10_call_10 2 rfl 11 rfl ?_
      refine zk_if_lt dX10_call_11 19 (by decide) 14 rfl (fun _ => ?_) (fun _ => ?_)
      · refine zk_iconst (-1) dX10_call_19 (by decide) 20 rfl ?_
        exact zk_iret hQ dX10_call_20 rfl rfl
      · refine zk_iload_n dX10_call_14 2 rfl 15 rfl ?_
        refine zk_iconst 2 dX10_call_15 (by decide) 16 rfl ?_
        refine zk_icmp_le dX10_call_16 21 (by decide) 19 rfl (fun _ => ?_) (fun _ => ?_)
        · refine zk_iload_n dX10_call_21 1 rfl 22 rfl ?_
          refine zk_aload_n dX10_call_22 0 rfl 23 rfl ?_
          refine zk_get dX10_call_23 0 rfl rfl kX10_call_inX10 0 (by decide) kX10_call_1 rfl 26 rfl ?_
          refine zk_iconst 5 dX10_call_26 (by decide) 27 rfl ?_
          refine zk_iald dX10_call_27 1 rfl 28 rfl ?_
          refine zk_icmp_lt dX10_call_28 34 (by decide) 31 rfl (fun _ => ?_) (fun _ => ?_)
          · refine zk_aload_n dX10_call_34 0 rfl 35 rfl ?_
            refine zk_get dX10_call_35 0 rfl rfl kX10_call_inX10 0 (by decide) kX10_call_1 rfl 38 rfl ?_
            refine zk_iload_n dX10_call_38 2 rfl 39 rfl ?_
            refine zk_if_ne dX10_call_39 48 (by decide) 42 rfl (fun _ => ?_) (fun _ => ?_)
            · refine zk_sipush 332 dX10_call_42 (by decide) 45 rfl ?_
              refine zk_goto dX10_call_45 62 (by decide) ?_
              refine zk_iload_n dX10_call_62 1 rfl 63 rfl ?_
              refine zk_iadd dX10_call_63 64 rfl ?_
              refine zk_iald dX10_call_64 1 rfl 65 rfl ?_
              exact zk_iret hQ dX10_call_65 rfl rfl
            · refine zk_iload_n dX10_call_48 2 rfl 49 rfl ?_
              refine zk_iconst 1 dX10_call_49 (by decide) 50 rfl ?_
              refine zk_icmp_ne dX10_call_50 59 (by decide) 53 rfl (fun _ => ?_) (fun _ => ?_)
              · refine zk_sipush 344 dX10_call_53 (by decide) 56 rfl ?_
                refine zk_goto dX10_call_56 62 (by decide) ?_
                refine zk_iload_n dX10_call_62 1 rfl 63 rfl ?_
                refine zk_iadd dX10_call_63 64 rfl ?_
                refine zk_iald dX10_call_64 1 rfl 65 rfl ?_
                exact zk_iret hQ dX10_call_65 rfl rfl
              · refine zk_sipush 356 dX10_call_59 (by decide) 62 rfl ?_
                refine zk_iload_n dX10_call_62 1 rfl 63 rfl ?_
                refine zk_iadd dX10_call_63 64 rfl ?_
                refine zk_iald dX10_call_64 1 rfl 65 rfl ?_
                exact zk_iret hQ dX10_call_65 rfl rfl
          · refine zk_bipush (-9) dX10_call_31 (by decide) 33 rfl ?_
            exact zk_iret hQ dX10_call_33 rfl rfl
        · refine zk_iconst (-1) dX10_call_19 (by decide) 20 rfl ?_
          exact zk_iret hQ dX10_call_20 rfl rfl
def f_X10_better_8 (x1 : Int32) (x2 : Int32) : Option (Int32) := if 0 ≤ x1 then some x1 else some x2
def f_X10_better_70 (x1 : Int32) (x2 : Int32) (s70_0 : Int32) : Option (Int32) := if s70_0 = 0 then some x2 else some x1
def f_X10_better_65 (x1 : Int32) (x2 : Int32) : Option (Int32) := f_X10_better_70 x1 x2 1
def f_X10_better_69 (x1 : Int32) (x2 : Int32) : Option (Int32) := f_X10_better_70 x1 x2 0
def f_X10_better (x1 : Int32) (x2 : Int32) (v_z : (Nat → Int32)) : Option (Int32) := if x1 < 0 then f_X10_better_8 x1 x2 else if 0 ≤ x2 then zk_ck (12 + x1) 368 (zk_ck (12 + x2) 368 (if (v_z (12 + x1).toNatClampNeg) < (v_z (12 + x2).toNatClampNeg) then f_X10_better_65 x1 x2 else zk_ck (12 + x1) 368 (zk_ck (12 + x2) 368 (if (v_z (12 + x1).toNatClampNeg) = (v_z (12 + x2).toNatClampNeg) then if x2 ≤ x1 then f_X10_better_69 x1 x2 else f_X10_better_65 x1 x2 else f_X10_better_69 x1 x2 )))) else f_X10_better_8 x1 x2 
theorem kX10_better_inX10 : ∀ w ∈ u_ws RX10 TX10 16, w ∈ wsX10_better := by decide +kernel
theorem kX10_better_1 : Cond.fieldLink RX10 7 (TX10 0).1 (TX10 0).2.1 (TX10 0).2.2.1 ∈ wsX10_better := by decide +kernel
theorem cd_X10_better : yX10_better.cls = RX10 ∧ yX10_better.cls ≠ "java/lang/invoke/MethodHandle" ∧ yX10_better.cls ≠ "java/lang/invoke/VarHandle" ∧ (parseMethodDescriptor yX10_better.desc).map (fun d => d.parameters.length) = some 2 := by decide +kernel
set_option maxRecDepth 100000 in
set_option maxHeartbeats 4000000 in
theorem c_X10_better (E : zk_Env) (l : Launch) (a : aX10) (v : VX10) (x1 : Int32) (x2 : Int32) : zk_Mc E l yX10_better wsX10_better ({ frames := 0, cells := 0, slots := 0, locals := 0 } : Room) [.ref a.1, .int x1, .int x2] (gX10 E a v) (f_X10_better x1 x2 v.1) (fun r => some (.int r)) (fun r => (gX10 E a v)) := by
  obtain ⟨v_z, v_snaps, v_hasSnap, v_past, v_pastHas, v_pastMany, v_before, v_spare, v_text, v_typed, v_failure, v_hasFailed, v_isQuiet, v_from, v_end, v_numbers⟩ := v
  refine zk_M (cc := cX10_better) (nL := 4) (ret := (some .int)) (by decide) rfl (Nat.le_of_ble_eq_true rfl) (fun X Q hQ => ?_)
  have J8 : zk_G E l X cX10_better 4 (some .int) yX10_better.cls wsX10_better ({ frames := 0, cells := 0, slots := 0, locals := 0 } : Room) 0 0 Q (gX10 E a (v_z, v_snaps, v_hasSnap, v_past, v_pastHas, v_pastMany, v_before, v_spare, v_text, v_typed, v_failure, v_hasFailed, v_isQuiet, v_from, v_end, v_numbers)) [(1, .int x1), (2, .int x2)] 8 [] (f_X10_better_8 x1 x2 ) := by
    unfold f_X10_better_8
    refine zk_iload_n dX10_better_8 0 rfl 9 rfl ?_
    refine zk_if_ge dX10_better_9 16 (by decide) 12 rfl (fun _ => ?_) (fun _ => ?_)
    · refine zk_iload_n dX10_better_16 0 rfl 17 rfl ?_
      exact zk_iret hQ dX10_better_17 rfl rfl
    · refine zk_iload_n dX10_better_12 1 rfl 13 rfl ?_
      refine zk_goto dX10_better_13 17 (by decide) ?_
      exact zk_iret hQ dX10_better_17 rfl rfl
  have J70 : ∀ (s70_0 : Int32), zk_G E l X cX10_better 4 (some .int) yX10_better.cls wsX10_better ({ frames := 0, cells := 0, slots := 0, locals := 0 } : Room) 0 0 Q (gX10 E a (v_z, v_snaps, v_hasSnap, v_past, v_pastHas, v_pastMany, v_before, v_spare, v_text, v_typed, v_failure, v_hasFailed, v_isQuiet, v_from, v_end, v_numbers)) [(1, .int x1), (2, .int x2)] 70 [.int s70_0] (f_X10_better_70 x1 x2 s70_0) := by
    intro s70_0
    unfold f_X10_better_70
    refine zk_istore_n [(3, .int s70_0), (1, .int x1), (2, .int x2)] dX10_better_70 (by decide) rfl 71 rfl ?_
    refine zk_iload_n dX10_better_71 0 rfl 72 rfl ?_
    refine zk_if_eq dX10_better_72 79 (by decide) 75 rfl (fun _ => ?_) (fun _ => ?_)
    · refine zk_iload_n dX10_better_79 2 rfl 80 rfl ?_
      exact zk_iret hQ dX10_better_80 rfl rfl
    · refine zk_iload_n dX10_better_75 1 rfl 76 rfl ?_
      refine zk_goto dX10_better_76 80 (by decide) ?_
      exact zk_iret hQ dX10_better_80 rfl rfl
  have J65 : zk_G E l X cX10_better 4 (some .int) yX10_better.cls wsX10_better ({ frames := 0, cells := 0, slots := 0, locals := 0 } : Room) 0 0 Q (gX10 E a (v_z, v_snaps, v_hasSnap, v_past, v_pastHas, v_pastMany, v_before, v_spare, v_text, v_typed, v_failure, v_hasFailed, v_isQuiet, v_from, v_end, v_numbers)) [(1, .int x1), (2, .int x2)] 65 [] (f_X10_better_65 x1 x2 ) := by
    unfold f_X10_better_65
    refine zk_iconst 1 dX10_better_65 (by decide) 66 rfl ?_
    refine zk_goto dX10_better_66 70 (by decide) ?_
    exact J70   1
  have J69 : zk_G E l X cX10_better 4 (some .int) yX10_better.cls wsX10_better ({ frames := 0, cells := 0, slots := 0, locals := 0 } : Room) 0 0 Q (gX10 E a (v_z, v_snaps, v_hasSnap, v_past, v_pastHas, v_pastMany, v_before, v_spare, v_text, v_typed, v_failure, v_hasFailed, v_isQuiet, v_from, v_end, v_numbers)) [(1, .int x1), (2, .int x2)] 69 [] (f_X10_better_69 x1 x2 ) := by
    unfold f_X10_better_69
    refine zk_iconst 0 dX10_better_69 (by decide) 70 rfl ?_
    exact J70   0
  refine zk_eqv (w1 := (gX10 E a (v_z, v_snaps, v_hasSnap, v_past, v_pastHas, v_pastMany, v_before, v_spare, v_text, v_typed, v_failure, v_hasFailed, v_isQuiet, v_from, v_end, v_numbers))) (lv1 := [(0, .ref a.1), (1, .int x1), (2, .int x2)]) (st1 := []) (o1 := f_X10_better x1 x2 v_z) rfl rfl rfl rfl ?_
  unfold f_X10_better
  refine zk_iload_n dX10_better_0 1 rfl 1 rfl ?_
  refine zk_if_lt dX10_better_1 8 (by decide) 4 rfl (fun _ => ?_) (fun _ => ?_)
  · refine zk_lv [1, 2] rfl ?_
    exact J8   
  · refine zk_iload_n dX10_better_4 2 rfl 5 rfl ?_
    refine zk_if_ge dX10_better_5 18 (by decide) 8 rfl (fun _ => ?_) (fun _ => ?_)
    · refine zk_aload_n dX10_better_18 0 rfl 19 rfl ?_
      refine zk_get dX10_better_19 0 rfl rfl kX10_better_inX10 0 (by decide) kX10_better_1 rfl 22 rfl ?_
      refine zk_bipush 12 dX10_better_22 (by decide) 24 rfl ?_
      refine zk_iload_n dX10_better_24 1 rfl 25 rfl ?_
      refine zk_iadd dX10_better_25 26 rfl ?_
      refine zk_iald dX10_better_26 1 rfl 27 rfl ?_
      refine zk_aload_n dX10_better_27 0 rfl 28 rfl ?_
      refine zk_get dX10_better_28 0 rfl rfl kX10_better_inX10 0 (by decide) kX10_better_1 rfl 31 rfl ?_
      refine zk_bipush 12 dX10_better_31 (by decide) 33 rfl ?_
      refine zk_iload_n dX10_better_33 2 rfl 34 rfl ?_
      refine zk_iadd dX10_better_34 35 rfl ?_
      refine zk_iald dX10_better_35 1 rfl 36 rfl ?_
      refine zk_icmp_lt dX10_better_36 65 (by decide) 39 rfl (fun _ => ?_) (fun _ => ?_)
      · refine zk_lv [1, 2] rfl ?_
        exact J65   
      · refine zk_aload_n dX10_better_39 0 rfl 40 rfl ?_
        refine zk_get dX10_better_40 0 rfl rfl kX10_better_inX10 0 (by decide) kX10_better_1 rfl 43 rfl ?_
        refine zk_bipush 12 dX10_better_43 (by decide) 45 rfl ?_
        refine zk_iload_n dX10_better_45 1 rfl 46 rfl ?_
        refine zk_iadd dX10_better_46 47 rfl ?_
        refine zk_iald dX10_better_47 1 rfl 48 rfl ?_
        refine zk_aload_n dX10_better_48 0 rfl 49 rfl ?_
        refine zk_get dX10_better_49 0 rfl rfl kX10_better_inX10 0 (by decide) kX10_better_1 rfl 52 rfl ?_
        refine zk_bipush 12 dX10_better_52 (by decide) 54 rfl ?_
        refine zk_iload_n dX10_better_54 2 rfl 55 rfl ?_
        refine zk_iadd dX10_better_55 56 rfl ?_
        refine zk_iald dX10_better_56 1 rfl 57 rfl ?_
        refine zk_icmp_ne dX10_better_57 69 (by decide) 60 rfl (fun _ => ?_) (fun _ => ?_)
        · refine zk_iload_n dX10_better_60 1 rfl 61 rfl ?_
          refine zk_iload_n dX10_better_61 2 rfl 62 rfl ?_
          refine zk_icmp_ge dX10_better_62 69 (by decide) 65 rfl (fun _ => ?_) (fun _ => ?_)
          · refine zk_lv [1, 2] rfl ?_
            exact J69   
          · refine zk_lv [1, 2] rfl ?_
            exact J65   
        · refine zk_lv [1, 2] rfl ?_
          exact J69   
    · refine zk_lv [1, 2] rfl ?_
      exact J8   
def f_X10_bestAt_52 (k4 : Int32 × Int32 → Option (Int32)) (x2 : Int32) (x3 : Int32) : Option (Int32) := k4 (x2, (x3 + 1))
def f_X10_bestAt_45 (v_z : (Nat → Int32)) (k4 : Int32 × Int32 → Option (Int32)) (x2 : Int32) (x3 : Int32) : Option (Int32) := (f_X10_better x2 x3 v_z).bind fun r48 => f_X10_bestAt_52 k4 r48 x3
def F_X10_bestAt_4 (x1 : Int32) (v_z : (Nat → Int32)) (k4 : Int32 × Int32 → Option (Int32)) : Int32 × Int32 → Option (Int32) := fun s => match s with
  | (x2, x3) => zk_ck 1 368 (if (v_z (1 : Int32).toNatClampNeg) ≤ x3 then some x2 else zk_ck (132 + x3) 368 (if (v_z (132 + x3).toNatClampNeg) = 0 then if x1 < 0 then f_X10_bestAt_45 v_z k4 x2 x3 else zk_ck (172 + x3) 368 (if (v_z (172 + x3).toNatClampNeg) = x1 then f_X10_bestAt_45 v_z k4 x2 x3 else f_X10_bestAt_52 k4 x2 x3) else f_X10_bestAt_52 k4 x2 x3))
def f_X10_bestAt (x1 : Int32) (v_z : (Nat → Int32)) : Option (Int32) := zk_fx (F_X10_bestAt_4 x1 v_z ) zk_N ((-1), 0)
theorem kX10_bestAt_inX10 : ∀ w ∈ u_ws RX10 TX10 16, w ∈ wsX10_bestAt := by decide +kernel
theorem kX10_bestAt_1 : Cond.fieldLink RX10 7 (TX10 0).1 (TX10 0).2.1 (TX10 0).2.2.1 ∈ wsX10_bestAt := by decide +kernel
theorem cd_X10_bestAt : yX10_bestAt.cls = RX10 ∧ yX10_bestAt.cls ≠ "java/lang/invoke/MethodHandle" ∧ yX10_bestAt.cls ≠ "java/lang/invoke/VarHandle" ∧ (parseMethodDescriptor yX10_bestAt.desc).map (fun d => d.parameters.length) = some 1 := by decide +kernel
set_option maxRecDepth 100000 in
set_option maxHeartbeats 4000000 in
theorem c_X10_bestAt (E : zk_Env) (l : Launch) (a : aX10) (v : VX10) (x1 : Int32) : zk_Mc E l yX10_bestAt wsX10_bestAt ({ frames := 1, cells := 0, slots := 0, locals := 23 } : Room) [.ref a.1, .int x1] (gX10 E a v) (f_X10_bestAt x1 v.1) (fun r => some (.int r)) (fun r => (gX10 E a v)) := by
  obtain ⟨v_z, v_snaps, v_hasSnap, v_past, v_pastHas, v_pastMany, v_before, v_spare, v_text, v_typed, v_failure, v_hasFailed, v_isQuiet, v_from, v_end, v_numbers⟩ := v
  refine zk_M (cc := cX10_bestAt) (nL := 4) (ret := (some .int)) (by decide) rfl (Nat.le_of_ble_eq_true rfl) (fun X Q hQ => ?_)
  have J52 : ∀ (k4 : Int32 × Int32 → Option (Int32)) (hk4 : ∀ s : Int32 × Int32, zk_G E l X cX10_bestAt 4 (some .int) yX10_bestAt.cls wsX10_bestAt ({ frames := 1, cells := 0, slots := 0, locals := 23 } : Room) 0 0 Q (gX10 E a (v_z, v_snaps, v_hasSnap, v_past, v_pastHas, v_pastMany, v_before, v_spare, v_text, v_typed, v_failure, v_hasFailed, v_isQuiet, v_from, v_end, v_numbers)) [(0, .ref a.1), (1, .int x1), (2, .int s.1), (3, .int s.2)] 4 [] (k4 s)) (x2 : Int32) (x3 : Int32), zk_G E l X cX10_bestAt 4 (some .int) yX10_bestAt.cls wsX10_bestAt ({ frames := 1, cells := 0, slots := 0, locals := 23 } : Room) 0 0 Q (gX10 E a (v_z, v_snaps, v_hasSnap, v_past, v_pastHas, v_pastMany, v_before, v_spare, v_text, v_typed, v_failure, v_hasFailed, v_isQuiet, v_from, v_end, v_numbers)) [(0, .ref a.1), (1, .int x1), (2, .int x2), (3, .int x3)] 52 [] (f_X10_bestAt_52 k4 x2 x3) := by
    intro k4 hk4 x2 x3
    unfold f_X10_bestAt_52
    refine zk_iinc (x3 + 1) [(3, .int (x3 + 1)), (0, .ref a.1), (1, .int x1), (2, .int x2)] dX10_bestAt_52 3 rfl rfl (by decide) rfl 55 rfl ?_
    refine zk_goto dX10_bestAt_55 4 (by decide) ?_
    refine zk_lv [1, 2, 3, 0] rfl ?_
    exact hk4 (x2, (x3 + 1))
  have J45 : ∀ (k4 : Int32 × Int32 → Option (Int32)) (hk4 : ∀ s : Int32 × Int32, zk_G E l X cX10_bestAt 4 (some .int) yX10_bestAt.cls wsX10_bestAt ({ frames := 1, cells := 0, slots := 0, locals := 23 } : Room) 0 0 Q (gX10 E a (v_z, v_snaps, v_hasSnap, v_past, v_pastHas, v_pastMany, v_before, v_spare, v_text, v_typed, v_failure, v_hasFailed, v_isQuiet, v_from, v_end, v_numbers)) [(0, .ref a.1), (1, .int x1), (2, .int s.1), (3, .int s.2)] 4 [] (k4 s)) (x2 : Int32) (x3 : Int32), zk_G E l X cX10_bestAt 4 (some .int) yX10_bestAt.cls wsX10_bestAt ({ frames := 1, cells := 0, slots := 0, locals := 23 } : Room) 0 0 Q (gX10 E a (v_z, v_snaps, v_hasSnap, v_past, v_pastHas, v_pastMany, v_before, v_spare, v_text, v_typed, v_failure, v_hasFailed, v_isQuiet, v_from, v_end, v_numbers)) [(0, .ref a.1), (1, .int x1), (2, .int x2), (3, .int x3)] 45 [] (f_X10_bestAt_45 v_z k4 x2 x3) := by
    intro k4 hk4 x2 x3
    unfold f_X10_bestAt_45
    refine zk_aload_n dX10_bestAt_45 0 rfl 46 rfl ?_
    refine zk_iload_n dX10_bestAt_46 2 rfl 47 rfl ?_
    refine zk_iload_n dX10_bestAt_47 3 rfl 48 rfl ?_
    refine zk_callV (ci := 10) (st := []) (c_X10_better E l a (v_z, v_snaps, v_hasSnap, v_past, v_pastHas, v_pastMany, v_before, v_spare, v_text, v_typed, v_failure, v_hasFailed, v_isQuiet, v_from, v_end, v_numbers) x2 x3) dX10_bestAt_48 2 gX10_bestAt_X10_better rfl rfl rfl cd_X10_better ⟨Nat.le_of_ble_eq_true rfl, Nat.le_of_ble_eq_true rfl⟩ ⟨Nat.zero_le _, Nat.zero_le _⟩ _ (fun r48 => (gX10 E a (v_z, v_snaps, v_hasSnap, v_past, v_pastHas, v_pastMany, v_before, v_spare, v_text, v_typed, v_failure, v_hasFailed, v_isQuiet, v_from, v_end, v_numbers))) zk_pa (fun r48 => zk_qa) rfl rfl rfl rfl (Nat.le_of_ble_eq_true rfl) (fun r48 => [.int r48]) (fun _ => rfl) 51 rfl (fun r48 => ?_)
    refine zk_istore_n [(2, .int r48), (0, .ref a.1), (1, .int x1), (3, .int x3)] dX10_bestAt_51 (by decide) rfl 52 rfl ?_
    refine zk_lv [1, 2, 0, 3] rfl ?_
    exact J52  k4 hk4 r48 x3
  have J4 : ∀ (n : Nat) (x2 : Int32) (x3 : Int32), zk_G E l X cX10_bestAt 4 (some .int) yX10_bestAt.cls wsX10_bestAt ({ frames := 1, cells := 0, slots := 0, locals := 23 } : Room) 0 0 Q (gX10 E a (v_z, v_snaps, v_hasSnap, v_past, v_pastHas, v_pastMany, v_before, v_spare, v_text, v_typed, v_failure, v_hasFailed, v_isQuiet, v_from, v_end, v_numbers)) [(0, .ref a.1), (1, .int x1), (2, .int x2), (3, .int x3)] 4 [] (zk_fx (F_X10_bestAt_4 x1 v_z ) n (x2, x3)) := by
    intro n x2 x3
    refine zk_loop (S := Int32 × Int32) (F := F_X10_bestAt_4 x1 v_z) (wS := fun s => (gX10 E a (v_z, v_snaps, v_hasSnap, v_past, v_pastHas, v_pastMany, v_before, v_spare, v_text, v_typed, v_failure, v_hasFailed, v_isQuiet, v_from, v_end, v_numbers))) (lS := fun s => [(0, .ref a.1), (1, .int x1), (2, .int s.1), (3, .int s.2)]) (sS := fun _ => []) (fun k4 hk4 s => ?_) n (x2, x3)
    obtain ⟨x2, x3⟩ := s
    unfold F_X10_bestAt_4
    try dsimp only
    refine zk_iload_n dX10_bestAt_4 3 rfl 5 rfl ?_
    refine zk_aload_n dX10_bestAt_5 0 rfl 6 rfl ?_
    refine zk_get dX10_bestAt_6 0 rfl rfl kX10_bestAt_inX10 0 (by decide) kX10_bestAt_1 rfl 9 rfl ?_
    refine zk_iconst 1 dX10_bestAt_9 (by decide) 10 rfl ?_
    refine zk_iald dX10_bestAt_10 1 rfl 11 rfl ?_
    refine zk_icmp_ge dX10_bestAt_11 58 (by decide) 14 rfl (fun _ => ?_) (fun _ => ?_)
    · refine zk_iload_n dX10_bestAt_58 2 rfl 59 rfl ?_
      exact zk_iret hQ dX10_bestAt_59 rfl rfl
    · refine zk_aload_n dX10_bestAt_14 0 rfl 15 rfl ?_
      refine zk_get dX10_bestAt_15 0 rfl rfl kX10_bestAt_inX10 0 (by decide) kX10_bestAt_1 rfl 18 rfl ?_
      refine zk_sipush 132 dX10_bestAt_18 (by decide) 21 rfl ?_
      refine zk_iload_n dX10_bestAt_21 3 rfl 22 rfl ?_
      refine zk_iadd dX10_bestAt_22 23 rfl ?_
      refine zk_iald dX10_bestAt_23 1 rfl 24 rfl ?_
      refine zk_if_ne dX10_bestAt_24 52 (by decide) 27 rfl (fun _ => ?_) (fun _ => ?_)
      · refine zk_iload_n dX10_bestAt_27 1 rfl 28 rfl ?_
        refine zk_if_lt dX10_bestAt_28 45 (by decide) 31 rfl (fun _ => ?_) (fun _ => ?_)
        · exact J45  k4 hk4 x2 x3
        · refine zk_aload_n dX10_bestAt_31 0 rfl 32 rfl ?_
          refine zk_get dX10_bestAt_32 0 rfl rfl kX10_bestAt_inX10 0 (by decide) kX10_bestAt_1 rfl 35 rfl ?_
          refine zk_sipush 172 dX10_bestAt_35 (by decide) 38 rfl ?_
          refine zk_iload_n dX10_bestAt_38 3 rfl 39 rfl ?_
          refine zk_iadd dX10_bestAt_39 40 rfl ?_
          refine zk_iald dX10_bestAt_40 1 rfl 41 rfl ?_
          refine zk_iload_n dX10_bestAt_41 1 rfl 42 rfl ?_
          refine zk_icmp_ne dX10_bestAt_42 52 (by decide) 45 rfl (fun _ => ?_) (fun _ => ?_)
          · exact J45  k4 hk4 x2 x3
          · exact J52  k4 hk4 x2 x3
      · exact J52  k4 hk4 x2 x3
  refine zk_eqv (w1 := (gX10 E a (v_z, v_snaps, v_hasSnap, v_past, v_pastHas, v_pastMany, v_before, v_spare, v_text, v_typed, v_failure, v_hasFailed, v_isQuiet, v_from, v_end, v_numbers))) (lv1 := [(0, .ref a.1), (1, .int x1)]) (st1 := []) (o1 := f_X10_bestAt x1 v_z) rfl rfl rfl rfl ?_
  unfold f_X10_bestAt
  refine zk_iconst (-1) dX10_bestAt_0 (by decide) 1 rfl ?_
  refine zk_istore_n [(2, .int (-1)), (0, .ref a.1), (1, .int x1)] dX10_bestAt_1 (by decide) rfl 2 rfl ?_
  refine zk_iconst 0 dX10_bestAt_2 (by decide) 3 rfl ?_
  refine zk_istore_n [(3, .int 0), (2, .int (-1)), (0, .ref a.1), (1, .int x1)] dX10_bestAt_3 (by decide) rfl 4 rfl ?_
  refine zk_lv [2, 3, 1, 0] rfl ?_
  exact J4    zk_N (-1) 0
def F_X10_bestOfRing_45 (x1 : Int32) (v_z : (Nat → Int32)) (x2 : Int32) (k45 : Int32 × Int32 → Option (Int32)) : Int32 × Int32 → Option (Int32) := fun s => match s with
  | (x3, x4) => if 8 < x4 then some x3 else if 0 ≤ x3 then some x3 else (f_X10_bestAt ((8 * x1) + (zk_rem (x2 + x4) 8)) v_z).bind fun r69 => k45 (r69, (x4 + 1))
def f_X10_bestOfRing_39 (x1 : Int32) (v_z : (Nat → Int32)) (s39_0 : Int32) : Option (Int32) := zk_fx (F_X10_bestOfRing_45 x1 v_z s39_0 ) zk_N ((-1), 1)
def f_X10_bestOfRing (x1 : Int32) (v_z : (Nat → Int32)) : Option (Int32) := if x1 = 0 then zk_ck 0 368 (f_X10_bestOfRing_39 x1 v_z (v_z (0 : Int32).toNatClampNeg)) else if x1 = 1 then zk_ck 0 368 (f_X10_bestOfRing_39 x1 v_z ((v_z (0 : Int32).toNatClampNeg) / 8)) else zk_ck 0 368 (f_X10_bestOfRing_39 x1 v_z ((v_z (0 : Int32).toNatClampNeg) / 64))
theorem kX10_bestOfRing_inX10 : ∀ w ∈ u_ws RX10 TX10 16, w ∈ wsX10_bestOfRing := by decide +kernel
theorem kX10_bestOfRing_1 : Cond.fieldLink RX10 7 (TX10 0).1 (TX10 0).2.1 (TX10 0).2.2.1 ∈ wsX10_bestOfRing := by decide +kernel
theorem cd_X10_bestOfRing : yX10_bestOfRing.cls = RX10 ∧ yX10_bestOfRing.cls ≠ "java/lang/invoke/MethodHandle" ∧ yX10_bestOfRing.cls ≠ "java/lang/invoke/VarHandle" ∧ (parseMethodDescriptor yX10_bestOfRing.desc).map (fun d => d.parameters.length) = some 1 := by decide +kernel
set_option maxRecDepth 100000 in
set_option maxHeartbeats 4000000 in
theorem c_X10_bestOfRing (E : zk_Env) (l : Launch) (a : aX10) (v : VX10) (x1 : Int32) : zk_Mc E l yX10_bestOfRing wsX10_bestOfRing ({ frames := 2, cells := 0, slots := 0, locals := 46 } : Room) [.ref a.1, .int x1] (gX10 E a v) (f_X10_bestOfRing x1 v.1) (fun r => some (.int r)) (fun r => (gX10 E a v)) := by
  obtain ⟨v_z, v_snaps, v_hasSnap, v_past, v_pastHas, v_pastMany, v_before, v_spare, v_text, v_typed, v_failure, v_hasFailed, v_isQuiet, v_from, v_end, v_numbers⟩ := v
  refine zk_M (cc := cX10_bestOfRing) (nL := 5) (ret := (some .int)) (by decide) rfl (Nat.le_of_ble_eq_true rfl) (fun X Q hQ => ?_)
  have J45 : ∀ (x2 : Int32) (n : Nat) (x3 : Int32) (x4 : Int32), zk_G E l X cX10_bestOfRing 5 (some .int) yX10_bestOfRing.cls wsX10_bestOfRing ({ frames := 2, cells := 0, slots := 0, locals := 46 } : Room) 0 0 Q (gX10 E a (v_z, v_snaps, v_hasSnap, v_past, v_pastHas, v_pastMany, v_before, v_spare, v_text, v_typed, v_failure, v_hasFailed, v_isQuiet, v_from, v_end, v_numbers)) [(0, .ref a.1), (1, .int x1), (2, .int x2), (3, .int x3), (4, .int x4)] 45 [] (zk_fx (F_X10_bestOfRing_45 x1 v_z x2 ) n (x3, x4)) := by
    intro x2 n x3 x4
    refine zk_loop (S := Int32 × Int32) (F := F_X10_bestOfRing_45 x1 v_z x2) (wS := fun s => (gX10 E a (v_z, v_snaps, v_hasSnap, v_past, v_pastHas, v_pastMany, v_before, v_spare, v_text, v_typed, v_failure, v_hasFailed, v_isQuiet, v_from, v_end, v_numbers))) (lS := fun s => [(0, .ref a.1), (1, .int x1), (2, .int x2), (3, .int s.1), (4, .int s.2)]) (sS := fun _ => []) (fun k45 hk45 s => ?_) n (x3, x4)
    obtain ⟨x3, x4⟩ := s
    unfold F_X10_bestOfRing_45
    try dsimp only
    refine zk_iload dX10_bestOfRing_45 4 rfl 47 rfl ?_
    refine zk_bipush 8 dX10_bestOfRing_47 (by decide) 49 rfl ?_
    refine zk_icmp_gt dX10_bestOfRing_49 79 (by decide) 52 rfl (fun _ => ?_) (fun _ => ?_)
    · refine zk_iload_n dX10_bestOfRing_79 3 rfl 80 rfl ?_
      exact zk_iret hQ dX10_bestOfRing_80 rfl rfl
    · refine zk_iload_n dX10_bestOfRing_52 3 rfl 53 rfl ?_
      refine zk_if_ge dX10_bestOfRing_53 79 (by decide) 56 rfl (fun _ => ?_) (fun _ => ?_)
      · refine zk_iload_n dX10_bestOfRing_79 3 rfl 80 rfl ?_
        exact zk_iret hQ dX10_bestOfRing_80 rfl rfl
      · refine zk_aload_n dX10_bestOfRing_56 0 rfl 57 rfl ?_
        refine zk_bipush 8 dX10_bestOfRing_57 (by decide) 59 rfl ?_
        refine zk_iload_n dX10_bestOfRing_59 1 rfl 60 rfl ?_
        refine zk_imul dX10_bestOfRing_60 61 rfl ?_
        refine zk_iload_n dX10_bestOfRing_61 2 rfl 62 rfl ?_
        refine zk_iload dX10_bestOfRing_62 4 rfl 64 rfl ?_
        refine zk_iadd dX10_bestOfRing_64 65 rfl ?_
        refine zk_bipush 8 dX10_bestOfRing_65 (by decide) 67 rfl ?_
        refine zk_iremL dX10_bestOfRing_67 (by decide) 68 rfl ?_
        refine zk_iadd dX10_bestOfRing_68 69 rfl ?_
        refine zk_callV (ci := 10) (st := []) (c_X10_bestAt E l a (v_z, v_snaps, v_hasSnap, v_past, v_pastHas, v_pastMany, v_before, v_spare, v_text, v_typed, v_failure, v_hasFailed, v_isQuiet, v_from, v_end, v_numbers) ((8 * x1) + (zk_rem (x2 + x4) 8))) dX10_bestOfRing_69 1 gX10_bestOfRing_X10_bestAt rfl rfl rfl cd_X10_bestAt ⟨Nat.le_of_ble_eq_true rfl, Nat.le_of_ble_eq_true rfl⟩ ⟨Nat.zero_le _, Nat.zero_le _⟩ _ (fun r69 => (gX10 E a (v_z, v_snaps, v_hasSnap, v_past, v_pastHas, v_pastMany, v_before, v_spare, v_text, v_typed, v_failure, v_hasFailed, v_isQuiet, v_from, v_end, v_numbers))) zk_pa (fun r69 => zk_qa) rfl rfl rfl rfl (Nat.le_of_ble_eq_true rfl) (fun r69 => [.int r69]) (fun _ => rfl) 72 rfl (fun r69 => ?_)
        refine zk_istore_n [(3, .int r69), (0, .ref a.1), (1, .int x1), (2, .int x2), (4, .int x4)] dX10_bestOfRing_72 (by decide) rfl 73 rfl ?_
        refine zk_iinc (x4 + 1) [(4, .int (x4 + 1)), (3, .int r69), (0, .ref a.1), (1, .int x1), (2, .int x2)] dX10_bestOfRing_73 4 rfl rfl (by decide) rfl 76 rfl ?_
        refine zk_goto dX10_bestOfRing_76 45 (by decide) ?_
        refine zk_lv [2, 3, 4, 1, 0] rfl ?_
        exact hk45 (r69, (x4 + 1))
  have J39 : ∀ (s39_0 : Int32), zk_G E l X cX10_bestOfRing 5 (some .int) yX10_bestOfRing.cls wsX10_bestOfRing ({ frames := 2, cells := 0, slots := 0, locals := 46 } : Room) 0 0 Q (gX10 E a (v_z, v_snaps, v_hasSnap, v_past, v_pastHas, v_pastMany, v_before, v_spare, v_text, v_typed, v_failure, v_hasFailed, v_isQuiet, v_from, v_end, v_numbers)) [(0, .ref a.1), (1, .int x1)] 39 [.int s39_0] (f_X10_bestOfRing_39 x1 v_z s39_0) := by
    intro s39_0
    unfold f_X10_bestOfRing_39
    refine zk_istore_n [(2, .int s39_0), (0, .ref a.1), (1, .int x1)] dX10_bestOfRing_39 (by decide) rfl 40 rfl ?_
    refine zk_iconst (-1) dX10_bestOfRing_40 (by decide) 41 rfl ?_
    refine zk_istore_n [(3, .int (-1)), (2, .int s39_0), (0, .ref a.1), (1, .int x1)] dX10_bestOfRing_41 (by decide) rfl 42 rfl ?_
    refine zk_iconst 1 dX10_bestOfRing_42 (by decide) 43 rfl ?_
    refine zk_istore [(4, .int 1), (3, .int (-1)), (2, .int s39_0), (0, .ref a.1), (1, .int x1)] dX10_bestOfRing_43 (by decide) rfl 45 rfl ?_
    refine zk_lv [3, 4, 2, 1, 0] rfl ?_
    exact J45   s39_0 zk_N (-1) 1
  refine zk_eqv (w1 := (gX10 E a (v_z, v_snaps, v_hasSnap, v_past, v_pastHas, v_pastMany, v_before, v_spare, v_text, v_typed, v_failure, v_hasFailed, v_isQuiet, v_from, v_end, v_numbers))) (lv1 := [(0, .ref a.1), (1, .int x1)]) (st1 := []) (o1 := f_X10_bestOfRing x1 v_z) rfl rfl rfl rfl ?_
  unfold f_X10_bestOfRing
  refine zk_iload_n dX10_bestOfRing_0 1 rfl 1 rfl ?_
  refine zk_if_ne dX10_bestOfRing_1 13 (by decide) 4 rfl (fun _ => ?_) (fun _ => ?_)
  · refine zk_aload_n dX10_bestOfRing_4 0 rfl 5 rfl ?_
    refine zk_get dX10_bestOfRing_5 0 rfl rfl kX10_bestOfRing_inX10 0 (by decide) kX10_bestOfRing_1 rfl 8 rfl ?_
    refine zk_iconst 0 dX10_bestOfRing_8 (by decide) 9 rfl ?_
    refine zk_iald dX10_bestOfRing_9 1 rfl 10 rfl ?_
    refine zk_goto dX10_bestOfRing_10 39 (by decide) ?_
    exact J39   (v_z (0 : Int32).toNatClampNeg)
  · refine zk_iload_n dX10_bestOfRing_13 1 rfl 14 rfl ?_
    refine zk_iconst 1 dX10_bestOfRing_14 (by decide) 15 rfl ?_
    refine zk_icmp_ne dX10_bestOfRing_15 30 (by decide) 18 rfl (fun _ => ?_) (fun _ => ?_)
    · refine zk_aload_n dX10_bestOfRing_18 0 rfl 19 rfl ?_
      refine zk_get dX10_bestOfRing_19 0 rfl rfl kX10_bestOfRing_inX10 0 (by decide) kX10_bestOfRing_1 rfl 22 rfl ?_
      refine zk_iconst 0 dX10_bestOfRing_22 (by decide) 23 rfl ?_
      refine zk_iald dX10_bestOfRing_23 1 rfl 24 rfl ?_
      refine zk_bipush 8 dX10_bestOfRing_24 (by decide) 26 rfl ?_
      refine zk_idivL dX10_bestOfRing_26 (by decide) 27 rfl ?_
      refine zk_goto dX10_bestOfRing_27 39 (by decide) ?_
      exact J39   ((v_z (0 : Int32).toNatClampNeg) / 8)
    · refine zk_aload_n dX10_bestOfRing_30 0 rfl 31 rfl ?_
      refine zk_get dX10_bestOfRing_31 0 rfl rfl kX10_bestOfRing_inX10 0 (by decide) kX10_bestOfRing_1 rfl 34 rfl ?_
      refine zk_iconst 0 dX10_bestOfRing_34 (by decide) 35 rfl ?_
      refine zk_iald dX10_bestOfRing_35 1 rfl 36 rfl ?_
      refine zk_bipush 64 dX10_bestOfRing_36 (by decide) 38 rfl ?_
      refine zk_idivL dX10_bestOfRing_38 (by decide) 39 rfl ?_
      exact J39   ((v_z (0 : Int32).toNatClampNeg) / 64)
def f_X10_next_57 (x2 : Int32) (v_z : (Nat → Int32)) (x3 : Int32) : Option (Int32) := if 0 ≤ x3 then if x2 = 0 then some x3 else zk_ck (12 + x3) 368 (some (v_z (12 + x3).toNatClampNeg)) else some (-9)
def f_X10_next (x1 : Int32) (x2 : Int32) (v_z : (Nat → Int32)) : Option (Int32) := if x1 < 0 then some (-1) else if 1 < x1 then some (-1) else if x2 < 0 then some (-1) else if x2 ≤ 1 then (f_X10_bestAt (-1) v_z).bind fun r22 => if x1 = 1 then (f_X10_bestOfRing 0 v_z).bind fun r34 => (f_X10_bestOfRing 1 v_z).bind fun r39 => (f_X10_better r34 r39 v_z).bind fun r42 => (f_X10_bestOfRing 2 v_z).bind fun r50 => (f_X10_better r42 r50 v_z).bind fun r53 => f_X10_next_57 x2 v_z r53 else f_X10_next_57 x2 v_z r22 else some (-1)
theorem kX10_next_inX10 : ∀ w ∈ u_ws RX10 TX10 16, w ∈ wsX10_next := by decide +kernel
theorem kX10_next_1 : Cond.fieldLink RX10 7 (TX10 0).1 (TX10 0).2.1 (TX10 0).2.2.1 ∈ wsX10_next := by decide +kernel
theorem cd_X10_next : yX10_next.cls = RX10 ∧ yX10_next.cls ≠ "java/lang/invoke/MethodHandle" ∧ yX10_next.cls ≠ "java/lang/invoke/VarHandle" ∧ (parseMethodDescriptor yX10_next.desc).map (fun d => d.parameters.length) = some 2 := by decide +kernel
set_option maxRecDepth 100000 in
set_option maxHeartbeats 4000000 in
theorem c_X10_next (E : zk_Env) (l : Launch) (a : aX10) (v : VX10) (x1 : Int32) (x2 : Int32) : zk_Mc E l yX10_next wsX10_next ({ frames := 3, cells := 0, slots := 0, locals := 70 } : Room) [.ref a.1, .int x1, .int x2] (gX10 E a v) (f_X10_next x1 x2 v.1) (fun r => some (.int r)) (fun r => (gX10 E a v)) := by
  obtain ⟨v_z, v_snaps, v_hasSnap, v_past, v_pastHas, v_pastMany, v_before, v_spare, v_text, v_typed, v_failure, v_hasFailed, v_isQuiet, v_from, v_end, v_numbers⟩ := v
  refine zk_M (cc := cX10_next) (nL := 4) (ret := (some .int)) (by decide) rfl (Nat.le_of_ble_eq_true rfl) (fun X Q hQ => ?_)
  have J57 : ∀ (x3 : Int32), zk_G E l X cX10_next 4 (some .int) yX10_next.cls wsX10_next ({ frames := 3, cells := 0, slots := 0, locals := 70 } : Room) 0 0 Q (gX10 E a (v_z, v_snaps, v_hasSnap, v_past, v_pastHas, v_pastMany, v_before, v_spare, v_text, v_typed, v_failure, v_hasFailed, v_isQuiet, v_from, v_end, v_numbers)) [(0, .ref a.1), (2, .int x2), (3, .int x3)] 57 [] (f_X10_next_57 x2 v_z x3) := by
    intro x3
    unfold f_X10_next_57
    refine zk_iload_n dX10_next_57 2 rfl 58 rfl ?_
    refine zk_if_ge dX10_next_58 66 (by decide) 61 rfl (fun _ => ?_) (fun _ => ?_)
    · refine zk_iload_n dX10_next_66 1 rfl 67 rfl ?_
      refine zk_if_ne dX10_next_67 74 (by decide) 70 rfl (fun _ => ?_) (fun _ => ?_)
      · refine zk_iload_n dX10_next_70 2 rfl 71 rfl ?_
        refine zk_goto dX10_next_71 83 (by decide) ?_
        exact zk_iret hQ dX10_next_83 rfl rfl
      · refine zk_aload_n dX10_next_74 0 rfl 75 rfl ?_
        refine zk_get dX10_next_75 0 rfl rfl kX10_next_inX10 0 (by decide) kX10_next_1 rfl 78 rfl ?_
        refine zk_bipush 12 dX10_next_78 (by decide) 80 rfl ?_
        refine zk_iload_n dX10_next_80 2 rfl 81 rfl ?_
        refine zk_iadd dX10_next_81 82 rfl ?_
        refine zk_iald dX10_next_82 1 rfl 83 rfl ?_
        exact zk_iret hQ dX10_next_83 rfl rfl
    · refine zk_bipush (-9) dX10_next_61 (by decide) 63 rfl ?_
      refine zk_goto dX10_next_63 83 (by decide) ?_
      exact zk_iret hQ dX10_next_83 rfl rfl
  refine zk_eqv (w1 := (gX10 E a (v_z, v_snaps, v_hasSnap, v_past, v_pastHas, v_pastMany, v_before, v_spare, v_text, v_typed, v_failure, v_hasFailed, v_isQuiet, v_from, v_end, v_numbers))) (lv1 := [(0, .ref a.1), (1, .int x1), (2, .int x2)]) (st1 := []) (o1 := f_X10_next x1 x2 v_z) rfl rfl rfl rfl ?_
  unfold f_X10_next
  refine zk_iload_n dX10_next_0 1 rfl 1 rfl ?_
  refine zk_if_lt dX10_next_1 18 (by decide) 4 rfl (fun _ => ?_) (fun _ => ?_)
  · refine zk_iconst (-1) dX10_next_18 (by decide) 19 rfl ?_
    exact zk_iret hQ dX10_next_19 rfl rfl
  · refine zk_iload_n dX10_next_4 1 rfl 5 rfl ?_
    refine zk_iconst 1 dX10_next_5 (by decide) 6 rfl ?_
    refine zk_icmp_gt dX10_next_6 18 (by decide) 9 rfl (fun _ => ?_) (fun _ => ?_)
    · refine zk_iconst (-1) dX10_next_18 (by decide) 19 rfl ?_
      exact zk_iret hQ dX10_next_19 rfl rfl
    · refine zk_iload_n dX10_next_9 2 rfl 10 rfl ?_
      refine zk_if_lt dX10_next_10 18 (by decide) 13 rfl (fun _ => ?_) (fun _ => ?_)
      · refine zk_iconst (-1) dX10_next_18 (by decide) 19 rfl ?_
        exact zk_iret hQ dX10_next_19 rfl rfl
      · refine zk_iload_n dX10_next_13 2 rfl 14 rfl ?_
        refine zk_iconst 1 dX10_next_14 (by decide) 15 rfl ?_
        refine zk_icmp_le dX10_next_15 20 (by decide) 18 rfl (fun _ => ?_) (fun _ => ?_)
        · refine zk_aload_n dX10_next_20 0 rfl 21 rfl ?_
          refine zk_iconst (-1) dX10_next_21 (by decide) 22 rfl ?_
          refine zk_callV (ci := 10) (st := []) (c_X10_bestAt E l a (v_z, v_snaps, v_hasSnap, v_past, v_pastHas, v_pastMany, v_before, v_spare, v_text, v_typed, v_failure, v_hasFailed, v_isQuiet, v_from, v_end, v_numbers) (-1)) dX10_next_22 1 gX10_next_X10_bestAt rfl rfl rfl cd_X10_bestAt ⟨Nat.le_of_ble_eq_true rfl, Nat.le_of_ble_eq_true rfl⟩ ⟨Nat.zero_le _, Nat.zero_le _⟩ _ (fun r22 => (gX10 E a (v_z, v_snaps, v_hasSnap, v_past, v_pastHas, v_pastMany, v_before, v_spare, v_text, v_typed, v_failure, v_hasFailed, v_isQuiet, v_from, v_end, v_numbers))) zk_pa (fun r22 => zk_qa) rfl rfl rfl rfl (Nat.le_of_ble_eq_true rfl) (fun r22 => [.int r22]) (fun _ => rfl) 25 rfl (fun r22 => ?_)
          refine zk_istore_n [(3, .int r22), (0, .ref a.1), (1, .int x1), (2, .int x2)] dX10_next_25 (by decide) rfl 26 rfl ?_
          refine zk_iload_n dX10_next_26 2 rfl 27 rfl ?_
          refine zk_iconst 1 dX10_next_27 (by decide) 28 rfl ?_
          refine zk_icmp_ne dX10_next_28 57 (by decide) 31 rfl (fun _ => ?_) (fun _ => ?_)
          · refine zk_aload_n dX10_next_31 1 rfl 32 rfl ?_
            refine zk_aload_n dX10_next_32 1 rfl 33 rfl ?_
            refine zk_iconst 0 dX10_next_33 (by decide) 34 rfl ?_
            refine zk_callV (ci := 10) (st := [.ref a.1]) (c_X10_bestOfRing E l a (v_z, v_snaps, v_hasSnap, v_past, v_pastHas, v_pastMany, v_before, v_spare, v_text, v_typed, v_failure, v_hasFailed, v_isQuiet, v_from, v_end, v_numbers) 0) dX10_next_34 1 gX10_next_X10_bestOfRing rfl rfl rfl cd_X10_bestOfRing ⟨Nat.le_of_ble_eq_true rfl, Nat.le_of_ble_eq_true rfl⟩ ⟨Nat.zero_le _, Nat.zero_le _⟩ _ (fun r34 => (gX10 E a (v_z, v_snaps, v_hasSnap, v_past, v_pastHas, v_pastMany, v_before, v_spare, v_text, v_typed, v_failure, v_hasFailed, v_isQuiet, v_from, v_end, v_numbers))) zk_pa (fun r34 => zk_qa) rfl rfl rfl rfl (Nat.le_of_ble_eq_true rfl) (fun r34 => [.int r34, .ref a.1]) (fun _ => rfl) 37 rfl (fun r34 => ?_)
            refine zk_aload_n dX10_next_37 1 rfl 38 rfl ?_
            refine zk_iconst 1 dX10_next_38 (by decide) 39 rfl ?_
            refine zk_callV (ci := 10) (st := [.int r34, .ref a.1]) (c_X10_bestOfRing E l a (v_z, v_snaps, v_hasSnap, v_past, v_pastHas, v_pastMany, v_before, v_spare, v_text, v_typed, v_failure, v_hasFailed, v_isQuiet, v_from, v_end, v_numbers) 1) dX10_next_39 1 gX10_next_X10_bestOfRing rfl rfl rfl cd_X10_bestOfRing ⟨Nat.le_of_ble_eq_true rfl, Nat.le_of_ble_eq_true rfl⟩ ⟨Nat.zero_le _, Nat.zero_le _⟩ _ (fun r39 => (gX10 E a (v_z, v_snaps, v_hasSnap, v_past, v_pastHas, v_pastMany, v_before, v_spare, v_text, v_typed, v_failure, v_hasFailed, v_isQuiet, v_from, v_end, v_numbers))) zk_pa (fun r39 => zk_qa) rfl rfl rfl rfl (Nat.le_of_ble_eq_true rfl) (fun r39 => [.int r39, .int r34, .ref a.1]) (fun _ => rfl) 42 rfl (fun r39 => ?_)
            refine zk_callV (ci := 10) (st := []) (c_X10_better E l a (v_z, v_snaps, v_hasSnap, v_past, v_pastHas, v_pastMany, v_before, v_spare, v_text, v_typed, v_failure, v_hasFailed, v_isQuiet, v_from, v_end, v_numbers) r34 r39) dX10_next_42 2 gX10_next_X10_better rfl rfl rfl cd_X10_better ⟨Nat.le_of_ble_eq_true rfl, Nat.le_of_ble_eq_true rfl⟩ ⟨Nat.zero_le _, Nat.zero_le _⟩ _ (fun r42 => (gX10 E a (v_z, v_snaps, v_hasSnap, v_past, v_pastHas, v_pastMany, v_before, v_spare, v_text, v_typed, v_failure, v_hasFailed, v_isQuiet, v_from, v_end, v_numbers))) zk_pa (fun r42 => zk_qa) rfl rfl rfl rfl (Nat.le_of_ble_eq_true rfl) (fun r42 => [.int r42]) (fun _ => rfl) 45 rfl (fun r42 => ?_)
            refine zk_istore_n [(3, .int r42), (0, .ref a.1), (1, .int x1), (2, .int x2)] dX10_next_45 (by decide) rfl 46 rfl ?_
            refine zk_aload_n dX10_next_46 1 rfl 47 rfl ?_
            refine zk_iload_n dX10_next_47 0 rfl 48 rfl ?_
            refine zk_aload_n dX10_next_48 1 rfl 49 rfl ?_
            refine zk_iconst 2 dX10_next_49 (by decide) 50 rfl ?_
            refine zk_callV (ci := 10) (st := [.int r42, .ref a.1]) (c_X10_bestOfRing E l a (v_z, v_snaps, v_hasSnap, v_past, v_pastHas, v_pastMany, v_before, v_spare, v_text, v_typed, v_failure, v_hasFailed, v_isQuiet, v_from, v_end, v_numbers) 2) dX10_next_50 1 gX10_next_X10_bestOfRing rfl rfl rfl cd_X10_bestOfRing ⟨Nat.le_of_ble_eq_true rfl, Nat.le_of_ble_eq_true rfl⟩ ⟨Nat.zero_le _, Nat.zero_le _⟩ _ (fun r50 => (gX10 E a (v_z, v_snaps, v_hasSnap, v_past, v_pastHas, v_pastMany, v_before, v_spare, v_text, v_typed, v_failure, v_hasFailed, v_isQuiet, v_from, v_end, v_numbers))) zk_pa (fun r50 => zk_qa) rfl rfl rfl rfl (Nat.le_of_ble_eq_true rfl) (fun r50 => [.int r50, .int r42, .ref a.1]) (fun _ => rfl) 53 rfl (fun r50 => ?_)
            refine zk_callV (ci := 10) (st := []) (c_X10_better E l a (v_z, v_snaps, v_hasSnap, v_past, v_pastHas, v_pastMany, v_before, v_spare, v_text, v_typed, v_failure, v_hasFailed, v_isQuiet, v_from, v_end, v_numbers) r42 r50) dX10_next_53 2 gX10_next_X10_better rfl rfl rfl cd_X10_better ⟨Nat.le_of_ble_eq_true rfl, Nat.le_of_ble_eq_true rfl⟩ ⟨Nat.zero_le _, Nat.zero_le _⟩ _ (fun r53 => (gX10 E a (v_z, v_snaps, v_hasSnap, v_past, v_pastHas, v_pastMany, v_before, v_spare, v_text, v_typed, v_failure, v_hasFailed, v_isQuiet, v_from, v_end, v_numbers))) zk_pa (fun r53 => zk_qa) rfl rfl rfl rfl (Nat.le_of_ble_eq_true rfl) (fun r53 => [.int r53]) (fun _ => rfl) 56 rfl (fun r53 => ?_)
            refine zk_istore_n [(3, .int r53), (0, .ref a.1), (1, .int x1), (2, .int x2)] dX10_next_56 (by decide) rfl 57 rfl ?_
            refine zk_lv [1, 3, 0] rfl ?_
            exact J57   r53
          · refine zk_lv [1, 3, 0] rfl ?_
            exact J57   r22
        · refine zk_iconst (-1) dX10_next_18 (by decide) 19 rfl ?_
          exact zk_iret hQ dX10_next_19 rfl rfl
def F_X10_keepAside_2 (v_z : (Nat → Int32)) (k2 : Int32 × (Nat → Int32) → Option ((Nat → Int32))) : Int32 × (Nat → Int32) → Option ((Nat → Int32)) := fun s => match s with
  | (x1, v_spare) => if 368 ≤ x1 then some v_spare else zk_ck x1 368 (zk_ck x1 368 (zk_let (upd v_spare x1.toNatClampNeg (v_z x1.toNatClampNeg)) fun v_spare_1 => k2 ((x1 + 1), v_spare_1)))
def f_X10_keepAside (v_z : (Nat → Int32)) (v_spare : (Nat → Int32)) : Option ((Nat → Int32)) := zk_fx (F_X10_keepAside_2 v_z ) zk_N (0, v_spare)
theorem kX10_keepAside_inX10 : ∀ w ∈ u_ws RX10 TX10 16, w ∈ wsX10_keepAside := by decide +kernel
theorem kX10_keepAside_1 : Cond.fieldLink RX10 29 (TX10 7).1 (TX10 7).2.1 (TX10 7).2.2.1 ∈ wsX10_keepAside := by decide +kernel
theorem kX10_keepAside_2 : Cond.fieldLink RX10 7 (TX10 0).1 (TX10 0).2.1 (TX10 0).2.2.1 ∈ wsX10_keepAside := by decide +kernel
theorem cd_X10_keepAside : yX10_keepAside.cls = RX10 ∧ yX10_keepAside.cls ≠ "java/lang/invoke/MethodHandle" ∧ yX10_keepAside.cls ≠ "java/lang/invoke/VarHandle" ∧ (parseMethodDescriptor yX10_keepAside.desc).map (fun d => d.parameters.length) = some 0 := by decide +kernel
set_option maxRecDepth 100000 in
set_option maxHeartbeats 4000000 in
theorem c_X10_keepAside (E : zk_Env) (l : Launch) (a : aX10) (v : VX10)  : zk_Mc E l yX10_keepAside wsX10_keepAside ({ frames := 0, cells := 0, slots := 0, locals := 0 } : Room) [.ref a.1] (gX10 E a v) (f_X10_keepAside v.1 v.2.2.2.2.2.2.2.1) (fun _ => none) (fun r => (gX10 E a (v.1, v.2.1, v.2.2.1, v.2.2.2.1, v.2.2.2.2.1, v.2.2.2.2.2.1, v.2.2.2.2.2.2.1, r, v.2.2.2.2.2.2.2.2))) := by
  obtain ⟨v_z, v_snaps, v_hasSnap, v_past, v_pastHas, v_pastMany, v_before, v_spare, v_text, v_typed, v_failure, v_hasFailed, v_isQuiet, v_from, v_end, v_numbers⟩ := v
  refine zk_M (cc := cX10_keepAside) (nL := 2) (ret := none) (by decide) rfl (Nat.le_of_ble_eq_true rfl) (fun X Q hQ => ?_)
  have J2 : ∀ (n : Nat) (x1 : Int32) (v_spare : (Nat → Int32)), zk_G E l X cX10_keepAside 2 none yX10_keepAside.cls wsX10_keepAside ({ frames := 0, cells := 0, slots := 0, locals := 0 } : Room) 0 0 Q (gX10 E a (v_z, v_snaps, v_hasSnap, v_past, v_pastHas, v_pastMany, v_before, v_spare, v_text, v_typed, v_failure, v_hasFailed, v_isQuiet, v_from, v_end, v_numbers)) [(0, .ref a.1), (1, .int x1)] 2 [] (zk_fx (F_X10_keepAside_2 v_z ) n (x1, v_spare)) := by
    intro n x1 v_spare
    refine zk_loop (S := Int32 × (Nat → Int32)) (F := F_X10_keepAside_2 v_z) (wS := fun s => (gX10 E a (v_z, v_snaps, v_hasSnap, v_past, v_pastHas, v_pastMany, v_before, s.2, v_text, v_typed, v_failure, v_hasFailed, v_isQuiet, v_from, v_end, v_numbers))) (lS := fun s => [(0, .ref a.1), (1, .int s.1)]) (sS := fun _ => []) (fun k2 hk2 s => ?_) n (x1, v_spare)
    obtain ⟨x1, v_spare⟩ := s
    unfold F_X10_keepAside_2
    try dsimp only
    refine zk_iload_n dX10_keepAside_2 1 rfl 3 rfl ?_
    refine zk_sipush 368 dX10_keepAside_3 (by decide) 6 rfl ?_
    refine zk_icmp_ge dX10_keepAside_6 27 (by decide) 9 rfl (fun _ => ?_) (fun _ => ?_)
    · exact zk_vret hQ dX10_keepAside_27 rfl rfl
    · refine zk_aload_n dX10_keepAside_9 0 rfl 10 rfl ?_
      refine zk_get dX10_keepAside_10 0 rfl rfl kX10_keepAside_inX10 7 (by decide) kX10_keepAside_1 rfl 13 rfl ?_
      refine zk_iload_n dX10_keepAside_13 1 rfl 14 rfl ?_
      refine zk_aload_n dX10_keepAside_14 0 rfl 15 rfl ?_
      refine zk_get dX10_keepAside_15 0 rfl rfl kX10_keepAside_inX10 0 (by decide) kX10_keepAside_2 rfl 18 rfl ?_
      refine zk_iload_n dX10_keepAside_18 1 rfl 19 rfl ?_
      refine zk_iald dX10_keepAside_19 1 rfl 20 rfl ?_
      refine zk_iast (gX10 E a (v_z, v_snaps, v_hasSnap, v_past, v_pastHas, v_pastMany, v_before, (upd v_spare x1.toNatClampNeg (v_z x1.toNatClampNeg)), v_text, v_typed, v_failure, v_hasFailed, v_isQuiet, v_from, v_end, v_numbers)) dX10_keepAside_20 7 rfl rfl 21 rfl ?_
      refine zk_nmw (fun v_spare_1 => (gX10 E a (v_z, v_snaps, v_hasSnap, v_past, v_pastHas, v_pastMany, v_before, v_spare_1, v_text, v_typed, v_failure, v_hasFailed, v_isQuiet, v_from, v_end, v_numbers))) _ rfl (fun v_spare_1 => ?_)
      refine zk_iinc (x1 + 1) [(1, .int (x1 + 1)), (0, .ref a.1)] dX10_keepAside_21 1 rfl rfl (by decide) rfl 24 rfl ?_
      refine zk_goto dX10_keepAside_24 2 (by decide) ?_
      refine zk_lv [1, 0] rfl ?_
      exact hk2 ((x1 + 1), v_spare_1)
  refine zk_eqv (w1 := (gX10 E a (v_z, v_snaps, v_hasSnap, v_past, v_pastHas, v_pastMany, v_before, v_spare, v_text, v_typed, v_failure, v_hasFailed, v_isQuiet, v_from, v_end, v_numbers))) (lv1 := [(0, .ref a.1)]) (st1 := []) (o1 := f_X10_keepAside v_z v_spare) rfl rfl rfl rfl ?_
  unfold f_X10_keepAside
  refine zk_iconst 0 dX10_keepAside_0 (by decide) 1 rfl ?_
  refine zk_istore_n [(1, .int 0), (0, .ref a.1)] dX10_keepAside_1 (by decide) rfl 2 rfl ?_
  refine zk_lv [1, 0] rfl ?_
  exact J2    zk_N 0 v_spare
def F_X10_bringBack_2 (v_spare : (Nat → Int32)) (k2 : Int32 × (Nat → Int32) → Option ((Nat → Int32))) : Int32 × (Nat → Int32) → Option ((Nat → Int32)) := fun s => match s with
  | (x1, v_z) => if 368 ≤ x1 then some v_z else zk_ck x1 368 (zk_ck x1 368 (zk_let (upd v_z x1.toNatClampNeg (v_spare x1.toNatClampNeg)) fun v_z_1 => k2 ((x1 + 1), v_z_1)))
def f_X10_bringBack (v_z : (Nat → Int32)) (v_spare : (Nat → Int32)) : Option ((Nat → Int32)) := zk_fx (F_X10_bringBack_2 v_spare ) zk_N (0, v_z)
theorem kX10_bringBack_inX10 : ∀ w ∈ u_ws RX10 TX10 16, w ∈ wsX10_bringBack := by decide +kernel
theorem kX10_bringBack_1 : Cond.fieldLink RX10 7 (TX10 0).1 (TX10 0).2.1 (TX10 0).2.2.1 ∈ wsX10_bringBack := by decide +kernel
theorem kX10_bringBack_2 : Cond.fieldLink RX10 29 (TX10 7).1 (TX10 7).2.1 (TX10 7).2.2.1 ∈ wsX10_bringBack := by decide +kernel
theorem cd_X10_bringBack : yX10_bringBack.cls = RX10 ∧ yX10_bringBack.cls ≠ "java/lang/invoke/MethodHandle" ∧ yX10_bringBack.cls ≠ "java/lang/invoke/VarHandle" ∧ (parseMethodDescriptor yX10_bringBack.desc).map (fun d => d.parameters.length) = some 0 := by decide +kernel
set_option maxRecDepth 100000 in
set_option maxHeartbeats 4000000 in
theorem c_X10_bringBack (E : zk_Env) (l : Launch) (a : aX10) (v : VX10)  : zk_Mc E l yX10_bringBack wsX10_bringBack ({ frames := 0, cells := 0, slots := 0, locals := 0 } : Room) [.ref a.1] (gX10 E a v) (f_X10_bringBack v.1 v.2.2.2.2.2.2.2.1) (fun _ => none) (fun r => (gX10 E a (r, v.2))) := by
  obtain ⟨v_z, v_snaps, v_hasSnap, v_past, v_pastHas, v_pastMany, v_before, v_spare, v_text, v_typed, v_failure, v_hasFailed, v_isQuiet, v_from, v_end, v_numbers⟩ := v
  refine zk_M (cc := cX10_bringBack) (nL := 2) (ret := none) (by decide) rfl (Nat.le_of_ble_eq_true rfl) (fun X Q hQ => ?_)
  have J2 : ∀ (n : Nat) (x1 : Int32) (v_z : (Nat → Int32)), zk_G E l X cX10_bringBack 2 none yX10_bringBack.cls wsX10_bringBack ({ frames := 0, cells := 0, slots := 0, locals := 0 } : Room) 0 0 Q (gX10 E a (v_z, v_snaps, v_hasSnap, v_past, v_pastHas, v_pastMany, v_before, v_spare, v_text, v_typed, v_failure, v_hasFailed, v_isQuiet, v_from, v_end, v_numbers)) [(0, .ref a.1), (1, .int x1)] 2 [] (zk_fx (F_X10_bringBack_2 v_spare ) n (x1, v_z)) := by
    intro n x1 v_z
    refine zk_loop (S := Int32 × (Nat → Int32)) (F := F_X10_bringBack_2 v_spare) (wS := fun s => (gX10 E a (s.2, v_snaps, v_hasSnap, v_past, v_pastHas, v_pastMany, v_before, v_spare, v_text, v_typed, v_failure, v_hasFailed, v_isQuiet, v_from, v_end, v_numbers))) (lS := fun s => [(0, .ref a.1), (1, .int s.1)]) (sS := fun _ => []) (fun k2 hk2 s => ?_) n (x1, v_z)
    obtain ⟨x1, v_z⟩ := s
    unfold F_X10_bringBack_2
    try dsimp only
    refine zk_iload_n dX10_bringBack_2 1 rfl 3 rfl ?_
    refine zk_sipush 368 dX10_bringBack_3 (by decide) 6 rfl ?_
    refine zk_icmp_ge dX10_bringBack_6 27 (by decide) 9 rfl (fun _ => ?_) (fun _ => ?_)
    · exact zk_vret hQ dX10_bringBack_27 rfl rfl
    · refine zk_aload_n dX10_bringBack_9 0 rfl 10 rfl ?_
      refine zk_get dX10_bringBack_10 0 rfl rfl kX10_bringBack_inX10 0 (by decide) kX10_bringBack_1 rfl 13 rfl ?_
      refine zk_iload_n dX10_bringBack_13 1 rfl 14 rfl ?_
      refine zk_aload_n dX10_bringBack_14 0 rfl 15 rfl ?_
      refine zk_get dX10_bringBack_15 0 rfl rfl kX10_bringBack_inX10 7 (by decide) kX10_bringBack_2 rfl 18 rfl ?_
      refine zk_iload_n dX10_bringBack_18 1 rfl 19 rfl ?_
      refine zk_iald dX10_bringBack_19 7 rfl 20 rfl ?_
      refine zk_iast (gX10 E a ((upd v_z x1.toNatClampNeg (v_spare x1.toNatClampNeg)), v_snaps, v_hasSnap, v_past, v_pastHas, v_pastMany, v_before, v_spare, v_text, v_typed, v_failure, v_hasFailed, v_isQuiet, v_from, v_end, v_numbers)) dX10_bringBack_20 1 rfl rfl 21 rfl ?_
      refine zk_nmw (fun v_z_1 => (gX10 E a (v_z_1, v_snaps, v_hasSnap, v_past, v_pastHas, v_pastMany, v_before, v_spare, v_text, v_typed, v_failure, v_hasFailed, v_isQuiet, v_from, v_end, v_numbers))) _ rfl (fun v_z_1 => ?_)
      refine zk_iinc (x1 + 1) [(1, .int (x1 + 1)), (0, .ref a.1)] dX10_bringBack_21 1 rfl rfl (by decide) rfl 24 rfl ?_
      refine zk_goto dX10_bringBack_24 2 (by decide) ?_
      refine zk_lv [1, 0] rfl ?_
      exact hk2 ((x1 + 1), v_z_1)
  refine zk_eqv (w1 := (gX10 E a (v_z, v_snaps, v_hasSnap, v_past, v_pastHas, v_pastMany, v_before, v_spare, v_text, v_typed, v_failure, v_hasFailed, v_isQuiet, v_from, v_end, v_numbers))) (lv1 := [(0, .ref a.1)]) (st1 := []) (o1 := f_X10_bringBack v_z v_spare) rfl rfl rfl rfl ?_
  unfold f_X10_bringBack
  refine zk_iconst 0 dX10_bringBack_0 (by decide) 1 rfl ?_
  refine zk_istore_n [(1, .int 0), (0, .ref a.1)] dX10_bringBack_1 (by decide) rfl 2 rfl ?_
  refine zk_lv [1, 0] rfl ?_
  exact J2    zk_N 0 v_z
def f_X10_when_100 (s100_0 : Int32) (v_z : (Nat → Int32)) (v_spare : (Nat → Int32)) : Option (Int32 × (Nat → Int32) × (Nat → Int32)) := (f_X10_bringBack v_z v_spare).bind fun r102 => some (s100_0, r102, v_spare)
def f_X10_when_75 (x1 : Int32) (x2 : Int32) (v_z : (Nat → Int32)) (v_spare : (Nat → Int32)) : Option (Int32 × (Nat → Int32) × (Nat → Int32)) := zk_ck (252 + x1) 368 (if (v_z (252 + x1).toNatClampNeg) ≤ x2 then f_X10_when_100 (-9) v_z v_spare else zk_ck 0 368 (f_X10_when_100 (v_z (0 : Int32).toNatClampNeg) v_z v_spare))
def F_X10_when_44 (x1 : Int32) (x2 : Int32) (v_spare : (Nat → Int32)) (k44 : Int32 × (Nat → Int32) → Option (Int32 × (Nat → Int32) × (Nat → Int32))) : Int32 × (Nat → Int32) → Option (Int32 × (Nat → Int32) × (Nat → Int32)) := fun s => match s with
  | (x3, v_z) => if 600 ≤ x3 then f_X10_when_75 x1 x2 v_z v_spare else zk_ck (252 + x1) 368 (if (v_z (252 + x1).toNatClampNeg) = x2 then (f_X10_tick v_z).bind fun r66 => k44 ((x3 + 1), r66) else f_X10_when_75 x1 x2 v_z v_spare)
def f_X10_when (x1 : Int32) (v_z : (Nat → Int32)) (v_spare : (Nat → Int32)) : Option (Int32 × (Nat → Int32) × (Nat → Int32)) := (f_X10_isPromise x1 v_z).bind fun r2 => if r2 = 0 then some ((-1), v_z, v_spare) else zk_ck (132 + x1) 368 (if (v_z (132 + x1).toNatClampNeg) ≤ 1 then (f_X10_keepAside v_z v_spare).bind fun r28 => zk_ck (252 + x1) 368 (zk_let (v_z (252 + x1).toNatClampNeg) fun x2_1 => zk_fx (F_X10_when_44 x1 x2_1 r28 ) zk_N (0, v_z)) else some ((-2), v_z, v_spare))
theorem kX10_when_inX10 : ∀ w ∈ u_ws RX10 TX10 16, w ∈ wsX10_when := by decide +kernel
theorem kX10_when_1 : Cond.fieldLink RX10 7 (TX10 0).1 (TX10 0).2.1 (TX10 0).2.2.1 ∈ wsX10_when := by decide +kernel
theorem cd_X10_when : yX10_when.cls = RX10 ∧ yX10_when.cls ≠ "java/lang/invoke/MethodHandle" ∧ yX10_when.cls ≠ "java/lang/invoke/VarHandle" ∧ (parseMethodDescriptor yX10_when.desc).map (fun d => d.parameters.length) = some 1 := by decide +kernel
set_option maxRecDepth 100000 in
set_option maxHeartbeats 4000000 in
theorem c_X10_when (E : zk_Env) (l : Launch) (a : aX10) (v : VX10) (x1 : Int32) : zk_Mc E l yX10_when wsX10_when ({ frames := 5, cells := 0, slots := 0, locals := 110 } : Room) [.ref a.1, .int x1] (gX10 E a v) (f_X10_when x1 v.1 v.2.2.2.2.2.2.2.1) (fun r => some (.int r.1)) (fun r => (gX10 E a (r.2.1, v.2.1, v.2.2.1, v.2.2.2.1, v.2.2.2.2.1, v.2.2.2.2.2.1, v.2.2.2.2.2.2.1, r.2.2, v.2.2.2.2.2.2.2.2))) := by
  obtain ⟨v_z, v_snaps, v_hasSnap, v_past, v_pastHas, v_pastMany, v_before, v_spare, v_text, v_typed, v_failure, v_hasFailed, v_isQuiet, v_from, v_end, v_numbers⟩ := v
  refine zk_M (cc := cX10_when) (nL := 4) (ret := (some .int)) (by decide) rfl (Nat.le_of_ble_eq_true rfl) (fun X Q hQ => ?_)
  have J100 : ∀ (s100_0 : Int32) (v_z : (Nat → Int32)) (v_spare : (Nat → Int32)), zk_G E l X cX10_when 4 (some .int) yX10_when.cls wsX10_when ({ frames := 5, cells := 0, slots := 0, locals := 110 } : Room) 0 0 Q (gX10 E a (v_z, v_snaps, v_hasSnap, v_past, v_pastHas, v_pastMany, v_before, v_spare, v_text, v_typed, v_failure, v_hasFailed, v_isQuiet, v_from, v_end, v_numbers)) [(0, .ref a.1)] 100 [.int s100_0] (f_X10_when_100 s100_0 v_z v_spare) := by
    intro s100_0 v_z v_spare
    unfold f_X10_when_100
    refine zk_istore_n [(3, .int s100_0), (0, .ref a.1)] dX10_when_100 (by decide) rfl 101 rfl ?_
    refine zk_aload_n dX10_when_101 1 rfl 102 rfl ?_
    refine zk_callV (ci := 10) (st := []) (c_X10_bringBack E l a (v_z, v_snaps, v_hasSnap, v_past, v_pastHas, v_pastMany, v_before, v_spare, v_text, v_typed, v_failure, v_hasFailed, v_isQuiet, v_from, v_end, v_numbers)) dX10_when_102 0 gX10_when_X10_bringBack rfl rfl rfl cd_X10_bringBack ⟨Nat.le_of_ble_eq_true rfl, Nat.le_of_ble_eq_true rfl⟩ ⟨Nat.zero_le _, Nat.zero_le _⟩ _ (fun r102 => (gX10 E a (r102, v_snaps, v_hasSnap, v_past, v_pastHas, v_pastMany, v_before, v_spare, v_text, v_typed, v_failure, v_hasFailed, v_isQuiet, v_from, v_end, v_numbers))) zk_pa (fun r102 => zk_qa) rfl rfl rfl rfl (Nat.le_of_ble_eq_true rfl) (fun r102 => []) (fun _ => rfl) 105 rfl (fun r102 => ?_)
    refine zk_iload_n dX10_when_105 0 rfl 106 rfl ?_
    exact zk_iret hQ dX10_when_106 rfl rfl
  have J75 : ∀ (x2 : Int32) (v_z : (Nat → Int32)) (v_spare : (Nat → Int32)), zk_G E l X cX10_when 4 (some .int) yX10_when.cls wsX10_when ({ frames := 5, cells := 0, slots := 0, locals := 110 } : Room) 0 0 Q (gX10 E a (v_z, v_snaps, v_hasSnap, v_past, v_pastHas, v_pastMany, v_before, v_spare, v_text, v_typed, v_failure, v_hasFailed, v_isQuiet, v_from, v_end, v_numbers)) [(0, .ref a.1), (1, .int x1), (2, .int x2)] 75 [] (f_X10_when_75 x1 x2 v_z v_spare) := by
    intro x2 v_z v_spare
    unfold f_X10_when_75
    refine zk_aload_n dX10_when_75 0 rfl 76 rfl ?_
    refine zk_get dX10_when_76 0 rfl rfl kX10_when_inX10 0 (by decide) kX10_when_1 rfl 79 rfl ?_
    refine zk_sipush 252 dX10_when_79 (by decide) 82 rfl ?_
    refine zk_iload_n dX10_when_82 1 rfl 83 rfl ?_
    refine zk_iadd dX10_when_83 84 rfl ?_
    refine zk_iald dX10_when_84 1 rfl 85 rfl ?_
    refine zk_iload_n dX10_when_85 2 rfl 86 rfl ?_
    refine zk_icmp_le dX10_when_86 98 (by decide) 89 rfl (fun _ => ?_) (fun _ => ?_)
    · refine zk_bipush (-9) dX10_when_98 (by decide) 100 rfl ?_
      refine zk_lv [0] rfl ?_
      exact J100   (-9) v_z v_spare
    · refine zk_aload_n dX10_when_89 0 rfl 90 rfl ?_
      refine zk_get dX10_when_90 0 rfl rfl kX10_when_inX10 0 (by decide) kX10_when_1 rfl 93 rfl ?_
      refine zk_iconst 0 dX10_when_93 (by decide) 94 rfl ?_
      refine zk_iald dX10_when_94 1 rfl 95 rfl ?_
      refine zk_goto dX10_when_95 100 (by decide) ?_
      refine zk_lv [0] rfl ?_
      exact J100   (v_z (0 : Int32).toNatClampNeg) v_z v_spare
  have J44 : ∀ (x2 : Int32) (v_spare : (Nat → Int32)) (n : Nat) (x3 : Int32) (v_z : (Nat → Int32)), zk_G E l X cX10_when 4 (some .int) yX10_when.cls wsX10_when ({ frames := 5, cells := 0, slots := 0, locals := 110 } : Room) 0 0 Q (gX10 E a (v_z, v_snaps, v_hasSnap, v_past, v_pastHas, v_pastMany, v_before, v_spare, v_text, v_typed, v_failure, v_hasFailed, v_isQuiet, v_from, v_end, v_numbers)) [(0, .ref a.1), (1, .int x1), (2, .int x2), (3, .int x3)] 44 [] (zk_fx (F_X10_when_44 x1 x2 v_spare ) n (x3, v_z)) := by
    intro x2 v_spare n x3 v_z
    refine zk_loop (S := Int32 × (Nat → Int32)) (F := F_X10_when_44 x1 x2 v_spare) (wS := fun s => (gX10 E a (s.2, v_snaps, v_hasSnap, v_past, v_pastHas, v_pastMany, v_before, v_spare, v_text, v_typed, v_failure, v_hasFailed, v_isQuiet, v_from, v_end, v_numbers))) (lS := fun s => [(0, .ref a.1), (1, .int x1), (2, .int x2), (3, .int s.1)]) (sS := fun _ => []) (fun k44 hk44 s => ?_) n (x3, v_z)
    obtain ⟨x3, v_z⟩ := s
    unfold F_X10_when_44
    try dsimp only
    refine zk_iload_n dX10_when_44 3 rfl 45 rfl ?_
    refine zk_sipush 600 dX10_when_45 (by decide) 48 rfl ?_
    refine zk_icmp_ge dX10_when_48 75 (by decide) 51 rfl (fun _ => ?_) (fun _ => ?_)
    · refine zk_lv [0, 1, 2] rfl ?_
      exact J75   x2 v_z v_spare
    · refine zk_aload_n dX10_when_51 0 rfl 52 rfl ?_
      refine zk_get dX10_when_52 0 rfl rfl kX10_when_inX10 0 (by decide) kX10_when_1 rfl 55 rfl ?_
      refine zk_sipush 252 dX10_when_55 (by decide) 58 rfl ?_
      refine zk_iload_n dX10_when_58 1 rfl 59 rfl ?_
      refine zk_iadd dX10_when_59 60 rfl ?_
      refine zk_iald dX10_when_60 1 rfl 61 rfl ?_
      refine zk_iload_n dX10_when_61 2 rfl 62 rfl ?_
      refine zk_icmp_ne dX10_when_62 75 (by decide) 65 rfl (fun _ => ?_) (fun _ => ?_)
      · refine zk_aload_n dX10_when_65 0 rfl 66 rfl ?_
        refine zk_callV (ci := 10) (st := []) (c_X10_tick E l a (v_z, v_snaps, v_hasSnap, v_past, v_pastHas, v_pastMany, v_before, v_spare, v_text, v_typed, v_failure, v_hasFailed, v_isQuiet, v_from, v_end, v_numbers)) dX10_when_66 0 gX10_when_X10_tick rfl rfl rfl cd_X10_tick ⟨Nat.le_of_ble_eq_true rfl, Nat.le_of_ble_eq_true rfl⟩ ⟨Nat.zero_le _, Nat.zero_le _⟩ _ (fun r66 => (gX10 E a (r66, v_snaps, v_hasSnap, v_past, v_pastHas, v_pastMany, v_before, v_spare, v_text, v_typed, v_failure, v_hasFailed, v_isQuiet, v_from, v_end, v_numbers))) zk_pa (fun r66 => zk_qa) rfl rfl rfl rfl (Nat.le_of_ble_eq_true rfl) (fun r66 => []) (fun _ => rfl) 69 rfl (fun r66 => ?_)
        refine zk_iinc (x3 + 1) [(3, .int (x3 + 1)), (0, .ref a.1), (1, .int x1), (2, .int x2)] dX10_when_69 3 rfl rfl (by decide) rfl 72 rfl ?_
        refine zk_goto dX10_when_72 44 (by decide) ?_
        refine zk_lv [1, 2, 3, 0] rfl ?_
        exact hk44 ((x3 + 1), r66)
      · refine zk_lv [0, 1, 2] rfl ?_
        exact J75   x2 v_z v_spare
  refine zk_eqv (w1 := (gX10 E a (v_z, v_snaps, v_hasSnap, v_past, v_pastHas, v_pastMany, v_before, v_spare, v_text, v_typed, v_failure, v_hasFailed, v_isQuiet, v_from, v_end, v_numbers))) (lv1 := [(0, .ref a.1), (1, .int x1)]) (st1 := []) (o1 := f_X10_when x1 v_z v_spare) rfl rfl rfl rfl ?_
  unfold f_X10_when
  refine zk_aload_n dX10_when_0 0 rfl 1 rfl ?_
  refine zk_iload_n dX10_when_1 1 rfl 2 rfl ?_
  refine zk_callV (ci := 10) (st := []) (c_X10_isPromise E l a (v_z, v_snaps, v_hasSnap, v_past, v_pastHas, v_pastMany, v_before, v_spare, v_text, v_typed, v_failure, v_hasFailed, v_isQuiet, v_from, v_end, v_numbers) x1) dX10_when_2 1 gX10_when_X10_isPromise rfl rfl rfl cd_X10_isPromise ⟨Nat.le_of_ble_eq_true rfl, Nat.le_of_ble_eq_true rfl⟩ ⟨Nat.zero_le _, Nat.zero_le _⟩ _ (fun r2 => (gX10 E a (v_z, v_snaps, v_hasSnap, v_past, v_pastHas, v_pastMany, v_before, v_spare, v_text, v_typed, v_failure, v_hasFailed, v_isQuiet, v_from, v_end, v_numbers))) zk_pa (fun r2 => zk_qa) rfl rfl rfl rfl (Nat.le_of_ble_eq_true rfl) (fun r2 => [.int r2]) (fun _ => rfl) 5 rfl (fun r2 => ?_)
  refine zk_if_ne dX10_when_5 10 (by decide) 8 rfl (fun _ => ?_) (fun _ => ?_)
  · refine zk_iconst (-1) dX10_when_8 (by decide) 9 rfl ?_
    exact zk_iret hQ dX10_when_9 rfl rfl
  · refine zk_aload_n dX10_when_10 0 rfl 11 rfl ?_
    refine zk_get dX10_when_11 0 rfl rfl kX10_when_inX10 0 (by decide) kX10_when_1 rfl 14 rfl ?_
    refine zk_sipush 132 dX10_when_14 (by decide) 17 rfl ?_
    refine zk_iload_n dX10_when_17 1 rfl 18 rfl ?_
    refine zk_iadd dX10_when_18 19 rfl ?_
    refine zk_iald dX10_when_19 1 rfl 20 rfl ?_
    refine zk_iconst 1 dX10_when_20 (by decide) 21 rfl ?_
    refine zk_icmp_le dX10_when_21 27 (by decide) 24 rfl (fun _ => ?_) (fun _ => ?_)
    · refine zk_aload_n dX10_when_27 0 rfl 28 rfl ?_
      refine zk_callV (ci := 10) (st := []) (c_X10_keepAside E l a (v_z, v_snaps, v_hasSnap, v_past, v_pastHas, v_pastMany, v_before, v_spare, v_text, v_typed, v_failure, v_hasFailed, v_isQuiet, v_from, v_end, v_numbers)) dX10_when_28 0 gX10_when_X10_keepAside rfl rfl rfl cd_X10_keepAside ⟨Nat.le_of_ble_eq_true rfl, Nat.le_of_ble_eq_true rfl⟩ ⟨Nat.zero_le _, Nat.zero_le _⟩ _ (fun r28 => (gX10 E a (v_z, v_snaps, v_hasSnap, v_past, v_pastHas, v_pastMany, v_before, r28, v_text, v_typed, v_failure, v_hasFailed, v_isQuiet, v_from, v_end, v_numbers))) zk_pa (fun r28 => zk_qa) rfl rfl rfl rfl (Nat.le_of_ble_eq_true rfl) (fun r28 => []) (fun _ => rfl) 31 rfl (fun r28 => ?_)
      refine zk_aload_n dX10_when_31 0 rfl 32 rfl ?_
      refine zk_get dX10_when_32 0 rfl rfl kX10_when_inX10 0 (by decide) kX10_when_1 rfl 35 rfl ?_
      refine zk_sipush 252 dX10_when_35 (by decide) 38 rfl ?_
      refine zk_iload_n dX10_when_38 1 rfl 39 rfl ?_
      refine zk_iadd dX10_when_39 40 rfl ?_
      refine zk_iald dX10_when_40 1 rfl 41 rfl ?_
      refine zk_nm (fun x2_1 => ?_)
      refine zk_istore_n [(2, .int x2_1), (0, .ref a.1), (1, .int x1)] dX10_when_41 (by decide) rfl 42 rfl ?_
      refine zk_iconst 0 dX10_when_42 (by decide) 43 rfl ?_
      refine zk_istore_n [(3, .int 0), (2, .int x2_1), (0, .ref a.1), (1, .int x1)] dX10_when_43 (by decide) rfl 44 rfl ?_
      refine zk_lv [2, 3, 1, 0] rfl ?_
      exact J44   x2_1 r28 zk_N 0 v_z
    · refine zk_bipush (-2) dX10_when_24 (by decide) 26 rfl ?_
      exact zk_iret hQ dX10_when_26 rfl rfl
def f_X10_would_112 (s112_0 : Int32) (v_z : (Nat → Int32)) (v_spare : (Nat → Int32)) : Option (Int32 × (Nat → Int32) × (Nat → Int32)) := (f_X10_bringBack v_z v_spare).bind fun r115 => some (s112_0, r115, v_spare)
def f_X10_would_61 (v_spare : (Nat → Int32)) (k32 : Int32 × Int32 × (Nat → Int32) → Option (Int32 × (Nat → Int32) × (Nat → Int32))) (s61_0 : Int32) (x4 : Int32) (v_z : (Nat → Int32)) : Option (Int32 × (Nat → Int32) × (Nat → Int32)) := k32 (s61_0, (x4 + 1), v_z)
def F_X10_would_32 (x1 : Int32) (x2 : Int32) (v_spare : (Nat → Int32)) (k32 : Int32 × Int32 × (Nat → Int32) → Option (Int32 × (Nat → Int32) × (Nat → Int32))) : Int32 × Int32 × (Nat → Int32) → Option (Int32 × (Nat → Int32) × (Nat → Int32)) := fun s => match s with
  | (x3, x4, v_z) => if x1 ≤ x4 then if x2 = 0 then zk_ck 5 368 (zk_ck 5 368 (f_X10_would_112 ((v_z (5 : Int32).toNatClampNeg) - (v_spare (5 : Int32).toNatClampNeg)) v_z v_spare)) else if x2 = 1 then zk_ck 6 368 (zk_ck 6 368 (f_X10_would_112 ((v_z (6 : Int32).toNatClampNeg) - (v_spare (6 : Int32).toNatClampNeg)) v_z v_spare)) else f_X10_would_112 x3 v_z v_spare else (f_X10_tick v_z).bind fun r39 => (f_X10_inState 1 r39).bind fun r44 => if r44 ≤ x3 then f_X10_would_61 v_spare k32 x3 x4 r39 else f_X10_would_61 v_spare k32 r44 x4 r39
def f_X10_would (x1 : Int32) (x2 : Int32) (v_z : (Nat → Int32)) (v_spare : (Nat → Int32)) : Option (Int32 × (Nat → Int32) × (Nat → Int32)) := if x1 < 1 then some ((-1), v_z, v_spare) else if 600 < x1 then some ((-1), v_z, v_spare) else if x2 < 0 then some ((-1), v_z, v_spare) else if x2 ≤ 2 then (f_X10_keepAside v_z v_spare).bind fun r24 => zk_fx (F_X10_would_32 x1 x2 r24 ) zk_N (0, 0, v_z) else some ((-1), v_z, v_spare)
theorem kX10_would_inX10 : ∀ w ∈ u_ws RX10 TX10 16, w ∈ wsX10_would := by decide +kernel
theorem kX10_would_1 : Cond.fieldLink RX10 7 (TX10 0).1 (TX10 0).2.1 (TX10 0).2.2.1 ∈ wsX10_would := by decide +kernel
theorem kX10_would_2 : Cond.fieldLink RX10 29 (TX10 7).1 (TX10 7).2.1 (TX10 7).2.2.1 ∈ wsX10_would := by decide +kernel
theorem cd_X10_would : yX10_would.cls = RX10 ∧ yX10_would.cls ≠ "java/lang/invoke/MethodHandle" ∧ yX10_would.cls ≠ "java/lang/invoke/VarHandle" ∧ (parseMethodDescriptor yX10_would.desc).map (fun d => d.parameters.length) = some 2 := by decide +kernel
set_option maxRecDepth 100000 in
set_option maxHeartbeats 4000000 in
theorem c_X10_would (E : zk_Env) (l : Launch) (a : aX10) (v : VX10) (x1 : Int32) (x2 : Int32) : zk_Mc E l yX10_would wsX10_would ({ frames := 5, cells := 0, slots := 0, locals := 110 } : Room) [.ref a.1, .int x1, .int x2] (gX10 E a v) (f_X10_would x1 x2 v.1 v.2.2.2.2.2.2.2.1) (fun r => some (.int r.1)) (fun r => (gX10 E a (r.2.1, v.2.1, v.2.2.1, v.2.2.2.1, v.2.2.2.2.1, v.2.2.2.2.2.1, v.2.2.2.2.2.2.1, r.2.2, v.2.2.2.2.2.2.2.2))) := by
  obtain ⟨v_z, v_snaps, v_hasSnap, v_past, v_pastHas, v_pastMany, v_before, v_spare, v_text, v_typed, v_failure, v_hasFailed, v_isQuiet, v_from, v_end, v_numbers⟩ := v
  refine zk_M (cc := cX10_would) (nL := 6) (ret := (some .int)) (by decide) rfl (Nat.le_of_ble_eq_true rfl) (fun X Q hQ => ?_)
  have J112 : ∀ (s112_0 : Int32) (v_z : (Nat → Int32)) (v_spare : (Nat → Int32)), zk_G E l X cX10_would 6 (some .int) yX10_would.cls wsX10_would ({ frames := 5, cells := 0, slots := 0, locals := 110 } : Room) 0 0 Q (gX10 E a (v_z, v_snaps, v_hasSnap, v_past, v_pastHas, v_pastMany, v_before, v_spare, v_text, v_typed, v_failure, v_hasFailed, v_isQuiet, v_from, v_end, v_numbers)) [(0, .ref a.1)] 112 [.int s112_0] (f_X10_would_112 s112_0 v_z v_spare) := by
    intro s112_0 v_z v_spare
    unfold f_X10_would_112
    refine zk_istore [(4, .int s112_0), (0, .ref a.1)] dX10_would_112 (by decide) rfl 114 rfl ?_
    refine zk_aload_n dX10_would_114 1 rfl 115 rfl ?_
    refine zk_callV (ci := 10) (st := []) (c_X10_bringBack E l a (v_z, v_snaps, v_hasSnap, v_past, v_pastHas, v_pastMany, v_before, v_spare, v_text, v_typed, v_failure, v_hasFailed, v_isQuiet, v_from, v_end, v_numbers)) dX10_would_115 0 gX10_would_X10_bringBack rfl rfl rfl cd_X10_bringBack ⟨Nat.le_of_ble_eq_true rfl, Nat.le_of_ble_eq_true rfl⟩ ⟨Nat.zero_le _, Nat.zero_le _⟩ _ (fun r115 => (gX10 E a (r115, v_snaps, v_hasSnap, v_past, v_pastHas, v_pastMany, v_before, v_spare, v_text, v_typed, v_failure, v_hasFailed, v_isQuiet, v_from, v_end, v_numbers))) zk_pa (fun r115 => zk_qa) rfl rfl rfl rfl (Nat.le_of_ble_eq_true rfl) (fun r115 => []) (fun _ => rfl) 118 rfl (fun r115 => ?_)
    refine zk_iload dX10_would_118 0 rfl 120 rfl ?_
    exact zk_iret hQ dX10_would_120 rfl rfl
  have J61 : ∀ (v_spare : (Nat → Int32)) (k32 : Int32 × Int32 × (Nat → Int32) → Option (Int32 × (Nat → Int32) × (Nat → Int32))) (hk32 : ∀ s : Int32 × Int32 × (Nat → Int32), zk_G E l X cX10_would 6 (some .int) yX10_would.cls wsX10_would ({ frames := 5, cells := 0, slots := 0, locals := 110 } : Room) 0 0 Q (gX10 E a (s.2.2, v_snaps, v_hasSnap, v_past, v_pastHas, v_pastMany, v_before, v_spare, v_text, v_typed, v_failure, v_hasFailed, v_isQuiet, v_from, v_end, v_numbers)) [(0, .ref a.1), (1, .int x1), (2, .int x2), (3, .int s.1), (4, .int s.2.1)] 32 [] (k32 s)) (s61_0 : Int32) (x4 : Int32) (v_z : (Nat → Int32)), zk_G E l X cX10_would 6 (some .int) yX10_would.cls wsX10_would ({ frames := 5, cells := 0, slots := 0, locals := 110 } : Room) 0 0 Q (gX10 E a (v_z, v_snaps, v_hasSnap, v_past, v_pastHas, v_pastMany, v_before, v_spare, v_text, v_typed, v_failure, v_hasFailed, v_isQuiet, v_from, v_end, v_numbers)) [(0, .ref a.1), (1, .int x1), (2, .int x2), (4, .int x4)] 61 [.int s61_0] (f_X10_would_61 v_spare k32 s61_0 x4 v_z) := by
    intro v_spare k32 hk32 s61_0 x4 v_z
    unfold f_X10_would_61
    refine zk_istore_n [(3, .int s61_0), (0, .ref a.1), (1, .int x1), (2, .int x2), (4, .int x4)] dX10_would_61 (by decide) rfl 62 rfl ?_
    refine zk_iinc (x4 + 1) [(4, .int (x4 + 1)), (3, .int s61_0), (0, .ref a.1), (1, .int x1), (2, .int x2)] dX10_would_62 4 rfl rfl (by decide) rfl 65 rfl ?_
    refine zk_goto dX10_would_65 32 (by decide) ?_
    refine zk_lv [2, 3, 4, 1, 0] rfl ?_
    exact hk32 (s61_0, (x4 + 1), v_z)
  have J32 : ∀ (v_spare : (Nat → Int32)) (n : Nat) (x3 : Int32) (x4 : Int32) (v_z : (Nat → Int32)), zk_G E l X cX10_would 6 (some .int) yX10_would.cls wsX10_would ({ frames := 5, cells := 0, slots := 0, locals := 110 } : Room) 0 0 Q (gX10 E a (v_z, v_snaps, v_hasSnap, v_past, v_pastHas, v_pastMany, v_before, v_spare, v_text, v_typed, v_failure, v_hasFailed, v_isQuiet, v_from, v_end, v_numbers)) [(0, .ref a.1), (1, .int x1), (2, .int x2), (3, .int x3), (4, .int x4)] 32 [] (zk_fx (F_X10_would_32 x1 x2 v_spare ) n (x3, x4, v_z)) := by
    intro v_spare n x3 x4 v_z
    refine zk_loop (S := Int32 × Int32 × (Nat → Int32)) (F := F_X10_would_32 x1 x2 v_spare) (wS := fun s => (gX10 E a (s.2.2, v_snaps, v_hasSnap, v_past, v_pastHas, v_pastMany, v_before, v_spare, v_text, v_typed, v_failure, v_hasFailed, v_isQuiet, v_from, v_end, v_numbers))) (lS := fun s => [(0, .ref a.1), (1, .int x1), (2, .int x2), (3, .int s.1), (4, .int s.2.1)]) (sS := fun _ => []) (fun k32 hk32 s => ?_) n (x3, x4, v_z)
    obtain ⟨x3, x4, v_z⟩ := s
    unfold F_X10_would_32
    try dsimp only
    refine zk_iload dX10_would_32 4 rfl 34 rfl ?_
    refine zk_iload_n dX10_would_34 1 rfl 35 rfl ?_
    refine zk_icmp_ge dX10_would_35 68 (by decide) 38 rfl (fun _ => ?_) (fun _ => ?_)
    · refine zk_iload_n dX10_would_68 2 rfl 69 rfl ?_
      refine zk_if_ne dX10_would_69 88 (by decide) 72 rfl (fun _ => ?_) (fun _ => ?_)
      · refine zk_aload_n dX10_would_72 0 rfl 73 rfl ?_
        refine zk_get dX10_would_73 0 rfl rfl kX10_would_inX10 0 (by decide) kX10_would_1 rfl 76 rfl ?_
        refine zk_iconst 5 dX10_would_76 (by decide) 77 rfl ?_
        refine zk_iald dX10_would_77 1 rfl 78 rfl ?_
        refine zk_aload_n dX10_would_78 0 rfl 79 rfl ?_
        refine zk_get dX10_would_79 0 rfl rfl kX10_would_inX10 7 (by decide) kX10_would_2 rfl 82 rfl ?_
        refine zk_iconst 5 dX10_would_82 (by decide) 83 rfl ?_
        refine zk_iald dX10_would_83 7 rfl 84 rfl ?_
        refine zk_isub dX10_would_84 85 rfl ?_
        refine zk_goto dX10_would_85 112 (by decide) ?_
        refine zk_lv [0] rfl ?_
        exact J112   ((v_z (5 : Int32).toNatClampNeg) - (v_spare (5 : Int32).toNatClampNeg)) v_z v_spare
      · refine zk_iload_n dX10_would_88 2 rfl 89 rfl ?_
        refine zk_iconst 1 dX10_would_89 (by decide) 90 rfl ?_
        refine zk_icmp_ne dX10_would_90 111 (by decide) 93 rfl (fun _ => ?_) (fun _ => ?_)
        · refine zk_aload_n dX10_would_93 0 rfl 94 rfl ?_
          refine zk_get dX10_would_94 0 rfl rfl kX10_would_inX10 0 (by decide) kX10_would_1 rfl 97 rfl ?_
          refine zk_bipush 6 dX10_would_97 (by decide) 99 rfl ?_
          refine zk_iald dX10_would_99 1 rfl 100 rfl ?_
          refine zk_aload_n dX10_would_100 0 rfl 101 rfl ?_
          refine zk_get dX10_would_101 0 rfl rfl kX10_would_inX10 7 (by decide) kX10_would_2 rfl 104 rfl ?_
          refine zk_bipush 6 dX10_would_104 (by decide) 106 rfl ?_
          refine zk_iald dX10_would_106 7 rfl 107 rfl ?_
          refine zk_isub dX10_would_107 108 rfl ?_
          refine zk_goto dX10_would_108 112 (by decide) ?_
          refine zk_lv [0] rfl ?_
          exact J112   ((v_z (6 : Int32).toNatClampNeg) - (v_spare (6 : Int32).toNatClampNeg)) v_z v_spare
        · refine zk_iload_n dX10_would_111 3 rfl 112 rfl ?_
          refine zk_lv [0] rfl ?_
          exact J112   x3 v_z v_spare
    · refine zk_aload_n dX10_would_38 0 rfl 39 rfl ?_
      refine zk_callV (ci := 10) (st := []) (c_X10_tick E l a (v_z, v_snaps, v_hasSnap, v_past, v_pastHas, v_pastMany, v_before, v_spare, v_text, v_typed, v_failure, v_hasFailed, v_isQuiet, v_from, v_end, v_numbers)) dX10_would_39 0 gX10_would_X10_tick rfl rfl rfl cd_X10_tick ⟨Nat.le_of_ble_eq_true rfl, Nat.le_of_ble_eq_true rfl⟩ ⟨Nat.zero_le _, Nat.zero_le _⟩ _ (fun r39 => (gX10 E a (r39, v_snaps, v_hasSnap, v_past, v_pastHas, v_pastMany, v_before, v_spare, v_text, v_typed, v_failure, v_hasFailed, v_isQuiet, v_from, v_end, v_numbers))) zk_pa (fun r39 => zk_qa) rfl rfl rfl rfl (Nat.le_of_ble_eq_true rfl) (fun r39 => []) (fun _ => rfl) 42 rfl (fun r39 => ?_)
      refine zk_aload_n dX10_would_42 0 rfl 43 rfl ?_
      refine zk_iconst 1 dX10_would_43 (by decide) 44 rfl ?_
      refine zk_callV (ci := 10) (st := []) (c_X10_inState E l a (r39, v_snaps, v_hasSnap, v_past, v_pastHas, v_pastMany, v_before, v_spare, v_text, v_typed, v_failure, v_hasFailed, v_isQuiet, v_from, v_end, v_numbers) 1) dX10_would_44 1 gX10_would_X10_inState rfl rfl rfl cd_X10_inState ⟨Nat.le_of_ble_eq_true rfl, Nat.le_of_ble_eq_true rfl⟩ ⟨Nat.zero_le _, Nat.zero_le _⟩ _ (fun r44 => (gX10 E a (r39, v_snaps, v_hasSnap, v_past, v_pastHas, v_pastMany, v_before, v_spare, v_text, v_typed, v_failure, v_hasFailed, v_isQuiet, v_from, v_end, v_numbers))) zk_pa (fun r44 => zk_qa) rfl rfl rfl rfl (Nat.le_of_ble_eq_true rfl) (fun r44 => [.int r44]) (fun _ => rfl) 47 rfl (fun r44 => ?_)
      refine zk_istore [(5, .int r44), (0, .ref a.1), (1, .int x1), (2, .int x2), (3, .int x3), (4, .int x4)] dX10_would_47 (by decide) rfl 49 rfl ?_
      refine zk_iload dX10_would_49 0 rfl 51 rfl ?_
      refine zk_iload_n dX10_would_51 4 rfl 52 rfl ?_
      refine zk_icmp_le dX10_would_52 60 (by decide) 55 rfl (fun _ => ?_) (fun _ => ?_)
      · refine zk_iload_n dX10_would_60 4 rfl 61 rfl ?_
        refine zk_lv [1, 2, 3, 5] rfl ?_
        exact J61 v_spare k32 hk32 x3 x4 r39
      · refine zk_iload dX10_would_55 0 rfl 57 rfl ?_
        refine zk_goto dX10_would_57 61 (by decide) ?_
        refine zk_lv [1, 2, 3, 5] rfl ?_
        exact J61 v_spare k32 hk32 r44 x4 r39
  refine zk_eqv (w1 := (gX10 E a (v_z, v_snaps, v_hasSnap, v_past, v_pastHas, v_pastMany, v_before, v_spare, v_text, v_typed, v_failure, v_hasFailed, v_isQuiet, v_from, v_end, v_numbers))) (lv1 := [(0, .ref a.1), (1, .int x1), (2, .int x2)]) (st1 := []) (o1 := f_X10_would x1 x2 v_z v_spare) rfl rfl rfl rfl ?_
  unfold f_X10_would
  refine zk_iload_n dX10_would_0 1 rfl 1 rfl ?_
  refine zk_iconst 1 dX10_would_1 (by decide) 2 rfl ?_
  refine zk_icmp_lt dX10_would_2 21 (by decide) 5 rfl (fun _ => ?_) (fun _ => ?_)
  · refine zk_iconst (-1) dX10_would_21 (by decide) 22 rfl ?_
    exact zk_iret hQ dX10_would_22 rfl rfl
  · refine zk_iload_n dX10_would_5 1 rfl 6 rfl ?_
    refine zk_sipush 600 dX10_would_6 (by decide) 9 rfl ?_
    refine zk_icmp_gt dX10_would_9 21 (by decide) 12 rfl (fun _ => ?_) (fun _ => ?_)
    · refine zk_iconst (-1) dX10_would_21 (by decide) 22 rfl ?_
      exact zk_iret hQ dX10_would_22 rfl rfl
    · refine zk_iload_n dX10_would_12 2 rfl 13 rfl ?_
      refine zk_if_lt dX10_would_13 21 (by decide) 16 rfl (fun _ => ?_) (fun _ => ?_)
      · refine zk_iconst (-1) dX10_would_21 (by decide) 22 rfl ?_
        exact zk_iret hQ dX10_would_22 rfl rfl
      · refine zk_iload_n dX10_would_16 2 rfl 17 rfl ?_
        refine zk_iconst 2 dX10_would_17 (by decide) 18 rfl ?_
        refine zk_icmp_le dX10_would_18 23 (by decide) 21 rfl (fun _ => ?_) (fun _ => ?_)
        · refine zk_aload_n dX10_would_23 0 rfl 24 rfl ?_
          refine zk_callV (ci := 10) (st := []) (c_X10_keepAside E l a (v_z, v_snaps, v_hasSnap, v_past, v_pastHas, v_pastMany, v_before, v_spare, v_text, v_typed, v_failure, v_hasFailed, v_isQuiet, v_from, v_end, v_numbers)) dX10_would_24 0 gX10_would_X10_keepAside rfl rfl rfl cd_X10_keepAside ⟨Nat.le_of_ble_eq_true rfl, Nat.le_of_ble_eq_true rfl⟩ ⟨Nat.zero_le _, Nat.zero_le _⟩ _ (fun r24 => (gX10 E a (v_z, v_snaps, v_hasSnap, v_past, v_pastHas, v_pastMany, v_before, r24, v_text, v_typed, v_failure, v_hasFailed, v_isQuiet, v_from, v_end, v_numbers))) zk_pa (fun r24 => zk_qa) rfl rfl rfl rfl (Nat.le_of_ble_eq_true rfl) (fun r24 => []) (fun _ => rfl) 27 rfl (fun r24 => ?_)
          refine zk_iconst 0 dX10_would_27 (by decide) 28 rfl ?_
          refine zk_istore_n [(3, .int 0), (0, .ref a.1), (1, .int x1), (2, .int x2)] dX10_would_28 (by decide) rfl 29 rfl ?_
          refine zk_iconst 0 dX10_would_29 (by decide) 30 rfl ?_
          refine zk_istore [(4, .int 0), (3, .int 0), (0, .ref a.1), (1, .int x1), (2, .int x2)] dX10_would_30 (by decide) rfl 32 rfl ?_
          refine zk_lv [2, 3, 4, 1, 0] rfl ?_
          exact J32   r24 zk_N 0 0 v_z
        · refine zk_iconst (-1) dX10_would_21 (by decide) 22 rfl ?_
          exact zk_iret hQ dX10_would_22 rfl rfl
def f_X10_isNeverLate_67 (s67_0 : Int32) (v_z : (Nat → Int32)) (v_spare : (Nat → Int32)) : Option (Int32 × (Nat → Int32) × (Nat → Int32)) := (f_X10_bringBack v_z v_spare).bind fun r69 => zk_bz s67_0 (some (s67_0, r69, v_spare))
def f_X10_isNeverLate_45 (v_z : (Nat → Int32)) (v_spare : (Nat → Int32)) : Option (Int32 × (Nat → Int32) × (Nat → Int32)) := zk_ck 6 368 (zk_ck 6 368 (if (v_z (6 : Int32).toNatClampNeg) = (v_spare (6 : Int32).toNatClampNeg) then f_X10_isNeverLate_67 1 v_z v_spare else f_X10_isNeverLate_67 0 v_z v_spare))
def F_X10_isNeverLate_13 (x2 : Int32) (v_spare : (Nat → Int32)) (k13 : Int32 × (Nat → Int32) → Option (Int32 × (Nat → Int32) × (Nat → Int32))) : Int32 × (Nat → Int32) → Option (Int32 × (Nat → Int32) × (Nat → Int32)) := fun s => match s with
  | (x3, v_z) => if x2 ≤ x3 then f_X10_isNeverLate_45 v_z v_spare else zk_ck 6 368 (zk_ck 6 368 (if (v_z (6 : Int32).toNatClampNeg) = (v_spare (6 : Int32).toNatClampNeg) then (f_X10_tick v_z).bind fun r36 => k13 ((x3 + 1), r36) else f_X10_isNeverLate_45 v_z v_spare))
def f_X10_isNeverLate (x1 : Int32) (x2 : Int32) (v_z : (Nat → Int32)) (v_spare : (Nat → Int32)) : Option (Int32 × (Nat → Int32) × (Nat → Int32)) := (f_X10_keepAside v_z v_spare).bind fun r1 => zk_ck 2 368 (zk_let (upd v_z (2 : Int32).toNatClampNeg x1) fun v_z_1 => zk_fx (F_X10_isNeverLate_13 x2 r1 ) zk_N (0, v_z_1))
theorem kX10_isNeverLate_inX10 : ∀ w ∈ u_ws RX10 TX10 16, w ∈ wsX10_isNeverLate := by decide +kernel
theorem kX10_isNeverLate_1 : Cond.fieldLink RX10 7 (TX10 0).1 (TX10 0).2.1 (TX10 0).2.2.1 ∈ wsX10_isNeverLate := by decide +kernel
theorem kX10_isNeverLate_2 : Cond.fieldLink RX10 29 (TX10 7).1 (TX10 7).2.1 (TX10 7).2.2.1 ∈ wsX10_isNeverLate := by decide +kernel
theorem cd_X10_isNeverLate : yX10_isNeverLate.cls = RX10 ∧ yX10_isNeverLate.cls ≠ "java/lang/invoke/MethodHandle" ∧ yX10_isNeverLate.cls ≠ "java/lang/invoke/VarHandle" ∧ (parseMethodDescriptor yX10_isNeverLate.desc).map (fun d => d.parameters.length) = some 2 := by decide +kernel
set_option maxRecDepth 100000 in
set_option maxHeartbeats 4000000 in
theorem c_X10_isNeverLate (E : zk_Env) (l : Launch) (a : aX10) (v : VX10) (x1 : Int32) (x2 : Int32) : zk_Mc E l yX10_isNeverLate wsX10_isNeverLate ({ frames := 5, cells := 0, slots := 0, locals := 110 } : Room) [.ref a.1, .int x1, .int x2] (gX10 E a v) (f_X10_isNeverLate x1 x2 v.1 v.2.2.2.2.2.2.2.1) (fun r => some (.int r.1)) (fun r => (gX10 E a (r.2.1, v.2.1, v.2.2.1, v.2.2.2.1, v.2.2.2.2.1, v.2.2.2.2.2.1, v.2.2.2.2.2.2.1, r.2.2, v.2.2.2.2.2.2.2.2))) := by
  obtain ⟨v_z, v_snaps, v_hasSnap, v_past, v_pastHas, v_pastMany, v_before, v_spare, v_text, v_typed, v_failure, v_hasFailed, v_isQuiet, v_from, v_end, v_numbers⟩ := v
  refine zk_M (cc := cX10_isNeverLate) (nL := 4) (ret := (some .boolean)) (by decide) rfl (Nat.le_of_ble_eq_true rfl) (fun X Q hQ => ?_)
  have J67 : ∀ (s67_0 : Int32) (v_z : (Nat → Int32)) (v_spare : (Nat → Int32)), zk_G E l X cX10_isNeverLate 4 (some .boolean) yX10_isNeverLate.cls wsX10_isNeverLate ({ frames := 5, cells := 0, slots := 0, locals := 110 } : Room) 0 0 Q (gX10 E a (v_z, v_snaps, v_hasSnap, v_past, v_pastHas, v_pastMany, v_before, v_spare, v_text, v_typed, v_failure, v_hasFailed, v_isQuiet, v_from, v_end, v_numbers)) [(0, .ref a.1)] 67 [.int s67_0] (f_X10_isNeverLate_67 s67_0 v_z v_spare) := by
    intro s67_0 v_z v_spare
    unfold f_X10_isNeverLate_67
    refine zk_istore_n [(3, .int s67_0), (0, .ref a.1)] dX10_isNeverLate_67 (by decide) rfl 68 rfl ?_
    refine zk_aload_n dX10_isNeverLate_68 1 rfl 69 rfl ?_
    refine zk_callV (ci := 10) (st := []) (c_X10_bringBack E l a (v_z, v_snaps, v_hasSnap, v_past, v_pastHas, v_pastMany, v_before, v_spare, v_text, v_typed, v_failure, v_hasFailed, v_isQuiet, v_from, v_end, v_numbers)) dX10_isNeverLate_69 0 gX10_isNeverLate_X10_bringBack rfl rfl rfl cd_X10_bringBack ⟨Nat.le_of_ble_eq_true rfl, Nat.le_of_ble_eq_true rfl⟩ ⟨Nat.zero_le _, Nat.zero_le _⟩ _ (fun r69 => (gX10 E a (r69, v_snaps, v_hasSnap, v_past, v_pastHas, v_pastMany, v_before, v_spare, v_text, v_typed, v_failure, v_hasFailed, v_isQuiet, v_from, v_end, v_numbers))) zk_pa (fun r69 => zk_qa) rfl rfl rfl rfl (Nat.le_of_ble_eq_true rfl) (fun r69 => []) (fun _ => rfl) 72 rfl (fun r69 => ?_)
    refine zk_iload_n dX10_isNeverLate_72 0 rfl 73 rfl ?_
    exact zk_zret hQ dX10_isNeverLate_73 rfl rfl
  have J45 : ∀ (v_z : (Nat → Int32)) (v_spare : (Nat → Int32)), zk_G E l X cX10_isNeverLate 4 (some .boolean) yX10_isNeverLate.cls wsX10_isNeverLate ({ frames := 5, cells := 0, slots := 0, locals := 110 } : Room) 0 0 Q (gX10 E a (v_z, v_snaps, v_hasSnap, v_past, v_pastHas, v_pastMany, v_before, v_spare, v_text, v_typed, v_failure, v_hasFailed, v_isQuiet, v_from, v_end, v_numbers)) [(0, .ref a.1)] 45 [] (f_X10_isNeverLate_45 v_z v_spare) := by
    intro v_z v_spare
    unfold f_X10_isNeverLate_45
    refine zk_aload_n dX10_isNeverLate_45 0 rfl 46 rfl ?_
    refine zk_get dX10_isNeverLate_46 0 rfl rfl kX10_isNeverLate_inX10 0 (by decide) kX10_isNeverLate_1 rfl 49 rfl ?_
    refine zk_bipush 6 dX10_isNeverLate_49 (by decide) 51 rfl ?_
    refine zk_iald dX10_isNeverLate_51 1 rfl 52 rfl ?_
    refine zk_aload_n dX10_isNeverLate_52 0 rfl 53 rfl ?_
    refine zk_get dX10_isNeverLate_53 0 rfl rfl kX10_isNeverLate_inX10 7 (by decide) kX10_isNeverLate_2 rfl 56 rfl ?_
    refine zk_bipush 6 dX10_isNeverLate_56 (by decide) 58 rfl ?_
    refine zk_iald dX10_isNeverLate_58 7 rfl 59 rfl ?_
    refine zk_icmp_ne dX10_isNeverLate_59 66 (by decide) 62 rfl (fun _ => ?_) (fun _ => ?_)
    · refine zk_iconst 1 dX10_isNeverLate_62 (by decide) 63 rfl ?_
      refine zk_goto dX10_isNeverLate_63 67 (by decide) ?_
      exact J67   1 v_z v_spare
    · refine zk_iconst 0 dX10_isNeverLate_66 (by decide) 67 rfl ?_
      exact J67   0 v_z v_spare
  have J13 : ∀ (v_spare : (Nat → Int32)) (n : Nat) (x3 : Int32) (v_z : (Nat → Int32)), zk_G E l X cX10_isNeverLate 4 (some .boolean) yX10_isNeverLate.cls wsX10_isNeverLate ({ frames := 5, cells := 0, slots := 0, locals := 110 } : Room) 0 0 Q (gX10 E a (v_z, v_snaps, v_hasSnap, v_past, v_pastHas, v_pastMany, v_before, v_spare, v_text, v_typed, v_failure, v_hasFailed, v_isQuiet, v_from, v_end, v_numbers)) [(0, .ref a.1), (2, .int x2), (3, .int x3)] 13 [] (zk_fx (F_X10_isNeverLate_13 x2 v_spare ) n (x3, v_z)) := by
    intro v_spare n x3 v_z
    refine zk_loop (S := Int32 × (Nat → Int32)) (F := F_X10_isNeverLate_13 x2 v_spare) (wS := fun s => (gX10 E a (s.2, v_snaps, v_hasSnap, v_past, v_pastHas, v_pastMany, v_before, v_spare, v_text, v_typed, v_failure, v_hasFailed, v_isQuiet, v_from, v_end, v_numbers))) (lS := fun s => [(0, .ref a.1), (2, .int x2), (3, .int s.1)]) (sS := fun _ => []) (fun k13 hk13 s => ?_) n (x3, v_z)
    obtain ⟨x3, v_z⟩ := s
    unfold F_X10_isNeverLate_13
    try dsimp only
    refine zk_iload_n dX10_isNeverLate_13 2 rfl 14 rfl ?_
    refine zk_iload_n dX10_isNeverLate_14 1 rfl 15 rfl ?_
    refine zk_icmp_ge dX10_isNeverLate_15 45 (by decide) 18 rfl (fun _ => ?_) (fun _ => ?_)
    · refine zk_lv [0] rfl ?_
      exact J45   v_z v_spare
    · refine zk_aload_n dX10_isNeverLate_18 0 rfl 19 rfl ?_
      refine zk_get dX10_isNeverLate_19 0 rfl rfl kX10_isNeverLate_inX10 0 (by decide) kX10_isNeverLate_1 rfl 22 rfl ?_
      refine zk_bipush 6 dX10_isNeverLate_22 (by decide) 24 rfl ?_
      refine zk_iald dX10_isNeverLate_24 1 rfl 25 rfl ?_
      refine zk_aload_n dX10_isNeverLate_25 0 rfl 26 rfl ?_
      refine zk_get dX10_isNeverLate_26 0 rfl rfl kX10_isNeverLate_inX10 7 (by decide) kX10_isNeverLate_2 rfl 29 rfl ?_
      refine zk_bipush 6 dX10_isNeverLate_29 (by decide) 31 rfl ?_
      refine zk_iald dX10_isNeverLate_31 7 rfl 32 rfl ?_
      refine zk_icmp_ne dX10_isNeverLate_32 45 (by decide) 35 rfl (fun _ => ?_) (fun _ => ?_)
      · refine zk_aload_n dX10_isNeverLate_35 0 rfl 36 rfl ?_
        refine zk_callV (ci := 10) (st := []) (c_X10_tick E l a (v_z, v_snaps, v_hasSnap, v_past, v_pastHas, v_pastMany, v_before, v_spare, v_text, v_typed, v_failure, v_hasFailed, v_isQuiet, v_from, v_end, v_numbers)) dX10_isNeverLate_36 0 gX10_isNeverLate_X10_tick rfl rfl rfl cd_X10_tick ⟨Nat.le_of_ble_eq_true rfl, Nat.le_of_ble_eq_true rfl⟩ ⟨Nat.zero_le _, Nat.zero_le _⟩ _ (fun r36 => (gX10 E a (r36, v_snaps, v_hasSnap, v_past, v_pastHas, v_pastMany, v_before, v_spare, v_text, v_typed, v_failure, v_hasFailed, v_isQuiet, v_from, v_end, v_numbers))) zk_pa (fun r36 => zk_qa) rfl rfl rfl rfl (Nat.le_of_ble_eq_true rfl) (fun r36 => []) (fun _ => rfl) 39 rfl (fun r36 => ?_)
        refine zk_iinc (x3 + 1) [(3, .int (x3 + 1)), (0, .ref a.1), (2, .int x2)] dX10_isNeverLate_39 2 rfl rfl (by decide) rfl 42 rfl ?_
        refine zk_goto dX10_isNeverLate_42 13 (by decide) ?_
        refine zk_lv [1, 2, 0] rfl ?_
        exact hk13 ((x3 + 1), r36)
      · refine zk_lv [0] rfl ?_
        exact J45   v_z v_spare
  refine zk_eqv (w1 := (gX10 E a (v_z, v_snaps, v_hasSnap, v_past, v_pastHas, v_pastMany, v_before, v_spare, v_text, v_typed, v_failure, v_hasFailed, v_isQuiet, v_from, v_end, v_numbers))) (lv1 := [(0, .ref a.1), (1, .int x1), (2, .int x2)]) (st1 := []) (o1 := f_X10_isNeverLate x1 x2 v_z v_spare) rfl rfl rfl rfl ?_
  unfold f_X10_isNeverLate
  refine zk_aload_n dX10_isNeverLate_0 0 rfl 1 rfl ?_
  refine zk_callV (ci := 10) (st := []) (c_X10_keepAside E l a (v_z, v_snaps, v_hasSnap, v_past, v_pastHas, v_pastMany, v_before, v_spare, v_text, v_typed, v_failure, v_hasFailed, v_isQuiet, v_from, v_end, v_numbers)) dX10_isNeverLate_1 0 gX10_isNeverLate_X10_keepAside rfl rfl rfl cd_X10_keepAside ⟨Nat.le_of_ble_eq_true rfl, Nat.le_of_ble_eq_true rfl⟩ ⟨Nat.zero_le _, Nat.zero_le _⟩ _ (fun r1 => (gX10 E a (v_z, v_snaps, v_hasSnap, v_past, v_pastHas, v_pastMany, v_before, r1, v_text, v_typed, v_failure, v_hasFailed, v_isQuiet, v_from, v_end, v_numbers))) zk_pa (fun r1 => zk_qa) rfl rfl rfl rfl (Nat.le_of_ble_eq_true rfl) (fun r1 => []) (fun _ => rfl) 4 rfl (fun r1 => ?_)
  refine zk_aload_n dX10_isNeverLate_4 0 rfl 5 rfl ?_
  refine zk_get dX10_isNeverLate_5 0 rfl rfl kX10_isNeverLate_inX10 0 (by decide) kX10_isNeverLate_1 rfl 8 rfl ?_
  refine zk_iconst 2 dX10_isNeverLate_8 (by decide) 9 rfl ?_
  refine zk_iload_n dX10_isNeverLate_9 1 rfl 10 rfl ?_
  refine zk_iast (gX10 E a ((upd v_z (2 : Int32).toNatClampNeg x1), v_snaps, v_hasSnap, v_past, v_pastHas, v_pastMany, v_before, r1, v_text, v_typed, v_failure, v_hasFailed, v_isQuiet, v_from, v_end, v_numbers)) dX10_isNeverLate_10 1 rfl rfl 11 rfl ?_
  refine zk_nmw (fun v_z_1 => (gX10 E a (v_z_1, v_snaps, v_hasSnap, v_past, v_pastHas, v_pastMany, v_before, r1, v_text, v_typed, v_failure, v_hasFailed, v_isQuiet, v_from, v_end, v_numbers))) _ rfl (fun v_z_1 => ?_)
  refine zk_iconst 0 dX10_isNeverLate_11 (by decide) 12 rfl ?_
  refine zk_istore_n [(3, .int 0), (0, .ref a.1), (1, .int x1), (2, .int x2)] dX10_isNeverLate_12 (by decide) rfl 13 rfl ?_
  refine zk_lv [1, 3, 0] rfl ?_
  exact J13   r1 zk_N 0 v_z_1
def f_X10_leastRoom_46 (k19 : Int32 × Int32 × (Nat → Int32) × (Nat → Int32) → Option (Int32 × (Nat → Int32) × (Nat → Int32))) (s46_0 : Int32) (x3 : Int32) (v_z : (Nat → Int32)) (v_spare : (Nat → Int32)) : Option (Int32 × (Nat → Int32) × (Nat → Int32)) := k19 (s46_0, (x3 + 1), v_z, v_spare)
def F_X10_leastRoom_19 (x1 : Int32) (k19 : Int32 × Int32 × (Nat → Int32) × (Nat → Int32) → Option (Int32 × (Nat → Int32) × (Nat → Int32))) : Int32 × Int32 × (Nat → Int32) × (Nat → Int32) → Option (Int32 × (Nat → Int32) × (Nat → Int32)) := fun s => match s with
  | (x2, x3, v_z, v_spare) => if 20 < x3 then some (x2, v_z, v_spare) else if x2 = (-9) then (f_X10_isNeverLate x3 x1 v_z v_spare).bind fun r34 => if r34.1 = 0 then f_X10_leastRoom_46 k19 (-9) x3 r34.2.1 r34.2.2 else f_X10_leastRoom_46 k19 x3 x3 r34.2.1 r34.2.2 else some (x2, v_z, v_spare)
def f_X10_leastRoom (x1 : Int32) (v_z : (Nat → Int32)) (v_spare : (Nat → Int32)) : Option (Int32 × (Nat → Int32) × (Nat → Int32)) := if x1 < 1 then some ((-1), v_z, v_spare) else if x1 ≤ 200 then zk_fx (F_X10_leastRoom_19 x1 ) zk_N ((-9), 1, v_z, v_spare) else some ((-1), v_z, v_spare)
theorem cd_X10_leastRoom : yX10_leastRoom.cls = RX10 ∧ yX10_leastRoom.cls ≠ "java/lang/invoke/MethodHandle" ∧ yX10_leastRoom.cls ≠ "java/lang/invoke/VarHandle" ∧ (parseMethodDescriptor yX10_leastRoom.desc).map (fun d => d.parameters.length) = some 1 := by decide +kernel
set_option maxRecDepth 100000 in
set_option maxHeartbeats 4000000 in
theorem c_X10_leastRoom (E : zk_Env) (l : Launch) (a : aX10) (v : VX10) (x1 : Int32) : zk_Mc E l yX10_leastRoom wsX10_leastRoom ({ frames := 6, cells := 0, slots := 0, locals := 133 } : Room) [.ref a.1, .int x1] (gX10 E a v) (f_X10_leastRoom x1 v.1 v.2.2.2.2.2.2.2.1) (fun r => some (.int r.1)) (fun r => (gX10 E a (r.2.1, v.2.1, v.2.2.1, v.2.2.2.1, v.2.2.2.2.1, v.2.2.2.2.2.1, v.2.2.2.2.2.2.1, r.2.2, v.2.2.2.2.2.2.2.2))) := by
  obtain ⟨v_z, v_snaps, v_hasSnap, v_past, v_pastHas, v_pastMany, v_before, v_spare, v_text, v_typed, v_failure, v_hasFailed, v_isQuiet, v_from, v_end, v_numbers⟩ := v
  refine zk_M (cc := cX10_leastRoom) (nL := 4) (ret := (some .int)) (by decide) rfl (Nat.le_of_ble_eq_true rfl) (fun X Q hQ => ?_)
  have J46 : ∀ (k19 : Int32 × Int32 × (Nat → Int32) × (Nat → Int32) → Option (Int32 × (Nat → Int32) × (Nat → Int32))) (hk19 : ∀ s : Int32 × Int32 × (Nat → Int32) × (Nat → Int32), zk_G E l X cX10_leastRoom 4 (some .int) yX10_leastRoom.cls wsX10_leastRoom ({ frames := 6, cells := 0, slots := 0, locals := 133 } : Room) 0 0 Q (gX10 E a (s.2.2.1, v_snaps, v_hasSnap, v_past, v_pastHas, v_pastMany, v_before, s.2.2.2, v_text, v_typed, v_failure, v_hasFailed, v_isQuiet, v_from, v_end, v_numbers)) [(0, .ref a.1), (1, .int x1), (2, .int s.1), (3, .int s.2.1)] 19 [] (k19 s)) (s46_0 : Int32) (x3 : Int32) (v_z : (Nat → Int32)) (v_spare : (Nat → Int32)), zk_G E l X cX10_leastRoom 4 (some .int) yX10_leastRoom.cls wsX10_leastRoom ({ frames := 6, cells := 0, slots := 0, locals := 133 } : Room) 0 0 Q (gX10 E a (v_z, v_snaps, v_hasSnap, v_past, v_pastHas, v_pastMany, v_before, v_spare, v_text, v_typed, v_failure, v_hasFailed, v_isQuiet, v_from, v_end, v_numbers)) [(0, .ref a.1), (1, .int x1), (3, .int x3)] 46 [.int s46_0] (f_X10_leastRoom_46 k19 s46_0 x3 v_z v_spare) := by
    intro k19 hk19 s46_0 x3 v_z v_spare
    unfold f_X10_leastRoom_46
    refine zk_istore_n [(2, .int s46_0), (0, .ref a.1), (1, .int x1), (3, .int x3)] dX10_leastRoom_46 (by decide) rfl 47 rfl ?_
    refine zk_iinc (x3 + 1) [(3, .int (x3 + 1)), (2, .int s46_0), (0, .ref a.1), (1, .int x1)] dX10_leastRoom_47 3 rfl rfl (by decide) rfl 50 rfl ?_
    refine zk_goto dX10_leastRoom_50 19 (by decide) ?_
    refine zk_lv [2, 3, 1, 0] rfl ?_
    exact hk19 (s46_0, (x3 + 1), v_z, v_spare)
  have J19 : ∀ (n : Nat) (x2 : Int32) (x3 : Int32) (v_z : (Nat → Int32)) (v_spare : (Nat → Int32)), zk_G E l X cX10_leastRoom 4 (some .int) yX10_leastRoom.cls wsX10_leastRoom ({ frames := 6, cells := 0, slots := 0, locals := 133 } : Room) 0 0 Q (gX10 E a (v_z, v_snaps, v_hasSnap, v_past, v_pastHas, v_pastMany, v_before, v_spare, v_text, v_typed, v_failure, v_hasFailed, v_isQuiet, v_from, v_end, v_numbers)) [(0, .ref a.1), (1, .int x1), (2, .int x2), (3, .int x3)] 19 [] (zk_fx (F_X10_leastRoom_19 x1 ) n (x2, x3, v_z, v_spare)) := by
    intro n x2 x3 v_z v_spare
    refine zk_loop (S := Int32 × Int32 × (Nat → Int32) × (Nat → Int32)) (F := F_X10_leastRoom_19 x1) (wS := fun s => (gX10 E a (s.2.2.1, v_snaps, v_hasSnap, v_past, v_pastHas, v_pastMany, v_before, s.2.2.2, v_text, v_typed, v_failure, v_hasFailed, v_isQuiet, v_from, v_end, v_numbers))) (lS := fun s => [(0, .ref a.1), (1, .int x1), (2, .int s.1), (3, .int s.2.1)]) (sS := fun _ => []) (fun k19 hk19 s => ?_) n (x2, x3, v_z, v_spare)
    obtain ⟨x2, x3, v_z, v_spare⟩ := s
    unfold F_X10_leastRoom_19
    try dsimp only
    refine zk_iload_n dX10_leastRoom_19 3 rfl 20 rfl ?_
    refine zk_bipush 20 dX10_leastRoom_20 (by decide) 22 rfl ?_
    refine zk_icmp_gt dX10_leastRoom_22 53 (by decide) 25 rfl (fun _ => ?_) (fun _ => ?_)
    · refine zk_iload_n dX10_leastRoom_53 2 rfl 54 rfl ?_
      exact zk_iret hQ dX10_leastRoom_54 rfl rfl
    · refine zk_iload_n dX10_leastRoom_25 2 rfl 26 rfl ?_
      refine zk_bipush (-9) dX10_leastRoom_26 (by decide) 28 rfl ?_
      refine zk_icmp_ne dX10_leastRoom_28 53 (by decide) 31 rfl (fun _ => ?_) (fun _ => ?_)
      · refine zk_aload_n dX10_leastRoom_31 0 rfl 32 rfl ?_
        refine zk_iload_n dX10_leastRoom_32 3 rfl 33 rfl ?_
        refine zk_iload_n dX10_leastRoom_33 1 rfl 34 rfl ?_
        refine zk_callV (ci := 10) (st := []) (c_X10_isNeverLate E l a (v_z, v_snaps, v_hasSnap, v_past, v_pastHas, v_pastMany, v_before, v_spare, v_text, v_typed, v_failure, v_hasFailed, v_isQuiet, v_from, v_end, v_numbers) x3 x1) dX10_leastRoom_34 2 gX10_leastRoom_X10_isNeverLate rfl rfl rfl cd_X10_isNeverLate ⟨Nat.le_of_ble_eq_true rfl, Nat.le_of_ble_eq_true rfl⟩ ⟨Nat.zero_le _, Nat.zero_le _⟩ _ (fun r34 => (gX10 E a (r34.2.1, v_snaps, v_hasSnap, v_past, v_pastHas, v_pastMany, v_before, r34.2.2, v_text, v_typed, v_failure, v_hasFailed, v_isQuiet, v_from, v_end, v_numbers))) zk_pa (fun r34 => zk_qa) rfl rfl rfl rfl (Nat.le_of_ble_eq_true rfl) (fun r34 => [.int r34.1]) (fun _ => rfl) 37 rfl (fun r34 => ?_)
        refine zk_if_eq dX10_leastRoom_37 44 (by decide) 40 rfl (fun _ => ?_) (fun _ => ?_)
        · refine zk_bipush (-9) dX10_leastRoom_44 (by decide) 46 rfl ?_
          refine zk_lv [0, 1, 3] rfl ?_
          exact J46  k19 hk19 (-9) x3 r34.2.1 r34.2.2
        · refine zk_iload_n dX10_leastRoom_40 3 rfl 41 rfl ?_
          refine zk_goto dX10_leastRoom_41 46 (by decide) ?_
          refine zk_lv [0, 1, 3] rfl ?_
          exact J46  k19 hk19 x3 x3 r34.2.1 r34.2.2
      · refine zk_iload_n dX10_leastRoom_53 2 rfl 54 rfl ?_
        exact zk_iret hQ dX10_leastRoom_54 rfl rfl
  refine zk_eqv (w1 := (gX10 E a (v_z, v_snaps, v_hasSnap, v_past, v_pastHas, v_pastMany, v_before, v_spare, v_text, v_typed, v_failure, v_hasFailed, v_isQuiet, v_from, v_end, v_numbers))) (lv1 := [(0, .ref a.1), (1, .int x1)]) (st1 := []) (o1 := f_X10_leastRoom x1 v_z v_spare) rfl rfl rfl rfl ?_
  unfold f_X10_leastRoom
  refine zk_iload_n dX10_leastRoom_0 1 rfl 1 rfl ?_
  refine zk_iconst 1 dX10_leastRoom_1 (by decide) 2 rfl ?_
  refine zk_icmp_lt dX10_leastRoom_2 12 (by decide) 5 rfl (fun _ => ?_) (fun _ => ?_)
  · refine zk_iconst (-1) dX10_leastRoom_12 (by decide) 13 rfl ?_
    exact zk_iret hQ dX10_leastRoom_13 rfl rfl
  · refine zk_iload_n dX10_leastRoom_5 1 rfl 6 rfl ?_
    refine zk_sipush 200 dX10_leastRoom_6 (by decide) 9 rfl ?_
    refine zk_icmp_le dX10_leastRoom_9 14 (by decide) 12 rfl (fun _ => ?_) (fun _ => ?_)
    · refine zk_bipush (-9) dX10_leastRoom_14 (by decide) 16 rfl ?_
      refine zk_istore_n [(2, .int (-9)), (0, .ref a.1), (1, .int x1)] dX10_leastRoom_16 (by decide) rfl 17 rfl ?_
      refine zk_iconst 1 dX10_leastRoom_17 (by decide) 18 rfl ?_
      refine zk_istore_n [(3, .int 1), (2, .int (-9)), (0, .ref a.1), (1, .int x1)] dX10_leastRoom_18 (by decide) rfl 19 rfl ?_
      refine zk_lv [2, 3, 1, 0] rfl ?_
      exact J19    zk_N (-9) 1 v_z v_spare
    · refine zk_iconst (-1) dX10_leastRoom_12 (by decide) 13 rfl ?_
      exact zk_iret hQ dX10_leastRoom_13 rfl rfl
