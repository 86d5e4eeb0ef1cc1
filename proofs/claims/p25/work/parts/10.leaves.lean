def f_J9_floorMod_7cf53 (x0 : Int32) (x1 : Int32) : Option (Int32) := zk_dv x1 (zk_let (zk_rem x0 x1) fun x2_1 => if 0 ≤ (x0 ^^^ x1) then some x2_1 else if x2_1 = 0 then some x2_1 else some (x2_1 + x1))
theorem cd_J9_floorMod_7cf53 : yJ9_floorMod_7cf53.cls ≠ "java/lang/invoke/MethodHandle" ∧ yJ9_floorMod_7cf53.cls ≠ "java/lang/invoke/VarHandle" ∧ (parseMethodDescriptor yJ9_floorMod_7cf53.desc).map (fun d => d.parameters.length) = some 2 := by decide +kernel
set_option maxRecDepth 100000 in
set_option maxHeartbeats 4000000 in
theorem c_J9_floorMod_7cf53 (E : zk_Env) (l : Launch) (x0 : Int32) (x1 : Int32) : zk_Mc E l yJ9_floorMod_7cf53 wsJ9_floorMod_7cf53 ({ frames := 0, cells := 0, slots := 0, locals := 0 } : Room) [.int x0, .int x1] [] (f_J9_floorMod_7cf53 x0 x1) (fun r => some (.int r)) (fun r => []) := by
  refine zk_MF (cc := cJ9_floorMod_7cf53) (nL := 3) (ret := (some .int)) (by decide +kernel) rfl (Nat.le_of_ble_eq_true rfl) (fun X Q hQ => ?_)
  refine zk_eqv (w1 := []) (lv1 := [(0, .int x0), (1, .int x1)]) (st1 := []) (o1 := f_J9_floorMod_7cf53 x0 x1) rfl rfl rfl rfl ?_
  unfold f_J9_floorMod_7cf53
  refine zk_iload_n dJ9_floorMod_7cf53_0 0 rfl 1 rfl ?_
  refine zk_iload_n dJ9_floorMod_7cf53_1 1 rfl 2 rfl ?_
  refine zk_irem dJ9_floorMod_7cf53_2 3 rfl ?_
  refine zk_nm (fun x2_1 => ?_)
  refine zk_istore_n [(2, .int x2_1), (0, .int x0), (1, .int x1)] dJ9_floorMod_7cf53_3 (by decide) rfl 4 rfl ?_
  refine zk_iload_n dJ9_floorMod_7cf53_4 1 rfl 5 rfl ?_
  refine zk_iload_n dJ9_floorMod_7cf53_5 2 rfl 6 rfl ?_
  refine zk_ixor dJ9_floorMod_7cf53_6 7 rfl ?_
  refine zk_if_ge dJ9_floorMod_7cf53_7 18 (by decide) 10 rfl (fun _ => ?_) (fun _ => ?_)
  · refine zk_iload_n dJ9_floorMod_7cf53_18 0 rfl 19 rfl ?_
    exact zk_iret hQ dJ9_floorMod_7cf53_19 rfl rfl
  · refine zk_iload_n dJ9_floorMod_7cf53_10 0 rfl 11 rfl ?_
    refine zk_if_eq dJ9_floorMod_7cf53_11 18 (by decide) 14 rfl (fun _ => ?_) (fun _ => ?_)
    · refine zk_iload_n dJ9_floorMod_7cf53_18 0 rfl 19 rfl ?_
      exact zk_iret hQ dJ9_floorMod_7cf53_19 rfl rfl
    · refine zk_iload_n dJ9_floorMod_7cf53_14 0 rfl 15 rfl ?_
      refine zk_iload_n dJ9_floorMod_7cf53_15 2 rfl 16 rfl ?_
      refine zk_iadd dJ9_floorMod_7cf53_16 17 rfl ?_
      exact zk_iret hQ dJ9_floorMod_7cf53_17 rfl rfl
def f_X0_copyFrom (v_facts : (Nat → Int32)) (u_facts : (Nat → Int32)) (u_calls : Int32) : Option ((Nat → Int32) × Int32) := zk_let (va_cpy u_facts v_facts 0 0 36) fun v_facts_1 => some (v_facts_1, u_calls)
theorem kX0_copyFrom_inX0 : ∀ w ∈ u_ws RX0 TX0 2, w ∈ wsX0_copyFrom := by decide +kernel
theorem kX0_copyFrom_1 : Cond.fieldLink RX0 11 (TX0 0).1 (TX0 0).2.1 (TX0 0).2.2.1 ∈ wsX0_copyFrom := by decide +kernel
theorem kX0_copyFrom_2 : Cond.methodLink RX0 15 arraycopyName ∈ wsX0_copyFrom := by decide +kernel
theorem kX0_copyFrom_3 : Cond.native arraycopyName ∈ wsX0_copyFrom := by decide +kernel
theorem kX0_copyFrom_4 : Cond.static arraycopyName ∈ wsX0_copyFrom := by decide +kernel
theorem kX0_copyFrom_5 : Cond.initialized "java/lang/System" ∈ wsX0_copyFrom := by decide +kernel
theorem kX0_copyFrom_6 : Cond.fieldLink RX0 21 (TX0 1).1 (TX0 1).2.1 (TX0 1).2.2.1 ∈ wsX0_copyFrom := by decide +kernel
theorem cd_X0_copyFrom : yX0_copyFrom.cls = RX0 ∧ yX0_copyFrom.cls ≠ "java/lang/invoke/MethodHandle" ∧ yX0_copyFrom.cls ≠ "java/lang/invoke/VarHandle" ∧ (parseMethodDescriptor yX0_copyFrom.desc).map (fun d => d.parameters.length) = some 1 := by decide +kernel
set_option maxRecDepth 100000 in
set_option maxHeartbeats 4000000 in
theorem c_X0_copyFrom (E : zk_Env) (l : Launch) (a : aX0) (v : VX0) (b1 : aX0) (u1 : VX0)  : zk_Mc E l yX0_copyFrom wsX0_copyFrom ({ frames := 1, cells := 0, slots := 0, locals := 18 } : Room) [.ref a.1, .ref b1.1] (zk_j [gX0 E a v, gX0 E b1 u1]) (f_X0_copyFrom v.1 u1.1 u1.2) (fun _ => none) (fun r => (zk_j [gX0 E a r, gX0 E b1 u1])) := by
  obtain ⟨v_facts, v_calls⟩ := v
  obtain ⟨u_facts, u_calls⟩ := u1
  refine zk_M (cc := cX0_copyFrom) (nL := 2) (ret := none) (by decide) rfl (Nat.le_of_ble_eq_true rfl) (fun X Q hQ => ?_)
  refine zk_eqv (w1 := (zk_j [gX0 E a (v_facts, v_calls), gX0 E b1 (u_facts, u_calls)])) (lv1 := [(0, .ref a.1), (1, .ref b1.1)]) (st1 := []) (o1 := f_X0_copyFrom v_facts u_facts u_calls) rfl rfl rfl rfl ?_
  unfold f_X0_copyFrom
  refine zk_aload_n dX0_copyFrom_0 1 rfl 1 rfl ?_
  refine zk_get dX0_copyFrom_1 2 rfl rfl kX0_copyFrom_inX0 0 (by decide) kX0_copyFrom_1 rfl 4 rfl ?_
  refine zk_iconst 0 dX0_copyFrom_4 (by decide) 5 rfl ?_
  refine zk_aload_n dX0_copyFrom_5 0 rfl 6 rfl ?_
  refine zk_get dX0_copyFrom_6 0 rfl rfl kX0_copyFrom_inX0 0 (by decide) kX0_copyFrom_1 rfl 9 rfl ?_
  refine zk_iconst 0 dX0_copyFrom_9 (by decide) 10 rfl ?_
  refine zk_bipush 36 dX0_copyFrom_10 (by decide) 12 rfl ?_
  refine zk_acopy 36 (zk_j [gX0 E a ((va_cpy u_facts v_facts 0 0 36), v_calls), gX0 E b1 (u_facts, u_calls)]) dX0_copyFrom_12 kX0_copyFrom_2 kX0_copyFrom_3 kX0_copyFrom_4 kX0_copyFrom_5 3 1 rfl rfl rfl rfl rfl (Nat.le_of_ble_eq_true rfl) (Nat.le_of_ble_eq_true rfl) (Nat.le_of_ble_eq_true rfl) (Nat.le_of_ble_eq_true rfl) (Nat.le_of_ble_eq_true rfl) rfl 15 rfl ?_
  refine zk_nmw (fun v_facts_1 => (zk_j [gX0 E a (v_facts_1, v_calls), gX0 E b1 (u_facts, u_calls)])) _ rfl (fun v_facts_1 => ?_)
  refine zk_aload_n dX0_copyFrom_15 0 rfl 16 rfl ?_
  refine zk_aload_n dX0_copyFrom_16 1 rfl 17 rfl ?_
  refine zk_get dX0_copyFrom_17 2 rfl rfl kX0_copyFrom_inX0 1 (by decide) kX0_copyFrom_6 rfl 20 rfl ?_
  refine zk_put_ tyX0 (zk_j [gX0 E a (v_facts_1, u_calls), gX0 E b1 (u_facts, u_calls)]) dX0_copyFrom_20 0 rfl rfl kX0_copyFrom_inX0 tyX0_ok nmX0 1 (by decide) kX0_copyFrom_6 rfl (tyX0_ok 1 (by decide)) rfl rfl (Nat.le_of_ble_eq_true rfl) rfl 23 rfl ?_
  exact zk_vret hQ dX0_copyFrom_23 rfl rfl
def f_X0_calls (v_calls : Int32) : Option (Int32) := some v_calls
theorem kX0_calls_inX0 : ∀ w ∈ u_ws RX0 TX0 2, w ∈ wsX0_calls := by decide +kernel
theorem kX0_calls_1 : Cond.fieldLink RX0 21 (TX0 1).1 (TX0 1).2.1 (TX0 1).2.2.1 ∈ wsX0_calls := by decide +kernel
theorem cd_X0_calls : yX0_calls.cls = RX0 ∧ yX0_calls.cls ≠ "java/lang/invoke/MethodHandle" ∧ yX0_calls.cls ≠ "java/lang/invoke/VarHandle" ∧ (parseMethodDescriptor yX0_calls.desc).map (fun d => d.parameters.length) = some 0 := by decide +kernel
set_option maxRecDepth 100000 in
set_option maxHeartbeats 4000000 in
theorem c_X0_calls (E : zk_Env) (l : Launch) (a : aX0) (v : VX0)  : zk_Mc E l yX0_calls wsX0_calls ({ frames := 0, cells := 0, slots := 0, locals := 0 } : Room) [.ref a.1] (gX0 E a v) (f_X0_calls v.2) (fun r => some (.int r)) (fun r => (gX0 E a v)) := by
  obtain ⟨v_facts, v_calls⟩ := v
  refine zk_M (cc := cX0_calls) (nL := 1) (ret := (some .int)) (by decide) rfl (Nat.le_of_ble_eq_true rfl) (fun X Q hQ => ?_)
  refine zk_eqv (w1 := (gX0 E a (v_facts, v_calls))) (lv1 := [(0, .ref a.1)]) (st1 := []) (o1 := f_X0_calls v_calls) rfl rfl rfl rfl ?_
  unfold f_X0_calls
  refine zk_aload_n dX0_calls_0 0 rfl 1 rfl ?_
  refine zk_get dX0_calls_1 0 rfl rfl kX0_calls_inX0 1 (by decide) kX0_calls_1 rfl 4 rfl ?_
  exact zk_iret hQ dX0_calls_4 rfl rfl
def f_X0_write (x1 : Int32) (x2 : Int32) (x3 : Int32) (v_facts : (Nat → Int32)) (v_calls : Int32) : Option ((Nat → Int32) × Int32) := (f_J9_floorMod_7cf53 v_calls 12).bind fun r6 => zk_let (r6 * 3) fun x4_1 => zk_ck x4_1 36 (zk_let (upd v_facts x4_1.toNatClampNeg x1) fun v_facts_2 => zk_ck (x4_1 + 1) 36 (zk_let (upd v_facts_2 (x4_1 + 1).toNatClampNeg x2) fun v_facts_3 => zk_ck (x4_1 + 2) 36 (zk_let (upd v_facts_3 (x4_1 + 2).toNatClampNeg x3) fun v_facts_4 => zk_let (v_calls + 1) fun v_calls_5 => some (v_facts_4, v_calls_5))))
theorem kX0_write_inX0 : ∀ w ∈ u_ws RX0 TX0 2, w ∈ wsX0_write := by decide +kernel
theorem kX0_write_1 : Cond.fieldLink RX0 21 (TX0 1).1 (TX0 1).2.1 (TX0 1).2.2.1 ∈ wsX0_write := by decide +kernel
theorem kX0_write_2 : Cond.fieldLink RX0 11 (TX0 0).1 (TX0 0).2.1 (TX0 0).2.2.1 ∈ wsX0_write := by decide +kernel
theorem cd_X0_write : yX0_write.cls = RX0 ∧ yX0_write.cls ≠ "java/lang/invoke/MethodHandle" ∧ yX0_write.cls ≠ "java/lang/invoke/VarHandle" ∧ (parseMethodDescriptor yX0_write.desc).map (fun d => d.parameters.length) = some 3 := by decide +kernel
set_option maxRecDepth 100000 in
set_option maxHeartbeats 4000000 in
theorem c_X0_write (E : zk_Env) (l : Launch) (a : aX0) (v : VX0) (x1 : Int32) (x2 : Int32) (x3 : Int32) : zk_Mc E l yX0_write wsX0_write ({ frames := 1, cells := 0, slots := 0, locals := 22 } : Room) [.ref a.1, .int x1, .int x2, .int x3] (gX0 E a v) (f_X0_write x1 x2 x3 v.1 v.2) (fun _ => none) (fun r => (gX0 E a r)) := by
  obtain ⟨v_facts, v_calls⟩ := v
  refine zk_M (cc := cX0_write) (nL := 5) (ret := none) (by decide) rfl (Nat.le_of_ble_eq_true rfl) (fun X Q hQ => ?_)
  refine zk_eqv (w1 := (gX0 E a (v_facts, v_calls))) (lv1 := [(0, .ref a.1), (1, .int x1), (2, .int x2), (3, .int x3)]) (st1 := []) (o1 := f_X0_write x1 x2 x3 v_facts v_calls) rfl rfl rfl rfl ?_
  unfold f_X0_write
  refine zk_aload_n dX0_write_0 0 rfl 1 rfl ?_
  refine zk_get dX0_write_1 0 rfl rfl kX0_write_inX0 1 (by decide) kX0_write_1 rfl 4 rfl ?_
  refine zk_bipush 12 dX0_write_4 (by decide) 6 rfl ?_
  refine zk_callS (st := []) (c_J9_floorMod_7cf53 E l v_calls 12) dX0_write_6 2 gX0_write_J9_floorMod_7cf53 rfl rfl rfl cd_J9_floorMod_7cf53 ⟨Nat.le_of_ble_eq_true rfl, Nat.le_of_ble_eq_true rfl⟩ ⟨Nat.zero_le _, Nat.zero_le _⟩ _ (fun r6 => (gX0 E a (v_facts, v_calls))) zk_pn (fun r6 => (List.Perm.refl _)) rfl rfl (Nat.le_of_ble_eq_true rfl) (fun r6 => [.int r6]) (fun _ => rfl) 9 rfl (fun r6 => ?_)
  refine zk_iconst 3 dX0_write_9 (by decide) 10 rfl ?_
  refine zk_imul dX0_write_10 11 rfl ?_
  refine zk_nm (fun x4_1 => ?_)
  refine zk_istore [(4, .int x4_1), (0, .ref a.1), (1, .int x1), (2, .int x2), (3, .int x3)] dX0_write_11 (by decide) rfl 13 rfl ?_
  refine zk_aload_n dX0_write_13 1 rfl 14 rfl ?_
  refine zk_get dX0_write_14 0 rfl rfl kX0_write_inX0 0 (by decide) kX0_write_2 rfl 17 rfl ?_
  refine zk_iload dX0_write_17 0 rfl 19 rfl ?_
  refine zk_iload_n dX0_write_19 2 rfl 20 rfl ?_
  refine zk_iast (gX0 E a ((upd v_facts x4_1.toNatClampNeg x1), v_calls)) dX0_write_20 1 rfl rfl 21 rfl ?_
  refine zk_nmw (fun v_facts_2 => (gX0 E a (v_facts_2, v_calls))) _ rfl (fun v_facts_2 => ?_)
  refine zk_aload_n dX0_write_21 1 rfl 22 rfl ?_
  refine zk_get dX0_write_22 0 rfl rfl kX0_write_inX0 0 (by decide) kX0_write_2 rfl 25 rfl ?_
  refine zk_iload dX0_write_25 0 rfl 27 rfl ?_
  refine zk_iconst 1 dX0_write_27 (by decide) 28 rfl ?_
  refine zk_iadd dX0_write_28 29 rfl ?_
  refine zk_iload_n dX0_write_29 3 rfl 30 rfl ?_
  refine zk_iast (gX0 E a ((upd v_facts_2 (x4_1 + 1).toNatClampNeg x2), v_calls)) dX0_write_30 1 rfl rfl 31 rfl ?_
  refine zk_nmw (fun v_facts_3 => (gX0 E a (v_facts_3, v_calls))) _ rfl (fun v_facts_3 => ?_)
  refine zk_aload_n dX0_write_31 1 rfl 32 rfl ?_
  refine zk_get dX0_write_32 0 rfl rfl kX0_write_inX0 0 (by decide) kX0_write_2 rfl 35 rfl ?_
  refine zk_iload dX0_write_35 0 rfl 37 rfl ?_
  refine zk_iconst 2 dX0_write_37 (by decide) 38 rfl ?_
  refine zk_iadd dX0_write_38 39 rfl ?_
  refine zk_iload_n dX0_write_39 4 rfl 40 rfl ?_
  refine zk_iast (gX0 E a ((upd v_facts_3 (x4_1 + 2).toNatClampNeg x3), v_calls)) dX0_write_40 1 rfl rfl 41 rfl ?_
  refine zk_nmw (fun v_facts_4 => (gX0 E a (v_facts_4, v_calls))) _ rfl (fun v_facts_4 => ?_)
  refine zk_aload_n dX0_write_41 1 rfl 42 rfl ?_
  refine zk_dup dX0_write_42 rfl 43 rfl ?_
  refine zk_get dX0_write_43 0 rfl rfl kX0_write_inX0 1 (by decide) kX0_write_1 rfl 46 rfl ?_
  refine zk_iconst 1 dX0_write_46 (by decide) 47 rfl ?_
  refine zk_iadd dX0_write_47 48 rfl ?_
  refine zk_nm (fun v_calls_5 => ?_)
  refine zk_put_ tyX0 (gX0 E a (v_facts_4, v_calls_5)) dX0_write_48 0 rfl rfl kX0_write_inX0 tyX0_ok nmX0 1 (by decide) kX0_write_1 rfl (tyX0_ok 1 (by decide)) rfl rfl (Nat.le_of_ble_eq_true rfl) rfl 51 rfl ?_
  exact zk_vret hQ dX0_write_51 rfl rfl
def f_X0_read (x1 : Int32) (x2 : Int32) (v_facts : (Nat → Int32)) (v_calls : Int32) : Option (Int32) := if x1 < 0 then some (-9) else if (if 12 < v_calls then 12 else v_calls) ≤ x1 then some (-9) else if x2 < 0 then some (-9) else if x2 < 3 then (f_J9_floorMod_7cf53 ((v_calls - 1) - x1) 12).bind fun r43 => zk_ck ((r43 * 3) + x2) 36 (some (v_facts ((r43 * 3) + x2).toNatClampNeg)) else some (-9)
theorem kX0_read_inX0 : ∀ w ∈ u_ws RX0 TX0 2, w ∈ wsX0_read := by decide +kernel
theorem kX0_read_1 : Cond.fieldLink RX0 21 (TX0 1).1 (TX0 1).2.1 (TX0 1).2.2.1 ∈ wsX0_read := by decide +kernel
theorem kX0_read_2 : Cond.methodLink RX0 31 Lib.Math.min.name ∈ wsX0_read := by decide +kernel
theorem kX0_read_3 : Cond.static Lib.Math.min.name ∈ wsX0_read := by decide +kernel
theorem kX0_read_4 : Cond.initialized "java/lang/Math" ∈ wsX0_read := by decide +kernel
theorem kX0_read_5 : Cond.code Lib.Math.min.name Lib.Math.min.code 2 (some .int) ∈ wsX0_read := by decide +kernel
theorem kX0_read_6 : Cond.fieldLink RX0 11 (TX0 0).1 (TX0 0).2.1 (TX0 0).2.2.1 ∈ wsX0_read := by decide +kernel
theorem cd_X0_read : yX0_read.cls = RX0 ∧ yX0_read.cls ≠ "java/lang/invoke/MethodHandle" ∧ yX0_read.cls ≠ "java/lang/invoke/VarHandle" ∧ (parseMethodDescriptor yX0_read.desc).map (fun d => d.parameters.length) = some 2 := by decide +kernel
set_option maxRecDepth 100000 in
set_option maxHeartbeats 4000000 in
theorem c_X0_read (E : zk_Env) (l : Launch) (a : aX0) (v : VX0) (x1 : Int32) (x2 : Int32) : zk_Mc E l yX0_read wsX0_read ({ frames := 1, cells := 0, slots := 0, locals := 22 } : Room) [.ref a.1, .int x1, .int x2] (gX0 E a v) (f_X0_read x1 x2 v.1 v.2) (fun r => some (.int r)) (fun r => (gX0 E a v)) := by
  obtain ⟨v_facts, v_calls⟩ := v
  refine zk_M (cc := cX0_read) (nL := 3) (ret := (some .int)) (by decide) rfl (Nat.le_of_ble_eq_true rfl) (fun X Q hQ => ?_)
  refine zk_eqv (w1 := (gX0 E a (v_facts, v_calls))) (lv1 := [(0, .ref a.1), (1, .int x1), (2, .int x2)]) (st1 := []) (o1 := f_X0_read x1 x2 v_facts v_calls) rfl rfl rfl rfl ?_
  unfold f_X0_read
  refine zk_iload_n dX0_read_0 1 rfl 1 rfl ?_
  refine zk_if_lt dX0_read_1 26 (by decide) 4 rfl (fun _ => ?_) (fun _ => ?_)
  · refine zk_bipush (-9) dX0_read_26 (by decide) 28 rfl ?_
    exact zk_iret hQ dX0_read_28 rfl rfl
  · refine zk_iload_n dX0_read_4 1 rfl 5 rfl ?_
    refine zk_aload_n dX0_read_5 0 rfl 6 rfl ?_
    refine zk_get dX0_read_6 0 rfl rfl kX0_read_inX0 1 (by decide) kX0_read_1 rfl 9 rfl ?_
    refine zk_bipush 12 dX0_read_9 (by decide) 11 rfl ?_
    refine zk_mmin dX0_read_11 kX0_read_2 kX0_read_3 kX0_read_4 kX0_read_5 (Nat.le_of_ble_eq_true rfl) (Nat.le_of_ble_eq_true rfl) (Nat.zero_le _) (Nat.zero_le _) 14 rfl ?_
    refine zk_icmp_ge dX0_read_14 26 (by decide) 17 rfl (fun _ => ?_) (fun _ => ?_)
    · refine zk_bipush (-9) dX0_read_26 (by decide) 28 rfl ?_
      exact zk_iret hQ dX0_read_28 rfl rfl
    · refine zk_iload_n dX0_read_17 2 rfl 18 rfl ?_
      refine zk_if_lt dX0_read_18 26 (by decide) 21 rfl (fun _ => ?_) (fun _ => ?_)
      · refine zk_bipush (-9) dX0_read_26 (by decide) 28 rfl ?_
        exact zk_iret hQ dX0_read_28 rfl rfl
      · refine zk_iload_n dX0_read_21 2 rfl 22 rfl ?_
        refine zk_iconst 3 dX0_read_22 (by decide) 23 rfl ?_
        refine zk_icmp_lt dX0_read_23 29 (by decide) 26 rfl (fun _ => ?_) (fun _ => ?_)
        · refine zk_aload_n dX0_read_29 0 rfl 30 rfl ?_
          refine zk_get dX0_read_30 0 rfl rfl kX0_read_inX0 0 (by decide) kX0_read_6 rfl 33 rfl ?_
          refine zk_aload_n dX0_read_33 0 rfl 34 rfl ?_
          refine zk_get dX0_read_34 0 rfl rfl kX0_read_inX0 1 (by decide) kX0_read_1 rfl 37 rfl ?_
          refine zk_iconst 1 dX0_read_37 (by decide) 38 rfl ?_
          refine zk_isub dX0_read_38 39 rfl ?_
          refine zk_iload_n dX0_read_39 1 rfl 40 rfl ?_
          refine zk_isub dX0_read_40 41 rfl ?_
          refine zk_bipush 12 dX0_read_41 (by decide) 43 rfl ?_
          refine zk_callS (st := [.ref a.2]) (c_J9_floorMod_7cf53 E l ((v_calls - 1) - x1) 12) dX0_read_43 2 gX0_read_J9_floorMod_7cf53 rfl rfl rfl cd_J9_floorMod_7cf53 ⟨Nat.le_of_ble_eq_true rfl, Nat.le_of_ble_eq_true rfl⟩ ⟨Nat.zero_le _, Nat.zero_le _⟩ _ (fun r43 => (gX0 E a (v_facts, v_calls))) zk_pn (fun r43 => (List.Perm.refl _)) rfl rfl (Nat.le_of_ble_eq_true rfl) (fun r43 => [.int r43, .ref a.2]) (fun _ => rfl) 46 rfl (fun r43 => ?_)
          refine zk_iconst 3 dX0_read_46 (by decide) 47 rfl ?_
          refine zk_imul dX0_read_47 48 rfl ?_
          refine zk_iload_n dX0_read_48 2 rfl 49 rfl ?_
          refine zk_iadd dX0_read_49 50 rfl ?_
          refine zk_iald dX0_read_50 1 rfl 51 rfl ?_
          exact zk_iret hQ dX0_read_51 rfl rfl
        · refine zk_bipush (-9) dX0_read_26 (by decide) 28 rfl ?_
          exact zk_iret hQ dX0_read_28 rfl rfl
def f_X3_copyFrom (v_first : (Nat → Int32)) (v_last : (Nat → Int32)) (v_length : (Nat → Int32)) (v_line : (Nat → Int32)) (v_behind : (Nat → Int32)) (u_first : (Nat → Int32)) (u_last : (Nat → Int32)) (u_length : (Nat → Int32)) (u_line : (Nat → Int32)) (u_behind : (Nat → Int32)) : Option ((Nat → Int32) × (Nat → Int32) × (Nat → Int32) × (Nat → Int32) × (Nat → Int32)) := zk_let (va_cpy u_first v_first 0 0 25) fun v_first_1 => zk_let (va_cpy u_last v_last 0 0 25) fun v_last_2 => zk_let (va_cpy u_length v_length 0 0 25) fun v_length_3 => zk_let (va_cpy u_line v_line 0 0 40) fun v_line_4 => zk_let (va_cpy u_behind v_behind 0 0 40) fun v_behind_5 => some (v_first_1, v_last_2, v_length_3, v_line_4, v_behind_5)
theorem kX3_copyFrom_inX3 : ∀ w ∈ u_ws RX3 TX3 5, w ∈ wsX3_copyFrom := by decide +kernel
theorem kX3_copyFrom_1 : Cond.fieldLink RX3 9 (TX3 0).1 (TX3 0).2.1 (TX3 0).2.2.1 ∈ wsX3_copyFrom := by decide +kernel
theorem kX3_copyFrom_2 : Cond.methodLink RX3 33 arraycopyName ∈ wsX3_copyFrom := by decide +kernel
theorem kX3_copyFrom_3 : Cond.native arraycopyName ∈ wsX3_copyFrom := by decide +kernel
theorem kX3_copyFrom_4 : Cond.static arraycopyName ∈ wsX3_copyFrom := by decide +kernel
theorem kX3_copyFrom_5 : Cond.initialized "java/lang/System" ∈ wsX3_copyFrom := by decide +kernel
theorem kX3_copyFrom_6 : Cond.fieldLink RX3 15 (TX3 1).1 (TX3 1).2.1 (TX3 1).2.2.1 ∈ wsX3_copyFrom := by decide +kernel
theorem kX3_copyFrom_7 : Cond.fieldLink RX3 18 (TX3 2).1 (TX3 2).2.1 (TX3 2).2.2.1 ∈ wsX3_copyFrom := by decide +kernel
theorem kX3_copyFrom_8 : Cond.fieldLink RX3 21 (TX3 3).1 (TX3 3).2.1 (TX3 3).2.2.1 ∈ wsX3_copyFrom := by decide +kernel
theorem kX3_copyFrom_9 : Cond.fieldLink RX3 24 (TX3 4).1 (TX3 4).2.1 (TX3 4).2.2.1 ∈ wsX3_copyFrom := by decide +kernel
theorem cd_X3_copyFrom : yX3_copyFrom.cls = RX3 ∧ yX3_copyFrom.cls ≠ "java/lang/invoke/MethodHandle" ∧ yX3_copyFrom.cls ≠ "java/lang/invoke/VarHandle" ∧ (parseMethodDescriptor yX3_copyFrom.desc).map (fun d => d.parameters.length) = some 1 := by decide +kernel
set_option maxRecDepth 100000 in
set_option maxHeartbeats 4000000 in
theorem c_X3_copyFrom (E : zk_Env) (l : Launch) (a : aX3) (v : VX3) (b1 : aX3) (u1 : VX3)  : zk_Mc E l yX3_copyFrom wsX3_copyFrom ({ frames := 1, cells := 0, slots := 0, locals := 18 } : Room) [.ref a.1, .ref b1.1] (zk_j [gX3 E a v, gX3 E b1 u1]) (f_X3_copyFrom v.1 v.2.1 v.2.2.1 v.2.2.2.1 v.2.2.2.2 u1.1 u1.2.1 u1.2.2.1 u1.2.2.2.1 u1.2.2.2.2) (fun _ => none) (fun r => (zk_j [gX3 E a r, gX3 E b1 u1])) := by
  obtain ⟨v_first, v_last, v_length, v_line, v_behind⟩ := v
  obtain ⟨u_first, u_last, u_length, u_line, u_behind⟩ := u1
  refine zk_M (cc := cX3_copyFrom) (nL := 2) (ret := none) (by decide) rfl (Nat.le_of_ble_eq_true rfl) (fun X Q hQ => ?_)
  refine zk_eqv (w1 := (zk_j [gX3 E a (v_first, v_last, v_length, v_line, v_behind), gX3 E b1 (u_first, u_last, u_length, u_line, u_behind)])) (lv1 := [(0, .ref a.1), (1, .ref b1.1)]) (st1 := []) (o1 := f_X3_copyFrom v_first v_last v_length v_line v_behind u_first u_last u_length u_line u_behind) rfl rfl rfl rfl ?_
  unfold f_X3_copyFrom
  refine zk_aload_n dX3_copyFrom_0 1 rfl 1 rfl ?_
  refine zk_get dX3_copyFrom_1 6 rfl rfl kX3_copyFrom_inX3 0 (by decide) kX3_copyFrom_1 rfl 4 rfl ?_
  refine zk_iconst 0 dX3_copyFrom_4 (by decide) 5 rfl ?_
  refine zk_aload_n dX3_copyFrom_5 0 rfl 6 rfl ?_
  refine zk_get dX3_copyFrom_6 0 rfl rfl kX3_copyFrom_inX3 0 (by decide) kX3_copyFrom_1 rfl 9 rfl ?_
  refine zk_iconst 0 dX3_copyFrom_9 (by decide) 10 rfl ?_
  refine zk_bipush 25 dX3_copyFrom_10 (by decide) 12 rfl ?_
  refine zk_acopy 25 (zk_j [gX3 E a ((va_cpy u_first v_first 0 0 25), v_last, v_length, v_line, v_behind), gX3 E b1 (u_first, u_last, u_length, u_line, u_behind)]) dX3_copyFrom_12 kX3_copyFrom_2 kX3_copyFrom_3 kX3_copyFrom_4 kX3_copyFrom_5 7 1 rfl rfl rfl rfl rfl (Nat.le_of_ble_eq_true rfl) (Nat.le_of_ble_eq_true rfl) (Nat.le_of_ble_eq_true rfl) (Nat.le_of_ble_eq_true rfl) (Nat.le_of_ble_eq_true rfl) rfl 15 rfl ?_
  refine zk_nmw (fun v_first_1 => (zk_j [gX3 E a (v_first_1, v_last, v_length, v_line, v_behind), gX3 E b1 (u_first, u_last, u_length, u_line, u_behind)])) _ rfl (fun v_first_1 => ?_)
  refine zk_aload_n dX3_copyFrom_15 1 rfl 16 rfl ?_
  refine zk_get dX3_copyFrom_16 6 rfl rfl kX3_copyFrom_inX3 1 (by decide) kX3_copyFrom_6 rfl 19 rfl ?_
  refine zk_iconst 0 dX3_copyFrom_19 (by decide) 20 rfl ?_
  refine zk_aload_n dX3_copyFrom_20 0 rfl 21 rfl ?_
  refine zk_get dX3_copyFrom_21 0 rfl rfl kX3_copyFrom_inX3 1 (by decide) kX3_copyFrom_6 rfl 24 rfl ?_
  refine zk_iconst 0 dX3_copyFrom_24 (by decide) 25 rfl ?_
  refine zk_bipush 25 dX3_copyFrom_25 (by decide) 27 rfl ?_
  refine zk_acopy 25 (zk_j [gX3 E a (v_first_1, (va_cpy u_last v_last 0 0 25), v_length, v_line, v_behind), gX3 E b1 (u_first, u_last, u_length, u_line, u_behind)]) dX3_copyFrom_27 kX3_copyFrom_2 kX3_copyFrom_3 kX3_copyFrom_4 kX3_copyFrom_5 8 2 rfl rfl rfl rfl rfl (Nat.le_of_ble_eq_true rfl) (Nat.le_of_ble_eq_true rfl) (Nat.le_of_ble_eq_true rfl) (Nat.le_of_ble_eq_true rfl) (Nat.le_of_ble_eq_true rfl) rfl 30 rfl ?_
  refine zk_nmw (fun v_last_2 => (zk_j [gX3 E a (v_first_1, v_last_2, v_length, v_line, v_behind), gX3 E b1 (u_first, u_last, u_length, u_line, u_behind)])) _ rfl (fun v_last_2 => ?_)
  refine zk_aload_n dX3_copyFrom_30 1 rfl 31 rfl ?_
  refine zk_get dX3_copyFrom_31 6 rfl rfl kX3_copyFrom_inX3 2 (by decide) kX3_copyFrom_7 rfl 34 rfl ?_
  refine zk_iconst 0 dX3_copyFrom_34 (by decide) 35 rfl ?_
  refine zk_aload_n dX3_copyFrom_35 0 rfl 36 rfl ?_
  refine zk_get dX3_copyFrom_36 0 rfl rfl kX3_copyFrom_inX3 2 (by decide) kX3_copyFrom_7 rfl 39 rfl ?_
  refine zk_iconst 0 dX3_copyFrom_39 (by decide) 40 rfl ?_
  refine zk_bipush 25 dX3_copyFrom_40 (by decide) 42 rfl ?_
  refine zk_acopy 25 (zk_j [gX3 E a (v_first_1, v_last_2, (va_cpy u_length v_length 0 0 25), v_line, v_behind), gX3 E b1 (u_first, u_last, u_length, u_line, u_behind)]) dX3_copyFrom_42 kX3_copyFrom_2 kX3_copyFrom_3 kX3_copyFrom_4 kX3_copyFrom_5 9 3 rfl rfl rfl rfl rfl (Nat.le_of_ble_eq_true rfl) (Nat.le_of_ble_eq_true rfl) (Nat.le_of_ble_eq_true rfl) (Nat.le_of_ble_eq_true rfl) (Nat.le_of_ble_eq_true rfl) rfl 45 rfl ?_
  refine zk_nmw (fun v_length_3 => (zk_j [gX3 E a (v_first_1, v_last_2, v_length_3, v_line, v_behind), gX3 E b1 (u_first, u_last, u_length, u_line, u_behind)])) _ rfl (fun v_length_3 => ?_)
  refine zk_aload_n dX3_copyFrom_45 1 rfl 46 rfl ?_
  refine zk_get dX3_copyFrom_46 6 rfl rfl kX3_copyFrom_inX3 3 (by decide) kX3_copyFrom_8 rfl 49 rfl ?_
  refine zk_iconst 0 dX3_copyFrom_49 (by decide) 50 rfl ?_
  refine zk_aload_n dX3_copyFrom_50 0 rfl 51 rfl ?_
  refine zk_get dX3_copyFrom_51 0 rfl rfl kX3_copyFrom_inX3 3 (by decide) kX3_copyFrom_8 rfl 54 rfl ?_
  refine zk_iconst 0 dX3_copyFrom_54 (by decide) 55 rfl ?_
  refine zk_bipush 40 dX3_copyFrom_55 (by decide) 57 rfl ?_
  refine zk_acopy 40 (zk_j [gX3 E a (v_first_1, v_last_2, v_length_3, (va_cpy u_line v_line 0 0 40), v_behind), gX3 E b1 (u_first, u_last, u_length, u_line, u_behind)]) dX3_copyFrom_57 kX3_copyFrom_2 kX3_copyFrom_3 kX3_copyFrom_4 kX3_copyFrom_5 10 4 rfl rfl rfl rfl rfl (Nat.le_of_ble_eq_true rfl) (Nat.le_of_ble_eq_true rfl) (Nat.le_of_ble_eq_true rfl) (Nat.le_of_ble_eq_true rfl) (Nat.le_of_ble_eq_true rfl) rfl 60 rfl ?_
  refine zk_nmw (fun v_line_4 => (zk_j [gX3 E a (v_first_1, v_last_2, v_length_3, v_line_4, v_behind), gX3 E b1 (u_first, u_last, u_length, u_line, u_behind)])) _ rfl (fun v_line_4 => ?_)
  refine zk_aload_n dX3_copyFrom_60 1 rfl 61 rfl ?_
  refine zk_get dX3_copyFrom_61 6 rfl rfl kX3_copyFrom_inX3 4 (by decide) kX3_copyFrom_9 rfl 64 rfl ?_
  refine zk_iconst 0 dX3_copyFrom_64 (by decide) 65 rfl ?_
  refine zk_aload_n dX3_copyFrom_65 0 rfl 66 rfl ?_
  refine zk_get dX3_copyFrom_66 0 rfl rfl kX3_copyFrom_inX3 4 (by decide) kX3_copyFrom_9 rfl 69 rfl ?_
  refine zk_iconst 0 dX3_copyFrom_69 (by decide) 70 rfl ?_
  refine zk_bipush 40 dX3_copyFrom_70 (by decide) 72 rfl ?_
  refine zk_acopy 40 (zk_j [gX3 E a (v_first_1, v_last_2, v_length_3, v_line_4, (va_cpy u_behind v_behind 0 0 40)), gX3 E b1 (u_first, u_last, u_length, u_line, u_behind)]) dX3_copyFrom_72 kX3_copyFrom_2 kX3_copyFrom_3 kX3_copyFrom_4 kX3_copyFrom_5 11 5 rfl rfl rfl rfl rfl (Nat.le_of_ble_eq_true rfl) (Nat.le_of_ble_eq_true rfl) (Nat.le_of_ble_eq_true rfl) (Nat.le_of_ble_eq_true rfl) (Nat.le_of_ble_eq_true rfl) rfl 75 rfl ?_
  refine zk_nmw (fun v_behind_5 => (zk_j [gX3 E a (v_first_1, v_last_2, v_length_3, v_line_4, v_behind_5), gX3 E b1 (u_first, u_last, u_length, u_line, u_behind)])) _ rfl (fun v_behind_5 => ?_)
  exact zk_vret hQ dX3_copyFrom_75 rfl rfl
def f_X3_lengthOf (x1 : Int32) (v_length : (Nat → Int32)) : Option (Int32) := if x1 < 0 then some 0 else if x1 < 25 then zk_ck x1 25 (some (v_length x1.toNatClampNeg)) else some 0
theorem kX3_lengthOf_inX3 : ∀ w ∈ u_ws RX3 TX3 5, w ∈ wsX3_lengthOf := by decide +kernel
theorem kX3_lengthOf_1 : Cond.fieldLink RX3 18 (TX3 2).1 (TX3 2).2.1 (TX3 2).2.2.1 ∈ wsX3_lengthOf := by decide +kernel
theorem cd_X3_lengthOf : yX3_lengthOf.cls = RX3 ∧ yX3_lengthOf.cls ≠ "java/lang/invoke/MethodHandle" ∧ yX3_lengthOf.cls ≠ "java/lang/invoke/VarHandle" ∧ (parseMethodDescriptor yX3_lengthOf.desc).map (fun d => d.parameters.length) = some 1 := by decide +kernel
set_option maxRecDepth 100000 in
set_option maxHeartbeats 4000000 in
theorem c_X3_lengthOf (E : zk_Env) (l : Launch) (a : aX3) (v : VX3) (x1 : Int32) : zk_Mc E l yX3_lengthOf wsX3_lengthOf ({ frames := 0, cells := 0, slots := 0, locals := 0 } : Room) [.ref a.1, .int x1] (gX3 E a v) (f_X3_lengthOf x1 v.2.2.1) (fun r => some (.int r)) (fun r => (gX3 E a v)) := by
  obtain ⟨v_first, v_last, v_length, v_line, v_behind⟩ := v
  refine zk_M (cc := cX3_lengthOf) (nL := 2) (ret := (some .int)) (by decide) rfl (Nat.le_of_ble_eq_true rfl) (fun X Q hQ => ?_)
  refine zk_eqv (w1 := (gX3 E a (v_first, v_last, v_length, v_line, v_behind))) (lv1 := [(0, .ref a.1), (1, .int x1)]) (st1 := []) (o1 := f_X3_lengthOf x1 v_length) rfl rfl rfl rfl ?_
  unfold f_X3_lengthOf
  refine zk_iload_n dX3_lengthOf_0 1 rfl 1 rfl ?_
  refine zk_if_lt dX3_lengthOf_1 10 (by decide) 4 rfl (fun _ => ?_) (fun _ => ?_)
  · refine zk_iconst 0 dX3_lengthOf_10 (by decide) 11 rfl ?_
    refine zk_goto dX3_lengthOf_11 20 (by decide) ?_
    exact zk_iret hQ dX3_lengthOf_20 rfl rfl
  · refine zk_iload_n dX3_lengthOf_4 1 rfl 5 rfl ?_
    refine zk_bipush 25 dX3_lengthOf_5 (by decide) 7 rfl ?_
    refine zk_icmp_lt dX3_lengthOf_7 14 (by decide) 10 rfl (fun _ => ?_) (fun _ => ?_)
    · refine zk_aload_n dX3_lengthOf_14 0 rfl 15 rfl ?_
      refine zk_get dX3_lengthOf_15 0 rfl rfl kX3_lengthOf_inX3 2 (by decide) kX3_lengthOf_1 rfl 18 rfl ?_
      refine zk_iload_n dX3_lengthOf_18 1 rfl 19 rfl ?_
      refine zk_iald dX3_lengthOf_19 3 rfl 20 rfl ?_
      exact zk_iret hQ dX3_lengthOf_20 rfl rfl
    · refine zk_iconst 0 dX3_lengthOf_10 (by decide) 11 rfl ?_
      refine zk_goto dX3_lengthOf_11 20 (by decide) ?_
      exact zk_iret hQ dX3_lengthOf_20 rfl rfl
def f_X3_frontOf (x1 : Int32) (v_first : (Nat → Int32)) : Option (Int32) := if x1 < 0 then some (-1) else if x1 < 25 then zk_ck x1 25 (some (v_first x1.toNatClampNeg)) else some (-1)
theorem kX3_frontOf_inX3 : ∀ w ∈ u_ws RX3 TX3 5, w ∈ wsX3_frontOf := by decide +kernel
theorem kX3_frontOf_1 : Cond.fieldLink RX3 9 (TX3 0).1 (TX3 0).2.1 (TX3 0).2.2.1 ∈ wsX3_frontOf := by decide +kernel
theorem cd_X3_frontOf : yX3_frontOf.cls = RX3 ∧ yX3_frontOf.cls ≠ "java/lang/invoke/MethodHandle" ∧ yX3_frontOf.cls ≠ "java/lang/invoke/VarHandle" ∧ (parseMethodDescriptor yX3_frontOf.desc).map (fun d => d.parameters.length) = some 1 := by decide +kernel
set_option maxRecDepth 100000 in
set_option maxHeartbeats 4000000 in
theorem c_X3_frontOf (E : zk_Env) (l : Launch) (a : aX3) (v : VX3) (x1 : Int32) : zk_Mc E l yX3_frontOf wsX3_frontOf ({ frames := 0, cells := 0, slots := 0, locals := 0 } : Room) [.ref a.1, .int x1] (gX3 E a v) (f_X3_frontOf x1 v.1) (fun r => some (.int r)) (fun r => (gX3 E a v)) := by
  obtain ⟨v_first, v_last, v_length, v_line, v_behind⟩ := v
  refine zk_M (cc := cX3_frontOf) (nL := 2) (ret := (some .int)) (by decide) rfl (Nat.le_of_ble_eq_true rfl) (fun X Q hQ => ?_)
  refine zk_eqv (w1 := (gX3 E a (v_first, v_last, v_length, v_line, v_behind))) (lv1 := [(0, .ref a.1), (1, .int x1)]) (st1 := []) (o1 := f_X3_frontOf x1 v_first) rfl rfl rfl rfl ?_
  unfold f_X3_frontOf
  refine zk_iload_n dX3_frontOf_0 1 rfl 1 rfl ?_
  refine zk_if_lt dX3_frontOf_1 10 (by decide) 4 rfl (fun _ => ?_) (fun _ => ?_)
  · refine zk_iconst (-1) dX3_frontOf_10 (by decide) 11 rfl ?_
    refine zk_goto dX3_frontOf_11 20 (by decide) ?_
    exact zk_iret hQ dX3_frontOf_20 rfl rfl
  · refine zk_iload_n dX3_frontOf_4 1 rfl 5 rfl ?_
    refine zk_bipush 25 dX3_frontOf_5 (by decide) 7 rfl ?_
    refine zk_icmp_lt dX3_frontOf_7 14 (by decide) 10 rfl (fun _ => ?_) (fun _ => ?_)
    · refine zk_aload_n dX3_frontOf_14 0 rfl 15 rfl ?_
      refine zk_get dX3_frontOf_15 0 rfl rfl kX3_frontOf_inX3 0 (by decide) kX3_frontOf_1 rfl 18 rfl ?_
      refine zk_iload_n dX3_frontOf_18 1 rfl 19 rfl ?_
      refine zk_iald dX3_frontOf_19 1 rfl 20 rfl ?_
      exact zk_iret hQ dX3_frontOf_20 rfl rfl
    · refine zk_iconst (-1) dX3_frontOf_10 (by decide) 11 rfl ?_
      refine zk_goto dX3_frontOf_11 20 (by decide) ?_
      exact zk_iret hQ dX3_frontOf_20 rfl rfl
def f_X3_follower (x1 : Int32) (v_behind : (Nat → Int32)) : Option (Int32) := if x1 < 0 then some (-1) else if x1 < 40 then zk_ck x1 40 (some (v_behind x1.toNatClampNeg)) else some (-1)
theorem kX3_follower_inX3 : ∀ w ∈ u_ws RX3 TX3 5, w ∈ wsX3_follower := by decide +kernel
theorem kX3_follower_1 : Cond.fieldLink RX3 24 (TX3 4).1 (TX3 4).2.1 (TX3 4).2.2.1 ∈ wsX3_follower := by decide +kernel
theorem cd_X3_follower : yX3_follower.cls = RX3 ∧ yX3_follower.cls ≠ "java/lang/invoke/MethodHandle" ∧ yX3_follower.cls ≠ "java/lang/invoke/VarHandle" ∧ (parseMethodDescriptor yX3_follower.desc).map (fun d => d.parameters.length) = some 1 := by decide +kernel
set_option maxRecDepth 100000 in
set_option maxHeartbeats 4000000 in
theorem c_X3_follower (E : zk_Env) (l : Launch) (a : aX3) (v : VX3) (x1 : Int32) : zk_Mc E l yX3_follower wsX3_follower ({ frames := 0, cells := 0, slots := 0, locals := 0 } : Room) [.ref a.1, .int x1] (gX3 E a v) (f_X3_follower x1 v.2.2.2.2) (fun r => some (.int r)) (fun r => (gX3 E a v)) := by
  obtain ⟨v_first, v_last, v_length, v_line, v_behind⟩ := v
  refine zk_M (cc := cX3_follower) (nL := 2) (ret := (some .int)) (by decide) rfl (Nat.le_of_ble_eq_true rfl) (fun X Q hQ => ?_)
  refine zk_eqv (w1 := (gX3 E a (v_first, v_last, v_length, v_line, v_behind))) (lv1 := [(0, .ref a.1), (1, .int x1)]) (st1 := []) (o1 := f_X3_follower x1 v_behind) rfl rfl rfl rfl ?_
  unfold f_X3_follower
  refine zk_iload_n dX3_follower_0 1 rfl 1 rfl ?_
  refine zk_if_lt dX3_follower_1 10 (by decide) 4 rfl (fun _ => ?_) (fun _ => ?_)
  · refine zk_iconst (-1) dX3_follower_10 (by decide) 11 rfl ?_
    refine zk_goto dX3_follower_11 20 (by decide) ?_
    exact zk_iret hQ dX3_follower_20 rfl rfl
  · refine zk_iload_n dX3_follower_4 1 rfl 5 rfl ?_
    refine zk_bipush 40 dX3_follower_5 (by decide) 7 rfl ?_
    refine zk_icmp_lt dX3_follower_7 14 (by decide) 10 rfl (fun _ => ?_) (fun _ => ?_)
    · refine zk_aload_n dX3_follower_14 0 rfl 15 rfl ?_
      refine zk_get dX3_follower_15 0 rfl rfl kX3_follower_inX3 4 (by decide) kX3_follower_1 rfl 18 rfl ?_
      refine zk_iload_n dX3_follower_18 1 rfl 19 rfl ?_
      refine zk_iald dX3_follower_19 5 rfl 20 rfl ?_
      exact zk_iret hQ dX3_follower_20 rfl rfl
    · refine zk_iconst (-1) dX3_follower_10 (by decide) 11 rfl ?_
      refine zk_goto dX3_follower_11 20 (by decide) ?_
      exact zk_iret hQ dX3_follower_20 rfl rfl
def f_X3_lineOf (x1 : Int32) (v_line : (Nat → Int32)) : Option (Int32) := if x1 < 0 then some (-1) else if x1 < 40 then zk_ck x1 40 (some (v_line x1.toNatClampNeg)) else some (-1)
theorem kX3_lineOf_inX3 : ∀ w ∈ u_ws RX3 TX3 5, w ∈ wsX3_lineOf := by decide +kernel
theorem kX3_lineOf_1 : Cond.fieldLink RX3 21 (TX3 3).1 (TX3 3).2.1 (TX3 3).2.2.1 ∈ wsX3_lineOf := by decide +kernel
theorem cd_X3_lineOf : yX3_lineOf.cls = RX3 ∧ yX3_lineOf.cls ≠ "java/lang/invoke/MethodHandle" ∧ yX3_lineOf.cls ≠ "java/lang/invoke/VarHandle" ∧ (parseMethodDescriptor yX3_lineOf.desc).map (fun d => d.parameters.length) = some 1 := by decide +kernel
set_option maxRecDepth 100000 in
set_option maxHeartbeats 4000000 in
theorem c_X3_lineOf (E : zk_Env) (l : Launch) (a : aX3) (v : VX3) (x1 : Int32) : zk_Mc E l yX3_lineOf wsX3_lineOf ({ frames := 0, cells := 0, slots := 0, locals := 0 } : Room) [.ref a.1, .int x1] (gX3 E a v) (f_X3_lineOf x1 v.2.2.2.1) (fun r => some (.int r)) (fun r => (gX3 E a v)) := by
  obtain ⟨v_first, v_last, v_length, v_line, v_behind⟩ := v
  refine zk_M (cc := cX3_lineOf) (nL := 2) (ret := (some .int)) (by decide) rfl (Nat.le_of_ble_eq_true rfl) (fun X Q hQ => ?_)
  refine zk_eqv (w1 := (gX3 E a (v_first, v_last, v_length, v_line, v_behind))) (lv1 := [(0, .ref a.1), (1, .int x1)]) (st1 := []) (o1 := f_X3_lineOf x1 v_line) rfl rfl rfl rfl ?_
  unfold f_X3_lineOf
  refine zk_iload_n dX3_lineOf_0 1 rfl 1 rfl ?_
  refine zk_if_lt dX3_lineOf_1 10 (by decide) 4 rfl (fun _ => ?_) (fun _ => ?_)
  · refine zk_iconst (-1) dX3_lineOf_10 (by decide) 11 rfl ?_
    refine zk_goto dX3_lineOf_11 20 (by decide) ?_
    exact zk_iret hQ dX3_lineOf_20 rfl rfl
  · refine zk_iload_n dX3_lineOf_4 1 rfl 5 rfl ?_
    refine zk_bipush 40 dX3_lineOf_5 (by decide) 7 rfl ?_
    refine zk_icmp_lt dX3_lineOf_7 14 (by decide) 10 rfl (fun _ => ?_) (fun _ => ?_)
    · refine zk_aload_n dX3_lineOf_14 0 rfl 15 rfl ?_
      refine zk_get dX3_lineOf_15 0 rfl rfl kX3_lineOf_inX3 3 (by decide) kX3_lineOf_1 rfl 18 rfl ?_
      refine zk_iload_n dX3_lineOf_18 1 rfl 19 rfl ?_
      refine zk_iald dX3_lineOf_19 4 rfl 20 rfl ?_
      exact zk_iret hQ dX3_lineOf_20 rfl rfl
    · refine zk_iconst (-1) dX3_lineOf_10 (by decide) 11 rfl ?_
      refine zk_goto dX3_lineOf_11 20 (by decide) ?_
      exact zk_iret hQ dX3_lineOf_20 rfl rfl
def F_X3_placeOf_22 (x1 : Int32) (v_behind : (Nat → Int32)) (x3 : Int32) (k22 : Int32 × Int32 → Option (Int32)) : Int32 × Int32 → Option (Int32) := fun s => match s with
  | (x4, x5) => if x3 ≤ x5 then some (-9) else if x4 = x1 then some x5 else (f_X3_follower x4 v_behind).bind fun r40 => k22 (r40, (x5 + 1))
def f_X3_placeOf (x1 : Int32) (v_first : (Nat → Int32)) (v_length : (Nat → Int32)) (v_line : (Nat → Int32)) (v_behind : (Nat → Int32)) : Option (Int32) := (f_X3_lineOf x1 v_line).bind fun r2 => (f_X3_lengthOf r2 v_length).bind fun r8 => (f_X3_frontOf r2 v_first).bind fun r14 => zk_fx (F_X3_placeOf_22 x1 v_behind r8 ) zk_N (r14, 0)
theorem cd_X3_placeOf : yX3_placeOf.cls = RX3 ∧ yX3_placeOf.cls ≠ "java/lang/invoke/MethodHandle" ∧ yX3_placeOf.cls ≠ "java/lang/invoke/VarHandle" ∧ (parseMethodDescriptor yX3_placeOf.desc).map (fun d => d.parameters.length) = some 1 := by decide +kernel
set_option maxRecDepth 100000 in
set_option maxHeartbeats 4000000 in
theorem c_X3_placeOf (E : zk_Env) (l : Launch) (a : aX3) (v : VX3) (x1 : Int32) : zk_Mc E l yX3_placeOf wsX3_placeOf ({ frames := 1, cells := 0, slots := 0, locals := 21 } : Room) [.ref a.1, .int x1] (gX3 E a v) (f_X3_placeOf x1 v.1 v.2.2.1 v.2.2.2.1 v.2.2.2.2) (fun r => some (.int r)) (fun r => (gX3 E a v)) := by
  obtain ⟨v_first, v_last, v_length, v_line, v_behind⟩ := v
  refine zk_M (cc := cX3_placeOf) (nL := 6) (ret := (some .int)) (by decide) rfl (Nat.le_of_ble_eq_true rfl) (fun X Q hQ => ?_)
  have J22 : ∀ (x3 : Int32) (n : Nat) (x4 : Int32) (x5 : Int32), zk_G E l X cX3_placeOf 6 (some .int) yX3_placeOf.cls wsX3_placeOf ({ frames := 1, cells := 0, slots := 0, locals := 21 } : Room) 0 0 Q (gX3 E a (v_first, v_last, v_length, v_line, v_behind)) [(0, .ref a.1), (1, .int x1), (3, .int x3), (4, .int x4), (5, .int x5)] 22 [] (zk_fx (F_X3_placeOf_22 x1 v_behind x3 ) n (x4, x5)) := by
    intro x3 n x4 x5
    refine zk_loop (S := Int32 × Int32) (F := F_X3_placeOf_22 x1 v_behind x3) (wS := fun s => (gX3 E a (v_first, v_last, v_length, v_line, v_behind))) (lS := fun s => [(0, .ref a.1), (1, .int x1), (3, .int x3), (4, .int s.1), (5, .int s.2)]) (sS := fun _ => []) (fun k22 hk22 s => ?_) n (x4, x5)
    obtain ⟨x4, x5⟩ := s
    unfold F_X3_placeOf_22
    try dsimp only
    refine zk_iload dX3_placeOf_22 4 rfl 24 rfl ?_
    refine zk_iload_n dX3_placeOf_24 2 rfl 25 rfl ?_
    refine zk_icmp_ge dX3_placeOf_25 51 (by decide) 28 rfl (fun _ => ?_) (fun _ => ?_)
    · refine zk_bipush (-9) dX3_placeOf_51 (by decide) 53 rfl ?_
      exact zk_iret hQ dX3_placeOf_53 rfl rfl
    · refine zk_iload dX3_placeOf_28 3 rfl 30 rfl ?_
      refine zk_iload_n dX3_placeOf_30 1 rfl 31 rfl ?_
      refine zk_icmp_ne dX3_placeOf_31 37 (by decide) 34 rfl (fun _ => ?_) (fun _ => ?_)
      · refine zk_iload dX3_placeOf_34 4 rfl 36 rfl ?_
        exact zk_iret hQ dX3_placeOf_36 rfl rfl
      · refine zk_aload_n dX3_placeOf_37 0 rfl 38 rfl ?_
        refine zk_iload dX3_placeOf_38 3 rfl 40 rfl ?_
        refine zk_callV (ci := 3) (st := []) (c_X3_follower E l a (v_first, v_last, v_length, v_line, v_behind) x4) dX3_placeOf_40 1 gX3_placeOf_X3_follower rfl rfl rfl cd_X3_follower ⟨Nat.le_of_ble_eq_true rfl, Nat.le_of_ble_eq_true rfl⟩ ⟨Nat.zero_le _, Nat.zero_le _⟩ _ (fun r40 => (gX3 E a (v_first, v_last, v_length, v_line, v_behind))) zk_pa (fun r40 => zk_qa) rfl rfl rfl rfl (Nat.le_of_ble_eq_true rfl) (fun r40 => [.int r40]) (fun _ => rfl) 43 rfl (fun r40 => ?_)
        refine zk_istore [(4, .int r40), (0, .ref a.1), (1, .int x1), (3, .int x3), (5, .int x5)] dX3_placeOf_43 (by decide) rfl 45 rfl ?_
        refine zk_iinc (x5 + 1) [(5, .int (x5 + 1)), (4, .int r40), (0, .ref a.1), (1, .int x1), (3, .int x3)] dX3_placeOf_45 4 rfl rfl (by decide) rfl 48 rfl ?_
        refine zk_goto dX3_placeOf_48 22 (by decide) ?_
        refine zk_lv [2, 3, 4, 1, 0] rfl ?_
        exact hk22 (r40, (x5 + 1))
  refine zk_eqv (w1 := (gX3 E a (v_first, v_last, v_length, v_line, v_behind))) (lv1 := [(0, .ref a.1), (1, .int x1)]) (st1 := []) (o1 := f_X3_placeOf x1 v_first v_length v_line v_behind) rfl rfl rfl rfl ?_
  unfold f_X3_placeOf
  refine zk_aload_n dX3_placeOf_0 0 rfl 1 rfl ?_
  refine zk_iload_n dX3_placeOf_1 1 rfl 2 rfl ?_
  refine zk_callV (ci := 3) (st := []) (c_X3_lineOf E l a (v_first, v_last, v_length, v_line, v_behind) x1) dX3_placeOf_2 1 gX3_placeOf_X3_lineOf rfl rfl rfl cd_X3_lineOf ⟨Nat.le_of_ble_eq_true rfl, Nat.le_of_ble_eq_true rfl⟩ ⟨Nat.zero_le _, Nat.zero_le _⟩ _ (fun r2 => (gX3 E a (v_first, v_last, v_length, v_line, v_behind))) zk_pa (fun r2 => zk_qa) rfl rfl rfl rfl (Nat.le_of_ble_eq_true rfl) (fun r2 => [.int r2]) (fun _ => rfl) 5 rfl (fun r2 => ?_)
  refine zk_istore_n [(2, .int r2), (0, .ref a.1), (1, .int x1)] dX3_placeOf_5 (by decide) rfl 6 rfl ?_
  refine zk_aload_n dX3_placeOf_6 1 rfl 7 rfl ?_
  refine zk_iload_n dX3_placeOf_7 0 rfl 8 rfl ?_
  refine zk_callV (ci := 3) (st := []) (c_X3_lengthOf E l a (v_first, v_last, v_length, v_line, v_behind) r2) dX3_placeOf_8 1 gX3_placeOf_X3_lengthOf rfl rfl rfl cd_X3_lengthOf ⟨Nat.le_of_ble_eq_true rfl, Nat.le_of_ble_eq_true rfl⟩ ⟨Nat.zero_le _, Nat.zero_le _⟩ _ (fun r8 => (gX3 E a (v_first, v_last, v_length, v_line, v_behind))) zk_pa (fun r8 => zk_qa) rfl rfl rfl rfl (Nat.le_of_ble_eq_true rfl) (fun r8 => [.int r8]) (fun _ => rfl) 11 rfl (fun r8 => ?_)
  refine zk_istore_n [(3, .int r8), (2, .int r2), (0, .ref a.1), (1, .int x1)] dX3_placeOf_11 (by decide) rfl 12 rfl ?_
  refine zk_aload_n dX3_placeOf_12 2 rfl 13 rfl ?_
  refine zk_iload_n dX3_placeOf_13 1 rfl 14 rfl ?_
  refine zk_callV (ci := 3) (st := []) (c_X3_frontOf E l a (v_first, v_last, v_length, v_line, v_behind) r2) dX3_placeOf_14 1 gX3_placeOf_X3_frontOf rfl rfl rfl cd_X3_frontOf ⟨Nat.le_of_ble_eq_true rfl, Nat.le_of_ble_eq_true rfl⟩ ⟨Nat.zero_le _, Nat.zero_le _⟩ _ (fun r14 => (gX3 E a (v_first, v_last, v_length, v_line, v_behind))) zk_pa (fun r14 => zk_qa) rfl rfl rfl rfl (Nat.le_of_ble_eq_true rfl) (fun r14 => [.int r14]) (fun _ => rfl) 17 rfl (fun r14 => ?_)
  refine zk_istore [(4, .int r14), (3, .int r8), (2, .int r2), (0, .ref a.1), (1, .int x1)] dX3_placeOf_17 (by decide) rfl 19 rfl ?_
  refine zk_iconst 0 dX3_placeOf_19 (by decide) 20 rfl ?_
  refine zk_istore [(5, .int 0), (4, .int r14), (3, .int r8), (2, .int r2), (0, .ref a.1), (1, .int x1)] dX3_placeOf_20 (by decide) rfl 22 rfl ?_
  refine zk_lv [4, 5, 2, 1, 0] rfl ?_
  exact J22   r8 zk_N r14 0
def f_X3_join_55 (x1 : Int32) (x2 : Int32) (v_first : (Nat → Int32)) (v_last : (Nat → Int32)) (v_length : (Nat → Int32)) (v_line : (Nat → Int32)) (v_behind : (Nat → Int32)) : Option ((Nat → Int32) × (Nat → Int32) × (Nat → Int32) × (Nat → Int32) × (Nat → Int32)) := zk_ck x1 25 (zk_let (upd v_last x1.toNatClampNeg x2) fun v_last_3 => zk_ck x2 40 (zk_let (upd v_behind x2.toNatClampNeg (-1)) fun v_behind_4 => zk_ck x2 40 (zk_let (upd v_line x2.toNatClampNeg x1) fun v_line_5 => zk_ck x1 25 (zk_ck x1 25 (zk_let (upd v_length x1.toNatClampNeg ((v_length x1.toNatClampNeg) + 1)) fun v_length_6 => some (v_first, v_last_3, v_length_6, v_line_5, v_behind_4))))))
def f_X3_join_38 (x1 : Int32) (x2 : Int32) (v_first : (Nat → Int32)) (v_last : (Nat → Int32)) (v_length : (Nat → Int32)) (v_line : (Nat → Int32)) (v_behind : (Nat → Int32)) : Option ((Nat → Int32) × (Nat → Int32) × (Nat → Int32) × (Nat → Int32) × (Nat → Int32)) := zk_ck x1 25 (zk_let (upd v_first x1.toNatClampNeg x2) fun v_first_7 => f_X3_join_55 x1 x2 v_first_7 v_last v_length v_line v_behind)
def f_X3_join (x1 : Int32) (x2 : Int32) (v_first : (Nat → Int32)) (v_last : (Nat → Int32)) (v_length : (Nat → Int32)) (v_line : (Nat → Int32)) (v_behind : (Nat → Int32)) : Option ((Nat → Int32) × (Nat → Int32) × (Nat → Int32) × (Nat → Int32) × (Nat → Int32)) := if x1 < 0 then some (v_first, v_last, v_length, v_line, v_behind) else if 25 ≤ x1 then some (v_first, v_last, v_length, v_line, v_behind) else if x2 < 0 then some (v_first, v_last, v_length, v_line, v_behind) else if x2 < 40 then zk_ck x1 25 (zk_let (v_last x1.toNatClampNeg) fun x3_1 => if x3_1 < 0 then f_X3_join_38 x1 x2 v_first v_last v_length v_line v_behind else if x3_1 < 40 then zk_ck x3_1 40 (zk_let (upd v_behind x3_1.toNatClampNeg x2) fun v_behind_2 => f_X3_join_55 x1 x2 v_first v_last v_length v_line v_behind_2) else f_X3_join_38 x1 x2 v_first v_last v_length v_line v_behind) else some (v_first, v_last, v_length, v_line, v_behind)
theorem kX3_join_inX3 : ∀ w ∈ u_ws RX3 TX3 5, w ∈ wsX3_join := by decide +kernel
theorem kX3_join_1 : Cond.fieldLink RX3 15 (TX3 1).1 (TX3 1).2.1 (TX3 1).2.2.1 ∈ wsX3_join := by decide +kernel
theorem kX3_join_2 : Cond.fieldLink RX3 24 (TX3 4).1 (TX3 4).2.1 (TX3 4).2.2.1 ∈ wsX3_join := by decide +kernel
theorem kX3_join_3 : Cond.fieldLink RX3 21 (TX3 3).1 (TX3 3).2.1 (TX3 3).2.2.1 ∈ wsX3_join := by decide +kernel
theorem kX3_join_4 : Cond.fieldLink RX3 18 (TX3 2).1 (TX3 2).2.1 (TX3 2).2.2.1 ∈ wsX3_join := by decide +kernel
theorem kX3_join_5 : Cond.fieldLink RX3 9 (TX3 0).1 (TX3 0).2.1 (TX3 0).2.2.1 ∈ wsX3_join := by decide +kernel
theorem cd_X3_join : yX3_join.cls = RX3 ∧ yX3_join.cls ≠ "java/lang/invoke/MethodHandle" ∧ yX3_join.cls ≠ "java/lang/invoke/VarHandle" ∧ (parseMethodDescriptor yX3_join.desc).map (fun d => d.parameters.length) = some 2 := by decide +kernel
set_option maxRecDepth 100000 in
set_option maxHeartbeats 4000000 in
theorem c_X3_join (E : zk_Env) (l : Launch) (a : aX3) (v : VX3) (x1 : Int32) (x2 : Int32) : zk_Mc E l yX3_join wsX3_join ({ frames := 0, cells := 0, slots := 0, locals := 0 } : Room) [.ref a.1, .int x1, .int x2] (gX3 E a v) (f_X3_join x1 x2 v.1 v.2.1 v.2.2.1 v.2.2.2.1 v.2.2.2.2) (fun _ => none) (fun r => (gX3 E a r)) := by
  obtain ⟨v_first, v_last, v_length, v_line, v_behind⟩ := v
  refine zk_M (cc := cX3_join) (nL := 4) (ret := none) (by decide) rfl (Nat.le_of_ble_eq_true rfl) (fun X Q hQ => ?_)
  have J55 : ∀ (v_first : (Nat → Int32)) (v_last : (Nat → Int32)) (v_length : (Nat → Int32)) (v_line : (Nat → Int32)) (v_behind : (Nat → Int32)), zk_G E l X cX3_join 4 none yX3_join.cls wsX3_join ({ frames := 0, cells := 0, slots := 0, locals := 0 } : Room) 0 0 Q (gX3 E a (v_first, v_last, v_length, v_line, v_behind)) [(0, .ref a.1), (1, .int x1), (2, .int x2)] 55 [] (f_X3_join_55 x1 x2 v_first v_last v_length v_line v_behind) := by
    intro v_first v_last v_length v_line v_behind
    unfold f_X3_join_55
    refine zk_aload_n dX3_join_55 0 rfl 56 rfl ?_
    refine zk_get dX3_join_56 0 rfl rfl kX3_join_inX3 1 (by decide) kX3_join_1 rfl 59 rfl ?_
    refine zk_iload_n dX3_join_59 1 rfl 60 rfl ?_
    refine zk_iload_n dX3_join_60 2 rfl 61 rfl ?_
    refine zk_iast (gX3 E a (v_first, (upd v_last x1.toNatClampNeg x2), v_length, v_line, v_behind)) dX3_join_61 2 rfl rfl 62 rfl ?_
    refine zk_nmw (fun v_last_3 => (gX3 E a (v_first, v_last_3, v_length, v_line, v_behind))) _ rfl (fun v_last_3 => ?_)
    refine zk_aload_n dX3_join_62 0 rfl 63 rfl ?_
    refine zk_get dX3_join_63 0 rfl rfl kX3_join_inX3 4 (by decide) kX3_join_2 rfl 66 rfl ?_
    refine zk_iload_n dX3_join_66 2 rfl 67 rfl ?_
    refine zk_iconst (-1) dX3_join_67 (by decide) 68 rfl ?_
    refine zk_iast (gX3 E a (v_first, v_last_3, v_length, v_line, (upd v_behind x2.toNatClampNeg (-1)))) dX3_join_68 5 rfl rfl 69 rfl ?_
    refine zk_nmw (fun v_behind_4 => (gX3 E a (v_first, v_last_3, v_length, v_line, v_behind_4))) _ rfl (fun v_behind_4 => ?_)
    refine zk_aload_n dX3_join_69 0 rfl 70 rfl ?_
    refine zk_get dX3_join_70 0 rfl rfl kX3_join_inX3 3 (by decide) kX3_join_3 rfl 73 rfl ?_
    refine zk_iload_n dX3_join_73 2 rfl 74 rfl ?_
    refine zk_iload_n dX3_join_74 1 rfl 75 rfl ?_
    refine zk_iast (gX3 E a (v_first, v_last_3, v_length, (upd v_line x2.toNatClampNeg x1), v_behind_4)) dX3_join_75 4 rfl rfl 76 rfl ?_
    refine zk_nmw (fun v_line_5 => (gX3 E a (v_first, v_last_3, v_length, v_line_5, v_behind_4))) _ rfl (fun v_line_5 => ?_)
    refine zk_aload_n dX3_join_76 0 rfl 77 rfl ?_
    refine zk_get dX3_join_77 0 rfl rfl kX3_join_inX3 2 (by decide) kX3_join_4 rfl 80 rfl ?_
    refine zk_iload_n dX3_join_80 1 rfl 81 rfl ?_
    refine zk_dup2 dX3_join_81 rfl rfl 82 rfl ?_
    refine zk_iald dX3_join_82 3 rfl 83 rfl ?_
    refine zk_iconst 1 dX3_join_83 (by decide) 84 rfl ?_
    refine zk_iadd dX3_join_84 85 rfl ?_
    refine zk_iast (gX3 E a (v_first, v_last_3, (upd v_length x1.toNatClampNeg ((v_length x1.toNatClampNeg) + 1)), v_line_5, v_behind_4)) dX3_join_85 3 rfl rfl 86 rfl ?_
    refine zk_nmw (fun v_length_6 => (gX3 E a (v_first, v_last_3, v_length_6, v_line_5, v_behind_4))) _ rfl (fun v_length_6 => ?_)
    exact zk_vret hQ dX3_join_86 rfl rfl
  have J38 : ∀ (v_first : (Nat → Int32)) (v_last : (Nat → Int32)) (v_length : (Nat → Int32)) (v_line : (Nat → Int32)) (v_behind : (Nat → Int32)), zk_G E l X cX3_join 4 none yX3_join.cls wsX3_join ({ frames := 0, cells := 0, slots := 0, locals := 0 } : Room) 0 0 Q (gX3 E a (v_first, v_last, v_length, v_line, v_behind)) [(0, .ref a.1), (1, .int x1), (2, .int x2)] 38 [] (f_X3_join_38 x1 x2 v_first v_last v_length v_line v_behind) := by
    intro v_first v_last v_length v_line v_behind
    unfold f_X3_join_38
    refine zk_aload_n dX3_join_38 0 rfl 39 rfl ?_
    refine zk_get dX3_join_39 0 rfl rfl kX3_join_inX3 0 (by decide) kX3_join_5 rfl 42 rfl ?_
    refine zk_iload_n dX3_join_42 1 rfl 43 rfl ?_
    refine zk_iload_n dX3_join_43 2 rfl 44 rfl ?_
    refine zk_iast (gX3 E a ((upd v_first x1.toNatClampNeg x2), v_last, v_length, v_line, v_behind)) dX3_join_44 1 rfl rfl 45 rfl ?_
    refine zk_nmw (fun v_first_7 => (gX3 E a (v_first_7, v_last, v_length, v_line, v_behind))) _ rfl (fun v_first_7 => ?_)
    refine zk_goto dX3_join_45 55 (by decide) ?_
    exact J55   v_first_7 v_last v_length v_line v_behind
  refine zk_eqv (w1 := (gX3 E a (v_first, v_last, v_length, v_line, v_behind))) (lv1 := [(0, .ref a.1), (1, .int x1), (2, .int x2)]) (st1 := []) (o1 := f_X3_join x1 x2 v_first v_last v_length v_line v_behind) rfl rfl rfl rfl ?_
  unfold f_X3_join
  refine zk_iload_n dX3_join_0 1 rfl 1 rfl ?_
  refine zk_if_lt dX3_join_1 20 (by decide) 4 rfl (fun _ => ?_) (fun _ => ?_)
  · exact zk_vret hQ dX3_join_20 rfl rfl
  · refine zk_iload_n dX3_join_4 1 rfl 5 rfl ?_
    refine zk_bipush 25 dX3_join_5 (by decide) 7 rfl ?_
    refine zk_icmp_ge dX3_join_7 20 (by decide) 10 rfl (fun _ => ?_) (fun _ => ?_)
    · exact zk_vret hQ dX3_join_20 rfl rfl
    · refine zk_iload_n dX3_join_10 2 rfl 11 rfl ?_
      refine zk_if_lt dX3_join_11 20 (by decide) 14 rfl (fun _ => ?_) (fun _ => ?_)
      · exact zk_vret hQ dX3_join_20 rfl rfl
      · refine zk_iload_n dX3_join_14 2 rfl 15 rfl ?_
        refine zk_bipush 40 dX3_join_15 (by decide) 17 rfl ?_
        refine zk_icmp_lt dX3_join_17 21 (by decide) 20 rfl (fun _ => ?_) (fun _ => ?_)
        · refine zk_aload_n dX3_join_21 0 rfl 22 rfl ?_
          refine zk_get dX3_join_22 0 rfl rfl kX3_join_inX3 1 (by decide) kX3_join_1 rfl 25 rfl ?_
          refine zk_iload_n dX3_join_25 1 rfl 26 rfl ?_
          refine zk_iald dX3_join_26 2 rfl 27 rfl ?_
          refine zk_nm (fun x3_1 => ?_)
          refine zk_istore_n [(3, .int x3_1), (0, .ref a.1), (1, .int x1), (2, .int x2)] dX3_join_27 (by decide) rfl 28 rfl ?_
          refine zk_iload_n dX3_join_28 0 rfl 29 rfl ?_
          refine zk_if_lt dX3_join_29 38 (by decide) 32 rfl (fun _ => ?_) (fun _ => ?_)
          · refine zk_lv [1, 2, 3] rfl ?_
            exact J38   v_first v_last v_length v_line v_behind
          · refine zk_iload_n dX3_join_32 0 rfl 33 rfl ?_
            refine zk_bipush 40 dX3_join_33 (by decide) 35 rfl ?_
            refine zk_icmp_lt dX3_join_35 48 (by decide) 38 rfl (fun _ => ?_) (fun _ => ?_)
            · refine zk_aload_n dX3_join_48 1 rfl 49 rfl ?_
              refine zk_get dX3_join_49 0 rfl rfl kX3_join_inX3 4 (by decide) kX3_join_2 rfl 52 rfl ?_
              refine zk_iload_n dX3_join_52 0 rfl 53 rfl ?_
              refine zk_iload_n dX3_join_53 3 rfl 54 rfl ?_
              refine zk_iast (gX3 E a (v_first, v_last, v_length, v_line, (upd v_behind x3_1.toNatClampNeg x2))) dX3_join_54 5 rfl rfl 55 rfl ?_
              refine zk_nmw (fun v_behind_2 => (gX3 E a (v_first, v_last, v_length, v_line, v_behind_2))) _ rfl (fun v_behind_2 => ?_)
              refine zk_lv [1, 2, 3] rfl ?_
              exact J55   v_first v_last v_length v_line v_behind_2
            · refine zk_lv [1, 2, 3] rfl ?_
              exact J38   v_first v_last v_length v_line v_behind
        · exact zk_vret hQ dX3_join_20 rfl rfl
def f_X3_leave_124 (x1 : Int32) (x2 : Int32) (v_first : (Nat → Int32)) (v_last : (Nat → Int32)) (v_length : (Nat → Int32)) (v_line : (Nat → Int32)) (v_behind : (Nat → Int32)) : Option ((Nat → Int32) × (Nat → Int32) × (Nat → Int32) × (Nat → Int32) × (Nat → Int32)) := zk_ck x1 40 (zk_let (upd v_behind x1.toNatClampNeg (-1)) fun v_behind_4 => zk_ck x1 40 (zk_let (upd v_line x1.toNatClampNeg (-1)) fun v_line_5 => zk_ck x2 25 (zk_ck x2 25 (zk_let (upd v_length x2.toNatClampNeg ((v_length x2.toNatClampNeg) - 1)) fun v_length_6 => some (v_first, v_last, v_length_6, v_line_5, v_behind_4)))))
def f_X3_leave_107 (x1 : Int32) (x2 : Int32) (x3 : Int32) (v_first : (Nat → Int32)) (v_last : (Nat → Int32)) (v_length : (Nat → Int32)) (v_line : (Nat → Int32)) (v_behind : (Nat → Int32)) : Option ((Nat → Int32) × (Nat → Int32) × (Nat → Int32) × (Nat → Int32) × (Nat → Int32)) := zk_ck x2 25 (if (v_last x2.toNatClampNeg) = x1 then zk_ck x2 25 (zk_let (upd v_last x2.toNatClampNeg x3) fun v_last_3 => f_X3_leave_124 x1 x2 v_first v_last_3 v_length v_line v_behind) else f_X3_leave_124 x1 x2 v_first v_last v_length v_line v_behind)
def f_X3_leave_80 (x1 : Int32) (x2 : Int32) (x3 : Int32) (v_first : (Nat → Int32)) (v_last : (Nat → Int32)) (v_length : (Nat → Int32)) (v_line : (Nat → Int32)) (v_behind : (Nat → Int32)) : Option ((Nat → Int32) × (Nat → Int32) × (Nat → Int32) × (Nat → Int32) × (Nat → Int32)) := zk_ck x1 40 (zk_ck x2 25 (zk_let (upd v_first x2.toNatClampNeg (v_behind x1.toNatClampNeg)) fun v_first_7 => f_X3_leave_107 x1 x2 x3 v_first_7 v_last v_length v_line v_behind))
def f_X3_leave_70 (x1 : Int32) (x2 : Int32) (x3 : Int32) (v_first : (Nat → Int32)) (v_last : (Nat → Int32)) (v_length : (Nat → Int32)) (v_line : (Nat → Int32)) (v_behind : (Nat → Int32)) : Option ((Nat → Int32) × (Nat → Int32) × (Nat → Int32) × (Nat → Int32) × (Nat → Int32)) := if x3 < 0 then f_X3_leave_80 x1 x2 x3 v_first v_last v_length v_line v_behind else if x3 < 40 then zk_ck x1 40 (zk_ck x3 40 (zk_let (upd v_behind x3.toNatClampNeg (v_behind x1.toNatClampNeg)) fun v_behind_2 => f_X3_leave_107 x1 x2 x3 v_first v_last v_length v_line v_behind_2)) else f_X3_leave_80 x1 x2 x3 v_first v_last v_length v_line v_behind
def F_X3_leave_40 (x1 : Int32) (x2 : Int32) (v_first : (Nat → Int32)) (v_last : (Nat → Int32)) (v_length : (Nat → Int32)) (v_line : (Nat → Int32)) (v_behind : (Nat → Int32)) (k40 : Int32 × Int32 × Int32 → Option ((Nat → Int32) × (Nat → Int32) × (Nat → Int32) × (Nat → Int32) × (Nat → Int32))) : Int32 × Int32 × Int32 → Option ((Nat → Int32) × (Nat → Int32) × (Nat → Int32) × (Nat → Int32) × (Nat → Int32)) := fun s => match s with
  | (x3, x4, x5) => if 40 ≤ x5 then f_X3_leave_70 x1 x2 x3 v_first v_last v_length v_line v_behind else if x4 = x1 then f_X3_leave_70 x1 x2 x3 v_first v_last v_length v_line v_behind else (f_X3_follower x4 v_behind).bind fun r59 => k40 (x4, r59, (x5 + 1))
def f_X3_leave (x1 : Int32) (v_first : (Nat → Int32)) (v_last : (Nat → Int32)) (v_length : (Nat → Int32)) (v_line : (Nat → Int32)) (v_behind : (Nat → Int32)) : Option ((Nat → Int32) × (Nat → Int32) × (Nat → Int32) × (Nat → Int32) × (Nat → Int32)) := (f_X3_lineOf x1 v_line).bind fun r2 => if r2 < 0 then some (v_first, v_last, v_length, v_line, v_behind) else if 25 ≤ r2 then some (v_first, v_last, v_length, v_line, v_behind) else if x1 < 0 then some (v_first, v_last, v_length, v_line, v_behind) else if x1 < 40 then zk_ck r2 25 (zk_let (v_first r2.toNatClampNeg) fun x4_1 => zk_fx (F_X3_leave_40 x1 r2 v_first v_last v_length v_line v_behind ) zk_N ((-1), x4_1, 0)) else some (v_first, v_last, v_length, v_line, v_behind)
theorem kX3_leave_inX3 : ∀ w ∈ u_ws RX3 TX3 5, w ∈ wsX3_leave := by decide +kernel
theorem kX3_leave_1 : Cond.fieldLink RX3 9 (TX3 0).1 (TX3 0).2.1 (TX3 0).2.2.1 ∈ wsX3_leave := by decide +kernel
theorem kX3_leave_2 : Cond.fieldLink RX3 24 (TX3 4).1 (TX3 4).2.1 (TX3 4).2.2.1 ∈ wsX3_leave := by decide +kernel
theorem kX3_leave_3 : Cond.fieldLink RX3 15 (TX3 1).1 (TX3 1).2.1 (TX3 1).2.2.1 ∈ wsX3_leave := by decide +kernel
theorem kX3_leave_4 : Cond.fieldLink RX3 21 (TX3 3).1 (TX3 3).2.1 (TX3 3).2.2.1 ∈ wsX3_leave := by decide +kernel
theorem kX3_leave_5 : Cond.fieldLink RX3 18 (TX3 2).1 (TX3 2).2.1 (TX3 2).2.2.1 ∈ wsX3_leave := by decide +kernel
theorem cd_X3_leave : yX3_leave.cls = RX3 ∧ yX3_leave.cls ≠ "java/lang/invoke/MethodHandle" ∧ yX3_leave.cls ≠ "java/lang/invoke/VarHandle" ∧ (parseMethodDescriptor yX3_leave.desc).map (fun d => d.parameters.length) = some 1 := by decide +kernel
set_option maxRecDepth 100000 in
set_option maxHeartbeats 4000000 in
theorem c_X3_leave (E : zk_Env) (l : Launch) (a : aX3) (v : VX3) (x1 : Int32) : zk_Mc E l yX3_leave wsX3_leave ({ frames := 1, cells := 0, slots := 0, locals := 21 } : Room) [.ref a.1, .int x1] (gX3 E a v) (f_X3_leave x1 v.1 v.2.1 v.2.2.1 v.2.2.2.1 v.2.2.2.2) (fun _ => none) (fun r => (gX3 E a r)) := by
  obtain ⟨v_first, v_last, v_length, v_line, v_behind⟩ := v
  refine zk_M (cc := cX3_leave) (nL := 6) (ret := none) (by decide) rfl (Nat.le_of_ble_eq_true rfl) (fun X Q hQ => ?_)
  have J124 : ∀ (x2 : Int32) (v_first : (Nat → Int32)) (v_last : (Nat → Int32)) (v_length : (Nat → Int32)) (v_line : (Nat → Int32)) (v_behind : (Nat → Int32)), zk_G E l X cX3_leave 6 none yX3_leave.cls wsX3_leave ({ frames := 1, cells := 0, slots := 0, locals := 21 } : Room) 0 0 Q (gX3 E a (v_first, v_last, v_length, v_line, v_behind)) [(0, .ref a.1), (1, .int x1), (2, .int x2)] 124 [] (f_X3_leave_124 x1 x2 v_first v_last v_length v_line v_behind) := by
    intro x2 v_first v_last v_length v_line v_behind
    unfold f_X3_leave_124
    refine zk_aload_n dX3_leave_124 0 rfl 125 rfl ?_
    refine zk_get dX3_leave_125 0 rfl rfl kX3_leave_inX3 4 (by decide) kX3_leave_2 rfl 128 rfl ?_
    refine zk_iload_n dX3_leave_128 1 rfl 129 rfl ?_
    refine zk_iconst (-1) dX3_leave_129 (by decide) 130 rfl ?_
    refine zk_iast (gX3 E a (v_first, v_last, v_length, v_line, (upd v_behind x1.toNatClampNeg (-1)))) dX3_leave_130 5 rfl rfl 131 rfl ?_
    refine zk_nmw (fun v_behind_4 => (gX3 E a (v_first, v_last, v_length, v_line, v_behind_4))) _ rfl (fun v_behind_4 => ?_)
    refine zk_aload_n dX3_leave_131 0 rfl 132 rfl ?_
    refine zk_get dX3_leave_132 0 rfl rfl kX3_leave_inX3 3 (by decide) kX3_leave_4 rfl 135 rfl ?_
    refine zk_iload_n dX3_leave_135 1 rfl 136 rfl ?_
    refine zk_iconst (-1) dX3_leave_136 (by decide) 137 rfl ?_
    refine zk_iast (gX3 E a (v_first, v_last, v_length, (upd v_line x1.toNatClampNeg (-1)), v_behind_4)) dX3_leave_137 4 rfl rfl 138 rfl ?_
    refine zk_nmw (fun v_line_5 => (gX3 E a (v_first, v_last, v_length, v_line_5, v_behind_4))) _ rfl (fun v_line_5 => ?_)
    refine zk_aload_n dX3_leave_138 0 rfl 139 rfl ?_
    refine zk_get dX3_leave_139 0 rfl rfl kX3_leave_inX3 2 (by decide) kX3_leave_5 rfl 142 rfl ?_
    refine zk_iload_n dX3_leave_142 2 rfl 143 rfl ?_
    refine zk_dup2 dX3_leave_143 rfl rfl 144 rfl ?_
    refine zk_iald dX3_leave_144 3 rfl 145 rfl ?_
    refine zk_iconst 1 dX3_leave_145 (by decide) 146 rfl ?_
    refine zk_isub dX3_leave_146 147 rfl ?_
    refine zk_iast (gX3 E a (v_first, v_last, (upd v_length x2.toNatClampNeg ((v_length x2.toNatClampNeg) - 1)), v_line_5, v_behind_4)) dX3_leave_147 3 rfl rfl 148 rfl ?_
    refine zk_nmw (fun v_length_6 => (gX3 E a (v_first, v_last, v_length_6, v_line_5, v_behind_4))) _ rfl (fun v_length_6 => ?_)
    exact zk_vret hQ dX3_leave_148 rfl rfl
  have J107 : ∀ (x2 : Int32) (x3 : Int32) (v_first : (Nat → Int32)) (v_last : (Nat → Int32)) (v_length : (Nat → Int32)) (v_line : (Nat → Int32)) (v_behind : (Nat → Int32)), zk_G E l X cX3_leave 6 none yX3_leave.cls wsX3_leave ({ frames := 1, cells := 0, slots := 0, locals := 21 } : Room) 0 0 Q (gX3 E a (v_first, v_last, v_length, v_line, v_behind)) [(0, .ref a.1), (1, .int x1), (2, .int x2), (3, .int x3)] 107 [] (f_X3_leave_107 x1 x2 x3 v_first v_last v_length v_line v_behind) := by
    intro x2 x3 v_first v_last v_length v_line v_behind
    unfold f_X3_leave_107
    refine zk_aload_n dX3_leave_107 0 rfl 108 rfl ?_
    refine zk_get dX3_leave_108 0 rfl rfl kX3_leave_inX3 1 (by decide) kX3_leave_3 rfl 111 rfl ?_
    refine zk_iload_n dX3_leave_111 2 rfl 112 rfl ?_
    refine zk_iald dX3_leave_112 2 rfl 113 rfl ?_
    refine zk_iload_n dX3_leave_113 1 rfl 114 rfl ?_
    refine zk_icmp_ne dX3_leave_114 124 (by decide) 117 rfl (fun _ => ?_) (fun _ => ?_)
    · refine zk_aload_n dX3_leave_117 0 rfl 118 rfl ?_
      refine zk_get dX3_leave_118 0 rfl rfl kX3_leave_inX3 1 (by decide) kX3_leave_3 rfl 121 rfl ?_
      refine zk_iload_n dX3_leave_121 2 rfl 122 rfl ?_
      refine zk_iload_n dX3_leave_122 3 rfl 123 rfl ?_
      refine zk_iast (gX3 E a (v_first, (upd v_last x2.toNatClampNeg x3), v_length, v_line, v_behind)) dX3_leave_123 2 rfl rfl 124 rfl ?_
      refine zk_nmw (fun v_last_3 => (gX3 E a (v_first, v_last_3, v_length, v_line, v_behind))) _ rfl (fun v_last_3 => ?_)
      refine zk_lv [0, 1, 2] rfl ?_
      exact J124   x2 v_first v_last_3 v_length v_line v_behind
    · refine zk_lv [0, 1, 2] rfl ?_
      exact J124   x2 v_first v_last v_length v_line v_behind
  have J80 : ∀ (x2 : Int32) (x3 : Int32) (v_first : (Nat → Int32)) (v_last : (Nat → Int32)) (v_length : (Nat → Int32)) (v_line : (Nat → Int32)) (v_behind : (Nat → Int32)), zk_G E l X cX3_leave 6 none yX3_leave.cls wsX3_leave ({ frames := 1, cells := 0, slots := 0, locals := 21 } : Room) 0 0 Q (gX3 E a (v_first, v_last, v_length, v_line, v_behind)) [(0, .ref a.1), (1, .int x1), (2, .int x2), (3, .int x3)] 80 [] (f_X3_leave_80 x1 x2 x3 v_first v_last v_length v_line v_behind) := by
    intro x2 x3 v_first v_last v_length v_line v_behind
    unfold f_X3_leave_80
    refine zk_aload_n dX3_leave_80 0 rfl 81 rfl ?_
    refine zk_get dX3_leave_81 0 rfl rfl kX3_leave_inX3 0 (by decide) kX3_leave_1 rfl 84 rfl ?_
    refine zk_iload_n dX3_leave_84 2 rfl 85 rfl ?_
    refine zk_aload_n dX3_leave_85 0 rfl 86 rfl ?_
    refine zk_get dX3_leave_86 0 rfl rfl kX3_leave_inX3 4 (by decide) kX3_leave_2 rfl 89 rfl ?_
    refine zk_iload_n dX3_leave_89 1 rfl 90 rfl ?_
    refine zk_iald dX3_leave_90 5 rfl 91 rfl ?_
    refine zk_iast (gX3 E a ((upd v_first x2.toNatClampNeg (v_behind x1.toNatClampNeg)), v_last, v_length, v_line, v_behind)) dX3_leave_91 1 rfl rfl 92 rfl ?_
    refine zk_nmw (fun v_first_7 => (gX3 E a (v_first_7, v_last, v_length, v_line, v_behind))) _ rfl (fun v_first_7 => ?_)
    refine zk_goto dX3_leave_92 107 (by decide) ?_
    exact J107   x2 x3 v_first_7 v_last v_length v_line v_behind
  have J70 : ∀ (x2 : Int32) (x3 : Int32) (v_first : (Nat → Int32)) (v_last : (Nat → Int32)) (v_length : (Nat → Int32)) (v_line : (Nat → Int32)) (v_behind : (Nat → Int32)), zk_G E l X cX3_leave 6 none yX3_leave.cls wsX3_leave ({ frames := 1, cells := 0, slots := 0, locals := 21 } : Room) 0 0 Q (gX3 E a (v_first, v_last, v_length, v_line, v_behind)) [(0, .ref a.1), (1, .int x1), (2, .int x2), (3, .int x3)] 70 [] (f_X3_leave_70 x1 x2 x3 v_first v_last v_length v_line v_behind) := by
    intro x2 x3 v_first v_last v_length v_line v_behind
    unfold f_X3_leave_70
    refine zk_iload_n dX3_leave_70 3 rfl 71 rfl ?_
    refine zk_if_lt dX3_leave_71 80 (by decide) 74 rfl (fun _ => ?_) (fun _ => ?_)
    · exact J80   x2 x3 v_first v_last v_length v_line v_behind
    · refine zk_iload_n dX3_leave_74 3 rfl 75 rfl ?_
      refine zk_bipush 40 dX3_leave_75 (by decide) 77 rfl ?_
      refine zk_icmp_lt dX3_leave_77 95 (by decide) 80 rfl (fun _ => ?_) (fun _ => ?_)
      · refine zk_aload_n dX3_leave_95 0 rfl 96 rfl ?_
        refine zk_get dX3_leave_96 0 rfl rfl kX3_leave_inX3 4 (by decide) kX3_leave_2 rfl 99 rfl ?_
        refine zk_iload_n dX3_leave_99 3 rfl 100 rfl ?_
        refine zk_aload_n dX3_leave_100 0 rfl 101 rfl ?_
        refine zk_get dX3_leave_101 0 rfl rfl kX3_leave_inX3 4 (by decide) kX3_leave_2 rfl 104 rfl ?_
        refine zk_iload_n dX3_leave_104 1 rfl 105 rfl ?_
        refine zk_iald dX3_leave_105 5 rfl 106 rfl ?_
        refine zk_iast (gX3 E a (v_first, v_last, v_length, v_line, (upd v_behind x3.toNatClampNeg (v_behind x1.toNatClampNeg)))) dX3_leave_106 5 rfl rfl 107 rfl ?_
        refine zk_nmw (fun v_behind_2 => (gX3 E a (v_first, v_last, v_length, v_line, v_behind_2))) _ rfl (fun v_behind_2 => ?_)
        exact J107   x2 x3 v_first v_last v_length v_line v_behind_2
      · exact J80   x2 x3 v_first v_last v_length v_line v_behind
  have J40 : ∀ (x2 : Int32) (v_first : (Nat → Int32)) (v_last : (Nat → Int32)) (v_length : (Nat → Int32)) (v_line : (Nat → Int32)) (v_behind : (Nat → Int32)) (n : Nat) (x3 : Int32) (x4 : Int32) (x5 : Int32), zk_G E l X cX3_leave 6 none yX3_leave.cls wsX3_leave ({ frames := 1, cells := 0, slots := 0, locals := 21 } : Room) 0 0 Q (gX3 E a (v_first, v_last, v_length, v_line, v_behind)) [(0, .ref a.1), (1, .int x1), (2, .int x2), (3, .int x3), (4, .int x4), (5, .int x5)] 40 [] (zk_fx (F_X3_leave_40 x1 x2 v_first v_last v_length v_line v_behind ) n (x3, x4, x5)) := by
    intro x2 v_first v_last v_length v_line v_behind n x3 x4 x5
    refine zk_loop (S := Int32 × Int32 × Int32) (F := F_X3_leave_40 x1 x2 v_first v_last v_length v_line v_behind) (wS := fun s => (gX3 E a (v_first, v_last, v_length, v_line, v_behind))) (lS := fun s => [(0, .ref a.1), (1, .int x1), (2, .int x2), (3, .int s.1), (4, .int s.2.1), (5, .int s.2.2)]) (sS := fun _ => []) (fun k40 hk40 s => ?_) n (x3, x4, x5)
    obtain ⟨x3, x4, x5⟩ := s
    unfold F_X3_leave_40
    try dsimp only
    refine zk_iload dX3_leave_40 5 rfl 42 rfl ?_
    refine zk_bipush 40 dX3_leave_42 (by decide) 44 rfl ?_
    refine zk_icmp_ge dX3_leave_44 70 (by decide) 47 rfl (fun _ => ?_) (fun _ => ?_)
    · refine zk_lv [0, 1, 2, 3] rfl ?_
      exact J70   x2 x3 v_first v_last v_length v_line v_behind
    · refine zk_iload dX3_leave_47 4 rfl 49 rfl ?_
      refine zk_iload_n dX3_leave_49 1 rfl 50 rfl ?_
      refine zk_icmp_eq dX3_leave_50 70 (by decide) 53 rfl (fun _ => ?_) (fun _ => ?_)
      · refine zk_lv [0, 1, 2, 3] rfl ?_
        exact J70   x2 x3 v_first v_last v_length v_line v_behind
      · refine zk_iload dX3_leave_53 4 rfl 55 rfl ?_
        refine zk_istore_n [(3, .int x4), (0, .ref a.1), (1, .int x1), (2, .int x2), (4, .int x4), (5, .int x5)] dX3_leave_55 (by decide) rfl 56 rfl ?_
        refine zk_aload_n dX3_leave_56 1 rfl 57 rfl ?_
        refine zk_iload dX3_leave_57 4 rfl 59 rfl ?_
        refine zk_callV (ci := 3) (st := []) (c_X3_follower E l a (v_first, v_last, v_length, v_line, v_behind) x4) dX3_leave_59 1 gX3_leave_X3_follower rfl rfl rfl cd_X3_follower ⟨Nat.le_of_ble_eq_true rfl, Nat.le_of_ble_eq_true rfl⟩ ⟨Nat.zero_le _, Nat.zero_le _⟩ _ (fun r59 => (gX3 E a (v_first, v_last, v_length, v_line, v_behind))) zk_pa (fun r59 => zk_qa) rfl rfl rfl rfl (Nat.le_of_ble_eq_true rfl) (fun r59 => [.int r59]) (fun _ => rfl) 62 rfl (fun r59 => ?_)
        refine zk_istore [(4, .int r59), (3, .int x4), (0, .ref a.1), (1, .int x1), (2, .int x2), (5, .int x5)] dX3_leave_62 (by decide) rfl 64 rfl ?_
        refine zk_iinc (x5 + 1) [(5, .int (x5 + 1)), (4, .int r59), (3, .int x4), (0, .ref a.1), (1, .int x1), (2, .int x2)] dX3_leave_64 5 rfl rfl (by decide) rfl 67 rfl ?_
        refine zk_goto dX3_leave_67 40 (by decide) ?_
        refine zk_lv [3, 4, 5, 2, 1, 0] rfl ?_
        exact hk40 (x4, r59, (x5 + 1))
  refine zk_eqv (w1 := (gX3 E a (v_first, v_last, v_length, v_line, v_behind))) (lv1 := [(0, .ref a.1), (1, .int x1)]) (st1 := []) (o1 := f_X3_leave x1 v_first v_last v_length v_line v_behind) rfl rfl rfl rfl ?_
  unfold f_X3_leave
  refine zk_aload_n dX3_leave_0 0 rfl 1 rfl ?_
  refine zk_iload_n dX3_leave_1 1 rfl 2 rfl ?_
  refine zk_callV (ci := 3) (st := []) (c_X3_lineOf E l a (v_first, v_last, v_length, v_line, v_behind) x1) dX3_leave_2 1 gX3_leave_X3_lineOf rfl rfl rfl cd_X3_lineOf ⟨Nat.le_of_ble_eq_true rfl, Nat.le_of_ble_eq_true rfl⟩ ⟨Nat.zero_le _, Nat.zero_le _⟩ _ (fun r2 => (gX3 E a (v_first, v_last, v_length, v_line, v_behind))) zk_pa (fun r2 => zk_qa) rfl rfl rfl rfl (Nat.le_of_ble_eq_true rfl) (fun r2 => [.int r2]) (fun _ => rfl) 5 rfl (fun r2 => ?_)
  refine zk_istore_n [(2, .int r2), (0, .ref a.1), (1, .int x1)] dX3_leave_5 (by decide) rfl 6 rfl ?_
  refine zk_iload_n dX3_leave_6 0 rfl 7 rfl ?_
  refine zk_if_lt dX3_leave_7 26 (by decide) 10 rfl (fun _ => ?_) (fun _ => ?_)
  · exact zk_vret hQ dX3_leave_26 rfl rfl
  · refine zk_iload_n dX3_leave_10 0 rfl 11 rfl ?_
    refine zk_bipush 25 dX3_leave_11 (by decide) 13 rfl ?_
    refine zk_icmp_ge dX3_leave_13 26 (by decide) 16 rfl (fun _ => ?_) (fun _ => ?_)
    · exact zk_vret hQ dX3_leave_26 rfl rfl
    · refine zk_iload_n dX3_leave_16 2 rfl 17 rfl ?_
      refine zk_if_lt dX3_leave_17 26 (by decide) 20 rfl (fun _ => ?_) (fun _ => ?_)
      · exact zk_vret hQ dX3_leave_26 rfl rfl
      · refine zk_iload_n dX3_leave_20 2 rfl 21 rfl ?_
        refine zk_bipush 40 dX3_leave_21 (by decide) 23 rfl ?_
        refine zk_icmp_lt dX3_leave_23 27 (by decide) 26 rfl (fun _ => ?_) (fun _ => ?_)
        · refine zk_iconst (-1) dX3_leave_27 (by decide) 28 rfl ?_
          refine zk_istore_n [(3, .int (-1)), (2, .int r2), (0, .ref a.1), (1, .int x1)] dX3_leave_28 (by decide) rfl 29 rfl ?_
          refine zk_aload_n dX3_leave_29 2 rfl 30 rfl ?_
          refine zk_get dX3_leave_30 0 rfl rfl kX3_leave_inX3 0 (by decide) kX3_leave_1 rfl 33 rfl ?_
          refine zk_iload_n dX3_leave_33 1 rfl 34 rfl ?_
          refine zk_iald dX3_leave_34 1 rfl 35 rfl ?_
          refine zk_nm (fun x4_1 => ?_)
          refine zk_istore [(4, .int x4_1), (3, .int (-1)), (2, .int r2), (0, .ref a.1), (1, .int x1)] dX3_leave_35 (by decide) rfl 37 rfl ?_
          refine zk_iconst 0 dX3_leave_37 (by decide) 38 rfl ?_
          refine zk_istore [(5, .int 0), (4, .int x4_1), (3, .int (-1)), (2, .int r2), (0, .ref a.1), (1, .int x1)] dX3_leave_38 (by decide) rfl 40 rfl ?_
          refine zk_lv [4, 5, 3, 2, 1, 0] rfl ?_
          exact J40   r2 v_first v_last v_length v_line v_behind zk_N (-1) x4_1 0
        · exact zk_vret hQ dX3_leave_26 rfl rfl
def f_X5_copyFrom (v_facts : (Nat → Int32)) (u_facts : (Nat → Int32)) (u_given : Int32) : Option ((Nat → Int32) × Int32) := zk_let (va_cpy u_facts v_facts 0 0 240) fun v_facts_1 => some (v_facts_1, u_given)
theorem kX5_copyFrom_inX5 : ∀ w ∈ u_ws RX5 TX5 2, w ∈ wsX5_copyFrom := by decide +kernel
theorem kX5_copyFrom_1 : Cond.fieldLink RX5 11 (TX5 0).1 (TX5 0).2.1 (TX5 0).2.2.1 ∈ wsX5_copyFrom := by decide +kernel
theorem kX5_copyFrom_2 : Cond.methodLink RX5 15 arraycopyName ∈ wsX5_copyFrom := by decide +kernel
theorem kX5_copyFrom_3 : Cond.native arraycopyName ∈ wsX5_copyFrom := by decide +kernel
theorem kX5_copyFrom_4 : Cond.static arraycopyName ∈ wsX5_copyFrom := by decide +kernel
theorem kX5_copyFrom_5 : Cond.initialized "java/lang/System" ∈ wsX5_copyFrom := by decide +kernel
theorem kX5_copyFrom_6 : Cond.fieldLink RX5 21 (TX5 1).1 (TX5 1).2.1 (TX5 1).2.2.1 ∈ wsX5_copyFrom := by decide +kernel
theorem cd_X5_copyFrom : yX5_copyFrom.cls = RX5 ∧ yX5_copyFrom.cls ≠ "java/lang/invoke/MethodHandle" ∧ yX5_copyFrom.cls ≠ "java/lang/invoke/VarHandle" ∧ (parseMethodDescriptor yX5_copyFrom.desc).map (fun d => d.parameters.length) = some 1 := by decide +kernel
set_option maxRecDepth 100000 in
set_option maxHeartbeats 4000000 in
theorem c_X5_copyFrom (E : zk_Env) (l : Launch) (a : aX5) (v : VX5) (b1 : aX5) (u1 : VX5)  : zk_Mc E l yX5_copyFrom wsX5_copyFrom ({ frames := 1, cells := 0, slots := 0, locals := 18 } : Room) [.ref a.1, .ref b1.1] (zk_j [gX5 E a v, gX5 E b1 u1]) (f_X5_copyFrom v.1 u1.1 u1.2) (fun _ => none) (fun r => (zk_j [gX5 E a r, gX5 E b1 u1])) := by
  obtain ⟨v_facts, v_given⟩ := v
  obtain ⟨u_facts, u_given⟩ := u1
  refine zk_M (cc := cX5_copyFrom) (nL := 2) (ret := none) (by decide) rfl (Nat.le_of_ble_eq_true rfl) (fun X Q hQ => ?_)
  refine zk_eqv (w1 := (zk_j [gX5 E a (v_facts, v_given), gX5 E b1 (u_facts, u_given)])) (lv1 := [(0, .ref a.1), (1, .ref b1.1)]) (st1 := []) (o1 := f_X5_copyFrom v_facts u_facts u_given) rfl rfl rfl rfl ?_
  unfold f_X5_copyFrom
  refine zk_aload_n dX5_copyFrom_0 1 rfl 1 rfl ?_
  refine zk_get dX5_copyFrom_1 2 rfl rfl kX5_copyFrom_inX5 0 (by decide) kX5_copyFrom_1 rfl 4 rfl ?_
  refine zk_iconst 0 dX5_copyFrom_4 (by decide) 5 rfl ?_
  refine zk_aload_n dX5_copyFrom_5 0 rfl 6 rfl ?_
  refine zk_get dX5_copyFrom_6 0 rfl rfl kX5_copyFrom_inX5 0 (by decide) kX5_copyFrom_1 rfl 9 rfl ?_
  refine zk_iconst 0 dX5_copyFrom_9 (by decide) 10 rfl ?_
  refine zk_sipush 240 dX5_copyFrom_10 (by decide) 13 rfl ?_
  refine zk_acopy 240 (zk_j [gX5 E a ((va_cpy u_facts v_facts 0 0 240), v_given), gX5 E b1 (u_facts, u_given)]) dX5_copyFrom_13 kX5_copyFrom_2 kX5_copyFrom_3 kX5_copyFrom_4 kX5_copyFrom_5 3 1 rfl rfl rfl rfl rfl (Nat.le_of_ble_eq_true rfl) (Nat.le_of_ble_eq_true rfl) (Nat.le_of_ble_eq_true rfl) (Nat.le_of_ble_eq_true rfl) (Nat.le_of_ble_eq_true rfl) rfl 16 rfl ?_
  refine zk_nmw (fun v_facts_1 => (zk_j [gX5 E a (v_facts_1, v_given), gX5 E b1 (u_facts, u_given)])) _ rfl (fun v_facts_1 => ?_)
  refine zk_aload_n dX5_copyFrom_16 0 rfl 17 rfl ?_
  refine zk_aload_n dX5_copyFrom_17 1 rfl 18 rfl ?_
  refine zk_get dX5_copyFrom_18 2 rfl rfl kX5_copyFrom_inX5 1 (by decide) kX5_copyFrom_6 rfl 21 rfl ?_
  refine zk_put_ tyX5 (zk_j [gX5 E a (v_facts_1, u_given), gX5 E b1 (u_facts, u_given)]) dX5_copyFrom_21 0 rfl rfl kX5_copyFrom_inX5 tyX5_ok nmX5 1 (by decide) kX5_copyFrom_6 rfl (tyX5_ok 1 (by decide)) rfl rfl (Nat.le_of_ble_eq_true rfl) rfl 24 rfl ?_
  exact zk_vret hQ dX5_copyFrom_24 rfl rfl
def f_X5_given (v_given : Int32) : Option (Int32) := some v_given
theorem kX5_given_inX5 : ∀ w ∈ u_ws RX5 TX5 2, w ∈ wsX5_given := by decide +kernel
theorem kX5_given_1 : Cond.fieldLink RX5 21 (TX5 1).1 (TX5 1).2.1 (TX5 1).2.2.1 ∈ wsX5_given := by decide +kernel
theorem cd_X5_given : yX5_given.cls = RX5 ∧ yX5_given.cls ≠ "java/lang/invoke/MethodHandle" ∧ yX5_given.cls ≠ "java/lang/invoke/VarHandle" ∧ (parseMethodDescriptor yX5_given.desc).map (fun d => d.parameters.length) = some 0 := by decide +kernel
set_option maxRecDepth 100000 in
set_option maxHeartbeats 4000000 in
theorem c_X5_given (E : zk_Env) (l : Launch) (a : aX5) (v : VX5)  : zk_Mc E l yX5_given wsX5_given ({ frames := 0, cells := 0, slots := 0, locals := 0 } : Room) [.ref a.1] (gX5 E a v) (f_X5_given v.2) (fun r => some (.int r)) (fun r => (gX5 E a v)) := by
  obtain ⟨v_facts, v_given⟩ := v
  refine zk_M (cc := cX5_given) (nL := 1) (ret := (some .int)) (by decide) rfl (Nat.le_of_ble_eq_true rfl) (fun X Q hQ => ?_)
  refine zk_eqv (w1 := (gX5 E a (v_facts, v_given))) (lv1 := [(0, .ref a.1)]) (st1 := []) (o1 := f_X5_given v_given) rfl rfl rfl rfl ?_
  unfold f_X5_given
  refine zk_aload_n dX5_given_0 0 rfl 1 rfl ?_
  refine zk_get dX5_given_1 0 rfl rfl kX5_given_inX5 1 (by decide) kX5_given_1 rfl 4 rfl ?_
  exact zk_iret hQ dX5_given_4 rfl rfl
def f_X5_has (x1 : Int32) (v_given : Int32) : Option (Int32) := if x1 < 0 then some 0 else if v_given ≤ x1 then some 0 else some 1
theorem kX5_has_inX5 : ∀ w ∈ u_ws RX5 TX5 2, w ∈ wsX5_has := by decide +kernel
theorem kX5_has_1 : Cond.fieldLink RX5 21 (TX5 1).1 (TX5 1).2.1 (TX5 1).2.2.1 ∈ wsX5_has := by decide +kernel
theorem cd_X5_has : yX5_has.cls = RX5 ∧ yX5_has.cls ≠ "java/lang/invoke/MethodHandle" ∧ yX5_has.cls ≠ "java/lang/invoke/VarHandle" ∧ (parseMethodDescriptor yX5_has.desc).map (fun d => d.parameters.length) = some 1 := by decide +kernel
set_option maxRecDepth 100000 in
set_option maxHeartbeats 4000000 in
theorem c_X5_has (E : zk_Env) (l : Launch) (a : aX5) (v : VX5) (x1 : Int32) : zk_Mc E l yX5_has wsX5_has ({ frames := 0, cells := 0, slots := 0, locals := 0 } : Room) [.ref a.1, .int x1] (gX5 E a v) (f_X5_has x1 v.2) (fun r => some (.int r)) (fun r => (gX5 E a v)) := by
  obtain ⟨v_facts, v_given⟩ := v
  refine zk_M (cc := cX5_has) (nL := 2) (ret := (some .boolean)) (by decide) rfl (Nat.le_of_ble_eq_true rfl) (fun X Q hQ => ?_)
  refine zk_eqv (w1 := (gX5 E a (v_facts, v_given))) (lv1 := [(0, .ref a.1), (1, .int x1)]) (st1 := []) (o1 := f_X5_has x1 v_given) rfl rfl rfl rfl ?_
  unfold f_X5_has
  refine zk_iload_n dX5_has_0 1 rfl 1 rfl ?_
  refine zk_if_lt dX5_has_1 16 (by decide) 4 rfl (fun _ => ?_) (fun _ => ?_)
  · refine zk_iconst 0 dX5_has_16 (by decide) 17 rfl ?_
    exact zk_zretL hQ dX5_has_17 (Or.inl rfl) rfl rfl
  · refine zk_iload_n dX5_has_4 1 rfl 5 rfl ?_
    refine zk_aload_n dX5_has_5 0 rfl 6 rfl ?_
    refine zk_get dX5_has_6 0 rfl rfl kX5_has_inX5 1 (by decide) kX5_has_1 rfl 9 rfl ?_
    refine zk_icmp_ge dX5_has_9 16 (by decide) 12 rfl (fun _ => ?_) (fun _ => ?_)
    · refine zk_iconst 0 dX5_has_16 (by decide) 17 rfl ?_
      exact zk_zretL hQ dX5_has_17 (Or.inl rfl) rfl rfl
    · refine zk_iconst 1 dX5_has_12 (by decide) 13 rfl ?_
      refine zk_goto dX5_has_13 17 (by decide) ?_
      exact zk_zretL hQ dX5_has_17 (Or.inr rfl) rfl rfl
def f_X5_fact (x1 : Int32) (x2 : Int32) (v_facts : (Nat → Int32)) : Option (Int32) := if x1 < 0 then some 0 else if 40 ≤ x1 then some 0 else if x2 < 0 then some 0 else if x2 < 6 then zk_ck ((x1 * 6) + x2) 240 (some (v_facts ((x1 * 6) + x2).toNatClampNeg)) else some 0
theorem kX5_fact_inX5 : ∀ w ∈ u_ws RX5 TX5 2, w ∈ wsX5_fact := by decide +kernel
theorem kX5_fact_1 : Cond.fieldLink RX5 11 (TX5 0).1 (TX5 0).2.1 (TX5 0).2.2.1 ∈ wsX5_fact := by decide +kernel
theorem cd_X5_fact : yX5_fact.cls = RX5 ∧ yX5_fact.cls ≠ "java/lang/invoke/MethodHandle" ∧ yX5_fact.cls ≠ "java/lang/invoke/VarHandle" ∧ (parseMethodDescriptor yX5_fact.desc).map (fun d => d.parameters.length) = some 2 := by decide +kernel
set_option maxRecDepth 100000 in
set_option maxHeartbeats 4000000 in
theorem c_X5_fact (E : zk_Env) (l : Launch) (a : aX5) (v : VX5) (x1 : Int32) (x2 : Int32) : zk_Mc E l yX5_fact wsX5_fact ({ frames := 0, cells := 0, slots := 0, locals := 0 } : Room) [.ref a.1, .int x1, .int x2] (gX5 E a v) (f_X5_fact x1 x2 v.1) (fun r => some (.int r)) (fun r => (gX5 E a v)) := by
  obtain ⟨v_facts, v_given⟩ := v
  refine zk_M (cc := cX5_fact) (nL := 3) (ret := (some .int)) (by decide) rfl (Nat.le_of_ble_eq_true rfl) (fun X Q hQ => ?_)
  refine zk_eqv (w1 := (gX5 E a (v_facts, v_given))) (lv1 := [(0, .ref a.1), (1, .int x1), (2, .int x2)]) (st1 := []) (o1 := f_X5_fact x1 x2 v_facts) rfl rfl rfl rfl ?_
  unfold f_X5_fact
  refine zk_iload_n dX5_fact_0 1 rfl 1 rfl ?_
  refine zk_if_lt dX5_fact_1 20 (by decide) 4 rfl (fun _ => ?_) (fun _ => ?_)
  · refine zk_iconst 0 dX5_fact_20 (by decide) 21 rfl ?_
    exact zk_iret hQ dX5_fact_21 rfl rfl
  · refine zk_iload_n dX5_fact_4 1 rfl 5 rfl ?_
    refine zk_bipush 40 dX5_fact_5 (by decide) 7 rfl ?_
    refine zk_icmp_ge dX5_fact_7 20 (by decide) 10 rfl (fun _ => ?_) (fun _ => ?_)
    · refine zk_iconst 0 dX5_fact_20 (by decide) 21 rfl ?_
      exact zk_iret hQ dX5_fact_21 rfl rfl
    · refine zk_iload_n dX5_fact_10 2 rfl 11 rfl ?_
      refine zk_if_lt dX5_fact_11 20 (by decide) 14 rfl (fun _ => ?_) (fun _ => ?_)
      · refine zk_iconst 0 dX5_fact_20 (by decide) 21 rfl ?_
        exact zk_iret hQ dX5_fact_21 rfl rfl
      · refine zk_iload_n dX5_fact_14 2 rfl 15 rfl ?_
        refine zk_bipush 6 dX5_fact_15 (by decide) 17 rfl ?_
        refine zk_icmp_lt dX5_fact_17 22 (by decide) 20 rfl (fun _ => ?_) (fun _ => ?_)
        · refine zk_aload_n dX5_fact_22 0 rfl 23 rfl ?_
          refine zk_get dX5_fact_23 0 rfl rfl kX5_fact_inX5 0 (by decide) kX5_fact_1 rfl 26 rfl ?_
          refine zk_iload_n dX5_fact_26 1 rfl 27 rfl ?_
          refine zk_bipush 6 dX5_fact_27 (by decide) 29 rfl ?_
          refine zk_imul dX5_fact_29 30 rfl ?_
          refine zk_iload_n dX5_fact_30 2 rfl 31 rfl ?_
          refine zk_iadd dX5_fact_31 32 rfl ?_
          refine zk_iald dX5_fact_32 1 rfl 33 rfl ?_
          exact zk_iret hQ dX5_fact_33 rfl rfl
        · refine zk_iconst 0 dX5_fact_20 (by decide) 21 rfl ?_
          exact zk_iret hQ dX5_fact_21 rfl rfl
def f_X5_write (x1 : Int32) (x2 : Int32) (x3 : Int32) (v_facts : (Nat → Int32)) : Option ((Nat → Int32)) := if x1 < 0 then some v_facts else if 40 ≤ x1 then some v_facts else if x2 < 0 then some v_facts else if x2 < 6 then zk_ck ((x1 * 6) + x2) 240 (zk_let (upd v_facts ((x1 * 6) + x2).toNatClampNeg x3) fun v_facts_1 => some v_facts_1) else some v_facts
theorem kX5_write_inX5 : ∀ w ∈ u_ws RX5 TX5 2, w ∈ wsX5_write := by decide +kernel
theorem kX5_write_1 : Cond.fieldLink RX5 11 (TX5 0).1 (TX5 0).2.1 (TX5 0).2.2.1 ∈ wsX5_write := by decide +kernel
theorem cd_X5_write : yX5_write.cls = RX5 ∧ yX5_write.cls ≠ "java/lang/invoke/MethodHandle" ∧ yX5_write.cls ≠ "java/lang/invoke/VarHandle" ∧ (parseMethodDescriptor yX5_write.desc).map (fun d => d.parameters.length) = some 3 := by decide +kernel
set_option maxRecDepth 100000 in
set_option maxHeartbeats 4000000 in
theorem c_X5_write (E : zk_Env) (l : Launch) (a : aX5) (v : VX5) (x1 : Int32) (x2 : Int32) (x3 : Int32) : zk_Mc E l yX5_write wsX5_write ({ frames := 0, cells := 0, slots := 0, locals := 0 } : Room) [.ref a.1, .int x1, .int x2, .int x3] (gX5 E a v) (f_X5_write x1 x2 x3 v.1) (fun _ => none) (fun r => (gX5 E a (r, v.2))) := by
  obtain ⟨v_facts, v_given⟩ := v
  refine zk_M (cc := cX5_write) (nL := 4) (ret := none) (by decide) rfl (Nat.le_of_ble_eq_true rfl) (fun X Q hQ => ?_)
  refine zk_eqv (w1 := (gX5 E a (v_facts, v_given))) (lv1 := [(0, .ref a.1), (1, .int x1), (2, .int x2), (3, .int x3)]) (st1 := []) (o1 := f_X5_write x1 x2 x3 v_facts) rfl rfl rfl rfl ?_
  unfold f_X5_write
  refine zk_iload_n dX5_write_0 1 rfl 1 rfl ?_
  refine zk_if_lt dX5_write_1 20 (by decide) 4 rfl (fun _ => ?_) (fun _ => ?_)
  · exact zk_vret hQ dX5_write_20 rfl rfl
  · refine zk_iload_n dX5_write_4 1 rfl 5 rfl ?_
    refine zk_bipush 40 dX5_write_5 (by decide) 7 rfl ?_
    refine zk_icmp_ge dX5_write_7 20 (by decide) 10 rfl (fun _ => ?_) (fun _ => ?_)
    · exact zk_vret hQ dX5_write_20 rfl rfl
    · refine zk_iload_n dX5_write_10 2 rfl 11 rfl ?_
      refine zk_if_lt dX5_write_11 20 (by decide) 14 rfl (fun _ => ?_) (fun _ => ?_)
      · exact zk_vret hQ dX5_write_20 rfl rfl
      · refine zk_iload_n dX5_write_14 2 rfl 15 rfl ?_
        refine zk_bipush 6 dX5_write_15 (by decide) 17 rfl ?_
        refine zk_icmp_lt dX5_write_17 21 (by decide) 20 rfl (fun _ => ?_) (fun _ => ?_)
        · refine zk_aload_n dX5_write_21 0 rfl 22 rfl ?_
          refine zk_get dX5_write_22 0 rfl rfl kX5_write_inX5 0 (by decide) kX5_write_1 rfl 25 rfl ?_
          refine zk_iload_n dX5_write_25 1 rfl 26 rfl ?_
          refine zk_bipush 6 dX5_write_26 (by decide) 28 rfl ?_
          refine zk_imul dX5_write_28 29 rfl ?_
          refine zk_iload_n dX5_write_29 2 rfl 30 rfl ?_
          refine zk_iadd dX5_write_30 31 rfl ?_
          refine zk_iload_n dX5_write_31 3 rfl 32 rfl ?_
          refine zk_iast (gX5 E a ((upd v_facts ((x1 * 6) + x2).toNatClampNeg x3), v_given)) dX5_write_32 1 rfl rfl 33 rfl ?_
          refine zk_nmw (fun v_facts_1 => (gX5 E a (v_facts_1, v_given))) _ rfl (fun v_facts_1 => ?_)
          exact zk_vret hQ dX5_write_33 rfl rfl
        · exact zk_vret hQ dX5_write_20 rfl rfl
def f_X5_isIn (x1 : Int32) (x2 : Int32) (v_facts : (Nat → Int32)) : Option (Int32) := (f_X5_fact x1 0 v_facts).bind fun r3 => if r3 = x2 then some 1 else some 0
theorem cd_X5_isIn : yX5_isIn.cls = RX5 ∧ yX5_isIn.cls ≠ "java/lang/invoke/MethodHandle" ∧ yX5_isIn.cls ≠ "java/lang/invoke/VarHandle" ∧ (parseMethodDescriptor yX5_isIn.desc).map (fun d => d.parameters.length) = some 2 := by decide +kernel
set_option maxRecDepth 100000 in
set_option maxHeartbeats 4000000 in
theorem c_X5_isIn (E : zk_Env) (l : Launch) (a : aX5) (v : VX5) (x1 : Int32) (x2 : Int32) : zk_Mc E l yX5_isIn wsX5_isIn ({ frames := 1, cells := 0, slots := 0, locals := 22 } : Room) [.ref a.1, .int x1, .int x2] (gX5 E a v) (f_X5_isIn x1 x2 v.1) (fun r => some (.int r)) (fun r => (gX5 E a v)) := by
  obtain ⟨v_facts, v_given⟩ := v
  refine zk_M (cc := cX5_isIn) (nL := 3) (ret := (some .boolean)) (by decide) rfl (Nat.le_of_ble_eq_true rfl) (fun X Q hQ => ?_)
  refine zk_eqv (w1 := (gX5 E a (v_facts, v_given))) (lv1 := [(0, .ref a.1), (1, .int x1), (2, .int x2)]) (st1 := []) (o1 := f_X5_isIn x1 x2 v_facts) rfl rfl rfl rfl ?_
  unfold f_X5_isIn
  refine zk_aload_n dX5_isIn_0 0 rfl 1 rfl ?_
  refine zk_iload_n dX5_isIn_1 1 rfl 2 rfl ?_
  refine zk_iconst 0 dX5_isIn_2 (by decide) 3 rfl ?_
  refine zk_callV (ci := 5) (st := []) (c_X5_fact E l a (v_facts, v_given) x1 0) dX5_isIn_3 2 gX5_isIn_X5_fact rfl rfl rfl cd_X5_fact ⟨Nat.le_of_ble_eq_true rfl, Nat.le_of_ble_eq_true rfl⟩ ⟨Nat.zero_le _, Nat.zero_le _⟩ _ (fun r3 => (gX5 E a (v_facts, v_given))) zk_pa (fun r3 => zk_qa) rfl rfl rfl rfl (Nat.le_of_ble_eq_true rfl) (fun r3 => [.int r3]) (fun _ => rfl) 6 rfl (fun r3 => ?_)
  refine zk_iload_n dX5_isIn_6 2 rfl 7 rfl ?_
  refine zk_icmp_ne dX5_isIn_7 14 (by decide) 10 rfl (fun _ => ?_) (fun _ => ?_)
  · refine zk_iconst 1 dX5_isIn_10 (by decide) 11 rfl ?_
    refine zk_goto dX5_isIn_11 15 (by decide) ?_
    exact zk_zretL hQ dX5_isIn_15 (Or.inr rfl) rfl rfl
  · refine zk_iconst 0 dX5_isIn_14 (by decide) 15 rfl ?_
    exact zk_zretL hQ dX5_isIn_15 (Or.inl rfl) rfl rfl
def f_X5_isAlive (x1 : Int32) (v_facts : (Nat → Int32)) : Option (Int32) := (f_X5_fact x1 0 v_facts).bind fun r3 => if r3 = 0 then some 1 else if r3 = 1 then some 1 else some 0
theorem cd_X5_isAlive : yX5_isAlive.cls = RX5 ∧ yX5_isAlive.cls ≠ "java/lang/invoke/MethodHandle" ∧ yX5_isAlive.cls ≠ "java/lang/invoke/VarHandle" ∧ (parseMethodDescriptor yX5_isAlive.desc).map (fun d => d.parameters.length) = some 1 := by decide +kernel
set_option maxRecDepth 100000 in
set_option maxHeartbeats 4000000 in
theorem c_X5_isAlive (E : zk_Env) (l : Launch) (a : aX5) (v : VX5) (x1 : Int32) : zk_Mc E l yX5_isAlive wsX5_isAlive ({ frames := 1, cells := 0, slots := 0, locals := 22 } : Room) [.ref a.1, .int x1] (gX5 E a v) (f_X5_isAlive x1 v.1) (fun r => some (.int r)) (fun r => (gX5 E a v)) := by
  obtain ⟨v_facts, v_given⟩ := v
  refine zk_M (cc := cX5_isAlive) (nL := 3) (ret := (some .boolean)) (by decide) rfl (Nat.le_of_ble_eq_true rfl) (fun X Q hQ => ?_)
  refine zk_eqv (w1 := (gX5 E a (v_facts, v_given))) (lv1 := [(0, .ref a.1), (1, .int x1)]) (st1 := []) (o1 := f_X5_isAlive x1 v_facts) rfl rfl rfl rfl ?_
  unfold f_X5_isAlive
  refine zk_aload_n dX5_isAlive_0 0 rfl 1 rfl ?_
  refine zk_iload_n dX5_isAlive_1 1 rfl 2 rfl ?_
  refine zk_iconst 0 dX5_isAlive_2 (by decide) 3 rfl ?_
  refine zk_callV (ci := 5) (st := []) (c_X5_fact E l a (v_facts, v_given) x1 0) dX5_isAlive_3 2 gX5_isAlive_X5_fact rfl rfl rfl cd_X5_fact ⟨Nat.le_of_ble_eq_true rfl, Nat.le_of_ble_eq_true rfl⟩ ⟨Nat.zero_le _, Nat.zero_le _⟩ _ (fun r3 => (gX5 E a (v_facts, v_given))) zk_pa (fun r3 => zk_qa) rfl rfl rfl rfl (Nat.le_of_ble_eq_true rfl) (fun r3 => [.int r3]) (fun _ => rfl) 6 rfl (fun r3 => ?_)
  refine zk_istore_n [(2, .int r3), (0, .ref a.1), (1, .int x1)] dX5_isAlive_6 (by decide) rfl 7 rfl ?_
  refine zk_iload_n dX5_isAlive_7 0 rfl 8 rfl ?_
  refine zk_if_eq dX5_isAlive_8 16 (by decide) 11 rfl (fun _ => ?_) (fun _ => ?_)
  · refine zk_iconst 1 dX5_isAlive_16 (by decide) 17 rfl ?_
    refine zk_goto dX5_isAlive_17 21 (by decide) ?_
    exact zk_zretL hQ dX5_isAlive_21 (Or.inr rfl) rfl rfl
  · refine zk_iload_n dX5_isAlive_11 0 rfl 12 rfl ?_
    refine zk_iconst 1 dX5_isAlive_12 (by decide) 13 rfl ?_
    refine zk_icmp_ne dX5_isAlive_13 20 (by decide) 16 rfl (fun _ => ?_) (fun _ => ?_)
    · refine zk_iconst 1 dX5_isAlive_16 (by decide) 17 rfl ?_
      refine zk_goto dX5_isAlive_17 21 (by decide) ?_
      exact zk_zretL hQ dX5_isAlive_21 (Or.inr rfl) rfl rfl
    · refine zk_iconst 0 dX5_isAlive_20 (by decide) 21 rfl ?_
      exact zk_zretL hQ dX5_isAlive_21 (Or.inl rfl) rfl rfl
def f_X5_add (x1 : Int32) (x2 : Int32) (x3 : Int32) (v_facts : (Nat → Int32)) (v_given : Int32) : Option (Int32 × (Nat → Int32) × Int32) := zk_let (v_given + 1) fun v_given_1 => (f_X5_write v_given 0 0 v_facts).bind fun r21 => (f_X5_write v_given 1 x1 r21).bind fun r29 => (f_X5_write v_given 2 x2 r29).bind fun r37 => (f_X5_write v_given 3 x3 r37).bind fun r45 => (f_X5_write v_given 4 0 r45).bind fun r53 => (f_X5_write v_given 5 0 r53).bind fun r61 => some (v_given, r61, v_given_1)
theorem kX5_add_inX5 : ∀ w ∈ u_ws RX5 TX5 2, w ∈ wsX5_add := by decide +kernel
theorem kX5_add_1 : Cond.fieldLink RX5 21 (TX5 1).1 (TX5 1).2.1 (TX5 1).2.2.1 ∈ wsX5_add := by decide +kernel
theorem cd_X5_add : yX5_add.cls = RX5 ∧ yX5_add.cls ≠ "java/lang/invoke/MethodHandle" ∧ yX5_add.cls ≠ "java/lang/invoke/VarHandle" ∧ (parseMethodDescriptor yX5_add.desc).map (fun d => d.parameters.length) = some 3 := by decide +kernel
set_option maxRecDepth 100000 in
set_option maxHeartbeats 4000000 in
theorem c_X5_add (E : zk_Env) (l : Launch) (a : aX5) (v : VX5) (x1 : Int32) (x2 : Int32) (x3 : Int32) : zk_Mc E l yX5_add wsX5_add ({ frames := 1, cells := 0, slots := 0, locals := 23 } : Room) [.ref a.1, .int x1, .int x2, .int x3] (gX5 E a v) (f_X5_add x1 x2 x3 v.1 v.2) (fun r => some (.int r.1)) (fun r => (gX5 E a r.2)) := by
  obtain ⟨v_facts, v_given⟩ := v
  refine zk_M (cc := cX5_add) (nL := 5) (ret := (some .int)) (by decide) rfl (Nat.le_of_ble_eq_true rfl) (fun X Q hQ => ?_)
  refine zk_eqv (w1 := (gX5 E a (v_facts, v_given))) (lv1 := [(0, .ref a.1), (1, .int x1), (2, .int x2), (3, .int x3)]) (st1 := []) (o1 := f_X5_add x1 x2 x3 v_facts v_given) rfl rfl rfl rfl ?_
  unfold f_X5_add
  refine zk_aload_n dX5_add_0 0 rfl 1 rfl ?_
  refine zk_get dX5_add_1 0 rfl rfl kX5_add_inX5 1 (by decide) kX5_add_1 rfl 4 rfl ?_
  refine zk_istore [(4, .int v_given), (0, .ref a.1), (1, .int x1), (2, .int x2), (3, .int x3)] dX5_add_4 (by decide) rfl 6 rfl ?_
  refine zk_aload_n dX5_add_6 1 rfl 7 rfl ?_
  refine zk_dup dX5_add_7 rfl 8 rfl ?_
  refine zk_get dX5_add_8 0 rfl rfl kX5_add_inX5 1 (by decide) kX5_add_1 rfl 11 rfl ?_
  refine zk_iconst 1 dX5_add_11 (by decide) 12 rfl ?_
  refine zk_iadd dX5_add_12 13 rfl ?_
  refine zk_nm (fun v_given_1 => ?_)
  refine zk_put_ tyX5 (gX5 E a (v_facts, v_given_1)) dX5_add_13 0 rfl rfl kX5_add_inX5 tyX5_ok nmX5 1 (by decide) kX5_add_1 rfl (tyX5_ok 1 (by decide)) rfl rfl (Nat.le_of_ble_eq_true rfl) rfl 16 rfl ?_
  refine zk_aload_n dX5_add_16 1 rfl 17 rfl ?_
  refine zk_iload dX5_add_17 0 rfl 19 rfl ?_
  refine zk_iconst 0 dX5_add_19 (by decide) 20 rfl ?_
  refine zk_iconst 0 dX5_add_20 (by decide) 21 rfl ?_
  refine zk_callV (ci := 5) (st := []) (c_X5_write E l a (v_facts, v_given_1) v_given 0 0) dX5_add_21 3 gX5_add_X5_write rfl rfl rfl cd_X5_write ⟨Nat.le_of_ble_eq_true rfl, Nat.le_of_ble_eq_true rfl⟩ ⟨Nat.zero_le _, Nat.zero_le _⟩ _ (fun r21 => (gX5 E a (r21, v_given_1))) zk_pa (fun r21 => zk_qa) rfl rfl rfl rfl (Nat.le_of_ble_eq_true rfl) (fun r21 => []) (fun _ => rfl) 24 rfl (fun r21 => ?_)
  refine zk_aload_n dX5_add_24 1 rfl 25 rfl ?_
  refine zk_iload dX5_add_25 0 rfl 27 rfl ?_
  refine zk_iconst 1 dX5_add_27 (by decide) 28 rfl ?_
  refine zk_iload_n dX5_add_28 2 rfl 29 rfl ?_
  refine zk_callV (ci := 5) (st := []) (c_X5_write E l a (r21, v_given_1) v_given 1 x1) dX5_add_29 3 gX5_add_X5_write rfl rfl rfl cd_X5_write ⟨Nat.le_of_ble_eq_true rfl, Nat.le_of_ble_eq_true rfl⟩ ⟨Nat.zero_le _, Nat.zero_le _⟩ _ (fun r29 => (gX5 E a (r29, v_given_1))) zk_pa (fun r29 => zk_qa) rfl rfl rfl rfl (Nat.le_of_ble_eq_true rfl) (fun r29 => []) (fun _ => rfl) 32 rfl (fun r29 => ?_)
  refine zk_aload_n dX5_add_32 1 rfl 33 rfl ?_
  refine zk_iload dX5_add_33 0 rfl 35 rfl ?_
  refine zk_iconst 2 dX5_add_35 (by decide) 36 rfl ?_
  refine zk_iload_n dX5_add_36 3 rfl 37 rfl ?_
  refine zk_callV (ci := 5) (st := []) (c_X5_write E l a (r29, v_given_1) v_given 2 x2) dX5_add_37 3 gX5_add_X5_write rfl rfl rfl cd_X5_write ⟨Nat.le_of_ble_eq_true rfl, Nat.le_of_ble_eq_true rfl⟩ ⟨Nat.zero_le _, Nat.zero_le _⟩ _ (fun r37 => (gX5 E a (r37, v_given_1))) zk_pa (fun r37 => zk_qa) rfl rfl rfl rfl (Nat.le_of_ble_eq_true rfl) (fun r37 => []) (fun _ => rfl) 40 rfl (fun r37 => ?_)
  refine zk_aload_n dX5_add_40 1 rfl 41 rfl ?_
  refine zk_iload dX5_add_41 0 rfl 43 rfl ?_
  refine zk_iconst 3 dX5_add_43 (by decide) 44 rfl ?_
  refine zk_iload_n dX5_add_44 4 rfl 45 rfl ?_
  refine zk_callV (ci := 5) (st := []) (c_X5_write E l a (r37, v_given_1) v_given 3 x3) dX5_add_45 3 gX5_add_X5_write rfl rfl rfl cd_X5_write ⟨Nat.le_of_ble_eq_true rfl, Nat.le_of_ble_eq_true rfl⟩ ⟨Nat.zero_le _, Nat.zero_le _⟩ _ (fun r45 => (gX5 E a (r45, v_given_1))) zk_pa (fun r45 => zk_qa) rfl rfl rfl rfl (Nat.le_of_ble_eq_true rfl) (fun r45 => []) (fun _ => rfl) 48 rfl (fun r45 => ?_)
  refine zk_aload_n dX5_add_48 1 rfl 49 rfl ?_
  refine zk_iload dX5_add_49 0 rfl 51 rfl ?_
  refine zk_iconst 4 dX5_add_51 (by decide) 52 rfl ?_
  refine zk_iconst 0 dX5_add_52 (by decide) 53 rfl ?_
  refine zk_callV (ci := 5) (st := []) (c_X5_write E l a (r45, v_given_1) v_given 4 0) dX5_add_53 3 gX5_add_X5_write rfl rfl rfl cd_X5_write ⟨Nat.le_of_ble_eq_true rfl, Nat.le_of_ble_eq_true rfl⟩ ⟨Nat.zero_le _, Nat.zero_le _⟩ _ (fun r53 => (gX5 E a (r53, v_given_1))) zk_pa (fun r53 => zk_qa) rfl rfl rfl rfl (Nat.le_of_ble_eq_true rfl) (fun r53 => []) (fun _ => rfl) 56 rfl (fun r53 => ?_)
  refine zk_aload_n dX5_add_56 1 rfl 57 rfl ?_
  refine zk_iload dX5_add_57 0 rfl 59 rfl ?_
  refine zk_iconst 5 dX5_add_59 (by decide) 60 rfl ?_
  refine zk_iconst 0 dX5_add_60 (by decide) 61 rfl ?_
  refine zk_callV (ci := 5) (st := []) (c_X5_write E l a (r53, v_given_1) v_given 5 0) dX5_add_61 3 gX5_add_X5_write rfl rfl rfl cd_X5_write ⟨Nat.le_of_ble_eq_true rfl, Nat.le_of_ble_eq_true rfl⟩ ⟨Nat.zero_le _, Nat.zero_le _⟩ _ (fun r61 => (gX5 E a (r61, v_given_1))) zk_pa (fun r61 => zk_qa) rfl rfl rfl rfl (Nat.le_of_ble_eq_true rfl) (fun r61 => []) (fun _ => rfl) 64 rfl (fun r61 => ?_)
  refine zk_iload dX5_add_64 0 rfl 66 rfl ?_
  exact zk_iret hQ dX5_add_66 rfl rfl
def f_X5_howManyIn_24 (k4 : Int32 × Int32 → Option (Int32)) (x2 : Int32) (x3 : Int32) : Option (Int32) := k4 (x2, (x3 + 1))
def F_X5_howManyIn_4 (x1 : Int32) (v_facts : (Nat → Int32)) (v_given : Int32) (k4 : Int32 × Int32 → Option (Int32)) : Int32 × Int32 → Option (Int32) := fun s => match s with
  | (x2, x3) => if v_given ≤ x3 then some x2 else (f_X5_isIn x3 x1 v_facts).bind fun r15 => if r15 = 0 then f_X5_howManyIn_24 k4 x2 x3 else f_X5_howManyIn_24 k4 (x2 + 1) x3
def f_X5_howManyIn (x1 : Int32) (v_facts : (Nat → Int32)) (v_given : Int32) : Option (Int32) := zk_fx (F_X5_howManyIn_4 x1 v_facts v_given ) zk_N (0, 0)
theorem kX5_howManyIn_inX5 : ∀ w ∈ u_ws RX5 TX5 2, w ∈ wsX5_howManyIn := by decide +kernel
theorem kX5_howManyIn_1 : Cond.fieldLink RX5 21 (TX5 1).1 (TX5 1).2.1 (TX5 1).2.2.1 ∈ wsX5_howManyIn := by decide +kernel
theorem cd_X5_howManyIn : yX5_howManyIn.cls = RX5 ∧ yX5_howManyIn.cls ≠ "java/lang/invoke/MethodHandle" ∧ yX5_howManyIn.cls ≠ "java/lang/invoke/VarHandle" ∧ (parseMethodDescriptor yX5_howManyIn.desc).map (fun d => d.parameters.length) = some 1 := by decide +kernel
set_option maxRecDepth 100000 in
set_option maxHeartbeats 4000000 in
theorem c_X5_howManyIn (E : zk_Env) (l : Launch) (a : aX5) (v : VX5) (x1 : Int32) : zk_Mc E l yX5_howManyIn wsX5_howManyIn ({ frames := 2, cells := 0, slots := 0, locals := 44 } : Room) [.ref a.1, .int x1] (gX5 E a v) (f_X5_howManyIn x1 v.1 v.2) (fun r => some (.int r)) (fun r => (gX5 E a v)) := by
  obtain ⟨v_facts, v_given⟩ := v
  refine zk_M (cc := cX5_howManyIn) (nL := 4) (ret := (some .int)) (by decide) rfl (Nat.le_of_ble_eq_true rfl) (fun X Q hQ => ?_)
  have J24 : ∀ (k4 : Int32 × Int32 → Option (Int32)) (hk4 : ∀ s : Int32 × Int32, zk_G E l X cX5_howManyIn 4 (some .int) yX5_howManyIn.cls wsX5_howManyIn ({ frames := 2, cells := 0, slots := 0, locals := 44 } : Room) 0 0 Q (gX5 E a (v_facts, v_given)) [(0, .ref a.1), (1, .int x1), (2, .int s.1), (3, .int s.2)] 4 [] (k4 s)) (x2 : Int32) (x3 : Int32), zk_G E l X cX5_howManyIn 4 (some .int) yX5_howManyIn.cls wsX5_howManyIn ({ frames := 2, cells := 0, slots := 0, locals := 44 } : Room) 0 0 Q (gX5 E a (v_facts, v_given)) [(0, .ref a.1), (1, .int x1), (2, .int x2), (3, .int x3)] 24 [] (f_X5_howManyIn_24 k4 x2 x3) := by
    intro k4 hk4 x2 x3
    unfold f_X5_howManyIn_24
    refine zk_iinc (x3 + 1) [(3, .int (x3 + 1)), (0, .ref a.1), (1, .int x1), (2, .int x2)] dX5_howManyIn_24 3 rfl rfl (by decide) rfl 27 rfl ?_
    refine zk_goto dX5_howManyIn_27 4 (by decide) ?_
    refine zk_lv [1, 2, 3, 0] rfl ?_
    exact hk4 (x2, (x3 + 1))
  have J4 : ∀ (n : Nat) (x2 : Int32) (x3 : Int32), zk_G E l X cX5_howManyIn 4 (some .int) yX5_howManyIn.cls wsX5_howManyIn ({ frames := 2, cells := 0, slots := 0, locals := 44 } : Room) 0 0 Q (gX5 E a (v_facts, v_given)) [(0, .ref a.1), (1, .int x1), (2, .int x2), (3, .int x3)] 4 [] (zk_fx (F_X5_howManyIn_4 x1 v_facts v_given ) n (x2, x3)) := by
    intro n x2 x3
    refine zk_loop (S := Int32 × Int32) (F := F_X5_howManyIn_4 x1 v_facts v_given) (wS := fun s => (gX5 E a (v_facts, v_given))) (lS := fun s => [(0, .ref a.1), (1, .int x1), (2, .int s.1), (3, .int s.2)]) (sS := fun _ => []) (fun k4 hk4 s => ?_) n (x2, x3)
    obtain ⟨x2, x3⟩ := s
    unfold F_X5_howManyIn_4
    try dsimp only
    refine zk_iload_n dX5_howManyIn_4 3 rfl 5 rfl ?_
    refine zk_aload_n dX5_howManyIn_5 0 rfl 6 rfl ?_
    refine zk_get dX5_howManyIn_6 0 rfl rfl kX5_howManyIn_inX5 1 (by decide) kX5_howManyIn_1 rfl 9 rfl ?_
    refine zk_icmp_ge dX5_howManyIn_9 30 (by decide) 12 rfl (fun _ => ?_) (fun _ => ?_)
    · refine zk_iload_n dX5_howManyIn_30 2 rfl 31 rfl ?_
      exact zk_iret hQ dX5_howManyIn_31 rfl rfl
    · refine zk_aload_n dX5_howManyIn_12 0 rfl 13 rfl ?_
      refine zk_iload_n dX5_howManyIn_13 3 rfl 14 rfl ?_
      refine zk_iload_n dX5_howManyIn_14 1 rfl 15 rfl ?_
      refine zk_callV (ci := 5) (st := []) (c_X5_isIn E l a (v_facts, v_given) x3 x1) dX5_howManyIn_15 2 gX5_howManyIn_X5_isIn rfl rfl rfl cd_X5_isIn ⟨Nat.le_of_ble_eq_true rfl, Nat.le_of_ble_eq_true rfl⟩ ⟨Nat.zero_le _, Nat.zero_le _⟩ _ (fun r15 => (gX5 E a (v_facts, v_given))) zk_pa (fun r15 => zk_qa) rfl rfl rfl rfl (Nat.le_of_ble_eq_true rfl) (fun r15 => [.int r15]) (fun _ => rfl) 18 rfl (fun r15 => ?_)
      refine zk_if_eq dX5_howManyIn_18 24 (by decide) 21 rfl (fun _ => ?_) (fun _ => ?_)
      · exact J24  k4 hk4 x2 x3
      · refine zk_iinc (x2 + 1) [(2, .int (x2 + 1)), (0, .ref a.1), (1, .int x1), (3, .int x3)] dX5_howManyIn_21 2 rfl rfl (by decide) rfl 24 rfl ?_
        refine zk_lv [1, 2, 0, 3] rfl ?_
        exact J24  k4 hk4 (x2 + 1) x3
  refine zk_eqv (w1 := (gX5 E a (v_facts, v_given))) (lv1 := [(0, .ref a.1), (1, .int x1)]) (st1 := []) (o1 := f_X5_howManyIn x1 v_facts v_given) rfl rfl rfl rfl ?_
  unfold f_X5_howManyIn
  refine zk_iconst 0 dX5_howManyIn_0 (by decide) 1 rfl ?_
  refine zk_istore_n [(2, .int 0), (0, .ref a.1), (1, .int x1)] dX5_howManyIn_1 (by decide) rfl 2 rfl ?_
  refine zk_iconst 0 dX5_howManyIn_2 (by decide) 3 rfl ?_
  refine zk_istore_n [(3, .int 0), (2, .int 0), (0, .ref a.1), (1, .int x1)] dX5_howManyIn_3 (by decide) rfl 4 rfl ?_
  refine zk_lv [2, 3, 1, 0] rfl ?_
  exact J4    zk_N 0 0
def f_X5_earlier (x1 : Int32) (x2 : Int32) (v_facts : (Nat → Int32)) : Option (Int32) := if x1 = (-1) then some x2 else if x2 = (-1) then some x1 else (f_X5_fact x1 1 v_facts).bind fun r17 => (f_X5_fact x2 1 v_facts).bind fun r24 => if r17 = r24 then some (if x2 < x1 then x2 else x1) else if r24 ≤ r17 then some x2 else some x1
theorem kX5_earlier_0 : Cond.methodLink RX5 37 Lib.Math.min.name ∈ wsX5_earlier := by decide +kernel
theorem kX5_earlier_1 : Cond.static Lib.Math.min.name ∈ wsX5_earlier := by decide +kernel
theorem kX5_earlier_2 : Cond.initialized "java/lang/Math" ∈ wsX5_earlier := by decide +kernel
theorem kX5_earlier_3 : Cond.code Lib.Math.min.name Lib.Math.min.code 2 (some .int) ∈ wsX5_earlier := by decide +kernel
theorem cd_X5_earlier : yX5_earlier.cls = RX5 ∧ yX5_earlier.cls ≠ "java/lang/invoke/MethodHandle" ∧ yX5_earlier.cls ≠ "java/lang/invoke/VarHandle" ∧ (parseMethodDescriptor yX5_earlier.desc).map (fun d => d.parameters.length) = some 2 := by decide +kernel
set_option maxRecDepth 100000 in
set_option maxHeartbeats 4000000 in
theorem c_X5_earlier (E : zk_Env) (l : Launch) (a : aX5) (v : VX5) (x1 : Int32) (x2 : Int32) : zk_Mc E l yX5_earlier wsX5_earlier ({ frames := 1, cells := 0, slots := 0, locals := 22 } : Room) [.ref a.1, .int x1, .int x2] (gX5 E a v) (f_X5_earlier x1 x2 v.1) (fun r => some (.int r)) (fun r => (gX5 E a v)) := by
  obtain ⟨v_facts, v_given⟩ := v
  refine zk_M (cc := cX5_earlier) (nL := 5) (ret := (some .int)) (by decide) rfl (Nat.le_of_ble_eq_true rfl) (fun X Q hQ => ?_)
  refine zk_eqv (w1 := (gX5 E a (v_facts, v_given))) (lv1 := [(0, .ref a.1), (1, .int x1), (2, .int x2)]) (st1 := []) (o1 := f_X5_earlier x1 x2 v_facts) rfl rfl rfl rfl ?_
  unfold f_X5_earlier
  refine zk_iload_n dX5_earlier_0 1 rfl 1 rfl ?_
  refine zk_iconst (-1) dX5_earlier_1 (by decide) 2 rfl ?_
  refine zk_icmp_ne dX5_earlier_2 7 (by decide) 5 rfl (fun _ => ?_) (fun _ => ?_)
  · refine zk_iload_n dX5_earlier_5 2 rfl 6 rfl ?_
    exact zk_iret hQ dX5_earlier_6 rfl rfl
  · refine zk_iload_n dX5_earlier_7 2 rfl 8 rfl ?_
    refine zk_iconst (-1) dX5_earlier_8 (by decide) 9 rfl ?_
    refine zk_icmp_ne dX5_earlier_9 14 (by decide) 12 rfl (fun _ => ?_) (fun _ => ?_)
    · refine zk_iload_n dX5_earlier_12 1 rfl 13 rfl ?_
      exact zk_iret hQ dX5_earlier_13 rfl rfl
    · refine zk_aload_n dX5_earlier_14 0 rfl 15 rfl ?_
      refine zk_iload_n dX5_earlier_15 1 rfl 16 rfl ?_
      refine zk_iconst 1 dX5_earlier_16 (by decide) 17 rfl ?_
      refine zk_callV (ci := 5) (st := []) (c_X5_fact E l a (v_facts, v_given) x1 1) dX5_earlier_17 2 gX5_earlier_X5_fact rfl rfl rfl cd_X5_fact ⟨Nat.le_of_ble_eq_true rfl, Nat.le_of_ble_eq_true rfl⟩ ⟨Nat.zero_le _, Nat.zero_le _⟩ _ (fun r17 => (gX5 E a (v_facts, v_given))) zk_pa (fun r17 => zk_qa) rfl rfl rfl rfl (Nat.le_of_ble_eq_true rfl) (fun r17 => [.int r17]) (fun _ => rfl) 20 rfl (fun r17 => ?_)
      refine zk_istore_n [(3, .int r17), (0, .ref a.1), (1, .int x1), (2, .int x2)] dX5_earlier_20 (by decide) rfl 21 rfl ?_
      refine zk_aload_n dX5_earlier_21 1 rfl 22 rfl ?_
      refine zk_iload_n dX5_earlier_22 3 rfl 23 rfl ?_
      refine zk_iconst 1 dX5_earlier_23 (by decide) 24 rfl ?_
      refine zk_callV (ci := 5) (st := []) (c_X5_fact E l a (v_facts, v_given) x2 1) dX5_earlier_24 2 gX5_earlier_X5_fact rfl rfl rfl cd_X5_fact ⟨Nat.le_of_ble_eq_true rfl, Nat.le_of_ble_eq_true rfl⟩ ⟨Nat.zero_le _, Nat.zero_le _⟩ _ (fun r24 => (gX5 E a (v_facts, v_given))) zk_pa (fun r24 => zk_qa) rfl rfl rfl rfl (Nat.le_of_ble_eq_true rfl) (fun r24 => [.int r24]) (fun _ => rfl) 27 rfl (fun r24 => ?_)
      refine zk_istore [(4, .int r24), (3, .int r17), (0, .ref a.1), (1, .int x1), (2, .int x2)] dX5_earlier_27 (by decide) rfl 29 rfl ?_
      refine zk_iload_n dX5_earlier_29 1 rfl 30 rfl ?_
      refine zk_iload dX5_earlier_30 0 rfl 32 rfl ?_
      refine zk_icmp_ne dX5_earlier_32 41 (by decide) 35 rfl (fun _ => ?_) (fun _ => ?_)
      · refine zk_iload_n dX5_earlier_35 3 rfl 36 rfl ?_
        refine zk_iload_n dX5_earlier_36 4 rfl 37 rfl ?_
        refine zk_mmin dX5_earlier_37 kX5_earlier_0 kX5_earlier_1 kX5_earlier_2 kX5_earlier_3 (Nat.le_of_ble_eq_true rfl) (Nat.le_of_ble_eq_true rfl) (Nat.zero_le _) (Nat.zero_le _) 40 rfl ?_
        exact zk_iret hQ dX5_earlier_40 rfl rfl
      · refine zk_iload_n dX5_earlier_41 1 rfl 42 rfl ?_
        refine zk_iload dX5_earlier_42 0 rfl 44 rfl ?_
        refine zk_icmp_ge dX5_earlier_44 51 (by decide) 47 rfl (fun _ => ?_) (fun _ => ?_)
        · refine zk_iload_n dX5_earlier_51 4 rfl 52 rfl ?_
          exact zk_iret hQ dX5_earlier_52 rfl rfl
        · refine zk_iload_n dX5_earlier_47 3 rfl 48 rfl ?_
          refine zk_goto dX5_earlier_48 52 (by decide) ?_
          exact zk_iret hQ dX5_earlier_52 rfl rfl
