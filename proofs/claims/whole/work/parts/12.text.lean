def f_X4_hasFailed (v_failed : Int32) : Option (Int32) := zk_bz v_failed (some v_failed)
theorem kX4_hasFailed_inX4 : ∀ w ∈ u_ws RX4 TX4 8, w ∈ wsX4_hasFailed := by decide +kernel
theorem kX4_hasFailed_1 : Cond.fieldLink RX4 28 (TX4 4).1 (TX4 4).2.1 (TX4 4).2.2.1 ∈ wsX4_hasFailed := by decide +kernel
theorem cd_X4_hasFailed : yX4_hasFailed.cls = RX4 ∧ yX4_hasFailed.cls ≠ "java/lang/invoke/MethodHandle" ∧ yX4_hasFailed.cls ≠ "java/lang/invoke/VarHandle" ∧ (parseMethodDescriptor yX4_hasFailed.desc).map (fun d => d.parameters.length) = some 0 := by decide +kernel
set_option maxRecDepth 100000 in
set_option maxHeartbeats 4000000 in
theorem c_X4_hasFailed (E : zk_Env) (l : Launch) (a : aX4) (v : VX4)  : zk_Mc E l yX4_hasFailed wsX4_hasFailed ({ frames := 0, cells := 0, slots := 0, locals := 0 } : Room) [.ref a.1] (gX4 E a v) (f_X4_hasFailed v.2.2.2.2.1) (fun r => some (.int r)) (fun r => (gX4 E a v)) := by
  obtain ⟨v_text, v_numbers, v_failureParts, v_everFailed, v_failed, v_command, v_commandPlace, v_commandsDone⟩ := v
  refine zk_M (cc := cX4_hasFailed) (nL := 1) (ret := (some .boolean)) (by decide) rfl (Nat.le_of_ble_eq_true rfl) (fun X Q hQ => ?_)
  refine zk_eqv (w1 := (gX4 E a (v_text, v_numbers, v_failureParts, v_everFailed, v_failed, v_command, v_commandPlace, v_commandsDone))) (lv1 := [(0, .ref a.1)]) (st1 := []) (o1 := f_X4_hasFailed v_failed) rfl rfl rfl rfl ?_
  unfold f_X4_hasFailed
  refine zk_aload_n dX4_hasFailed_0 0 rfl 1 rfl ?_
  refine zk_get dX4_hasFailed_1 0 rfl rfl kX4_hasFailed_inX4 4 (by decide) kX4_hasFailed_1 rfl 4 rfl ?_
  exact zk_zret hQ dX4_hasFailed_4 rfl rfl
def f_X4_command (v_command : Int32) : Option (Int32) := some v_command
theorem kX4_command_inX4 : ∀ w ∈ u_ws RX4 TX4 8, w ∈ wsX4_command := by decide +kernel
theorem kX4_command_1 : Cond.fieldLink RX4 32 (TX4 5).1 (TX4 5).2.1 (TX4 5).2.2.1 ∈ wsX4_command := by decide +kernel
theorem cd_X4_command : yX4_command.cls = RX4 ∧ yX4_command.cls ≠ "java/lang/invoke/MethodHandle" ∧ yX4_command.cls ≠ "java/lang/invoke/VarHandle" ∧ (parseMethodDescriptor yX4_command.desc).map (fun d => d.parameters.length) = some 0 := by decide +kernel
set_option maxRecDepth 100000 in
set_option maxHeartbeats 4000000 in
theorem c_X4_command (E : zk_Env) (l : Launch) (a : aX4) (v : VX4)  : zk_Mc E l yX4_command wsX4_command ({ frames := 0, cells := 0, slots := 0, locals := 0 } : Room) [.ref a.1] (gX4 E a v) (f_X4_command v.2.2.2.2.2.1) (fun r => some (.int r)) (fun r => (gX4 E a v)) := by
  obtain ⟨v_text, v_numbers, v_failureParts, v_everFailed, v_failed, v_command, v_commandPlace, v_commandsDone⟩ := v
  refine zk_M (cc := cX4_command) (nL := 1) (ret := (some .int)) (by decide) rfl (Nat.le_of_ble_eq_true rfl) (fun X Q hQ => ?_)
  refine zk_eqv (w1 := (gX4 E a (v_text, v_numbers, v_failureParts, v_everFailed, v_failed, v_command, v_commandPlace, v_commandsDone))) (lv1 := [(0, .ref a.1)]) (st1 := []) (o1 := f_X4_command v_command) rfl rfl rfl rfl ?_
  unfold f_X4_command
  refine zk_aload_n dX4_command_0 0 rfl 1 rfl ?_
  refine zk_get dX4_command_1 0 rfl rfl kX4_command_inX4 5 (by decide) kX4_command_1 rfl 4 rfl ?_
  exact zk_iret hQ dX4_command_4 rfl rfl
def f_X4_commandsDone (v_commandsDone : Int32) : Option (Int32) := some v_commandsDone
theorem kX4_commandsDone_inX4 : ∀ w ∈ u_ws RX4 TX4 8, w ∈ wsX4_commandsDone := by decide +kernel
theorem kX4_commandsDone_1 : Cond.fieldLink RX4 39 (TX4 7).1 (TX4 7).2.1 (TX4 7).2.2.1 ∈ wsX4_commandsDone := by decide +kernel
theorem cd_X4_commandsDone : yX4_commandsDone.cls = RX4 ∧ yX4_commandsDone.cls ≠ "java/lang/invoke/MethodHandle" ∧ yX4_commandsDone.cls ≠ "java/lang/invoke/VarHandle" ∧ (parseMethodDescriptor yX4_commandsDone.desc).map (fun d => d.parameters.length) = some 0 := by decide +kernel
set_option maxRecDepth 100000 in
set_option maxHeartbeats 4000000 in
theorem c_X4_commandsDone (E : zk_Env) (l : Launch) (a : aX4) (v : VX4)  : zk_Mc E l yX4_commandsDone wsX4_commandsDone ({ frames := 0, cells := 0, slots := 0, locals := 0 } : Room) [.ref a.1] (gX4 E a v) (f_X4_commandsDone v.2.2.2.2.2.2.2) (fun r => some (.int r)) (fun r => (gX4 E a v)) := by
  obtain ⟨v_text, v_numbers, v_failureParts, v_everFailed, v_failed, v_command, v_commandPlace, v_commandsDone⟩ := v
  refine zk_M (cc := cX4_commandsDone) (nL := 1) (ret := (some .int)) (by decide) rfl (Nat.le_of_ble_eq_true rfl) (fun X Q hQ => ?_)
  refine zk_eqv (w1 := (gX4 E a (v_text, v_numbers, v_failureParts, v_everFailed, v_failed, v_command, v_commandPlace, v_commandsDone))) (lv1 := [(0, .ref a.1)]) (st1 := []) (o1 := f_X4_commandsDone v_commandsDone) rfl rfl rfl rfl ?_
  unfold f_X4_commandsDone
  refine zk_aload_n dX4_commandsDone_0 0 rfl 1 rfl ?_
  refine zk_get dX4_commandsDone_1 0 rfl rfl kX4_commandsDone_inX4 7 (by decide) kX4_commandsDone_1 rfl 4 rfl ?_
  exact zk_iret hQ dX4_commandsDone_4 rfl rfl
def f_X4_number (x1 : Int32) (v_numbers : (Nat → Int32)) : Option (Int32) := if x1 < 0 then some 0 else if x1 < 3 then zk_ck x1 3 (some (v_numbers x1.toNatClampNeg)) else some 0
theorem kX4_number_inX4 : ∀ w ∈ u_ws RX4 TX4 8, w ∈ wsX4_number := by decide +kernel
theorem kX4_number_1 : Cond.fieldLink RX4 18 (TX4 1).1 (TX4 1).2.1 (TX4 1).2.2.1 ∈ wsX4_number := by decide +kernel
theorem cd_X4_number : yX4_number.cls = RX4 ∧ yX4_number.cls ≠ "java/lang/invoke/MethodHandle" ∧ yX4_number.cls ≠ "java/lang/invoke/VarHandle" ∧ (parseMethodDescriptor yX4_number.desc).map (fun d => d.parameters.length) = some 1 := by decide +kernel
set_option maxRecDepth 100000 in
set_option maxHeartbeats 4000000 in
theorem c_X4_number (E : zk_Env) (l : Launch) (a : aX4) (v : VX4) (x1 : Int32) : zk_Mc E l yX4_number wsX4_number ({ frames := 0, cells := 0, slots := 0, locals := 0 } : Room) [.ref a.1, .int x1] (gX4 E a v) (f_X4_number x1 v.2.1) (fun r => some (.int r)) (fun r => (gX4 E a v)) := by
  obtain ⟨v_text, v_numbers, v_failureParts, v_everFailed, v_failed, v_command, v_commandPlace, v_commandsDone⟩ := v
  refine zk_M (cc := cX4_number) (nL := 2) (ret := (some .int)) (by decide) rfl (Nat.le_of_ble_eq_true rfl) (fun X Q hQ => ?_)
  refine zk_eqv (w1 := (gX4 E a (v_text, v_numbers, v_failureParts, v_everFailed, v_failed, v_command, v_commandPlace, v_commandsDone))) (lv1 := [(0, .ref a.1), (1, .int x1)]) (st1 := []) (o1 := f_X4_number x1 v_numbers) rfl rfl rfl rfl ?_
  unfold f_X4_number
  refine zk_iload_n dX4_number_0 1 rfl 1 rfl ?_
  refine zk_if_lt dX4_number_1 9 (by decide) 4 rfl (fun _ => ?_) (fun _ => ?_)
  · refine zk_iconst 0 dX4_number_9 (by decide) 10 rfl ?_
    refine zk_goto dX4_number_10 19 (by decide) ?_
    exact zk_iret hQ dX4_number_19 rfl rfl
  · refine zk_iload_n dX4_number_4 1 rfl 5 rfl ?_
    refine zk_iconst 3 dX4_number_5 (by decide) 6 rfl ?_
    refine zk_icmp_lt dX4_number_6 13 (by decide) 9 rfl (fun _ => ?_) (fun _ => ?_)
    · refine zk_aload_n dX4_number_13 0 rfl 14 rfl ?_
      refine zk_get dX4_number_14 0 rfl rfl kX4_number_inX4 1 (by decide) kX4_number_1 rfl 17 rfl ?_
      refine zk_iload_n dX4_number_17 1 rfl 18 rfl ?_
      refine zk_iald dX4_number_18 1 rfl 19 rfl ?_
      exact zk_iret hQ dX4_number_19 rfl rfl
    · refine zk_iconst 0 dX4_number_9 (by decide) 10 rfl ?_
      refine zk_goto dX4_number_10 19 (by decide) ?_
      exact zk_iret hQ dX4_number_19 rfl rfl
def f_X4_part (x1 : Int32) (v_failureParts : (Nat → Int32)) (v_everFailed : Int32) : Option (Int32) := if x1 < 0 then some (-1) else if x1 < 4 then if v_everFailed = 0 then some (-9) else zk_ck x1 4 (some (v_failureParts x1.toNatClampNeg)) else some (-1)
theorem kX4_part_inX4 : ∀ w ∈ u_ws RX4 TX4 8, w ∈ wsX4_part := by decide +kernel
theorem kX4_part_1 : Cond.fieldLink RX4 42 (TX4 3).1 (TX4 3).2.1 (TX4 3).2.2.1 ∈ wsX4_part := by decide +kernel
theorem kX4_part_2 : Cond.fieldLink RX4 22 (TX4 2).1 (TX4 2).2.1 (TX4 2).2.2.1 ∈ wsX4_part := by decide +kernel
theorem cd_X4_part : yX4_part.cls = RX4 ∧ yX4_part.cls ≠ "java/lang/invoke/MethodHandle" ∧ yX4_part.cls ≠ "java/lang/invoke/VarHandle" ∧ (parseMethodDescriptor yX4_part.desc).map (fun d => d.parameters.length) = some 1 := by decide +kernel
set_option maxRecDepth 100000 in
set_option maxHeartbeats 4000000 in
theorem c_X4_part (E : zk_Env) (l : Launch) (a : aX4) (v : VX4) (x1 : Int32) : zk_Mc E l yX4_part wsX4_part ({ frames := 0, cells := 0, slots := 0, locals := 0 } : Room) [.ref a.1, .int x1] (gX4 E a v) (f_X4_part x1 v.2.2.1 v.2.2.2.1) (fun r => some (.int r)) (fun r => (gX4 E a v)) := by
  obtain ⟨v_text, v_numbers, v_failureParts, v_everFailed, v_failed, v_command, v_commandPlace, v_commandsDone⟩ := v
  refine zk_M (cc := cX4_part) (nL := 2) (ret := (some .int)) (by decide) rfl (Nat.le_of_ble_eq_true rfl) (fun X Q hQ => ?_)
  refine zk_eqv (w1 := (gX4 E a (v_text, v_numbers, v_failureParts, v_everFailed, v_failed, v_command, v_commandPlace, v_commandsDone))) (lv1 := [(0, .ref a.1), (1, .int x1)]) (st1 := []) (o1 := f_X4_part x1 v_failureParts v_everFailed) rfl rfl rfl rfl ?_
  unfold f_X4_part
  refine zk_iload_n dX4_part_0 1 rfl 1 rfl ?_
  refine zk_if_lt dX4_part_1 9 (by decide) 4 rfl (fun _ => ?_) (fun _ => ?_)
  · refine zk_iconst (-1) dX4_part_9 (by decide) 10 rfl ?_
    exact zk_iret hQ dX4_part_10 rfl rfl
  · refine zk_iload_n dX4_part_4 1 rfl 5 rfl ?_
    refine zk_iconst 4 dX4_part_5 (by decide) 6 rfl ?_
    refine zk_icmp_lt dX4_part_6 11 (by decide) 9 rfl (fun _ => ?_) (fun _ => ?_)
    · refine zk_aload_n dX4_part_11 0 rfl 12 rfl ?_
      refine zk_get dX4_part_12 0 rfl rfl kX4_part_inX4 3 (by decide) kX4_part_1 rfl 15 rfl ?_
      refine zk_if_eq dX4_part_15 27 (by decide) 18 rfl (fun _ => ?_) (fun _ => ?_)
      · refine zk_bipush (-9) dX4_part_27 (by decide) 29 rfl ?_
        exact zk_iret hQ dX4_part_29 rfl rfl
      · refine zk_aload_n dX4_part_18 0 rfl 19 rfl ?_
        refine zk_get dX4_part_19 0 rfl rfl kX4_part_inX4 2 (by decide) kX4_part_2 rfl 22 rfl ?_
        refine zk_iload_n dX4_part_22 1 rfl 23 rfl ?_
        refine zk_iald dX4_part_23 2 rfl 24 rfl ?_
        refine zk_goto dX4_part_24 29 (by decide) ?_
        exact zk_iret hQ dX4_part_29 rfl rfl
    · refine zk_iconst (-1) dX4_part_9 (by decide) 10 rfl ?_
      exact zk_iret hQ dX4_part_10 rfl rfl
def f_X4_fail (x1 : Int32) (x2 : Int32) (x3 : Int32) (v_failureParts : (Nat → Int32)) (v_commandsDone : Int32) : Option ((Nat → Int32) × Int32 × Int32) := zk_ck 0 4 (zk_let (upd v_failureParts (0 : Int32).toNatClampNeg x1) fun v_failureParts_1 => zk_ck 1 4 (zk_let (upd v_failureParts_1 (1 : Int32).toNatClampNeg x2) fun v_failureParts_2 => zk_ck 2 4 (zk_let (upd v_failureParts_2 (2 : Int32).toNatClampNeg v_commandsDone) fun v_failureParts_3 => zk_ck 3 4 (zk_let (upd v_failureParts_3 (3 : Int32).toNatClampNeg x3) fun v_failureParts_4 => some (v_failureParts_4, 1, 1)))))
theorem kX4_fail_0 : Cond.fieldLink RX4 28 (TX4 4).1 (TX4 4).2.1 (TX4 4).2.2.1 ∈ wsX4_fail := by decide +kernel
theorem kX4_fail_inX4 : ∀ w ∈ u_ws RX4 TX4 8, w ∈ wsX4_fail := by decide +kernel
theorem kX4_fail_2 : Cond.fieldLink RX4 42 (TX4 3).1 (TX4 3).2.1 (TX4 3).2.2.1 ∈ wsX4_fail := by decide +kernel
theorem kX4_fail_3 : Cond.fieldLink RX4 22 (TX4 2).1 (TX4 2).2.1 (TX4 2).2.2.1 ∈ wsX4_fail := by decide +kernel
theorem kX4_fail_4 : Cond.fieldLink RX4 39 (TX4 7).1 (TX4 7).2.1 (TX4 7).2.2.1 ∈ wsX4_fail := by decide +kernel
theorem cd_X4_fail : yX4_fail.cls = RX4 ∧ yX4_fail.cls ≠ "java/lang/invoke/MethodHandle" ∧ yX4_fail.cls ≠ "java/lang/invoke/VarHandle" ∧ (parseMethodDescriptor yX4_fail.desc).map (fun d => d.parameters.length) = some 3 := by decide +kernel
set_option maxRecDepth 100000 in
set_option maxHeartbeats 4000000 in
theorem c_X4_fail (E : zk_Env) (l : Launch) (a : aX4) (v : VX4) (x1 : Int32) (x2 : Int32) (x3 : Int32) : zk_Mc E l yX4_fail wsX4_fail ({ frames := 0, cells := 0, slots := 0, locals := 0 } : Room) [.ref a.1, .int x1, .int x2, .int x3] (gX4 E a v) (f_X4_fail x1 x2 x3 v.2.2.1 v.2.2.2.2.2.2.2) (fun _ => none) (fun r => (gX4 E a (v.1, v.2.1, r.1, r.2.1, r.2.2, v.2.2.2.2.2))) := by
  obtain ⟨v_text, v_numbers, v_failureParts, v_everFailed, v_failed, v_command, v_commandPlace, v_commandsDone⟩ := v
  refine zk_M (cc := cX4_fail) (nL := 4) (ret := none) (by decide) rfl (Nat.le_of_ble_eq_true rfl) (fun X Q hQ => ?_)
  refine zk_eqv (w1 := (gX4 E a (v_text, v_numbers, v_failureParts, v_everFailed, v_failed, v_command, v_commandPlace, v_commandsDone))) (lv1 := [(0, .ref a.1), (1, .int x1), (2, .int x2), (3, .int x3)]) (st1 := []) (o1 := f_X4_fail x1 x2 x3 v_failureParts v_commandsDone) rfl rfl rfl rfl ?_
  unfold f_X4_fail
  refine zk_aload_n dX4_fail_0 0 rfl 1 rfl ?_
  refine zk_iconst 1 dX4_fail_1 (by decide) 2 rfl ?_
  refine zk_put_ tyX4 (gX4 E a (v_text, v_numbers, v_failureParts, v_everFailed, 1, v_command, v_commandPlace, v_commandsDone)) dX4_fail_2 0 rfl rfl kX4_fail_inX4 tyX4_ok nmX4 4 (by decide) kX4_fail_0 rfl (tyX4_ok 4 (by decide)) rfl rfl (Nat.le_of_ble_eq_true rfl) rfl 5 rfl ?_
  refine zk_aload_n dX4_fail_5 0 rfl 6 rfl ?_
  refine zk_iconst 1 dX4_fail_6 (by decide) 7 rfl ?_
  refine zk_put_ tyX4 (gX4 E a (v_text, v_numbers, v_failureParts, 1, 1, v_command, v_commandPlace, v_commandsDone)) dX4_fail_7 0 rfl rfl kX4_fail_inX4 tyX4_ok nmX4 3 (by decide) kX4_fail_2 rfl (tyX4_ok 3 (by decide)) rfl rfl (Nat.le_of_ble_eq_true rfl) rfl 10 rfl ?_
  refine zk_aload_n dX4_fail_10 0 rfl 11 rfl ?_
  refine zk_get dX4_fail_11 0 rfl rfl kX4_fail_inX4 2 (by decide) kX4_fail_3 rfl 14 rfl ?_
  refine zk_iconst 0 dX4_fail_14 (by decide) 15 rfl ?_
  refine zk_iload_n dX4_fail_15 1 rfl 16 rfl ?_
  refine zk_iast (gX4 E a (v_text, v_numbers, (upd v_failureParts (0 : Int32).toNatClampNeg x1), 1, 1, v_command, v_commandPlace, v_commandsDone)) dX4_fail_16 2 rfl rfl 17 rfl ?_
  refine zk_nmw (fun v_failureParts_1 => (gX4 E a (v_text, v_numbers, v_failureParts_1, 1, 1, v_command, v_commandPlace, v_commandsDone))) _ rfl (fun v_failureParts_1 => ?_)
  refine zk_aload_n dX4_fail_17 0 rfl 18 rfl ?_
  refine zk_get dX4_fail_18 0 rfl rfl kX4_fail_inX4 2 (by decide) kX4_fail_3 rfl 21 rfl ?_
  refine zk_iconst 1 dX4_fail_21 (by decide) 22 rfl ?_
  refine zk_iload_n dX4_fail_22 2 rfl 23 rfl ?_
  refine zk_iast (gX4 E a (v_text, v_numbers, (upd v_failureParts_1 (1 : Int32).toNatClampNeg x2), 1, 1, v_command, v_commandPlace, v_commandsDone)) dX4_fail_23 2 rfl rfl 24 rfl ?_
  refine zk_nmw (fun v_failureParts_2 => (gX4 E a (v_text, v_numbers, v_failureParts_2, 1, 1, v_command, v_commandPlace, v_commandsDone))) _ rfl (fun v_failureParts_2 => ?_)
  refine zk_aload_n dX4_fail_24 0 rfl 25 rfl ?_
  refine zk_get dX4_fail_25 0 rfl rfl kX4_fail_inX4 2 (by decide) kX4_fail_3 rfl 28 rfl ?_
  refine zk_iconst 2 dX4_fail_28 (by decide) 29 rfl ?_
  refine zk_aload_n dX4_fail_29 0 rfl 30 rfl ?_
  refine zk_get dX4_fail_30 0 rfl rfl kX4_fail_inX4 7 (by decide) kX4_fail_4 rfl 33 rfl ?_
  refine zk_iast (gX4 E a (v_text, v_numbers, (upd v_failureParts_2 (2 : Int32).toNatClampNeg v_commandsDone), 1, 1, v_command, v_commandPlace, v_commandsDone)) dX4_fail_33 2 rfl rfl 34 rfl ?_
  refine zk_nmw (fun v_failureParts_3 => (gX4 E a (v_text, v_numbers, v_failureParts_3, 1, 1, v_command, v_commandPlace, v_commandsDone))) _ rfl (fun v_failureParts_3 => ?_)
  refine zk_aload_n dX4_fail_34 0 rfl 35 rfl ?_
  refine zk_get dX4_fail_35 0 rfl rfl kX4_fail_inX4 2 (by decide) kX4_fail_3 rfl 38 rfl ?_
  refine zk_iconst 3 dX4_fail_38 (by decide) 39 rfl ?_
  refine zk_iload_n dX4_fail_39 3 rfl 40 rfl ?_
  refine zk_iast (gX4 E a (v_text, v_numbers, (upd v_failureParts_3 (3 : Int32).toNatClampNeg x3), 1, 1, v_command, v_commandPlace, v_commandsDone)) dX4_fail_40 2 rfl rfl 41 rfl ?_
  refine zk_nmw (fun v_failureParts_4 => (gX4 E a (v_text, v_numbers, v_failureParts_4, 1, 1, v_command, v_commandPlace, v_commandsDone))) _ rfl (fun v_failureParts_4 => ?_)
  exact zk_vret hQ dX4_fail_41 rfl rfl
def f_X4_numbersOf (x0 : Int32) : Option (Int32) := if x0 = 1 then some 3 else if x0 = 2 then some 1 else if x0 = 3 then some 2 else if x0 = 4 then some 1 else some 0
theorem cd_X4_numbersOf : yX4_numbersOf.cls ≠ "java/lang/invoke/MethodHandle" ∧ yX4_numbersOf.cls ≠ "java/lang/invoke/VarHandle" ∧ (parseMethodDescriptor yX4_numbersOf.desc).map (fun d => d.parameters.length) = some 1 := by decide +kernel
set_option maxRecDepth 100000 in
set_option maxHeartbeats 4000000 in
theorem c_X4_numbersOf (E : zk_Env) (l : Launch) (x0 : Int32) : zk_Mc E l yX4_numbersOf wsX4_numbersOf ({ frames := 0, cells := 0, slots := 0, locals := 0 } : Room) [.int x0] [] (f_X4_numbersOf x0) (fun r => some (.int r)) (fun r => []) := by
  refine zk_M (cc := cX4_numbersOf) (nL := 1) (ret := (some .int)) (by decide) rfl (Nat.le_of_ble_eq_true rfl) (fun X Q hQ => ?_)
  refine zk_eqv (w1 := []) (lv1 := [(0, .int x0)]) (st1 := []) (o1 := f_X4_numbersOf x0) rfl rfl rfl rfl ?_
  unfold f_X4_numbersOf
  refine zk_iload_n dX4_numbersOf_0 0 rfl 1 rfl ?_
  refine zk_if (c := x0 = 1) (fun h1_0 => ?_) (fun h1_0 => ?_)
  · refine zk_tableIn (off := 31) dX4_numbersOf_1 32 (by rw [h1_0]; decide) (by rw [h1_0]; decide) (by rw [h1_0]; rfl) (by decide) ?_
    refine zk_iconst 3 dX4_numbersOf_32 (by decide) 33 rfl ?_
    exact zk_iret hQ dX4_numbersOf_33 rfl rfl
  refine zk_if (c := x0 = 2) (fun h1_1 => ?_) (fun h1_1 => ?_)
  · refine zk_tableIn (off := 35) dX4_numbersOf_1 36 (by rw [h1_1]; decide) (by rw [h1_1]; decide) (by rw [h1_1]; rfl) (by decide) ?_
    refine zk_iconst 1 dX4_numbersOf_36 (by decide) 37 rfl ?_
    exact zk_iret hQ dX4_numbersOf_37 rfl rfl
  refine zk_if (c := x0 = 3) (fun h1_2 => ?_) (fun h1_2 => ?_)
  · refine zk_tableIn (off := 33) dX4_numbersOf_1 34 (by rw [h1_2]; decide) (by rw [h1_2]; decide) (by rw [h1_2]; rfl) (by decide) ?_
    refine zk_iconst 2 dX4_numbersOf_34 (by decide) 35 rfl ?_
    exact zk_iret hQ dX4_numbersOf_35 rfl rfl
  refine zk_if (c := x0 = 4) (fun h1_3 => ?_) (fun h1_3 => ?_)
  · refine zk_tableIn (off := 35) dX4_numbersOf_1 36 (by rw [h1_3]; decide) (by rw [h1_3]; decide) (by rw [h1_3]; rfl) (by decide) ?_
    refine zk_iconst 1 dX4_numbersOf_36 (by decide) 37 rfl ?_
    exact zk_iret hQ dX4_numbersOf_37 rfl rfl
  refine zk_tableOut dX4_numbersOf_1 38 (by have e0 : x0.toInt ≠ 1 := fun z => h1_0 (Int32.toInt_inj.mp z); have e1 : x0.toInt ≠ 2 := fun z => h1_1 (Int32.toInt_inj.mp z); have e2 : x0.toInt ≠ 3 := fun z => h1_2 (Int32.toInt_inj.mp z); have e3 : x0.toInt ≠ 4 := fun z => h1_3 (Int32.toInt_inj.mp z); omega) (by decide) ?_
  refine zk_iconst 0 dX4_numbersOf_38 (by decide) 39 rfl ?_
  exact zk_iret hQ dX4_numbersOf_39 rfl rfl
def f_X7_length (v_length : Int32) : Option (Int32) := some v_length
theorem kX7_length_inX7 : ∀ w ∈ u_ws RX7 TX7 5, w ∈ wsX7_length := by decide +kernel
theorem kX7_length_1 : Cond.fieldLink RX7 15 (TX7 1).1 (TX7 1).2.1 (TX7 1).2.2.1 ∈ wsX7_length := by decide +kernel
theorem cd_X7_length : yX7_length.cls = RX7 ∧ yX7_length.cls ≠ "java/lang/invoke/MethodHandle" ∧ yX7_length.cls ≠ "java/lang/invoke/VarHandle" ∧ (parseMethodDescriptor yX7_length.desc).map (fun d => d.parameters.length) = some 0 := by decide +kernel
set_option maxRecDepth 100000 in
set_option maxHeartbeats 4000000 in
theorem c_X7_length (E : zk_Env) (l : Launch) (a : aX7) (v : VX7)  : zk_Mc E l yX7_length wsX7_length ({ frames := 0, cells := 0, slots := 0, locals := 0 } : Room) [.ref a.1] (gX7 E a v) (f_X7_length v.2.1) (fun r => some (.int r)) (fun r => (gX7 E a v)) := by
  obtain ⟨v_characters, v_length, v_start, v_end, v_kind⟩ := v
  refine zk_M (cc := cX7_length) (nL := 1) (ret := (some .int)) (by decide) rfl (Nat.le_of_ble_eq_true rfl) (fun X Q hQ => ?_)
  refine zk_eqv (w1 := (gX7 E a (v_characters, v_length, v_start, v_end, v_kind))) (lv1 := [(0, .ref a.1)]) (st1 := []) (o1 := f_X7_length v_length) rfl rfl rfl rfl ?_
  unfold f_X7_length
  refine zk_aload_n dX7_length_0 0 rfl 1 rfl ?_
  refine zk_get dX7_length_1 0 rfl rfl kX7_length_inX7 1 (by decide) kX7_length_1 rfl 4 rfl ?_
  exact zk_iret hQ dX7_length_4 rfl rfl
def f_X7_add (x1 : Int32) (v_characters : (Nat → Int32)) (v_length : Int32) : Option (Int32 × (Nat → Int32) × Int32) := if v_length < 0 then some ((-3), v_characters, v_length) else if v_length < 120 then zk_ck v_length 120 (zk_let (upd v_characters v_length.toNatClampNeg x1) fun v_characters_1 => zk_let (v_length + 1) fun v_length_2 => some (v_length_2, v_characters_1, v_length_2)) else some ((-3), v_characters, v_length)
theorem kX7_add_inX7 : ∀ w ∈ u_ws RX7 TX7 5, w ∈ wsX7_add := by decide +kernel
theorem kX7_add_1 : Cond.fieldLink RX7 15 (TX7 1).1 (TX7 1).2.1 (TX7 1).2.2.1 ∈ wsX7_add := by decide +kernel
theorem kX7_add_2 : Cond.fieldLink RX7 9 (TX7 0).1 (TX7 0).2.1 (TX7 0).2.2.1 ∈ wsX7_add := by decide +kernel
theorem cd_X7_add : yX7_add.cls = RX7 ∧ yX7_add.cls ≠ "java/lang/invoke/MethodHandle" ∧ yX7_add.cls ≠ "java/lang/invoke/VarHandle" ∧ (parseMethodDescriptor yX7_add.desc).map (fun d => d.parameters.length) = some 1 := by decide +kernel
set_option maxRecDepth 100000 in
set_option maxHeartbeats 4000000 in
theorem c_X7_add (E : zk_Env) (l : Launch) (a : aX7) (v : VX7) (x1 : Int32) : zk_Mc E l yX7_add wsX7_add ({ frames := 0, cells := 0, slots := 0, locals := 0 } : Room) [.ref a.1, .int x1] (gX7 E a v) (f_X7_add x1 v.1 v.2.1) (fun r => some (.int r.1)) (fun r => (gX7 E a (r.2.1, r.2.2, v.2.2))) := by
  obtain ⟨v_characters, v_length, v_start, v_end, v_kind⟩ := v
  refine zk_M (cc := cX7_add) (nL := 2) (ret := (some .int)) (by decide) rfl (Nat.le_of_ble_eq_true rfl) (fun X Q hQ => ?_)
  refine zk_eqv (w1 := (gX7 E a (v_characters, v_length, v_start, v_end, v_kind))) (lv1 := [(0, .ref a.1), (1, .int x1)]) (st1 := []) (o1 := f_X7_add x1 v_characters v_length) rfl rfl rfl rfl ?_
  unfold f_X7_add
  refine zk_aload_n dX7_add_0 0 rfl 1 rfl ?_
  refine zk_get dX7_add_1 0 rfl rfl kX7_add_inX7 1 (by decide) kX7_add_1 rfl 4 rfl ?_
  refine zk_if_lt dX7_add_4 16 (by decide) 7 rfl (fun _ => ?_) (fun _ => ?_)
  · refine zk_bipush (-3) dX7_add_16 (by decide) 18 rfl ?_
    exact zk_iret hQ dX7_add_18 rfl rfl
  · refine zk_aload_n dX7_add_7 0 rfl 8 rfl ?_
    refine zk_get dX7_add_8 0 rfl rfl kX7_add_inX7 1 (by decide) kX7_add_1 rfl 11 rfl ?_
    refine zk_bipush 120 dX7_add_11 (by decide) 13 rfl ?_
    refine zk_icmp_lt dX7_add_13 19 (by decide) 16 rfl (fun _ => ?_) (fun _ => ?_)
    · refine zk_aload_n dX7_add_19 0 rfl 20 rfl ?_
      refine zk_get dX7_add_20 0 rfl rfl kX7_add_inX7 0 (by decide) kX7_add_2 rfl 23 rfl ?_
      refine zk_aload_n dX7_add_23 0 rfl 24 rfl ?_
      refine zk_get dX7_add_24 0 rfl rfl kX7_add_inX7 1 (by decide) kX7_add_1 rfl 27 rfl ?_
      refine zk_iload_n dX7_add_27 1 rfl 28 rfl ?_
      refine zk_iast (gX7 E a ((upd v_characters v_length.toNatClampNeg x1), v_length, v_start, v_end, v_kind)) dX7_add_28 1 rfl rfl 29 rfl ?_
      refine zk_nmw (fun v_characters_1 => (gX7 E a (v_characters_1, v_length, v_start, v_end, v_kind))) _ rfl (fun v_characters_1 => ?_)
      refine zk_aload_n dX7_add_29 0 rfl 30 rfl ?_
      refine zk_dup dX7_add_30 rfl 31 rfl ?_
      refine zk_get dX7_add_31 0 rfl rfl kX7_add_inX7 1 (by decide) kX7_add_1 rfl 34 rfl ?_
      refine zk_iconst 1 dX7_add_34 (by decide) 35 rfl ?_
      refine zk_iadd dX7_add_35 36 rfl ?_
      refine zk_nm (fun v_length_2 => ?_)
      refine zk_put_ tyX7 (gX7 E a (v_characters_1, v_length_2, v_start, v_end, v_kind)) dX7_add_36 0 rfl rfl kX7_add_inX7 tyX7_ok nmX7 1 (by decide) kX7_add_1 rfl (tyX7_ok 1 (by decide)) rfl rfl (Nat.le_of_ble_eq_true rfl) rfl 39 rfl ?_
      refine zk_aload_n dX7_add_39 0 rfl 40 rfl ?_
      refine zk_get dX7_add_40 0 rfl rfl kX7_add_inX7 1 (by decide) kX7_add_1 rfl 43 rfl ?_
      exact zk_iret hQ dX7_add_43 rfl rfl
    · refine zk_bipush (-3) dX7_add_16 (by decide) 18 rfl ?_
      exact zk_iret hQ dX7_add_18 rfl rfl
def f_X7_makeEmpty (v_length : Int32) : Option (Int32 × Int32) := some (v_length, 0)
theorem kX7_makeEmpty_inX7 : ∀ w ∈ u_ws RX7 TX7 5, w ∈ wsX7_makeEmpty := by decide +kernel
theorem kX7_makeEmpty_1 : Cond.fieldLink RX7 15 (TX7 1).1 (TX7 1).2.1 (TX7 1).2.2.1 ∈ wsX7_makeEmpty := by decide +kernel
theorem cd_X7_makeEmpty : yX7_makeEmpty.cls = RX7 ∧ yX7_makeEmpty.cls ≠ "java/lang/invoke/MethodHandle" ∧ yX7_makeEmpty.cls ≠ "java/lang/invoke/VarHandle" ∧ (parseMethodDescriptor yX7_makeEmpty.desc).map (fun d => d.parameters.length) = some 0 := by decide +kernel
set_option maxRecDepth 100000 in
set_option maxHeartbeats 4000000 in
theorem c_X7_makeEmpty (E : zk_Env) (l : Launch) (a : aX7) (v : VX7)  : zk_Mc E l yX7_makeEmpty wsX7_makeEmpty ({ frames := 0, cells := 0, slots := 0, locals := 0 } : Room) [.ref a.1] (gX7 E a v) (f_X7_makeEmpty v.2.1) (fun r => some (.int r.1)) (fun r => (gX7 E a (v.1, r.2, v.2.2))) := by
  obtain ⟨v_characters, v_length, v_start, v_end, v_kind⟩ := v
  refine zk_M (cc := cX7_makeEmpty) (nL := 2) (ret := (some .int)) (by decide) rfl (Nat.le_of_ble_eq_true rfl) (fun X Q hQ => ?_)
  refine zk_eqv (w1 := (gX7 E a (v_characters, v_length, v_start, v_end, v_kind))) (lv1 := [(0, .ref a.1)]) (st1 := []) (o1 := f_X7_makeEmpty v_length) rfl rfl rfl rfl ?_
  unfold f_X7_makeEmpty
  refine zk_aload_n dX7_makeEmpty_0 0 rfl 1 rfl ?_
  refine zk_get dX7_makeEmpty_1 0 rfl rfl kX7_makeEmpty_inX7 1 (by decide) kX7_makeEmpty_1 rfl 4 rfl ?_
  refine zk_istore_n [(1, .int v_length), (0, .ref a.1)] dX7_makeEmpty_4 (by decide) rfl 5 rfl ?_
  refine zk_aload_n dX7_makeEmpty_5 1 rfl 6 rfl ?_
  refine zk_iconst 0 dX7_makeEmpty_6 (by decide) 7 rfl ?_
  refine zk_put_ tyX7 (gX7 E a (v_characters, 0, v_start, v_end, v_kind)) dX7_makeEmpty_7 0 rfl rfl kX7_makeEmpty_inX7 tyX7_ok nmX7 1 (by decide) kX7_makeEmpty_1 rfl (tyX7_ok 1 (by decide)) rfl rfl (Nat.le_of_ble_eq_true rfl) rfl 10 rfl ?_
  refine zk_iload_n dX7_makeEmpty_10 0 rfl 11 rfl ?_
  exact zk_iret hQ dX7_makeEmpty_11 rfl rfl
def f_X7_beginReading : Option (Int32 × Int32 × Int32) := some (0, 0, 0)
theorem kX7_beginReading_0 : Cond.fieldLink RX7 19 (TX7 2).1 (TX7 2).2.1 (TX7 2).2.2.1 ∈ wsX7_beginReading := by decide +kernel
theorem kX7_beginReading_inX7 : ∀ w ∈ u_ws RX7 TX7 5, w ∈ wsX7_beginReading := by decide +kernel
theorem kX7_beginReading_2 : Cond.fieldLink RX7 22 (TX7 3).1 (TX7 3).2.1 (TX7 3).2.2.1 ∈ wsX7_beginReading := by decide +kernel
theorem kX7_beginReading_3 : Cond.fieldLink RX7 25 (TX7 4).1 (TX7 4).2.1 (TX7 4).2.2.1 ∈ wsX7_beginReading := by decide +kernel
theorem cd_X7_beginReading : yX7_beginReading.cls = RX7 ∧ yX7_beginReading.cls ≠ "java/lang/invoke/MethodHandle" ∧ yX7_beginReading.cls ≠ "java/lang/invoke/VarHandle" ∧ (parseMethodDescriptor yX7_beginReading.desc).map (fun d => d.parameters.length) = some 0 := by decide +kernel
set_option maxRecDepth 100000 in
set_option maxHeartbeats 4000000 in
theorem c_X7_beginReading (E : zk_Env) (l : Launch) (a : aX7) (v : VX7)  : zk_Mc E l yX7_beginReading wsX7_beginReading ({ frames := 0, cells := 0, slots := 0, locals := 0 } : Room) [.ref a.1] (gX7 E a v) (f_X7_beginReading) (fun _ => none) (fun r => (gX7 E a (v.1, v.2.1, r.1, r.2.1, r.2.2))) := by
  obtain ⟨v_characters, v_length, v_start, v_end, v_kind⟩ := v
  refine zk_M (cc := cX7_beginReading) (nL := 1) (ret := none) (by decide) rfl (Nat.le_of_ble_eq_true rfl) (fun X Q hQ => ?_)
  refine zk_eqv (w1 := (gX7 E a (v_characters, v_length, v_start, v_end, v_kind))) (lv1 := [(0, .ref a.1)]) (st1 := []) (o1 := f_X7_beginReading ) rfl rfl rfl rfl ?_
  unfold f_X7_beginReading
  refine zk_aload_n dX7_beginReading_0 0 rfl 1 rfl ?_
  refine zk_iconst 0 dX7_beginReading_1 (by decide) 2 rfl ?_
  refine zk_put_ tyX7 (gX7 E a (v_characters, v_length, 0, v_end, v_kind)) dX7_beginReading_2 0 rfl rfl kX7_beginReading_inX7 tyX7_ok nmX7 2 (by decide) kX7_beginReading_0 rfl (tyX7_ok 2 (by decide)) rfl rfl (Nat.le_of_ble_eq_true rfl) rfl 5 rfl ?_
  refine zk_aload_n dX7_beginReading_5 0 rfl 6 rfl ?_
  refine zk_iconst 0 dX7_beginReading_6 (by decide) 7 rfl ?_
  refine zk_put_ tyX7 (gX7 E a (v_characters, v_length, 0, 0, v_kind)) dX7_beginReading_7 0 rfl rfl kX7_beginReading_inX7 tyX7_ok nmX7 3 (by decide) kX7_beginReading_2 rfl (tyX7_ok 3 (by decide)) rfl rfl (Nat.le_of_ble_eq_true rfl) rfl 10 rfl ?_
  refine zk_aload_n dX7_beginReading_10 0 rfl 11 rfl ?_
  refine zk_iconst 0 dX7_beginReading_11 (by decide) 12 rfl ?_
  refine zk_put_ tyX7 (gX7 E a (v_characters, v_length, 0, 0, 0)) dX7_beginReading_12 0 rfl rfl kX7_beginReading_inX7 tyX7_ok nmX7 4 (by decide) kX7_beginReading_3 rfl (tyX7_ok 4 (by decide)) rfl rfl (Nat.le_of_ble_eq_true rfl) rfl 15 rfl ?_
  exact zk_vret hQ dX7_beginReading_15 rfl rfl
def f_X7_tokenStart (v_start : Int32) : Option (Int32) := some v_start
theorem kX7_tokenStart_inX7 : ∀ w ∈ u_ws RX7 TX7 5, w ∈ wsX7_tokenStart := by decide +kernel
theorem kX7_tokenStart_1 : Cond.fieldLink RX7 19 (TX7 2).1 (TX7 2).2.1 (TX7 2).2.2.1 ∈ wsX7_tokenStart := by decide +kernel
theorem cd_X7_tokenStart : yX7_tokenStart.cls = RX7 ∧ yX7_tokenStart.cls ≠ "java/lang/invoke/MethodHandle" ∧ yX7_tokenStart.cls ≠ "java/lang/invoke/VarHandle" ∧ (parseMethodDescriptor yX7_tokenStart.desc).map (fun d => d.parameters.length) = some 0 := by decide +kernel
set_option maxRecDepth 100000 in
set_option maxHeartbeats 4000000 in
theorem c_X7_tokenStart (E : zk_Env) (l : Launch) (a : aX7) (v : VX7)  : zk_Mc E l yX7_tokenStart wsX7_tokenStart ({ frames := 0, cells := 0, slots := 0, locals := 0 } : Room) [.ref a.1] (gX7 E a v) (f_X7_tokenStart v.2.2.1) (fun r => some (.int r)) (fun r => (gX7 E a v)) := by
  obtain ⟨v_characters, v_length, v_start, v_end, v_kind⟩ := v
  refine zk_M (cc := cX7_tokenStart) (nL := 1) (ret := (some .int)) (by decide) rfl (Nat.le_of_ble_eq_true rfl) (fun X Q hQ => ?_)
  refine zk_eqv (w1 := (gX7 E a (v_characters, v_length, v_start, v_end, v_kind))) (lv1 := [(0, .ref a.1)]) (st1 := []) (o1 := f_X7_tokenStart v_start) rfl rfl rfl rfl ?_
  unfold f_X7_tokenStart
  refine zk_aload_n dX7_tokenStart_0 0 rfl 1 rfl ?_
  refine zk_get dX7_tokenStart_1 0 rfl rfl kX7_tokenStart_inX7 2 (by decide) kX7_tokenStart_1 rfl 4 rfl ?_
  exact zk_iret hQ dX7_tokenStart_4 rfl rfl
def f_X7_isAtEnd (v_kind : Int32) : Option (Int32) := if v_kind = 0 then some 1 else some 0
theorem kX7_isAtEnd_inX7 : ∀ w ∈ u_ws RX7 TX7 5, w ∈ wsX7_isAtEnd := by decide +kernel
theorem kX7_isAtEnd_1 : Cond.fieldLink RX7 25 (TX7 4).1 (TX7 4).2.1 (TX7 4).2.2.1 ∈ wsX7_isAtEnd := by decide +kernel
theorem cd_X7_isAtEnd : yX7_isAtEnd.cls = RX7 ∧ yX7_isAtEnd.cls ≠ "java/lang/invoke/MethodHandle" ∧ yX7_isAtEnd.cls ≠ "java/lang/invoke/VarHandle" ∧ (parseMethodDescriptor yX7_isAtEnd.desc).map (fun d => d.parameters.length) = some 0 := by decide +kernel
set_option maxRecDepth 100000 in
set_option maxHeartbeats 4000000 in
theorem c_X7_isAtEnd (E : zk_Env) (l : Launch) (a : aX7) (v : VX7)  : zk_Mc E l yX7_isAtEnd wsX7_isAtEnd ({ frames := 0, cells := 0, slots := 0, locals := 0 } : Room) [.ref a.1] (gX7 E a v) (f_X7_isAtEnd v.2.2.2.2) (fun r => some (.int r)) (fun r => (gX7 E a v)) := by
  obtain ⟨v_characters, v_length, v_start, v_end, v_kind⟩ := v
  refine zk_M (cc := cX7_isAtEnd) (nL := 1) (ret := (some .boolean)) (by decide) rfl (Nat.le_of_ble_eq_true rfl) (fun X Q hQ => ?_)
  refine zk_eqv (w1 := (gX7 E a (v_characters, v_length, v_start, v_end, v_kind))) (lv1 := [(0, .ref a.1)]) (st1 := []) (o1 := f_X7_isAtEnd v_kind) rfl rfl rfl rfl ?_
  unfold f_X7_isAtEnd
  refine zk_aload_n dX7_isAtEnd_0 0 rfl 1 rfl ?_
  refine zk_get dX7_isAtEnd_1 0 rfl rfl kX7_isAtEnd_inX7 4 (by decide) kX7_isAtEnd_1 rfl 4 rfl ?_
  refine zk_if_ne dX7_isAtEnd_4 11 (by decide) 7 rfl (fun _ => ?_) (fun _ => ?_)
  · refine zk_iconst 1 dX7_isAtEnd_7 (by decide) 8 rfl ?_
    refine zk_goto dX7_isAtEnd_8 12 (by decide) ?_
    exact zk_zretL hQ dX7_isAtEnd_12 (Or.inr rfl) rfl rfl
  · refine zk_iconst 0 dX7_isAtEnd_11 (by decide) 12 rfl ?_
    exact zk_zretL hQ dX7_isAtEnd_12 (Or.inl rfl) rfl rfl
def f_X7_at (x1 : Int32) (v_characters : (Nat → Int32)) (v_length : Int32) : Option (Int32) := if x1 < 0 then some 0 else if v_length ≤ x1 then some 0 else if x1 < 120 then zk_ck x1 120 (some (v_characters x1.toNatClampNeg)) else some 0
theorem kX7_at_inX7 : ∀ w ∈ u_ws RX7 TX7 5, w ∈ wsX7_at := by decide +kernel
theorem kX7_at_1 : Cond.fieldLink RX7 15 (TX7 1).1 (TX7 1).2.1 (TX7 1).2.2.1 ∈ wsX7_at := by decide +kernel
theorem kX7_at_2 : Cond.fieldLink RX7 9 (TX7 0).1 (TX7 0).2.1 (TX7 0).2.2.1 ∈ wsX7_at := by decide +kernel
theorem cd_X7_at : yX7_at.cls = RX7 ∧ yX7_at.cls ≠ "java/lang/invoke/MethodHandle" ∧ yX7_at.cls ≠ "java/lang/invoke/VarHandle" ∧ (parseMethodDescriptor yX7_at.desc).map (fun d => d.parameters.length) = some 1 := by decide +kernel
set_option maxRecDepth 100000 in
set_option maxHeartbeats 4000000 in
theorem c_X7_at (E : zk_Env) (l : Launch) (a : aX7) (v : VX7) (x1 : Int32) : zk_Mc E l yX7_at wsX7_at ({ frames := 0, cells := 0, slots := 0, locals := 0 } : Room) [.ref a.1, .int x1] (gX7 E a v) (f_X7_at x1 v.1 v.2.1) (fun r => some (.int r)) (fun r => (gX7 E a v)) := by
  obtain ⟨v_characters, v_length, v_start, v_end, v_kind⟩ := v
  refine zk_M (cc := cX7_at) (nL := 2) (ret := (some .int)) (by decide) rfl (Nat.le_of_ble_eq_true rfl) (fun X Q hQ => ?_)
  refine zk_eqv (w1 := (gX7 E a (v_characters, v_length, v_start, v_end, v_kind))) (lv1 := [(0, .ref a.1), (1, .int x1)]) (st1 := []) (o1 := f_X7_at x1 v_characters v_length) rfl rfl rfl rfl ?_
  unfold f_X7_at
  refine zk_iload_n dX7_at_0 1 rfl 1 rfl ?_
  refine zk_if_lt dX7_at_1 18 (by decide) 4 rfl (fun _ => ?_) (fun _ => ?_)
  · refine zk_iconst 0 dX7_at_18 (by decide) 19 rfl ?_
    exact zk_iret hQ dX7_at_19 rfl rfl
  · refine zk_iload_n dX7_at_4 1 rfl 5 rfl ?_
    refine zk_aload_n dX7_at_5 0 rfl 6 rfl ?_
    refine zk_get dX7_at_6 0 rfl rfl kX7_at_inX7 1 (by decide) kX7_at_1 rfl 9 rfl ?_
    refine zk_icmp_ge dX7_at_9 18 (by decide) 12 rfl (fun _ => ?_) (fun _ => ?_)
    · refine zk_iconst 0 dX7_at_18 (by decide) 19 rfl ?_
      exact zk_iret hQ dX7_at_19 rfl rfl
    · refine zk_iload_n dX7_at_12 1 rfl 13 rfl ?_
      refine zk_bipush 120 dX7_at_13 (by decide) 15 rfl ?_
      refine zk_icmp_lt dX7_at_15 20 (by decide) 18 rfl (fun _ => ?_) (fun _ => ?_)
      · refine zk_aload_n dX7_at_20 0 rfl 21 rfl ?_
        refine zk_get dX7_at_21 0 rfl rfl kX7_at_inX7 0 (by decide) kX7_at_2 rfl 24 rfl ?_
        refine zk_iload_n dX7_at_24 1 rfl 25 rfl ?_
        refine zk_iald dX7_at_25 1 rfl 26 rfl ?_
        exact zk_iret hQ dX7_at_26 rfl rfl
      · refine zk_iconst 0 dX7_at_18 (by decide) 19 rfl ?_
        exact zk_iret hQ dX7_at_19 rfl rfl
def f_X7_kindOf_20 (x0 : Int32) : Option (Int32) := if x0 < 48 then some 3 else if 57 < x0 then some 3 else some 2
def f_X7_kindOf (x0 : Int32) : Option (Int32) := if x0 = 0 then some 0 else if x0 < 97 then f_X7_kindOf_20 x0 else if 122 < x0 then f_X7_kindOf_20 x0 else some 1
theorem cd_X7_kindOf : yX7_kindOf.cls ≠ "java/lang/invoke/MethodHandle" ∧ yX7_kindOf.cls ≠ "java/lang/invoke/VarHandle" ∧ (parseMethodDescriptor yX7_kindOf.desc).map (fun d => d.parameters.length) = some 1 := by decide +kernel
set_option maxRecDepth 100000 in
set_option maxHeartbeats 4000000 in
theorem c_X7_kindOf (E : zk_Env) (l : Launch) (x0 : Int32) : zk_Mc E l yX7_kindOf wsX7_kindOf ({ frames := 0, cells := 0, slots := 0, locals := 0 } : Room) [.int x0] [] (f_X7_kindOf x0) (fun r => some (.int r)) (fun r => []) := by
  refine zk_M (cc := cX7_kindOf) (nL := 1) (ret := (some .int)) (by decide) rfl (Nat.le_of_ble_eq_true rfl) (fun X Q hQ => ?_)
  have J20 : zk_G E l X cX7_kindOf 1 (some .int) yX7_kindOf.cls wsX7_kindOf ({ frames := 0, cells := 0, slots := 0, locals := 0 } : Room) 0 0 Q [] [(0, .int x0)] 20 [] (f_X7_kindOf_20 x0 ) := by
    unfold f_X7_kindOf_20
    refine zk_iload_n dX7_kindOf_20 0 rfl 21 rfl ?_
    refine zk_bipush 48 dX7_kindOf_21 (by decide) 23 rfl ?_
    refine zk_icmp_lt dX7_kindOf_23 36 (by decide) 26 rfl (fun _ => ?_) (fun _ => ?_)
    · refine zk_iconst 3 dX7_kindOf_36 (by decide) 37 rfl ?_
      exact zk_iret hQ dX7_kindOf_37 rfl rfl
    · refine zk_iload_n dX7_kindOf_26 0 rfl 27 rfl ?_
      refine zk_bipush 57 dX7_kindOf_27 (by decide) 29 rfl ?_
      refine zk_icmp_gt dX7_kindOf_29 36 (by decide) 32 rfl (fun _ => ?_) (fun _ => ?_)
      · refine zk_iconst 3 dX7_kindOf_36 (by decide) 37 rfl ?_
        exact zk_iret hQ dX7_kindOf_37 rfl rfl
      · refine zk_iconst 2 dX7_kindOf_32 (by decide) 33 rfl ?_
        refine zk_goto dX7_kindOf_33 37 (by decide) ?_
        exact zk_iret hQ dX7_kindOf_37 rfl rfl
  refine zk_eqv (w1 := []) (lv1 := [(0, .int x0)]) (st1 := []) (o1 := f_X7_kindOf x0) rfl rfl rfl rfl ?_
  unfold f_X7_kindOf
  refine zk_iload_n dX7_kindOf_0 0 rfl 1 rfl ?_
  refine zk_if_ne dX7_kindOf_1 6 (by decide) 4 rfl (fun _ => ?_) (fun _ => ?_)
  · refine zk_iconst 0 dX7_kindOf_4 (by decide) 5 rfl ?_
    exact zk_iret hQ dX7_kindOf_5 rfl rfl
  · refine zk_iload_n dX7_kindOf_6 0 rfl 7 rfl ?_
    refine zk_bipush 97 dX7_kindOf_7 (by decide) 9 rfl ?_
    refine zk_icmp_lt dX7_kindOf_9 20 (by decide) 12 rfl (fun _ => ?_) (fun _ => ?_)
    · exact J20   
    · refine zk_iload_n dX7_kindOf_12 0 rfl 13 rfl ?_
      refine zk_bipush 122 dX7_kindOf_13 (by decide) 15 rfl ?_
      refine zk_icmp_gt dX7_kindOf_15 20 (by decide) 18 rfl (fun _ => ?_) (fun _ => ?_)
      · exact J20   
      · refine zk_iconst 1 dX7_kindOf_18 (by decide) 19 rfl ?_
        exact zk_iret hQ dX7_kindOf_19 rfl rfl
def f_X4_begin (v_text : VX7) : Option (VX7 × Int32 × Int32 × Int32 × Int32) := f_X7_beginReading.bind fun r4 => some ((v_text.1, v_text.2.1, r4.1, r4.2.1, r4.2.2), 0, 0, 0, 0)
theorem kX4_begin_inX4 : ∀ w ∈ u_ws RX4 TX4 8, w ∈ wsX4_begin := by decide +kernel
theorem kX4_begin_1 : Cond.fieldLink RX4 12 (TX4 0).1 (TX4 0).2.1 (TX4 0).2.2.1 ∈ wsX4_begin := by decide +kernel
theorem kX4_begin_2 : Cond.fieldLink RX4 28 (TX4 4).1 (TX4 4).2.1 (TX4 4).2.2.1 ∈ wsX4_begin := by decide +kernel
theorem kX4_begin_3 : Cond.fieldLink RX4 32 (TX4 5).1 (TX4 5).2.1 (TX4 5).2.2.1 ∈ wsX4_begin := by decide +kernel
theorem kX4_begin_4 : Cond.fieldLink RX4 36 (TX4 6).1 (TX4 6).2.1 (TX4 6).2.2.1 ∈ wsX4_begin := by decide +kernel
theorem kX4_begin_5 : Cond.fieldLink RX4 39 (TX4 7).1 (TX4 7).2.1 (TX4 7).2.2.1 ∈ wsX4_begin := by decide +kernel
theorem cd_X4_begin : yX4_begin.cls = RX4 ∧ yX4_begin.cls ≠ "java/lang/invoke/MethodHandle" ∧ yX4_begin.cls ≠ "java/lang/invoke/VarHandle" ∧ (parseMethodDescriptor yX4_begin.desc).map (fun d => d.parameters.length) = some 0 := by decide +kernel
set_option maxRecDepth 100000 in
set_option maxHeartbeats 4000000 in
theorem c_X4_begin (E : zk_Env) (l : Launch) (a : aX4) (v : VX4)  : zk_Mc E l yX4_begin wsX4_begin ({ frames := 1, cells := 0, slots := 0, locals := 20 } : Room) [.ref a.1] (gX4 E a v) (f_X4_begin v.1) (fun _ => none) (fun r => (gX4 E a (r.1, v.2.1, v.2.2.1, v.2.2.2.1, r.2.1, r.2.2.1, r.2.2.2.1, r.2.2.2.2))) := by
  obtain ⟨v_text, v_numbers, v_failureParts, v_everFailed, v_failed, v_command, v_commandPlace, v_commandsDone⟩ := v
  refine zk_M (cc := cX4_begin) (nL := 1) (ret := none) (by decide) rfl (Nat.le_of_ble_eq_true rfl) (fun X Q hQ => ?_)
  refine zk_eqv (w1 := (gX4 E a (v_text, v_numbers, v_failureParts, v_everFailed, v_failed, v_command, v_commandPlace, v_commandsDone))) (lv1 := [(0, .ref a.1)]) (st1 := []) (o1 := f_X4_begin v_text) rfl rfl rfl rfl ?_
  unfold f_X4_begin
  refine zk_aload_n dX4_begin_0 0 rfl 1 rfl ?_
  refine zk_get dX4_begin_1 0 rfl rfl kX4_begin_inX4 0 (by decide) kX4_begin_1 rfl 4 rfl ?_
  refine zk_callV (ci := 7) (st := []) (c_X7_beginReading E l a.2.1 v_text) dX4_begin_4 0 gX4_begin_X7_beginReading rfl rfl rfl cd_X7_beginReading ⟨Nat.le_of_ble_eq_true rfl, Nat.le_of_ble_eq_true rfl⟩ ⟨Nat.zero_le _, Nat.zero_le _⟩ _ (fun r4 => (gX4 E a ((v_text.1, v_text.2.1, r4.1, r4.2.1, r4.2.2), v_numbers, v_failureParts, v_everFailed, v_failed, v_command, v_commandPlace, v_commandsDone))) (zk_pc zk_pa (zk_p1 (gs := (lX4 E a (v_text, v_numbers, v_failureParts, v_everFailed, v_failed, v_command, v_commandPlace, v_commandsDone))) (i := 1) rfl)) (fun r4 => (zk_qc zk_qa (zk_q1 (gs := (lX4 E a (v_text, v_numbers, v_failureParts, v_everFailed, v_failed, v_command, v_commandPlace, v_commandsDone))) (i := 1) (w1 := gX4 E a ((v_text.1, v_text.2.1, r4.1, r4.2.1, r4.2.2), v_numbers, v_failureParts, v_everFailed, v_failed, v_command, v_commandPlace, v_commandsDone)) rfl rfl))) rfl rfl rfl rfl (Nat.le_of_ble_eq_true rfl) (fun r4 => []) (fun _ => rfl) 7 rfl (fun r4 => ?_)
  refine zk_aload_n dX4_begin_7 0 rfl 8 rfl ?_
  refine zk_iconst 0 dX4_begin_8 (by decide) 9 rfl ?_
  refine zk_put_ tyX4 (gX4 E a ((v_text.1, v_text.2.1, r4.1, r4.2.1, r4.2.2), v_numbers, v_failureParts, v_everFailed, 0, v_command, v_commandPlace, v_commandsDone)) dX4_begin_9 0 rfl rfl kX4_begin_inX4 tyX4_ok nmX4 4 (by decide) kX4_begin_2 rfl (tyX4_ok 4 (by decide)) rfl rfl (Nat.le_of_ble_eq_true rfl) rfl 12 rfl ?_
  refine zk_aload_n dX4_begin_12 0 rfl 13 rfl ?_
  refine zk_iconst 0 dX4_begin_13 (by decide) 14 rfl ?_
  refine zk_put_ tyX4 (gX4 E a ((v_text.1, v_text.2.1, r4.1, r4.2.1, r4.2.2), v_numbers, v_failureParts, v_everFailed, 0, 0, v_commandPlace, v_commandsDone)) dX4_begin_14 0 rfl rfl kX4_begin_inX4 tyX4_ok nmX4 5 (by decide) kX4_begin_3 rfl (tyX4_ok 5 (by decide)) rfl rfl (Nat.le_of_ble_eq_true rfl) rfl 17 rfl ?_
  refine zk_aload_n dX4_begin_17 0 rfl 18 rfl ?_
  refine zk_iconst 0 dX4_begin_18 (by decide) 19 rfl ?_
  refine zk_put_ tyX4 (gX4 E a ((v_text.1, v_text.2.1, r4.1, r4.2.1, r4.2.2), v_numbers, v_failureParts, v_everFailed, 0, 0, 0, v_commandsDone)) dX4_begin_19 0 rfl rfl kX4_begin_inX4 tyX4_ok nmX4 6 (by decide) kX4_begin_4 rfl (tyX4_ok 6 (by decide)) rfl rfl (Nat.le_of_ble_eq_true rfl) rfl 22 rfl ?_
  refine zk_aload_n dX4_begin_22 0 rfl 23 rfl ?_
  refine zk_iconst 0 dX4_begin_23 (by decide) 24 rfl ?_
  refine zk_put_ tyX4 (gX4 E a ((v_text.1, v_text.2.1, r4.1, r4.2.1, r4.2.2), v_numbers, v_failureParts, v_everFailed, 0, 0, 0, 0)) dX4_begin_24 0 rfl rfl kX4_begin_inX4 tyX4_ok nmX4 7 (by decide) kX4_begin_5 rfl (tyX4_ok 7 (by decide)) rfl rfl (Nat.le_of_ble_eq_true rfl) rfl 27 rfl ?_
  exact zk_vret hQ dX4_begin_27 rfl rfl
def f_X4_finishCommand (x1 : Int32) (v_failureParts : (Nat → Int32)) (v_everFailed : Int32) (v_failed : Int32) (v_commandPlace : Int32) (v_commandsDone : Int32) : Option ((Nat → Int32) × Int32 × Int32 × Int32) := if 0 ≤ x1 then zk_let (v_commandsDone + 1) fun v_commandsDone_1 => some (v_failureParts, v_everFailed, v_failed, v_commandsDone_1) else (f_X4_fail 2 v_commandPlace x1 v_failureParts v_commandsDone).bind fun r11 => some (r11.1, r11.2.1, r11.2.2, v_commandsDone)
theorem kX4_finishCommand_inX4 : ∀ w ∈ u_ws RX4 TX4 8, w ∈ wsX4_finishCommand := by decide +kernel
theorem kX4_finishCommand_1 : Cond.fieldLink RX4 39 (TX4 7).1 (TX4 7).2.1 (TX4 7).2.2.1 ∈ wsX4_finishCommand := by decide +kernel
theorem kX4_finishCommand_2 : Cond.fieldLink RX4 36 (TX4 6).1 (TX4 6).2.1 (TX4 6).2.2.1 ∈ wsX4_finishCommand := by decide +kernel
theorem cd_X4_finishCommand : yX4_finishCommand.cls = RX4 ∧ yX4_finishCommand.cls ≠ "java/lang/invoke/MethodHandle" ∧ yX4_finishCommand.cls ≠ "java/lang/invoke/VarHandle" ∧ (parseMethodDescriptor yX4_finishCommand.desc).map (fun d => d.parameters.length) = some 1 := by decide +kernel
set_option maxRecDepth 100000 in
set_option maxHeartbeats 4000000 in
theorem c_X4_finishCommand (E : zk_Env) (l : Launch) (a : aX4) (v : VX4) (x1 : Int32) : zk_Mc E l yX4_finishCommand wsX4_finishCommand ({ frames := 1, cells := 0, slots := 0, locals := 23 } : Room) [.ref a.1, .int x1] (gX4 E a v) (f_X4_finishCommand x1 v.2.2.1 v.2.2.2.1 v.2.2.2.2.1 v.2.2.2.2.2.2.1 v.2.2.2.2.2.2.2) (fun _ => none) (fun r => (gX4 E a (v.1, v.2.1, r.1, r.2.1, r.2.2.1, v.2.2.2.2.2.1, v.2.2.2.2.2.2.1, r.2.2.2))) := by
  obtain ⟨v_text, v_numbers, v_failureParts, v_everFailed, v_failed, v_command, v_commandPlace, v_commandsDone⟩ := v
  refine zk_M (cc := cX4_finishCommand) (nL := 2) (ret := none) (by decide) rfl (Nat.le_of_ble_eq_true rfl) (fun X Q hQ => ?_)
  refine zk_eqv (w1 := (gX4 E a (v_text, v_numbers, v_failureParts, v_everFailed, v_failed, v_command, v_commandPlace, v_commandsDone))) (lv1 := [(0, .ref a.1), (1, .int x1)]) (st1 := []) (o1 := f_X4_finishCommand x1 v_failureParts v_everFailed v_failed v_commandPlace v_commandsDone) rfl rfl rfl rfl ?_
  unfold f_X4_finishCommand
  refine zk_iload_n dX4_finishCommand_0 1 rfl 1 rfl ?_
  refine zk_if_ge dX4_finishCommand_1 17 (by decide) 4 rfl (fun _ => ?_) (fun _ => ?_)
  · refine zk_aload_n dX4_finishCommand_17 0 rfl 18 rfl ?_
    refine zk_dup dX4_finishCommand_18 rfl 19 rfl ?_
    refine zk_get dX4_finishCommand_19 0 rfl rfl kX4_finishCommand_inX4 7 (by decide) kX4_finishCommand_1 rfl 22 rfl ?_
    refine zk_iconst 1 dX4_finishCommand_22 (by decide) 23 rfl ?_
    refine zk_iadd dX4_finishCommand_23 24 rfl ?_
    refine zk_nm (fun v_commandsDone_1 => ?_)
    refine zk_put_ tyX4 (gX4 E a (v_text, v_numbers, v_failureParts, v_everFailed, v_failed, v_command, v_commandPlace, v_commandsDone_1)) dX4_finishCommand_24 0 rfl rfl kX4_finishCommand_inX4 tyX4_ok nmX4 7 (by decide) kX4_finishCommand_1 rfl (tyX4_ok 7 (by decide)) rfl rfl (Nat.le_of_ble_eq_true rfl) rfl 27 rfl ?_
    exact zk_vret hQ dX4_finishCommand_27 rfl rfl
  · refine zk_aload_n dX4_finishCommand_4 0 rfl 5 rfl ?_
    refine zk_iconst 2 dX4_finishCommand_5 (by decide) 6 rfl ?_
    refine zk_aload_n dX4_finishCommand_6 0 rfl 7 rfl ?_
    refine zk_get dX4_finishCommand_7 0 rfl rfl kX4_finishCommand_inX4 6 (by decide) kX4_finishCommand_2 rfl 10 rfl ?_
    refine zk_iload_n dX4_finishCommand_10 1 rfl 11 rfl ?_
    refine zk_callV (ci := 4) (st := []) (c_X4_fail E l a (v_text, v_numbers, v_failureParts, v_everFailed, v_failed, v_command, v_commandPlace, v_commandsDone) 2 v_commandPlace x1) dX4_finishCommand_11 3 gX4_finishCommand_X4_fail rfl rfl rfl cd_X4_fail ⟨Nat.le_of_ble_eq_true rfl, Nat.le_of_ble_eq_true rfl⟩ ⟨Nat.zero_le _, Nat.zero_le _⟩ _ (fun r11 => (gX4 E a (v_text, v_numbers, r11.1, r11.2.1, r11.2.2, v_command, v_commandPlace, v_commandsDone))) zk_pa (fun r11 => zk_qa) rfl rfl rfl rfl (Nat.le_of_ble_eq_true rfl) (fun r11 => []) (fun _ => rfl) 14 rfl (fun r11 => ?_)
    refine zk_goto dX4_finishCommand_14 27 (by decide) ?_
    exact zk_vret hQ dX4_finishCommand_27 rfl rfl
def f_X4_failAtToken (v_text : VX7) (v_failureParts : (Nat → Int32)) (v_commandsDone : Int32) : Option (Int32 × (Nat → Int32) × Int32 × Int32) := (f_X7_tokenStart v_text.2.2.1).bind fun r6 => (f_X4_fail 1 r6 (-9) v_failureParts v_commandsDone).bind fun r11 => some (0, r11.1, r11.2.1, r11.2.2)
theorem kX4_failAtToken_inX4 : ∀ w ∈ u_ws RX4 TX4 8, w ∈ wsX4_failAtToken := by decide +kernel
theorem kX4_failAtToken_1 : Cond.fieldLink RX4 12 (TX4 0).1 (TX4 0).2.1 (TX4 0).2.2.1 ∈ wsX4_failAtToken := by decide +kernel
theorem cd_X4_failAtToken : yX4_failAtToken.cls = RX4 ∧ yX4_failAtToken.cls ≠ "java/lang/invoke/MethodHandle" ∧ yX4_failAtToken.cls ≠ "java/lang/invoke/VarHandle" ∧ (parseMethodDescriptor yX4_failAtToken.desc).map (fun d => d.parameters.length) = some 0 := by decide +kernel
set_option maxRecDepth 100000 in
set_option maxHeartbeats 4000000 in
theorem c_X4_failAtToken (E : zk_Env) (l : Launch) (a : aX4) (v : VX4)  : zk_Mc E l yX4_failAtToken wsX4_failAtToken ({ frames := 1, cells := 0, slots := 0, locals := 23 } : Room) [.ref a.1] (gX4 E a v) (f_X4_failAtToken v.1 v.2.2.1 v.2.2.2.2.2.2.2) (fun r => some (.int r.1)) (fun r => (gX4 E a (v.1, v.2.1, r.2.1, r.2.2.1, r.2.2.2, v.2.2.2.2.2))) := by
  obtain ⟨v_text, v_numbers, v_failureParts, v_everFailed, v_failed, v_command, v_commandPlace, v_commandsDone⟩ := v
  refine zk_M (cc := cX4_failAtToken) (nL := 1) (ret := (some .boolean)) (by decide) rfl (Nat.le_of_ble_eq_true rfl) (fun X Q hQ => ?_)
  refine zk_eqv (w1 := (gX4 E a (v_text, v_numbers, v_failureParts, v_everFailed, v_failed, v_command, v_commandPlace, v_commandsDone))) (lv1 := [(0, .ref a.1)]) (st1 := []) (o1 := f_X4_failAtToken v_text v_failureParts v_commandsDone) rfl rfl rfl rfl ?_
  unfold f_X4_failAtToken
  refine zk_aload_n dX4_failAtToken_0 0 rfl 1 rfl ?_
  refine zk_iconst 1 dX4_failAtToken_1 (by decide) 2 rfl ?_
  refine zk_aload_n dX4_failAtToken_2 0 rfl 3 rfl ?_
  refine zk_get dX4_failAtToken_3 0 rfl rfl kX4_failAtToken_inX4 0 (by decide) kX4_failAtToken_1 rfl 6 rfl ?_
  refine zk_callV (ci := 7) (st := [.int 1, .ref a.1]) (c_X7_tokenStart E l a.2.1 v_text) dX4_failAtToken_6 0 gX4_failAtToken_X7_tokenStart rfl rfl rfl cd_X7_tokenStart ⟨Nat.le_of_ble_eq_true rfl, Nat.le_of_ble_eq_true rfl⟩ ⟨Nat.zero_le _, Nat.zero_le _⟩ _ (fun r6 => (gX4 E a (v_text, v_numbers, v_failureParts, v_everFailed, v_failed, v_command, v_commandPlace, v_commandsDone))) (zk_pc zk_pa (zk_p1 (gs := (lX4 E a (v_text, v_numbers, v_failureParts, v_everFailed, v_failed, v_command, v_commandPlace, v_commandsDone))) (i := 1) rfl)) (fun r6 => (zk_qc zk_qa (zk_q1 (gs := (lX4 E a (v_text, v_numbers, v_failureParts, v_everFailed, v_failed, v_command, v_commandPlace, v_commandsDone))) (i := 1) (w1 := gX4 E a (v_text, v_numbers, v_failureParts, v_everFailed, v_failed, v_command, v_commandPlace, v_commandsDone)) rfl rfl))) rfl rfl rfl rfl (Nat.le_of_ble_eq_true rfl) (fun r6 => [.int r6, .int 1, .ref a.1]) (fun _ => rfl) 9 rfl (fun r6 => ?_)
  refine zk_bipush (-9) dX4_failAtToken_9 (by decide) 11 rfl ?_
  refine zk_callV (ci := 4) (st := []) (c_X4_fail E l a (v_text, v_numbers, v_failureParts, v_everFailed, v_failed, v_command, v_commandPlace, v_commandsDone) 1 r6 (-9)) dX4_failAtToken_11 3 gX4_failAtToken_X4_fail rfl rfl rfl cd_X4_fail ⟨Nat.le_of_ble_eq_true rfl, Nat.le_of_ble_eq_true rfl⟩ ⟨Nat.zero_le _, Nat.zero_le _⟩ _ (fun r11 => (gX4 E a (v_text, v_numbers, r11.1, r11.2.1, r11.2.2, v_command, v_commandPlace, v_commandsDone))) zk_pa (fun r11 => zk_qa) rfl rfl rfl rfl (Nat.le_of_ble_eq_true rfl) (fun r11 => []) (fun _ => rfl) 14 rfl (fun r11 => ?_)
  refine zk_iconst 0 dX4_failAtToken_14 (by decide) 15 rfl ?_
  exact zk_zretL hQ dX4_failAtToken_15 (Or.inl rfl) rfl rfl
def F_X7_readToken_97 (v_characters : (Nat → Int32)) (v_length : Int32) (v_start : Int32) (v_kind : Int32) (k97 : Int32 × Int32 → Option (Int32 × Int32 × Int32)) : Int32 × Int32 → Option (Int32 × Int32 × Int32) := fun s => match s with
  | (x1, v_end) => if 120 ≤ x1 then some (v_start, v_end, v_kind) else (f_X7_at v_end v_characters v_length).bind fun r108 => (f_X7_kindOf r108).bind fun r111 => if r111 = v_kind then zk_let (v_end + 1) fun v_end_3 => k97 ((x1 + 1), v_end_3) else some (v_start, v_end, v_kind)
def f_X7_readToken_45 (v_characters : (Nat → Int32)) (v_length : Int32) (v_start : Int32) (v_end : Int32) (v_kind : Int32) : Option (Int32 × Int32 × Int32) := (f_X7_at v_start v_characters v_length).bind fun r51 => (f_X7_kindOf r51).bind fun r54 => if r54 = 0 then some (v_start, v_start, r54) else zk_let (v_start + 1) fun v_end_2 => if r54 = 3 then some (v_start, v_end_2, r54) else zk_fx (F_X7_readToken_97 v_characters v_length v_start r54 ) zk_N (0, v_end_2)
def F_X7_readToken_10 (v_characters : (Nat → Int32)) (v_length : Int32) (v_end : Int32) (v_kind : Int32) (k10 : Int32 × Int32 → Option (Int32 × Int32 × Int32)) : Int32 × Int32 → Option (Int32 × Int32 × Int32) := fun s => match s with
  | (x1, v_start) => if 120 ≤ x1 then f_X7_readToken_45 v_characters v_length v_start v_end v_kind else (f_X7_at v_start v_characters v_length).bind fun r21 => if r21 = 32 then zk_let (v_start + 1) fun v_start_1 => k10 ((x1 + 1), v_start_1) else f_X7_readToken_45 v_characters v_length v_start v_end v_kind
def f_X7_readToken (v_characters : (Nat → Int32)) (v_length : Int32) (v_end : Int32) (v_kind : Int32) : Option (Int32 × Int32 × Int32) := zk_fx (F_X7_readToken_10 v_characters v_length v_end v_kind ) zk_N (0, v_end)
theorem kX7_readToken_inX7 : ∀ w ∈ u_ws RX7 TX7 5, w ∈ wsX7_readToken := by decide +kernel
theorem kX7_readToken_1 : Cond.fieldLink RX7 22 (TX7 3).1 (TX7 3).2.1 (TX7 3).2.2.1 ∈ wsX7_readToken := by decide +kernel
theorem kX7_readToken_2 : Cond.fieldLink RX7 19 (TX7 2).1 (TX7 2).2.1 (TX7 2).2.2.1 ∈ wsX7_readToken := by decide +kernel
theorem kX7_readToken_3 : Cond.fieldLink RX7 25 (TX7 4).1 (TX7 4).2.1 (TX7 4).2.2.1 ∈ wsX7_readToken := by decide +kernel
theorem cd_X7_readToken : yX7_readToken.cls = RX7 ∧ yX7_readToken.cls ≠ "java/lang/invoke/MethodHandle" ∧ yX7_readToken.cls ≠ "java/lang/invoke/VarHandle" ∧ (parseMethodDescriptor yX7_readToken.desc).map (fun d => d.parameters.length) = some 0 := by decide +kernel
set_option maxRecDepth 100000 in
set_option maxHeartbeats 4000000 in
theorem c_X7_readToken (E : zk_Env) (l : Launch) (a : aX7) (v : VX7)  : zk_Mc E l yX7_readToken wsX7_readToken ({ frames := 1, cells := 0, slots := 0, locals := 21 } : Room) [.ref a.1] (gX7 E a v) (f_X7_readToken v.1 v.2.1 v.2.2.2.1 v.2.2.2.2) (fun _ => none) (fun r => (gX7 E a (v.1, v.2.1, r.1, r.2.1, r.2.2))) := by
  obtain ⟨v_characters, v_length, v_start, v_end, v_kind⟩ := v
  refine zk_M (cc := cX7_readToken) (nL := 2) (ret := none) (by decide) rfl (Nat.le_of_ble_eq_true rfl) (fun X Q hQ => ?_)
  have J97 : ∀ (v_start : Int32) (v_kind : Int32) (n : Nat) (x1 : Int32) (v_end : Int32), zk_G E l X cX7_readToken 2 none yX7_readToken.cls wsX7_readToken ({ frames := 1, cells := 0, slots := 0, locals := 21 } : Room) 0 0 Q (gX7 E a (v_characters, v_length, v_start, v_end, v_kind)) [(0, .ref a.1), (1, .int x1)] 97 [] (zk_fx (F_X7_readToken_97 v_characters v_length v_start v_kind ) n (x1, v_end)) := by
    intro v_start v_kind n x1 v_end
    refine zk_loop (S := Int32 × Int32) (F := F_X7_readToken_97 v_characters v_length v_start v_kind) (wS := fun s => (gX7 E a (v_characters, v_length, v_start, s.2, v_kind))) (lS := fun s => [(0, .ref a.1), (1, .int s.1)]) (sS := fun _ => []) (fun k97 hk97 s => ?_) n (x1, v_end)
    obtain ⟨x1, v_end⟩ := s
    unfold F_X7_readToken_97
    try dsimp only
    refine zk_iload_n dX7_readToken_97 1 rfl 98 rfl ?_
    refine zk_bipush 120 dX7_readToken_98 (by decide) 100 rfl ?_
    refine zk_icmp_ge dX7_readToken_100 137 (by decide) 103 rfl (fun _ => ?_) (fun _ => ?_)
    · exact zk_vret hQ dX7_readToken_137 rfl rfl
    · refine zk_aload_n dX7_readToken_103 0 rfl 104 rfl ?_
      refine zk_aload_n dX7_readToken_104 0 rfl 105 rfl ?_
      refine zk_get dX7_readToken_105 0 rfl rfl kX7_readToken_inX7 3 (by decide) kX7_readToken_1 rfl 108 rfl ?_
      refine zk_callV (ci := 7) (st := []) (c_X7_at E l a (v_characters, v_length, v_start, v_end, v_kind) v_end) dX7_readToken_108 1 gX7_readToken_X7_at rfl rfl rfl cd_X7_at ⟨Nat.le_of_ble_eq_true rfl, Nat.le_of_ble_eq_true rfl⟩ ⟨Nat.zero_le _, Nat.zero_le _⟩ _ (fun r108 => (gX7 E a (v_characters, v_length, v_start, v_end, v_kind))) zk_pa (fun r108 => zk_qa) rfl rfl rfl rfl (Nat.le_of_ble_eq_true rfl) (fun r108 => [.int r108]) (fun _ => rfl) 111 rfl (fun r108 => ?_)
      refine zk_callS (st := []) (c_X7_kindOf E l r108) dX7_readToken_111 1 gX7_readToken_X7_kindOf rfl rfl rfl cd_X7_kindOf ⟨Nat.le_of_ble_eq_true rfl, Nat.le_of_ble_eq_true rfl⟩ ⟨Nat.zero_le _, Nat.zero_le _⟩ _ (fun r111 => (gX7 E a (v_characters, v_length, v_start, v_end, v_kind))) zk_pn (fun r111 => (List.Perm.refl _)) rfl rfl (Nat.le_of_ble_eq_true rfl) (fun r111 => [.int r111]) (fun _ => rfl) 114 rfl (fun r111 => ?_)
      refine zk_aload_n dX7_readToken_114 0 rfl 115 rfl ?_
      refine zk_get dX7_readToken_115 0 rfl rfl kX7_readToken_inX7 4 (by decide) kX7_readToken_3 rfl 118 rfl ?_
      refine zk_icmp_ne dX7_readToken_118 137 (by decide) 121 rfl (fun _ => ?_) (fun _ => ?_)
      · refine zk_aload_n dX7_readToken_121 0 rfl 122 rfl ?_
        refine zk_dup dX7_readToken_122 rfl 123 rfl ?_
        refine zk_get dX7_readToken_123 0 rfl rfl kX7_readToken_inX7 3 (by decide) kX7_readToken_1 rfl 126 rfl ?_
        refine zk_iconst 1 dX7_readToken_126 (by decide) 127 rfl ?_
        refine zk_iadd dX7_readToken_127 128 rfl ?_
        refine zk_nm (fun v_end_3 => ?_)
        refine zk_put_ tyX7 (gX7 E a (v_characters, v_length, v_start, v_end_3, v_kind)) dX7_readToken_128 0 rfl rfl kX7_readToken_inX7 tyX7_ok nmX7 3 (by decide) kX7_readToken_1 rfl (tyX7_ok 3 (by decide)) rfl rfl (Nat.le_of_ble_eq_true rfl) rfl 131 rfl ?_
        refine zk_iinc (x1 + 1) [(1, .int (x1 + 1)), (0, .ref a.1)] dX7_readToken_131 1 rfl rfl (by decide) rfl 134 rfl ?_
        refine zk_goto dX7_readToken_134 97 (by decide) ?_
        refine zk_lv [1, 0] rfl ?_
        exact hk97 ((x1 + 1), v_end_3)
      · exact zk_vret hQ dX7_readToken_137 rfl rfl
  have J45 : ∀ (v_start : Int32) (v_end : Int32) (v_kind : Int32), zk_G E l X cX7_readToken 2 none yX7_readToken.cls wsX7_readToken ({ frames := 1, cells := 0, slots := 0, locals := 21 } : Room) 0 0 Q (gX7 E a (v_characters, v_length, v_start, v_end, v_kind)) [(0, .ref a.1)] 45 [] (f_X7_readToken_45 v_characters v_length v_start v_end v_kind) := by
    intro v_start v_end v_kind
    unfold f_X7_readToken_45
    refine zk_aload_n dX7_readToken_45 0 rfl 46 rfl ?_
    refine zk_aload_n dX7_readToken_46 0 rfl 47 rfl ?_
    refine zk_aload_n dX7_readToken_47 0 rfl 48 rfl ?_
    refine zk_get dX7_readToken_48 0 rfl rfl kX7_readToken_inX7 2 (by decide) kX7_readToken_2 rfl 51 rfl ?_
    refine zk_callV (ci := 7) (st := [.ref a.1]) (c_X7_at E l a (v_characters, v_length, v_start, v_end, v_kind) v_start) dX7_readToken_51 1 gX7_readToken_X7_at rfl rfl rfl cd_X7_at ⟨Nat.le_of_ble_eq_true rfl, Nat.le_of_ble_eq_true rfl⟩ ⟨Nat.zero_le _, Nat.zero_le _⟩ _ (fun r51 => (gX7 E a (v_characters, v_length, v_start, v_end, v_kind))) zk_pa (fun r51 => zk_qa) rfl rfl rfl rfl (Nat.le_of_ble_eq_true rfl) (fun r51 => [.int r51, .ref a.1]) (fun _ => rfl) 54 rfl (fun r51 => ?_)
    refine zk_callS (st := [.ref a.1]) (c_X7_kindOf E l r51) dX7_readToken_54 1 gX7_readToken_X7_kindOf rfl rfl rfl cd_X7_kindOf ⟨Nat.le_of_ble_eq_true rfl, Nat.le_of_ble_eq_true rfl⟩ ⟨Nat.zero_le _, Nat.zero_le _⟩ _ (fun r54 => (gX7 E a (v_characters, v_length, v_start, v_end, v_kind))) zk_pn (fun r54 => (List.Perm.refl _)) rfl rfl (Nat.le_of_ble_eq_true rfl) (fun r54 => [.int r54, .ref a.1]) (fun _ => rfl) 57 rfl (fun r54 => ?_)
    refine zk_put_ tyX7 (gX7 E a (v_characters, v_length, v_start, v_end, r54)) dX7_readToken_57 0 rfl rfl kX7_readToken_inX7 tyX7_ok nmX7 4 (by decide) kX7_readToken_3 rfl (tyX7_ok 4 (by decide)) rfl rfl (Nat.le_of_ble_eq_true rfl) rfl 60 rfl ?_
    refine zk_aload_n dX7_readToken_60 0 rfl 61 rfl ?_
    refine zk_aload_n dX7_readToken_61 0 rfl 62 rfl ?_
    refine zk_get dX7_readToken_62 0 rfl rfl kX7_readToken_inX7 2 (by decide) kX7_readToken_2 rfl 65 rfl ?_
    refine zk_put_ tyX7 (gX7 E a (v_characters, v_length, v_start, v_start, r54)) dX7_readToken_65 0 rfl rfl kX7_readToken_inX7 tyX7_ok nmX7 3 (by decide) kX7_readToken_1 rfl (tyX7_ok 3 (by decide)) rfl rfl (Nat.le_of_ble_eq_true rfl) rfl 68 rfl ?_
    refine zk_aload_n dX7_readToken_68 0 rfl 69 rfl ?_
    refine zk_get dX7_readToken_69 0 rfl rfl kX7_readToken_inX7 4 (by decide) kX7_readToken_3 rfl 72 rfl ?_
    refine zk_if_ne dX7_readToken_72 76 (by decide) 75 rfl (fun _ => ?_) (fun _ => ?_)
    · exact zk_vret hQ dX7_readToken_75 rfl rfl
    · refine zk_aload_n dX7_readToken_76 0 rfl 77 rfl ?_
      refine zk_dup dX7_readToken_77 rfl 78 rfl ?_
      refine zk_get dX7_readToken_78 0 rfl rfl kX7_readToken_inX7 3 (by decide) kX7_readToken_1 rfl 81 rfl ?_
      refine zk_iconst 1 dX7_readToken_81 (by decide) 82 rfl ?_
      refine zk_iadd dX7_readToken_82 83 rfl ?_
      refine zk_nm (fun v_end_2 => ?_)
      refine zk_put_ tyX7 (gX7 E a (v_characters, v_length, v_start, v_end_2, r54)) dX7_readToken_83 0 rfl rfl kX7_readToken_inX7 tyX7_ok nmX7 3 (by decide) kX7_readToken_1 rfl (tyX7_ok 3 (by decide)) rfl rfl (Nat.le_of_ble_eq_true rfl) rfl 86 rfl ?_
      refine zk_aload_n dX7_readToken_86 0 rfl 87 rfl ?_
      refine zk_get dX7_readToken_87 0 rfl rfl kX7_readToken_inX7 4 (by decide) kX7_readToken_3 rfl 90 rfl ?_
      refine zk_iconst 3 dX7_readToken_90 (by decide) 91 rfl ?_
      refine zk_icmp_ne dX7_readToken_91 95 (by decide) 94 rfl (fun _ => ?_) (fun _ => ?_)
      · exact zk_vret hQ dX7_readToken_94 rfl rfl
      · refine zk_iconst 0 dX7_readToken_95 (by decide) 96 rfl ?_
        refine zk_istore_n [(1, .int 0), (0, .ref a.1)] dX7_readToken_96 (by decide) rfl 97 rfl ?_
        refine zk_lv [1, 0] rfl ?_
        exact J97   v_start r54 zk_N 0 v_end_2
  have J10 : ∀ (v_end : Int32) (v_kind : Int32) (n : Nat) (x1 : Int32) (v_start : Int32), zk_G E l X cX7_readToken 2 none yX7_readToken.cls wsX7_readToken ({ frames := 1, cells := 0, slots := 0, locals := 21 } : Room) 0 0 Q (gX7 E a (v_characters, v_length, v_start, v_end, v_kind)) [(0, .ref a.1), (1, .int x1)] 10 [] (zk_fx (F_X7_readToken_10 v_characters v_length v_end v_kind ) n (x1, v_start)) := by
    intro v_end v_kind n x1 v_start
    refine zk_loop (S := Int32 × Int32) (F := F_X7_readToken_10 v_characters v_length v_end v_kind) (wS := fun s => (gX7 E a (v_characters, v_length, s.2, v_end, v_kind))) (lS := fun s => [(0, .ref a.1), (1, .int s.1)]) (sS := fun _ => []) (fun k10 hk10 s => ?_) n (x1, v_start)
    obtain ⟨x1, v_start⟩ := s
    unfold F_X7_readToken_10
    try dsimp only
    refine zk_iload_n dX7_readToken_10 1 rfl 11 rfl ?_
    refine zk_bipush 120 dX7_readToken_11 (by decide) 13 rfl ?_
    refine zk_icmp_ge dX7_readToken_13 45 (by decide) 16 rfl (fun _ => ?_) (fun _ => ?_)
    · refine zk_lv [0] rfl ?_
      exact J45   v_start v_end v_kind
    · refine zk_aload_n dX7_readToken_16 0 rfl 17 rfl ?_
      refine zk_aload_n dX7_readToken_17 0 rfl 18 rfl ?_
      refine zk_get dX7_readToken_18 0 rfl rfl kX7_readToken_inX7 2 (by decide) kX7_readToken_2 rfl 21 rfl ?_
      refine zk_callV (ci := 7) (st := []) (c_X7_at E l a (v_characters, v_length, v_start, v_end, v_kind) v_start) dX7_readToken_21 1 gX7_readToken_X7_at rfl rfl rfl cd_X7_at ⟨Nat.le_of_ble_eq_true rfl, Nat.le_of_ble_eq_true rfl⟩ ⟨Nat.zero_le _, Nat.zero_le _⟩ _ (fun r21 => (gX7 E a (v_characters, v_length, v_start, v_end, v_kind))) zk_pa (fun r21 => zk_qa) rfl rfl rfl rfl (Nat.le_of_ble_eq_true rfl) (fun r21 => [.int r21]) (fun _ => rfl) 24 rfl (fun r21 => ?_)
      refine zk_bipush 32 dX7_readToken_24 (by decide) 26 rfl ?_
      refine zk_icmp_ne dX7_readToken_26 45 (by decide) 29 rfl (fun _ => ?_) (fun _ => ?_)
      · refine zk_aload_n dX7_readToken_29 0 rfl 30 rfl ?_
        refine zk_dup dX7_readToken_30 rfl 31 rfl ?_
        refine zk_get dX7_readToken_31 0 rfl rfl kX7_readToken_inX7 2 (by decide) kX7_readToken_2 rfl 34 rfl ?_
        refine zk_iconst 1 dX7_readToken_34 (by decide) 35 rfl ?_
        refine zk_iadd dX7_readToken_35 36 rfl ?_
        refine zk_nm (fun v_start_1 => ?_)
        refine zk_put_ tyX7 (gX7 E a (v_characters, v_length, v_start_1, v_end, v_kind)) dX7_readToken_36 0 rfl rfl kX7_readToken_inX7 tyX7_ok nmX7 2 (by decide) kX7_readToken_2 rfl (tyX7_ok 2 (by decide)) rfl rfl (Nat.le_of_ble_eq_true rfl) rfl 39 rfl ?_
        refine zk_iinc (x1 + 1) [(1, .int (x1 + 1)), (0, .ref a.1)] dX7_readToken_39 1 rfl rfl (by decide) rfl 42 rfl ?_
        refine zk_goto dX7_readToken_42 10 (by decide) ?_
        refine zk_lv [1, 0] rfl ?_
        exact hk10 ((x1 + 1), v_start_1)
      · refine zk_lv [0] rfl ?_
        exact J45   v_start v_end v_kind
  refine zk_eqv (w1 := (gX7 E a (v_characters, v_length, v_start, v_end, v_kind))) (lv1 := [(0, .ref a.1)]) (st1 := []) (o1 := f_X7_readToken v_characters v_length v_end v_kind) rfl rfl rfl rfl ?_
  unfold f_X7_readToken
  refine zk_aload_n dX7_readToken_0 0 rfl 1 rfl ?_
  refine zk_aload_n dX7_readToken_1 0 rfl 2 rfl ?_
  refine zk_get dX7_readToken_2 0 rfl rfl kX7_readToken_inX7 3 (by decide) kX7_readToken_1 rfl 5 rfl ?_
  refine zk_put_ tyX7 (gX7 E a (v_characters, v_length, v_end, v_end, v_kind)) dX7_readToken_5 0 rfl rfl kX7_readToken_inX7 tyX7_ok nmX7 2 (by decide) kX7_readToken_2 rfl (tyX7_ok 2 (by decide)) rfl rfl (Nat.le_of_ble_eq_true rfl) rfl 8 rfl ?_
  refine zk_iconst 0 dX7_readToken_8 (by decide) 9 rfl ?_
  refine zk_istore_n [(1, .int 0), (0, .ref a.1)] dX7_readToken_9 (by decide) rfl 10 rfl ?_
  refine zk_lv [1, 0] rfl ?_
  exact J10   v_end v_kind zk_N 0 v_end
def F_X7_isWord_28 (i : Nat) (v_characters : (Nat → Int32)) (v_length : Int32) (v_start : Int32) (k28 : Int32 → Option (Int32)) : Int32 → Option (Int32) := fun x2 => (f_J0_length i).bind fun r30 => if r30 ≤ x2 then some 1 else (f_X7_at (v_start + x2) v_characters v_length).bind fun r43 => (f_J0_charAt i x2).bind fun r48 => if r43 = r48 then k28 (x2 + 1) else some 0
def f_X7_isWord (i : Nat) (v_characters : (Nat → Int32)) (v_length : Int32) (v_start : Int32) (v_end : Int32) (v_kind : Int32) : Option (Int32) := if v_kind = 1 then (f_J0_length i).bind fun r18 => if (v_end - v_start) = r18 then zk_fx (F_X7_isWord_28 i v_characters v_length v_start ) zk_N 0 else some 0 else some 0
theorem kX7_isWord_inX7 : ∀ w ∈ u_ws RX7 TX7 5, w ∈ wsX7_isWord := by decide +kernel
theorem kX7_isWord_1 : Cond.fieldLink RX7 25 (TX7 4).1 (TX7 4).2.1 (TX7 4).2.2.1 ∈ wsX7_isWord := by decide +kernel
theorem kX7_isWord_2 : Cond.fieldLink RX7 22 (TX7 3).1 (TX7 3).2.1 (TX7 3).2.2.1 ∈ wsX7_isWord := by decide +kernel
theorem kX7_isWord_3 : Cond.fieldLink RX7 19 (TX7 2).1 (TX7 2).2.1 (TX7 2).2.2.1 ∈ wsX7_isWord := by decide +kernel
theorem cd_X7_isWord : yX7_isWord.cls = RX7 ∧ yX7_isWord.cls ≠ "java/lang/invoke/MethodHandle" ∧ yX7_isWord.cls ≠ "java/lang/invoke/VarHandle" ∧ (parseMethodDescriptor yX7_isWord.desc).map (fun d => d.parameters.length) = some 1 := by decide +kernel
set_option maxRecDepth 100000 in
set_option maxHeartbeats 4000000 in
theorem c_X7_isWord (E : zk_Env) (l : Launch) (a : aX7) (v : VX7) (i : Nat) (hi : i < 5)  : zk_Mc E l yX7_isWord wsX7_isWord ({ frames := 4, cells := 0, slots := 0, locals := 85 } : Room) [.ref a.1, .ref (E.2.2.1 i)] (gX7 E a v) (f_X7_isWord i v.1 v.2.1 v.2.2.1 v.2.2.2.1 v.2.2.2.2) (fun r => some (.int r)) (fun r => (gX7 E a v)) := by
  obtain ⟨v_characters, v_length, v_start, v_end, v_kind⟩ := v
  refine zk_M (cc := cX7_isWord) (nL := 3) (ret := (some .boolean)) (by decide) rfl (Nat.le_of_ble_eq_true rfl) (fun X Q hQ => ?_)
  have J28 : ∀ (n : Nat) (x2 : Int32), zk_G E l X cX7_isWord 3 (some .boolean) yX7_isWord.cls wsX7_isWord ({ frames := 4, cells := 0, slots := 0, locals := 85 } : Room) 0 0 Q (gX7 E a (v_characters, v_length, v_start, v_end, v_kind)) [(0, .ref a.1), (1, .ref (E.2.2.1 i)), (2, .int x2)] 28 [] (zk_fx (F_X7_isWord_28 i v_characters v_length v_start ) n x2) := by
    intro n x2
    refine zk_loop (S := Int32) (F := F_X7_isWord_28 i v_characters v_length v_start) (wS := fun s => (gX7 E a (v_characters, v_length, v_start, v_end, v_kind))) (lS := fun s => [(0, .ref a.1), (1, .ref (E.2.2.1 i)), (2, .int s)]) (sS := fun _ => []) (fun k28 hk28 x2 => ?_) n x2
    unfold F_X7_isWord_28
    try dsimp only
    refine zk_iload_n dX7_isWord_28 2 rfl 29 rfl ?_
    refine zk_aload_n dX7_isWord_29 1 rfl 30 rfl ?_
    refine zk_callVs (st := [.int x2]) hi (c_J0_length E l i hi) dX7_isWord_30 0 gX7_isWord_J0_length_8abf5 rfl rfl rfl cd_J0_length ⟨Nat.le_of_ble_eq_true rfl, Nat.le_of_ble_eq_true rfl⟩ ⟨Nat.zero_le _, Nat.zero_le _⟩ _ (fun r30 => (gX7 E a (v_characters, v_length, v_start, v_end, v_kind))) zk_pn (fun r30 => List.Perm.refl _) rfl rfl (Nat.le_of_ble_eq_true rfl) (fun r30 => [.int r30, .int x2]) (fun _ => rfl) 33 rfl (fun r30 => ?_)
    refine zk_icmp_ge dX7_isWord_33 62 (by decide) 36 rfl (fun _ => ?_) (fun _ => ?_)
    · refine zk_iconst 1 dX7_isWord_62 (by decide) 63 rfl ?_
      exact zk_zretL hQ dX7_isWord_63 (Or.inr rfl) rfl rfl
    · refine zk_aload_n dX7_isWord_36 0 rfl 37 rfl ?_
      refine zk_aload_n dX7_isWord_37 0 rfl 38 rfl ?_
      refine zk_get dX7_isWord_38 0 rfl rfl kX7_isWord_inX7 2 (by decide) kX7_isWord_3 rfl 41 rfl ?_
      refine zk_iload_n dX7_isWord_41 2 rfl 42 rfl ?_
      refine zk_iadd dX7_isWord_42 43 rfl ?_
      refine zk_callV (ci := 7) (st := []) (c_X7_at E l a (v_characters, v_length, v_start, v_end, v_kind) (v_start + x2)) dX7_isWord_43 1 gX7_isWord_X7_at rfl rfl rfl cd_X7_at ⟨Nat.le_of_ble_eq_true rfl, Nat.le_of_ble_eq_true rfl⟩ ⟨Nat.zero_le _, Nat.zero_le _⟩ _ (fun r43 => (gX7 E a (v_characters, v_length, v_start, v_end, v_kind))) zk_pa (fun r43 => zk_qa) rfl rfl rfl rfl (Nat.le_of_ble_eq_true rfl) (fun r43 => [.int r43]) (fun _ => rfl) 46 rfl (fun r43 => ?_)
      refine zk_aload_n dX7_isWord_46 1 rfl 47 rfl ?_
      refine zk_iload_n dX7_isWord_47 2 rfl 48 rfl ?_
      refine zk_callVs (st := [.int r43]) hi (c_J0_charAt E l i hi x2) dX7_isWord_48 1 gX7_isWord_J0_charAt_5068e rfl rfl rfl cd_J0_charAt ⟨Nat.le_of_ble_eq_true rfl, Nat.le_of_ble_eq_true rfl⟩ ⟨Nat.zero_le _, Nat.zero_le _⟩ _ (fun r48 => (gX7 E a (v_characters, v_length, v_start, v_end, v_kind))) zk_pn (fun r48 => List.Perm.refl _) rfl rfl (Nat.le_of_ble_eq_true rfl) (fun r48 => [.int r48, .int r43]) (fun _ => rfl) 51 rfl (fun r48 => ?_)
      refine zk_icmp_eq dX7_isWord_51 56 (by decide) 54 rfl (fun _ => ?_) (fun _ => ?_)
      · refine zk_iinc (x2 + 1) [(2, .int (x2 + 1)), (0, .ref a.1), (1, .ref (E.2.2.1 i))] dX7_isWord_56 2 rfl rfl (by decide) rfl 59 rfl ?_
        refine zk_goto dX7_isWord_59 28 (by decide) ?_
        refine zk_lv [1, 2, 0] rfl ?_
        exact hk28 (x2 + 1)
      · refine zk_iconst 0 dX7_isWord_54 (by decide) 55 rfl ?_
        exact zk_zretL hQ dX7_isWord_55 (Or.inl rfl) rfl rfl
  refine zk_eqv (w1 := (gX7 E a (v_characters, v_length, v_start, v_end, v_kind))) (lv1 := [(0, .ref a.1), (1, .ref (E.2.2.1 i))]) (st1 := []) (o1 := f_X7_isWord i v_characters v_length v_start v_end v_kind) rfl rfl rfl rfl ?_
  unfold f_X7_isWord
  refine zk_aload_n dX7_isWord_0 0 rfl 1 rfl ?_
  refine zk_get dX7_isWord_1 0 rfl rfl kX7_isWord_inX7 4 (by decide) kX7_isWord_1 rfl 4 rfl ?_
  refine zk_iconst 1 dX7_isWord_4 (by decide) 5 rfl ?_
  refine zk_icmp_ne dX7_isWord_5 24 (by decide) 8 rfl (fun _ => ?_) (fun _ => ?_)
  · refine zk_aload_n dX7_isWord_8 0 rfl 9 rfl ?_
    refine zk_get dX7_isWord_9 0 rfl rfl kX7_isWord_inX7 3 (by decide) kX7_isWord_2 rfl 12 rfl ?_
    refine zk_aload_n dX7_isWord_12 0 rfl 13 rfl ?_
    refine zk_get dX7_isWord_13 0 rfl rfl kX7_isWord_inX7 2 (by decide) kX7_isWord_3 rfl 16 rfl ?_
    refine zk_isub dX7_isWord_16 17 rfl ?_
    refine zk_aload_n dX7_isWord_17 1 rfl 18 rfl ?_
    refine zk_callVs (st := [.int (v_end - v_start)]) hi (c_J0_length E l i hi) dX7_isWord_18 0 gX7_isWord_J0_length_8abf5 rfl rfl rfl cd_J0_length ⟨Nat.le_of_ble_eq_true rfl, Nat.le_of_ble_eq_true rfl⟩ ⟨Nat.zero_le _, Nat.zero_le _⟩ _ (fun r18 => (gX7 E a (v_characters, v_length, v_start, v_end, v_kind))) zk_pn (fun r18 => List.Perm.refl _) rfl rfl (Nat.le_of_ble_eq_true rfl) (fun r18 => [.int r18, .int (v_end - v_start)]) (fun _ => rfl) 21 rfl (fun r18 => ?_)
    refine zk_icmp_eq dX7_isWord_21 26 (by decide) 24 rfl (fun _ => ?_) (fun _ => ?_)
    · refine zk_iconst 0 dX7_isWord_26 (by decide) 27 rfl ?_
      refine zk_istore_n [(2, .int 0), (0, .ref a.1), (1, .ref (E.2.2.1 i))] dX7_isWord_27 (by decide) rfl 28 rfl ?_
      refine zk_lv [1, 2, 0] rfl ?_
      exact J28    zk_N 0
    · refine zk_iconst 0 dX7_isWord_24 (by decide) 25 rfl ?_
      exact zk_zretL hQ dX7_isWord_25 (Or.inl rfl) rfl rfl
  · refine zk_iconst 0 dX7_isWord_24 (by decide) 25 rfl ?_
    exact zk_zretL hQ dX7_isWord_25 (Or.inl rfl) rfl rfl
def f_X7_isSemicolon (v_characters : (Nat → Int32)) (v_length : Int32) (v_start : Int32) (v_kind : Int32) : Option (Int32) := if v_kind = 3 then (f_X7_at v_start v_characters v_length).bind fun r13 => if r13 = 59 then some 1 else some 0 else some 0
theorem kX7_isSemicolon_inX7 : ∀ w ∈ u_ws RX7 TX7 5, w ∈ wsX7_isSemicolon := by decide +kernel
theorem kX7_isSemicolon_1 : Cond.fieldLink RX7 25 (TX7 4).1 (TX7 4).2.1 (TX7 4).2.2.1 ∈ wsX7_isSemicolon := by decide +kernel
theorem kX7_isSemicolon_2 : Cond.fieldLink RX7 19 (TX7 2).1 (TX7 2).2.1 (TX7 2).2.2.1 ∈ wsX7_isSemicolon := by decide +kernel
theorem cd_X7_isSemicolon : yX7_isSemicolon.cls = RX7 ∧ yX7_isSemicolon.cls ≠ "java/lang/invoke/MethodHandle" ∧ yX7_isSemicolon.cls ≠ "java/lang/invoke/VarHandle" ∧ (parseMethodDescriptor yX7_isSemicolon.desc).map (fun d => d.parameters.length) = some 0 := by decide +kernel
set_option maxRecDepth 100000 in
set_option maxHeartbeats 4000000 in
theorem c_X7_isSemicolon (E : zk_Env) (l : Launch) (a : aX7) (v : VX7)  : zk_Mc E l yX7_isSemicolon wsX7_isSemicolon ({ frames := 1, cells := 0, slots := 0, locals := 21 } : Room) [.ref a.1] (gX7 E a v) (f_X7_isSemicolon v.1 v.2.1 v.2.2.1 v.2.2.2.2) (fun r => some (.int r)) (fun r => (gX7 E a v)) := by
  obtain ⟨v_characters, v_length, v_start, v_end, v_kind⟩ := v
  refine zk_M (cc := cX7_isSemicolon) (nL := 1) (ret := (some .boolean)) (by decide) rfl (Nat.le_of_ble_eq_true rfl) (fun X Q hQ => ?_)
  refine zk_eqv (w1 := (gX7 E a (v_characters, v_length, v_start, v_end, v_kind))) (lv1 := [(0, .ref a.1)]) (st1 := []) (o1 := f_X7_isSemicolon v_characters v_length v_start v_kind) rfl rfl rfl rfl ?_
  unfold f_X7_isSemicolon
  refine zk_aload_n dX7_isSemicolon_0 0 rfl 1 rfl ?_
  refine zk_get dX7_isSemicolon_1 0 rfl rfl kX7_isSemicolon_inX7 4 (by decide) kX7_isSemicolon_1 rfl 4 rfl ?_
  refine zk_iconst 3 dX7_isSemicolon_4 (by decide) 5 rfl ?_
  refine zk_icmp_ne dX7_isSemicolon_5 25 (by decide) 8 rfl (fun _ => ?_) (fun _ => ?_)
  · refine zk_aload_n dX7_isSemicolon_8 0 rfl 9 rfl ?_
    refine zk_aload_n dX7_isSemicolon_9 0 rfl 10 rfl ?_
    refine zk_get dX7_isSemicolon_10 0 rfl rfl kX7_isSemicolon_inX7 2 (by decide) kX7_isSemicolon_2 rfl 13 rfl ?_
    refine zk_callV (ci := 7) (st := []) (c_X7_at E l a (v_characters, v_length, v_start, v_end, v_kind) v_start) dX7_isSemicolon_13 1 gX7_isSemicolon_X7_at rfl rfl rfl cd_X7_at ⟨Nat.le_of_ble_eq_true rfl, Nat.le_of_ble_eq_true rfl⟩ ⟨Nat.zero_le _, Nat.zero_le _⟩ _ (fun r13 => (gX7 E a (v_characters, v_length, v_start, v_end, v_kind))) zk_pa (fun r13 => zk_qa) rfl rfl rfl rfl (Nat.le_of_ble_eq_true rfl) (fun r13 => [.int r13]) (fun _ => rfl) 16 rfl (fun r13 => ?_)
    refine zk_bipush 59 dX7_isSemicolon_16 (by decide) 18 rfl ?_
    refine zk_icmp_ne dX7_isSemicolon_18 25 (by decide) 21 rfl (fun _ => ?_) (fun _ => ?_)
    · refine zk_iconst 1 dX7_isSemicolon_21 (by decide) 22 rfl ?_
      refine zk_goto dX7_isSemicolon_22 26 (by decide) ?_
      exact zk_zretL hQ dX7_isSemicolon_26 (Or.inr rfl) rfl rfl
    · refine zk_iconst 0 dX7_isSemicolon_25 (by decide) 26 rfl ?_
      exact zk_zretL hQ dX7_isSemicolon_26 (Or.inl rfl) rfl rfl
  · refine zk_iconst 0 dX7_isSemicolon_25 (by decide) 26 rfl ?_
    exact zk_zretL hQ dX7_isSemicolon_26 (Or.inl rfl) rfl rfl
def f_X7_isNumber (v_characters : (Nat → Int32)) (v_length : Int32) (v_start : Int32) (v_end : Int32) (v_kind : Int32) : Option (Int32) := zk_let (v_end - v_start) fun x1_1 => if v_kind = 2 then if 4 < x1_1 then some 0 else if x1_1 = 1 then some 1 else (f_X7_at v_start v_characters v_length).bind fun r33 => if r33 = 48 then some 0 else some 1 else some 0
theorem kX7_isNumber_inX7 : ∀ w ∈ u_ws RX7 TX7 5, w ∈ wsX7_isNumber := by decide +kernel
theorem kX7_isNumber_1 : Cond.fieldLink RX7 22 (TX7 3).1 (TX7 3).2.1 (TX7 3).2.2.1 ∈ wsX7_isNumber := by decide +kernel
theorem kX7_isNumber_2 : Cond.fieldLink RX7 19 (TX7 2).1 (TX7 2).2.1 (TX7 2).2.2.1 ∈ wsX7_isNumber := by decide +kernel
theorem kX7_isNumber_3 : Cond.fieldLink RX7 25 (TX7 4).1 (TX7 4).2.1 (TX7 4).2.2.1 ∈ wsX7_isNumber := by decide +kernel
theorem cd_X7_isNumber : yX7_isNumber.cls = RX7 ∧ yX7_isNumber.cls ≠ "java/lang/invoke/MethodHandle" ∧ yX7_isNumber.cls ≠ "java/lang/invoke/VarHandle" ∧ (parseMethodDescriptor yX7_isNumber.desc).map (fun d => d.parameters.length) = some 0 := by decide +kernel
set_option maxRecDepth 100000 in
set_option maxHeartbeats 4000000 in
theorem c_X7_isNumber (E : zk_Env) (l : Launch) (a : aX7) (v : VX7)  : zk_Mc E l yX7_isNumber wsX7_isNumber ({ frames := 1, cells := 0, slots := 0, locals := 21 } : Room) [.ref a.1] (gX7 E a v) (f_X7_isNumber v.1 v.2.1 v.2.2.1 v.2.2.2.1 v.2.2.2.2) (fun r => some (.int r)) (fun r => (gX7 E a v)) := by
  obtain ⟨v_characters, v_length, v_start, v_end, v_kind⟩ := v
  refine zk_M (cc := cX7_isNumber) (nL := 2) (ret := (some .boolean)) (by decide) rfl (Nat.le_of_ble_eq_true rfl) (fun X Q hQ => ?_)
  refine zk_eqv (w1 := (gX7 E a (v_characters, v_length, v_start, v_end, v_kind))) (lv1 := [(0, .ref a.1)]) (st1 := []) (o1 := f_X7_isNumber v_characters v_length v_start v_end v_kind) rfl rfl rfl rfl ?_
  unfold f_X7_isNumber
  refine zk_aload_n dX7_isNumber_0 0 rfl 1 rfl ?_
  refine zk_get dX7_isNumber_1 0 rfl rfl kX7_isNumber_inX7 3 (by decide) kX7_isNumber_1 rfl 4 rfl ?_
  refine zk_aload_n dX7_isNumber_4 0 rfl 5 rfl ?_
  refine zk_get dX7_isNumber_5 0 rfl rfl kX7_isNumber_inX7 2 (by decide) kX7_isNumber_2 rfl 8 rfl ?_
  refine zk_isub dX7_isNumber_8 9 rfl ?_
  refine zk_nm (fun x1_1 => ?_)
  refine zk_istore_n [(1, .int x1_1), (0, .ref a.1)] dX7_isNumber_9 (by decide) rfl 10 rfl ?_
  refine zk_aload_n dX7_isNumber_10 1 rfl 11 rfl ?_
  refine zk_get dX7_isNumber_11 0 rfl rfl kX7_isNumber_inX7 4 (by decide) kX7_isNumber_3 rfl 14 rfl ?_
  refine zk_iconst 2 dX7_isNumber_14 (by decide) 15 rfl ?_
  refine zk_icmp_ne dX7_isNumber_15 45 (by decide) 18 rfl (fun _ => ?_) (fun _ => ?_)
  · refine zk_iload_n dX7_isNumber_18 0 rfl 19 rfl ?_
    refine zk_iconst 4 dX7_isNumber_19 (by decide) 20 rfl ?_
    refine zk_icmp_gt dX7_isNumber_20 45 (by decide) 23 rfl (fun _ => ?_) (fun _ => ?_)
    · refine zk_iconst 0 dX7_isNumber_45 (by decide) 46 rfl ?_
      exact zk_zretL hQ dX7_isNumber_46 (Or.inl rfl) rfl rfl
    · refine zk_iload_n dX7_isNumber_23 0 rfl 24 rfl ?_
      refine zk_iconst 1 dX7_isNumber_24 (by decide) 25 rfl ?_
      refine zk_icmp_eq dX7_isNumber_25 41 (by decide) 28 rfl (fun _ => ?_) (fun _ => ?_)
      · refine zk_iconst 1 dX7_isNumber_41 (by decide) 42 rfl ?_
        refine zk_goto dX7_isNumber_42 46 (by decide) ?_
        exact zk_zretL hQ dX7_isNumber_46 (Or.inr rfl) rfl rfl
      · refine zk_aload_n dX7_isNumber_28 1 rfl 29 rfl ?_
        refine zk_aload_n dX7_isNumber_29 1 rfl 30 rfl ?_
        refine zk_get dX7_isNumber_30 0 rfl rfl kX7_isNumber_inX7 2 (by decide) kX7_isNumber_2 rfl 33 rfl ?_
        refine zk_callV (ci := 7) (st := []) (c_X7_at E l a (v_characters, v_length, v_start, v_end, v_kind) v_start) dX7_isNumber_33 1 gX7_isNumber_X7_at rfl rfl rfl cd_X7_at ⟨Nat.le_of_ble_eq_true rfl, Nat.le_of_ble_eq_true rfl⟩ ⟨Nat.zero_le _, Nat.zero_le _⟩ _ (fun r33 => (gX7 E a (v_characters, v_length, v_start, v_end, v_kind))) zk_pa (fun r33 => zk_qa) rfl rfl rfl rfl (Nat.le_of_ble_eq_true rfl) (fun r33 => [.int r33]) (fun _ => rfl) 36 rfl (fun r33 => ?_)
        refine zk_bipush 48 dX7_isNumber_36 (by decide) 38 rfl ?_
        refine zk_icmp_eq dX7_isNumber_38 45 (by decide) 41 rfl (fun _ => ?_) (fun _ => ?_)
        · refine zk_iconst 0 dX7_isNumber_45 (by decide) 46 rfl ?_
          exact zk_zretL hQ dX7_isNumber_46 (Or.inl rfl) rfl rfl
        · refine zk_iconst 1 dX7_isNumber_41 (by decide) 42 rfl ?_
          refine zk_goto dX7_isNumber_42 46 (by decide) ?_
          exact zk_zretL hQ dX7_isNumber_46 (Or.inr rfl) rfl rfl
  · refine zk_iconst 0 dX7_isNumber_45 (by decide) 46 rfl ?_
    exact zk_zretL hQ dX7_isNumber_46 (Or.inl rfl) rfl rfl
def F_X7_numberValue_4 (v_characters : (Nat → Int32)) (v_length : Int32) (v_start : Int32) (v_end : Int32) (k4 : Int32 × Int32 → Option (Int32)) : Int32 × Int32 → Option (Int32) := fun s => match s with
  | (x1, x2) => if 4 ≤ x2 then some x1 else if v_end ≤ (v_start + x2) then some x1 else (f_X7_at (v_start + x2) v_characters v_length).bind fun r33 => zk_let ((x1 * 10) + (r33 - 48)) fun x1_1 => k4 (x1_1, (x2 + 1))
def f_X7_numberValue (v_characters : (Nat → Int32)) (v_length : Int32) (v_start : Int32) (v_end : Int32) : Option (Int32) := zk_fx (F_X7_numberValue_4 v_characters v_length v_start v_end ) zk_N (0, 0)
theorem kX7_numberValue_inX7 : ∀ w ∈ u_ws RX7 TX7 5, w ∈ wsX7_numberValue := by decide +kernel
theorem kX7_numberValue_1 : Cond.fieldLink RX7 19 (TX7 2).1 (TX7 2).2.1 (TX7 2).2.2.1 ∈ wsX7_numberValue := by decide +kernel
theorem kX7_numberValue_2 : Cond.fieldLink RX7 22 (TX7 3).1 (TX7 3).2.1 (TX7 3).2.2.1 ∈ wsX7_numberValue := by decide +kernel
theorem cd_X7_numberValue : yX7_numberValue.cls = RX7 ∧ yX7_numberValue.cls ≠ "java/lang/invoke/MethodHandle" ∧ yX7_numberValue.cls ≠ "java/lang/invoke/VarHandle" ∧ (parseMethodDescriptor yX7_numberValue.desc).map (fun d => d.parameters.length) = some 0 := by decide +kernel
set_option maxRecDepth 100000 in
set_option maxHeartbeats 4000000 in
theorem c_X7_numberValue (E : zk_Env) (l : Launch) (a : aX7) (v : VX7)  : zk_Mc E l yX7_numberValue wsX7_numberValue ({ frames := 1, cells := 0, slots := 0, locals := 21 } : Room) [.ref a.1] (gX7 E a v) (f_X7_numberValue v.1 v.2.1 v.2.2.1 v.2.2.2.1) (fun r => some (.int r)) (fun r => (gX7 E a v)) := by
  obtain ⟨v_characters, v_length, v_start, v_end, v_kind⟩ := v
  refine zk_M (cc := cX7_numberValue) (nL := 3) (ret := (some .int)) (by decide) rfl (Nat.le_of_ble_eq_true rfl) (fun X Q hQ => ?_)
  have J4 : ∀ (n : Nat) (x1 : Int32) (x2 : Int32), zk_G E l X cX7_numberValue 3 (some .int) yX7_numberValue.cls wsX7_numberValue ({ frames := 1, cells := 0, slots := 0, locals := 21 } : Room) 0 0 Q (gX7 E a (v_characters, v_length, v_start, v_end, v_kind)) [(0, .ref a.1), (1, .int x1), (2, .int x2)] 4 [] (zk_fx (F_X7_numberValue_4 v_characters v_length v_start v_end ) n (x1, x2)) := by
    intro n x1 x2
    refine zk_loop (S := Int32 × Int32) (F := F_X7_numberValue_4 v_characters v_length v_start v_end) (wS := fun s => (gX7 E a (v_characters, v_length, v_start, v_end, v_kind))) (lS := fun s => [(0, .ref a.1), (1, .int s.1), (2, .int s.2)]) (sS := fun _ => []) (fun k4 hk4 s => ?_) n (x1, x2)
    obtain ⟨x1, x2⟩ := s
    unfold F_X7_numberValue_4
    try dsimp only
    refine zk_iload_n dX7_numberValue_4 2 rfl 5 rfl ?_
    refine zk_iconst 4 dX7_numberValue_5 (by decide) 6 rfl ?_
    refine zk_icmp_ge dX7_numberValue_6 47 (by decide) 9 rfl (fun _ => ?_) (fun _ => ?_)
    · refine zk_iload_n dX7_numberValue_47 1 rfl 48 rfl ?_
      exact zk_iret hQ dX7_numberValue_48 rfl rfl
    · refine zk_aload_n dX7_numberValue_9 0 rfl 10 rfl ?_
      refine zk_get dX7_numberValue_10 0 rfl rfl kX7_numberValue_inX7 2 (by decide) kX7_numberValue_1 rfl 13 rfl ?_
      refine zk_iload_n dX7_numberValue_13 2 rfl 14 rfl ?_
      refine zk_iadd dX7_numberValue_14 15 rfl ?_
      refine zk_aload_n dX7_numberValue_15 0 rfl 16 rfl ?_
      refine zk_get dX7_numberValue_16 0 rfl rfl kX7_numberValue_inX7 3 (by decide) kX7_numberValue_2 rfl 19 rfl ?_
      refine zk_icmp_ge dX7_numberValue_19 47 (by decide) 22 rfl (fun _ => ?_) (fun _ => ?_)
      · refine zk_iload_n dX7_numberValue_47 1 rfl 48 rfl ?_
        exact zk_iret hQ dX7_numberValue_48 rfl rfl
      · refine zk_iload_n dX7_numberValue_22 1 rfl 23 rfl ?_
        refine zk_bipush 10 dX7_numberValue_23 (by decide) 25 rfl ?_
        refine zk_imul dX7_numberValue_25 26 rfl ?_
        refine zk_aload_n dX7_numberValue_26 0 rfl 27 rfl ?_
        refine zk_aload_n dX7_numberValue_27 0 rfl 28 rfl ?_
        refine zk_get dX7_numberValue_28 0 rfl rfl kX7_numberValue_inX7 2 (by decide) kX7_numberValue_1 rfl 31 rfl ?_
        refine zk_iload_n dX7_numberValue_31 2 rfl 32 rfl ?_
        refine zk_iadd dX7_numberValue_32 33 rfl ?_
        refine zk_callV (ci := 7) (st := [.int (x1 * 10)]) (c_X7_at E l a (v_characters, v_length, v_start, v_end, v_kind) (v_start + x2)) dX7_numberValue_33 1 gX7_numberValue_X7_at rfl rfl rfl cd_X7_at ⟨Nat.le_of_ble_eq_true rfl, Nat.le_of_ble_eq_true rfl⟩ ⟨Nat.zero_le _, Nat.zero_le _⟩ _ (fun r33 => (gX7 E a (v_characters, v_length, v_start, v_end, v_kind))) zk_pa (fun r33 => zk_qa) rfl rfl rfl rfl (Nat.le_of_ble_eq_true rfl) (fun r33 => [.int r33, .int (x1 * 10)]) (fun _ => rfl) 36 rfl (fun r33 => ?_)
        refine zk_bipush 48 dX7_numberValue_36 (by decide) 38 rfl ?_
        refine zk_isub dX7_numberValue_38 39 rfl ?_
        refine zk_iadd dX7_numberValue_39 40 rfl ?_
        refine zk_nm (fun x1_1 => ?_)
        refine zk_istore_n [(1, .int x1_1), (0, .ref a.1), (2, .int x2)] dX7_numberValue_40 (by decide) rfl 41 rfl ?_
        refine zk_iinc (x2 + 1) [(2, .int (x2 + 1)), (1, .int x1_1), (0, .ref a.1)] dX7_numberValue_41 2 rfl rfl (by decide) rfl 44 rfl ?_
        refine zk_goto dX7_numberValue_44 4 (by decide) ?_
        refine zk_lv [2, 1, 0] rfl ?_
        exact hk4 (x1_1, (x2 + 1))
  refine zk_eqv (w1 := (gX7 E a (v_characters, v_length, v_start, v_end, v_kind))) (lv1 := [(0, .ref a.1)]) (st1 := []) (o1 := f_X7_numberValue v_characters v_length v_start v_end) rfl rfl rfl rfl ?_
  unfold f_X7_numberValue
  refine zk_iconst 0 dX7_numberValue_0 (by decide) 1 rfl ?_
  refine zk_istore_n [(1, .int 0), (0, .ref a.1)] dX7_numberValue_1 (by decide) rfl 2 rfl ?_
  refine zk_iconst 0 dX7_numberValue_2 (by decide) 3 rfl ?_
  refine zk_istore_n [(2, .int 0), (1, .int 0), (0, .ref a.1)] dX7_numberValue_3 (by decide) rfl 4 rfl ?_
  refine zk_lv [2, 1, 0] rfl ?_
  exact J4    zk_N 0 0
def f_X4_commandOfWord (v_text : VX7) : Option (Int32) := (f_X7_isWord 0 v_text.1 v_text.2.1 v_text.2.2.1 v_text.2.2.2.1 v_text.2.2.2.2).bind fun r6 => if r6 = 0 then (f_X7_isWord 1 v_text.1 v_text.2.1 v_text.2.2.1 v_text.2.2.2.1 v_text.2.2.2.2).bind fun r20 => if r20 = 0 then (f_X7_isWord 2 v_text.1 v_text.2.1 v_text.2.2.1 v_text.2.2.2.1 v_text.2.2.2.2).bind fun r34 => if r34 = 0 then (f_X7_isWord 3 v_text.1 v_text.2.1 v_text.2.2.1 v_text.2.2.2.1 v_text.2.2.2.2).bind fun r48 => if r48 = 0 then (f_X7_isWord 4 v_text.1 v_text.2.1 v_text.2.2.1 v_text.2.2.2.1 v_text.2.2.2.2).bind fun r62 => if r62 = 0 then some 0 else some 5 else some 4 else some 3 else some 2 else some 1
theorem kX4_commandOfWord_inX4 : ∀ w ∈ u_ws RX4 TX4 8, w ∈ wsX4_commandOfWord := by decide +kernel
theorem kX4_commandOfWord_1 : Cond.fieldLink RX4 12 (TX4 0).1 (TX4 0).2.1 (TX4 0).2.2.1 ∈ wsX4_commandOfWord := by decide +kernel
theorem cd_X4_commandOfWord : yX4_commandOfWord.cls = RX4 ∧ yX4_commandOfWord.cls ≠ "java/lang/invoke/MethodHandle" ∧ yX4_commandOfWord.cls ≠ "java/lang/invoke/VarHandle" ∧ (parseMethodDescriptor yX4_commandOfWord.desc).map (fun d => d.parameters.length) = some 0 := by decide +kernel
set_option maxRecDepth 100000 in
set_option maxHeartbeats 4000000 in
theorem c_X4_commandOfWord (E : zk_Env) (l : Launch) (a : aX4) (v : VX4)  : zk_Mc E l yX4_commandOfWord wsX4_commandOfWord ({ frames := 5, cells := 0, slots := 0, locals := 107 } : Room) [.ref a.1] (gX4 E a v) (f_X4_commandOfWord v.1) (fun r => some (.int r)) (fun r => (gX4 E a v)) := by
  obtain ⟨v_text, v_numbers, v_failureParts, v_everFailed, v_failed, v_command, v_commandPlace, v_commandsDone⟩ := v
  refine zk_M (cc := cX4_commandOfWord) (nL := 1) (ret := (some .int)) (by decide) rfl (Nat.le_of_ble_eq_true rfl) (fun X Q hQ => ?_)
  refine zk_eqv (w1 := (gX4 E a (v_text, v_numbers, v_failureParts, v_everFailed, v_failed, v_command, v_commandPlace, v_commandsDone))) (lv1 := [(0, .ref a.1)]) (st1 := []) (o1 := f_X4_commandOfWord v_text) rfl rfl rfl rfl ?_
  unfold f_X4_commandOfWord
  refine zk_aload_n dX4_commandOfWord_0 0 rfl 1 rfl ?_
  refine zk_get dX4_commandOfWord_1 0 rfl rfl kX4_commandOfWord_inX4 0 (by decide) kX4_commandOfWord_1 rfl 4 rfl ?_
  refine zk_ldcS dX4_commandOfWord_4 rfl 0 rfl 6 rfl ?_
  refine zk_callV (ci := 7) (st := []) (c_X7_isWord E l a.2.1 v_text 0 (by decide)) dX4_commandOfWord_6 1 gX4_commandOfWord_X7_isWord rfl rfl rfl cd_X7_isWord ⟨Nat.le_of_ble_eq_true rfl, Nat.le_of_ble_eq_true rfl⟩ ⟨Nat.zero_le _, Nat.zero_le _⟩ _ (fun r6 => (gX4 E a (v_text, v_numbers, v_failureParts, v_everFailed, v_failed, v_command, v_commandPlace, v_commandsDone))) (zk_pc zk_pa (zk_p1 (gs := (lX4 E a (v_text, v_numbers, v_failureParts, v_everFailed, v_failed, v_command, v_commandPlace, v_commandsDone))) (i := 1) rfl)) (fun r6 => (zk_qc zk_qa (zk_q1 (gs := (lX4 E a (v_text, v_numbers, v_failureParts, v_everFailed, v_failed, v_command, v_commandPlace, v_commandsDone))) (i := 1) (w1 := gX4 E a (v_text, v_numbers, v_failureParts, v_everFailed, v_failed, v_command, v_commandPlace, v_commandsDone)) rfl rfl))) rfl rfl rfl rfl (Nat.le_of_ble_eq_true rfl) (fun r6 => [.int r6]) (fun _ => rfl) 9 rfl (fun r6 => ?_)
  refine zk_if_eq dX4_commandOfWord_9 14 (by decide) 12 rfl (fun _ => ?_) (fun _ => ?_)
  · refine zk_aload_n dX4_commandOfWord_14 0 rfl 15 rfl ?_
    refine zk_get dX4_commandOfWord_15 0 rfl rfl kX4_commandOfWord_inX4 0 (by decide) kX4_commandOfWord_1 rfl 18 rfl ?_
    refine zk_ldcS dX4_commandOfWord_18 rfl 1 rfl 20 rfl ?_
    refine zk_callV (ci := 7) (st := []) (c_X7_isWord E l a.2.1 v_text 1 (by decide)) dX4_commandOfWord_20 1 gX4_commandOfWord_X7_isWord rfl rfl rfl cd_X7_isWord ⟨Nat.le_of_ble_eq_true rfl, Nat.le_of_ble_eq_true rfl⟩ ⟨Nat.zero_le _, Nat.zero_le _⟩ _ (fun r20 => (gX4 E a (v_text, v_numbers, v_failureParts, v_everFailed, v_failed, v_command, v_commandPlace, v_commandsDone))) (zk_pc zk_pa (zk_p1 (gs := (lX4 E a (v_text, v_numbers, v_failureParts, v_everFailed, v_failed, v_command, v_commandPlace, v_commandsDone))) (i := 1) rfl)) (fun r20 => (zk_qc zk_qa (zk_q1 (gs := (lX4 E a (v_text, v_numbers, v_failureParts, v_everFailed, v_failed, v_command, v_commandPlace, v_commandsDone))) (i := 1) (w1 := gX4 E a (v_text, v_numbers, v_failureParts, v_everFailed, v_failed, v_command, v_commandPlace, v_commandsDone)) rfl rfl))) rfl rfl rfl rfl (Nat.le_of_ble_eq_true rfl) (fun r20 => [.int r20]) (fun _ => rfl) 23 rfl (fun r20 => ?_)
    refine zk_if_eq dX4_commandOfWord_23 28 (by decide) 26 rfl (fun _ => ?_) (fun _ => ?_)
    · refine zk_aload_n dX4_commandOfWord_28 0 rfl 29 rfl ?_
      refine zk_get dX4_commandOfWord_29 0 rfl rfl kX4_commandOfWord_inX4 0 (by decide) kX4_commandOfWord_1 rfl 32 rfl ?_
      refine zk_ldcS dX4_commandOfWord_32 rfl 2 rfl 34 rfl ?_
      refine zk_callV (ci := 7) (st := []) (c_X7_isWord E l a.2.1 v_text 2 (by decide)) dX4_commandOfWord_34 1 gX4_commandOfWord_X7_isWord rfl rfl rfl cd_X7_isWord ⟨Nat.le_of_ble_eq_true rfl, Nat.le_of_ble_eq_true rfl⟩ ⟨Nat.zero_le _, Nat.zero_le _⟩ _ (fun r34 => (gX4 E a (v_text, v_numbers, v_failureParts, v_everFailed, v_failed, v_command, v_commandPlace, v_commandsDone))) (zk_pc zk_pa (zk_p1 (gs := (lX4 E a (v_text, v_numbers, v_failureParts, v_everFailed, v_failed, v_command, v_commandPlace, v_commandsDone))) (i := 1) rfl)) (fun r34 => (zk_qc zk_qa (zk_q1 (gs := (lX4 E a (v_text, v_numbers, v_failureParts, v_everFailed, v_failed, v_command, v_commandPlace, v_commandsDone))) (i := 1) (w1 := gX4 E a (v_text, v_numbers, v_failureParts, v_everFailed, v_failed, v_command, v_commandPlace, v_commandsDone)) rfl rfl))) rfl rfl rfl rfl (Nat.le_of_ble_eq_true rfl) (fun r34 => [.int r34]) (fun _ => rfl) 37 rfl (fun r34 => ?_)
      refine zk_if_eq dX4_commandOfWord_37 42 (by decide) 40 rfl (fun _ => ?_) (fun _ => ?_)
      · refine zk_aload_n dX4_commandOfWord_42 0 rfl 43 rfl ?_
        refine zk_get dX4_commandOfWord_43 0 rfl rfl kX4_commandOfWord_inX4 0 (by decide) kX4_commandOfWord_1 rfl 46 rfl ?_
        refine zk_ldcS dX4_commandOfWord_46 rfl 3 rfl 48 rfl ?_
        refine zk_callV (ci := 7) (st := []) (c_X7_isWord E l a.2.1 v_text 3 (by decide)) dX4_commandOfWord_48 1 gX4_commandOfWord_X7_isWord rfl rfl rfl cd_X7_isWord ⟨Nat.le_of_ble_eq_true rfl, Nat.le_of_ble_eq_true rfl⟩ ⟨Nat.zero_le _, Nat.zero_le _⟩ _ (fun r48 => (gX4 E a (v_text, v_numbers, v_failureParts, v_everFailed, v_failed, v_command, v_commandPlace, v_commandsDone))) (zk_pc zk_pa (zk_p1 (gs := (lX4 E a (v_text, v_numbers, v_failureParts, v_everFailed, v_failed, v_command, v_commandPlace, v_commandsDone))) (i := 1) rfl)) (fun r48 => (zk_qc zk_qa (zk_q1 (gs := (lX4 E a (v_text, v_numbers, v_failureParts, v_everFailed, v_failed, v_command, v_commandPlace, v_commandsDone))) (i := 1) (w1 := gX4 E a (v_text, v_numbers, v_failureParts, v_everFailed, v_failed, v_command, v_commandPlace, v_commandsDone)) rfl rfl))) rfl rfl rfl rfl (Nat.le_of_ble_eq_true rfl) (fun r48 => [.int r48]) (fun _ => rfl) 51 rfl (fun r48 => ?_)
        refine zk_if_eq dX4_commandOfWord_51 56 (by decide) 54 rfl (fun _ => ?_) (fun _ => ?_)
        · refine zk_aload_n dX4_commandOfWord_56 0 rfl 57 rfl ?_
          refine zk_get dX4_commandOfWord_57 0 rfl rfl kX4_commandOfWord_inX4 0 (by decide) kX4_commandOfWord_1 rfl 60 rfl ?_
          refine zk_ldcS dX4_commandOfWord_60 rfl 4 rfl 62 rfl ?_
          refine zk_callV (ci := 7) (st := []) (c_X7_isWord E l a.2.1 v_text 4 (by decide)) dX4_commandOfWord_62 1 gX4_commandOfWord_X7_isWord rfl rfl rfl cd_X7_isWord ⟨Nat.le_of_ble_eq_true rfl, Nat.le_of_ble_eq_true rfl⟩ ⟨Nat.zero_le _, Nat.zero_le _⟩ _ (fun r62 => (gX4 E a (v_text, v_numbers, v_failureParts, v_everFailed, v_failed, v_command, v_commandPlace, v_commandsDone))) (zk_pc zk_pa (zk_p1 (gs := (lX4 E a (v_text, v_numbers, v_failureParts, v_everFailed, v_failed, v_command, v_commandPlace, v_commandsDone))) (i := 1) rfl)) (fun r62 => (zk_qc zk_qa (zk_q1 (gs := (lX4 E a (v_text, v_numbers, v_failureParts, v_everFailed, v_failed, v_command, v_commandPlace, v_commandsDone))) (i := 1) (w1 := gX4 E a (v_text, v_numbers, v_failureParts, v_everFailed, v_failed, v_command, v_commandPlace, v_commandsDone)) rfl rfl))) rfl rfl rfl rfl (Nat.le_of_ble_eq_true rfl) (fun r62 => [.int r62]) (fun _ => rfl) 65 rfl (fun r62 => ?_)
          refine zk_if_eq dX4_commandOfWord_65 72 (by decide) 68 rfl (fun _ => ?_) (fun _ => ?_)
          · refine zk_iconst 0 dX4_commandOfWord_72 (by decide) 73 rfl ?_
            exact zk_iret hQ dX4_commandOfWord_73 rfl rfl
          · refine zk_iconst 5 dX4_commandOfWord_68 (by decide) 69 rfl ?_
            refine zk_goto dX4_commandOfWord_69 73 (by decide) ?_
            exact zk_iret hQ dX4_commandOfWord_73 rfl rfl
        · refine zk_iconst 4 dX4_commandOfWord_54 (by decide) 55 rfl ?_
          exact zk_iret hQ dX4_commandOfWord_55 rfl rfl
      · refine zk_iconst 3 dX4_commandOfWord_40 (by decide) 41 rfl ?_
        exact zk_iret hQ dX4_commandOfWord_41 rfl rfl
    · refine zk_iconst 2 dX4_commandOfWord_26 (by decide) 27 rfl ?_
      exact zk_iret hQ dX4_commandOfWord_27 rfl rfl
  · refine zk_iconst 1 dX4_commandOfWord_12 (by decide) 13 rfl ?_
    exact zk_iret hQ dX4_commandOfWord_13 rfl rfl
def f_X4_readCommand_120 (v_commandsDone : Int32) (v_text : VX7) (v_numbers : (Nat → Int32)) (v_failureParts : (Nat → Int32)) (v_everFailed : Int32) (v_failed : Int32) (v_command : Int32) (v_commandPlace : Int32) : Option (Int32 × VX7 × (Nat → Int32) × (Nat → Int32) × Int32 × Int32 × Int32 × Int32) := (f_X7_readToken v_text.1 v_text.2.1 v_text.2.2.2.1 v_text.2.2.2.2).bind fun r124 => (f_X7_isSemicolon v_text.1 v_text.2.1 r124.1 r124.2.2).bind fun r131 => if r131 = 0 then (f_X4_failAtToken (v_text.1, v_text.2.1, r124.1, r124.2.1, r124.2.2) v_failureParts v_commandsDone).bind fun r138 => if r138.1 = 0 then some (0, (v_text.1, v_text.2.1, r124.1, r124.2.1, r124.2.2), v_numbers, r138.2.1, r138.2.2.1, r138.2.2.2, v_command, v_commandPlace) else some (1, (v_text.1, v_text.2.1, r124.1, r124.2.1, r124.2.2), v_numbers, r138.2.1, r138.2.2.1, r138.2.2.2, v_command, v_commandPlace) else some (1, (v_text.1, v_text.2.1, r124.1, r124.2.1, r124.2.2), v_numbers, v_failureParts, v_everFailed, v_failed, v_command, v_commandPlace)
def F_X4_readCommand_69 (v_commandsDone : Int32) (x1 : Int32) (v_failureParts : (Nat → Int32)) (v_everFailed : Int32) (v_failed : Int32) (v_command : Int32) (v_commandPlace : Int32) (k69 : Int32 × VX7 × (Nat → Int32) → Option (Int32 × VX7 × (Nat → Int32) × (Nat → Int32) × Int32 × Int32 × Int32 × Int32)) : Int32 × VX7 × (Nat → Int32) → Option (Int32 × VX7 × (Nat → Int32) × (Nat → Int32) × Int32 × Int32 × Int32 × Int32) := fun s => match s with
  | (x2, v_text, v_numbers) => if x1 ≤ x2 then f_X4_readCommand_120 v_commandsDone v_text v_numbers v_failureParts v_everFailed v_failed v_command v_commandPlace else if 3 ≤ x2 then f_X4_readCommand_120 v_commandsDone v_text v_numbers v_failureParts v_everFailed v_failed v_command v_commandPlace else (f_X7_readToken v_text.1 v_text.2.1 v_text.2.2.2.1 v_text.2.2.2.2).bind fun r83 => (f_X7_isNumber v_text.1 v_text.2.1 r83.1 r83.2.1 r83.2.2).bind fun r90 => if r90 = 0 then (f_X4_failAtToken (v_text.1, v_text.2.1, r83.1, r83.2.1, r83.2.2) v_failureParts v_commandsDone).bind fun r97 => zk_bz r97.1 (some (r97.1, (v_text.1, v_text.2.1, r83.1, r83.2.1, r83.2.2), v_numbers, r97.2.1, r97.2.2.1, r97.2.2.2, v_command, v_commandPlace)) else (f_X7_numberValue v_text.1 v_text.2.1 r83.1 r83.2.1).bind fun r110 => zk_ck x2 3 (zk_let (upd v_numbers x2.toNatClampNeg r110) fun v_numbers_1 => k69 ((x2 + 1), (v_text.1, v_text.2.1, r83.1, r83.2.1, r83.2.2), v_numbers_1))
def f_X4_readCommand (v_text : VX7) (v_numbers : (Nat → Int32)) (v_failureParts : (Nat → Int32)) (v_everFailed : Int32) (v_failed : Int32) (v_command : Int32) (v_commandPlace : Int32) (v_commandsDone : Int32) : Option (Int32 × VX7 × (Nat → Int32) × (Nat → Int32) × Int32 × Int32 × Int32 × Int32) := if v_failed = 0 then (f_X7_readToken v_text.1 v_text.2.1 v_text.2.2.2.1 v_text.2.2.2.2).bind fun r13 => (f_X7_isAtEnd r13.2.2).bind fun r20 => if r20 = 0 then (f_X4_commandOfWord (v_text.1, v_text.2.1, r13.1, r13.2.1, r13.2.2)).bind fun r30 => (f_X7_tokenStart r13.1).bind fun r41 => if r30 = 0 then (f_X4_failAtToken (v_text.1, v_text.2.1, r13.1, r13.2.1, r13.2.2) v_failureParts v_commandsDone).bind fun r55 => zk_bz r55.1 (some (r55.1, (v_text.1, v_text.2.1, r13.1, r13.2.1, r13.2.2), v_numbers, r55.2.1, r55.2.2.1, r55.2.2.2, r30, r41)) else (f_X4_numbersOf r30).bind fun r63 => zk_fx (F_X4_readCommand_69 v_commandsDone r63 v_failureParts v_everFailed v_failed r30 r41 ) zk_N (0, (v_text.1, v_text.2.1, r13.1, r13.2.1, r13.2.2), v_numbers) else some (0, (v_text.1, v_text.2.1, r13.1, r13.2.1, r13.2.2), v_numbers, v_failureParts, v_everFailed, v_failed, v_command, v_commandPlace) else some (0, v_text, v_numbers, v_failureParts, v_everFailed, v_failed, v_command, v_commandPlace)
theorem kX4_readCommand_inX4 : ∀ w ∈ u_ws RX4 TX4 8, w ∈ wsX4_readCommand := by decide +kernel
theorem kX4_readCommand_1 : Cond.fieldLink RX4 28 (TX4 4).1 (TX4 4).2.1 (TX4 4).2.2.1 ∈ wsX4_readCommand := by decide +kernel
theorem kX4_readCommand_2 : Cond.fieldLink RX4 12 (TX4 0).1 (TX4 0).2.1 (TX4 0).2.2.1 ∈ wsX4_readCommand := by decide +kernel
theorem kX4_readCommand_3 : Cond.fieldLink RX4 32 (TX4 5).1 (TX4 5).2.1 (TX4 5).2.2.1 ∈ wsX4_readCommand := by decide +kernel
theorem kX4_readCommand_4 : Cond.fieldLink RX4 36 (TX4 6).1 (TX4 6).2.1 (TX4 6).2.2.1 ∈ wsX4_readCommand := by decide +kernel
theorem kX4_readCommand_5 : Cond.fieldLink RX4 18 (TX4 1).1 (TX4 1).2.1 (TX4 1).2.2.1 ∈ wsX4_readCommand := by decide +kernel
theorem cd_X4_readCommand : yX4_readCommand.cls = RX4 ∧ yX4_readCommand.cls ≠ "java/lang/invoke/MethodHandle" ∧ yX4_readCommand.cls ≠ "java/lang/invoke/VarHandle" ∧ (parseMethodDescriptor yX4_readCommand.desc).map (fun d => d.parameters.length) = some 0 := by decide +kernel
set_option maxRecDepth 100000 in
set_option maxHeartbeats 4000000 in
theorem c_X4_readCommand (E : zk_Env) (l : Launch) (a : aX4) (v : VX4)  : zk_Mc E l yX4_readCommand wsX4_readCommand ({ frames := 6, cells := 0, slots := 0, locals := 127 } : Room) [.ref a.1] (gX4 E a v) (f_X4_readCommand v.1 v.2.1 v.2.2.1 v.2.2.2.1 v.2.2.2.2.1 v.2.2.2.2.2.1 v.2.2.2.2.2.2.1 v.2.2.2.2.2.2.2) (fun r => some (.int r.1)) (fun r => (gX4 E a (r.2.1, r.2.2.1, r.2.2.2.1, r.2.2.2.2.1, r.2.2.2.2.2.1, r.2.2.2.2.2.2.1, r.2.2.2.2.2.2.2, v.2.2.2.2.2.2.2))) := by
  obtain ⟨v_text, v_numbers, v_failureParts, v_everFailed, v_failed, v_command, v_commandPlace, v_commandsDone⟩ := v
  refine zk_M (cc := cX4_readCommand) (nL := 3) (ret := (some .boolean)) (by decide) rfl (Nat.le_of_ble_eq_true rfl) (fun X Q hQ => ?_)
  have J120 : ∀ (v_text : VX7) (v_numbers : (Nat → Int32)) (v_failureParts : (Nat → Int32)) (v_everFailed : Int32) (v_failed : Int32) (v_command : Int32) (v_commandPlace : Int32), zk_G E l X cX4_readCommand 3 (some .boolean) yX4_readCommand.cls wsX4_readCommand ({ frames := 6, cells := 0, slots := 0, locals := 127 } : Room) 0 0 Q (gX4 E a (v_text, v_numbers, v_failureParts, v_everFailed, v_failed, v_command, v_commandPlace, v_commandsDone)) [(0, .ref a.1)] 120 [] (f_X4_readCommand_120 v_commandsDone v_text v_numbers v_failureParts v_everFailed v_failed v_command v_commandPlace) := by
    intro v_text v_numbers v_failureParts v_everFailed v_failed v_command v_commandPlace
    unfold f_X4_readCommand_120
    refine zk_aload_n dX4_readCommand_120 0 rfl 121 rfl ?_
    refine zk_get dX4_readCommand_121 0 rfl rfl kX4_readCommand_inX4 0 (by decide) kX4_readCommand_2 rfl 124 rfl ?_
    refine zk_callV (ci := 7) (st := []) (c_X7_readToken E l a.2.1 v_text) dX4_readCommand_124 0 gX4_readCommand_X7_readToken rfl rfl rfl cd_X7_readToken ⟨Nat.le_of_ble_eq_true rfl, Nat.le_of_ble_eq_true rfl⟩ ⟨Nat.zero_le _, Nat.zero_le _⟩ _ (fun r124 => (gX4 E a ((v_text.1, v_text.2.1, r124.1, r124.2.1, r124.2.2), v_numbers, v_failureParts, v_everFailed, v_failed, v_command, v_commandPlace, v_commandsDone))) (zk_pc zk_pa (zk_p1 (gs := (lX4 E a (v_text, v_numbers, v_failureParts, v_everFailed, v_failed, v_command, v_commandPlace, v_commandsDone))) (i := 1) rfl)) (fun r124 => (zk_qc zk_qa (zk_q1 (gs := (lX4 E a (v_text, v_numbers, v_failureParts, v_everFailed, v_failed, v_command, v_commandPlace, v_commandsDone))) (i := 1) (w1 := gX4 E a ((v_text.1, v_text.2.1, r124.1, r124.2.1, r124.2.2), v_numbers, v_failureParts, v_everFailed, v_failed, v_command, v_commandPlace, v_commandsDone)) rfl rfl))) rfl rfl rfl rfl (Nat.le_of_ble_eq_true rfl) (fun r124 => []) (fun _ => rfl) 127 rfl (fun r124 => ?_)
    refine zk_aload_n dX4_readCommand_127 0 rfl 128 rfl ?_
    refine zk_get dX4_readCommand_128 0 rfl rfl kX4_readCommand_inX4 0 (by decide) kX4_readCommand_2 rfl 131 rfl ?_
    refine zk_callV (ci := 7) (st := []) (c_X7_isSemicolon E l a.2.1 (v_text.1, v_text.2.1, r124.1, r124.2.1, r124.2.2)) dX4_readCommand_131 0 gX4_readCommand_X7_isSemicolon rfl rfl rfl cd_X7_isSemicolon ⟨Nat.le_of_ble_eq_true rfl, Nat.le_of_ble_eq_true rfl⟩ ⟨Nat.zero_le _, Nat.zero_le _⟩ _ (fun r131 => (gX4 E a ((v_text.1, v_text.2.1, r124.1, r124.2.1, r124.2.2), v_numbers, v_failureParts, v_everFailed, v_failed, v_command, v_commandPlace, v_commandsDone))) (zk_pc zk_pa (zk_p1 (gs := (lX4 E a ((v_text.1, v_text.2.1, r124.1, r124.2.1, r124.2.2), v_numbers, v_failureParts, v_everFailed, v_failed, v_command, v_commandPlace, v_commandsDone))) (i := 1) rfl)) (fun r131 => (zk_qc zk_qa (zk_q1 (gs := (lX4 E a ((v_text.1, v_text.2.1, r124.1, r124.2.1, r124.2.2), v_numbers, v_failureParts, v_everFailed, v_failed, v_command, v_commandPlace, v_commandsDone))) (i := 1) (w1 := gX4 E a ((v_text.1, v_text.2.1, r124.1, r124.2.1, r124.2.2), v_numbers, v_failureParts, v_everFailed, v_failed, v_command, v_commandPlace, v_commandsDone)) rfl rfl))) rfl rfl rfl rfl (Nat.le_of_ble_eq_true rfl) (fun r131 => [.int r131]) (fun _ => rfl) 134 rfl (fun r131 => ?_)
    refine zk_if_ne dX4_readCommand_134 144 (by decide) 137 rfl (fun _ => ?_) (fun _ => ?_)
    · refine zk_aload_n dX4_readCommand_137 0 rfl 138 rfl ?_
      refine zk_callV (ci := 4) (st := []) (c_X4_failAtToken E l a ((v_text.1, v_text.2.1, r124.1, r124.2.1, r124.2.2), v_numbers, v_failureParts, v_everFailed, v_failed, v_command, v_commandPlace, v_commandsDone)) dX4_readCommand_138 0 gX4_readCommand_X4_failAtToken rfl rfl rfl cd_X4_failAtToken ⟨Nat.le_of_ble_eq_true rfl, Nat.le_of_ble_eq_true rfl⟩ ⟨Nat.zero_le _, Nat.zero_le _⟩ _ (fun r138 => (gX4 E a ((v_text.1, v_text.2.1, r124.1, r124.2.1, r124.2.2), v_numbers, r138.2.1, r138.2.2.1, r138.2.2.2, v_command, v_commandPlace, v_commandsDone))) zk_pa (fun r138 => zk_qa) rfl rfl rfl rfl (Nat.le_of_ble_eq_true rfl) (fun r138 => [.int r138.1]) (fun _ => rfl) 141 rfl (fun r138 => ?_)
      refine zk_if_eq dX4_readCommand_141 148 (by decide) 144 rfl (fun _ => ?_) (fun _ => ?_)
      · refine zk_iconst 0 dX4_readCommand_148 (by decide) 149 rfl ?_
        exact zk_zretL hQ dX4_readCommand_149 (Or.inl rfl) rfl rfl
      · refine zk_iconst 1 dX4_readCommand_144 (by decide) 145 rfl ?_
        refine zk_goto dX4_readCommand_145 149 (by decide) ?_
        exact zk_zretL hQ dX4_readCommand_149 (Or.inr rfl) rfl rfl
    · refine zk_iconst 1 dX4_readCommand_144 (by decide) 145 rfl ?_
      refine zk_goto dX4_readCommand_145 149 (by decide) ?_
      exact zk_zretL hQ dX4_readCommand_149 (Or.inr rfl) rfl rfl
  have J69 : ∀ (x1 : Int32) (v_failureParts : (Nat → Int32)) (v_everFailed : Int32) (v_failed : Int32) (v_command : Int32) (v_commandPlace : Int32) (n : Nat) (x2 : Int32) (v_text : VX7) (v_numbers : (Nat → Int32)), zk_G E l X cX4_readCommand 3 (some .boolean) yX4_readCommand.cls wsX4_readCommand ({ frames := 6, cells := 0, slots := 0, locals := 127 } : Room) 0 0 Q (gX4 E a (v_text, v_numbers, v_failureParts, v_everFailed, v_failed, v_command, v_commandPlace, v_commandsDone)) [(0, .ref a.1), (1, .int x1), (2, .int x2)] 69 [] (zk_fx (F_X4_readCommand_69 v_commandsDone x1 v_failureParts v_everFailed v_failed v_command v_commandPlace ) n (x2, v_text, v_numbers)) := by
    intro x1 v_failureParts v_everFailed v_failed v_command v_commandPlace n x2 v_text v_numbers
    refine zk_loop (S := Int32 × VX7 × (Nat → Int32)) (F := F_X4_readCommand_69 v_commandsDone x1 v_failureParts v_everFailed v_failed v_command v_commandPlace) (wS := fun s => (gX4 E a (s.2.1, s.2.2, v_failureParts, v_everFailed, v_failed, v_command, v_commandPlace, v_commandsDone))) (lS := fun s => [(0, .ref a.1), (1, .int x1), (2, .int s.1)]) (sS := fun _ => []) (fun k69 hk69 s => ?_) n (x2, v_text, v_numbers)
    obtain ⟨x2, v_text, v_numbers⟩ := s
    unfold F_X4_readCommand_69
    try dsimp only
    refine zk_iload_n dX4_readCommand_69 2 rfl 70 rfl ?_
    refine zk_iload_n dX4_readCommand_70 1 rfl 71 rfl ?_
    refine zk_icmp_ge dX4_readCommand_71 120 (by decide) 74 rfl (fun _ => ?_) (fun _ => ?_)
    · refine zk_lv [0] rfl ?_
      exact J120   v_text v_numbers v_failureParts v_everFailed v_failed v_command v_commandPlace
    · refine zk_iload_n dX4_readCommand_74 2 rfl 75 rfl ?_
      refine zk_iconst 3 dX4_readCommand_75 (by decide) 76 rfl ?_
      refine zk_icmp_ge dX4_readCommand_76 120 (by decide) 79 rfl (fun _ => ?_) (fun _ => ?_)
      · refine zk_lv [0] rfl ?_
        exact J120   v_text v_numbers v_failureParts v_everFailed v_failed v_command v_commandPlace
      · refine zk_aload_n dX4_readCommand_79 0 rfl 80 rfl ?_
        refine zk_get dX4_readCommand_80 0 rfl rfl kX4_readCommand_inX4 0 (by decide) kX4_readCommand_2 rfl 83 rfl ?_
        refine zk_callV (ci := 7) (st := []) (c_X7_readToken E l a.2.1 v_text) dX4_readCommand_83 0 gX4_readCommand_X7_readToken rfl rfl rfl cd_X7_readToken ⟨Nat.le_of_ble_eq_true rfl, Nat.le_of_ble_eq_true rfl⟩ ⟨Nat.zero_le _, Nat.zero_le _⟩ _ (fun r83 => (gX4 E a ((v_text.1, v_text.2.1, r83.1, r83.2.1, r83.2.2), v_numbers, v_failureParts, v_everFailed, v_failed, v_command, v_commandPlace, v_commandsDone))) (zk_pc zk_pa (zk_p1 (gs := (lX4 E a (v_text, v_numbers, v_failureParts, v_everFailed, v_failed, v_command, v_commandPlace, v_commandsDone))) (i := 1) rfl)) (fun r83 => (zk_qc zk_qa (zk_q1 (gs := (lX4 E a (v_text, v_numbers, v_failureParts, v_everFailed, v_failed, v_command, v_commandPlace, v_commandsDone))) (i := 1) (w1 := gX4 E a ((v_text.1, v_text.2.1, r83.1, r83.2.1, r83.2.2), v_numbers, v_failureParts, v_everFailed, v_failed, v_command, v_commandPlace, v_commandsDone)) rfl rfl))) rfl rfl rfl rfl (Nat.le_of_ble_eq_true rfl) (fun r83 => []) (fun _ => rfl) 86 rfl (fun r83 => ?_)
        refine zk_aload_n dX4_readCommand_86 0 rfl 87 rfl ?_
        refine zk_get dX4_readCommand_87 0 rfl rfl kX4_readCommand_inX4 0 (by decide) kX4_readCommand_2 rfl 90 rfl ?_
        refine zk_callV (ci := 7) (st := []) (c_X7_isNumber E l a.2.1 (v_text.1, v_text.2.1, r83.1, r83.2.1, r83.2.2)) dX4_readCommand_90 0 gX4_readCommand_X7_isNumber rfl rfl rfl cd_X7_isNumber ⟨Nat.le_of_ble_eq_true rfl, Nat.le_of_ble_eq_true rfl⟩ ⟨Nat.zero_le _, Nat.zero_le _⟩ _ (fun r90 => (gX4 E a ((v_text.1, v_text.2.1, r83.1, r83.2.1, r83.2.2), v_numbers, v_failureParts, v_everFailed, v_failed, v_command, v_commandPlace, v_commandsDone))) (zk_pc zk_pa (zk_p1 (gs := (lX4 E a ((v_text.1, v_text.2.1, r83.1, r83.2.1, r83.2.2), v_numbers, v_failureParts, v_everFailed, v_failed, v_command, v_commandPlace, v_commandsDone))) (i := 1) rfl)) (fun r90 => (zk_qc zk_qa (zk_q1 (gs := (lX4 E a ((v_text.1, v_text.2.1, r83.1, r83.2.1, r83.2.2), v_numbers, v_failureParts, v_everFailed, v_failed, v_command, v_commandPlace, v_commandsDone))) (i := 1) (w1 := gX4 E a ((v_text.1, v_text.2.1, r83.1, r83.2.1, r83.2.2), v_numbers, v_failureParts, v_everFailed, v_failed, v_command, v_commandPlace, v_commandsDone)) rfl rfl))) rfl rfl rfl rfl (Nat.le_of_ble_eq_true rfl) (fun r90 => [.int r90]) (fun _ => rfl) 93 rfl (fun r90 => ?_)
        refine zk_if_ne dX4_readCommand_93 101 (by decide) 96 rfl (fun _ => ?_) (fun _ => ?_)
        · refine zk_aload_n dX4_readCommand_96 0 rfl 97 rfl ?_
          refine zk_callV (ci := 4) (st := []) (c_X4_failAtToken E l a ((v_text.1, v_text.2.1, r83.1, r83.2.1, r83.2.2), v_numbers, v_failureParts, v_everFailed, v_failed, v_command, v_commandPlace, v_commandsDone)) dX4_readCommand_97 0 gX4_readCommand_X4_failAtToken rfl rfl rfl cd_X4_failAtToken ⟨Nat.le_of_ble_eq_true rfl, Nat.le_of_ble_eq_true rfl⟩ ⟨Nat.zero_le _, Nat.zero_le _⟩ _ (fun r97 => (gX4 E a ((v_text.1, v_text.2.1, r83.1, r83.2.1, r83.2.2), v_numbers, r97.2.1, r97.2.2.1, r97.2.2.2, v_command, v_commandPlace, v_commandsDone))) zk_pa (fun r97 => zk_qa) rfl rfl rfl rfl (Nat.le_of_ble_eq_true rfl) (fun r97 => [.int r97.1]) (fun _ => rfl) 100 rfl (fun r97 => ?_)
          exact zk_zret hQ dX4_readCommand_100 rfl rfl
        · refine zk_aload_n dX4_readCommand_101 0 rfl 102 rfl ?_
          refine zk_get dX4_readCommand_102 0 rfl rfl kX4_readCommand_inX4 1 (by decide) kX4_readCommand_5 rfl 105 rfl ?_
          refine zk_iload_n dX4_readCommand_105 2 rfl 106 rfl ?_
          refine zk_aload_n dX4_readCommand_106 0 rfl 107 rfl ?_
          refine zk_get dX4_readCommand_107 0 rfl rfl kX4_readCommand_inX4 0 (by decide) kX4_readCommand_2 rfl 110 rfl ?_
          refine zk_callV (ci := 7) (st := [.int x2, .ref a.2.2.1]) (c_X7_numberValue E l a.2.1 (v_text.1, v_text.2.1, r83.1, r83.2.1, r83.2.2)) dX4_readCommand_110 0 gX4_readCommand_X7_numberValue rfl rfl rfl cd_X7_numberValue ⟨Nat.le_of_ble_eq_true rfl, Nat.le_of_ble_eq_true rfl⟩ ⟨Nat.zero_le _, Nat.zero_le _⟩ _ (fun r110 => (gX4 E a ((v_text.1, v_text.2.1, r83.1, r83.2.1, r83.2.2), v_numbers, v_failureParts, v_everFailed, v_failed, v_command, v_commandPlace, v_commandsDone))) (zk_pc zk_pa (zk_p1 (gs := (lX4 E a ((v_text.1, v_text.2.1, r83.1, r83.2.1, r83.2.2), v_numbers, v_failureParts, v_everFailed, v_failed, v_command, v_commandPlace, v_commandsDone))) (i := 1) rfl)) (fun r110 => (zk_qc zk_qa (zk_q1 (gs := (lX4 E a ((v_text.1, v_text.2.1, r83.1, r83.2.1, r83.2.2), v_numbers, v_failureParts, v_everFailed, v_failed, v_command, v_commandPlace, v_commandsDone))) (i := 1) (w1 := gX4 E a ((v_text.1, v_text.2.1, r83.1, r83.2.1, r83.2.2), v_numbers, v_failureParts, v_everFailed, v_failed, v_command, v_commandPlace, v_commandsDone)) rfl rfl))) rfl rfl rfl rfl (Nat.le_of_ble_eq_true rfl) (fun r110 => [.int r110, .int x2, .ref a.2.2.1]) (fun _ => rfl) 113 rfl (fun r110 => ?_)
          refine zk_iast (gX4 E a ((v_text.1, v_text.2.1, r83.1, r83.2.1, r83.2.2), (upd v_numbers x2.toNatClampNeg r110), v_failureParts, v_everFailed, v_failed, v_command, v_commandPlace, v_commandsDone)) dX4_readCommand_113 1 rfl rfl 114 rfl ?_
          refine zk_nmw (fun v_numbers_1 => (gX4 E a ((v_text.1, v_text.2.1, r83.1, r83.2.1, r83.2.2), v_numbers_1, v_failureParts, v_everFailed, v_failed, v_command, v_commandPlace, v_commandsDone))) _ rfl (fun v_numbers_1 => ?_)
          refine zk_iinc (x2 + 1) [(2, .int (x2 + 1)), (0, .ref a.1), (1, .int x1)] dX4_readCommand_114 2 rfl rfl (by decide) rfl 117 rfl ?_
          refine zk_goto dX4_readCommand_117 69 (by decide) ?_
          refine zk_lv [1, 2, 0] rfl ?_
          exact hk69 ((x2 + 1), (v_text.1, v_text.2.1, r83.1, r83.2.1, r83.2.2), v_numbers_1)
  refine zk_eqv (w1 := (gX4 E a (v_text, v_numbers, v_failureParts, v_everFailed, v_failed, v_command, v_commandPlace, v_commandsDone))) (lv1 := [(0, .ref a.1)]) (st1 := []) (o1 := f_X4_readCommand v_text v_numbers v_failureParts v_everFailed v_failed v_command v_commandPlace v_commandsDone) rfl rfl rfl rfl ?_
  unfold f_X4_readCommand
  refine zk_aload_n dX4_readCommand_0 0 rfl 1 rfl ?_
  refine zk_get dX4_readCommand_1 0 rfl rfl kX4_readCommand_inX4 4 (by decide) kX4_readCommand_1 rfl 4 rfl ?_
  refine zk_if_eq dX4_readCommand_4 9 (by decide) 7 rfl (fun _ => ?_) (fun _ => ?_)
  · refine zk_aload_n dX4_readCommand_9 0 rfl 10 rfl ?_
    refine zk_get dX4_readCommand_10 0 rfl rfl kX4_readCommand_inX4 0 (by decide) kX4_readCommand_2 rfl 13 rfl ?_
    refine zk_callV (ci := 7) (st := []) (c_X7_readToken E l a.2.1 v_text) dX4_readCommand_13 0 gX4_readCommand_X7_readToken rfl rfl rfl cd_X7_readToken ⟨Nat.le_of_ble_eq_true rfl, Nat.le_of_ble_eq_true rfl⟩ ⟨Nat.zero_le _, Nat.zero_le _⟩ _ (fun r13 => (gX4 E a ((v_text.1, v_text.2.1, r13.1, r13.2.1, r13.2.2), v_numbers, v_failureParts, v_everFailed, v_failed, v_command, v_commandPlace, v_commandsDone))) (zk_pc zk_pa (zk_p1 (gs := (lX4 E a (v_text, v_numbers, v_failureParts, v_everFailed, v_failed, v_command, v_commandPlace, v_commandsDone))) (i := 1) rfl)) (fun r13 => (zk_qc zk_qa (zk_q1 (gs := (lX4 E a (v_text, v_numbers, v_failureParts, v_everFailed, v_failed, v_command, v_commandPlace, v_commandsDone))) (i := 1) (w1 := gX4 E a ((v_text.1, v_text.2.1, r13.1, r13.2.1, r13.2.2), v_numbers, v_failureParts, v_everFailed, v_failed, v_command, v_commandPlace, v_commandsDone)) rfl rfl))) rfl rfl rfl rfl (Nat.le_of_ble_eq_true rfl) (fun r13 => []) (fun _ => rfl) 16 rfl (fun r13 => ?_)
    refine zk_aload_n dX4_readCommand_16 0 rfl 17 rfl ?_
    refine zk_get dX4_readCommand_17 0 rfl rfl kX4_readCommand_inX4 0 (by decide) kX4_readCommand_2 rfl 20 rfl ?_
    refine zk_callV (ci := 7) (st := []) (c_X7_isAtEnd E l a.2.1 (v_text.1, v_text.2.1, r13.1, r13.2.1, r13.2.2)) dX4_readCommand_20 0 gX4_readCommand_X7_isAtEnd rfl rfl rfl cd_X7_isAtEnd ⟨Nat.le_of_ble_eq_true rfl, Nat.le_of_ble_eq_true rfl⟩ ⟨Nat.zero_le _, Nat.zero_le _⟩ _ (fun r20 => (gX4 E a ((v_text.1, v_text.2.1, r13.1, r13.2.1, r13.2.2), v_numbers, v_failureParts, v_everFailed, v_failed, v_command, v_commandPlace, v_commandsDone))) (zk_pc zk_pa (zk_p1 (gs := (lX4 E a ((v_text.1, v_text.2.1, r13.1, r13.2.1, r13.2.2), v_numbers, v_failureParts, v_everFailed, v_failed, v_command, v_commandPlace, v_commandsDone))) (i := 1) rfl)) (fun r20 => (zk_qc zk_qa (zk_q1 (gs := (lX4 E a ((v_text.1, v_text.2.1, r13.1, r13.2.1, r13.2.2), v_numbers, v_failureParts, v_everFailed, v_failed, v_command, v_commandPlace, v_commandsDone))) (i := 1) (w1 := gX4 E a ((v_text.1, v_text.2.1, r13.1, r13.2.1, r13.2.2), v_numbers, v_failureParts, v_everFailed, v_failed, v_command, v_commandPlace, v_commandsDone)) rfl rfl))) rfl rfl rfl rfl (Nat.le_of_ble_eq_true rfl) (fun r20 => [.int r20]) (fun _ => rfl) 23 rfl (fun r20 => ?_)
    refine zk_if_eq dX4_readCommand_23 28 (by decide) 26 rfl (fun _ => ?_) (fun _ => ?_)
    · refine zk_aload_n dX4_readCommand_28 0 rfl 29 rfl ?_
      refine zk_aload_n dX4_readCommand_29 0 rfl 30 rfl ?_
      refine zk_callV (ci := 4) (st := [.ref a.1]) (c_X4_commandOfWord E l a ((v_text.1, v_text.2.1, r13.1, r13.2.1, r13.2.2), v_numbers, v_failureParts, v_everFailed, v_failed, v_command, v_commandPlace, v_commandsDone)) dX4_readCommand_30 0 gX4_readCommand_X4_commandOfWord rfl rfl rfl cd_X4_commandOfWord ⟨Nat.le_of_ble_eq_true rfl, Nat.le_of_ble_eq_true rfl⟩ ⟨Nat.zero_le _, Nat.zero_le _⟩ _ (fun r30 => (gX4 E a ((v_text.1, v_text.2.1, r13.1, r13.2.1, r13.2.2), v_numbers, v_failureParts, v_everFailed, v_failed, v_command, v_commandPlace, v_commandsDone))) zk_pa (fun r30 => zk_qa) rfl rfl rfl rfl (Nat.le_of_ble_eq_true rfl) (fun r30 => [.int r30, .ref a.1]) (fun _ => rfl) 33 rfl (fun r30 => ?_)
      refine zk_put_ tyX4 (gX4 E a ((v_text.1, v_text.2.1, r13.1, r13.2.1, r13.2.2), v_numbers, v_failureParts, v_everFailed, v_failed, r30, v_commandPlace, v_commandsDone)) dX4_readCommand_33 0 rfl rfl kX4_readCommand_inX4 tyX4_ok nmX4 5 (by decide) kX4_readCommand_3 rfl (tyX4_ok 5 (by decide)) rfl rfl (Nat.le_of_ble_eq_true rfl) rfl 36 rfl ?_
      refine zk_aload_n dX4_readCommand_36 0 rfl 37 rfl ?_
      refine zk_aload_n dX4_readCommand_37 0 rfl 38 rfl ?_
      refine zk_get dX4_readCommand_38 0 rfl rfl kX4_readCommand_inX4 0 (by decide) kX4_readCommand_2 rfl 41 rfl ?_
      refine zk_callV (ci := 7) (st := [.ref a.1]) (c_X7_tokenStart E l a.2.1 (v_text.1, v_text.2.1, r13.1, r13.2.1, r13.2.2)) dX4_readCommand_41 0 gX4_readCommand_X7_tokenStart rfl rfl rfl cd_X7_tokenStart ⟨Nat.le_of_ble_eq_true rfl, Nat.le_of_ble_eq_true rfl⟩ ⟨Nat.zero_le _, Nat.zero_le _⟩ _ (fun r41 => (gX4 E a ((v_text.1, v_text.2.1, r13.1, r13.2.1, r13.2.2), v_numbers, v_failureParts, v_everFailed, v_failed, r30, v_commandPlace, v_commandsDone))) (zk_pc zk_pa (zk_p1 (gs := (lX4 E a ((v_text.1, v_text.2.1, r13.1, r13.2.1, r13.2.2), v_numbers, v_failureParts, v_everFailed, v_failed, r30, v_commandPlace, v_commandsDone))) (i := 1) rfl)) (fun r41 => (zk_qc zk_qa (zk_q1 (gs := (lX4 E a ((v_text.1, v_text.2.1, r13.1, r13.2.1, r13.2.2), v_numbers, v_failureParts, v_everFailed, v_failed, r30, v_commandPlace, v_commandsDone))) (i := 1) (w1 := gX4 E a ((v_text.1, v_text.2.1, r13.1, r13.2.1, r13.2.2), v_numbers, v_failureParts, v_everFailed, v_failed, r30, v_commandPlace, v_commandsDone)) rfl rfl))) rfl rfl rfl rfl (Nat.le_of_ble_eq_true rfl) (fun r41 => [.int r41, .ref a.1]) (fun _ => rfl) 44 rfl (fun r41 => ?_)
      refine zk_put_ tyX4 (gX4 E a ((v_text.1, v_text.2.1, r13.1, r13.2.1, r13.2.2), v_numbers, v_failureParts, v_everFailed, v_failed, r30, r41, v_commandsDone)) dX4_readCommand_44 0 rfl rfl kX4_readCommand_inX4 tyX4_ok nmX4 6 (by decide) kX4_readCommand_4 rfl (tyX4_ok 6 (by decide)) rfl rfl (Nat.le_of_ble_eq_true rfl) rfl 47 rfl ?_
      refine zk_aload_n dX4_readCommand_47 0 rfl 48 rfl ?_
      refine zk_get dX4_readCommand_48 0 rfl rfl kX4_readCommand_inX4 5 (by decide) kX4_readCommand_3 rfl 51 rfl ?_
      refine zk_if_ne dX4_readCommand_51 59 (by decide) 54 rfl (fun _ => ?_) (fun _ => ?_)
      · refine zk_aload_n dX4_readCommand_54 0 rfl 55 rfl ?_
        refine zk_callV (ci := 4) (st := []) (c_X4_failAtToken E l a ((v_text.1, v_text.2.1, r13.1, r13.2.1, r13.2.2), v_numbers, v_failureParts, v_everFailed, v_failed, r30, r41, v_commandsDone)) dX4_readCommand_55 0 gX4_readCommand_X4_failAtToken rfl rfl rfl cd_X4_failAtToken ⟨Nat.le_of_ble_eq_true rfl, Nat.le_of_ble_eq_true rfl⟩ ⟨Nat.zero_le _, Nat.zero_le _⟩ _ (fun r55 => (gX4 E a ((v_text.1, v_text.2.1, r13.1, r13.2.1, r13.2.2), v_numbers, r55.2.1, r55.2.2.1, r55.2.2.2, r30, r41, v_commandsDone))) zk_pa (fun r55 => zk_qa) rfl rfl rfl rfl (Nat.le_of_ble_eq_true rfl) (fun r55 => [.int r55.1]) (fun _ => rfl) 58 rfl (fun r55 => ?_)
        exact zk_zret hQ dX4_readCommand_58 rfl rfl
      · refine zk_aload_n dX4_readCommand_59 0 rfl 60 rfl ?_
        refine zk_get dX4_readCommand_60 0 rfl rfl kX4_readCommand_inX4 5 (by decide) kX4_readCommand_3 rfl 63 rfl ?_
        refine zk_callS (st := []) (c_X4_numbersOf E l r30) dX4_readCommand_63 1 gX4_readCommand_X4_numbersOf rfl rfl rfl cd_X4_numbersOf ⟨Nat.le_of_ble_eq_true rfl, Nat.le_of_ble_eq_true rfl⟩ ⟨Nat.zero_le _, Nat.zero_le _⟩ _ (fun r63 => (gX4 E a ((v_text.1, v_text.2.1, r13.1, r13.2.1, r13.2.2), v_numbers, v_failureParts, v_everFailed, v_failed, r30, r41, v_commandsDone))) zk_pn (fun r63 => (List.Perm.refl _)) rfl rfl (Nat.le_of_ble_eq_true rfl) (fun r63 => [.int r63]) (fun _ => rfl) 66 rfl (fun r63 => ?_)
        refine zk_istore_n [(1, .int r63), (0, .ref a.1)] dX4_readCommand_66 (by decide) rfl 67 rfl ?_
        refine zk_iconst 0 dX4_readCommand_67 (by decide) 68 rfl ?_
        refine zk_istore_n [(2, .int 0), (1, .int r63), (0, .ref a.1)] dX4_readCommand_68 (by decide) rfl 69 rfl ?_
        refine zk_lv [2, 1, 0] rfl ?_
        exact J69   r63 v_failureParts v_everFailed v_failed r30 r41 zk_N 0 (v_text.1, v_text.2.1, r13.1, r13.2.1, r13.2.2) v_numbers
    · refine zk_iconst 0 dX4_readCommand_26 (by decide) 27 rfl ?_
      exact zk_zretL hQ dX4_readCommand_27 (Or.inl rfl) rfl rfl
  · refine zk_iconst 0 dX4_readCommand_7 (by decide) 8 rfl ?_
    exact zk_zretL hQ dX4_readCommand_8 (Or.inl rfl) rfl rfl
