def f_X9_count (x1 : Int32) (v_state : VX6) (v_history : VX2) (v_program : VX4) : Option (Int32) := if x1 < 0 then some (-1) else if x1 ≤ 16 then if x1 = 11 then (f_X6_snapshotsTaken v_state.2.2).bind fun r44 => some r44 else if x1 = 12 then (f_X2_size v_history.2.2).bind fun r52 => some r52 else if x1 = 13 then (f_X7_length v_program.1.2.1).bind fun r63 => some r63 else (f_X8_figure x1 v_state.1.1 v_state.1.2.2.1 v_state.1.2.2.2.1 v_state.1.2.2.2.2.1 v_state.1.2.2.2.2.2.1 v_state.1.2.2.2.2.2.2.1 v_state.1.2.2.2.2.2.2.2.1 v_state.1.2.2.2.2.2.2.2.2.1 v_state.1.2.2.2.2.2.2.2.2.2.1 v_state.1.2.2.2.2.2.2.2.2.2.2.1 v_state.1.2.2.2.2.2.2.2.2.2.2.2.1 v_state.1.2.2.2.2.2.2.2.2.2.2.2.2).bind fun r75 => some r75 else some (-1)
theorem kX9_count_inX9 : ∀ w ∈ u_ws RX9 TX9 4, w ∈ wsX9_count := by decide +kernel
theorem kX9_count_1 : Cond.fieldLink RX9 12 (TX9 0).1 (TX9 0).2.1 (TX9 0).2.2.1 ∈ wsX9_count := by decide +kernel
theorem kX9_count_2 : Cond.fieldLink RX9 19 (TX9 1).1 (TX9 1).2.1 (TX9 1).2.2.1 ∈ wsX9_count := by decide +kernel
theorem kX9_count_3 : Cond.fieldLink RX9 26 (TX9 2).1 (TX9 2).2.1 (TX9 2).2.2.1 ∈ wsX9_count := by decide +kernel
theorem kX9_count_inX4 : ∀ w ∈ u_ws RX4 TX4 8, w ∈ wsX9_count := by decide +kernel
theorem kX9_count_inX6 : ∀ w ∈ u_ws RX6 TX6 3, w ∈ wsX9_count := by decide +kernel
theorem cd_X9_count : yX9_count.cls = RX9 ∧ yX9_count.cls ≠ "java/lang/invoke/MethodHandle" ∧ yX9_count.cls ≠ "java/lang/invoke/VarHandle" ∧ (parseMethodDescriptor yX9_count.desc).map (fun d => d.parameters.length) = some 1 := by decide +kernel
set_option maxRecDepth 100000 in
set_option maxHeartbeats 4000000 in
theorem c_X9_count (E : zk_Env) (l : Launch) (a : aX9) (v : VX9) (x1 : Int32) : zk_Mc E l yX9_count wsX9_count ({ frames := 4, cells := 0, slots := 0, locals := 88 } : Room) [.ref a.1, .int x1] (gX9 E a v) (f_X9_count x1 v.1 v.2.1 v.2.2.1) (fun r => some (.int r)) (fun r => (gX9 E a v)) := by
  obtain ⟨v_state, v_history, v_program, v_forecast⟩ := v
  refine zk_M (cc := cX9_count) (nL := 2) (ret := (some .int)) (by decide) rfl (Nat.le_of_ble_eq_true rfl) (fun X Q hQ => ?_)
  refine zk_eqv (w1 := (gX9 E a (v_state, v_history, v_program, v_forecast))) (lv1 := [(0, .ref a.1), (1, .int x1)]) (st1 := []) (o1 := f_X9_count x1 v_state v_history v_program) rfl rfl rfl rfl ?_
  unfold f_X9_count
  refine zk_iload_n dX9_count_0 1 rfl 1 rfl ?_
  refine zk_if_lt dX9_count_1 10 (by decide) 4 rfl (fun _ => ?_) (fun _ => ?_)
  · refine zk_iconst (-1) dX9_count_10 (by decide) 11 rfl ?_
    exact zk_iret hQ dX9_count_11 rfl rfl
  · refine zk_iload_n dX9_count_4 1 rfl 5 rfl ?_
    refine zk_bipush 16 dX9_count_5 (by decide) 7 rfl ?_
    refine zk_icmp_le dX9_count_7 12 (by decide) 10 rfl (fun _ => ?_) (fun _ => ?_)
    · refine zk_iload_n dX9_count_12 1 rfl 13 rfl ?_
      refine zk_if (c := x1 = 11) (fun h13_0 => ?_) (fun h13_0 => ?_)
      · refine zk_tableIn (off := 27) dX9_count_13 40 (by rw [h13_0]; decide) (by rw [h13_0]; decide) (by rw [h13_0]; rfl) (by decide) ?_
        refine zk_aload_n dX9_count_40 0 rfl 41 rfl ?_
        refine zk_get dX9_count_41 0 rfl rfl kX9_count_inX9 0 (by decide) kX9_count_1 rfl 44 rfl ?_
        refine zk_callV (ci := 6) (st := []) (c_X6_snapshotsTaken E l a.2.1 v_state) dX9_count_44 0 gX9_count_X6_snapshotsTaken rfl rfl rfl cd_X6_snapshotsTaken ⟨Nat.le_of_ble_eq_true rfl, Nat.le_of_ble_eq_true rfl⟩ ⟨Nat.zero_le _, Nat.zero_le _⟩ _ (fun r44 => (gX9 E a (v_state, v_history, v_program, v_forecast))) (zk_pc zk_pa (zk_p1 (gs := (lX9 E a (v_state, v_history, v_program, v_forecast))) (i := 1) rfl)) (fun r44 => (zk_qc zk_qa (zk_q1 (gs := (lX9 E a (v_state, v_history, v_program, v_forecast))) (i := 1) (w1 := gX9 E a (v_state, v_history, v_program, v_forecast)) rfl rfl))) rfl rfl rfl rfl (Nat.le_of_ble_eq_true rfl) (fun r44 => [.int r44]) (fun _ => rfl) 47 rfl (fun r44 => ?_)
        exact zk_iret hQ dX9_count_47 rfl rfl
      refine zk_if (c := x1 = 12) (fun h13_1 => ?_) (fun h13_1 => ?_)
      · refine zk_tableIn (off := 35) dX9_count_13 48 (by rw [h13_1]; decide) (by rw [h13_1]; decide) (by rw [h13_1]; rfl) (by decide) ?_
        refine zk_aload_n dX9_count_48 0 rfl 49 rfl ?_
        refine zk_get dX9_count_49 0 rfl rfl kX9_count_inX9 1 (by decide) kX9_count_2 rfl 52 rfl ?_
        refine zk_callV (ci := 2) (st := []) (c_X2_size E l a.2.2.1 v_history) dX9_count_52 0 gX9_count_X2_size rfl rfl rfl cd_X2_size ⟨Nat.le_of_ble_eq_true rfl, Nat.le_of_ble_eq_true rfl⟩ ⟨Nat.zero_le _, Nat.zero_le _⟩ _ (fun r52 => (gX9 E a (v_state, v_history, v_program, v_forecast))) (zk_pc zk_pa (zk_p1 (gs := (lX9 E a (v_state, v_history, v_program, v_forecast))) (i := 4) rfl)) (fun r52 => (zk_qc zk_qa (zk_q1 (gs := (lX9 E a (v_state, v_history, v_program, v_forecast))) (i := 4) (w1 := gX9 E a (v_state, v_history, v_program, v_forecast)) rfl rfl))) rfl rfl rfl rfl (Nat.le_of_ble_eq_true rfl) (fun r52 => [.int r52]) (fun _ => rfl) 55 rfl (fun r52 => ?_)
        exact zk_iret hQ dX9_count_55 rfl rfl
      refine zk_if (c := x1 = 13) (fun h13_2 => ?_) (fun h13_2 => ?_)
      · refine zk_tableIn (off := 43) dX9_count_13 56 (by rw [h13_2]; decide) (by rw [h13_2]; decide) (by rw [h13_2]; rfl) (by decide) ?_
        refine zk_aload_n dX9_count_56 0 rfl 57 rfl ?_
        refine zk_get dX9_count_57 0 rfl rfl kX9_count_inX9 2 (by decide) kX9_count_3 rfl 60 rfl ?_
        refine zk_getN dX9_count_60 37 rfl rfl kX9_count_inX4 0 (by decide) (by decide +kernel) rfl 63 rfl ?_
        refine zk_callV (ci := 7) (st := []) (c_X7_length E l a.2.2.2.1.2.1 v_program.1) dX9_count_63 0 gX9_count_X7_length rfl rfl rfl cd_X7_length ⟨Nat.le_of_ble_eq_true rfl, Nat.le_of_ble_eq_true rfl⟩ ⟨Nat.zero_le _, Nat.zero_le _⟩ _ (fun r63 => (gX9 E a (v_state, v_history, v_program, v_forecast))) (zk_pc (zk_pc zk_pa (zk_p1 (gs := (lX9 E a (v_state, v_history, v_program, v_forecast))) (i := 2) rfl)) (zk_p1 (gs := (lX4 E a.2.2.2.1 v_program)) (i := 1) rfl)) (fun r63 => (zk_qc (zk_qc zk_qa (zk_q1 (gs := (lX9 E a (v_state, v_history, v_program, v_forecast))) (i := 2) (w1 := gX9 E a (v_state, v_history, v_program, v_forecast)) rfl rfl)) (zk_q1 (gs := (lX4 E a.2.2.2.1 v_program)) (i := 1) (w1 := gX4 E a.2.2.2.1 v_program) rfl rfl))) rfl rfl rfl rfl (Nat.le_of_ble_eq_true rfl) (fun r63 => [.int r63]) (fun _ => rfl) 66 rfl (fun r63 => ?_)
        exact zk_iret hQ dX9_count_66 rfl rfl
      refine zk_tableOut dX9_count_13 67 (by have e0 : x1.toInt ≠ 11 := fun z => h13_0 (Int32.toInt_inj.mp z); have e1 : x1.toInt ≠ 12 := fun z => h13_1 (Int32.toInt_inj.mp z); have e2 : x1.toInt ≠ 13 := fun z => h13_2 (Int32.toInt_inj.mp z); omega) (by decide) ?_
      refine zk_aload_n dX9_count_67 0 rfl 68 rfl ?_
      refine zk_get dX9_count_68 0 rfl rfl kX9_count_inX9 0 (by decide) kX9_count_1 rfl 71 rfl ?_
      refine zk_getN dX9_count_71 1 rfl rfl kX9_count_inX6 0 (by decide) (by decide +kernel) rfl 74 rfl ?_
      refine zk_iload_n dX9_count_74 1 rfl 75 rfl ?_
      refine zk_callV (ci := 8) (st := []) (c_X8_figure E l a.2.1.2.1 v_state.1 x1) dX9_count_75 1 gX9_count_X8_figure rfl rfl rfl cd_X8_figure ⟨Nat.le_of_ble_eq_true rfl, Nat.le_of_ble_eq_true rfl⟩ ⟨Nat.zero_le _, Nat.zero_le _⟩ _ (fun r75 => (gX9 E a (v_state, v_history, v_program, v_forecast))) (zk_pc (zk_pc zk_pa (zk_p1 (gs := (lX9 E a (v_state, v_history, v_program, v_forecast))) (i := 1) rfl)) (zk_p1 (gs := (lX6 E a.2.1 v_state)) (i := 1) rfl)) (fun r75 => (zk_qc (zk_qc zk_qa (zk_q1 (gs := (lX9 E a (v_state, v_history, v_program, v_forecast))) (i := 1) (w1 := gX9 E a (v_state, v_history, v_program, v_forecast)) rfl rfl)) (zk_q1 (gs := (lX6 E a.2.1 v_state)) (i := 1) (w1 := gX6 E a.2.1 v_state) rfl rfl))) rfl rfl rfl rfl (Nat.le_of_ble_eq_true rfl) (fun r75 => [.int r75]) (fun _ => rfl) 78 rfl (fun r75 => ?_)
      exact zk_iret hQ dX9_count_78 rfl rfl
    · refine zk_iconst (-1) dX9_count_10 (by decide) 11 rfl ?_
      exact zk_iret hQ dX9_count_11 rfl rfl
def f_X9_promise (x1 : Int32) (x2 : Int32) (v_state : VX6) : Option (Int32) := (f_X5_has x1 v_state.1.1.2).bind fun r11 => if r11 = 0 then some (-1) else if x2 < 0 then some (-1) else if x2 ≤ 8 then (f_X8_tellPromise x1 x2 v_state.1.1 v_state.1.2.1).bind fun r38 => some r38 else some (-1)
theorem kX9_promise_inX9 : ∀ w ∈ u_ws RX9 TX9 4, w ∈ wsX9_promise := by decide +kernel
theorem kX9_promise_1 : Cond.fieldLink RX9 12 (TX9 0).1 (TX9 0).2.1 (TX9 0).2.2.1 ∈ wsX9_promise := by decide +kernel
theorem kX9_promise_inX6 : ∀ w ∈ u_ws RX6 TX6 3, w ∈ wsX9_promise := by decide +kernel
theorem kX9_promise_inX8 : ∀ w ∈ u_ws RX8 TX8 13, w ∈ wsX9_promise := by decide +kernel
theorem cd_X9_promise : yX9_promise.cls = RX9 ∧ yX9_promise.cls ≠ "java/lang/invoke/MethodHandle" ∧ yX9_promise.cls ≠ "java/lang/invoke/VarHandle" ∧ (parseMethodDescriptor yX9_promise.desc).map (fun d => d.parameters.length) = some 2 := by decide +kernel
set_option maxRecDepth 100000 in
set_option maxHeartbeats 4000000 in
theorem c_X9_promise (E : zk_Env) (l : Launch) (a : aX9) (v : VX9) (x1 : Int32) (x2 : Int32) : zk_Mc E l yX9_promise wsX9_promise ({ frames := 3, cells := 0, slots := 0, locals := 70 } : Room) [.ref a.1, .int x1, .int x2] (gX9 E a v) (f_X9_promise x1 x2 v.1) (fun r => some (.int r)) (fun r => (gX9 E a v)) := by
  obtain ⟨v_state, v_history, v_program, v_forecast⟩ := v
  refine zk_M (cc := cX9_promise) (nL := 3) (ret := (some .int)) (by decide) rfl (Nat.le_of_ble_eq_true rfl) (fun X Q hQ => ?_)
  refine zk_eqv (w1 := (gX9 E a (v_state, v_history, v_program, v_forecast))) (lv1 := [(0, .ref a.1), (1, .int x1), (2, .int x2)]) (st1 := []) (o1 := f_X9_promise x1 x2 v_state) rfl rfl rfl rfl ?_
  unfold f_X9_promise
  refine zk_aload_n dX9_promise_0 0 rfl 1 rfl ?_
  refine zk_get dX9_promise_1 0 rfl rfl kX9_promise_inX9 0 (by decide) kX9_promise_1 rfl 4 rfl ?_
  refine zk_getN dX9_promise_4 1 rfl rfl kX9_promise_inX6 0 (by decide) (by decide +kernel) rfl 7 rfl ?_
  refine zk_getN dX9_promise_7 4 rfl rfl kX9_promise_inX8 0 (by decide) (by decide +kernel) rfl 10 rfl ?_
  refine zk_iload_n dX9_promise_10 1 rfl 11 rfl ?_
  refine zk_callV (ci := 5) (st := []) (c_X5_has E l a.2.1.2.1.2.1 v_state.1.1 x1) dX9_promise_11 1 gX9_promise_X5_has rfl rfl rfl cd_X5_has ⟨Nat.le_of_ble_eq_true rfl, Nat.le_of_ble_eq_true rfl⟩ ⟨Nat.zero_le _, Nat.zero_le _⟩ _ (fun r11 => (gX9 E a (v_state, v_history, v_program, v_forecast))) (zk_pc (zk_pc (zk_pc zk_pa (zk_p1 (gs := (lX9 E a (v_state, v_history, v_program, v_forecast))) (i := 1) rfl)) (zk_p1 (gs := (lX6 E a.2.1 v_state)) (i := 1) rfl)) (zk_p1 (gs := (lX8 E a.2.1.2.1 v_state.1)) (i := 1) rfl)) (fun r11 => (zk_qc (zk_qc (zk_qc zk_qa (zk_q1 (gs := (lX9 E a (v_state, v_history, v_program, v_forecast))) (i := 1) (w1 := gX9 E a (v_state, v_history, v_program, v_forecast)) rfl rfl)) (zk_q1 (gs := (lX6 E a.2.1 v_state)) (i := 1) (w1 := gX6 E a.2.1 v_state) rfl rfl)) (zk_q1 (gs := (lX8 E a.2.1.2.1 v_state.1)) (i := 1) (w1 := gX8 E a.2.1.2.1 v_state.1) rfl rfl))) rfl rfl rfl rfl (Nat.le_of_ble_eq_true rfl) (fun r11 => [.int r11]) (fun _ => rfl) 14 rfl (fun r11 => ?_)
  refine zk_if_eq dX9_promise_14 27 (by decide) 17 rfl (fun _ => ?_) (fun _ => ?_)
  · refine zk_iconst (-1) dX9_promise_27 (by decide) 28 rfl ?_
    exact zk_iret hQ dX9_promise_28 rfl rfl
  · refine zk_iload_n dX9_promise_17 2 rfl 18 rfl ?_
    refine zk_if_lt dX9_promise_18 27 (by decide) 21 rfl (fun _ => ?_) (fun _ => ?_)
    · refine zk_iconst (-1) dX9_promise_27 (by decide) 28 rfl ?_
      exact zk_iret hQ dX9_promise_28 rfl rfl
    · refine zk_iload_n dX9_promise_21 2 rfl 22 rfl ?_
      refine zk_bipush 8 dX9_promise_22 (by decide) 24 rfl ?_
      refine zk_icmp_le dX9_promise_24 29 (by decide) 27 rfl (fun _ => ?_) (fun _ => ?_)
      · refine zk_aload_n dX9_promise_29 0 rfl 30 rfl ?_
        refine zk_get dX9_promise_30 0 rfl rfl kX9_promise_inX9 0 (by decide) kX9_promise_1 rfl 33 rfl ?_
        refine zk_getN dX9_promise_33 1 rfl rfl kX9_promise_inX6 0 (by decide) (by decide +kernel) rfl 36 rfl ?_
        refine zk_iload_n dX9_promise_36 1 rfl 37 rfl ?_
        refine zk_iload_n dX9_promise_37 2 rfl 38 rfl ?_
        refine zk_callV (ci := 8) (st := []) (c_X8_tellPromise E l a.2.1.2.1 v_state.1 x1 x2) dX9_promise_38 2 gX9_promise_X8_tellPromise rfl rfl rfl cd_X8_tellPromise ⟨Nat.le_of_ble_eq_true rfl, Nat.le_of_ble_eq_true rfl⟩ ⟨Nat.zero_le _, Nat.zero_le _⟩ _ (fun r38 => (gX9 E a (v_state, v_history, v_program, v_forecast))) (zk_pc (zk_pc zk_pa (zk_p1 (gs := (lX9 E a (v_state, v_history, v_program, v_forecast))) (i := 1) rfl)) (zk_p1 (gs := (lX6 E a.2.1 v_state)) (i := 1) rfl)) (fun r38 => (zk_qc (zk_qc zk_qa (zk_q1 (gs := (lX9 E a (v_state, v_history, v_program, v_forecast))) (i := 1) (w1 := gX9 E a (v_state, v_history, v_program, v_forecast)) rfl rfl)) (zk_q1 (gs := (lX6 E a.2.1 v_state)) (i := 1) (w1 := gX6 E a.2.1 v_state) rfl rfl))) rfl rfl rfl rfl (Nat.le_of_ble_eq_true rfl) (fun r38 => [.int r38]) (fun _ => rfl) 41 rfl (fun r38 => ?_)
        exact zk_iret hQ dX9_promise_41 rfl rfl
      · refine zk_iconst (-1) dX9_promise_27 (by decide) 28 rfl ?_
        exact zk_iret hQ dX9_promise_28 rfl rfl
def f_X9_call (x1 : Int32) (x2 : Int32) (v_state : VX6) : Option (Int32) := if x1 < 0 then some (-1) else if 12 ≤ x1 then some (-1) else if x2 < 0 then some (-1) else if x2 < 3 then (f_X0_read x1 x2 v_state.1.2.2.1.1 v_state.1.2.2.1.2).bind fun r33 => some r33 else some (-1)
theorem kX9_call_inX9 : ∀ w ∈ u_ws RX9 TX9 4, w ∈ wsX9_call := by decide +kernel
theorem kX9_call_1 : Cond.fieldLink RX9 12 (TX9 0).1 (TX9 0).2.1 (TX9 0).2.2.1 ∈ wsX9_call := by decide +kernel
theorem kX9_call_inX6 : ∀ w ∈ u_ws RX6 TX6 3, w ∈ wsX9_call := by decide +kernel
theorem kX9_call_inX8 : ∀ w ∈ u_ws RX8 TX8 13, w ∈ wsX9_call := by decide +kernel
theorem cd_X9_call : yX9_call.cls = RX9 ∧ yX9_call.cls ≠ "java/lang/invoke/MethodHandle" ∧ yX9_call.cls ≠ "java/lang/invoke/VarHandle" ∧ (parseMethodDescriptor yX9_call.desc).map (fun d => d.parameters.length) = some 2 := by decide +kernel
set_option maxRecDepth 100000 in
set_option maxHeartbeats 4000000 in
theorem c_X9_call (E : zk_Env) (l : Launch) (a : aX9) (v : VX9) (x1 : Int32) (x2 : Int32) : zk_Mc E l yX9_call wsX9_call ({ frames := 2, cells := 0, slots := 0, locals := 44 } : Room) [.ref a.1, .int x1, .int x2] (gX9 E a v) (f_X9_call x1 x2 v.1) (fun r => some (.int r)) (fun r => (gX9 E a v)) := by
  obtain ⟨v_state, v_history, v_program, v_forecast⟩ := v
  refine zk_M (cc := cX9_call) (nL := 3) (ret := (some .int)) (by decide) rfl (Nat.le_of_ble_eq_true rfl) (fun X Q hQ => ?_)
  refine zk_eqv (w1 := (gX9 E a (v_state, v_history, v_program, v_forecast))) (lv1 := [(0, .ref a.1), (1, .int x1), (2, .int x2)]) (st1 := []) (o1 := f_X9_call x1 x2 v_state) rfl rfl rfl rfl ?_
  unfold f_X9_call
  refine zk_iload_n dX9_call_0 1 rfl 1 rfl ?_
  refine zk_if_lt dX9_call_1 19 (by decide) 4 rfl (fun _ => ?_) (fun _ => ?_)
  · refine zk_iconst (-1) dX9_call_19 (by decide) 20 rfl ?_
    exact zk_iret hQ dX9_call_20 rfl rfl
  · refine zk_iload_n dX9_call_4 1 rfl 5 rfl ?_
    refine zk_bipush 12 dX9_call_5 (by decide) 7 rfl ?_
    refine zk_icmp_ge dX9_call_7 19 (by decide) 10 rfl (fun _ => ?_) (fun _ => ?_)
    · refine zk_iconst (-1) dX9_call_19 (by decide) 20 rfl ?_
      exact zk_iret hQ dX9_call_20 rfl rfl
    · refine zk_iload_n dX9_call_10 2 rfl 11 rfl ?_
      refine zk_if_lt dX9_call_11 19 (by decide) 14 rfl (fun _ => ?_) (fun _ => ?_)
      · refine zk_iconst (-1) dX9_call_19 (by decide) 20 rfl ?_
        exact zk_iret hQ dX9_call_20 rfl rfl
      · refine zk_iload_n dX9_call_14 2 rfl 15 rfl ?_
        refine zk_iconst 3 dX9_call_15 (by decide) 16 rfl ?_
        refine zk_icmp_lt dX9_call_16 21 (by decide) 19 rfl (fun _ => ?_) (fun _ => ?_)
        · refine zk_aload_n dX9_call_21 0 rfl 22 rfl ?_
          refine zk_get dX9_call_22 0 rfl rfl kX9_call_inX9 0 (by decide) kX9_call_1 rfl 25 rfl ?_
          refine zk_getN dX9_call_25 1 rfl rfl kX9_call_inX6 0 (by decide) (by decide +kernel) rfl 28 rfl ?_
          refine zk_getN dX9_call_28 4 rfl rfl kX9_call_inX8 2 (by decide) (by decide +kernel) rfl 31 rfl ?_
          refine zk_iload_n dX9_call_31 1 rfl 32 rfl ?_
          refine zk_iload_n dX9_call_32 2 rfl 33 rfl ?_
          refine zk_callV (ci := 0) (st := []) (c_X0_read E l a.2.1.2.1.2.2.2 v_state.1.2.2.1 x1 x2) dX9_call_33 2 gX9_call_X0_read rfl rfl rfl cd_X0_read ⟨Nat.le_of_ble_eq_true rfl, Nat.le_of_ble_eq_true rfl⟩ ⟨Nat.zero_le _, Nat.zero_le _⟩ _ (fun r33 => (gX9 E a (v_state, v_history, v_program, v_forecast))) (zk_pc (zk_pc (zk_pc zk_pa (zk_p1 (gs := (lX9 E a (v_state, v_history, v_program, v_forecast))) (i := 1) rfl)) (zk_p1 (gs := (lX6 E a.2.1 v_state)) (i := 1) rfl)) (zk_p1 (gs := (lX8 E a.2.1.2.1 v_state.1)) (i := 3) rfl)) (fun r33 => (zk_qc (zk_qc (zk_qc zk_qa (zk_q1 (gs := (lX9 E a (v_state, v_history, v_program, v_forecast))) (i := 1) (w1 := gX9 E a (v_state, v_history, v_program, v_forecast)) rfl rfl)) (zk_q1 (gs := (lX6 E a.2.1 v_state)) (i := 1) (w1 := gX6 E a.2.1 v_state) rfl rfl)) (zk_q1 (gs := (lX8 E a.2.1.2.1 v_state.1)) (i := 3) (w1 := gX8 E a.2.1.2.1 v_state.1) rfl rfl))) rfl rfl rfl rfl (Nat.le_of_ble_eq_true rfl) (fun r33 => [.int r33]) (fun _ => rfl) 36 rfl (fun r33 => ?_)
          exact zk_iret hQ dX9_call_36 rfl rfl
        · refine zk_iconst (-1) dX9_call_19 (by decide) 20 rfl ?_
          exact zk_iret hQ dX9_call_20 rfl rfl
def f_X9_recorded (x1 : Int32) (v_history : VX2) : Option (Int32 × VX2) := if x1 < 0 then some (x1, v_history) else (f_X2_keepNoted v_history.2.1 v_history.2.2).bind fun r8 => some (x1, (v_history.1, r8.1, r8.2))
theorem kX9_recorded_inX9 : ∀ w ∈ u_ws RX9 TX9 4, w ∈ wsX9_recorded := by decide +kernel
theorem kX9_recorded_1 : Cond.fieldLink RX9 19 (TX9 1).1 (TX9 1).2.1 (TX9 1).2.2.1 ∈ wsX9_recorded := by decide +kernel
theorem cd_X9_recorded : yX9_recorded.cls = RX9 ∧ yX9_recorded.cls ≠ "java/lang/invoke/MethodHandle" ∧ yX9_recorded.cls ≠ "java/lang/invoke/VarHandle" ∧ (parseMethodDescriptor yX9_recorded.desc).map (fun d => d.parameters.length) = some 1 := by decide +kernel
set_option maxRecDepth 100000 in
set_option maxHeartbeats 4000000 in
theorem c_X9_recorded (E : zk_Env) (l : Launch) (a : aX9) (v : VX9) (x1 : Int32) : zk_Mc E l yX9_recorded wsX9_recorded ({ frames := 2, cells := 0, slots := 0, locals := 34 } : Room) [.ref a.1, .int x1] (gX9 E a v) (f_X9_recorded x1 v.2.1) (fun r => some (.int r.1)) (fun r => (gX9 E a (v.1, r.2, v.2.2))) := by
  obtain ⟨v_state, v_history, v_program, v_forecast⟩ := v
  refine zk_M (cc := cX9_recorded) (nL := 2) (ret := (some .int)) (by decide) rfl (Nat.le_of_ble_eq_true rfl) (fun X Q hQ => ?_)
  refine zk_eqv (w1 := (gX9 E a (v_state, v_history, v_program, v_forecast))) (lv1 := [(0, .ref a.1), (1, .int x1)]) (st1 := []) (o1 := f_X9_recorded x1 v_history) rfl rfl rfl rfl ?_
  unfold f_X9_recorded
  refine zk_iload_n dX9_recorded_0 1 rfl 1 rfl ?_
  refine zk_if_lt dX9_recorded_1 11 (by decide) 4 rfl (fun _ => ?_) (fun _ => ?_)
  · refine zk_iload_n dX9_recorded_11 1 rfl 12 rfl ?_
    exact zk_iret hQ dX9_recorded_12 rfl rfl
  · refine zk_aload_n dX9_recorded_4 0 rfl 5 rfl ?_
    refine zk_get dX9_recorded_5 0 rfl rfl kX9_recorded_inX9 1 (by decide) kX9_recorded_1 rfl 8 rfl ?_
    refine zk_callV (ci := 2) (st := []) (c_X2_keepNoted E l a.2.2.1 v_history) dX9_recorded_8 0 gX9_recorded_X2_keepNoted rfl rfl rfl cd_X2_keepNoted ⟨Nat.le_of_ble_eq_true rfl, Nat.le_of_ble_eq_true rfl⟩ ⟨Nat.zero_le _, Nat.zero_le _⟩ _ (fun r8 => (gX9 E a (v_state, (v_history.1, r8.1, r8.2), v_program, v_forecast))) (zk_pc zk_pa (zk_p1 (gs := (lX9 E a (v_state, v_history, v_program, v_forecast))) (i := 4) rfl)) (fun r8 => (zk_qc zk_qa (zk_q1 (gs := (lX9 E a (v_state, v_history, v_program, v_forecast))) (i := 4) (w1 := gX9 E a (v_state, (v_history.1, r8.1, r8.2), v_program, v_forecast)) rfl rfl))) rfl rfl rfl rfl (Nat.le_of_ble_eq_true rfl) (fun r8 => []) (fun _ => rfl) 11 rfl (fun r8 => ?_)
    refine zk_iload_n dX9_recorded_11 1 rfl 12 rfl ?_
    exact zk_iret hQ dX9_recorded_12 rfl rfl
def f_X9_next_43 (x2 : Int32) (v_state : VX6) (s43_0 : Int32) : Option (Int32) := if s43_0 = (-1) then some (-9) else if x2 = 0 then some s43_0 else (f_X5_fact s43_0 1 v_state.1.1.1).bind fun r70 => some r70
def f_X9_next (x1 : Int32) (x2 : Int32) (v_state : VX6) : Option (Int32) := if x1 < 0 then some (-1) else if 1 < x1 then some (-1) else if x2 < 0 then some (-1) else if x2 ≤ 1 then if x1 = 0 then (f_X8_earliestOfAll v_state.1.1).bind fun r33 => f_X9_next_43 x2 v_state r33 else (f_X8_earliestByRings v_state.1.1 v_state.1.2.1 v_state.1.2.2.2.1).bind fun r40 => f_X9_next_43 x2 v_state r40 else some (-1)
theorem kX9_next_inX9 : ∀ w ∈ u_ws RX9 TX9 4, w ∈ wsX9_next := by decide +kernel
theorem kX9_next_1 : Cond.fieldLink RX9 12 (TX9 0).1 (TX9 0).2.1 (TX9 0).2.2.1 ∈ wsX9_next := by decide +kernel
theorem kX9_next_inX6 : ∀ w ∈ u_ws RX6 TX6 3, w ∈ wsX9_next := by decide +kernel
theorem kX9_next_inX8 : ∀ w ∈ u_ws RX8 TX8 13, w ∈ wsX9_next := by decide +kernel
theorem cd_X9_next : yX9_next.cls = RX9 ∧ yX9_next.cls ≠ "java/lang/invoke/MethodHandle" ∧ yX9_next.cls ≠ "java/lang/invoke/VarHandle" ∧ (parseMethodDescriptor yX9_next.desc).map (fun d => d.parameters.length) = some 2 := by decide +kernel
set_option maxRecDepth 100000 in
set_option maxHeartbeats 4000000 in
theorem c_X9_next (E : zk_Env) (l : Launch) (a : aX9) (v : VX9) (x1 : Int32) (x2 : Int32) : zk_Mc E l yX9_next wsX9_next ({ frames := 5, cells := 0, slots := 0, locals := 117 } : Room) [.ref a.1, .int x1, .int x2] (gX9 E a v) (f_X9_next x1 x2 v.1) (fun r => some (.int r)) (fun r => (gX9 E a v)) := by
  obtain ⟨v_state, v_history, v_program, v_forecast⟩ := v
  refine zk_M (cc := cX9_next) (nL := 5) (ret := (some .int)) (by decide) rfl (Nat.le_of_ble_eq_true rfl) (fun X Q hQ => ?_)
  have J43 : ∀ (s43_0 : Int32), zk_G E l X cX9_next 5 (some .int) yX9_next.cls wsX9_next ({ frames := 5, cells := 0, slots := 0, locals := 117 } : Room) 0 0 Q (gX9 E a (v_state, v_history, v_program, v_forecast)) [(2, .int x2), (3, .ref a.2.1.2.1.1)] 43 [.int s43_0] (f_X9_next_43 x2 v_state s43_0) := by
    intro s43_0
    unfold f_X9_next_43
    refine zk_istore [(4, .int s43_0), (2, .int x2), (3, .ref a.2.1.2.1.1)] dX9_next_43 (by decide) rfl 45 rfl ?_
    refine zk_iload dX9_next_45 0 rfl 47 rfl ?_
    refine zk_iconst (-1) dX9_next_47 (by decide) 48 rfl ?_
    refine zk_icmp_ne dX9_next_48 54 (by decide) 51 rfl (fun _ => ?_) (fun _ => ?_)
    · refine zk_bipush (-9) dX9_next_51 (by decide) 53 rfl ?_
      exact zk_iret hQ dX9_next_53 rfl rfl
    · refine zk_iload_n dX9_next_54 1 rfl 55 rfl ?_
      refine zk_if_ne dX9_next_55 63 (by decide) 58 rfl (fun _ => ?_) (fun _ => ?_)
      · refine zk_iload dX9_next_58 0 rfl 60 rfl ?_
        refine zk_goto dX9_next_60 73 (by decide) ?_
        exact zk_iret hQ dX9_next_73 rfl rfl
      · refine zk_aload_n dX9_next_63 2 rfl 64 rfl ?_
        refine zk_getN dX9_next_64 4 rfl rfl kX9_next_inX8 0 (by decide) (by decide +kernel) rfl 67 rfl ?_
        refine zk_iload dX9_next_67 0 rfl 69 rfl ?_
        refine zk_iconst 1 dX9_next_69 (by decide) 70 rfl ?_
        refine zk_callV (ci := 5) (st := []) (c_X5_fact E l a.2.1.2.1.2.1 v_state.1.1 s43_0 1) dX9_next_70 2 gX9_next_X5_fact rfl rfl rfl cd_X5_fact ⟨Nat.le_of_ble_eq_true rfl, Nat.le_of_ble_eq_true rfl⟩ ⟨Nat.zero_le _, Nat.zero_le _⟩ _ (fun r70 => (gX9 E a (v_state, v_history, v_program, v_forecast))) (zk_pc (zk_pc (zk_pc zk_pa (zk_p1 (gs := (lX9 E a (v_state, v_history, v_program, v_forecast))) (i := 1) rfl)) (zk_p1 (gs := (lX6 E a.2.1 v_state)) (i := 1) rfl)) (zk_p1 (gs := (lX8 E a.2.1.2.1 v_state.1)) (i := 1) rfl)) (fun r70 => (zk_qc (zk_qc (zk_qc zk_qa (zk_q1 (gs := (lX9 E a (v_state, v_history, v_program, v_forecast))) (i := 1) (w1 := gX9 E a (v_state, v_history, v_program, v_forecast)) rfl rfl)) (zk_q1 (gs := (lX6 E a.2.1 v_state)) (i := 1) (w1 := gX6 E a.2.1 v_state) rfl rfl)) (zk_q1 (gs := (lX8 E a.2.1.2.1 v_state.1)) (i := 1) (w1 := gX8 E a.2.1.2.1 v_state.1) rfl rfl))) rfl rfl rfl rfl (Nat.le_of_ble_eq_true rfl) (fun r70 => [.int r70]) (fun _ => rfl) 73 rfl (fun r70 => ?_)
        exact zk_iret hQ dX9_next_73 rfl rfl
  refine zk_eqv (w1 := (gX9 E a (v_state, v_history, v_program, v_forecast))) (lv1 := [(0, .ref a.1), (1, .int x1), (2, .int x2)]) (st1 := []) (o1 := f_X9_next x1 x2 v_state) rfl rfl rfl rfl ?_
  unfold f_X9_next
  refine zk_iload_n dX9_next_0 1 rfl 1 rfl ?_
  refine zk_if_lt dX9_next_1 18 (by decide) 4 rfl (fun _ => ?_) (fun _ => ?_)
  · refine zk_iconst (-1) dX9_next_18 (by decide) 19 rfl ?_
    exact zk_iret hQ dX9_next_19 rfl rfl
  · refine zk_iload_n dX9_next_4 1 rfl 5 rfl ?_
    refine zk_iconst 1 dX9_next_5 (by decide) 6 rfl ?_
    refine zk_icmp_gt dX9_next_6 18 (by decide) 9 rfl (fun _ => ?_) (fun _ => ?_)
    · refine zk_iconst (-1) dX9_next_18 (by decide) 19 rfl ?_
      exact zk_iret hQ dX9_next_19 rfl rfl
    · refine zk_iload_n dX9_next_9 2 rfl 10 rfl ?_
      refine zk_if_lt dX9_next_10 18 (by decide) 13 rfl (fun _ => ?_) (fun _ => ?_)
      · refine zk_iconst (-1) dX9_next_18 (by decide) 19 rfl ?_
        exact zk_iret hQ dX9_next_19 rfl rfl
      · refine zk_iload_n dX9_next_13 2 rfl 14 rfl ?_
        refine zk_iconst 1 dX9_next_14 (by decide) 15 rfl ?_
        refine zk_icmp_le dX9_next_15 20 (by decide) 18 rfl (fun _ => ?_) (fun _ => ?_)
        · refine zk_aload_n dX9_next_20 0 rfl 21 rfl ?_
          refine zk_get dX9_next_21 0 rfl rfl kX9_next_inX9 0 (by decide) kX9_next_1 rfl 24 rfl ?_
          refine zk_getN dX9_next_24 1 rfl rfl kX9_next_inX6 0 (by decide) (by decide +kernel) rfl 27 rfl ?_
          refine zk_astore_n [(3, .ref a.2.1.2.1.1), (0, .ref a.1), (1, .int x1), (2, .int x2)] dX9_next_27 (by decide) rfl 28 rfl ?_
          refine zk_iload_n dX9_next_28 2 rfl 29 rfl ?_
          refine zk_if_ne dX9_next_29 39 (by decide) 32 rfl (fun _ => ?_) (fun _ => ?_)
          · refine zk_aload_n dX9_next_32 0 rfl 33 rfl ?_
            refine zk_callV (ci := 8) (st := []) (c_X8_earliestOfAll E l a.2.1.2.1 v_state.1) dX9_next_33 0 gX9_next_X8_earliestOfAll rfl rfl rfl cd_X8_earliestOfAll ⟨Nat.le_of_ble_eq_true rfl, Nat.le_of_ble_eq_true rfl⟩ ⟨Nat.zero_le _, Nat.zero_le _⟩ _ (fun r33 => (gX9 E a (v_state, v_history, v_program, v_forecast))) (zk_pc (zk_pc zk_pa (zk_p1 (gs := (lX9 E a (v_state, v_history, v_program, v_forecast))) (i := 1) rfl)) (zk_p1 (gs := (lX6 E a.2.1 v_state)) (i := 1) rfl)) (fun r33 => (zk_qc (zk_qc zk_qa (zk_q1 (gs := (lX9 E a (v_state, v_history, v_program, v_forecast))) (i := 1) (w1 := gX9 E a (v_state, v_history, v_program, v_forecast)) rfl rfl)) (zk_q1 (gs := (lX6 E a.2.1 v_state)) (i := 1) (w1 := gX6 E a.2.1 v_state) rfl rfl))) rfl rfl rfl rfl (Nat.le_of_ble_eq_true rfl) (fun r33 => [.int r33]) (fun _ => rfl) 36 rfl (fun r33 => ?_)
            refine zk_goto dX9_next_36 43 (by decide) ?_
            refine zk_lv [3, 0] rfl ?_
            exact J43   r33
          · refine zk_aload_n dX9_next_39 0 rfl 40 rfl ?_
            refine zk_callV (ci := 8) (st := []) (c_X8_earliestByRings E l a.2.1.2.1 v_state.1) dX9_next_40 0 gX9_next_X8_earliestByRings rfl rfl rfl cd_X8_earliestByRings ⟨Nat.le_of_ble_eq_true rfl, Nat.le_of_ble_eq_true rfl⟩ ⟨Nat.zero_le _, Nat.zero_le _⟩ _ (fun r40 => (gX9 E a (v_state, v_history, v_program, v_forecast))) (zk_pc (zk_pc zk_pa (zk_p1 (gs := (lX9 E a (v_state, v_history, v_program, v_forecast))) (i := 1) rfl)) (zk_p1 (gs := (lX6 E a.2.1 v_state)) (i := 1) rfl)) (fun r40 => (zk_qc (zk_qc zk_qa (zk_q1 (gs := (lX9 E a (v_state, v_history, v_program, v_forecast))) (i := 1) (w1 := gX9 E a (v_state, v_history, v_program, v_forecast)) rfl rfl)) (zk_q1 (gs := (lX6 E a.2.1 v_state)) (i := 1) (w1 := gX6 E a.2.1 v_state) rfl rfl))) rfl rfl rfl rfl (Nat.le_of_ble_eq_true rfl) (fun r40 => [.int r40]) (fun _ => rfl) 43 rfl (fun r40 => ?_)
            refine zk_lv [3, 0] rfl ?_
            exact J43   r40
        · refine zk_iconst (-1) dX9_next_18 (by decide) 19 rfl ?_
          exact zk_iret hQ dX9_next_19 rfl rfl
def f_X9_give (x1 : Int32) (x2 : Int32) (x3 : Int32) (v_state : VX6) (v_history : VX2) : Option (Int32 × VX6 × VX2) := (f_X2_note v_history.1 v_history.2.1 v_state.1 v_state.2.1 v_state.2.2).bind fun r8 => (f_X8_addPromise x1 x2 x3 v_state.1.1 v_state.1.2.1 v_state.1.2.2.2.1).bind fun r22 => (f_X9_recorded r22.1 (r8, v_history.2)).bind fun r25 => some (r25.1, ((r22.2.1, r22.2.2, v_state.1.2.2), v_state.2), r25.2)
theorem kX9_give_inX9 : ∀ w ∈ u_ws RX9 TX9 4, w ∈ wsX9_give := by decide +kernel
theorem kX9_give_1 : Cond.fieldLink RX9 19 (TX9 1).1 (TX9 1).2.1 (TX9 1).2.2.1 ∈ wsX9_give := by decide +kernel
theorem kX9_give_2 : Cond.fieldLink RX9 12 (TX9 0).1 (TX9 0).2.1 (TX9 0).2.2.1 ∈ wsX9_give := by decide +kernel
theorem kX9_give_inX6 : ∀ w ∈ u_ws RX6 TX6 3, w ∈ wsX9_give := by decide +kernel
theorem cd_X9_give : yX9_give.cls = RX9 ∧ yX9_give.cls ≠ "java/lang/invoke/MethodHandle" ∧ yX9_give.cls ≠ "java/lang/invoke/VarHandle" ∧ (parseMethodDescriptor yX9_give.desc).map (fun d => d.parameters.length) = some 3 := by decide +kernel
set_option maxRecDepth 100000 in
set_option maxHeartbeats 4000000 in
theorem c_X9_give (E : zk_Env) (l : Launch) (a : aX9) (v : VX9) (x1 : Int32) (x2 : Int32) (x3 : Int32) : zk_Mc E l yX9_give wsX9_give ({ frames := 5, cells := 0, slots := 0, locals := 106 } : Room) [.ref a.1, .int x1, .int x2, .int x3] (gX9 E a v) (f_X9_give x1 x2 x3 v.1 v.2.1) (fun r => some (.int r.1)) (fun r => (gX9 E a (r.2.1, r.2.2, v.2.2))) := by
  obtain ⟨v_state, v_history, v_program, v_forecast⟩ := v
  refine zk_M (cc := cX9_give) (nL := 4) (ret := (some .int)) (by decide) rfl (Nat.le_of_ble_eq_true rfl) (fun X Q hQ => ?_)
  refine zk_eqv (w1 := (gX9 E a (v_state, v_history, v_program, v_forecast))) (lv1 := [(0, .ref a.1), (1, .int x1), (2, .int x2), (3, .int x3)]) (st1 := []) (o1 := f_X9_give x1 x2 x3 v_state v_history) rfl rfl rfl rfl ?_
  unfold f_X9_give
  refine zk_aload_n dX9_give_0 0 rfl 1 rfl ?_
  refine zk_get dX9_give_1 0 rfl rfl kX9_give_inX9 1 (by decide) kX9_give_1 rfl 4 rfl ?_
  refine zk_aload_n dX9_give_4 0 rfl 5 rfl ?_
  refine zk_get dX9_give_5 0 rfl rfl kX9_give_inX9 0 (by decide) kX9_give_2 rfl 8 rfl ?_
  refine zk_callV (ci := 2) (st := []) (c_X2_note E l a.2.2.1 v_history a.2.1 v_state) dX9_give_8 1 gX9_give_X2_note rfl rfl rfl cd_X2_note ⟨Nat.le_of_ble_eq_true rfl, Nat.le_of_ble_eq_true rfl⟩ ⟨Nat.zero_le _, Nat.zero_le _⟩ _ (fun r8 => (gX9 E a (v_state, (r8, v_history.2), v_program, v_forecast))) (zk_pp zk_pa (zk_pb (gs := (lX9 E a (v_state, v_history, v_program, v_forecast))) (i := 4) (j := 1) rfl rfl (by decide)) zk_pa zk_pa) (fun r8 => (zk_qq zk_qa (zk_qb (gs := (lX9 E a (v_state, v_history, v_program, v_forecast))) (i := 4) (j := 1) (g' := gX2 E a.2.2.1 (r8, v_history.2)) (h' := gX6 E a.2.1 v_state) (w1 := gX9 E a (v_state, (r8, v_history.2), v_program, v_forecast)) rfl rfl (by decide) rfl) zk_qa zk_qa)) rfl rfl rfl rfl (Nat.le_of_ble_eq_true rfl) (fun r8 => []) (fun _ => rfl) 11 rfl (fun r8 => ?_)
  refine zk_aload_n dX9_give_11 0 rfl 12 rfl ?_
  refine zk_aload_n dX9_give_12 0 rfl 13 rfl ?_
  refine zk_get dX9_give_13 0 rfl rfl kX9_give_inX9 0 (by decide) kX9_give_2 rfl 16 rfl ?_
  refine zk_getN dX9_give_16 1 rfl rfl kX9_give_inX6 0 (by decide) (by decide +kernel) rfl 19 rfl ?_
  refine zk_iload_n dX9_give_19 1 rfl 20 rfl ?_
  refine zk_iload_n dX9_give_20 2 rfl 21 rfl ?_
  refine zk_iload_n dX9_give_21 3 rfl 22 rfl ?_
  refine zk_callV (ci := 8) (st := [.ref a.1]) (c_X8_addPromise E l a.2.1.2.1 v_state.1 x1 x2 x3) dX9_give_22 3 gX9_give_X8_addPromise rfl rfl rfl cd_X8_addPromise ⟨Nat.le_of_ble_eq_true rfl, Nat.le_of_ble_eq_true rfl⟩ ⟨Nat.zero_le _, Nat.zero_le _⟩ _ (fun r22 => (gX9 E a (((r22.2.1, r22.2.2, v_state.1.2.2), v_state.2), (r8, v_history.2), v_program, v_forecast))) (zk_pc (zk_pc zk_pa (zk_p1 (gs := (lX9 E a (v_state, (r8, v_history.2), v_program, v_forecast))) (i := 1) rfl)) (zk_p1 (gs := (lX6 E a.2.1 v_state)) (i := 1) rfl)) (fun r22 => (zk_qc (zk_qc zk_qa (zk_q1 (gs := (lX9 E a (v_state, (r8, v_history.2), v_program, v_forecast))) (i := 1) (w1 := gX9 E a (((r22.2.1, r22.2.2, v_state.1.2.2), v_state.2), (r8, v_history.2), v_program, v_forecast)) rfl rfl)) (zk_q1 (gs := (lX6 E a.2.1 v_state)) (i := 1) (w1 := gX6 E a.2.1 ((r22.2.1, r22.2.2, v_state.1.2.2), v_state.2)) rfl rfl))) rfl rfl rfl rfl (Nat.le_of_ble_eq_true rfl) (fun r22 => [.int r22.1, .ref a.1]) (fun _ => rfl) 25 rfl (fun r22 => ?_)
  refine zk_callV (ci := 9) (st := []) (c_X9_recorded E l a (((r22.2.1, r22.2.2, v_state.1.2.2), v_state.2), (r8, v_history.2), v_program, v_forecast) r22.1) dX9_give_25 1 gX9_give_X9_recorded rfl rfl rfl cd_X9_recorded ⟨Nat.le_of_ble_eq_true rfl, Nat.le_of_ble_eq_true rfl⟩ ⟨Nat.zero_le _, Nat.zero_le _⟩ _ (fun r25 => (gX9 E a (((r22.2.1, r22.2.2, v_state.1.2.2), v_state.2), r25.2, v_program, v_forecast))) zk_pa (fun r25 => zk_qa) rfl rfl rfl rfl (Nat.le_of_ble_eq_true rfl) (fun r25 => [.int r25.1]) (fun _ => rfl) 28 rfl (fun r25 => ?_)
  exact zk_iret hQ dX9_give_28 rfl rfl
def f_X9_breakOff (x1 : Int32) (v_state : VX6) (v_history : VX2) : Option (Int32 × VX6 × VX2) := (f_X2_note v_history.1 v_history.2.1 v_state.1 v_state.2.1 v_state.2.2).bind fun r8 => (f_X8_breakPromise x1 v_state.1.1 v_state.1.2.2.2.2.2.2.2.1).bind fun r20 => (f_X9_recorded r20.1 (r8, v_history.2)).bind fun r23 => some (r23.1, ((r20.2.1, v_state.1.2.1, v_state.1.2.2.1, v_state.1.2.2.2.1, v_state.1.2.2.2.2.1, v_state.1.2.2.2.2.2.1, v_state.1.2.2.2.2.2.2.1, r20.2.2, v_state.1.2.2.2.2.2.2.2.2), v_state.2), r23.2)
theorem kX9_breakOff_inX9 : ∀ w ∈ u_ws RX9 TX9 4, w ∈ wsX9_breakOff := by decide +kernel
theorem kX9_breakOff_1 : Cond.fieldLink RX9 19 (TX9 1).1 (TX9 1).2.1 (TX9 1).2.2.1 ∈ wsX9_breakOff := by decide +kernel
theorem kX9_breakOff_2 : Cond.fieldLink RX9 12 (TX9 0).1 (TX9 0).2.1 (TX9 0).2.2.1 ∈ wsX9_breakOff := by decide +kernel
theorem kX9_breakOff_inX6 : ∀ w ∈ u_ws RX6 TX6 3, w ∈ wsX9_breakOff := by decide +kernel
theorem cd_X9_breakOff : yX9_breakOff.cls = RX9 ∧ yX9_breakOff.cls ≠ "java/lang/invoke/MethodHandle" ∧ yX9_breakOff.cls ≠ "java/lang/invoke/VarHandle" ∧ (parseMethodDescriptor yX9_breakOff.desc).map (fun d => d.parameters.length) = some 1 := by decide +kernel
set_option maxRecDepth 100000 in
set_option maxHeartbeats 4000000 in
theorem c_X9_breakOff (E : zk_Env) (l : Launch) (a : aX9) (v : VX9) (x1 : Int32) : zk_Mc E l yX9_breakOff wsX9_breakOff ({ frames := 5, cells := 0, slots := 0, locals := 106 } : Room) [.ref a.1, .int x1] (gX9 E a v) (f_X9_breakOff x1 v.1 v.2.1) (fun r => some (.int r.1)) (fun r => (gX9 E a (r.2.1, r.2.2, v.2.2))) := by
  obtain ⟨v_state, v_history, v_program, v_forecast⟩ := v
  refine zk_M (cc := cX9_breakOff) (nL := 2) (ret := (some .int)) (by decide) rfl (Nat.le_of_ble_eq_true rfl) (fun X Q hQ => ?_)
  refine zk_eqv (w1 := (gX9 E a (v_state, v_history, v_program, v_forecast))) (lv1 := [(0, .ref a.1), (1, .int x1)]) (st1 := []) (o1 := f_X9_breakOff x1 v_state v_history) rfl rfl rfl rfl ?_
  unfold f_X9_breakOff
  refine zk_aload_n dX9_breakOff_0 0 rfl 1 rfl ?_
  refine zk_get dX9_breakOff_1 0 rfl rfl kX9_breakOff_inX9 1 (by decide) kX9_breakOff_1 rfl 4 rfl ?_
  refine zk_aload_n dX9_breakOff_4 0 rfl 5 rfl ?_
  refine zk_get dX9_breakOff_5 0 rfl rfl kX9_breakOff_inX9 0 (by decide) kX9_breakOff_2 rfl 8 rfl ?_
  refine zk_callV (ci := 2) (st := []) (c_X2_note E l a.2.2.1 v_history a.2.1 v_state) dX9_breakOff_8 1 gX9_breakOff_X2_note rfl rfl rfl cd_X2_note ⟨Nat.le_of_ble_eq_true rfl, Nat.le_of_ble_eq_true rfl⟩ ⟨Nat.zero_le _, Nat.zero_le _⟩ _ (fun r8 => (gX9 E a (v_state, (r8, v_history.2), v_program, v_forecast))) (zk_pp zk_pa (zk_pb (gs := (lX9 E a (v_state, v_history, v_program, v_forecast))) (i := 4) (j := 1) rfl rfl (by decide)) zk_pa zk_pa) (fun r8 => (zk_qq zk_qa (zk_qb (gs := (lX9 E a (v_state, v_history, v_program, v_forecast))) (i := 4) (j := 1) (g' := gX2 E a.2.2.1 (r8, v_history.2)) (h' := gX6 E a.2.1 v_state) (w1 := gX9 E a (v_state, (r8, v_history.2), v_program, v_forecast)) rfl rfl (by decide) rfl) zk_qa zk_qa)) rfl rfl rfl rfl (Nat.le_of_ble_eq_true rfl) (fun r8 => []) (fun _ => rfl) 11 rfl (fun r8 => ?_)
  refine zk_aload_n dX9_breakOff_11 0 rfl 12 rfl ?_
  refine zk_aload_n dX9_breakOff_12 0 rfl 13 rfl ?_
  refine zk_get dX9_breakOff_13 0 rfl rfl kX9_breakOff_inX9 0 (by decide) kX9_breakOff_2 rfl 16 rfl ?_
  refine zk_getN dX9_breakOff_16 1 rfl rfl kX9_breakOff_inX6 0 (by decide) (by decide +kernel) rfl 19 rfl ?_
  refine zk_iload_n dX9_breakOff_19 1 rfl 20 rfl ?_
  refine zk_callV (ci := 8) (st := [.ref a.1]) (c_X8_breakPromise E l a.2.1.2.1 v_state.1 x1) dX9_breakOff_20 1 gX9_breakOff_X8_breakPromise rfl rfl rfl cd_X8_breakPromise ⟨Nat.le_of_ble_eq_true rfl, Nat.le_of_ble_eq_true rfl⟩ ⟨Nat.zero_le _, Nat.zero_le _⟩ _ (fun r20 => (gX9 E a (((r20.2.1, v_state.1.2.1, v_state.1.2.2.1, v_state.1.2.2.2.1, v_state.1.2.2.2.2.1, v_state.1.2.2.2.2.2.1, v_state.1.2.2.2.2.2.2.1, r20.2.2, v_state.1.2.2.2.2.2.2.2.2), v_state.2), (r8, v_history.2), v_program, v_forecast))) (zk_pc (zk_pc zk_pa (zk_p1 (gs := (lX9 E a (v_state, (r8, v_history.2), v_program, v_forecast))) (i := 1) rfl)) (zk_p1 (gs := (lX6 E a.2.1 v_state)) (i := 1) rfl)) (fun r20 => (zk_qc (zk_qc zk_qa (zk_q1 (gs := (lX9 E a (v_state, (r8, v_history.2), v_program, v_forecast))) (i := 1) (w1 := gX9 E a (((r20.2.1, v_state.1.2.1, v_state.1.2.2.1, v_state.1.2.2.2.1, v_state.1.2.2.2.2.1, v_state.1.2.2.2.2.2.1, v_state.1.2.2.2.2.2.2.1, r20.2.2, v_state.1.2.2.2.2.2.2.2.2), v_state.2), (r8, v_history.2), v_program, v_forecast)) rfl rfl)) (zk_q1 (gs := (lX6 E a.2.1 v_state)) (i := 1) (w1 := gX6 E a.2.1 ((r20.2.1, v_state.1.2.1, v_state.1.2.2.1, v_state.1.2.2.2.1, v_state.1.2.2.2.2.1, v_state.1.2.2.2.2.2.1, v_state.1.2.2.2.2.2.2.1, r20.2.2, v_state.1.2.2.2.2.2.2.2.2), v_state.2)) rfl rfl))) rfl rfl rfl rfl (Nat.le_of_ble_eq_true rfl) (fun r20 => [.int r20.1, .ref a.1]) (fun _ => rfl) 23 rfl (fun r20 => ?_)
  refine zk_callV (ci := 9) (st := []) (c_X9_recorded E l a (((r20.2.1, v_state.1.2.1, v_state.1.2.2.1, v_state.1.2.2.2.1, v_state.1.2.2.2.2.1, v_state.1.2.2.2.2.2.1, v_state.1.2.2.2.2.2.2.1, r20.2.2, v_state.1.2.2.2.2.2.2.2.2), v_state.2), (r8, v_history.2), v_program, v_forecast) r20.1) dX9_breakOff_23 1 gX9_breakOff_X9_recorded rfl rfl rfl cd_X9_recorded ⟨Nat.le_of_ble_eq_true rfl, Nat.le_of_ble_eq_true rfl⟩ ⟨Nat.zero_le _, Nat.zero_le _⟩ _ (fun r23 => (gX9 E a (((r20.2.1, v_state.1.2.1, v_state.1.2.2.1, v_state.1.2.2.2.1, v_state.1.2.2.2.2.1, v_state.1.2.2.2.2.2.1, v_state.1.2.2.2.2.2.2.1, r20.2.2, v_state.1.2.2.2.2.2.2.2.2), v_state.2), r23.2, v_program, v_forecast))) zk_pa (fun r23 => zk_qa) rfl rfl rfl rfl (Nat.le_of_ble_eq_true rfl) (fun r23 => [.int r23.1]) (fun _ => rfl) 26 rfl (fun r23 => ?_)
  exact zk_iret hQ dX9_breakOff_26 rfl rfl
def f_X9_move (x1 : Int32) (x2 : Int32) (v_state : VX6) (v_history : VX2) : Option (Int32 × VX6 × VX2) := (f_X2_note v_history.1 v_history.2.1 v_state.1 v_state.2.1 v_state.2.2).bind fun r8 => (f_X8_movePromise x1 x2 v_state.1.1 v_state.1.2.1 v_state.1.2.2.2.1).bind fun r21 => (f_X9_recorded r21.1 (r8, v_history.2)).bind fun r24 => some (r24.1, ((r21.2.1, r21.2.2, v_state.1.2.2), v_state.2), r24.2)
theorem kX9_move_inX9 : ∀ w ∈ u_ws RX9 TX9 4, w ∈ wsX9_move := by decide +kernel
theorem kX9_move_1 : Cond.fieldLink RX9 19 (TX9 1).1 (TX9 1).2.1 (TX9 1).2.2.1 ∈ wsX9_move := by decide +kernel
theorem kX9_move_2 : Cond.fieldLink RX9 12 (TX9 0).1 (TX9 0).2.1 (TX9 0).2.2.1 ∈ wsX9_move := by decide +kernel
theorem kX9_move_inX6 : ∀ w ∈ u_ws RX6 TX6 3, w ∈ wsX9_move := by decide +kernel
theorem cd_X9_move : yX9_move.cls = RX9 ∧ yX9_move.cls ≠ "java/lang/invoke/MethodHandle" ∧ yX9_move.cls ≠ "java/lang/invoke/VarHandle" ∧ (parseMethodDescriptor yX9_move.desc).map (fun d => d.parameters.length) = some 2 := by decide +kernel
set_option maxRecDepth 100000 in
set_option maxHeartbeats 4000000 in
theorem c_X9_move (E : zk_Env) (l : Launch) (a : aX9) (v : VX9) (x1 : Int32) (x2 : Int32) : zk_Mc E l yX9_move wsX9_move ({ frames := 5, cells := 0, slots := 0, locals := 106 } : Room) [.ref a.1, .int x1, .int x2] (gX9 E a v) (f_X9_move x1 x2 v.1 v.2.1) (fun r => some (.int r.1)) (fun r => (gX9 E a (r.2.1, r.2.2, v.2.2))) := by
  obtain ⟨v_state, v_history, v_program, v_forecast⟩ := v
  refine zk_M (cc := cX9_move) (nL := 3) (ret := (some .int)) (by decide) rfl (Nat.le_of_ble_eq_true rfl) (fun X Q hQ => ?_)
  refine zk_eqv (w1 := (gX9 E a (v_state, v_history, v_program, v_forecast))) (lv1 := [(0, .ref a.1), (1, .int x1), (2, .int x2)]) (st1 := []) (o1 := f_X9_move x1 x2 v_state v_history) rfl rfl rfl rfl ?_
  unfold f_X9_move
  refine zk_aload_n dX9_move_0 0 rfl 1 rfl ?_
  refine zk_get dX9_move_1 0 rfl rfl kX9_move_inX9 1 (by decide) kX9_move_1 rfl 4 rfl ?_
  refine zk_aload_n dX9_move_4 0 rfl 5 rfl ?_
  refine zk_get dX9_move_5 0 rfl rfl kX9_move_inX9 0 (by decide) kX9_move_2 rfl 8 rfl ?_
  refine zk_callV (ci := 2) (st := []) (c_X2_note E l a.2.2.1 v_history a.2.1 v_state) dX9_move_8 1 gX9_move_X2_note rfl rfl rfl cd_X2_note ⟨Nat.le_of_ble_eq_true rfl, Nat.le_of_ble_eq_true rfl⟩ ⟨Nat.zero_le _, Nat.zero_le _⟩ _ (fun r8 => (gX9 E a (v_state, (r8, v_history.2), v_program, v_forecast))) (zk_pp zk_pa (zk_pb (gs := (lX9 E a (v_state, v_history, v_program, v_forecast))) (i := 4) (j := 1) rfl rfl (by decide)) zk_pa zk_pa) (fun r8 => (zk_qq zk_qa (zk_qb (gs := (lX9 E a (v_state, v_history, v_program, v_forecast))) (i := 4) (j := 1) (g' := gX2 E a.2.2.1 (r8, v_history.2)) (h' := gX6 E a.2.1 v_state) (w1 := gX9 E a (v_state, (r8, v_history.2), v_program, v_forecast)) rfl rfl (by decide) rfl) zk_qa zk_qa)) rfl rfl rfl rfl (Nat.le_of_ble_eq_true rfl) (fun r8 => []) (fun _ => rfl) 11 rfl (fun r8 => ?_)
  refine zk_aload_n dX9_move_11 0 rfl 12 rfl ?_
  refine zk_aload_n dX9_move_12 0 rfl 13 rfl ?_
  refine zk_get dX9_move_13 0 rfl rfl kX9_move_inX9 0 (by decide) kX9_move_2 rfl 16 rfl ?_
  refine zk_getN dX9_move_16 1 rfl rfl kX9_move_inX6 0 (by decide) (by decide +kernel) rfl 19 rfl ?_
  refine zk_iload_n dX9_move_19 1 rfl 20 rfl ?_
  refine zk_iload_n dX9_move_20 2 rfl 21 rfl ?_
  refine zk_callV (ci := 8) (st := [.ref a.1]) (c_X8_movePromise E l a.2.1.2.1 v_state.1 x1 x2) dX9_move_21 2 gX9_move_X8_movePromise rfl rfl rfl cd_X8_movePromise ⟨Nat.le_of_ble_eq_true rfl, Nat.le_of_ble_eq_true rfl⟩ ⟨Nat.zero_le _, Nat.zero_le _⟩ _ (fun r21 => (gX9 E a (((r21.2.1, r21.2.2, v_state.1.2.2), v_state.2), (r8, v_history.2), v_program, v_forecast))) (zk_pc (zk_pc zk_pa (zk_p1 (gs := (lX9 E a (v_state, (r8, v_history.2), v_program, v_forecast))) (i := 1) rfl)) (zk_p1 (gs := (lX6 E a.2.1 v_state)) (i := 1) rfl)) (fun r21 => (zk_qc (zk_qc zk_qa (zk_q1 (gs := (lX9 E a (v_state, (r8, v_history.2), v_program, v_forecast))) (i := 1) (w1 := gX9 E a (((r21.2.1, r21.2.2, v_state.1.2.2), v_state.2), (r8, v_history.2), v_program, v_forecast)) rfl rfl)) (zk_q1 (gs := (lX6 E a.2.1 v_state)) (i := 1) (w1 := gX6 E a.2.1 ((r21.2.1, r21.2.2, v_state.1.2.2), v_state.2)) rfl rfl))) rfl rfl rfl rfl (Nat.le_of_ble_eq_true rfl) (fun r21 => [.int r21.1, .ref a.1]) (fun _ => rfl) 24 rfl (fun r21 => ?_)
  refine zk_callV (ci := 9) (st := []) (c_X9_recorded E l a (((r21.2.1, r21.2.2, v_state.1.2.2), v_state.2), (r8, v_history.2), v_program, v_forecast) r21.1) dX9_move_24 1 gX9_move_X9_recorded rfl rfl rfl cd_X9_recorded ⟨Nat.le_of_ble_eq_true rfl, Nat.le_of_ble_eq_true rfl⟩ ⟨Nat.zero_le _, Nat.zero_le _⟩ _ (fun r24 => (gX9 E a (((r21.2.1, r21.2.2, v_state.1.2.2), v_state.2), r24.2, v_program, v_forecast))) zk_pa (fun r24 => zk_qa) rfl rfl rfl rfl (Nat.le_of_ble_eq_true rfl) (fun r24 => [.int r24.1]) (fun _ => rfl) 27 rfl (fun r24 => ?_)
  exact zk_iret hQ dX9_move_27 rfl rfl
def f_X9_sweep (v_state : VX6) (v_history : VX2) : Option (Int32 × VX6 × VX2) := (f_X2_note v_history.1 v_history.2.1 v_state.1 v_state.2.1 v_state.2.2).bind fun r8 => (f_X8_sweepAll v_state.1.1 v_state.1.2.1 v_state.1.2.2.2.2.2.2.2.1 v_state.1.2.2.2.2.2.2.2.2.2.2.1).bind fun r19 => (f_X9_recorded r19.1 (r8, v_history.2)).bind fun r22 => some (r22.1, ((r19.2.1, r19.2.2.1, v_state.1.2.2.1, v_state.1.2.2.2.1, v_state.1.2.2.2.2.1, v_state.1.2.2.2.2.2.1, v_state.1.2.2.2.2.2.2.1, r19.2.2.2.1, v_state.1.2.2.2.2.2.2.2.2.1, v_state.1.2.2.2.2.2.2.2.2.2.1, r19.2.2.2.2, v_state.1.2.2.2.2.2.2.2.2.2.2.2), v_state.2), r22.2)
theorem kX9_sweep_inX9 : ∀ w ∈ u_ws RX9 TX9 4, w ∈ wsX9_sweep := by decide +kernel
theorem kX9_sweep_1 : Cond.fieldLink RX9 19 (TX9 1).1 (TX9 1).2.1 (TX9 1).2.2.1 ∈ wsX9_sweep := by decide +kernel
theorem kX9_sweep_2 : Cond.fieldLink RX9 12 (TX9 0).1 (TX9 0).2.1 (TX9 0).2.2.1 ∈ wsX9_sweep := by decide +kernel
theorem kX9_sweep_inX6 : ∀ w ∈ u_ws RX6 TX6 3, w ∈ wsX9_sweep := by decide +kernel
theorem cd_X9_sweep : yX9_sweep.cls = RX9 ∧ yX9_sweep.cls ≠ "java/lang/invoke/MethodHandle" ∧ yX9_sweep.cls ≠ "java/lang/invoke/VarHandle" ∧ (parseMethodDescriptor yX9_sweep.desc).map (fun d => d.parameters.length) = some 0 := by decide +kernel
set_option maxRecDepth 100000 in
set_option maxHeartbeats 4000000 in
theorem c_X9_sweep (E : zk_Env) (l : Launch) (a : aX9) (v : VX9)  : zk_Mc E l yX9_sweep wsX9_sweep ({ frames := 5, cells := 0, slots := 0, locals := 106 } : Room) [.ref a.1] (gX9 E a v) (f_X9_sweep v.1 v.2.1) (fun r => some (.int r.1)) (fun r => (gX9 E a (r.2.1, r.2.2, v.2.2))) := by
  obtain ⟨v_state, v_history, v_program, v_forecast⟩ := v
  refine zk_M (cc := cX9_sweep) (nL := 1) (ret := (some .int)) (by decide) rfl (Nat.le_of_ble_eq_true rfl) (fun X Q hQ => ?_)
  refine zk_eqv (w1 := (gX9 E a (v_state, v_history, v_program, v_forecast))) (lv1 := [(0, .ref a.1)]) (st1 := []) (o1 := f_X9_sweep v_state v_history) rfl rfl rfl rfl ?_
  unfold f_X9_sweep
  refine zk_aload_n dX9_sweep_0 0 rfl 1 rfl ?_
  refine zk_get dX9_sweep_1 0 rfl rfl kX9_sweep_inX9 1 (by decide) kX9_sweep_1 rfl 4 rfl ?_
  refine zk_aload_n dX9_sweep_4 0 rfl 5 rfl ?_
  refine zk_get dX9_sweep_5 0 rfl rfl kX9_sweep_inX9 0 (by decide) kX9_sweep_2 rfl 8 rfl ?_
  refine zk_callV (ci := 2) (st := []) (c_X2_note E l a.2.2.1 v_history a.2.1 v_state) dX9_sweep_8 1 gX9_sweep_X2_note rfl rfl rfl cd_X2_note ⟨Nat.le_of_ble_eq_true rfl, Nat.le_of_ble_eq_true rfl⟩ ⟨Nat.zero_le _, Nat.zero_le _⟩ _ (fun r8 => (gX9 E a (v_state, (r8, v_history.2), v_program, v_forecast))) (zk_pp zk_pa (zk_pb (gs := (lX9 E a (v_state, v_history, v_program, v_forecast))) (i := 4) (j := 1) rfl rfl (by decide)) zk_pa zk_pa) (fun r8 => (zk_qq zk_qa (zk_qb (gs := (lX9 E a (v_state, v_history, v_program, v_forecast))) (i := 4) (j := 1) (g' := gX2 E a.2.2.1 (r8, v_history.2)) (h' := gX6 E a.2.1 v_state) (w1 := gX9 E a (v_state, (r8, v_history.2), v_program, v_forecast)) rfl rfl (by decide) rfl) zk_qa zk_qa)) rfl rfl rfl rfl (Nat.le_of_ble_eq_true rfl) (fun r8 => []) (fun _ => rfl) 11 rfl (fun r8 => ?_)
  refine zk_aload_n dX9_sweep_11 0 rfl 12 rfl ?_
  refine zk_aload_n dX9_sweep_12 0 rfl 13 rfl ?_
  refine zk_get dX9_sweep_13 0 rfl rfl kX9_sweep_inX9 0 (by decide) kX9_sweep_2 rfl 16 rfl ?_
  refine zk_getN dX9_sweep_16 1 rfl rfl kX9_sweep_inX6 0 (by decide) (by decide +kernel) rfl 19 rfl ?_
  refine zk_callV (ci := 8) (st := [.ref a.1]) (c_X8_sweepAll E l a.2.1.2.1 v_state.1) dX9_sweep_19 0 gX9_sweep_X8_sweepAll rfl rfl rfl cd_X8_sweepAll ⟨Nat.le_of_ble_eq_true rfl, Nat.le_of_ble_eq_true rfl⟩ ⟨Nat.zero_le _, Nat.zero_le _⟩ _ (fun r19 => (gX9 E a (((r19.2.1, r19.2.2.1, v_state.1.2.2.1, v_state.1.2.2.2.1, v_state.1.2.2.2.2.1, v_state.1.2.2.2.2.2.1, v_state.1.2.2.2.2.2.2.1, r19.2.2.2.1, v_state.1.2.2.2.2.2.2.2.2.1, v_state.1.2.2.2.2.2.2.2.2.2.1, r19.2.2.2.2, v_state.1.2.2.2.2.2.2.2.2.2.2.2), v_state.2), (r8, v_history.2), v_program, v_forecast))) (zk_pc (zk_pc zk_pa (zk_p1 (gs := (lX9 E a (v_state, (r8, v_history.2), v_program, v_forecast))) (i := 1) rfl)) (zk_p1 (gs := (lX6 E a.2.1 v_state)) (i := 1) rfl)) (fun r19 => (zk_qc (zk_qc zk_qa (zk_q1 (gs := (lX9 E a (v_state, (r8, v_history.2), v_program, v_forecast))) (i := 1) (w1 := gX9 E a (((r19.2.1, r19.2.2.1, v_state.1.2.2.1, v_state.1.2.2.2.1, v_state.1.2.2.2.2.1, v_state.1.2.2.2.2.2.1, v_state.1.2.2.2.2.2.2.1, r19.2.2.2.1, v_state.1.2.2.2.2.2.2.2.2.1, v_state.1.2.2.2.2.2.2.2.2.2.1, r19.2.2.2.2, v_state.1.2.2.2.2.2.2.2.2.2.2.2), v_state.2), (r8, v_history.2), v_program, v_forecast)) rfl rfl)) (zk_q1 (gs := (lX6 E a.2.1 v_state)) (i := 1) (w1 := gX6 E a.2.1 ((r19.2.1, r19.2.2.1, v_state.1.2.2.1, v_state.1.2.2.2.1, v_state.1.2.2.2.2.1, v_state.1.2.2.2.2.2.1, v_state.1.2.2.2.2.2.2.1, r19.2.2.2.1, v_state.1.2.2.2.2.2.2.2.2.1, v_state.1.2.2.2.2.2.2.2.2.2.1, r19.2.2.2.2, v_state.1.2.2.2.2.2.2.2.2.2.2.2), v_state.2)) rfl rfl))) rfl rfl rfl rfl (Nat.le_of_ble_eq_true rfl) (fun r19 => [.int r19.1, .ref a.1]) (fun _ => rfl) 22 rfl (fun r19 => ?_)
  refine zk_callV (ci := 9) (st := []) (c_X9_recorded E l a (((r19.2.1, r19.2.2.1, v_state.1.2.2.1, v_state.1.2.2.2.1, v_state.1.2.2.2.2.1, v_state.1.2.2.2.2.2.1, v_state.1.2.2.2.2.2.2.1, r19.2.2.2.1, v_state.1.2.2.2.2.2.2.2.2.1, v_state.1.2.2.2.2.2.2.2.2.2.1, r19.2.2.2.2, v_state.1.2.2.2.2.2.2.2.2.2.2.2), v_state.2), (r8, v_history.2), v_program, v_forecast) r19.1) dX9_sweep_22 1 gX9_sweep_X9_recorded rfl rfl rfl cd_X9_recorded ⟨Nat.le_of_ble_eq_true rfl, Nat.le_of_ble_eq_true rfl⟩ ⟨Nat.zero_le _, Nat.zero_le _⟩ _ (fun r22 => (gX9 E a (((r19.2.1, r19.2.2.1, v_state.1.2.2.1, v_state.1.2.2.2.1, v_state.1.2.2.2.2.1, v_state.1.2.2.2.2.2.1, v_state.1.2.2.2.2.2.2.1, r19.2.2.2.1, v_state.1.2.2.2.2.2.2.2.2.1, v_state.1.2.2.2.2.2.2.2.2.2.1, r19.2.2.2.2, v_state.1.2.2.2.2.2.2.2.2.2.2.2), v_state.2), r22.2, v_program, v_forecast))) zk_pa (fun r22 => zk_qa) rfl rfl rfl rfl (Nat.le_of_ble_eq_true rfl) (fun r22 => [.int r22.1]) (fun _ => rfl) 25 rfl (fun r22 => ?_)
  exact zk_iret hQ dX9_sweep_25 rfl rfl
def f_X9_set (x1 : Int32) (x2 : Int32) (v_state : VX6) (v_history : VX2) : Option (Int32 × VX6 × VX2) := (f_X2_note v_history.1 v_history.2.1 v_state.1 v_state.2.1 v_state.2.2).bind fun r8 => (f_X8_changeSetting x1 x2 v_state.1.2.2.2.2.1 v_state.1.2.2.2.2.2.1 v_state.1.2.2.2.2.2.2.1).bind fun r21 => (f_X9_recorded r21.1 (r8, v_history.2)).bind fun r24 => some (r24.1, ((v_state.1.1, v_state.1.2.1, v_state.1.2.2.1, v_state.1.2.2.2.1, r21.2.1, r21.2.2.1, r21.2.2.2, v_state.1.2.2.2.2.2.2.2), v_state.2), r24.2)
theorem kX9_set_inX9 : ∀ w ∈ u_ws RX9 TX9 4, w ∈ wsX9_set := by decide +kernel
theorem kX9_set_1 : Cond.fieldLink RX9 19 (TX9 1).1 (TX9 1).2.1 (TX9 1).2.2.1 ∈ wsX9_set := by decide +kernel
theorem kX9_set_2 : Cond.fieldLink RX9 12 (TX9 0).1 (TX9 0).2.1 (TX9 0).2.2.1 ∈ wsX9_set := by decide +kernel
theorem kX9_set_inX6 : ∀ w ∈ u_ws RX6 TX6 3, w ∈ wsX9_set := by decide +kernel
theorem cd_X9_set : yX9_set.cls = RX9 ∧ yX9_set.cls ≠ "java/lang/invoke/MethodHandle" ∧ yX9_set.cls ≠ "java/lang/invoke/VarHandle" ∧ (parseMethodDescriptor yX9_set.desc).map (fun d => d.parameters.length) = some 2 := by decide +kernel
set_option maxRecDepth 100000 in
set_option maxHeartbeats 4000000 in
theorem c_X9_set (E : zk_Env) (l : Launch) (a : aX9) (v : VX9) (x1 : Int32) (x2 : Int32) : zk_Mc E l yX9_set wsX9_set ({ frames := 5, cells := 0, slots := 0, locals := 106 } : Room) [.ref a.1, .int x1, .int x2] (gX9 E a v) (f_X9_set x1 x2 v.1 v.2.1) (fun r => some (.int r.1)) (fun r => (gX9 E a (r.2.1, r.2.2, v.2.2))) := by
  obtain ⟨v_state, v_history, v_program, v_forecast⟩ := v
  refine zk_M (cc := cX9_set) (nL := 3) (ret := (some .int)) (by decide) rfl (Nat.le_of_ble_eq_true rfl) (fun X Q hQ => ?_)
  refine zk_eqv (w1 := (gX9 E a (v_state, v_history, v_program, v_forecast))) (lv1 := [(0, .ref a.1), (1, .int x1), (2, .int x2)]) (st1 := []) (o1 := f_X9_set x1 x2 v_state v_history) rfl rfl rfl rfl ?_
  unfold f_X9_set
  refine zk_aload_n dX9_set_0 0 rfl 1 rfl ?_
  refine zk_get dX9_set_1 0 rfl rfl kX9_set_inX9 1 (by decide) kX9_set_1 rfl 4 rfl ?_
  refine zk_aload_n dX9_set_4 0 rfl 5 rfl ?_
  refine zk_get dX9_set_5 0 rfl rfl kX9_set_inX9 0 (by decide) kX9_set_2 rfl 8 rfl ?_
  refine zk_callV (ci := 2) (st := []) (c_X2_note E l a.2.2.1 v_history a.2.1 v_state) dX9_set_8 1 gX9_set_X2_note rfl rfl rfl cd_X2_note ⟨Nat.le_of_ble_eq_true rfl, Nat.le_of_ble_eq_true rfl⟩ ⟨Nat.zero_le _, Nat.zero_le _⟩ _ (fun r8 => (gX9 E a (v_state, (r8, v_history.2), v_program, v_forecast))) (zk_pp zk_pa (zk_pb (gs := (lX9 E a (v_state, v_history, v_program, v_forecast))) (i := 4) (j := 1) rfl rfl (by decide)) zk_pa zk_pa) (fun r8 => (zk_qq zk_qa (zk_qb (gs := (lX9 E a (v_state, v_history, v_program, v_forecast))) (i := 4) (j := 1) (g' := gX2 E a.2.2.1 (r8, v_history.2)) (h' := gX6 E a.2.1 v_state) (w1 := gX9 E a (v_state, (r8, v_history.2), v_program, v_forecast)) rfl rfl (by decide) rfl) zk_qa zk_qa)) rfl rfl rfl rfl (Nat.le_of_ble_eq_true rfl) (fun r8 => []) (fun _ => rfl) 11 rfl (fun r8 => ?_)
  refine zk_aload_n dX9_set_11 0 rfl 12 rfl ?_
  refine zk_aload_n dX9_set_12 0 rfl 13 rfl ?_
  refine zk_get dX9_set_13 0 rfl rfl kX9_set_inX9 0 (by decide) kX9_set_2 rfl 16 rfl ?_
  refine zk_getN dX9_set_16 1 rfl rfl kX9_set_inX6 0 (by decide) (by decide +kernel) rfl 19 rfl ?_
  refine zk_iload_n dX9_set_19 1 rfl 20 rfl ?_
  refine zk_iload_n dX9_set_20 2 rfl 21 rfl ?_
  refine zk_callV (ci := 8) (st := [.ref a.1]) (c_X8_changeSetting E l a.2.1.2.1 v_state.1 x1 x2) dX9_set_21 2 gX9_set_X8_changeSetting rfl rfl rfl cd_X8_changeSetting ⟨Nat.le_of_ble_eq_true rfl, Nat.le_of_ble_eq_true rfl⟩ ⟨Nat.zero_le _, Nat.zero_le _⟩ _ (fun r21 => (gX9 E a (((v_state.1.1, v_state.1.2.1, v_state.1.2.2.1, v_state.1.2.2.2.1, r21.2.1, r21.2.2.1, r21.2.2.2, v_state.1.2.2.2.2.2.2.2), v_state.2), (r8, v_history.2), v_program, v_forecast))) (zk_pc (zk_pc zk_pa (zk_p1 (gs := (lX9 E a (v_state, (r8, v_history.2), v_program, v_forecast))) (i := 1) rfl)) (zk_p1 (gs := (lX6 E a.2.1 v_state)) (i := 1) rfl)) (fun r21 => (zk_qc (zk_qc zk_qa (zk_q1 (gs := (lX9 E a (v_state, (r8, v_history.2), v_program, v_forecast))) (i := 1) (w1 := gX9 E a (((v_state.1.1, v_state.1.2.1, v_state.1.2.2.1, v_state.1.2.2.2.1, r21.2.1, r21.2.2.1, r21.2.2.2, v_state.1.2.2.2.2.2.2.2), v_state.2), (r8, v_history.2), v_program, v_forecast)) rfl rfl)) (zk_q1 (gs := (lX6 E a.2.1 v_state)) (i := 1) (w1 := gX6 E a.2.1 ((v_state.1.1, v_state.1.2.1, v_state.1.2.2.1, v_state.1.2.2.2.1, r21.2.1, r21.2.2.1, r21.2.2.2, v_state.1.2.2.2.2.2.2.2), v_state.2)) rfl rfl))) rfl rfl rfl rfl (Nat.le_of_ble_eq_true rfl) (fun r21 => [.int r21.1, .ref a.1]) (fun _ => rfl) 24 rfl (fun r21 => ?_)
  refine zk_callV (ci := 9) (st := []) (c_X9_recorded E l a (((v_state.1.1, v_state.1.2.1, v_state.1.2.2.1, v_state.1.2.2.2.1, r21.2.1, r21.2.2.1, r21.2.2.2, v_state.1.2.2.2.2.2.2.2), v_state.2), (r8, v_history.2), v_program, v_forecast) r21.1) dX9_set_24 1 gX9_set_X9_recorded rfl rfl rfl cd_X9_recorded ⟨Nat.le_of_ble_eq_true rfl, Nat.le_of_ble_eq_true rfl⟩ ⟨Nat.zero_le _, Nat.zero_le _⟩ _ (fun r24 => (gX9 E a (((v_state.1.1, v_state.1.2.1, v_state.1.2.2.1, v_state.1.2.2.2.1, r21.2.1, r21.2.2.1, r21.2.2.2, v_state.1.2.2.2.2.2.2.2), v_state.2), r24.2, v_program, v_forecast))) zk_pa (fun r24 => zk_qa) rfl rfl rfl rfl (Nat.le_of_ble_eq_true rfl) (fun r24 => [.int r24.1]) (fun _ => rfl) 27 rfl (fun r24 => ?_)
  exact zk_iret hQ dX9_set_27 rfl rfl
def f_X9_undo (v_state : VX6) (v_history : VX2) : Option (Int32 × VX6 × VX2) := (f_X2_stepBack v_history.1 v_history.2.1 v_history.2.2 v_state.1 v_state.2.1 v_state.2.2).bind fun r8 => some (r8.1, r8.2.2.2, (v_history.1, r8.2.1, r8.2.2.1))
theorem kX9_undo_inX9 : ∀ w ∈ u_ws RX9 TX9 4, w ∈ wsX9_undo := by decide +kernel
theorem kX9_undo_1 : Cond.fieldLink RX9 19 (TX9 1).1 (TX9 1).2.1 (TX9 1).2.2.1 ∈ wsX9_undo := by decide +kernel
theorem kX9_undo_2 : Cond.fieldLink RX9 12 (TX9 0).1 (TX9 0).2.1 (TX9 0).2.2.1 ∈ wsX9_undo := by decide +kernel
theorem cd_X9_undo : yX9_undo.cls = RX9 ∧ yX9_undo.cls ≠ "java/lang/invoke/MethodHandle" ∧ yX9_undo.cls ≠ "java/lang/invoke/VarHandle" ∧ (parseMethodDescriptor yX9_undo.desc).map (fun d => d.parameters.length) = some 0 := by decide +kernel
set_option maxRecDepth 100000 in
set_option maxHeartbeats 4000000 in
theorem c_X9_undo (E : zk_Env) (l : Launch) (a : aX9) (v : VX9)  : zk_Mc E l yX9_undo wsX9_undo ({ frames := 6, cells := 0, slots := 0, locals := 127 } : Room) [.ref a.1] (gX9 E a v) (f_X9_undo v.1 v.2.1) (fun r => some (.int r.1)) (fun r => (gX9 E a (r.2.1, r.2.2, v.2.2))) := by
  obtain ⟨v_state, v_history, v_program, v_forecast⟩ := v
  refine zk_M (cc := cX9_undo) (nL := 1) (ret := (some .int)) (by decide) rfl (Nat.le_of_ble_eq_true rfl) (fun X Q hQ => ?_)
  refine zk_eqv (w1 := (gX9 E a (v_state, v_history, v_program, v_forecast))) (lv1 := [(0, .ref a.1)]) (st1 := []) (o1 := f_X9_undo v_state v_history) rfl rfl rfl rfl ?_
  unfold f_X9_undo
  refine zk_aload_n dX9_undo_0 0 rfl 1 rfl ?_
  refine zk_get dX9_undo_1 0 rfl rfl kX9_undo_inX9 1 (by decide) kX9_undo_1 rfl 4 rfl ?_
  refine zk_aload_n dX9_undo_4 0 rfl 5 rfl ?_
  refine zk_get dX9_undo_5 0 rfl rfl kX9_undo_inX9 0 (by decide) kX9_undo_2 rfl 8 rfl ?_
  refine zk_callV (ci := 2) (st := []) (c_X2_stepBack E l a.2.2.1 v_history a.2.1 v_state) dX9_undo_8 1 gX9_undo_X2_stepBack rfl rfl rfl cd_X2_stepBack ⟨Nat.le_of_ble_eq_true rfl, Nat.le_of_ble_eq_true rfl⟩ ⟨Nat.zero_le _, Nat.zero_le _⟩ _ (fun r8 => (gX9 E a (r8.2.2.2, (v_history.1, r8.2.1, r8.2.2.1), v_program, v_forecast))) (zk_pp zk_pa (zk_pb (gs := (lX9 E a (v_state, v_history, v_program, v_forecast))) (i := 4) (j := 1) rfl rfl (by decide)) zk_pa zk_pa) (fun r8 => (zk_qq zk_qa (zk_qb (gs := (lX9 E a (v_state, v_history, v_program, v_forecast))) (i := 4) (j := 1) (g' := gX2 E a.2.2.1 (v_history.1, r8.2.1, r8.2.2.1)) (h' := gX6 E a.2.1 r8.2.2.2) (w1 := gX9 E a (r8.2.2.2, (v_history.1, r8.2.1, r8.2.2.1), v_program, v_forecast)) rfl rfl (by decide) rfl) zk_qa zk_qa)) rfl rfl rfl rfl (Nat.le_of_ble_eq_true rfl) (fun r8 => [.int r8.1]) (fun _ => rfl) 11 rfl (fun r8 => ?_)
  exact zk_iret hQ dX9_undo_11 rfl rfl
def f_X9_pass (x1 : Int32) (v_state : VX6) (v_history : VX2) : Option (Int32 × VX6 × VX2) := (f_X2_note v_history.1 v_history.2.1 v_state.1 v_state.2.1 v_state.2.2).bind fun r8 => (f_X8_passTicks x1 v_state.1.1 v_state.1.2.1 v_state.1.2.2.1 v_state.1.2.2.2.1 v_state.1.2.2.2.2.1 v_state.1.2.2.2.2.2.1 v_state.1.2.2.2.2.2.2.1 v_state.1.2.2.2.2.2.2.2.1 v_state.1.2.2.2.2.2.2.2.2.1 v_state.1.2.2.2.2.2.2.2.2.2.1 v_state.1.2.2.2.2.2.2.2.2.2.2.1 v_state.1.2.2.2.2.2.2.2.2.2.2.2.1 v_state.1.2.2.2.2.2.2.2.2.2.2.2.2).bind fun r20 => (f_X9_recorded r20.1 (r8, v_history.2)).bind fun r23 => some (r23.1, ((r20.2.1, r20.2.2.1, r20.2.2.2.1, r20.2.2.2.2.1, v_state.1.2.2.2.2.1, v_state.1.2.2.2.2.2.1, v_state.1.2.2.2.2.2.2.1, r20.2.2.2.2.2.1, r20.2.2.2.2.2.2.1, r20.2.2.2.2.2.2.2.1, r20.2.2.2.2.2.2.2.2.1, r20.2.2.2.2.2.2.2.2.2.1, r20.2.2.2.2.2.2.2.2.2.2), v_state.2), r23.2)
theorem kX9_pass_inX9 : ∀ w ∈ u_ws RX9 TX9 4, w ∈ wsX9_pass := by decide +kernel
theorem kX9_pass_1 : Cond.fieldLink RX9 19 (TX9 1).1 (TX9 1).2.1 (TX9 1).2.2.1 ∈ wsX9_pass := by decide +kernel
theorem kX9_pass_2 : Cond.fieldLink RX9 12 (TX9 0).1 (TX9 0).2.1 (TX9 0).2.2.1 ∈ wsX9_pass := by decide +kernel
theorem kX9_pass_inX6 : ∀ w ∈ u_ws RX6 TX6 3, w ∈ wsX9_pass := by decide +kernel
theorem cd_X9_pass : yX9_pass.cls = RX9 ∧ yX9_pass.cls ≠ "java/lang/invoke/MethodHandle" ∧ yX9_pass.cls ≠ "java/lang/invoke/VarHandle" ∧ (parseMethodDescriptor yX9_pass.desc).map (fun d => d.parameters.length) = some 1 := by decide +kernel
set_option maxRecDepth 100000 in
set_option maxHeartbeats 4000000 in
theorem c_X9_pass (E : zk_Env) (l : Launch) (a : aX9) (v : VX9) (x1 : Int32) : zk_Mc E l yX9_pass wsX9_pass ({ frames := 6, cells := 0, slots := 0, locals := 138 } : Room) [.ref a.1, .int x1] (gX9 E a v) (f_X9_pass x1 v.1 v.2.1) (fun r => some (.int r.1)) (fun r => (gX9 E a (r.2.1, r.2.2, v.2.2))) := by
  obtain ⟨v_state, v_history, v_program, v_forecast⟩ := v
  refine zk_M (cc := cX9_pass) (nL := 2) (ret := (some .int)) (by decide) rfl (Nat.le_of_ble_eq_true rfl) (fun X Q hQ => ?_)
  refine zk_eqv (w1 := (gX9 E a (v_state, v_history, v_program, v_forecast))) (lv1 := [(0, .ref a.1), (1, .int x1)]) (st1 := []) (o1 := f_X9_pass x1 v_state v_history) rfl rfl rfl rfl ?_
  unfold f_X9_pass
  refine zk_aload_n dX9_pass_0 0 rfl 1 rfl ?_
  refine zk_get dX9_pass_1 0 rfl rfl kX9_pass_inX9 1 (by decide) kX9_pass_1 rfl 4 rfl ?_
  refine zk_aload_n dX9_pass_4 0 rfl 5 rfl ?_
  refine zk_get dX9_pass_5 0 rfl rfl kX9_pass_inX9 0 (by decide) kX9_pass_2 rfl 8 rfl ?_
  refine zk_callV (ci := 2) (st := []) (c_X2_note E l a.2.2.1 v_history a.2.1 v_state) dX9_pass_8 1 gX9_pass_X2_note rfl rfl rfl cd_X2_note ⟨Nat.le_of_ble_eq_true rfl, Nat.le_of_ble_eq_true rfl⟩ ⟨Nat.zero_le _, Nat.zero_le _⟩ _ (fun r8 => (gX9 E a (v_state, (r8, v_history.2), v_program, v_forecast))) (zk_pp zk_pa (zk_pb (gs := (lX9 E a (v_state, v_history, v_program, v_forecast))) (i := 4) (j := 1) rfl rfl (by decide)) zk_pa zk_pa) (fun r8 => (zk_qq zk_qa (zk_qb (gs := (lX9 E a (v_state, v_history, v_program, v_forecast))) (i := 4) (j := 1) (g' := gX2 E a.2.2.1 (r8, v_history.2)) (h' := gX6 E a.2.1 v_state) (w1 := gX9 E a (v_state, (r8, v_history.2), v_program, v_forecast)) rfl rfl (by decide) rfl) zk_qa zk_qa)) rfl rfl rfl rfl (Nat.le_of_ble_eq_true rfl) (fun r8 => []) (fun _ => rfl) 11 rfl (fun r8 => ?_)
  refine zk_aload_n dX9_pass_11 0 rfl 12 rfl ?_
  refine zk_aload_n dX9_pass_12 0 rfl 13 rfl ?_
  refine zk_get dX9_pass_13 0 rfl rfl kX9_pass_inX9 0 (by decide) kX9_pass_2 rfl 16 rfl ?_
  refine zk_getN dX9_pass_16 1 rfl rfl kX9_pass_inX6 0 (by decide) (by decide +kernel) rfl 19 rfl ?_
  refine zk_iload_n dX9_pass_19 1 rfl 20 rfl ?_
  refine zk_callV (ci := 8) (st := [.ref a.1]) (c_X8_passTicks E l a.2.1.2.1 v_state.1 x1) dX9_pass_20 1 gX9_pass_X8_passTicks rfl rfl rfl cd_X8_passTicks ⟨Nat.le_of_ble_eq_true rfl, Nat.le_of_ble_eq_true rfl⟩ ⟨Nat.zero_le _, Nat.zero_le _⟩ _ (fun r20 => (gX9 E a (((r20.2.1, r20.2.2.1, r20.2.2.2.1, r20.2.2.2.2.1, v_state.1.2.2.2.2.1, v_state.1.2.2.2.2.2.1, v_state.1.2.2.2.2.2.2.1, r20.2.2.2.2.2.1, r20.2.2.2.2.2.2.1, r20.2.2.2.2.2.2.2.1, r20.2.2.2.2.2.2.2.2.1, r20.2.2.2.2.2.2.2.2.2.1, r20.2.2.2.2.2.2.2.2.2.2), v_state.2), (r8, v_history.2), v_program, v_forecast))) (zk_pc (zk_pc zk_pa (zk_p1 (gs := (lX9 E a (v_state, (r8, v_history.2), v_program, v_forecast))) (i := 1) rfl)) (zk_p1 (gs := (lX6 E a.2.1 v_state)) (i := 1) rfl)) (fun r20 => (zk_qc (zk_qc zk_qa (zk_q1 (gs := (lX9 E a (v_state, (r8, v_history.2), v_program, v_forecast))) (i := 1) (w1 := gX9 E a (((r20.2.1, r20.2.2.1, r20.2.2.2.1, r20.2.2.2.2.1, v_state.1.2.2.2.2.1, v_state.1.2.2.2.2.2.1, v_state.1.2.2.2.2.2.2.1, r20.2.2.2.2.2.1, r20.2.2.2.2.2.2.1, r20.2.2.2.2.2.2.2.1, r20.2.2.2.2.2.2.2.2.1, r20.2.2.2.2.2.2.2.2.2.1, r20.2.2.2.2.2.2.2.2.2.2), v_state.2), (r8, v_history.2), v_program, v_forecast)) rfl rfl)) (zk_q1 (gs := (lX6 E a.2.1 v_state)) (i := 1) (w1 := gX6 E a.2.1 ((r20.2.1, r20.2.2.1, r20.2.2.2.1, r20.2.2.2.2.1, v_state.1.2.2.2.2.1, v_state.1.2.2.2.2.2.1, v_state.1.2.2.2.2.2.2.1, r20.2.2.2.2.2.1, r20.2.2.2.2.2.2.1, r20.2.2.2.2.2.2.2.1, r20.2.2.2.2.2.2.2.2.1, r20.2.2.2.2.2.2.2.2.2.1, r20.2.2.2.2.2.2.2.2.2.2), v_state.2)) rfl rfl))) rfl rfl rfl rfl (Nat.le_of_ble_eq_true rfl) (fun r20 => [.int r20.1, .ref a.1]) (fun _ => rfl) 23 rfl (fun r20 => ?_)
  refine zk_callV (ci := 9) (st := []) (c_X9_recorded E l a (((r20.2.1, r20.2.2.1, r20.2.2.2.1, r20.2.2.2.2.1, v_state.1.2.2.2.2.1, v_state.1.2.2.2.2.2.1, v_state.1.2.2.2.2.2.2.1, r20.2.2.2.2.2.1, r20.2.2.2.2.2.2.1, r20.2.2.2.2.2.2.2.1, r20.2.2.2.2.2.2.2.2.1, r20.2.2.2.2.2.2.2.2.2.1, r20.2.2.2.2.2.2.2.2.2.2), v_state.2), (r8, v_history.2), v_program, v_forecast) r20.1) dX9_pass_23 1 gX9_pass_X9_recorded rfl rfl rfl cd_X9_recorded ⟨Nat.le_of_ble_eq_true rfl, Nat.le_of_ble_eq_true rfl⟩ ⟨Nat.zero_le _, Nat.zero_le _⟩ _ (fun r23 => (gX9 E a (((r20.2.1, r20.2.2.1, r20.2.2.2.1, r20.2.2.2.2.1, v_state.1.2.2.2.2.1, v_state.1.2.2.2.2.2.1, v_state.1.2.2.2.2.2.2.1, r20.2.2.2.2.2.1, r20.2.2.2.2.2.2.1, r20.2.2.2.2.2.2.2.1, r20.2.2.2.2.2.2.2.2.1, r20.2.2.2.2.2.2.2.2.2.1, r20.2.2.2.2.2.2.2.2.2.2), v_state.2), r23.2, v_program, v_forecast))) zk_pa (fun r23 => zk_qa) rfl rfl rfl rfl (Nat.le_of_ble_eq_true rfl) (fun r23 => [.int r23.1]) (fun _ => rfl) 26 rfl (fun r23 => ?_)
  exact zk_iret hQ dX9_pass_26 rfl rfl
def f_X9_when (x1 : Int32) (v_state : VX6) (v_forecast : VX1) : Option (Int32 × VX1) := (f_X5_has x1 v_state.1.1.2).bind fun r13 => if r13 = 0 then some ((-1), v_forecast) else (f_X5_isAlive x1 v_state.1.1.1).bind fun r23 => if r23 = 0 then some ((-2), v_forecast) else (f_X1_tickOfCall x1 v_forecast v_state.1.1 v_state.1.2.1 v_state.1.2.2.1 v_state.1.2.2.2.1 v_state.1.2.2.2.2.1 v_state.1.2.2.2.2.2.1 v_state.1.2.2.2.2.2.2.1 v_state.1.2.2.2.2.2.2.2.1 v_state.1.2.2.2.2.2.2.2.2.1 v_state.1.2.2.2.2.2.2.2.2.2.1 v_state.1.2.2.2.2.2.2.2.2.2.2.1 v_state.1.2.2.2.2.2.2.2.2.2.2.2.1 v_state.1.2.2.2.2.2.2.2.2.2.2.2.2).bind fun r44 => some (r44.1, r44.2)
theorem kX9_when_inX9 : ∀ w ∈ u_ws RX9 TX9 4, w ∈ wsX9_when := by decide +kernel
theorem kX9_when_1 : Cond.fieldLink RX9 12 (TX9 0).1 (TX9 0).2.1 (TX9 0).2.2.1 ∈ wsX9_when := by decide +kernel
theorem kX9_when_inX6 : ∀ w ∈ u_ws RX6 TX6 3, w ∈ wsX9_when := by decide +kernel
theorem kX9_when_inX8 : ∀ w ∈ u_ws RX8 TX8 13, w ∈ wsX9_when := by decide +kernel
theorem kX9_when_4 : Cond.fieldLink RX9 33 (TX9 3).1 (TX9 3).2.1 (TX9 3).2.2.1 ∈ wsX9_when := by decide +kernel
theorem cd_X9_when : yX9_when.cls = RX9 ∧ yX9_when.cls ≠ "java/lang/invoke/MethodHandle" ∧ yX9_when.cls ≠ "java/lang/invoke/VarHandle" ∧ (parseMethodDescriptor yX9_when.desc).map (fun d => d.parameters.length) = some 1 := by decide +kernel
set_option maxRecDepth 100000 in
set_option maxHeartbeats 4000000 in
theorem c_X9_when (E : zk_Env) (l : Launch) (a : aX9) (v : VX9) (x1 : Int32) : zk_Mc E l yX9_when wsX9_when ({ frames := 6, cells := 0, slots := 0, locals := 139 } : Room) [.ref a.1, .int x1] (gX9 E a v) (f_X9_when x1 v.1 v.2.2.2) (fun r => some (.int r.1)) (fun r => (gX9 E a (v.1, v.2.1, v.2.2.1, r.2))) := by
  obtain ⟨v_state, v_history, v_program, v_forecast⟩ := v
  refine zk_M (cc := cX9_when) (nL := 3) (ret := (some .int)) (by decide) rfl (Nat.le_of_ble_eq_true rfl) (fun X Q hQ => ?_)
  refine zk_eqv (w1 := (gX9 E a (v_state, v_history, v_program, v_forecast))) (lv1 := [(0, .ref a.1), (1, .int x1)]) (st1 := []) (o1 := f_X9_when x1 v_state v_forecast) rfl rfl rfl rfl ?_
  unfold f_X9_when
  refine zk_aload_n dX9_when_0 0 rfl 1 rfl ?_
  refine zk_get dX9_when_1 0 rfl rfl kX9_when_inX9 0 (by decide) kX9_when_1 rfl 4 rfl ?_
  refine zk_getN dX9_when_4 1 rfl rfl kX9_when_inX6 0 (by decide) (by decide +kernel) rfl 7 rfl ?_
  refine zk_getN dX9_when_7 4 rfl rfl kX9_when_inX8 0 (by decide) (by decide +kernel) rfl 10 rfl ?_
  refine zk_astore_n [(2, .ref a.2.1.2.1.2.1.1), (0, .ref a.1), (1, .int x1)] dX9_when_10 (by decide) rfl 11 rfl ?_
  refine zk_aload_n dX9_when_11 0 rfl 12 rfl ?_
  refine zk_iload_n dX9_when_12 2 rfl 13 rfl ?_
  refine zk_callV (ci := 5) (st := []) (c_X5_has E l a.2.1.2.1.2.1 v_state.1.1 x1) dX9_when_13 1 gX9_when_X5_has rfl rfl rfl cd_X5_has ⟨Nat.le_of_ble_eq_true rfl, Nat.le_of_ble_eq_true rfl⟩ ⟨Nat.zero_le _, Nat.zero_le _⟩ _ (fun r13 => (gX9 E a (v_state, v_history, v_program, v_forecast))) (zk_pc (zk_pc (zk_pc zk_pa (zk_p1 (gs := (lX9 E a (v_state, v_history, v_program, v_forecast))) (i := 1) rfl)) (zk_p1 (gs := (lX6 E a.2.1 v_state)) (i := 1) rfl)) (zk_p1 (gs := (lX8 E a.2.1.2.1 v_state.1)) (i := 1) rfl)) (fun r13 => (zk_qc (zk_qc (zk_qc zk_qa (zk_q1 (gs := (lX9 E a (v_state, v_history, v_program, v_forecast))) (i := 1) (w1 := gX9 E a (v_state, v_history, v_program, v_forecast)) rfl rfl)) (zk_q1 (gs := (lX6 E a.2.1 v_state)) (i := 1) (w1 := gX6 E a.2.1 v_state) rfl rfl)) (zk_q1 (gs := (lX8 E a.2.1.2.1 v_state.1)) (i := 1) (w1 := gX8 E a.2.1.2.1 v_state.1) rfl rfl))) rfl rfl rfl rfl (Nat.le_of_ble_eq_true rfl) (fun r13 => [.int r13]) (fun _ => rfl) 16 rfl (fun r13 => ?_)
  refine zk_if_ne dX9_when_16 21 (by decide) 19 rfl (fun _ => ?_) (fun _ => ?_)
  · refine zk_iconst (-1) dX9_when_19 (by decide) 20 rfl ?_
    exact zk_iret hQ dX9_when_20 rfl rfl
  · refine zk_aload_n dX9_when_21 0 rfl 22 rfl ?_
    refine zk_iload_n dX9_when_22 2 rfl 23 rfl ?_
    refine zk_callV (ci := 5) (st := []) (c_X5_isAlive E l a.2.1.2.1.2.1 v_state.1.1 x1) dX9_when_23 1 gX9_when_X5_isAlive rfl rfl rfl cd_X5_isAlive ⟨Nat.le_of_ble_eq_true rfl, Nat.le_of_ble_eq_true rfl⟩ ⟨Nat.zero_le _, Nat.zero_le _⟩ _ (fun r23 => (gX9 E a (v_state, v_history, v_program, v_forecast))) (zk_pc (zk_pc (zk_pc zk_pa (zk_p1 (gs := (lX9 E a (v_state, v_history, v_program, v_forecast))) (i := 1) rfl)) (zk_p1 (gs := (lX6 E a.2.1 v_state)) (i := 1) rfl)) (zk_p1 (gs := (lX8 E a.2.1.2.1 v_state.1)) (i := 1) rfl)) (fun r23 => (zk_qc (zk_qc (zk_qc zk_qa (zk_q1 (gs := (lX9 E a (v_state, v_history, v_program, v_forecast))) (i := 1) (w1 := gX9 E a (v_state, v_history, v_program, v_forecast)) rfl rfl)) (zk_q1 (gs := (lX6 E a.2.1 v_state)) (i := 1) (w1 := gX6 E a.2.1 v_state) rfl rfl)) (zk_q1 (gs := (lX8 E a.2.1.2.1 v_state.1)) (i := 1) (w1 := gX8 E a.2.1.2.1 v_state.1) rfl rfl))) rfl rfl rfl rfl (Nat.le_of_ble_eq_true rfl) (fun r23 => [.int r23]) (fun _ => rfl) 26 rfl (fun r23 => ?_)
    refine zk_if_ne dX9_when_26 32 (by decide) 29 rfl (fun _ => ?_) (fun _ => ?_)
    · refine zk_bipush (-2) dX9_when_29 (by decide) 31 rfl ?_
      exact zk_iret hQ dX9_when_31 rfl rfl
    · refine zk_aload_n dX9_when_32 1 rfl 33 rfl ?_
      refine zk_get dX9_when_33 0 rfl rfl kX9_when_inX9 3 (by decide) kX9_when_4 rfl 36 rfl ?_
      refine zk_aload_n dX9_when_36 1 rfl 37 rfl ?_
      refine zk_get dX9_when_37 0 rfl rfl kX9_when_inX9 0 (by decide) kX9_when_1 rfl 40 rfl ?_
      refine zk_getN dX9_when_40 1 rfl rfl kX9_when_inX6 0 (by decide) (by decide +kernel) rfl 43 rfl ?_
      refine zk_iload_n dX9_when_43 2 rfl 44 rfl ?_
      refine zk_callV (ci := 1) (st := []) (c_X1_tickOfCall E l a.2.2.2.2 v_forecast a.2.1.2.1 v_state.1 x1) dX9_when_44 2 gX9_when_X1_tickOfCall rfl rfl rfl cd_X1_tickOfCall ⟨Nat.le_of_ble_eq_true rfl, Nat.le_of_ble_eq_true rfl⟩ ⟨Nat.zero_le _, Nat.zero_le _⟩ _ (fun r44 => (gX9 E a (v_state, v_history, v_program, r44.2))) (zk_pp zk_pa (zk_pb (gs := (lX9 E a (v_state, v_history, v_program, v_forecast))) (i := 3) (j := 1) rfl rfl (by decide)) zk_pa (zk_pc zk_pa (zk_p1 (gs := (lX6 E a.2.1 v_state)) (i := 1) rfl))) (fun r44 => (zk_qq zk_qa (zk_qb (gs := (lX9 E a (v_state, v_history, v_program, v_forecast))) (i := 3) (j := 1) (g' := gX1 E a.2.2.2.2 r44.2) (h' := gX6 E a.2.1 v_state) (w1 := gX9 E a (v_state, v_history, v_program, r44.2)) rfl rfl (by decide) rfl) zk_qa (zk_qc zk_qa (zk_q1 (gs := (lX6 E a.2.1 v_state)) (i := 1) (w1 := gX6 E a.2.1 v_state) rfl rfl)))) rfl rfl rfl rfl (Nat.le_of_ble_eq_true rfl) (fun r44 => [.int r44.1]) (fun _ => rfl) 47 rfl (fun r44 => ?_)
      exact zk_iret hQ dX9_when_47 rfl rfl
def f_X9_would (x1 : Int32) (x2 : Int32) (v_state : VX6) (v_forecast : VX1) : Option (Int32 × VX1) := if x1 < 1 then some ((-1), v_forecast) else if 600 < x1 then some ((-1), v_forecast) else if x2 < 0 then some ((-1), v_forecast) else if x2 ≤ 2 then (f_X1_outcome x1 x2 v_forecast v_state.1.1 v_state.1.2.1 v_state.1.2.2.1 v_state.1.2.2.2.1 v_state.1.2.2.2.2.1 v_state.1.2.2.2.2.2.1 v_state.1.2.2.2.2.2.2.1 v_state.1.2.2.2.2.2.2.2.1 v_state.1.2.2.2.2.2.2.2.2.1 v_state.1.2.2.2.2.2.2.2.2.2.1 v_state.1.2.2.2.2.2.2.2.2.2.2.1 v_state.1.2.2.2.2.2.2.2.2.2.2.2.1 v_state.1.2.2.2.2.2.2.2.2.2.2.2.2).bind fun r36 => some (r36.1, r36.2) else some ((-1), v_forecast)
theorem kX9_would_inX9 : ∀ w ∈ u_ws RX9 TX9 4, w ∈ wsX9_would := by decide +kernel
theorem kX9_would_1 : Cond.fieldLink RX9 33 (TX9 3).1 (TX9 3).2.1 (TX9 3).2.2.1 ∈ wsX9_would := by decide +kernel
theorem kX9_would_2 : Cond.fieldLink RX9 12 (TX9 0).1 (TX9 0).2.1 (TX9 0).2.2.1 ∈ wsX9_would := by decide +kernel
theorem kX9_would_inX6 : ∀ w ∈ u_ws RX6 TX6 3, w ∈ wsX9_would := by decide +kernel
theorem cd_X9_would : yX9_would.cls = RX9 ∧ yX9_would.cls ≠ "java/lang/invoke/MethodHandle" ∧ yX9_would.cls ≠ "java/lang/invoke/VarHandle" ∧ (parseMethodDescriptor yX9_would.desc).map (fun d => d.parameters.length) = some 2 := by decide +kernel
set_option maxRecDepth 100000 in
set_option maxHeartbeats 4000000 in
theorem c_X9_would (E : zk_Env) (l : Launch) (a : aX9) (v : VX9) (x1 : Int32) (x2 : Int32) : zk_Mc E l yX9_would wsX9_would ({ frames := 6, cells := 0, slots := 0, locals := 140 } : Room) [.ref a.1, .int x1, .int x2] (gX9 E a v) (f_X9_would x1 x2 v.1 v.2.2.2) (fun r => some (.int r.1)) (fun r => (gX9 E a (v.1, v.2.1, v.2.2.1, r.2))) := by
  obtain ⟨v_state, v_history, v_program, v_forecast⟩ := v
  refine zk_M (cc := cX9_would) (nL := 3) (ret := (some .int)) (by decide) rfl (Nat.le_of_ble_eq_true rfl) (fun X Q hQ => ?_)
  refine zk_eqv (w1 := (gX9 E a (v_state, v_history, v_program, v_forecast))) (lv1 := [(0, .ref a.1), (1, .int x1), (2, .int x2)]) (st1 := []) (o1 := f_X9_would x1 x2 v_state v_forecast) rfl rfl rfl rfl ?_
  unfold f_X9_would
  refine zk_iload_n dX9_would_0 1 rfl 1 rfl ?_
  refine zk_iconst 1 dX9_would_1 (by decide) 2 rfl ?_
  refine zk_icmp_lt dX9_would_2 21 (by decide) 5 rfl (fun _ => ?_) (fun _ => ?_)
  · refine zk_iconst (-1) dX9_would_21 (by decide) 22 rfl ?_
    exact zk_iret hQ dX9_would_22 rfl rfl
  · refine zk_iload_n dX9_would_5 1 rfl 6 rfl ?_
    refine zk_sipush 600 dX9_would_6 (by decide) 9 rfl ?_
    refine zk_icmp_gt dX9_would_9 21 (by decide) 12 rfl (fun _ => ?_) (fun _ => ?_)
    · refine zk_iconst (-1) dX9_would_21 (by decide) 22 rfl ?_
      exact zk_iret hQ dX9_would_22 rfl rfl
    · refine zk_iload_n dX9_would_12 2 rfl 13 rfl ?_
      refine zk_if_lt dX9_would_13 21 (by decide) 16 rfl (fun _ => ?_) (fun _ => ?_)
      · refine zk_iconst (-1) dX9_would_21 (by decide) 22 rfl ?_
        exact zk_iret hQ dX9_would_22 rfl rfl
      · refine zk_iload_n dX9_would_16 2 rfl 17 rfl ?_
        refine zk_iconst 2 dX9_would_17 (by decide) 18 rfl ?_
        refine zk_icmp_le dX9_would_18 23 (by decide) 21 rfl (fun _ => ?_) (fun _ => ?_)
        · refine zk_aload_n dX9_would_23 0 rfl 24 rfl ?_
          refine zk_get dX9_would_24 0 rfl rfl kX9_would_inX9 3 (by decide) kX9_would_1 rfl 27 rfl ?_
          refine zk_aload_n dX9_would_27 0 rfl 28 rfl ?_
          refine zk_get dX9_would_28 0 rfl rfl kX9_would_inX9 0 (by decide) kX9_would_2 rfl 31 rfl ?_
          refine zk_getN dX9_would_31 1 rfl rfl kX9_would_inX6 0 (by decide) (by decide +kernel) rfl 34 rfl ?_
          refine zk_iload_n dX9_would_34 1 rfl 35 rfl ?_
          refine zk_iload_n dX9_would_35 2 rfl 36 rfl ?_
          refine zk_callV (ci := 1) (st := []) (c_X1_outcome E l a.2.2.2.2 v_forecast a.2.1.2.1 v_state.1 x1 x2) dX9_would_36 3 gX9_would_X1_outcome rfl rfl rfl cd_X1_outcome ⟨Nat.le_of_ble_eq_true rfl, Nat.le_of_ble_eq_true rfl⟩ ⟨Nat.zero_le _, Nat.zero_le _⟩ _ (fun r36 => (gX9 E a (v_state, v_history, v_program, r36.2))) (zk_pp zk_pa (zk_pb (gs := (lX9 E a (v_state, v_history, v_program, v_forecast))) (i := 3) (j := 1) rfl rfl (by decide)) zk_pa (zk_pc zk_pa (zk_p1 (gs := (lX6 E a.2.1 v_state)) (i := 1) rfl))) (fun r36 => (zk_qq zk_qa (zk_qb (gs := (lX9 E a (v_state, v_history, v_program, v_forecast))) (i := 3) (j := 1) (g' := gX1 E a.2.2.2.2 r36.2) (h' := gX6 E a.2.1 v_state) (w1 := gX9 E a (v_state, v_history, v_program, r36.2)) rfl rfl (by decide) rfl) zk_qa (zk_qc zk_qa (zk_q1 (gs := (lX6 E a.2.1 v_state)) (i := 1) (w1 := gX6 E a.2.1 v_state) rfl rfl)))) rfl rfl rfl rfl (Nat.le_of_ble_eq_true rfl) (fun r36 => [.int r36.1]) (fun _ => rfl) 39 rfl (fun r36 => ?_)
          exact zk_iret hQ dX9_would_39 rfl rfl
        · refine zk_iconst (-1) dX9_would_21 (by decide) 22 rfl ?_
          exact zk_iret hQ dX9_would_22 rfl rfl
def f_X9_leastRoom (x1 : Int32) (v_state : VX6) (v_forecast : VX1) : Option (Int32 × VX1) := if x1 < 1 then some ((-1), v_forecast) else if x1 ≤ 200 then (f_X1_leastTimelyRoom x1 v_forecast v_state.1.1 v_state.1.2.1 v_state.1.2.2.1 v_state.1.2.2.2.1 v_state.1.2.2.2.2.1 v_state.1.2.2.2.2.2.1 v_state.1.2.2.2.2.2.2.1 v_state.1.2.2.2.2.2.2.2.1 v_state.1.2.2.2.2.2.2.2.2.1 v_state.1.2.2.2.2.2.2.2.2.2.1 v_state.1.2.2.2.2.2.2.2.2.2.2.1 v_state.1.2.2.2.2.2.2.2.2.2.2.2.1 v_state.1.2.2.2.2.2.2.2.2.2.2.2.2).bind fun r26 => some (r26.1, r26.2) else some ((-1), v_forecast)
theorem kX9_leastRoom_inX9 : ∀ w ∈ u_ws RX9 TX9 4, w ∈ wsX9_leastRoom := by decide +kernel
theorem kX9_leastRoom_1 : Cond.fieldLink RX9 33 (TX9 3).1 (TX9 3).2.1 (TX9 3).2.2.1 ∈ wsX9_leastRoom := by decide +kernel
theorem kX9_leastRoom_2 : Cond.fieldLink RX9 12 (TX9 0).1 (TX9 0).2.1 (TX9 0).2.2.1 ∈ wsX9_leastRoom := by decide +kernel
theorem kX9_leastRoom_inX6 : ∀ w ∈ u_ws RX6 TX6 3, w ∈ wsX9_leastRoom := by decide +kernel
theorem cd_X9_leastRoom : yX9_leastRoom.cls = RX9 ∧ yX9_leastRoom.cls ≠ "java/lang/invoke/MethodHandle" ∧ yX9_leastRoom.cls ≠ "java/lang/invoke/VarHandle" ∧ (parseMethodDescriptor yX9_leastRoom.desc).map (fun d => d.parameters.length) = some 1 := by decide +kernel
set_option maxRecDepth 100000 in
set_option maxHeartbeats 4000000 in
theorem c_X9_leastRoom (E : zk_Env) (l : Launch) (a : aX9) (v : VX9) (x1 : Int32) : zk_Mc E l yX9_leastRoom wsX9_leastRoom ({ frames := 7, cells := 0, slots := 0, locals := 161 } : Room) [.ref a.1, .int x1] (gX9 E a v) (f_X9_leastRoom x1 v.1 v.2.2.2) (fun r => some (.int r.1)) (fun r => (gX9 E a (v.1, v.2.1, v.2.2.1, r.2))) := by
  obtain ⟨v_state, v_history, v_program, v_forecast⟩ := v
  refine zk_M (cc := cX9_leastRoom) (nL := 2) (ret := (some .int)) (by decide) rfl (Nat.le_of_ble_eq_true rfl) (fun X Q hQ => ?_)
  refine zk_eqv (w1 := (gX9 E a (v_state, v_history, v_program, v_forecast))) (lv1 := [(0, .ref a.1), (1, .int x1)]) (st1 := []) (o1 := f_X9_leastRoom x1 v_state v_forecast) rfl rfl rfl rfl ?_
  unfold f_X9_leastRoom
  refine zk_iload_n dX9_leastRoom_0 1 rfl 1 rfl ?_
  refine zk_iconst 1 dX9_leastRoom_1 (by decide) 2 rfl ?_
  refine zk_icmp_lt dX9_leastRoom_2 12 (by decide) 5 rfl (fun _ => ?_) (fun _ => ?_)
  · refine zk_iconst (-1) dX9_leastRoom_12 (by decide) 13 rfl ?_
    exact zk_iret hQ dX9_leastRoom_13 rfl rfl
  · refine zk_iload_n dX9_leastRoom_5 1 rfl 6 rfl ?_
    refine zk_sipush 200 dX9_leastRoom_6 (by decide) 9 rfl ?_
    refine zk_icmp_le dX9_leastRoom_9 14 (by decide) 12 rfl (fun _ => ?_) (fun _ => ?_)
    · refine zk_aload_n dX9_leastRoom_14 0 rfl 15 rfl ?_
      refine zk_get dX9_leastRoom_15 0 rfl rfl kX9_leastRoom_inX9 3 (by decide) kX9_leastRoom_1 rfl 18 rfl ?_
      refine zk_aload_n dX9_leastRoom_18 0 rfl 19 rfl ?_
      refine zk_get dX9_leastRoom_19 0 rfl rfl kX9_leastRoom_inX9 0 (by decide) kX9_leastRoom_2 rfl 22 rfl ?_
      refine zk_getN dX9_leastRoom_22 1 rfl rfl kX9_leastRoom_inX6 0 (by decide) (by decide +kernel) rfl 25 rfl ?_
      refine zk_iload_n dX9_leastRoom_25 1 rfl 26 rfl ?_
      refine zk_callV (ci := 1) (st := []) (c_X1_leastTimelyRoom E l a.2.2.2.2 v_forecast a.2.1.2.1 v_state.1 x1) dX9_leastRoom_26 2 gX9_leastRoom_X1_leastTimelyRoom rfl rfl rfl cd_X1_leastTimelyRoom ⟨Nat.le_of_ble_eq_true rfl, Nat.le_of_ble_eq_true rfl⟩ ⟨Nat.zero_le _, Nat.zero_le _⟩ _ (fun r26 => (gX9 E a (v_state, v_history, v_program, r26.2))) (zk_pp zk_pa (zk_pb (gs := (lX9 E a (v_state, v_history, v_program, v_forecast))) (i := 3) (j := 1) rfl rfl (by decide)) zk_pa (zk_pc zk_pa (zk_p1 (gs := (lX6 E a.2.1 v_state)) (i := 1) rfl))) (fun r26 => (zk_qq zk_qa (zk_qb (gs := (lX9 E a (v_state, v_history, v_program, v_forecast))) (i := 3) (j := 1) (g' := gX1 E a.2.2.2.2 r26.2) (h' := gX6 E a.2.1 v_state) (w1 := gX9 E a (v_state, v_history, v_program, r26.2)) rfl rfl (by decide) rfl) zk_qa (zk_qc zk_qa (zk_q1 (gs := (lX6 E a.2.1 v_state)) (i := 1) (w1 := gX6 E a.2.1 v_state) rfl rfl)))) rfl rfl rfl rfl (Nat.le_of_ble_eq_true rfl) (fun r26 => [.int r26.1]) (fun _ => rfl) 29 rfl (fun r26 => ?_)
      exact zk_iret hQ dX9_leastRoom_29 rfl rfl
    · refine zk_iconst (-1) dX9_leastRoom_12 (by decide) 13 rfl ?_
      exact zk_iret hQ dX9_leastRoom_13 rfl rfl
