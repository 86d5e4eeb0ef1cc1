def f_X7_length (v_length : Int32) : Option (Int32) := some v_length
theorem kX7_length_inX7 : ∀ w ∈ u_ws RX7 TX7 5, w ∈ wsX7_length := by decide +kernel
theorem kX7_length_1 : Cond.fieldLink RX7 15 (TX7 1).1 (TX7 1).2.1 (TX7 1).2.2.1 ∈ wsX7_length := by decide +kernel
theorem cd_X7_length : yX7_length.cls = RX7 ∧ yX7_length.cls ≠ "java/lang/invoke/MethodHandle" ∧ yX7_length.cls ≠ "java/lang/invoke/VarHandle" ∧ (parseMethodDescriptor yX7_length.desc).map (fun d => d.parameters.length) = some 0 := by decide +kernel
set_option maxRecDepth 100000 in
set_option maxHeartbeats 4000000 in
theorem c_X7_length (E : zk_Env) (l : Launch) (a : aX7) (v : VX7)  : zk_Mc E l yX7_length wsX7_length ({ frames := 0, cells := 0, slots := 0, locals := 0 } : Room) [.ref a.1] (gX7 E a v) (f_X7_length v.2.1) (fun r => some (.int r)) (fun r => (gX7 E a v)) := by
  obtain ⟨v_characters, v_length, v_start, v_end, v_kind⟩ := v
  refine zk_M (cc := cX7_length) (nL := 1) (ret := (some .int)) (by decide) rfl (Nat.le_of_ble_eq_true rfl) (fun X Q hQ => ?_)
  refine zk_eqv (w1 := (gX7 E a (v_characters, v_length, v_start, v_end, v_kind))) (lv1 := [(0, .ref a.1)]) (st1 := []) (o1 := f_X7_length v_length) rfl rfl rfl rfl ?_
  unfold f_X7_length
  refine zk_aload_n dX7_length_0 0 rfl 1 rfl ?_
  refine zk_get dX7_length_1 0 rfl rfl kX7_length_inX7 1 (by decide) kX7_length_1 rfl 4 rfl ?_
  exact zk_iret hQ dX7_length_4 rfl rfl
