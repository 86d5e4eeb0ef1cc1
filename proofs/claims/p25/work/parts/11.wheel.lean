def f_X8_copyFrom (v_promises : VX5) (v_lines : VX3) (v_diary : VX0) (u_promises : VX5) (u_lines : VX3) (u_diary : VX0) (u_now : Int32) (u_room : Int32) (u_bound : Int32) (u_drift : Int32) (u_brokenStanding : Int32) (u_lateCalls : Int32) (u_falls : Int32) (u_swept : Int32) (u_passedOver : Int32) (u_longestQueue : Int32) : Option (VX5 × VX3 × VX0 × Int32 × Int32 × Int32 × Int32 × Int32 × Int32 × Int32 × Int32 × Int32 × Int32) := (f_X5_copyFrom v_promises.1 u_promises.1 u_promises.2).bind fun r8 => (f_X3_copyFrom v_lines.1 v_lines.2.1 v_lines.2.2.1 v_lines.2.2.2.1 v_lines.2.2.2.2 u_lines.1 u_lines.2.1 u_lines.2.2.1 u_lines.2.2.2.1 u_lines.2.2.2.2).bind fun r19 => (f_X0_copyFrom v_diary.1 u_diary.1 u_diary.2).bind fun r30 => some (r8, r19, r30, u_now, u_room, u_bound, u_drift, u_brokenStanding, u_lateCalls, u_falls, u_swept, u_passedOver, u_longestQueue)
theorem kX8_copyFrom_inX8 : ∀ w ∈ u_ws RX8 TX8 13, w ∈ wsX8_copyFrom := by decide +kernel
theorem kX8_copyFrom_1 : Cond.fieldLink RX8 12 (TX8 0).1 (TX8 0).2.1 (TX8 0).2.2.1 ∈ wsX8_copyFrom := by decide +kernel
theorem kX8_copyFrom_2 : Cond.fieldLink RX8 21 (TX8 1).1 (TX8 1).2.1 (TX8 1).2.2.1 ∈ wsX8_copyFrom := by decide +kernel
theorem kX8_copyFrom_3 : Cond.fieldLink RX8 28 (TX8 2).1 (TX8 2).2.1 (TX8 2).2.2.1 ∈ wsX8_copyFrom := by decide +kernel
theorem kX8_copyFrom_4 : Cond.fieldLink RX8 49 (TX8 3).1 (TX8 3).2.1 (TX8 3).2.2.1 ∈ wsX8_copyFrom := by decide +kernel
theorem kX8_copyFrom_5 : Cond.fieldLink RX8 32 (TX8 4).1 (TX8 4).2.1 (TX8 4).2.2.1 ∈ wsX8_copyFrom := by decide +kernel
theorem kX8_copyFrom_6 : Cond.fieldLink RX8 36 (TX8 5).1 (TX8 5).2.1 (TX8 5).2.2.1 ∈ wsX8_copyFrom := by decide +kernel
theorem kX8_copyFrom_7 : Cond.fieldLink RX8 52 (TX8 6).1 (TX8 6).2.1 (TX8 6).2.2.1 ∈ wsX8_copyFrom := by decide +kernel
theorem kX8_copyFrom_8 : Cond.fieldLink RX8 55 (TX8 7).1 (TX8 7).2.1 (TX8 7).2.2.1 ∈ wsX8_copyFrom := by decide +kernel
theorem kX8_copyFrom_9 : Cond.fieldLink RX8 58 (TX8 8).1 (TX8 8).2.1 (TX8 8).2.2.1 ∈ wsX8_copyFrom := by decide +kernel
theorem kX8_copyFrom_10 : Cond.fieldLink RX8 61 (TX8 9).1 (TX8 9).2.1 (TX8 9).2.2.1 ∈ wsX8_copyFrom := by decide +kernel
theorem kX8_copyFrom_11 : Cond.fieldLink RX8 64 (TX8 10).1 (TX8 10).2.1 (TX8 10).2.2.1 ∈ wsX8_copyFrom := by decide +kernel
theorem kX8_copyFrom_12 : Cond.fieldLink RX8 67 (TX8 11).1 (TX8 11).2.1 (TX8 11).2.2.1 ∈ wsX8_copyFrom := by decide +kernel
theorem kX8_copyFrom_13 : Cond.fieldLink RX8 70 (TX8 12).1 (TX8 12).2.1 (TX8 12).2.2.1 ∈ wsX8_copyFrom := by decide +kernel
theorem cd_X8_copyFrom : yX8_copyFrom.cls = RX8 ∧ yX8_copyFrom.cls ≠ "java/lang/invoke/MethodHandle" ∧ yX8_copyFrom.cls ≠ "java/lang/invoke/VarHandle" ∧ (parseMethodDescriptor yX8_copyFrom.desc).map (fun d => d.parameters.length) = some 1 := by decide +kernel
set_option maxRecDepth 100000 in
set_option maxHeartbeats 4000000 in
theorem c_X8_copyFrom (E : zk_Env) (l : Launch) (a : aX8) (v : VX8) (b1 : aX8) (u1 : VX8)  : zk_Mc E l yX8_copyFrom wsX8_copyFrom ({ frames := 2, cells := 0, slots := 0, locals := 39 } : Room) [.ref a.1, .ref b1.1] (zk_j [gX8 E a v, gX8 E b1 u1]) (f_X8_copyFrom v.1 v.2.1 v.2.2.1 u1.1 u1.2.1 u1.2.2.1 u1.2.2.2.1 u1.2.2.2.2.1 u1.2.2.2.2.2.1 u1.2.2.2.2.2.2.1 u1.2.2.2.2.2.2.2.1 u1.2.2.2.2.2.2.2.2.1 u1.2.2.2.2.2.2.2.2.2.1 u1.2.2.2.2.2.2.2.2.2.2.1 u1.2.2.2.2.2.2.2.2.2.2.2.1 u1.2.2.2.2.2.2.2.2.2.2.2.2) (fun _ => none) (fun r => (zk_j [gX8 E a r, gX8 E b1 u1])) := by
  obtain ⟨v_promises, v_lines, v_diary, v_now, v_room, v_bound, v_drift, v_brokenStanding, v_lateCalls, v_falls, v_swept, v_passedOver, v_longestQueue⟩ := v
  obtain ⟨u_promises, u_lines, u_diary, u_now, u_room, u_bound, u_drift, u_brokenStanding, u_lateCalls, u_falls, u_swept, u_passedOver, u_longestQueue⟩ := u1
  refine zk_M (cc := cX8_copyFrom) (nL := 2) (ret := none) (by decide) rfl (Nat.le_of_ble_eq_true rfl) (fun X Q hQ => ?_)
  refine zk_eqv (w1 := (zk_j [gX8 E a (v_promises, v_lines, v_diary, v_now, v_room, v_bound, v_drift, v_brokenStanding, v_lateCalls, v_falls, v_swept, v_passedOver, v_longestQueue), gX8 E b1 (u_promises, u_lines, u_diary, u_now, u_room, u_bound, u_drift, u_brokenStanding, u_lateCalls, u_falls, u_swept, u_passedOver, u_longestQueue)])) (lv1 := [(0, .ref a.1), (1, .ref b1.1)]) (st1 := []) (o1 := f_X8_copyFrom v_promises v_lines v_diary u_promises u_lines u_diary u_now u_room u_bound u_drift u_brokenStanding u_lateCalls u_falls u_swept u_passedOver u_longestQueue) rfl rfl rfl rfl ?_
  unfold f_X8_copyFrom
  refine zk_aload_n dX8_copyFrom_0 0 rfl 1 rfl ?_
  refine zk_get dX8_copyFrom_1 0 rfl rfl kX8_copyFrom_inX8 0 (by decide) kX8_copyFrom_1 rfl 4 rfl ?_
  refine zk_aload_n dX8_copyFrom_4 1 rfl 5 rfl ?_
  refine zk_get dX8_copyFrom_5 11 rfl rfl kX8_copyFrom_inX8 0 (by decide) kX8_copyFrom_1 rfl 8 rfl ?_
  refine zk_callV (ci := 5) (st := []) (c_X5_copyFrom E l a.2.1 v_promises b1.2.1 u_promises) dX8_copyFrom_8 1 gX8_copyFrom_X5_copyFrom rfl rfl rfl cd_X5_copyFrom ⟨Nat.le_of_ble_eq_true rfl, Nat.le_of_ble_eq_true rfl⟩ ⟨Nat.zero_le _, Nat.zero_le _⟩ _ (fun r8 => (zk_j [gX8 E a (r8, v_lines, v_diary, v_now, v_room, v_bound, v_drift, v_brokenStanding, v_lateCalls, v_falls, v_swept, v_passedOver, v_longestQueue), gX8 E b1 (u_promises, u_lines, u_diary, u_now, u_room, u_bound, u_drift, u_brokenStanding, u_lateCalls, u_falls, u_swept, u_passedOver, u_longestQueue)])) (zk_pp zk_pa (zk_pb (gs := [gX8 E a (v_promises, v_lines, v_diary, v_now, v_room, v_bound, v_drift, v_brokenStanding, v_lateCalls, v_falls, v_swept, v_passedOver, v_longestQueue), gX8 E b1 (u_promises, u_lines, u_diary, u_now, u_room, u_bound, u_drift, u_brokenStanding, u_lateCalls, u_falls, u_swept, u_passedOver, u_longestQueue)]) (i := 0) (j := 1) rfl rfl (by decide)) (zk_pc zk_pa (zk_p1 (gs := (lX8 E a (v_promises, v_lines, v_diary, v_now, v_room, v_bound, v_drift, v_brokenStanding, v_lateCalls, v_falls, v_swept, v_passedOver, v_longestQueue))) (i := 1) rfl)) (zk_pc zk_pa (zk_p1 (gs := (lX8 E b1 (u_promises, u_lines, u_diary, u_now, u_room, u_bound, u_drift, u_brokenStanding, u_lateCalls, u_falls, u_swept, u_passedOver, u_longestQueue))) (i := 1) rfl))) (fun r8 => (zk_qq zk_qa (zk_qb (gs := [gX8 E a (v_promises, v_lines, v_diary, v_now, v_room, v_bound, v_drift, v_brokenStanding, v_lateCalls, v_falls, v_swept, v_passedOver, v_longestQueue), gX8 E b1 (u_promises, u_lines, u_diary, u_now, u_room, u_bound, u_drift, u_brokenStanding, u_lateCalls, u_falls, u_swept, u_passedOver, u_longestQueue)]) (i := 0) (j := 1) (g' := gX8 E a (r8, v_lines, v_diary, v_now, v_room, v_bound, v_drift, v_brokenStanding, v_lateCalls, v_falls, v_swept, v_passedOver, v_longestQueue)) (h' := gX8 E b1 (u_promises, u_lines, u_diary, u_now, u_room, u_bound, u_drift, u_brokenStanding, u_lateCalls, u_falls, u_swept, u_passedOver, u_longestQueue)) rfl rfl (by decide) rfl) (zk_qc zk_qa (zk_q1 (gs := (lX8 E a (v_promises, v_lines, v_diary, v_now, v_room, v_bound, v_drift, v_brokenStanding, v_lateCalls, v_falls, v_swept, v_passedOver, v_longestQueue))) (i := 1) (w1 := gX8 E a (r8, v_lines, v_diary, v_now, v_room, v_bound, v_drift, v_brokenStanding, v_lateCalls, v_falls, v_swept, v_passedOver, v_longestQueue)) rfl rfl)) (zk_qc zk_qa (zk_q1 (gs := (lX8 E b1 (u_promises, u_lines, u_diary, u_now, u_room, u_bound, u_drift, u_brokenStanding, u_lateCalls, u_falls, u_swept, u_passedOver, u_longestQueue))) (i := 1) (w1 := gX8 E b1 (u_promises, u_lines, u_diary, u_now, u_room, u_bound, u_drift, u_brokenStanding, u_lateCalls, u_falls, u_swept, u_passedOver, u_longestQueue)) rfl rfl)))) rfl rfl rfl rfl (Nat.le_of_ble_eq_true rfl) (fun r8 => []) (fun _ => rfl) 11 rfl (fun r8 => ?_)
  refine zk_aload_n dX8_copyFrom_11 0 rfl 12 rfl ?_
  refine zk_get dX8_copyFrom_12 0 rfl rfl kX8_copyFrom_inX8 1 (by decide) kX8_copyFrom_2 rfl 15 rfl ?_
  refine zk_aload_n dX8_copyFrom_15 1 rfl 16 rfl ?_
  refine zk_get dX8_copyFrom_16 11 rfl rfl kX8_copyFrom_inX8 1 (by decide) kX8_copyFrom_2 rfl 19 rfl ?_
  refine zk_callV (ci := 3) (st := []) (c_X3_copyFrom E l a.2.2.1 v_lines b1.2.2.1 u_lines) dX8_copyFrom_19 1 gX8_copyFrom_X3_copyFrom rfl rfl rfl cd_X3_copyFrom ⟨Nat.le_of_ble_eq_true rfl, Nat.le_of_ble_eq_true rfl⟩ ⟨Nat.zero_le _, Nat.zero_le _⟩ _ (fun r19 => (zk_j [gX8 E a (r8, r19, v_diary, v_now, v_room, v_bound, v_drift, v_brokenStanding, v_lateCalls, v_falls, v_swept, v_passedOver, v_longestQueue), gX8 E b1 (u_promises, u_lines, u_diary, u_now, u_room, u_bound, u_drift, u_brokenStanding, u_lateCalls, u_falls, u_swept, u_passedOver, u_longestQueue)])) (zk_pp zk_pa (zk_pb (gs := [gX8 E a (r8, v_lines, v_diary, v_now, v_room, v_bound, v_drift, v_brokenStanding, v_lateCalls, v_falls, v_swept, v_passedOver, v_longestQueue), gX8 E b1 (u_promises, u_lines, u_diary, u_now, u_room, u_bound, u_drift, u_brokenStanding, u_lateCalls, u_falls, u_swept, u_passedOver, u_longestQueue)]) (i := 0) (j := 1) rfl rfl (by decide)) (zk_pc zk_pa (zk_p1 (gs := (lX8 E a (r8, v_lines, v_diary, v_now, v_room, v_bound, v_drift, v_brokenStanding, v_lateCalls, v_falls, v_swept, v_passedOver, v_longestQueue))) (i := 2) rfl)) (zk_pc zk_pa (zk_p1 (gs := (lX8 E b1 (u_promises, u_lines, u_diary, u_now, u_room, u_bound, u_drift, u_brokenStanding, u_lateCalls, u_falls, u_swept, u_passedOver, u_longestQueue))) (i := 2) rfl))) (fun r19 => (zk_qq zk_qa (zk_qb (gs := [gX8 E a (r8, v_lines, v_diary, v_now, v_room, v_bound, v_drift, v_brokenStanding, v_lateCalls, v_falls, v_swept, v_passedOver, v_longestQueue), gX8 E b1 (u_promises, u_lines, u_diary, u_now, u_room, u_bound, u_drift, u_brokenStanding, u_lateCalls, u_falls, u_swept, u_passedOver, u_longestQueue)]) (i := 0) (j := 1) (g' := gX8 E a (r8, r19, v_diary, v_now, v_room, v_bound, v_drift, v_brokenStanding, v_lateCalls, v_falls, v_swept, v_passedOver, v_longestQueue)) (h' := gX8 E b1 (u_promises, u_lines, u_diary, u_now, u_room, u_bound, u_drift, u_brokenStanding, u_lateCalls, u_falls, u_swept, u_passedOver, u_longestQueue)) rfl rfl (by decide) rfl) (zk_qc zk_qa (zk_q1 (gs := (lX8 E a (r8, v_lines, v_diary, v_now, v_room, v_bound, v_drift, v_brokenStanding, v_lateCalls, v_falls, v_swept, v_passedOver, v_longestQueue))) (i := 2) (w1 := gX8 E a (r8, r19, v_diary, v_now, v_room, v_bound, v_drift, v_brokenStanding, v_lateCalls, v_falls, v_swept, v_passedOver, v_longestQueue)) rfl rfl)) (zk_qc zk_qa (zk_q1 (gs := (lX8 E b1 (u_promises, u_lines, u_diary, u_now, u_room, u_bound, u_drift, u_brokenStanding, u_lateCalls, u_falls, u_swept, u_passedOver, u_longestQueue))) (i := 2) (w1 := gX8 E b1 (u_promises, u_lines, u_diary, u_now, u_room, u_bound, u_drift, u_brokenStanding, u_lateCalls, u_falls, u_swept, u_passedOver, u_longestQueue)) rfl rfl)))) rfl rfl rfl rfl (Nat.le_of_ble_eq_true rfl) (fun r19 => []) (fun _ => rfl) 22 rfl (fun r19 => ?_)
  refine zk_aload_n dX8_copyFrom_22 0 rfl 23 rfl ?_
  refine zk_get dX8_copyFrom_23 0 rfl rfl kX8_copyFrom_inX8 2 (by decide) kX8_copyFrom_3 rfl 26 rfl ?_
  refine zk_aload_n dX8_copyFrom_26 1 rfl 27 rfl ?_
  refine zk_get dX8_copyFrom_27 11 rfl rfl kX8_copyFrom_inX8 2 (by decide) kX8_copyFrom_3 rfl 30 rfl ?_
  refine zk_callV (ci := 0) (st := []) (c_X0_copyFrom E l a.2.2.2 v_diary b1.2.2.2 u_diary) dX8_copyFrom_30 1 gX8_copyFrom_X0_copyFrom rfl rfl rfl cd_X0_copyFrom ⟨Nat.le_of_ble_eq_true rfl, Nat.le_of_ble_eq_true rfl⟩ ⟨Nat.zero_le _, Nat.zero_le _⟩ _ (fun r30 => (zk_j [gX8 E a (r8, r19, r30, v_now, v_room, v_bound, v_drift, v_brokenStanding, v_lateCalls, v_falls, v_swept, v_passedOver, v_longestQueue), gX8 E b1 (u_promises, u_lines, u_diary, u_now, u_room, u_bound, u_drift, u_brokenStanding, u_lateCalls, u_falls, u_swept, u_passedOver, u_longestQueue)])) (zk_pp zk_pa (zk_pb (gs := [gX8 E a (r8, r19, v_diary, v_now, v_room, v_bound, v_drift, v_brokenStanding, v_lateCalls, v_falls, v_swept, v_passedOver, v_longestQueue), gX8 E b1 (u_promises, u_lines, u_diary, u_now, u_room, u_bound, u_drift, u_brokenStanding, u_lateCalls, u_falls, u_swept, u_passedOver, u_longestQueue)]) (i := 0) (j := 1) rfl rfl (by decide)) (zk_pc zk_pa (zk_p1 (gs := (lX8 E a (r8, r19, v_diary, v_now, v_room, v_bound, v_drift, v_brokenStanding, v_lateCalls, v_falls, v_swept, v_passedOver, v_longestQueue))) (i := 3) rfl)) (zk_pc zk_pa (zk_p1 (gs := (lX8 E b1 (u_promises, u_lines, u_diary, u_now, u_room, u_bound, u_drift, u_brokenStanding, u_lateCalls, u_falls, u_swept, u_passedOver, u_longestQueue))) (i := 3) rfl))) (fun r30 => (zk_qq zk_qa (zk_qb (gs := [gX8 E a (r8, r19, v_diary, v_now, v_room, v_bound, v_drift, v_brokenStanding, v_lateCalls, v_falls, v_swept, v_passedOver, v_longestQueue), gX8 E b1 (u_promises, u_lines, u_diary, u_now, u_room, u_bound, u_drift, u_brokenStanding, u_lateCalls, u_falls, u_swept, u_passedOver, u_longestQueue)]) (i := 0) (j := 1) (g' := gX8 E a (r8, r19, r30, v_now, v_room, v_bound, v_drift, v_brokenStanding, v_lateCalls, v_falls, v_swept, v_passedOver, v_longestQueue)) (h' := gX8 E b1 (u_promises, u_lines, u_diary, u_now, u_room, u_bound, u_drift, u_brokenStanding, u_lateCalls, u_falls, u_swept, u_passedOver, u_longestQueue)) rfl rfl (by decide) rfl) (zk_qc zk_qa (zk_q1 (gs := (lX8 E a (r8, r19, v_diary, v_now, v_room, v_bound, v_drift, v_brokenStanding, v_lateCalls, v_falls, v_swept, v_passedOver, v_longestQueue))) (i := 3) (w1 := gX8 E a (r8, r19, r30, v_now, v_room, v_bound, v_drift, v_brokenStanding, v_lateCalls, v_falls, v_swept, v_passedOver, v_longestQueue)) rfl rfl)) (zk_qc zk_qa (zk_q1 (gs := (lX8 E b1 (u_promises, u_lines, u_diary, u_now, u_room, u_bound, u_drift, u_brokenStanding, u_lateCalls, u_falls, u_swept, u_passedOver, u_longestQueue))) (i := 3) (w1 := gX8 E b1 (u_promises, u_lines, u_diary, u_now, u_room, u_bound, u_drift, u_brokenStanding, u_lateCalls, u_falls, u_swept, u_passedOver, u_longestQueue)) rfl rfl)))) rfl rfl rfl rfl (Nat.le_of_ble_eq_true rfl) (fun r30 => []) (fun _ => rfl) 33 rfl (fun r30 => ?_)
  refine zk_aload_n dX8_copyFrom_33 0 rfl 34 rfl ?_
  refine zk_aload_n dX8_copyFrom_34 1 rfl 35 rfl ?_
  refine zk_get dX8_copyFrom_35 11 rfl rfl kX8_copyFrom_inX8 3 (by decide) kX8_copyFrom_4 rfl 38 rfl ?_
  refine zk_put_ tyX8 (zk_j [gX8 E a (r8, r19, r30, u_now, v_room, v_bound, v_drift, v_brokenStanding, v_lateCalls, v_falls, v_swept, v_passedOver, v_longestQueue), gX8 E b1 (u_promises, u_lines, u_diary, u_now, u_room, u_bound, u_drift, u_brokenStanding, u_lateCalls, u_falls, u_swept, u_passedOver, u_longestQueue)]) dX8_copyFrom_38 0 rfl rfl kX8_copyFrom_inX8 tyX8_ok nmX8 3 (by decide) kX8_copyFrom_4 rfl (tyX8_ok 3 (by decide)) rfl rfl (Nat.le_of_ble_eq_true rfl) rfl 41 rfl ?_
  refine zk_aload_n dX8_copyFrom_41 0 rfl 42 rfl ?_
  refine zk_aload_n dX8_copyFrom_42 1 rfl 43 rfl ?_
  refine zk_get dX8_copyFrom_43 11 rfl rfl kX8_copyFrom_inX8 4 (by decide) kX8_copyFrom_5 rfl 46 rfl ?_
  refine zk_put_ tyX8 (zk_j [gX8 E a (r8, r19, r30, u_now, u_room, v_bound, v_drift, v_brokenStanding, v_lateCalls, v_falls, v_swept, v_passedOver, v_longestQueue), gX8 E b1 (u_promises, u_lines, u_diary, u_now, u_room, u_bound, u_drift, u_brokenStanding, u_lateCalls, u_falls, u_swept, u_passedOver, u_longestQueue)]) dX8_copyFrom_46 0 rfl rfl kX8_copyFrom_inX8 tyX8_ok nmX8 4 (by decide) kX8_copyFrom_5 rfl (tyX8_ok 4 (by decide)) rfl rfl (Nat.le_of_ble_eq_true rfl) rfl 49 rfl ?_
  refine zk_aload_n dX8_copyFrom_49 0 rfl 50 rfl ?_
  refine zk_aload_n dX8_copyFrom_50 1 rfl 51 rfl ?_
  refine zk_get dX8_copyFrom_51 11 rfl rfl kX8_copyFrom_inX8 5 (by decide) kX8_copyFrom_6 rfl 54 rfl ?_
  refine zk_put_ tyX8 (zk_j [gX8 E a (r8, r19, r30, u_now, u_room, u_bound, v_drift, v_brokenStanding, v_lateCalls, v_falls, v_swept, v_passedOver, v_longestQueue), gX8 E b1 (u_promises, u_lines, u_diary, u_now, u_room, u_bound, u_drift, u_brokenStanding, u_lateCalls, u_falls, u_swept, u_passedOver, u_longestQueue)]) dX8_copyFrom_54 0 rfl rfl kX8_copyFrom_inX8 tyX8_ok nmX8 5 (by decide) kX8_copyFrom_6 rfl (tyX8_ok 5 (by decide)) rfl rfl (Nat.le_of_ble_eq_true rfl) rfl 57 rfl ?_
  refine zk_aload_n dX8_copyFrom_57 0 rfl 58 rfl ?_
  refine zk_aload_n dX8_copyFrom_58 1 rfl 59 rfl ?_
  refine zk_get dX8_copyFrom_59 11 rfl rfl kX8_copyFrom_inX8 6 (by decide) kX8_copyFrom_7 rfl 62 rfl ?_
  refine zk_put_ tyX8 (zk_j [gX8 E a (r8, r19, r30, u_now, u_room, u_bound, u_drift, v_brokenStanding, v_lateCalls, v_falls, v_swept, v_passedOver, v_longestQueue), gX8 E b1 (u_promises, u_lines, u_diary, u_now, u_room, u_bound, u_drift, u_brokenStanding, u_lateCalls, u_falls, u_swept, u_passedOver, u_longestQueue)]) dX8_copyFrom_62 0 rfl rfl kX8_copyFrom_inX8 tyX8_ok nmX8 6 (by decide) kX8_copyFrom_7 rfl (tyX8_ok 6 (by decide)) rfl rfl (Nat.le_of_ble_eq_true rfl) rfl 65 rfl ?_
  refine zk_aload_n dX8_copyFrom_65 0 rfl 66 rfl ?_
  refine zk_aload_n dX8_copyFrom_66 1 rfl 67 rfl ?_
  refine zk_get dX8_copyFrom_67 11 rfl rfl kX8_copyFrom_inX8 7 (by decide) kX8_copyFrom_8 rfl 70 rfl ?_
  refine zk_put_ tyX8 (zk_j [gX8 E a (r8, r19, r30, u_now, u_room, u_bound, u_drift, u_brokenStanding, v_lateCalls, v_falls, v_swept, v_passedOver, v_longestQueue), gX8 E b1 (u_promises, u_lines, u_diary, u_now, u_room, u_bound, u_drift, u_brokenStanding, u_lateCalls, u_falls, u_swept, u_passedOver, u_longestQueue)]) dX8_copyFrom_70 0 rfl rfl kX8_copyFrom_inX8 tyX8_ok nmX8 7 (by decide) kX8_copyFrom_8 rfl (tyX8_ok 7 (by decide)) rfl rfl (Nat.le_of_ble_eq_true rfl) rfl 73 rfl ?_
  refine zk_aload_n dX8_copyFrom_73 0 rfl 74 rfl ?_
  refine zk_aload_n dX8_copyFrom_74 1 rfl 75 rfl ?_
  refine zk_get dX8_copyFrom_75 11 rfl rfl kX8_copyFrom_inX8 8 (by decide) kX8_copyFrom_9 rfl 78 rfl ?_
  refine zk_put_ tyX8 (zk_j [gX8 E a (r8, r19, r30, u_now, u_room, u_bound, u_drift, u_brokenStanding, u_lateCalls, v_falls, v_swept, v_passedOver, v_longestQueue), gX8 E b1 (u_promises, u_lines, u_diary, u_now, u_room, u_bound, u_drift, u_brokenStanding, u_lateCalls, u_falls, u_swept, u_passedOver, u_longestQueue)]) dX8_copyFrom_78 0 rfl rfl kX8_copyFrom_inX8 tyX8_ok nmX8 8 (by decide) kX8_copyFrom_9 rfl (tyX8_ok 8 (by decide)) rfl rfl (Nat.le_of_ble_eq_true rfl) rfl 81 rfl ?_
  refine zk_aload_n dX8_copyFrom_81 0 rfl 82 rfl ?_
  refine zk_aload_n dX8_copyFrom_82 1 rfl 83 rfl ?_
  refine zk_get dX8_copyFrom_83 11 rfl rfl kX8_copyFrom_inX8 9 (by decide) kX8_copyFrom_10 rfl 86 rfl ?_
  refine zk_put_ tyX8 (zk_j [gX8 E a (r8, r19, r30, u_now, u_room, u_bound, u_drift, u_brokenStanding, u_lateCalls, u_falls, v_swept, v_passedOver, v_longestQueue), gX8 E b1 (u_promises, u_lines, u_diary, u_now, u_room, u_bound, u_drift, u_brokenStanding, u_lateCalls, u_falls, u_swept, u_passedOver, u_longestQueue)]) dX8_copyFrom_86 0 rfl rfl kX8_copyFrom_inX8 tyX8_ok nmX8 9 (by decide) kX8_copyFrom_10 rfl (tyX8_ok 9 (by decide)) rfl rfl (Nat.le_of_ble_eq_true rfl) rfl 89 rfl ?_
  refine zk_aload_n dX8_copyFrom_89 0 rfl 90 rfl ?_
  refine zk_aload_n dX8_copyFrom_90 1 rfl 91 rfl ?_
  refine zk_get dX8_copyFrom_91 11 rfl rfl kX8_copyFrom_inX8 10 (by decide) kX8_copyFrom_11 rfl 94 rfl ?_
  refine zk_put_ tyX8 (zk_j [gX8 E a (r8, r19, r30, u_now, u_room, u_bound, u_drift, u_brokenStanding, u_lateCalls, u_falls, u_swept, v_passedOver, v_longestQueue), gX8 E b1 (u_promises, u_lines, u_diary, u_now, u_room, u_bound, u_drift, u_brokenStanding, u_lateCalls, u_falls, u_swept, u_passedOver, u_longestQueue)]) dX8_copyFrom_94 0 rfl rfl kX8_copyFrom_inX8 tyX8_ok nmX8 10 (by decide) kX8_copyFrom_11 rfl (tyX8_ok 10 (by decide)) rfl rfl (Nat.le_of_ble_eq_true rfl) rfl 97 rfl ?_
  refine zk_aload_n dX8_copyFrom_97 0 rfl 98 rfl ?_
  refine zk_aload_n dX8_copyFrom_98 1 rfl 99 rfl ?_
  refine zk_get dX8_copyFrom_99 11 rfl rfl kX8_copyFrom_inX8 11 (by decide) kX8_copyFrom_12 rfl 102 rfl ?_
  refine zk_put_ tyX8 (zk_j [gX8 E a (r8, r19, r30, u_now, u_room, u_bound, u_drift, u_brokenStanding, u_lateCalls, u_falls, u_swept, u_passedOver, v_longestQueue), gX8 E b1 (u_promises, u_lines, u_diary, u_now, u_room, u_bound, u_drift, u_brokenStanding, u_lateCalls, u_falls, u_swept, u_passedOver, u_longestQueue)]) dX8_copyFrom_102 0 rfl rfl kX8_copyFrom_inX8 tyX8_ok nmX8 11 (by decide) kX8_copyFrom_12 rfl (tyX8_ok 11 (by decide)) rfl rfl (Nat.le_of_ble_eq_true rfl) rfl 105 rfl ?_
  refine zk_aload_n dX8_copyFrom_105 0 rfl 106 rfl ?_
  refine zk_aload_n dX8_copyFrom_106 1 rfl 107 rfl ?_
  refine zk_get dX8_copyFrom_107 11 rfl rfl kX8_copyFrom_inX8 12 (by decide) kX8_copyFrom_13 rfl 110 rfl ?_
  refine zk_put_ tyX8 (zk_j [gX8 E a (r8, r19, r30, u_now, u_room, u_bound, u_drift, u_brokenStanding, u_lateCalls, u_falls, u_swept, u_passedOver, u_longestQueue), gX8 E b1 (u_promises, u_lines, u_diary, u_now, u_room, u_bound, u_drift, u_brokenStanding, u_lateCalls, u_falls, u_swept, u_passedOver, u_longestQueue)]) dX8_copyFrom_110 0 rfl rfl kX8_copyFrom_inX8 tyX8_ok nmX8 12 (by decide) kX8_copyFrom_13 rfl (tyX8_ok 12 (by decide)) rfl rfl (Nat.le_of_ble_eq_true rfl) rfl 113 rfl ?_
  exact zk_vret hQ dX8_copyFrom_113 rfl rfl
def f_X8_breakPromise (x1 : Int32) (v_promises : VX5) (v_brokenStanding : Int32) : Option (Int32 × VX5 × Int32) := (f_X5_has x1 v_promises.2).bind fun r5 => if r5 = 0 then some ((-1), v_promises, v_brokenStanding) else (f_X5_isAlive x1 v_promises.1).bind fun r18 => if r18 = 0 then some ((-2), v_promises, v_brokenStanding) else (f_X5_write x1 0 3 v_promises.1).bind fun r34 => zk_let (v_brokenStanding + 1) fun v_brokenStanding_1 => some (v_brokenStanding_1, (r34, v_promises.2), v_brokenStanding_1)
theorem kX8_breakPromise_inX8 : ∀ w ∈ u_ws RX8 TX8 13, w ∈ wsX8_breakPromise := by decide +kernel
theorem kX8_breakPromise_1 : Cond.fieldLink RX8 12 (TX8 0).1 (TX8 0).2.1 (TX8 0).2.2.1 ∈ wsX8_breakPromise := by decide +kernel
theorem kX8_breakPromise_2 : Cond.fieldLink RX8 55 (TX8 7).1 (TX8 7).2.1 (TX8 7).2.2.1 ∈ wsX8_breakPromise := by decide +kernel
theorem cd_X8_breakPromise : yX8_breakPromise.cls = RX8 ∧ yX8_breakPromise.cls ≠ "java/lang/invoke/MethodHandle" ∧ yX8_breakPromise.cls ≠ "java/lang/invoke/VarHandle" ∧ (parseMethodDescriptor yX8_breakPromise.desc).map (fun d => d.parameters.length) = some 1 := by decide +kernel
set_option maxRecDepth 100000 in
set_option maxHeartbeats 4000000 in
theorem c_X8_breakPromise (E : zk_Env) (l : Launch) (a : aX8) (v : VX8) (x1 : Int32) : zk_Mc E l yX8_breakPromise wsX8_breakPromise ({ frames := 2, cells := 0, slots := 0, locals := 44 } : Room) [.ref a.1, .int x1] (gX8 E a v) (f_X8_breakPromise x1 v.1 v.2.2.2.2.2.2.2.1) (fun r => some (.int r.1)) (fun r => (gX8 E a (r.2.1, v.2.1, v.2.2.1, v.2.2.2.1, v.2.2.2.2.1, v.2.2.2.2.2.1, v.2.2.2.2.2.2.1, r.2.2, v.2.2.2.2.2.2.2.2))) := by
  obtain ⟨v_promises, v_lines, v_diary, v_now, v_room, v_bound, v_drift, v_brokenStanding, v_lateCalls, v_falls, v_swept, v_passedOver, v_longestQueue⟩ := v
  refine zk_M (cc := cX8_breakPromise) (nL := 2) (ret := (some .int)) (by decide) rfl (Nat.le_of_ble_eq_true rfl) (fun X Q hQ => ?_)
  refine zk_eqv (w1 := (gX8 E a (v_promises, v_lines, v_diary, v_now, v_room, v_bound, v_drift, v_brokenStanding, v_lateCalls, v_falls, v_swept, v_passedOver, v_longestQueue))) (lv1 := [(0, .ref a.1), (1, .int x1)]) (st1 := []) (o1 := f_X8_breakPromise x1 v_promises v_brokenStanding) rfl rfl rfl rfl ?_
  unfold f_X8_breakPromise
  refine zk_aload_n dX8_breakPromise_0 0 rfl 1 rfl ?_
  refine zk_get dX8_breakPromise_1 0 rfl rfl kX8_breakPromise_inX8 0 (by decide) kX8_breakPromise_1 rfl 4 rfl ?_
  refine zk_iload_n dX8_breakPromise_4 1 rfl 5 rfl ?_
  refine zk_callV (ci := 5) (st := []) (c_X5_has E l a.2.1 v_promises x1) dX8_breakPromise_5 1 gX8_breakPromise_X5_has rfl rfl rfl cd_X5_has ⟨Nat.le_of_ble_eq_true rfl, Nat.le_of_ble_eq_true rfl⟩ ⟨Nat.zero_le _, Nat.zero_le _⟩ _ (fun r5 => (gX8 E a (v_promises, v_lines, v_diary, v_now, v_room, v_bound, v_drift, v_brokenStanding, v_lateCalls, v_falls, v_swept, v_passedOver, v_longestQueue))) (zk_pc zk_pa (zk_p1 (gs := (lX8 E a (v_promises, v_lines, v_diary, v_now, v_room, v_bound, v_drift, v_brokenStanding, v_lateCalls, v_falls, v_swept, v_passedOver, v_longestQueue))) (i := 1) rfl)) (fun r5 => (zk_qc zk_qa (zk_q1 (gs := (lX8 E a (v_promises, v_lines, v_diary, v_now, v_room, v_bound, v_drift, v_brokenStanding, v_lateCalls, v_falls, v_swept, v_passedOver, v_longestQueue))) (i := 1) (w1 := gX8 E a (v_promises, v_lines, v_diary, v_now, v_room, v_bound, v_drift, v_brokenStanding, v_lateCalls, v_falls, v_swept, v_passedOver, v_longestQueue)) rfl rfl))) rfl rfl rfl rfl (Nat.le_of_ble_eq_true rfl) (fun r5 => [.int r5]) (fun _ => rfl) 8 rfl (fun r5 => ?_)
  refine zk_if_ne dX8_breakPromise_8 13 (by decide) 11 rfl (fun _ => ?_) (fun _ => ?_)
  · refine zk_iconst (-1) dX8_breakPromise_11 (by decide) 12 rfl ?_
    exact zk_iret hQ dX8_breakPromise_12 rfl rfl
  · refine zk_aload_n dX8_breakPromise_13 0 rfl 14 rfl ?_
    refine zk_get dX8_breakPromise_14 0 rfl rfl kX8_breakPromise_inX8 0 (by decide) kX8_breakPromise_1 rfl 17 rfl ?_
    refine zk_iload_n dX8_breakPromise_17 1 rfl 18 rfl ?_
    refine zk_callV (ci := 5) (st := []) (c_X5_isAlive E l a.2.1 v_promises x1) dX8_breakPromise_18 1 gX8_breakPromise_X5_isAlive rfl rfl rfl cd_X5_isAlive ⟨Nat.le_of_ble_eq_true rfl, Nat.le_of_ble_eq_true rfl⟩ ⟨Nat.zero_le _, Nat.zero_le _⟩ _ (fun r18 => (gX8 E a (v_promises, v_lines, v_diary, v_now, v_room, v_bound, v_drift, v_brokenStanding, v_lateCalls, v_falls, v_swept, v_passedOver, v_longestQueue))) (zk_pc zk_pa (zk_p1 (gs := (lX8 E a (v_promises, v_lines, v_diary, v_now, v_room, v_bound, v_drift, v_brokenStanding, v_lateCalls, v_falls, v_swept, v_passedOver, v_longestQueue))) (i := 1) rfl)) (fun r18 => (zk_qc zk_qa (zk_q1 (gs := (lX8 E a (v_promises, v_lines, v_diary, v_now, v_room, v_bound, v_drift, v_brokenStanding, v_lateCalls, v_falls, v_swept, v_passedOver, v_longestQueue))) (i := 1) (w1 := gX8 E a (v_promises, v_lines, v_diary, v_now, v_room, v_bound, v_drift, v_brokenStanding, v_lateCalls, v_falls, v_swept, v_passedOver, v_longestQueue)) rfl rfl))) rfl rfl rfl rfl (Nat.le_of_ble_eq_true rfl) (fun r18 => [.int r18]) (fun _ => rfl) 21 rfl (fun r18 => ?_)
    refine zk_if_ne dX8_breakPromise_21 27 (by decide) 24 rfl (fun _ => ?_) (fun _ => ?_)
    · refine zk_bipush (-2) dX8_breakPromise_24 (by decide) 26 rfl ?_
      exact zk_iret hQ dX8_breakPromise_26 rfl rfl
    · refine zk_aload_n dX8_breakPromise_27 0 rfl 28 rfl ?_
      refine zk_get dX8_breakPromise_28 0 rfl rfl kX8_breakPromise_inX8 0 (by decide) kX8_breakPromise_1 rfl 31 rfl ?_
      refine zk_iload_n dX8_breakPromise_31 1 rfl 32 rfl ?_
      refine zk_iconst 0 dX8_breakPromise_32 (by decide) 33 rfl ?_
      refine zk_iconst 3 dX8_breakPromise_33 (by decide) 34 rfl ?_
      refine zk_callV (ci := 5) (st := []) (c_X5_write E l a.2.1 v_promises x1 0 3) dX8_breakPromise_34 3 gX8_breakPromise_X5_write rfl rfl rfl cd_X5_write ⟨Nat.le_of_ble_eq_true rfl, Nat.le_of_ble_eq_true rfl⟩ ⟨Nat.zero_le _, Nat.zero_le _⟩ _ (fun r34 => (gX8 E a ((r34, v_promises.2), v_lines, v_diary, v_now, v_room, v_bound, v_drift, v_brokenStanding, v_lateCalls, v_falls, v_swept, v_passedOver, v_longestQueue))) (zk_pc zk_pa (zk_p1 (gs := (lX8 E a (v_promises, v_lines, v_diary, v_now, v_room, v_bound, v_drift, v_brokenStanding, v_lateCalls, v_falls, v_swept, v_passedOver, v_longestQueue))) (i := 1) rfl)) (fun r34 => (zk_qc zk_qa (zk_q1 (gs := (lX8 E a (v_promises, v_lines, v_diary, v_now, v_room, v_bound, v_drift, v_brokenStanding, v_lateCalls, v_falls, v_swept, v_passedOver, v_longestQueue))) (i := 1) (w1 := gX8 E a ((r34, v_promises.2), v_lines, v_diary, v_now, v_room, v_bound, v_drift, v_brokenStanding, v_lateCalls, v_falls, v_swept, v_passedOver, v_longestQueue)) rfl rfl))) rfl rfl rfl rfl (Nat.le_of_ble_eq_true rfl) (fun r34 => []) (fun _ => rfl) 37 rfl (fun r34 => ?_)
      refine zk_aload_n dX8_breakPromise_37 0 rfl 38 rfl ?_
      refine zk_dup dX8_breakPromise_38 rfl 39 rfl ?_
      refine zk_get dX8_breakPromise_39 0 rfl rfl kX8_breakPromise_inX8 7 (by decide) kX8_breakPromise_2 rfl 42 rfl ?_
      refine zk_iconst 1 dX8_breakPromise_42 (by decide) 43 rfl ?_
      refine zk_iadd dX8_breakPromise_43 44 rfl ?_
      refine zk_nm (fun v_brokenStanding_1 => ?_)
      refine zk_put_ tyX8 (gX8 E a ((r34, v_promises.2), v_lines, v_diary, v_now, v_room, v_bound, v_drift, v_brokenStanding_1, v_lateCalls, v_falls, v_swept, v_passedOver, v_longestQueue)) dX8_breakPromise_44 0 rfl rfl kX8_breakPromise_inX8 tyX8_ok nmX8 7 (by decide) kX8_breakPromise_2 rfl (tyX8_ok 7 (by decide)) rfl rfl (Nat.le_of_ble_eq_true rfl) rfl 47 rfl ?_
      refine zk_aload_n dX8_breakPromise_47 0 rfl 48 rfl ?_
      refine zk_get dX8_breakPromise_48 0 rfl rfl kX8_breakPromise_inX8 7 (by decide) kX8_breakPromise_2 rfl 51 rfl ?_
      exact zk_iret hQ dX8_breakPromise_51 rfl rfl
def f_X8_setting (x1 : Int32) (v_room : Int32) (v_bound : Int32) (v_drift : Int32) : Option (Int32) := if x1 = 0 then some v_room else if x1 = 1 then some v_bound else if x1 = 2 then some v_drift else some (-1)
theorem kX8_setting_inX8 : ∀ w ∈ u_ws RX8 TX8 13, w ∈ wsX8_setting := by decide +kernel
theorem kX8_setting_1 : Cond.fieldLink RX8 32 (TX8 4).1 (TX8 4).2.1 (TX8 4).2.2.1 ∈ wsX8_setting := by decide +kernel
theorem kX8_setting_2 : Cond.fieldLink RX8 36 (TX8 5).1 (TX8 5).2.1 (TX8 5).2.2.1 ∈ wsX8_setting := by decide +kernel
theorem kX8_setting_3 : Cond.fieldLink RX8 52 (TX8 6).1 (TX8 6).2.1 (TX8 6).2.2.1 ∈ wsX8_setting := by decide +kernel
theorem cd_X8_setting : yX8_setting.cls = RX8 ∧ yX8_setting.cls ≠ "java/lang/invoke/MethodHandle" ∧ yX8_setting.cls ≠ "java/lang/invoke/VarHandle" ∧ (parseMethodDescriptor yX8_setting.desc).map (fun d => d.parameters.length) = some 1 := by decide +kernel
set_option maxRecDepth 100000 in
set_option maxHeartbeats 4000000 in
theorem c_X8_setting (E : zk_Env) (l : Launch) (a : aX8) (v : VX8) (x1 : Int32) : zk_Mc E l yX8_setting wsX8_setting ({ frames := 0, cells := 0, slots := 0, locals := 0 } : Room) [.ref a.1, .int x1] (gX8 E a v) (f_X8_setting x1 v.2.2.2.2.1 v.2.2.2.2.2.1 v.2.2.2.2.2.2.1) (fun r => some (.int r)) (fun r => (gX8 E a v)) := by
  obtain ⟨v_promises, v_lines, v_diary, v_now, v_room, v_bound, v_drift, v_brokenStanding, v_lateCalls, v_falls, v_swept, v_passedOver, v_longestQueue⟩ := v
  refine zk_M (cc := cX8_setting) (nL := 2) (ret := (some .int)) (by decide) rfl (Nat.le_of_ble_eq_true rfl) (fun X Q hQ => ?_)
  refine zk_eqv (w1 := (gX8 E a (v_promises, v_lines, v_diary, v_now, v_room, v_bound, v_drift, v_brokenStanding, v_lateCalls, v_falls, v_swept, v_passedOver, v_longestQueue))) (lv1 := [(0, .ref a.1), (1, .int x1)]) (st1 := []) (o1 := f_X8_setting x1 v_room v_bound v_drift) rfl rfl rfl rfl ?_
  unfold f_X8_setting
  refine zk_iload_n dX8_setting_0 1 rfl 1 rfl ?_
  refine zk_if (c := x1 = 0) (fun h1_0 => ?_) (fun h1_0 => ?_)
  · refine zk_tableIn (off := 27) dX8_setting_1 28 (by rw [h1_0]; decide) (by rw [h1_0]; decide) (by rw [h1_0]; rfl) (by decide) ?_
    refine zk_aload_n dX8_setting_28 0 rfl 29 rfl ?_
    refine zk_get dX8_setting_29 0 rfl rfl kX8_setting_inX8 4 (by decide) kX8_setting_1 rfl 32 rfl ?_
    exact zk_iret hQ dX8_setting_32 rfl rfl
  refine zk_if (c := x1 = 1) (fun h1_1 => ?_) (fun h1_1 => ?_)
  · refine zk_tableIn (off := 32) dX8_setting_1 33 (by rw [h1_1]; decide) (by rw [h1_1]; decide) (by rw [h1_1]; rfl) (by decide) ?_
    refine zk_aload_n dX8_setting_33 0 rfl 34 rfl ?_
    refine zk_get dX8_setting_34 0 rfl rfl kX8_setting_inX8 5 (by decide) kX8_setting_2 rfl 37 rfl ?_
    exact zk_iret hQ dX8_setting_37 rfl rfl
  refine zk_if (c := x1 = 2) (fun h1_2 => ?_) (fun h1_2 => ?_)
  · refine zk_tableIn (off := 37) dX8_setting_1 38 (by rw [h1_2]; decide) (by rw [h1_2]; decide) (by rw [h1_2]; rfl) (by decide) ?_
    refine zk_aload_n dX8_setting_38 0 rfl 39 rfl ?_
    refine zk_get dX8_setting_39 0 rfl rfl kX8_setting_inX8 6 (by decide) kX8_setting_3 rfl 42 rfl ?_
    exact zk_iret hQ dX8_setting_42 rfl rfl
  refine zk_tableOut dX8_setting_1 43 (by have e0 : x1.toInt ≠ 0 := fun z => h1_0 (Int32.toInt_inj.mp z); have e1 : x1.toInt ≠ 1 := fun z => h1_1 (Int32.toInt_inj.mp z); have e2 : x1.toInt ≠ 2 := fun z => h1_2 (Int32.toInt_inj.mp z); omega) (by decide) ?_
  refine zk_iconst (-1) dX8_setting_43 (by decide) 44 rfl ?_
  exact zk_iret hQ dX8_setting_44 rfl rfl
def f_X8_dueOfRepetition (x1 : Int32) (x2 : Int32) (v_now : Int32) (v_drift : Int32) (v_passedOver : Int32) : Option (Int32 × Int32) := if v_drift = 1 then some ((v_now + x2), v_passedOver) else if 1 ≤ x2 then zk_dv x2 (zk_let (((v_now - x1) / x2) + 1) fun x3_1 => zk_let (v_passedOver + (x3_1 - 1)) fun v_passedOver_2 => some ((x1 + (x3_1 * x2)), v_passedOver_2)) else some ((v_now + x2), v_passedOver)
theorem kX8_dueOfRepetition_inX8 : ∀ w ∈ u_ws RX8 TX8 13, w ∈ wsX8_dueOfRepetition := by decide +kernel
theorem kX8_dueOfRepetition_1 : Cond.fieldLink RX8 52 (TX8 6).1 (TX8 6).2.1 (TX8 6).2.2.1 ∈ wsX8_dueOfRepetition := by decide +kernel
theorem kX8_dueOfRepetition_2 : Cond.fieldLink RX8 49 (TX8 3).1 (TX8 3).2.1 (TX8 3).2.2.1 ∈ wsX8_dueOfRepetition := by decide +kernel
theorem kX8_dueOfRepetition_3 : Cond.fieldLink RX8 67 (TX8 11).1 (TX8 11).2.1 (TX8 11).2.2.1 ∈ wsX8_dueOfRepetition := by decide +kernel
theorem cd_X8_dueOfRepetition : yX8_dueOfRepetition.cls = RX8 ∧ yX8_dueOfRepetition.cls ≠ "java/lang/invoke/MethodHandle" ∧ yX8_dueOfRepetition.cls ≠ "java/lang/invoke/VarHandle" ∧ (parseMethodDescriptor yX8_dueOfRepetition.desc).map (fun d => d.parameters.length) = some 2 := by decide +kernel
set_option maxRecDepth 100000 in
set_option maxHeartbeats 4000000 in
theorem c_X8_dueOfRepetition (E : zk_Env) (l : Launch) (a : aX8) (v : VX8) (x1 : Int32) (x2 : Int32) : zk_Mc E l yX8_dueOfRepetition wsX8_dueOfRepetition ({ frames := 0, cells := 0, slots := 0, locals := 0 } : Room) [.ref a.1, .int x1, .int x2] (gX8 E a v) (f_X8_dueOfRepetition x1 x2 v.2.2.2.1 v.2.2.2.2.2.2.1 v.2.2.2.2.2.2.2.2.2.2.2.1) (fun r => some (.int r.1)) (fun r => (gX8 E a (v.1, v.2.1, v.2.2.1, v.2.2.2.1, v.2.2.2.2.1, v.2.2.2.2.2.1, v.2.2.2.2.2.2.1, v.2.2.2.2.2.2.2.1, v.2.2.2.2.2.2.2.2.1, v.2.2.2.2.2.2.2.2.2.1, v.2.2.2.2.2.2.2.2.2.2.1, r.2, v.2.2.2.2.2.2.2.2.2.2.2.2))) := by
  obtain ⟨v_promises, v_lines, v_diary, v_now, v_room, v_bound, v_drift, v_brokenStanding, v_lateCalls, v_falls, v_swept, v_passedOver, v_longestQueue⟩ := v
  refine zk_M (cc := cX8_dueOfRepetition) (nL := 4) (ret := (some .int)) (by decide) rfl (Nat.le_of_ble_eq_true rfl) (fun X Q hQ => ?_)
  refine zk_eqv (w1 := (gX8 E a (v_promises, v_lines, v_diary, v_now, v_room, v_bound, v_drift, v_brokenStanding, v_lateCalls, v_falls, v_swept, v_passedOver, v_longestQueue))) (lv1 := [(0, .ref a.1), (1, .int x1), (2, .int x2)]) (st1 := []) (o1 := f_X8_dueOfRepetition x1 x2 v_now v_drift v_passedOver) rfl rfl rfl rfl ?_
  unfold f_X8_dueOfRepetition
  refine zk_aload_n dX8_dueOfRepetition_0 0 rfl 1 rfl ?_
  refine zk_get dX8_dueOfRepetition_1 0 rfl rfl kX8_dueOfRepetition_inX8 6 (by decide) kX8_dueOfRepetition_1 rfl 4 rfl ?_
  refine zk_iconst 1 dX8_dueOfRepetition_4 (by decide) 5 rfl ?_
  refine zk_icmp_eq dX8_dueOfRepetition_5 13 (by decide) 8 rfl (fun _ => ?_) (fun _ => ?_)
  · refine zk_aload_n dX8_dueOfRepetition_13 0 rfl 14 rfl ?_
    refine zk_get dX8_dueOfRepetition_14 0 rfl rfl kX8_dueOfRepetition_inX8 3 (by decide) kX8_dueOfRepetition_2 rfl 17 rfl ?_
    refine zk_iload_n dX8_dueOfRepetition_17 2 rfl 18 rfl ?_
    refine zk_iadd dX8_dueOfRepetition_18 19 rfl ?_
    exact zk_iret hQ dX8_dueOfRepetition_19 rfl rfl
  · refine zk_iload_n dX8_dueOfRepetition_8 2 rfl 9 rfl ?_
    refine zk_iconst 1 dX8_dueOfRepetition_9 (by decide) 10 rfl ?_
    refine zk_icmp_ge dX8_dueOfRepetition_10 20 (by decide) 13 rfl (fun _ => ?_) (fun _ => ?_)
    · refine zk_aload_n dX8_dueOfRepetition_20 0 rfl 21 rfl ?_
      refine zk_get dX8_dueOfRepetition_21 0 rfl rfl kX8_dueOfRepetition_inX8 3 (by decide) kX8_dueOfRepetition_2 rfl 24 rfl ?_
      refine zk_iload_n dX8_dueOfRepetition_24 1 rfl 25 rfl ?_
      refine zk_isub dX8_dueOfRepetition_25 26 rfl ?_
      refine zk_iload_n dX8_dueOfRepetition_26 2 rfl 27 rfl ?_
      refine zk_idiv dX8_dueOfRepetition_27 28 rfl ?_
      refine zk_iconst 1 dX8_dueOfRepetition_28 (by decide) 29 rfl ?_
      refine zk_iadd dX8_dueOfRepetition_29 30 rfl ?_
      refine zk_nm (fun x3_1 => ?_)
      refine zk_istore_n [(3, .int x3_1), (0, .ref a.1), (1, .int x1), (2, .int x2)] dX8_dueOfRepetition_30 (by decide) rfl 31 rfl ?_
      refine zk_aload_n dX8_dueOfRepetition_31 1 rfl 32 rfl ?_
      refine zk_dup dX8_dueOfRepetition_32 rfl 33 rfl ?_
      refine zk_get dX8_dueOfRepetition_33 0 rfl rfl kX8_dueOfRepetition_inX8 11 (by decide) kX8_dueOfRepetition_3 rfl 36 rfl ?_
      refine zk_iload_n dX8_dueOfRepetition_36 0 rfl 37 rfl ?_
      refine zk_iconst 1 dX8_dueOfRepetition_37 (by decide) 38 rfl ?_
      refine zk_isub dX8_dueOfRepetition_38 39 rfl ?_
      refine zk_iadd dX8_dueOfRepetition_39 40 rfl ?_
      refine zk_nm (fun v_passedOver_2 => ?_)
      refine zk_put_ tyX8 (gX8 E a (v_promises, v_lines, v_diary, v_now, v_room, v_bound, v_drift, v_brokenStanding, v_lateCalls, v_falls, v_swept, v_passedOver_2, v_longestQueue)) dX8_dueOfRepetition_40 0 rfl rfl kX8_dueOfRepetition_inX8 tyX8_ok nmX8 11 (by decide) kX8_dueOfRepetition_3 rfl (tyX8_ok 11 (by decide)) rfl rfl (Nat.le_of_ble_eq_true rfl) rfl 43 rfl ?_
      refine zk_iload_n dX8_dueOfRepetition_43 2 rfl 44 rfl ?_
      refine zk_iload_n dX8_dueOfRepetition_44 0 rfl 45 rfl ?_
      refine zk_iload_n dX8_dueOfRepetition_45 3 rfl 46 rfl ?_
      refine zk_imul dX8_dueOfRepetition_46 47 rfl ?_
      refine zk_iadd dX8_dueOfRepetition_47 48 rfl ?_
      exact zk_iret hQ dX8_dueOfRepetition_48 rfl rfl
    · refine zk_aload_n dX8_dueOfRepetition_13 0 rfl 14 rfl ?_
      refine zk_get dX8_dueOfRepetition_14 0 rfl rfl kX8_dueOfRepetition_inX8 3 (by decide) kX8_dueOfRepetition_2 rfl 17 rfl ?_
      refine zk_iload_n dX8_dueOfRepetition_17 2 rfl 18 rfl ?_
      refine zk_iadd dX8_dueOfRepetition_18 19 rfl ?_
      exact zk_iret hQ dX8_dueOfRepetition_19 rfl rfl
def f_X8_noteSwept (x1 : Int32) (v_promises : VX5) (v_brokenStanding : Int32) (v_swept : Int32) : Option (VX5 × Int32 × Int32) := (f_X5_write x1 0 4 v_promises.1).bind fun r7 => zk_let (v_brokenStanding - 1) fun v_brokenStanding_1 => zk_let (v_swept + 1) fun v_swept_2 => some ((r7, v_promises.2), v_brokenStanding_1, v_swept_2)
theorem kX8_noteSwept_inX8 : ∀ w ∈ u_ws RX8 TX8 13, w ∈ wsX8_noteSwept := by decide +kernel
theorem kX8_noteSwept_1 : Cond.fieldLink RX8 12 (TX8 0).1 (TX8 0).2.1 (TX8 0).2.2.1 ∈ wsX8_noteSwept := by decide +kernel
theorem kX8_noteSwept_2 : Cond.fieldLink RX8 55 (TX8 7).1 (TX8 7).2.1 (TX8 7).2.2.1 ∈ wsX8_noteSwept := by decide +kernel
theorem kX8_noteSwept_3 : Cond.fieldLink RX8 64 (TX8 10).1 (TX8 10).2.1 (TX8 10).2.2.1 ∈ wsX8_noteSwept := by decide +kernel
theorem cd_X8_noteSwept : yX8_noteSwept.cls = RX8 ∧ yX8_noteSwept.cls ≠ "java/lang/invoke/MethodHandle" ∧ yX8_noteSwept.cls ≠ "java/lang/invoke/VarHandle" ∧ (parseMethodDescriptor yX8_noteSwept.desc).map (fun d => d.parameters.length) = some 1 := by decide +kernel
set_option maxRecDepth 100000 in
set_option maxHeartbeats 4000000 in
theorem c_X8_noteSwept (E : zk_Env) (l : Launch) (a : aX8) (v : VX8) (x1 : Int32) : zk_Mc E l yX8_noteSwept wsX8_noteSwept ({ frames := 1, cells := 0, slots := 0, locals := 23 } : Room) [.ref a.1, .int x1] (gX8 E a v) (f_X8_noteSwept x1 v.1 v.2.2.2.2.2.2.2.1 v.2.2.2.2.2.2.2.2.2.2.1) (fun _ => none) (fun r => (gX8 E a (r.1, v.2.1, v.2.2.1, v.2.2.2.1, v.2.2.2.2.1, v.2.2.2.2.2.1, v.2.2.2.2.2.2.1, r.2.1, v.2.2.2.2.2.2.2.2.1, v.2.2.2.2.2.2.2.2.2.1, r.2.2, v.2.2.2.2.2.2.2.2.2.2.2))) := by
  obtain ⟨v_promises, v_lines, v_diary, v_now, v_room, v_bound, v_drift, v_brokenStanding, v_lateCalls, v_falls, v_swept, v_passedOver, v_longestQueue⟩ := v
  refine zk_M (cc := cX8_noteSwept) (nL := 2) (ret := none) (by decide) rfl (Nat.le_of_ble_eq_true rfl) (fun X Q hQ => ?_)
  refine zk_eqv (w1 := (gX8 E a (v_promises, v_lines, v_diary, v_now, v_room, v_bound, v_drift, v_brokenStanding, v_lateCalls, v_falls, v_swept, v_passedOver, v_longestQueue))) (lv1 := [(0, .ref a.1), (1, .int x1)]) (st1 := []) (o1 := f_X8_noteSwept x1 v_promises v_brokenStanding v_swept) rfl rfl rfl rfl ?_
  unfold f_X8_noteSwept
  refine zk_aload_n dX8_noteSwept_0 0 rfl 1 rfl ?_
  refine zk_get dX8_noteSwept_1 0 rfl rfl kX8_noteSwept_inX8 0 (by decide) kX8_noteSwept_1 rfl 4 rfl ?_
  refine zk_iload_n dX8_noteSwept_4 1 rfl 5 rfl ?_
  refine zk_iconst 0 dX8_noteSwept_5 (by decide) 6 rfl ?_
  refine zk_iconst 4 dX8_noteSwept_6 (by decide) 7 rfl ?_
  refine zk_callV (ci := 5) (st := []) (c_X5_write E l a.2.1 v_promises x1 0 4) dX8_noteSwept_7 3 gX8_noteSwept_X5_write rfl rfl rfl cd_X5_write ⟨Nat.le_of_ble_eq_true rfl, Nat.le_of_ble_eq_true rfl⟩ ⟨Nat.zero_le _, Nat.zero_le _⟩ _ (fun r7 => (gX8 E a ((r7, v_promises.2), v_lines, v_diary, v_now, v_room, v_bound, v_drift, v_brokenStanding, v_lateCalls, v_falls, v_swept, v_passedOver, v_longestQueue))) (zk_pc zk_pa (zk_p1 (gs := (lX8 E a (v_promises, v_lines, v_diary, v_now, v_room, v_bound, v_drift, v_brokenStanding, v_lateCalls, v_falls, v_swept, v_passedOver, v_longestQueue))) (i := 1) rfl)) (fun r7 => (zk_qc zk_qa (zk_q1 (gs := (lX8 E a (v_promises, v_lines, v_diary, v_now, v_room, v_bound, v_drift, v_brokenStanding, v_lateCalls, v_falls, v_swept, v_passedOver, v_longestQueue))) (i := 1) (w1 := gX8 E a ((r7, v_promises.2), v_lines, v_diary, v_now, v_room, v_bound, v_drift, v_brokenStanding, v_lateCalls, v_falls, v_swept, v_passedOver, v_longestQueue)) rfl rfl))) rfl rfl rfl rfl (Nat.le_of_ble_eq_true rfl) (fun r7 => []) (fun _ => rfl) 10 rfl (fun r7 => ?_)
  refine zk_aload_n dX8_noteSwept_10 0 rfl 11 rfl ?_
  refine zk_dup dX8_noteSwept_11 rfl 12 rfl ?_
  refine zk_get dX8_noteSwept_12 0 rfl rfl kX8_noteSwept_inX8 7 (by decide) kX8_noteSwept_2 rfl 15 rfl ?_
  refine zk_iconst 1 dX8_noteSwept_15 (by decide) 16 rfl ?_
  refine zk_isub dX8_noteSwept_16 17 rfl ?_
  refine zk_nm (fun v_brokenStanding_1 => ?_)
  refine zk_put_ tyX8 (gX8 E a ((r7, v_promises.2), v_lines, v_diary, v_now, v_room, v_bound, v_drift, v_brokenStanding_1, v_lateCalls, v_falls, v_swept, v_passedOver, v_longestQueue)) dX8_noteSwept_17 0 rfl rfl kX8_noteSwept_inX8 tyX8_ok nmX8 7 (by decide) kX8_noteSwept_2 rfl (tyX8_ok 7 (by decide)) rfl rfl (Nat.le_of_ble_eq_true rfl) rfl 20 rfl ?_
  refine zk_aload_n dX8_noteSwept_20 0 rfl 21 rfl ?_
  refine zk_dup dX8_noteSwept_21 rfl 22 rfl ?_
  refine zk_get dX8_noteSwept_22 0 rfl rfl kX8_noteSwept_inX8 10 (by decide) kX8_noteSwept_3 rfl 25 rfl ?_
  refine zk_iconst 1 dX8_noteSwept_25 (by decide) 26 rfl ?_
  refine zk_iadd dX8_noteSwept_26 27 rfl ?_
  refine zk_nm (fun v_swept_2 => ?_)
  refine zk_put_ tyX8 (gX8 E a ((r7, v_promises.2), v_lines, v_diary, v_now, v_room, v_bound, v_drift, v_brokenStanding_1, v_lateCalls, v_falls, v_swept_2, v_passedOver, v_longestQueue)) dX8_noteSwept_27 0 rfl rfl kX8_noteSwept_inX8 tyX8_ok nmX8 10 (by decide) kX8_noteSwept_3 rfl (tyX8_ok 10 (by decide)) rfl rfl (Nat.le_of_ble_eq_true rfl) rfl 30 rfl ?_
  exact zk_vret hQ dX8_noteSwept_30 rfl rfl
def f_X8_lineFor (x1 : Int32) (v_now : Int32) : Option (Int32) := zk_let (x1 - v_now) fun x2_1 => if 8 ≤ x2_1 then if 64 ≤ x2_1 then some (16 + (zk_rem (x1 / 64) 8)) else some (8 + (zk_rem (x1 / 8) 8)) else some (zk_rem x1 8)
theorem kX8_lineFor_inX8 : ∀ w ∈ u_ws RX8 TX8 13, w ∈ wsX8_lineFor := by decide +kernel
theorem kX8_lineFor_1 : Cond.fieldLink RX8 49 (TX8 3).1 (TX8 3).2.1 (TX8 3).2.2.1 ∈ wsX8_lineFor := by decide +kernel
theorem cd_X8_lineFor : yX8_lineFor.cls = RX8 ∧ yX8_lineFor.cls ≠ "java/lang/invoke/MethodHandle" ∧ yX8_lineFor.cls ≠ "java/lang/invoke/VarHandle" ∧ (parseMethodDescriptor yX8_lineFor.desc).map (fun d => d.parameters.length) = some 1 := by decide +kernel
set_option maxRecDepth 100000 in
set_option maxHeartbeats 4000000 in
theorem c_X8_lineFor (E : zk_Env) (l : Launch) (a : aX8) (v : VX8) (x1 : Int32) : zk_Mc E l yX8_lineFor wsX8_lineFor ({ frames := 0, cells := 0, slots := 0, locals := 0 } : Room) [.ref a.1, .int x1] (gX8 E a v) (f_X8_lineFor x1 v.2.2.2.1) (fun r => some (.int r)) (fun r => (gX8 E a v)) := by
  obtain ⟨v_promises, v_lines, v_diary, v_now, v_room, v_bound, v_drift, v_brokenStanding, v_lateCalls, v_falls, v_swept, v_passedOver, v_longestQueue⟩ := v
  refine zk_M (cc := cX8_lineFor) (nL := 3) (ret := (some .int)) (by decide) rfl (Nat.le_of_ble_eq_true rfl) (fun X Q hQ => ?_)
  refine zk_eqv (w1 := (gX8 E a (v_promises, v_lines, v_diary, v_now, v_room, v_bound, v_drift, v_brokenStanding, v_lateCalls, v_falls, v_swept, v_passedOver, v_longestQueue))) (lv1 := [(0, .ref a.1), (1, .int x1)]) (st1 := []) (o1 := f_X8_lineFor x1 v_now) rfl rfl rfl rfl ?_
  unfold f_X8_lineFor
  refine zk_iload_n dX8_lineFor_0 1 rfl 1 rfl ?_
  refine zk_aload_n dX8_lineFor_1 0 rfl 2 rfl ?_
  refine zk_get dX8_lineFor_2 0 rfl rfl kX8_lineFor_inX8 3 (by decide) kX8_lineFor_1 rfl 5 rfl ?_
  refine zk_isub dX8_lineFor_5 6 rfl ?_
  refine zk_nm (fun x2_1 => ?_)
  refine zk_istore_n [(2, .int x2_1), (0, .ref a.1), (1, .int x1)] dX8_lineFor_6 (by decide) rfl 7 rfl ?_
  refine zk_iload_n dX8_lineFor_7 0 rfl 8 rfl ?_
  refine zk_bipush 8 dX8_lineFor_8 (by decide) 10 rfl ?_
  refine zk_icmp_ge dX8_lineFor_10 18 (by decide) 13 rfl (fun _ => ?_) (fun _ => ?_)
  · refine zk_iload_n dX8_lineFor_18 0 rfl 19 rfl ?_
    refine zk_bipush 64 dX8_lineFor_19 (by decide) 21 rfl ?_
    refine zk_icmp_ge dX8_lineFor_21 35 (by decide) 24 rfl (fun _ => ?_) (fun _ => ?_)
    · refine zk_bipush 16 dX8_lineFor_35 (by decide) 37 rfl ?_
      refine zk_iload_n dX8_lineFor_37 2 rfl 38 rfl ?_
      refine zk_bipush 64 dX8_lineFor_38 (by decide) 40 rfl ?_
      refine zk_idivL dX8_lineFor_40 (by decide) 41 rfl ?_
      refine zk_bipush 8 dX8_lineFor_41 (by decide) 43 rfl ?_
      refine zk_iremL dX8_lineFor_43 (by decide) 44 rfl ?_
      refine zk_iadd dX8_lineFor_44 45 rfl ?_
      exact zk_iret hQ dX8_lineFor_45 rfl rfl
    · refine zk_bipush 8 dX8_lineFor_24 (by decide) 26 rfl ?_
      refine zk_iload_n dX8_lineFor_26 2 rfl 27 rfl ?_
      refine zk_bipush 8 dX8_lineFor_27 (by decide) 29 rfl ?_
      refine zk_idivL dX8_lineFor_29 (by decide) 30 rfl ?_
      refine zk_bipush 8 dX8_lineFor_30 (by decide) 32 rfl ?_
      refine zk_iremL dX8_lineFor_32 (by decide) 33 rfl ?_
      refine zk_iadd dX8_lineFor_33 34 rfl ?_
      exact zk_iret hQ dX8_lineFor_34 rfl rfl
  · refine zk_iload_n dX8_lineFor_13 2 rfl 14 rfl ?_
    refine zk_bipush 8 dX8_lineFor_14 (by decide) 16 rfl ?_
    refine zk_iremL dX8_lineFor_16 (by decide) 17 rfl ?_
    exact zk_iret hQ dX8_lineFor_17 rfl rfl
def f_X8_presentSlot (x1 : Int32) (v_now : Int32) : Option (Int32) := some ((v_now >>> ((3 * x1) &&& 31)) &&& 7)
theorem kX8_presentSlot_inX8 : ∀ w ∈ u_ws RX8 TX8 13, w ∈ wsX8_presentSlot := by decide +kernel
theorem kX8_presentSlot_1 : Cond.fieldLink RX8 49 (TX8 3).1 (TX8 3).2.1 (TX8 3).2.2.1 ∈ wsX8_presentSlot := by decide +kernel
theorem cd_X8_presentSlot : yX8_presentSlot.cls = RX8 ∧ yX8_presentSlot.cls ≠ "java/lang/invoke/MethodHandle" ∧ yX8_presentSlot.cls ≠ "java/lang/invoke/VarHandle" ∧ (parseMethodDescriptor yX8_presentSlot.desc).map (fun d => d.parameters.length) = some 1 := by decide +kernel
set_option maxRecDepth 100000 in
set_option maxHeartbeats 4000000 in
theorem c_X8_presentSlot (E : zk_Env) (l : Launch) (a : aX8) (v : VX8) (x1 : Int32) : zk_Mc E l yX8_presentSlot wsX8_presentSlot ({ frames := 0, cells := 0, slots := 0, locals := 0 } : Room) [.ref a.1, .int x1] (gX8 E a v) (f_X8_presentSlot x1 v.2.2.2.1) (fun r => some (.int r)) (fun r => (gX8 E a v)) := by
  obtain ⟨v_promises, v_lines, v_diary, v_now, v_room, v_bound, v_drift, v_brokenStanding, v_lateCalls, v_falls, v_swept, v_passedOver, v_longestQueue⟩ := v
  refine zk_M (cc := cX8_presentSlot) (nL := 2) (ret := (some .int)) (by decide) rfl (Nat.le_of_ble_eq_true rfl) (fun X Q hQ => ?_)
  refine zk_eqv (w1 := (gX8 E a (v_promises, v_lines, v_diary, v_now, v_room, v_bound, v_drift, v_brokenStanding, v_lateCalls, v_falls, v_swept, v_passedOver, v_longestQueue))) (lv1 := [(0, .ref a.1), (1, .int x1)]) (st1 := []) (o1 := f_X8_presentSlot x1 v_now) rfl rfl rfl rfl ?_
  unfold f_X8_presentSlot
  refine zk_aload_n dX8_presentSlot_0 0 rfl 1 rfl ?_
  refine zk_get dX8_presentSlot_1 0 rfl rfl kX8_presentSlot_inX8 3 (by decide) kX8_presentSlot_1 rfl 4 rfl ?_
  refine zk_iconst 3 dX8_presentSlot_4 (by decide) 5 rfl ?_
  refine zk_iload_n dX8_presentSlot_5 1 rfl 6 rfl ?_
  refine zk_imul dX8_presentSlot_6 7 rfl ?_
  refine zk_ishr dX8_presentSlot_7 8 rfl ?_
  refine zk_bipush 7 dX8_presentSlot_8 (by decide) 10 rfl ?_
  refine zk_iand dX8_presentSlot_10 11 rfl ?_
  exact zk_iret hQ dX8_presentSlot_11 rfl rfl
def f_X8_figure (x1 : Int32) (v_promises : VX5) (v_diary : VX0) (v_now : Int32) (v_room : Int32) (v_bound : Int32) (v_drift : Int32) (v_brokenStanding : Int32) (v_lateCalls : Int32) (v_falls : Int32) (v_swept : Int32) (v_passedOver : Int32) (v_longestQueue : Int32) : Option (Int32) := if x1 = 0 then some v_now else if x1 = 1 then (f_X5_given v_promises.2).bind fun r69 => some r69 else if x1 = 2 then (f_X5_howManyIn 0 v_promises.1 v_promises.2).bind fun r78 => some r78 else if x1 = 3 then (f_X5_howManyIn 1 v_promises.1 v_promises.2).bind fun r87 => some r87 else if x1 = 4 then some v_brokenStanding else if x1 = 5 then (f_X0_calls v_diary.2).bind fun r100 => some r100 else if x1 = 6 then some v_lateCalls else if x1 = 7 then some v_falls else if x1 = 8 then some v_swept else if x1 = 9 then some v_passedOver else if x1 = 10 then some v_longestQueue else (f_X8_setting (x1 - 14) v_room v_bound v_drift).bind fun r134 => some r134
theorem kX8_figure_inX8 : ∀ w ∈ u_ws RX8 TX8 13, w ∈ wsX8_figure := by decide +kernel
theorem kX8_figure_1 : Cond.fieldLink RX8 49 (TX8 3).1 (TX8 3).2.1 (TX8 3).2.2.1 ∈ wsX8_figure := by decide +kernel
theorem kX8_figure_2 : Cond.fieldLink RX8 12 (TX8 0).1 (TX8 0).2.1 (TX8 0).2.2.1 ∈ wsX8_figure := by decide +kernel
theorem kX8_figure_3 : Cond.fieldLink RX8 55 (TX8 7).1 (TX8 7).2.1 (TX8 7).2.2.1 ∈ wsX8_figure := by decide +kernel
theorem kX8_figure_4 : Cond.fieldLink RX8 28 (TX8 2).1 (TX8 2).2.1 (TX8 2).2.2.1 ∈ wsX8_figure := by decide +kernel
theorem kX8_figure_5 : Cond.fieldLink RX8 58 (TX8 8).1 (TX8 8).2.1 (TX8 8).2.2.1 ∈ wsX8_figure := by decide +kernel
theorem kX8_figure_6 : Cond.fieldLink RX8 61 (TX8 9).1 (TX8 9).2.1 (TX8 9).2.2.1 ∈ wsX8_figure := by decide +kernel
theorem kX8_figure_7 : Cond.fieldLink RX8 64 (TX8 10).1 (TX8 10).2.1 (TX8 10).2.2.1 ∈ wsX8_figure := by decide +kernel
theorem kX8_figure_8 : Cond.fieldLink RX8 67 (TX8 11).1 (TX8 11).2.1 (TX8 11).2.2.1 ∈ wsX8_figure := by decide +kernel
theorem kX8_figure_9 : Cond.fieldLink RX8 70 (TX8 12).1 (TX8 12).2.1 (TX8 12).2.2.1 ∈ wsX8_figure := by decide +kernel
theorem cd_X8_figure : yX8_figure.cls = RX8 ∧ yX8_figure.cls ≠ "java/lang/invoke/MethodHandle" ∧ yX8_figure.cls ≠ "java/lang/invoke/VarHandle" ∧ (parseMethodDescriptor yX8_figure.desc).map (fun d => d.parameters.length) = some 1 := by decide +kernel
set_option maxRecDepth 100000 in
set_option maxHeartbeats 4000000 in
theorem c_X8_figure (E : zk_Env) (l : Launch) (a : aX8) (v : VX8) (x1 : Int32) : zk_Mc E l yX8_figure wsX8_figure ({ frames := 3, cells := 0, slots := 0, locals := 67 } : Room) [.ref a.1, .int x1] (gX8 E a v) (f_X8_figure x1 v.1 v.2.2.1 v.2.2.2.1 v.2.2.2.2.1 v.2.2.2.2.2.1 v.2.2.2.2.2.2.1 v.2.2.2.2.2.2.2.1 v.2.2.2.2.2.2.2.2.1 v.2.2.2.2.2.2.2.2.2.1 v.2.2.2.2.2.2.2.2.2.2.1 v.2.2.2.2.2.2.2.2.2.2.2.1 v.2.2.2.2.2.2.2.2.2.2.2.2) (fun r => some (.int r)) (fun r => (gX8 E a v)) := by
  obtain ⟨v_promises, v_lines, v_diary, v_now, v_room, v_bound, v_drift, v_brokenStanding, v_lateCalls, v_falls, v_swept, v_passedOver, v_longestQueue⟩ := v
  refine zk_M (cc := cX8_figure) (nL := 2) (ret := (some .int)) (by decide) rfl (Nat.le_of_ble_eq_true rfl) (fun X Q hQ => ?_)
  refine zk_eqv (w1 := (gX8 E a (v_promises, v_lines, v_diary, v_now, v_room, v_bound, v_drift, v_brokenStanding, v_lateCalls, v_falls, v_swept, v_passedOver, v_longestQueue))) (lv1 := [(0, .ref a.1), (1, .int x1)]) (st1 := []) (o1 := f_X8_figure x1 v_promises v_diary v_now v_room v_bound v_drift v_brokenStanding v_lateCalls v_falls v_swept v_passedOver v_longestQueue) rfl rfl rfl rfl ?_
  unfold f_X8_figure
  refine zk_iload_n dX8_figure_0 1 rfl 1 rfl ?_
  refine zk_if (c := x1 = 0) (fun h1_0 => ?_) (fun h1_0 => ?_)
  · refine zk_tableIn (off := 59) dX8_figure_1 60 (by rw [h1_0]; decide) (by rw [h1_0]; decide) (by rw [h1_0]; rfl) (by decide) ?_
    refine zk_aload_n dX8_figure_60 0 rfl 61 rfl ?_
    refine zk_get dX8_figure_61 0 rfl rfl kX8_figure_inX8 3 (by decide) kX8_figure_1 rfl 64 rfl ?_
    exact zk_iret hQ dX8_figure_64 rfl rfl
  refine zk_if (c := x1 = 1) (fun h1_1 => ?_) (fun h1_1 => ?_)
  · refine zk_tableIn (off := 64) dX8_figure_1 65 (by rw [h1_1]; decide) (by rw [h1_1]; decide) (by rw [h1_1]; rfl) (by decide) ?_
    refine zk_aload_n dX8_figure_65 0 rfl 66 rfl ?_
    refine zk_get dX8_figure_66 0 rfl rfl kX8_figure_inX8 0 (by decide) kX8_figure_2 rfl 69 rfl ?_
    refine zk_callV (ci := 5) (st := []) (c_X5_given E l a.2.1 v_promises) dX8_figure_69 0 gX8_figure_X5_given rfl rfl rfl cd_X5_given ⟨Nat.le_of_ble_eq_true rfl, Nat.le_of_ble_eq_true rfl⟩ ⟨Nat.zero_le _, Nat.zero_le _⟩ _ (fun r69 => (gX8 E a (v_promises, v_lines, v_diary, v_now, v_room, v_bound, v_drift, v_brokenStanding, v_lateCalls, v_falls, v_swept, v_passedOver, v_longestQueue))) (zk_pc zk_pa (zk_p1 (gs := (lX8 E a (v_promises, v_lines, v_diary, v_now, v_room, v_bound, v_drift, v_brokenStanding, v_lateCalls, v_falls, v_swept, v_passedOver, v_longestQueue))) (i := 1) rfl)) (fun r69 => (zk_qc zk_qa (zk_q1 (gs := (lX8 E a (v_promises, v_lines, v_diary, v_now, v_room, v_bound, v_drift, v_brokenStanding, v_lateCalls, v_falls, v_swept, v_passedOver, v_longestQueue))) (i := 1) (w1 := gX8 E a (v_promises, v_lines, v_diary, v_now, v_room, v_bound, v_drift, v_brokenStanding, v_lateCalls, v_falls, v_swept, v_passedOver, v_longestQueue)) rfl rfl))) rfl rfl rfl rfl (Nat.le_of_ble_eq_true rfl) (fun r69 => [.int r69]) (fun _ => rfl) 72 rfl (fun r69 => ?_)
    exact zk_iret hQ dX8_figure_72 rfl rfl
  refine zk_if (c := x1 = 2) (fun h1_2 => ?_) (fun h1_2 => ?_)
  · refine zk_tableIn (off := 72) dX8_figure_1 73 (by rw [h1_2]; decide) (by rw [h1_2]; decide) (by rw [h1_2]; rfl) (by decide) ?_
    refine zk_aload_n dX8_figure_73 0 rfl 74 rfl ?_
    refine zk_get dX8_figure_74 0 rfl rfl kX8_figure_inX8 0 (by decide) kX8_figure_2 rfl 77 rfl ?_
    refine zk_iconst 0 dX8_figure_77 (by decide) 78 rfl ?_
    refine zk_callV (ci := 5) (st := []) (c_X5_howManyIn E l a.2.1 v_promises 0) dX8_figure_78 1 gX8_figure_X5_howManyIn rfl rfl rfl cd_X5_howManyIn ⟨Nat.le_of_ble_eq_true rfl, Nat.le_of_ble_eq_true rfl⟩ ⟨Nat.zero_le _, Nat.zero_le _⟩ _ (fun r78 => (gX8 E a (v_promises, v_lines, v_diary, v_now, v_room, v_bound, v_drift, v_brokenStanding, v_lateCalls, v_falls, v_swept, v_passedOver, v_longestQueue))) (zk_pc zk_pa (zk_p1 (gs := (lX8 E a (v_promises, v_lines, v_diary, v_now, v_room, v_bound, v_drift, v_brokenStanding, v_lateCalls, v_falls, v_swept, v_passedOver, v_longestQueue))) (i := 1) rfl)) (fun r78 => (zk_qc zk_qa (zk_q1 (gs := (lX8 E a (v_promises, v_lines, v_diary, v_now, v_room, v_bound, v_drift, v_brokenStanding, v_lateCalls, v_falls, v_swept, v_passedOver, v_longestQueue))) (i := 1) (w1 := gX8 E a (v_promises, v_lines, v_diary, v_now, v_room, v_bound, v_drift, v_brokenStanding, v_lateCalls, v_falls, v_swept, v_passedOver, v_longestQueue)) rfl rfl))) rfl rfl rfl rfl (Nat.le_of_ble_eq_true rfl) (fun r78 => [.int r78]) (fun _ => rfl) 81 rfl (fun r78 => ?_)
    exact zk_iret hQ dX8_figure_81 rfl rfl
  refine zk_if (c := x1 = 3) (fun h1_3 => ?_) (fun h1_3 => ?_)
  · refine zk_tableIn (off := 81) dX8_figure_1 82 (by rw [h1_3]; decide) (by rw [h1_3]; decide) (by rw [h1_3]; rfl) (by decide) ?_
    refine zk_aload_n dX8_figure_82 0 rfl 83 rfl ?_
    refine zk_get dX8_figure_83 0 rfl rfl kX8_figure_inX8 0 (by decide) kX8_figure_2 rfl 86 rfl ?_
    refine zk_iconst 1 dX8_figure_86 (by decide) 87 rfl ?_
    refine zk_callV (ci := 5) (st := []) (c_X5_howManyIn E l a.2.1 v_promises 1) dX8_figure_87 1 gX8_figure_X5_howManyIn rfl rfl rfl cd_X5_howManyIn ⟨Nat.le_of_ble_eq_true rfl, Nat.le_of_ble_eq_true rfl⟩ ⟨Nat.zero_le _, Nat.zero_le _⟩ _ (fun r87 => (gX8 E a (v_promises, v_lines, v_diary, v_now, v_room, v_bound, v_drift, v_brokenStanding, v_lateCalls, v_falls, v_swept, v_passedOver, v_longestQueue))) (zk_pc zk_pa (zk_p1 (gs := (lX8 E a (v_promises, v_lines, v_diary, v_now, v_room, v_bound, v_drift, v_brokenStanding, v_lateCalls, v_falls, v_swept, v_passedOver, v_longestQueue))) (i := 1) rfl)) (fun r87 => (zk_qc zk_qa (zk_q1 (gs := (lX8 E a (v_promises, v_lines, v_diary, v_now, v_room, v_bound, v_drift, v_brokenStanding, v_lateCalls, v_falls, v_swept, v_passedOver, v_longestQueue))) (i := 1) (w1 := gX8 E a (v_promises, v_lines, v_diary, v_now, v_room, v_bound, v_drift, v_brokenStanding, v_lateCalls, v_falls, v_swept, v_passedOver, v_longestQueue)) rfl rfl))) rfl rfl rfl rfl (Nat.le_of_ble_eq_true rfl) (fun r87 => [.int r87]) (fun _ => rfl) 90 rfl (fun r87 => ?_)
    exact zk_iret hQ dX8_figure_90 rfl rfl
  refine zk_if (c := x1 = 4) (fun h1_4 => ?_) (fun h1_4 => ?_)
  · refine zk_tableIn (off := 90) dX8_figure_1 91 (by rw [h1_4]; decide) (by rw [h1_4]; decide) (by rw [h1_4]; rfl) (by decide) ?_
    refine zk_aload_n dX8_figure_91 0 rfl 92 rfl ?_
    refine zk_get dX8_figure_92 0 rfl rfl kX8_figure_inX8 7 (by decide) kX8_figure_3 rfl 95 rfl ?_
    exact zk_iret hQ dX8_figure_95 rfl rfl
  refine zk_if (c := x1 = 5) (fun h1_5 => ?_) (fun h1_5 => ?_)
  · refine zk_tableIn (off := 95) dX8_figure_1 96 (by rw [h1_5]; decide) (by rw [h1_5]; decide) (by rw [h1_5]; rfl) (by decide) ?_
    refine zk_aload_n dX8_figure_96 0 rfl 97 rfl ?_
    refine zk_get dX8_figure_97 0 rfl rfl kX8_figure_inX8 2 (by decide) kX8_figure_4 rfl 100 rfl ?_
    refine zk_callV (ci := 0) (st := []) (c_X0_calls E l a.2.2.2 v_diary) dX8_figure_100 0 gX8_figure_X0_calls rfl rfl rfl cd_X0_calls ⟨Nat.le_of_ble_eq_true rfl, Nat.le_of_ble_eq_true rfl⟩ ⟨Nat.zero_le _, Nat.zero_le _⟩ _ (fun r100 => (gX8 E a (v_promises, v_lines, v_diary, v_now, v_room, v_bound, v_drift, v_brokenStanding, v_lateCalls, v_falls, v_swept, v_passedOver, v_longestQueue))) (zk_pc zk_pa (zk_p1 (gs := (lX8 E a (v_promises, v_lines, v_diary, v_now, v_room, v_bound, v_drift, v_brokenStanding, v_lateCalls, v_falls, v_swept, v_passedOver, v_longestQueue))) (i := 3) rfl)) (fun r100 => (zk_qc zk_qa (zk_q1 (gs := (lX8 E a (v_promises, v_lines, v_diary, v_now, v_room, v_bound, v_drift, v_brokenStanding, v_lateCalls, v_falls, v_swept, v_passedOver, v_longestQueue))) (i := 3) (w1 := gX8 E a (v_promises, v_lines, v_diary, v_now, v_room, v_bound, v_drift, v_brokenStanding, v_lateCalls, v_falls, v_swept, v_passedOver, v_longestQueue)) rfl rfl))) rfl rfl rfl rfl (Nat.le_of_ble_eq_true rfl) (fun r100 => [.int r100]) (fun _ => rfl) 103 rfl (fun r100 => ?_)
    exact zk_iret hQ dX8_figure_103 rfl rfl
  refine zk_if (c := x1 = 6) (fun h1_6 => ?_) (fun h1_6 => ?_)
  · refine zk_tableIn (off := 103) dX8_figure_1 104 (by rw [h1_6]; decide) (by rw [h1_6]; decide) (by rw [h1_6]; rfl) (by decide) ?_
    refine zk_aload_n dX8_figure_104 0 rfl 105 rfl ?_
    refine zk_get dX8_figure_105 0 rfl rfl kX8_figure_inX8 8 (by decide) kX8_figure_5 rfl 108 rfl ?_
    exact zk_iret hQ dX8_figure_108 rfl rfl
  refine zk_if (c := x1 = 7) (fun h1_7 => ?_) (fun h1_7 => ?_)
  · refine zk_tableIn (off := 108) dX8_figure_1 109 (by rw [h1_7]; decide) (by rw [h1_7]; decide) (by rw [h1_7]; rfl) (by decide) ?_
    refine zk_aload_n dX8_figure_109 0 rfl 110 rfl ?_
    refine zk_get dX8_figure_110 0 rfl rfl kX8_figure_inX8 9 (by decide) kX8_figure_6 rfl 113 rfl ?_
    exact zk_iret hQ dX8_figure_113 rfl rfl
  refine zk_if (c := x1 = 8) (fun h1_8 => ?_) (fun h1_8 => ?_)
  · refine zk_tableIn (off := 113) dX8_figure_1 114 (by rw [h1_8]; decide) (by rw [h1_8]; decide) (by rw [h1_8]; rfl) (by decide) ?_
    refine zk_aload_n dX8_figure_114 0 rfl 115 rfl ?_
    refine zk_get dX8_figure_115 0 rfl rfl kX8_figure_inX8 10 (by decide) kX8_figure_7 rfl 118 rfl ?_
    exact zk_iret hQ dX8_figure_118 rfl rfl
  refine zk_if (c := x1 = 9) (fun h1_9 => ?_) (fun h1_9 => ?_)
  · refine zk_tableIn (off := 118) dX8_figure_1 119 (by rw [h1_9]; decide) (by rw [h1_9]; decide) (by rw [h1_9]; rfl) (by decide) ?_
    refine zk_aload_n dX8_figure_119 0 rfl 120 rfl ?_
    refine zk_get dX8_figure_120 0 rfl rfl kX8_figure_inX8 11 (by decide) kX8_figure_8 rfl 123 rfl ?_
    exact zk_iret hQ dX8_figure_123 rfl rfl
  refine zk_if (c := x1 = 10) (fun h1_10 => ?_) (fun h1_10 => ?_)
  · refine zk_tableIn (off := 123) dX8_figure_1 124 (by rw [h1_10]; decide) (by rw [h1_10]; decide) (by rw [h1_10]; rfl) (by decide) ?_
    refine zk_aload_n dX8_figure_124 0 rfl 125 rfl ?_
    refine zk_get dX8_figure_125 0 rfl rfl kX8_figure_inX8 12 (by decide) kX8_figure_9 rfl 128 rfl ?_
    exact zk_iret hQ dX8_figure_128 rfl rfl
  refine zk_tableOut dX8_figure_1 129 (by have e0 : x1.toInt ≠ 0 := fun z => h1_0 (Int32.toInt_inj.mp z); have e1 : x1.toInt ≠ 1 := fun z => h1_1 (Int32.toInt_inj.mp z); have e2 : x1.toInt ≠ 2 := fun z => h1_2 (Int32.toInt_inj.mp z); have e3 : x1.toInt ≠ 3 := fun z => h1_3 (Int32.toInt_inj.mp z); have e4 : x1.toInt ≠ 4 := fun z => h1_4 (Int32.toInt_inj.mp z); have e5 : x1.toInt ≠ 5 := fun z => h1_5 (Int32.toInt_inj.mp z); have e6 : x1.toInt ≠ 6 := fun z => h1_6 (Int32.toInt_inj.mp z); have e7 : x1.toInt ≠ 7 := fun z => h1_7 (Int32.toInt_inj.mp z); have e8 : x1.toInt ≠ 8 := fun z => h1_8 (Int32.toInt_inj.mp z); have e9 : x1.toInt ≠ 9 := fun z => h1_9 (Int32.toInt_inj.mp z); have e10 : x1.toInt ≠ 10 := fun z => h1_10 (Int32.toInt_inj.mp z); omega) (by decide) ?_
  refine zk_aload_n dX8_figure_129 0 rfl 130 rfl ?_
  refine zk_iload_n dX8_figure_130 1 rfl 131 rfl ?_
  refine zk_bipush 14 dX8_figure_131 (by decide) 133 rfl ?_
  refine zk_isub dX8_figure_133 134 rfl ?_
  refine zk_callV (ci := 8) (st := []) (c_X8_setting E l a (v_promises, v_lines, v_diary, v_now, v_room, v_bound, v_drift, v_brokenStanding, v_lateCalls, v_falls, v_swept, v_passedOver, v_longestQueue) (x1 - 14)) dX8_figure_134 1 gX8_figure_X8_setting rfl rfl rfl cd_X8_setting ⟨Nat.le_of_ble_eq_true rfl, Nat.le_of_ble_eq_true rfl⟩ ⟨Nat.zero_le _, Nat.zero_le _⟩ _ (fun r134 => (gX8 E a (v_promises, v_lines, v_diary, v_now, v_room, v_bound, v_drift, v_brokenStanding, v_lateCalls, v_falls, v_swept, v_passedOver, v_longestQueue))) zk_pa (fun r134 => zk_qa) rfl rfl rfl rfl (Nat.le_of_ble_eq_true rfl) (fun r134 => [.int r134]) (fun _ => rfl) 137 rfl (fun r134 => ?_)
  exact zk_iret hQ dX8_figure_137 rfl rfl
def f_X8_tellPromise_25 (x1 : Int32) (x2 : Int32) (v_promises : VX5) (v_lines : VX3) (s25_0 : Int32) (x3 : Int32) : Option (Int32) := if x2 = 0 then (f_X5_fact x1 0 v_promises.1).bind fun r86 => some r86 else if x2 = 1 then (f_X5_fact x1 1 v_promises.1).bind fun r96 => some r96 else if x2 = 2 then (f_X5_fact x1 2 v_promises.1).bind fun r106 => some r106 else if x2 = 3 then (f_X5_fact x1 3 v_promises.1).bind fun r116 => some r116 else if x2 = 4 then if s25_0 = 0 then some (-9) else some (x3 / 8) else if x2 = 5 then if s25_0 = 0 then some (-9) else some (zk_rem x3 8) else if x2 = 6 then (f_X3_placeOf x1 v_lines.1 v_lines.2.2.1 v_lines.2.2.2.1 v_lines.2.2.2.2).bind fun r155 => some r155 else if x2 = 7 then (f_X5_fact x1 4 v_promises.1).bind fun r165 => some r165 else if x2 = 8 then (f_X5_fact x1 5 v_promises.1).bind fun r175 => some r175 else some (-1)
def f_X8_tellPromise_24 (x1 : Int32) (x2 : Int32) (v_promises : VX5) (v_lines : VX3) (x3 : Int32) : Option (Int32) := f_X8_tellPromise_25 x1 x2 v_promises v_lines 0 x3
def f_X8_tellPromise (x1 : Int32) (x2 : Int32) (v_promises : VX5) (v_lines : VX3) : Option (Int32) := (f_X3_lineOf x1 v_lines.2.2.2.1).bind fun r5 => if r5 = (-1) then f_X8_tellPromise_24 x1 x2 v_promises v_lines r5 else if r5 = 24 then f_X8_tellPromise_24 x1 x2 v_promises v_lines r5 else f_X8_tellPromise_25 x1 x2 v_promises v_lines 1 r5
theorem kX8_tellPromise_inX8 : ∀ w ∈ u_ws RX8 TX8 13, w ∈ wsX8_tellPromise := by decide +kernel
theorem kX8_tellPromise_1 : Cond.fieldLink RX8 21 (TX8 1).1 (TX8 1).2.1 (TX8 1).2.2.1 ∈ wsX8_tellPromise := by decide +kernel
theorem kX8_tellPromise_2 : Cond.fieldLink RX8 12 (TX8 0).1 (TX8 0).2.1 (TX8 0).2.2.1 ∈ wsX8_tellPromise := by decide +kernel
theorem cd_X8_tellPromise : yX8_tellPromise.cls = RX8 ∧ yX8_tellPromise.cls ≠ "java/lang/invoke/MethodHandle" ∧ yX8_tellPromise.cls ≠ "java/lang/invoke/VarHandle" ∧ (parseMethodDescriptor yX8_tellPromise.desc).map (fun d => d.parameters.length) = some 2 := by decide +kernel
set_option maxRecDepth 100000 in
set_option maxHeartbeats 4000000 in
theorem c_X8_tellPromise (E : zk_Env) (l : Launch) (a : aX8) (v : VX8) (x1 : Int32) (x2 : Int32) : zk_Mc E l yX8_tellPromise wsX8_tellPromise ({ frames := 2, cells := 0, slots := 0, locals := 46 } : Room) [.ref a.1, .int x1, .int x2] (gX8 E a v) (f_X8_tellPromise x1 x2 v.1 v.2.1) (fun r => some (.int r)) (fun r => (gX8 E a v)) := by
  obtain ⟨v_promises, v_lines, v_diary, v_now, v_room, v_bound, v_drift, v_brokenStanding, v_lateCalls, v_falls, v_swept, v_passedOver, v_longestQueue⟩ := v
  refine zk_M (cc := cX8_tellPromise) (nL := 5) (ret := (some .int)) (by decide) rfl (Nat.le_of_ble_eq_true rfl) (fun X Q hQ => ?_)
  have J25 : ∀ (s25_0 : Int32) (x3 : Int32), zk_G E l X cX8_tellPromise 5 (some .int) yX8_tellPromise.cls wsX8_tellPromise ({ frames := 2, cells := 0, slots := 0, locals := 46 } : Room) 0 0 Q (gX8 E a (v_promises, v_lines, v_diary, v_now, v_room, v_bound, v_drift, v_brokenStanding, v_lateCalls, v_falls, v_swept, v_passedOver, v_longestQueue)) [(0, .ref a.1), (1, .int x1), (2, .int x2), (3, .int x3)] 25 [.int s25_0] (f_X8_tellPromise_25 x1 x2 v_promises v_lines s25_0 x3) := by
    intro s25_0 x3
    unfold f_X8_tellPromise_25
    refine zk_istore [(4, .int s25_0), (0, .ref a.1), (1, .int x1), (2, .int x2), (3, .int x3)] dX8_tellPromise_25 (by decide) rfl 27 rfl ?_
    refine zk_iload_n dX8_tellPromise_27 3 rfl 28 rfl ?_
    refine zk_if (c := x2 = 0) (fun h28_0 => ?_) (fun h28_0 => ?_)
    · refine zk_tableIn (off := 52) dX8_tellPromise_28 80 (by rw [h28_0]; decide) (by rw [h28_0]; decide) (by rw [h28_0]; rfl) (by decide) ?_
      refine zk_aload_n dX8_tellPromise_80 1 rfl 81 rfl ?_
      refine zk_get dX8_tellPromise_81 0 rfl rfl kX8_tellPromise_inX8 0 (by decide) kX8_tellPromise_2 rfl 84 rfl ?_
      refine zk_iload_n dX8_tellPromise_84 2 rfl 85 rfl ?_
      refine zk_iconst 0 dX8_tellPromise_85 (by decide) 86 rfl ?_
      refine zk_callV (ci := 5) (st := []) (c_X5_fact E l a.2.1 v_promises x1 0) dX8_tellPromise_86 2 gX8_tellPromise_X5_fact rfl rfl rfl cd_X5_fact ⟨Nat.le_of_ble_eq_true rfl, Nat.le_of_ble_eq_true rfl⟩ ⟨Nat.zero_le _, Nat.zero_le _⟩ _ (fun r86 => (gX8 E a (v_promises, v_lines, v_diary, v_now, v_room, v_bound, v_drift, v_brokenStanding, v_lateCalls, v_falls, v_swept, v_passedOver, v_longestQueue))) (zk_pc zk_pa (zk_p1 (gs := (lX8 E a (v_promises, v_lines, v_diary, v_now, v_room, v_bound, v_drift, v_brokenStanding, v_lateCalls, v_falls, v_swept, v_passedOver, v_longestQueue))) (i := 1) rfl)) (fun r86 => (zk_qc zk_qa (zk_q1 (gs := (lX8 E a (v_promises, v_lines, v_diary, v_now, v_room, v_bound, v_drift, v_brokenStanding, v_lateCalls, v_falls, v_swept, v_passedOver, v_longestQueue))) (i := 1) (w1 := gX8 E a (v_promises, v_lines, v_diary, v_now, v_room, v_bound, v_drift, v_brokenStanding, v_lateCalls, v_falls, v_swept, v_passedOver, v_longestQueue)) rfl rfl))) rfl rfl rfl rfl (Nat.le_of_ble_eq_true rfl) (fun r86 => [.int r86]) (fun _ => rfl) 89 rfl (fun r86 => ?_)
      exact zk_iret hQ dX8_tellPromise_89 rfl rfl
    refine zk_if (c := x2 = 1) (fun h28_1 => ?_) (fun h28_1 => ?_)
    · refine zk_tableIn (off := 62) dX8_tellPromise_28 90 (by rw [h28_1]; decide) (by rw [h28_1]; decide) (by rw [h28_1]; rfl) (by decide) ?_
      refine zk_aload_n dX8_tellPromise_90 1 rfl 91 rfl ?_
      refine zk_get dX8_tellPromise_91 0 rfl rfl kX8_tellPromise_inX8 0 (by decide) kX8_tellPromise_2 rfl 94 rfl ?_
      refine zk_iload_n dX8_tellPromise_94 2 rfl 95 rfl ?_
      refine zk_iconst 1 dX8_tellPromise_95 (by decide) 96 rfl ?_
      refine zk_callV (ci := 5) (st := []) (c_X5_fact E l a.2.1 v_promises x1 1) dX8_tellPromise_96 2 gX8_tellPromise_X5_fact rfl rfl rfl cd_X5_fact ⟨Nat.le_of_ble_eq_true rfl, Nat.le_of_ble_eq_true rfl⟩ ⟨Nat.zero_le _, Nat.zero_le _⟩ _ (fun r96 => (gX8 E a (v_promises, v_lines, v_diary, v_now, v_room, v_bound, v_drift, v_brokenStanding, v_lateCalls, v_falls, v_swept, v_passedOver, v_longestQueue))) (zk_pc zk_pa (zk_p1 (gs := (lX8 E a (v_promises, v_lines, v_diary, v_now, v_room, v_bound, v_drift, v_brokenStanding, v_lateCalls, v_falls, v_swept, v_passedOver, v_longestQueue))) (i := 1) rfl)) (fun r96 => (zk_qc zk_qa (zk_q1 (gs := (lX8 E a (v_promises, v_lines, v_diary, v_now, v_room, v_bound, v_drift, v_brokenStanding, v_lateCalls, v_falls, v_swept, v_passedOver, v_longestQueue))) (i := 1) (w1 := gX8 E a (v_promises, v_lines, v_diary, v_now, v_room, v_bound, v_drift, v_brokenStanding, v_lateCalls, v_falls, v_swept, v_passedOver, v_longestQueue)) rfl rfl))) rfl rfl rfl rfl (Nat.le_of_ble_eq_true rfl) (fun r96 => [.int r96]) (fun _ => rfl) 99 rfl (fun r96 => ?_)
      exact zk_iret hQ dX8_tellPromise_99 rfl rfl
    refine zk_if (c := x2 = 2) (fun h28_2 => ?_) (fun h28_2 => ?_)
    · refine zk_tableIn (off := 72) dX8_tellPromise_28 100 (by rw [h28_2]; decide) (by rw [h28_2]; decide) (by rw [h28_2]; rfl) (by decide) ?_
      refine zk_aload_n dX8_tellPromise_100 1 rfl 101 rfl ?_
      refine zk_get dX8_tellPromise_101 0 rfl rfl kX8_tellPromise_inX8 0 (by decide) kX8_tellPromise_2 rfl 104 rfl ?_
      refine zk_iload_n dX8_tellPromise_104 2 rfl 105 rfl ?_
      refine zk_iconst 2 dX8_tellPromise_105 (by decide) 106 rfl ?_
      refine zk_callV (ci := 5) (st := []) (c_X5_fact E l a.2.1 v_promises x1 2) dX8_tellPromise_106 2 gX8_tellPromise_X5_fact rfl rfl rfl cd_X5_fact ⟨Nat.le_of_ble_eq_true rfl, Nat.le_of_ble_eq_true rfl⟩ ⟨Nat.zero_le _, Nat.zero_le _⟩ _ (fun r106 => (gX8 E a (v_promises, v_lines, v_diary, v_now, v_room, v_bound, v_drift, v_brokenStanding, v_lateCalls, v_falls, v_swept, v_passedOver, v_longestQueue))) (zk_pc zk_pa (zk_p1 (gs := (lX8 E a (v_promises, v_lines, v_diary, v_now, v_room, v_bound, v_drift, v_brokenStanding, v_lateCalls, v_falls, v_swept, v_passedOver, v_longestQueue))) (i := 1) rfl)) (fun r106 => (zk_qc zk_qa (zk_q1 (gs := (lX8 E a (v_promises, v_lines, v_diary, v_now, v_room, v_bound, v_drift, v_brokenStanding, v_lateCalls, v_falls, v_swept, v_passedOver, v_longestQueue))) (i := 1) (w1 := gX8 E a (v_promises, v_lines, v_diary, v_now, v_room, v_bound, v_drift, v_brokenStanding, v_lateCalls, v_falls, v_swept, v_passedOver, v_longestQueue)) rfl rfl))) rfl rfl rfl rfl (Nat.le_of_ble_eq_true rfl) (fun r106 => [.int r106]) (fun _ => rfl) 109 rfl (fun r106 => ?_)
      exact zk_iret hQ dX8_tellPromise_109 rfl rfl
    refine zk_if (c := x2 = 3) (fun h28_3 => ?_) (fun h28_3 => ?_)
    · refine zk_tableIn (off := 82) dX8_tellPromise_28 110 (by rw [h28_3]; decide) (by rw [h28_3]; decide) (by rw [h28_3]; rfl) (by decide) ?_
      refine zk_aload_n dX8_tellPromise_110 1 rfl 111 rfl ?_
      refine zk_get dX8_tellPromise_111 0 rfl rfl kX8_tellPromise_inX8 0 (by decide) kX8_tellPromise_2 rfl 114 rfl ?_
      refine zk_iload_n dX8_tellPromise_114 2 rfl 115 rfl ?_
      refine zk_iconst 3 dX8_tellPromise_115 (by decide) 116 rfl ?_
      refine zk_callV (ci := 5) (st := []) (c_X5_fact E l a.2.1 v_promises x1 3) dX8_tellPromise_116 2 gX8_tellPromise_X5_fact rfl rfl rfl cd_X5_fact ⟨Nat.le_of_ble_eq_true rfl, Nat.le_of_ble_eq_true rfl⟩ ⟨Nat.zero_le _, Nat.zero_le _⟩ _ (fun r116 => (gX8 E a (v_promises, v_lines, v_diary, v_now, v_room, v_bound, v_drift, v_brokenStanding, v_lateCalls, v_falls, v_swept, v_passedOver, v_longestQueue))) (zk_pc zk_pa (zk_p1 (gs := (lX8 E a (v_promises, v_lines, v_diary, v_now, v_room, v_bound, v_drift, v_brokenStanding, v_lateCalls, v_falls, v_swept, v_passedOver, v_longestQueue))) (i := 1) rfl)) (fun r116 => (zk_qc zk_qa (zk_q1 (gs := (lX8 E a (v_promises, v_lines, v_diary, v_now, v_room, v_bound, v_drift, v_brokenStanding, v_lateCalls, v_falls, v_swept, v_passedOver, v_longestQueue))) (i := 1) (w1 := gX8 E a (v_promises, v_lines, v_diary, v_now, v_room, v_bound, v_drift, v_brokenStanding, v_lateCalls, v_falls, v_swept, v_passedOver, v_longestQueue)) rfl rfl))) rfl rfl rfl rfl (Nat.le_of_ble_eq_true rfl) (fun r116 => [.int r116]) (fun _ => rfl) 119 rfl (fun r116 => ?_)
      exact zk_iret hQ dX8_tellPromise_119 rfl rfl
    refine zk_if (c := x2 = 4) (fun h28_4 => ?_) (fun h28_4 => ?_)
    · refine zk_tableIn (off := 92) dX8_tellPromise_28 120 (by rw [h28_4]; decide) (by rw [h28_4]; decide) (by rw [h28_4]; rfl) (by decide) ?_
      refine zk_iload dX8_tellPromise_120 0 rfl 122 rfl ?_
      refine zk_if_eq dX8_tellPromise_122 132 (by decide) 125 rfl (fun _ => ?_) (fun _ => ?_)
      · refine zk_bipush (-9) dX8_tellPromise_132 (by decide) 134 rfl ?_
        exact zk_iret hQ dX8_tellPromise_134 rfl rfl
      · refine zk_iload_n dX8_tellPromise_125 4 rfl 126 rfl ?_
        refine zk_bipush 8 dX8_tellPromise_126 (by decide) 128 rfl ?_
        refine zk_idivL dX8_tellPromise_128 (by decide) 129 rfl ?_
        refine zk_goto dX8_tellPromise_129 134 (by decide) ?_
        exact zk_iret hQ dX8_tellPromise_134 rfl rfl
    refine zk_if (c := x2 = 5) (fun h28_5 => ?_) (fun h28_5 => ?_)
    · refine zk_tableIn (off := 107) dX8_tellPromise_28 135 (by rw [h28_5]; decide) (by rw [h28_5]; decide) (by rw [h28_5]; rfl) (by decide) ?_
      refine zk_iload dX8_tellPromise_135 0 rfl 137 rfl ?_
      refine zk_if_eq dX8_tellPromise_137 147 (by decide) 140 rfl (fun _ => ?_) (fun _ => ?_)
      · refine zk_bipush (-9) dX8_tellPromise_147 (by decide) 149 rfl ?_
        exact zk_iret hQ dX8_tellPromise_149 rfl rfl
      · refine zk_iload_n dX8_tellPromise_140 4 rfl 141 rfl ?_
        refine zk_bipush 8 dX8_tellPromise_141 (by decide) 143 rfl ?_
        refine zk_iremL dX8_tellPromise_143 (by decide) 144 rfl ?_
        refine zk_goto dX8_tellPromise_144 149 (by decide) ?_
        exact zk_iret hQ dX8_tellPromise_149 rfl rfl
    refine zk_if (c := x2 = 6) (fun h28_6 => ?_) (fun h28_6 => ?_)
    · refine zk_tableIn (off := 122) dX8_tellPromise_28 150 (by rw [h28_6]; decide) (by rw [h28_6]; decide) (by rw [h28_6]; rfl) (by decide) ?_
      refine zk_aload_n dX8_tellPromise_150 1 rfl 151 rfl ?_
      refine zk_get dX8_tellPromise_151 0 rfl rfl kX8_tellPromise_inX8 1 (by decide) kX8_tellPromise_1 rfl 154 rfl ?_
      refine zk_iload_n dX8_tellPromise_154 2 rfl 155 rfl ?_
      refine zk_callV (ci := 3) (st := []) (c_X3_placeOf E l a.2.2.1 v_lines x1) dX8_tellPromise_155 1 gX8_tellPromise_X3_placeOf rfl rfl rfl cd_X3_placeOf ⟨Nat.le_of_ble_eq_true rfl, Nat.le_of_ble_eq_true rfl⟩ ⟨Nat.zero_le _, Nat.zero_le _⟩ _ (fun r155 => (gX8 E a (v_promises, v_lines, v_diary, v_now, v_room, v_bound, v_drift, v_brokenStanding, v_lateCalls, v_falls, v_swept, v_passedOver, v_longestQueue))) (zk_pc zk_pa (zk_p1 (gs := (lX8 E a (v_promises, v_lines, v_diary, v_now, v_room, v_bound, v_drift, v_brokenStanding, v_lateCalls, v_falls, v_swept, v_passedOver, v_longestQueue))) (i := 2) rfl)) (fun r155 => (zk_qc zk_qa (zk_q1 (gs := (lX8 E a (v_promises, v_lines, v_diary, v_now, v_room, v_bound, v_drift, v_brokenStanding, v_lateCalls, v_falls, v_swept, v_passedOver, v_longestQueue))) (i := 2) (w1 := gX8 E a (v_promises, v_lines, v_diary, v_now, v_room, v_bound, v_drift, v_brokenStanding, v_lateCalls, v_falls, v_swept, v_passedOver, v_longestQueue)) rfl rfl))) rfl rfl rfl rfl (Nat.le_of_ble_eq_true rfl) (fun r155 => [.int r155]) (fun _ => rfl) 158 rfl (fun r155 => ?_)
      exact zk_iret hQ dX8_tellPromise_158 rfl rfl
    refine zk_if (c := x2 = 7) (fun h28_7 => ?_) (fun h28_7 => ?_)
    · refine zk_tableIn (off := 131) dX8_tellPromise_28 159 (by rw [h28_7]; decide) (by rw [h28_7]; decide) (by rw [h28_7]; rfl) (by decide) ?_
      refine zk_aload_n dX8_tellPromise_159 1 rfl 160 rfl ?_
      refine zk_get dX8_tellPromise_160 0 rfl rfl kX8_tellPromise_inX8 0 (by decide) kX8_tellPromise_2 rfl 163 rfl ?_
      refine zk_iload_n dX8_tellPromise_163 2 rfl 164 rfl ?_
      refine zk_iconst 4 dX8_tellPromise_164 (by decide) 165 rfl ?_
      refine zk_callV (ci := 5) (st := []) (c_X5_fact E l a.2.1 v_promises x1 4) dX8_tellPromise_165 2 gX8_tellPromise_X5_fact rfl rfl rfl cd_X5_fact ⟨Nat.le_of_ble_eq_true rfl, Nat.le_of_ble_eq_true rfl⟩ ⟨Nat.zero_le _, Nat.zero_le _⟩ _ (fun r165 => (gX8 E a (v_promises, v_lines, v_diary, v_now, v_room, v_bound, v_drift, v_brokenStanding, v_lateCalls, v_falls, v_swept, v_passedOver, v_longestQueue))) (zk_pc zk_pa (zk_p1 (gs := (lX8 E a (v_promises, v_lines, v_diary, v_now, v_room, v_bound, v_drift, v_brokenStanding, v_lateCalls, v_falls, v_swept, v_passedOver, v_longestQueue))) (i := 1) rfl)) (fun r165 => (zk_qc zk_qa (zk_q1 (gs := (lX8 E a (v_promises, v_lines, v_diary, v_now, v_room, v_bound, v_drift, v_brokenStanding, v_lateCalls, v_falls, v_swept, v_passedOver, v_longestQueue))) (i := 1) (w1 := gX8 E a (v_promises, v_lines, v_diary, v_now, v_room, v_bound, v_drift, v_brokenStanding, v_lateCalls, v_falls, v_swept, v_passedOver, v_longestQueue)) rfl rfl))) rfl rfl rfl rfl (Nat.le_of_ble_eq_true rfl) (fun r165 => [.int r165]) (fun _ => rfl) 168 rfl (fun r165 => ?_)
      exact zk_iret hQ dX8_tellPromise_168 rfl rfl
    refine zk_if (c := x2 = 8) (fun h28_8 => ?_) (fun h28_8 => ?_)
    · refine zk_tableIn (off := 141) dX8_tellPromise_28 169 (by rw [h28_8]; decide) (by rw [h28_8]; decide) (by rw [h28_8]; rfl) (by decide) ?_
      refine zk_aload_n dX8_tellPromise_169 1 rfl 170 rfl ?_
      refine zk_get dX8_tellPromise_170 0 rfl rfl kX8_tellPromise_inX8 0 (by decide) kX8_tellPromise_2 rfl 173 rfl ?_
      refine zk_iload_n dX8_tellPromise_173 2 rfl 174 rfl ?_
      refine zk_iconst 5 dX8_tellPromise_174 (by decide) 175 rfl ?_
      refine zk_callV (ci := 5) (st := []) (c_X5_fact E l a.2.1 v_promises x1 5) dX8_tellPromise_175 2 gX8_tellPromise_X5_fact rfl rfl rfl cd_X5_fact ⟨Nat.le_of_ble_eq_true rfl, Nat.le_of_ble_eq_true rfl⟩ ⟨Nat.zero_le _, Nat.zero_le _⟩ _ (fun r175 => (gX8 E a (v_promises, v_lines, v_diary, v_now, v_room, v_bound, v_drift, v_brokenStanding, v_lateCalls, v_falls, v_swept, v_passedOver, v_longestQueue))) (zk_pc zk_pa (zk_p1 (gs := (lX8 E a (v_promises, v_lines, v_diary, v_now, v_room, v_bound, v_drift, v_brokenStanding, v_lateCalls, v_falls, v_swept, v_passedOver, v_longestQueue))) (i := 1) rfl)) (fun r175 => (zk_qc zk_qa (zk_q1 (gs := (lX8 E a (v_promises, v_lines, v_diary, v_now, v_room, v_bound, v_drift, v_brokenStanding, v_lateCalls, v_falls, v_swept, v_passedOver, v_longestQueue))) (i := 1) (w1 := gX8 E a (v_promises, v_lines, v_diary, v_now, v_room, v_bound, v_drift, v_brokenStanding, v_lateCalls, v_falls, v_swept, v_passedOver, v_longestQueue)) rfl rfl))) rfl rfl rfl rfl (Nat.le_of_ble_eq_true rfl) (fun r175 => [.int r175]) (fun _ => rfl) 178 rfl (fun r175 => ?_)
      exact zk_iret hQ dX8_tellPromise_178 rfl rfl
    refine zk_tableOut dX8_tellPromise_28 179 (by have e0 : x2.toInt ≠ 0 := fun z => h28_0 (Int32.toInt_inj.mp z); have e1 : x2.toInt ≠ 1 := fun z => h28_1 (Int32.toInt_inj.mp z); have e2 : x2.toInt ≠ 2 := fun z => h28_2 (Int32.toInt_inj.mp z); have e3 : x2.toInt ≠ 3 := fun z => h28_3 (Int32.toInt_inj.mp z); have e4 : x2.toInt ≠ 4 := fun z => h28_4 (Int32.toInt_inj.mp z); have e5 : x2.toInt ≠ 5 := fun z => h28_5 (Int32.toInt_inj.mp z); have e6 : x2.toInt ≠ 6 := fun z => h28_6 (Int32.toInt_inj.mp z); have e7 : x2.toInt ≠ 7 := fun z => h28_7 (Int32.toInt_inj.mp z); have e8 : x2.toInt ≠ 8 := fun z => h28_8 (Int32.toInt_inj.mp z); omega) (by decide) ?_
    refine zk_iconst (-1) dX8_tellPromise_179 (by decide) 180 rfl ?_
    exact zk_iret hQ dX8_tellPromise_180 rfl rfl
  have J24 : ∀ (x3 : Int32), zk_G E l X cX8_tellPromise 5 (some .int) yX8_tellPromise.cls wsX8_tellPromise ({ frames := 2, cells := 0, slots := 0, locals := 46 } : Room) 0 0 Q (gX8 E a (v_promises, v_lines, v_diary, v_now, v_room, v_bound, v_drift, v_brokenStanding, v_lateCalls, v_falls, v_swept, v_passedOver, v_longestQueue)) [(0, .ref a.1), (1, .int x1), (2, .int x2), (3, .int x3)] 24 [] (f_X8_tellPromise_24 x1 x2 v_promises v_lines x3) := by
    intro x3
    unfold f_X8_tellPromise_24
    refine zk_iconst 0 dX8_tellPromise_24 (by decide) 25 rfl ?_
    exact J25   0 x3
  refine zk_eqv (w1 := (gX8 E a (v_promises, v_lines, v_diary, v_now, v_room, v_bound, v_drift, v_brokenStanding, v_lateCalls, v_falls, v_swept, v_passedOver, v_longestQueue))) (lv1 := [(0, .ref a.1), (1, .int x1), (2, .int x2)]) (st1 := []) (o1 := f_X8_tellPromise x1 x2 v_promises v_lines) rfl rfl rfl rfl ?_
  unfold f_X8_tellPromise
  refine zk_aload_n dX8_tellPromise_0 0 rfl 1 rfl ?_
  refine zk_get dX8_tellPromise_1 0 rfl rfl kX8_tellPromise_inX8 1 (by decide) kX8_tellPromise_1 rfl 4 rfl ?_
  refine zk_iload_n dX8_tellPromise_4 1 rfl 5 rfl ?_
  refine zk_callV (ci := 3) (st := []) (c_X3_lineOf E l a.2.2.1 v_lines x1) dX8_tellPromise_5 1 gX8_tellPromise_X3_lineOf rfl rfl rfl cd_X3_lineOf ⟨Nat.le_of_ble_eq_true rfl, Nat.le_of_ble_eq_true rfl⟩ ⟨Nat.zero_le _, Nat.zero_le _⟩ _ (fun r5 => (gX8 E a (v_promises, v_lines, v_diary, v_now, v_room, v_bound, v_drift, v_brokenStanding, v_lateCalls, v_falls, v_swept, v_passedOver, v_longestQueue))) (zk_pc zk_pa (zk_p1 (gs := (lX8 E a (v_promises, v_lines, v_diary, v_now, v_room, v_bound, v_drift, v_brokenStanding, v_lateCalls, v_falls, v_swept, v_passedOver, v_longestQueue))) (i := 2) rfl)) (fun r5 => (zk_qc zk_qa (zk_q1 (gs := (lX8 E a (v_promises, v_lines, v_diary, v_now, v_room, v_bound, v_drift, v_brokenStanding, v_lateCalls, v_falls, v_swept, v_passedOver, v_longestQueue))) (i := 2) (w1 := gX8 E a (v_promises, v_lines, v_diary, v_now, v_room, v_bound, v_drift, v_brokenStanding, v_lateCalls, v_falls, v_swept, v_passedOver, v_longestQueue)) rfl rfl))) rfl rfl rfl rfl (Nat.le_of_ble_eq_true rfl) (fun r5 => [.int r5]) (fun _ => rfl) 8 rfl (fun r5 => ?_)
  refine zk_istore_n [(3, .int r5), (0, .ref a.1), (1, .int x1), (2, .int x2)] dX8_tellPromise_8 (by decide) rfl 9 rfl ?_
  refine zk_iload_n dX8_tellPromise_9 0 rfl 10 rfl ?_
  refine zk_iconst (-1) dX8_tellPromise_10 (by decide) 11 rfl ?_
  refine zk_icmp_eq dX8_tellPromise_11 24 (by decide) 14 rfl (fun _ => ?_) (fun _ => ?_)
  · refine zk_lv [1, 2, 3, 0] rfl ?_
    exact J24   r5
  · refine zk_iload_n dX8_tellPromise_14 0 rfl 15 rfl ?_
    refine zk_bipush 24 dX8_tellPromise_15 (by decide) 17 rfl ?_
    refine zk_icmp_eq dX8_tellPromise_17 24 (by decide) 20 rfl (fun _ => ?_) (fun _ => ?_)
    · refine zk_lv [1, 2, 3, 0] rfl ?_
      exact J24   r5
    · refine zk_iconst 1 dX8_tellPromise_20 (by decide) 21 rfl ?_
      refine zk_goto dX8_tellPromise_21 25 (by decide) ?_
      refine zk_lv [1, 2, 3, 0] rfl ?_
      exact J25   1 r5
def f_X8_earliestIn_54 (v_lines : VX3) (x2 : Int32) (k24 : Int32 × Int32 × Int32 → Option (Int32)) (x3 : Int32) (x4 : Int32) (x5 : Int32) : Option (Int32) := (f_X3_follower x3 v_lines.2.2.2.2).bind fun r59 => k24 (r59, x4, (x5 + 1))
def F_X8_earliestIn_24 (v_promises : VX5) (v_lines : VX3) (x2 : Int32) (k24 : Int32 × Int32 × Int32 → Option (Int32)) : Int32 × Int32 × Int32 → Option (Int32) := fun s => match s with
  | (x3, x4, x5) => if x2 ≤ x5 then some x4 else (f_X5_isIn x3 3 v_promises.1).bind fun r36 => if r36 = 0 then (f_X5_earlier x4 x3 v_promises.1).bind fun r49 => f_X8_earliestIn_54 v_lines x2 k24 x3 r49 x5 else f_X8_earliestIn_54 v_lines x2 k24 x3 x4 x5
def f_X8_earliestIn (x1 : Int32) (v_promises : VX5) (v_lines : VX3) : Option (Int32) := (f_X3_lengthOf x1 v_lines.2.2.1).bind fun r5 => (f_X3_frontOf x1 v_lines.1).bind fun r14 => zk_fx (F_X8_earliestIn_24 v_promises v_lines r5 ) zk_N (r14, (-1), 0)
theorem kX8_earliestIn_inX8 : ∀ w ∈ u_ws RX8 TX8 13, w ∈ wsX8_earliestIn := by decide +kernel
theorem kX8_earliestIn_1 : Cond.fieldLink RX8 21 (TX8 1).1 (TX8 1).2.1 (TX8 1).2.2.1 ∈ wsX8_earliestIn := by decide +kernel
theorem kX8_earliestIn_2 : Cond.fieldLink RX8 12 (TX8 0).1 (TX8 0).2.1 (TX8 0).2.2.1 ∈ wsX8_earliestIn := by decide +kernel
theorem cd_X8_earliestIn : yX8_earliestIn.cls = RX8 ∧ yX8_earliestIn.cls ≠ "java/lang/invoke/MethodHandle" ∧ yX8_earliestIn.cls ≠ "java/lang/invoke/VarHandle" ∧ (parseMethodDescriptor yX8_earliestIn.desc).map (fun d => d.parameters.length) = some 1 := by decide +kernel
set_option maxRecDepth 100000 in
set_option maxHeartbeats 4000000 in
theorem c_X8_earliestIn (E : zk_Env) (l : Launch) (a : aX8) (v : VX8) (x1 : Int32) : zk_Mc E l yX8_earliestIn wsX8_earliestIn ({ frames := 2, cells := 0, slots := 0, locals := 46 } : Room) [.ref a.1, .int x1] (gX8 E a v) (f_X8_earliestIn x1 v.1 v.2.1) (fun r => some (.int r)) (fun r => (gX8 E a v)) := by
  obtain ⟨v_promises, v_lines, v_diary, v_now, v_room, v_bound, v_drift, v_brokenStanding, v_lateCalls, v_falls, v_swept, v_passedOver, v_longestQueue⟩ := v
  refine zk_M (cc := cX8_earliestIn) (nL := 6) (ret := (some .int)) (by decide) rfl (Nat.le_of_ble_eq_true rfl) (fun X Q hQ => ?_)
  have J54 : ∀ (x2 : Int32) (k24 : Int32 × Int32 × Int32 → Option (Int32)) (hk24 : ∀ s : Int32 × Int32 × Int32, zk_G E l X cX8_earliestIn 6 (some .int) yX8_earliestIn.cls wsX8_earliestIn ({ frames := 2, cells := 0, slots := 0, locals := 46 } : Room) 0 0 Q (gX8 E a (v_promises, v_lines, v_diary, v_now, v_room, v_bound, v_drift, v_brokenStanding, v_lateCalls, v_falls, v_swept, v_passedOver, v_longestQueue)) [(0, .ref a.1), (2, .int x2), (3, .int s.1), (4, .int s.2.1), (5, .int s.2.2)] 24 [] (k24 s)) (x3 : Int32) (x4 : Int32) (x5 : Int32), zk_G E l X cX8_earliestIn 6 (some .int) yX8_earliestIn.cls wsX8_earliestIn ({ frames := 2, cells := 0, slots := 0, locals := 46 } : Room) 0 0 Q (gX8 E a (v_promises, v_lines, v_diary, v_now, v_room, v_bound, v_drift, v_brokenStanding, v_lateCalls, v_falls, v_swept, v_passedOver, v_longestQueue)) [(0, .ref a.1), (2, .int x2), (3, .int x3), (4, .int x4), (5, .int x5)] 54 [] (f_X8_earliestIn_54 v_lines x2 k24 x3 x4 x5) := by
    intro x2 k24 hk24 x3 x4 x5
    unfold f_X8_earliestIn_54
    refine zk_aload_n dX8_earliestIn_54 0 rfl 55 rfl ?_
    refine zk_get dX8_earliestIn_55 0 rfl rfl kX8_earliestIn_inX8 1 (by decide) kX8_earliestIn_1 rfl 58 rfl ?_
    refine zk_iload_n dX8_earliestIn_58 2 rfl 59 rfl ?_
    refine zk_callV (ci := 3) (st := []) (c_X3_follower E l a.2.2.1 v_lines x3) dX8_earliestIn_59 1 gX8_earliestIn_X3_follower rfl rfl rfl cd_X3_follower ⟨Nat.le_of_ble_eq_true rfl, Nat.le_of_ble_eq_true rfl⟩ ⟨Nat.zero_le _, Nat.zero_le _⟩ _ (fun r59 => (gX8 E a (v_promises, v_lines, v_diary, v_now, v_room, v_bound, v_drift, v_brokenStanding, v_lateCalls, v_falls, v_swept, v_passedOver, v_longestQueue))) (zk_pc zk_pa (zk_p1 (gs := (lX8 E a (v_promises, v_lines, v_diary, v_now, v_room, v_bound, v_drift, v_brokenStanding, v_lateCalls, v_falls, v_swept, v_passedOver, v_longestQueue))) (i := 2) rfl)) (fun r59 => (zk_qc zk_qa (zk_q1 (gs := (lX8 E a (v_promises, v_lines, v_diary, v_now, v_room, v_bound, v_drift, v_brokenStanding, v_lateCalls, v_falls, v_swept, v_passedOver, v_longestQueue))) (i := 2) (w1 := gX8 E a (v_promises, v_lines, v_diary, v_now, v_room, v_bound, v_drift, v_brokenStanding, v_lateCalls, v_falls, v_swept, v_passedOver, v_longestQueue)) rfl rfl))) rfl rfl rfl rfl (Nat.le_of_ble_eq_true rfl) (fun r59 => [.int r59]) (fun _ => rfl) 62 rfl (fun r59 => ?_)
    refine zk_istore_n [(3, .int r59), (0, .ref a.1), (2, .int x2), (4, .int x4), (5, .int x5)] dX8_earliestIn_62 (by decide) rfl 63 rfl ?_
    refine zk_iinc (x5 + 1) [(5, .int (x5 + 1)), (3, .int r59), (0, .ref a.1), (2, .int x2), (4, .int x4)] dX8_earliestIn_63 4 rfl rfl (by decide) rfl 66 rfl ?_
    refine zk_goto dX8_earliestIn_66 24 (by decide) ?_
    refine zk_lv [2, 3, 1, 4, 0] rfl ?_
    exact hk24 (r59, x4, (x5 + 1))
  have J24 : ∀ (x2 : Int32) (n : Nat) (x3 : Int32) (x4 : Int32) (x5 : Int32), zk_G E l X cX8_earliestIn 6 (some .int) yX8_earliestIn.cls wsX8_earliestIn ({ frames := 2, cells := 0, slots := 0, locals := 46 } : Room) 0 0 Q (gX8 E a (v_promises, v_lines, v_diary, v_now, v_room, v_bound, v_drift, v_brokenStanding, v_lateCalls, v_falls, v_swept, v_passedOver, v_longestQueue)) [(0, .ref a.1), (2, .int x2), (3, .int x3), (4, .int x4), (5, .int x5)] 24 [] (zk_fx (F_X8_earliestIn_24 v_promises v_lines x2 ) n (x3, x4, x5)) := by
    intro x2 n x3 x4 x5
    refine zk_loop (S := Int32 × Int32 × Int32) (F := F_X8_earliestIn_24 v_promises v_lines x2) (wS := fun s => (gX8 E a (v_promises, v_lines, v_diary, v_now, v_room, v_bound, v_drift, v_brokenStanding, v_lateCalls, v_falls, v_swept, v_passedOver, v_longestQueue))) (lS := fun s => [(0, .ref a.1), (2, .int x2), (3, .int s.1), (4, .int s.2.1), (5, .int s.2.2)]) (sS := fun _ => []) (fun k24 hk24 s => ?_) n (x3, x4, x5)
    obtain ⟨x3, x4, x5⟩ := s
    unfold F_X8_earliestIn_24
    try dsimp only
    refine zk_iload dX8_earliestIn_24 4 rfl 26 rfl ?_
    refine zk_iload_n dX8_earliestIn_26 1 rfl 27 rfl ?_
    refine zk_icmp_ge dX8_earliestIn_27 69 (by decide) 30 rfl (fun _ => ?_) (fun _ => ?_)
    · refine zk_iload dX8_earliestIn_69 3 rfl 71 rfl ?_
      exact zk_iret hQ dX8_earliestIn_71 rfl rfl
    · refine zk_aload_n dX8_earliestIn_30 0 rfl 31 rfl ?_
      refine zk_get dX8_earliestIn_31 0 rfl rfl kX8_earliestIn_inX8 0 (by decide) kX8_earliestIn_2 rfl 34 rfl ?_
      refine zk_iload_n dX8_earliestIn_34 2 rfl 35 rfl ?_
      refine zk_iconst 3 dX8_earliestIn_35 (by decide) 36 rfl ?_
      refine zk_callV (ci := 5) (st := []) (c_X5_isIn E l a.2.1 v_promises x3 3) dX8_earliestIn_36 2 gX8_earliestIn_X5_isIn rfl rfl rfl cd_X5_isIn ⟨Nat.le_of_ble_eq_true rfl, Nat.le_of_ble_eq_true rfl⟩ ⟨Nat.zero_le _, Nat.zero_le _⟩ _ (fun r36 => (gX8 E a (v_promises, v_lines, v_diary, v_now, v_room, v_bound, v_drift, v_brokenStanding, v_lateCalls, v_falls, v_swept, v_passedOver, v_longestQueue))) (zk_pc zk_pa (zk_p1 (gs := (lX8 E a (v_promises, v_lines, v_diary, v_now, v_room, v_bound, v_drift, v_brokenStanding, v_lateCalls, v_falls, v_swept, v_passedOver, v_longestQueue))) (i := 1) rfl)) (fun r36 => (zk_qc zk_qa (zk_q1 (gs := (lX8 E a (v_promises, v_lines, v_diary, v_now, v_room, v_bound, v_drift, v_brokenStanding, v_lateCalls, v_falls, v_swept, v_passedOver, v_longestQueue))) (i := 1) (w1 := gX8 E a (v_promises, v_lines, v_diary, v_now, v_room, v_bound, v_drift, v_brokenStanding, v_lateCalls, v_falls, v_swept, v_passedOver, v_longestQueue)) rfl rfl))) rfl rfl rfl rfl (Nat.le_of_ble_eq_true rfl) (fun r36 => [.int r36]) (fun _ => rfl) 39 rfl (fun r36 => ?_)
      refine zk_if_ne dX8_earliestIn_39 54 (by decide) 42 rfl (fun _ => ?_) (fun _ => ?_)
      · refine zk_aload_n dX8_earliestIn_42 0 rfl 43 rfl ?_
        refine zk_get dX8_earliestIn_43 0 rfl rfl kX8_earliestIn_inX8 0 (by decide) kX8_earliestIn_2 rfl 46 rfl ?_
        refine zk_iload dX8_earliestIn_46 3 rfl 48 rfl ?_
        refine zk_iload_n dX8_earliestIn_48 2 rfl 49 rfl ?_
        refine zk_callV (ci := 5) (st := []) (c_X5_earlier E l a.2.1 v_promises x4 x3) dX8_earliestIn_49 2 gX8_earliestIn_X5_earlier rfl rfl rfl cd_X5_earlier ⟨Nat.le_of_ble_eq_true rfl, Nat.le_of_ble_eq_true rfl⟩ ⟨Nat.zero_le _, Nat.zero_le _⟩ _ (fun r49 => (gX8 E a (v_promises, v_lines, v_diary, v_now, v_room, v_bound, v_drift, v_brokenStanding, v_lateCalls, v_falls, v_swept, v_passedOver, v_longestQueue))) (zk_pc zk_pa (zk_p1 (gs := (lX8 E a (v_promises, v_lines, v_diary, v_now, v_room, v_bound, v_drift, v_brokenStanding, v_lateCalls, v_falls, v_swept, v_passedOver, v_longestQueue))) (i := 1) rfl)) (fun r49 => (zk_qc zk_qa (zk_q1 (gs := (lX8 E a (v_promises, v_lines, v_diary, v_now, v_room, v_bound, v_drift, v_brokenStanding, v_lateCalls, v_falls, v_swept, v_passedOver, v_longestQueue))) (i := 1) (w1 := gX8 E a (v_promises, v_lines, v_diary, v_now, v_room, v_bound, v_drift, v_brokenStanding, v_lateCalls, v_falls, v_swept, v_passedOver, v_longestQueue)) rfl rfl))) rfl rfl rfl rfl (Nat.le_of_ble_eq_true rfl) (fun r49 => [.int r49]) (fun _ => rfl) 52 rfl (fun r49 => ?_)
        refine zk_istore [(4, .int r49), (0, .ref a.1), (2, .int x2), (3, .int x3), (5, .int x5)] dX8_earliestIn_52 (by decide) rfl 54 rfl ?_
        refine zk_lv [1, 2, 3, 0, 4] rfl ?_
        exact J54 x2 k24 hk24 x3 r49 x5
      · exact J54 x2 k24 hk24 x3 x4 x5
  refine zk_eqv (w1 := (gX8 E a (v_promises, v_lines, v_diary, v_now, v_room, v_bound, v_drift, v_brokenStanding, v_lateCalls, v_falls, v_swept, v_passedOver, v_longestQueue))) (lv1 := [(0, .ref a.1), (1, .int x1)]) (st1 := []) (o1 := f_X8_earliestIn x1 v_promises v_lines) rfl rfl rfl rfl ?_
  unfold f_X8_earliestIn
  refine zk_aload_n dX8_earliestIn_0 0 rfl 1 rfl ?_
  refine zk_get dX8_earliestIn_1 0 rfl rfl kX8_earliestIn_inX8 1 (by decide) kX8_earliestIn_1 rfl 4 rfl ?_
  refine zk_iload_n dX8_earliestIn_4 1 rfl 5 rfl ?_
  refine zk_callV (ci := 3) (st := []) (c_X3_lengthOf E l a.2.2.1 v_lines x1) dX8_earliestIn_5 1 gX8_earliestIn_X3_lengthOf rfl rfl rfl cd_X3_lengthOf ⟨Nat.le_of_ble_eq_true rfl, Nat.le_of_ble_eq_true rfl⟩ ⟨Nat.zero_le _, Nat.zero_le _⟩ _ (fun r5 => (gX8 E a (v_promises, v_lines, v_diary, v_now, v_room, v_bound, v_drift, v_brokenStanding, v_lateCalls, v_falls, v_swept, v_passedOver, v_longestQueue))) (zk_pc zk_pa (zk_p1 (gs := (lX8 E a (v_promises, v_lines, v_diary, v_now, v_room, v_bound, v_drift, v_brokenStanding, v_lateCalls, v_falls, v_swept, v_passedOver, v_longestQueue))) (i := 2) rfl)) (fun r5 => (zk_qc zk_qa (zk_q1 (gs := (lX8 E a (v_promises, v_lines, v_diary, v_now, v_room, v_bound, v_drift, v_brokenStanding, v_lateCalls, v_falls, v_swept, v_passedOver, v_longestQueue))) (i := 2) (w1 := gX8 E a (v_promises, v_lines, v_diary, v_now, v_room, v_bound, v_drift, v_brokenStanding, v_lateCalls, v_falls, v_swept, v_passedOver, v_longestQueue)) rfl rfl))) rfl rfl rfl rfl (Nat.le_of_ble_eq_true rfl) (fun r5 => [.int r5]) (fun _ => rfl) 8 rfl (fun r5 => ?_)
  refine zk_istore_n [(2, .int r5), (0, .ref a.1), (1, .int x1)] dX8_earliestIn_8 (by decide) rfl 9 rfl ?_
  refine zk_aload_n dX8_earliestIn_9 1 rfl 10 rfl ?_
  refine zk_get dX8_earliestIn_10 0 rfl rfl kX8_earliestIn_inX8 1 (by decide) kX8_earliestIn_1 rfl 13 rfl ?_
  refine zk_iload_n dX8_earliestIn_13 2 rfl 14 rfl ?_
  refine zk_callV (ci := 3) (st := []) (c_X3_frontOf E l a.2.2.1 v_lines x1) dX8_earliestIn_14 1 gX8_earliestIn_X3_frontOf rfl rfl rfl cd_X3_frontOf ⟨Nat.le_of_ble_eq_true rfl, Nat.le_of_ble_eq_true rfl⟩ ⟨Nat.zero_le _, Nat.zero_le _⟩ _ (fun r14 => (gX8 E a (v_promises, v_lines, v_diary, v_now, v_room, v_bound, v_drift, v_brokenStanding, v_lateCalls, v_falls, v_swept, v_passedOver, v_longestQueue))) (zk_pc zk_pa (zk_p1 (gs := (lX8 E a (v_promises, v_lines, v_diary, v_now, v_room, v_bound, v_drift, v_brokenStanding, v_lateCalls, v_falls, v_swept, v_passedOver, v_longestQueue))) (i := 2) rfl)) (fun r14 => (zk_qc zk_qa (zk_q1 (gs := (lX8 E a (v_promises, v_lines, v_diary, v_now, v_room, v_bound, v_drift, v_brokenStanding, v_lateCalls, v_falls, v_swept, v_passedOver, v_longestQueue))) (i := 2) (w1 := gX8 E a (v_promises, v_lines, v_diary, v_now, v_room, v_bound, v_drift, v_brokenStanding, v_lateCalls, v_falls, v_swept, v_passedOver, v_longestQueue)) rfl rfl))) rfl rfl rfl rfl (Nat.le_of_ble_eq_true rfl) (fun r14 => [.int r14]) (fun _ => rfl) 17 rfl (fun r14 => ?_)
  refine zk_istore_n [(3, .int r14), (2, .int r5), (0, .ref a.1), (1, .int x1)] dX8_earliestIn_17 (by decide) rfl 18 rfl ?_
  refine zk_iconst (-1) dX8_earliestIn_18 (by decide) 19 rfl ?_
  refine zk_istore [(4, .int (-1)), (3, .int r14), (2, .int r5), (0, .ref a.1), (1, .int x1)] dX8_earliestIn_19 (by decide) rfl 21 rfl ?_
  refine zk_iconst 0 dX8_earliestIn_21 (by decide) 22 rfl ?_
  refine zk_istore [(5, .int 0), (4, .int (-1)), (3, .int r14), (2, .int r5), (0, .ref a.1), (1, .int x1)] dX8_earliestIn_22 (by decide) rfl 24 rfl ?_
  refine zk_lv [4, 3, 2, 1, 0] rfl ?_
  exact J24   r5 zk_N r14 (-1) 0
def f_X8_earliestOfAll_37 (k4 : Int32 × Int32 → Option (Int32)) (x1 : Int32) (x2 : Int32) : Option (Int32) := k4 (x1, (x2 + 1))
def F_X8_earliestOfAll_4 (v_promises : VX5) (k4 : Int32 × Int32 → Option (Int32)) : Int32 × Int32 → Option (Int32) := fun s => match s with
  | (x1, x2) => (f_X5_given v_promises.2).bind fun r9 => if r9 ≤ x2 then some x1 else (f_X5_isIn x2 0 v_promises.1).bind fun r21 => if r21 = 0 then f_X8_earliestOfAll_37 k4 x1 x2 else (f_X5_earlier x1 x2 v_promises.1).bind fun r33 => f_X8_earliestOfAll_37 k4 r33 x2
def f_X8_earliestOfAll (v_promises : VX5) : Option (Int32) := zk_fx (F_X8_earliestOfAll_4 v_promises ) zk_N ((-1), 0)
theorem kX8_earliestOfAll_inX8 : ∀ w ∈ u_ws RX8 TX8 13, w ∈ wsX8_earliestOfAll := by decide +kernel
theorem kX8_earliestOfAll_1 : Cond.fieldLink RX8 12 (TX8 0).1 (TX8 0).2.1 (TX8 0).2.2.1 ∈ wsX8_earliestOfAll := by decide +kernel
theorem cd_X8_earliestOfAll : yX8_earliestOfAll.cls = RX8 ∧ yX8_earliestOfAll.cls ≠ "java/lang/invoke/MethodHandle" ∧ yX8_earliestOfAll.cls ≠ "java/lang/invoke/VarHandle" ∧ (parseMethodDescriptor yX8_earliestOfAll.desc).map (fun d => d.parameters.length) = some 0 := by decide +kernel
set_option maxRecDepth 100000 in
set_option maxHeartbeats 4000000 in
theorem c_X8_earliestOfAll (E : zk_Env) (l : Launch) (a : aX8) (v : VX8)  : zk_Mc E l yX8_earliestOfAll wsX8_earliestOfAll ({ frames := 2, cells := 0, slots := 0, locals := 46 } : Room) [.ref a.1] (gX8 E a v) (f_X8_earliestOfAll v.1) (fun r => some (.int r)) (fun r => (gX8 E a v)) := by
  obtain ⟨v_promises, v_lines, v_diary, v_now, v_room, v_bound, v_drift, v_brokenStanding, v_lateCalls, v_falls, v_swept, v_passedOver, v_longestQueue⟩ := v
  refine zk_M (cc := cX8_earliestOfAll) (nL := 3) (ret := (some .int)) (by decide) rfl (Nat.le_of_ble_eq_true rfl) (fun X Q hQ => ?_)
  have J37 : ∀ (k4 : Int32 × Int32 → Option (Int32)) (hk4 : ∀ s : Int32 × Int32, zk_G E l X cX8_earliestOfAll 3 (some .int) yX8_earliestOfAll.cls wsX8_earliestOfAll ({ frames := 2, cells := 0, slots := 0, locals := 46 } : Room) 0 0 Q (gX8 E a (v_promises, v_lines, v_diary, v_now, v_room, v_bound, v_drift, v_brokenStanding, v_lateCalls, v_falls, v_swept, v_passedOver, v_longestQueue)) [(0, .ref a.1), (1, .int s.1), (2, .int s.2)] 4 [] (k4 s)) (x1 : Int32) (x2 : Int32), zk_G E l X cX8_earliestOfAll 3 (some .int) yX8_earliestOfAll.cls wsX8_earliestOfAll ({ frames := 2, cells := 0, slots := 0, locals := 46 } : Room) 0 0 Q (gX8 E a (v_promises, v_lines, v_diary, v_now, v_room, v_bound, v_drift, v_brokenStanding, v_lateCalls, v_falls, v_swept, v_passedOver, v_longestQueue)) [(0, .ref a.1), (1, .int x1), (2, .int x2)] 37 [] (f_X8_earliestOfAll_37 k4 x1 x2) := by
    intro k4 hk4 x1 x2
    unfold f_X8_earliestOfAll_37
    refine zk_iinc (x2 + 1) [(2, .int (x2 + 1)), (0, .ref a.1), (1, .int x1)] dX8_earliestOfAll_37 2 rfl rfl (by decide) rfl 40 rfl ?_
    refine zk_goto dX8_earliestOfAll_40 4 (by decide) ?_
    refine zk_lv [1, 2, 0] rfl ?_
    exact hk4 (x1, (x2 + 1))
  have J4 : ∀ (n : Nat) (x1 : Int32) (x2 : Int32), zk_G E l X cX8_earliestOfAll 3 (some .int) yX8_earliestOfAll.cls wsX8_earliestOfAll ({ frames := 2, cells := 0, slots := 0, locals := 46 } : Room) 0 0 Q (gX8 E a (v_promises, v_lines, v_diary, v_now, v_room, v_bound, v_drift, v_brokenStanding, v_lateCalls, v_falls, v_swept, v_passedOver, v_longestQueue)) [(0, .ref a.1), (1, .int x1), (2, .int x2)] 4 [] (zk_fx (F_X8_earliestOfAll_4 v_promises ) n (x1, x2)) := by
    intro n x1 x2
    refine zk_loop (S := Int32 × Int32) (F := F_X8_earliestOfAll_4 v_promises) (wS := fun s => (gX8 E a (v_promises, v_lines, v_diary, v_now, v_room, v_bound, v_drift, v_brokenStanding, v_lateCalls, v_falls, v_swept, v_passedOver, v_longestQueue))) (lS := fun s => [(0, .ref a.1), (1, .int s.1), (2, .int s.2)]) (sS := fun _ => []) (fun k4 hk4 s => ?_) n (x1, x2)
    obtain ⟨x1, x2⟩ := s
    unfold F_X8_earliestOfAll_4
    try dsimp only
    refine zk_iload_n dX8_earliestOfAll_4 2 rfl 5 rfl ?_
    refine zk_aload_n dX8_earliestOfAll_5 0 rfl 6 rfl ?_
    refine zk_get dX8_earliestOfAll_6 0 rfl rfl kX8_earliestOfAll_inX8 0 (by decide) kX8_earliestOfAll_1 rfl 9 rfl ?_
    refine zk_callV (ci := 5) (st := [.int x2]) (c_X5_given E l a.2.1 v_promises) dX8_earliestOfAll_9 0 gX8_earliestOfAll_X5_given rfl rfl rfl cd_X5_given ⟨Nat.le_of_ble_eq_true rfl, Nat.le_of_ble_eq_true rfl⟩ ⟨Nat.zero_le _, Nat.zero_le _⟩ _ (fun r9 => (gX8 E a (v_promises, v_lines, v_diary, v_now, v_room, v_bound, v_drift, v_brokenStanding, v_lateCalls, v_falls, v_swept, v_passedOver, v_longestQueue))) (zk_pc zk_pa (zk_p1 (gs := (lX8 E a (v_promises, v_lines, v_diary, v_now, v_room, v_bound, v_drift, v_brokenStanding, v_lateCalls, v_falls, v_swept, v_passedOver, v_longestQueue))) (i := 1) rfl)) (fun r9 => (zk_qc zk_qa (zk_q1 (gs := (lX8 E a (v_promises, v_lines, v_diary, v_now, v_room, v_bound, v_drift, v_brokenStanding, v_lateCalls, v_falls, v_swept, v_passedOver, v_longestQueue))) (i := 1) (w1 := gX8 E a (v_promises, v_lines, v_diary, v_now, v_room, v_bound, v_drift, v_brokenStanding, v_lateCalls, v_falls, v_swept, v_passedOver, v_longestQueue)) rfl rfl))) rfl rfl rfl rfl (Nat.le_of_ble_eq_true rfl) (fun r9 => [.int r9, .int x2]) (fun _ => rfl) 12 rfl (fun r9 => ?_)
    refine zk_icmp_ge dX8_earliestOfAll_12 43 (by decide) 15 rfl (fun _ => ?_) (fun _ => ?_)
    · refine zk_iload_n dX8_earliestOfAll_43 1 rfl 44 rfl ?_
      exact zk_iret hQ dX8_earliestOfAll_44 rfl rfl
    · refine zk_aload_n dX8_earliestOfAll_15 0 rfl 16 rfl ?_
      refine zk_get dX8_earliestOfAll_16 0 rfl rfl kX8_earliestOfAll_inX8 0 (by decide) kX8_earliestOfAll_1 rfl 19 rfl ?_
      refine zk_iload_n dX8_earliestOfAll_19 2 rfl 20 rfl ?_
      refine zk_iconst 0 dX8_earliestOfAll_20 (by decide) 21 rfl ?_
      refine zk_callV (ci := 5) (st := []) (c_X5_isIn E l a.2.1 v_promises x2 0) dX8_earliestOfAll_21 2 gX8_earliestOfAll_X5_isIn rfl rfl rfl cd_X5_isIn ⟨Nat.le_of_ble_eq_true rfl, Nat.le_of_ble_eq_true rfl⟩ ⟨Nat.zero_le _, Nat.zero_le _⟩ _ (fun r21 => (gX8 E a (v_promises, v_lines, v_diary, v_now, v_room, v_bound, v_drift, v_brokenStanding, v_lateCalls, v_falls, v_swept, v_passedOver, v_longestQueue))) (zk_pc zk_pa (zk_p1 (gs := (lX8 E a (v_promises, v_lines, v_diary, v_now, v_room, v_bound, v_drift, v_brokenStanding, v_lateCalls, v_falls, v_swept, v_passedOver, v_longestQueue))) (i := 1) rfl)) (fun r21 => (zk_qc zk_qa (zk_q1 (gs := (lX8 E a (v_promises, v_lines, v_diary, v_now, v_room, v_bound, v_drift, v_brokenStanding, v_lateCalls, v_falls, v_swept, v_passedOver, v_longestQueue))) (i := 1) (w1 := gX8 E a (v_promises, v_lines, v_diary, v_now, v_room, v_bound, v_drift, v_brokenStanding, v_lateCalls, v_falls, v_swept, v_passedOver, v_longestQueue)) rfl rfl))) rfl rfl rfl rfl (Nat.le_of_ble_eq_true rfl) (fun r21 => [.int r21]) (fun _ => rfl) 24 rfl (fun r21 => ?_)
      refine zk_if_eq dX8_earliestOfAll_24 37 (by decide) 27 rfl (fun _ => ?_) (fun _ => ?_)
      · exact J37  k4 hk4 x1 x2
      · refine zk_aload_n dX8_earliestOfAll_27 0 rfl 28 rfl ?_
        refine zk_get dX8_earliestOfAll_28 0 rfl rfl kX8_earliestOfAll_inX8 0 (by decide) kX8_earliestOfAll_1 rfl 31 rfl ?_
        refine zk_iload_n dX8_earliestOfAll_31 1 rfl 32 rfl ?_
        refine zk_iload_n dX8_earliestOfAll_32 2 rfl 33 rfl ?_
        refine zk_callV (ci := 5) (st := []) (c_X5_earlier E l a.2.1 v_promises x1 x2) dX8_earliestOfAll_33 2 gX8_earliestOfAll_X5_earlier rfl rfl rfl cd_X5_earlier ⟨Nat.le_of_ble_eq_true rfl, Nat.le_of_ble_eq_true rfl⟩ ⟨Nat.zero_le _, Nat.zero_le _⟩ _ (fun r33 => (gX8 E a (v_promises, v_lines, v_diary, v_now, v_room, v_bound, v_drift, v_brokenStanding, v_lateCalls, v_falls, v_swept, v_passedOver, v_longestQueue))) (zk_pc zk_pa (zk_p1 (gs := (lX8 E a (v_promises, v_lines, v_diary, v_now, v_room, v_bound, v_drift, v_brokenStanding, v_lateCalls, v_falls, v_swept, v_passedOver, v_longestQueue))) (i := 1) rfl)) (fun r33 => (zk_qc zk_qa (zk_q1 (gs := (lX8 E a (v_promises, v_lines, v_diary, v_now, v_room, v_bound, v_drift, v_brokenStanding, v_lateCalls, v_falls, v_swept, v_passedOver, v_longestQueue))) (i := 1) (w1 := gX8 E a (v_promises, v_lines, v_diary, v_now, v_room, v_bound, v_drift, v_brokenStanding, v_lateCalls, v_falls, v_swept, v_passedOver, v_longestQueue)) rfl rfl))) rfl rfl rfl rfl (Nat.le_of_ble_eq_true rfl) (fun r33 => [.int r33]) (fun _ => rfl) 36 rfl (fun r33 => ?_)
        refine zk_istore_n [(1, .int r33), (0, .ref a.1), (2, .int x2)] dX8_earliestOfAll_36 (by decide) rfl 37 rfl ?_
        refine zk_lv [1, 0, 2] rfl ?_
        exact J37  k4 hk4 r33 x2
  refine zk_eqv (w1 := (gX8 E a (v_promises, v_lines, v_diary, v_now, v_room, v_bound, v_drift, v_brokenStanding, v_lateCalls, v_falls, v_swept, v_passedOver, v_longestQueue))) (lv1 := [(0, .ref a.1)]) (st1 := []) (o1 := f_X8_earliestOfAll v_promises) rfl rfl rfl rfl ?_
  unfold f_X8_earliestOfAll
  refine zk_iconst (-1) dX8_earliestOfAll_0 (by decide) 1 rfl ?_
  refine zk_istore_n [(1, .int (-1)), (0, .ref a.1)] dX8_earliestOfAll_1 (by decide) rfl 2 rfl ?_
  refine zk_iconst 0 dX8_earliestOfAll_2 (by decide) 3 rfl ?_
  refine zk_istore_n [(2, .int 0), (1, .int (-1)), (0, .ref a.1)] dX8_earliestOfAll_3 (by decide) rfl 4 rfl ?_
  refine zk_lv [2, 1, 0] rfl ?_
  exact J4    zk_N (-1) 0
def F_X8_earliestInRing_11 (x1 : Int32) (v_promises : VX5) (v_lines : VX3) (x2 : Int32) (k11 : Int32 × Int32 → Option (Int32)) : Int32 × Int32 → Option (Int32) := fun s => match s with
  | (x3, x4) => if 8 < x4 then some x3 else if x3 = (-1) then (f_X8_earliestIn ((x1 * 8) + (zk_rem (x2 + x4) 8)) v_promises v_lines).bind fun r36 => k11 (r36, (x4 + 1)) else some x3
def f_X8_earliestInRing (x1 : Int32) (v_promises : VX5) (v_lines : VX3) (v_now : Int32) : Option (Int32) := (f_X8_presentSlot x1 v_now).bind fun r2 => zk_fx (F_X8_earliestInRing_11 x1 v_promises v_lines r2 ) zk_N ((-1), 1)
theorem cd_X8_earliestInRing : yX8_earliestInRing.cls = RX8 ∧ yX8_earliestInRing.cls ≠ "java/lang/invoke/MethodHandle" ∧ yX8_earliestInRing.cls ≠ "java/lang/invoke/VarHandle" ∧ (parseMethodDescriptor yX8_earliestInRing.desc).map (fun d => d.parameters.length) = some 1 := by decide +kernel
set_option maxRecDepth 100000 in
set_option maxHeartbeats 4000000 in
theorem c_X8_earliestInRing (E : zk_Env) (l : Launch) (a : aX8) (v : VX8) (x1 : Int32) : zk_Mc E l yX8_earliestInRing wsX8_earliestInRing ({ frames := 3, cells := 0, slots := 0, locals := 71 } : Room) [.ref a.1, .int x1] (gX8 E a v) (f_X8_earliestInRing x1 v.1 v.2.1 v.2.2.2.1) (fun r => some (.int r)) (fun r => (gX8 E a v)) := by
  obtain ⟨v_promises, v_lines, v_diary, v_now, v_room, v_bound, v_drift, v_brokenStanding, v_lateCalls, v_falls, v_swept, v_passedOver, v_longestQueue⟩ := v
  refine zk_M (cc := cX8_earliestInRing) (nL := 5) (ret := (some .int)) (by decide) rfl (Nat.le_of_ble_eq_true rfl) (fun X Q hQ => ?_)
  have J11 : ∀ (x2 : Int32) (n : Nat) (x3 : Int32) (x4 : Int32), zk_G E l X cX8_earliestInRing 5 (some .int) yX8_earliestInRing.cls wsX8_earliestInRing ({ frames := 3, cells := 0, slots := 0, locals := 71 } : Room) 0 0 Q (gX8 E a (v_promises, v_lines, v_diary, v_now, v_room, v_bound, v_drift, v_brokenStanding, v_lateCalls, v_falls, v_swept, v_passedOver, v_longestQueue)) [(0, .ref a.1), (1, .int x1), (2, .int x2), (3, .int x3), (4, .int x4)] 11 [] (zk_fx (F_X8_earliestInRing_11 x1 v_promises v_lines x2 ) n (x3, x4)) := by
    intro x2 n x3 x4
    refine zk_loop (S := Int32 × Int32) (F := F_X8_earliestInRing_11 x1 v_promises v_lines x2) (wS := fun s => (gX8 E a (v_promises, v_lines, v_diary, v_now, v_room, v_bound, v_drift, v_brokenStanding, v_lateCalls, v_falls, v_swept, v_passedOver, v_longestQueue))) (lS := fun s => [(0, .ref a.1), (1, .int x1), (2, .int x2), (3, .int s.1), (4, .int s.2)]) (sS := fun _ => []) (fun k11 hk11 s => ?_) n (x3, x4)
    obtain ⟨x3, x4⟩ := s
    unfold F_X8_earliestInRing_11
    try dsimp only
    refine zk_iload dX8_earliestInRing_11 4 rfl 13 rfl ?_
    refine zk_bipush 8 dX8_earliestInRing_13 (by decide) 15 rfl ?_
    refine zk_icmp_gt dX8_earliestInRing_15 46 (by decide) 18 rfl (fun _ => ?_) (fun _ => ?_)
    · refine zk_iload_n dX8_earliestInRing_46 3 rfl 47 rfl ?_
      exact zk_iret hQ dX8_earliestInRing_47 rfl rfl
    · refine zk_iload_n dX8_earliestInRing_18 3 rfl 19 rfl ?_
      refine zk_iconst (-1) dX8_earliestInRing_19 (by decide) 20 rfl ?_
      refine zk_icmp_ne dX8_earliestInRing_20 46 (by decide) 23 rfl (fun _ => ?_) (fun _ => ?_)
      · refine zk_aload_n dX8_earliestInRing_23 0 rfl 24 rfl ?_
        refine zk_iload_n dX8_earliestInRing_24 1 rfl 25 rfl ?_
        refine zk_bipush 8 dX8_earliestInRing_25 (by decide) 27 rfl ?_
        refine zk_imul dX8_earliestInRing_27 28 rfl ?_
        refine zk_iload_n dX8_earliestInRing_28 2 rfl 29 rfl ?_
        refine zk_iload dX8_earliestInRing_29 4 rfl 31 rfl ?_
        refine zk_iadd dX8_earliestInRing_31 32 rfl ?_
        refine zk_bipush 8 dX8_earliestInRing_32 (by decide) 34 rfl ?_
        refine zk_iremL dX8_earliestInRing_34 (by decide) 35 rfl ?_
        refine zk_iadd dX8_earliestInRing_35 36 rfl ?_
        refine zk_callV (ci := 8) (st := []) (c_X8_earliestIn E l a (v_promises, v_lines, v_diary, v_now, v_room, v_bound, v_drift, v_brokenStanding, v_lateCalls, v_falls, v_swept, v_passedOver, v_longestQueue) ((x1 * 8) + (zk_rem (x2 + x4) 8))) dX8_earliestInRing_36 1 gX8_earliestInRing_X8_earliestIn rfl rfl rfl cd_X8_earliestIn ⟨Nat.le_of_ble_eq_true rfl, Nat.le_of_ble_eq_true rfl⟩ ⟨Nat.zero_le _, Nat.zero_le _⟩ _ (fun r36 => (gX8 E a (v_promises, v_lines, v_diary, v_now, v_room, v_bound, v_drift, v_brokenStanding, v_lateCalls, v_falls, v_swept, v_passedOver, v_longestQueue))) zk_pa (fun r36 => zk_qa) rfl rfl rfl rfl (Nat.le_of_ble_eq_true rfl) (fun r36 => [.int r36]) (fun _ => rfl) 39 rfl (fun r36 => ?_)
        refine zk_istore_n [(3, .int r36), (0, .ref a.1), (1, .int x1), (2, .int x2), (4, .int x4)] dX8_earliestInRing_39 (by decide) rfl 40 rfl ?_
        refine zk_iinc (x4 + 1) [(4, .int (x4 + 1)), (3, .int r36), (0, .ref a.1), (1, .int x1), (2, .int x2)] dX8_earliestInRing_40 4 rfl rfl (by decide) rfl 43 rfl ?_
        refine zk_goto dX8_earliestInRing_43 11 (by decide) ?_
        refine zk_lv [2, 3, 4, 1, 0] rfl ?_
        exact hk11 (r36, (x4 + 1))
      · refine zk_iload_n dX8_earliestInRing_46 3 rfl 47 rfl ?_
        exact zk_iret hQ dX8_earliestInRing_47 rfl rfl
  refine zk_eqv (w1 := (gX8 E a (v_promises, v_lines, v_diary, v_now, v_room, v_bound, v_drift, v_brokenStanding, v_lateCalls, v_falls, v_swept, v_passedOver, v_longestQueue))) (lv1 := [(0, .ref a.1), (1, .int x1)]) (st1 := []) (o1 := f_X8_earliestInRing x1 v_promises v_lines v_now) rfl rfl rfl rfl ?_
  unfold f_X8_earliestInRing
  refine zk_aload_n dX8_earliestInRing_0 0 rfl 1 rfl ?_
  refine zk_iload_n dX8_earliestInRing_1 1 rfl 2 rfl ?_
  refine zk_callV (ci := 8) (st := []) (c_X8_presentSlot E l a (v_promises, v_lines, v_diary, v_now, v_room, v_bound, v_drift, v_brokenStanding, v_lateCalls, v_falls, v_swept, v_passedOver, v_longestQueue) x1) dX8_earliestInRing_2 1 gX8_earliestInRing_X8_presentSlot rfl rfl rfl cd_X8_presentSlot ⟨Nat.le_of_ble_eq_true rfl, Nat.le_of_ble_eq_true rfl⟩ ⟨Nat.zero_le _, Nat.zero_le _⟩ _ (fun r2 => (gX8 E a (v_promises, v_lines, v_diary, v_now, v_room, v_bound, v_drift, v_brokenStanding, v_lateCalls, v_falls, v_swept, v_passedOver, v_longestQueue))) zk_pa (fun r2 => zk_qa) rfl rfl rfl rfl (Nat.le_of_ble_eq_true rfl) (fun r2 => [.int r2]) (fun _ => rfl) 5 rfl (fun r2 => ?_)
  refine zk_istore_n [(2, .int r2), (0, .ref a.1), (1, .int x1)] dX8_earliestInRing_5 (by decide) rfl 6 rfl ?_
  refine zk_iconst (-1) dX8_earliestInRing_6 (by decide) 7 rfl ?_
  refine zk_istore_n [(3, .int (-1)), (2, .int r2), (0, .ref a.1), (1, .int x1)] dX8_earliestInRing_7 (by decide) rfl 8 rfl ?_
  refine zk_iconst 1 dX8_earliestInRing_8 (by decide) 9 rfl ?_
  refine zk_istore [(4, .int 1), (3, .int (-1)), (2, .int r2), (0, .ref a.1), (1, .int x1)] dX8_earliestInRing_9 (by decide) rfl 11 rfl ?_
  refine zk_lv [3, 4, 2, 1, 0] rfl ?_
  exact J11   r2 zk_N (-1) 1
def f_X8_addPromise_35 (x1 : Int32) (x2 : Int32) (x3 : Int32) (v_now : Int32) (s35_0 : Int32) (v_promises : VX5) (v_lines : VX3) : Option (Int32 × VX5 × VX3) := if x3 < 0 then some ((-1), v_promises, v_lines) else if x3 ≤ s35_0 then (f_X5_given v_promises.2).bind fun r53 => if r53 < 40 then zk_let (v_now + x1) fun x5_1 => (f_X5_add x5_1 x2 x3 v_promises.1 v_promises.2).bind fun r80 => (f_X8_lineFor x5_1 v_now).bind fun r92 => (f_X3_join r92 r80.1 v_lines.1 v_lines.2.1 v_lines.2.2.1 v_lines.2.2.2.1 v_lines.2.2.2.2).bind fun r97 => some (r80.1, r80.2, r97) else some ((-3), v_promises, v_lines) else some ((-1), v_promises, v_lines)
def f_X8_addPromise (x1 : Int32) (x2 : Int32) (x3 : Int32) (v_promises : VX5) (v_lines : VX3) (v_now : Int32) : Option (Int32 × VX5 × VX3) := if x1 < 1 then some ((-1), v_promises, v_lines) else if 511 < x1 then some ((-1), v_promises, v_lines) else if x2 < 0 then some ((-1), v_promises, v_lines) else if x2 ≤ 511 then if x2 = 0 then f_X8_addPromise_35 x1 x2 x3 v_now 0 v_promises v_lines else f_X8_addPromise_35 x1 x2 x3 v_now 99 v_promises v_lines else some ((-1), v_promises, v_lines)
theorem kX8_addPromise_inX8 : ∀ w ∈ u_ws RX8 TX8 13, w ∈ wsX8_addPromise := by decide +kernel
theorem kX8_addPromise_1 : Cond.fieldLink RX8 12 (TX8 0).1 (TX8 0).2.1 (TX8 0).2.2.1 ∈ wsX8_addPromise := by decide +kernel
theorem kX8_addPromise_2 : Cond.fieldLink RX8 49 (TX8 3).1 (TX8 3).2.1 (TX8 3).2.2.1 ∈ wsX8_addPromise := by decide +kernel
theorem kX8_addPromise_3 : Cond.fieldLink RX8 21 (TX8 1).1 (TX8 1).2.1 (TX8 1).2.2.1 ∈ wsX8_addPromise := by decide +kernel
theorem cd_X8_addPromise : yX8_addPromise.cls = RX8 ∧ yX8_addPromise.cls ≠ "java/lang/invoke/MethodHandle" ∧ yX8_addPromise.cls ≠ "java/lang/invoke/VarHandle" ∧ (parseMethodDescriptor yX8_addPromise.desc).map (fun d => d.parameters.length) = some 3 := by decide +kernel
set_option maxRecDepth 100000 in
set_option maxHeartbeats 4000000 in
theorem c_X8_addPromise (E : zk_Env) (l : Launch) (a : aX8) (v : VX8) (x1 : Int32) (x2 : Int32) (x3 : Int32) : zk_Mc E l yX8_addPromise wsX8_addPromise ({ frames := 2, cells := 0, slots := 0, locals := 47 } : Room) [.ref a.1, .int x1, .int x2, .int x3] (gX8 E a v) (f_X8_addPromise x1 x2 x3 v.1 v.2.1 v.2.2.2.1) (fun r => some (.int r.1)) (fun r => (gX8 E a (r.2.1, r.2.2, v.2.2))) := by
  obtain ⟨v_promises, v_lines, v_diary, v_now, v_room, v_bound, v_drift, v_brokenStanding, v_lateCalls, v_falls, v_swept, v_passedOver, v_longestQueue⟩ := v
  refine zk_M (cc := cX8_addPromise) (nL := 7) (ret := (some .int)) (by decide) rfl (Nat.le_of_ble_eq_true rfl) (fun X Q hQ => ?_)
  have J35 : ∀ (s35_0 : Int32) (v_promises : VX5) (v_lines : VX3), zk_G E l X cX8_addPromise 7 (some .int) yX8_addPromise.cls wsX8_addPromise ({ frames := 2, cells := 0, slots := 0, locals := 47 } : Room) 0 0 Q (gX8 E a (v_promises, v_lines, v_diary, v_now, v_room, v_bound, v_drift, v_brokenStanding, v_lateCalls, v_falls, v_swept, v_passedOver, v_longestQueue)) [(0, .ref a.1), (1, .int x1), (2, .int x2), (3, .int x3)] 35 [.int s35_0] (f_X8_addPromise_35 x1 x2 x3 v_now s35_0 v_promises v_lines) := by
    intro s35_0 v_promises v_lines
    unfold f_X8_addPromise_35
    refine zk_istore [(4, .int s35_0), (0, .ref a.1), (1, .int x1), (2, .int x2), (3, .int x3)] dX8_addPromise_35 (by decide) rfl 37 rfl ?_
    refine zk_iload_n dX8_addPromise_37 4 rfl 38 rfl ?_
    refine zk_if_lt dX8_addPromise_38 47 (by decide) 41 rfl (fun _ => ?_) (fun _ => ?_)
    · refine zk_iconst (-1) dX8_addPromise_47 (by decide) 48 rfl ?_
      exact zk_iret hQ dX8_addPromise_48 rfl rfl
    · refine zk_iload_n dX8_addPromise_41 4 rfl 42 rfl ?_
      refine zk_iload dX8_addPromise_42 0 rfl 44 rfl ?_
      refine zk_icmp_le dX8_addPromise_44 49 (by decide) 47 rfl (fun _ => ?_) (fun _ => ?_)
      · refine zk_aload_n dX8_addPromise_49 1 rfl 50 rfl ?_
        refine zk_get dX8_addPromise_50 0 rfl rfl kX8_addPromise_inX8 0 (by decide) kX8_addPromise_1 rfl 53 rfl ?_
        refine zk_callV (ci := 5) (st := []) (c_X5_given E l a.2.1 v_promises) dX8_addPromise_53 0 gX8_addPromise_X5_given rfl rfl rfl cd_X5_given ⟨Nat.le_of_ble_eq_true rfl, Nat.le_of_ble_eq_true rfl⟩ ⟨Nat.zero_le _, Nat.zero_le _⟩ _ (fun r53 => (gX8 E a (v_promises, v_lines, v_diary, v_now, v_room, v_bound, v_drift, v_brokenStanding, v_lateCalls, v_falls, v_swept, v_passedOver, v_longestQueue))) (zk_pc zk_pa (zk_p1 (gs := (lX8 E a (v_promises, v_lines, v_diary, v_now, v_room, v_bound, v_drift, v_brokenStanding, v_lateCalls, v_falls, v_swept, v_passedOver, v_longestQueue))) (i := 1) rfl)) (fun r53 => (zk_qc zk_qa (zk_q1 (gs := (lX8 E a (v_promises, v_lines, v_diary, v_now, v_room, v_bound, v_drift, v_brokenStanding, v_lateCalls, v_falls, v_swept, v_passedOver, v_longestQueue))) (i := 1) (w1 := gX8 E a (v_promises, v_lines, v_diary, v_now, v_room, v_bound, v_drift, v_brokenStanding, v_lateCalls, v_falls, v_swept, v_passedOver, v_longestQueue)) rfl rfl))) rfl rfl rfl rfl (Nat.le_of_ble_eq_true rfl) (fun r53 => [.int r53]) (fun _ => rfl) 56 rfl (fun r53 => ?_)
        refine zk_bipush 40 dX8_addPromise_56 (by decide) 58 rfl ?_
        refine zk_icmp_lt dX8_addPromise_58 64 (by decide) 61 rfl (fun _ => ?_) (fun _ => ?_)
        · refine zk_aload_n dX8_addPromise_64 1 rfl 65 rfl ?_
          refine zk_get dX8_addPromise_65 0 rfl rfl kX8_addPromise_inX8 3 (by decide) kX8_addPromise_2 rfl 68 rfl ?_
          refine zk_iload_n dX8_addPromise_68 2 rfl 69 rfl ?_
          refine zk_iadd dX8_addPromise_69 70 rfl ?_
          refine zk_nm (fun x5_1 => ?_)
          refine zk_istore [(5, .int x5_1), (4, .int s35_0), (0, .ref a.1), (1, .int x1), (2, .int x2), (3, .int x3)] dX8_addPromise_70 (by decide) rfl 72 rfl ?_
          refine zk_aload_n dX8_addPromise_72 2 rfl 73 rfl ?_
          refine zk_get dX8_addPromise_73 0 rfl rfl kX8_addPromise_inX8 0 (by decide) kX8_addPromise_1 rfl 76 rfl ?_
          refine zk_iload dX8_addPromise_76 0 rfl 78 rfl ?_
          refine zk_iload_n dX8_addPromise_78 4 rfl 79 rfl ?_
          refine zk_iload_n dX8_addPromise_79 5 rfl 80 rfl ?_
          refine zk_callV (ci := 5) (st := []) (c_X5_add E l a.2.1 v_promises x5_1 x2 x3) dX8_addPromise_80 3 gX8_addPromise_X5_add rfl rfl rfl cd_X5_add ⟨Nat.le_of_ble_eq_true rfl, Nat.le_of_ble_eq_true rfl⟩ ⟨Nat.zero_le _, Nat.zero_le _⟩ _ (fun r80 => (gX8 E a (r80.2, v_lines, v_diary, v_now, v_room, v_bound, v_drift, v_brokenStanding, v_lateCalls, v_falls, v_swept, v_passedOver, v_longestQueue))) (zk_pc zk_pa (zk_p1 (gs := (lX8 E a (v_promises, v_lines, v_diary, v_now, v_room, v_bound, v_drift, v_brokenStanding, v_lateCalls, v_falls, v_swept, v_passedOver, v_longestQueue))) (i := 1) rfl)) (fun r80 => (zk_qc zk_qa (zk_q1 (gs := (lX8 E a (v_promises, v_lines, v_diary, v_now, v_room, v_bound, v_drift, v_brokenStanding, v_lateCalls, v_falls, v_swept, v_passedOver, v_longestQueue))) (i := 1) (w1 := gX8 E a (r80.2, v_lines, v_diary, v_now, v_room, v_bound, v_drift, v_brokenStanding, v_lateCalls, v_falls, v_swept, v_passedOver, v_longestQueue)) rfl rfl))) rfl rfl rfl rfl (Nat.le_of_ble_eq_true rfl) (fun r80 => [.int r80.1]) (fun _ => rfl) 83 rfl (fun r80 => ?_)
          refine zk_istore [(6, .int r80.1), (5, .int x5_1), (4, .int s35_0), (0, .ref a.1), (1, .int x1), (2, .int x2), (3, .int x3)] dX8_addPromise_83 (by decide) rfl 85 rfl ?_
          refine zk_aload_n dX8_addPromise_85 3 rfl 86 rfl ?_
          refine zk_get dX8_addPromise_86 0 rfl rfl kX8_addPromise_inX8 1 (by decide) kX8_addPromise_3 rfl 89 rfl ?_
          refine zk_aload_n dX8_addPromise_89 3 rfl 90 rfl ?_
          refine zk_iload dX8_addPromise_90 1 rfl 92 rfl ?_
          refine zk_callV (ci := 8) (st := [.ref a.2.2.1.1]) (c_X8_lineFor E l a (r80.2, v_lines, v_diary, v_now, v_room, v_bound, v_drift, v_brokenStanding, v_lateCalls, v_falls, v_swept, v_passedOver, v_longestQueue) x5_1) dX8_addPromise_92 1 gX8_addPromise_X8_lineFor rfl rfl rfl cd_X8_lineFor ⟨Nat.le_of_ble_eq_true rfl, Nat.le_of_ble_eq_true rfl⟩ ⟨Nat.zero_le _, Nat.zero_le _⟩ _ (fun r92 => (gX8 E a (r80.2, v_lines, v_diary, v_now, v_room, v_bound, v_drift, v_brokenStanding, v_lateCalls, v_falls, v_swept, v_passedOver, v_longestQueue))) zk_pa (fun r92 => zk_qa) rfl rfl rfl rfl (Nat.le_of_ble_eq_true rfl) (fun r92 => [.int r92, .ref a.2.2.1.1]) (fun _ => rfl) 95 rfl (fun r92 => ?_)
          refine zk_iload dX8_addPromise_95 0 rfl 97 rfl ?_
          refine zk_callV (ci := 3) (st := []) (c_X3_join E l a.2.2.1 v_lines r92 r80.1) dX8_addPromise_97 2 gX8_addPromise_X3_join rfl rfl rfl cd_X3_join ⟨Nat.le_of_ble_eq_true rfl, Nat.le_of_ble_eq_true rfl⟩ ⟨Nat.zero_le _, Nat.zero_le _⟩ _ (fun r97 => (gX8 E a (r80.2, r97, v_diary, v_now, v_room, v_bound, v_drift, v_brokenStanding, v_lateCalls, v_falls, v_swept, v_passedOver, v_longestQueue))) (zk_pc zk_pa (zk_p1 (gs := (lX8 E a (r80.2, v_lines, v_diary, v_now, v_room, v_bound, v_drift, v_brokenStanding, v_lateCalls, v_falls, v_swept, v_passedOver, v_longestQueue))) (i := 2) rfl)) (fun r97 => (zk_qc zk_qa (zk_q1 (gs := (lX8 E a (r80.2, v_lines, v_diary, v_now, v_room, v_bound, v_drift, v_brokenStanding, v_lateCalls, v_falls, v_swept, v_passedOver, v_longestQueue))) (i := 2) (w1 := gX8 E a (r80.2, r97, v_diary, v_now, v_room, v_bound, v_drift, v_brokenStanding, v_lateCalls, v_falls, v_swept, v_passedOver, v_longestQueue)) rfl rfl))) rfl rfl rfl rfl (Nat.le_of_ble_eq_true rfl) (fun r97 => []) (fun _ => rfl) 100 rfl (fun r97 => ?_)
          refine zk_iload dX8_addPromise_100 0 rfl 102 rfl ?_
          exact zk_iret hQ dX8_addPromise_102 rfl rfl
        · refine zk_bipush (-3) dX8_addPromise_61 (by decide) 63 rfl ?_
          exact zk_iret hQ dX8_addPromise_63 rfl rfl
      · refine zk_iconst (-1) dX8_addPromise_47 (by decide) 48 rfl ?_
        exact zk_iret hQ dX8_addPromise_48 rfl rfl
  refine zk_eqv (w1 := (gX8 E a (v_promises, v_lines, v_diary, v_now, v_room, v_bound, v_drift, v_brokenStanding, v_lateCalls, v_falls, v_swept, v_passedOver, v_longestQueue))) (lv1 := [(0, .ref a.1), (1, .int x1), (2, .int x2), (3, .int x3)]) (st1 := []) (o1 := f_X8_addPromise x1 x2 x3 v_promises v_lines v_now) rfl rfl rfl rfl ?_
  unfold f_X8_addPromise
  refine zk_iload_n dX8_addPromise_0 1 rfl 1 rfl ?_
  refine zk_iconst 1 dX8_addPromise_1 (by decide) 2 rfl ?_
  refine zk_icmp_lt dX8_addPromise_2 23 (by decide) 5 rfl (fun _ => ?_) (fun _ => ?_)
  · refine zk_iconst (-1) dX8_addPromise_23 (by decide) 24 rfl ?_
    exact zk_iret hQ dX8_addPromise_24 rfl rfl
  · refine zk_iload_n dX8_addPromise_5 1 rfl 6 rfl ?_
    refine zk_sipush 511 dX8_addPromise_6 (by decide) 9 rfl ?_
    refine zk_icmp_gt dX8_addPromise_9 23 (by decide) 12 rfl (fun _ => ?_) (fun _ => ?_)
    · refine zk_iconst (-1) dX8_addPromise_23 (by decide) 24 rfl ?_
      exact zk_iret hQ dX8_addPromise_24 rfl rfl
    · refine zk_iload_n dX8_addPromise_12 2 rfl 13 rfl ?_
      refine zk_if_lt dX8_addPromise_13 23 (by decide) 16 rfl (fun _ => ?_) (fun _ => ?_)
      · refine zk_iconst (-1) dX8_addPromise_23 (by decide) 24 rfl ?_
        exact zk_iret hQ dX8_addPromise_24 rfl rfl
      · refine zk_iload_n dX8_addPromise_16 2 rfl 17 rfl ?_
        refine zk_sipush 511 dX8_addPromise_17 (by decide) 20 rfl ?_
        refine zk_icmp_le dX8_addPromise_20 25 (by decide) 23 rfl (fun _ => ?_) (fun _ => ?_)
        · refine zk_iload_n dX8_addPromise_25 2 rfl 26 rfl ?_
          refine zk_if_ne dX8_addPromise_26 33 (by decide) 29 rfl (fun _ => ?_) (fun _ => ?_)
          · refine zk_iconst 0 dX8_addPromise_29 (by decide) 30 rfl ?_
            refine zk_goto dX8_addPromise_30 35 (by decide) ?_
            exact J35   0 v_promises v_lines
          · refine zk_bipush 99 dX8_addPromise_33 (by decide) 35 rfl ?_
            exact J35   99 v_promises v_lines
        · refine zk_iconst (-1) dX8_addPromise_23 (by decide) 24 rfl ?_
          exact zk_iret hQ dX8_addPromise_24 rfl rfl
def f_X8_movePromise (x1 : Int32) (x2 : Int32) (v_promises : VX5) (v_lines : VX3) (v_now : Int32) : Option (Int32 × VX5 × VX3) := (f_X5_has x1 v_promises.2).bind fun r5 => if r5 = 0 then some ((-1), v_promises, v_lines) else if x2 < 1 then some ((-1), v_promises, v_lines) else if x2 ≤ 511 then (f_X5_isIn x1 0 v_promises.1).bind fun r31 => if r31 = 0 then some ((-2), v_promises, v_lines) else (f_X5_fact x1 1 v_promises.1).bind fun r46 => zk_let (v_now + x2) fun x4_1 => (f_X3_leave x1 v_lines.1 v_lines.2.1 v_lines.2.2.1 v_lines.2.2.2.1 v_lines.2.2.2.2).bind fun r63 => (f_X5_write x1 1 x4_1 v_promises.1).bind fun r74 => (f_X8_lineFor x4_1 v_now).bind fun r84 => (f_X3_join r84 x1 r63.1 r63.2.1 r63.2.2.1 r63.2.2.2.1 r63.2.2.2.2).bind fun r88 => some (r46, (r74, v_promises.2), r88) else some ((-1), v_promises, v_lines)
theorem kX8_movePromise_inX8 : ∀ w ∈ u_ws RX8 TX8 13, w ∈ wsX8_movePromise := by decide +kernel
theorem kX8_movePromise_1 : Cond.fieldLink RX8 12 (TX8 0).1 (TX8 0).2.1 (TX8 0).2.2.1 ∈ wsX8_movePromise := by decide +kernel
theorem kX8_movePromise_2 : Cond.fieldLink RX8 49 (TX8 3).1 (TX8 3).2.1 (TX8 3).2.2.1 ∈ wsX8_movePromise := by decide +kernel
theorem kX8_movePromise_3 : Cond.fieldLink RX8 21 (TX8 1).1 (TX8 1).2.1 (TX8 1).2.2.1 ∈ wsX8_movePromise := by decide +kernel
theorem cd_X8_movePromise : yX8_movePromise.cls = RX8 ∧ yX8_movePromise.cls ≠ "java/lang/invoke/MethodHandle" ∧ yX8_movePromise.cls ≠ "java/lang/invoke/VarHandle" ∧ (parseMethodDescriptor yX8_movePromise.desc).map (fun d => d.parameters.length) = some 2 := by decide +kernel
set_option maxRecDepth 100000 in
set_option maxHeartbeats 4000000 in
theorem c_X8_movePromise (E : zk_Env) (l : Launch) (a : aX8) (v : VX8) (x1 : Int32) (x2 : Int32) : zk_Mc E l yX8_movePromise wsX8_movePromise ({ frames := 2, cells := 0, slots := 0, locals := 46 } : Room) [.ref a.1, .int x1, .int x2] (gX8 E a v) (f_X8_movePromise x1 x2 v.1 v.2.1 v.2.2.2.1) (fun r => some (.int r.1)) (fun r => (gX8 E a (r.2.1, r.2.2, v.2.2))) := by
  obtain ⟨v_promises, v_lines, v_diary, v_now, v_room, v_bound, v_drift, v_brokenStanding, v_lateCalls, v_falls, v_swept, v_passedOver, v_longestQueue⟩ := v
  refine zk_M (cc := cX8_movePromise) (nL := 5) (ret := (some .int)) (by decide) rfl (Nat.le_of_ble_eq_true rfl) (fun X Q hQ => ?_)
  refine zk_eqv (w1 := (gX8 E a (v_promises, v_lines, v_diary, v_now, v_room, v_bound, v_drift, v_brokenStanding, v_lateCalls, v_falls, v_swept, v_passedOver, v_longestQueue))) (lv1 := [(0, .ref a.1), (1, .int x1), (2, .int x2)]) (st1 := []) (o1 := f_X8_movePromise x1 x2 v_promises v_lines v_now) rfl rfl rfl rfl ?_
  unfold f_X8_movePromise
  refine zk_aload_n dX8_movePromise_0 0 rfl 1 rfl ?_
  refine zk_get dX8_movePromise_1 0 rfl rfl kX8_movePromise_inX8 0 (by decide) kX8_movePromise_1 rfl 4 rfl ?_
  refine zk_iload_n dX8_movePromise_4 1 rfl 5 rfl ?_
  refine zk_callV (ci := 5) (st := []) (c_X5_has E l a.2.1 v_promises x1) dX8_movePromise_5 1 gX8_movePromise_X5_has rfl rfl rfl cd_X5_has ⟨Nat.le_of_ble_eq_true rfl, Nat.le_of_ble_eq_true rfl⟩ ⟨Nat.zero_le _, Nat.zero_le _⟩ _ (fun r5 => (gX8 E a (v_promises, v_lines, v_diary, v_now, v_room, v_bound, v_drift, v_brokenStanding, v_lateCalls, v_falls, v_swept, v_passedOver, v_longestQueue))) (zk_pc zk_pa (zk_p1 (gs := (lX8 E a (v_promises, v_lines, v_diary, v_now, v_room, v_bound, v_drift, v_brokenStanding, v_lateCalls, v_falls, v_swept, v_passedOver, v_longestQueue))) (i := 1) rfl)) (fun r5 => (zk_qc zk_qa (zk_q1 (gs := (lX8 E a (v_promises, v_lines, v_diary, v_now, v_room, v_bound, v_drift, v_brokenStanding, v_lateCalls, v_falls, v_swept, v_passedOver, v_longestQueue))) (i := 1) (w1 := gX8 E a (v_promises, v_lines, v_diary, v_now, v_room, v_bound, v_drift, v_brokenStanding, v_lateCalls, v_falls, v_swept, v_passedOver, v_longestQueue)) rfl rfl))) rfl rfl rfl rfl (Nat.le_of_ble_eq_true rfl) (fun r5 => [.int r5]) (fun _ => rfl) 8 rfl (fun r5 => ?_)
  refine zk_if_eq dX8_movePromise_8 23 (by decide) 11 rfl (fun _ => ?_) (fun _ => ?_)
  · refine zk_iconst (-1) dX8_movePromise_23 (by decide) 24 rfl ?_
    exact zk_iret hQ dX8_movePromise_24 rfl rfl
  · refine zk_iload_n dX8_movePromise_11 2 rfl 12 rfl ?_
    refine zk_iconst 1 dX8_movePromise_12 (by decide) 13 rfl ?_
    refine zk_icmp_lt dX8_movePromise_13 23 (by decide) 16 rfl (fun _ => ?_) (fun _ => ?_)
    · refine zk_iconst (-1) dX8_movePromise_23 (by decide) 24 rfl ?_
      exact zk_iret hQ dX8_movePromise_24 rfl rfl
    · refine zk_iload_n dX8_movePromise_16 2 rfl 17 rfl ?_
      refine zk_sipush 511 dX8_movePromise_17 (by decide) 20 rfl ?_
      refine zk_icmp_le dX8_movePromise_20 25 (by decide) 23 rfl (fun _ => ?_) (fun _ => ?_)
      · refine zk_aload_n dX8_movePromise_25 0 rfl 26 rfl ?_
        refine zk_get dX8_movePromise_26 0 rfl rfl kX8_movePromise_inX8 0 (by decide) kX8_movePromise_1 rfl 29 rfl ?_
        refine zk_iload_n dX8_movePromise_29 1 rfl 30 rfl ?_
        refine zk_iconst 0 dX8_movePromise_30 (by decide) 31 rfl ?_
        refine zk_callV (ci := 5) (st := []) (c_X5_isIn E l a.2.1 v_promises x1 0) dX8_movePromise_31 2 gX8_movePromise_X5_isIn rfl rfl rfl cd_X5_isIn ⟨Nat.le_of_ble_eq_true rfl, Nat.le_of_ble_eq_true rfl⟩ ⟨Nat.zero_le _, Nat.zero_le _⟩ _ (fun r31 => (gX8 E a (v_promises, v_lines, v_diary, v_now, v_room, v_bound, v_drift, v_brokenStanding, v_lateCalls, v_falls, v_swept, v_passedOver, v_longestQueue))) (zk_pc zk_pa (zk_p1 (gs := (lX8 E a (v_promises, v_lines, v_diary, v_now, v_room, v_bound, v_drift, v_brokenStanding, v_lateCalls, v_falls, v_swept, v_passedOver, v_longestQueue))) (i := 1) rfl)) (fun r31 => (zk_qc zk_qa (zk_q1 (gs := (lX8 E a (v_promises, v_lines, v_diary, v_now, v_room, v_bound, v_drift, v_brokenStanding, v_lateCalls, v_falls, v_swept, v_passedOver, v_longestQueue))) (i := 1) (w1 := gX8 E a (v_promises, v_lines, v_diary, v_now, v_room, v_bound, v_drift, v_brokenStanding, v_lateCalls, v_falls, v_swept, v_passedOver, v_longestQueue)) rfl rfl))) rfl rfl rfl rfl (Nat.le_of_ble_eq_true rfl) (fun r31 => [.int r31]) (fun _ => rfl) 34 rfl (fun r31 => ?_)
        refine zk_if_ne dX8_movePromise_34 40 (by decide) 37 rfl (fun _ => ?_) (fun _ => ?_)
        · refine zk_bipush (-2) dX8_movePromise_37 (by decide) 39 rfl ?_
          exact zk_iret hQ dX8_movePromise_39 rfl rfl
        · refine zk_aload_n dX8_movePromise_40 0 rfl 41 rfl ?_
          refine zk_get dX8_movePromise_41 0 rfl rfl kX8_movePromise_inX8 0 (by decide) kX8_movePromise_1 rfl 44 rfl ?_
          refine zk_iload_n dX8_movePromise_44 1 rfl 45 rfl ?_
          refine zk_iconst 1 dX8_movePromise_45 (by decide) 46 rfl ?_
          refine zk_callV (ci := 5) (st := []) (c_X5_fact E l a.2.1 v_promises x1 1) dX8_movePromise_46 2 gX8_movePromise_X5_fact rfl rfl rfl cd_X5_fact ⟨Nat.le_of_ble_eq_true rfl, Nat.le_of_ble_eq_true rfl⟩ ⟨Nat.zero_le _, Nat.zero_le _⟩ _ (fun r46 => (gX8 E a (v_promises, v_lines, v_diary, v_now, v_room, v_bound, v_drift, v_brokenStanding, v_lateCalls, v_falls, v_swept, v_passedOver, v_longestQueue))) (zk_pc zk_pa (zk_p1 (gs := (lX8 E a (v_promises, v_lines, v_diary, v_now, v_room, v_bound, v_drift, v_brokenStanding, v_lateCalls, v_falls, v_swept, v_passedOver, v_longestQueue))) (i := 1) rfl)) (fun r46 => (zk_qc zk_qa (zk_q1 (gs := (lX8 E a (v_promises, v_lines, v_diary, v_now, v_room, v_bound, v_drift, v_brokenStanding, v_lateCalls, v_falls, v_swept, v_passedOver, v_longestQueue))) (i := 1) (w1 := gX8 E a (v_promises, v_lines, v_diary, v_now, v_room, v_bound, v_drift, v_brokenStanding, v_lateCalls, v_falls, v_swept, v_passedOver, v_longestQueue)) rfl rfl))) rfl rfl rfl rfl (Nat.le_of_ble_eq_true rfl) (fun r46 => [.int r46]) (fun _ => rfl) 49 rfl (fun r46 => ?_)
          refine zk_istore_n [(3, .int r46), (0, .ref a.1), (1, .int x1), (2, .int x2)] dX8_movePromise_49 (by decide) rfl 50 rfl ?_
          refine zk_aload_n dX8_movePromise_50 1 rfl 51 rfl ?_
          refine zk_get dX8_movePromise_51 0 rfl rfl kX8_movePromise_inX8 3 (by decide) kX8_movePromise_2 rfl 54 rfl ?_
          refine zk_iload_n dX8_movePromise_54 3 rfl 55 rfl ?_
          refine zk_iadd dX8_movePromise_55 56 rfl ?_
          refine zk_nm (fun x4_1 => ?_)
          refine zk_istore [(4, .int x4_1), (3, .int r46), (0, .ref a.1), (1, .int x1), (2, .int x2)] dX8_movePromise_56 (by decide) rfl 58 rfl ?_
          refine zk_aload_n dX8_movePromise_58 2 rfl 59 rfl ?_
          refine zk_get dX8_movePromise_59 0 rfl rfl kX8_movePromise_inX8 1 (by decide) kX8_movePromise_3 rfl 62 rfl ?_
          refine zk_iload_n dX8_movePromise_62 3 rfl 63 rfl ?_
          refine zk_callV (ci := 3) (st := []) (c_X3_leave E l a.2.2.1 v_lines x1) dX8_movePromise_63 1 gX8_movePromise_X3_leave rfl rfl rfl cd_X3_leave ⟨Nat.le_of_ble_eq_true rfl, Nat.le_of_ble_eq_true rfl⟩ ⟨Nat.zero_le _, Nat.zero_le _⟩ _ (fun r63 => (gX8 E a (v_promises, r63, v_diary, v_now, v_room, v_bound, v_drift, v_brokenStanding, v_lateCalls, v_falls, v_swept, v_passedOver, v_longestQueue))) (zk_pc zk_pa (zk_p1 (gs := (lX8 E a (v_promises, v_lines, v_diary, v_now, v_room, v_bound, v_drift, v_brokenStanding, v_lateCalls, v_falls, v_swept, v_passedOver, v_longestQueue))) (i := 2) rfl)) (fun r63 => (zk_qc zk_qa (zk_q1 (gs := (lX8 E a (v_promises, v_lines, v_diary, v_now, v_room, v_bound, v_drift, v_brokenStanding, v_lateCalls, v_falls, v_swept, v_passedOver, v_longestQueue))) (i := 2) (w1 := gX8 E a (v_promises, r63, v_diary, v_now, v_room, v_bound, v_drift, v_brokenStanding, v_lateCalls, v_falls, v_swept, v_passedOver, v_longestQueue)) rfl rfl))) rfl rfl rfl rfl (Nat.le_of_ble_eq_true rfl) (fun r63 => []) (fun _ => rfl) 66 rfl (fun r63 => ?_)
          refine zk_aload_n dX8_movePromise_66 2 rfl 67 rfl ?_
          refine zk_get dX8_movePromise_67 0 rfl rfl kX8_movePromise_inX8 0 (by decide) kX8_movePromise_1 rfl 70 rfl ?_
          refine zk_iload_n dX8_movePromise_70 3 rfl 71 rfl ?_
          refine zk_iconst 1 dX8_movePromise_71 (by decide) 72 rfl ?_
          refine zk_iload dX8_movePromise_72 0 rfl 74 rfl ?_
          refine zk_callV (ci := 5) (st := []) (c_X5_write E l a.2.1 v_promises x1 1 x4_1) dX8_movePromise_74 3 gX8_movePromise_X5_write rfl rfl rfl cd_X5_write ⟨Nat.le_of_ble_eq_true rfl, Nat.le_of_ble_eq_true rfl⟩ ⟨Nat.zero_le _, Nat.zero_le _⟩ _ (fun r74 => (gX8 E a ((r74, v_promises.2), r63, v_diary, v_now, v_room, v_bound, v_drift, v_brokenStanding, v_lateCalls, v_falls, v_swept, v_passedOver, v_longestQueue))) (zk_pc zk_pa (zk_p1 (gs := (lX8 E a (v_promises, r63, v_diary, v_now, v_room, v_bound, v_drift, v_brokenStanding, v_lateCalls, v_falls, v_swept, v_passedOver, v_longestQueue))) (i := 1) rfl)) (fun r74 => (zk_qc zk_qa (zk_q1 (gs := (lX8 E a (v_promises, r63, v_diary, v_now, v_room, v_bound, v_drift, v_brokenStanding, v_lateCalls, v_falls, v_swept, v_passedOver, v_longestQueue))) (i := 1) (w1 := gX8 E a ((r74, v_promises.2), r63, v_diary, v_now, v_room, v_bound, v_drift, v_brokenStanding, v_lateCalls, v_falls, v_swept, v_passedOver, v_longestQueue)) rfl rfl))) rfl rfl rfl rfl (Nat.le_of_ble_eq_true rfl) (fun r74 => []) (fun _ => rfl) 77 rfl (fun r74 => ?_)
          refine zk_aload_n dX8_movePromise_77 2 rfl 78 rfl ?_
          refine zk_get dX8_movePromise_78 0 rfl rfl kX8_movePromise_inX8 1 (by decide) kX8_movePromise_3 rfl 81 rfl ?_
          refine zk_aload_n dX8_movePromise_81 2 rfl 82 rfl ?_
          refine zk_iload dX8_movePromise_82 0 rfl 84 rfl ?_
          refine zk_callV (ci := 8) (st := [.ref a.2.2.1.1]) (c_X8_lineFor E l a ((r74, v_promises.2), r63, v_diary, v_now, v_room, v_bound, v_drift, v_brokenStanding, v_lateCalls, v_falls, v_swept, v_passedOver, v_longestQueue) x4_1) dX8_movePromise_84 1 gX8_movePromise_X8_lineFor rfl rfl rfl cd_X8_lineFor ⟨Nat.le_of_ble_eq_true rfl, Nat.le_of_ble_eq_true rfl⟩ ⟨Nat.zero_le _, Nat.zero_le _⟩ _ (fun r84 => (gX8 E a ((r74, v_promises.2), r63, v_diary, v_now, v_room, v_bound, v_drift, v_brokenStanding, v_lateCalls, v_falls, v_swept, v_passedOver, v_longestQueue))) zk_pa (fun r84 => zk_qa) rfl rfl rfl rfl (Nat.le_of_ble_eq_true rfl) (fun r84 => [.int r84, .ref a.2.2.1.1]) (fun _ => rfl) 87 rfl (fun r84 => ?_)
          refine zk_iload_n dX8_movePromise_87 3 rfl 88 rfl ?_
          refine zk_callV (ci := 3) (st := []) (c_X3_join E l a.2.2.1 r63 r84 x1) dX8_movePromise_88 2 gX8_movePromise_X3_join rfl rfl rfl cd_X3_join ⟨Nat.le_of_ble_eq_true rfl, Nat.le_of_ble_eq_true rfl⟩ ⟨Nat.zero_le _, Nat.zero_le _⟩ _ (fun r88 => (gX8 E a ((r74, v_promises.2), r88, v_diary, v_now, v_room, v_bound, v_drift, v_brokenStanding, v_lateCalls, v_falls, v_swept, v_passedOver, v_longestQueue))) (zk_pc zk_pa (zk_p1 (gs := (lX8 E a ((r74, v_promises.2), r63, v_diary, v_now, v_room, v_bound, v_drift, v_brokenStanding, v_lateCalls, v_falls, v_swept, v_passedOver, v_longestQueue))) (i := 2) rfl)) (fun r88 => (zk_qc zk_qa (zk_q1 (gs := (lX8 E a ((r74, v_promises.2), r63, v_diary, v_now, v_room, v_bound, v_drift, v_brokenStanding, v_lateCalls, v_falls, v_swept, v_passedOver, v_longestQueue))) (i := 2) (w1 := gX8 E a ((r74, v_promises.2), r88, v_diary, v_now, v_room, v_bound, v_drift, v_brokenStanding, v_lateCalls, v_falls, v_swept, v_passedOver, v_longestQueue)) rfl rfl))) rfl rfl rfl rfl (Nat.le_of_ble_eq_true rfl) (fun r88 => []) (fun _ => rfl) 91 rfl (fun r88 => ?_)
          refine zk_iload_n dX8_movePromise_91 1 rfl 92 rfl ?_
          exact zk_iret hQ dX8_movePromise_92 rfl rfl
      · refine zk_iconst (-1) dX8_movePromise_23 (by decide) 24 rfl ?_
        exact zk_iret hQ dX8_movePromise_24 rfl rfl
def f_X8_sweepAll_43 (x1 : Int32) (k7 : Int32 × VX5 × VX3 × Int32 × Int32 → Option (Int32 × VX5 × VX3 × Int32 × Int32)) (x2 : Int32) (v_promises : VX5) (v_lines : VX3) (v_brokenStanding : Int32) (v_swept : Int32) : Option (Int32 × VX5 × VX3 × Int32 × Int32) := k7 ((x2 + 1), v_promises, v_lines, v_brokenStanding, v_swept)
def F_X8_sweepAll_7 (x1 : Int32) (k7 : Int32 × VX5 × VX3 × Int32 × Int32 → Option (Int32 × VX5 × VX3 × Int32 × Int32)) : Int32 × VX5 × VX3 × Int32 × Int32 → Option (Int32 × VX5 × VX3 × Int32 × Int32) := fun s => match s with
  | (x2, v_promises, v_lines, v_brokenStanding, v_swept) => (f_X5_given v_promises.2).bind fun r12 => if r12 ≤ x2 then some ((v_swept - x1), v_promises, v_lines, v_brokenStanding, v_swept) else (f_X5_isIn x2 3 v_promises.1).bind fun r24 => if r24 = 0 then f_X8_sweepAll_43 x1 k7 x2 v_promises v_lines v_brokenStanding v_swept else (f_X3_leave x2 v_lines.1 v_lines.2.1 v_lines.2.2.1 v_lines.2.2.2.1 v_lines.2.2.2.2).bind fun r35 => (f_X8_noteSwept x2 v_promises v_brokenStanding v_swept).bind fun r40 => f_X8_sweepAll_43 x1 k7 x2 r40.1 r35 r40.2.1 r40.2.2
def f_X8_sweepAll (v_promises : VX5) (v_lines : VX3) (v_brokenStanding : Int32) (v_swept : Int32) : Option (Int32 × VX5 × VX3 × Int32 × Int32) := zk_fx (F_X8_sweepAll_7 v_swept ) zk_N (0, v_promises, v_lines, v_brokenStanding, v_swept)
theorem kX8_sweepAll_inX8 : ∀ w ∈ u_ws RX8 TX8 13, w ∈ wsX8_sweepAll := by decide +kernel
theorem kX8_sweepAll_1 : Cond.fieldLink RX8 64 (TX8 10).1 (TX8 10).2.1 (TX8 10).2.2.1 ∈ wsX8_sweepAll := by decide +kernel
theorem kX8_sweepAll_2 : Cond.fieldLink RX8 12 (TX8 0).1 (TX8 0).2.1 (TX8 0).2.2.1 ∈ wsX8_sweepAll := by decide +kernel
theorem kX8_sweepAll_3 : Cond.fieldLink RX8 21 (TX8 1).1 (TX8 1).2.1 (TX8 1).2.2.1 ∈ wsX8_sweepAll := by decide +kernel
theorem cd_X8_sweepAll : yX8_sweepAll.cls = RX8 ∧ yX8_sweepAll.cls ≠ "java/lang/invoke/MethodHandle" ∧ yX8_sweepAll.cls ≠ "java/lang/invoke/VarHandle" ∧ (parseMethodDescriptor yX8_sweepAll.desc).map (fun d => d.parameters.length) = some 0 := by decide +kernel
set_option maxRecDepth 100000 in
set_option maxHeartbeats 4000000 in
theorem c_X8_sweepAll (E : zk_Env) (l : Launch) (a : aX8) (v : VX8)  : zk_Mc E l yX8_sweepAll wsX8_sweepAll ({ frames := 2, cells := 0, slots := 0, locals := 46 } : Room) [.ref a.1] (gX8 E a v) (f_X8_sweepAll v.1 v.2.1 v.2.2.2.2.2.2.2.1 v.2.2.2.2.2.2.2.2.2.2.1) (fun r => some (.int r.1)) (fun r => (gX8 E a (r.2.1, r.2.2.1, v.2.2.1, v.2.2.2.1, v.2.2.2.2.1, v.2.2.2.2.2.1, v.2.2.2.2.2.2.1, r.2.2.2.1, v.2.2.2.2.2.2.2.2.1, v.2.2.2.2.2.2.2.2.2.1, r.2.2.2.2, v.2.2.2.2.2.2.2.2.2.2.2))) := by
  obtain ⟨v_promises, v_lines, v_diary, v_now, v_room, v_bound, v_drift, v_brokenStanding, v_lateCalls, v_falls, v_swept, v_passedOver, v_longestQueue⟩ := v
  refine zk_M (cc := cX8_sweepAll) (nL := 3) (ret := (some .int)) (by decide) rfl (Nat.le_of_ble_eq_true rfl) (fun X Q hQ => ?_)
  have J43 : ∀ (x1 : Int32) (k7 : Int32 × VX5 × VX3 × Int32 × Int32 → Option (Int32 × VX5 × VX3 × Int32 × Int32)) (hk7 : ∀ s : Int32 × VX5 × VX3 × Int32 × Int32, zk_G E l X cX8_sweepAll 3 (some .int) yX8_sweepAll.cls wsX8_sweepAll ({ frames := 2, cells := 0, slots := 0, locals := 46 } : Room) 0 0 Q (gX8 E a (s.2.1, s.2.2.1, v_diary, v_now, v_room, v_bound, v_drift, s.2.2.2.1, v_lateCalls, v_falls, s.2.2.2.2, v_passedOver, v_longestQueue)) [(0, .ref a.1), (1, .int x1), (2, .int s.1)] 7 [] (k7 s)) (x2 : Int32) (v_promises : VX5) (v_lines : VX3) (v_brokenStanding : Int32) (v_swept : Int32), zk_G E l X cX8_sweepAll 3 (some .int) yX8_sweepAll.cls wsX8_sweepAll ({ frames := 2, cells := 0, slots := 0, locals := 46 } : Room) 0 0 Q (gX8 E a (v_promises, v_lines, v_diary, v_now, v_room, v_bound, v_drift, v_brokenStanding, v_lateCalls, v_falls, v_swept, v_passedOver, v_longestQueue)) [(0, .ref a.1), (1, .int x1), (2, .int x2)] 43 [] (f_X8_sweepAll_43 x1 k7 x2 v_promises v_lines v_brokenStanding v_swept) := by
    intro x1 k7 hk7 x2 v_promises v_lines v_brokenStanding v_swept
    unfold f_X8_sweepAll_43
    refine zk_iinc (x2 + 1) [(2, .int (x2 + 1)), (0, .ref a.1), (1, .int x1)] dX8_sweepAll_43 2 rfl rfl (by decide) rfl 46 rfl ?_
    refine zk_goto dX8_sweepAll_46 7 (by decide) ?_
    refine zk_lv [1, 2, 0] rfl ?_
    exact hk7 ((x2 + 1), v_promises, v_lines, v_brokenStanding, v_swept)
  have J7 : ∀ (x1 : Int32) (n : Nat) (x2 : Int32) (v_promises : VX5) (v_lines : VX3) (v_brokenStanding : Int32) (v_swept : Int32), zk_G E l X cX8_sweepAll 3 (some .int) yX8_sweepAll.cls wsX8_sweepAll ({ frames := 2, cells := 0, slots := 0, locals := 46 } : Room) 0 0 Q (gX8 E a (v_promises, v_lines, v_diary, v_now, v_room, v_bound, v_drift, v_brokenStanding, v_lateCalls, v_falls, v_swept, v_passedOver, v_longestQueue)) [(0, .ref a.1), (1, .int x1), (2, .int x2)] 7 [] (zk_fx (F_X8_sweepAll_7 x1 ) n (x2, v_promises, v_lines, v_brokenStanding, v_swept)) := by
    intro x1 n x2 v_promises v_lines v_brokenStanding v_swept
    refine zk_loop (S := Int32 × VX5 × VX3 × Int32 × Int32) (F := F_X8_sweepAll_7 x1) (wS := fun s => (gX8 E a (s.2.1, s.2.2.1, v_diary, v_now, v_room, v_bound, v_drift, s.2.2.2.1, v_lateCalls, v_falls, s.2.2.2.2, v_passedOver, v_longestQueue))) (lS := fun s => [(0, .ref a.1), (1, .int x1), (2, .int s.1)]) (sS := fun _ => []) (fun k7 hk7 s => ?_) n (x2, v_promises, v_lines, v_brokenStanding, v_swept)
    obtain ⟨x2, v_promises, v_lines, v_brokenStanding, v_swept⟩ := s
    unfold F_X8_sweepAll_7
    try dsimp only
    refine zk_iload_n dX8_sweepAll_7 2 rfl 8 rfl ?_
    refine zk_aload_n dX8_sweepAll_8 0 rfl 9 rfl ?_
    refine zk_get dX8_sweepAll_9 0 rfl rfl kX8_sweepAll_inX8 0 (by decide) kX8_sweepAll_2 rfl 12 rfl ?_
    refine zk_callV (ci := 5) (st := [.int x2]) (c_X5_given E l a.2.1 v_promises) dX8_sweepAll_12 0 gX8_sweepAll_X5_given rfl rfl rfl cd_X5_given ⟨Nat.le_of_ble_eq_true rfl, Nat.le_of_ble_eq_true rfl⟩ ⟨Nat.zero_le _, Nat.zero_le _⟩ _ (fun r12 => (gX8 E a (v_promises, v_lines, v_diary, v_now, v_room, v_bound, v_drift, v_brokenStanding, v_lateCalls, v_falls, v_swept, v_passedOver, v_longestQueue))) (zk_pc zk_pa (zk_p1 (gs := (lX8 E a (v_promises, v_lines, v_diary, v_now, v_room, v_bound, v_drift, v_brokenStanding, v_lateCalls, v_falls, v_swept, v_passedOver, v_longestQueue))) (i := 1) rfl)) (fun r12 => (zk_qc zk_qa (zk_q1 (gs := (lX8 E a (v_promises, v_lines, v_diary, v_now, v_room, v_bound, v_drift, v_brokenStanding, v_lateCalls, v_falls, v_swept, v_passedOver, v_longestQueue))) (i := 1) (w1 := gX8 E a (v_promises, v_lines, v_diary, v_now, v_room, v_bound, v_drift, v_brokenStanding, v_lateCalls, v_falls, v_swept, v_passedOver, v_longestQueue)) rfl rfl))) rfl rfl rfl rfl (Nat.le_of_ble_eq_true rfl) (fun r12 => [.int r12, .int x2]) (fun _ => rfl) 15 rfl (fun r12 => ?_)
    refine zk_icmp_ge dX8_sweepAll_15 49 (by decide) 18 rfl (fun _ => ?_) (fun _ => ?_)
    · refine zk_aload_n dX8_sweepAll_49 0 rfl 50 rfl ?_
      refine zk_get dX8_sweepAll_50 0 rfl rfl kX8_sweepAll_inX8 10 (by decide) kX8_sweepAll_1 rfl 53 rfl ?_
      refine zk_iload_n dX8_sweepAll_53 1 rfl 54 rfl ?_
      refine zk_isub dX8_sweepAll_54 55 rfl ?_
      exact zk_iret hQ dX8_sweepAll_55 rfl rfl
    · refine zk_aload_n dX8_sweepAll_18 0 rfl 19 rfl ?_
      refine zk_get dX8_sweepAll_19 0 rfl rfl kX8_sweepAll_inX8 0 (by decide) kX8_sweepAll_2 rfl 22 rfl ?_
      refine zk_iload_n dX8_sweepAll_22 2 rfl 23 rfl ?_
      refine zk_iconst 3 dX8_sweepAll_23 (by decide) 24 rfl ?_
      refine zk_callV (ci := 5) (st := []) (c_X5_isIn E l a.2.1 v_promises x2 3) dX8_sweepAll_24 2 gX8_sweepAll_X5_isIn rfl rfl rfl cd_X5_isIn ⟨Nat.le_of_ble_eq_true rfl, Nat.le_of_ble_eq_true rfl⟩ ⟨Nat.zero_le _, Nat.zero_le _⟩ _ (fun r24 => (gX8 E a (v_promises, v_lines, v_diary, v_now, v_room, v_bound, v_drift, v_brokenStanding, v_lateCalls, v_falls, v_swept, v_passedOver, v_longestQueue))) (zk_pc zk_pa (zk_p1 (gs := (lX8 E a (v_promises, v_lines, v_diary, v_now, v_room, v_bound, v_drift, v_brokenStanding, v_lateCalls, v_falls, v_swept, v_passedOver, v_longestQueue))) (i := 1) rfl)) (fun r24 => (zk_qc zk_qa (zk_q1 (gs := (lX8 E a (v_promises, v_lines, v_diary, v_now, v_room, v_bound, v_drift, v_brokenStanding, v_lateCalls, v_falls, v_swept, v_passedOver, v_longestQueue))) (i := 1) (w1 := gX8 E a (v_promises, v_lines, v_diary, v_now, v_room, v_bound, v_drift, v_brokenStanding, v_lateCalls, v_falls, v_swept, v_passedOver, v_longestQueue)) rfl rfl))) rfl rfl rfl rfl (Nat.le_of_ble_eq_true rfl) (fun r24 => [.int r24]) (fun _ => rfl) 27 rfl (fun r24 => ?_)
      refine zk_if_eq dX8_sweepAll_27 43 (by decide) 30 rfl (fun _ => ?_) (fun _ => ?_)
      · exact J43 x1 k7 hk7 x2 v_promises v_lines v_brokenStanding v_swept
      · refine zk_aload_n dX8_sweepAll_30 0 rfl 31 rfl ?_
        refine zk_get dX8_sweepAll_31 0 rfl rfl kX8_sweepAll_inX8 1 (by decide) kX8_sweepAll_3 rfl 34 rfl ?_
        refine zk_iload_n dX8_sweepAll_34 2 rfl 35 rfl ?_
        refine zk_callV (ci := 3) (st := []) (c_X3_leave E l a.2.2.1 v_lines x2) dX8_sweepAll_35 1 gX8_sweepAll_X3_leave rfl rfl rfl cd_X3_leave ⟨Nat.le_of_ble_eq_true rfl, Nat.le_of_ble_eq_true rfl⟩ ⟨Nat.zero_le _, Nat.zero_le _⟩ _ (fun r35 => (gX8 E a (v_promises, r35, v_diary, v_now, v_room, v_bound, v_drift, v_brokenStanding, v_lateCalls, v_falls, v_swept, v_passedOver, v_longestQueue))) (zk_pc zk_pa (zk_p1 (gs := (lX8 E a (v_promises, v_lines, v_diary, v_now, v_room, v_bound, v_drift, v_brokenStanding, v_lateCalls, v_falls, v_swept, v_passedOver, v_longestQueue))) (i := 2) rfl)) (fun r35 => (zk_qc zk_qa (zk_q1 (gs := (lX8 E a (v_promises, v_lines, v_diary, v_now, v_room, v_bound, v_drift, v_brokenStanding, v_lateCalls, v_falls, v_swept, v_passedOver, v_longestQueue))) (i := 2) (w1 := gX8 E a (v_promises, r35, v_diary, v_now, v_room, v_bound, v_drift, v_brokenStanding, v_lateCalls, v_falls, v_swept, v_passedOver, v_longestQueue)) rfl rfl))) rfl rfl rfl rfl (Nat.le_of_ble_eq_true rfl) (fun r35 => []) (fun _ => rfl) 38 rfl (fun r35 => ?_)
        refine zk_aload_n dX8_sweepAll_38 0 rfl 39 rfl ?_
        refine zk_iload_n dX8_sweepAll_39 2 rfl 40 rfl ?_
        refine zk_callV (ci := 8) (st := []) (c_X8_noteSwept E l a (v_promises, r35, v_diary, v_now, v_room, v_bound, v_drift, v_brokenStanding, v_lateCalls, v_falls, v_swept, v_passedOver, v_longestQueue) x2) dX8_sweepAll_40 1 gX8_sweepAll_X8_noteSwept rfl rfl rfl cd_X8_noteSwept ⟨Nat.le_of_ble_eq_true rfl, Nat.le_of_ble_eq_true rfl⟩ ⟨Nat.zero_le _, Nat.zero_le _⟩ _ (fun r40 => (gX8 E a (r40.1, r35, v_diary, v_now, v_room, v_bound, v_drift, r40.2.1, v_lateCalls, v_falls, r40.2.2, v_passedOver, v_longestQueue))) zk_pa (fun r40 => zk_qa) rfl rfl rfl rfl (Nat.le_of_ble_eq_true rfl) (fun r40 => []) (fun _ => rfl) 43 rfl (fun r40 => ?_)
        exact J43 x1 k7 hk7 x2 r40.1 r35 r40.2.1 r40.2.2
  refine zk_eqv (w1 := (gX8 E a (v_promises, v_lines, v_diary, v_now, v_room, v_bound, v_drift, v_brokenStanding, v_lateCalls, v_falls, v_swept, v_passedOver, v_longestQueue))) (lv1 := [(0, .ref a.1)]) (st1 := []) (o1 := f_X8_sweepAll v_promises v_lines v_brokenStanding v_swept) rfl rfl rfl rfl ?_
  unfold f_X8_sweepAll
  refine zk_aload_n dX8_sweepAll_0 0 rfl 1 rfl ?_
  refine zk_get dX8_sweepAll_1 0 rfl rfl kX8_sweepAll_inX8 10 (by decide) kX8_sweepAll_1 rfl 4 rfl ?_
  refine zk_istore_n [(1, .int v_swept), (0, .ref a.1)] dX8_sweepAll_4 (by decide) rfl 5 rfl ?_
  refine zk_iconst 0 dX8_sweepAll_5 (by decide) 6 rfl ?_
  refine zk_istore_n [(2, .int 0), (1, .int v_swept), (0, .ref a.1)] dX8_sweepAll_6 (by decide) rfl 7 rfl ?_
  refine zk_lv [2, 1, 0] rfl ?_
  exact J7   v_swept zk_N 0 v_promises v_lines v_brokenStanding v_swept
def f_X8_changeSetting (x1 : Int32) (x2 : Int32) (v_room : Int32) (v_bound : Int32) (v_drift : Int32) : Option (Int32 × Int32 × Int32 × Int32) := (f_X8_setting x1 v_room v_bound v_drift).bind fun r2 => if x1 = 0 then if x2 < 1 then some ((-1), v_room, v_bound, v_drift) else if x2 ≤ 20 then some (r2, x2, v_bound, v_drift) else some ((-1), v_room, v_bound, v_drift) else if x1 = 1 then if x2 < 0 then some ((-1), v_room, v_bound, v_drift) else if x2 ≤ 40 then some (r2, v_room, x2, v_drift) else some ((-1), v_room, v_bound, v_drift) else if x1 = 2 then if x2 < 0 then some ((-1), v_room, v_bound, v_drift) else if x2 ≤ 1 then some (r2, v_room, v_bound, x2) else some ((-1), v_room, v_bound, v_drift) else some ((-1), v_room, v_bound, v_drift)
theorem kX8_changeSetting_0 : Cond.fieldLink RX8 32 (TX8 4).1 (TX8 4).2.1 (TX8 4).2.2.1 ∈ wsX8_changeSetting := by decide +kernel
theorem kX8_changeSetting_inX8 : ∀ w ∈ u_ws RX8 TX8 13, w ∈ wsX8_changeSetting := by decide +kernel
theorem kX8_changeSetting_2 : Cond.fieldLink RX8 36 (TX8 5).1 (TX8 5).2.1 (TX8 5).2.2.1 ∈ wsX8_changeSetting := by decide +kernel
theorem kX8_changeSetting_3 : Cond.fieldLink RX8 52 (TX8 6).1 (TX8 6).2.1 (TX8 6).2.2.1 ∈ wsX8_changeSetting := by decide +kernel
theorem cd_X8_changeSetting : yX8_changeSetting.cls = RX8 ∧ yX8_changeSetting.cls ≠ "java/lang/invoke/MethodHandle" ∧ yX8_changeSetting.cls ≠ "java/lang/invoke/VarHandle" ∧ (parseMethodDescriptor yX8_changeSetting.desc).map (fun d => d.parameters.length) = some 2 := by decide +kernel
set_option maxRecDepth 100000 in
set_option maxHeartbeats 4000000 in
theorem c_X8_changeSetting (E : zk_Env) (l : Launch) (a : aX8) (v : VX8) (x1 : Int32) (x2 : Int32) : zk_Mc E l yX8_changeSetting wsX8_changeSetting ({ frames := 1, cells := 0, slots := 0, locals := 21 } : Room) [.ref a.1, .int x1, .int x2] (gX8 E a v) (f_X8_changeSetting x1 x2 v.2.2.2.2.1 v.2.2.2.2.2.1 v.2.2.2.2.2.2.1) (fun r => some (.int r.1)) (fun r => (gX8 E a (v.1, v.2.1, v.2.2.1, v.2.2.2.1, r.2.1, r.2.2.1, r.2.2.2, v.2.2.2.2.2.2.2))) := by
  obtain ⟨v_promises, v_lines, v_diary, v_now, v_room, v_bound, v_drift, v_brokenStanding, v_lateCalls, v_falls, v_swept, v_passedOver, v_longestQueue⟩ := v
  refine zk_M (cc := cX8_changeSetting) (nL := 4) (ret := (some .int)) (by decide) rfl (Nat.le_of_ble_eq_true rfl) (fun X Q hQ => ?_)
  refine zk_eqv (w1 := (gX8 E a (v_promises, v_lines, v_diary, v_now, v_room, v_bound, v_drift, v_brokenStanding, v_lateCalls, v_falls, v_swept, v_passedOver, v_longestQueue))) (lv1 := [(0, .ref a.1), (1, .int x1), (2, .int x2)]) (st1 := []) (o1 := f_X8_changeSetting x1 x2 v_room v_bound v_drift) rfl rfl rfl rfl ?_
  unfold f_X8_changeSetting
  refine zk_aload_n dX8_changeSetting_0 0 rfl 1 rfl ?_
  refine zk_iload_n dX8_changeSetting_1 1 rfl 2 rfl ?_
  refine zk_callV (ci := 8) (st := []) (c_X8_setting E l a (v_promises, v_lines, v_diary, v_now, v_room, v_bound, v_drift, v_brokenStanding, v_lateCalls, v_falls, v_swept, v_passedOver, v_longestQueue) x1) dX8_changeSetting_2 1 gX8_changeSetting_X8_setting rfl rfl rfl cd_X8_setting ⟨Nat.le_of_ble_eq_true rfl, Nat.le_of_ble_eq_true rfl⟩ ⟨Nat.zero_le _, Nat.zero_le _⟩ _ (fun r2 => (gX8 E a (v_promises, v_lines, v_diary, v_now, v_room, v_bound, v_drift, v_brokenStanding, v_lateCalls, v_falls, v_swept, v_passedOver, v_longestQueue))) zk_pa (fun r2 => zk_qa) rfl rfl rfl rfl (Nat.le_of_ble_eq_true rfl) (fun r2 => [.int r2]) (fun _ => rfl) 5 rfl (fun r2 => ?_)
  refine zk_istore_n [(3, .int r2), (0, .ref a.1), (1, .int x1), (2, .int x2)] dX8_changeSetting_5 (by decide) rfl 6 rfl ?_
  refine zk_iload_n dX8_changeSetting_6 2 rfl 7 rfl ?_
  refine zk_if (c := x1 = 0) (fun h7_0 => ?_) (fun h7_0 => ?_)
  · refine zk_tableIn (off := 25) dX8_changeSetting_7 32 (by rw [h7_0]; decide) (by rw [h7_0]; decide) (by rw [h7_0]; rfl) (by decide) ?_
    refine zk_iload_n dX8_changeSetting_32 3 rfl 33 rfl ?_
    refine zk_iconst 1 dX8_changeSetting_33 (by decide) 34 rfl ?_
    refine zk_icmp_lt dX8_changeSetting_34 43 (by decide) 37 rfl (fun _ => ?_) (fun _ => ?_)
    · refine zk_iconst (-1) dX8_changeSetting_43 (by decide) 44 rfl ?_
      exact zk_iret hQ dX8_changeSetting_44 rfl rfl
    · refine zk_iload_n dX8_changeSetting_37 3 rfl 38 rfl ?_
      refine zk_bipush 20 dX8_changeSetting_38 (by decide) 40 rfl ?_
      refine zk_icmp_le dX8_changeSetting_40 45 (by decide) 43 rfl (fun _ => ?_) (fun _ => ?_)
      · refine zk_aload_n dX8_changeSetting_45 1 rfl 46 rfl ?_
        refine zk_iload_n dX8_changeSetting_46 3 rfl 47 rfl ?_
        refine zk_put_ tyX8 (gX8 E a (v_promises, v_lines, v_diary, v_now, x2, v_bound, v_drift, v_brokenStanding, v_lateCalls, v_falls, v_swept, v_passedOver, v_longestQueue)) dX8_changeSetting_47 0 rfl rfl kX8_changeSetting_inX8 tyX8_ok nmX8 4 (by decide) kX8_changeSetting_0 rfl (tyX8_ok 4 (by decide)) rfl rfl (Nat.le_of_ble_eq_true rfl) rfl 50 rfl ?_
        refine zk_iload_n dX8_changeSetting_50 0 rfl 51 rfl ?_
        exact zk_iret hQ dX8_changeSetting_51 rfl rfl
      · refine zk_iconst (-1) dX8_changeSetting_43 (by decide) 44 rfl ?_
        exact zk_iret hQ dX8_changeSetting_44 rfl rfl
  refine zk_if (c := x1 = 1) (fun h7_1 => ?_) (fun h7_1 => ?_)
  · refine zk_tableIn (off := 45) dX8_changeSetting_7 52 (by rw [h7_1]; decide) (by rw [h7_1]; decide) (by rw [h7_1]; rfl) (by decide) ?_
    refine zk_iload_n dX8_changeSetting_52 3 rfl 53 rfl ?_
    refine zk_if_lt dX8_changeSetting_53 62 (by decide) 56 rfl (fun _ => ?_) (fun _ => ?_)
    · refine zk_iconst (-1) dX8_changeSetting_62 (by decide) 63 rfl ?_
      exact zk_iret hQ dX8_changeSetting_63 rfl rfl
    · refine zk_iload_n dX8_changeSetting_56 3 rfl 57 rfl ?_
      refine zk_bipush 40 dX8_changeSetting_57 (by decide) 59 rfl ?_
      refine zk_icmp_le dX8_changeSetting_59 64 (by decide) 62 rfl (fun _ => ?_) (fun _ => ?_)
      · refine zk_aload_n dX8_changeSetting_64 1 rfl 65 rfl ?_
        refine zk_iload_n dX8_changeSetting_65 3 rfl 66 rfl ?_
        refine zk_put_ tyX8 (gX8 E a (v_promises, v_lines, v_diary, v_now, v_room, x2, v_drift, v_brokenStanding, v_lateCalls, v_falls, v_swept, v_passedOver, v_longestQueue)) dX8_changeSetting_66 0 rfl rfl kX8_changeSetting_inX8 tyX8_ok nmX8 5 (by decide) kX8_changeSetting_2 rfl (tyX8_ok 5 (by decide)) rfl rfl (Nat.le_of_ble_eq_true rfl) rfl 69 rfl ?_
        refine zk_iload_n dX8_changeSetting_69 0 rfl 70 rfl ?_
        exact zk_iret hQ dX8_changeSetting_70 rfl rfl
      · refine zk_iconst (-1) dX8_changeSetting_62 (by decide) 63 rfl ?_
        exact zk_iret hQ dX8_changeSetting_63 rfl rfl
  refine zk_if (c := x1 = 2) (fun h7_2 => ?_) (fun h7_2 => ?_)
  · refine zk_tableIn (off := 64) dX8_changeSetting_7 71 (by rw [h7_2]; decide) (by rw [h7_2]; decide) (by rw [h7_2]; rfl) (by decide) ?_
    refine zk_iload_n dX8_changeSetting_71 3 rfl 72 rfl ?_
    refine zk_if_lt dX8_changeSetting_72 80 (by decide) 75 rfl (fun _ => ?_) (fun _ => ?_)
    · refine zk_iconst (-1) dX8_changeSetting_80 (by decide) 81 rfl ?_
      exact zk_iret hQ dX8_changeSetting_81 rfl rfl
    · refine zk_iload_n dX8_changeSetting_75 3 rfl 76 rfl ?_
      refine zk_iconst 1 dX8_changeSetting_76 (by decide) 77 rfl ?_
      refine zk_icmp_le dX8_changeSetting_77 82 (by decide) 80 rfl (fun _ => ?_) (fun _ => ?_)
      · refine zk_aload_n dX8_changeSetting_82 1 rfl 83 rfl ?_
        refine zk_iload_n dX8_changeSetting_83 3 rfl 84 rfl ?_
        refine zk_put_ tyX8 (gX8 E a (v_promises, v_lines, v_diary, v_now, v_room, v_bound, x2, v_brokenStanding, v_lateCalls, v_falls, v_swept, v_passedOver, v_longestQueue)) dX8_changeSetting_84 0 rfl rfl kX8_changeSetting_inX8 tyX8_ok nmX8 6 (by decide) kX8_changeSetting_3 rfl (tyX8_ok 6 (by decide)) rfl rfl (Nat.le_of_ble_eq_true rfl) rfl 87 rfl ?_
        refine zk_iload_n dX8_changeSetting_87 0 rfl 88 rfl ?_
        exact zk_iret hQ dX8_changeSetting_88 rfl rfl
      · refine zk_iconst (-1) dX8_changeSetting_80 (by decide) 81 rfl ?_
        exact zk_iret hQ dX8_changeSetting_81 rfl rfl
  refine zk_tableOut dX8_changeSetting_7 89 (by have e0 : x1.toInt ≠ 0 := fun z => h7_0 (Int32.toInt_inj.mp z); have e1 : x1.toInt ≠ 1 := fun z => h7_1 (Int32.toInt_inj.mp z); have e2 : x1.toInt ≠ 2 := fun z => h7_2 (Int32.toInt_inj.mp z); omega) (by decide) ?_
  refine zk_iconst (-1) dX8_changeSetting_89 (by decide) 90 rfl ?_
  exact zk_iret hQ dX8_changeSetting_90 rfl rfl
def f_X8_letFall_103 (x2 : Int32) (x3 : Int32) (k23 : Int32 × VX5 × VX3 × Int32 × Int32 × Int32 → Option (VX5 × VX3 × Int32 × Int32 × Int32)) (x4 : Int32) (v_promises : VX5) (v_lines : VX3) (v_brokenStanding : Int32) (v_falls : Int32) (v_swept : Int32) : Option (VX5 × VX3 × Int32 × Int32 × Int32) := k23 ((x4 + 1), v_promises, v_lines, v_brokenStanding, v_falls, v_swept)
def F_X8_letFall_23 (v_now : Int32) (x2 : Int32) (x3 : Int32) (k23 : Int32 × VX5 × VX3 × Int32 × Int32 × Int32 → Option (VX5 × VX3 × Int32 × Int32 × Int32)) : Int32 × VX5 × VX3 × Int32 × Int32 × Int32 → Option (VX5 × VX3 × Int32 × Int32 × Int32) := fun s => match s with
  | (x4, v_promises, v_lines, v_brokenStanding, v_falls, v_swept) => if x3 ≤ x4 then some (v_promises, v_lines, v_brokenStanding, v_falls, v_swept) else (f_X3_frontOf x2 v_lines.1).bind fun r34 => (f_X3_leave r34 v_lines.1 v_lines.2.1 v_lines.2.2.1 v_lines.2.2.2.1 v_lines.2.2.2.2).bind fun r45 => (f_X5_isIn r34 3 v_promises.1).bind fun r55 => if r55 = 0 then (f_X5_fact r34 1 v_promises.1).bind fun r82 => (f_X8_lineFor r82 v_now).bind fun r85 => (f_X3_join r85 r34 r45.1 r45.2.1 r45.2.2.1 r45.2.2.2.1 r45.2.2.2.2).bind fun r90 => zk_let (v_falls + 1) fun v_falls_2 => f_X8_letFall_103 x2 x3 k23 x4 v_promises r90 v_brokenStanding v_falls_2 v_swept else (f_X8_noteSwept r34 v_promises v_brokenStanding v_swept).bind fun r64 => f_X8_letFall_103 x2 x3 k23 x4 r64.1 r45 r64.2.1 v_falls r64.2.2
def f_X8_letFall (x1 : Int32) (v_promises : VX5) (v_lines : VX3) (v_now : Int32) (v_brokenStanding : Int32) (v_falls : Int32) (v_swept : Int32) : Option (VX5 × VX3 × Int32 × Int32 × Int32) := (f_X8_presentSlot x1 v_now).bind fun r6 => zk_let ((x1 * 8) + r6) fun x2_1 => (f_X3_lengthOf x2_1 v_lines.2.2.1).bind fun r16 => zk_fx (F_X8_letFall_23 v_now x2_1 r16 ) zk_N (0, v_promises, v_lines, v_brokenStanding, v_falls, v_swept)
theorem kX8_letFall_inX8 : ∀ w ∈ u_ws RX8 TX8 13, w ∈ wsX8_letFall := by decide +kernel
theorem kX8_letFall_1 : Cond.fieldLink RX8 21 (TX8 1).1 (TX8 1).2.1 (TX8 1).2.2.1 ∈ wsX8_letFall := by decide +kernel
theorem kX8_letFall_2 : Cond.fieldLink RX8 12 (TX8 0).1 (TX8 0).2.1 (TX8 0).2.2.1 ∈ wsX8_letFall := by decide +kernel
theorem kX8_letFall_3 : Cond.fieldLink RX8 61 (TX8 9).1 (TX8 9).2.1 (TX8 9).2.2.1 ∈ wsX8_letFall := by decide +kernel
theorem cd_X8_letFall : yX8_letFall.cls = RX8 ∧ yX8_letFall.cls ≠ "java/lang/invoke/MethodHandle" ∧ yX8_letFall.cls ≠ "java/lang/invoke/VarHandle" ∧ (parseMethodDescriptor yX8_letFall.desc).map (fun d => d.parameters.length) = some 1 := by decide +kernel
set_option maxRecDepth 100000 in
set_option maxHeartbeats 4000000 in
theorem c_X8_letFall (E : zk_Env) (l : Launch) (a : aX8) (v : VX8) (x1 : Int32) : zk_Mc E l yX8_letFall wsX8_letFall ({ frames := 2, cells := 0, slots := 0, locals := 46 } : Room) [.ref a.1, .int x1] (gX8 E a v) (f_X8_letFall x1 v.1 v.2.1 v.2.2.2.1 v.2.2.2.2.2.2.2.1 v.2.2.2.2.2.2.2.2.2.1 v.2.2.2.2.2.2.2.2.2.2.1) (fun _ => none) (fun r => (gX8 E a (r.1, r.2.1, v.2.2.1, v.2.2.2.1, v.2.2.2.2.1, v.2.2.2.2.2.1, v.2.2.2.2.2.2.1, r.2.2.1, v.2.2.2.2.2.2.2.2.1, r.2.2.2.1, r.2.2.2.2, v.2.2.2.2.2.2.2.2.2.2.2))) := by
  obtain ⟨v_promises, v_lines, v_diary, v_now, v_room, v_bound, v_drift, v_brokenStanding, v_lateCalls, v_falls, v_swept, v_passedOver, v_longestQueue⟩ := v
  refine zk_M (cc := cX8_letFall) (nL := 6) (ret := none) (by decide) rfl (Nat.le_of_ble_eq_true rfl) (fun X Q hQ => ?_)
  have J103 : ∀ (x2 : Int32) (x3 : Int32) (k23 : Int32 × VX5 × VX3 × Int32 × Int32 × Int32 → Option (VX5 × VX3 × Int32 × Int32 × Int32)) (hk23 : ∀ s : Int32 × VX5 × VX3 × Int32 × Int32 × Int32, zk_G E l X cX8_letFall 6 none yX8_letFall.cls wsX8_letFall ({ frames := 2, cells := 0, slots := 0, locals := 46 } : Room) 0 0 Q (gX8 E a (s.2.1, s.2.2.1, v_diary, v_now, v_room, v_bound, v_drift, s.2.2.2.1, v_lateCalls, s.2.2.2.2.1, s.2.2.2.2.2, v_passedOver, v_longestQueue)) [(0, .ref a.1), (2, .int x2), (3, .int x3), (4, .int s.1)] 23 [] (k23 s)) (x4 : Int32) (v_promises : VX5) (v_lines : VX3) (v_brokenStanding : Int32) (v_falls : Int32) (v_swept : Int32), zk_G E l X cX8_letFall 6 none yX8_letFall.cls wsX8_letFall ({ frames := 2, cells := 0, slots := 0, locals := 46 } : Room) 0 0 Q (gX8 E a (v_promises, v_lines, v_diary, v_now, v_room, v_bound, v_drift, v_brokenStanding, v_lateCalls, v_falls, v_swept, v_passedOver, v_longestQueue)) [(0, .ref a.1), (2, .int x2), (3, .int x3), (4, .int x4)] 103 [] (f_X8_letFall_103 x2 x3 k23 x4 v_promises v_lines v_brokenStanding v_falls v_swept) := by
    intro x2 x3 k23 hk23 x4 v_promises v_lines v_brokenStanding v_falls v_swept
    unfold f_X8_letFall_103
    refine zk_iinc (x4 + 1) [(4, .int (x4 + 1)), (0, .ref a.1), (2, .int x2), (3, .int x3)] dX8_letFall_103 3 rfl rfl (by decide) rfl 106 rfl ?_
    refine zk_goto dX8_letFall_106 23 (by decide) ?_
    refine zk_lv [1, 2, 3, 0] rfl ?_
    exact hk23 ((x4 + 1), v_promises, v_lines, v_brokenStanding, v_falls, v_swept)
  have J23 : ∀ (x2 : Int32) (x3 : Int32) (n : Nat) (x4 : Int32) (v_promises : VX5) (v_lines : VX3) (v_brokenStanding : Int32) (v_falls : Int32) (v_swept : Int32), zk_G E l X cX8_letFall 6 none yX8_letFall.cls wsX8_letFall ({ frames := 2, cells := 0, slots := 0, locals := 46 } : Room) 0 0 Q (gX8 E a (v_promises, v_lines, v_diary, v_now, v_room, v_bound, v_drift, v_brokenStanding, v_lateCalls, v_falls, v_swept, v_passedOver, v_longestQueue)) [(0, .ref a.1), (2, .int x2), (3, .int x3), (4, .int x4)] 23 [] (zk_fx (F_X8_letFall_23 v_now x2 x3 ) n (x4, v_promises, v_lines, v_brokenStanding, v_falls, v_swept)) := by
    intro x2 x3 n x4 v_promises v_lines v_brokenStanding v_falls v_swept
    refine zk_loop (S := Int32 × VX5 × VX3 × Int32 × Int32 × Int32) (F := F_X8_letFall_23 v_now x2 x3) (wS := fun s => (gX8 E a (s.2.1, s.2.2.1, v_diary, v_now, v_room, v_bound, v_drift, s.2.2.2.1, v_lateCalls, s.2.2.2.2.1, s.2.2.2.2.2, v_passedOver, v_longestQueue))) (lS := fun s => [(0, .ref a.1), (2, .int x2), (3, .int x3), (4, .int s.1)]) (sS := fun _ => []) (fun k23 hk23 s => ?_) n (x4, v_promises, v_lines, v_brokenStanding, v_falls, v_swept)
    obtain ⟨x4, v_promises, v_lines, v_brokenStanding, v_falls, v_swept⟩ := s
    unfold F_X8_letFall_23
    try dsimp only
    refine zk_iload dX8_letFall_23 3 rfl 25 rfl ?_
    refine zk_iload_n dX8_letFall_25 2 rfl 26 rfl ?_
    refine zk_icmp_ge dX8_letFall_26 109 (by decide) 29 rfl (fun _ => ?_) (fun _ => ?_)
    · exact zk_vret hQ dX8_letFall_109 rfl rfl
    · refine zk_aload_n dX8_letFall_29 0 rfl 30 rfl ?_
      refine zk_get dX8_letFall_30 0 rfl rfl kX8_letFall_inX8 1 (by decide) kX8_letFall_1 rfl 33 rfl ?_
      refine zk_iload_n dX8_letFall_33 1 rfl 34 rfl ?_
      refine zk_callV (ci := 3) (st := []) (c_X3_frontOf E l a.2.2.1 v_lines x2) dX8_letFall_34 1 gX8_letFall_X3_frontOf rfl rfl rfl cd_X3_frontOf ⟨Nat.le_of_ble_eq_true rfl, Nat.le_of_ble_eq_true rfl⟩ ⟨Nat.zero_le _, Nat.zero_le _⟩ _ (fun r34 => (gX8 E a (v_promises, v_lines, v_diary, v_now, v_room, v_bound, v_drift, v_brokenStanding, v_lateCalls, v_falls, v_swept, v_passedOver, v_longestQueue))) (zk_pc zk_pa (zk_p1 (gs := (lX8 E a (v_promises, v_lines, v_diary, v_now, v_room, v_bound, v_drift, v_brokenStanding, v_lateCalls, v_falls, v_swept, v_passedOver, v_longestQueue))) (i := 2) rfl)) (fun r34 => (zk_qc zk_qa (zk_q1 (gs := (lX8 E a (v_promises, v_lines, v_diary, v_now, v_room, v_bound, v_drift, v_brokenStanding, v_lateCalls, v_falls, v_swept, v_passedOver, v_longestQueue))) (i := 2) (w1 := gX8 E a (v_promises, v_lines, v_diary, v_now, v_room, v_bound, v_drift, v_brokenStanding, v_lateCalls, v_falls, v_swept, v_passedOver, v_longestQueue)) rfl rfl))) rfl rfl rfl rfl (Nat.le_of_ble_eq_true rfl) (fun r34 => [.int r34]) (fun _ => rfl) 37 rfl (fun r34 => ?_)
      refine zk_istore [(5, .int r34), (0, .ref a.1), (2, .int x2), (3, .int x3), (4, .int x4)] dX8_letFall_37 (by decide) rfl 39 rfl ?_
      refine zk_aload_n dX8_letFall_39 1 rfl 40 rfl ?_
      refine zk_get dX8_letFall_40 0 rfl rfl kX8_letFall_inX8 1 (by decide) kX8_letFall_1 rfl 43 rfl ?_
      refine zk_iload dX8_letFall_43 0 rfl 45 rfl ?_
      refine zk_callV (ci := 3) (st := []) (c_X3_leave E l a.2.2.1 v_lines r34) dX8_letFall_45 1 gX8_letFall_X3_leave rfl rfl rfl cd_X3_leave ⟨Nat.le_of_ble_eq_true rfl, Nat.le_of_ble_eq_true rfl⟩ ⟨Nat.zero_le _, Nat.zero_le _⟩ _ (fun r45 => (gX8 E a (v_promises, r45, v_diary, v_now, v_room, v_bound, v_drift, v_brokenStanding, v_lateCalls, v_falls, v_swept, v_passedOver, v_longestQueue))) (zk_pc zk_pa (zk_p1 (gs := (lX8 E a (v_promises, v_lines, v_diary, v_now, v_room, v_bound, v_drift, v_brokenStanding, v_lateCalls, v_falls, v_swept, v_passedOver, v_longestQueue))) (i := 2) rfl)) (fun r45 => (zk_qc zk_qa (zk_q1 (gs := (lX8 E a (v_promises, v_lines, v_diary, v_now, v_room, v_bound, v_drift, v_brokenStanding, v_lateCalls, v_falls, v_swept, v_passedOver, v_longestQueue))) (i := 2) (w1 := gX8 E a (v_promises, r45, v_diary, v_now, v_room, v_bound, v_drift, v_brokenStanding, v_lateCalls, v_falls, v_swept, v_passedOver, v_longestQueue)) rfl rfl))) rfl rfl rfl rfl (Nat.le_of_ble_eq_true rfl) (fun r45 => []) (fun _ => rfl) 48 rfl (fun r45 => ?_)
      refine zk_aload_n dX8_letFall_48 1 rfl 49 rfl ?_
      refine zk_get dX8_letFall_49 0 rfl rfl kX8_letFall_inX8 0 (by decide) kX8_letFall_2 rfl 52 rfl ?_
      refine zk_iload dX8_letFall_52 0 rfl 54 rfl ?_
      refine zk_iconst 3 dX8_letFall_54 (by decide) 55 rfl ?_
      refine zk_callV (ci := 5) (st := []) (c_X5_isIn E l a.2.1 v_promises r34 3) dX8_letFall_55 2 gX8_letFall_X5_isIn rfl rfl rfl cd_X5_isIn ⟨Nat.le_of_ble_eq_true rfl, Nat.le_of_ble_eq_true rfl⟩ ⟨Nat.zero_le _, Nat.zero_le _⟩ _ (fun r55 => (gX8 E a (v_promises, r45, v_diary, v_now, v_room, v_bound, v_drift, v_brokenStanding, v_lateCalls, v_falls, v_swept, v_passedOver, v_longestQueue))) (zk_pc zk_pa (zk_p1 (gs := (lX8 E a (v_promises, r45, v_diary, v_now, v_room, v_bound, v_drift, v_brokenStanding, v_lateCalls, v_falls, v_swept, v_passedOver, v_longestQueue))) (i := 1) rfl)) (fun r55 => (zk_qc zk_qa (zk_q1 (gs := (lX8 E a (v_promises, r45, v_diary, v_now, v_room, v_bound, v_drift, v_brokenStanding, v_lateCalls, v_falls, v_swept, v_passedOver, v_longestQueue))) (i := 1) (w1 := gX8 E a (v_promises, r45, v_diary, v_now, v_room, v_bound, v_drift, v_brokenStanding, v_lateCalls, v_falls, v_swept, v_passedOver, v_longestQueue)) rfl rfl))) rfl rfl rfl rfl (Nat.le_of_ble_eq_true rfl) (fun r55 => [.int r55]) (fun _ => rfl) 58 rfl (fun r55 => ?_)
      refine zk_if_eq dX8_letFall_58 70 (by decide) 61 rfl (fun _ => ?_) (fun _ => ?_)
      · refine zk_aload_n dX8_letFall_70 1 rfl 71 rfl ?_
        refine zk_get dX8_letFall_71 0 rfl rfl kX8_letFall_inX8 1 (by decide) kX8_letFall_1 rfl 74 rfl ?_
        refine zk_aload_n dX8_letFall_74 1 rfl 75 rfl ?_
        refine zk_aload_n dX8_letFall_75 1 rfl 76 rfl ?_
        refine zk_get dX8_letFall_76 0 rfl rfl kX8_letFall_inX8 0 (by decide) kX8_letFall_2 rfl 79 rfl ?_
        refine zk_iload dX8_letFall_79 0 rfl 81 rfl ?_
        refine zk_iconst 1 dX8_letFall_81 (by decide) 82 rfl ?_
        refine zk_callV (ci := 5) (st := [.ref a.1, .ref a.2.2.1.1]) (c_X5_fact E l a.2.1 v_promises r34 1) dX8_letFall_82 2 gX8_letFall_X5_fact rfl rfl rfl cd_X5_fact ⟨Nat.le_of_ble_eq_true rfl, Nat.le_of_ble_eq_true rfl⟩ ⟨Nat.zero_le _, Nat.zero_le _⟩ _ (fun r82 => (gX8 E a (v_promises, r45, v_diary, v_now, v_room, v_bound, v_drift, v_brokenStanding, v_lateCalls, v_falls, v_swept, v_passedOver, v_longestQueue))) (zk_pc zk_pa (zk_p1 (gs := (lX8 E a (v_promises, r45, v_diary, v_now, v_room, v_bound, v_drift, v_brokenStanding, v_lateCalls, v_falls, v_swept, v_passedOver, v_longestQueue))) (i := 1) rfl)) (fun r82 => (zk_qc zk_qa (zk_q1 (gs := (lX8 E a (v_promises, r45, v_diary, v_now, v_room, v_bound, v_drift, v_brokenStanding, v_lateCalls, v_falls, v_swept, v_passedOver, v_longestQueue))) (i := 1) (w1 := gX8 E a (v_promises, r45, v_diary, v_now, v_room, v_bound, v_drift, v_brokenStanding, v_lateCalls, v_falls, v_swept, v_passedOver, v_longestQueue)) rfl rfl))) rfl rfl rfl rfl (Nat.le_of_ble_eq_true rfl) (fun r82 => [.int r82, .ref a.1, .ref a.2.2.1.1]) (fun _ => rfl) 85 rfl (fun r82 => ?_)
        refine zk_callV (ci := 8) (st := [.ref a.2.2.1.1]) (c_X8_lineFor E l a (v_promises, r45, v_diary, v_now, v_room, v_bound, v_drift, v_brokenStanding, v_lateCalls, v_falls, v_swept, v_passedOver, v_longestQueue) r82) dX8_letFall_85 1 gX8_letFall_X8_lineFor rfl rfl rfl cd_X8_lineFor ⟨Nat.le_of_ble_eq_true rfl, Nat.le_of_ble_eq_true rfl⟩ ⟨Nat.zero_le _, Nat.zero_le _⟩ _ (fun r85 => (gX8 E a (v_promises, r45, v_diary, v_now, v_room, v_bound, v_drift, v_brokenStanding, v_lateCalls, v_falls, v_swept, v_passedOver, v_longestQueue))) zk_pa (fun r85 => zk_qa) rfl rfl rfl rfl (Nat.le_of_ble_eq_true rfl) (fun r85 => [.int r85, .ref a.2.2.1.1]) (fun _ => rfl) 88 rfl (fun r85 => ?_)
        refine zk_iload dX8_letFall_88 0 rfl 90 rfl ?_
        refine zk_callV (ci := 3) (st := []) (c_X3_join E l a.2.2.1 r45 r85 r34) dX8_letFall_90 2 gX8_letFall_X3_join rfl rfl rfl cd_X3_join ⟨Nat.le_of_ble_eq_true rfl, Nat.le_of_ble_eq_true rfl⟩ ⟨Nat.zero_le _, Nat.zero_le _⟩ _ (fun r90 => (gX8 E a (v_promises, r90, v_diary, v_now, v_room, v_bound, v_drift, v_brokenStanding, v_lateCalls, v_falls, v_swept, v_passedOver, v_longestQueue))) (zk_pc zk_pa (zk_p1 (gs := (lX8 E a (v_promises, r45, v_diary, v_now, v_room, v_bound, v_drift, v_brokenStanding, v_lateCalls, v_falls, v_swept, v_passedOver, v_longestQueue))) (i := 2) rfl)) (fun r90 => (zk_qc zk_qa (zk_q1 (gs := (lX8 E a (v_promises, r45, v_diary, v_now, v_room, v_bound, v_drift, v_brokenStanding, v_lateCalls, v_falls, v_swept, v_passedOver, v_longestQueue))) (i := 2) (w1 := gX8 E a (v_promises, r90, v_diary, v_now, v_room, v_bound, v_drift, v_brokenStanding, v_lateCalls, v_falls, v_swept, v_passedOver, v_longestQueue)) rfl rfl))) rfl rfl rfl rfl (Nat.le_of_ble_eq_true rfl) (fun r90 => []) (fun _ => rfl) 93 rfl (fun r90 => ?_)
        refine zk_aload_n dX8_letFall_93 1 rfl 94 rfl ?_
        refine zk_dup dX8_letFall_94 rfl 95 rfl ?_
        refine zk_get dX8_letFall_95 0 rfl rfl kX8_letFall_inX8 9 (by decide) kX8_letFall_3 rfl 98 rfl ?_
        refine zk_iconst 1 dX8_letFall_98 (by decide) 99 rfl ?_
        refine zk_iadd dX8_letFall_99 100 rfl ?_
        refine zk_nm (fun v_falls_2 => ?_)
        refine zk_put_ tyX8 (gX8 E a (v_promises, r90, v_diary, v_now, v_room, v_bound, v_drift, v_brokenStanding, v_lateCalls, v_falls_2, v_swept, v_passedOver, v_longestQueue)) dX8_letFall_100 0 rfl rfl kX8_letFall_inX8 tyX8_ok nmX8 9 (by decide) kX8_letFall_3 rfl (tyX8_ok 9 (by decide)) rfl rfl (Nat.le_of_ble_eq_true rfl) rfl 103 rfl ?_
        refine zk_lv [1, 2, 3, 4] rfl ?_
        exact J103 x2 x3 k23 hk23 x4 v_promises r90 v_brokenStanding v_falls_2 v_swept
      · refine zk_aload_n dX8_letFall_61 1 rfl 62 rfl ?_
        refine zk_iload dX8_letFall_62 0 rfl 64 rfl ?_
        refine zk_callV (ci := 8) (st := []) (c_X8_noteSwept E l a (v_promises, r45, v_diary, v_now, v_room, v_bound, v_drift, v_brokenStanding, v_lateCalls, v_falls, v_swept, v_passedOver, v_longestQueue) r34) dX8_letFall_64 1 gX8_letFall_X8_noteSwept rfl rfl rfl cd_X8_noteSwept ⟨Nat.le_of_ble_eq_true rfl, Nat.le_of_ble_eq_true rfl⟩ ⟨Nat.zero_le _, Nat.zero_le _⟩ _ (fun r64 => (gX8 E a (r64.1, r45, v_diary, v_now, v_room, v_bound, v_drift, r64.2.1, v_lateCalls, v_falls, r64.2.2, v_passedOver, v_longestQueue))) zk_pa (fun r64 => zk_qa) rfl rfl rfl rfl (Nat.le_of_ble_eq_true rfl) (fun r64 => []) (fun _ => rfl) 67 rfl (fun r64 => ?_)
        refine zk_goto dX8_letFall_67 103 (by decide) ?_
        refine zk_lv [1, 2, 3, 4] rfl ?_
        exact J103 x2 x3 k23 hk23 x4 r64.1 r45 r64.2.1 v_falls r64.2.2
  refine zk_eqv (w1 := (gX8 E a (v_promises, v_lines, v_diary, v_now, v_room, v_bound, v_drift, v_brokenStanding, v_lateCalls, v_falls, v_swept, v_passedOver, v_longestQueue))) (lv1 := [(0, .ref a.1), (1, .int x1)]) (st1 := []) (o1 := f_X8_letFall x1 v_promises v_lines v_now v_brokenStanding v_falls v_swept) rfl rfl rfl rfl ?_
  unfold f_X8_letFall
  refine zk_iload_n dX8_letFall_0 1 rfl 1 rfl ?_
  refine zk_bipush 8 dX8_letFall_1 (by decide) 3 rfl ?_
  refine zk_imul dX8_letFall_3 4 rfl ?_
  refine zk_aload_n dX8_letFall_4 0 rfl 5 rfl ?_
  refine zk_iload_n dX8_letFall_5 1 rfl 6 rfl ?_
  refine zk_callV (ci := 8) (st := [.int (x1 * 8)]) (c_X8_presentSlot E l a (v_promises, v_lines, v_diary, v_now, v_room, v_bound, v_drift, v_brokenStanding, v_lateCalls, v_falls, v_swept, v_passedOver, v_longestQueue) x1) dX8_letFall_6 1 gX8_letFall_X8_presentSlot rfl rfl rfl cd_X8_presentSlot ⟨Nat.le_of_ble_eq_true rfl, Nat.le_of_ble_eq_true rfl⟩ ⟨Nat.zero_le _, Nat.zero_le _⟩ _ (fun r6 => (gX8 E a (v_promises, v_lines, v_diary, v_now, v_room, v_bound, v_drift, v_brokenStanding, v_lateCalls, v_falls, v_swept, v_passedOver, v_longestQueue))) zk_pa (fun r6 => zk_qa) rfl rfl rfl rfl (Nat.le_of_ble_eq_true rfl) (fun r6 => [.int r6, .int (x1 * 8)]) (fun _ => rfl) 9 rfl (fun r6 => ?_)
  refine zk_iadd dX8_letFall_9 10 rfl ?_
  refine zk_nm (fun x2_1 => ?_)
  refine zk_istore_n [(2, .int x2_1), (0, .ref a.1), (1, .int x1)] dX8_letFall_10 (by decide) rfl 11 rfl ?_
  refine zk_aload_n dX8_letFall_11 1 rfl 12 rfl ?_
  refine zk_get dX8_letFall_12 0 rfl rfl kX8_letFall_inX8 1 (by decide) kX8_letFall_1 rfl 15 rfl ?_
  refine zk_iload_n dX8_letFall_15 0 rfl 16 rfl ?_
  refine zk_callV (ci := 3) (st := []) (c_X3_lengthOf E l a.2.2.1 v_lines x2_1) dX8_letFall_16 1 gX8_letFall_X3_lengthOf rfl rfl rfl cd_X3_lengthOf ⟨Nat.le_of_ble_eq_true rfl, Nat.le_of_ble_eq_true rfl⟩ ⟨Nat.zero_le _, Nat.zero_le _⟩ _ (fun r16 => (gX8 E a (v_promises, v_lines, v_diary, v_now, v_room, v_bound, v_drift, v_brokenStanding, v_lateCalls, v_falls, v_swept, v_passedOver, v_longestQueue))) (zk_pc zk_pa (zk_p1 (gs := (lX8 E a (v_promises, v_lines, v_diary, v_now, v_room, v_bound, v_drift, v_brokenStanding, v_lateCalls, v_falls, v_swept, v_passedOver, v_longestQueue))) (i := 2) rfl)) (fun r16 => (zk_qc zk_qa (zk_q1 (gs := (lX8 E a (v_promises, v_lines, v_diary, v_now, v_room, v_bound, v_drift, v_brokenStanding, v_lateCalls, v_falls, v_swept, v_passedOver, v_longestQueue))) (i := 2) (w1 := gX8 E a (v_promises, v_lines, v_diary, v_now, v_room, v_bound, v_drift, v_brokenStanding, v_lateCalls, v_falls, v_swept, v_passedOver, v_longestQueue)) rfl rfl))) rfl rfl rfl rfl (Nat.le_of_ble_eq_true rfl) (fun r16 => [.int r16]) (fun _ => rfl) 19 rfl (fun r16 => ?_)
  refine zk_istore_n [(3, .int r16), (2, .int x2_1), (0, .ref a.1), (1, .int x1)] dX8_letFall_19 (by decide) rfl 20 rfl ?_
  refine zk_iconst 0 dX8_letFall_20 (by decide) 21 rfl ?_
  refine zk_istore [(4, .int 0), (3, .int r16), (2, .int x2_1), (0, .ref a.1), (1, .int x1)] dX8_letFall_21 (by decide) rfl 23 rfl ?_
  refine zk_lv [3, 2, 1, 0] rfl ?_
  exact J23   x2_1 r16 zk_N 0 v_promises v_lines v_brokenStanding v_falls v_swept
def f_X8_letArrive_85 (x1 : Int32) (x2 : Int32) (k17 : Int32 × VX5 × VX3 × Int32 × Int32 → Option (VX5 × VX3 × Int32 × Int32)) (x3 : Int32) (v_promises : VX5) (v_lines : VX3) (v_brokenStanding : Int32) (v_swept : Int32) : Option (VX5 × VX3 × Int32 × Int32) := k17 ((x3 + 1), v_promises, v_lines, v_brokenStanding, v_swept)
def F_X8_letArrive_17 (x1 : Int32) (x2 : Int32) (k17 : Int32 × VX5 × VX3 × Int32 × Int32 → Option (VX5 × VX3 × Int32 × Int32)) : Int32 × VX5 × VX3 × Int32 × Int32 → Option (VX5 × VX3 × Int32 × Int32) := fun s => match s with
  | (x3, v_promises, v_lines, v_brokenStanding, v_swept) => if x2 ≤ x3 then some (v_promises, v_lines, v_brokenStanding, v_swept) else (f_X3_frontOf x1 v_lines.1).bind fun r27 => (f_X3_leave r27 v_lines.1 v_lines.2.1 v_lines.2.2.1 v_lines.2.2.2.1 v_lines.2.2.2.2).bind fun r38 => (f_X5_isIn r27 3 v_promises.1).bind fun r48 => if r48 = 0 then (f_X5_write r27 0 1 v_promises.1).bind fun r71 => (f_X3_join 24 r27 r38.1 r38.2.1 r38.2.2.1 r38.2.2.2.1 r38.2.2.2.2).bind fun r82 => f_X8_letArrive_85 x1 x2 k17 x3 (r71, v_promises.2) r82 v_brokenStanding v_swept else (f_X8_noteSwept r27 v_promises v_brokenStanding v_swept).bind fun r57 => f_X8_letArrive_85 x1 x2 k17 x3 r57.1 r38 r57.2.1 r57.2.2
def f_X8_letArrive (v_promises : VX5) (v_lines : VX3) (v_now : Int32) (v_brokenStanding : Int32) (v_swept : Int32) : Option (VX5 × VX3 × Int32 × Int32) := (f_X8_presentSlot 0 v_now).bind fun r2 => (f_X3_lengthOf r2 v_lines.2.2.1).bind fun r11 => zk_fx (F_X8_letArrive_17 r2 r11 ) zk_N (0, v_promises, v_lines, v_brokenStanding, v_swept)
theorem kX8_letArrive_inX8 : ∀ w ∈ u_ws RX8 TX8 13, w ∈ wsX8_letArrive := by decide +kernel
theorem kX8_letArrive_1 : Cond.fieldLink RX8 21 (TX8 1).1 (TX8 1).2.1 (TX8 1).2.2.1 ∈ wsX8_letArrive := by decide +kernel
theorem kX8_letArrive_2 : Cond.fieldLink RX8 12 (TX8 0).1 (TX8 0).2.1 (TX8 0).2.2.1 ∈ wsX8_letArrive := by decide +kernel
theorem cd_X8_letArrive : yX8_letArrive.cls = RX8 ∧ yX8_letArrive.cls ≠ "java/lang/invoke/MethodHandle" ∧ yX8_letArrive.cls ≠ "java/lang/invoke/VarHandle" ∧ (parseMethodDescriptor yX8_letArrive.desc).map (fun d => d.parameters.length) = some 0 := by decide +kernel
set_option maxRecDepth 100000 in
set_option maxHeartbeats 4000000 in
theorem c_X8_letArrive (E : zk_Env) (l : Launch) (a : aX8) (v : VX8)  : zk_Mc E l yX8_letArrive wsX8_letArrive ({ frames := 2, cells := 0, slots := 0, locals := 46 } : Room) [.ref a.1] (gX8 E a v) (f_X8_letArrive v.1 v.2.1 v.2.2.2.1 v.2.2.2.2.2.2.2.1 v.2.2.2.2.2.2.2.2.2.2.1) (fun _ => none) (fun r => (gX8 E a (r.1, r.2.1, v.2.2.1, v.2.2.2.1, v.2.2.2.2.1, v.2.2.2.2.2.1, v.2.2.2.2.2.2.1, r.2.2.1, v.2.2.2.2.2.2.2.2.1, v.2.2.2.2.2.2.2.2.2.1, r.2.2.2, v.2.2.2.2.2.2.2.2.2.2.2))) := by
  obtain ⟨v_promises, v_lines, v_diary, v_now, v_room, v_bound, v_drift, v_brokenStanding, v_lateCalls, v_falls, v_swept, v_passedOver, v_longestQueue⟩ := v
  refine zk_M (cc := cX8_letArrive) (nL := 5) (ret := none) (by decide) rfl (Nat.le_of_ble_eq_true rfl) (fun X Q hQ => ?_)
  have J85 : ∀ (x1 : Int32) (x2 : Int32) (k17 : Int32 × VX5 × VX3 × Int32 × Int32 → Option (VX5 × VX3 × Int32 × Int32)) (hk17 : ∀ s : Int32 × VX5 × VX3 × Int32 × Int32, zk_G E l X cX8_letArrive 5 none yX8_letArrive.cls wsX8_letArrive ({ frames := 2, cells := 0, slots := 0, locals := 46 } : Room) 0 0 Q (gX8 E a (s.2.1, s.2.2.1, v_diary, v_now, v_room, v_bound, v_drift, s.2.2.2.1, v_lateCalls, v_falls, s.2.2.2.2, v_passedOver, v_longestQueue)) [(0, .ref a.1), (1, .int x1), (2, .int x2), (3, .int s.1)] 17 [] (k17 s)) (x3 : Int32) (v_promises : VX5) (v_lines : VX3) (v_brokenStanding : Int32) (v_swept : Int32), zk_G E l X cX8_letArrive 5 none yX8_letArrive.cls wsX8_letArrive ({ frames := 2, cells := 0, slots := 0, locals := 46 } : Room) 0 0 Q (gX8 E a (v_promises, v_lines, v_diary, v_now, v_room, v_bound, v_drift, v_brokenStanding, v_lateCalls, v_falls, v_swept, v_passedOver, v_longestQueue)) [(0, .ref a.1), (1, .int x1), (2, .int x2), (3, .int x3)] 85 [] (f_X8_letArrive_85 x1 x2 k17 x3 v_promises v_lines v_brokenStanding v_swept) := by
    intro x1 x2 k17 hk17 x3 v_promises v_lines v_brokenStanding v_swept
    unfold f_X8_letArrive_85
    refine zk_iinc (x3 + 1) [(3, .int (x3 + 1)), (0, .ref a.1), (1, .int x1), (2, .int x2)] dX8_letArrive_85 3 rfl rfl (by decide) rfl 88 rfl ?_
    refine zk_goto dX8_letArrive_88 17 (by decide) ?_
    refine zk_lv [1, 2, 3, 0] rfl ?_
    exact hk17 ((x3 + 1), v_promises, v_lines, v_brokenStanding, v_swept)
  have J17 : ∀ (x1 : Int32) (x2 : Int32) (n : Nat) (x3 : Int32) (v_promises : VX5) (v_lines : VX3) (v_brokenStanding : Int32) (v_swept : Int32), zk_G E l X cX8_letArrive 5 none yX8_letArrive.cls wsX8_letArrive ({ frames := 2, cells := 0, slots := 0, locals := 46 } : Room) 0 0 Q (gX8 E a (v_promises, v_lines, v_diary, v_now, v_room, v_bound, v_drift, v_brokenStanding, v_lateCalls, v_falls, v_swept, v_passedOver, v_longestQueue)) [(0, .ref a.1), (1, .int x1), (2, .int x2), (3, .int x3)] 17 [] (zk_fx (F_X8_letArrive_17 x1 x2 ) n (x3, v_promises, v_lines, v_brokenStanding, v_swept)) := by
    intro x1 x2 n x3 v_promises v_lines v_brokenStanding v_swept
    refine zk_loop (S := Int32 × VX5 × VX3 × Int32 × Int32) (F := F_X8_letArrive_17 x1 x2) (wS := fun s => (gX8 E a (s.2.1, s.2.2.1, v_diary, v_now, v_room, v_bound, v_drift, s.2.2.2.1, v_lateCalls, v_falls, s.2.2.2.2, v_passedOver, v_longestQueue))) (lS := fun s => [(0, .ref a.1), (1, .int x1), (2, .int x2), (3, .int s.1)]) (sS := fun _ => []) (fun k17 hk17 s => ?_) n (x3, v_promises, v_lines, v_brokenStanding, v_swept)
    obtain ⟨x3, v_promises, v_lines, v_brokenStanding, v_swept⟩ := s
    unfold F_X8_letArrive_17
    try dsimp only
    refine zk_iload_n dX8_letArrive_17 3 rfl 18 rfl ?_
    refine zk_iload_n dX8_letArrive_18 2 rfl 19 rfl ?_
    refine zk_icmp_ge dX8_letArrive_19 91 (by decide) 22 rfl (fun _ => ?_) (fun _ => ?_)
    · exact zk_vret hQ dX8_letArrive_91 rfl rfl
    · refine zk_aload_n dX8_letArrive_22 0 rfl 23 rfl ?_
      refine zk_get dX8_letArrive_23 0 rfl rfl kX8_letArrive_inX8 1 (by decide) kX8_letArrive_1 rfl 26 rfl ?_
      refine zk_iload_n dX8_letArrive_26 1 rfl 27 rfl ?_
      refine zk_callV (ci := 3) (st := []) (c_X3_frontOf E l a.2.2.1 v_lines x1) dX8_letArrive_27 1 gX8_letArrive_X3_frontOf rfl rfl rfl cd_X3_frontOf ⟨Nat.le_of_ble_eq_true rfl, Nat.le_of_ble_eq_true rfl⟩ ⟨Nat.zero_le _, Nat.zero_le _⟩ _ (fun r27 => (gX8 E a (v_promises, v_lines, v_diary, v_now, v_room, v_bound, v_drift, v_brokenStanding, v_lateCalls, v_falls, v_swept, v_passedOver, v_longestQueue))) (zk_pc zk_pa (zk_p1 (gs := (lX8 E a (v_promises, v_lines, v_diary, v_now, v_room, v_bound, v_drift, v_brokenStanding, v_lateCalls, v_falls, v_swept, v_passedOver, v_longestQueue))) (i := 2) rfl)) (fun r27 => (zk_qc zk_qa (zk_q1 (gs := (lX8 E a (v_promises, v_lines, v_diary, v_now, v_room, v_bound, v_drift, v_brokenStanding, v_lateCalls, v_falls, v_swept, v_passedOver, v_longestQueue))) (i := 2) (w1 := gX8 E a (v_promises, v_lines, v_diary, v_now, v_room, v_bound, v_drift, v_brokenStanding, v_lateCalls, v_falls, v_swept, v_passedOver, v_longestQueue)) rfl rfl))) rfl rfl rfl rfl (Nat.le_of_ble_eq_true rfl) (fun r27 => [.int r27]) (fun _ => rfl) 30 rfl (fun r27 => ?_)
      refine zk_istore [(4, .int r27), (0, .ref a.1), (1, .int x1), (2, .int x2), (3, .int x3)] dX8_letArrive_30 (by decide) rfl 32 rfl ?_
      refine zk_aload_n dX8_letArrive_32 1 rfl 33 rfl ?_
      refine zk_get dX8_letArrive_33 0 rfl rfl kX8_letArrive_inX8 1 (by decide) kX8_letArrive_1 rfl 36 rfl ?_
      refine zk_iload dX8_letArrive_36 0 rfl 38 rfl ?_
      refine zk_callV (ci := 3) (st := []) (c_X3_leave E l a.2.2.1 v_lines r27) dX8_letArrive_38 1 gX8_letArrive_X3_leave rfl rfl rfl cd_X3_leave ⟨Nat.le_of_ble_eq_true rfl, Nat.le_of_ble_eq_true rfl⟩ ⟨Nat.zero_le _, Nat.zero_le _⟩ _ (fun r38 => (gX8 E a (v_promises, r38, v_diary, v_now, v_room, v_bound, v_drift, v_brokenStanding, v_lateCalls, v_falls, v_swept, v_passedOver, v_longestQueue))) (zk_pc zk_pa (zk_p1 (gs := (lX8 E a (v_promises, v_lines, v_diary, v_now, v_room, v_bound, v_drift, v_brokenStanding, v_lateCalls, v_falls, v_swept, v_passedOver, v_longestQueue))) (i := 2) rfl)) (fun r38 => (zk_qc zk_qa (zk_q1 (gs := (lX8 E a (v_promises, v_lines, v_diary, v_now, v_room, v_bound, v_drift, v_brokenStanding, v_lateCalls, v_falls, v_swept, v_passedOver, v_longestQueue))) (i := 2) (w1 := gX8 E a (v_promises, r38, v_diary, v_now, v_room, v_bound, v_drift, v_brokenStanding, v_lateCalls, v_falls, v_swept, v_passedOver, v_longestQueue)) rfl rfl))) rfl rfl rfl rfl (Nat.le_of_ble_eq_true rfl) (fun r38 => []) (fun _ => rfl) 41 rfl (fun r38 => ?_)
      refine zk_aload_n dX8_letArrive_41 1 rfl 42 rfl ?_
      refine zk_get dX8_letArrive_42 0 rfl rfl kX8_letArrive_inX8 0 (by decide) kX8_letArrive_2 rfl 45 rfl ?_
      refine zk_iload dX8_letArrive_45 0 rfl 47 rfl ?_
      refine zk_iconst 3 dX8_letArrive_47 (by decide) 48 rfl ?_
      refine zk_callV (ci := 5) (st := []) (c_X5_isIn E l a.2.1 v_promises r27 3) dX8_letArrive_48 2 gX8_letArrive_X5_isIn rfl rfl rfl cd_X5_isIn ⟨Nat.le_of_ble_eq_true rfl, Nat.le_of_ble_eq_true rfl⟩ ⟨Nat.zero_le _, Nat.zero_le _⟩ _ (fun r48 => (gX8 E a (v_promises, r38, v_diary, v_now, v_room, v_bound, v_drift, v_brokenStanding, v_lateCalls, v_falls, v_swept, v_passedOver, v_longestQueue))) (zk_pc zk_pa (zk_p1 (gs := (lX8 E a (v_promises, r38, v_diary, v_now, v_room, v_bound, v_drift, v_brokenStanding, v_lateCalls, v_falls, v_swept, v_passedOver, v_longestQueue))) (i := 1) rfl)) (fun r48 => (zk_qc zk_qa (zk_q1 (gs := (lX8 E a (v_promises, r38, v_diary, v_now, v_room, v_bound, v_drift, v_brokenStanding, v_lateCalls, v_falls, v_swept, v_passedOver, v_longestQueue))) (i := 1) (w1 := gX8 E a (v_promises, r38, v_diary, v_now, v_room, v_bound, v_drift, v_brokenStanding, v_lateCalls, v_falls, v_swept, v_passedOver, v_longestQueue)) rfl rfl))) rfl rfl rfl rfl (Nat.le_of_ble_eq_true rfl) (fun r48 => [.int r48]) (fun _ => rfl) 51 rfl (fun r48 => ?_)
      refine zk_if_eq dX8_letArrive_51 63 (by decide) 54 rfl (fun _ => ?_) (fun _ => ?_)
      · refine zk_aload_n dX8_letArrive_63 1 rfl 64 rfl ?_
        refine zk_get dX8_letArrive_64 0 rfl rfl kX8_letArrive_inX8 0 (by decide) kX8_letArrive_2 rfl 67 rfl ?_
        refine zk_iload dX8_letArrive_67 0 rfl 69 rfl ?_
        refine zk_iconst 0 dX8_letArrive_69 (by decide) 70 rfl ?_
        refine zk_iconst 1 dX8_letArrive_70 (by decide) 71 rfl ?_
        refine zk_callV (ci := 5) (st := []) (c_X5_write E l a.2.1 v_promises r27 0 1) dX8_letArrive_71 3 gX8_letArrive_X5_write rfl rfl rfl cd_X5_write ⟨Nat.le_of_ble_eq_true rfl, Nat.le_of_ble_eq_true rfl⟩ ⟨Nat.zero_le _, Nat.zero_le _⟩ _ (fun r71 => (gX8 E a ((r71, v_promises.2), r38, v_diary, v_now, v_room, v_bound, v_drift, v_brokenStanding, v_lateCalls, v_falls, v_swept, v_passedOver, v_longestQueue))) (zk_pc zk_pa (zk_p1 (gs := (lX8 E a (v_promises, r38, v_diary, v_now, v_room, v_bound, v_drift, v_brokenStanding, v_lateCalls, v_falls, v_swept, v_passedOver, v_longestQueue))) (i := 1) rfl)) (fun r71 => (zk_qc zk_qa (zk_q1 (gs := (lX8 E a (v_promises, r38, v_diary, v_now, v_room, v_bound, v_drift, v_brokenStanding, v_lateCalls, v_falls, v_swept, v_passedOver, v_longestQueue))) (i := 1) (w1 := gX8 E a ((r71, v_promises.2), r38, v_diary, v_now, v_room, v_bound, v_drift, v_brokenStanding, v_lateCalls, v_falls, v_swept, v_passedOver, v_longestQueue)) rfl rfl))) rfl rfl rfl rfl (Nat.le_of_ble_eq_true rfl) (fun r71 => []) (fun _ => rfl) 74 rfl (fun r71 => ?_)
        refine zk_aload_n dX8_letArrive_74 1 rfl 75 rfl ?_
        refine zk_get dX8_letArrive_75 0 rfl rfl kX8_letArrive_inX8 1 (by decide) kX8_letArrive_1 rfl 78 rfl ?_
        refine zk_bipush 24 dX8_letArrive_78 (by decide) 80 rfl ?_
        refine zk_iload dX8_letArrive_80 0 rfl 82 rfl ?_
        refine zk_callV (ci := 3) (st := []) (c_X3_join E l a.2.2.1 r38 24 r27) dX8_letArrive_82 2 gX8_letArrive_X3_join rfl rfl rfl cd_X3_join ⟨Nat.le_of_ble_eq_true rfl, Nat.le_of_ble_eq_true rfl⟩ ⟨Nat.zero_le _, Nat.zero_le _⟩ _ (fun r82 => (gX8 E a ((r71, v_promises.2), r82, v_diary, v_now, v_room, v_bound, v_drift, v_brokenStanding, v_lateCalls, v_falls, v_swept, v_passedOver, v_longestQueue))) (zk_pc zk_pa (zk_p1 (gs := (lX8 E a ((r71, v_promises.2), r38, v_diary, v_now, v_room, v_bound, v_drift, v_brokenStanding, v_lateCalls, v_falls, v_swept, v_passedOver, v_longestQueue))) (i := 2) rfl)) (fun r82 => (zk_qc zk_qa (zk_q1 (gs := (lX8 E a ((r71, v_promises.2), r38, v_diary, v_now, v_room, v_bound, v_drift, v_brokenStanding, v_lateCalls, v_falls, v_swept, v_passedOver, v_longestQueue))) (i := 2) (w1 := gX8 E a ((r71, v_promises.2), r82, v_diary, v_now, v_room, v_bound, v_drift, v_brokenStanding, v_lateCalls, v_falls, v_swept, v_passedOver, v_longestQueue)) rfl rfl))) rfl rfl rfl rfl (Nat.le_of_ble_eq_true rfl) (fun r82 => []) (fun _ => rfl) 85 rfl (fun r82 => ?_)
        refine zk_lv [1, 2, 3, 4] rfl ?_
        exact J85 x1 x2 k17 hk17 x3 (r71, v_promises.2) r82 v_brokenStanding v_swept
      · refine zk_aload_n dX8_letArrive_54 1 rfl 55 rfl ?_
        refine zk_iload dX8_letArrive_55 0 rfl 57 rfl ?_
        refine zk_callV (ci := 8) (st := []) (c_X8_noteSwept E l a (v_promises, r38, v_diary, v_now, v_room, v_bound, v_drift, v_brokenStanding, v_lateCalls, v_falls, v_swept, v_passedOver, v_longestQueue) r27) dX8_letArrive_57 1 gX8_letArrive_X8_noteSwept rfl rfl rfl cd_X8_noteSwept ⟨Nat.le_of_ble_eq_true rfl, Nat.le_of_ble_eq_true rfl⟩ ⟨Nat.zero_le _, Nat.zero_le _⟩ _ (fun r57 => (gX8 E a (r57.1, r38, v_diary, v_now, v_room, v_bound, v_drift, r57.2.1, v_lateCalls, v_falls, r57.2.2, v_passedOver, v_longestQueue))) zk_pa (fun r57 => zk_qa) rfl rfl rfl rfl (Nat.le_of_ble_eq_true rfl) (fun r57 => []) (fun _ => rfl) 60 rfl (fun r57 => ?_)
        refine zk_goto dX8_letArrive_60 85 (by decide) ?_
        refine zk_lv [1, 2, 3, 4] rfl ?_
        exact J85 x1 x2 k17 hk17 x3 r57.1 r38 r57.2.1 r57.2.2
  refine zk_eqv (w1 := (gX8 E a (v_promises, v_lines, v_diary, v_now, v_room, v_bound, v_drift, v_brokenStanding, v_lateCalls, v_falls, v_swept, v_passedOver, v_longestQueue))) (lv1 := [(0, .ref a.1)]) (st1 := []) (o1 := f_X8_letArrive v_promises v_lines v_now v_brokenStanding v_swept) rfl rfl rfl rfl ?_
  unfold f_X8_letArrive
  refine zk_aload_n dX8_letArrive_0 0 rfl 1 rfl ?_
  refine zk_iconst 0 dX8_letArrive_1 (by decide) 2 rfl ?_
  refine zk_callV (ci := 8) (st := []) (c_X8_presentSlot E l a (v_promises, v_lines, v_diary, v_now, v_room, v_bound, v_drift, v_brokenStanding, v_lateCalls, v_falls, v_swept, v_passedOver, v_longestQueue) 0) dX8_letArrive_2 1 gX8_letArrive_X8_presentSlot rfl rfl rfl cd_X8_presentSlot ⟨Nat.le_of_ble_eq_true rfl, Nat.le_of_ble_eq_true rfl⟩ ⟨Nat.zero_le _, Nat.zero_le _⟩ _ (fun r2 => (gX8 E a (v_promises, v_lines, v_diary, v_now, v_room, v_bound, v_drift, v_brokenStanding, v_lateCalls, v_falls, v_swept, v_passedOver, v_longestQueue))) zk_pa (fun r2 => zk_qa) rfl rfl rfl rfl (Nat.le_of_ble_eq_true rfl) (fun r2 => [.int r2]) (fun _ => rfl) 5 rfl (fun r2 => ?_)
  refine zk_istore_n [(1, .int r2), (0, .ref a.1)] dX8_letArrive_5 (by decide) rfl 6 rfl ?_
  refine zk_aload_n dX8_letArrive_6 1 rfl 7 rfl ?_
  refine zk_get dX8_letArrive_7 0 rfl rfl kX8_letArrive_inX8 1 (by decide) kX8_letArrive_1 rfl 10 rfl ?_
  refine zk_iload_n dX8_letArrive_10 0 rfl 11 rfl ?_
  refine zk_callV (ci := 3) (st := []) (c_X3_lengthOf E l a.2.2.1 v_lines r2) dX8_letArrive_11 1 gX8_letArrive_X3_lengthOf rfl rfl rfl cd_X3_lengthOf ⟨Nat.le_of_ble_eq_true rfl, Nat.le_of_ble_eq_true rfl⟩ ⟨Nat.zero_le _, Nat.zero_le _⟩ _ (fun r11 => (gX8 E a (v_promises, v_lines, v_diary, v_now, v_room, v_bound, v_drift, v_brokenStanding, v_lateCalls, v_falls, v_swept, v_passedOver, v_longestQueue))) (zk_pc zk_pa (zk_p1 (gs := (lX8 E a (v_promises, v_lines, v_diary, v_now, v_room, v_bound, v_drift, v_brokenStanding, v_lateCalls, v_falls, v_swept, v_passedOver, v_longestQueue))) (i := 2) rfl)) (fun r11 => (zk_qc zk_qa (zk_q1 (gs := (lX8 E a (v_promises, v_lines, v_diary, v_now, v_room, v_bound, v_drift, v_brokenStanding, v_lateCalls, v_falls, v_swept, v_passedOver, v_longestQueue))) (i := 2) (w1 := gX8 E a (v_promises, v_lines, v_diary, v_now, v_room, v_bound, v_drift, v_brokenStanding, v_lateCalls, v_falls, v_swept, v_passedOver, v_longestQueue)) rfl rfl))) rfl rfl rfl rfl (Nat.le_of_ble_eq_true rfl) (fun r11 => [.int r11]) (fun _ => rfl) 14 rfl (fun r11 => ?_)
  refine zk_istore_n [(2, .int r11), (1, .int r2), (0, .ref a.1)] dX8_letArrive_14 (by decide) rfl 15 rfl ?_
  refine zk_iconst 0 dX8_letArrive_15 (by decide) 16 rfl ?_
  refine zk_istore_n [(3, .int 0), (2, .int r11), (1, .int r2), (0, .ref a.1)] dX8_letArrive_16 (by decide) rfl 17 rfl ?_
  refine zk_lv [3, 2, 1, 0] rfl ?_
  exact J17   r2 r11 zk_N 0 v_promises v_lines v_brokenStanding v_swept
def f_X8_callPromise_51 (x1 : Int32) (v_now : Int32) (v_drift : Int32) (x2 : Int32) (v_promises : VX5) (v_lines : VX3) (v_diary : VX0) (v_lateCalls : Int32) (v_passedOver : Int32) : Option (VX5 × VX3 × VX0 × Int32 × Int32) := (f_X0_write x1 x2 v_now v_diary.1 v_diary.2).bind fun r61 => (f_X5_fact x1 4 v_promises.1).bind fun r76 => (f_X5_write x1 4 (r76 + 1) v_promises.1).bind fun r81 => (f_X5_fact x1 3 r81).bind fun r90 => if 1 ≤ r90 then (f_X5_fact x1 2 r81).bind fun r120 => (f_X8_dueOfRepetition x2 r120 v_now v_drift v_passedOver).bind fun r123 => (f_X5_write x1 3 (r90 - 1) r81).bind fun r138 => (f_X5_write x1 1 r123.1 r138).bind fun r149 => (f_X5_write x1 0 0 r149).bind fun r159 => (f_X8_lineFor r123.1 v_now).bind fun r169 => (f_X3_join r169 x1 v_lines.1 v_lines.2.1 v_lines.2.2.1 v_lines.2.2.2.1 v_lines.2.2.2.2).bind fun r173 => some ((r159, v_promises.2), r173, r61, v_lateCalls, r123.2) else (f_X5_write x1 0 2 r81).bind fun r108 => some ((r108, v_promises.2), v_lines, r61, v_lateCalls, v_passedOver)
def f_X8_callPromise (x1 : Int32) (v_promises : VX5) (v_lines : VX3) (v_diary : VX0) (v_now : Int32) (v_drift : Int32) (v_lateCalls : Int32) (v_passedOver : Int32) : Option (VX5 × VX3 × VX0 × Int32 × Int32) := (f_X5_fact x1 1 v_promises.1).bind fun r6 => zk_let (v_now - r6) fun x3_1 => if x3_1 ≤ 0 then f_X8_callPromise_51 x1 v_now v_drift r6 v_promises v_lines v_diary v_lateCalls v_passedOver else zk_let (v_lateCalls + 1) fun v_lateCalls_2 => (f_X5_fact x1 5 v_promises.1).bind fun r43 => (f_X5_write x1 5 (r43 + x3_1) v_promises.1).bind fun r48 => f_X8_callPromise_51 x1 v_now v_drift r6 (r48, v_promises.2) v_lines v_diary v_lateCalls_2 v_passedOver
theorem kX8_callPromise_inX8 : ∀ w ∈ u_ws RX8 TX8 13, w ∈ wsX8_callPromise := by decide +kernel
theorem kX8_callPromise_1 : Cond.fieldLink RX8 12 (TX8 0).1 (TX8 0).2.1 (TX8 0).2.2.1 ∈ wsX8_callPromise := by decide +kernel
theorem kX8_callPromise_2 : Cond.fieldLink RX8 49 (TX8 3).1 (TX8 3).2.1 (TX8 3).2.2.1 ∈ wsX8_callPromise := by decide +kernel
theorem kX8_callPromise_3 : Cond.fieldLink RX8 58 (TX8 8).1 (TX8 8).2.1 (TX8 8).2.2.1 ∈ wsX8_callPromise := by decide +kernel
theorem kX8_callPromise_4 : Cond.fieldLink RX8 28 (TX8 2).1 (TX8 2).2.1 (TX8 2).2.2.1 ∈ wsX8_callPromise := by decide +kernel
theorem kX8_callPromise_5 : Cond.fieldLink RX8 21 (TX8 1).1 (TX8 1).2.1 (TX8 1).2.2.1 ∈ wsX8_callPromise := by decide +kernel
theorem cd_X8_callPromise : yX8_callPromise.cls = RX8 ∧ yX8_callPromise.cls ≠ "java/lang/invoke/MethodHandle" ∧ yX8_callPromise.cls ≠ "java/lang/invoke/VarHandle" ∧ (parseMethodDescriptor yX8_callPromise.desc).map (fun d => d.parameters.length) = some 1 := by decide +kernel
set_option maxRecDepth 100000 in
set_option maxHeartbeats 4000000 in
theorem c_X8_callPromise (E : zk_Env) (l : Launch) (a : aX8) (v : VX8) (x1 : Int32) : zk_Mc E l yX8_callPromise wsX8_callPromise ({ frames := 2, cells := 0, slots := 0, locals := 46 } : Room) [.ref a.1, .int x1] (gX8 E a v) (f_X8_callPromise x1 v.1 v.2.1 v.2.2.1 v.2.2.2.1 v.2.2.2.2.2.2.1 v.2.2.2.2.2.2.2.2.1 v.2.2.2.2.2.2.2.2.2.2.2.1) (fun _ => none) (fun r => (gX8 E a (r.1, r.2.1, r.2.2.1, v.2.2.2.1, v.2.2.2.2.1, v.2.2.2.2.2.1, v.2.2.2.2.2.2.1, v.2.2.2.2.2.2.2.1, r.2.2.2.1, v.2.2.2.2.2.2.2.2.2.1, v.2.2.2.2.2.2.2.2.2.2.1, r.2.2.2.2, v.2.2.2.2.2.2.2.2.2.2.2.2))) := by
  obtain ⟨v_promises, v_lines, v_diary, v_now, v_room, v_bound, v_drift, v_brokenStanding, v_lateCalls, v_falls, v_swept, v_passedOver, v_longestQueue⟩ := v
  refine zk_M (cc := cX8_callPromise) (nL := 6) (ret := none) (by decide) rfl (Nat.le_of_ble_eq_true rfl) (fun X Q hQ => ?_)
  have J51 : ∀ (x2 : Int32) (v_promises : VX5) (v_lines : VX3) (v_diary : VX0) (v_lateCalls : Int32) (v_passedOver : Int32), zk_G E l X cX8_callPromise 6 none yX8_callPromise.cls wsX8_callPromise ({ frames := 2, cells := 0, slots := 0, locals := 46 } : Room) 0 0 Q (gX8 E a (v_promises, v_lines, v_diary, v_now, v_room, v_bound, v_drift, v_brokenStanding, v_lateCalls, v_falls, v_swept, v_passedOver, v_longestQueue)) [(0, .ref a.1), (1, .int x1), (2, .int x2)] 51 [] (f_X8_callPromise_51 x1 v_now v_drift x2 v_promises v_lines v_diary v_lateCalls v_passedOver) := by
    intro x2 v_promises v_lines v_diary v_lateCalls v_passedOver
    unfold f_X8_callPromise_51
    refine zk_aload_n dX8_callPromise_51 0 rfl 52 rfl ?_
    refine zk_get dX8_callPromise_52 0 rfl rfl kX8_callPromise_inX8 2 (by decide) kX8_callPromise_4 rfl 55 rfl ?_
    refine zk_iload_n dX8_callPromise_55 1 rfl 56 rfl ?_
    refine zk_iload_n dX8_callPromise_56 2 rfl 57 rfl ?_
    refine zk_aload_n dX8_callPromise_57 0 rfl 58 rfl ?_
    refine zk_get dX8_callPromise_58 0 rfl rfl kX8_callPromise_inX8 3 (by decide) kX8_callPromise_2 rfl 61 rfl ?_
    refine zk_callV (ci := 0) (st := []) (c_X0_write E l a.2.2.2 v_diary x1 x2 v_now) dX8_callPromise_61 3 gX8_callPromise_X0_write rfl rfl rfl cd_X0_write ⟨Nat.le_of_ble_eq_true rfl, Nat.le_of_ble_eq_true rfl⟩ ⟨Nat.zero_le _, Nat.zero_le _⟩ _ (fun r61 => (gX8 E a (v_promises, v_lines, r61, v_now, v_room, v_bound, v_drift, v_brokenStanding, v_lateCalls, v_falls, v_swept, v_passedOver, v_longestQueue))) (zk_pc zk_pa (zk_p1 (gs := (lX8 E a (v_promises, v_lines, v_diary, v_now, v_room, v_bound, v_drift, v_brokenStanding, v_lateCalls, v_falls, v_swept, v_passedOver, v_longestQueue))) (i := 3) rfl)) (fun r61 => (zk_qc zk_qa (zk_q1 (gs := (lX8 E a (v_promises, v_lines, v_diary, v_now, v_room, v_bound, v_drift, v_brokenStanding, v_lateCalls, v_falls, v_swept, v_passedOver, v_longestQueue))) (i := 3) (w1 := gX8 E a (v_promises, v_lines, r61, v_now, v_room, v_bound, v_drift, v_brokenStanding, v_lateCalls, v_falls, v_swept, v_passedOver, v_longestQueue)) rfl rfl))) rfl rfl rfl rfl (Nat.le_of_ble_eq_true rfl) (fun r61 => []) (fun _ => rfl) 64 rfl (fun r61 => ?_)
    refine zk_aload_n dX8_callPromise_64 0 rfl 65 rfl ?_
    refine zk_get dX8_callPromise_65 0 rfl rfl kX8_callPromise_inX8 0 (by decide) kX8_callPromise_1 rfl 68 rfl ?_
    refine zk_iload_n dX8_callPromise_68 1 rfl 69 rfl ?_
    refine zk_iconst 4 dX8_callPromise_69 (by decide) 70 rfl ?_
    refine zk_aload_n dX8_callPromise_70 0 rfl 71 rfl ?_
    refine zk_get dX8_callPromise_71 0 rfl rfl kX8_callPromise_inX8 0 (by decide) kX8_callPromise_1 rfl 74 rfl ?_
    refine zk_iload_n dX8_callPromise_74 1 rfl 75 rfl ?_
    refine zk_iconst 4 dX8_callPromise_75 (by decide) 76 rfl ?_
    refine zk_callV (ci := 5) (st := [.int 4, .int x1, .ref a.2.1.1]) (c_X5_fact E l a.2.1 v_promises x1 4) dX8_callPromise_76 2 gX8_callPromise_X5_fact rfl rfl rfl cd_X5_fact ⟨Nat.le_of_ble_eq_true rfl, Nat.le_of_ble_eq_true rfl⟩ ⟨Nat.zero_le _, Nat.zero_le _⟩ _ (fun r76 => (gX8 E a (v_promises, v_lines, r61, v_now, v_room, v_bound, v_drift, v_brokenStanding, v_lateCalls, v_falls, v_swept, v_passedOver, v_longestQueue))) (zk_pc zk_pa (zk_p1 (gs := (lX8 E a (v_promises, v_lines, r61, v_now, v_room, v_bound, v_drift, v_brokenStanding, v_lateCalls, v_falls, v_swept, v_passedOver, v_longestQueue))) (i := 1) rfl)) (fun r76 => (zk_qc zk_qa (zk_q1 (gs := (lX8 E a (v_promises, v_lines, r61, v_now, v_room, v_bound, v_drift, v_brokenStanding, v_lateCalls, v_falls, v_swept, v_passedOver, v_longestQueue))) (i := 1) (w1 := gX8 E a (v_promises, v_lines, r61, v_now, v_room, v_bound, v_drift, v_brokenStanding, v_lateCalls, v_falls, v_swept, v_passedOver, v_longestQueue)) rfl rfl))) rfl rfl rfl rfl (Nat.le_of_ble_eq_true rfl) (fun r76 => [.int r76, .int 4, .int x1, .ref a.2.1.1]) (fun _ => rfl) 79 rfl (fun r76 => ?_)
    refine zk_iconst 1 dX8_callPromise_79 (by decide) 80 rfl ?_
    refine zk_iadd dX8_callPromise_80 81 rfl ?_
    refine zk_callV (ci := 5) (st := []) (c_X5_write E l a.2.1 v_promises x1 4 (r76 + 1)) dX8_callPromise_81 3 gX8_callPromise_X5_write rfl rfl rfl cd_X5_write ⟨Nat.le_of_ble_eq_true rfl, Nat.le_of_ble_eq_true rfl⟩ ⟨Nat.zero_le _, Nat.zero_le _⟩ _ (fun r81 => (gX8 E a ((r81, v_promises.2), v_lines, r61, v_now, v_room, v_bound, v_drift, v_brokenStanding, v_lateCalls, v_falls, v_swept, v_passedOver, v_longestQueue))) (zk_pc zk_pa (zk_p1 (gs := (lX8 E a (v_promises, v_lines, r61, v_now, v_room, v_bound, v_drift, v_brokenStanding, v_lateCalls, v_falls, v_swept, v_passedOver, v_longestQueue))) (i := 1) rfl)) (fun r81 => (zk_qc zk_qa (zk_q1 (gs := (lX8 E a (v_promises, v_lines, r61, v_now, v_room, v_bound, v_drift, v_brokenStanding, v_lateCalls, v_falls, v_swept, v_passedOver, v_longestQueue))) (i := 1) (w1 := gX8 E a ((r81, v_promises.2), v_lines, r61, v_now, v_room, v_bound, v_drift, v_brokenStanding, v_lateCalls, v_falls, v_swept, v_passedOver, v_longestQueue)) rfl rfl))) rfl rfl rfl rfl (Nat.le_of_ble_eq_true rfl) (fun r81 => []) (fun _ => rfl) 84 rfl (fun r81 => ?_)
    refine zk_aload_n dX8_callPromise_84 0 rfl 85 rfl ?_
    refine zk_get dX8_callPromise_85 0 rfl rfl kX8_callPromise_inX8 0 (by decide) kX8_callPromise_1 rfl 88 rfl ?_
    refine zk_iload_n dX8_callPromise_88 1 rfl 89 rfl ?_
    refine zk_iconst 3 dX8_callPromise_89 (by decide) 90 rfl ?_
    refine zk_callV (ci := 5) (st := []) (c_X5_fact E l a.2.1 (r81, v_promises.2) x1 3) dX8_callPromise_90 2 gX8_callPromise_X5_fact rfl rfl rfl cd_X5_fact ⟨Nat.le_of_ble_eq_true rfl, Nat.le_of_ble_eq_true rfl⟩ ⟨Nat.zero_le _, Nat.zero_le _⟩ _ (fun r90 => (gX8 E a ((r81, v_promises.2), v_lines, r61, v_now, v_room, v_bound, v_drift, v_brokenStanding, v_lateCalls, v_falls, v_swept, v_passedOver, v_longestQueue))) (zk_pc zk_pa (zk_p1 (gs := (lX8 E a ((r81, v_promises.2), v_lines, r61, v_now, v_room, v_bound, v_drift, v_brokenStanding, v_lateCalls, v_falls, v_swept, v_passedOver, v_longestQueue))) (i := 1) rfl)) (fun r90 => (zk_qc zk_qa (zk_q1 (gs := (lX8 E a ((r81, v_promises.2), v_lines, r61, v_now, v_room, v_bound, v_drift, v_brokenStanding, v_lateCalls, v_falls, v_swept, v_passedOver, v_longestQueue))) (i := 1) (w1 := gX8 E a ((r81, v_promises.2), v_lines, r61, v_now, v_room, v_bound, v_drift, v_brokenStanding, v_lateCalls, v_falls, v_swept, v_passedOver, v_longestQueue)) rfl rfl))) rfl rfl rfl rfl (Nat.le_of_ble_eq_true rfl) (fun r90 => [.int r90]) (fun _ => rfl) 93 rfl (fun r90 => ?_)
    refine zk_istore [(4, .int r90), (0, .ref a.1), (1, .int x1), (2, .int x2)] dX8_callPromise_93 (by decide) rfl 95 rfl ?_
    refine zk_iload dX8_callPromise_95 0 rfl 97 rfl ?_
    refine zk_iconst 1 dX8_callPromise_97 (by decide) 98 rfl ?_
    refine zk_icmp_ge dX8_callPromise_98 112 (by decide) 101 rfl (fun _ => ?_) (fun _ => ?_)
    · refine zk_aload_n dX8_callPromise_112 1 rfl 113 rfl ?_
      refine zk_iload_n dX8_callPromise_113 3 rfl 114 rfl ?_
      refine zk_aload_n dX8_callPromise_114 1 rfl 115 rfl ?_
      refine zk_get dX8_callPromise_115 0 rfl rfl kX8_callPromise_inX8 0 (by decide) kX8_callPromise_1 rfl 118 rfl ?_
      refine zk_iload_n dX8_callPromise_118 2 rfl 119 rfl ?_
      refine zk_iconst 2 dX8_callPromise_119 (by decide) 120 rfl ?_
      refine zk_callV (ci := 5) (st := [.int x2, .ref a.1]) (c_X5_fact E l a.2.1 (r81, v_promises.2) x1 2) dX8_callPromise_120 2 gX8_callPromise_X5_fact rfl rfl rfl cd_X5_fact ⟨Nat.le_of_ble_eq_true rfl, Nat.le_of_ble_eq_true rfl⟩ ⟨Nat.zero_le _, Nat.zero_le _⟩ _ (fun r120 => (gX8 E a ((r81, v_promises.2), v_lines, r61, v_now, v_room, v_bound, v_drift, v_brokenStanding, v_lateCalls, v_falls, v_swept, v_passedOver, v_longestQueue))) (zk_pc zk_pa (zk_p1 (gs := (lX8 E a ((r81, v_promises.2), v_lines, r61, v_now, v_room, v_bound, v_drift, v_brokenStanding, v_lateCalls, v_falls, v_swept, v_passedOver, v_longestQueue))) (i := 1) rfl)) (fun r120 => (zk_qc zk_qa (zk_q1 (gs := (lX8 E a ((r81, v_promises.2), v_lines, r61, v_now, v_room, v_bound, v_drift, v_brokenStanding, v_lateCalls, v_falls, v_swept, v_passedOver, v_longestQueue))) (i := 1) (w1 := gX8 E a ((r81, v_promises.2), v_lines, r61, v_now, v_room, v_bound, v_drift, v_brokenStanding, v_lateCalls, v_falls, v_swept, v_passedOver, v_longestQueue)) rfl rfl))) rfl rfl rfl rfl (Nat.le_of_ble_eq_true rfl) (fun r120 => [.int r120, .int x2, .ref a.1]) (fun _ => rfl) 123 rfl (fun r120 => ?_)
      refine zk_callV (ci := 8) (st := []) (c_X8_dueOfRepetition E l a ((r81, v_promises.2), v_lines, r61, v_now, v_room, v_bound, v_drift, v_brokenStanding, v_lateCalls, v_falls, v_swept, v_passedOver, v_longestQueue) x2 r120) dX8_callPromise_123 2 gX8_callPromise_X8_dueOfRepetition rfl rfl rfl cd_X8_dueOfRepetition ⟨Nat.le_of_ble_eq_true rfl, Nat.le_of_ble_eq_true rfl⟩ ⟨Nat.zero_le _, Nat.zero_le _⟩ _ (fun r123 => (gX8 E a ((r81, v_promises.2), v_lines, r61, v_now, v_room, v_bound, v_drift, v_brokenStanding, v_lateCalls, v_falls, v_swept, r123.2, v_longestQueue))) zk_pa (fun r123 => zk_qa) rfl rfl rfl rfl (Nat.le_of_ble_eq_true rfl) (fun r123 => [.int r123.1]) (fun _ => rfl) 126 rfl (fun r123 => ?_)
      refine zk_istore [(5, .int r123.1), (4, .int r90), (0, .ref a.1), (1, .int x1), (2, .int x2)] dX8_callPromise_126 (by decide) rfl 128 rfl ?_
      refine zk_aload_n dX8_callPromise_128 2 rfl 129 rfl ?_
      refine zk_get dX8_callPromise_129 0 rfl rfl kX8_callPromise_inX8 0 (by decide) kX8_callPromise_1 rfl 132 rfl ?_
      refine zk_iload_n dX8_callPromise_132 3 rfl 133 rfl ?_
      refine zk_iconst 3 dX8_callPromise_133 (by decide) 134 rfl ?_
      refine zk_iload dX8_callPromise_134 1 rfl 136 rfl ?_
      refine zk_iconst 1 dX8_callPromise_136 (by decide) 137 rfl ?_
      refine zk_isub dX8_callPromise_137 138 rfl ?_
      refine zk_callV (ci := 5) (st := []) (c_X5_write E l a.2.1 (r81, v_promises.2) x1 3 (r90 - 1)) dX8_callPromise_138 3 gX8_callPromise_X5_write rfl rfl rfl cd_X5_write ⟨Nat.le_of_ble_eq_true rfl, Nat.le_of_ble_eq_true rfl⟩ ⟨Nat.zero_le _, Nat.zero_le _⟩ _ (fun r138 => (gX8 E a ((r138, v_promises.2), v_lines, r61, v_now, v_room, v_bound, v_drift, v_brokenStanding, v_lateCalls, v_falls, v_swept, r123.2, v_longestQueue))) (zk_pc zk_pa (zk_p1 (gs := (lX8 E a ((r81, v_promises.2), v_lines, r61, v_now, v_room, v_bound, v_drift, v_brokenStanding, v_lateCalls, v_falls, v_swept, r123.2, v_longestQueue))) (i := 1) rfl)) (fun r138 => (zk_qc zk_qa (zk_q1 (gs := (lX8 E a ((r81, v_promises.2), v_lines, r61, v_now, v_room, v_bound, v_drift, v_brokenStanding, v_lateCalls, v_falls, v_swept, r123.2, v_longestQueue))) (i := 1) (w1 := gX8 E a ((r138, v_promises.2), v_lines, r61, v_now, v_room, v_bound, v_drift, v_brokenStanding, v_lateCalls, v_falls, v_swept, r123.2, v_longestQueue)) rfl rfl))) rfl rfl rfl rfl (Nat.le_of_ble_eq_true rfl) (fun r138 => []) (fun _ => rfl) 141 rfl (fun r138 => ?_)
      refine zk_aload_n dX8_callPromise_141 2 rfl 142 rfl ?_
      refine zk_get dX8_callPromise_142 0 rfl rfl kX8_callPromise_inX8 0 (by decide) kX8_callPromise_1 rfl 145 rfl ?_
      refine zk_iload_n dX8_callPromise_145 3 rfl 146 rfl ?_
      refine zk_iconst 1 dX8_callPromise_146 (by decide) 147 rfl ?_
      refine zk_iload dX8_callPromise_147 0 rfl 149 rfl ?_
      refine zk_callV (ci := 5) (st := []) (c_X5_write E l a.2.1 (r138, v_promises.2) x1 1 r123.1) dX8_callPromise_149 3 gX8_callPromise_X5_write rfl rfl rfl cd_X5_write ⟨Nat.le_of_ble_eq_true rfl, Nat.le_of_ble_eq_true rfl⟩ ⟨Nat.zero_le _, Nat.zero_le _⟩ _ (fun r149 => (gX8 E a ((r149, v_promises.2), v_lines, r61, v_now, v_room, v_bound, v_drift, v_brokenStanding, v_lateCalls, v_falls, v_swept, r123.2, v_longestQueue))) (zk_pc zk_pa (zk_p1 (gs := (lX8 E a ((r138, v_promises.2), v_lines, r61, v_now, v_room, v_bound, v_drift, v_brokenStanding, v_lateCalls, v_falls, v_swept, r123.2, v_longestQueue))) (i := 1) rfl)) (fun r149 => (zk_qc zk_qa (zk_q1 (gs := (lX8 E a ((r138, v_promises.2), v_lines, r61, v_now, v_room, v_bound, v_drift, v_brokenStanding, v_lateCalls, v_falls, v_swept, r123.2, v_longestQueue))) (i := 1) (w1 := gX8 E a ((r149, v_promises.2), v_lines, r61, v_now, v_room, v_bound, v_drift, v_brokenStanding, v_lateCalls, v_falls, v_swept, r123.2, v_longestQueue)) rfl rfl))) rfl rfl rfl rfl (Nat.le_of_ble_eq_true rfl) (fun r149 => []) (fun _ => rfl) 152 rfl (fun r149 => ?_)
      refine zk_aload_n dX8_callPromise_152 2 rfl 153 rfl ?_
      refine zk_get dX8_callPromise_153 0 rfl rfl kX8_callPromise_inX8 0 (by decide) kX8_callPromise_1 rfl 156 rfl ?_
      refine zk_iload_n dX8_callPromise_156 3 rfl 157 rfl ?_
      refine zk_iconst 0 dX8_callPromise_157 (by decide) 158 rfl ?_
      refine zk_iconst 0 dX8_callPromise_158 (by decide) 159 rfl ?_
      refine zk_callV (ci := 5) (st := []) (c_X5_write E l a.2.1 (r149, v_promises.2) x1 0 0) dX8_callPromise_159 3 gX8_callPromise_X5_write rfl rfl rfl cd_X5_write ⟨Nat.le_of_ble_eq_true rfl, Nat.le_of_ble_eq_true rfl⟩ ⟨Nat.zero_le _, Nat.zero_le _⟩ _ (fun r159 => (gX8 E a ((r159, v_promises.2), v_lines, r61, v_now, v_room, v_bound, v_drift, v_brokenStanding, v_lateCalls, v_falls, v_swept, r123.2, v_longestQueue))) (zk_pc zk_pa (zk_p1 (gs := (lX8 E a ((r149, v_promises.2), v_lines, r61, v_now, v_room, v_bound, v_drift, v_brokenStanding, v_lateCalls, v_falls, v_swept, r123.2, v_longestQueue))) (i := 1) rfl)) (fun r159 => (zk_qc zk_qa (zk_q1 (gs := (lX8 E a ((r149, v_promises.2), v_lines, r61, v_now, v_room, v_bound, v_drift, v_brokenStanding, v_lateCalls, v_falls, v_swept, r123.2, v_longestQueue))) (i := 1) (w1 := gX8 E a ((r159, v_promises.2), v_lines, r61, v_now, v_room, v_bound, v_drift, v_brokenStanding, v_lateCalls, v_falls, v_swept, r123.2, v_longestQueue)) rfl rfl))) rfl rfl rfl rfl (Nat.le_of_ble_eq_true rfl) (fun r159 => []) (fun _ => rfl) 162 rfl (fun r159 => ?_)
      refine zk_aload_n dX8_callPromise_162 2 rfl 163 rfl ?_
      refine zk_get dX8_callPromise_163 0 rfl rfl kX8_callPromise_inX8 1 (by decide) kX8_callPromise_5 rfl 166 rfl ?_
      refine zk_aload_n dX8_callPromise_166 2 rfl 167 rfl ?_
      refine zk_iload dX8_callPromise_167 0 rfl 169 rfl ?_
      refine zk_callV (ci := 8) (st := [.ref a.2.2.1.1]) (c_X8_lineFor E l a ((r159, v_promises.2), v_lines, r61, v_now, v_room, v_bound, v_drift, v_brokenStanding, v_lateCalls, v_falls, v_swept, r123.2, v_longestQueue) r123.1) dX8_callPromise_169 1 gX8_callPromise_X8_lineFor rfl rfl rfl cd_X8_lineFor ⟨Nat.le_of_ble_eq_true rfl, Nat.le_of_ble_eq_true rfl⟩ ⟨Nat.zero_le _, Nat.zero_le _⟩ _ (fun r169 => (gX8 E a ((r159, v_promises.2), v_lines, r61, v_now, v_room, v_bound, v_drift, v_brokenStanding, v_lateCalls, v_falls, v_swept, r123.2, v_longestQueue))) zk_pa (fun r169 => zk_qa) rfl rfl rfl rfl (Nat.le_of_ble_eq_true rfl) (fun r169 => [.int r169, .ref a.2.2.1.1]) (fun _ => rfl) 172 rfl (fun r169 => ?_)
      refine zk_iload_n dX8_callPromise_172 3 rfl 173 rfl ?_
      refine zk_callV (ci := 3) (st := []) (c_X3_join E l a.2.2.1 v_lines r169 x1) dX8_callPromise_173 2 gX8_callPromise_X3_join rfl rfl rfl cd_X3_join ⟨Nat.le_of_ble_eq_true rfl, Nat.le_of_ble_eq_true rfl⟩ ⟨Nat.zero_le _, Nat.zero_le _⟩ _ (fun r173 => (gX8 E a ((r159, v_promises.2), r173, r61, v_now, v_room, v_bound, v_drift, v_brokenStanding, v_lateCalls, v_falls, v_swept, r123.2, v_longestQueue))) (zk_pc zk_pa (zk_p1 (gs := (lX8 E a ((r159, v_promises.2), v_lines, r61, v_now, v_room, v_bound, v_drift, v_brokenStanding, v_lateCalls, v_falls, v_swept, r123.2, v_longestQueue))) (i := 2) rfl)) (fun r173 => (zk_qc zk_qa (zk_q1 (gs := (lX8 E a ((r159, v_promises.2), v_lines, r61, v_now, v_room, v_bound, v_drift, v_brokenStanding, v_lateCalls, v_falls, v_swept, r123.2, v_longestQueue))) (i := 2) (w1 := gX8 E a ((r159, v_promises.2), r173, r61, v_now, v_room, v_bound, v_drift, v_brokenStanding, v_lateCalls, v_falls, v_swept, r123.2, v_longestQueue)) rfl rfl))) rfl rfl rfl rfl (Nat.le_of_ble_eq_true rfl) (fun r173 => []) (fun _ => rfl) 176 rfl (fun r173 => ?_)
      exact zk_vret hQ dX8_callPromise_176 rfl rfl
    · refine zk_aload_n dX8_callPromise_101 1 rfl 102 rfl ?_
      refine zk_get dX8_callPromise_102 0 rfl rfl kX8_callPromise_inX8 0 (by decide) kX8_callPromise_1 rfl 105 rfl ?_
      refine zk_iload_n dX8_callPromise_105 2 rfl 106 rfl ?_
      refine zk_iconst 0 dX8_callPromise_106 (by decide) 107 rfl ?_
      refine zk_iconst 2 dX8_callPromise_107 (by decide) 108 rfl ?_
      refine zk_callV (ci := 5) (st := []) (c_X5_write E l a.2.1 (r81, v_promises.2) x1 0 2) dX8_callPromise_108 3 gX8_callPromise_X5_write rfl rfl rfl cd_X5_write ⟨Nat.le_of_ble_eq_true rfl, Nat.le_of_ble_eq_true rfl⟩ ⟨Nat.zero_le _, Nat.zero_le _⟩ _ (fun r108 => (gX8 E a ((r108, v_promises.2), v_lines, r61, v_now, v_room, v_bound, v_drift, v_brokenStanding, v_lateCalls, v_falls, v_swept, v_passedOver, v_longestQueue))) (zk_pc zk_pa (zk_p1 (gs := (lX8 E a ((r81, v_promises.2), v_lines, r61, v_now, v_room, v_bound, v_drift, v_brokenStanding, v_lateCalls, v_falls, v_swept, v_passedOver, v_longestQueue))) (i := 1) rfl)) (fun r108 => (zk_qc zk_qa (zk_q1 (gs := (lX8 E a ((r81, v_promises.2), v_lines, r61, v_now, v_room, v_bound, v_drift, v_brokenStanding, v_lateCalls, v_falls, v_swept, v_passedOver, v_longestQueue))) (i := 1) (w1 := gX8 E a ((r108, v_promises.2), v_lines, r61, v_now, v_room, v_bound, v_drift, v_brokenStanding, v_lateCalls, v_falls, v_swept, v_passedOver, v_longestQueue)) rfl rfl))) rfl rfl rfl rfl (Nat.le_of_ble_eq_true rfl) (fun r108 => []) (fun _ => rfl) 111 rfl (fun r108 => ?_)
      exact zk_vret hQ dX8_callPromise_111 rfl rfl
  refine zk_eqv (w1 := (gX8 E a (v_promises, v_lines, v_diary, v_now, v_room, v_bound, v_drift, v_brokenStanding, v_lateCalls, v_falls, v_swept, v_passedOver, v_longestQueue))) (lv1 := [(0, .ref a.1), (1, .int x1)]) (st1 := []) (o1 := f_X8_callPromise x1 v_promises v_lines v_diary v_now v_drift v_lateCalls v_passedOver) rfl rfl rfl rfl ?_
  unfold f_X8_callPromise
  refine zk_aload_n dX8_callPromise_0 0 rfl 1 rfl ?_
  refine zk_get dX8_callPromise_1 0 rfl rfl kX8_callPromise_inX8 0 (by decide) kX8_callPromise_1 rfl 4 rfl ?_
  refine zk_iload_n dX8_callPromise_4 1 rfl 5 rfl ?_
  refine zk_iconst 1 dX8_callPromise_5 (by decide) 6 rfl ?_
  refine zk_callV (ci := 5) (st := []) (c_X5_fact E l a.2.1 v_promises x1 1) dX8_callPromise_6 2 gX8_callPromise_X5_fact rfl rfl rfl cd_X5_fact ⟨Nat.le_of_ble_eq_true rfl, Nat.le_of_ble_eq_true rfl⟩ ⟨Nat.zero_le _, Nat.zero_le _⟩ _ (fun r6 => (gX8 E a (v_promises, v_lines, v_diary, v_now, v_room, v_bound, v_drift, v_brokenStanding, v_lateCalls, v_falls, v_swept, v_passedOver, v_longestQueue))) (zk_pc zk_pa (zk_p1 (gs := (lX8 E a (v_promises, v_lines, v_diary, v_now, v_room, v_bound, v_drift, v_brokenStanding, v_lateCalls, v_falls, v_swept, v_passedOver, v_longestQueue))) (i := 1) rfl)) (fun r6 => (zk_qc zk_qa (zk_q1 (gs := (lX8 E a (v_promises, v_lines, v_diary, v_now, v_room, v_bound, v_drift, v_brokenStanding, v_lateCalls, v_falls, v_swept, v_passedOver, v_longestQueue))) (i := 1) (w1 := gX8 E a (v_promises, v_lines, v_diary, v_now, v_room, v_bound, v_drift, v_brokenStanding, v_lateCalls, v_falls, v_swept, v_passedOver, v_longestQueue)) rfl rfl))) rfl rfl rfl rfl (Nat.le_of_ble_eq_true rfl) (fun r6 => [.int r6]) (fun _ => rfl) 9 rfl (fun r6 => ?_)
  refine zk_istore_n [(2, .int r6), (0, .ref a.1), (1, .int x1)] dX8_callPromise_9 (by decide) rfl 10 rfl ?_
  refine zk_aload_n dX8_callPromise_10 1 rfl 11 rfl ?_
  refine zk_get dX8_callPromise_11 0 rfl rfl kX8_callPromise_inX8 3 (by decide) kX8_callPromise_2 rfl 14 rfl ?_
  refine zk_iload_n dX8_callPromise_14 0 rfl 15 rfl ?_
  refine zk_isub dX8_callPromise_15 16 rfl ?_
  refine zk_nm (fun x3_1 => ?_)
  refine zk_istore_n [(3, .int x3_1), (2, .int r6), (0, .ref a.1), (1, .int x1)] dX8_callPromise_16 (by decide) rfl 17 rfl ?_
  refine zk_iload_n dX8_callPromise_17 0 rfl 18 rfl ?_
  refine zk_if_le dX8_callPromise_18 51 (by decide) 21 rfl (fun _ => ?_) (fun _ => ?_)
  · refine zk_lv [2, 3, 1] rfl ?_
    exact J51   r6 v_promises v_lines v_diary v_lateCalls v_passedOver
  · refine zk_aload_n dX8_callPromise_21 2 rfl 22 rfl ?_
    refine zk_dup dX8_callPromise_22 rfl 23 rfl ?_
    refine zk_get dX8_callPromise_23 0 rfl rfl kX8_callPromise_inX8 8 (by decide) kX8_callPromise_3 rfl 26 rfl ?_
    refine zk_iconst 1 dX8_callPromise_26 (by decide) 27 rfl ?_
    refine zk_iadd dX8_callPromise_27 28 rfl ?_
    refine zk_nm (fun v_lateCalls_2 => ?_)
    refine zk_put_ tyX8 (gX8 E a (v_promises, v_lines, v_diary, v_now, v_room, v_bound, v_drift, v_brokenStanding, v_lateCalls_2, v_falls, v_swept, v_passedOver, v_longestQueue)) dX8_callPromise_28 0 rfl rfl kX8_callPromise_inX8 tyX8_ok nmX8 8 (by decide) kX8_callPromise_3 rfl (tyX8_ok 8 (by decide)) rfl rfl (Nat.le_of_ble_eq_true rfl) rfl 31 rfl ?_
    refine zk_aload_n dX8_callPromise_31 2 rfl 32 rfl ?_
    refine zk_get dX8_callPromise_32 0 rfl rfl kX8_callPromise_inX8 0 (by decide) kX8_callPromise_1 rfl 35 rfl ?_
    refine zk_iload_n dX8_callPromise_35 3 rfl 36 rfl ?_
    refine zk_iconst 5 dX8_callPromise_36 (by decide) 37 rfl ?_
    refine zk_aload_n dX8_callPromise_37 2 rfl 38 rfl ?_
    refine zk_get dX8_callPromise_38 0 rfl rfl kX8_callPromise_inX8 0 (by decide) kX8_callPromise_1 rfl 41 rfl ?_
    refine zk_iload_n dX8_callPromise_41 3 rfl 42 rfl ?_
    refine zk_iconst 5 dX8_callPromise_42 (by decide) 43 rfl ?_
    refine zk_callV (ci := 5) (st := [.int 5, .int x1, .ref a.2.1.1]) (c_X5_fact E l a.2.1 v_promises x1 5) dX8_callPromise_43 2 gX8_callPromise_X5_fact rfl rfl rfl cd_X5_fact ⟨Nat.le_of_ble_eq_true rfl, Nat.le_of_ble_eq_true rfl⟩ ⟨Nat.zero_le _, Nat.zero_le _⟩ _ (fun r43 => (gX8 E a (v_promises, v_lines, v_diary, v_now, v_room, v_bound, v_drift, v_brokenStanding, v_lateCalls_2, v_falls, v_swept, v_passedOver, v_longestQueue))) (zk_pc zk_pa (zk_p1 (gs := (lX8 E a (v_promises, v_lines, v_diary, v_now, v_room, v_bound, v_drift, v_brokenStanding, v_lateCalls_2, v_falls, v_swept, v_passedOver, v_longestQueue))) (i := 1) rfl)) (fun r43 => (zk_qc zk_qa (zk_q1 (gs := (lX8 E a (v_promises, v_lines, v_diary, v_now, v_room, v_bound, v_drift, v_brokenStanding, v_lateCalls_2, v_falls, v_swept, v_passedOver, v_longestQueue))) (i := 1) (w1 := gX8 E a (v_promises, v_lines, v_diary, v_now, v_room, v_bound, v_drift, v_brokenStanding, v_lateCalls_2, v_falls, v_swept, v_passedOver, v_longestQueue)) rfl rfl))) rfl rfl rfl rfl (Nat.le_of_ble_eq_true rfl) (fun r43 => [.int r43, .int 5, .int x1, .ref a.2.1.1]) (fun _ => rfl) 46 rfl (fun r43 => ?_)
    refine zk_iload_n dX8_callPromise_46 0 rfl 47 rfl ?_
    refine zk_iadd dX8_callPromise_47 48 rfl ?_
    refine zk_callV (ci := 5) (st := []) (c_X5_write E l a.2.1 v_promises x1 5 (r43 + x3_1)) dX8_callPromise_48 3 gX8_callPromise_X5_write rfl rfl rfl cd_X5_write ⟨Nat.le_of_ble_eq_true rfl, Nat.le_of_ble_eq_true rfl⟩ ⟨Nat.zero_le _, Nat.zero_le _⟩ _ (fun r48 => (gX8 E a ((r48, v_promises.2), v_lines, v_diary, v_now, v_room, v_bound, v_drift, v_brokenStanding, v_lateCalls_2, v_falls, v_swept, v_passedOver, v_longestQueue))) (zk_pc zk_pa (zk_p1 (gs := (lX8 E a (v_promises, v_lines, v_diary, v_now, v_room, v_bound, v_drift, v_brokenStanding, v_lateCalls_2, v_falls, v_swept, v_passedOver, v_longestQueue))) (i := 1) rfl)) (fun r48 => (zk_qc zk_qa (zk_q1 (gs := (lX8 E a (v_promises, v_lines, v_diary, v_now, v_room, v_bound, v_drift, v_brokenStanding, v_lateCalls_2, v_falls, v_swept, v_passedOver, v_longestQueue))) (i := 1) (w1 := gX8 E a ((r48, v_promises.2), v_lines, v_diary, v_now, v_room, v_bound, v_drift, v_brokenStanding, v_lateCalls_2, v_falls, v_swept, v_passedOver, v_longestQueue)) rfl rfl))) rfl rfl rfl rfl (Nat.le_of_ble_eq_true rfl) (fun r48 => []) (fun _ => rfl) 51 rfl (fun r48 => ?_)
    refine zk_lv [2, 3, 1] rfl ?_
    exact J51   r6 (r48, v_promises.2) v_lines v_diary v_lateCalls_2 v_passedOver
def F_X8_earliestByRings_4 (v_promises : VX5) (v_lines : VX3) (v_now : Int32) (k4 : Int32 × Int32 → Option (Int32)) : Int32 × Int32 → Option (Int32) := fun s => match s with
  | (x1, x2) => if 3 ≤ x2 then some x1 else (f_X8_earliestInRing x2 v_promises v_lines v_now).bind fun r16 => (f_X5_earlier x1 r16 v_promises.1).bind fun r19 => k4 (r19, (x2 + 1))
def f_X8_earliestByRings (v_promises : VX5) (v_lines : VX3) (v_now : Int32) : Option (Int32) := zk_fx (F_X8_earliestByRings_4 v_promises v_lines v_now ) zk_N ((-1), 0)
theorem kX8_earliestByRings_inX8 : ∀ w ∈ u_ws RX8 TX8 13, w ∈ wsX8_earliestByRings := by decide +kernel
theorem kX8_earliestByRings_1 : Cond.fieldLink RX8 12 (TX8 0).1 (TX8 0).2.1 (TX8 0).2.2.1 ∈ wsX8_earliestByRings := by decide +kernel
theorem cd_X8_earliestByRings : yX8_earliestByRings.cls = RX8 ∧ yX8_earliestByRings.cls ≠ "java/lang/invoke/MethodHandle" ∧ yX8_earliestByRings.cls ≠ "java/lang/invoke/VarHandle" ∧ (parseMethodDescriptor yX8_earliestByRings.desc).map (fun d => d.parameters.length) = some 0 := by decide +kernel
set_option maxRecDepth 100000 in
set_option maxHeartbeats 4000000 in
theorem c_X8_earliestByRings (E : zk_Env) (l : Launch) (a : aX8) (v : VX8)  : zk_Mc E l yX8_earliestByRings wsX8_earliestByRings ({ frames := 4, cells := 0, slots := 0, locals := 95 } : Room) [.ref a.1] (gX8 E a v) (f_X8_earliestByRings v.1 v.2.1 v.2.2.2.1) (fun r => some (.int r)) (fun r => (gX8 E a v)) := by
  obtain ⟨v_promises, v_lines, v_diary, v_now, v_room, v_bound, v_drift, v_brokenStanding, v_lateCalls, v_falls, v_swept, v_passedOver, v_longestQueue⟩ := v
  refine zk_M (cc := cX8_earliestByRings) (nL := 3) (ret := (some .int)) (by decide) rfl (Nat.le_of_ble_eq_true rfl) (fun X Q hQ => ?_)
  have J4 : ∀ (n : Nat) (x1 : Int32) (x2 : Int32), zk_G E l X cX8_earliestByRings 3 (some .int) yX8_earliestByRings.cls wsX8_earliestByRings ({ frames := 4, cells := 0, slots := 0, locals := 95 } : Room) 0 0 Q (gX8 E a (v_promises, v_lines, v_diary, v_now, v_room, v_bound, v_drift, v_brokenStanding, v_lateCalls, v_falls, v_swept, v_passedOver, v_longestQueue)) [(0, .ref a.1), (1, .int x1), (2, .int x2)] 4 [] (zk_fx (F_X8_earliestByRings_4 v_promises v_lines v_now ) n (x1, x2)) := by
    intro n x1 x2
    refine zk_loop (S := Int32 × Int32) (F := F_X8_earliestByRings_4 v_promises v_lines v_now) (wS := fun s => (gX8 E a (v_promises, v_lines, v_diary, v_now, v_room, v_bound, v_drift, v_brokenStanding, v_lateCalls, v_falls, v_swept, v_passedOver, v_longestQueue))) (lS := fun s => [(0, .ref a.1), (1, .int s.1), (2, .int s.2)]) (sS := fun _ => []) (fun k4 hk4 s => ?_) n (x1, x2)
    obtain ⟨x1, x2⟩ := s
    unfold F_X8_earliestByRings_4
    try dsimp only
    refine zk_iload_n dX8_earliestByRings_4 2 rfl 5 rfl ?_
    refine zk_iconst 3 dX8_earliestByRings_5 (by decide) 6 rfl ?_
    refine zk_icmp_ge dX8_earliestByRings_6 29 (by decide) 9 rfl (fun _ => ?_) (fun _ => ?_)
    · refine zk_iload_n dX8_earliestByRings_29 1 rfl 30 rfl ?_
      exact zk_iret hQ dX8_earliestByRings_30 rfl rfl
    · refine zk_aload_n dX8_earliestByRings_9 0 rfl 10 rfl ?_
      refine zk_get dX8_earliestByRings_10 0 rfl rfl kX8_earliestByRings_inX8 0 (by decide) kX8_earliestByRings_1 rfl 13 rfl ?_
      refine zk_iload_n dX8_earliestByRings_13 1 rfl 14 rfl ?_
      refine zk_aload_n dX8_earliestByRings_14 0 rfl 15 rfl ?_
      refine zk_iload_n dX8_earliestByRings_15 2 rfl 16 rfl ?_
      refine zk_callV (ci := 8) (st := [.int x1, .ref a.2.1.1]) (c_X8_earliestInRing E l a (v_promises, v_lines, v_diary, v_now, v_room, v_bound, v_drift, v_brokenStanding, v_lateCalls, v_falls, v_swept, v_passedOver, v_longestQueue) x2) dX8_earliestByRings_16 1 gX8_earliestByRings_X8_earliestInRing rfl rfl rfl cd_X8_earliestInRing ⟨Nat.le_of_ble_eq_true rfl, Nat.le_of_ble_eq_true rfl⟩ ⟨Nat.zero_le _, Nat.zero_le _⟩ _ (fun r16 => (gX8 E a (v_promises, v_lines, v_diary, v_now, v_room, v_bound, v_drift, v_brokenStanding, v_lateCalls, v_falls, v_swept, v_passedOver, v_longestQueue))) zk_pa (fun r16 => zk_qa) rfl rfl rfl rfl (Nat.le_of_ble_eq_true rfl) (fun r16 => [.int r16, .int x1, .ref a.2.1.1]) (fun _ => rfl) 19 rfl (fun r16 => ?_)
      refine zk_callV (ci := 5) (st := []) (c_X5_earlier E l a.2.1 v_promises x1 r16) dX8_earliestByRings_19 2 gX8_earliestByRings_X5_earlier rfl rfl rfl cd_X5_earlier ⟨Nat.le_of_ble_eq_true rfl, Nat.le_of_ble_eq_true rfl⟩ ⟨Nat.zero_le _, Nat.zero_le _⟩ _ (fun r19 => (gX8 E a (v_promises, v_lines, v_diary, v_now, v_room, v_bound, v_drift, v_brokenStanding, v_lateCalls, v_falls, v_swept, v_passedOver, v_longestQueue))) (zk_pc zk_pa (zk_p1 (gs := (lX8 E a (v_promises, v_lines, v_diary, v_now, v_room, v_bound, v_drift, v_brokenStanding, v_lateCalls, v_falls, v_swept, v_passedOver, v_longestQueue))) (i := 1) rfl)) (fun r19 => (zk_qc zk_qa (zk_q1 (gs := (lX8 E a (v_promises, v_lines, v_diary, v_now, v_room, v_bound, v_drift, v_brokenStanding, v_lateCalls, v_falls, v_swept, v_passedOver, v_longestQueue))) (i := 1) (w1 := gX8 E a (v_promises, v_lines, v_diary, v_now, v_room, v_bound, v_drift, v_brokenStanding, v_lateCalls, v_falls, v_swept, v_passedOver, v_longestQueue)) rfl rfl))) rfl rfl rfl rfl (Nat.le_of_ble_eq_true rfl) (fun r19 => [.int r19]) (fun _ => rfl) 22 rfl (fun r19 => ?_)
      refine zk_istore_n [(1, .int r19), (0, .ref a.1), (2, .int x2)] dX8_earliestByRings_22 (by decide) rfl 23 rfl ?_
      refine zk_iinc (x2 + 1) [(2, .int (x2 + 1)), (1, .int r19), (0, .ref a.1)] dX8_earliestByRings_23 2 rfl rfl (by decide) rfl 26 rfl ?_
      refine zk_goto dX8_earliestByRings_26 4 (by decide) ?_
      refine zk_lv [2, 1, 0] rfl ?_
      exact hk4 (r19, (x2 + 1))
  refine zk_eqv (w1 := (gX8 E a (v_promises, v_lines, v_diary, v_now, v_room, v_bound, v_drift, v_brokenStanding, v_lateCalls, v_falls, v_swept, v_passedOver, v_longestQueue))) (lv1 := [(0, .ref a.1)]) (st1 := []) (o1 := f_X8_earliestByRings v_promises v_lines v_now) rfl rfl rfl rfl ?_
  unfold f_X8_earliestByRings
  refine zk_iconst (-1) dX8_earliestByRings_0 (by decide) 1 rfl ?_
  refine zk_istore_n [(1, .int (-1)), (0, .ref a.1)] dX8_earliestByRings_1 (by decide) rfl 2 rfl ?_
  refine zk_iconst 0 dX8_earliestByRings_2 (by decide) 3 rfl ?_
  refine zk_istore_n [(2, .int 0), (1, .int (-1)), (0, .ref a.1)] dX8_earliestByRings_3 (by decide) rfl 4 rfl ?_
  refine zk_lv [2, 1, 0] rfl ?_
  exact J4    zk_N (-1) 0
def f_X8_serveQueue_78 (x1 : Int32) (k14 : Int32 × Int32 × VX5 × VX3 × VX0 × Int32 × Int32 × Int32 × Int32 → Option (VX5 × VX3 × VX0 × Int32 × Int32 × Int32 × Int32)) (x2 : Int32) (x3 : Int32) (v_promises : VX5) (v_lines : VX3) (v_diary : VX0) (v_brokenStanding : Int32) (v_lateCalls : Int32) (v_swept : Int32) (v_passedOver : Int32) : Option (VX5 × VX3 × VX0 × Int32 × Int32 × Int32 × Int32) := k14 (x2, (x3 + 1), v_promises, v_lines, v_diary, v_brokenStanding, v_lateCalls, v_swept, v_passedOver)
def F_X8_serveQueue_14 (v_now : Int32) (v_room : Int32) (v_drift : Int32) (x1 : Int32) (k14 : Int32 × Int32 × VX5 × VX3 × VX0 × Int32 × Int32 × Int32 × Int32 → Option (VX5 × VX3 × VX0 × Int32 × Int32 × Int32 × Int32)) : Int32 × Int32 × VX5 × VX3 × VX0 × Int32 × Int32 × Int32 × Int32 → Option (VX5 × VX3 × VX0 × Int32 × Int32 × Int32 × Int32) := fun s => match s with
  | (x2, x3, v_promises, v_lines, v_diary, v_brokenStanding, v_lateCalls, v_swept, v_passedOver) => if x1 ≤ x3 then some (v_promises, v_lines, v_diary, v_brokenStanding, v_lateCalls, v_swept, v_passedOver) else if v_room ≤ x2 then some (v_promises, v_lines, v_diary, v_brokenStanding, v_lateCalls, v_swept, v_passedOver) else (f_X3_frontOf 24 v_lines.1).bind fun r33 => (f_X3_leave r33 v_lines.1 v_lines.2.1 v_lines.2.2.1 v_lines.2.2.2.1 v_lines.2.2.2.2).bind fun r44 => (f_X5_isIn r33 3 v_promises.1).bind fun r54 => if r54 = 0 then (f_X8_callPromise r33 v_promises r44 v_diary v_now v_drift v_lateCalls v_passedOver).bind fun r72 => f_X8_serveQueue_78 x1 k14 (x2 + 1) x3 r72.1 r72.2.1 r72.2.2.1 v_brokenStanding r72.2.2.2.1 v_swept r72.2.2.2.2 else (f_X8_noteSwept r33 v_promises v_brokenStanding v_swept).bind fun r63 => f_X8_serveQueue_78 x1 k14 x2 x3 r63.1 r44 v_diary r63.2.1 v_lateCalls r63.2.2 v_passedOver
def f_X8_serveQueue (v_promises : VX5) (v_lines : VX3) (v_diary : VX0) (v_now : Int32) (v_room : Int32) (v_drift : Int32) (v_brokenStanding : Int32) (v_lateCalls : Int32) (v_swept : Int32) (v_passedOver : Int32) : Option (VX5 × VX3 × VX0 × Int32 × Int32 × Int32 × Int32) := (f_X3_lengthOf 24 v_lines.2.2.1).bind fun r6 => zk_fx (F_X8_serveQueue_14 v_now v_room v_drift r6 ) zk_N (0, 0, v_promises, v_lines, v_diary, v_brokenStanding, v_lateCalls, v_swept, v_passedOver)
theorem kX8_serveQueue_inX8 : ∀ w ∈ u_ws RX8 TX8 13, w ∈ wsX8_serveQueue := by decide +kernel
theorem kX8_serveQueue_1 : Cond.fieldLink RX8 21 (TX8 1).1 (TX8 1).2.1 (TX8 1).2.2.1 ∈ wsX8_serveQueue := by decide +kernel
theorem kX8_serveQueue_2 : Cond.fieldLink RX8 32 (TX8 4).1 (TX8 4).2.1 (TX8 4).2.2.1 ∈ wsX8_serveQueue := by decide +kernel
theorem kX8_serveQueue_3 : Cond.fieldLink RX8 12 (TX8 0).1 (TX8 0).2.1 (TX8 0).2.2.1 ∈ wsX8_serveQueue := by decide +kernel
theorem cd_X8_serveQueue : yX8_serveQueue.cls = RX8 ∧ yX8_serveQueue.cls ≠ "java/lang/invoke/MethodHandle" ∧ yX8_serveQueue.cls ≠ "java/lang/invoke/VarHandle" ∧ (parseMethodDescriptor yX8_serveQueue.desc).map (fun d => d.parameters.length) = some 0 := by decide +kernel
set_option maxRecDepth 100000 in
set_option maxHeartbeats 4000000 in
theorem c_X8_serveQueue (E : zk_Env) (l : Launch) (a : aX8) (v : VX8)  : zk_Mc E l yX8_serveQueue wsX8_serveQueue ({ frames := 3, cells := 0, slots := 0, locals := 71 } : Room) [.ref a.1] (gX8 E a v) (f_X8_serveQueue v.1 v.2.1 v.2.2.1 v.2.2.2.1 v.2.2.2.2.1 v.2.2.2.2.2.2.1 v.2.2.2.2.2.2.2.1 v.2.2.2.2.2.2.2.2.1 v.2.2.2.2.2.2.2.2.2.2.1 v.2.2.2.2.2.2.2.2.2.2.2.1) (fun _ => none) (fun r => (gX8 E a (r.1, r.2.1, r.2.2.1, v.2.2.2.1, v.2.2.2.2.1, v.2.2.2.2.2.1, v.2.2.2.2.2.2.1, r.2.2.2.1, r.2.2.2.2.1, v.2.2.2.2.2.2.2.2.2.1, r.2.2.2.2.2.1, r.2.2.2.2.2.2, v.2.2.2.2.2.2.2.2.2.2.2.2))) := by
  obtain ⟨v_promises, v_lines, v_diary, v_now, v_room, v_bound, v_drift, v_brokenStanding, v_lateCalls, v_falls, v_swept, v_passedOver, v_longestQueue⟩ := v
  refine zk_M (cc := cX8_serveQueue) (nL := 5) (ret := none) (by decide) rfl (Nat.le_of_ble_eq_true rfl) (fun X Q hQ => ?_)
  have J78 : ∀ (x1 : Int32) (k14 : Int32 × Int32 × VX5 × VX3 × VX0 × Int32 × Int32 × Int32 × Int32 → Option (VX5 × VX3 × VX0 × Int32 × Int32 × Int32 × Int32)) (hk14 : ∀ s : Int32 × Int32 × VX5 × VX3 × VX0 × Int32 × Int32 × Int32 × Int32, zk_G E l X cX8_serveQueue 5 none yX8_serveQueue.cls wsX8_serveQueue ({ frames := 3, cells := 0, slots := 0, locals := 71 } : Room) 0 0 Q (gX8 E a (s.2.2.1, s.2.2.2.1, s.2.2.2.2.1, v_now, v_room, v_bound, v_drift, s.2.2.2.2.2.1, s.2.2.2.2.2.2.1, v_falls, s.2.2.2.2.2.2.2.1, s.2.2.2.2.2.2.2.2, v_longestQueue)) [(0, .ref a.1), (1, .int x1), (2, .int s.1), (3, .int s.2.1)] 14 [] (k14 s)) (x2 : Int32) (x3 : Int32) (v_promises : VX5) (v_lines : VX3) (v_diary : VX0) (v_brokenStanding : Int32) (v_lateCalls : Int32) (v_swept : Int32) (v_passedOver : Int32), zk_G E l X cX8_serveQueue 5 none yX8_serveQueue.cls wsX8_serveQueue ({ frames := 3, cells := 0, slots := 0, locals := 71 } : Room) 0 0 Q (gX8 E a (v_promises, v_lines, v_diary, v_now, v_room, v_bound, v_drift, v_brokenStanding, v_lateCalls, v_falls, v_swept, v_passedOver, v_longestQueue)) [(0, .ref a.1), (1, .int x1), (2, .int x2), (3, .int x3)] 78 [] (f_X8_serveQueue_78 x1 k14 x2 x3 v_promises v_lines v_diary v_brokenStanding v_lateCalls v_swept v_passedOver) := by
    intro x1 k14 hk14 x2 x3 v_promises v_lines v_diary v_brokenStanding v_lateCalls v_swept v_passedOver
    unfold f_X8_serveQueue_78
    refine zk_iinc (x3 + 1) [(3, .int (x3 + 1)), (0, .ref a.1), (1, .int x1), (2, .int x2)] dX8_serveQueue_78 3 rfl rfl (by decide) rfl 81 rfl ?_
    refine zk_goto dX8_serveQueue_81 14 (by decide) ?_
    refine zk_lv [1, 2, 3, 0] rfl ?_
    exact hk14 (x2, (x3 + 1), v_promises, v_lines, v_diary, v_brokenStanding, v_lateCalls, v_swept, v_passedOver)
  have J14 : ∀ (x1 : Int32) (n : Nat) (x2 : Int32) (x3 : Int32) (v_promises : VX5) (v_lines : VX3) (v_diary : VX0) (v_brokenStanding : Int32) (v_lateCalls : Int32) (v_swept : Int32) (v_passedOver : Int32), zk_G E l X cX8_serveQueue 5 none yX8_serveQueue.cls wsX8_serveQueue ({ frames := 3, cells := 0, slots := 0, locals := 71 } : Room) 0 0 Q (gX8 E a (v_promises, v_lines, v_diary, v_now, v_room, v_bound, v_drift, v_brokenStanding, v_lateCalls, v_falls, v_swept, v_passedOver, v_longestQueue)) [(0, .ref a.1), (1, .int x1), (2, .int x2), (3, .int x3)] 14 [] (zk_fx (F_X8_serveQueue_14 v_now v_room v_drift x1 ) n (x2, x3, v_promises, v_lines, v_diary, v_brokenStanding, v_lateCalls, v_swept, v_passedOver)) := by
    intro x1 n x2 x3 v_promises v_lines v_diary v_brokenStanding v_lateCalls v_swept v_passedOver
    refine zk_loop (S := Int32 × Int32 × VX5 × VX3 × VX0 × Int32 × Int32 × Int32 × Int32) (F := F_X8_serveQueue_14 v_now v_room v_drift x1) (wS := fun s => (gX8 E a (s.2.2.1, s.2.2.2.1, s.2.2.2.2.1, v_now, v_room, v_bound, v_drift, s.2.2.2.2.2.1, s.2.2.2.2.2.2.1, v_falls, s.2.2.2.2.2.2.2.1, s.2.2.2.2.2.2.2.2, v_longestQueue))) (lS := fun s => [(0, .ref a.1), (1, .int x1), (2, .int s.1), (3, .int s.2.1)]) (sS := fun _ => []) (fun k14 hk14 s => ?_) n (x2, x3, v_promises, v_lines, v_diary, v_brokenStanding, v_lateCalls, v_swept, v_passedOver)
    obtain ⟨x2, x3, v_promises, v_lines, v_diary, v_brokenStanding, v_lateCalls, v_swept, v_passedOver⟩ := s
    unfold F_X8_serveQueue_14
    try dsimp only
    refine zk_iload_n dX8_serveQueue_14 3 rfl 15 rfl ?_
    refine zk_iload_n dX8_serveQueue_15 1 rfl 16 rfl ?_
    refine zk_icmp_ge dX8_serveQueue_16 84 (by decide) 19 rfl (fun _ => ?_) (fun _ => ?_)
    · exact zk_vret hQ dX8_serveQueue_84 rfl rfl
    · refine zk_iload_n dX8_serveQueue_19 2 rfl 20 rfl ?_
      refine zk_aload_n dX8_serveQueue_20 0 rfl 21 rfl ?_
      refine zk_get dX8_serveQueue_21 0 rfl rfl kX8_serveQueue_inX8 4 (by decide) kX8_serveQueue_2 rfl 24 rfl ?_
      refine zk_icmp_ge dX8_serveQueue_24 84 (by decide) 27 rfl (fun _ => ?_) (fun _ => ?_)
      · exact zk_vret hQ dX8_serveQueue_84 rfl rfl
      · refine zk_aload_n dX8_serveQueue_27 0 rfl 28 rfl ?_
        refine zk_get dX8_serveQueue_28 0 rfl rfl kX8_serveQueue_inX8 1 (by decide) kX8_serveQueue_1 rfl 31 rfl ?_
        refine zk_bipush 24 dX8_serveQueue_31 (by decide) 33 rfl ?_
        refine zk_callV (ci := 3) (st := []) (c_X3_frontOf E l a.2.2.1 v_lines 24) dX8_serveQueue_33 1 gX8_serveQueue_X3_frontOf rfl rfl rfl cd_X3_frontOf ⟨Nat.le_of_ble_eq_true rfl, Nat.le_of_ble_eq_true rfl⟩ ⟨Nat.zero_le _, Nat.zero_le _⟩ _ (fun r33 => (gX8 E a (v_promises, v_lines, v_diary, v_now, v_room, v_bound, v_drift, v_brokenStanding, v_lateCalls, v_falls, v_swept, v_passedOver, v_longestQueue))) (zk_pc zk_pa (zk_p1 (gs := (lX8 E a (v_promises, v_lines, v_diary, v_now, v_room, v_bound, v_drift, v_brokenStanding, v_lateCalls, v_falls, v_swept, v_passedOver, v_longestQueue))) (i := 2) rfl)) (fun r33 => (zk_qc zk_qa (zk_q1 (gs := (lX8 E a (v_promises, v_lines, v_diary, v_now, v_room, v_bound, v_drift, v_brokenStanding, v_lateCalls, v_falls, v_swept, v_passedOver, v_longestQueue))) (i := 2) (w1 := gX8 E a (v_promises, v_lines, v_diary, v_now, v_room, v_bound, v_drift, v_brokenStanding, v_lateCalls, v_falls, v_swept, v_passedOver, v_longestQueue)) rfl rfl))) rfl rfl rfl rfl (Nat.le_of_ble_eq_true rfl) (fun r33 => [.int r33]) (fun _ => rfl) 36 rfl (fun r33 => ?_)
        refine zk_istore [(4, .int r33), (0, .ref a.1), (1, .int x1), (2, .int x2), (3, .int x3)] dX8_serveQueue_36 (by decide) rfl 38 rfl ?_
        refine zk_aload_n dX8_serveQueue_38 1 rfl 39 rfl ?_
        refine zk_get dX8_serveQueue_39 0 rfl rfl kX8_serveQueue_inX8 1 (by decide) kX8_serveQueue_1 rfl 42 rfl ?_
        refine zk_iload dX8_serveQueue_42 0 rfl 44 rfl ?_
        refine zk_callV (ci := 3) (st := []) (c_X3_leave E l a.2.2.1 v_lines r33) dX8_serveQueue_44 1 gX8_serveQueue_X3_leave rfl rfl rfl cd_X3_leave ⟨Nat.le_of_ble_eq_true rfl, Nat.le_of_ble_eq_true rfl⟩ ⟨Nat.zero_le _, Nat.zero_le _⟩ _ (fun r44 => (gX8 E a (v_promises, r44, v_diary, v_now, v_room, v_bound, v_drift, v_brokenStanding, v_lateCalls, v_falls, v_swept, v_passedOver, v_longestQueue))) (zk_pc zk_pa (zk_p1 (gs := (lX8 E a (v_promises, v_lines, v_diary, v_now, v_room, v_bound, v_drift, v_brokenStanding, v_lateCalls, v_falls, v_swept, v_passedOver, v_longestQueue))) (i := 2) rfl)) (fun r44 => (zk_qc zk_qa (zk_q1 (gs := (lX8 E a (v_promises, v_lines, v_diary, v_now, v_room, v_bound, v_drift, v_brokenStanding, v_lateCalls, v_falls, v_swept, v_passedOver, v_longestQueue))) (i := 2) (w1 := gX8 E a (v_promises, r44, v_diary, v_now, v_room, v_bound, v_drift, v_brokenStanding, v_lateCalls, v_falls, v_swept, v_passedOver, v_longestQueue)) rfl rfl))) rfl rfl rfl rfl (Nat.le_of_ble_eq_true rfl) (fun r44 => []) (fun _ => rfl) 47 rfl (fun r44 => ?_)
        refine zk_aload_n dX8_serveQueue_47 1 rfl 48 rfl ?_
        refine zk_get dX8_serveQueue_48 0 rfl rfl kX8_serveQueue_inX8 0 (by decide) kX8_serveQueue_3 rfl 51 rfl ?_
        refine zk_iload dX8_serveQueue_51 0 rfl 53 rfl ?_
        refine zk_iconst 3 dX8_serveQueue_53 (by decide) 54 rfl ?_
        refine zk_callV (ci := 5) (st := []) (c_X5_isIn E l a.2.1 v_promises r33 3) dX8_serveQueue_54 2 gX8_serveQueue_X5_isIn rfl rfl rfl cd_X5_isIn ⟨Nat.le_of_ble_eq_true rfl, Nat.le_of_ble_eq_true rfl⟩ ⟨Nat.zero_le _, Nat.zero_le _⟩ _ (fun r54 => (gX8 E a (v_promises, r44, v_diary, v_now, v_room, v_bound, v_drift, v_brokenStanding, v_lateCalls, v_falls, v_swept, v_passedOver, v_longestQueue))) (zk_pc zk_pa (zk_p1 (gs := (lX8 E a (v_promises, r44, v_diary, v_now, v_room, v_bound, v_drift, v_brokenStanding, v_lateCalls, v_falls, v_swept, v_passedOver, v_longestQueue))) (i := 1) rfl)) (fun r54 => (zk_qc zk_qa (zk_q1 (gs := (lX8 E a (v_promises, r44, v_diary, v_now, v_room, v_bound, v_drift, v_brokenStanding, v_lateCalls, v_falls, v_swept, v_passedOver, v_longestQueue))) (i := 1) (w1 := gX8 E a (v_promises, r44, v_diary, v_now, v_room, v_bound, v_drift, v_brokenStanding, v_lateCalls, v_falls, v_swept, v_passedOver, v_longestQueue)) rfl rfl))) rfl rfl rfl rfl (Nat.le_of_ble_eq_true rfl) (fun r54 => [.int r54]) (fun _ => rfl) 57 rfl (fun r54 => ?_)
        refine zk_if_eq dX8_serveQueue_57 69 (by decide) 60 rfl (fun _ => ?_) (fun _ => ?_)
        · refine zk_aload_n dX8_serveQueue_69 1 rfl 70 rfl ?_
          refine zk_iload dX8_serveQueue_70 0 rfl 72 rfl ?_
          refine zk_callV (ci := 8) (st := []) (c_X8_callPromise E l a (v_promises, r44, v_diary, v_now, v_room, v_bound, v_drift, v_brokenStanding, v_lateCalls, v_falls, v_swept, v_passedOver, v_longestQueue) r33) dX8_serveQueue_72 1 gX8_serveQueue_X8_callPromise rfl rfl rfl cd_X8_callPromise ⟨Nat.le_of_ble_eq_true rfl, Nat.le_of_ble_eq_true rfl⟩ ⟨Nat.zero_le _, Nat.zero_le _⟩ _ (fun r72 => (gX8 E a (r72.1, r72.2.1, r72.2.2.1, v_now, v_room, v_bound, v_drift, v_brokenStanding, r72.2.2.2.1, v_falls, v_swept, r72.2.2.2.2, v_longestQueue))) zk_pa (fun r72 => zk_qa) rfl rfl rfl rfl (Nat.le_of_ble_eq_true rfl) (fun r72 => []) (fun _ => rfl) 75 rfl (fun r72 => ?_)
          refine zk_iinc (x2 + 1) [(2, .int (x2 + 1)), (4, .int r33), (0, .ref a.1), (1, .int x1), (3, .int x3)] dX8_serveQueue_75 3 rfl rfl (by decide) rfl 78 rfl ?_
          refine zk_lv [2, 3, 0, 4] rfl ?_
          exact J78 x1 k14 hk14 (x2 + 1) x3 r72.1 r72.2.1 r72.2.2.1 v_brokenStanding r72.2.2.2.1 v_swept r72.2.2.2.2
        · refine zk_aload_n dX8_serveQueue_60 1 rfl 61 rfl ?_
          refine zk_iload dX8_serveQueue_61 0 rfl 63 rfl ?_
          refine zk_callV (ci := 8) (st := []) (c_X8_noteSwept E l a (v_promises, r44, v_diary, v_now, v_room, v_bound, v_drift, v_brokenStanding, v_lateCalls, v_falls, v_swept, v_passedOver, v_longestQueue) r33) dX8_serveQueue_63 1 gX8_serveQueue_X8_noteSwept rfl rfl rfl cd_X8_noteSwept ⟨Nat.le_of_ble_eq_true rfl, Nat.le_of_ble_eq_true rfl⟩ ⟨Nat.zero_le _, Nat.zero_le _⟩ _ (fun r63 => (gX8 E a (r63.1, r44, v_diary, v_now, v_room, v_bound, v_drift, r63.2.1, v_lateCalls, v_falls, r63.2.2, v_passedOver, v_longestQueue))) zk_pa (fun r63 => zk_qa) rfl rfl rfl rfl (Nat.le_of_ble_eq_true rfl) (fun r63 => []) (fun _ => rfl) 66 rfl (fun r63 => ?_)
          refine zk_goto dX8_serveQueue_66 78 (by decide) ?_
          refine zk_lv [1, 2, 3, 4] rfl ?_
          exact J78 x1 k14 hk14 x2 x3 r63.1 r44 v_diary r63.2.1 v_lateCalls r63.2.2 v_passedOver
  refine zk_eqv (w1 := (gX8 E a (v_promises, v_lines, v_diary, v_now, v_room, v_bound, v_drift, v_brokenStanding, v_lateCalls, v_falls, v_swept, v_passedOver, v_longestQueue))) (lv1 := [(0, .ref a.1)]) (st1 := []) (o1 := f_X8_serveQueue v_promises v_lines v_diary v_now v_room v_drift v_brokenStanding v_lateCalls v_swept v_passedOver) rfl rfl rfl rfl ?_
  unfold f_X8_serveQueue
  refine zk_aload_n dX8_serveQueue_0 0 rfl 1 rfl ?_
  refine zk_get dX8_serveQueue_1 0 rfl rfl kX8_serveQueue_inX8 1 (by decide) kX8_serveQueue_1 rfl 4 rfl ?_
  refine zk_bipush 24 dX8_serveQueue_4 (by decide) 6 rfl ?_
  refine zk_callV (ci := 3) (st := []) (c_X3_lengthOf E l a.2.2.1 v_lines 24) dX8_serveQueue_6 1 gX8_serveQueue_X3_lengthOf rfl rfl rfl cd_X3_lengthOf ⟨Nat.le_of_ble_eq_true rfl, Nat.le_of_ble_eq_true rfl⟩ ⟨Nat.zero_le _, Nat.zero_le _⟩ _ (fun r6 => (gX8 E a (v_promises, v_lines, v_diary, v_now, v_room, v_bound, v_drift, v_brokenStanding, v_lateCalls, v_falls, v_swept, v_passedOver, v_longestQueue))) (zk_pc zk_pa (zk_p1 (gs := (lX8 E a (v_promises, v_lines, v_diary, v_now, v_room, v_bound, v_drift, v_brokenStanding, v_lateCalls, v_falls, v_swept, v_passedOver, v_longestQueue))) (i := 2) rfl)) (fun r6 => (zk_qc zk_qa (zk_q1 (gs := (lX8 E a (v_promises, v_lines, v_diary, v_now, v_room, v_bound, v_drift, v_brokenStanding, v_lateCalls, v_falls, v_swept, v_passedOver, v_longestQueue))) (i := 2) (w1 := gX8 E a (v_promises, v_lines, v_diary, v_now, v_room, v_bound, v_drift, v_brokenStanding, v_lateCalls, v_falls, v_swept, v_passedOver, v_longestQueue)) rfl rfl))) rfl rfl rfl rfl (Nat.le_of_ble_eq_true rfl) (fun r6 => [.int r6]) (fun _ => rfl) 9 rfl (fun r6 => ?_)
  refine zk_istore_n [(1, .int r6), (0, .ref a.1)] dX8_serveQueue_9 (by decide) rfl 10 rfl ?_
  refine zk_iconst 0 dX8_serveQueue_10 (by decide) 11 rfl ?_
  refine zk_istore_n [(2, .int 0), (1, .int r6), (0, .ref a.1)] dX8_serveQueue_11 (by decide) rfl 12 rfl ?_
  refine zk_iconst 0 dX8_serveQueue_12 (by decide) 13 rfl ?_
  refine zk_istore_n [(3, .int 0), (2, .int 0), (1, .int r6), (0, .ref a.1)] dX8_serveQueue_13 (by decide) rfl 14 rfl ?_
  refine zk_lv [3, 2, 1, 0] rfl ?_
  exact J14   r6 zk_N 0 0 v_promises v_lines v_diary v_brokenStanding v_lateCalls v_swept v_passedOver
def f_X8_passTick_64 (v_promises : VX5) (v_lines : VX3) (v_diary : VX0) (v_now : Int32) (v_brokenStanding : Int32) (v_lateCalls : Int32) (v_falls : Int32) (v_swept : Int32) (v_passedOver : Int32) (v_longestQueue : Int32) : Option (VX5 × VX3 × VX0 × Int32 × Int32 × Int32 × Int32 × Int32 × Int32 × Int32) := (f_X3_lengthOf 24 v_lines.2.2.1).bind fun r75 => zk_let (if v_longestQueue < r75 then r75 else v_longestQueue) fun v_longestQueue_2 => some (v_promises, v_lines, v_diary, v_now, v_brokenStanding, v_lateCalls, v_falls, v_swept, v_passedOver, v_longestQueue_2)
def f_X8_passTick_40 (v_room : Int32) (v_bound : Int32) (v_drift : Int32) (v_promises : VX5) (v_lines : VX3) (v_diary : VX0) (v_now : Int32) (v_brokenStanding : Int32) (v_lateCalls : Int32) (v_falls : Int32) (v_swept : Int32) (v_passedOver : Int32) (v_longestQueue : Int32) : Option (VX5 × VX3 × VX0 × Int32 × Int32 × Int32 × Int32 × Int32 × Int32 × Int32) := (f_X8_letArrive v_promises v_lines v_now v_brokenStanding v_swept).bind fun r41 => (f_X8_serveQueue r41.1 r41.2.1 v_diary v_now v_room v_drift r41.2.2.1 v_lateCalls r41.2.2.2 v_passedOver).bind fun r45 => if r45.2.2.2.1 ≤ v_bound then f_X8_passTick_64 r45.1 r45.2.1 r45.2.2.1 v_now r45.2.2.2.1 r45.2.2.2.2.1 v_falls r45.2.2.2.2.2.1 r45.2.2.2.2.2.2 v_longestQueue else (f_X8_sweepAll r45.1 r45.2.1 r45.2.2.2.1 r45.2.2.2.2.2.1).bind fun r60 => f_X8_passTick_64 r60.2.1 r60.2.2.1 r45.2.2.1 v_now r60.2.2.2.1 r45.2.2.2.2.1 v_falls r60.2.2.2.2 r45.2.2.2.2.2.2 v_longestQueue
def f_X8_passTick_25 (v_room : Int32) (v_bound : Int32) (v_drift : Int32) (v_promises : VX5) (v_lines : VX3) (v_diary : VX0) (v_now : Int32) (v_brokenStanding : Int32) (v_lateCalls : Int32) (v_falls : Int32) (v_swept : Int32) (v_passedOver : Int32) (v_longestQueue : Int32) : Option (VX5 × VX3 × VX0 × Int32 × Int32 × Int32 × Int32 × Int32 × Int32 × Int32) := if (zk_rem v_now 8) = 0 then (f_X8_letFall 1 v_promises v_lines v_now v_brokenStanding v_falls v_swept).bind fun r37 => f_X8_passTick_40 v_room v_bound v_drift r37.1 r37.2.1 v_diary v_now r37.2.2.1 v_lateCalls r37.2.2.2.1 r37.2.2.2.2 v_passedOver v_longestQueue else f_X8_passTick_40 v_room v_bound v_drift v_promises v_lines v_diary v_now v_brokenStanding v_lateCalls v_falls v_swept v_passedOver v_longestQueue
def f_X8_passTick (v_promises : VX5) (v_lines : VX3) (v_diary : VX0) (v_now : Int32) (v_room : Int32) (v_bound : Int32) (v_drift : Int32) (v_brokenStanding : Int32) (v_lateCalls : Int32) (v_falls : Int32) (v_swept : Int32) (v_passedOver : Int32) (v_longestQueue : Int32) : Option (VX5 × VX3 × VX0 × Int32 × Int32 × Int32 × Int32 × Int32 × Int32 × Int32) := zk_let (v_now + 1) fun v_now_1 => if (zk_rem v_now_1 64) = 0 then (f_X8_letFall 2 v_promises v_lines v_now_1 v_brokenStanding v_falls v_swept).bind fun r22 => f_X8_passTick_25 v_room v_bound v_drift r22.1 r22.2.1 v_diary v_now_1 r22.2.2.1 v_lateCalls r22.2.2.2.1 r22.2.2.2.2 v_passedOver v_longestQueue else f_X8_passTick_25 v_room v_bound v_drift v_promises v_lines v_diary v_now_1 v_brokenStanding v_lateCalls v_falls v_swept v_passedOver v_longestQueue
theorem kX8_passTick_inX8 : ∀ w ∈ u_ws RX8 TX8 13, w ∈ wsX8_passTick := by decide +kernel
theorem kX8_passTick_1 : Cond.fieldLink RX8 49 (TX8 3).1 (TX8 3).2.1 (TX8 3).2.2.1 ∈ wsX8_passTick := by decide +kernel
theorem kX8_passTick_2 : Cond.fieldLink RX8 55 (TX8 7).1 (TX8 7).2.1 (TX8 7).2.2.1 ∈ wsX8_passTick := by decide +kernel
theorem kX8_passTick_3 : Cond.fieldLink RX8 36 (TX8 5).1 (TX8 5).2.1 (TX8 5).2.2.1 ∈ wsX8_passTick := by decide +kernel
theorem kX8_passTick_4 : Cond.fieldLink RX8 70 (TX8 12).1 (TX8 12).2.1 (TX8 12).2.2.1 ∈ wsX8_passTick := by decide +kernel
theorem kX8_passTick_5 : Cond.fieldLink RX8 21 (TX8 1).1 (TX8 1).2.1 (TX8 1).2.2.1 ∈ wsX8_passTick := by decide +kernel
theorem kX8_passTick_6 : Cond.methodLink RX8 139 Lib.Math.max.name ∈ wsX8_passTick := by decide +kernel
theorem kX8_passTick_7 : Cond.static Lib.Math.max.name ∈ wsX8_passTick := by decide +kernel
theorem kX8_passTick_8 : Cond.initialized "java/lang/Math" ∈ wsX8_passTick := by decide +kernel
theorem kX8_passTick_9 : Cond.code Lib.Math.max.name Lib.Math.max.code 2 (some .int) ∈ wsX8_passTick := by decide +kernel
theorem cd_X8_passTick : yX8_passTick.cls = RX8 ∧ yX8_passTick.cls ≠ "java/lang/invoke/MethodHandle" ∧ yX8_passTick.cls ≠ "java/lang/invoke/VarHandle" ∧ (parseMethodDescriptor yX8_passTick.desc).map (fun d => d.parameters.length) = some 0 := by decide +kernel
set_option maxRecDepth 100000 in
set_option maxHeartbeats 4000000 in
theorem c_X8_passTick (E : zk_Env) (l : Launch) (a : aX8) (v : VX8)  : zk_Mc E l yX8_passTick wsX8_passTick ({ frames := 4, cells := 0, slots := 0, locals := 95 } : Room) [.ref a.1] (gX8 E a v) (f_X8_passTick v.1 v.2.1 v.2.2.1 v.2.2.2.1 v.2.2.2.2.1 v.2.2.2.2.2.1 v.2.2.2.2.2.2.1 v.2.2.2.2.2.2.2.1 v.2.2.2.2.2.2.2.2.1 v.2.2.2.2.2.2.2.2.2.1 v.2.2.2.2.2.2.2.2.2.2.1 v.2.2.2.2.2.2.2.2.2.2.2.1 v.2.2.2.2.2.2.2.2.2.2.2.2) (fun _ => none) (fun r => (gX8 E a (r.1, r.2.1, r.2.2.1, r.2.2.2.1, v.2.2.2.2.1, v.2.2.2.2.2.1, v.2.2.2.2.2.2.1, r.2.2.2.2.1, r.2.2.2.2.2.1, r.2.2.2.2.2.2.1, r.2.2.2.2.2.2.2.1, r.2.2.2.2.2.2.2.2.1, r.2.2.2.2.2.2.2.2.2))) := by
  obtain ⟨v_promises, v_lines, v_diary, v_now, v_room, v_bound, v_drift, v_brokenStanding, v_lateCalls, v_falls, v_swept, v_passedOver, v_longestQueue⟩ := v
  refine zk_M (cc := cX8_passTick) (nL := 1) (ret := none) (by decide) rfl (Nat.le_of_ble_eq_true rfl) (fun X Q hQ => ?_)
  have J64 : ∀ (v_promises : VX5) (v_lines : VX3) (v_diary : VX0) (v_now : Int32) (v_brokenStanding : Int32) (v_lateCalls : Int32) (v_falls : Int32) (v_swept : Int32) (v_passedOver : Int32) (v_longestQueue : Int32), zk_G E l X cX8_passTick 1 none yX8_passTick.cls wsX8_passTick ({ frames := 4, cells := 0, slots := 0, locals := 95 } : Room) 0 0 Q (gX8 E a (v_promises, v_lines, v_diary, v_now, v_room, v_bound, v_drift, v_brokenStanding, v_lateCalls, v_falls, v_swept, v_passedOver, v_longestQueue)) [(0, .ref a.1)] 64 [] (f_X8_passTick_64 v_promises v_lines v_diary v_now v_brokenStanding v_lateCalls v_falls v_swept v_passedOver v_longestQueue) := by
    intro v_promises v_lines v_diary v_now v_brokenStanding v_lateCalls v_falls v_swept v_passedOver v_longestQueue
    unfold f_X8_passTick_64
    refine zk_aload_n dX8_passTick_64 0 rfl 65 rfl ?_
    refine zk_aload_n dX8_passTick_65 0 rfl 66 rfl ?_
    refine zk_get dX8_passTick_66 0 rfl rfl kX8_passTick_inX8 12 (by decide) kX8_passTick_4 rfl 69 rfl ?_
    refine zk_aload_n dX8_passTick_69 0 rfl 70 rfl ?_
    refine zk_get dX8_passTick_70 0 rfl rfl kX8_passTick_inX8 1 (by decide) kX8_passTick_5 rfl 73 rfl ?_
    refine zk_bipush 24 dX8_passTick_73 (by decide) 75 rfl ?_
    refine zk_callV (ci := 3) (st := [.int v_longestQueue, .ref a.1]) (c_X3_lengthOf E l a.2.2.1 v_lines 24) dX8_passTick_75 1 gX8_passTick_X3_lengthOf rfl rfl rfl cd_X3_lengthOf ⟨Nat.le_of_ble_eq_true rfl, Nat.le_of_ble_eq_true rfl⟩ ⟨Nat.zero_le _, Nat.zero_le _⟩ _ (fun r75 => (gX8 E a (v_promises, v_lines, v_diary, v_now, v_room, v_bound, v_drift, v_brokenStanding, v_lateCalls, v_falls, v_swept, v_passedOver, v_longestQueue))) (zk_pc zk_pa (zk_p1 (gs := (lX8 E a (v_promises, v_lines, v_diary, v_now, v_room, v_bound, v_drift, v_brokenStanding, v_lateCalls, v_falls, v_swept, v_passedOver, v_longestQueue))) (i := 2) rfl)) (fun r75 => (zk_qc zk_qa (zk_q1 (gs := (lX8 E a (v_promises, v_lines, v_diary, v_now, v_room, v_bound, v_drift, v_brokenStanding, v_lateCalls, v_falls, v_swept, v_passedOver, v_longestQueue))) (i := 2) (w1 := gX8 E a (v_promises, v_lines, v_diary, v_now, v_room, v_bound, v_drift, v_brokenStanding, v_lateCalls, v_falls, v_swept, v_passedOver, v_longestQueue)) rfl rfl))) rfl rfl rfl rfl (Nat.le_of_ble_eq_true rfl) (fun r75 => [.int r75, .int v_longestQueue, .ref a.1]) (fun _ => rfl) 78 rfl (fun r75 => ?_)
    refine zk_mmax dX8_passTick_78 kX8_passTick_6 kX8_passTick_7 kX8_passTick_8 kX8_passTick_9 (Nat.le_of_ble_eq_true rfl) (Nat.le_of_ble_eq_true rfl) (Nat.zero_le _) (Nat.zero_le _) 81 rfl ?_
    refine zk_nm (fun v_longestQueue_2 => ?_)
    refine zk_put_ tyX8 (gX8 E a (v_promises, v_lines, v_diary, v_now, v_room, v_bound, v_drift, v_brokenStanding, v_lateCalls, v_falls, v_swept, v_passedOver, v_longestQueue_2)) dX8_passTick_81 0 rfl rfl kX8_passTick_inX8 tyX8_ok nmX8 12 (by decide) kX8_passTick_4 rfl (tyX8_ok 12 (by decide)) rfl rfl (Nat.le_of_ble_eq_true rfl) rfl 84 rfl ?_
    exact zk_vret hQ dX8_passTick_84 rfl rfl
  have J40 : ∀ (v_promises : VX5) (v_lines : VX3) (v_diary : VX0) (v_now : Int32) (v_brokenStanding : Int32) (v_lateCalls : Int32) (v_falls : Int32) (v_swept : Int32) (v_passedOver : Int32) (v_longestQueue : Int32), zk_G E l X cX8_passTick 1 none yX8_passTick.cls wsX8_passTick ({ frames := 4, cells := 0, slots := 0, locals := 95 } : Room) 0 0 Q (gX8 E a (v_promises, v_lines, v_diary, v_now, v_room, v_bound, v_drift, v_brokenStanding, v_lateCalls, v_falls, v_swept, v_passedOver, v_longestQueue)) [(0, .ref a.1)] 40 [] (f_X8_passTick_40 v_room v_bound v_drift v_promises v_lines v_diary v_now v_brokenStanding v_lateCalls v_falls v_swept v_passedOver v_longestQueue) := by
    intro v_promises v_lines v_diary v_now v_brokenStanding v_lateCalls v_falls v_swept v_passedOver v_longestQueue
    unfold f_X8_passTick_40
    refine zk_aload_n dX8_passTick_40 0 rfl 41 rfl ?_
    refine zk_callV (ci := 8) (st := []) (c_X8_letArrive E l a (v_promises, v_lines, v_diary, v_now, v_room, v_bound, v_drift, v_brokenStanding, v_lateCalls, v_falls, v_swept, v_passedOver, v_longestQueue)) dX8_passTick_41 0 gX8_passTick_X8_letArrive rfl rfl rfl cd_X8_letArrive ⟨Nat.le_of_ble_eq_true rfl, Nat.le_of_ble_eq_true rfl⟩ ⟨Nat.zero_le _, Nat.zero_le _⟩ _ (fun r41 => (gX8 E a (r41.1, r41.2.1, v_diary, v_now, v_room, v_bound, v_drift, r41.2.2.1, v_lateCalls, v_falls, r41.2.2.2, v_passedOver, v_longestQueue))) zk_pa (fun r41 => zk_qa) rfl rfl rfl rfl (Nat.le_of_ble_eq_true rfl) (fun r41 => []) (fun _ => rfl) 44 rfl (fun r41 => ?_)
    refine zk_aload_n dX8_passTick_44 0 rfl 45 rfl ?_
    refine zk_callV (ci := 8) (st := []) (c_X8_serveQueue E l a (r41.1, r41.2.1, v_diary, v_now, v_room, v_bound, v_drift, r41.2.2.1, v_lateCalls, v_falls, r41.2.2.2, v_passedOver, v_longestQueue)) dX8_passTick_45 0 gX8_passTick_X8_serveQueue rfl rfl rfl cd_X8_serveQueue ⟨Nat.le_of_ble_eq_true rfl, Nat.le_of_ble_eq_true rfl⟩ ⟨Nat.zero_le _, Nat.zero_le _⟩ _ (fun r45 => (gX8 E a (r45.1, r45.2.1, r45.2.2.1, v_now, v_room, v_bound, v_drift, r45.2.2.2.1, r45.2.2.2.2.1, v_falls, r45.2.2.2.2.2.1, r45.2.2.2.2.2.2, v_longestQueue))) zk_pa (fun r45 => zk_qa) rfl rfl rfl rfl (Nat.le_of_ble_eq_true rfl) (fun r45 => []) (fun _ => rfl) 48 rfl (fun r45 => ?_)
    refine zk_aload_n dX8_passTick_48 0 rfl 49 rfl ?_
    refine zk_get dX8_passTick_49 0 rfl rfl kX8_passTick_inX8 7 (by decide) kX8_passTick_2 rfl 52 rfl ?_
    refine zk_aload_n dX8_passTick_52 0 rfl 53 rfl ?_
    refine zk_get dX8_passTick_53 0 rfl rfl kX8_passTick_inX8 5 (by decide) kX8_passTick_3 rfl 56 rfl ?_
    refine zk_icmp_le dX8_passTick_56 64 (by decide) 59 rfl (fun _ => ?_) (fun _ => ?_)
    · exact J64   r45.1 r45.2.1 r45.2.2.1 v_now r45.2.2.2.1 r45.2.2.2.2.1 v_falls r45.2.2.2.2.2.1 r45.2.2.2.2.2.2 v_longestQueue
    · refine zk_aload_n dX8_passTick_59 0 rfl 60 rfl ?_
      refine zk_callV (ci := 8) (st := []) (c_X8_sweepAll E l a (r45.1, r45.2.1, r45.2.2.1, v_now, v_room, v_bound, v_drift, r45.2.2.2.1, r45.2.2.2.2.1, v_falls, r45.2.2.2.2.2.1, r45.2.2.2.2.2.2, v_longestQueue)) dX8_passTick_60 0 gX8_passTick_X8_sweepAll rfl rfl rfl cd_X8_sweepAll ⟨Nat.le_of_ble_eq_true rfl, Nat.le_of_ble_eq_true rfl⟩ ⟨Nat.zero_le _, Nat.zero_le _⟩ _ (fun r60 => (gX8 E a (r60.2.1, r60.2.2.1, r45.2.2.1, v_now, v_room, v_bound, v_drift, r60.2.2.2.1, r45.2.2.2.2.1, v_falls, r60.2.2.2.2, r45.2.2.2.2.2.2, v_longestQueue))) zk_pa (fun r60 => zk_qa) rfl rfl rfl rfl (Nat.le_of_ble_eq_true rfl) (fun r60 => [.int r60.1]) (fun _ => rfl) 63 rfl (fun r60 => ?_)
      refine zk_pop dX8_passTick_63 rfl 64 rfl ?_
      exact J64   r60.2.1 r60.2.2.1 r45.2.2.1 v_now r60.2.2.2.1 r45.2.2.2.2.1 v_falls r60.2.2.2.2 r45.2.2.2.2.2.2 v_longestQueue
  have J25 : ∀ (v_promises : VX5) (v_lines : VX3) (v_diary : VX0) (v_now : Int32) (v_brokenStanding : Int32) (v_lateCalls : Int32) (v_falls : Int32) (v_swept : Int32) (v_passedOver : Int32) (v_longestQueue : Int32), zk_G E l X cX8_passTick 1 none yX8_passTick.cls wsX8_passTick ({ frames := 4, cells := 0, slots := 0, locals := 95 } : Room) 0 0 Q (gX8 E a (v_promises, v_lines, v_diary, v_now, v_room, v_bound, v_drift, v_brokenStanding, v_lateCalls, v_falls, v_swept, v_passedOver, v_longestQueue)) [(0, .ref a.1)] 25 [] (f_X8_passTick_25 v_room v_bound v_drift v_promises v_lines v_diary v_now v_brokenStanding v_lateCalls v_falls v_swept v_passedOver v_longestQueue) := by
    intro v_promises v_lines v_diary v_now v_brokenStanding v_lateCalls v_falls v_swept v_passedOver v_longestQueue
    unfold f_X8_passTick_25
    refine zk_aload_n dX8_passTick_25 0 rfl 26 rfl ?_
    refine zk_get dX8_passTick_26 0 rfl rfl kX8_passTick_inX8 3 (by decide) kX8_passTick_1 rfl 29 rfl ?_
    refine zk_bipush 8 dX8_passTick_29 (by decide) 31 rfl ?_
    refine zk_iremL dX8_passTick_31 (by decide) 32 rfl ?_
    refine zk_if_ne dX8_passTick_32 40 (by decide) 35 rfl (fun _ => ?_) (fun _ => ?_)
    · refine zk_aload_n dX8_passTick_35 0 rfl 36 rfl ?_
      refine zk_iconst 1 dX8_passTick_36 (by decide) 37 rfl ?_
      refine zk_callV (ci := 8) (st := []) (c_X8_letFall E l a (v_promises, v_lines, v_diary, v_now, v_room, v_bound, v_drift, v_brokenStanding, v_lateCalls, v_falls, v_swept, v_passedOver, v_longestQueue) 1) dX8_passTick_37 1 gX8_passTick_X8_letFall rfl rfl rfl cd_X8_letFall ⟨Nat.le_of_ble_eq_true rfl, Nat.le_of_ble_eq_true rfl⟩ ⟨Nat.zero_le _, Nat.zero_le _⟩ _ (fun r37 => (gX8 E a (r37.1, r37.2.1, v_diary, v_now, v_room, v_bound, v_drift, r37.2.2.1, v_lateCalls, r37.2.2.2.1, r37.2.2.2.2, v_passedOver, v_longestQueue))) zk_pa (fun r37 => zk_qa) rfl rfl rfl rfl (Nat.le_of_ble_eq_true rfl) (fun r37 => []) (fun _ => rfl) 40 rfl (fun r37 => ?_)
      exact J40   r37.1 r37.2.1 v_diary v_now r37.2.2.1 v_lateCalls r37.2.2.2.1 r37.2.2.2.2 v_passedOver v_longestQueue
    · exact J40   v_promises v_lines v_diary v_now v_brokenStanding v_lateCalls v_falls v_swept v_passedOver v_longestQueue
  refine zk_eqv (w1 := (gX8 E a (v_promises, v_lines, v_diary, v_now, v_room, v_bound, v_drift, v_brokenStanding, v_lateCalls, v_falls, v_swept, v_passedOver, v_longestQueue))) (lv1 := [(0, .ref a.1)]) (st1 := []) (o1 := f_X8_passTick v_promises v_lines v_diary v_now v_room v_bound v_drift v_brokenStanding v_lateCalls v_falls v_swept v_passedOver v_longestQueue) rfl rfl rfl rfl ?_
  unfold f_X8_passTick
  refine zk_aload_n dX8_passTick_0 0 rfl 1 rfl ?_
  refine zk_dup dX8_passTick_1 rfl 2 rfl ?_
  refine zk_get dX8_passTick_2 0 rfl rfl kX8_passTick_inX8 3 (by decide) kX8_passTick_1 rfl 5 rfl ?_
  refine zk_iconst 1 dX8_passTick_5 (by decide) 6 rfl ?_
  refine zk_iadd dX8_passTick_6 7 rfl ?_
  refine zk_nm (fun v_now_1 => ?_)
  refine zk_put_ tyX8 (gX8 E a (v_promises, v_lines, v_diary, v_now_1, v_room, v_bound, v_drift, v_brokenStanding, v_lateCalls, v_falls, v_swept, v_passedOver, v_longestQueue)) dX8_passTick_7 0 rfl rfl kX8_passTick_inX8 tyX8_ok nmX8 3 (by decide) kX8_passTick_1 rfl (tyX8_ok 3 (by decide)) rfl rfl (Nat.le_of_ble_eq_true rfl) rfl 10 rfl ?_
  refine zk_aload_n dX8_passTick_10 0 rfl 11 rfl ?_
  refine zk_get dX8_passTick_11 0 rfl rfl kX8_passTick_inX8 3 (by decide) kX8_passTick_1 rfl 14 rfl ?_
  refine zk_bipush 64 dX8_passTick_14 (by decide) 16 rfl ?_
  refine zk_iremL dX8_passTick_16 (by decide) 17 rfl ?_
  refine zk_if_ne dX8_passTick_17 25 (by decide) 20 rfl (fun _ => ?_) (fun _ => ?_)
  · refine zk_aload_n dX8_passTick_20 0 rfl 21 rfl ?_
    refine zk_iconst 2 dX8_passTick_21 (by decide) 22 rfl ?_
    refine zk_callV (ci := 8) (st := []) (c_X8_letFall E l a (v_promises, v_lines, v_diary, v_now_1, v_room, v_bound, v_drift, v_brokenStanding, v_lateCalls, v_falls, v_swept, v_passedOver, v_longestQueue) 2) dX8_passTick_22 1 gX8_passTick_X8_letFall rfl rfl rfl cd_X8_letFall ⟨Nat.le_of_ble_eq_true rfl, Nat.le_of_ble_eq_true rfl⟩ ⟨Nat.zero_le _, Nat.zero_le _⟩ _ (fun r22 => (gX8 E a (r22.1, r22.2.1, v_diary, v_now_1, v_room, v_bound, v_drift, r22.2.2.1, v_lateCalls, r22.2.2.2.1, r22.2.2.2.2, v_passedOver, v_longestQueue))) zk_pa (fun r22 => zk_qa) rfl rfl rfl rfl (Nat.le_of_ble_eq_true rfl) (fun r22 => []) (fun _ => rfl) 25 rfl (fun r22 => ?_)
    exact J25   r22.1 r22.2.1 v_diary v_now_1 r22.2.2.1 v_lateCalls r22.2.2.2.1 r22.2.2.2.2 v_passedOver v_longestQueue
  · exact J25   v_promises v_lines v_diary v_now_1 v_brokenStanding v_lateCalls v_falls v_swept v_passedOver v_longestQueue
def F_X8_passTicks_39 (x1 : Int32) (v_room : Int32) (v_bound : Int32) (v_drift : Int32) (x2 : Int32) (k39 : Int32 × VX5 × VX3 × VX0 × Int32 × Int32 × Int32 × Int32 × Int32 × Int32 × Int32 → Option (Int32 × VX5 × VX3 × VX0 × Int32 × Int32 × Int32 × Int32 × Int32 × Int32 × Int32)) : Int32 × VX5 × VX3 × VX0 × Int32 × Int32 × Int32 × Int32 × Int32 × Int32 × Int32 → Option (Int32 × VX5 × VX3 × VX0 × Int32 × Int32 × Int32 × Int32 × Int32 × Int32 × Int32) := fun s => match s with
  | (x3, v_promises, v_lines, v_diary, v_now, v_brokenStanding, v_lateCalls, v_falls, v_swept, v_passedOver, v_longestQueue) => if x1 ≤ x3 then (f_X0_calls v_diary.2).bind fun r58 => some ((r58 - x2), v_promises, v_lines, v_diary, v_now, v_brokenStanding, v_lateCalls, v_falls, v_swept, v_passedOver, v_longestQueue) else (f_X8_passTick v_promises v_lines v_diary v_now v_room v_bound v_drift v_brokenStanding v_lateCalls v_falls v_swept v_passedOver v_longestQueue).bind fun r45 => k39 ((x3 + 1), r45.1, r45.2.1, r45.2.2.1, r45.2.2.2.1, r45.2.2.2.2.1, r45.2.2.2.2.2.1, r45.2.2.2.2.2.2.1, r45.2.2.2.2.2.2.2.1, r45.2.2.2.2.2.2.2.2.1, r45.2.2.2.2.2.2.2.2.2)
def f_X8_passTicks (x1 : Int32) (v_promises : VX5) (v_lines : VX3) (v_diary : VX0) (v_now : Int32) (v_room : Int32) (v_bound : Int32) (v_drift : Int32) (v_brokenStanding : Int32) (v_lateCalls : Int32) (v_falls : Int32) (v_swept : Int32) (v_passedOver : Int32) (v_longestQueue : Int32) : Option (Int32 × VX5 × VX3 × VX0 × Int32 × Int32 × Int32 × Int32 × Int32 × Int32 × Int32) := if x1 < 1 then some ((-1), v_promises, v_lines, v_diary, v_now, v_brokenStanding, v_lateCalls, v_falls, v_swept, v_passedOver, v_longestQueue) else if x1 ≤ 600 then if (v_now + x1) ≤ 20000 then (f_X0_calls v_diary.2).bind fun r33 => zk_fx (F_X8_passTicks_39 x1 v_room v_bound v_drift r33 ) zk_N (0, v_promises, v_lines, v_diary, v_now, v_brokenStanding, v_lateCalls, v_falls, v_swept, v_passedOver, v_longestQueue) else some ((-3), v_promises, v_lines, v_diary, v_now, v_brokenStanding, v_lateCalls, v_falls, v_swept, v_passedOver, v_longestQueue) else some ((-1), v_promises, v_lines, v_diary, v_now, v_brokenStanding, v_lateCalls, v_falls, v_swept, v_passedOver, v_longestQueue)
theorem kX8_passTicks_inX8 : ∀ w ∈ u_ws RX8 TX8 13, w ∈ wsX8_passTicks := by decide +kernel
theorem kX8_passTicks_1 : Cond.fieldLink RX8 49 (TX8 3).1 (TX8 3).2.1 (TX8 3).2.2.1 ∈ wsX8_passTicks := by decide +kernel
theorem kX8_passTicks_2 : Cond.fieldLink RX8 28 (TX8 2).1 (TX8 2).2.1 (TX8 2).2.2.1 ∈ wsX8_passTicks := by decide +kernel
theorem cd_X8_passTicks : yX8_passTicks.cls = RX8 ∧ yX8_passTicks.cls ≠ "java/lang/invoke/MethodHandle" ∧ yX8_passTicks.cls ≠ "java/lang/invoke/VarHandle" ∧ (parseMethodDescriptor yX8_passTicks.desc).map (fun d => d.parameters.length) = some 1 := by decide +kernel
set_option maxRecDepth 100000 in
set_option maxHeartbeats 4000000 in
theorem c_X8_passTicks (E : zk_Env) (l : Launch) (a : aX8) (v : VX8) (x1 : Int32) : zk_Mc E l yX8_passTicks wsX8_passTicks ({ frames := 5, cells := 0, slots := 0, locals := 115 } : Room) [.ref a.1, .int x1] (gX8 E a v) (f_X8_passTicks x1 v.1 v.2.1 v.2.2.1 v.2.2.2.1 v.2.2.2.2.1 v.2.2.2.2.2.1 v.2.2.2.2.2.2.1 v.2.2.2.2.2.2.2.1 v.2.2.2.2.2.2.2.2.1 v.2.2.2.2.2.2.2.2.2.1 v.2.2.2.2.2.2.2.2.2.2.1 v.2.2.2.2.2.2.2.2.2.2.2.1 v.2.2.2.2.2.2.2.2.2.2.2.2) (fun r => some (.int r.1)) (fun r => (gX8 E a (r.2.1, r.2.2.1, r.2.2.2.1, r.2.2.2.2.1, v.2.2.2.2.1, v.2.2.2.2.2.1, v.2.2.2.2.2.2.1, r.2.2.2.2.2.1, r.2.2.2.2.2.2.1, r.2.2.2.2.2.2.2.1, r.2.2.2.2.2.2.2.2.1, r.2.2.2.2.2.2.2.2.2.1, r.2.2.2.2.2.2.2.2.2.2))) := by
  obtain ⟨v_promises, v_lines, v_diary, v_now, v_room, v_bound, v_drift, v_brokenStanding, v_lateCalls, v_falls, v_swept, v_passedOver, v_longestQueue⟩ := v
  refine zk_M (cc := cX8_passTicks) (nL := 4) (ret := (some .int)) (by decide) rfl (Nat.le_of_ble_eq_true rfl) (fun X Q hQ => ?_)
  have J39 : ∀ (x2 : Int32) (n : Nat) (x3 : Int32) (v_promises : VX5) (v_lines : VX3) (v_diary : VX0) (v_now : Int32) (v_brokenStanding : Int32) (v_lateCalls : Int32) (v_falls : Int32) (v_swept : Int32) (v_passedOver : Int32) (v_longestQueue : Int32), zk_G E l X cX8_passTicks 4 (some .int) yX8_passTicks.cls wsX8_passTicks ({ frames := 5, cells := 0, slots := 0, locals := 115 } : Room) 0 0 Q (gX8 E a (v_promises, v_lines, v_diary, v_now, v_room, v_bound, v_drift, v_brokenStanding, v_lateCalls, v_falls, v_swept, v_passedOver, v_longestQueue)) [(0, .ref a.1), (1, .int x1), (2, .int x2), (3, .int x3)] 39 [] (zk_fx (F_X8_passTicks_39 x1 v_room v_bound v_drift x2 ) n (x3, v_promises, v_lines, v_diary, v_now, v_brokenStanding, v_lateCalls, v_falls, v_swept, v_passedOver, v_longestQueue)) := by
    intro x2 n x3 v_promises v_lines v_diary v_now v_brokenStanding v_lateCalls v_falls v_swept v_passedOver v_longestQueue
    refine zk_loop (S := Int32 × VX5 × VX3 × VX0 × Int32 × Int32 × Int32 × Int32 × Int32 × Int32 × Int32) (F := F_X8_passTicks_39 x1 v_room v_bound v_drift x2) (wS := fun s => (gX8 E a (s.2.1, s.2.2.1, s.2.2.2.1, s.2.2.2.2.1, v_room, v_bound, v_drift, s.2.2.2.2.2.1, s.2.2.2.2.2.2.1, s.2.2.2.2.2.2.2.1, s.2.2.2.2.2.2.2.2.1, s.2.2.2.2.2.2.2.2.2.1, s.2.2.2.2.2.2.2.2.2.2))) (lS := fun s => [(0, .ref a.1), (1, .int x1), (2, .int x2), (3, .int s.1)]) (sS := fun _ => []) (fun k39 hk39 s => ?_) n (x3, v_promises, v_lines, v_diary, v_now, v_brokenStanding, v_lateCalls, v_falls, v_swept, v_passedOver, v_longestQueue)
    obtain ⟨x3, v_promises, v_lines, v_diary, v_now, v_brokenStanding, v_lateCalls, v_falls, v_swept, v_passedOver, v_longestQueue⟩ := s
    unfold F_X8_passTicks_39
    try dsimp only
    refine zk_iload_n dX8_passTicks_39 3 rfl 40 rfl ?_
    refine zk_iload_n dX8_passTicks_40 1 rfl 41 rfl ?_
    refine zk_icmp_ge dX8_passTicks_41 54 (by decide) 44 rfl (fun _ => ?_) (fun _ => ?_)
    · refine zk_aload_n dX8_passTicks_54 0 rfl 55 rfl ?_
      refine zk_get dX8_passTicks_55 0 rfl rfl kX8_passTicks_inX8 2 (by decide) kX8_passTicks_2 rfl 58 rfl ?_
      refine zk_callV (ci := 0) (st := []) (c_X0_calls E l a.2.2.2 v_diary) dX8_passTicks_58 0 gX8_passTicks_X0_calls rfl rfl rfl cd_X0_calls ⟨Nat.le_of_ble_eq_true rfl, Nat.le_of_ble_eq_true rfl⟩ ⟨Nat.zero_le _, Nat.zero_le _⟩ _ (fun r58 => (gX8 E a (v_promises, v_lines, v_diary, v_now, v_room, v_bound, v_drift, v_brokenStanding, v_lateCalls, v_falls, v_swept, v_passedOver, v_longestQueue))) (zk_pc zk_pa (zk_p1 (gs := (lX8 E a (v_promises, v_lines, v_diary, v_now, v_room, v_bound, v_drift, v_brokenStanding, v_lateCalls, v_falls, v_swept, v_passedOver, v_longestQueue))) (i := 3) rfl)) (fun r58 => (zk_qc zk_qa (zk_q1 (gs := (lX8 E a (v_promises, v_lines, v_diary, v_now, v_room, v_bound, v_drift, v_brokenStanding, v_lateCalls, v_falls, v_swept, v_passedOver, v_longestQueue))) (i := 3) (w1 := gX8 E a (v_promises, v_lines, v_diary, v_now, v_room, v_bound, v_drift, v_brokenStanding, v_lateCalls, v_falls, v_swept, v_passedOver, v_longestQueue)) rfl rfl))) rfl rfl rfl rfl (Nat.le_of_ble_eq_true rfl) (fun r58 => [.int r58]) (fun _ => rfl) 61 rfl (fun r58 => ?_)
      refine zk_iload_n dX8_passTicks_61 2 rfl 62 rfl ?_
      refine zk_isub dX8_passTicks_62 63 rfl ?_
      exact zk_iret hQ dX8_passTicks_63 rfl rfl
    · refine zk_aload_n dX8_passTicks_44 0 rfl 45 rfl ?_
      refine zk_callV (ci := 8) (st := []) (c_X8_passTick E l a (v_promises, v_lines, v_diary, v_now, v_room, v_bound, v_drift, v_brokenStanding, v_lateCalls, v_falls, v_swept, v_passedOver, v_longestQueue)) dX8_passTicks_45 0 gX8_passTicks_X8_passTick rfl rfl rfl cd_X8_passTick ⟨Nat.le_of_ble_eq_true rfl, Nat.le_of_ble_eq_true rfl⟩ ⟨Nat.zero_le _, Nat.zero_le _⟩ _ (fun r45 => (gX8 E a (r45.1, r45.2.1, r45.2.2.1, r45.2.2.2.1, v_room, v_bound, v_drift, r45.2.2.2.2.1, r45.2.2.2.2.2.1, r45.2.2.2.2.2.2.1, r45.2.2.2.2.2.2.2.1, r45.2.2.2.2.2.2.2.2.1, r45.2.2.2.2.2.2.2.2.2))) zk_pa (fun r45 => zk_qa) rfl rfl rfl rfl (Nat.le_of_ble_eq_true rfl) (fun r45 => []) (fun _ => rfl) 48 rfl (fun r45 => ?_)
      refine zk_iinc (x3 + 1) [(3, .int (x3 + 1)), (0, .ref a.1), (1, .int x1), (2, .int x2)] dX8_passTicks_48 3 rfl rfl (by decide) rfl 51 rfl ?_
      refine zk_goto dX8_passTicks_51 39 (by decide) ?_
      refine zk_lv [1, 2, 3, 0] rfl ?_
      exact hk39 ((x3 + 1), r45.1, r45.2.1, r45.2.2.1, r45.2.2.2.1, r45.2.2.2.2.1, r45.2.2.2.2.2.1, r45.2.2.2.2.2.2.1, r45.2.2.2.2.2.2.2.1, r45.2.2.2.2.2.2.2.2.1, r45.2.2.2.2.2.2.2.2.2)
  refine zk_eqv (w1 := (gX8 E a (v_promises, v_lines, v_diary, v_now, v_room, v_bound, v_drift, v_brokenStanding, v_lateCalls, v_falls, v_swept, v_passedOver, v_longestQueue))) (lv1 := [(0, .ref a.1), (1, .int x1)]) (st1 := []) (o1 := f_X8_passTicks x1 v_promises v_lines v_diary v_now v_room v_bound v_drift v_brokenStanding v_lateCalls v_falls v_swept v_passedOver v_longestQueue) rfl rfl rfl rfl ?_
  unfold f_X8_passTicks
  refine zk_iload_n dX8_passTicks_0 1 rfl 1 rfl ?_
  refine zk_iconst 1 dX8_passTicks_1 (by decide) 2 rfl ?_
  refine zk_icmp_lt dX8_passTicks_2 12 (by decide) 5 rfl (fun _ => ?_) (fun _ => ?_)
  · refine zk_iconst (-1) dX8_passTicks_12 (by decide) 13 rfl ?_
    exact zk_iret hQ dX8_passTicks_13 rfl rfl
  · refine zk_iload_n dX8_passTicks_5 1 rfl 6 rfl ?_
    refine zk_sipush 600 dX8_passTicks_6 (by decide) 9 rfl ?_
    refine zk_icmp_le dX8_passTicks_9 14 (by decide) 12 rfl (fun _ => ?_) (fun _ => ?_)
    · refine zk_aload_n dX8_passTicks_14 0 rfl 15 rfl ?_
      refine zk_get dX8_passTicks_15 0 rfl rfl kX8_passTicks_inX8 3 (by decide) kX8_passTicks_1 rfl 18 rfl ?_
      refine zk_iload_n dX8_passTicks_18 1 rfl 19 rfl ?_
      refine zk_iadd dX8_passTicks_19 20 rfl ?_
      refine zk_sipush 20000 dX8_passTicks_20 (by decide) 23 rfl ?_
      refine zk_icmp_le dX8_passTicks_23 29 (by decide) 26 rfl (fun _ => ?_) (fun _ => ?_)
      · refine zk_aload_n dX8_passTicks_29 0 rfl 30 rfl ?_
        refine zk_get dX8_passTicks_30 0 rfl rfl kX8_passTicks_inX8 2 (by decide) kX8_passTicks_2 rfl 33 rfl ?_
        refine zk_callV (ci := 0) (st := []) (c_X0_calls E l a.2.2.2 v_diary) dX8_passTicks_33 0 gX8_passTicks_X0_calls rfl rfl rfl cd_X0_calls ⟨Nat.le_of_ble_eq_true rfl, Nat.le_of_ble_eq_true rfl⟩ ⟨Nat.zero_le _, Nat.zero_le _⟩ _ (fun r33 => (gX8 E a (v_promises, v_lines, v_diary, v_now, v_room, v_bound, v_drift, v_brokenStanding, v_lateCalls, v_falls, v_swept, v_passedOver, v_longestQueue))) (zk_pc zk_pa (zk_p1 (gs := (lX8 E a (v_promises, v_lines, v_diary, v_now, v_room, v_bound, v_drift, v_brokenStanding, v_lateCalls, v_falls, v_swept, v_passedOver, v_longestQueue))) (i := 3) rfl)) (fun r33 => (zk_qc zk_qa (zk_q1 (gs := (lX8 E a (v_promises, v_lines, v_diary, v_now, v_room, v_bound, v_drift, v_brokenStanding, v_lateCalls, v_falls, v_swept, v_passedOver, v_longestQueue))) (i := 3) (w1 := gX8 E a (v_promises, v_lines, v_diary, v_now, v_room, v_bound, v_drift, v_brokenStanding, v_lateCalls, v_falls, v_swept, v_passedOver, v_longestQueue)) rfl rfl))) rfl rfl rfl rfl (Nat.le_of_ble_eq_true rfl) (fun r33 => [.int r33]) (fun _ => rfl) 36 rfl (fun r33 => ?_)
        refine zk_istore_n [(2, .int r33), (0, .ref a.1), (1, .int x1)] dX8_passTicks_36 (by decide) rfl 37 rfl ?_
        refine zk_iconst 0 dX8_passTicks_37 (by decide) 38 rfl ?_
        refine zk_istore_n [(3, .int 0), (2, .int r33), (0, .ref a.1), (1, .int x1)] dX8_passTicks_38 (by decide) rfl 39 rfl ?_
        refine zk_lv [2, 3, 1, 0] rfl ?_
        exact J39   r33 zk_N 0 v_promises v_lines v_diary v_now v_brokenStanding v_lateCalls v_falls v_swept v_passedOver v_longestQueue
      · refine zk_bipush (-3) dX8_passTicks_26 (by decide) 28 rfl ?_
        exact zk_iret hQ dX8_passTicks_28 rfl rfl
    · refine zk_iconst (-1) dX8_passTicks_12 (by decide) 13 rfl ?_
      exact zk_iret hQ dX8_passTicks_13 rfl rfl
