def f_X2_size (v_states : Int32) : Option (Int32) := some v_states
theorem kX2_size_inX2 : ∀ w ∈ u_ws RX2 TX2 3, w ∈ wsX2_size := by decide +kernel
theorem kX2_size_1 : Cond.fieldLink RX2 18 (TX2 2).1 (TX2 2).2.1 (TX2 2).2.2.1 ∈ wsX2_size := by decide +kernel
theorem cd_X2_size : yX2_size.cls = RX2 ∧ yX2_size.cls ≠ "java/lang/invoke/MethodHandle" ∧ yX2_size.cls ≠ "java/lang/invoke/VarHandle" ∧ (parseMethodDescriptor yX2_size.desc).map (fun d => d.parameters.length) = some 0 := by decide +kernel
set_option maxRecDepth 100000 in
set_option maxHeartbeats 4000000 in
theorem c_X2_size (E : zk_Env) (l : Launch) (a : aX2) (v : VX2)  : zk_Mc E l yX2_size wsX2_size ({ frames := 0, cells := 0, slots := 0, locals := 0 } : Room) [.ref a.1] (gX2 E a v) (f_X2_size v.2.2) (fun r => some (.int r)) (fun r => (gX2 E a v)) := by
  obtain ⟨v_rows, v_noted, v_states⟩ := v
  refine zk_M (cc := cX2_size) (nL := 1) (ret := (some .int)) (by decide) rfl (Nat.le_of_ble_eq_true rfl) (fun X Q hQ => ?_)
  refine zk_eqv (w1 := (gX2 E a (v_rows, v_noted, v_states))) (lv1 := [(0, .ref a.1)]) (st1 := []) (o1 := f_X2_size v_states) rfl rfl rfl rfl ?_
  unfold f_X2_size
  refine zk_aload_n dX2_size_0 0 rfl 1 rfl ?_
  refine zk_get dX2_size_1 0 rfl rfl kX2_size_inX2 2 (by decide) kX2_size_1 rfl 4 rfl ?_
  exact zk_iret hQ dX2_size_4 rfl rfl
def f_X2_keepNoted (v_noted : Int32) (v_states : Int32) : Option (Int32 × Int32) := zk_let (zk_rem (v_noted + 1) 6) fun v_noted_1 => zk_let (if 5 < (v_states + 1) then 5 else (v_states + 1)) fun v_states_2 => some (v_noted_1, v_states_2)
theorem kX2_keepNoted_inX2 : ∀ w ∈ u_ws RX2 TX2 3, w ∈ wsX2_keepNoted := by decide +kernel
theorem kX2_keepNoted_1 : Cond.fieldLink RX2 22 (TX2 1).1 (TX2 1).2.1 (TX2 1).2.2.1 ∈ wsX2_keepNoted := by decide +kernel
theorem kX2_keepNoted_2 : Cond.fieldLink RX2 18 (TX2 2).1 (TX2 2).2.1 (TX2 2).2.2.1 ∈ wsX2_keepNoted := by decide +kernel
theorem kX2_keepNoted_3 : Cond.methodLink RX2 33 Lib.Math.min.name ∈ wsX2_keepNoted := by decide +kernel
theorem kX2_keepNoted_4 : Cond.static Lib.Math.min.name ∈ wsX2_keepNoted := by decide +kernel
theorem kX2_keepNoted_5 : Cond.initialized "java/lang/Math" ∈ wsX2_keepNoted := by decide +kernel
theorem kX2_keepNoted_6 : Cond.code Lib.Math.min.name Lib.Math.min.code 2 (some .int) ∈ wsX2_keepNoted := by decide +kernel
theorem cd_X2_keepNoted : yX2_keepNoted.cls = RX2 ∧ yX2_keepNoted.cls ≠ "java/lang/invoke/MethodHandle" ∧ yX2_keepNoted.cls ≠ "java/lang/invoke/VarHandle" ∧ (parseMethodDescriptor yX2_keepNoted.desc).map (fun d => d.parameters.length) = some 0 := by decide +kernel
set_option maxRecDepth 100000 in
set_option maxHeartbeats 4000000 in
theorem c_X2_keepNoted (E : zk_Env) (l : Launch) (a : aX2) (v : VX2)  : zk_Mc E l yX2_keepNoted wsX2_keepNoted ({ frames := 1, cells := 0, slots := 0, locals := 14 } : Room) [.ref a.1] (gX2 E a v) (f_X2_keepNoted v.2.1 v.2.2) (fun _ => none) (fun r => (gX2 E a (v.1, r.1, r.2))) := by
  obtain ⟨v_rows, v_noted, v_states⟩ := v
  refine zk_M (cc := cX2_keepNoted) (nL := 1) (ret := none) (by decide) rfl (Nat.le_of_ble_eq_true rfl) (fun X Q hQ => ?_)
  refine zk_eqv (w1 := (gX2 E a (v_rows, v_noted, v_states))) (lv1 := [(0, .ref a.1)]) (st1 := []) (o1 := f_X2_keepNoted v_noted v_states) rfl rfl rfl rfl ?_
  unfold f_X2_keepNoted
  refine zk_aload_n dX2_keepNoted_0 0 rfl 1 rfl ?_
  refine zk_aload_n dX2_keepNoted_1 0 rfl 2 rfl ?_
  refine zk_get dX2_keepNoted_2 0 rfl rfl kX2_keepNoted_inX2 1 (by decide) kX2_keepNoted_1 rfl 5 rfl ?_
  refine zk_iconst 1 dX2_keepNoted_5 (by decide) 6 rfl ?_
  refine zk_iadd dX2_keepNoted_6 7 rfl ?_
  refine zk_bipush 6 dX2_keepNoted_7 (by decide) 9 rfl ?_
  refine zk_iremL dX2_keepNoted_9 (by decide) 10 rfl ?_
  refine zk_nm (fun v_noted_1 => ?_)
  refine zk_put_ tyX2 (gX2 E a (v_rows, v_noted_1, v_states)) dX2_keepNoted_10 0 rfl rfl kX2_keepNoted_inX2 tyX2_ok nmX2 1 (by decide) kX2_keepNoted_1 rfl (tyX2_ok 1 (by decide)) rfl rfl (Nat.le_of_ble_eq_true rfl) rfl 13 rfl ?_
  refine zk_aload_n dX2_keepNoted_13 0 rfl 14 rfl ?_
  refine zk_aload_n dX2_keepNoted_14 0 rfl 15 rfl ?_
  refine zk_get dX2_keepNoted_15 0 rfl rfl kX2_keepNoted_inX2 2 (by decide) kX2_keepNoted_2 rfl 18 rfl ?_
  refine zk_iconst 1 dX2_keepNoted_18 (by decide) 19 rfl ?_
  refine zk_iadd dX2_keepNoted_19 20 rfl ?_
  refine zk_iconst 5 dX2_keepNoted_20 (by decide) 21 rfl ?_
  refine zk_mmin dX2_keepNoted_21 kX2_keepNoted_3 kX2_keepNoted_4 kX2_keepNoted_5 kX2_keepNoted_6 (Nat.le_of_ble_eq_true rfl) (Nat.le_of_ble_eq_true rfl) (Nat.zero_le _) (Nat.zero_le _) 24 rfl ?_
  refine zk_nm (fun v_states_2 => ?_)
  refine zk_put_ tyX2 (gX2 E a (v_rows, v_noted_1, v_states_2)) dX2_keepNoted_24 0 rfl rfl kX2_keepNoted_inX2 tyX2_ok nmX2 2 (by decide) kX2_keepNoted_2 rfl (tyX2_ok 2 (by decide)) rfl rfl (Nat.le_of_ble_eq_true rfl) rfl 27 rfl ?_
  exact zk_vret hQ dX2_keepNoted_27 rfl rfl
def f_X2_rowAt (x1 : Int32) : Option (Option Nat) := if x1 < 0 then some none else if x1 < 6 then zk_ck x1 6 (some (some x1.toNatClampNeg)) else some none
theorem kX2_rowAt_inX2 : ∀ w ∈ u_ws RX2 TX2 3, w ∈ wsX2_rowAt := by decide +kernel
theorem kX2_rowAt_1 : Cond.fieldLink RX2 13 (TX2 0).1 (TX2 0).2.1 (TX2 0).2.2.1 ∈ wsX2_rowAt := by decide +kernel
theorem cd_X2_rowAt : yX2_rowAt.cls = RX2 ∧ yX2_rowAt.cls ≠ "java/lang/invoke/MethodHandle" ∧ yX2_rowAt.cls ≠ "java/lang/invoke/VarHandle" ∧ (parseMethodDescriptor yX2_rowAt.desc).map (fun d => d.parameters.length) = some 1 := by decide +kernel
set_option maxRecDepth 100000 in
set_option maxHeartbeats 4000000 in
theorem c_X2_rowAt (E : zk_Env) (l : Launch) (a : aX2) (v : VX2) (x1 : Int32) : zk_Mc E l yX2_rowAt wsX2_rowAt ({ frames := 0, cells := 0, slots := 0, locals := 0 } : Room) [.ref a.1, .int x1] (gX2 E a v) (f_X2_rowAt x1) (fun r => some (va_rf (r.map (fun k => (a.2.2 k).1)))) (fun r => (gX2 E a v)) := by
  obtain ⟨v_rows, v_noted, v_states⟩ := v
  refine zk_M (cc := cX2_rowAt) (nL := 2) (ret := (some (.object "PromiseWheel$State"))) (by decide) rfl (Nat.le_of_ble_eq_true rfl) (fun X Q hQ => ?_)
  refine zk_eqv (w1 := (gX2 E a (v_rows, v_noted, v_states))) (lv1 := [(0, .ref a.1), (1, .int x1)]) (st1 := []) (o1 := f_X2_rowAt x1) rfl rfl rfl rfl ?_
  unfold f_X2_rowAt
  refine zk_iload_n dX2_rowAt_0 1 rfl 1 rfl ?_
  refine zk_if_lt dX2_rowAt_1 10 (by decide) 4 rfl (fun _ => ?_) (fun _ => ?_)
  · refine zk_null dX2_rowAt_10 11 rfl ?_
    refine zk_goto dX2_rowAt_11 20 (by decide) ?_
    exact zk_aret (v := none) hQ dX2_rowAt_20 rfl rfl
  · refine zk_iload_n dX2_rowAt_4 1 rfl 5 rfl ?_
    refine zk_bipush 6 dX2_rowAt_5 (by decide) 7 rfl ?_
    refine zk_icmp_lt dX2_rowAt_7 14 (by decide) 10 rfl (fun _ => ?_) (fun _ => ?_)
    · refine zk_aload_n dX2_rowAt_14 0 rfl 15 rfl ?_
      refine zk_get dX2_rowAt_15 0 rfl rfl kX2_rowAt_inX2 0 (by decide) kX2_rowAt_1 rfl 18 rfl ?_
      refine zk_iload_n dX2_rowAt_18 1 rfl 19 rfl ?_
      refine zk_aald 3 dX2_rowAt_19 1 rfl rfl 20 rfl (fun hf19 => ?_)
      exact zk_aret (v := (some ((a.2.2 x1.toNatClampNeg).1))) hQ dX2_rowAt_20 rfl rfl
    · refine zk_null dX2_rowAt_10 11 rfl ?_
      refine zk_goto dX2_rowAt_11 20 (by decide) ?_
      exact zk_aret (v := none) hQ dX2_rowAt_20 rfl rfl
def f_X6_snapshotsTaken_21 (k4 : Int32 × Int32 → Option (Int32)) (x1 : Int32) (x2 : Int32) : Option (Int32) := k4 (x1, (x2 + 1))
def F_X6_snapshotsTaken_4 (v_taken : (Nat → Int32)) (k4 : Int32 × Int32 → Option (Int32)) : Int32 × Int32 → Option (Int32) := fun s => match s with
  | (x1, x2) => if 2 ≤ x2 then some x1 else zk_ck x2 2 (if (v_taken x2.toNatClampNeg) = 0 then f_X6_snapshotsTaken_21 k4 x1 x2 else f_X6_snapshotsTaken_21 k4 (x1 + 1) x2)
def f_X6_snapshotsTaken (v_taken : (Nat → Int32)) : Option (Int32) := zk_fx (F_X6_snapshotsTaken_4 v_taken ) zk_N (0, 0)
theorem kX6_snapshotsTaken_inX6 : ∀ w ∈ u_ws RX6 TX6 3, w ∈ wsX6_snapshotsTaken := by decide +kernel
theorem kX6_snapshotsTaken_1 : Cond.fieldLink RX6 22 (TX6 2).1 (TX6 2).2.1 (TX6 2).2.2.1 ∈ wsX6_snapshotsTaken := by decide +kernel
theorem cd_X6_snapshotsTaken : yX6_snapshotsTaken.cls = RX6 ∧ yX6_snapshotsTaken.cls ≠ "java/lang/invoke/MethodHandle" ∧ yX6_snapshotsTaken.cls ≠ "java/lang/invoke/VarHandle" ∧ (parseMethodDescriptor yX6_snapshotsTaken.desc).map (fun d => d.parameters.length) = some 0 := by decide +kernel
set_option maxRecDepth 100000 in
set_option maxHeartbeats 4000000 in
theorem c_X6_snapshotsTaken (E : zk_Env) (l : Launch) (a : aX6) (v : VX6)  : zk_Mc E l yX6_snapshotsTaken wsX6_snapshotsTaken ({ frames := 0, cells := 0, slots := 0, locals := 0 } : Room) [.ref a.1] (gX6 E a v) (f_X6_snapshotsTaken v.2.2) (fun r => some (.int r)) (fun r => (gX6 E a v)) := by
  obtain ⟨v_wheel, v_snapshots, v_taken⟩ := v
  refine zk_M (cc := cX6_snapshotsTaken) (nL := 3) (ret := (some .int)) (by decide) rfl (Nat.le_of_ble_eq_true rfl) (fun X Q hQ => ?_)
  have J21 : ∀ (k4 : Int32 × Int32 → Option (Int32)) (hk4 : ∀ s : Int32 × Int32, zk_G E l X cX6_snapshotsTaken 3 (some .int) yX6_snapshotsTaken.cls wsX6_snapshotsTaken ({ frames := 0, cells := 0, slots := 0, locals := 0 } : Room) 0 0 Q (gX6 E a (v_wheel, v_snapshots, v_taken)) [(0, .ref a.1), (1, .int s.1), (2, .int s.2)] 4 [] (k4 s)) (x1 : Int32) (x2 : Int32), zk_G E l X cX6_snapshotsTaken 3 (some .int) yX6_snapshotsTaken.cls wsX6_snapshotsTaken ({ frames := 0, cells := 0, slots := 0, locals := 0 } : Room) 0 0 Q (gX6 E a (v_wheel, v_snapshots, v_taken)) [(0, .ref a.1), (1, .int x1), (2, .int x2)] 21 [] (f_X6_snapshotsTaken_21 k4 x1 x2) := by
    intro k4 hk4 x1 x2
    unfold f_X6_snapshotsTaken_21
    refine zk_iinc (x2 + 1) [(2, .int (x2 + 1)), (0, .ref a.1), (1, .int x1)] dX6_snapshotsTaken_21 2 rfl rfl (by decide) rfl 24 rfl ?_
    refine zk_goto dX6_snapshotsTaken_24 4 (by decide) ?_
    refine zk_lv [1, 2, 0] rfl ?_
    exact hk4 (x1, (x2 + 1))
  have J4 : ∀ (n : Nat) (x1 : Int32) (x2 : Int32), zk_G E l X cX6_snapshotsTaken 3 (some .int) yX6_snapshotsTaken.cls wsX6_snapshotsTaken ({ frames := 0, cells := 0, slots := 0, locals := 0 } : Room) 0 0 Q (gX6 E a (v_wheel, v_snapshots, v_taken)) [(0, .ref a.1), (1, .int x1), (2, .int x2)] 4 [] (zk_fx (F_X6_snapshotsTaken_4 v_taken ) n (x1, x2)) := by
    intro n x1 x2
    refine zk_loop (S := Int32 × Int32) (F := F_X6_snapshotsTaken_4 v_taken) (wS := fun s => (gX6 E a (v_wheel, v_snapshots, v_taken))) (lS := fun s => [(0, .ref a.1), (1, .int s.1), (2, .int s.2)]) (sS := fun _ => []) (fun k4 hk4 s => ?_) n (x1, x2)
    obtain ⟨x1, x2⟩ := s
    unfold F_X6_snapshotsTaken_4
    try dsimp only
    refine zk_iload_n dX6_snapshotsTaken_4 2 rfl 5 rfl ?_
    refine zk_iconst 2 dX6_snapshotsTaken_5 (by decide) 6 rfl ?_
    refine zk_icmp_ge dX6_snapshotsTaken_6 27 (by decide) 9 rfl (fun _ => ?_) (fun _ => ?_)
    · refine zk_iload_n dX6_snapshotsTaken_27 1 rfl 28 rfl ?_
      exact zk_iret hQ dX6_snapshotsTaken_28 rfl rfl
    · refine zk_aload_n dX6_snapshotsTaken_9 0 rfl 10 rfl ?_
      refine zk_get dX6_snapshotsTaken_10 0 rfl rfl kX6_snapshotsTaken_inX6 2 (by decide) kX6_snapshotsTaken_1 rfl 13 rfl ?_
      refine zk_iload_n dX6_snapshotsTaken_13 2 rfl 14 rfl ?_
      refine zk_zald dX6_snapshotsTaken_14 2 rfl 15 rfl ?_
      refine zk_if_eq dX6_snapshotsTaken_15 21 (by decide) 18 rfl (fun _ => ?_) (fun _ => ?_)
      · exact J21  k4 hk4 x1 x2
      · refine zk_iinc (x1 + 1) [(1, .int (x1 + 1)), (0, .ref a.1), (2, .int x2)] dX6_snapshotsTaken_18 1 rfl rfl (by decide) rfl 21 rfl ?_
        refine zk_lv [1, 0, 2] rfl ?_
        exact J21  k4 hk4 (x1 + 1) x2
  refine zk_eqv (w1 := (gX6 E a (v_wheel, v_snapshots, v_taken))) (lv1 := [(0, .ref a.1)]) (st1 := []) (o1 := f_X6_snapshotsTaken v_taken) rfl rfl rfl rfl ?_
  unfold f_X6_snapshotsTaken
  refine zk_iconst 0 dX6_snapshotsTaken_0 (by decide) 1 rfl ?_
  refine zk_istore_n [(1, .int 0), (0, .ref a.1)] dX6_snapshotsTaken_1 (by decide) rfl 2 rfl ?_
  refine zk_iconst 0 dX6_snapshotsTaken_2 (by decide) 3 rfl ?_
  refine zk_istore_n [(2, .int 0), (1, .int 0), (0, .ref a.1)] dX6_snapshotsTaken_3 (by decide) rfl 4 rfl ?_
  refine zk_lv [2, 1, 0] rfl ?_
  exact J4    zk_N 0 0
def f_X6_copyFrom_69 (v_wheel : VX8) (k13 : Int32 × (Nat → VX8) × (Nat → Int32) → Option (VX8 × (Nat → VX8) × (Nat → Int32))) (x2 : Int32) (v_snapshots : (Nat → VX8)) (v_taken : (Nat → Int32)) : Option (VX8 × (Nat → VX8) × (Nat → Int32)) := k13 ((x2 + 1), v_snapshots, v_taken)
def F_X6_copyFrom_13 (u_snapshots : (Nat → VX8)) (u_taken : (Nat → Int32)) (v_wheel : VX8) (k13 : Int32 × (Nat → VX8) × (Nat → Int32) → Option (VX8 × (Nat → VX8) × (Nat → Int32))) : Int32 × (Nat → VX8) × (Nat → Int32) → Option (VX8 × (Nat → VX8) × (Nat → Int32)) := fun s => match s with
  | (x2, v_snapshots, v_taken) => if 2 ≤ x2 then some (v_wheel, v_snapshots, v_taken) else zk_ck x2 2 (zk_ck x2 2 (zk_let (upd v_taken x2.toNatClampNeg (vp_nar .boolean (u_taken x2.toNatClampNeg))) fun v_taken_1 => zk_ck x2 2 (zk_ck x2 2 (zk_ck x2 2 (if (v_taken_1 x2.toNatClampNeg) = 0 then f_X6_copyFrom_69 v_wheel k13 x2 v_snapshots v_taken_1 else (f_X8_copyFrom ((v_snapshots x2.toNatClampNeg).1) ((v_snapshots x2.toNatClampNeg).2.1) ((v_snapshots x2.toNatClampNeg).2.2.1) ((u_snapshots x2.toNatClampNeg).1) ((u_snapshots x2.toNatClampNeg).2.1) ((u_snapshots x2.toNatClampNeg).2.2.1) ((u_snapshots x2.toNatClampNeg).2.2.2.1) ((u_snapshots x2.toNatClampNeg).2.2.2.2.1) ((u_snapshots x2.toNatClampNeg).2.2.2.2.2.1) ((u_snapshots x2.toNatClampNeg).2.2.2.2.2.2.1) ((u_snapshots x2.toNatClampNeg).2.2.2.2.2.2.2.1) ((u_snapshots x2.toNatClampNeg).2.2.2.2.2.2.2.2.1) ((u_snapshots x2.toNatClampNeg).2.2.2.2.2.2.2.2.2.1) ((u_snapshots x2.toNatClampNeg).2.2.2.2.2.2.2.2.2.2.1) ((u_snapshots x2.toNatClampNeg).2.2.2.2.2.2.2.2.2.2.2.1) ((u_snapshots x2.toNatClampNeg).2.2.2.2.2.2.2.2.2.2.2.2)).bind fun r66 => f_X6_copyFrom_69 v_wheel k13 x2 (va_up v_snapshots x2.toNatClampNeg r66) v_taken_1)))))
def f_X6_copyFrom (v_wheel : VX8) (v_snapshots : (Nat → VX8)) (v_taken : (Nat → Int32)) (u_wheel : VX8) (u_snapshots : (Nat → VX8)) (u_taken : (Nat → Int32)) : Option (VX8 × (Nat → VX8) × (Nat → Int32)) := (f_X8_copyFrom v_wheel.1 v_wheel.2.1 v_wheel.2.2.1 u_wheel.1 u_wheel.2.1 u_wheel.2.2.1 u_wheel.2.2.2.1 u_wheel.2.2.2.2.1 u_wheel.2.2.2.2.2.1 u_wheel.2.2.2.2.2.2.1 u_wheel.2.2.2.2.2.2.2.1 u_wheel.2.2.2.2.2.2.2.2.1 u_wheel.2.2.2.2.2.2.2.2.2.1 u_wheel.2.2.2.2.2.2.2.2.2.2.1 u_wheel.2.2.2.2.2.2.2.2.2.2.2.1 u_wheel.2.2.2.2.2.2.2.2.2.2.2.2).bind fun r8 => zk_fx (F_X6_copyFrom_13 u_snapshots u_taken r8 ) zk_N (0, v_snapshots, v_taken)
theorem kX6_copyFrom_inX6 : ∀ w ∈ u_ws RX6 TX6 3, w ∈ wsX6_copyFrom := by decide +kernel
theorem kX6_copyFrom_1 : Cond.fieldLink RX6 12 (TX6 0).1 (TX6 0).2.1 (TX6 0).2.2.1 ∈ wsX6_copyFrom := by decide +kernel
theorem kX6_copyFrom_2 : Cond.fieldLink RX6 22 (TX6 2).1 (TX6 2).2.1 (TX6 2).2.2.1 ∈ wsX6_copyFrom := by decide +kernel
theorem kX6_copyFrom_3 : Cond.fieldLink RX6 18 (TX6 1).1 (TX6 1).2.1 (TX6 1).2.2.1 ∈ wsX6_copyFrom := by decide +kernel
theorem cd_X6_copyFrom : yX6_copyFrom.cls = RX6 ∧ yX6_copyFrom.cls ≠ "java/lang/invoke/MethodHandle" ∧ yX6_copyFrom.cls ≠ "java/lang/invoke/VarHandle" ∧ (parseMethodDescriptor yX6_copyFrom.desc).map (fun d => d.parameters.length) = some 1 := by decide +kernel
set_option maxRecDepth 100000 in
set_option maxHeartbeats 4000000 in
theorem c_X6_copyFrom (E : zk_Env) (l : Launch) (a : aX6) (v : VX6) (b1 : aX6) (u1 : VX6)  : zk_Mc E l yX6_copyFrom wsX6_copyFrom ({ frames := 3, cells := 0, slots := 0, locals := 60 } : Room) [.ref a.1, .ref b1.1] (zk_j [gX6 E a v, gX6 E b1 u1]) (f_X6_copyFrom v.1 v.2.1 v.2.2 u1.1 u1.2.1 u1.2.2) (fun _ => none) (fun r => (zk_j [gX6 E a r, gX6 E b1 u1])) := by
  obtain ⟨v_wheel, v_snapshots, v_taken⟩ := v
  obtain ⟨u_wheel, u_snapshots, u_taken⟩ := u1
  refine zk_M (cc := cX6_copyFrom) (nL := 5) (ret := none) (by decide) rfl (Nat.le_of_ble_eq_true rfl) (fun X Q hQ => ?_)
  have J69 : ∀ (v_wheel : VX8) (k13 : Int32 × (Nat → VX8) × (Nat → Int32) → Option (VX8 × (Nat → VX8) × (Nat → Int32))) (hk13 : ∀ s : Int32 × (Nat → VX8) × (Nat → Int32), zk_G E l X cX6_copyFrom 5 none yX6_copyFrom.cls wsX6_copyFrom ({ frames := 3, cells := 0, slots := 0, locals := 60 } : Room) 0 0 Q (zk_j [gX6 E a (v_wheel, s.2.1, s.2.2), gX6 E b1 (u_wheel, u_snapshots, u_taken)]) [(0, .ref a.1), (1, .ref b1.1), (2, .int s.1)] 13 [] (k13 s)) (x2 : Int32) (v_snapshots : (Nat → VX8)) (v_taken : (Nat → Int32)), zk_G E l X cX6_copyFrom 5 none yX6_copyFrom.cls wsX6_copyFrom ({ frames := 3, cells := 0, slots := 0, locals := 60 } : Room) 0 0 Q (zk_j [gX6 E a (v_wheel, v_snapshots, v_taken), gX6 E b1 (u_wheel, u_snapshots, u_taken)]) [(0, .ref a.1), (1, .ref b1.1), (2, .int x2)] 69 [] (f_X6_copyFrom_69 v_wheel k13 x2 v_snapshots v_taken) := by
    intro v_wheel k13 hk13 x2 v_snapshots v_taken
    unfold f_X6_copyFrom_69
    refine zk_iinc (x2 + 1) [(2, .int (x2 + 1)), (0, .ref a.1), (1, .ref b1.1)] dX6_copyFrom_69 2 rfl rfl (by decide) rfl 72 rfl ?_
    refine zk_goto dX6_copyFrom_72 13 (by decide) ?_
    refine zk_lv [1, 2, 0] rfl ?_
    exact hk13 ((x2 + 1), v_snapshots, v_taken)
  have J13 : ∀ (v_wheel : VX8) (n : Nat) (x2 : Int32) (v_snapshots : (Nat → VX8)) (v_taken : (Nat → Int32)), zk_G E l X cX6_copyFrom 5 none yX6_copyFrom.cls wsX6_copyFrom ({ frames := 3, cells := 0, slots := 0, locals := 60 } : Room) 0 0 Q (zk_j [gX6 E a (v_wheel, v_snapshots, v_taken), gX6 E b1 (u_wheel, u_snapshots, u_taken)]) [(0, .ref a.1), (1, .ref b1.1), (2, .int x2)] 13 [] (zk_fx (F_X6_copyFrom_13 u_snapshots u_taken v_wheel ) n (x2, v_snapshots, v_taken)) := by
    intro v_wheel n x2 v_snapshots v_taken
    refine zk_loop (S := Int32 × (Nat → VX8) × (Nat → Int32)) (F := F_X6_copyFrom_13 u_snapshots u_taken v_wheel) (wS := fun s => (zk_j [gX6 E a (v_wheel, s.2.1, s.2.2), gX6 E b1 (u_wheel, u_snapshots, u_taken)])) (lS := fun s => [(0, .ref a.1), (1, .ref b1.1), (2, .int s.1)]) (sS := fun _ => []) (fun k13 hk13 s => ?_) n (x2, v_snapshots, v_taken)
    obtain ⟨x2, v_snapshots, v_taken⟩ := s
    unfold F_X6_copyFrom_13
    try dsimp only
    refine zk_iload_n dX6_copyFrom_13 2 rfl 14 rfl ?_
    refine zk_iconst 2 dX6_copyFrom_14 (by decide) 15 rfl ?_
    refine zk_icmp_ge dX6_copyFrom_15 75 (by decide) 18 rfl (fun _ => ?_) (fun _ => ?_)
    · exact zk_vret hQ dX6_copyFrom_75 rfl rfl
    · refine zk_aload_n dX6_copyFrom_18 0 rfl 19 rfl ?_
      refine zk_get dX6_copyFrom_19 0 rfl rfl kX6_copyFrom_inX6 2 (by decide) kX6_copyFrom_2 rfl 22 rfl ?_
      refine zk_iload_n dX6_copyFrom_22 2 rfl 23 rfl ?_
      refine zk_aload_n dX6_copyFrom_23 1 rfl 24 rfl ?_
      refine zk_get dX6_copyFrom_24 36 rfl rfl kX6_copyFrom_inX6 2 (by decide) kX6_copyFrom_2 rfl 27 rfl ?_
      refine zk_iload_n dX6_copyFrom_27 2 rfl 28 rfl ?_
      refine zk_zald dX6_copyFrom_28 38 rfl 29 rfl ?_
      refine zk_zast (zk_j [gX6 E a (v_wheel, v_snapshots, (upd v_taken x2.toNatClampNeg (vp_nar .boolean (u_taken x2.toNatClampNeg)))), gX6 E b1 (u_wheel, u_snapshots, u_taken)]) dX6_copyFrom_29 2 rfl rfl 30 rfl ?_
      refine zk_nmw (fun v_taken_1 => (zk_j [gX6 E a (v_wheel, v_snapshots, v_taken_1), gX6 E b1 (u_wheel, u_snapshots, u_taken)])) _ rfl (fun v_taken_1 => ?_)
      refine zk_aload_n dX6_copyFrom_30 0 rfl 31 rfl ?_
      refine zk_get dX6_copyFrom_31 0 rfl rfl kX6_copyFrom_inX6 1 (by decide) kX6_copyFrom_3 rfl 34 rfl ?_
      refine zk_iload_n dX6_copyFrom_34 2 rfl 35 rfl ?_
      refine zk_aald 2 dX6_copyFrom_35 1 rfl rfl 36 rfl (fun hf35 => ?_)
      refine zk_astore_n [(3, .ref ((a.2.2.1.2 x2.toNatClampNeg).1)), (0, .ref a.1), (1, .ref b1.1), (2, .int x2)] dX6_copyFrom_36 (by decide) rfl 37 rfl ?_
      refine zk_aload_n dX6_copyFrom_37 2 rfl 38 rfl ?_
      refine zk_get dX6_copyFrom_38 36 rfl rfl kX6_copyFrom_inX6 1 (by decide) kX6_copyFrom_3 rfl 41 rfl ?_
      refine zk_iload_n dX6_copyFrom_41 3 rfl 42 rfl ?_
      refine zk_aald 2 dX6_copyFrom_42 37 rfl rfl 43 rfl (fun hf42 => ?_)
      refine zk_astore [(4, .ref ((b1.2.2.1.2 x2.toNatClampNeg).1)), (3, .ref ((a.2.2.1.2 x2.toNatClampNeg).1)), (0, .ref a.1), (1, .ref b1.1), (2, .int x2)] dX6_copyFrom_43 (by decide) rfl 45 rfl ?_
      refine zk_aload_n dX6_copyFrom_45 2 rfl 46 rfl ?_
      refine zk_get dX6_copyFrom_46 0 rfl rfl kX6_copyFrom_inX6 2 (by decide) kX6_copyFrom_2 rfl 49 rfl ?_
      refine zk_iload_n dX6_copyFrom_49 4 rfl 50 rfl ?_
      refine zk_zald dX6_copyFrom_50 2 rfl 51 rfl ?_
      refine zk_if_eq dX6_copyFrom_51 69 (by decide) 54 rfl (fun _ => ?_) (fun _ => ?_)
      · refine zk_lv [2, 3, 4] rfl ?_
        exact J69 v_wheel k13 hk13 x2 v_snapshots v_taken_1
      · refine zk_aload_n dX6_copyFrom_54 1 rfl 55 rfl ?_
        refine zk_ifnull dX6_copyFrom_55 58 rfl ?_
        refine zk_aload dX6_copyFrom_58 0 rfl 60 rfl ?_
        refine zk_ifnull dX6_copyFrom_60 63 rfl ?_
        refine zk_aload_n dX6_copyFrom_63 1 rfl 64 rfl ?_
        refine zk_aload dX6_copyFrom_64 0 rfl 66 rfl ?_
        refine zk_callV (ci := 8) (st := []) (c_X8_copyFrom E l (a.2.2.1.2 x2.toNatClampNeg) (v_snapshots x2.toNatClampNeg) (b1.2.2.1.2 x2.toNatClampNeg) (u_snapshots x2.toNatClampNeg)) dX6_copyFrom_66 1 gX6_copyFrom_X8_copyFrom rfl rfl rfl cd_X8_copyFrom ⟨Nat.le_of_ble_eq_true rfl, Nat.le_of_ble_eq_true rfl⟩ ⟨Nat.zero_le _, Nat.zero_le _⟩ _ (fun r66 => (zk_j [gX6 E a (v_wheel, (va_up v_snapshots x2.toNatClampNeg r66), v_taken_1), gX6 E b1 (u_wheel, u_snapshots, u_taken)])) (zk_pp zk_pa (zk_pb (gs := [gX6 E a (v_wheel, v_snapshots, v_taken_1), gX6 E b1 (u_wheel, u_snapshots, u_taken)]) (i := 0) (j := 1) rfl rfl (by decide)) (zk_pc zk_pa (zk_p1 (gs := (lX6 E a (v_wheel, v_snapshots, v_taken_1))) (i := 2 + x2.toNatClampNeg) (zk_fam_at rfl (zk_inb hf42)))) (zk_pc zk_pa (zk_p1 (gs := (lX6 E b1 (u_wheel, u_snapshots, u_taken))) (i := 2 + x2.toNatClampNeg) (zk_fam_at rfl (zk_inb hf42))))) (fun r66 => (zk_qq zk_qa (zk_qb (gs := [gX6 E a (v_wheel, v_snapshots, v_taken_1), gX6 E b1 (u_wheel, u_snapshots, u_taken)]) (i := 0) (j := 1) (g' := gX6 E a (v_wheel, (va_up v_snapshots x2.toNatClampNeg r66), v_taken_1)) (h' := gX6 E b1 (u_wheel, u_snapshots, u_taken)) rfl rfl (by decide) rfl) (zk_qc zk_qa (zk_q1 (gs := (lX6 E a (v_wheel, v_snapshots, v_taken_1))) (i := 2 + x2.toNatClampNeg) (w1 := gX6 E a (v_wheel, (va_up v_snapshots x2.toNatClampNeg r66), v_taken_1)) (zk_fam_at rfl (zk_inb hf42)) (congrArg zk_j (zk_famv (fun i v => gX8 E (a.2.2.1.2 i) v) (m := 2) rfl)))) (zk_qc zk_qa (zk_q1 (gs := (lX6 E b1 (u_wheel, u_snapshots, u_taken))) (i := 2 + x2.toNatClampNeg) (w1 := gX6 E b1 (u_wheel, u_snapshots, u_taken)) (zk_fam_at rfl (zk_inb hf42)) (zk_setrow (g := fun i => (fun i v => gX8 E (b1.2.2.1.2 i) v) i (u_snapshots i)) (l := hX6 E b1 (u_wheel, u_snapshots, u_taken)) (m := 2) rfl rfl))))) rfl rfl rfl rfl (Nat.le_of_ble_eq_true rfl) (fun r66 => []) (fun _ => rfl) 69 rfl (fun r66 => ?_)
        refine zk_lv [2, 3, 4] rfl ?_
        exact J69 v_wheel k13 hk13 x2 (va_up v_snapshots x2.toNatClampNeg r66) v_taken_1
  refine zk_eqv (w1 := (zk_j [gX6 E a (v_wheel, v_snapshots, v_taken), gX6 E b1 (u_wheel, u_snapshots, u_taken)])) (lv1 := [(0, .ref a.1), (1, .ref b1.1)]) (st1 := []) (o1 := f_X6_copyFrom v_wheel v_snapshots v_taken u_wheel u_snapshots u_taken) rfl rfl rfl rfl ?_
  unfold f_X6_copyFrom
  refine zk_aload_n dX6_copyFrom_0 0 rfl 1 rfl ?_
  refine zk_get dX6_copyFrom_1 0 rfl rfl kX6_copyFrom_inX6 0 (by decide) kX6_copyFrom_1 rfl 4 rfl ?_
  refine zk_aload_n dX6_copyFrom_4 1 rfl 5 rfl ?_
  refine zk_get dX6_copyFrom_5 36 rfl rfl kX6_copyFrom_inX6 0 (by decide) kX6_copyFrom_1 rfl 8 rfl ?_
  refine zk_callV (ci := 8) (st := []) (c_X8_copyFrom E l a.2.1 v_wheel b1.2.1 u_wheel) dX6_copyFrom_8 1 gX6_copyFrom_X8_copyFrom rfl rfl rfl cd_X8_copyFrom ⟨Nat.le_of_ble_eq_true rfl, Nat.le_of_ble_eq_true rfl⟩ ⟨Nat.zero_le _, Nat.zero_le _⟩ _ (fun r8 => (zk_j [gX6 E a (r8, v_snapshots, v_taken), gX6 E b1 (u_wheel, u_snapshots, u_taken)])) (zk_pp zk_pa (zk_pb (gs := [gX6 E a (v_wheel, v_snapshots, v_taken), gX6 E b1 (u_wheel, u_snapshots, u_taken)]) (i := 0) (j := 1) rfl rfl (by decide)) (zk_pc zk_pa (zk_p1 (gs := (lX6 E a (v_wheel, v_snapshots, v_taken))) (i := 1) rfl)) (zk_pc zk_pa (zk_p1 (gs := (lX6 E b1 (u_wheel, u_snapshots, u_taken))) (i := 1) rfl))) (fun r8 => (zk_qq zk_qa (zk_qb (gs := [gX6 E a (v_wheel, v_snapshots, v_taken), gX6 E b1 (u_wheel, u_snapshots, u_taken)]) (i := 0) (j := 1) (g' := gX6 E a (r8, v_snapshots, v_taken)) (h' := gX6 E b1 (u_wheel, u_snapshots, u_taken)) rfl rfl (by decide) rfl) (zk_qc zk_qa (zk_q1 (gs := (lX6 E a (v_wheel, v_snapshots, v_taken))) (i := 1) (w1 := gX6 E a (r8, v_snapshots, v_taken)) rfl rfl)) (zk_qc zk_qa (zk_q1 (gs := (lX6 E b1 (u_wheel, u_snapshots, u_taken))) (i := 1) (w1 := gX6 E b1 (u_wheel, u_snapshots, u_taken)) rfl rfl)))) rfl rfl rfl rfl (Nat.le_of_ble_eq_true rfl) (fun r8 => []) (fun _ => rfl) 11 rfl (fun r8 => ?_)
  refine zk_iconst 0 dX6_copyFrom_11 (by decide) 12 rfl ?_
  refine zk_istore_n [(2, .int 0), (0, .ref a.1), (1, .ref b1.1)] dX6_copyFrom_12 (by decide) rfl 13 rfl ?_
  refine zk_lv [1, 2, 0] rfl ?_
  exact J13   r8 zk_N 0 v_snapshots v_taken
def f_X2_note (v_rows : (Nat → VX6)) (v_noted : Int32) (u_wheel : VX8) (u_snapshots : (Nat → VX8)) (u_taken : (Nat → Int32)) : Option ((Nat → VX6)) := (f_X2_rowAt v_noted).bind fun r5 => zk_oc r5 6 (some v_rows) (fun k_5 => (f_X6_copyFrom ((v_rows k_5).1) ((v_rows k_5).2.1) ((v_rows k_5).2.2) u_wheel u_snapshots u_taken).bind fun r15 => some (va_up v_rows k_5 r15))
theorem kX2_note_inX2 : ∀ w ∈ u_ws RX2 TX2 3, w ∈ wsX2_note := by decide +kernel
theorem kX2_note_1 : Cond.fieldLink RX2 22 (TX2 1).1 (TX2 1).2.1 (TX2 1).2.2.1 ∈ wsX2_note := by decide +kernel
theorem cd_X2_note : yX2_note.cls = RX2 ∧ yX2_note.cls ≠ "java/lang/invoke/MethodHandle" ∧ yX2_note.cls ≠ "java/lang/invoke/VarHandle" ∧ (parseMethodDescriptor yX2_note.desc).map (fun d => d.parameters.length) = some 1 := by decide +kernel
set_option maxRecDepth 100000 in
set_option maxHeartbeats 4000000 in
theorem c_X2_note (E : zk_Env) (l : Launch) (a : aX2) (v : VX2) (b1 : aX6) (u1 : VX6)  : zk_Mc E l yX2_note wsX2_note ({ frames := 4, cells := 0, slots := 0, locals := 84 } : Room) [.ref a.1, .ref b1.1] (zk_j [gX2 E a v, gX6 E b1 u1]) (f_X2_note v.1 v.2.1 u1.1 u1.2.1 u1.2.2) (fun _ => none) (fun r => (zk_j [gX2 E a (r, v.2), gX6 E b1 u1])) := by
  obtain ⟨v_rows, v_noted, v_states⟩ := v
  obtain ⟨u_wheel, u_snapshots, u_taken⟩ := u1
  refine zk_M (cc := cX2_note) (nL := 3) (ret := none) (by decide) rfl (Nat.le_of_ble_eq_true rfl) (fun X Q hQ => ?_)
  refine zk_eqv (w1 := (zk_j [gX2 E a (v_rows, v_noted, v_states), gX6 E b1 (u_wheel, u_snapshots, u_taken)])) (lv1 := [(0, .ref a.1), (1, .ref b1.1)]) (st1 := []) (o1 := f_X2_note v_rows v_noted u_wheel u_snapshots u_taken) rfl rfl rfl rfl ?_
  unfold f_X2_note
  refine zk_aload_n dX2_note_0 0 rfl 1 rfl ?_
  refine zk_aload_n dX2_note_1 0 rfl 2 rfl ?_
  refine zk_get dX2_note_2 0 rfl rfl kX2_note_inX2 1 (by decide) kX2_note_1 rfl 5 rfl ?_
  refine zk_callV (ci := 2) (st := []) (c_X2_rowAt E l a (v_rows, v_noted, v_states) v_noted) dX2_note_5 1 gX2_note_X2_rowAt rfl rfl rfl cd_X2_rowAt ⟨Nat.le_of_ble_eq_true rfl, Nat.le_of_ble_eq_true rfl⟩ ⟨Nat.zero_le _, Nat.zero_le _⟩ _ (fun r5 => (zk_j [gX2 E a (v_rows, v_noted, v_states), gX6 E b1 (u_wheel, u_snapshots, u_taken)])) (zk_p1 (gs := [gX2 E a (v_rows, v_noted, v_states), gX6 E b1 (u_wheel, u_snapshots, u_taken)]) (i := 0) rfl) (fun r5 => (zk_q1 (gs := [gX2 E a (v_rows, v_noted, v_states), gX6 E b1 (u_wheel, u_snapshots, u_taken)]) (i := 0) rfl rfl)) rfl rfl rfl rfl (Nat.le_of_ble_eq_true rfl) (fun r5 => [va_rf (r5.map (fun k => (a.2.2 k).1))]) (fun _ => rfl) 8 rfl (fun r5 => ?_)
  refine zk_optc (n := 6) (A := (fun k => (a.2.2 k).1)) ?_ (fun k_5 hk_5 => ?_)
  · refine zk_astore_nN [(2, .null), (0, .ref a.1), (1, .ref b1.1)] dX2_note_8 (by decide) rfl 9 rfl ?_
    refine zk_aload_nN dX2_note_9 0 rfl 10 rfl ?_
    refine zk_ifnullN dX2_note_10 18 (by decide) ?_
    exact zk_vret hQ dX2_note_18 rfl rfl
  · refine zk_astore_n [(2, .ref ((a.2.2 k_5).1)), (0, .ref a.1), (1, .ref b1.1)] dX2_note_8 (by decide) rfl 9 rfl ?_
    refine zk_aload_n dX2_note_9 0 rfl 10 rfl ?_
    refine zk_ifnull dX2_note_10 13 rfl ?_
    refine zk_aload_n dX2_note_13 0 rfl 14 rfl ?_
    refine zk_aload_n dX2_note_14 2 rfl 15 rfl ?_
    refine zk_callV (ci := 6) (st := []) (c_X6_copyFrom E l (a.2.2 k_5) (v_rows k_5) b1 (u_wheel, u_snapshots, u_taken)) dX2_note_15 1 gX2_note_X6_copyFrom rfl rfl rfl cd_X6_copyFrom ⟨Nat.le_of_ble_eq_true rfl, Nat.le_of_ble_eq_true rfl⟩ ⟨Nat.zero_le _, Nat.zero_le _⟩ _ (fun r15 => (zk_j [gX2 E a ((va_up v_rows k_5 r15), v_noted, v_states), gX6 E b1 (u_wheel, u_snapshots, u_taken)])) (zk_pp zk_pa (zk_pb (gs := [gX2 E a (v_rows, v_noted, v_states), gX6 E b1 (u_wheel, u_snapshots, u_taken)]) (i := 0) (j := 1) rfl rfl (by decide)) (zk_pc zk_pa (zk_p1 (gs := (lX2 E a (v_rows, v_noted, v_states))) (i := 1 + k_5) (zk_fam_at rfl hk_5))) zk_pa) (fun r15 => (zk_qq zk_qa (zk_qb (gs := [gX2 E a (v_rows, v_noted, v_states), gX6 E b1 (u_wheel, u_snapshots, u_taken)]) (i := 0) (j := 1) (g' := gX2 E a ((va_up v_rows k_5 r15), v_noted, v_states)) (h' := gX6 E b1 (u_wheel, u_snapshots, u_taken)) rfl rfl (by decide) rfl) (zk_qc zk_qa (zk_q1 (gs := (lX2 E a (v_rows, v_noted, v_states))) (i := 1 + k_5) (w1 := gX2 E a ((va_up v_rows k_5 r15), v_noted, v_states)) (zk_fam_at rfl hk_5) (congrArg zk_j (zk_famv (fun i v => gX6 E (a.2.2 i) v) (m := 1) rfl)))) zk_qa)) rfl rfl rfl rfl (Nat.le_of_ble_eq_true rfl) (fun r15 => []) (fun _ => rfl) 18 rfl (fun r15 => ?_)
    exact zk_vret hQ dX2_note_18 rfl rfl
def f_X2_copyNotedInto (v_rows : (Nat → VX6)) (v_noted : Int32) (u_wheel : VX8) (u_snapshots : (Nat → VX8)) (u_taken : (Nat → Int32)) : Option (VX8 × (Nat → VX8) × (Nat → Int32)) := (f_X2_rowAt v_noted).bind fun r5 => zk_oc r5 6 (some (u_wheel, u_snapshots, u_taken)) (fun k_5 => (f_X6_copyFrom u_wheel u_snapshots u_taken ((v_rows k_5).1) ((v_rows k_5).2.1) ((v_rows k_5).2.2)).bind fun r15 => some (r15.1, r15.2.1, r15.2.2))
theorem kX2_copyNotedInto_inX2 : ∀ w ∈ u_ws RX2 TX2 3, w ∈ wsX2_copyNotedInto := by decide +kernel
theorem kX2_copyNotedInto_1 : Cond.fieldLink RX2 22 (TX2 1).1 (TX2 1).2.1 (TX2 1).2.2.1 ∈ wsX2_copyNotedInto := by decide +kernel
theorem cd_X2_copyNotedInto : yX2_copyNotedInto.cls = RX2 ∧ yX2_copyNotedInto.cls ≠ "java/lang/invoke/MethodHandle" ∧ yX2_copyNotedInto.cls ≠ "java/lang/invoke/VarHandle" ∧ (parseMethodDescriptor yX2_copyNotedInto.desc).map (fun d => d.parameters.length) = some 1 := by decide +kernel
set_option maxRecDepth 100000 in
set_option maxHeartbeats 4000000 in
theorem c_X2_copyNotedInto (E : zk_Env) (l : Launch) (a : aX2) (v : VX2) (b1 : aX6) (u1 : VX6)  : zk_Mc E l yX2_copyNotedInto wsX2_copyNotedInto ({ frames := 4, cells := 0, slots := 0, locals := 84 } : Room) [.ref a.1, .ref b1.1] (zk_j [gX2 E a v, gX6 E b1 u1]) (f_X2_copyNotedInto v.1 v.2.1 u1.1 u1.2.1 u1.2.2) (fun _ => none) (fun r => (zk_j [gX2 E a v, gX6 E b1 r])) := by
  obtain ⟨v_rows, v_noted, v_states⟩ := v
  obtain ⟨u_wheel, u_snapshots, u_taken⟩ := u1
  refine zk_M (cc := cX2_copyNotedInto) (nL := 3) (ret := none) (by decide) rfl (Nat.le_of_ble_eq_true rfl) (fun X Q hQ => ?_)
  refine zk_eqv (w1 := (zk_j [gX2 E a (v_rows, v_noted, v_states), gX6 E b1 (u_wheel, u_snapshots, u_taken)])) (lv1 := [(0, .ref a.1), (1, .ref b1.1)]) (st1 := []) (o1 := f_X2_copyNotedInto v_rows v_noted u_wheel u_snapshots u_taken) rfl rfl rfl rfl ?_
  unfold f_X2_copyNotedInto
  refine zk_aload_n dX2_copyNotedInto_0 0 rfl 1 rfl ?_
  refine zk_aload_n dX2_copyNotedInto_1 0 rfl 2 rfl ?_
  refine zk_get dX2_copyNotedInto_2 0 rfl rfl kX2_copyNotedInto_inX2 1 (by decide) kX2_copyNotedInto_1 rfl 5 rfl ?_
  refine zk_callV (ci := 2) (st := []) (c_X2_rowAt E l a (v_rows, v_noted, v_states) v_noted) dX2_copyNotedInto_5 1 gX2_copyNotedInto_X2_rowAt rfl rfl rfl cd_X2_rowAt ⟨Nat.le_of_ble_eq_true rfl, Nat.le_of_ble_eq_true rfl⟩ ⟨Nat.zero_le _, Nat.zero_le _⟩ _ (fun r5 => (zk_j [gX2 E a (v_rows, v_noted, v_states), gX6 E b1 (u_wheel, u_snapshots, u_taken)])) (zk_p1 (gs := [gX2 E a (v_rows, v_noted, v_states), gX6 E b1 (u_wheel, u_snapshots, u_taken)]) (i := 0) rfl) (fun r5 => (zk_q1 (gs := [gX2 E a (v_rows, v_noted, v_states), gX6 E b1 (u_wheel, u_snapshots, u_taken)]) (i := 0) rfl rfl)) rfl rfl rfl rfl (Nat.le_of_ble_eq_true rfl) (fun r5 => [va_rf (r5.map (fun k => (a.2.2 k).1))]) (fun _ => rfl) 8 rfl (fun r5 => ?_)
  refine zk_optc (n := 6) (A := (fun k => (a.2.2 k).1)) ?_ (fun k_5 hk_5 => ?_)
  · refine zk_astore_nN [(2, .null), (0, .ref a.1), (1, .ref b1.1)] dX2_copyNotedInto_8 (by decide) rfl 9 rfl ?_
    refine zk_aload_nN dX2_copyNotedInto_9 0 rfl 10 rfl ?_
    refine zk_ifnullN dX2_copyNotedInto_10 18 (by decide) ?_
    exact zk_vret hQ dX2_copyNotedInto_18 rfl rfl
  · refine zk_astore_n [(2, .ref ((a.2.2 k_5).1)), (0, .ref a.1), (1, .ref b1.1)] dX2_copyNotedInto_8 (by decide) rfl 9 rfl ?_
    refine zk_aload_n dX2_copyNotedInto_9 0 rfl 10 rfl ?_
    refine zk_ifnull dX2_copyNotedInto_10 13 rfl ?_
    refine zk_aload_n dX2_copyNotedInto_13 2 rfl 14 rfl ?_
    refine zk_aload_n dX2_copyNotedInto_14 0 rfl 15 rfl ?_
    refine zk_callV (ci := 6) (st := []) (c_X6_copyFrom E l b1 (u_wheel, u_snapshots, u_taken) (a.2.2 k_5) (v_rows k_5)) dX2_copyNotedInto_15 1 gX2_copyNotedInto_X6_copyFrom rfl rfl rfl cd_X6_copyFrom ⟨Nat.le_of_ble_eq_true rfl, Nat.le_of_ble_eq_true rfl⟩ ⟨Nat.zero_le _, Nat.zero_le _⟩ _ (fun r15 => (zk_j [gX2 E a (v_rows, v_noted, v_states), gX6 E b1 r15])) (zk_pp zk_pa (zk_pb (gs := [gX2 E a (v_rows, v_noted, v_states), gX6 E b1 (u_wheel, u_snapshots, u_taken)]) (i := 1) (j := 0) rfl rfl (by decide)) zk_pa (zk_pc zk_pa (zk_p1 (gs := (lX2 E a (v_rows, v_noted, v_states))) (i := 1 + k_5) (zk_fam_at rfl hk_5)))) (fun r15 => (zk_qq zk_qa (zk_qb (gs := [gX2 E a (v_rows, v_noted, v_states), gX6 E b1 (u_wheel, u_snapshots, u_taken)]) (i := 1) (j := 0) (g' := gX6 E b1 r15) (h' := gX2 E a (v_rows, v_noted, v_states)) rfl rfl (by decide) rfl) zk_qa (zk_qc zk_qa (zk_q1 (gs := (lX2 E a (v_rows, v_noted, v_states))) (i := 1 + k_5) (w1 := gX2 E a (v_rows, v_noted, v_states)) (zk_fam_at rfl hk_5) (zk_setrow (g := fun i => (fun i v => gX6 E (a.2.2 i) v) i (v_rows i)) (l := hX2 E a (v_rows, v_noted, v_states)) (m := 1) rfl rfl))))) rfl rfl rfl rfl (Nat.le_of_ble_eq_true rfl) (fun r15 => []) (fun _ => rfl) 18 rfl (fun r15 => ?_)
    exact zk_vret hQ dX2_copyNotedInto_18 rfl rfl
def f_X2_stepBack (v_rows : (Nat → VX6)) (v_noted : Int32) (v_states : Int32) (u_wheel : VX8) (u_snapshots : (Nat → VX8)) (u_taken : (Nat → Int32)) : Option (Int32 × Int32 × Int32 × VX8 × (Nat → VX8) × (Nat → Int32)) := if 1 ≤ v_states then zk_let (zk_rem ((v_noted + 6) - 1) 6) fun v_noted_1 => zk_let (v_states - 1) fun v_states_2 => (f_X2_copyNotedInto v_rows v_noted_1 u_wheel u_snapshots u_taken).bind fun r39 => some (v_states_2, v_noted_1, v_states_2, r39.1, r39.2.1, r39.2.2) else some ((-2), v_noted, v_states, u_wheel, u_snapshots, u_taken)
theorem kX2_stepBack_inX2 : ∀ w ∈ u_ws RX2 TX2 3, w ∈ wsX2_stepBack := by decide +kernel
theorem kX2_stepBack_1 : Cond.fieldLink RX2 18 (TX2 2).1 (TX2 2).2.1 (TX2 2).2.2.1 ∈ wsX2_stepBack := by decide +kernel
theorem kX2_stepBack_2 : Cond.fieldLink RX2 22 (TX2 1).1 (TX2 1).2.1 (TX2 1).2.2.1 ∈ wsX2_stepBack := by decide +kernel
theorem cd_X2_stepBack : yX2_stepBack.cls = RX2 ∧ yX2_stepBack.cls ≠ "java/lang/invoke/MethodHandle" ∧ yX2_stepBack.cls ≠ "java/lang/invoke/VarHandle" ∧ (parseMethodDescriptor yX2_stepBack.desc).map (fun d => d.parameters.length) = some 1 := by decide +kernel
set_option maxRecDepth 100000 in
set_option maxHeartbeats 4000000 in
theorem c_X2_stepBack (E : zk_Env) (l : Launch) (a : aX2) (v : VX2) (b1 : aX6) (u1 : VX6)  : zk_Mc E l yX2_stepBack wsX2_stepBack ({ frames := 5, cells := 0, slots := 0, locals := 106 } : Room) [.ref a.1, .ref b1.1] (zk_j [gX2 E a v, gX6 E b1 u1]) (f_X2_stepBack v.1 v.2.1 v.2.2 u1.1 u1.2.1 u1.2.2) (fun r => some (.int r.1)) (fun r => (zk_j [gX2 E a (v.1, r.2.1, r.2.2.1), gX6 E b1 r.2.2.2])) := by
  obtain ⟨v_rows, v_noted, v_states⟩ := v
  obtain ⟨u_wheel, u_snapshots, u_taken⟩ := u1
  refine zk_M (cc := cX2_stepBack) (nL := 2) (ret := (some .int)) (by decide) rfl (Nat.le_of_ble_eq_true rfl) (fun X Q hQ => ?_)
  refine zk_eqv (w1 := (zk_j [gX2 E a (v_rows, v_noted, v_states), gX6 E b1 (u_wheel, u_snapshots, u_taken)])) (lv1 := [(0, .ref a.1), (1, .ref b1.1)]) (st1 := []) (o1 := f_X2_stepBack v_rows v_noted v_states u_wheel u_snapshots u_taken) rfl rfl rfl rfl ?_
  unfold f_X2_stepBack
  refine zk_aload_n dX2_stepBack_0 0 rfl 1 rfl ?_
  refine zk_get dX2_stepBack_1 0 rfl rfl kX2_stepBack_inX2 2 (by decide) kX2_stepBack_1 rfl 4 rfl ?_
  refine zk_iconst 1 dX2_stepBack_4 (by decide) 5 rfl ?_
  refine zk_icmp_ge dX2_stepBack_5 11 (by decide) 8 rfl (fun _ => ?_) (fun _ => ?_)
  · refine zk_aload_n dX2_stepBack_11 0 rfl 12 rfl ?_
    refine zk_aload_n dX2_stepBack_12 0 rfl 13 rfl ?_
    refine zk_get dX2_stepBack_13 0 rfl rfl kX2_stepBack_inX2 1 (by decide) kX2_stepBack_2 rfl 16 rfl ?_
    refine zk_bipush 6 dX2_stepBack_16 (by decide) 18 rfl ?_
    refine zk_iadd dX2_stepBack_18 19 rfl ?_
    refine zk_iconst 1 dX2_stepBack_19 (by decide) 20 rfl ?_
    refine zk_isub dX2_stepBack_20 21 rfl ?_
    refine zk_bipush 6 dX2_stepBack_21 (by decide) 23 rfl ?_
    refine zk_iremL dX2_stepBack_23 (by decide) 24 rfl ?_
    refine zk_nm (fun v_noted_1 => ?_)
    refine zk_put_ tyX2 (zk_j [gX2 E a (v_rows, v_noted_1, v_states), gX6 E b1 (u_wheel, u_snapshots, u_taken)]) dX2_stepBack_24 0 rfl rfl kX2_stepBack_inX2 tyX2_ok nmX2 1 (by decide) kX2_stepBack_2 rfl (tyX2_ok 1 (by decide)) rfl rfl (Nat.le_of_ble_eq_true rfl) rfl 27 rfl ?_
    refine zk_aload_n dX2_stepBack_27 0 rfl 28 rfl ?_
    refine zk_dup dX2_stepBack_28 rfl 29 rfl ?_
    refine zk_get dX2_stepBack_29 0 rfl rfl kX2_stepBack_inX2 2 (by decide) kX2_stepBack_1 rfl 32 rfl ?_
    refine zk_iconst 1 dX2_stepBack_32 (by decide) 33 rfl ?_
    refine zk_isub dX2_stepBack_33 34 rfl ?_
    refine zk_nm (fun v_states_2 => ?_)
    refine zk_put_ tyX2 (zk_j [gX2 E a (v_rows, v_noted_1, v_states_2), gX6 E b1 (u_wheel, u_snapshots, u_taken)]) dX2_stepBack_34 0 rfl rfl kX2_stepBack_inX2 tyX2_ok nmX2 2 (by decide) kX2_stepBack_1 rfl (tyX2_ok 2 (by decide)) rfl rfl (Nat.le_of_ble_eq_true rfl) rfl 37 rfl ?_
    refine zk_aload_n dX2_stepBack_37 0 rfl 38 rfl ?_
    refine zk_aload_n dX2_stepBack_38 1 rfl 39 rfl ?_
    refine zk_callV (ci := 2) (st := []) (c_X2_copyNotedInto E l a (v_rows, v_noted_1, v_states_2) b1 (u_wheel, u_snapshots, u_taken)) dX2_stepBack_39 1 gX2_stepBack_X2_copyNotedInto rfl rfl rfl cd_X2_copyNotedInto ⟨Nat.le_of_ble_eq_true rfl, Nat.le_of_ble_eq_true rfl⟩ ⟨Nat.zero_le _, Nat.zero_le _⟩ _ (fun r39 => (zk_j [gX2 E a (v_rows, v_noted_1, v_states_2), gX6 E b1 r39])) (zk_pp zk_pa (zk_pb (gs := [gX2 E a (v_rows, v_noted_1, v_states_2), gX6 E b1 (u_wheel, u_snapshots, u_taken)]) (i := 0) (j := 1) rfl rfl (by decide)) zk_pa zk_pa) (fun r39 => (zk_qq zk_qa (zk_qb (gs := [gX2 E a (v_rows, v_noted_1, v_states_2), gX6 E b1 (u_wheel, u_snapshots, u_taken)]) (i := 0) (j := 1) (g' := gX2 E a (v_rows, v_noted_1, v_states_2)) (h' := gX6 E b1 r39) rfl rfl (by decide) rfl) zk_qa zk_qa)) rfl rfl rfl rfl (Nat.le_of_ble_eq_true rfl) (fun r39 => []) (fun _ => rfl) 42 rfl (fun r39 => ?_)
    refine zk_aload_n dX2_stepBack_42 0 rfl 43 rfl ?_
    refine zk_get dX2_stepBack_43 0 rfl rfl kX2_stepBack_inX2 2 (by decide) kX2_stepBack_1 rfl 46 rfl ?_
    exact zk_iret hQ dX2_stepBack_46 rfl rfl
  · refine zk_bipush (-2) dX2_stepBack_8 (by decide) 10 rfl ?_
    exact zk_iret hQ dX2_stepBack_10 rfl rfl
def F_X1_tickOfCall_24 (x2 : Int32) (x3 : Int32) (k24 : Int32 × VX8 → Option (Int32 × VX8)) : Int32 × VX8 → Option (Int32 × VX8) := fun s => match s with
  | (x4, v_imagined) => if 600 ≤ x4 then some ((-9), v_imagined) else (f_X8_passTick v_imagined.1 v_imagined.2.1 v_imagined.2.2.1 v_imagined.2.2.2.1 v_imagined.2.2.2.2.1 v_imagined.2.2.2.2.2.1 v_imagined.2.2.2.2.2.2.1 v_imagined.2.2.2.2.2.2.2.1 v_imagined.2.2.2.2.2.2.2.2.1 v_imagined.2.2.2.2.2.2.2.2.2.1 v_imagined.2.2.2.2.2.2.2.2.2.2.1 v_imagined.2.2.2.2.2.2.2.2.2.2.2.1 v_imagined.2.2.2.2.2.2.2.2.2.2.2.2).bind fun r36 => (f_X5_fact x2 4 r36.1.1).bind fun r48 => if r48 = x3 then k24 ((x4 + 1), (r36.1, r36.2.1, r36.2.2.1, r36.2.2.2.1, v_imagined.2.2.2.2.1, v_imagined.2.2.2.2.2.1, v_imagined.2.2.2.2.2.2.1, r36.2.2.2.2.1, r36.2.2.2.2.2.1, r36.2.2.2.2.2.2.1, r36.2.2.2.2.2.2.2.1, r36.2.2.2.2.2.2.2.2.1, r36.2.2.2.2.2.2.2.2.2)) else some (r36.2.2.2.1, (r36.1, r36.2.1, r36.2.2.1, r36.2.2.2.1, v_imagined.2.2.2.2.1, v_imagined.2.2.2.2.2.1, v_imagined.2.2.2.2.2.2.1, r36.2.2.2.2.1, r36.2.2.2.2.2.1, r36.2.2.2.2.2.2.1, r36.2.2.2.2.2.2.2.1, r36.2.2.2.2.2.2.2.2.1, r36.2.2.2.2.2.2.2.2.2))
def f_X1_tickOfCall (x2 : Int32) (v_imagined : VX8) (u_promises : VX5) (u_lines : VX3) (u_diary : VX0) (u_now : Int32) (u_room : Int32) (u_bound : Int32) (u_drift : Int32) (u_brokenStanding : Int32) (u_lateCalls : Int32) (u_falls : Int32) (u_swept : Int32) (u_passedOver : Int32) (u_longestQueue : Int32) : Option (Int32 × VX8) := (f_X8_copyFrom v_imagined.1 v_imagined.2.1 v_imagined.2.2.1 u_promises u_lines u_diary u_now u_room u_bound u_drift u_brokenStanding u_lateCalls u_falls u_swept u_passedOver u_longestQueue).bind fun r5 => (f_X5_fact x2 4 r5.1.1).bind fun r17 => zk_fx (F_X1_tickOfCall_24 x2 r17 ) zk_N (0, r5)
theorem kX1_tickOfCall_inX1 : ∀ w ∈ u_ws RX1 TX1 1, w ∈ wsX1_tickOfCall := by decide +kernel
theorem kX1_tickOfCall_1 : Cond.fieldLink RX1 12 (TX1 0).1 (TX1 0).2.1 (TX1 0).2.2.1 ∈ wsX1_tickOfCall := by decide +kernel
theorem kX1_tickOfCall_inX8 : ∀ w ∈ u_ws RX8 TX8 13, w ∈ wsX1_tickOfCall := by decide +kernel
theorem cd_X1_tickOfCall : yX1_tickOfCall.cls = RX1 ∧ yX1_tickOfCall.cls ≠ "java/lang/invoke/MethodHandle" ∧ yX1_tickOfCall.cls ≠ "java/lang/invoke/VarHandle" ∧ (parseMethodDescriptor yX1_tickOfCall.desc).map (fun d => d.parameters.length) = some 2 := by decide +kernel
set_option maxRecDepth 100000 in
set_option maxHeartbeats 4000000 in
theorem c_X1_tickOfCall (E : zk_Env) (l : Launch) (a : aX1) (v : VX1) (b1 : aX8) (u1 : VX8) (x2 : Int32) : zk_Mc E l yX1_tickOfCall wsX1_tickOfCall ({ frames := 5, cells := 0, slots := 0, locals := 115 } : Room) [.ref a.1, .ref b1.1, .int x2] (zk_j [gX1 E a v, gX8 E b1 u1]) (f_X1_tickOfCall x2 v u1.1 u1.2.1 u1.2.2.1 u1.2.2.2.1 u1.2.2.2.2.1 u1.2.2.2.2.2.1 u1.2.2.2.2.2.2.1 u1.2.2.2.2.2.2.2.1 u1.2.2.2.2.2.2.2.2.1 u1.2.2.2.2.2.2.2.2.2.1 u1.2.2.2.2.2.2.2.2.2.2.1 u1.2.2.2.2.2.2.2.2.2.2.2.1 u1.2.2.2.2.2.2.2.2.2.2.2.2) (fun r => some (.int r.1)) (fun r => (zk_j [gX1 E a r.2, gX8 E b1 u1])) := by
  obtain ⟨v_imagined, rfl⟩ : ∃ z, z = v := ⟨_, rfl⟩
  obtain ⟨u_promises, u_lines, u_diary, u_now, u_room, u_bound, u_drift, u_brokenStanding, u_lateCalls, u_falls, u_swept, u_passedOver, u_longestQueue⟩ := u1
  refine zk_M (cc := cX1_tickOfCall) (nL := 5) (ret := (some .int)) (by decide) rfl (Nat.le_of_ble_eq_true rfl) (fun X Q hQ => ?_)
  have J24 : ∀ (x3 : Int32) (n : Nat) (x4 : Int32) (v_imagined : VX8), zk_G E l X cX1_tickOfCall 5 (some .int) yX1_tickOfCall.cls wsX1_tickOfCall ({ frames := 5, cells := 0, slots := 0, locals := 115 } : Room) 0 0 Q (zk_j [gX1 E a v_imagined, gX8 E b1 (u_promises, u_lines, u_diary, u_now, u_room, u_bound, u_drift, u_brokenStanding, u_lateCalls, u_falls, u_swept, u_passedOver, u_longestQueue)]) [(0, .ref a.1), (2, .int x2), (3, .int x3), (4, .int x4)] 24 [] (zk_fx (F_X1_tickOfCall_24 x2 x3 ) n (x4, v_imagined)) := by
    intro x3 n x4 v_imagined
    refine zk_loop (S := Int32 × VX8) (F := F_X1_tickOfCall_24 x2 x3) (wS := fun s => (zk_j [gX1 E a s.2, gX8 E b1 (u_promises, u_lines, u_diary, u_now, u_room, u_bound, u_drift, u_brokenStanding, u_lateCalls, u_falls, u_swept, u_passedOver, u_longestQueue)])) (lS := fun s => [(0, .ref a.1), (2, .int x2), (3, .int x3), (4, .int s.1)]) (sS := fun _ => []) (fun k24 hk24 s => ?_) n (x4, v_imagined)
    obtain ⟨x4, v_imagined⟩ := s
    unfold F_X1_tickOfCall_24
    try dsimp only
    refine zk_iload dX1_tickOfCall_24 3 rfl 26 rfl ?_
    refine zk_sipush 600 dX1_tickOfCall_26 (by decide) 29 rfl ?_
    refine zk_icmp_ge dX1_tickOfCall_29 69 (by decide) 32 rfl (fun _ => ?_) (fun _ => ?_)
    · refine zk_bipush (-9) dX1_tickOfCall_69 (by decide) 71 rfl ?_
      exact zk_iret hQ dX1_tickOfCall_71 rfl rfl
    · refine zk_aload_n dX1_tickOfCall_32 0 rfl 33 rfl ?_
      refine zk_get dX1_tickOfCall_33 0 rfl rfl kX1_tickOfCall_inX1 0 (by decide) kX1_tickOfCall_1 rfl 36 rfl ?_
      refine zk_callV (ci := 8) (st := []) (c_X8_passTick E l a.2 v_imagined) dX1_tickOfCall_36 0 gX1_tickOfCall_X8_passTick rfl rfl rfl cd_X8_passTick ⟨Nat.le_of_ble_eq_true rfl, Nat.le_of_ble_eq_true rfl⟩ ⟨Nat.zero_le _, Nat.zero_le _⟩ _ (fun r36 => (zk_j [gX1 E a (r36.1, r36.2.1, r36.2.2.1, r36.2.2.2.1, v_imagined.2.2.2.2.1, v_imagined.2.2.2.2.2.1, v_imagined.2.2.2.2.2.2.1, r36.2.2.2.2.1, r36.2.2.2.2.2.1, r36.2.2.2.2.2.2.1, r36.2.2.2.2.2.2.2.1, r36.2.2.2.2.2.2.2.2.1, r36.2.2.2.2.2.2.2.2.2), gX8 E b1 (u_promises, u_lines, u_diary, u_now, u_room, u_bound, u_drift, u_brokenStanding, u_lateCalls, u_falls, u_swept, u_passedOver, u_longestQueue)])) (zk_pc (zk_p1 (gs := [gX1 E a v_imagined, gX8 E b1 (u_promises, u_lines, u_diary, u_now, u_room, u_bound, u_drift, u_brokenStanding, u_lateCalls, u_falls, u_swept, u_passedOver, u_longestQueue)]) (i := 0) rfl) (zk_p1 (gs := (lX1 E a v_imagined)) (i := 1) rfl)) (fun r36 => (zk_qc (zk_q1 (gs := [gX1 E a v_imagined, gX8 E b1 (u_promises, u_lines, u_diary, u_now, u_room, u_bound, u_drift, u_brokenStanding, u_lateCalls, u_falls, u_swept, u_passedOver, u_longestQueue)]) (i := 0) rfl rfl) (zk_q1 (gs := (lX1 E a v_imagined)) (i := 1) (w1 := gX1 E a (r36.1, r36.2.1, r36.2.2.1, r36.2.2.2.1, v_imagined.2.2.2.2.1, v_imagined.2.2.2.2.2.1, v_imagined.2.2.2.2.2.2.1, r36.2.2.2.2.1, r36.2.2.2.2.2.1, r36.2.2.2.2.2.2.1, r36.2.2.2.2.2.2.2.1, r36.2.2.2.2.2.2.2.2.1, r36.2.2.2.2.2.2.2.2.2)) rfl rfl))) rfl rfl rfl rfl (Nat.le_of_ble_eq_true rfl) (fun r36 => []) (fun _ => rfl) 39 rfl (fun r36 => ?_)
      refine zk_aload_n dX1_tickOfCall_39 0 rfl 40 rfl ?_
      refine zk_get dX1_tickOfCall_40 0 rfl rfl kX1_tickOfCall_inX1 0 (by decide) kX1_tickOfCall_1 rfl 43 rfl ?_
      refine zk_getN dX1_tickOfCall_43 1 rfl rfl kX1_tickOfCall_inX8 0 (by decide) (by decide +kernel) rfl 46 rfl ?_
      refine zk_iload_n dX1_tickOfCall_46 1 rfl 47 rfl ?_
      refine zk_iconst 4 dX1_tickOfCall_47 (by decide) 48 rfl ?_
      refine zk_callV (ci := 5) (st := []) (c_X5_fact E l a.2.2.1 r36.1 x2 4) dX1_tickOfCall_48 2 gX1_tickOfCall_X5_fact rfl rfl rfl cd_X5_fact ⟨Nat.le_of_ble_eq_true rfl, Nat.le_of_ble_eq_true rfl⟩ ⟨Nat.zero_le _, Nat.zero_le _⟩ _ (fun r48 => (zk_j [gX1 E a (r36.1, r36.2.1, r36.2.2.1, r36.2.2.2.1, v_imagined.2.2.2.2.1, v_imagined.2.2.2.2.2.1, v_imagined.2.2.2.2.2.2.1, r36.2.2.2.2.1, r36.2.2.2.2.2.1, r36.2.2.2.2.2.2.1, r36.2.2.2.2.2.2.2.1, r36.2.2.2.2.2.2.2.2.1, r36.2.2.2.2.2.2.2.2.2), gX8 E b1 (u_promises, u_lines, u_diary, u_now, u_room, u_bound, u_drift, u_brokenStanding, u_lateCalls, u_falls, u_swept, u_passedOver, u_longestQueue)])) (zk_pc (zk_pc (zk_p1 (gs := [gX1 E a (r36.1, r36.2.1, r36.2.2.1, r36.2.2.2.1, v_imagined.2.2.2.2.1, v_imagined.2.2.2.2.2.1, v_imagined.2.2.2.2.2.2.1, r36.2.2.2.2.1, r36.2.2.2.2.2.1, r36.2.2.2.2.2.2.1, r36.2.2.2.2.2.2.2.1, r36.2.2.2.2.2.2.2.2.1, r36.2.2.2.2.2.2.2.2.2), gX8 E b1 (u_promises, u_lines, u_diary, u_now, u_room, u_bound, u_drift, u_brokenStanding, u_lateCalls, u_falls, u_swept, u_passedOver, u_longestQueue)]) (i := 0) rfl) (zk_p1 (gs := (lX1 E a (r36.1, r36.2.1, r36.2.2.1, r36.2.2.2.1, v_imagined.2.2.2.2.1, v_imagined.2.2.2.2.2.1, v_imagined.2.2.2.2.2.2.1, r36.2.2.2.2.1, r36.2.2.2.2.2.1, r36.2.2.2.2.2.2.1, r36.2.2.2.2.2.2.2.1, r36.2.2.2.2.2.2.2.2.1, r36.2.2.2.2.2.2.2.2.2))) (i := 1) rfl)) (zk_p1 (gs := (lX8 E a.2 (r36.1, r36.2.1, r36.2.2.1, r36.2.2.2.1, v_imagined.2.2.2.2.1, v_imagined.2.2.2.2.2.1, v_imagined.2.2.2.2.2.2.1, r36.2.2.2.2.1, r36.2.2.2.2.2.1, r36.2.2.2.2.2.2.1, r36.2.2.2.2.2.2.2.1, r36.2.2.2.2.2.2.2.2.1, r36.2.2.2.2.2.2.2.2.2))) (i := 1) rfl)) (fun r48 => (zk_qc (zk_qc (zk_q1 (gs := [gX1 E a (r36.1, r36.2.1, r36.2.2.1, r36.2.2.2.1, v_imagined.2.2.2.2.1, v_imagined.2.2.2.2.2.1, v_imagined.2.2.2.2.2.2.1, r36.2.2.2.2.1, r36.2.2.2.2.2.1, r36.2.2.2.2.2.2.1, r36.2.2.2.2.2.2.2.1, r36.2.2.2.2.2.2.2.2.1, r36.2.2.2.2.2.2.2.2.2), gX8 E b1 (u_promises, u_lines, u_diary, u_now, u_room, u_bound, u_drift, u_brokenStanding, u_lateCalls, u_falls, u_swept, u_passedOver, u_longestQueue)]) (i := 0) rfl rfl) (zk_q1 (gs := (lX1 E a (r36.1, r36.2.1, r36.2.2.1, r36.2.2.2.1, v_imagined.2.2.2.2.1, v_imagined.2.2.2.2.2.1, v_imagined.2.2.2.2.2.2.1, r36.2.2.2.2.1, r36.2.2.2.2.2.1, r36.2.2.2.2.2.2.1, r36.2.2.2.2.2.2.2.1, r36.2.2.2.2.2.2.2.2.1, r36.2.2.2.2.2.2.2.2.2))) (i := 1) (w1 := gX1 E a (r36.1, r36.2.1, r36.2.2.1, r36.2.2.2.1, v_imagined.2.2.2.2.1, v_imagined.2.2.2.2.2.1, v_imagined.2.2.2.2.2.2.1, r36.2.2.2.2.1, r36.2.2.2.2.2.1, r36.2.2.2.2.2.2.1, r36.2.2.2.2.2.2.2.1, r36.2.2.2.2.2.2.2.2.1, r36.2.2.2.2.2.2.2.2.2)) rfl rfl)) (zk_q1 (gs := (lX8 E a.2 (r36.1, r36.2.1, r36.2.2.1, r36.2.2.2.1, v_imagined.2.2.2.2.1, v_imagined.2.2.2.2.2.1, v_imagined.2.2.2.2.2.2.1, r36.2.2.2.2.1, r36.2.2.2.2.2.1, r36.2.2.2.2.2.2.1, r36.2.2.2.2.2.2.2.1, r36.2.2.2.2.2.2.2.2.1, r36.2.2.2.2.2.2.2.2.2))) (i := 1) (w1 := gX8 E a.2 (r36.1, r36.2.1, r36.2.2.1, r36.2.2.2.1, v_imagined.2.2.2.2.1, v_imagined.2.2.2.2.2.1, v_imagined.2.2.2.2.2.2.1, r36.2.2.2.2.1, r36.2.2.2.2.2.1, r36.2.2.2.2.2.2.1, r36.2.2.2.2.2.2.2.1, r36.2.2.2.2.2.2.2.2.1, r36.2.2.2.2.2.2.2.2.2)) rfl rfl))) rfl rfl rfl rfl (Nat.le_of_ble_eq_true rfl) (fun r48 => [.int r48]) (fun _ => rfl) 51 rfl (fun r48 => ?_)
      refine zk_iload_n dX1_tickOfCall_51 2 rfl 52 rfl ?_
      refine zk_icmp_eq dX1_tickOfCall_52 63 (by decide) 55 rfl (fun _ => ?_) (fun _ => ?_)
      · refine zk_iinc (x4 + 1) [(4, .int (x4 + 1)), (0, .ref a.1), (2, .int x2), (3, .int x3)] dX1_tickOfCall_63 3 rfl rfl (by decide) rfl 66 rfl ?_
        refine zk_goto dX1_tickOfCall_66 24 (by decide) ?_
        refine zk_lv [1, 2, 3, 0] rfl ?_
        exact hk24 ((x4 + 1), (r36.1, r36.2.1, r36.2.2.1, r36.2.2.2.1, v_imagined.2.2.2.2.1, v_imagined.2.2.2.2.2.1, v_imagined.2.2.2.2.2.2.1, r36.2.2.2.2.1, r36.2.2.2.2.2.1, r36.2.2.2.2.2.2.1, r36.2.2.2.2.2.2.2.1, r36.2.2.2.2.2.2.2.2.1, r36.2.2.2.2.2.2.2.2.2))
      · refine zk_aload_n dX1_tickOfCall_55 0 rfl 56 rfl ?_
        refine zk_get dX1_tickOfCall_56 0 rfl rfl kX1_tickOfCall_inX1 0 (by decide) kX1_tickOfCall_1 rfl 59 rfl ?_
        refine zk_getN dX1_tickOfCall_59 1 rfl rfl kX1_tickOfCall_inX8 3 (by decide) (by decide +kernel) rfl 62 rfl ?_
        exact zk_iret hQ dX1_tickOfCall_62 rfl rfl
  refine zk_eqv (w1 := (zk_j [gX1 E a v_imagined, gX8 E b1 (u_promises, u_lines, u_diary, u_now, u_room, u_bound, u_drift, u_brokenStanding, u_lateCalls, u_falls, u_swept, u_passedOver, u_longestQueue)])) (lv1 := [(0, .ref a.1), (1, .ref b1.1), (2, .int x2)]) (st1 := []) (o1 := f_X1_tickOfCall x2 v_imagined u_promises u_lines u_diary u_now u_room u_bound u_drift u_brokenStanding u_lateCalls u_falls u_swept u_passedOver u_longestQueue) rfl rfl rfl rfl ?_
  unfold f_X1_tickOfCall
  refine zk_aload_n dX1_tickOfCall_0 0 rfl 1 rfl ?_
  refine zk_get dX1_tickOfCall_1 0 rfl rfl kX1_tickOfCall_inX1 0 (by decide) kX1_tickOfCall_1 rfl 4 rfl ?_
  refine zk_aload_n dX1_tickOfCall_4 1 rfl 5 rfl ?_
  refine zk_callV (ci := 8) (st := []) (c_X8_copyFrom E l a.2 v_imagined b1 (u_promises, u_lines, u_diary, u_now, u_room, u_bound, u_drift, u_brokenStanding, u_lateCalls, u_falls, u_swept, u_passedOver, u_longestQueue)) dX1_tickOfCall_5 1 gX1_tickOfCall_X8_copyFrom rfl rfl rfl cd_X8_copyFrom ⟨Nat.le_of_ble_eq_true rfl, Nat.le_of_ble_eq_true rfl⟩ ⟨Nat.zero_le _, Nat.zero_le _⟩ _ (fun r5 => (zk_j [gX1 E a r5, gX8 E b1 (u_promises, u_lines, u_diary, u_now, u_room, u_bound, u_drift, u_brokenStanding, u_lateCalls, u_falls, u_swept, u_passedOver, u_longestQueue)])) (zk_pp zk_pa (zk_pb (gs := [gX1 E a v_imagined, gX8 E b1 (u_promises, u_lines, u_diary, u_now, u_room, u_bound, u_drift, u_brokenStanding, u_lateCalls, u_falls, u_swept, u_passedOver, u_longestQueue)]) (i := 0) (j := 1) rfl rfl (by decide)) (zk_pc zk_pa (zk_p1 (gs := (lX1 E a v_imagined)) (i := 1) rfl)) zk_pa) (fun r5 => (zk_qq zk_qa (zk_qb (gs := [gX1 E a v_imagined, gX8 E b1 (u_promises, u_lines, u_diary, u_now, u_room, u_bound, u_drift, u_brokenStanding, u_lateCalls, u_falls, u_swept, u_passedOver, u_longestQueue)]) (i := 0) (j := 1) (g' := gX1 E a r5) (h' := gX8 E b1 (u_promises, u_lines, u_diary, u_now, u_room, u_bound, u_drift, u_brokenStanding, u_lateCalls, u_falls, u_swept, u_passedOver, u_longestQueue)) rfl rfl (by decide) rfl) (zk_qc zk_qa (zk_q1 (gs := (lX1 E a v_imagined)) (i := 1) (w1 := gX1 E a r5) rfl rfl)) zk_qa)) rfl rfl rfl rfl (Nat.le_of_ble_eq_true rfl) (fun r5 => []) (fun _ => rfl) 8 rfl (fun r5 => ?_)
  refine zk_aload_n dX1_tickOfCall_8 0 rfl 9 rfl ?_
  refine zk_get dX1_tickOfCall_9 0 rfl rfl kX1_tickOfCall_inX1 0 (by decide) kX1_tickOfCall_1 rfl 12 rfl ?_
  refine zk_getN dX1_tickOfCall_12 1 rfl rfl kX1_tickOfCall_inX8 0 (by decide) (by decide +kernel) rfl 15 rfl ?_
  refine zk_iload_n dX1_tickOfCall_15 2 rfl 16 rfl ?_
  refine zk_iconst 4 dX1_tickOfCall_16 (by decide) 17 rfl ?_
  refine zk_callV (ci := 5) (st := []) (c_X5_fact E l a.2.2.1 r5.1 x2 4) dX1_tickOfCall_17 2 gX1_tickOfCall_X5_fact rfl rfl rfl cd_X5_fact ⟨Nat.le_of_ble_eq_true rfl, Nat.le_of_ble_eq_true rfl⟩ ⟨Nat.zero_le _, Nat.zero_le _⟩ _ (fun r17 => (zk_j [gX1 E a r5, gX8 E b1 (u_promises, u_lines, u_diary, u_now, u_room, u_bound, u_drift, u_brokenStanding, u_lateCalls, u_falls, u_swept, u_passedOver, u_longestQueue)])) (zk_pc (zk_pc (zk_p1 (gs := [gX1 E a r5, gX8 E b1 (u_promises, u_lines, u_diary, u_now, u_room, u_bound, u_drift, u_brokenStanding, u_lateCalls, u_falls, u_swept, u_passedOver, u_longestQueue)]) (i := 0) rfl) (zk_p1 (gs := (lX1 E a r5)) (i := 1) rfl)) (zk_p1 (gs := (lX8 E a.2 r5)) (i := 1) rfl)) (fun r17 => (zk_qc (zk_qc (zk_q1 (gs := [gX1 E a r5, gX8 E b1 (u_promises, u_lines, u_diary, u_now, u_room, u_bound, u_drift, u_brokenStanding, u_lateCalls, u_falls, u_swept, u_passedOver, u_longestQueue)]) (i := 0) rfl rfl) (zk_q1 (gs := (lX1 E a r5)) (i := 1) (w1 := gX1 E a r5) rfl rfl)) (zk_q1 (gs := (lX8 E a.2 r5)) (i := 1) (w1 := gX8 E a.2 r5) rfl rfl))) rfl rfl rfl rfl (Nat.le_of_ble_eq_true rfl) (fun r17 => [.int r17]) (fun _ => rfl) 20 rfl (fun r17 => ?_)
  refine zk_istore_n [(3, .int r17), (0, .ref a.1), (1, .ref b1.1), (2, .int x2)] dX1_tickOfCall_20 (by decide) rfl 21 rfl ?_
  refine zk_iconst 0 dX1_tickOfCall_21 (by decide) 22 rfl ?_
  refine zk_istore [(4, .int 0), (3, .int r17), (0, .ref a.1), (1, .ref b1.1), (2, .int x2)] dX1_tickOfCall_22 (by decide) rfl 24 rfl ?_
  refine zk_lv [2, 4, 1, 0] rfl ?_
  exact J24   r17 zk_N 0 r5
def F_X1_outcome_14 (x2 : Int32) (x3 : Int32) (u_diary : VX0) (u_lateCalls : Int32) (k14 : Int32 × Int32 × VX8 → Option (Int32 × VX8)) : Int32 × Int32 × VX8 → Option (Int32 × VX8) := fun s => match s with
  | (x4, x5, v_imagined) => if x2 ≤ x5 then if x3 = 0 then (f_X0_calls v_imagined.2.2.1.2).bind fun r87 => (f_X0_calls u_diary.2).bind fun r94 => some ((r87 - r94), v_imagined) else if x3 = 1 then some ((v_imagined.2.2.2.2.2.2.2.2.1 - u_lateCalls), v_imagined) else some (x4, v_imagined) else (f_X8_passTick v_imagined.1 v_imagined.2.1 v_imagined.2.2.1 v_imagined.2.2.2.1 v_imagined.2.2.2.2.1 v_imagined.2.2.2.2.2.1 v_imagined.2.2.2.2.2.2.1 v_imagined.2.2.2.2.2.2.2.1 v_imagined.2.2.2.2.2.2.2.2.1 v_imagined.2.2.2.2.2.2.2.2.2.1 v_imagined.2.2.2.2.2.2.2.2.2.2.1 v_imagined.2.2.2.2.2.2.2.2.2.2.2.1 v_imagined.2.2.2.2.2.2.2.2.2.2.2.2).bind fun r24 => (f_X5_howManyIn 1 r24.1.1 r24.1.2).bind fun r37 => zk_let (if x4 < r37 then r37 else x4) fun x4_1 => k14 (x4_1, (x5 + 1), (r24.1, r24.2.1, r24.2.2.1, r24.2.2.2.1, v_imagined.2.2.2.2.1, v_imagined.2.2.2.2.2.1, v_imagined.2.2.2.2.2.2.1, r24.2.2.2.2.1, r24.2.2.2.2.2.1, r24.2.2.2.2.2.2.1, r24.2.2.2.2.2.2.2.1, r24.2.2.2.2.2.2.2.2.1, r24.2.2.2.2.2.2.2.2.2))
def f_X1_outcome (x2 : Int32) (x3 : Int32) (v_imagined : VX8) (u_promises : VX5) (u_lines : VX3) (u_diary : VX0) (u_now : Int32) (u_room : Int32) (u_bound : Int32) (u_drift : Int32) (u_brokenStanding : Int32) (u_lateCalls : Int32) (u_falls : Int32) (u_swept : Int32) (u_passedOver : Int32) (u_longestQueue : Int32) : Option (Int32 × VX8) := (f_X8_copyFrom v_imagined.1 v_imagined.2.1 v_imagined.2.2.1 u_promises u_lines u_diary u_now u_room u_bound u_drift u_brokenStanding u_lateCalls u_falls u_swept u_passedOver u_longestQueue).bind fun r5 => zk_fx (F_X1_outcome_14 x2 x3 u_diary u_lateCalls ) zk_N (0, 0, r5)
theorem kX1_outcome_inX1 : ∀ w ∈ u_ws RX1 TX1 1, w ∈ wsX1_outcome := by decide +kernel
theorem kX1_outcome_1 : Cond.fieldLink RX1 12 (TX1 0).1 (TX1 0).2.1 (TX1 0).2.2.1 ∈ wsX1_outcome := by decide +kernel
theorem kX1_outcome_inX8 : ∀ w ∈ u_ws RX8 TX8 13, w ∈ wsX1_outcome := by decide +kernel
theorem kX1_outcome_3 : Cond.methodLink RX1 43 Lib.Math.max.name ∈ wsX1_outcome := by decide +kernel
theorem kX1_outcome_4 : Cond.static Lib.Math.max.name ∈ wsX1_outcome := by decide +kernel
theorem kX1_outcome_5 : Cond.initialized "java/lang/Math" ∈ wsX1_outcome := by decide +kernel
theorem kX1_outcome_6 : Cond.code Lib.Math.max.name Lib.Math.max.code 2 (some .int) ∈ wsX1_outcome := by decide +kernel
theorem cd_X1_outcome : yX1_outcome.cls = RX1 ∧ yX1_outcome.cls ≠ "java/lang/invoke/MethodHandle" ∧ yX1_outcome.cls ≠ "java/lang/invoke/VarHandle" ∧ (parseMethodDescriptor yX1_outcome.desc).map (fun d => d.parameters.length) = some 3 := by decide +kernel
set_option maxRecDepth 100000 in
set_option maxHeartbeats 4000000 in
theorem c_X1_outcome (E : zk_Env) (l : Launch) (a : aX1) (v : VX1) (b1 : aX8) (u1 : VX8) (x2 : Int32) (x3 : Int32) : zk_Mc E l yX1_outcome wsX1_outcome ({ frames := 5, cells := 0, slots := 0, locals := 115 } : Room) [.ref a.1, .ref b1.1, .int x2, .int x3] (zk_j [gX1 E a v, gX8 E b1 u1]) (f_X1_outcome x2 x3 v u1.1 u1.2.1 u1.2.2.1 u1.2.2.2.1 u1.2.2.2.2.1 u1.2.2.2.2.2.1 u1.2.2.2.2.2.2.1 u1.2.2.2.2.2.2.2.1 u1.2.2.2.2.2.2.2.2.1 u1.2.2.2.2.2.2.2.2.2.1 u1.2.2.2.2.2.2.2.2.2.2.1 u1.2.2.2.2.2.2.2.2.2.2.2.1 u1.2.2.2.2.2.2.2.2.2.2.2.2) (fun r => some (.int r.1)) (fun r => (zk_j [gX1 E a r.2, gX8 E b1 u1])) := by
  obtain ⟨v_imagined, rfl⟩ : ∃ z, z = v := ⟨_, rfl⟩
  obtain ⟨u_promises, u_lines, u_diary, u_now, u_room, u_bound, u_drift, u_brokenStanding, u_lateCalls, u_falls, u_swept, u_passedOver, u_longestQueue⟩ := u1
  refine zk_M (cc := cX1_outcome) (nL := 6) (ret := (some .int)) (by decide) rfl (Nat.le_of_ble_eq_true rfl) (fun X Q hQ => ?_)
  have J14 : ∀ (n : Nat) (x4 : Int32) (x5 : Int32) (v_imagined : VX8), zk_G E l X cX1_outcome 6 (some .int) yX1_outcome.cls wsX1_outcome ({ frames := 5, cells := 0, slots := 0, locals := 115 } : Room) 0 0 Q (zk_j [gX1 E a v_imagined, gX8 E b1 (u_promises, u_lines, u_diary, u_now, u_room, u_bound, u_drift, u_brokenStanding, u_lateCalls, u_falls, u_swept, u_passedOver, u_longestQueue)]) [(0, .ref a.1), (1, .ref b1.1), (2, .int x2), (3, .int x3), (4, .int x4), (5, .int x5)] 14 [] (zk_fx (F_X1_outcome_14 x2 x3 u_diary u_lateCalls ) n (x4, x5, v_imagined)) := by
    intro n x4 x5 v_imagined
    refine zk_loop (S := Int32 × Int32 × VX8) (F := F_X1_outcome_14 x2 x3 u_diary u_lateCalls) (wS := fun s => (zk_j [gX1 E a s.2.2, gX8 E b1 (u_promises, u_lines, u_diary, u_now, u_room, u_bound, u_drift, u_brokenStanding, u_lateCalls, u_falls, u_swept, u_passedOver, u_longestQueue)])) (lS := fun s => [(0, .ref a.1), (1, .ref b1.1), (2, .int x2), (3, .int x3), (4, .int s.1), (5, .int s.2.1)]) (sS := fun _ => []) (fun k14 hk14 s => ?_) n (x4, x5, v_imagined)
    obtain ⟨x4, x5, v_imagined⟩ := s
    unfold F_X1_outcome_14
    try dsimp only
    refine zk_iload dX1_outcome_14 5 rfl 16 rfl ?_
    refine zk_iload_n dX1_outcome_16 2 rfl 17 rfl ?_
    refine zk_icmp_ge dX1_outcome_17 51 (by decide) 20 rfl (fun _ => ?_) (fun _ => ?_)
    · refine zk_iload_n dX1_outcome_51 3 rfl 52 rfl ?_
      refine zk_if (c := x3 = 0) (fun h52_0 => ?_) (fun h52_0 => ?_)
      · refine zk_lookup (off := 28) dX1_outcome_52 80 (by decide) (by rw [h52_0]; rfl) (by decide) ?_
        refine zk_aload_n dX1_outcome_80 0 rfl 81 rfl ?_
        refine zk_get dX1_outcome_81 0 rfl rfl kX1_outcome_inX1 0 (by decide) kX1_outcome_1 rfl 84 rfl ?_
        refine zk_getN dX1_outcome_84 1 rfl rfl kX1_outcome_inX8 2 (by decide) (by decide +kernel) rfl 87 rfl ?_
        refine zk_callV (ci := 0) (st := []) (c_X0_calls E l a.2.2.2.2 v_imagined.2.2.1) dX1_outcome_87 0 gX1_outcome_X0_calls rfl rfl rfl cd_X0_calls ⟨Nat.le_of_ble_eq_true rfl, Nat.le_of_ble_eq_true rfl⟩ ⟨Nat.zero_le _, Nat.zero_le _⟩ _ (fun r87 => (zk_j [gX1 E a v_imagined, gX8 E b1 (u_promises, u_lines, u_diary, u_now, u_room, u_bound, u_drift, u_brokenStanding, u_lateCalls, u_falls, u_swept, u_passedOver, u_longestQueue)])) (zk_pc (zk_pc (zk_p1 (gs := [gX1 E a v_imagined, gX8 E b1 (u_promises, u_lines, u_diary, u_now, u_room, u_bound, u_drift, u_brokenStanding, u_lateCalls, u_falls, u_swept, u_passedOver, u_longestQueue)]) (i := 0) rfl) (zk_p1 (gs := (lX1 E a v_imagined)) (i := 1) rfl)) (zk_p1 (gs := (lX8 E a.2 v_imagined)) (i := 3) rfl)) (fun r87 => (zk_qc (zk_qc (zk_q1 (gs := [gX1 E a v_imagined, gX8 E b1 (u_promises, u_lines, u_diary, u_now, u_room, u_bound, u_drift, u_brokenStanding, u_lateCalls, u_falls, u_swept, u_passedOver, u_longestQueue)]) (i := 0) rfl rfl) (zk_q1 (gs := (lX1 E a v_imagined)) (i := 1) (w1 := gX1 E a v_imagined) rfl rfl)) (zk_q1 (gs := (lX8 E a.2 v_imagined)) (i := 3) (w1 := gX8 E a.2 v_imagined) rfl rfl))) rfl rfl rfl rfl (Nat.le_of_ble_eq_true rfl) (fun r87 => [.int r87]) (fun _ => rfl) 90 rfl (fun r87 => ?_)
        refine zk_aload_n dX1_outcome_90 1 rfl 91 rfl ?_
        refine zk_getN dX1_outcome_91 12 rfl rfl kX1_outcome_inX8 2 (by decide) (by decide +kernel) rfl 94 rfl ?_
        refine zk_callV (ci := 0) (st := [.int r87]) (c_X0_calls E l b1.2.2.2 u_diary) dX1_outcome_94 0 gX1_outcome_X0_calls rfl rfl rfl cd_X0_calls ⟨Nat.le_of_ble_eq_true rfl, Nat.le_of_ble_eq_true rfl⟩ ⟨Nat.zero_le _, Nat.zero_le _⟩ _ (fun r94 => (zk_j [gX1 E a v_imagined, gX8 E b1 (u_promises, u_lines, u_diary, u_now, u_room, u_bound, u_drift, u_brokenStanding, u_lateCalls, u_falls, u_swept, u_passedOver, u_longestQueue)])) (zk_pc (zk_p1 (gs := [gX1 E a v_imagined, gX8 E b1 (u_promises, u_lines, u_diary, u_now, u_room, u_bound, u_drift, u_brokenStanding, u_lateCalls, u_falls, u_swept, u_passedOver, u_longestQueue)]) (i := 1) rfl) (zk_p1 (gs := (lX8 E b1 (u_promises, u_lines, u_diary, u_now, u_room, u_bound, u_drift, u_brokenStanding, u_lateCalls, u_falls, u_swept, u_passedOver, u_longestQueue))) (i := 3) rfl)) (fun r94 => (zk_qc (zk_q1 (gs := [gX1 E a v_imagined, gX8 E b1 (u_promises, u_lines, u_diary, u_now, u_room, u_bound, u_drift, u_brokenStanding, u_lateCalls, u_falls, u_swept, u_passedOver, u_longestQueue)]) (i := 1) rfl rfl) (zk_q1 (gs := (lX8 E b1 (u_promises, u_lines, u_diary, u_now, u_room, u_bound, u_drift, u_brokenStanding, u_lateCalls, u_falls, u_swept, u_passedOver, u_longestQueue))) (i := 3) (w1 := gX8 E b1 (u_promises, u_lines, u_diary, u_now, u_room, u_bound, u_drift, u_brokenStanding, u_lateCalls, u_falls, u_swept, u_passedOver, u_longestQueue)) rfl rfl))) rfl rfl rfl rfl (Nat.le_of_ble_eq_true rfl) (fun r94 => [.int r94, .int r87]) (fun _ => rfl) 97 rfl (fun r94 => ?_)
        refine zk_isub dX1_outcome_97 98 rfl ?_
        exact zk_iret hQ dX1_outcome_98 rfl rfl
      refine zk_if (c := x3 = 1) (fun h52_1 => ?_) (fun h52_1 => ?_)
      · refine zk_lookup (off := 47) dX1_outcome_52 99 (by decide) (by rw [h52_1]; rfl) (by decide) ?_
        refine zk_aload_n dX1_outcome_99 0 rfl 100 rfl ?_
        refine zk_get dX1_outcome_100 0 rfl rfl kX1_outcome_inX1 0 (by decide) kX1_outcome_1 rfl 103 rfl ?_
        refine zk_getN dX1_outcome_103 1 rfl rfl kX1_outcome_inX8 8 (by decide) (by decide +kernel) rfl 106 rfl ?_
        refine zk_aload_n dX1_outcome_106 1 rfl 107 rfl ?_
        refine zk_getN dX1_outcome_107 12 rfl rfl kX1_outcome_inX8 8 (by decide) (by decide +kernel) rfl 110 rfl ?_
        refine zk_isub dX1_outcome_110 111 rfl ?_
        exact zk_iret hQ dX1_outcome_111 rfl rfl
      refine zk_lookup (off := 60) dX1_outcome_52 112 (by decide) (zk_lkOut x3 (by have e0 : x3.toInt ≠ 0 := fun z => h52_0 (Int32.toInt_inj.mp z); have e1 : x3.toInt ≠ 1 := fun z => h52_1 (Int32.toInt_inj.mp z); simp [Op.lookupswitch.offset, Ne.symm e0, Ne.symm e1]) ) (by decide) ?_
      refine zk_iload dX1_outcome_112 4 rfl 114 rfl ?_
      exact zk_iret hQ dX1_outcome_114 rfl rfl
    · refine zk_aload_n dX1_outcome_20 0 rfl 21 rfl ?_
      refine zk_get dX1_outcome_21 0 rfl rfl kX1_outcome_inX1 0 (by decide) kX1_outcome_1 rfl 24 rfl ?_
      refine zk_callV (ci := 8) (st := []) (c_X8_passTick E l a.2 v_imagined) dX1_outcome_24 0 gX1_outcome_X8_passTick rfl rfl rfl cd_X8_passTick ⟨Nat.le_of_ble_eq_true rfl, Nat.le_of_ble_eq_true rfl⟩ ⟨Nat.zero_le _, Nat.zero_le _⟩ _ (fun r24 => (zk_j [gX1 E a (r24.1, r24.2.1, r24.2.2.1, r24.2.2.2.1, v_imagined.2.2.2.2.1, v_imagined.2.2.2.2.2.1, v_imagined.2.2.2.2.2.2.1, r24.2.2.2.2.1, r24.2.2.2.2.2.1, r24.2.2.2.2.2.2.1, r24.2.2.2.2.2.2.2.1, r24.2.2.2.2.2.2.2.2.1, r24.2.2.2.2.2.2.2.2.2), gX8 E b1 (u_promises, u_lines, u_diary, u_now, u_room, u_bound, u_drift, u_brokenStanding, u_lateCalls, u_falls, u_swept, u_passedOver, u_longestQueue)])) (zk_pc (zk_p1 (gs := [gX1 E a v_imagined, gX8 E b1 (u_promises, u_lines, u_diary, u_now, u_room, u_bound, u_drift, u_brokenStanding, u_lateCalls, u_falls, u_swept, u_passedOver, u_longestQueue)]) (i := 0) rfl) (zk_p1 (gs := (lX1 E a v_imagined)) (i := 1) rfl)) (fun r24 => (zk_qc (zk_q1 (gs := [gX1 E a v_imagined, gX8 E b1 (u_promises, u_lines, u_diary, u_now, u_room, u_bound, u_drift, u_brokenStanding, u_lateCalls, u_falls, u_swept, u_passedOver, u_longestQueue)]) (i := 0) rfl rfl) (zk_q1 (gs := (lX1 E a v_imagined)) (i := 1) (w1 := gX1 E a (r24.1, r24.2.1, r24.2.2.1, r24.2.2.2.1, v_imagined.2.2.2.2.1, v_imagined.2.2.2.2.2.1, v_imagined.2.2.2.2.2.2.1, r24.2.2.2.2.1, r24.2.2.2.2.2.1, r24.2.2.2.2.2.2.1, r24.2.2.2.2.2.2.2.1, r24.2.2.2.2.2.2.2.2.1, r24.2.2.2.2.2.2.2.2.2)) rfl rfl))) rfl rfl rfl rfl (Nat.le_of_ble_eq_true rfl) (fun r24 => []) (fun _ => rfl) 27 rfl (fun r24 => ?_)
      refine zk_iload dX1_outcome_27 4 rfl 29 rfl ?_
      refine zk_aload_n dX1_outcome_29 0 rfl 30 rfl ?_
      refine zk_get dX1_outcome_30 0 rfl rfl kX1_outcome_inX1 0 (by decide) kX1_outcome_1 rfl 33 rfl ?_
      refine zk_getN dX1_outcome_33 1 rfl rfl kX1_outcome_inX8 0 (by decide) (by decide +kernel) rfl 36 rfl ?_
      refine zk_iconst 1 dX1_outcome_36 (by decide) 37 rfl ?_
      refine zk_callV (ci := 5) (st := [.int x4]) (c_X5_howManyIn E l a.2.2.1 r24.1 1) dX1_outcome_37 1 gX1_outcome_X5_howManyIn rfl rfl rfl cd_X5_howManyIn ⟨Nat.le_of_ble_eq_true rfl, Nat.le_of_ble_eq_true rfl⟩ ⟨Nat.zero_le _, Nat.zero_le _⟩ _ (fun r37 => (zk_j [gX1 E a (r24.1, r24.2.1, r24.2.2.1, r24.2.2.2.1, v_imagined.2.2.2.2.1, v_imagined.2.2.2.2.2.1, v_imagined.2.2.2.2.2.2.1, r24.2.2.2.2.1, r24.2.2.2.2.2.1, r24.2.2.2.2.2.2.1, r24.2.2.2.2.2.2.2.1, r24.2.2.2.2.2.2.2.2.1, r24.2.2.2.2.2.2.2.2.2), gX8 E b1 (u_promises, u_lines, u_diary, u_now, u_room, u_bound, u_drift, u_brokenStanding, u_lateCalls, u_falls, u_swept, u_passedOver, u_longestQueue)])) (zk_pc (zk_pc (zk_p1 (gs := [gX1 E a (r24.1, r24.2.1, r24.2.2.1, r24.2.2.2.1, v_imagined.2.2.2.2.1, v_imagined.2.2.2.2.2.1, v_imagined.2.2.2.2.2.2.1, r24.2.2.2.2.1, r24.2.2.2.2.2.1, r24.2.2.2.2.2.2.1, r24.2.2.2.2.2.2.2.1, r24.2.2.2.2.2.2.2.2.1, r24.2.2.2.2.2.2.2.2.2), gX8 E b1 (u_promises, u_lines, u_diary, u_now, u_room, u_bound, u_drift, u_brokenStanding, u_lateCalls, u_falls, u_swept, u_passedOver, u_longestQueue)]) (i := 0) rfl) (zk_p1 (gs := (lX1 E a (r24.1, r24.2.1, r24.2.2.1, r24.2.2.2.1, v_imagined.2.2.2.2.1, v_imagined.2.2.2.2.2.1, v_imagined.2.2.2.2.2.2.1, r24.2.2.2.2.1, r24.2.2.2.2.2.1, r24.2.2.2.2.2.2.1, r24.2.2.2.2.2.2.2.1, r24.2.2.2.2.2.2.2.2.1, r24.2.2.2.2.2.2.2.2.2))) (i := 1) rfl)) (zk_p1 (gs := (lX8 E a.2 (r24.1, r24.2.1, r24.2.2.1, r24.2.2.2.1, v_imagined.2.2.2.2.1, v_imagined.2.2.2.2.2.1, v_imagined.2.2.2.2.2.2.1, r24.2.2.2.2.1, r24.2.2.2.2.2.1, r24.2.2.2.2.2.2.1, r24.2.2.2.2.2.2.2.1, r24.2.2.2.2.2.2.2.2.1, r24.2.2.2.2.2.2.2.2.2))) (i := 1) rfl)) (fun r37 => (zk_qc (zk_qc (zk_q1 (gs := [gX1 E a (r24.1, r24.2.1, r24.2.2.1, r24.2.2.2.1, v_imagined.2.2.2.2.1, v_imagined.2.2.2.2.2.1, v_imagined.2.2.2.2.2.2.1, r24.2.2.2.2.1, r24.2.2.2.2.2.1, r24.2.2.2.2.2.2.1, r24.2.2.2.2.2.2.2.1, r24.2.2.2.2.2.2.2.2.1, r24.2.2.2.2.2.2.2.2.2), gX8 E b1 (u_promises, u_lines, u_diary, u_now, u_room, u_bound, u_drift, u_brokenStanding, u_lateCalls, u_falls, u_swept, u_passedOver, u_longestQueue)]) (i := 0) rfl rfl) (zk_q1 (gs := (lX1 E a (r24.1, r24.2.1, r24.2.2.1, r24.2.2.2.1, v_imagined.2.2.2.2.1, v_imagined.2.2.2.2.2.1, v_imagined.2.2.2.2.2.2.1, r24.2.2.2.2.1, r24.2.2.2.2.2.1, r24.2.2.2.2.2.2.1, r24.2.2.2.2.2.2.2.1, r24.2.2.2.2.2.2.2.2.1, r24.2.2.2.2.2.2.2.2.2))) (i := 1) (w1 := gX1 E a (r24.1, r24.2.1, r24.2.2.1, r24.2.2.2.1, v_imagined.2.2.2.2.1, v_imagined.2.2.2.2.2.1, v_imagined.2.2.2.2.2.2.1, r24.2.2.2.2.1, r24.2.2.2.2.2.1, r24.2.2.2.2.2.2.1, r24.2.2.2.2.2.2.2.1, r24.2.2.2.2.2.2.2.2.1, r24.2.2.2.2.2.2.2.2.2)) rfl rfl)) (zk_q1 (gs := (lX8 E a.2 (r24.1, r24.2.1, r24.2.2.1, r24.2.2.2.1, v_imagined.2.2.2.2.1, v_imagined.2.2.2.2.2.1, v_imagined.2.2.2.2.2.2.1, r24.2.2.2.2.1, r24.2.2.2.2.2.1, r24.2.2.2.2.2.2.1, r24.2.2.2.2.2.2.2.1, r24.2.2.2.2.2.2.2.2.1, r24.2.2.2.2.2.2.2.2.2))) (i := 1) (w1 := gX8 E a.2 (r24.1, r24.2.1, r24.2.2.1, r24.2.2.2.1, v_imagined.2.2.2.2.1, v_imagined.2.2.2.2.2.1, v_imagined.2.2.2.2.2.2.1, r24.2.2.2.2.1, r24.2.2.2.2.2.1, r24.2.2.2.2.2.2.1, r24.2.2.2.2.2.2.2.1, r24.2.2.2.2.2.2.2.2.1, r24.2.2.2.2.2.2.2.2.2)) rfl rfl))) rfl rfl rfl rfl (Nat.le_of_ble_eq_true rfl) (fun r37 => [.int r37, .int x4]) (fun _ => rfl) 40 rfl (fun r37 => ?_)
      refine zk_mmax dX1_outcome_40 kX1_outcome_3 kX1_outcome_4 kX1_outcome_5 kX1_outcome_6 (Nat.le_of_ble_eq_true rfl) (Nat.le_of_ble_eq_true rfl) (Nat.zero_le _) (Nat.zero_le _) 43 rfl ?_
      refine zk_nm (fun x4_1 => ?_)
      refine zk_istore [(4, .int x4_1), (0, .ref a.1), (1, .ref b1.1), (2, .int x2), (3, .int x3), (5, .int x5)] dX1_outcome_43 (by decide) rfl 45 rfl ?_
      refine zk_iinc (x5 + 1) [(5, .int (x5 + 1)), (4, .int x4_1), (0, .ref a.1), (1, .ref b1.1), (2, .int x2), (3, .int x3)] dX1_outcome_45 5 rfl rfl (by decide) rfl 48 rfl ?_
      refine zk_goto dX1_outcome_48 14 (by decide) ?_
      refine zk_lv [2, 3, 4, 5, 1, 0] rfl ?_
      exact hk14 (x4_1, (x5 + 1), (r24.1, r24.2.1, r24.2.2.1, r24.2.2.2.1, v_imagined.2.2.2.2.1, v_imagined.2.2.2.2.2.1, v_imagined.2.2.2.2.2.2.1, r24.2.2.2.2.1, r24.2.2.2.2.2.1, r24.2.2.2.2.2.2.1, r24.2.2.2.2.2.2.2.1, r24.2.2.2.2.2.2.2.2.1, r24.2.2.2.2.2.2.2.2.2))
  refine zk_eqv (w1 := (zk_j [gX1 E a v_imagined, gX8 E b1 (u_promises, u_lines, u_diary, u_now, u_room, u_bound, u_drift, u_brokenStanding, u_lateCalls, u_falls, u_swept, u_passedOver, u_longestQueue)])) (lv1 := [(0, .ref a.1), (1, .ref b1.1), (2, .int x2), (3, .int x3)]) (st1 := []) (o1 := f_X1_outcome x2 x3 v_imagined u_promises u_lines u_diary u_now u_room u_bound u_drift u_brokenStanding u_lateCalls u_falls u_swept u_passedOver u_longestQueue) rfl rfl rfl rfl ?_
  unfold f_X1_outcome
  refine zk_aload_n dX1_outcome_0 0 rfl 1 rfl ?_
  refine zk_get dX1_outcome_1 0 rfl rfl kX1_outcome_inX1 0 (by decide) kX1_outcome_1 rfl 4 rfl ?_
  refine zk_aload_n dX1_outcome_4 1 rfl 5 rfl ?_
  refine zk_callV (ci := 8) (st := []) (c_X8_copyFrom E l a.2 v_imagined b1 (u_promises, u_lines, u_diary, u_now, u_room, u_bound, u_drift, u_brokenStanding, u_lateCalls, u_falls, u_swept, u_passedOver, u_longestQueue)) dX1_outcome_5 1 gX1_outcome_X8_copyFrom rfl rfl rfl cd_X8_copyFrom ⟨Nat.le_of_ble_eq_true rfl, Nat.le_of_ble_eq_true rfl⟩ ⟨Nat.zero_le _, Nat.zero_le _⟩ _ (fun r5 => (zk_j [gX1 E a r5, gX8 E b1 (u_promises, u_lines, u_diary, u_now, u_room, u_bound, u_drift, u_brokenStanding, u_lateCalls, u_falls, u_swept, u_passedOver, u_longestQueue)])) (zk_pp zk_pa (zk_pb (gs := [gX1 E a v_imagined, gX8 E b1 (u_promises, u_lines, u_diary, u_now, u_room, u_bound, u_drift, u_brokenStanding, u_lateCalls, u_falls, u_swept, u_passedOver, u_longestQueue)]) (i := 0) (j := 1) rfl rfl (by decide)) (zk_pc zk_pa (zk_p1 (gs := (lX1 E a v_imagined)) (i := 1) rfl)) zk_pa) (fun r5 => (zk_qq zk_qa (zk_qb (gs := [gX1 E a v_imagined, gX8 E b1 (u_promises, u_lines, u_diary, u_now, u_room, u_bound, u_drift, u_brokenStanding, u_lateCalls, u_falls, u_swept, u_passedOver, u_longestQueue)]) (i := 0) (j := 1) (g' := gX1 E a r5) (h' := gX8 E b1 (u_promises, u_lines, u_diary, u_now, u_room, u_bound, u_drift, u_brokenStanding, u_lateCalls, u_falls, u_swept, u_passedOver, u_longestQueue)) rfl rfl (by decide) rfl) (zk_qc zk_qa (zk_q1 (gs := (lX1 E a v_imagined)) (i := 1) (w1 := gX1 E a r5) rfl rfl)) zk_qa)) rfl rfl rfl rfl (Nat.le_of_ble_eq_true rfl) (fun r5 => []) (fun _ => rfl) 8 rfl (fun r5 => ?_)
  refine zk_iconst 0 dX1_outcome_8 (by decide) 9 rfl ?_
  refine zk_istore [(4, .int 0), (0, .ref a.1), (1, .ref b1.1), (2, .int x2), (3, .int x3)] dX1_outcome_9 (by decide) rfl 11 rfl ?_
  refine zk_iconst 0 dX1_outcome_11 (by decide) 12 rfl ?_
  refine zk_istore [(5, .int 0), (4, .int 0), (0, .ref a.1), (1, .ref b1.1), (2, .int x2), (3, .int x3)] dX1_outcome_12 (by decide) rfl 14 rfl ?_
  refine zk_lv [2, 3, 4, 5, 1, 0] rfl ?_
  exact J14    zk_N 0 0 r5
def f_X1_isTimely_39 (x2 : Int32) (v_imagined : VX8) : Option (Int32 × VX8) := if v_imagined.2.2.2.2.2.2.2.2.1 = x2 then some (1, v_imagined) else some (0, v_imagined)
def F_X1_isTimely_10 (x1 : Int32) (x2 : Int32) (k10 : Int32 × VX8 → Option (Int32 × VX8)) : Int32 × VX8 → Option (Int32 × VX8) := fun s => match s with
  | (x3, v_imagined) => if x1 ≤ x3 then f_X1_isTimely_39 x2 v_imagined else if v_imagined.2.2.2.2.2.2.2.2.1 = x2 then (f_X8_passTick v_imagined.1 v_imagined.2.1 v_imagined.2.2.1 v_imagined.2.2.2.1 v_imagined.2.2.2.2.1 v_imagined.2.2.2.2.2.1 v_imagined.2.2.2.2.2.2.1 v_imagined.2.2.2.2.2.2.2.1 v_imagined.2.2.2.2.2.2.2.2.1 v_imagined.2.2.2.2.2.2.2.2.2.1 v_imagined.2.2.2.2.2.2.2.2.2.2.1 v_imagined.2.2.2.2.2.2.2.2.2.2.2.1 v_imagined.2.2.2.2.2.2.2.2.2.2.2.2).bind fun r30 => k10 ((x3 + 1), (r30.1, r30.2.1, r30.2.2.1, r30.2.2.2.1, v_imagined.2.2.2.2.1, v_imagined.2.2.2.2.2.1, v_imagined.2.2.2.2.2.2.1, r30.2.2.2.2.1, r30.2.2.2.2.2.1, r30.2.2.2.2.2.2.1, r30.2.2.2.2.2.2.2.1, r30.2.2.2.2.2.2.2.2.1, r30.2.2.2.2.2.2.2.2.2)) else f_X1_isTimely_39 x2 v_imagined
def f_X1_isTimely (x1 : Int32) (v_imagined : VX8) : Option (Int32 × VX8) := zk_fx (F_X1_isTimely_10 x1 v_imagined.2.2.2.2.2.2.2.2.1 ) zk_N (0, v_imagined)
theorem kX1_isTimely_inX1 : ∀ w ∈ u_ws RX1 TX1 1, w ∈ wsX1_isTimely := by decide +kernel
theorem kX1_isTimely_1 : Cond.fieldLink RX1 12 (TX1 0).1 (TX1 0).2.1 (TX1 0).2.2.1 ∈ wsX1_isTimely := by decide +kernel
theorem kX1_isTimely_inX8 : ∀ w ∈ u_ws RX8 TX8 13, w ∈ wsX1_isTimely := by decide +kernel
theorem cd_X1_isTimely : yX1_isTimely.cls = RX1 ∧ yX1_isTimely.cls ≠ "java/lang/invoke/MethodHandle" ∧ yX1_isTimely.cls ≠ "java/lang/invoke/VarHandle" ∧ (parseMethodDescriptor yX1_isTimely.desc).map (fun d => d.parameters.length) = some 1 := by decide +kernel
set_option maxRecDepth 100000 in
set_option maxHeartbeats 4000000 in
theorem c_X1_isTimely (E : zk_Env) (l : Launch) (a : aX1) (v : VX1) (x1 : Int32) : zk_Mc E l yX1_isTimely wsX1_isTimely ({ frames := 5, cells := 0, slots := 0, locals := 115 } : Room) [.ref a.1, .int x1] (gX1 E a v) (f_X1_isTimely x1 v) (fun r => some (.int r.1)) (fun r => (gX1 E a r.2)) := by
  obtain ⟨v_imagined, rfl⟩ : ∃ z, z = v := ⟨_, rfl⟩
  refine zk_M (cc := cX1_isTimely) (nL := 4) (ret := (some .boolean)) (by decide) rfl (Nat.le_of_ble_eq_true rfl) (fun X Q hQ => ?_)
  have J39 : ∀ (x2 : Int32) (v_imagined : VX8), zk_G E l X cX1_isTimely 4 (some .boolean) yX1_isTimely.cls wsX1_isTimely ({ frames := 5, cells := 0, slots := 0, locals := 115 } : Room) 0 0 Q (gX1 E a v_imagined) [(0, .ref a.1), (2, .int x2)] 39 [] (f_X1_isTimely_39 x2 v_imagined) := by
    intro x2 v_imagined
    unfold f_X1_isTimely_39
    refine zk_aload_n dX1_isTimely_39 0 rfl 40 rfl ?_
    refine zk_get dX1_isTimely_40 0 rfl rfl kX1_isTimely_inX1 0 (by decide) kX1_isTimely_1 rfl 43 rfl ?_
    refine zk_getN dX1_isTimely_43 1 rfl rfl kX1_isTimely_inX8 8 (by decide) (by decide +kernel) rfl 46 rfl ?_
    refine zk_iload_n dX1_isTimely_46 1 rfl 47 rfl ?_
    refine zk_icmp_ne dX1_isTimely_47 54 (by decide) 50 rfl (fun _ => ?_) (fun _ => ?_)
    · refine zk_iconst 1 dX1_isTimely_50 (by decide) 51 rfl ?_
      refine zk_goto dX1_isTimely_51 55 (by decide) ?_
      exact zk_zretL hQ dX1_isTimely_55 (Or.inr rfl) rfl rfl
    · refine zk_iconst 0 dX1_isTimely_54 (by decide) 55 rfl ?_
      exact zk_zretL hQ dX1_isTimely_55 (Or.inl rfl) rfl rfl
  have J10 : ∀ (x2 : Int32) (n : Nat) (x3 : Int32) (v_imagined : VX8), zk_G E l X cX1_isTimely 4 (some .boolean) yX1_isTimely.cls wsX1_isTimely ({ frames := 5, cells := 0, slots := 0, locals := 115 } : Room) 0 0 Q (gX1 E a v_imagined) [(0, .ref a.1), (1, .int x1), (2, .int x2), (3, .int x3)] 10 [] (zk_fx (F_X1_isTimely_10 x1 x2 ) n (x3, v_imagined)) := by
    intro x2 n x3 v_imagined
    refine zk_loop (S := Int32 × VX8) (F := F_X1_isTimely_10 x1 x2) (wS := fun s => (gX1 E a s.2)) (lS := fun s => [(0, .ref a.1), (1, .int x1), (2, .int x2), (3, .int s.1)]) (sS := fun _ => []) (fun k10 hk10 s => ?_) n (x3, v_imagined)
    obtain ⟨x3, v_imagined⟩ := s
    unfold F_X1_isTimely_10
    try dsimp only
    refine zk_iload_n dX1_isTimely_10 3 rfl 11 rfl ?_
    refine zk_iload_n dX1_isTimely_11 1 rfl 12 rfl ?_
    refine zk_icmp_ge dX1_isTimely_12 39 (by decide) 15 rfl (fun _ => ?_) (fun _ => ?_)
    · refine zk_lv [0, 2] rfl ?_
      exact J39   x2 v_imagined
    · refine zk_aload_n dX1_isTimely_15 0 rfl 16 rfl ?_
      refine zk_get dX1_isTimely_16 0 rfl rfl kX1_isTimely_inX1 0 (by decide) kX1_isTimely_1 rfl 19 rfl ?_
      refine zk_getN dX1_isTimely_19 1 rfl rfl kX1_isTimely_inX8 8 (by decide) (by decide +kernel) rfl 22 rfl ?_
      refine zk_iload_n dX1_isTimely_22 2 rfl 23 rfl ?_
      refine zk_icmp_ne dX1_isTimely_23 39 (by decide) 26 rfl (fun _ => ?_) (fun _ => ?_)
      · refine zk_aload_n dX1_isTimely_26 0 rfl 27 rfl ?_
        refine zk_get dX1_isTimely_27 0 rfl rfl kX1_isTimely_inX1 0 (by decide) kX1_isTimely_1 rfl 30 rfl ?_
        refine zk_callV (ci := 8) (st := []) (c_X8_passTick E l a.2 v_imagined) dX1_isTimely_30 0 gX1_isTimely_X8_passTick rfl rfl rfl cd_X8_passTick ⟨Nat.le_of_ble_eq_true rfl, Nat.le_of_ble_eq_true rfl⟩ ⟨Nat.zero_le _, Nat.zero_le _⟩ _ (fun r30 => (gX1 E a (r30.1, r30.2.1, r30.2.2.1, r30.2.2.2.1, v_imagined.2.2.2.2.1, v_imagined.2.2.2.2.2.1, v_imagined.2.2.2.2.2.2.1, r30.2.2.2.2.1, r30.2.2.2.2.2.1, r30.2.2.2.2.2.2.1, r30.2.2.2.2.2.2.2.1, r30.2.2.2.2.2.2.2.2.1, r30.2.2.2.2.2.2.2.2.2))) (zk_pc zk_pa (zk_p1 (gs := (lX1 E a v_imagined)) (i := 1) rfl)) (fun r30 => (zk_qc zk_qa (zk_q1 (gs := (lX1 E a v_imagined)) (i := 1) (w1 := gX1 E a (r30.1, r30.2.1, r30.2.2.1, r30.2.2.2.1, v_imagined.2.2.2.2.1, v_imagined.2.2.2.2.2.1, v_imagined.2.2.2.2.2.2.1, r30.2.2.2.2.1, r30.2.2.2.2.2.1, r30.2.2.2.2.2.2.1, r30.2.2.2.2.2.2.2.1, r30.2.2.2.2.2.2.2.2.1, r30.2.2.2.2.2.2.2.2.2)) rfl rfl))) rfl rfl rfl rfl (Nat.le_of_ble_eq_true rfl) (fun r30 => []) (fun _ => rfl) 33 rfl (fun r30 => ?_)
        refine zk_iinc (x3 + 1) [(3, .int (x3 + 1)), (0, .ref a.1), (1, .int x1), (2, .int x2)] dX1_isTimely_33 3 rfl rfl (by decide) rfl 36 rfl ?_
        refine zk_goto dX1_isTimely_36 10 (by decide) ?_
        refine zk_lv [1, 2, 3, 0] rfl ?_
        exact hk10 ((x3 + 1), (r30.1, r30.2.1, r30.2.2.1, r30.2.2.2.1, v_imagined.2.2.2.2.1, v_imagined.2.2.2.2.2.1, v_imagined.2.2.2.2.2.2.1, r30.2.2.2.2.1, r30.2.2.2.2.2.1, r30.2.2.2.2.2.2.1, r30.2.2.2.2.2.2.2.1, r30.2.2.2.2.2.2.2.2.1, r30.2.2.2.2.2.2.2.2.2))
      · refine zk_lv [0, 2] rfl ?_
        exact J39   x2 v_imagined
  refine zk_eqv (w1 := (gX1 E a v_imagined)) (lv1 := [(0, .ref a.1), (1, .int x1)]) (st1 := []) (o1 := f_X1_isTimely x1 v_imagined) rfl rfl rfl rfl ?_
  unfold f_X1_isTimely
  refine zk_aload_n dX1_isTimely_0 0 rfl 1 rfl ?_
  refine zk_get dX1_isTimely_1 0 rfl rfl kX1_isTimely_inX1 0 (by decide) kX1_isTimely_1 rfl 4 rfl ?_
  refine zk_getN dX1_isTimely_4 1 rfl rfl kX1_isTimely_inX8 8 (by decide) (by decide +kernel) rfl 7 rfl ?_
  refine zk_istore_n [(2, .int v_imagined.2.2.2.2.2.2.2.2.1), (0, .ref a.1), (1, .int x1)] dX1_isTimely_7 (by decide) rfl 8 rfl ?_
  refine zk_iconst 0 dX1_isTimely_8 (by decide) 9 rfl ?_
  refine zk_istore_n [(3, .int 0), (2, .int v_imagined.2.2.2.2.2.2.2.2.1), (0, .ref a.1), (1, .int x1)] dX1_isTimely_9 (by decide) rfl 10 rfl ?_
  refine zk_lv [2, 3, 1, 0] rfl ?_
  exact J10   v_imagined.2.2.2.2.2.2.2.2.1 zk_N 0 v_imagined
def F_X1_leastTimelyRoom_2 (x2 : Int32) (u_promises : VX5) (u_lines : VX3) (u_diary : VX0) (u_now : Int32) (u_room : Int32) (u_bound : Int32) (u_drift : Int32) (u_brokenStanding : Int32) (u_lateCalls : Int32) (u_falls : Int32) (u_swept : Int32) (u_passedOver : Int32) (u_longestQueue : Int32) (k2 : Int32 × VX8 → Option (Int32 × VX8)) : Int32 × VX8 → Option (Int32 × VX8) := fun s => match s with
  | (x3, v_imagined) => if 20 < x3 then some ((-9), v_imagined) else (f_X8_copyFrom v_imagined.1 v_imagined.2.1 v_imagined.2.2.1 u_promises u_lines u_diary u_now u_room u_bound u_drift u_brokenStanding u_lateCalls u_falls u_swept u_passedOver u_longestQueue).bind fun r13 => (f_X1_isTimely x2 (r13.1, r13.2.1, r13.2.2.1, r13.2.2.2.1, x3, r13.2.2.2.2.2)).bind fun r26 => if r26.1 = 0 then k2 ((x3 + 1), r26.2) else some (x3, r26.2)
def f_X1_leastTimelyRoom (x2 : Int32) (v_imagined : VX8) (u_promises : VX5) (u_lines : VX3) (u_diary : VX0) (u_now : Int32) (u_room : Int32) (u_bound : Int32) (u_drift : Int32) (u_brokenStanding : Int32) (u_lateCalls : Int32) (u_falls : Int32) (u_swept : Int32) (u_passedOver : Int32) (u_longestQueue : Int32) : Option (Int32 × VX8) := zk_fx (F_X1_leastTimelyRoom_2 x2 u_promises u_lines u_diary u_now u_room u_bound u_drift u_brokenStanding u_lateCalls u_falls u_swept u_passedOver u_longestQueue ) zk_N (1, v_imagined)
theorem kX1_leastTimelyRoom_inX1 : ∀ w ∈ u_ws RX1 TX1 1, w ∈ wsX1_leastTimelyRoom := by decide +kernel
theorem kX1_leastTimelyRoom_1 : Cond.fieldLink RX1 12 (TX1 0).1 (TX1 0).2.1 (TX1 0).2.2.1 ∈ wsX1_leastTimelyRoom := by decide +kernel
theorem kX1_leastTimelyRoom_inX8 : ∀ w ∈ u_ws RX8 TX8 13, w ∈ wsX1_leastTimelyRoom := by decide +kernel
theorem cd_X1_leastTimelyRoom : yX1_leastTimelyRoom.cls = RX1 ∧ yX1_leastTimelyRoom.cls ≠ "java/lang/invoke/MethodHandle" ∧ yX1_leastTimelyRoom.cls ≠ "java/lang/invoke/VarHandle" ∧ (parseMethodDescriptor yX1_leastTimelyRoom.desc).map (fun d => d.parameters.length) = some 2 := by decide +kernel
set_option maxRecDepth 100000 in
set_option maxHeartbeats 4000000 in
theorem c_X1_leastTimelyRoom (E : zk_Env) (l : Launch) (a : aX1) (v : VX1) (b1 : aX8) (u1 : VX8) (x2 : Int32) : zk_Mc E l yX1_leastTimelyRoom wsX1_leastTimelyRoom ({ frames := 6, cells := 0, slots := 0, locals := 138 } : Room) [.ref a.1, .ref b1.1, .int x2] (zk_j [gX1 E a v, gX8 E b1 u1]) (f_X1_leastTimelyRoom x2 v u1.1 u1.2.1 u1.2.2.1 u1.2.2.2.1 u1.2.2.2.2.1 u1.2.2.2.2.2.1 u1.2.2.2.2.2.2.1 u1.2.2.2.2.2.2.2.1 u1.2.2.2.2.2.2.2.2.1 u1.2.2.2.2.2.2.2.2.2.1 u1.2.2.2.2.2.2.2.2.2.2.1 u1.2.2.2.2.2.2.2.2.2.2.2.1 u1.2.2.2.2.2.2.2.2.2.2.2.2) (fun r => some (.int r.1)) (fun r => (zk_j [gX1 E a r.2, gX8 E b1 u1])) := by
  obtain ⟨v_imagined, rfl⟩ : ∃ z, z = v := ⟨_, rfl⟩
  obtain ⟨u_promises, u_lines, u_diary, u_now, u_room, u_bound, u_drift, u_brokenStanding, u_lateCalls, u_falls, u_swept, u_passedOver, u_longestQueue⟩ := u1
  refine zk_M (cc := cX1_leastTimelyRoom) (nL := 4) (ret := (some .int)) (by decide) rfl (Nat.le_of_ble_eq_true rfl) (fun X Q hQ => ?_)
  have J2 : ∀ (n : Nat) (x3 : Int32) (v_imagined : VX8), zk_G E l X cX1_leastTimelyRoom 4 (some .int) yX1_leastTimelyRoom.cls wsX1_leastTimelyRoom ({ frames := 6, cells := 0, slots := 0, locals := 138 } : Room) 0 0 Q (zk_j [gX1 E a v_imagined, gX8 E b1 (u_promises, u_lines, u_diary, u_now, u_room, u_bound, u_drift, u_brokenStanding, u_lateCalls, u_falls, u_swept, u_passedOver, u_longestQueue)]) [(0, .ref a.1), (1, .ref b1.1), (2, .int x2), (3, .int x3)] 2 [] (zk_fx (F_X1_leastTimelyRoom_2 x2 u_promises u_lines u_diary u_now u_room u_bound u_drift u_brokenStanding u_lateCalls u_falls u_swept u_passedOver u_longestQueue ) n (x3, v_imagined)) := by
    intro n x3 v_imagined
    refine zk_loop (S := Int32 × VX8) (F := F_X1_leastTimelyRoom_2 x2 u_promises u_lines u_diary u_now u_room u_bound u_drift u_brokenStanding u_lateCalls u_falls u_swept u_passedOver u_longestQueue) (wS := fun s => (zk_j [gX1 E a s.2, gX8 E b1 (u_promises, u_lines, u_diary, u_now, u_room, u_bound, u_drift, u_brokenStanding, u_lateCalls, u_falls, u_swept, u_passedOver, u_longestQueue)])) (lS := fun s => [(0, .ref a.1), (1, .ref b1.1), (2, .int x2), (3, .int s.1)]) (sS := fun _ => []) (fun k2 hk2 s => ?_) n (x3, v_imagined)
    obtain ⟨x3, v_imagined⟩ := s
    unfold F_X1_leastTimelyRoom_2
    try dsimp only
    refine zk_iload_n dX1_leastTimelyRoom_2 3 rfl 3 rfl ?_
    refine zk_bipush 20 dX1_leastTimelyRoom_3 (by decide) 5 rfl ?_
    refine zk_icmp_gt dX1_leastTimelyRoom_5 40 (by decide) 8 rfl (fun _ => ?_) (fun _ => ?_)
    · refine zk_bipush (-9) dX1_leastTimelyRoom_40 (by decide) 42 rfl ?_
      exact zk_iret hQ dX1_leastTimelyRoom_42 rfl rfl
    · refine zk_aload_n dX1_leastTimelyRoom_8 0 rfl 9 rfl ?_
      refine zk_get dX1_leastTimelyRoom_9 0 rfl rfl kX1_leastTimelyRoom_inX1 0 (by decide) kX1_leastTimelyRoom_1 rfl 12 rfl ?_
      refine zk_aload_n dX1_leastTimelyRoom_12 1 rfl 13 rfl ?_
      refine zk_callV (ci := 8) (st := []) (c_X8_copyFrom E l a.2 v_imagined b1 (u_promises, u_lines, u_diary, u_now, u_room, u_bound, u_drift, u_brokenStanding, u_lateCalls, u_falls, u_swept, u_passedOver, u_longestQueue)) dX1_leastTimelyRoom_13 1 gX1_leastTimelyRoom_X8_copyFrom rfl rfl rfl cd_X8_copyFrom ⟨Nat.le_of_ble_eq_true rfl, Nat.le_of_ble_eq_true rfl⟩ ⟨Nat.zero_le _, Nat.zero_le _⟩ _ (fun r13 => (zk_j [gX1 E a r13, gX8 E b1 (u_promises, u_lines, u_diary, u_now, u_room, u_bound, u_drift, u_brokenStanding, u_lateCalls, u_falls, u_swept, u_passedOver, u_longestQueue)])) (zk_pp zk_pa (zk_pb (gs := [gX1 E a v_imagined, gX8 E b1 (u_promises, u_lines, u_diary, u_now, u_room, u_bound, u_drift, u_brokenStanding, u_lateCalls, u_falls, u_swept, u_passedOver, u_longestQueue)]) (i := 0) (j := 1) rfl rfl (by decide)) (zk_pc zk_pa (zk_p1 (gs := (lX1 E a v_imagined)) (i := 1) rfl)) zk_pa) (fun r13 => (zk_qq zk_qa (zk_qb (gs := [gX1 E a v_imagined, gX8 E b1 (u_promises, u_lines, u_diary, u_now, u_room, u_bound, u_drift, u_brokenStanding, u_lateCalls, u_falls, u_swept, u_passedOver, u_longestQueue)]) (i := 0) (j := 1) (g' := gX1 E a r13) (h' := gX8 E b1 (u_promises, u_lines, u_diary, u_now, u_room, u_bound, u_drift, u_brokenStanding, u_lateCalls, u_falls, u_swept, u_passedOver, u_longestQueue)) rfl rfl (by decide) rfl) (zk_qc zk_qa (zk_q1 (gs := (lX1 E a v_imagined)) (i := 1) (w1 := gX1 E a r13) rfl rfl)) zk_qa)) rfl rfl rfl rfl (Nat.le_of_ble_eq_true rfl) (fun r13 => []) (fun _ => rfl) 16 rfl (fun r13 => ?_)
      refine zk_aload_n dX1_leastTimelyRoom_16 0 rfl 17 rfl ?_
      refine zk_get dX1_leastTimelyRoom_17 0 rfl rfl kX1_leastTimelyRoom_inX1 0 (by decide) kX1_leastTimelyRoom_1 rfl 20 rfl ?_
      refine zk_iload_n dX1_leastTimelyRoom_20 3 rfl 21 rfl ?_
      refine zk_putN tyX8 (zk_j [gX1 E a (r13.1, r13.2.1, r13.2.2.1, r13.2.2.2.1, x3, r13.2.2.2.2.2), gX8 E b1 (u_promises, u_lines, u_diary, u_now, u_room, u_bound, u_drift, u_brokenStanding, u_lateCalls, u_falls, u_swept, u_passedOver, u_longestQueue)]) dX1_leastTimelyRoom_21 1 rfl rfl kX1_leastTimelyRoom_inX8 tyX8_ok nmX8 4 (by decide) (by decide +kernel) rfl (tyX8_ok 4 (by decide)) rfl rfl (Nat.le_of_ble_eq_true rfl) rfl 24 rfl ?_
      refine zk_aload_n dX1_leastTimelyRoom_24 0 rfl 25 rfl ?_
      refine zk_iload_n dX1_leastTimelyRoom_25 2 rfl 26 rfl ?_
      refine zk_callV (ci := 1) (st := []) (c_X1_isTimely E l a (r13.1, r13.2.1, r13.2.2.1, r13.2.2.2.1, x3, r13.2.2.2.2.2) x2) dX1_leastTimelyRoom_26 1 gX1_leastTimelyRoom_X1_isTimely rfl rfl rfl cd_X1_isTimely ⟨Nat.le_of_ble_eq_true rfl, Nat.le_of_ble_eq_true rfl⟩ ⟨Nat.zero_le _, Nat.zero_le _⟩ _ (fun r26 => (zk_j [gX1 E a r26.2, gX8 E b1 (u_promises, u_lines, u_diary, u_now, u_room, u_bound, u_drift, u_brokenStanding, u_lateCalls, u_falls, u_swept, u_passedOver, u_longestQueue)])) (zk_p1 (gs := [gX1 E a (r13.1, r13.2.1, r13.2.2.1, r13.2.2.2.1, x3, r13.2.2.2.2.2), gX8 E b1 (u_promises, u_lines, u_diary, u_now, u_room, u_bound, u_drift, u_brokenStanding, u_lateCalls, u_falls, u_swept, u_passedOver, u_longestQueue)]) (i := 0) rfl) (fun r26 => (zk_q1 (gs := [gX1 E a (r13.1, r13.2.1, r13.2.2.1, r13.2.2.2.1, x3, r13.2.2.2.2.2), gX8 E b1 (u_promises, u_lines, u_diary, u_now, u_room, u_bound, u_drift, u_brokenStanding, u_lateCalls, u_falls, u_swept, u_passedOver, u_longestQueue)]) (i := 0) rfl rfl)) rfl rfl rfl rfl (Nat.le_of_ble_eq_true rfl) (fun r26 => [.int r26.1]) (fun _ => rfl) 29 rfl (fun r26 => ?_)
      refine zk_if_eq dX1_leastTimelyRoom_29 34 (by decide) 32 rfl (fun _ => ?_) (fun _ => ?_)
      · refine zk_iinc (x3 + 1) [(3, .int (x3 + 1)), (0, .ref a.1), (1, .ref b1.1), (2, .int x2)] dX1_leastTimelyRoom_34 3 rfl rfl (by decide) rfl 37 rfl ?_
        refine zk_goto dX1_leastTimelyRoom_37 2 (by decide) ?_
        refine zk_lv [1, 2, 3, 0] rfl ?_
        exact hk2 ((x3 + 1), r26.2)
      · refine zk_iload_n dX1_leastTimelyRoom_32 3 rfl 33 rfl ?_
        exact zk_iret hQ dX1_leastTimelyRoom_33 rfl rfl
  refine zk_eqv (w1 := (zk_j [gX1 E a v_imagined, gX8 E b1 (u_promises, u_lines, u_diary, u_now, u_room, u_bound, u_drift, u_brokenStanding, u_lateCalls, u_falls, u_swept, u_passedOver, u_longestQueue)])) (lv1 := [(0, .ref a.1), (1, .ref b1.1), (2, .int x2)]) (st1 := []) (o1 := f_X1_leastTimelyRoom x2 v_imagined u_promises u_lines u_diary u_now u_room u_bound u_drift u_brokenStanding u_lateCalls u_falls u_swept u_passedOver u_longestQueue) rfl rfl rfl rfl ?_
  unfold f_X1_leastTimelyRoom
  refine zk_iconst 1 dX1_leastTimelyRoom_0 (by decide) 1 rfl ?_
  refine zk_istore_n [(3, .int 1), (0, .ref a.1), (1, .ref b1.1), (2, .int x2)] dX1_leastTimelyRoom_1 (by decide) rfl 2 rfl ?_
  refine zk_lv [1, 2, 3, 0] rfl ?_
  exact J2    zk_N 1 v_imagined
